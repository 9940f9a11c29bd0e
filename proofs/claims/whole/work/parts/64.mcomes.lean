/-! road: the reference's statements come -/
section
variable {w w1 w2 : Wd} {σ τ : St} {b : Nat} {T : Nat → Nat} {n : Nat}
theorem isIn_t {v lo hi : Nat} (hv : v < 1000) (hl : lo < 1000) (hh : hi < 1000) : fX10_isIn (nI v) (nI lo) (nI hi) = if lo ≤ v ∧ v ≤ hi then 1 else 0 := by
  unfold fX10_isIn
  by_cases c : v < lo
  · rw [if_pos (by rw [n_lt (by omega) (by omega)]; exact c), if_neg (fun h => by omega)]
  · rw [if_neg (by rw [n_lt (by omega) (by omega)]; exact c)]
    by_cases d : hi < v
    · rw [if_pos (by rw [n_lt (by omega) (by omega)]; exact d), if_neg (fun h => by omega)]
    · rw [if_neg (by rw [n_lt (by omega) (by omega)]; exact d), if_pos ⟨by omega, by omega⟩]
theorem m_personS {p v x y : Nat} (hM : MoIs w τ) (hg : good τ) (hp : p + 2 < 144) (h0 : w.1 52 p = nI v) (h1 : w.1 52 (p + 1) = nI x) (h2 : w.1 52 (p + 2) = nI y) (hv : v < 10) (hy : y < 10) : ∃ r w1, fX10_comesOne w (nI p) = some (r, w1) ∧ ((r = 1 ∧ (v ≤ 6 ∧ y ≤ 1 ∧ ¬ (v = 6 ∧ y = 1) ∧ sP τ < 8) ∧ MoIs w1 (appS τ v x y)) ∨ (r = 0 ∧ ¬ (v ≤ 6 ∧ y ≤ 1 ∧ ¬ (v = 6 ∧ y = 1) ∧ sP τ < 8))) := by
  have h8 := hg.P
  unfold fX10_comesOne
  rw [gdn (by omega) (by decide), n_cl (by omega), h0]
  by_cases a1 : 6 < v
  · rw [if_pos (by rw [c6, n_lt (by decide) (by omega)]; exact a1)]
    exact ⟨0, w, rfl, Or.inr ⟨rfl, fun h => by omega⟩⟩
  · rw [if_neg (by rw [c6, n_lt (by decide) (by omega)]; exact a1), c2, n_add, gdn (by omega) (by decide), n_cl (by omega), h2]
    by_cases a2 : 1 < y
    · rw [if_pos (by rw [c1, n_lt (by decide) (by omega)]; exact a2)]
      exact ⟨0, w, rfl, Or.inr ⟨rfl, fun h => by omega⟩⟩
    · rw [if_neg (by rw [c1, n_lt (by decide) (by omega)]; exact a2)]
      have j46 : ¬ (v = 6 ∧ y = 1) → ∃ r w1, fX10_comesOne_j46 (nI p) w = some (r, w1) ∧ ((r = 1 ∧ (v ≤ 6 ∧ y ≤ 1 ∧ ¬ (v = 6 ∧ y = 1) ∧ sP τ < 8) ∧ MoIs w1 (appS τ v x y)) ∨ (r = 0 ∧ ¬ (v ≤ 6 ∧ y ≤ 1 ∧ ¬ (v = 6 ∧ y = 1) ∧ sP τ < 8))) := fun a3 => by
        unfold fX10_comesOne_j46
        rw [hM.P]
        by_cases a4 : sP τ = 8
        · rw [if_pos (by rw [a4]; rfl)]
          exact ⟨0, w, rfl, Or.inr ⟨rfl, fun h => by omega⟩⟩
        · have s1 := hM.wK (sP τ) v
          have s2 := s1.wG (sP τ) x
          have s3 := s2.wL (setLit (sL τ) (sP τ) y)
          have s4 := s3.wP (sP τ + 1)
          have e : wr (wr (wrG (wrK τ (sP τ) v) (sP τ) x) 1 (setLit (sL τ) (sP τ) y)) 0 (sP τ + 1) = appS τ v x y := by
            unfold wr wrG wrK appS
            refine Prod.ext (funext fun j => ?_) rfl
            dsimp only
          rw [e] at s4
          have hlit : nI (sL τ) ||| (nI y <<< (nI (sP τ) &&& 31)) = nI (setLit (sL τ) (sP τ) y) := by
            rw [shl_t y (by omega) _ (by omega), n_or]
            congr 1
            unfold setLit
            rcases (by omega : y = 0 ∨ y = 1) with rfl | rfl
            · rw [if_pos rfl, Nat.zero_shiftLeft, Nat.or_zero]
              refine bits_ext fun q => ?_
              rw [nd_bit, Nat.testBit_two_pow]
              by_cases d : sP τ = q
              · subst d
                cases hb : (sL τ).testBit (sP τ) with
                | false => rfl
                | true => exact absurd (bit_lt hg.L hb) (Nat.lt_irrefl _)
              · rw [decide_eq_false d]; simp
            · rw [if_neg (by decide), Nat.one_shiftLeft]
          refine ⟨1, _, ?_, Or.inl ⟨rfl, ⟨by omega, by omega, a3, by omega⟩, s4⟩⟩
          rw [if_neg (by rw [c8, n_eq (by omega) (by decide)]; exact a4), gdn (by omega) (by decide), gdn (by omega) (by decide), n_cl (by omega), n_cl (by omega), h0, lt_e, nI_1, gdn (by omega) (by decide)]
          rw [show (upI w 45 (sP τ) (nI v)).1 42 6 = nI (sP τ) from s1.P, gdn (by omega) (by decide), n_cl (by omega), upI_o _ _ _ _ (show (52 : Nat) ≠ 45 by decide), n_cl (by omega), h1, lt_e, c2, n_add, gdn (by omega) (by decide)]
          rw [show (upI (upI w 45 (sP τ) (nI v)) 46 (sP τ) (nI x)).1 42 7 = nI (sL τ) from s2.L, upI_o _ _ _ _ (show (52 : Nat) ≠ 46 by decide), upI_o _ _ _ _ (show (52 : Nat) ≠ 45 by decide), n_cl (by omega), h2]
          rw [show (upI (upI w 45 (sP τ) (nI v)) 46 (sP τ) (nI x)).1 42 6 = nI (sP τ) from s2.P, hlit, lt_e]
          rw [show (upI (upI (upI w 45 (sP τ) (nI v)) 46 (sP τ) (nI x)) 42 7 (nI (setLit (sL τ) (sP τ) y))).1 42 6 = nI (sP τ) from s3.P, nI_1, lt_e]
      by_cases b6 : v = 6
      · rw [if_pos (by rw [b6]; rfl)]
        by_cases b1 : y = 1
        · rw [if_pos (by rw [b1]; rfl)]
          exact ⟨0, w, rfl, Or.inr ⟨rfl, fun h => h.2.2.1 ⟨b6, b1⟩⟩⟩
        · rw [if_neg (by rw [c1, n_eq (by omega) (by decide)]; exact b1)]
          exact j46 (fun h => b1 h.2)
      · rw [if_neg (by rw [c6, n_eq (by omega) (by decide)]; exact b6)]
        exact j46 (fun h => b6 h.1)
theorem m_minuteS {v : Nat} (hM : MoIs w τ) (hg : good τ) (hm : sM τ ≤ 999) (hv : v < 10) : ∃ r w1, fX10_comesMinute w (nI v) = some (r, w1) ∧ ((r = 1 ∧ (v ≤ 1 ∧ sA τ < sD τ ∧ sM τ < 999) ∧ MoIs w1 (aw τ (sA τ + if v = 1 then 0 else 1) (mnt τ (sA τ) (sL τ)) (sM τ + 1))) ∨ (r = 0 ∧ ¬ (v ≤ 1 ∧ sA τ < sD τ ∧ sM τ < 999))) := by
  have hA := hg.A
  have hD := hg.D
  unfold fX10_comesMinute fX10_doorAt
  by_cases z1 : 1 < v
  · rw [if_pos (by rw [c1, n_lt (by decide) (by omega)]; exact z1)]
    exact ⟨0, w, rfl, Or.inr ⟨rfl, fun h => by omega⟩⟩
  · rw [if_neg (by rw [c1, n_lt (by decide) (by omega)]; exact z1), hM.A, hM.D]
    by_cases z2 : sA τ = sD τ
    · rw [if_pos (by rw [z2])]
      exact ⟨0, w, rfl, Or.inr ⟨rfl, fun h => by omega⟩⟩
    · rw [if_neg (by rw [n_eq (by omega) (by omega)]; exact z2), hM.M]
      by_cases z3 : sM τ = 999
      · rw [if_pos (by rw [z3]; rfl)]
        exact ⟨0, w, rfl, Or.inr ⟨rfl, fun h => by omega⟩⟩
      · rw [if_neg (by rw [c999, n_eq (by omega) (by decide)]; exact z3), lt_e]
        obtain ⟨w1, b1, b2, -⟩ := m_goes hM hg (by omega) (if nI v = 1 then 1 else 0)
        have ex : (if (if nI v = 1 then (1 : Int32) else 0) = 0 then 1 else 0 : Nat) = if v = 1 then 0 else 1 := by
          rcases (by omega : v = 0 ∨ v = 1) with h | h <;> rw [h] <;> rfl
        rw [ex] at b2
        rw [b1, bd_e]
        exact ⟨1, w1, rfl, Or.inl ⟨rfl, ⟨by omega, by omega, by omega⟩, b2⟩⟩
theorem m_comes {a k : Nat} (hM : MoIs w τ) (hg : good τ) (hm : sM τ ≤ 999) (hk : k < 48) (hR : RcT T a k w) (hA : AlT T n) (ha : a < n) (h0 : stT T a = 0) : ∃ r w1, fX10_comes w (nI k) = some (r, w1) ∧ ((r = 1 ∧ ∃ τ', stE τ (T a) (tv0 T a) (tv1 T a) (tv2 T a) = some τ' ∧ MoIs w1 τ') ∨ (r = 0 ∧ stE τ (T a) (tv0 T a) (tv1 T a) (tv2 T a) = none)) := by
  have h8 := hg.P
  have hAt := hg.A
  have hDt := hg.D
  obtain ⟨r0, r1, r2, r3, r4⟩ := hR
  obtain ⟨hd, hle, -, hdig⟩ := hA.st ha h0
  have hv0 : tv0 T a < 100 := by
    unfold tv0
    rcases dg_kind hd with ⟨hc, hk⟩ | ⟨hc, hk⟩ | ⟨hc, hk⟩ | ⟨hc, hk⟩ | ⟨hc, hk⟩ | ⟨hc, hk⟩
    all_goals have i0 := hdig 0 (by omega)
    all_goals unfold isD at i0
    all_goals rw [Nat.add_zero] at i0
    · have i1 := hdig 1 (by omega)
      unfold isD at i1
      rw [if_pos (Or.inr hc), show a + 2 = a + 1 + 1 from rfl]
      omega
    · rw [if_neg (by omega)]; omega
    · rw [if_neg (by omega)]; omega
    · rw [if_neg (by omega)]; omega
    · rw [if_neg (by omega)]; omega
    · have i1 := hdig 1 (by omega)
      unfold isD at i1
      rw [if_pos (Or.inl hc), show a + 2 = a + 1 + 1 from rfl]
      omega
  have hv1 : T a ≠ 100 → T a ≠ 119 → tv0 T a < 10 := fun h1 h2 => by
    have i0 := hdig 0 (by have := dgN_c (T a); omega)
    unfold isD at i0
    rw [Nat.add_zero] at i0
    unfold tv0
    rw [if_neg (by omega)]
    omega
  unfold fX10_comes
  rw [c3, n_mul, lt_e, gdn (by omega) (by decide), n_cl (by omega), r2, lt_e, nI_1, gdn (by omega) (by decide), n_cl (by omega), lt_e, gdn hk (by decide), n_cl (by omega), r0, lt_e]
  rcases dg_kind hd with ⟨hc, -⟩ | ⟨hc, -⟩ | ⟨hc, -⟩ | ⟨hc, -⟩ | ⟨hc, hk3⟩ | ⟨hc, hk4⟩
  · rw [hc, if_pos (show nI 100 = 100 from rfl), lt_e, show fX10_isIn (nI (tv0 T a)) 1 24 = _ from isIn_t (v := tv0 T a) (lo := 1) (hi := 24) (by omega) (by decide) (by decide), upI_o _ _ _ _ (show (42 : Nat) ≠ 44 by decide), hM.A]
    unfold stE
    rw [if_neg (show ¬ 100 = 112 by decide), if_neg (show ¬ 100 = 119 by decide), if_neg (show ¬ 100 = 102 by decide), if_pos (show 100 = 100 from rfl)]
    by_cases z : 1 ≤ tv0 T a ∧ tv0 T a ≤ 24
    · rw [if_pos z, if_neg (by decide)]
      by_cases y : sA τ ≤ tv0 T a
      · rw [if_neg (by rw [n_lt (by omega) (by omega)]; omega), if_pos ⟨z.1, z.2, y⟩]
        exact ⟨1, _, rfl, Or.inl ⟨rfl, _, rfl, hM.wD _⟩⟩
      · rw [if_pos (by rw [n_lt (by omega) (by omega)]; omega), if_neg (fun h => y h.2.2)]
        exact ⟨0, _, rfl, Or.inr ⟨rfl, rfl⟩⟩
    · rw [if_neg z, if_pos rfl, if_neg (fun h => z ⟨h.1, h.2.1⟩)]
      exact ⟨0, _, rfl, Or.inr ⟨rfl, rfl⟩⟩
  · have hx1 : tv1 T a < 10 := by
      have := hdig 1 (by rw [hc]; decide)
      unfold isD at this
      unfold tv1
      rw [if_neg (by omega), show a + 2 = a + 1 + 1 from rfl]
      omega
    have h10 := hv1 (by omega) (by omega)
    rw [hc, if_neg (show ¬ nI 102 = 100 by decide), if_pos (show nI 102 = 102 from rfl), r3 (by omega), lt_e, lt_e, show fX10_isIn (nI (tv1 T a)) 1 2 = _ from isIn_t (v := tv1 T a) (lo := 1) (hi := 2) (by omega) (by decide) (by decide)]
    unfold stE
    rw [if_neg (show ¬ 102 = 112 by decide), if_neg (show ¬ 102 = 119 by decide), if_pos (show 102 = 102 from rfl)]
    by_cases z : 3 ≤ tv0 T a
    · rw [if_pos (by rw [n_le (by decide) (by omega)]; exact z), if_neg (fun h => by omega)]
      exact ⟨0, _, rfl, Or.inr ⟨rfl, rfl⟩⟩
    · rw [if_neg (by rw [n_le (by decide) (by omega)]; exact z)]
      by_cases y : 1 ≤ tv1 T a ∧ tv1 T a ≤ 2
      · rw [if_pos y, if_neg (by decide), if_pos ⟨by omega, y.1, y.2⟩]
        exact ⟨1, _, rfl, Or.inl ⟨rfl, _, rfl, (hM.wF _).wE _⟩⟩
      · rw [if_neg y, if_pos rfl, if_neg (fun h => y h.2)]
        exact ⟨0, _, rfl, Or.inr ⟨rfl, rfl⟩⟩
  · have h10 := hv1 (by omega) (by omega)
    rw [hc, if_neg (show ¬ nI 108 = 100 by decide), if_neg (show ¬ nI 108 = 102 by decide), if_pos (show nI 108 = 108 from rfl)]
    unfold stE
    rw [if_neg (show ¬ 108 = 112 by decide), if_neg (show ¬ 108 = 119 by decide), if_neg (show ¬ 108 = 102 by decide), if_neg (show ¬ 108 = 100 by decide), if_pos (show 108 = 108 from rfl)]
    by_cases z : tv0 T a < sP τ
    · have hL8 := lt256 hg.L h8
      have hK7 := hg.K (tv0 T a)
      rw [isP hM hg z, if_neg (by decide), gdn (by omega) (by decide), n_cl (by omega), hM.K (by omega)]
      by_cases y : sK τ (tv0 T a) = 6
      · have hnb : ¬ (sL τ).testBit (tv0 T a) = true := fun h => hg.sm _ h y
        rw [if_pos (by rw [y]; rfl), hM.L, hasm (by omega) (by omega), if_neg hnb, if_pos rfl, if_neg (fun h => h.2 y)]
        exact ⟨0, _, rfl, Or.inr ⟨rfl, rfl⟩⟩
      · unfold fX10_comes_j225
        rw [if_neg (by rw [c6, n_eq (by omega) (by decide)]; exact y), hM.L, sh_p _ (by omega), n_xor, lt_e, if_pos ⟨z, y⟩]
        exact ⟨1, _, rfl, Or.inl ⟨rfl, _, rfl, hM.wL _⟩⟩
    · have hnp : fX10_isPerson w (nI (tv0 T a)) = 0 := by
        rcases m_isPerson hM.P hg (nI (tv0 T a)) with ⟨h, -⟩ | ⟨-, p, h1, h2⟩
        · exact h
        · rw [n_eq (by omega) (by omega)] at h2; omega
      rw [hnp, if_pos rfl, if_neg (fun h => z h.1)]
      exact ⟨0, _, rfl, Or.inr ⟨rfl, rfl⟩⟩
  · have h10 := hv1 (by omega) (by omega)
    obtain ⟨r, w1, b1, b2⟩ := m_minuteS (v := tv0 T a) hM hg hm h10
    rw [hc, if_neg (show ¬ nI 109 = 100 by decide), if_neg (show ¬ nI 109 = 102 by decide), if_neg (show ¬ nI 109 = 108 by decide), if_neg (show ¬ nI 109 = 112 by decide), if_neg (show ¬ nI 109 = 119 by decide), b1, bd_e, un2_e]
    unfold stE
    rw [if_neg (show ¬ 109 = 112 by decide), if_neg (show ¬ 109 = 119 by decide), if_neg (show ¬ 109 = 102 by decide), if_neg (show ¬ 109 = 100 by decide), if_neg (show ¬ 109 = 108 by decide)]
    rcases b2 with ⟨rfl, b3, b4⟩ | ⟨rfl, b3⟩
    · rw [gd_t (bz01 (Or.inl rfl)), if_pos b3]
      exact ⟨1, w1, rfl, Or.inl ⟨rfl, _, rfl, b4⟩⟩
    · rw [gd_t (bz01 (Or.inr rfl)), if_neg b3]
      exact ⟨0, w1, rfl, Or.inr ⟨rfl, rfl⟩⟩
  · have h10 := hv1 (by omega) (by omega)
    have hy : tv2 T a < 10 := by
      have := hdig 2 (by omega)
      unfold isD at this
      unfold tv2
      rw [if_neg (by omega), show a + 3 = a + 1 + 2 from rfl]
      omega
    obtain ⟨r, w1, b1, b2⟩ := m_personS (p := 3 * k) hM hg (by omega) r2 (r3 (by omega)) (r4 (by omega)) h10 hy
    rw [hc, if_neg (show ¬ nI 112 = 100 by decide), if_neg (show ¬ nI 112 = 102 by decide), if_neg (show ¬ nI 112 = 108 by decide), if_pos (show nI 112 = 112 from rfl), b1, bd_e, un2_e]
    unfold stE
    rw [if_pos (show 112 = 112 from rfl)]
    rcases b2 with ⟨rfl, b3, b4⟩ | ⟨rfl, b3⟩
    · rw [gd_t (bz01 (Or.inl rfl)), if_pos b3]
      exact ⟨1, w1, rfl, Or.inl ⟨rfl, _, rfl, b4⟩⟩
    · rw [gd_t (bz01 (Or.inr rfl)), if_neg b3]
      exact ⟨0, w1, rfl, Or.inr ⟨rfl, rfl⟩⟩
  · have hy : tv2 T a < 10 := by
      have := hdig 3 (by omega)
      unfold isD at this
      unfold tv2
      rw [if_pos hc, show a + 4 = a + 1 + 3 from rfl]
      omega
    rw [hc, if_neg (show ¬ nI 119 = 100 by decide), if_neg (show ¬ nI 119 = 102 by decide), if_neg (show ¬ nI 119 = 108 by decide), if_neg (show ¬ nI 119 = 112 by decide), if_pos (show nI 119 = 119 from rfl)]
    unfold stE
    rw [if_neg (show ¬ 119 = 112 by decide), if_pos (show 119 = 119 from rfl)]
    by_cases z : 24 < tv0 T a
    · rw [if_pos (by rw [c24, n_lt (by decide) (by omega)]; exact z), if_neg (fun h => by omega)]
      exact ⟨0, _, rfl, Or.inr ⟨rfl, rfl⟩⟩
    · rw [if_neg (by rw [c24, n_lt (by decide) (by omega)]; exact z), show (2 : Int32) = nI 2 from rfl, n_add, gdn (by omega) (by decide), n_cl (by omega), r4 (by omega)]
      by_cases y : tv2 T a ≤ 2
      · rw [if_pos (by rw [n_le (by omega) (by decide)]; exact y), gdn (by omega) (by decide), n_cl (by omega), r3 (by omega), lt_e, upI_o _ _ _ _ (show (52 : Nat) ≠ 47 by decide), r4 (by omega), lt_e, if_pos ⟨by omega, y⟩]
        exact ⟨1, _, rfl, Or.inl ⟨rfl, _, rfl, (hM.wW _ _).wS _ _⟩⟩
      · rw [if_neg (by rw [n_le (by omega) (by decide)]; exact y), if_neg (fun h => y h.2)]
        exact ⟨0, _, rfl, Or.inr ⟨rfl, rfl⟩⟩
end

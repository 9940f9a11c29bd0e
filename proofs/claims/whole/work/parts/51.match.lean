/-! match -/
def maL (σ : St) (m p : Nat) : Nat := run σ (sA σ) (sL σ) m ||| 2 ^ p
def maD (σ : St) (m p : Nat) : Nat := run σ (sA σ + m) (maL σ m p) (sD σ - sA σ - m)
def pMa (σ : St) (m p : Nat) : Nat := if sK σ p = 6 then 0 else pop (maD σ m p)
/-- the best of all matches in the last j minutes -/
def bMa (σ : St) : Nat → Nat × Nat
  | 0 => (9999, pop (dN σ) + 1)
  | j + 1 => bs (pMa σ (sD σ - sA σ - j - 1)) (fun p => 10 * (sD σ - sA σ - j - 1) + p) (bMa σ j) (sP σ)
theorem bs_pos (f c : Nat → Nat) (i0 : Nat × Nat) (h0 : i0.2 ≠ 0) : ∀ n, (bs f c i0 n).2 ≠ 0
  | 0 => h0
  | n + 1 => by
    unfold bs
    split
    · exact Nat.succ_ne_zero _
    · exact bs_pos f c i0 h0 n
section
variable {w w1 w2 : Wd} {σ τ : St} {b : Nat} {u : Nat → Nat}
theorem maL_gl (hg : good σ) {p : Nat} (hp : p < sP σ) (hk : sK σ p ≠ 6) (m : Nat) : GL σ (maL σ m p) := by
  obtain ⟨h1, h2⟩ := hg.gl.run hg (uns σ) (sA σ) m
  refine ⟨Nat.or_lt_two_pow h1 (Nat.pow_lt_pow_right (by decide) hp), fun q hq => ?_⟩
  have hq2 : (run σ (sA σ) (sL σ) m ||| 2 ^ p).testBit q = true := hq
  rw [Nat.testBit_or, Bool.or_eq_true, Nat.testBit_two_pow, decide_eq_true_eq] at hq2
  rcases hq2 with hq2 | hq2
  · exact h2 q hq2
  · subst hq2; exact hk
theorem maD_gl (hg : good σ) {p : Nat} (hp : p < sP σ) (hk : sK σ p ≠ 6) (m : Nat) : GL σ (maD σ m p) := (maL_gl hg hp hk m).run hg _ _ _
theorem pMa_le (hg : good σ) {p : Nat} (hp : p < sP σ) (m : Nat) : pMa σ m p ≤ 8 := by
  unfold pMa
  split
  · exact Nat.zero_le _
  · rename_i hk
    exact pop8 ((maD_gl hg hp hk m).p8 hg)
theorem bMa_2 (hg : good σ) : ∀ i, (bMa σ i).2 ≤ 9
  | 0 => by have := pop8 (dN_lt hg); show pop (dN σ) + 1 ≤ 9; omega
  | i + 1 => bs_2 _ _ _ 9 (bMa_2 hg i) _ (fun k hk => by have := pMa_le hg hk (sD σ - sA σ - i - 1); omega)
theorem bMa_0 : ∀ i, (bMa σ i).2 ≠ 0
  | 0 => Nat.succ_ne_zero _
  | i + 1 => bs_pos _ _ _ (bMa_0 i) _
theorem wr_aw (σ : St) (a L M v : Nat) : wr (aw σ a L M) 1 v = aw σ a v M := by
  unfold aw wr
  refine Prod.ext (funext fun k => ?_) rfl
  dsimp only
  by_cases h1 : k = 1
  · subst h1; rfl
  · simp only [if_neg h1]
theorem c_matchIn (hg : good σ) {j : Nat} (hj : j < sD σ - sA σ) {x y : Int32} {s : Wd} (h : SSt σ (bMa σ j) x y s) : ∃ r, iter (fun s : Int32 × Int32 × Int32 × Wd => fX6_bestMatch_b25 (nI (sD σ - sA σ - j - 1)) s.1 s.2.1 s.2.2.1 s.2.2.2) FU (x, y, 0, s) = some r ∧ SSt σ (bMa σ (j + 1)) r.1 r.2.1 r.2.2 := by
  have hD := hg.D
  have h8 := hg.P
  have hgr : grown σ < 256 := lt256 grown_lt h8
  generalize hmm : sD σ - sA σ - j - 1 = m
  have hm : sA σ + m < sD σ := by omega
  have e9 : bMa σ (j + 1) = bs (pMa σ m) (fun p => 10 * m + p) (bMa σ j) (sP σ) := by rw [← hmm]; rfl
  rw [e9]
  refine itn (fun p (s : Int32 × Int32 × Int32 × Wd) => s.2.2.1 = nI p ∧ SSt σ (bs (pMa σ m) (fun p => 10 * m + p) (bMa σ j) p) s.1 s.2.1 s.2.2.2) _ (sP σ) ⟨rfl, h⟩ ?_ ?_ (by omega)
  · rintro p ⟨x, y, z, s⟩ hp ⟨e1, e2, e3, e4, e5⟩
    dsimp only at e1 e2 e3 e4 e5
    subst e1; subst e2; subst e3
    have hp8 := pMa_le hg hp m
    have hb2 := bs_2 (pMa σ m) (fun p => 10 * m + p) (bMa σ j) 9 (bMa_2 hg j) p (fun k hk => by have := pMa_le hg (p := k) (by omega) m; omega)
    have hb0 := bs_pos (pMa σ m) (fun p => 10 * m + p) (bMa σ j) (bMa_0 j) p
    have e7 : bs (pMa σ m) (fun p => 10 * m + p) (bMa σ j) (p + 1) = if (bs (pMa σ m) (fun p => 10 * m + p) (bMa σ j) p).2 ≤ pMa σ m p then (10 * m + p, pMa σ m p + 1) else bs (pMa σ m) (fun p => 10 * m + p) (bMa σ j) p := rfl
    have hhas : fX9_hasBit (nI (grown σ)) (nI p) = if sK σ p = 6 then 0 else 1 := by
      rw [hasc (by omega) (by omega), grown_bit]
      by_cases c : sK σ p = 6
      · simp [c]
      · simp [c, hp]
    by_cases hk : sK σ p = 6
    · have hz : pMa σ m p = 0 := if_pos hk
      rw [e7, if_neg (by omega)]
      refine ⟨(bI (-9) (bs (pMa σ m) (fun p => 10 * m + p) (bMa σ j) p).2, fI (-9) (bs (pMa σ m) (fun p => 10 * m + p) (bMa σ j) p).1, nI (p + 1), s), ?_, rfl, rfl, rfl, e4, e5⟩
      show fX6_bestMatch_b25 _ _ _ _ _ = _
      unfold fX6_bestMatch_b25
      rw [e4.1, if_neg (by rw [n_le (by omega) (by omega)]; omega), e4.2.1, hhas, if_pos hk, if_pos rfl, nI_1, lt_e]
    · have gl := maL_gl hg hp hk m
      obtain ⟨s1, b1, b2⟩ := c_atDoor e4 hg (m := m) gl.1 (by omega)
      have hd : maD σ m p < 256 := (maD_gl hg hp hk m).p8 hg
      have hpop : fJ6_bitCount_0f7a4 (nI (maD σ m p)) = nI (pMa σ m p) := by
        rw [show pMa σ m p = pop (maD σ m p) from if_neg hk]
        exact pop_c _ hd
      have b1' : fX8_atDoorFrom s (nI m) (nI (run σ (sA σ) (sL σ) m ||| 2 ^ p)) = some (nI (maD σ m p), s1) := b1
      refine ⟨(bI (-9) (bs (pMa σ m) (fun p => 10 * m + p) (bMa σ j) (p + 1)).2, fI (-9) (bs (pMa σ m) (fun p => 10 * m + p) (bMa σ j) (p + 1)).1, nI (p + 1), s1), ?_, rfl, rfl, rfl, b2, fun k hk => by rw [((rX8_atDoorFrom b1).cell 26 (by decide)).1]; exact e5 k hk⟩
      show fX6_bestMatch_b25 _ _ _ _ _ = _
      unfold fX6_bestMatch_b25
      rw [e4.1, if_neg (by rw [n_le (by omega) (by omega)]; omega), e4.2.1, hhas, if_neg hk, if_neg (show ¬ (1 : Int32) = 0 by decide), gdn (by omega) (by decide), n_cl (by omega), e5 m (by omega), sh_p p (by omega), n_or, b1', bd_e, un2_e, hpop, lt_e, e7]
      by_cases c : (bs (pMa σ m) (fun p => 10 * m + p) (bMa σ j) p).2 ≤ pMa σ m p
      · rw [if_neg (by rw [bI_le (by decide) (by omega) (by omega)]; exact fun h => h c), if_pos c, c10m, lt_e, nI_1, lt_e, bI_s, fI_s _ (by dsimp only; omega)]
      · rw [if_pos (by rw [bI_le (by decide) (by omega) (by omega)]; exact c), if_neg c, nI_1, lt_e]
  · rintro ⟨x, y, z, s⟩ ⟨e1, e2⟩
    dsimp only at e1 e2
    subst e1
    refine ⟨(x, y, s), ?_, e2⟩
    show fX6_bestMatch_b25 _ _ _ _ _ = _
    unfold fX6_bestMatch_b25
    rw [e2.2.2.1.1, if_pos (by rw [n_le (by omega) (by omega)]; omega)]
theorem i_m1 (x : Int32) : x - 1 = x + (-1) := Int32.sub_eq_add_neg x 1
theorem c_bestMatch (hC : CoIs w 1 σ) (hg : good σ) : ∃ w1, fX6_bestMatch w = some (fI (-9) (bMa σ (sD σ - sA σ)).1, w1) := by
  have hD := hg.D
  obtain ⟨v, a1, a2, a3, a4⟩ := c_start hC hg
  unfold fX6_bestMatch
  rw [a1, bd_e, un2_e, Wk.T a2, i_m1, lt_e]
  have main : ∃ x, iter (fun s : Int32 × Int32 × Int32 × Wd => fX6_bestMatch_b18 s.1 s.2.1 s.2.2.1 s.2.2.2) FU (nI (pop (dN σ)), -9, nI (sD σ - sA σ) + (-1), v) = some x ∧ x.1 = fI (-9) (bMa σ (sD σ - sA σ)).1 := by
    refine itn (fun j s => s.2.2.1 = nI (sD σ - sA σ - j) + (-1) ∧ SSt σ (bMa σ j) s.1 s.2.1 s.2.2.2) _ (sD σ - sA σ) ⟨rfl, ?_, rfl, a2, a4⟩ ?_ ?_ (by omega)
    · show nI _ = bI (-9) (pop (dN σ) + 1)
      rw [bI_s]
    · rintro j ⟨x, y, z, s⟩ hj ⟨e1, e2⟩
      dsimp only at e1 e2
      subst e1
      obtain ⟨⟨x1, y1, s2⟩, b1, b2⟩ := c_matchIn hg hj e2
      dsimp only at b2
      refine ⟨(x1, y1, nI (sD σ - sA σ - (j + 1)) + (-1), s2), ?_, rfl, b2⟩
      show fX6_bestMatch_b18 _ _ _ _ = _
      unfold fX6_bestMatch_b18
      rw [n_m1 (by omega), if_neg (nI_pos (by omega)), b1, bd_e, un3_e, lt_e]
      rfl
    · rintro ⟨x, y, z, s⟩ ⟨e1, e2, e3, e4, e5⟩
      dsimp only at e1 e2 e3 e4 e5
      subst e1; subst e3
      refine ⟨(fI (-9) (bMa σ (sD σ - sA σ)).1, s), ?_, rfl⟩
      show fX6_bestMatch_b18 _ _ _ _ = _
      unfold fX6_bestMatch_b18
      rw [Nat.sub_self, if_pos (show nI 0 + (-1) < (0 : Int32) by decide)]
  obtain ⟨⟨x, s⟩, m1, m2⟩ := main
  dsimp only at m2
  rw [m1, bd_e, un2_e, m2]
  exact ⟨_, rfl⟩
-- the reference
def maR (σ : St) (m p n : Nat) : Nat := if n ≤ m then run σ (sA σ) (sL σ) n else run σ (sA σ + m) (maL σ m p) (n - m)
theorem maR_s {m p n : Nat} (h : n ≠ m) : maR σ m p (n + 1) = mnt σ (sA σ + n) (maR σ m p n) := by
  unfold maR
  by_cases c : n < m
  · rw [if_pos (by omega), if_pos (by omega)]; rfl
  · rw [if_neg (by omega), if_neg (by omega), show n + 1 - m = (n - m) + 1 by omega]
    show mnt σ (sA σ + m + (n - m)) _ = _
    rw [show sA σ + m + (n - m) = sA σ + n by omega]
theorem maR_m {m p : Nat} : maR σ m p (m + 1) = mnt σ (sA σ + m) (maL σ m p) := by
  unfold maR
  rw [if_neg (by omega), show m + 1 - m = 0 + 1 by omega]
  rfl
theorem maR_gl (hg : good σ) {p : Nat} (hp : p < sP σ) (hk : sK σ p ≠ 6) (m n : Nat) : GL σ (maR σ m p n) := by
  unfold maR
  split
  · exact hg.gl.run hg _ _ _
  · exact (maL_gl hg hp hk m).run hg _ _ _
theorem m_byMatch (hM : MoIs w σ) (hg : good σ) (hm : sM σ ≤ 1200) {m p : Nat} (hm2 : sA σ + m < sD σ) (hp : p < sP σ) (hk : sK σ p ≠ 6) : ∃ w1, fX10_doorByMatch w (nI m) (nI p) = some (nI (pMa σ m p), w1) ∧ MoIs w1 σ ∧ Mq w w1 := by
  have hD := hg.D
  have h8 := hg.P
  obtain ⟨v, a1, a2⟩ := ga_save2 hM
  unfold fX10_doorByMatch
  rw [a1, bd_e]
  have main : ∃ x, iter (fun s1 : Int32 × Wd => fX10_doorByMatch_b8 (nI m) (nI p) s1.1 s1.2) FU (0, v) = some x ∧ Ga w 2 σ (aw σ (sA σ + (sD σ - sA σ)) (maR σ m p (sD σ - sA σ)) (sM σ + (sD σ - sA σ))) x := by
    refine itn (fun n u => u.1 = nI n ∧ Ga w 2 σ (aw σ (sA σ + n) (maR σ m p n) (sM σ + n)) u.2) _ (sD σ - sA σ) ⟨rfl, ?_⟩ ?_ ?_ (by omega)
    · have e0 : aw σ (sA σ + 0) (maR σ m p 0) (sM σ + 0) = σ := by
        unfold maR
        rw [if_pos (Nat.zero_le _)]
        exact aw_self σ
      exact a2.cg e0.symm
    · rintro n ⟨x, u⟩ hn ⟨e1, h⟩
      dsimp only at e1 h
      subst e1
      by_cases c : n = m
      · subst c
        have e0 : wr (aw σ (sA σ + n) (maR σ n p n) (sM σ + n)) 1 (maL σ n p) = aw σ (sA σ + n) (maL σ n p) (sM σ + n) := wr_aw _ _ _ _ _
        have h1 := (h.lit (v := maL σ n p)).cg e0
        obtain ⟨y1, b1, b2⟩ := h1.go ((maL_gl hg hp hk n).g hg (by omega) (by omega)) (by omega) 0
        rw [← maR_m, if_pos rfl] at b2
        refine ⟨(nI (n + 1), y1), ?_, rfl, b2⟩
        show fX10_doorByMatch_b8 _ _ _ _ = _
        unfold fX10_doorByMatch_b8 fX10_doorByMatch_j36 fX10_doorAt
        have e7 : u.1 42 7 = nI (run σ (sA σ) (sL σ) n) := by
          rw [show u.1 42 7 = nI (maR σ n p n) from h.1.L]
          unfold maR
          rw [if_pos (Nat.le_refl _)]
        rw [show u.1 44 2 = nI (sD σ) from h.1.D, show u.1 42 8 = nI (sA σ + n) from h.1.A, if_neg (by rw [n_le (by omega) (by omega)]; omega), if_pos rfl, e7, sh_p p (by omega), n_or, lt_e]
        rw [show upI u 42 7 (nI (run σ (sA σ) (sL σ) n ||| 2 ^ p)) = upI u 42 7 (nI (maL σ n p)) from rfl, b1, bd_e, nI_1, lt_e]
      · obtain ⟨y1, b1, b2⟩ := h.go ((maR_gl hg hp hk m n).g hg (by omega) (by omega)) (by omega) 0
        rw [← maR_s c, if_pos rfl] at b2
        refine ⟨(nI (n + 1), y1), ?_, rfl, b2⟩
        show fX10_doorByMatch_b8 _ _ _ _ = _
        unfold fX10_doorByMatch_b8 fX10_doorByMatch_j36 fX10_doorAt
        rw [show u.1 44 2 = nI (sD σ) from h.1.D, show u.1 42 8 = nI (sA σ + n) from h.1.A, if_neg (by rw [n_le (by omega) (by omega)]; omega), if_neg (by rw [n_eq (by omega) (by omega)]; exact c), b1, bd_e, nI_1, lt_e]
    · rintro ⟨x, u⟩ ⟨e1, h⟩
      dsimp only at e1 h
      refine ⟨u, ?_, h⟩
      show fX10_doorByMatch_b8 _ _ _ _ = _
      unfold fX10_doorByMatch_b8 fX10_doorAt
      rw [show u.1 44 2 = nI (sD σ) from h.1.D, show u.1 42 8 = nI (sA σ + (sD σ - sA σ)) from h.1.A, if_pos (by rw [n_le (by omega) (by omega)]; omega)]
  obtain ⟨x, m1, m2⟩ := main
  have hR : maR σ m p (sD σ - sA σ) = maD σ m p := by
    unfold maR
    rw [if_neg (by omega)]
    rfl
  have hd : maD σ m p < 256 := (maD_gl hg hp hk m).p8 hg
  obtain ⟨v2, f1, f2, f3, -⟩ := m2.rest2
  refine ⟨v2, ?_, f2, f3⟩
  rw [m1, bd_e, show x.1 42 7 = nI (maR σ m p (sD σ - sA σ)) from m2.1.L, hR, pop_m _ hd, bd_e, f1, bd_e, show pMa σ m p = pop (maD σ m p) from if_neg hk]
theorem m_matchIn (hg : good σ) (hm : sM σ ≤ 1200) {v : Wd} {j : Nat} (hj : j < sD σ - sA σ) {x y : Int32} {s : Wd} (h : XM v σ (bMa σ j) x y s) : ∃ r, iter (fun s : Int32 × Int32 × Int32 × Wd => fX10_match_b30 (nI (sD σ - sA σ - j - 1)) s.1 s.2.1 s.2.2.1 s.2.2.2) FU (x, y, 0, s) = some r ∧ XM v σ (bMa σ (j + 1)) r.1 r.2.1 r.2.2 := by
  have hD := hg.D
  have h8 := hg.P
  generalize hmm : sD σ - sA σ - j - 1 = m
  have hm2 : sA σ + m < sD σ := by omega
  have e9 : bMa σ (j + 1) = bs (pMa σ m) (fun p => 10 * m + p) (bMa σ j) (sP σ) := by rw [← hmm]; rfl
  rw [e9]
  refine itn (fun p (s : Int32 × Int32 × Int32 × Wd) => s.2.2.1 = nI p ∧ XM v σ (bs (pMa σ m) (fun p => 10 * m + p) (bMa σ j) p) s.1 s.2.1 s.2.2.2) _ (sP σ) ⟨rfl, h⟩ ?_ ?_ (by omega)
  · rintro p ⟨x, y, z, s⟩ hp ⟨e1, e2, e3, e4, e5⟩
    dsimp only at e1 e2 e3 e4 e5
    subst e1; subst e2; subst e3
    have hp8 := pMa_le hg hp m
    have hk7 := hg.K p
    have hb2 := bs_2 (pMa σ m) (fun p => 10 * m + p) (bMa σ j) 9 (bMa_2 hg j) p (fun k hk => by have := pMa_le hg (p := k) (by omega) m; omega)
    have hb0 := bs_pos (pMa σ m) (fun p => 10 * m + p) (bMa σ j) (bMa_0 j) p
    have e7 : bs (pMa σ m) (fun p => 10 * m + p) (bMa σ j) (p + 1) = if (bs (pMa σ m) (fun p => 10 * m + p) (bMa σ j) p).2 ≤ pMa σ m p then (10 * m + p, pMa σ m p + 1) else bs (pMa σ m) (fun p => 10 * m + p) (bMa σ j) p := rfl
    by_cases hk : sK σ p = 6
    · have hz : pMa σ m p = 0 := if_pos hk
      rw [e7, if_neg (by omega)]
      refine ⟨(bI (-9) (bs (pMa σ m) (fun p => 10 * m + p) (bMa σ j) p).2, fI (-9) (bs (pMa σ m) (fun p => 10 * m + p) (bMa σ j) p).1, nI (p + 1), s), ?_, rfl, rfl, rfl, e4, e5⟩
      show fX10_match_b30 _ _ _ _ _ = _
      unfold fX10_match_b30
      rw [e4.P, if_neg (by rw [n_le (by omega) (by omega)]; omega), gdn (by omega) (by decide), n_cl (by omega), e4.K (by omega), hk, if_pos (show nI 6 = (6 : Int32) from rfl), nI_1, lt_e]
    · obtain ⟨s1, b1, b2, b3⟩ := m_byMatch e4 hg hm hm2 hp hk
      by_cases c : (bs (pMa σ m) (fun p => 10 * m + p) (bMa σ j) p).2 ≤ pMa σ m p
      · obtain ⟨s2, d1, d2, d3⟩ := m_byMatch b2 hg hm hm2 hp hk
        refine ⟨(nI (pMa σ m p), nI (10 * m + p), nI (p + 1), s2), ?_, rfl, ?_, ?_, d2, (e5.tr b3).tr d3⟩
        · show fX10_match_b30 _ _ _ _ _ = _
          unfold fX10_match_b30
          rw [e4.P, if_neg (by rw [n_le (by omega) (by omega)]; omega), gdn (by omega) (by decide), n_cl (by omega), e4.K (by omega), if_neg (by rw [c6, n_eq (by omega) (by decide)]; exact hk), b1, bd_e, un2_e, if_pos (by rw [bI_lt (by decide) (by omega) (by omega)]; exact c), d1, bd_e, un2_e, c10m, lt_e, nI_1, lt_e]
        · rw [e7, if_pos c, bI_s]
        · rw [e7, if_pos c, fI_s _ (by dsimp only; omega)]
      · rw [e7, if_neg c]
        refine ⟨(bI (-9) (bs (pMa σ m) (fun p => 10 * m + p) (bMa σ j) p).2, fI (-9) (bs (pMa σ m) (fun p => 10 * m + p) (bMa σ j) p).1, nI (p + 1), s1), ?_, rfl, rfl, rfl, b2, e5.tr b3⟩
        show fX10_match_b30 _ _ _ _ _ = _
        unfold fX10_match_b30
        rw [e4.P, if_neg (by rw [n_le (by omega) (by omega)]; omega), gdn (by omega) (by decide), n_cl (by omega), e4.K (by omega), if_neg (by rw [c6, n_eq (by omega) (by decide)]; exact hk), b1, bd_e, un2_e, if_neg (by rw [bI_lt (by decide) (by omega) (by omega)]; exact c), nI_1, lt_e]
  · rintro ⟨x, y, z, s⟩ ⟨e1, e2⟩
    dsimp only at e1 e2
    subst e1
    refine ⟨(x, y, s), ?_, e2⟩
    show fX10_match_b30 _ _ _ _ _ = _
    unfold fX10_match_b30
    rw [e2.2.2.1.P, if_pos (by rw [n_le (by omega) (by omega)]; omega)]
theorem q_match (h : R w σ) : Ans (fX9_match w) (fun v => fX10_match v) := by
  have hd := dN_lt h.g
  have hD := h.g.D
  have hA := h.g.A
  refine Ans.q (r := fI (-9) (bMa σ (sD σ - sA σ)).1) h ?_ fun v hv => ?_
  · obtain ⟨v, e⟩ := c_bestMatch h.c h.g
    refine ⟨v, ?_, Cq.of (rX6_bestMatch e) (by decide)⟩
    unfold fX9_match
    rw [e, bd_e, un2_e]
  · obtain ⟨v1, a1, a2, -, a4⟩ := m_door hv.o hv.g hv.m2
    have main : ∃ x, iter (fun s : Int32 × Int32 × Int32 × Wd => fX10_match_b23 s.1 s.2.1 s.2.2.1 s.2.2.2) FU (nI (pop (dN σ)), -9, nI (sD σ - sA σ) + (-1), v1) = some x ∧ x.1 = fI (-9) (bMa σ (sD σ - sA σ)).1 ∧ MoIs x.2 σ ∧ Mq v x.2 := by
      refine itn (fun j s => s.2.2.1 = nI (sD σ - sA σ - j) + (-1) ∧ XM v σ (bMa σ j) s.1 s.2.1 s.2.2.2) _ (sD σ - sA σ) ⟨rfl, ?_, rfl, a2, a4⟩ ?_ ?_ (by omega)
      · show nI _ = bI (-9) (pop (dN σ) + 1)
        rw [bI_s]
      · rintro j ⟨x, y, z, s⟩ hj ⟨e1, e2⟩
        dsimp only at e1 e2
        subst e1
        obtain ⟨⟨x1, y1, s2⟩, b1, b2⟩ := m_matchIn h.g h.m2 hj e2
        dsimp only at b2
        refine ⟨(x1, y1, nI (sD σ - sA σ - (j + 1)) + (-1), s2), ?_, rfl, b2⟩
        show fX10_match_b23 _ _ _ _ = _
        unfold fX10_match_b23
        rw [n_m1 (by omega), if_neg (nI_pos (by omega)), b1, bd_e, un3_e, lt_e]
        rfl
      · rintro ⟨x, y, z, s⟩ ⟨e1, e2, e3, e4, e5⟩
        dsimp only at e1 e2 e3 e4 e5
        subst e1; subst e3
        refine ⟨(fI (-9) (bMa σ (sD σ - sA σ)).1, s), ?_, rfl, e4, e5⟩
        show fX10_match_b23 _ _ _ _ = _
        unfold fX10_match_b23
        rw [Nat.sub_self, if_pos (show nI 0 + (-1) < (0 : Int32) by decide)]
    obtain ⟨⟨x, s⟩, m1, m2, m3, m4⟩ := main
    dsimp only at m2 m3 m4
    refine ⟨s, ?_, m3, m4⟩
    show fX10_match v = _
    unfold fX10_match fX10_doorAt
    rw [a1, bd_e, un2_e, pop_m _ hd, bd_e, a2.D, a2.A, n_sub hA, i_m1, lt_e, m1, bd_e, un2_e, m2]
end

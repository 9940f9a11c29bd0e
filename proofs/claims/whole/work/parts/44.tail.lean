/-! tail, farthest -/
/-- without the first k people -/
def tl (σ : St) (k : Nat) : St := (fun j => if j = 0 then sP σ - k else if j = 1 then sL σ &&& (2 ^ (sP σ - k) - 1) else σ.1 j, σ.2)
def pTl (σ : St) (k : Nat) : Nat := pop (dN (tl σ k))
def taN (σ : St) : Nat → Nat × Nat × Nat
  | 0 => (0, pTl σ 0, sP σ)
  | n + 1 => if (taN σ n).2.1 * (sP σ - (n + 1)) < pTl σ (n + 1) * (taN σ n).2.2 then (n + 1, pTl σ (n + 1), sP σ - (n + 1)) else taN σ n
section
variable {w w1 w2 : Wd} {σ τ : St} {b : Nat}
theorem good_tl (hg : good σ) (k : Nat) : good (tl σ k) := by
  obtain ⟨a1, a2, a3, a4, a5, a6, a7, a8, a9, a10, a11, a12⟩ := hg
  refine ⟨?_, ?_, fun q hq => ?_, a4, a5, a6, a7, a8, a9, a10, a11, a12⟩
  · show sP σ - k ≤ 8; omega
  · show sL σ &&& (2 ^ (sP σ - k) - 1) < 2 ^ (sP σ - k)
    have : 1 ≤ 2 ^ (sP σ - k) := Nat.one_le_two_pow
    exact Nat.and_lt_two_pow _ (by omega)
  · have hq2 : (sL σ &&& (2 ^ (sP σ - k) - 1)).testBit q = true := hq
    rw [Nat.testBit_and, Bool.and_eq_true] at hq2
    exact a3 q hq2.1
theorem tl_0 (hg : good σ) : tl σ 0 = σ := by
  unfold tl
  refine Prod.ext (funext fun j => ?_) rfl
  dsimp only
  by_cases h0 : j = 0
  · subst h0; rfl
  · by_cases h1 : j = 1
    · subst h1
      rw [if_neg (by decide), if_pos rfl]
      refine bits_ext fun q => ?_
      rw [Nat.testBit_and, Nat.sub_zero, all_bit]
      cases hb : (sL σ).testBit q with
      | true => simp [bit_lt hg.L hb]
      | false => simp
    · rw [if_neg h0, if_neg h1]
theorem pTl_le (hg : good σ) (k : Nat) : pTl σ k ≤ 8 := pop8 (dN_lt (good_tl hg k))
theorem taN_le (hg : good σ) : ∀ n, (taN σ n).1 ≤ n ∧ (taN σ n).2.1 ≤ 8 ∧ (taN σ n).2.2 ≤ 8
  | 0 => ⟨Nat.le_refl _, pTl_le hg 0, hg.P⟩
  | n + 1 => by
    have := taN_le hg n
    have h8 := hg.P
    unfold taN
    split
    · exact ⟨Nat.le_refl _, pTl_le hg _, by dsimp only; omega⟩
    · omega
theorem mulN (a b : Nat) : nI a * nI b = nI (a * b) := n_mul a b
theorem c_leftBehind (hC : CoIs w 1 σ) (hg : good σ) (hP : sP σ ≠ 0) : ∃ w1, fX1_leftBehind w = some (nI (taN σ (sP σ - 1)).1, w1) := by
  have h8 := hg.P
  unfold fX1_leftBehind
  -- one person fewer
  have body : ∀ (n : Nat) (u : Wd), n < sP σ → Cq w u → ∃ u1, (fun u1 => Cq w u1 ∧ u1.1 3 0 = nI (sP σ - n) ∧ fX1_countOf 3 (upI (upI (fX2_takeFrom 3 1 u) 3 0 ((fX2_takeFrom 3 1 u).1 1 0 - nI n)) 3 1 ((upI (fX2_takeFrom 3 1 u) 3 0 ((fX2_takeFrom 3 1 u).1 1 0 - nI n)).1 3 1 &&& fX2_everybody 3 (upI (fX2_takeFrom 3 1 u) 3 0 ((fX2_takeFrom 3 1 u).1 1 0 - nI n)))) = some (nI (pTl σ n), u1)) u1 := fun n u hn hq => by
    have hCu := hq.co1 hC
    have h3 : CoIs (fX2_takeFrom 3 1 u) 3 σ := c_take co3 co1 (by decide) hCu
    have h10 : (fX2_takeFrom 3 1 u).1 1 0 = nI (sP σ) := hCu.P
    have s1 := h3.wr co3 0 (sP σ - n)
    have hL : (upI (fX2_takeFrom 3 1 u) 3 0 (nI (sP σ - n))).1 3 1 = nI (sL σ) := h3.L
    have hE : fX2_everybody 3 (upI (fX2_takeFrom 3 1 u) 3 0 (nI (sP σ - n))) = nI (2 ^ (sP σ - n) - 1) := by
      unfold fX2_everybody
      rw [upI_s, ev_t _ (by omega)]
    rw [h10, n_sub (by omega), hL, hE, n_and]
    have s2 := s1.wr co3 1 (sL σ &&& (2 ^ (sP σ - n) - 1))
    have e : wr (wr σ 0 (sP σ - n)) 1 (sL σ &&& (2 ^ (sP σ - n) - 1)) = tl σ n := by
      unfold wr tl
      refine Prod.ext (funext fun j => ?_) rfl
      dsimp only
      by_cases h0 : j = 0
      · subst h0; rfl
      · by_cases h1 : j = 1
        · subst h1; rfl
        · simp only [if_neg h0, if_neg h1]
    rw [e] at s2
    obtain ⟨u1, d1, d2⟩ := c_countOf co3 s2 (good_tl hg n)
    have q1 : Cq u (upI (upI (fX2_takeFrom 3 1 u) 3 0 (nI (sP σ - n))) 3 1 (nI (sL σ &&& (2 ^ (sP σ - n) - 1)))) := fun i k hi => by
      have h3' : i ≠ 3 := fun d => by subst d; cases hi
      rw [upI_o _ _ _ _ h3', upI_o _ _ _ _ h3']
      exact (Cq.of (l := pX2_takeFrom 3) (rX2_takeFrom rfl) (by decide)) i k hi
    exact ⟨u1, (hq.tr q1).tr d2.cq, (d2.co co3 s2).P, d1⟩
  have main : ∃ x, iter (fun s : Int32 × Int32 × Int32 × Int32 × Wd => fX1_leftBehind_b9 s.1 s.2.1 s.2.2.1 s.2.2.2.1 s.2.2.2.2) FU (0, 0, 1, 0, w) = some x ∧ x.1 = nI (taN σ (sP σ - 1)).1 := by
    refine itn (fun n s => s.2.2.2.1 = nI n ∧ Cq w s.2.2.2.2 ∧ (n ≠ 0 → s.1 = nI (taN σ (n - 1)).1 ∧ s.2.1 = nI (taN σ (n - 1)).2.1 ∧ s.2.2.1 = nI (taN σ (n - 1)).2.2)) _ (sP σ) ⟨rfl, Ag.rf, fun h => absurd rfl h⟩ ?_ ?_ (by omega)
    · rintro n ⟨x, y, z, t, u⟩ hn ⟨e1, e2, e3⟩
      dsimp only at e1 e2 e3
      subst e1
      obtain ⟨u1, b1, b2, b3⟩ := body n u hn e2
      have hp8 := pTl_le hg n
      have hbnd : ¬ u.1 1 0 ≤ nI n := by rw [(e2.co1 hC).P, n_le (by omega) (by omega)]; omega
      by_cases hz : n = 0
      · subst hz
        refine ⟨(nI 0, nI (pTl σ 0), nI (sP σ - 0), nI 1, u1), ?_, rfl, b1, fun _ => ⟨rfl, rfl, rfl⟩⟩
        show fX1_leftBehind_b9 _ _ _ _ _ = _
        unfold fX1_leftBehind_b9 fX1_leftBehind_j99
        rw [if_neg hbnd, lt_e, lt_e, lt_e, b3, bd_e, un2_e, if_pos (show nI 0 = 0 from rfl), b2, lt_e, nI_1, lt_e]
      · obtain ⟨k, rfl⟩ : ∃ k, n = k + 1 := ⟨n - 1, by omega⟩
        obtain ⟨f1, f2, f3⟩ := e3 hz
        rw [show k + 1 - 1 = k by omega] at f1 f2 f3
        subst f1; subst f2; subst f3
        obtain ⟨g1, g2, g3⟩ := taN_le hg k
        have hz2 : ¬ nI (k + 1) = 0 := by rw [c0, n_eq (by omega) (by decide)]; omega
        have m1 : pTl σ (k + 1) * (taN σ k).2.2 ≤ 64 := Nat.mul_le_mul hp8 g3
        have m2 : (taN σ k).2.1 * (sP σ - (k + 1)) ≤ 64 := Nat.mul_le_mul g2 (show sP σ - (k + 1) ≤ 8 by omega)
        by_cases c : (taN σ k).2.1 * (sP σ - (k + 1)) < pTl σ (k + 1) * (taN σ k).2.2
        · have e7 : taN σ (k + 1) = (k + 1, pTl σ (k + 1), sP σ - (k + 1)) := by rw [taN, if_pos c]
          refine ⟨(nI (k + 1), nI (pTl σ (k + 1)), nI (sP σ - (k + 1)), nI (k + 2), u1), ?_, rfl, b1, fun _ => ?_⟩
          · show fX1_leftBehind_b9 _ _ _ _ _ = _
            unfold fX1_leftBehind_b9 fX1_leftBehind_j99
            rw [if_neg hbnd, lt_e, lt_e, lt_e, b3, bd_e, un2_e, if_neg hz2, b2, mulN, mulN, if_neg (by rw [n_le (by omega) (by omega)]; omega), lt_e, nI_1, lt_e]
          · dsimp only
            rw [show k + 1 + 1 - 1 = k + 1 by omega, e7]
            exact ⟨rfl, rfl, rfl⟩
        · have e7 : taN σ (k + 1) = taN σ k := by rw [taN, if_neg c]
          refine ⟨(nI (taN σ k).1, nI (taN σ k).2.1, nI (taN σ k).2.2, nI (k + 2), u1), ?_, rfl, b1, fun _ => ?_⟩
          · show fX1_leftBehind_b9 _ _ _ _ _ = _
            unfold fX1_leftBehind_b9 fX1_leftBehind_j99
            rw [if_neg hbnd, lt_e, lt_e, lt_e, b3, bd_e, un2_e, if_neg hz2, b2, mulN, mulN, if_pos (by rw [n_le (by omega) (by omega)]; omega), nI_1, lt_e]
          · dsimp only
            rw [show k + 1 + 1 - 1 = k + 1 by omega, e7]
            exact ⟨rfl, rfl, rfl⟩
    · rintro ⟨x, y, z, t, u⟩ ⟨e1, e2, e3⟩
      dsimp only at e1 e2 e3
      subst e1
      obtain ⟨f1, -, -⟩ := e3 hP
      refine ⟨(x, u), ?_, f1⟩
      show fX1_leftBehind_b9 _ _ _ _ _ = _
      unfold fX1_leftBehind_b9
      rw [(e2.co1 hC).P, if_pos (by rw [n_le (by omega) (by omega)]; omega)]
  obtain ⟨⟨x, u⟩, m1, m2⟩ := main
  dsimp only at m2
  rw [m1, bd_e, un2_e, m2]
  exact ⟨_, rfl⟩
theorem q_tail (h : R w σ) : Ans (fX9_tail w) (fun v => fX10_tail v) := by
  have h8 := h.g.P
  by_cases hz : sP σ = 0
  · have z1 : w.1 1 0 = 0 := by rw [h.c.P, hz]; rfl
    have z2 : w.1 42 6 = 0 := by rw [h.o.P, hz]; rfl
    exact Ans.nof h 3 (by decide) (by decide) (by unfold fX9_tail; simp only [z1, if_pos, rf1, rf2, rf3, rf4, rf6, bd_e, un2_e] <;> rfl) (fun v e => by unfold fX10_tail; simp only [z2, if_pos, e _ (show (42 : Nat) ≠ 12 by decide), no1, no2, no3, no4, no6, bd_e, un2_e] <;> rfl)
  · have z1 : ¬ w.1 1 0 = 0 := by rw [h.c.P, c0, n_eq (by omega) (by decide)]; exact hz
    have z2 : ¬ nI (sP σ) = 0 := by rw [c0, n_eq (by omega) (by decide)]; exact hz
    refine Ans.q (r := nI (taN σ (sP σ - 1)).1) h ?_ fun v hv => ?_
    · obtain ⟨v, e⟩ := c_leftBehind h.c h.g hz
      refine ⟨v, ?_, Cq.of (rX1_leftBehind e) (by decide)⟩
      unfold fX9_tail
      rw [if_neg z1, e, bd_e, un2_e]
    · obtain ⟨v1, a1, a2, a3, a4⟩ := m_door hv.o hv.g hv.m2
      have hd := dN_lt h.g
      have hp0 : pop (dN σ) = pTl σ 0 := by unfold pTl; rw [tl_0 h.g]
      have main : ∃ x, iter (fun s : Int32 × Int32 × Int32 × Int32 × Wd => fX10_tail_b32 s.1 s.2.1 s.2.2.1 s.2.2.2.1 s.2.2.2.2) FU (0, nI (pTl σ 0), nI (sP σ), 1, v1) = some x ∧ x.1 = nI (taN σ (sP σ - 1)).1 ∧ MoIs x.2 σ ∧ Mq v x.2 := by
        refine itn (fun n s => s.1 = nI (taN σ n).1 ∧ s.2.1 = nI (taN σ n).2.1 ∧ s.2.2.1 = nI (taN σ n).2.2 ∧ s.2.2.2.1 = nI (n + 1) ∧ MoIs s.2.2.2.2 σ ∧ Mq v s.2.2.2.2) _ (sP σ - 1) ⟨rfl, rfl, rfl, rfl, a2, a4⟩ ?_ ?_ (by omega)
        · rintro n ⟨x, y, z, t, u⟩ hn ⟨e1, e2, e3, e4, e5, e6⟩
          dsimp only at e1 e2 e3 e4 e5 e6
          subst e1; subst e2; subst e3; subst e4
          obtain ⟨u1, b1, b2, b3, b4, b5, -⟩ := m_save1 e5
          have s1 := b2.wP (sP σ - (n + 1))
          have s2 := s1.wL (sL σ &&& (2 ^ (sP σ - (n + 1)) - 1))
          have e : wr (wr σ 0 (sP σ - (n + 1))) 1 (sL σ &&& (2 ^ (sP σ - (n + 1)) - 1)) = tl σ (n + 1) := by
            unfold wr tl
            refine Prod.ext (funext fun j => ?_) rfl
            dsimp only
            by_cases h0 : j = 0
            · subst h0; rfl
            · by_cases h1 : j = 1
              · subst h1; rfl
              · simp only [if_neg h0, if_neg h1]
          rw [e] at s2
          have gt := good_tl h.g (n + 1)
          obtain ⟨u2, d1, d2, d3, d4⟩ := m_door s2 gt h.m2
          have q1 : Mq u1 (upI (upI u1 42 6 (nI (sP σ - (n + 1)))) 42 7 (nI (sL σ &&& (2 ^ (sP σ - (n + 1)) - 1)))) := (Mq.of (l := [at_ 42 6]) (Agree.rf.pI rfl (Or.inl (List.mem_singleton.mpr rfl))) (by decide)).tr (Mq.of (l := [at_ 42 7]) (Agree.rf.pI rfl (Or.inl (List.mem_singleton.mpr rfl))) (by decide))
          have hK : Kept (upI (upI u1 42 6 (nI (sP σ - (n + 1)))) 42 7 (nI (sL σ &&& (2 ^ (sP σ - (n + 1)) - 1)))) 1 σ := b3.keep fun q _ _ => rfl
          obtain ⟨u3, f1, f2, f3, -⟩ := m_rest1 (hK.kk d3 (by decide))
          have hd2 := dN_lt gt
          have hp8 := pTl_le h.g (n + 1)
          obtain ⟨g1, g2, g3⟩ := taN_le h.g n
          have m1 : pTl σ (n + 1) * (taN σ n).2.2 ≤ 64 := Nat.mul_le_mul hp8 g3
          have m2 : (taN σ n).2.1 * (sP σ - (n + 1)) ≤ 64 := Nat.mul_le_mul g2 (show sP σ - (n + 1) ≤ 8 by omega)
          have e7 : taN σ (n + 1) = if (taN σ n).2.1 * (sP σ - (n + 1)) < pTl σ (n + 1) * (taN σ n).2.2 then (n + 1, pTl σ (n + 1), sP σ - (n + 1)) else taN σ n := rfl
          have h27 : (upI u1 42 6 (nI (sP σ - (n + 1)))).1 42 7 = nI (sL σ) := b2.L
          have h26 : (upI u1 42 6 (nI (sP σ - (n + 1)))).1 42 6 = nI (sP σ - (n + 1)) := upI_s _ _ _ _
          refine ⟨(nI (taN σ (n + 1)).1, nI (taN σ (n + 1)).2.1, nI (taN σ (n + 1)).2.2, nI (n + 2), u3), ?_, rfl, rfl, rfl, rfl, f2, (((e6.tr b4).tr q1).tr d4).tr f3⟩
          show fX10_tail_b32 _ _ _ _ _ = _
          unfold fX10_tail_b32
          rw [e5.P, if_neg (by rw [n_le (by omega) (by omega)]; omega), b1, bd_e, b2.P, n_sub (by omega), lt_e, h27, h26, ev_t _ (by omega), n_and, lt_e, d1, bd_e, un2_e, show fX10_bits (nI (door (tl σ (n + 1)) (sL (tl σ (n + 1))))) = some (nI (pTl σ (n + 1))) from pop_m _ hd2, bd_e, show u2.1 42 6 = nI (sP σ - (n + 1)) from d2.P, lt_e, f1, bd_e, mulN, mulN, e7]
          by_cases c : (taN σ n).2.1 * (sP σ - (n + 1)) < pTl σ (n + 1) * (taN σ n).2.2
          · rw [if_pos (by rw [n_lt (by omega) (by omega)]; exact c), if_pos c, nI_1, lt_e]
          · rw [if_neg (by rw [n_lt (by omega) (by omega)]; exact c), if_neg c, nI_1, lt_e]
        · rintro ⟨x, y, z, t, u⟩ ⟨e1, e2, e3, e4, e5, e6⟩
          dsimp only at e1 e2 e3 e4 e5 e6
          subst e1; subst e4
          refine ⟨(nI (taN σ (sP σ - 1)).1, u), ?_, rfl, e5, e6⟩
          show fX10_tail_b32 _ _ _ _ _ = _
          unfold fX10_tail_b32
          rw [e5.P, if_pos (by rw [n_le (by omega) (by omega)]; omega)]
      obtain ⟨⟨x, u⟩, m1, m2, m3, m4⟩ := main
      dsimp only at m2 m3 m4
      refine ⟨u, ?_, m3, m4⟩
      show fX10_tail v = _
      unfold fX10_tail
      rw [hv.o.P, if_neg z2, a1, bd_e, un2_e, pop_m _ hd, bd_e, a2.P, lt_e, hp0, m1, bd_e, un2_e, m2]
end

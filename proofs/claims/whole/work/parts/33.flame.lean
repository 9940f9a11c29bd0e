/-! flame, out, again -/
def agN (σ : St) : Nat → Nat
  | 0 => 0
  | n + 1 => agN σ n + pop (frN σ n)
def outN (σ : St) (p : Nat) : Nat → Nat
  | 0 => 0
  | n + 1 => outN σ p n + if (run σ (sA σ) (sL σ) n &&& uns σ (sA σ + n)).testBit p then 1 else 0
def flN (σ : St) : Nat → Nat → Nat
  | 0, q => q
  | n + 1, q => if (frN σ n).testBit q then flN σ n (byN σ n q) else flN σ n q
section
variable {w w1 w2 : Wd} {σ τ : St} {b : Nat}
theorem Gk.up {k n : Nat} {s : Wd} (h : Gk w k σ n s) (i f : Nat) (x : Int32) (h1 : okMo [at_ i f] = true) (h2 : okMQ [at_ i f] = true) (h3 : i ≠ 53) : Gk w k σ n (upI s i f x) := h.keep (l := [at_ i f]) (Agree.rf.pI rfl (Or.inl (List.mem_singleton.mpr rfl))) h1 h2 (by simp [at_, h3])
theorem Gk.upA {k n : Nat} {s : Wd} (h : Gk w k σ n s) (i f : Nat) (x : Int32) (h1 : okMo [all_ i] = true) (h2 : okMQ [all_ i] = true) (h3 : i ≠ 53) : Gk w k σ n (upI s i f x) := h.keep (l := [all_ i]) (Agree.rf.pI rfl (Or.inr (List.mem_singleton.mpr rfl))) h1 h2 (by simp [all_, h3])
theorem m_counting (hg : good σ) (hm : sM σ ≤ 1200) {v : Wd} (hG : Gk w 1 σ 0 v) {p : Nat} (hp : p < 31) : ∃ s, fX10_goesCounting v (nI p) = some s ∧ Gk w 1 σ (sD σ - sA σ) s ∧ s.1 42 23 = nI (agN σ (sD σ - sA σ)) ∧ s.1 42 37 = nI (outN σ p (sD σ - sA σ)) ∧ ∀ q, q < 8 → s.1 55 q = nI (flN σ (sD σ - sA σ) q) := by
  have hD := hg.D
  have h8 := hg.P
  unfold fX10_goesCounting
  rw [lt_e, lt_e]
  have h1 : Gk w 1 σ 0 (upI (upI v 42 37 0) 42 23 0) := (hG.up 42 37 0 (by decide) (by decide) (by decide)).up 42 23 0 (by decide) (by decide) (by decide)
  have lp : ∃ x, iter (fun s : Int32 × Wd => fX10_goesCounting_b12 s.1 s.2) FU (0, upI (upI v 42 37 0) 42 23 0) = some x ∧ Gk w 1 σ 0 x ∧ x.1 42 23 = 0 ∧ x.1 42 37 = 0 ∧ ∀ q, q < 8 → x.1 55 q = nI q := by
    refine itn (fun m s => s.1 = nI m ∧ Gk w 1 σ 0 s.2 ∧ s.2.1 42 23 = 0 ∧ s.2.1 42 37 = 0 ∧ ∀ q, q < m → s.2.1 55 q = nI q) _ 8 ⟨rfl, h1, rfl, rfl, fun q hq => absurd hq (Nat.not_lt_zero _)⟩ ?_ ?_ (by decide)
    · rintro m ⟨x, u⟩ hm ⟨e1, e2, e3, e4, e5⟩
      dsimp only at e1 e2 e3 e4 e5
      subst e1
      refine ⟨(nI (m + 1), upI u 55 m (nI m)), ?_, rfl, e2.upA 55 m _ (by decide) (by decide) (by decide), e3, e4, fun q hq => ?_⟩
      · show fX10_goesCounting_b12 _ _ = _
        unfold fX10_goesCounting_b12
        rw [if_neg (by rw [c8, n_le (by decide) (by omega)]; omega), gdn hm (by decide), n_cl (by omega), lt_e, lt_e, nI_1]
      · by_cases d : q = m
        · subst d; exact upI_s _ _ _ _
        · exact (upI_k _ _ _ _ d).trans (e5 q (by omega))
    · rintro ⟨x, u⟩ ⟨e1, e2, e3, e4, e5⟩
      dsimp only at e1 e2 e3 e4 e5
      subst e1
      refine ⟨u, ?_, e2, e3, e4, e5⟩
      show fX10_goesCounting_b12 _ _ = _
      unfold fX10_goesCounting_b12
      rw [if_pos (show (8 : Int32) ≤ nI 8 by decide)]
  obtain ⟨v2, l1, l2, l3, l4, l5⟩ := lp
  rw [l1, bd_e]
  refine itnb (fun n s => Gk w 1 σ n s ∧ s.1 42 23 = nI (agN σ n) ∧ s.1 42 37 = nI (outN σ p n) ∧ ∀ q, q < 8 → s.1 55 q = nI (flN σ n q)) (fun s => Gk w 1 σ (sD σ - sA σ) s ∧ s.1 42 23 = nI (agN σ (sD σ - sA σ)) ∧ s.1 42 37 = nI (outN σ p (sD σ - sA σ)) ∧ ∀ q, q < 8 → s.1 55 q = nI (flN σ (sD σ - sA σ) q)) (sD σ - sA σ) ⟨l2, l3, l4, l5⟩ ?_ ?_ (by omega) (fun x hx => ⟨x, rfl, hx⟩)
  · rintro n s hn ⟨e1, e2, e3, e4⟩
    have hu : (if (if (run σ (sA σ) (sL σ) n).testBit p = true then (1 : Int32) else 0) = 0 then some (0 : Int32) else (fX10_holds s (nI p)).bind fun (r20 : Int32) => if r20 = 0 then some (1 : Int32) else some (0 : Int32)) = some (nI (if (run σ (sA σ) (sL σ) n &&& uns σ (sA σ + n)).testBit p then 1 else 0)) := by
      rw [Nat.testBit_and]
      by_cases c : (run σ (sA σ) (sL σ) n).testBit p = true
      · have hpP : p < sP σ := bit_lt (runU_lt hg hg.L n) c
        have hh := m_holds e1.1 (good_wst hg hm (by omega)) (p := p) hpP (show sA σ + n < 25 by omega)
        rw [if_pos c, if_neg (by decide), hh, bd_e, c, Bool.true_and]
        show (if (if hold σ p < felt σ p (sA σ + n) then (0 : Int32) else 1) = 0 then _ else _) = some (nI (if (uns σ (sA σ + n)).testBit p = true then 1 else 0))
        unfold uns
        rw [mask_bit]
        by_cases d : hold σ p < felt σ p (sA σ + n)
        · rw [if_pos d, if_pos rfl, if_pos (by simp [hpP, d])]; rfl
        · rw [if_neg d, if_neg (by decide), if_neg (by simp [d])]; rfl
      · rw [if_neg c, if_pos rfl, (by simpa using c : (run σ (sA σ) (sL σ) n).testBit p = false)]; rfl
    have e1' : Gk w 1 σ n (upI s 42 37 (nI (outN σ p (n + 1)))) := e1.up 42 37 _ (by decide) (by decide) (by decide)
    obtain ⟨u, a1, a2, a3, a4, a5⟩ := g_step hg hm hn e1'
    have fr := rX10_goes a1
    refine ⟨u, ?_, a2, ?_, ?_, fun q hq => ?_⟩
    · unfold fX10_goesCounting_b31
      rw [if_neg (e1.go hg hn), e1.lit, hasm (by have := run256 hg n; omega) hp, hu, bd_e, e3, n_add, lt_e]
      show (fX10_goes (upI s 42 37 (nI (outN σ p (n + 1)))) 0).bind _ = _
      rw [a1, bd_e]
    · rw [a5, show (upI s 42 37 (nI (outN σ p (n + 1)))).1 42 23 = nI (agN σ n) from e2, n_add]; rfl
    · rw [(fr 42 37 (by decide)).1]; exact upI_s _ _ _ _
    · rw [a4 q]
      show _ = nI (if (frN σ n).testBit q then flN σ n (byN σ n q) else flN σ n q)
      by_cases c : (frN σ n).testBit q = true
      · rw [if_pos c]
        rw [if_pos (show (fresh σ (nd (run σ (sA σ) (sL σ) n) (uns σ (sA σ + n)))).testBit q = true from c)]
        exact e4 _ (byN_lt hg c)
      · rw [if_neg c, if_neg (show ¬ (fresh σ (nd (run σ (sA σ) (sL σ) n) (uns σ (sA σ + n)))).testBit q = true from c)]
        exact e4 q hq
  · rintro s ⟨e1, e2⟩
    refine ⟨s, ?_, e1, e2⟩
    unfold fX10_goesCounting_b31
    rw [if_pos (e1.end hg)]
theorem c_timesOut (hC : CoIs w 1 σ) (hg : good σ) {p : Nat} (hp : p < 31) : ∃ w1, fX4_timesOut w (nI p) = some (nI (outN σ p (sD σ - sA σ)), w1) := by
  have hD := hg.D
  obtain ⟨v, a1, a2, a3, a4⟩ := c_outNow hC hg
  unfold fX4_timesOut
  rw [a1, bd_e, a3.L, lt_e]
  have main : ∃ x, iter (fun s : Int32 × Int32 × Int32 × Wd => fX4_timesOut_b24 (nI p) s.1 s.2.1 s.2.2.1 s.2.2.2) FU (0, nI (sL σ), 0, v) = some x ∧ x.1 = nI (outN σ p (sD σ - sA σ)) := by
    refine itn (fun n s => s.1 = nI (outN σ p n) ∧ s.2.1 = nI (run σ (sA σ) (sL σ) n) ∧ s.2.2.1 = nI n ∧ WkIs s.2.2.2 σ) _ (sD σ - sA σ) ⟨rfl, rfl, rfl, a2⟩ ?_ ?_ (by omega)
    · rintro n ⟨x, y, z, u⟩ hn ⟨e1, e2, e3, e4⟩
      dsimp only at e1 e2 e3 e4
      subst e1; subst e2; subst e3
      obtain ⟨u1, b1, b2, b3, b4, b5, b6⟩ := c_minuteN e4 hg hn
      have hr := run256 hg n
      have hx : run σ (sA σ) (sL σ) n &&& uns σ (sA σ + n) < 256 := Nat.and_lt_two_pow (n := 8) _ (lt256 (uns_lt σ _) hg.P)
      refine ⟨(nI (outN σ p (n + 1)), nI (run σ (sA σ) (sL σ) (n + 1)), nI (n + 1), u1), ?_, rfl, rfl, rfl, b5⟩
      show fX4_timesOut_b24 _ _ _ _ _ = _
      unfold fX4_timesOut_b24
      rw [Wk.T e4, if_neg (by rw [n_le (by omega) (by omega)]; omega), Wk.A e4, n_add, b1, bd_e, un2_e, b2, hasc (by omega) hp]
      show _ = some (Sum.inl (nI (outN σ p n + if (run σ (sA σ) (sL σ) n &&& uns σ (sA σ + n)).testBit p then 1 else 0), _, _, _))
      by_cases c : (run σ (sA σ) (sL σ) n &&& uns σ (sA σ + n)).testBit p = true
      · rw [if_pos c, if_neg (by decide), if_pos c, nI_1, lt_e, nI_1, lt_e]
      · rw [if_neg c, if_pos rfl, if_neg c, nI_1, lt_e]; rfl
    · rintro ⟨x, y, z, u⟩ ⟨e1, e2, e3, e4⟩
      dsimp only at e1 e2 e3 e4
      subst e1; subst e2; subst e3
      refine ⟨(nI (outN σ p (sD σ - sA σ)), u), ?_, rfl⟩
      show fX4_timesOut_b24 _ _ _ _ _ = _
      unfold fX4_timesOut_b24
      rw [Wk.T e4, if_pos (by rw [n_le (by omega) (by omega)]; omega)]
  obtain ⟨⟨x, y⟩, m1, m2⟩ := main
  dsimp only at m2
  rw [m1, bd_e, un2_e, m2]
  exact ⟨_, rfl⟩
theorem c_timesLit (hC : CoIs w 1 σ) (hg : good σ) : ∃ w1, fX4_timesLit w = some (nI (agN σ (sD σ - sA σ)), w1) := by
  have hD := hg.D
  obtain ⟨v, a1, a2, a3, a4⟩ := c_outNow hC hg
  unfold fX4_timesLit
  rw [a1, bd_e, a3.L, lt_e]
  have main : ∃ x, iter (fun s : Int32 × Int32 × Int32 × Wd => fX4_timesLit_b23 s.1 s.2.1 s.2.2.1 s.2.2.2) FU (0, nI (sL σ), 0, v) = some x ∧ x.1 = nI (agN σ (sD σ - sA σ)) := by
    refine itn (fun n s => s.1 = nI (agN σ n) ∧ s.2.1 = nI (run σ (sA σ) (sL σ) n) ∧ s.2.2.1 = nI n ∧ WkIs s.2.2.2 σ) _ (sD σ - sA σ) ⟨rfl, rfl, rfl, a2⟩ ?_ ?_ (by omega)
    · rintro n ⟨x, y, z, u⟩ hn ⟨e1, e2, e3, e4⟩
      dsimp only at e1 e2 e3 e4
      subst e1; subst e2; subst e3
      obtain ⟨u1, b1, b2, b3, b4, b5, b6⟩ := c_minuteN e4 hg hn
      have hf : frN σ n < 256 := lt256 (fresh_lt hg _) hg.P
      refine ⟨(nI (agN σ (n + 1)), nI (run σ (sA σ) (sL σ) (n + 1)), nI (n + 1), u1), ?_, rfl, rfl, rfl, b5⟩
      show fX4_timesLit_b23 _ _ _ _ = _
      unfold fX4_timesLit_b23
      rw [Wk.T e4, if_neg (by rw [n_le (by omega) (by omega)]; omega), Wk.A e4, n_add, b1, bd_e, un2_e, b3, pop_c _ hf, n_add, lt_e, nI_1, lt_e]
      rfl
    · rintro ⟨x, y, z, u⟩ ⟨e1, e2, e3, e4⟩
      dsimp only at e1 e2 e3 e4
      subst e1; subst e2; subst e3
      refine ⟨(nI (agN σ (sD σ - sA σ)), u), ?_, rfl⟩
      show fX4_timesLit_b23 _ _ _ _ = _
      unfold fX4_timesLit_b23
      rw [Wk.T e4, if_pos (by rw [n_le (by omega) (by omega)]; omega)]
  obtain ⟨⟨x, y⟩, m1, m2⟩ := main
  dsimp only at m2
  rw [m1, bd_e, un2_e, m2]
  exact ⟨_, rfl⟩
theorem c_handOn (hg : good σ) {n : Nat} (h0 : w.1 4 0 = nI (sP σ)) (h25 : ∀ q, (frN σ n).testBit q = true → w.1 25 q = nI (byN σ n q)) (h35 : ∀ q, q < 8 → w.1 35 q = nI (flN σ n q)) (hd : ∀ q, (frN σ n).testBit q = true → (frN σ n).testBit (byN σ n q) = false) : ∃ w1, fX4_handOn w (nI (frN σ n)) = some w1 ∧ ∀ q, q < 8 → w1.1 35 q = nI (flN σ (n + 1) q) := by
  have h8 := hg.P
  have hfP : frN σ n < 2 ^ sP σ := fresh_lt hg _
  have hf : frN σ n < 256 := lt256 hfP h8
  unfold fX4_handOn
  refine itnb (fun m s => s.1 = nI m ∧ s.2.1 4 0 = nI (sP σ) ∧ s.2.1 25 = w.1 25 ∧ ∀ q, q < 8 → s.2.1 35 q = nI (if q < m then flN σ (n + 1) q else flN σ n q)) (fun x => ∀ q, q < 8 → x.1 35 q = nI (flN σ (n + 1) q)) (sP σ) ⟨rfl, h0, rfl, fun q hq => by rw [if_neg (Nat.not_lt_zero _)]; exact h35 q hq⟩ ?_ ?_ (by omega) (fun x hx => ⟨x, rfl, hx⟩)
  · rintro m ⟨x, u⟩ hm ⟨e1, e2, e3, e4⟩
    dsimp only at e1 e2 e3 e4
    subst e1
    have e5 : flN σ (n + 1) m = if (frN σ n).testBit m then flN σ n (byN σ n m) else flN σ n m := rfl
    by_cases c : (frN σ n).testBit m = true
    · have hb := byN_lt hg c
      refine ⟨(nI (m + 1), upI u 35 m (nI (flN σ (n + 1) m))), ?_, rfl, e2, e3, fun q hq => ?_⟩
      · show fX4_handOn_b2 _ _ _ = _
        unfold fX4_handOn_b2
        have e6 : u.1 35 (byN σ n m) = nI (flN σ (n + 1) m) := by
          rw [e4 _ hb, e5, if_pos c]
          by_cases d : byN σ n m < m
          · rw [if_pos d]
            congr 1
            show (if (frN σ n).testBit (byN σ n m) then _ else _) = _
            rw [if_neg (by rw [hd m c]; decide)]
          · rw [if_neg d]
        rw [e2, if_neg (by rw [n_le (by omega) (by omega)]; omega), hasc (by omega) (by omega), if_pos c, if_neg (by decide), gdn (by omega) (by decide), n_cl (by omega), e3, h25 m c, gdn hb (by decide), n_cl (by omega), e6, lt_e, nI_1, lt_e]
      · dsimp only
        by_cases d : q = m
        · subst d; rw [upI_s, if_pos (by omega)]
        · rw [upI_k _ _ _ _ d, e4 q hq]
          by_cases d2 : q < m
          · rw [if_pos d2, if_pos (by omega)]
          · rw [if_neg d2, if_neg (by omega)]
    · refine ⟨(nI (m + 1), u), ?_, rfl, e2, e3, fun q hq => ?_⟩
      · show fX4_handOn_b2 _ _ _ = _
        unfold fX4_handOn_b2
        rw [e2, if_neg (by rw [n_le (by omega) (by omega)]; omega), hasc (by omega) (by omega), if_neg c, if_pos rfl, nI_1, lt_e]
      · dsimp only
        rw [e4 q hq]
        by_cases d : q = m
        · subst d; rw [if_neg (Nat.lt_irrefl _), if_pos (by omega), e5, if_neg c]
        · by_cases d2 : q < m
          · rw [if_pos d2, if_pos (by omega)]
          · rw [if_neg d2, if_neg (by omega)]
  · rintro ⟨x, u⟩ ⟨e1, e2, e3, e4⟩
    dsimp only at e1 e2 e3 e4
    subst e1
    refine ⟨u, ?_, fun q hq => ?_⟩
    · show fX4_handOn_b2 _ _ _ = _
      unfold fX4_handOn_b2
      rw [e2, if_pos (by rw [n_le (by omega) (by omega)]; omega)]
    · rw [e4 q hq]
      by_cases d : q < sP σ
      · rw [if_pos d]
      · rw [if_neg d]
        show _ = nI (if (frN σ n).testBit q then _ else _)
        rw [if_neg (fun c => d (bit_lt hfP c))]
theorem spB_bit (σ : St) (lit q : Nat) : ∀ p, (spS σ lit p).testBit q = true → lit.testBit (spB σ lit p q) = true
  | 0, h => by simp [spS] at h
  | p + 1, h => by
    unfold spB
    split
    · rename_i c
      rw [Bool.and_eq_true] at c
      exact c.1
    · rename_i c
      refine spB_bit σ lit q p ?_
      unfold spS at h
      rw [Nat.testBit_or, Bool.or_eq_true] at h
      rcases h with h | h
      · exact h
      · exfalso
        apply c
        by_cases d : lit.testBit p = true
        · rw [if_pos d] at h
          rw [d, h]; rfl
        · rw [if_neg d] at h; simp at h
theorem fr_by (hg : good σ) {n q : Nat} (h : (frN σ n).testBit q = true) : (frN σ n).testBit (byN σ n q) = false := by
  have h1 := spB_bit σ _ q (sP σ) h
  cases hb : (frN σ n).testBit (byN σ n q) with
  | false => rfl
  | true =>
    have := (spS_bit σ hg _ _ _ hb).2
    rw [show byN σ n q = spB σ (nd (run σ (sA σ) (sL σ) n) (uns σ (sA σ + n))) (sP σ) q from rfl, h1] at this
    cases this
theorem c_originOf (hC : CoIs w 1 σ) (hg : good σ) {p : Nat} (hp : p < 8) : ∃ w1, fX4_originOf w (nI p) = some (if (run σ (sA σ) (sL σ) (sD σ - sA σ)).testBit p then nI (flN σ (sD σ - sA σ) p) else -9, w1) := by
  have hD := hg.D
  have h8 := hg.P
  obtain ⟨v, a1, a2, a3, a4⟩ := c_outNow hC hg
  unfold fX4_originOf
  rw [a1, bd_e]
  have lp : ∃ x, iter (fun s : Int32 × Wd => fX4_originOf_b13 s.1 s.2) FU (0, v) = some x ∧ WkIs x σ ∧ x.1 1 1 = nI (sL σ) ∧ ∀ q, q < 8 → x.1 35 q = nI q := by
    refine itn (fun m s => s.1 = nI m ∧ WkIs s.2 σ ∧ s.2.1 1 1 = nI (sL σ) ∧ ∀ q, q < m → s.2.1 35 q = nI q) _ 8 ⟨rfl, a2, a3.L, fun q hq => absurd hq (Nat.not_lt_zero _)⟩ ?_ ?_ (by decide)
    · rintro m ⟨x, u⟩ hm ⟨e1, e2, e3, e4⟩
      dsimp only at e1 e2 e3 e4
      subst e1
      refine ⟨(nI (m + 1), upI u 35 m (nI m)), ?_, rfl, e2, e3, fun q hq => ?_⟩
      · show fX4_originOf_b13 _ _ = _
        unfold fX4_originOf_b13
        rw [if_neg (by rw [c8, n_le (by decide) (by omega)]; omega), gdn hm (by decide), n_cl (by omega), lt_e, lt_e, nI_1]
      · by_cases d : q = m
        · subst d; exact upI_s _ _ _ _
        · exact (upI_k _ _ _ _ d).trans (e4 q (by omega))
    · rintro ⟨x, u⟩ ⟨e1, e2, e3, e4⟩
      dsimp only at e1 e2 e3 e4
      subst e1
      refine ⟨u, ?_, e2, e3, e4⟩
      show fX4_originOf_b13 _ _ = _
      unfold fX4_originOf_b13
      rw [if_pos (show (8 : Int32) ≤ nI 8 by decide)]
  obtain ⟨v2, l1, l2, l3, l4⟩ := lp
  rw [l1, bd_e, l3, lt_e]
  have main : ∃ x, iter (fun s : Int32 × Int32 × Wd => fX4_originOf_b42 s.1 s.2.1 s.2.2) FU (nI (sL σ), 0, v2) = some x ∧ x.1 = nI (run σ (sA σ) (sL σ) (sD σ - sA σ)) ∧ ∀ q, q < 8 → x.2.1 35 q = nI (flN σ (sD σ - sA σ) q) := by
    refine itn (fun n s => s.1 = nI (run σ (sA σ) (sL σ) n) ∧ s.2.1 = nI n ∧ WkIs s.2.2 σ ∧ ∀ q, q < 8 → s.2.2.1 35 q = nI (flN σ n q)) _ (sD σ - sA σ) ⟨rfl, rfl, l2, l4⟩ ?_ ?_ (by omega)
    · rintro n ⟨x, y, u⟩ hn ⟨e1, e2, e3, e4⟩
      dsimp only at e1 e2 e3 e4
      subst e1; subst e2
      obtain ⟨u1, b1, b2, b3, b4, b5, b6⟩ := c_minuteN e3 hg hn
      have f35 : u1.1 35 = u.1 35 := ((rX8_minuteAt b1).cell 35 (by decide)).1
      obtain ⟨u2, d1, d2⟩ := c_handOn (w := u1) hg (n := n) b5.1 (fun q hq => by rw [b4 q, if_pos hq]) (fun q hq => by rw [f35]; exact e4 q hq) (fun q hq => fr_by hg hq)
      refine ⟨(nI (run σ (sA σ) (sL σ) (n + 1)), nI (n + 1), u2), ?_, rfl, rfl, b5.keep (rX4_handOn d1) (by decide), d2⟩
      show fX4_originOf_b42 _ _ _ = _
      unfold fX4_originOf_b42
      rw [Wk.T e3, if_neg (by rw [n_le (by omega) (by omega)]; omega), Wk.A e3, n_add, b1, bd_e, un2_e, b3, d1, bd_e, nI_1, lt_e]
    · rintro ⟨x, y, u⟩ ⟨e1, e2, e3, e4⟩
      dsimp only at e1 e2 e3 e4
      subst e1; subst e2
      refine ⟨(nI (run σ (sA σ) (sL σ) (sD σ - sA σ)), u), ?_, rfl, e4⟩
      show fX4_originOf_b42 _ _ _ = _
      unfold fX4_originOf_b42
      rw [Wk.T e3, if_pos (by rw [n_le (by omega) (by omega)]; omega)]
  obtain ⟨⟨x, y⟩, m1, m2, m3⟩ := main
  dsimp only at m2 m3
  have hr := run256 hg (sD σ - sA σ)
  rw [m1, bd_e, un2_e, m2, hasc (by omega) (by omega)]
  by_cases c : (run σ (sA σ) (sL σ) (sD σ - sA σ)).testBit p = true
  · rw [if_pos c, if_neg (by decide), if_pos c, gdn hp (by decide), n_cl (by omega), m3 p hp]
    exact ⟨_, rfl⟩
  · rw [if_neg c, if_pos rfl, if_neg c]
    exact ⟨_, rfl⟩
theorem q_flame (h : R w σ) (x : Int32) : Ans (fX9_flame w x) (fun v => fX10_flame v x) := by
  have h8 := h.g.P
  rcases who h x with ⟨a, b⟩ | ⟨a, b, p, hp, rfl⟩
  · exact Ans.nof h 1 (by decide) (by decide) (by unfold fX9_flame; simp only [a, if_pos, rf1, rf2, rf3, rf4, rf6, bd_e, un2_e] <;> rfl) (fun v e => by unfold fX10_flame; simp only [b v e, if_pos, e _ (show (42 : Nat) ≠ 12 by decide), no1, no2, no3, no4, no6, bd_e, un2_e] <;> rfl)
  · refine Ans.q (r := if (run σ (sA σ) (sL σ) (sD σ - sA σ)).testBit p then nI (flN σ (sD σ - sA σ) p) else -9) h ?_ fun v hv => ?_
    · obtain ⟨v, e⟩ := c_originOf h.c h.g (show p < 8 by omega)
      refine ⟨v, ?_, Cq.of (rX4_originOf e) (by decide)⟩
      unfold fX9_flame
      rw [a, if_neg (by decide), e, bd_e, un2_e]
    · obtain ⟨v1, b1, b2, -⟩ := g_save1 hv.o
      obtain ⟨v2, d1, d2, d3, d4, d5⟩ := m_counting hv.g hv.m2 b2 (p := p) (by omega)
      obtain ⟨v3, f1, f2, f3, -⟩ := g_rest1 d2
      have hr := run256 hv.g (sD σ - sA σ)
      refine ⟨v3, ?_, f2, f3⟩
      show fX10_flame v (nI p) = _
      unfold fX10_flame
      rw [isP hv.o hv.g hp, if_neg (by decide), b1, bd_e, d1, bd_e, d2.lit, hasm (by omega) (by omega)]
      by_cases c : (run σ (sA σ) (sL σ) (sD σ - sA σ)).testBit p = true
      · rw [if_pos c, if_neg (by decide), if_pos c, gdn (by omega) (by decide), n_cl (by omega), d5 p (by omega), bd_e, f1, bd_e]
      · rw [if_neg c, if_pos rfl, if_neg c, bd_e, f1, bd_e]
theorem q_out (h : R w σ) (x : Int32) : Ans (fX9_out w x) (fun v => fX10_out v x) := by
  have h8 := h.g.P
  rcases who h x with ⟨a, b⟩ | ⟨a, b, p, hp, rfl⟩
  · exact Ans.nof h 1 (by decide) (by decide) (by unfold fX9_out; simp only [a, if_pos, rf1, rf2, rf3, rf4, rf6, bd_e, un2_e] <;> rfl) (fun v e => by unfold fX10_out; simp only [b v e, if_pos, e _ (show (42 : Nat) ≠ 12 by decide), no1, no2, no3, no4, no6, bd_e, un2_e] <;> rfl)
  · refine Ans.q (r := nI (outN σ p (sD σ - sA σ))) h ?_ fun v hv => ?_
    · obtain ⟨v, e⟩ := c_timesOut h.c h.g (show p < 31 by omega)
      refine ⟨v, ?_, Cq.of (rX4_timesOut e) (by decide)⟩
      unfold fX9_out
      rw [a, if_neg (by decide), e, bd_e, un2_e]
    · obtain ⟨v1, b1, b2, -⟩ := g_save1 hv.o
      obtain ⟨v2, d1, d2, d3, d4, d5⟩ := m_counting hv.g hv.m2 b2 (p := p) (by omega)
      obtain ⟨v3, f1, f2, f3, f4, f5, f6⟩ := g_rest1 d2
      refine ⟨v3, ?_, f2, f3⟩
      show fX10_out v (nI p) = _
      unfold fX10_out
      rw [isP hv.o hv.g hp, if_neg (by decide), b1, bd_e, d1, bd_e, f1, bd_e, f6 37 (by decide) (by decide) (by decide), d4]
theorem q_again (h : R w σ) : Ans (fX9_again w) (fun v => fX10_again v) := by
  refine Ans.q (r := nI (agN σ (sD σ - sA σ))) h ?_ fun v hv => ?_
  · obtain ⟨v, e⟩ := c_timesLit h.c h.g
    refine ⟨v, ?_, Cq.of (rX4_timesLit e) (by decide)⟩
    unfold fX9_again
    rw [e, bd_e, un2_e]
  · obtain ⟨v1, b1, b2, -⟩ := g_save1 hv.o
    obtain ⟨v2, d1, d2, d3, d4, d5⟩ := m_counting hv.g hv.m2 b2 (p := 0) (by decide)
    obtain ⟨v3, f1, f2, f3, f4, f5, f6⟩ := g_rest1 d2
    have d1' : fX10_goesCounting v1 0 = some v2 := d1
    refine ⟨v3, ?_, f2, f3⟩
    show fX10_again v = _
    unfold fX10_again
    rw [b1, bd_e, d1', bd_e, f1, bd_e, f6 23 (by decide) (by decide) (by decide), d3]
end

/-! darkFor, litBy, out, again -/
section
variable {w w1 w2 : Wd} {σ τ : St} {b : Nat}
theorem c_darkEnds {r : Nat → Nat} {T p : Nat} (hT : T ≤ 24) (h4 : w.1 4 4 = nI T) (hr : ∀ m, m ≤ T → w.1 26 m = nI (r m)) (h8 : ∀ m, r m < 256) (hp : p < 31) : fX4_darkEnds w (nI p) = some (nI (dfN r p T)) := by
  unfold fX4_darkEnds
  refine (itb (fun n => (nI (dfN r p n), nI (n + 1))) (nI (dfN r p T)) T rfl (fun n hn => ?_) ?_ (by omega)).trans rfl
  · have h1 := h8 (n + 1)
    show fX4_darkEnds_b4 w _ _ _ = _
    unfold fX4_darkEnds_b4
    rw [h4, if_neg (by rw [n_lt (by omega) (by omega)]; omega), gdn (by omega) (by decide), n_cl (by omega), hr (n + 1) (by omega), hasc (by omega) hp]
    show _ = some (Sum.inl (nI (dfN r p n + if (r (n + 1)).testBit p = true then 0 else 1), nI (n + 1 + 1)))
    by_cases c : (r (n + 1)).testBit p = true
    · rw [if_pos c, if_neg (by decide), if_pos c, lt_e, nI_1]; rfl
    · rw [if_neg c, if_pos rfl, if_neg c, nI_1, lt_e, lt_e, nI_1]
  · show fX4_darkEnds_b4 w _ _ _ = _
    unfold fX4_darkEnds_b4
    rw [h4, if_pos (by rw [n_lt (by omega) (by omega)]; omega)]
theorem m_darkEnds (hM : MoIs w σ) (hg : good σ) (hm : sM σ ≤ 1200) {p : Nat} (hp : p < 31) : ∃ w1, fX10_darkEnds w (nI p) = some (nI (dfN (run σ (sA σ) (sL σ)) p (sD σ - sA σ)), w1) ∧ MoIs w1 σ ∧ KK 2 w w1 ∧ Mq w w1 := by
  have hD := hg.D
  obtain ⟨v1, a1, a2, -⟩ := g_save2 hM
  have main : ∃ x, iter (fun s : Int32 × Wd => fX10_darkEnds_b8 (nI p) s.1 s.2) FU (0, v1) = some x ∧ x.1 = nI (dfN (run σ (sA σ) (sL σ)) p (sD σ - sA σ)) ∧ Gk w 2 σ (sD σ - sA σ) x.2 := by
    refine itn (fun n s => s.1 = nI (dfN (run σ (sA σ) (sL σ)) p n) ∧ Gk w 2 σ n s.2) _ (sD σ - sA σ) ⟨rfl, a2⟩ ?_ ?_ (by omega)
    · rintro n ⟨x, y⟩ hn ⟨e1, e2⟩
      dsimp only at e1 e2
      subst e1
      obtain ⟨y1, b1, b2, -⟩ := g_step hg hm hn e2
      have hr := run256 hg (n + 1)
      refine ⟨(nI (dfN (run σ (sA σ) (sL σ)) p (n + 1)), y1), ?_, rfl, b2⟩
      show fX10_darkEnds_b8 _ _ _ = _
      unfold fX10_darkEnds_b8
      rw [if_neg (e2.go hg hn), b1, bd_e, b2.lit, hasm (by omega) hp]
      show _ = some (Sum.inl (nI (dfN (run σ (sA σ) (sL σ)) p n + if (run σ (sA σ) (sL σ) (n + 1)).testBit p = true then 0 else 1), y1))
      rw [← n_add]
      by_cases c : (run σ (sA σ) (sL σ) (n + 1)).testBit p = true
      · rw [if_pos c, if_neg (by decide), if_pos c, lt_e, lt_e]; rfl
      · rw [if_neg c, if_pos rfl, if_neg c, lt_e, lt_e]; rfl
    · rintro ⟨x, y⟩ ⟨e1, e2⟩
      dsimp only at e1 e2
      subst e1
      refine ⟨(nI (dfN (run σ (sA σ) (sL σ)) p (sD σ - sA σ)), y), ?_, rfl, e2⟩
      show fX10_darkEnds_b8 _ _ _ = _
      unfold fX10_darkEnds_b8
      rw [if_pos (e2.end hg)]
  obtain ⟨⟨x, y⟩, m1, m2, m3⟩ := main
  dsimp only at m2 m3
  obtain ⟨v3, f1, f2, f3, f4, -⟩ := g_rest2 m3
  refine ⟨v3, ?_, f2, f4, f3⟩
  unfold fX10_darkEnds
  rw [a1, bd_e, m1, bd_e, un2_e, f1, bd_e, m2]
theorem q_darkFor (h : R w σ) (x : Int32) : Ans (fX9_darkFor w x) (fun v => fX10_darkFor v x) := by
  have hD := h.g.D
  have h8 := h.g.P
  rcases who h x with ⟨a, b⟩ | ⟨a, b, p, hp, rfl⟩
  · exact Ans.nof h 1 (by decide) (by decide) (by unfold fX9_darkFor; simp only [a, if_pos, rf1, rf2, rf3, rf4, rf6, bd_e, un2_e] <;> rfl) (fun v e => by unfold fX10_darkFor; simp only [b v e, if_pos, e _ (show (42 : Nat) ≠ 12 by decide), no1, no2, no3, no4, no6, bd_e, un2_e] <;> rfl)
  · refine Ans.q (r := nI (dfN (run σ (sA σ) (sL σ)) p (sD σ - sA σ))) h ?_ fun v hv => ?_
    · obtain ⟨v, a1, a2, a3, a4, a5⟩ := c_walkNow h.c h.g
      refine ⟨v, ?_, a5⟩
      unfold fX9_darkFor fX4_darkMinutes
      rw [a, if_neg (by decide), a1, bd_e, c_darkEnds (r := run σ (sA σ) (sL σ)) (T := sD σ - sA σ) (by omega) a2.2.2.2.2.1 (fun m hm => a4 m hm) (fun m => run256 h.g m) (by omega), bd_e, bd_e, un2_e]
    · obtain ⟨v1, b1, b2, b3, b4⟩ := m_darkEnds hv.o hv.g hv.m2 (p := p) (by omega)
      refine ⟨v1, ?_, b2, b4⟩
      show fX10_darkFor v (nI p) = _
      unfold fX10_darkFor
      rcases m_isPerson hv.o.P hv.g (nI p) with ⟨_, d⟩ | ⟨c, _⟩
      · exact absurd ⟨p, hp, rfl⟩ d
      · rw [c, if_neg (by decide), b1, bd_e, un2_e]
theorem isP (hM : MoIs w σ) (hg : good σ) {p : Nat} (hp : p < sP σ) : fX10_isPerson w (nI p) = 1 := by
  rcases m_isPerson hM.P hg (nI p) with ⟨_, d⟩ | ⟨c, _⟩
  · exact absurd ⟨p, hp, rfl⟩ d
  · exact c
/-- who is lit anew in minute n -/
def frN (σ : St) (n : Nat) : Nat := fresh σ (nd (run σ (sA σ) (sL σ) n) (uns σ (sA σ + n)))
def byN (σ : St) (n q : Nat) : Nat := by_ σ (nd (run σ (sA σ) (sL σ) n) (uns σ (sA σ + n))) q
/-- who lit p last within n minutes; 99: nobody -/
def lbN (σ : St) (p : Nat) : Nat → Nat
  | 0 => 99
  | n + 1 => if (frN σ n).testBit p then byN σ n p else lbN σ p n
theorem spB_lt (σ : St) (hg : good σ) (lit q : Nat) : ∀ p, p ≤ sP σ → (spS σ lit p).testBit q = true → spB σ lit p q < 8
  | 0, _, h => by simp [spS] at h
  | p + 1, hp, h => by
    have h8 := hg.P
    unfold spB
    split
    · omega
    · rename_i c
      refine spB_lt σ hg lit q p (by omega) ?_
      unfold spS at h
      rw [Nat.testBit_or, Bool.or_eq_true] at h
      rcases h with h | h
      · exact h
      · exfalso
        apply c
        by_cases d : lit.testBit p = true
        · rw [if_pos d] at h
          rw [d, h]; rfl
        · rw [if_neg d] at h; simp at h
theorem byN_lt (hg : good σ) {n q : Nat} (h : (frN σ n).testBit q = true) : byN σ n q < 8 := spB_lt σ hg _ q _ (Nat.le_refl _) h
theorem lbN_lt (hg : good σ) (p : Nat) : ∀ n, lbN σ p n = 99 ∨ lbN σ p n < 8
  | 0 => Or.inl rfl
  | n + 1 => by
    unfold lbN
    split
    · rename_i c; exact Or.inr (byN_lt hg c)
    · exact lbN_lt hg p n
theorem Wk.A {u : Nat → Nat} (h : WkU w σ u) : w.1 4 3 = nI (sA σ) := h.2.2.2.1
theorem Wk.T {u : Nat → Nat} (h : WkU w σ u) : w.1 4 4 = nI (sD σ - sA σ) := h.2.2.2.2.1
/-- the class sets out from now -/
theorem c_outNow (hC : CoIs w 1 σ) (hg : good σ) : ∃ w1, fX8_setOut 1 w = some w1 ∧ WkIs w1 σ ∧ CoIs w1 1 σ ∧ Cq w w1 := by
  obtain ⟨v1, a1, a2⟩ := c_setOut co1 hC hg
  have f1 : Cq w v1 := Cq.of (rX8_setOut a1) (by decide)
  exact ⟨v1, a1, a2, hC.eq (f1.at 1 rfl) (f1.at 13 rfl) (f1.at 14 rfl) (f1.at 15 rfl) (f1.at 16 rfl), f1⟩
/-- minute n of the class's walk -/
theorem c_minuteN (hW : WkIs w σ) (hg : good σ) {n : Nat} (hn : n < sD σ - sA σ) : ∃ w1, fX8_minuteAt w (nI (sA σ + n)) (nI (run σ (sA σ) (sL σ) n)) = some (nI (run σ (sA σ) (sL σ) (n + 1)), w1) ∧ w1.1 4 5 = nI (run σ (sA σ) (sL σ) n &&& uns σ (sA σ + n)) ∧ w1.1 4 6 = nI (frN σ n) ∧ (∀ q, w1.1 25 q = if (frN σ n).testBit q then nI (byN σ n q) else w.1 25 q) ∧ WkIs w1 σ ∧ Cq w w1 := by
  obtain ⟨v, a1, a2, a3, a4, a5⟩ := c_minute hW hg (runU_lt (u := uns σ) (a := sA σ) hg hg.L n) (show sA σ ≤ sA σ + n by omega) (by omega)
  exact ⟨v, a1, a2, a3, a4, a5, Cq.of (rX8_minuteAt a1) (by decide)⟩
theorem cv_pos {a : Nat} (h : a < 99) : cvI a = nI a := by unfold cvI; rw [if_neg (by omega)]
theorem c_lastLighter (hC : CoIs w 1 σ) (hg : good σ) {p k : Nat} (hp : p < sP σ) (hk : k ≤ 24) : ∃ w1, fX4_lastLighter w (nI p) (nI k) = some (cvI (lbN σ p (min k (sD σ - sA σ))), w1) := by
  have hD := hg.D
  have h8 := hg.P
  obtain ⟨v, a1, a2, a3, a4⟩ := c_outNow hC hg
  unfold fX4_lastLighter
  rw [a1, bd_e, a3.L, lt_e, Wk.T a2, n_min (by omega) (by omega), lt_e]
  have main : ∃ x, iter (fun s : Int32 × Int32 × Int32 × Wd => fX4_lastLighter_b39 (nI (min k (sD σ - sA σ))) (nI p) s.1 s.2.1 s.2.2.1 s.2.2.2) FU (-9, nI (sL σ), 0, v) = some x ∧ x.1 = cvI (lbN σ p (min k (sD σ - sA σ))) := by
    refine itn (fun n s => s.1 = cvI (lbN σ p n) ∧ s.2.1 = nI (run σ (sA σ) (sL σ) n) ∧ s.2.2.1 = nI n ∧ WkIs s.2.2.2 σ) _ (min k (sD σ - sA σ)) ⟨rfl, rfl, rfl, a2⟩ ?_ ?_ (by omega)
    · rintro n ⟨x, y, z, u⟩ hn ⟨e1, e2, e3, e4⟩
      dsimp only at e1 e2 e3 e4
      subst e1; subst e2; subst e3
      obtain ⟨u1, b1, b2, b3, b4, b5, b6⟩ := c_minuteN e4 hg (n := n) (by omega)
      have hf := lt256 (fresh_lt hg (nd (run σ (sA σ) (sL σ) n) (uns σ (sA σ + n)))) h8
      refine ⟨(cvI (lbN σ p (n + 1)), nI (run σ (sA σ) (sL σ) (n + 1)), nI (n + 1), u1), ?_, rfl, rfl, rfl, b5⟩
      show fX4_lastLighter_b39 _ _ _ _ _ _ = _
      unfold fX4_lastLighter_b39
      rw [if_neg (by rw [n_le (by omega) (by omega)]; omega), Wk.A e4, n_add, b1, bd_e, un2_e, b3, hasc (show frN σ n < 2 ^ 31 by unfold frN; omega) (by omega)]
      show _ = some (Sum.inl (cvI (if (frN σ n).testBit p then byN σ n p else lbN σ p n), _, _, _))
      by_cases c : (frN σ n).testBit p = true
      · have := byN_lt hg c
        rw [if_pos c, if_neg (by decide), if_pos c, gdn (by omega) (by decide), n_cl (by omega), b4 p, if_pos c, lt_e, lt_e, nI_1, cv_pos (by omega)]
      · rw [if_neg c, if_pos rfl, if_neg c, lt_e, nI_1]
    · rintro ⟨x, y, z, u⟩ ⟨e1, e2, e3, e4⟩
      dsimp only at e1 e2 e3 e4
      subst e1; subst e2; subst e3
      refine ⟨(cvI (lbN σ p (min k (sD σ - sA σ))), u), ?_, rfl⟩
      show fX4_lastLighter_b39 _ _ _ _ _ _ = _
      unfold fX4_lastLighter_b39
      rw [if_pos (by rw [n_le (by omega) (by omega)]; omega)]
  obtain ⟨⟨x, y⟩, m1, m2⟩ := main
  dsimp only at m2
  rw [m1, bd_e, un2_e, m2]
  exact ⟨_, rfl⟩
theorem q_litBy (h : R w σ) (x y : Int32) : Ans (fX9_litBy w x y) (fun v => fX10_litBy v x y) := by
  have hD := h.g.D
  have h8 := h.g.P
  rcases who h x with ⟨a, b⟩ | ⟨a, b, p, hp, rfl⟩
  · exact Ans.nof h 1 (by decide) (by decide) (by unfold fX9_litBy; simp only [a, if_pos, rf1, rf2, rf3, rf4, rf6, bd_e, un2_e] <;> rfl) (fun v e => by unfold fX10_litBy; simp only [b v e, if_pos, lt_e, if_neg (show ¬ (-1 : Int32) = 0 by decide), e _ (show (42 : Nat) ≠ 12 by decide), no1, no2, no3, no4, no6, bd_e, un2_e] <;> rfl)
  · rcases arg y 25 with hx | hx | ⟨n, hn, rfl⟩
    · have a1 := lo_ge hx
      exact Ans.nof h 4 (by decide) (by decide) (by unfold fX9_litBy; simp only [a, if_neg a1, if_neg (show ¬ (1 : Int32) = 0 by decide), rf1, rf2, rf3, rf4, rf6, bd_e, un2_e] <;> rfl) (fun v e => by unfold fX10_litBy fX10_bound; simp only [b v (by rw [e 42 (by decide)]), if_neg a1, lt_e, if_neg (show ¬ (1 : Int32) = 0 by decide), if_neg (show ¬ (-4 : Int32) = 0 by decide), e _ (show (42 : Nat) ≠ 12 by decide), no1, no2, no3, no4, no6, bd_e, un2_e] <;> rfl)
    · have a1 := hi_ge hx (by decide)
      have a2 : ¬ y ≤ 24 := hi_le (m := 24) hx (by decide)
      exact Ans.nof h 6 (by decide) (by decide) (by unfold fX9_litBy; simp only [a, if_pos a1, if_neg a2, if_neg (show ¬ (1 : Int32) = 0 by decide), rf1, rf2, rf3, rf4, rf6, bd_e, un2_e] <;> rfl) (fun v e => by unfold fX10_litBy fX10_bound; simp only [b v (by rw [e 42 (by decide)]), if_pos a1, if_neg a2, lt_e, if_neg (show ¬ (1 : Int32) = 0 by decide), if_neg (show ¬ (-6 : Int32) = 0 by decide), e _ (show (42 : Nat) ≠ 12 by decide), no1, no2, no3, no4, no6, bd_e, un2_e] <;> rfl)
    · have a1 : (0 : Int32) ≤ nI n := nI_pos' (by omega)
      have a2 : nI n ≤ 24 := by rw [c24, n_le (by omega) (by decide)]; omega
      refine Ans.q (r := cvI (lbN σ p (min n (sD σ - sA σ)))) h ?_ fun v hv => ?_
      · obtain ⟨v, e⟩ := c_lastLighter h.c h.g hp (show n ≤ 24 by omega)
        refine ⟨v, ?_, Cq.of (rX4_lastLighter e) (by decide)⟩
        unfold fX9_litBy
        rw [a, if_neg (by decide), if_pos a1, if_pos a2, e, bd_e, un2_e]
      · obtain ⟨v1, b1, b2, -⟩ := g_save1 hv.o
        have lp : ∃ x, iter (fun s : Int32 × Wd => fX10_litBy_b39 s.1 s.2) FU (0, v1) = some x ∧ (∀ i, i ≠ 54 → x.1 i = v1.1 i) ∧ (∀ q, q < 8 → x.1 54 q = -9) := by
          refine itn (fun m s => s.1 = nI m ∧ (∀ i, i ≠ 54 → s.2.1 i = v1.1 i) ∧ ∀ q, q < m → s.2.1 54 q = -9) _ 8 ⟨rfl, fun _ _ => rfl, fun q hq => absurd hq (Nat.not_lt_zero _)⟩ ?_ ?_ (by decide)
          · rintro m ⟨x, u⟩ hm ⟨e1, e2, e3⟩
            dsimp only at e1 e2 e3
            subst e1
            refine ⟨(nI (m + 1), upI u 54 m (-9)), ?_, rfl, fun i hi => (upI_o _ _ _ _ hi).trans (e2 i hi), fun q hq => ?_⟩
            · show fX10_litBy_b39 _ _ = _
              unfold fX10_litBy_b39
              rw [if_neg (by rw [c8, n_le (by decide) (by omega)]; omega), gdn hm (by decide), n_cl (by omega), lt_e, lt_e, nI_1]
            · by_cases d : q = m
              · subst d; exact upI_s _ _ _ _
              · exact (upI_k _ _ _ _ d).trans (e3 q (by omega))
          · rintro ⟨x, u⟩ ⟨e1, e2, e3⟩
            dsimp only at e1 e2 e3
            subst e1
            refine ⟨u, ?_, e2, e3⟩
            show fX10_litBy_b39 _ _ = _
            unfold fX10_litBy_b39
            rw [if_pos (show (8 : Int32) ≤ nI 8 by decide)]
        obtain ⟨v2, l1, l2, l3⟩ := lp
        have hG2 : Gk v 1 σ 0 v2 := by
          obtain ⟨t1, t2, t3, t4⟩ := b2
          refine ⟨⟨?_, ?_, ?_, ?_, ?_, ?_⟩, t2.keep fun q _ _ => by rw [l2 53 (by decide)], ?_, fun q hq => by rw [l2 53 (by decide)]; exact t4 q hq⟩
          · rw [l2 44 (by decide)]; exact t1.1
          · rw [l2 42 (by decide)]; exact t1.2.1
          · rw [l2 45 (by decide)]; exact t1.2.2.1
          · rw [l2 46 (by decide)]; exact t1.2.2.2.1
          · rw [l2 47 (by decide)]; exact t1.2.2.2.2.1
          · rw [l2 48 (by decide)]; exact t1.2.2.2.2.2
          · intro i j hij
            have : i ≠ 54 := fun e => by subst e; exact absurd hij (by unfold mqP; simp [mqA])
            rw [l2 i this]
            exact t3 i j hij
        have main : ∃ x, iter (fun s : Int32 × Wd => fX10_goesAhead_b2 (nI n) s.1 s.2) FU (0, v2) = some x ∧ Gk v 1 σ (min n (sD σ - sA σ)) x ∧ x.1 54 p = cvI (lbN σ p (min n (sD σ - sA σ))) := by
          refine itn (fun m s => s.1 = nI m ∧ Gk v 1 σ m s.2 ∧ s.2.1 54 p = cvI (lbN σ p m)) _ (min n (sD σ - sA σ)) ⟨rfl, hG2, l3 p (by omega)⟩ ?_ ?_ (by omega)
          · rintro m ⟨x, u⟩ hm ⟨e1, e2, e3⟩
            dsimp only at e1 e2 e3
            subst e1
            obtain ⟨u1, d1, d2, d3, -⟩ := g_step hv.g hv.m2 (n := m) (by omega) e2
            refine ⟨(nI (m + 1), u1), ?_, rfl, d2, ?_⟩
            · show fX10_goesAhead_b2 _ _ _ = _
              unfold fX10_goesAhead_b2
              rw [if_neg (by rw [n_le (by omega) (by omega)]; omega), if_neg (e2.go hv.g (by omega)), d1, bd_e, lt_e, nI_1]
            · dsimp only
              rw [d3 p]
              show _ = cvI (if (frN σ m).testBit p then byN σ m p else lbN σ p m)
              by_cases c : (frN σ m).testBit p = true
              · have := byN_lt hv.g c
                rw [if_pos c, cv_pos (by omega)]
                rw [if_pos (show (fresh σ (nd (run σ (sA σ) (sL σ) m) (uns σ (sA σ + m)))).testBit p = true from c)]; rfl
              · rw [if_neg c, if_neg (show ¬ (fresh σ (nd (run σ (sA σ) (sL σ) m) (uns σ (sA σ + m)))).testBit p = true from c)]; exact e3
          · rintro ⟨x, u⟩ ⟨e1, e2, e3⟩
            dsimp only at e1 e2 e3
            subst e1
            refine ⟨u, ?_, e2, e3⟩
            show fX10_goesAhead_b2 _ _ _ = _
            unfold fX10_goesAhead_b2
            by_cases c : n ≤ sD σ - sA σ
            · rw [if_pos (by rw [n_le (by omega) (by omega)]; omega)]
            · have e5 : min n (sD σ - sA σ) = sD σ - sA σ := by omega
              rw [if_neg (by rw [n_le (by omega) (by omega)]; omega)]
              rw [e5] at e2
              rw [if_pos (e2.end hv.g)]
        obtain ⟨v3, m1, m2, m3⟩ := main
        obtain ⟨v4, f1, f2, f3, -, f5, -⟩ := g_rest1 m2
        refine ⟨v4, ?_, f2, f3⟩
        show fX10_litBy v (nI p) (nI n) = _
        unfold fX10_litBy fX10_bound fX10_goesAhead
        rw [isP hv.o hv.g hp, if_neg (by decide), if_pos a1, if_pos a2, lt_e, if_pos rfl, b1, bd_e, l1, bd_e, m1, bd_e, bd_e, f1, bd_e, gdn (by omega) (by decide), n_cl (by omega), f5 54 (by omega), m3]
end

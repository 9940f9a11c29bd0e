/-! wax -/
/-- the sets below l that agree: how many, the first (999: none) -/
def waN (σ : St) (ok : Nat → Bool) : Nat → Nat × Nat
  | 0 => (0, 999)
  | l + 1 => if nd l (grown σ) = 0 ∧ ok l = true then ((waN σ ok l).1 + 1, if (waN σ ok l).1 = 0 then l else (waN σ ok l).2) else waN σ ok l
def okW (σ : St) (vals : Nat → Nat) (l : Nat) : Bool := decide (∀ p, p < sP σ → dfN (run σ (sA σ) l) p (sD σ - sA σ) = vals p)
section
variable {w w1 w2 : Wd} {σ τ : St} {b : Nat} {u : Nat → Nat} {vals : Nat → Nat}
theorem waN_le (σ : St) (ok : Nat → Bool) : ∀ l, (waN σ ok l).1 ≤ l ∧ ((waN σ ok l).2 = 999 ∨ (waN σ ok l).2 < l)
  | 0 => ⟨Nat.le_refl _, Or.inl rfl⟩
  | l + 1 => by
    obtain ⟨h1, h2⟩ := waN_le σ ok l
    unfold waN
    split
    · refine ⟨by dsimp only; omega, ?_⟩
      dsimp only
      split
      · exact Or.inr (by omega)
      · omega
    · exact ⟨by omega, by omega⟩
theorem waN_stay (σ : St) (ok : Nat → Bool) : ∀ k, waN σ ok (grown σ + 1 + k) = waN σ ok (grown σ + 1)
  | 0 => rfl
  | k + 1 => by
    show waN σ ok (grown σ + 1 + k + 1) = _
    rw [waN, if_neg (by rintro ⟨h, -⟩; have := nd_le h; omega), waN_stay σ ok k]
theorem c_agrees (hW : WkIs w σ) (hg : good σ) {l : Nat} (hl : l < 2 ^ sP σ) (hv : ∀ k, k < sP σ → w.1 34 k = nI (vals k)) (hv2 : ∀ k, vals k < 100) : ∃ w1, fX4_agrees w (nI l) = some (if okW σ vals l = true then 1 else 0, w1) ∧ WkIs w1 σ ∧ Kc w w1 := by
  have h8 := hg.P
  have hD := hg.D
  obtain ⟨v, a1, a2, a3⟩ := c_walkOn hW hg hl
  have k1 : Kc w v := Kc.of (rX8_walkOn a1) (by decide)
  have hr8 : ∀ m, run σ (sA σ) l m < 256 := fun m => lt256 (runU_lt hg hl m) h8
  unfold fX4_agrees
  rw [a1, bd_e]
  have main : ∃ x, iter (fun s : Int32 => fX4_agrees_b10 v s) FU (0 : Int32) = some x ∧ x = ((if okW σ vals l = true then (1 : Int32) else 0), v) := by
    refine it (fun p s => s = nI p ∧ ∀ q, q < p → dfN (run σ (sA σ) l) q (sD σ - sA σ) = vals q) _ (sP σ) ⟨rfl, fun q hq => absurd hq (Nat.not_lt_zero _)⟩ ?_ ?_ (by omega)
    · rintro p s hp ⟨e1, e2⟩
      subst e1
      have hd := dfN_le (run σ (sA σ) l) p (sD σ - sA σ)
      have hvp := hv2 p
      have hde := c_darkEnds (w := v) (r := run σ (sA σ) l) (T := sD σ - sA σ) (p := p) (by omega) (Wk.T a3) a2 hr8 (by omega)
      have e34 : v.1 34 p = nI (vals p) := by rw [k1 34 (by decide)]; exact hv p hp
      by_cases c : dfN (run σ (sA σ) l) p (sD σ - sA σ) = vals p
      · refine Or.inl ⟨nI (p + 1), ?_, rfl, fun q hq => ?_⟩
        · show fX4_agrees_b10 _ _ = _
          unfold fX4_agrees_b10
          rw [a3.1, if_neg (by rw [n_le (by omega) (by omega)]; omega), hde, bd_e, gdn (by omega) (by decide), n_cl (by omega), e34, if_pos (by rw [c]), nI_1, lt_e]
        · by_cases d : q = p
          · subst d; exact c
          · exact e2 q (by omega)
      · refine Or.inr ⟨(0, v), ?_, ?_⟩
        · show fX4_agrees_b10 _ _ = _
          unfold fX4_agrees_b10
          rw [a3.1, if_neg (by rw [n_le (by omega) (by omega)]; omega), hde, bd_e, gdn (by omega) (by decide), n_cl (by omega), e34, if_neg (by rw [n_eq (by omega) (by omega)]; exact c)]
        · have : ¬ okW σ vals l = true := fun h => c (of_decide_eq_true h p hp)
          rw [if_neg this]
    · rintro s ⟨e1, e2⟩
      subst e1
      refine ⟨(1, v), ?_, ?_⟩
      · show fX4_agrees_b10 _ _ = _
        unfold fX4_agrees_b10
        rw [a3.1, if_pos (by rw [n_le (by omega) (by omega)]; omega)]
      · have : okW σ vals l = true := decide_eq_true e2
        rw [if_pos this]
  obtain ⟨x, m1, m2⟩ := main
  exact ⟨v, by rw [m1, m2], a3, k1⟩
theorem cv9_up {l : Nat} (h : l < 999) : cv9 l = nI l := by unfold cv9; rw [if_neg (by omega)]
theorem c_findWax (hC : CoIs w 1 σ) (hg : good σ) (hv : ∀ k, k < sP σ → w.1 34 k = nI (vals k)) (hv2 : ∀ k, vals k < 100) : ∃ w1, fX4_findWaxSets w = some w1 ∧ w1.1 8 0 = nI (waN σ (okW σ vals) (grown σ + 1)).1 ∧ w1.1 8 1 = cv9 (waN σ (okW σ vals) (grown σ + 1)).2 := by
  have h8 := hg.P
  have hG := lt256 (grown_lt (σ := σ)) h8
  obtain ⟨v, a1, a2, a3, a4⟩ := c_outNow hC hg
  unfold fX4_findWaxSets
  rw [a1, bd_e, lt_e, lt_e]
  have a2' : WkIs (upI (upI v 8 0 0) 8 1 (-9)) σ := WkU.keep a2 (l := [all_ 8]) ((Agree.rf.pI rfl (Or.inr (List.mem_singleton.mpr rfl))).pI rfl (Or.inr (List.mem_singleton.mpr rfl))) (by decide)
  have hv0 : ∀ k, k < sP σ → (upI (upI v 8 0 0) 8 1 (-9)).1 34 k = nI (vals k) := fun k hk => by
    rw [upI_o _ _ _ _ (by decide), upI_o _ _ _ _ (by decide), a4.at 34 rfl]; exact hv k hk
  have main : ∃ x, iter (fun s : Int32 × Wd => fX4_findWaxSets_b24 s.1 s.2) FU (0, upI (upI v 8 0 0) 8 1 (-9)) = some x ∧ x.1 8 0 = nI (waN σ (okW σ vals) (grown σ + 1)).1 ∧ x.1 8 1 = cv9 (waN σ (okW σ vals) (grown σ + 1)).2 := by
    refine itn (fun l (s : Int32 × Wd) => s.1 = nI l ∧ WkIs s.2 σ ∧ (∀ k, k < sP σ → s.2.1 34 k = nI (vals k)) ∧ s.2.1 8 0 = nI (waN σ (okW σ vals) l).1 ∧ s.2.1 8 1 = cv9 (waN σ (okW σ vals) l).2) _ (grown σ + 1) ⟨rfl, a2', hv0, ?_, ?_⟩ ?_ ?_ (by omega)
    · dsimp only
      rw [upI_k _ _ _ _ (by decide), upI_s]; rfl
    · dsimp only
      rw [upI_s]; rfl
    · rintro l ⟨x, u⟩ hl ⟨e1, e2, e3, e4, e5⟩
      dsimp only at e1 e2 e3 e4 e5
      subst e1
      obtain ⟨wl1, wl2⟩ := waN_le σ (okW σ vals) l
      have hndl : nd l (grown σ) < 2 ^ 31 := by
        have : nd l (grown σ) < 2 ^ 8 := nd_lt (by omega)
        omega
      have hGlt : ¬ nI (grown σ) < nI l := by rw [n_lt (by omega) (by omega)]; omega
      have e7 : waN σ (okW σ vals) (l + 1) = if nd l (grown σ) = 0 ∧ okW σ vals l = true then ((waN σ (okW σ vals) l).1 + 1, if (waN σ (okW σ vals) l).1 = 0 then l else (waN σ (okW σ vals) l).2) else waN σ (okW σ vals) l := rfl
      by_cases d : nd l (grown σ) = 0
      · obtain ⟨s1, s2⟩ := sub_grown.mp d
        obtain ⟨u1, b1, b2, b3⟩ := c_agrees e2 hg s1 e3 hv2
        have f34 : ∀ k, k < sP σ → u1.1 34 k = nI (vals k) := fun k hk => by rw [b3 34 (by decide)]; exact e3 k hk
        have f0 : u1.1 8 0 = nI (waN σ (okW σ vals) l).1 := by rw [b3 8 (by decide)]; exact e4
        have f1 : u1.1 8 1 = cv9 (waN σ (okW σ vals) l).2 := by rw [b3 8 (by decide)]; exact e5
        by_cases k : okW σ vals l = true
        · rw [e7, if_pos (show nd l (grown σ) = 0 ∧ okW σ vals l = true from ⟨d, k⟩)]
          have up8 : ∀ {y : Wd} (f : Nat) (x : Int32), WkIs y σ → WkIs (upI y 8 f x) σ := fun {y} f x hy => WkU.keep hy (l := [all_ 8]) (Agree.rf.pI rfl (Or.inr (List.mem_singleton.mpr rfl))) (by decide)
          by_cases z : (waN σ (okW σ vals) l).1 = 0
          · refine ⟨(nI (l + 1), upI (upI u1 8 1 (nI l)) 8 0 (nI (0 + 1))), ?_, rfl, up8 _ _ (up8 _ _ b2), fun q hq => ?_, ?_, ?_⟩
            · show fX4_findWaxSets_b24 _ _ = _
              unfold fX4_findWaxSets_b24 fX4_findWaxSets_j70
              rw [e2.2.1, if_neg hGlt, n_nd, if_pos (by rw [d]; rfl), b1, bd_e, un2_e, if_pos k, if_neg (by decide), f0, z, if_pos (show nI 0 = 0 from rfl), lt_e, upI_k _ _ _ _ (by decide), f0, z, nI_1, lt_e, nI_1, lt_e]
            · dsimp only
              rw [upI_o _ _ _ _ (by decide), upI_o _ _ _ _ (by decide)]; exact f34 q hq
            · dsimp only
              rw [upI_s, z]
            · dsimp only
              rw [upI_k _ _ _ _ (by decide), upI_s, if_pos z, cv9_up (l := l) (by omega)]
          · refine ⟨(nI (l + 1), upI u1 8 0 (nI ((waN σ (okW σ vals) l).1 + 1))), ?_, rfl, up8 _ _ b2, fun q hq => ?_, ?_, ?_⟩
            · show fX4_findWaxSets_b24 _ _ = _
              unfold fX4_findWaxSets_b24 fX4_findWaxSets_j70
              rw [e2.2.1, if_neg hGlt, n_nd, if_pos (by rw [d]; rfl), b1, bd_e, un2_e, if_pos k, if_neg (by decide), f0, if_neg (by rw [c0, n_eq (by omega) (by decide)]; exact z), nI_1, lt_e, nI_1, lt_e]
            · dsimp only
              rw [upI_o _ _ _ _ (by decide)]; exact f34 q hq
            · dsimp only
              rw [upI_s]
            · dsimp only
              rw [upI_k _ _ _ _ (by decide), if_neg z, f1]
        · rw [e7, if_neg (fun h => k h.2)]
          refine ⟨(nI (l + 1), u1), ?_, rfl, b2, f34, f0, f1⟩
          show fX4_findWaxSets_b24 _ _ = _
          unfold fX4_findWaxSets_b24
          rw [e2.2.1, if_neg hGlt, n_nd, if_pos (by rw [d]; rfl), b1, bd_e, un2_e, if_neg k, if_pos rfl, nI_1, lt_e]
      · rw [e7, if_neg (fun h => d h.1)]
        refine ⟨(nI (l + 1), u), ?_, rfl, e2, e3, e4, e5⟩
        show fX4_findWaxSets_b24 _ _ = _
        unfold fX4_findWaxSets_b24
        rw [e2.2.1, if_neg hGlt, n_nd, if_neg (by rw [c0, n_eq hndl (by decide)]; exact d), nI_1, lt_e]
    · rintro ⟨x, u⟩ ⟨e1, e2, e3, e4, e5⟩
      dsimp only at e1 e2 e3 e4 e5
      subst e1
      refine ⟨u, ?_, e4, e5⟩
      show fX4_findWaxSets_b24 _ _ = _
      unfold fX4_findWaxSets_b24
      rw [e2.2.1, if_pos (by rw [n_lt (by omega) (by omega)]; omega)]
  obtain ⟨x, m1, m2, m3⟩ := main
  exact ⟨x, by rw [m1, bd_e], m2, m3⟩
-- the reference
theorem m_isWax (hM : MoIs w σ) (hg : good σ) (hm : sM σ ≤ 1200) {l : Nat} (hl : l < 2 ^ sP σ) (hs : NoSm σ l) (hv : ∀ k, k < sP σ → w.1 67 k = nI (vals k)) (hv2 : ∀ k, vals k < 100) : ∃ w1, fX10_isWax w (nI l) = some (if okW σ vals l = true then 1 else 0, w1) ∧ MoIs w1 σ ∧ Mq w w1 ∧ w1.1 67 = w.1 67 := by
  have h8 := hg.P
  have hD := hg.D
  obtain ⟨v, a1, a2, a3, a4, a5, a6, a7, -⟩ := m_save1 hM
  have hgl : good (wr σ 1 l) := hg.lit hl hs
  have hrun : ∀ n, run (wr σ 1 l) (sA σ) l n = run σ (sA σ) l n := fun n => runU_eq (σ := wr σ 1 l) (τ := σ) rfl rfl rfl rfl _ _ _ _
  have hrun2 : run (wr σ 1 l) (sA (wr σ 1 l)) (sL (wr σ 1 l)) = run σ (sA σ) l := funext hrun
  have hq : Mq v (upI v 42 7 (nI l)) := Mq.of (l := [at_ 42 7]) (Agree.rf.pI rfl (Or.inl (List.mem_singleton.mpr rfl))) (by decide)
  have main : ∃ x, iter (fun s : Int32 × Int32 × Wd => fX10_isWax_b15 s.1 s.2.1 s.2.2) FU (1, 0, upI v 42 7 (nI l)) = some x ∧ x.1 = (if okW σ vals l = true then (1 : Int32) else 0) ∧ Kept x.2 1 σ ∧ Mq w x.2 ∧ x.2.1 67 = w.1 67 := by
    refine it (fun p (s : Int32 × Int32 × Wd) => s.2.1 = nI p ∧ MoIs s.2.2 (wr σ 1 l) ∧ Kept s.2.2 1 σ ∧ Mq w s.2.2 ∧ s.2.2.1 67 = w.1 67 ∧ ((s.1 = 1 ∧ ∀ q, q < p → dfN (run σ (sA σ) l) q (sD σ - sA σ) = vals q) ∨ (s.1 = 0 ∧ ∃ q, q < sP σ ∧ dfN (run σ (sA σ) l) q (sD σ - sA σ) ≠ vals q))) _ (sP σ) ⟨rfl, a2.wL l, a3.keep fun q _ _ => rfl, a4.tr hq, ?_, Or.inl ⟨rfl, fun q hq => absurd hq (Nat.not_lt_zero _)⟩⟩ ?_ ?_ (by omega)
    · show v.1 67 = _
      exact a6 67 (by decide) (by decide)
    · rintro p ⟨x, y, u⟩ hp ⟨e1, e2, e3, e4, e5, e6⟩
      dsimp only at e1 e2 e3 e4 e5 e6
      subst e1
      have gP : u.1 42 6 = nI (sP σ) := e2.P
      rcases e6 with ⟨rfl, e6⟩ | ⟨rfl, e6⟩
      · obtain ⟨u1, b1, b2, b3, b4⟩ := m_darkEnds e2 hgl hm (p := p) (by omega)
        rw [hrun2] at b1
        have b1' : fX10_darkEnds u (nI p) = some (nI (dfN (run σ (sA σ) l) p (sD σ - sA σ)), u1) := b1
        have hd := dfN_le (run σ (sA σ) l) p (sD σ - sA σ)
        have hvp := hv2 p
        have f67 : u1.1 67 = w.1 67 := by rw [((rX10_darkEnds b1).cell 67 (by decide)).1]; exact e5
        refine Or.inl ⟨((if dfN (run σ (sA σ) l) p (sD σ - sA σ) = vals p then 1 else 0), nI (p + 1), u1), ?_, rfl, b2, e3.kk b3 (by decide), e4.tr b4, f67, ?_⟩
        · show fX10_isWax_b15 _ _ _ = _
          unfold fX10_isWax_b15
          rw [gP, if_neg (by rw [n_le (by omega) (by omega)]; omega), if_neg (show ¬ (1 : Int32) = 0 by decide), b1', bd_e, un2_e, gdn (by omega) (by decide), n_cl (by omega), f67, hv p hp]
          by_cases c : dfN (run σ (sA σ) l) p (sD σ - sA σ) = vals p
          · rw [if_pos (by rw [c]), if_pos c, lt_e, nI_1, lt_e]
          · rw [if_neg (by rw [n_eq (by omega) (by omega)]; exact c), if_neg c, lt_e, nI_1, lt_e]
        · by_cases c : dfN (run σ (sA σ) l) p (sD σ - sA σ) = vals p
          · refine Or.inl ⟨if_pos c, fun q hq => ?_⟩
            by_cases d : q = p
            · subst d; exact c
            · exact e6 q (by omega)
          · exact Or.inr ⟨if_neg c, p, hp, c⟩
      · refine Or.inr ⟨(0, u), ?_, ?_, e3, e4, e5⟩
        · show fX10_isWax_b15 _ _ _ = _
          unfold fX10_isWax_b15
          rw [gP, if_neg (by rw [n_le (by omega) (by omega)]; omega), if_pos rfl]
        · obtain ⟨q, h1, h2⟩ := e6
          have : ¬ okW σ vals l = true := fun h => h2 (of_decide_eq_true h q h1)
          rw [if_neg this]
    · rintro ⟨x, y, u⟩ ⟨e1, e2, e3, e4, e5, e6⟩
      dsimp only at e1 e2 e3 e4 e5 e6
      subst e1
      have gP : u.1 42 6 = nI (sP σ) := e2.P
      refine ⟨(x, u), ?_, ?_, e3, e4, e5⟩
      · show fX10_isWax_b15 _ _ _ = _
        unfold fX10_isWax_b15
        rw [gP, if_pos (by rw [n_le (by omega) (by omega)]; omega)]
      · rcases e6 with ⟨rfl, e6⟩ | ⟨rfl, q, h1, h2⟩
        · have : okW σ vals l = true := decide_eq_true e6
          rw [if_pos this]
        · have : ¬ okW σ vals l = true := fun h => h2 (of_decide_eq_true h q h1)
          rw [if_neg this]
  obtain ⟨⟨x, u⟩, m1, m2, m3, m4, m5⟩ := main
  dsimp only at m2 m3 m4 m5
  obtain ⟨u2, f1, f2, f3, f4, -⟩ := m_rest1 m3
  refine ⟨u2, ?_, f2, m4.tr f3, by rw [f4 67 (by decide), m5]⟩
  unfold fX10_isWax fX10_isWax_j53
  rw [a1, bd_e, lt_e, m1, bd_e, un2_e, f1, bd_e, m2, gd_t (by split <;> rfl)]
theorem m_waxSmall (hM : MoIs w σ) (hg : good σ) : iter (fun s : Int32 × Int32 => fX10_wax_b47 w s.1 s.2) FU (0, 0) = some (nI (smallM σ)) := by
  have h8 := hg.P
  refine itf (fun i => (nI (mask (fun p => sK σ p == 6) i), nI i)) (nI (smallM σ)) (sP σ) rfl (fun i hi => ?_) ?_ (by omega)
  · have hk := hg.K i
    show fX10_wax_b47 w _ _ = _
    unfold fX10_wax_b47
    have hv : (if nI (sK σ i) = 6 then (1 : Int32) <<< (nI i &&& 31) else 0) = nI (if (sK σ i == 6) = true then 2 ^ i else 0) := by
      by_cases c : sK σ i = 6
      · rw [if_pos (by rw [c]; rfl), if_pos (by simp [c]), sh_p i (by omega)]
      · rw [if_neg (by rw [c6, n_eq (by omega) (by decide)]; exact c), if_neg (by simp [c])]; rfl
    rw [hM.P, if_neg (by rw [n_le (by omega) (by omega)]; omega), gdn (by omega) (by decide), n_cl (by omega), hM.K (by omega), hv, lt_e, n_or, lt_e, nI_1, lt_e]
    rfl
  · show fX10_wax_b47 w _ _ = _
    unfold fX10_wax_b47
    rw [hM.P, if_pos (by rw [n_le (by omega) (by omega)]; omega)]
    rfl
theorem q_wax (h : R w σ) (x : Int32) : Ans (fX9_wax w x) (fun v => fX10_wax v x) := by
  have h8 := h.g.P
  have hG := lt256 (grown_lt (σ := σ)) h8
  have hGP := grown_lt (σ := σ)
  have hP2 : 2 ^ sP σ ≤ 256 := Nat.pow_le_pow_right (n := 2) (by decide) h8
  obtain ⟨n, hn, p1, p2, p3⟩ := h.ro
  rcases io1 x with ⟨i1, i2⟩ | ⟨i1, i2, p, hp, rfl⟩
  · exact Ans.nof h 2 (by decide) (by decide) (by unfold fX9_wax; simp only [i1, if_neg (show ¬ (1 : Int32) = 0 by decide), rf1, rf2, rf3, rf4, rf6, bd_e, un2_e] <;> rfl) (fun v e => by unfold fX10_wax; simp only [i2, if_pos, lt_e, if_neg (show ¬ (-2 : Int32) = 0 by decide), e _ (show (42 : Nat) ≠ 12 by decide), no1, no2, no3, no4, no6, bd_e, un2_e] <;> rfl)
  · by_cases hnP : n = sP σ
    · have hf : ∀ k, k < n → (w.1 34 k).toNatClampNeg < 100 ∧ w.1 34 k = nI (w.1 34 k).toNatClampNeg ∧ w.1 67 k = nI (w.1 34 k).toNatClampNeg := fun k hk => by
        obtain ⟨c, c1', c2', c3'⟩ := p3 k hk
        rw [c2', n_cl (by omega)]
        exact ⟨c1', rfl, c3'⟩
      obtain ⟨vals, hv34, hv67, hv2⟩ : ∃ vals : Nat → Nat, (∀ k, k < sP σ → w.1 34 k = nI (vals k)) ∧ (∀ k, k < sP σ → w.1 67 k = nI (vals k)) ∧ ∀ k, vals k < 100 := by
        refine ⟨fun k => if k < n then (w.1 34 k).toNatClampNeg else 0, fun k hk => ?_, fun k hk => ?_, fun k => ?_⟩
        · dsimp only; rw [if_pos (by omega)]; exact (hf k (by omega)).2.1
        · dsimp only; rw [if_pos (by omega)]; exact (hf k (by omega)).2.2
        · dsimp only
          by_cases c : k < n
          · rw [if_pos c]; exact (hf k c).1
          · rw [if_neg c]; decide
      obtain ⟨wl1, wl2⟩ := waN_le σ (okW σ vals) (grown σ + 1)
      obtain ⟨u, e, e2, e3⟩ := c_findWax h.c h.g hv34 hv2
      have cq : Cq w u := Cq.of (rX4_findWaxSets e) (by decide)
      have hu := h.cq cq
      have hw67 : ∀ k, k < sP σ → u.1 67 k = nI (vals k) := fun k hk => by rw [cq.ge (by decide)]; exact hv67 k hk
      have hw41 : u.1 42 41 = nI n := by rw [cq.ge (by decide)]; exact p2
      have e9 : fX9_wax w (nI p) = some (if p = 0 then nI (waN σ (okW σ vals) (grown σ + 1)).1 else cv9 (waN σ (okW σ vals) (grown σ + 1)).2, u) := by
        unfold fX9_wax
        rw [i1, if_pos rfl, p1, h.c.P, hnP, if_pos rfl, e, bd_e]
        by_cases c : p = 0
        · subst c; rw [if_pos (show nI 0 = 0 from rfl), e2, if_pos rfl]
        · rw [if_neg (by rw [c0, n_eq (by omega) (by decide)]; exact c), e3, if_neg c]
      have main : ∃ x, iter (fun s : Int32 × Int32 × Int32 × Wd => fX10_wax_b95 (nI (smallM σ)) s.1 s.2.1 s.2.2.1 s.2.2.2) FU (0, (-9), 0, u) = some x ∧ x.1 = nI (waN σ (okW σ vals) (2 ^ sP σ)).1 ∧ x.2.1 = cv9 (waN σ (okW σ vals) (2 ^ sP σ)).2 ∧ MoIs x.2.2 σ ∧ Mq u x.2.2 := by
        refine itn (fun l (s : Int32 × Int32 × Int32 × Wd) => s.1 = nI (waN σ (okW σ vals) l).1 ∧ s.2.1 = cv9 (waN σ (okW σ vals) l).2 ∧ s.2.2.1 = nI l ∧ MoIs s.2.2.2 σ ∧ Mq u s.2.2.2 ∧ s.2.2.2.1 67 = u.1 67) _ (2 ^ sP σ) ⟨rfl, rfl, rfl, hu.o, Ag.rf, rfl⟩ ?_ ?_ (by omega)
        · rintro l ⟨x, y, z, s⟩ hl ⟨e1, e2, e3, e4, e5, e6⟩
          dsimp only at e1 e2 e3 e4 e5 e6
          subst e1; subst e2; subst e3
          obtain ⟨wl1, wl2⟩ := waN_le σ (okW σ vals) l
          have hbnd : ¬ (1 : Int32) <<< (nI (sP σ) &&& 31) ≤ nI l := by rw [sh_p _ (by omega), n_le (by omega) (by omega)]; omega
          have hsl : smallM σ < 256 := lt256 smallM_lt h8
          have hands : l &&& smallM σ < 2 ^ 31 := by
            have : l &&& smallM σ < 2 ^ 8 := Nat.and_lt_two_pow _ (by omega)
            omega
          have e7 : waN σ (okW σ vals) (l + 1) = if nd l (grown σ) = 0 ∧ okW σ vals l = true then ((waN σ (okW σ vals) l).1 + 1, if (waN σ (okW σ vals) l).1 = 0 then l else (waN σ (okW σ vals) l).2) else waN σ (okW σ vals) l := rfl
          by_cases d : NoSm σ l
          · have d0 : nI l &&& nI (smallM σ) = 0 := by rw [n_and, (and_small hl).mpr d]; rfl
            have dnd : nd l (grown σ) = 0 := sub_grown.mpr ⟨hl, d⟩
            obtain ⟨s1, b1, b2, b3, b4⟩ := m_isWax e4 h.g h.m2 hl d (fun k hk => by rw [e6]; exact hw67 k hk) hv2
            by_cases k : okW σ vals l = true
            · refine ⟨(nI ((waN σ (okW σ vals) l).1 + 1), cv9 (if (waN σ (okW σ vals) l).1 = 0 then l else (waN σ (okW σ vals) l).2), nI (l + 1), s1), ?_, ?_, ?_, rfl, b2, e5.tr b3, b4.trans e6⟩
              · show fX10_wax_b95 _ _ _ _ _ = _
                unfold fX10_wax_b95
                rw [e4.P, if_neg hbnd, if_pos d0, b1, bd_e, un2_e, if_pos k, if_neg (by decide)]
                by_cases z : (waN σ (okW σ vals) l).1 = 0
                · rw [if_pos (by rw [z]; rfl), if_pos z, lt_e, nI_1, lt_e, nI_1, lt_e, cv9_up (l := l) (by omega)]
                · rw [if_neg (by rw [c0, n_eq (by omega) (by decide)]; exact z), if_neg z, lt_e, nI_1, lt_e, nI_1, lt_e]
              · rw [e7, if_pos (show nd l (grown σ) = 0 ∧ okW σ vals l = true from ⟨dnd, k⟩)]
              · rw [e7, if_pos (show nd l (grown σ) = 0 ∧ okW σ vals l = true from ⟨dnd, k⟩)]
            · rw [e7, if_neg (fun h => k h.2)]
              refine ⟨(nI (waN σ (okW σ vals) l).1, cv9 (waN σ (okW σ vals) l).2, nI (l + 1), s1), ?_, rfl, rfl, rfl, b2, e5.tr b3, b4.trans e6⟩
              show fX10_wax_b95 _ _ _ _ _ = _
              unfold fX10_wax_b95
              rw [e4.P, if_neg hbnd, if_pos d0, b1, bd_e, un2_e, if_neg k, if_pos rfl, nI_1, lt_e]
          · rw [e7, if_neg (fun h => d (sub_grown.mp h.1).2)]
            refine ⟨(nI (waN σ (okW σ vals) l).1, cv9 (waN σ (okW σ vals) l).2, nI (l + 1), s), ?_, rfl, rfl, rfl, e4, e5, e6⟩
            show fX10_wax_b95 _ _ _ _ _ = _
            unfold fX10_wax_b95
            rw [e4.P, if_neg hbnd, n_and, if_neg (by rw [c0, n_eq hands (by decide), and_small hl]; exact d), nI_1, lt_e]
        · rintro ⟨x, y, z, s⟩ ⟨e1, e2, e3, e4, e5, e6⟩
          dsimp only at e1 e2 e3 e4 e5 e6
          subst e1; subst e2; subst e3
          refine ⟨(nI (waN σ (okW σ vals) (2 ^ sP σ)).1, cv9 (waN σ (okW σ vals) (2 ^ sP σ)).2, s), ?_, rfl, rfl, e4, e5⟩
          show fX10_wax_b95 _ _ _ _ _ = _
          unfold fX10_wax_b95
          rw [e4.P, sh_p _ (by omega), if_pos (Int32.le_refl _)]
      obtain ⟨⟨x, y, s⟩, m1, m2, m3, m4, m5⟩ := main
      dsimp only at m2 m3 m4 m5
      have hst := waN_stay σ (okW σ vals) (2 ^ sP σ - (grown σ + 1))
      rw [show grown σ + 1 + (2 ^ sP σ - (grown σ + 1)) = 2 ^ sP σ by omega] at hst
      rw [hst] at m2 m3
      refine ⟨_, _, s, σ, e9, ?_, hu.mq m5 m4⟩
      show fX10_wax u (nI p) = _
      unfold fX10_wax
      rw [i2, if_neg (by decide), hw41, hu.o.P, hnP, if_pos rfl, lt_e, if_pos rfl, m_waxSmall hu.o h.g, bd_e, m1, bd_e, un3_e, m2, m3]
      by_cases c : p = 0
      · subst c; rw [if_pos (show nI 0 = 0 from rfl), if_pos rfl]
      · rw [if_neg (by rw [c0, n_eq (by omega) (by decide)]; exact c), if_neg c]
    · have z1 : ¬ w.1 7 0 = w.1 1 0 := by rw [p1, h.c.P, n_eq (by omega) (by omega)]; exact hnP
      have z2 : ¬ w.1 42 41 = w.1 42 6 := by rw [p2, h.o.P, n_eq (by omega) (by omega)]; exact hnP
      exact Ans.nof h 3 (by decide) (by decide) (by unfold fX9_wax; simp only [i1, if_pos, if_neg z1, rf1, rf2, rf3, rf4, rf6, bd_e, un2_e] <;> rfl) (fun v e => by unfold fX10_wax; simp only [i2, if_neg (show ¬ (1 : Int32) = 0 by decide), if_neg z2, lt_e, if_neg (show ¬ (-3 : Int32) = 0 by decide), e _ (show (42 : Nat) ≠ 12 by decide), no1, no2, no3, no4, no6, bd_e, un2_e] <;> rfl)
end

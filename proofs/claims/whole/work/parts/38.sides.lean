/-! sides, forms -/
def wS (σ : St) (x : Nat → Nat) : St := (σ.1, σ.2.1, σ.2.2.1, σ.2.2.2.1, x)
def allS (σ : St) (s : Nat) : St := wS σ fun j => if j < 25 then s else sS σ j
def wf (σ : St) (f e : Nat) : St := (fun j => if j = 2 then f else if j = 3 then e else σ.1 j, σ.2)
section
variable {w w1 w2 : Wd} {σ τ : St} {b : Nat}
theorem good_allS (hg : good σ) {s : Nat} (hs : s < 3) : good (allS σ s) := by
  obtain ⟨a1, a2, a3, a4, a5, a6, a7, a8, a9, a10, a11, a12⟩ := hg
  refine ⟨a1, a2, a3, a4, a5, a6, a7, a8, a9, a10, a11, fun j => ?_⟩
  show (if j < 25 then s else sS σ j) < 3
  split
  · exact hs
  · exact a12 j
theorem good_wf (hg : good σ) {f e : Nat} (hf : f < 3) (he : 1 ≤ e ∧ e ≤ 2) : good (wf σ f e) := by
  obtain ⟨a1, a2, a3, a4, a5, a6, a7, a8, a9, a10, a11, a12⟩ := hg
  exact ⟨a1, a2, a3, hf, he, a6, a7, a8, a9, a10, a11, a12⟩
theorem wf_wf (σ : St) (a c f e : Nat) : wr (wr (wf σ a c) 2 f) 3 e = wf σ f e := by
  unfold wr wf
  congr 1
  funext j
  dsimp only
  by_cases h3 : j = 3
  · subst h3; rfl
  · by_cases h2 : j = 2
    · subst h2; rfl
    · simp only [if_neg h3, if_neg h2]
theorem c_blow {x : Nat → Nat} (hC : CoIs w 3 (wS σ x)) (s : Nat) : ∃ w1, fX2_blowFrom 3 w (nI s) = some w1 ∧ CoIs w1 3 (allS σ s) := by
  unfold fX2_blowFrom
  refine itnb (fun n u => u.1 = nI n ∧ (∀ k, k < 7 → u.2.1 3 k = nI (σ.1 k)) ∧ (∀ k, k < 8 → u.2.1 21 k = nI (sK σ k)) ∧ (∀ k, k < 8 → u.2.1 22 k = nI (sG σ k)) ∧ (∀ k, k < 25 → u.2.1 23 k = nI (sW σ k)) ∧ ∀ k, k < n → u.2.1 24 k = nI s) (fun x => CoIs x 3 (allS σ s)) 25 ⟨rfl, hC.1, hC.2.1, hC.2.2.1, hC.2.2.2.1, fun k hk => absurd hk (Nat.not_lt_zero _)⟩ ?_ ?_ (by decide) (fun x hx => ⟨x, rfl, hx⟩)
  · rintro n ⟨y, u⟩ hn ⟨e1, e2, e3, e4, e5, e6⟩
    dsimp only at e1 e2 e3 e4 e5 e6
    subst e1
    refine ⟨(nI (n + 1), upI u (12 + 4 * 3) n (nI s)), ?_, rfl, e2, e3, e4, e5, fun k hk => ?_⟩
    · show fX2_blowFrom_b2 _ _ _ _ = _
      unfold fX2_blowFrom_b2
      rw [if_neg (by rw [c24, n_lt (by decide) (by omega)]; omega), gdn hn (by decide), n_cl (by omega), lt_e, nI_1, lt_e]
    · by_cases d : k = n
      · subst d; exact upI_s _ 24 _ _
      · exact (upI_k _ 24 _ _ d).trans (e6 k (by omega))
  · rintro ⟨y, u⟩ ⟨e1, e2, e3, e4, e5, e6⟩
    dsimp only at e1 e2 e3 e4 e5 e6
    subst e1
    refine ⟨u, ?_, e2, e3, e4, e5, fun k hk => ?_⟩
    · show fX2_blowFrom_b2 _ _ _ _ = _
      unfold fX2_blowFrom_b2
      rw [if_pos (show (24 : Int32) < nI 25 by decide)]
    · rw [e6 k hk]
      show _ = nI (if k < 25 then s else _)
      rw [if_pos hk]
/-- the best so far, ahead of the next -/
def pS (σ : St) (s : Nat) : Nat := pop (dN (allS σ s))
theorem c_bestSide (hC : CoIs w 1 σ) (hg : good σ) : ∃ w1, fX1_bestSide w = some (fI (-9) (bs (pS σ) id (9999, 0) 3).1, w1) := by
  have h8 := hg.P
  unfold fX1_bestSide
  rw [lt_e]
  have main : ∃ x, iter (fun s : Int32 × Wd => fX1_bestSide_b7 s.1 s.2) FU (0, fX1_startSearch w (-1)) = some x ∧ x.1 10 0 = fI (-9) (bs (pS σ) id (9999, 0) 3).1 := by
    refine itn (fun n s => s.1 = nI n ∧ Cq w s.2 ∧ s.2.1 10 1 = bI (-1) (bs (pS σ) id (9999, 0) n).2 ∧ s.2.1 10 0 = fI (-9) (bs (pS σ) id (9999, 0) n).1) _ 3 ⟨rfl, ?_, rfl, rfl⟩ ?_ ?_ (by omega)
    · exact Cq.con Ag.rf fun i hi => by unfold fX1_startSearch; rw [lt_e, lt_e, upI_o _ _ _ _ hi, upI_o _ _ _ _ hi]
    · rintro n ⟨x, u⟩ hn ⟨e1, e2, e3, e4⟩
      dsimp only at e1 e2 e3 e4
      subst e1
      have hCu := e2.co1 hC
      have hC3 : CoIs (fX2_takeFrom 3 1 u) 3 σ := c_take co3 co1 (by decide) hCu
      obtain ⟨u1, b1, b2⟩ := c_blow (σ := σ) (x := sS σ) hC3 n
      have gb := good_allS hg hn
      obtain ⟨u2, d1, d2⟩ := c_countOf co3 b2 gb
      have hp := pop8 (dN_lt gb)
      have q1 : Cq u u1 := (Cq.of (l := pX2_takeFrom 3) (rX2_takeFrom rfl) (by decide)).tr (Cq.of (rX2_blowFrom b1) (by decide))
      have k10 : u2.1 10 = u.1 10 := by rw [d2 10 (by decide), ((rX2_blowFrom b1).cell 10 (by decide)).1, take_o (by decide)]
      have hb2 := bs_2 (pS σ) id (9999, 0) 9 (by decide) n (fun k hk => by have := pop8 (dN_lt (good_allS hg (s := k) (by omega))); unfold pS; omega)
      obtain ⟨t1, t2, t3⟩ := c_consider (w := u2) (m := (bs (pS σ) id (9999, 0) n).2) (k := (bs (pS σ) id (9999, 0) n).1) (f := pS σ n) (c := n) (by rw [k10]; exact e3) (by rw [k10]; exact e4) (by omega) (by unfold pS; omega) (by omega)
      refine ⟨(nI (n + 1), fX1_consider u2 (nI n) (nI (pS σ n))), ?_, rfl, Cq.con ((e2.tr q1).tr d2.cq) t3, t1, t2⟩
      show fX1_bestSide_b7 _ _ = _
      unfold fX1_bestSide_b7
      rw [if_neg (by rw [c2, n_lt (by decide) (by omega)]; omega), lt_e, b1, bd_e, d1, bd_e, un2_e, lt_e, nI_1, lt_e]
      rfl
    · rintro ⟨x, u⟩ ⟨e1, e2, e3, e4⟩
      dsimp only at e1 e2 e3 e4
      subst e1
      refine ⟨u, ?_, e4⟩
      show fX1_bestSide_b7 _ _ = _
      unfold fX1_bestSide_b7
      rw [if_pos (show (2 : Int32) < nI 3 by decide)]
  obtain ⟨x, m1, m2⟩ := main
  rw [m1, bd_e, m2]
  exact ⟨_, rfl⟩
theorem m_blow {x : Nat → Nat} (hM : MoIs w (wS σ x)) (s : Nat) : ∃ w1, iter (fun u : Int32 × Wd => fX10_sides_b21 (nI s) u.1 u.2) FU (0, w) = some w1 ∧ MoIs w1 (allS σ s) ∧ ∀ i, i ≠ 48 → w1.1 i = w.1 i := by
  refine itn (fun n u => u.1 = nI n ∧ (∀ i, i ≠ 48 → u.2.1 i = w.1 i) ∧ ∀ k, k < n → u.2.1 48 k = nI s) (fun y => MoIs y (allS σ s) ∧ ∀ i, i ≠ 48 → y.1 i = w.1 i) 25 ⟨rfl, fun _ _ => rfl, fun k hk => absurd hk (Nat.not_lt_zero _)⟩ ?_ ?_ (by decide)
  · rintro n ⟨y, u⟩ hn ⟨e1, e2, e3⟩
    dsimp only at e1 e2 e3
    subst e1
    refine ⟨(nI (n + 1), upI u 48 n (nI s)), ?_, rfl, fun i hi => (upI_o _ _ _ _ hi).trans (e2 i hi), fun k hk => ?_⟩
    · show fX10_sides_b21 _ _ _ = _
      unfold fX10_sides_b21
      rw [if_neg (by rw [show (25 : Int32) = nI 25 from rfl, n_le (by decide) (by omega)]; omega), gdn hn (by decide), n_cl (by omega), lt_e, nI_1, lt_e]
    · by_cases d : k = n
      · subst d; exact upI_s _ 48 _ _
      · exact (upI_k _ 48 _ _ d).trans (e3 k (by omega))
  · rintro ⟨y, u⟩ ⟨e1, e2, e3⟩
    dsimp only at e1 e2 e3
    subst e1
    obtain ⟨t1, t2, t3, t4, t5, t6⟩ := hM
    refine ⟨u, ?_, ⟨?_, ?_, ?_, ?_, ?_, fun k hk => ?_⟩, e2⟩
    · show fX10_sides_b21 _ _ _ = _
      unfold fX10_sides_b21
      rw [if_pos (show (25 : Int32) ≤ nI 25 by decide)]
    · rw [e2 44 (by decide)]; exact t1
    · rw [e2 42 (by decide)]; exact t2
    · rw [e2 45 (by decide)]; exact t3
    · rw [e2 46 (by decide)]; exact t4
    · rw [e2 47 (by decide)]; exact t5
    · rw [e3 k hk]
      show _ = nI (if k < 25 then s else _)
      rw [if_pos hk]
theorem Mq.one {i : Nat} (h : mqA i = true) (e : ∀ j, j ≠ i → w1.1 j = w.1 j) : Mq w w1 := fun j k hj => by
  rw [e j (fun d => by subst d; unfold mqP at hj; rw [h] at hj; cases hj)]
theorem q_sides (h : R w σ) : Ans (fX9_sides w) (fun v => fX10_sides v) := by
  have h8 := h.g.P
  obtain ⟨k, hk, k1, k2⟩ := bs_one (pS σ) id (9999, 0) rfl 2
  have hf : ∀ z, fI z (bs (pS σ) id (9999, 0) 3).1 = nI k := fun z => by rw [k1]; exact fI_s z (by show k < 9999; omega)
  refine Ans.q (r := nI k) h ?_ fun v hv => ?_
  · obtain ⟨v, e⟩ := c_bestSide h.c h.g
    refine ⟨v, ?_, Cq.of (rX1_bestSide e) (by decide)⟩
    unfold fX9_sides
    rw [e, bd_e, un2_e, hf]
  · obtain ⟨v1, a1, a2, a3, a4, a5, -⟩ := m_save1 hv.o
    have main : ∃ x, iter (fun s : Int32 × Int32 × Int32 × Wd => fX10_sides_b13 s.1 s.2.1 s.2.2.1 s.2.2.2) FU (0, -9, 0, v1) = some x ∧ x.1 = fI 0 (bs (pS σ) id (9999, 0) 3).1 ∧ Kept x.2 1 σ ∧ Mq v x.2 := by
      refine itn (fun n s => s.1 = fI 0 (bs (pS σ) id (9999, 0) n).1 ∧ s.2.1 = bI (-9) (bs (pS σ) id (9999, 0) n).2 ∧ s.2.2.1 = nI n ∧ (∃ x, MoIs s.2.2.2 (wS σ x)) ∧ Kept s.2.2.2 1 σ ∧ Mq v s.2.2.2) _ 3 ⟨rfl, rfl, rfl, ⟨sS σ, a2⟩, a3, a4⟩ ?_ ?_ (by omega)
      · rintro n ⟨x, y, z, u⟩ hn ⟨e1, e2, e3, ⟨xs, e4⟩, e5, e6⟩
        dsimp only at e1 e2 e3 e4 e5 e6
        subst e1; subst e2; subst e3
        obtain ⟨u1, b1, b2, b3⟩ := m_blow e4 n
        have gb := good_allS h.g hn
        obtain ⟨u2, d1, d2, d3, d4⟩ := m_door b2 gb h.m2
        have hd := dN_lt gb
        have hp := pop8 hd
        have hb2 := bs_2 (pS σ) id (9999, 0) 9 (by decide) n (fun k hk => by have := pop8 (dN_lt (good_allS h.g (s := k) (by omega))); unfold pS; omega)
        have e7 : bs (pS σ) id (9999, 0) (n + 1) = if (bs (pS σ) id (9999, 0) n).2 ≤ pS σ n then (id n, pS σ n + 1) else bs (pS σ) id (9999, 0) n := rfl
        have hpS : pS σ n ≤ 8 := hp
        refine ⟨(fI 0 (bs (pS σ) id (9999, 0) (n + 1)).1, bI (-9) (bs (pS σ) id (9999, 0) (n + 1)).2, nI (n + 1), u2), ?_, rfl, rfl, rfl, ⟨_, d2⟩, (e5.keep fun q _ _ => by rw [b3 53 (by decide)]).kk d3 (by decide), (e6.tr (Mq.one (i := 48) (by decide) b3)).tr d4⟩
        show fX10_sides_b13 _ _ _ _ = _
        unfold fX10_sides_b13
        rw [if_neg (by rw [c3, n_le (by decide) (by omega)]; omega), b1, bd_e, d1, bd_e, un2_e, show (fX10_bits (nI (door (allS σ n) (sL (allS σ n))))) = some (nI (pS σ n)) from pop_m _ hd, bd_e, e7]
        by_cases c : (bs (pS σ) id (9999, 0) n).2 ≤ pS σ n
        · rw [if_pos (by rw [bI_lt (by decide) (by omega) (by omega)]; exact c), if_pos c, nI_1, lt_e, bI_s, fI_s _ (show id n < 9999 by show n < 9999; omega)]
          exact congrArg (fun z => some (Sum.inl (nI n, z, nI (n + 1), u2))) rfl
        · rw [if_neg (by rw [bI_lt (by decide) (by omega) (by omega)]; exact c), if_neg c, nI_1, lt_e]
      · rintro ⟨x, y, z, u⟩ ⟨e1, e2, e3, e4, e5, e6⟩
        dsimp only at e1 e2 e3 e4 e5 e6
        subst e1; subst e2; subst e3
        refine ⟨(fI 0 (bs (pS σ) id (9999, 0) 3).1, u), ?_, rfl, e5, e6⟩
        show fX10_sides_b13 _ _ _ _ = _
        unfold fX10_sides_b13
        rw [if_pos (show (3 : Int32) ≤ nI 3 by decide)]
    obtain ⟨⟨x, u⟩, m1, m2, m3, m4⟩ := main
    dsimp only at m2 m3 m4
    obtain ⟨u3, f1, f2, f3, -⟩ := m_rest1 m3
    refine ⟨u3, ?_, f2, m4.tr f3⟩
    show fX10_sides v = _
    unfold fX10_sides
    rw [a1, bd_e, m1, bd_e, un2_e, f1, bd_e, m2, hf]
end

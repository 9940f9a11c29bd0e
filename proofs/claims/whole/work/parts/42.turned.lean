/-! turned, changed -/
section
variable {w w1 w2 : Wd} {σ τ : St} {b : Nat}
theorem Kc.coA (h : Kc w w1) (hC : CoIs w 1 σ) : CoIs w1 1 σ := h.co co1 hC
def rev (P q : Nat) : Nat := if q < P then P - 1 - q else q
def pT (σ : St) : Nat := pop (dN (mx σ (rev (sP σ))))
theorem c_countTurned (hC : CoIs w 1 σ) (hg : good σ) : ∃ w1, fX1_countTurned w = some (nI (pT σ), w1) := by
  have h8 := hg.P
  unfold fX1_countTurned
  rw [lt_e]
  have h3 : CoIs (fX2_takeFrom 3 1 w) 3 (mx σ (fun q => q)) := by rw [mx_id hg]; exact c_take co3 co1 (by decide) hC
  have h1 : CoIs (fX2_takeFrom 3 1 w) 1 σ := hC
  have main : ∃ x, iter (fun s : Int32 × Wd => fX1_countTurned_b13 s.1 s.2) FU (0, fX2_takeFrom 3 1 w) = some x ∧ CoIs x 3 (mx σ (rev (sP σ))) := by
    refine itn (fun n s => s.1 = nI n ∧ CoIs s.2 1 σ ∧ CoIs s.2 3 (mx σ (fun q => if q < n then sP σ - 1 - q else q))) _ (sP σ) ⟨rfl, h1, mx_eq (fun q _ => by rw [if_neg (Nat.not_lt_zero _)]) h8 h3⟩ ?_ ?_ (by omega)
    · rintro n ⟨x, u⟩ hn ⟨e1, e2, e3⟩
      dsimp only at e1 e2 e3
      subst e1
      obtain ⟨u1, b1, b2, b3⟩ := c_copy e2 e3 hg hn (show sP σ - 1 - n < sP σ by omega)
      refine ⟨(nI (n + 1), u1), ?_, rfl, b3, mx_eq (fun q _ => ?_) h8 b2⟩
      · show fX1_countTurned_b13 _ _ = _
        unfold fX1_countTurned_b13
        rw [e2.P, if_neg (by rw [n_le (by omega) (by omega)]; omega), c1, n_sub (by omega), n_sub (by omega), b1, bd_e, ← c1, nI_1, lt_e]
      · unfold upF
        dsimp only
        by_cases d : q = n
        · subst d; rw [if_pos rfl, if_pos (by omega)]
        · rw [if_neg d]
          by_cases c : q < n
          · rw [if_pos c, if_pos (by omega)]
          · rw [if_neg c, if_neg (by omega)]
    · rintro ⟨x, u⟩ ⟨e1, e2, e3⟩
      dsimp only at e1 e2 e3
      subst e1
      refine ⟨u, ?_, e3⟩
      show fX1_countTurned_b13 _ _ = _
      unfold fX1_countTurned_b13
      rw [e2.P, if_pos (by rw [n_le (by omega) (by omega)]; omega)]
  obtain ⟨u, m1, m2⟩ := main
  obtain ⟨u2, d1, d2⟩ := c_countOf co3 m2 (good_mx hg _)
  rw [m1, bd_e, d1, bd_e, un2_e]
  exact ⟨_, rfl⟩
theorem Kept.exch {u : Wd} {x y : Int32} (h : Kept w 1 σ) (e : fX10_exchanges w x y = some u) : Kept u 1 σ := h.keep fun q _ _ => congrFun ((rX10_exchanges e).cell 53 (by decide)).1 q
theorem q_turned (h : R w σ) : Ans (fX9_turned w) (fun v => fX10_turned v) := by
  have h8 := h.g.P
  refine Ans.q (r := nI (pT σ)) h ?_ fun v hv => ?_
  · obtain ⟨v, e⟩ := c_countTurned h.c h.g
    refine ⟨v, ?_, Cq.of (rX1_countTurned e) (by decide)⟩
    unfold fX9_turned
    rw [e, bd_e, un2_e]
  · obtain ⟨v1, a1, a2, a3, a4, a5, -⟩ := m_save1 hv.o
    have main : ∃ x, iter (fun s : Int32 × Wd => fX10_turned_b8 s.1 s.2) FU (0, v1) = some x ∧ MoIs x (mx σ (rev (sP σ))) ∧ Kept x 1 σ ∧ Mq v x := by
      refine itn (fun n s => s.1 = nI n ∧ MoIs s.2 (mx σ (fun q => if q < n ∨ (sP σ - n ≤ q ∧ q < sP σ) then sP σ - 1 - q else q)) ∧ Kept s.2 1 σ ∧ Mq v s.2) _ (sP σ / 2) ⟨rfl, mx_eqM (f := fun q => q) (fun q _ => by rw [if_neg (by omega)]) h8 (by rw [mx_id h.g]; exact a2), a3, a4⟩ ?_ ?_ (by omega)
      · rintro n ⟨x, u⟩ hn ⟨e1, e2, e3, e4⟩
        dsimp only at e1 e2 e3 e4
        subst e1
        obtain ⟨u1, b1, b2⟩ := m_exch e2 h.g (a := n) (c := sP σ - 1 - n) (by omega) (by omega) (by omega)
        have uP : u.1 42 6 = nI (sP σ) := e2.P
        refine ⟨(nI (n + 1), u1), ?_, rfl, mx_eqM (fun q _ => ?_) h8 b2, e3.exch b1, e4.tr (Mq.of (rX10_exchanges b1) (by decide))⟩
        · show fX10_turned_b8 _ _ = _
          unfold fX10_turned_b8
          rw [uP, c2, n_div (by omega) (by decide) (by decide), if_neg (by rw [n_le (by omega) (by omega)]; omega), c1, n_sub (by omega), n_sub (by omega), b1, bd_e, ← c1, nI_1, lt_e]
        · unfold swF
          dsimp only
          by_cases d : q = n
          · subst d
            rw [if_pos rfl, if_neg (by omega), if_pos (by omega)]
          · rw [if_neg d]
            by_cases d2 : q = sP σ - 1 - n
            · rw [if_pos d2, if_neg (by omega), if_pos (by omega)]; omega
            · rw [if_neg d2]
              by_cases c : q < n ∨ (sP σ - n ≤ q ∧ q < sP σ)
              · rw [if_pos c, if_pos (by omega)]
              · rw [if_neg c, if_neg (by omega)]
      · rintro ⟨x, u⟩ ⟨e1, e2, e3, e4⟩
        dsimp only at e1 e2 e3 e4
        subst e1
        have uP : u.1 42 6 = nI (sP σ) := e2.P
        refine ⟨u, ?_, mx_eqM (fun q _ => ?_) h8 e2, e3, e4⟩
        · show fX10_turned_b8 _ _ = _
          unfold fX10_turned_b8
          rw [uP, c2, n_div (by omega) (by decide) (by decide), if_pos (by rw [n_le (by omega) (by omega)]; omega)]
        · unfold rev
          by_cases c : q < sP σ / 2 ∨ (sP σ - sP σ / 2 ≤ q ∧ q < sP σ)
          · rw [if_pos c, if_pos (by omega)]
          · rw [if_neg c]
            by_cases d : q < sP σ
            · rw [if_pos d]; omega
            · rw [if_neg d]
    obtain ⟨u, m1, m2, m3, m4⟩ := main
    obtain ⟨u2, d1, d2, d3, d4⟩ := m_door m2 (good_mx h.g _) h.m2
    obtain ⟨u3, f1, f2, f3, -⟩ := m_rest1 (m3.kk d3 (by decide))
    have hd := dN_lt (good_mx h.g (rev (sP σ)))
    refine ⟨u3, ?_, f2, (m4.tr d4).tr f3⟩
    show fX10_turned v = _
    unfold fX10_turned
    rw [a1, bd_e, m1, bd_e, d1, bd_e, un2_e, show fX10_bits (nI (door (mx σ (rev (sP σ))) (sL (mx σ (rev (sP σ)))))) = some (nI (pT σ)) from pop_m _ hd, bd_e, f1, bd_e]
def pX (σ : St) (i j : Nat) : Nat := pop (dN (mx σ (swF (fun q => q) i j)))
theorem pX_le (hg : good σ) (i j : Nat) : pX σ i j ≤ 8 := pop8 (dN_lt (good_mx hg _))
/-- the best of all pairs up to the i-th's -/
def bX (σ : St) : Nat → Nat × Nat
  | 0 => (9999, pop (dN σ) + 1)
  | i + 1 => bs (fun m => pX σ i (i + 1 + m)) (fun m => 10 * i + (i + 1 + m)) (bX σ i) (sP σ - (i + 1))
theorem bX_2 (hg : good σ) : ∀ i, (bX σ i).2 ≤ 9
  | 0 => by have := pop8 (dN_lt hg); show pop (dN σ) + 1 ≤ 9; omega
  | i + 1 => bs_2 _ _ _ 9 (bX_2 hg i) _ (fun k _ => by have := pX_le hg i (i + 1 + k); omega)
def XS (w : Wd) (k : Nat × Nat) (u : Wd) : Prop := Cq w u ∧ u.1 10 1 = bI (-1) k.2 ∧ u.1 10 0 = fI (-9) k.1
theorem c_exIn (hC : CoIs w 1 σ) (hg : good σ) {i : Nat} (hi : i < sP σ) {u : Wd} (h : XS w (bX σ i) u) : ∃ u1, iter (fun s : Int32 × Wd => fX1_exchanged_b29 (nI i) s.1 s.2) FU (nI (i + 1), u) = some u1 ∧ XS w (bX σ (i + 1)) u1 := by
  have h8 := hg.P
  refine itn (fun m s => s.1 = nI (i + 1 + m) ∧ XS w (bs (fun m => pX σ i (i + 1 + m)) (fun m => 10 * i + (i + 1 + m)) (bX σ i) m) s.2) _ (sP σ - (i + 1)) ⟨rfl, h⟩ ?_ ?_ (by omega)
  · rintro m ⟨x, u⟩ hm ⟨e1, e2, e3, e4⟩
    dsimp only at e1 e2 e3 e4
    subst e1
    have hCu := e2.co1 hC
    have h1 : CoIs (fX2_takeFrom 3 1 u) 1 σ := hCu
    have h3 : CoIs (fX2_takeFrom 3 1 u) 3 (mx σ (fun q => q)) := by rw [mx_id hg]; exact c_take co3 co1 (by decide) hCu
    obtain ⟨u1, b1, b2, b3⟩ := c_copy h1 h3 hg (a := i) (c := i + 1 + m) (by omega) (by omega)
    obtain ⟨u2, d1, d2, d3⟩ := c_copy b3 b2 hg (a := i + 1 + m) (c := i) (by omega) (by omega)
    have h4 : CoIs u2 3 (mx σ (swF (fun q => q) i (i + 1 + m))) := mx_eq (fun q _ => by
      unfold swF upF
      by_cases c : q = i
      · rw [if_neg (by omega), if_pos c, if_pos c]
      · by_cases d : q = i + 1 + m
        · rw [if_pos d, if_neg c, if_pos d]
        · rw [if_neg d, if_neg c, if_neg c, if_neg d]) h8 d2
    obtain ⟨u3, f1, f2⟩ := c_countOf co3 h4 (good_mx hg _)
    have hb2 := bs_2 (fun m => pX σ i (i + 1 + m)) (fun m => 10 * i + (i + 1 + m)) (bX σ i) 9 (bX_2 hg i) m (fun k _ => by have := pX_le hg i (i + 1 + k); omega)
    have hpx := pX_le hg i (i + 1 + m)
    have q1 : Cq u u2 := ((Cq.of (l := pX2_takeFrom 3) (rX2_takeFrom rfl) (by decide)).tr (Cq.of (rX2_copyOne b1) (by decide))).tr (Cq.of (rX2_copyOne d1) (by decide))
    have k10 : u3.1 10 = u.1 10 := by rw [f2 10 (by decide), ((rX2_copyOne d1).cell 10 (by decide)).1, ((rX2_copyOne b1).cell 10 (by decide)).1, take_o (by decide)]
    obtain ⟨t1, t2, t3⟩ := c_consider (w := u3) (f := pX σ i (i + 1 + m)) (c := 10 * i + (i + 1 + m)) (by rw [k10]; exact e3) (by rw [k10]; exact e4) (by omega) (by omega) (by omega)
    refine ⟨(nI (i + 1 + (m + 1)), fX1_consider u3 (nI (10 * i + (i + 1 + m))) (nI (pX σ i (i + 1 + m)))), ?_, rfl, Cq.con ((e2.tr q1).tr f2.cq) t3, t1, t2⟩
    show fX1_exchanged_b29 _ _ _ = _
    unfold fX1_exchanged_b29
    rw [hCu.P, if_neg (by rw [n_le (by omega) (by omega)]; omega), lt_e, b1, bd_e, d1, bd_e, f1, bd_e, un2_e, c10m, lt_e, nI_1, lt_e]
    rfl
  · rintro ⟨x, u⟩ ⟨e1, e2⟩
    dsimp only at e1 e2
    subst e1
    refine ⟨u, ?_, e2⟩
    show fX1_exchanged_b29 _ _ _ = _
    unfold fX1_exchanged_b29
    rw [(e2.1.co1 hC).P, if_pos (by rw [n_le (by omega) (by omega)]; omega)]
theorem c_exchanged (hC : CoIs w 1 σ) (hg : good σ) : ∃ w1, fX1_exchanged w = some (fI (-9) (bX σ (sP σ)).1, w1) := by
  have h8 := hg.P
  obtain ⟨v, a1, a2⟩ := c_countOf co1 hC hg
  have hC1 := a2.coA hC
  unfold fX1_exchanged
  rw [a1, bd_e, un2_e, lt_e]
  have main : ∃ x, iter (fun s : Int32 × Wd => fX1_exchanged_b14 s.1 s.2) FU (0, fX1_startSearch v (nI (pop (dN σ)))) = some x ∧ XS v (bX σ (sP σ)) x := by
    refine itn (fun i s => s.1 = nI i ∧ XS v (bX σ i) s.2) _ (sP σ) ⟨rfl, ?_, ?_, rfl⟩ ?_ ?_ (by omega)
    · exact Cq.con Ag.rf fun i hi => by unfold fX1_startSearch; rw [lt_e, lt_e, upI_o _ _ _ _ hi, upI_o _ _ _ _ hi]
    · show nI _ = bI (-1) (pop (dN σ) + 1)
      rw [bI_s]
    · rintro i ⟨x, u⟩ hi ⟨e1, e2⟩
      dsimp only at e1 e2
      subst e1
      obtain ⟨u1, b1, b2⟩ := c_exIn hC1 hg hi e2
      refine ⟨(nI (i + 1), u1), ?_, rfl, b2⟩
      show fX1_exchanged_b14 _ _ = _
      unfold fX1_exchanged_b14
      rw [(e2.1.co1 hC1).P, if_neg (by rw [n_le (by omega) (by omega)]; omega), nI_1, lt_e, b1, bd_e, lt_e]
    · rintro ⟨x, u⟩ ⟨e1, e2⟩
      dsimp only at e1 e2
      subst e1
      refine ⟨u, ?_, e2⟩
      show fX1_exchanged_b14 _ _ = _
      unfold fX1_exchanged_b14
      rw [(e2.1.co1 hC1).P, if_pos (by rw [n_le (by omega) (by omega)]; omega)]
  obtain ⟨x, m1, m2⟩ := main
  rw [m1, bd_e, m2.2.2]
  exact ⟨_, rfl⟩
def XM (v : Wd) (σ : St) (k : Nat × Nat) (x y : Int32) (u : Wd) : Prop := x = bI (-9) k.2 ∧ y = fI (-9) k.1 ∧ MoIs u σ ∧ Mq v u
theorem m_exIn (hg : good σ) (hm : sM σ ≤ 1200) {v : Wd} {i : Nat} (hi : i < sP σ) {x y : Int32} {u : Wd} (h : XM v σ (bX σ i) x y u) : ∃ r, iter (fun s : Int32 × Int32 × Int32 × Wd => fX10_changed_b26 (nI i) s.1 s.2.1 s.2.2.1 s.2.2.2) FU (x, y, nI (i + 1), u) = some r ∧ XM v σ (bX σ (i + 1)) r.1 r.2.1 r.2.2 := by
  have h8 := hg.P
  refine itn (fun m s => s.2.2.1 = nI (i + 1 + m) ∧ XM v σ (bs (fun m => pX σ i (i + 1 + m)) (fun m => 10 * i + (i + 1 + m)) (bX σ i) m) s.1 s.2.1 s.2.2.2) _ (sP σ - (i + 1)) ⟨rfl, h⟩ ?_ ?_ (by omega)
  · rintro m ⟨x, y, z, u⟩ hm2 ⟨e1, e2, e3, e4, e5⟩
    dsimp only at e1 e2 e3 e4 e5
    subst e1; subst e2; subst e3
    obtain ⟨u1, b1, b2, b3, b4, b5, -⟩ := m_save1 e4
    have b2' : MoIs u1 (mx σ (fun q => q)) := by rw [mx_id hg]; exact b2
    obtain ⟨u2, d1, d2⟩ := m_exch b2' hg (a := i) (c := i + 1 + m) (by omega) (by omega) (by omega)
    have gm := good_mx hg (swF (fun q => q) i (i + 1 + m))
    obtain ⟨u3, f1, f2, f3, f4⟩ := m_door d2 gm hm
    obtain ⟨u4, g1, g2, g3, -⟩ := m_rest1 ((b3.exch d1).kk f3 (by decide))
    have hd := dN_lt gm
    have hb2 := bs_2 (fun m => pX σ i (i + 1 + m)) (fun m => 10 * i + (i + 1 + m)) (bX σ i) 9 (bX_2 hg i) m (fun k _ => by have := pX_le hg i (i + 1 + k); omega)
    have hpx := pX_le hg i (i + 1 + m)
    have e7 : bs (fun m => pX σ i (i + 1 + m)) (fun m => 10 * i + (i + 1 + m)) (bX σ i) (m + 1) = if (bs (fun m => pX σ i (i + 1 + m)) (fun m => 10 * i + (i + 1 + m)) (bX σ i) m).2 ≤ pX σ i (i + 1 + m) then (10 * i + (i + 1 + m), pX σ i (i + 1 + m) + 1) else bs (fun m => pX σ i (i + 1 + m)) (fun m => 10 * i + (i + 1 + m)) (bX σ i) m := rfl
    refine ⟨(bI (-9) (bs (fun m => pX σ i (i + 1 + m)) (fun m => 10 * i + (i + 1 + m)) (bX σ i) (m + 1)).2, fI (-9) (bs (fun m => pX σ i (i + 1 + m)) (fun m => 10 * i + (i + 1 + m)) (bX σ i) (m + 1)).1, nI (i + 1 + (m + 1)), u4), ?_, rfl, rfl, rfl, g2, (((e5.tr b4).tr (Mq.of (rX10_exchanges d1) (by decide))).tr f4).tr g3⟩
    show fX10_changed_b26 _ _ _ _ _ = _
    unfold fX10_changed_b26
    rw [e4.P, if_neg (by rw [n_le (by omega) (by omega)]; omega), b1, bd_e, d1, bd_e, f1, bd_e, un2_e, show fX10_bits (nI (door (mx σ (swF (fun q => q) i (i + 1 + m))) (sL (mx σ (swF (fun q => q) i (i + 1 + m)))))) = some (nI (pX σ i (i + 1 + m))) from pop_m _ hd, bd_e, g1, bd_e, e7]
    by_cases c : (bs (fun m => pX σ i (i + 1 + m)) (fun m => 10 * i + (i + 1 + m)) (bX σ i) m).2 ≤ pX σ i (i + 1 + m)
    · rw [if_pos (by rw [bI_lt (by decide) (by omega) (by omega)]; exact c), if_pos c, c10m, lt_e, nI_1, lt_e, bI_s, fI_s _ (by dsimp only; omega)]
      rfl
    · rw [if_neg (by rw [bI_lt (by decide) (by omega) (by omega)]; exact c), if_neg c, nI_1, lt_e]
      rfl
  · rintro ⟨x, y, z, u⟩ ⟨e1, e2⟩
    dsimp only at e1 e2
    subst e1
    refine ⟨(x, y, u), ?_, e2⟩
    show fX10_changed_b26 _ _ _ _ _ = _
    unfold fX10_changed_b26
    rw [e2.2.2.1.P, if_pos (by rw [n_le (by omega) (by omega)]; omega)]
theorem q_changed (h : R w σ) : Ans (fX9_changed w) (fun v => fX10_changed v) := by
  have h8 := h.g.P
  refine Ans.q (r := fI (-9) (bX σ (sP σ)).1) h ?_ fun v hv => ?_
  · obtain ⟨v, e⟩ := c_exchanged h.c h.g
    refine ⟨v, ?_, Cq.of (rX1_exchanged e) (by decide)⟩
    unfold fX9_changed
    rw [e, bd_e, un2_e]
  · obtain ⟨v1, a1, a2, a3, a4⟩ := m_door hv.o hv.g hv.m2
    have hd := dN_lt h.g
    have main : ∃ x, iter (fun s : Int32 × Int32 × Int32 × Wd => fX10_changed_b13 s.1 s.2.1 s.2.2.1 s.2.2.2) FU (nI (pop (dN σ)), -9, 0, v1) = some x ∧ x.1 = fI (-9) (bX σ (sP σ)).1 ∧ MoIs x.2 σ ∧ Mq v x.2 := by
      refine itn (fun i s => s.2.2.1 = nI i ∧ XM v σ (bX σ i) s.1 s.2.1 s.2.2.2) _ (sP σ) ⟨rfl, ?_, rfl, a2, a4⟩ ?_ ?_ (by omega)
      · show nI _ = bI (-9) (pop (dN σ) + 1)
        rw [bI_s]
      · rintro i ⟨x, y, z, u⟩ hi ⟨e1, e2⟩
        dsimp only at e1 e2
        subst e1
        obtain ⟨⟨x1, y1, u1⟩, b1, b2⟩ := m_exIn h.g h.m2 hi e2
        dsimp only at b2
        refine ⟨(x1, y1, nI (i + 1), u1), ?_, rfl, b2⟩
        show fX10_changed_b13 _ _ _ _ = _
        unfold fX10_changed_b13
        rw [e2.2.2.1.P, if_neg (by rw [n_le (by omega) (by omega)]; omega), nI_1, lt_e, b1, bd_e, un3_e, lt_e]
      · rintro ⟨x, y, z, u⟩ ⟨e1, e2, e3, e4, e5⟩
        dsimp only at e1 e2 e3 e4 e5
        subst e1
        refine ⟨(y, u), ?_, e3, e4, e5⟩
        show fX10_changed_b13 _ _ _ _ = _
        unfold fX10_changed_b13
        rw [e4.P, if_pos (by rw [n_le (by omega) (by omega)]; omega)]
    obtain ⟨⟨x, u⟩, m1, m2, m3, m4⟩ := main
    dsimp only at m2 m3 m4
    refine ⟨u, ?_, m3, m4⟩
    show fX10_changed v = _
    unfold fX10_changed
    rw [a1, bd_e, un2_e, pop_m _ hd, bd_e, m1, bd_e, un2_e, m2]
end

/-! lantern, fewest -/
/-- the people of a with lanterns, lit -/
def lan (σ : St) (a : Nat) : St := ((fun j => if j = 1 then sL σ ||| a else σ.1 j), (fun p => if a.testBit p then 3 else sK σ p), σ.2.2)
section
variable {w w1 w2 : Wd} {σ τ : St} {b : Nat}
theorem good_lan (hg : good σ) {a : Nat} (ha : a < 2 ^ sP σ) : good (lan σ a) := by
  obtain ⟨a1, a2, a3, a4, a5, a6, a7, a8, a9, a10, a11, a12⟩ := hg
  refine ⟨a1, Nat.or_lt_two_pow a2 ha, fun q hq => ?_, a4, a5, a6, a7, a8, fun j => ?_, a10, a11, a12⟩
  · have hq2 : (sL σ ||| a).testBit q = true := hq
    show (if a.testBit q then 3 else sK σ q) ≠ 6
    by_cases c : a.testBit q = true
    · rw [if_pos c]; decide
    · rw [if_neg c]
      rw [Nat.testBit_or, Bool.or_eq_true] at hq2
      exact a3 q (hq2.resolve_right c)
  · show (if a.testBit j then 3 else sK σ j) < 7
    split
    · decide
    · exact a9 j
theorem lan_0 (σ : St) : lan σ 0 = σ := by
  unfold lan
  refine Prod.ext (funext fun j => ?_) (Prod.ext (funext fun j => ?_) rfl)
  · dsimp only
    by_cases h : j = 1
    · subst h; rw [if_pos rfl, Nat.or_zero]
    · rw [if_neg h]
  · dsimp only
    rw [Nat.zero_testBit]; rfl
theorem lan_one (σ : St) (a p : Nat) : wr (wrK (lan σ a) p 3) 1 ((sL σ ||| a) ||| 2 ^ p) = lan σ (a ||| 2 ^ p) := by
  unfold lan wr wrK
  refine Prod.ext (funext fun j => ?_) (Prod.ext (funext fun j => ?_) rfl)
  · dsimp only
    by_cases h : j = 1
    · subst h; rw [if_pos rfl, if_pos rfl, Nat.or_assoc]
    · rw [if_neg h, if_neg h, if_neg h]
  · dsimp only
    rw [Nat.testBit_or, Nat.testBit_two_pow]
    by_cases h : j = p
    · subst h; rw [if_pos rfl, if_pos (by simp)]
    · rw [if_neg h]
      have : decide (p = j) = false := decide_eq_false fun e => h e.symm
      rw [this, Bool.or_false]
theorem c_lan {a : Nat} (hC : CoIs w 3 (lan σ a)) {p : Nat} (hp : p < 8) : ∃ w1, fX2_becomeLantern 3 w (nI p) = some w1 ∧ CoIs w1 3 (lan σ (a ||| 2 ^ p)) := by
  have h1 := hC.wrK co3 p 3
  have hL : (upI w (9 + 4 * 3) p (nI 3)).1 3 1 = nI (sL σ ||| a) := h1.L
  unfold fX2_becomeLantern
  rw [gdn hp (by decide), n_cl (by omega), show (3 : Int32) = nI 3 from rfl, lt_e, show (1 : Int32) = nI 1 from rfl, putLit_t hL (by omega) (by decide), lt_e]
  refine ⟨_, rfl, ?_⟩
  have h2 := h1.wr co3 1 (setLit (sL σ ||| a) p 1)
  have e : setLit (sL σ ||| a) p 1 = (sL σ ||| a) ||| 2 ^ p := by unfold setLit; rw [if_neg (by decide)]
  rw [e, lan_one] at h2
  rw [e]
  exact h2
def pLa (σ : St) (p : Nat) : Nat := pop (dN (lan σ (2 ^ p)))
theorem pLa_le (hg : good σ) {p : Nat} (hp : p < sP σ) : pLa σ p ≤ 8 := pop8 (dN_lt (good_lan hg (Nat.pow_lt_pow_right (by decide) hp)))
theorem c_findLantern (hC : CoIs w 1 σ) (hg : good σ) : ∃ w1, fX1_findLantern w = some w1 ∧ w1.1 10 1 = bI (-1) (bs (pLa σ) id (9999, 0) (sP σ)).2 ∧ w1.1 10 0 = fI (-9) (bs (pLa σ) id (9999, 0) (sP σ)).1 := by
  have h8 := hg.P
  unfold fX1_findLantern
  rw [lt_e]
  refine itnb (fun n s => s.1 = nI n ∧ Cq w s.2 ∧ s.2.1 10 1 = bI (-1) (bs (pLa σ) id (9999, 0) n).2 ∧ s.2.1 10 0 = fI (-9) (bs (pLa σ) id (9999, 0) n).1) (fun x => x.1 10 1 = bI (-1) (bs (pLa σ) id (9999, 0) (sP σ)).2 ∧ x.1 10 0 = fI (-9) (bs (pLa σ) id (9999, 0) (sP σ)).1) (sP σ) ⟨rfl, ?_, rfl, rfl⟩ ?_ ?_ (by omega) (fun x hx => ⟨x, rfl, hx⟩)
  · exact Cq.con Ag.rf fun i hi => by unfold fX1_startSearch; rw [lt_e, lt_e, upI_o _ _ _ _ hi, upI_o _ _ _ _ hi]
  · rintro n ⟨x, u⟩ hn ⟨e1, e2, e3, e4⟩
    dsimp only at e1 e2 e3 e4
    subst e1
    have hCu := e2.co1 hC
    have hC3 : CoIs (fX2_takeFrom 3 1 u) 3 (lan σ 0) := by rw [lan_0]; exact c_take co3 co1 (by decide) hCu
    obtain ⟨u1, b1, b2⟩ := c_lan hC3 (p := n) (by omega)
    rw [Nat.zero_or] at b2
    have gb := good_lan hg (a := 2 ^ n) (Nat.pow_lt_pow_right (by decide) hn)
    obtain ⟨u2, d1, d2⟩ := c_countOf co3 b2 gb
    have hp := pLa_le hg hn
    have q1 : Cq u u1 := (Cq.of (l := pX2_takeFrom 3) (rX2_takeFrom rfl) (by decide)).tr (Cq.of (rX2_becomeLantern b1) (by decide))
    have k10 : u2.1 10 = u.1 10 := by rw [d2 10 (by decide), ((rX2_becomeLantern b1).cell 10 (by decide)).1, take_o (by decide)]
    have hb2 := bs_2 (pLa σ) id (9999, 0) 9 (by decide) n (fun k hk => by have := pLa_le hg (p := k) (by omega); omega)
    obtain ⟨t1, t2, t3⟩ := c_consider (w := u2) (m := (bs (pLa σ) id (9999, 0) n).2) (k := (bs (pLa σ) id (9999, 0) n).1) (f := pLa σ n) (c := n) (by rw [k10]; exact e3) (by rw [k10]; exact e4) (by omega) (by omega) (by omega)
    refine ⟨(nI (n + 1), fX1_consider u2 (nI n) (nI (pLa σ n))), ?_, rfl, Cq.con ((e2.tr q1).tr d2.cq) t3, t1, t2⟩
    show fX1_findLantern_b7 _ _ = _
    unfold fX1_findLantern_b7
    rw [hCu.P, if_neg (by rw [n_le (by omega) (by omega)]; omega), lt_e, b1, bd_e, d1, bd_e, un2_e, lt_e, nI_1, lt_e]
    rfl
  · rintro ⟨x, u⟩ ⟨e1, e2, e3, e4⟩
    dsimp only at e1 e2 e3 e4
    subst e1
    refine ⟨u, ?_, e3, e4⟩
    show fX1_findLantern_b7 _ _ = _
    unfold fX1_findLantern_b7
    rw [(e2.co1 hC).P, if_pos (by rw [n_le (by omega) (by omega)]; omega)]
/-- the reference: with lanterns for a -/
theorem m_with (hM : MoIs w σ) (hg : good σ) (hm : sM σ ≤ 1200) {a : Nat} (ha : a < 2 ^ sP σ) : ∃ w1, fX10_withLanterns w (nI a) = some (nI (dN (lan σ a)), w1) ∧ MoIs w1 σ ∧ Mq w w1 ∧ w1.1 42 32 = if dN (lan σ a) = grown (lan σ a) then 1 else 0 := by
  have h8 := hg.P
  have ha8 := lt256 ha h8
  obtain ⟨v, a1, a2, a3, a4, a5, -⟩ := m_save1 hM
  have lp : ∃ x, iter (fun s : Int32 × Wd => fX10_withLanterns_b8 (nI a) s.1 s.2) FU (0, v) = some x ∧ (∀ i, i ≠ 45 → x.1 i = v.1 i) ∧ ∀ k, k < 8 → x.1 45 k = nI (if a.testBit k then 3 else sK σ k) := by
    refine itn (fun n s => s.1 = nI n ∧ (∀ i, i ≠ 45 → s.2.1 i = v.1 i) ∧ ∀ k, k < 8 → s.2.1 45 k = nI (if k < n ∧ a.testBit k = true then 3 else sK σ k)) _ (sP σ) ⟨rfl, fun _ _ => rfl, fun k hk => by rw [if_neg (by omega)]; exact a2.K hk⟩ ?_ ?_ (by omega)
    · rintro n ⟨x, u⟩ hn ⟨e1, e2, e3⟩
      dsimp only at e1 e2 e3
      subst e1
      have hv : (if (if a.testBit n = true then (1 : Int32) else 0) = 0 then gd_ (ib (nI n) 8) (some (u.1 45 (nI n).toNatClampNeg)) else some (3 : Int32)) = some (nI (if a.testBit n = true then 3 else sK σ n)) := by
        by_cases c : a.testBit n = true
        · rw [if_pos c, if_neg (by decide), if_pos c]; rfl
        · rw [if_neg c, if_pos rfl, if_neg c, gdn (by omega) (by decide), n_cl (by omega), e3 n (by omega), if_neg (by omega)]
      refine ⟨(nI (n + 1), upI u 45 n (nI (if a.testBit n = true then 3 else sK σ n))), ?_, rfl, fun i hi => (upI_o _ _ _ _ hi).trans (e2 i hi), fun k hk => ?_⟩
      · show fX10_withLanterns_b8 _ _ _ = _
        unfold fX10_withLanterns_b8
        rw [show u.1 42 6 = nI (sP σ) by rw [e2 42 (by decide)]; exact a2.P, if_neg (by rw [n_le (by omega) (by omega)]; omega), hasm (by omega) (by omega), hv, bd_e, gdn (by omega) (by decide), n_cl (by omega), lt_e, nI_1, lt_e]
      · dsimp only
        by_cases d : k = n
        · subst d
          rw [upI_s]
          by_cases c : a.testBit k = true
          · rw [if_pos c, if_pos ⟨by omega, c⟩]
          · rw [if_neg c, if_neg (fun h => c h.2)]
        · rw [upI_k _ _ _ _ d, e3 k hk]
          by_cases c : k < n ∧ a.testBit k = true
          · rw [if_pos c, if_pos ⟨by omega, c.2⟩]
          · rw [if_neg c, if_neg (fun h => c ⟨by omega, h.2⟩)]
    · rintro ⟨x, u⟩ ⟨e1, e2, e3⟩
      dsimp only at e1 e2 e3
      subst e1
      refine ⟨u, ?_, e2, fun k hk => ?_⟩
      · show fX10_withLanterns_b8 _ _ _ = _
        unfold fX10_withLanterns_b8
        rw [show u.1 42 6 = nI (sP σ) by rw [e2 42 (by decide)]; exact a2.P, if_pos (by rw [n_le (by omega) (by omega)]; omega)]
      · rw [e3 k hk]
        by_cases c : a.testBit k = true
        · rw [if_pos ⟨bit_lt ha c, c⟩, if_pos c]
        · rw [if_neg (fun h => c h.2), if_neg c]
  obtain ⟨v2, l1, l2, l3⟩ := lp
  have f7 : v2.1 42 7 ||| nI a = nI (sL σ ||| a) := by rw [l2 42 (by decide), a2.L, n_or]
  have hMl : MoIs (upI v2 42 7 (nI (sL σ ||| a))) (lan σ a) := by
    obtain ⟨t1, t2, t3, t4, t5, t6⟩ := a2
    refine ⟨?_, ⟨?_, rfl, ?_, ?_⟩, l3, ?_, ?_, ?_⟩
    · rw [upI_o _ _ _ _ (by decide), l2 44 (by decide)]; exact t1
    · rw [upI_k _ _ _ _ (by decide), l2 42 (by decide)]; exact t2.1
    · rw [upI_k _ _ _ _ (by decide), l2 42 (by decide)]; exact t2.2.2.1
    · rw [upI_k _ _ _ _ (by decide), l2 42 (by decide)]; exact t2.2.2.2
    · rw [upI_o _ _ _ _ (by decide), l2 46 (by decide)]; exact t4
    · rw [upI_o _ _ _ _ (by decide), l2 47 (by decide)]; exact t5
    · rw [upI_o _ _ _ _ (by decide), l2 48 (by decide)]; exact t6
  have gl := good_lan hg ha
  obtain ⟨v3, d1, d2, d3, d4⟩ := m_door hMl gl hm
  have hd : dN (lan σ a) < 2 ^ sP σ := runU_lt gl gl.L _
  have hns : NoSm (lan σ a) (dN (lan σ a)) := runU_sm gl _ _ gl.sm _
  have hsm : iter (fun s : Int32 × Int32 => fX10_withLanterns_b66 v3 s.1 s.2) FU (0, 0) = some (nI (smallM (lan σ a))) := by
    refine itf (fun i => (nI (mask (fun p => sK (lan σ a) p == 6) i), nI i)) (nI (smallM (lan σ a))) (sP σ) rfl (fun i hi => ?_) ?_ (by omega)
    · have hk := gl.K i
      show fX10_withLanterns_b66 v3 _ _ = _
      unfold fX10_withLanterns_b66
      have hv : (if nI (sK (lan σ a) i) = 6 then (1 : Int32) <<< (nI i &&& 31) else 0) = nI (if (sK (lan σ a) i == 6) = true then 2 ^ i else 0) := by
        by_cases c : sK (lan σ a) i = 6
        · rw [if_pos (by rw [c]; rfl), if_pos (by simp [c]), sh_p i (by omega)]
        · rw [if_neg (by rw [c6, n_eq (by omega) (by decide)]; exact c), if_neg (by simp [c])]; rfl
      rw [show v3.1 42 6 = nI (sP σ) from d2.P, if_neg (by rw [n_le (by omega) (by omega)]; omega), gdn (by omega) (by decide), n_cl (by omega), d2.K (by omega), hv, lt_e, n_or, lt_e, nI_1, lt_e]
      rfl
    · show fX10_withLanterns_b66 v3 _ _ = _
      unfold fX10_withLanterns_b66
      rw [show v3.1 42 6 = nI (sP σ) from d2.P, if_pos (by rw [n_le (by omega) (by omega)]; omega)]
      rfl
  have hflag : (if (((1 : Int32) <<< (nI (sP σ) &&& 31)) - 1) &&& ((nI (dN (lan σ a)) ||| nI (smallM (lan σ a))) ^^^ (-1)) = 0 then (1 : Int32) else 0) = if dN (lan σ a) = grown (lan σ a) then 1 else 0 := by
    have hp2 : 2 ^ sP σ ≤ 256 := Nat.pow_le_pow_right (n := 2) (by decide) h8
    have hx : nd (2 ^ sP σ - 1) (dN (lan σ a) ||| smallM (lan σ a)) < 2 ^ 31 := by
      have : nd (2 ^ sP σ - 1) (dN (lan σ a) ||| smallM (lan σ a)) < 2 ^ 8 := nd_lt (by omega)
      omega
    have key : (nd (2 ^ sP σ - 1) (dN (lan σ a) ||| smallM (lan σ a)) = 0) = (dN (lan σ a) = grown (lan σ a)) := propext (allLit (σ := lan σ a) hd hns)
    rw [ev_t _ (by omega), n_or, n_nd]
    by_cases c : dN (lan σ a) = grown (lan σ a)
    · rw [if_pos (by rw [key.mpr c]; rfl), if_pos c]
    · rw [if_neg (by rw [c0, n_eq hx (by decide), key]; exact c), if_neg c]
  have q1 : Mq v v2 := Mq.one (i := 45) (by decide) l2
  have q2 : Mq v2 (upI v2 42 7 (nI (sL σ ||| a))) := Mq.of (l := [at_ 42 7]) (Agree.rf.pI rfl (Or.inl (List.mem_singleton.mpr rfl))) (by decide)
  have q3 : ∀ x, Mq v3 (upI v3 42 32 x) := fun x => Mq.of (l := [at_ 42 32]) (Agree.rf.pI rfl (Or.inl (List.mem_singleton.mpr rfl))) (by decide)
  have hbz : bz (if dN (lan σ a) = grown (lan σ a) then (1 : Int32) else 0) = true := by split <;> rfl
  have hK : Kept (upI v3 42 32 (if dN (lan σ a) = grown (lan σ a) then (1 : Int32) else 0)) 1 σ := ((a3.keep fun q _ _ => by rw [upI_o _ _ _ _ (by decide), l2 53 (by decide)] : Kept (upI v2 42 7 (nI (sL σ ||| a))) 1 σ).kk d3 (by decide)).keep fun q _ _ => rfl
  obtain ⟨v4, f1, f2, f3, -, f5, -⟩ := m_rest1 hK
  refine ⟨v4, ?_, f2, (((((a4.tr q1).tr q2).tr d4).tr (q3 _)).tr f3), ?_⟩
  · unfold fX10_withLanterns
    rw [a1, bd_e, l1, bd_e, f7, lt_e, d1, bd_e, un2_e, hsm, bd_e, show v3.1 42 6 = nI (sP σ) from d2.P, hflag, lt_e, gd_t hbz, lt_e, f1, bd_e]
  · rw [f5 32 (by decide) (by decide) (by decide), upI_s]
theorem q_lantern (h : R w σ) (x : Int32) : Ans (fX9_lantern w x) (fun v => fX10_lantern v x) := by
  have h8 := h.g.P
  rcases arg x 2 with hx | hx | ⟨p, hp, rfl⟩
  · exact Ans.nof h 2 (by decide) (by decide) (by unfold fX9_lantern fX9_isOutside; simp only [if_pos hx, if_neg (show ¬ (1 : Int32) = 0 by decide), rf1, rf2, rf3, rf4, rf6, bd_e, un2_e] <;> rfl) (fun v e => by unfold fX10_lantern fX10_isIn; simp only [if_pos hx, if_pos, lt_e, if_neg (show ¬ (-2 : Int32) = 0 by decide), e _ (show (42 : Nat) ≠ 12 by decide), no1, no2, no3, no4, no6, bd_e, un2_e] <;> rfl)
  · have a1 : ¬ x < 0 := ge0 hx (by decide)
    have a2 : ¬ x ≤ 1 := hi_le (m := 1) hx (by decide)
    have a3 : (1 : Int32) < x := hi_lt (m := 1) hx (by decide)
    exact Ans.nof h 2 (by decide) (by decide) (by unfold fX9_lantern fX9_isOutside; simp only [if_neg a1, if_neg a2, if_neg (show ¬ (1 : Int32) = 0 by decide), rf1, rf2, rf3, rf4, rf6, bd_e, un2_e] <;> rfl) (fun v e => by unfold fX10_lantern fX10_isIn; simp only [if_neg a1, if_pos a3, if_pos, lt_e, if_neg (show ¬ (-2 : Int32) = 0 by decide), e _ (show (42 : Nat) ≠ 12 by decide), no1, no2, no3, no4, no6, bd_e, un2_e] <;> rfl)
  · have i1 : fX9_isOutside (nI p) 1 = 0 := (by decide : ∀ p, p < 2 → fX9_isOutside (nI p) 1 = 0) p hp
    have i2 : fX10_isIn (nI p) 0 1 = 1 := (by decide : ∀ p, p < 2 → fX10_isIn (nI p) 0 1 = 1) p hp
    by_cases hz : sP σ = 0
    · have z1 : w.1 1 0 = 0 := by rw [h.c.P, hz]; rfl
      have z2 : w.1 42 6 = 0 := by rw [h.o.P, hz]; rfl
      exact Ans.nof h 3 (by decide) (by decide) (by unfold fX9_lantern; simp only [i1, if_pos, z1, rf1, rf2, rf3, rf4, rf6, bd_e, un2_e] <;> rfl) (fun v e => by unfold fX10_lantern; simp only [i2, if_neg (show ¬ (1 : Int32) = 0 by decide), z2, if_pos, lt_e, if_neg (show ¬ (-3 : Int32) = 0 by decide), e _ (show (42 : Nat) ≠ 12 by decide), no1, no2, no3, no4, no6, bd_e, un2_e] <;> rfl)
    · have z1 : ¬ w.1 1 0 = 0 := by rw [h.c.P, c0, n_eq (by omega) (by decide)]; exact hz
      obtain ⟨n, hn⟩ : ∃ n, sP σ = n + 1 := ⟨sP σ - 1, by omega⟩
      obtain ⟨k, hk, k1, k2⟩ := bs_one (pLa σ) id (9999, 0) rfl n
      rw [← hn] at k1 k2
      have hf : ∀ z, fI z (bs (pLa σ) id (9999, 0) (sP σ)).1 = nI k := fun z => by rw [k1]; exact fI_s z (by show k < 9999; omega)
      have hb : ∀ z, bI z (bs (pLa σ) id (9999, 0) (sP σ)).2 = nI ((bs (pLa σ) id (9999, 0) (sP σ)).2 - 1) := fun z => bI_any k2 z
      refine Ans.q (r := if p = 0 then nI k else nI ((bs (pLa σ) id (9999, 0) (sP σ)).2 - 1)) h ?_ fun v hv => ?_
      · obtain ⟨v, e, e2, e3⟩ := c_findLantern h.c h.g
        refine ⟨v, ?_, Cq.of (rX1_findLantern e) (by decide)⟩
        unfold fX9_lantern
        rw [i1, if_pos rfl, if_neg z1, e, bd_e]
        by_cases c : p = 0
        · subst c; rw [if_pos (show nI 0 = 0 from rfl), e3, hf, if_pos rfl]
        · rw [if_neg (by rw [c0, n_eq (by omega) (by decide)]; exact c), e2, hb, if_neg c]
      · have z2 : ¬ nI (sP σ) = 0 := by rw [c0, n_eq (by omega) (by decide)]; exact hz
        have main : ∃ x, iter (fun s : Int32 × Int32 × Int32 × Wd => fX10_lantern_b47 s.1 s.2.1 s.2.2.1 s.2.2.2) FU (0, -9, 0, v) = some x ∧ x.1 = fI 0 (bs (pLa σ) id (9999, 0) (sP σ)).1 ∧ x.2.1 = bI (-9) (bs (pLa σ) id (9999, 0) (sP σ)).2 ∧ MoIs x.2.2 σ ∧ Mq v x.2.2 := by
          refine itn (fun n s => s.1 = fI 0 (bs (pLa σ) id (9999, 0) n).1 ∧ s.2.1 = bI (-9) (bs (pLa σ) id (9999, 0) n).2 ∧ s.2.2.1 = nI n ∧ MoIs s.2.2.2 σ ∧ Mq v s.2.2.2) _ (sP σ) ⟨rfl, rfl, rfl, hv.o, Ag.rf⟩ ?_ ?_ (by omega)
          · rintro n ⟨x, y, z, u⟩ hn ⟨e1, e2, e3, e4, e5⟩
            dsimp only at e1 e2 e3 e4 e5
            subst e1; subst e2; subst e3
            obtain ⟨u1, b1, b2, b3, -⟩ := m_with e4 h.g h.m2 (a := 2 ^ n) (Nat.pow_lt_pow_right (by decide) hn)
            have hd := dN_lt (good_lan h.g (a := 2 ^ n) (Nat.pow_lt_pow_right (by decide) hn))
            have hp8 := pLa_le h.g hn
            have hb2 := bs_2 (pLa σ) id (9999, 0) 9 (by decide) n (fun k hk => by have := pLa_le h.g (p := k) (by omega); omega)
            have e7 : bs (pLa σ) id (9999, 0) (n + 1) = if (bs (pLa σ) id (9999, 0) n).2 ≤ pLa σ n then (id n, pLa σ n + 1) else bs (pLa σ) id (9999, 0) n := rfl
            refine ⟨(fI 0 (bs (pLa σ) id (9999, 0) (n + 1)).1, bI (-9) (bs (pLa σ) id (9999, 0) (n + 1)).2, nI (n + 1), u1), ?_, rfl, rfl, rfl, b2, e5.tr b3⟩
            show fX10_lantern_b47 _ _ _ _ = _
            unfold fX10_lantern_b47
            rw [e4.P, if_neg (by rw [n_le (by omega) (by omega)]; omega), sh_p n (by omega), b1, bd_e, un2_e, show fX10_bits (nI (dN (lan σ (2 ^ n)))) = some (nI (pLa σ n)) from pop_m _ hd, bd_e, e7]
            by_cases c : (bs (pLa σ) id (9999, 0) n).2 ≤ pLa σ n
            · rw [if_pos (by rw [bI_lt (by decide) (by omega) (by omega)]; exact c), if_pos c, nI_1, lt_e, bI_s, fI_s _ (show id n < 9999 by show n < 9999; omega)]
              rfl
            · rw [if_neg (by rw [bI_lt (by decide) (by omega) (by omega)]; exact c), if_neg c, nI_1, lt_e]
          · rintro ⟨x, y, z, u⟩ ⟨e1, e2, e3, e4, e5⟩
            dsimp only at e1 e2 e3 e4 e5
            subst e1; subst e2; subst e3
            refine ⟨(fI 0 (bs (pLa σ) id (9999, 0) (sP σ)).1, bI (-9) (bs (pLa σ) id (9999, 0) (sP σ)).2, u), ?_, rfl, rfl, e4, e5⟩
            show fX10_lantern_b47 _ _ _ _ = _
            unfold fX10_lantern_b47
            rw [e4.P, if_pos (by rw [n_le (by omega) (by omega)]; omega)]
        obtain ⟨⟨x, y, u⟩, m1, m2, m3, m4, m5⟩ := main
        dsimp only at m2 m3 m4 m5
        refine ⟨u, ?_, m4, m5⟩
        show fX10_lantern v (nI p) = _
        unfold fX10_lantern
        rw [i2, if_neg (by decide), hv.o.P, if_neg z2, lt_e, if_pos rfl, m1, bd_e, un3_e, m2, m3, hf, hb]
        by_cases c : p = 0
        · subst c; rw [if_pos (show nI 0 = 0 from rfl), if_pos rfl]
        · rw [if_neg (by rw [c0, n_eq (by omega) (by decide)]; exact c), if_neg c]
end

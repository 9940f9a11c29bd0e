/-! trials: lower, sides, forms -/
abbrev dN (τ : St) : Nat := door τ (sL τ)
/-- the best of what was tried: its code (9999: none), its number and 1 more (0: none) -/
def bs (f c : Nat → Nat) (i0 : Nat × Nat) : Nat → Nat × Nat
  | 0 => i0
  | n + 1 => if (bs f c i0 n).2 ≤ f n then (c n, f n + 1) else bs f c i0 n
def bI (z : Int32) (m : Nat) : Int32 := if m = 0 then z else nI (m - 1)
def fI (z : Int32) (k : Nat) : Int32 := if k = 9999 then z else nI k
theorem bI_s (z : Int32) (f : Nat) : bI z (f + 1) = nI f := by unfold bI; rw [if_neg (Nat.succ_ne_zero _)]; rfl
theorem fI_s (z : Int32) {c : Nat} (h : c < 9999) : fI z c = nI c := by unfold fI; rw [if_neg (by omega)]
theorem bs_2 (f c : Nat → Nat) (i0 : Nat × Nat) (M : Nat) (h0 : i0.2 ≤ M) : ∀ n, (∀ k, k < n → f k < M) → (bs f c i0 n).2 ≤ M
  | 0, _ => h0
  | n + 1, hf => by
    unfold bs
    split
    · have := hf n (by omega); exact this
    · exact bs_2 f c i0 M h0 n (fun k hk => hf k (by omega))
theorem bs_one (f c : Nat → Nat) (i0 : Nat × Nat) (h0 : i0.2 = 0) : ∀ n, ∃ k, k ≤ n ∧ (bs f c i0 (n + 1)).1 = c k ∧ (bs f c i0 (n + 1)).2 ≠ 0
  | 0 => ⟨0, Nat.le_refl _, by unfold bs; rw [if_pos (by show i0.2 ≤ _; omega)], by unfold bs; rw [if_pos (by show i0.2 ≤ _; omega)]; exact Nat.succ_ne_zero _⟩
  | n + 1 => by
    obtain ⟨k, h1, h2, h3⟩ := bs_one f c i0 h0 n
    by_cases d : (bs f c i0 (n + 1)).2 ≤ f (n + 1)
    · have e : bs f c i0 (n + 1 + 1) = (c (n + 1), f (n + 1) + 1) := by rw [bs, if_pos d]
      exact ⟨n + 1, Nat.le_refl _, by rw [e], by rw [e]; exact Nat.succ_ne_zero _⟩
    · have e : bs f c i0 (n + 1 + 1) = bs f c i0 (n + 1) := by rw [bs, if_neg d]
      exact ⟨k, by omega, by rw [e]; exact h2, by rw [e]; exact h3⟩
theorem bI_le {z : Int32} (hz : z < 0) {m f : Nat} (hm : m < 2 ^ 31) (hf : f < 2 ^ 31) : (nI f ≤ bI z m) = ¬ m ≤ f := by
  unfold bI
  by_cases c : m = 0
  · rw [if_pos c]
    have : ¬ nI f ≤ z := fun h => nI_pos hf (Int32.lt_of_le_of_lt h hz)
    simp [this, c]
  · rw [if_neg c, n_le hf (by omega)]
    simp only [eq_iff_iff]
    omega
theorem bI_lt {z : Int32} (hz : z < 0) {m f : Nat} (hm : m < 2 ^ 31) (hf : f < 2 ^ 31) : (bI z m < nI f) = (m ≤ f) := by
  unfold bI
  by_cases c : m = 0
  · rw [if_pos c]
    have : z < nI f := Int32.lt_of_lt_of_le hz (nI_pos' hf)
    simp [this, c]
  · rw [if_neg c, n_lt (by omega) hf]
    simp only [eq_iff_iff]
    omega
section
variable {w w1 w2 : Wd} {σ τ : St} {b : Nat}
/-- cells that a walk of the class leaves alone -/
def Kc (w w1 : Wd) : Prop := ∀ i, (i != 4 && decide (i < 25 ∨ 29 < i)) = true → w1.1 i = w.1 i
theorem Kc.of {l : List (Nat × Option Nat)} (fr : Agree (pU l) w w1) (hl : (l.all fun q => q.1 == 4 || (decide (25 ≤ q.1) && decide (q.1 ≤ 29))) = true) : Kc w w1 := fun i hi => (fr.cell i (by
  rw [List.all_eq_true] at hl ⊢
  intro q hq
  have := hl q hq
  simp only [Bool.or_eq_true, Bool.and_eq_true, beq_iff_eq, bne_iff_ne, ne_eq, decide_eq_true_eq] at this hi ⊢
  omega)).1
theorem Kc.co (h : Kc w w1) (hb : isCo b) (hC : CoIs w b σ) : CoIs w1 b σ := by
  have hb1 : b = 1 ∨ b = 2 ∨ b = 3 := hb
  have k : ∀ i, i < 4 ∨ (13 ≤ i ∧ i ≤ 24) → w1.1 i = w.1 i := fun i hi => h i (by simp only [Bool.and_eq_true, bne_iff_ne, ne_eq, decide_eq_true_eq]; omega)
  exact hC.eq (k _ (by omega)) (k _ (by omega)) (k _ (by omega)) (k _ (by omega)) (k _ (by omega))
theorem Kc.cq (h : Kc w w1) : Cq w w1 := fun i k hi => by
  unfold cqP cqA at hi
  simp at hi
  rw [h i (by simp only [Bool.and_eq_true, bne_iff_ne, ne_eq, decide_eq_true_eq]; omega)]
theorem c_doorOf (hb : isCo b) (hC : CoIs w b σ) (hg : good σ) : ∃ w1, fX1_doorOf b w = some (nI (dN σ), w1) ∧ Kc w w1 := by
  obtain ⟨v, a1, a2⟩ := c_setOut hb hC hg
  have k1 : Kc w v := Kc.of (rX8_setOut a1) (by decide)
  have hC1 := k1.co hb hC
  obtain ⟨v2, b1, b2⟩ := c_atDoor a2 hg (m := 0) hg.L (Nat.zero_le _)
  have k2 : Kc v v2 := Kc.of (rX8_atDoorFrom b1) (by decide)
  have b1' : fX8_atDoorFrom v 0 (nI (sL σ)) = some (nI (dN σ), v2) := b1
  refine ⟨v2, ?_, fun i hi => (k2 i hi).trans (k1 i hi)⟩
  unfold fX1_doorOf
  rw [a1, bd_e, hC1.L, b1', bd_e, un2_e]
theorem dN_lt (hg : good σ) : dN σ < 256 := lt256 (runU_lt hg hg.L _) hg.P
theorem c_countOf (hb : isCo b) (hC : CoIs w b σ) (hg : good σ) : ∃ w1, fX1_countOf b w = some (nI (pop (dN σ)), w1) ∧ Kc w w1 := by
  obtain ⟨v, a1, a2⟩ := c_setOut hb hC hg
  have k1 : Kc w v := Kc.of (rX8_setOut a1) (by decide)
  have hC1 := k1.co hb hC
  obtain ⟨v2, b1, b2⟩ := c_atDoor a2 hg (m := 0) hg.L (Nat.zero_le _)
  have k2 : Kc v v2 := Kc.of (rX8_atDoorFrom b1) (by decide)
  have b1' : fX8_atDoorFrom v 0 (nI (sL σ)) = some (nI (dN σ), v2) := b1
  refine ⟨v2, ?_, fun i hi => (k2 i hi).trans (k1 i hi)⟩
  unfold fX1_countOf
  rw [a1, bd_e, hC1.L, b1', bd_e, un2_e, pop_c _ (dN_lt hg)]
theorem c_consider {m k f c : Nat} (h1 : w.1 10 1 = bI (-1) m) (h0 : w.1 10 0 = fI (-9) k) (hm : m < 2 ^ 31) (hf : f < 2 ^ 31) (hc : c < 9999) : (fX1_consider w (nI c) (nI f)).1 10 1 = bI (-1) (if m ≤ f then (c, f + 1) else (k, m)).2 ∧ (fX1_consider w (nI c) (nI f)).1 10 0 = fI (-9) (if m ≤ f then (c, f + 1) else (k, m)).1 ∧ ∀ i, i ≠ 10 → (fX1_consider w (nI c) (nI f)).1 i = w.1 i := by
  unfold fX1_consider
  rw [h1]
  by_cases d : m ≤ f
  · rw [if_neg (by rw [bI_le (by decide) hm hf]; exact fun h => h d), if_pos d, lt_e, lt_e]
    refine ⟨?_, ?_, fun i hi => ?_⟩
    · rw [upI_k _ _ _ _ (by decide), upI_s]
      unfold bI
      rw [if_neg (Nat.succ_ne_zero _)]; rfl
    · rw [upI_s]
      unfold fI
      rw [if_neg (by dsimp only; omega)]
    · rw [upI_o _ _ _ _ hi, upI_o _ _ _ _ hi]
  · rw [if_pos (by rw [bI_le (by decide) hm hf]; exact d), if_neg d]
    exact ⟨h1, h0, fun _ _ => rfl⟩
theorem take_o {i : Nat} (hi : i ≠ 3 ∧ (i < 21 ∨ 24 < i)) : (fX2_takeFrom 3 1 w).1 i = w.1 i := ((rX2_takeFrom (b := 3) (b1 := 1) (w := w) rfl).cell i (by
  rw [List.all_eq_true]
  intro q hq
  have : q.1 = 3 ∨ (21 ≤ q.1 ∧ q.1 ≤ 24) := (by decide : ∀ q, q ∈ pX2_takeFrom 3 → q.1 = 3 ∨ (21 ≤ q.1 ∧ q.1 ≤ 24)) q hq
  simp only [bne_iff_ne, ne_eq]; omega)).1
theorem light_le (hg : good σ) (s : Nat) : light σ s ≤ 24 := by
  have := lig_le hg s (sP σ)
  have := hg.P
  unfold light
  omega
/-- kind 2 -/
def low (σ : St) (p : Nat) : Nat := light (bec σ p 2) (dN (bec σ p 2))
theorem Cq.con (hq : Cq w w1) (h : ∀ i, i ≠ 10 → w2.1 i = w1.1 i) : Cq w w2 := fun i k hi => by
  rw [h i (fun e => by subst e; cases hi), hq i k hi]
theorem Cq.co1 (hq : Cq w w1) (h : CoIs w 1 σ) : CoIs w1 1 σ := h.eq (hq.at 1 rfl) (hq.at 13 rfl) (hq.at 14 rfl) (hq.at 15 rfl) (hq.at 16 rfl)
theorem c_lowered (hC : CoIs w 1 σ) (hg : good σ) : ∃ w1, fX1_lowered w = some (fI (-9) (bs (low σ) id (9999, light σ (dN σ) + 1) (sP σ)).1, w1) := by
  have h8 := hg.P
  have hlow : ∀ p, low σ p ≤ 24 := fun p => light_le (good_bec hg (p := p) (k := 2) (by decide)) _
  obtain ⟨v, a1, a2⟩ := c_doorOf co1 hC hg
  have hC1 := a2.co co1 hC
  unfold fX1_lowered
  have hd := dN_lt hg
  have hl := light_le hg (dN σ)
  rw [a1, bd_e, un2_e, c_light hC1 hg (by omega), bd_e, lt_e]
  have main : ∃ x, iter (fun s : Int32 × Wd => fX1_lowered_b21 s.1 s.2) FU (0, fX1_startSearch v (nI (light σ (dN σ)))) = some x ∧ x.1 10 0 = fI (-9) (bs (low σ) id (9999, light σ (dN σ) + 1) (sP σ)).1 := by
    refine itn (fun n s => s.1 = nI n ∧ Cq v s.2 ∧ s.2.1 10 1 = bI (-1) (bs (low σ) id (9999, light σ (dN σ) + 1) n).2 ∧ s.2.1 10 0 = fI (-9) (bs (low σ) id (9999, light σ (dN σ) + 1) n).1) _ (sP σ) ⟨rfl, ?_, ?_, ?_⟩ ?_ ?_ (by omega)
    · exact Cq.con Ag.rf fun i hi => by unfold fX1_startSearch; rw [lt_e, lt_e, upI_o _ _ _ _ hi, upI_o _ _ _ _ hi]
    · show nI _ = _
      unfold bI bs
      rw [if_neg (Nat.succ_ne_zero _)]; rfl
    · rfl
    · rintro n ⟨x, u⟩ hn ⟨e1, e2, e3, e4⟩
      dsimp only at e1 e2 e3 e4
      subst e1
      have hCu := e2.co1 hC1
      have hC3 : CoIs (fX2_takeFrom 3 1 u) 3 σ := c_take co3 co1 (by decide) hCu
      obtain ⟨u1, b1, b2⟩ := c_become co3 hC3 (p := n) (k := 2) (by omega) (by decide)
      have gb := good_bec hg (p := n) (k := 2) (by decide)
      have b2' : CoIs u1 3 (bec σ n 2) := b2
      obtain ⟨u2, d1, d2⟩ := c_doorOf co3 b2' gb
      have hC4 := d2.co co3 b2'
      have hd2 := dN_lt gb
      have q1 : Cq u u1 := (Cq.of (l := pX2_takeFrom 3) (rX2_takeFrom rfl) (by decide)).tr (Cq.of (rX2_become b1) (by decide))
      have k10 : ∀ i, i = 10 → u2.1 i = u.1 i := fun i hi => by
        subst hi
        rw [d2 10 (by decide), ((rX2_become b1).cell 10 (by decide)).1, take_o (by decide)]
      obtain ⟨t1, t2, t3⟩ := c_consider (w := u2) (m := (bs (low σ) id (9999, light σ (dN σ) + 1) n).2) (k := (bs (low σ) id (9999, light σ (dN σ) + 1) n).1) (f := low σ n) (c := n) (by rw [k10 10 rfl]; exact e3) (by rw [k10 10 rfl]; exact e4) (by have := bs_2 (low σ) id (9999, light σ (dN σ) + 1) 25 (by dsimp only; omega) n (fun k _ => by have := hlow k; omega); omega) (by have := hlow n; omega) (by omega)
      refine ⟨(nI (n + 1), fX1_consider u2 (nI n) (nI (low σ n))), ?_, rfl, Cq.con ((e2.tr q1).tr d2.cq) t3, t1, t2⟩
      show fX1_lowered_b21 _ _ = _
      unfold fX1_lowered_b21
      rw [hCu.P, if_neg (by rw [n_le (by omega) (by omega)]; omega), lt_e, show (2 : Int32) = nI 2 from rfl, b1, bd_e, d1, bd_e, un2_e, c_light hC4 gb (by omega), bd_e, lt_e, nI_1, lt_e]
      rfl
    · rintro ⟨x, u⟩ ⟨e1, e2, e3, e4⟩
      dsimp only at e1 e2 e3 e4
      subst e1
      refine ⟨u, ?_, e4⟩
      show fX1_lowered_b21 _ _ = _
      unfold fX1_lowered_b21
      rw [(e2.co1 hC1).P, if_pos (by rw [n_le (by omega) (by omega)]; omega)]
  obtain ⟨x, m1, m2⟩ := main
  rw [m1, bd_e, m2]
  exact ⟨_, rfl⟩
theorem q_lower (h : R w σ) : Ans (fX9_lower w) (fun v => fX10_lower v) := by
  have h8 := h.g.P
  have hlow : ∀ p, low σ p ≤ 24 := fun p => light_le (good_bec h.g (p := p) (k := 2) (by decide)) _
  have hd := dN_lt h.g
  have hl := light_le h.g (dN σ)
  refine Ans.q (r := fI (-9) (bs (low σ) id (9999, light σ (dN σ) + 1) (sP σ)).1) h ?_ fun v hv => ?_
  · obtain ⟨v, e⟩ := c_lowered h.c h.g
    refine ⟨v, ?_, Cq.of (rX1_lowered e) (by decide)⟩
    unfold fX9_lower
    rw [e, bd_e, un2_e]
  · obtain ⟨v1, a1, a2, a3, a4⟩ := m_door hv.o hv.g hv.m2
    have main : ∃ x, iter (fun s : Int32 × Int32 × Int32 × Wd => fX10_lower_b14 s.1 s.2.1 s.2.2.1 s.2.2.2) FU (nI (light σ (dN σ)), -9, 0, v1) = some x ∧ x.1 = fI (-9) (bs (low σ) id (9999, light σ (dN σ) + 1) (sP σ)).1 ∧ MoIs x.2 σ ∧ Mq v x.2 := by
      refine itn (fun n s => s.1 = bI (-9) (bs (low σ) id (9999, light σ (dN σ) + 1) n).2 ∧ s.2.1 = fI (-9) (bs (low σ) id (9999, light σ (dN σ) + 1) n).1 ∧ s.2.2.1 = nI n ∧ MoIs s.2.2.2 σ ∧ Mq v s.2.2.2) _ (sP σ) ⟨?_, rfl, rfl, a2, a4⟩ ?_ ?_ (by omega)
      · show nI _ = _
        unfold bI bs
        rw [if_neg (Nat.succ_ne_zero _)]; rfl
      · rintro n ⟨x, y, z, u⟩ hn ⟨e1, e2, e3, e4, e5⟩
        dsimp only at e1 e2 e3 e4 e5
        subst e1; subst e2; subst e3
        obtain ⟨u1, b1, b2, b3, b4, b5, -⟩ := m_save1 e4
        have hM : MoIs (upI u1 45 n (nI 2)) (bec σ n 2) := b2.wK n 2
        have gb := good_bec h.g (p := n) (k := 2) (by decide)
        obtain ⟨u2, d1, d2, d3, d4⟩ := m_door hM gb h.m2
        have hd2 := dN_lt gb
        have q1 : Mq u1 (upI u1 45 n (nI 2)) := Mq.of (l := [all_ 45]) (Agree.rf.pI rfl (Or.inr (List.mem_singleton.mpr rfl))) (by decide)
        have k1 : KK 2 u1 (upI u1 45 n (nI 2)) := fun q _ => rfl
        obtain ⟨u3, f1, f2, f3, -⟩ := m_rest1 ((b3.kk k1 (by decide)).kk d3 (by decide))
        have hb2 := bs_2 (low σ) id (9999, light σ (dN σ) + 1) 25 (by dsimp only; omega) n (fun k _ => by have := hlow k; omega)
        have hln := hlow n
        have e6 : bs (low σ) id (9999, light σ (dN σ) + 1) (n + 1) = if (bs (low σ) id (9999, light σ (dN σ) + 1) n).2 ≤ low σ n then (id n, low σ n + 1) else bs (low σ) id (9999, light σ (dN σ) + 1) n := rfl
        refine ⟨(bI (-9) (bs (low σ) id (9999, light σ (dN σ) + 1) (n + 1)).2, fI (-9) (bs (low σ) id (9999, light σ (dN σ) + 1) (n + 1)).1, nI (n + 1), u3), ?_, rfl, rfl, rfl, f2, (((e5.tr b4).tr q1).tr d4).tr f3⟩
        show fX10_lower_b14 _ _ _ _ = _
        unfold fX10_lower_b14
        rw [e4.P, if_neg (by rw [n_le (by omega) (by omega)]; omega), b1, bd_e, gdn (by omega) (by decide), n_cl (by omega), show (2 : Int32) = nI 2 from rfl, lt_e, d1, bd_e, un2_e, m_lightOf d2 gb (s := dN (bec σ n 2)) (by omega), bd_e, f1, bd_e, show light (bec σ n 2) (dN (bec σ n 2)) = low σ n from rfl, e6]
        by_cases c : (bs (low σ) id (9999, light σ (dN σ) + 1) n).2 ≤ low σ n
        · rw [if_pos (by rw [bI_lt (by decide) (by omega) (by omega)]; exact c), if_pos c, nI_1, lt_e, bI_s, fI_s _ (show id n < 9999 by show n < 9999; omega)]
          exact congrArg (fun z => some (Sum.inl (nI (low σ n), z, nI (n + 1), u3))) rfl
        · rw [if_neg (by rw [bI_lt (by decide) (by omega) (by omega)]; exact c), if_neg c, nI_1, lt_e]
      · rintro ⟨x, y, z, u⟩ ⟨e1, e2, e3, e4, e5⟩
        dsimp only at e1 e2 e3 e4 e5
        subst e1; subst e2; subst e3
        refine ⟨(fI (-9) (bs (low σ) id (9999, light σ (dN σ) + 1) (sP σ)).1, u), ?_, rfl, e4, e5⟩
        show fX10_lower_b14 _ _ _ _ = _
        unfold fX10_lower_b14
        rw [e4.P, if_pos (by rw [n_le (by omega) (by omega)]; omega)]
    obtain ⟨⟨x, u⟩, m1, m2, m3, m4⟩ := main
    dsimp only at m2 m3 m4
    refine ⟨u, ?_, m3, m4⟩
    show fX10_lower v = _
    unfold fX10_lower
    rw [a1, bd_e, un2_e, m_lightOf a2 hv.g (s := dN σ) (by omega), bd_e, m1, bd_e, un2_e, m2]
end

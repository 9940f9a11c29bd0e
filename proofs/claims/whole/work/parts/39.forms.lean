/-! forms -/
section
variable {w w1 w2 : Wd} {σ τ : St} {b : Nat}
theorem wf_self (σ : St) : wf σ (sF σ) (sE σ) = σ := by
  unfold wf
  refine Prod.ext (funext fun j => ?_) rfl
  dsimp only
  by_cases h2 : j = 2
  · subst h2; rfl
  · by_cases h3 : j = 3
    · subst h3; rfl
    · simp only [if_neg h3, if_neg h2]
def pF (σ : St) (n : Nat) : Nat := pop (dN (wf σ (n / 2) (n % 2 + 1)))
def cF (n : Nat) : Nat := 10 * (n / 2) + (n % 2 + 1)
theorem pF_le (hg : good σ) {n : Nat} (hn : n < 6) : pF σ n ≤ 8 := pop8 (dN_lt (good_wf hg (by omega) (by omega)))
def FS (w : Wd) (σ : St) (n : Nat) (u : Wd) : Prop := Cq w u ∧ (∃ a c, CoIs u 3 (wf σ a c)) ∧ u.1 10 1 = bI (-1) (bs (pF σ) cF (9999, 0) n).2 ∧ u.1 10 0 = fI (-9) (bs (pF σ) cF (9999, 0) n).1
theorem c_formStep (hC : CoIs w 1 σ) (hg : good σ) {f : Nat} (hf : f < 3) {u : Wd} (h : FS w σ (2 * f) u) : ∃ u1, iter (fun s : Int32 × Wd => fX1_findForm_b25 (nI f) s.1 s.2) FU (1, u) = some u1 ∧ FS w σ (2 * (f + 1)) u1 := by
  refine itn (fun m s => s.1 = nI (m + 1) ∧ FS w σ (2 * f + m) s.2) _ 2 ⟨rfl, h⟩ ?_ ?_ (by decide)
  · rintro m ⟨x, u⟩ hm ⟨e1, e2, ⟨a, c, e3⟩, e4, e5⟩
    dsimp only at e1 e2 e3 e4 e5
    subst e1
    have q := (e3.wr co3 2 f).wr co3 3 (m + 1)
    rw [wf_wf] at q
    have gb := good_wf hg hf (show 1 ≤ m + 1 ∧ m + 1 ≤ 2 by omega)
    obtain ⟨u2, d1, d2⟩ := c_countOf co3 q gb
    have hpF : pF σ (2 * f + m) = pop (dN (wf σ f (m + 1))) := by
      unfold pF
      rw [show (2 * f + m) / 2 = f by omega, show (2 * f + m) % 2 = m by omega]
    have hcF : cF (2 * f + m) = 10 * f + (m + 1) := by
      unfold cF
      rw [show (2 * f + m) / 2 = f by omega, show (2 * f + m) % 2 = m by omega]
    have hp8 := pF_le hg (n := 2 * f + m) (by omega)
    have hb2 := bs_2 (pF σ) cF (9999, 0) 9 (by decide) (2 * f + m) (fun k hk => by have := pF_le hg (n := k) (by omega); omega)
    have k10 : u2.1 10 = u.1 10 := by rw [d2 10 (by decide), upI_o _ _ _ _ (by decide), upI_o _ _ _ _ (by decide)]
    obtain ⟨t1, t2, t3⟩ := c_consider (w := u2) (m := (bs (pF σ) cF (9999, 0) (2 * f + m)).2) (k := (bs (pF σ) cF (9999, 0) (2 * f + m)).1) (f := pF σ (2 * f + m)) (c := cF (2 * f + m)) (by rw [k10]; exact e4) (by rw [k10]; exact e5) (by omega) (by omega) (by rw [hcF]; omega)
    have q1 : Cq u (upI (upI u 3 2 (nI f)) 3 3 (nI (m + 1))) := fun i k hi => by
      rw [upI_o _ _ _ _ (fun d => by subst d; cases hi), upI_o _ _ _ _ (fun d => by subst d; cases hi)]
    refine ⟨(nI (m + 2), fX1_consider u2 (nI (cF (2 * f + m))) (nI (pF σ (2 * f + m)))), ?_, rfl, Cq.con ((e2.tr q1).tr d2.cq) t3, ⟨f, m + 1, ?_⟩, t1, t2⟩
    · show fX1_findForm_b25 _ _ _ = _
      unfold fX1_findForm_b25
      rw [if_neg (by rw [c2, n_lt (by decide) (by omega)]; omega), lt_e, lt_e, d1, bd_e, un2_e, ← hpF, c10m, ← hcF, lt_e, nI_1, lt_e]
    · have hC4 := d2.co co3 q
      exact hC4.eq (t3 3 (by decide)) (t3 21 (by decide)) (t3 22 (by decide)) (t3 23 (by decide)) (t3 24 (by decide))
  · rintro ⟨x, u⟩ ⟨e1, e2⟩
    dsimp only at e1 e2
    subst e1
    refine ⟨u, ?_, e2⟩
    show fX1_findForm_b25 _ _ _ = _
    unfold fX1_findForm_b25
    rw [if_pos (show (2 : Int32) < nI (2 + 1) by decide)]
theorem c_findForm (hC : CoIs w 1 σ) (hg : good σ) : ∃ w1, fX1_findForm w = some w1 ∧ FS w σ 6 w1 := by
  unfold fX1_findForm
  rw [lt_e, lt_e]
  have hS : ∀ i, i ≠ 10 → (fX1_startSearch w (-1)).1 i = w.1 i := fun i hi => by unfold fX1_startSearch; rw [lt_e, lt_e, upI_o _ _ _ _ hi, upI_o _ _ _ _ hi]
  have qS : Cq w (fX1_startSearch w (-1)) := Cq.con Ag.rf hS
  have h0 : FS w σ 0 (fX2_takeFrom 3 1 (fX1_startSearch w (-1))) := by
    refine ⟨qS.tr (Cq.of (l := pX2_takeFrom 3) (rX2_takeFrom rfl) (by decide)), ⟨sF σ, sE σ, ?_⟩, ?_, ?_⟩
    · rw [wf_self]; exact c_take co3 co1 (by decide) (qS.co1 hC)
    · rw [take_o (by decide)]; rfl
    · rw [take_o (by decide)]; rfl
  refine itnb (fun f s => s.1 = nI f ∧ FS w σ (2 * f) s.2) (fun x => FS w σ 6 x) 3 ⟨rfl, h0⟩ ?_ ?_ (by decide) (fun x hx => ⟨x, rfl, hx⟩)
  · rintro f ⟨x, u⟩ hf ⟨e1, e2⟩
    dsimp only at e1 e2
    subst e1
    obtain ⟨u1, b1, b2⟩ := c_formStep hC hg hf e2
    refine ⟨(nI (f + 1), u1), ?_, rfl, b2⟩
    show fX1_findForm_b18 _ _ = _
    unfold fX1_findForm_b18
    rw [if_neg (by rw [c2, n_lt (by decide) (by omega)]; omega), b1, bd_e, nI_1, lt_e]
  · rintro ⟨x, u⟩ ⟨e1, e2⟩
    dsimp only at e1 e2
    subst e1
    refine ⟨u, ?_, e2⟩
    show fX1_findForm_b18 _ _ = _
    unfold fX1_findForm_b18
    rw [if_pos (show (2 : Int32) < nI 3 by decide)]
theorem bI_any {m : Nat} (h : m ≠ 0) (z : Int32) : bI z m = nI (m - 1) := by unfold bI; rw [if_neg h]
theorem q_forms (h : R w σ) (x : Int32) : Ans (fX9_forms w x) (fun v => fX10_forms v x) := by
  have h8 := h.g.P
  have hFo := h.g.F
  have hEa := h.g.E
  rcases arg x 2 with hx | hx | ⟨p, hp, rfl⟩
  · exact Ans.nof h 2 (by decide) (by decide) (by unfold fX9_forms fX9_isOutside; simp only [if_pos hx, if_neg (show ¬ (1 : Int32) = 0 by decide), rf1, rf2, rf3, rf4, rf6, bd_e, un2_e] <;> rfl) (fun v e => by unfold fX10_forms fX10_isIn; simp only [if_pos hx, if_pos, e _ (show (42 : Nat) ≠ 12 by decide), no1, no2, no3, no4, no6, bd_e, un2_e] <;> rfl)
  · have a1 : ¬ x < 0 := ge0 hx (by decide)
    have a2 : ¬ x ≤ 1 := hi_le (m := 1) hx (by decide)
    have a3 : (1 : Int32) < x := hi_lt (m := 1) hx (by decide)
    exact Ans.nof h 2 (by decide) (by decide) (by unfold fX9_forms fX9_isOutside; simp only [if_neg a1, if_neg a2, if_neg (show ¬ (1 : Int32) = 0 by decide), rf1, rf2, rf3, rf4, rf6, bd_e, un2_e] <;> rfl) (fun v e => by unfold fX10_forms fX10_isIn; simp only [if_neg a1, if_pos a3, if_pos, e _ (show (42 : Nat) ≠ 12 by decide), no1, no2, no3, no4, no6, bd_e, un2_e] <;> rfl)
  · have i1 : fX9_isOutside (nI p) 1 = 0 := (by decide : ∀ p, p < 2 → fX9_isOutside (nI p) 1 = 0) p hp
    have i2 : fX10_isIn (nI p) 0 1 = 1 := (by decide : ∀ p, p < 2 → fX10_isIn (nI p) 0 1 = 1) p hp
    obtain ⟨k, hk, k1, k2⟩ := bs_one (pF σ) cF (9999, 0) rfl 5
    have hf : ∀ z, fI z (bs (pF σ) cF (9999, 0) 6).1 = nI (cF k) := fun z => by rw [k1]; exact fI_s z (by unfold cF; omega)
    have hb : ∀ z, bI z (bs (pF σ) cF (9999, 0) 6).2 = nI ((bs (pF σ) cF (9999, 0) 6).2 - 1) := fun z => bI_any k2 z
    refine Ans.q (r := if p = 0 then nI (cF k) else nI ((bs (pF σ) cF (9999, 0) 6).2 - 1)) h ?_ fun v hv => ?_
    · obtain ⟨v, e, e2, e3, e4, e5⟩ := c_findForm h.c h.g
      refine ⟨v, ?_, Cq.of (rX1_findForm e) (by decide)⟩
      unfold fX9_forms
      rw [i1, if_pos rfl, e, bd_e]
      by_cases c : p = 0
      · subst c; rw [if_pos (show nI 0 = 0 from rfl), e5, hf, if_pos rfl]
      · rw [if_neg (by rw [c0, n_eq (by omega) (by decide)]; exact c), e4, hb, if_neg c]
    · have main : ∃ x, iter (fun s : Int32 × Int32 × Int32 × Wd => fX10_forms_b40 s.1 s.2.1 s.2.2.1 s.2.2.2) FU (1, -9, 0, v) = some x ∧ x.1 = fI 1 (bs (pF σ) cF (9999, 0) 6).1 ∧ x.2.1 = bI (-9) (bs (pF σ) cF (9999, 0) 6).2 ∧ (∃ a c, MoIs x.2.2 (wf σ a c)) ∧ Mq v x.2.2 := by
        refine itn (fun n s => s.1 = fI 1 (bs (pF σ) cF (9999, 0) n).1 ∧ s.2.1 = bI (-9) (bs (pF σ) cF (9999, 0) n).2 ∧ s.2.2.1 = nI n ∧ (∃ a c, MoIs s.2.2.2 (wf σ a c)) ∧ Mq v s.2.2.2) _ 6 ⟨rfl, rfl, rfl, ⟨sF σ, sE σ, by rw [wf_self]; exact hv.o⟩, Ag.rf⟩ ?_ ?_ (by omega)
        · rintro n ⟨x, y, z, u⟩ hn ⟨e1, e2, e3, ⟨a, c, e4⟩, e5⟩
          dsimp only at e1 e2 e3 e4 e5
          subst e1; subst e2; subst e3
          have q := (e4.wF (n / 2)).wE (n % 2 + 1)
          rw [wf_wf] at q
          have gb := good_wf h.g (f := n / 2) (e := n % 2 + 1) (by omega) (by omega)
          obtain ⟨u2, d1, d2, d3, d4⟩ := m_door q gb h.m2
          have hd := dN_lt gb
          have hp8 := pF_le h.g hn
          have hb2 := bs_2 (pF σ) cF (9999, 0) 9 (by decide) n (fun k hk => by have := pF_le h.g (n := k) (by omega); omega)
          have e7 : bs (pF σ) cF (9999, 0) (n + 1) = if (bs (pF σ) cF (9999, 0) n).2 ≤ pF σ n then (cF n, pF σ n + 1) else bs (pF σ) cF (9999, 0) n := rfl
          have q1 : Mq u (upI (upI u 44 0 (nI (n / 2))) 44 1 (nI (n % 2 + 1))) := Mq.one (i := 44) (by decide) fun j hj => by rw [upI_o _ _ _ _ hj, upI_o _ _ _ _ hj]
          have edv : nI n / 2 = nI (n / 2) := n_div (by omega) (by decide) (by decide)
          have erm : jrem (nI n) 2 = nI (n % 2) := n_rem (by omega) (by decide) (by decide)
          refine ⟨(fI 1 (bs (pF σ) cF (9999, 0) (n + 1)).1, bI (-9) (bs (pF σ) cF (9999, 0) (n + 1)).2, nI (n + 1), u2), ?_, rfl, rfl, rfl, ⟨_, _, d2⟩, (e5.tr q1).tr d4⟩
          show fX10_forms_b40 _ _ _ _ = _
          unfold fX10_forms_b40
          rw [if_neg (by rw [c6, n_le (by decide) (by omega)]; omega), edv, erm, nI_1, lt_e, lt_e, d1, bd_e, un2_e, show (fX10_bits (nI (door (wf σ (n / 2) (n % 2 + 1)) (sL (wf σ (n / 2) (n % 2 + 1)))))) = some (nI (pF σ n)) from pop_m _ hd, bd_e, e7]
          by_cases c : (bs (pF σ) cF (9999, 0) n).2 ≤ pF σ n
          · rw [if_pos (by rw [bI_lt (by decide) (by omega) (by omega)]; exact c), if_pos c, c10m, nI_1, lt_e, nI_1, lt_e, bI_s, fI_s _ (show cF n < 9999 by unfold cF; omega)]
            rfl
          · rw [if_neg (by rw [bI_lt (by decide) (by omega) (by omega)]; exact c), if_neg c, nI_1, lt_e]
        · rintro ⟨x, y, z, u⟩ ⟨e1, e2, e3, e4, e5⟩
          dsimp only at e1 e2 e3 e4 e5
          subst e1; subst e2; subst e3
          refine ⟨(fI 1 (bs (pF σ) cF (9999, 0) 6).1, bI (-9) (bs (pF σ) cF (9999, 0) 6).2, u), ?_, rfl, rfl, e4, e5⟩
          show fX10_forms_b40 _ _ _ _ = _
          unfold fX10_forms_b40
          rw [if_pos (show (6 : Int32) ≤ nI 6 by decide)]
      obtain ⟨⟨x, y, u⟩, m1, m2, m3, ⟨a, c, m4⟩, m5⟩ := main
      dsimp only at m2 m3 m4 m5
      have q := (m4.wF (sF σ)).wE (sE σ)
      rw [wf_wf, wf_self] at q
      have q1 : Mq u (upI (upI u 44 0 (nI (sF σ))) 44 1 (nI (sE σ))) := Mq.one (i := 44) (by decide) fun j hj => by rw [upI_o _ _ _ _ hj, upI_o _ _ _ _ hj]
      refine ⟨_, ?_, q, m5.tr q1⟩
      show fX10_forms v (nI p) = _
      unfold fX10_forms
      rw [i2, if_neg (by decide), hv.o.F, hv.o.E, lt_e, lt_e, m1, bd_e, un3_e, lt_e, lt_e, m2, m3, hf, hb]
      by_cases c : p = 0
      · subst c; rw [if_pos (show nI 0 = 0 from rfl), if_pos rfl]
      · rw [if_neg (by rw [c0, n_eq (by omega) (by decide)]; exact c), if_neg c]
end

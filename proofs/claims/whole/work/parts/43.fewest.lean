/-! fewest, heirs -/
def fwN (ok : Nat → Bool) : Nat → Nat
  | 0 => 999
  | l + 1 => if (fwN ok l = 999 ∨ pop l < pop (fwN ok l)) ∧ ok l = true then l else fwN ok l
theorem fwN_le (ok : Nat → Bool) : ∀ l, fwN ok l = 999 ∨ fwN ok l < l
  | 0 => Or.inl rfl
  | l + 1 => by
    have := fwN_le ok l
    unfold fwN
    split <;> omega
section
variable {w w1 w2 : Wd} {σ τ : St} {b : Nat}
def okL (σ : St) (l : Nat) : Bool := decide (dN (lan σ l) = grown (lan σ l))
theorem c_lanternsDo (hC : CoIs w 1 σ) (hg : good σ) {a : Nat} (ha : a < 2 ^ sP σ) : ∃ w1, fX1_lanternsDo w (nI a) = some (if okL σ a = true then 1 else 0, w1) ∧ Cq w w1 := by
  have h8 := hg.P
  have ha8 := lt256 ha h8
  have e0 : ∀ n, mask (fun q => a.testBit q) (n + 1) = if a.testBit n then mask (fun q => a.testBit q) n ||| 2 ^ n else mask (fun q => a.testBit q) n := fun n => by
    show mask (fun q => a.testBit q) n ||| _ = _
    by_cases c : a.testBit n = true
    · rw [if_pos c, if_pos c]
    · rw [if_neg c, if_neg c, Nat.or_zero]
  have hfull : mask (fun q => a.testBit q) (sP σ) = a := bits_ext fun q => by
    rw [mask_bit]
    cases hb : a.testBit q with
    | true => simp [bit_lt ha hb]
    | false => simp
  have main : ∃ x, iter (fun s : Int32 × Wd => fX1_lanternsDo_b13 (nI a) s.1 s.2) FU (0, fX2_takeFrom 3 1 w) = some x ∧ Cq w x ∧ CoIs x 3 (lan σ a) := by
    refine itn (fun n s => s.1 = nI n ∧ Cq w s.2 ∧ CoIs s.2 3 (lan σ (mask (fun q => a.testBit q) n))) _ (sP σ) ⟨rfl, Cq.of (l := pX2_takeFrom 3) (rX2_takeFrom rfl) (by decide), ?_⟩ ?_ ?_ (by omega)
    · show CoIs _ 3 (lan σ 0)
      rw [lan_0]; exact c_take co3 co1 (by decide) hC
    · rintro n ⟨x, u⟩ hn ⟨e1, e2, e3⟩
      dsimp only at e1 e2 e3
      subst e1
      have hP := (e2.co1 hC).P
      by_cases c : a.testBit n = true
      · obtain ⟨u1, b1, b2⟩ := c_lan e3 (p := n) (by omega)
        refine ⟨(nI (n + 1), u1), ?_, rfl, e2.tr (Cq.of (rX2_becomeLantern b1) (by decide)), by rw [e0, if_pos c]; exact b2⟩
        show fX1_lanternsDo_b13 _ _ _ = _
        unfold fX1_lanternsDo_b13
        rw [hP, if_neg (by rw [n_le (by omega) (by omega)]; omega), hasc (by omega) (by omega), if_pos c, if_neg (by decide), b1, bd_e, nI_1, lt_e]
      · refine ⟨(nI (n + 1), u), ?_, rfl, e2, by rw [e0, if_neg c]; exact e3⟩
        show fX1_lanternsDo_b13 _ _ _ = _
        unfold fX1_lanternsDo_b13
        rw [hP, if_neg (by rw [n_le (by omega) (by omega)]; omega), hasc (by omega) (by omega), if_neg c, if_pos rfl, nI_1, lt_e]
    · rintro ⟨x, u⟩ ⟨e1, e2, e3⟩
      dsimp only at e1 e2 e3
      subst e1
      refine ⟨u, ?_, e2, by rw [hfull] at e3; exact e3⟩
      show fX1_lanternsDo_b13 _ _ _ = _
      unfold fX1_lanternsDo_b13
      rw [(e2.co1 hC).P, if_pos (by rw [n_le (by omega) (by omega)]; omega)]
  obtain ⟨u, m1, m2, m3⟩ := main
  have gl := good_lan hg ha
  obtain ⟨u2, d1, d2⟩ := c_doorOf co3 m3 gl
  have h3 := d2.co co3 m3
  have hd := dN_lt gl
  have hgr : grown (lan σ a) < 256 := lt256 (grown_lt (σ := lan σ a)) h8
  unfold fX1_lanternsDo
  rw [lt_e, m1, bd_e, d1, bd_e, un2_e, c_grown h3 gl, bd_e]
  unfold okL
  by_cases c : dN (lan σ a) = grown (lan σ a)
  · rw [if_pos (by rw [c]), if_pos (decide_eq_true c)]
    exact ⟨_, rfl, m2.tr d2.cq⟩
  · rw [if_neg (by rw [n_eq (by omega) (by omega)]; exact c), if_neg (by simpa using c)]
    exact ⟨_, rfl, m2.tr d2.cq⟩
theorem fw_less {ok : Nat → Bool} {l : Nat} (hl : l ≤ 256) (hp : pop l ≤ 8) : (if fwN ok l = 999 then 9 else pop (fwN ok l)) ≤ pop l ↔ ¬ (fwN ok l = 999 ∨ pop l < pop (fwN ok l)) := by
  by_cases c : fwN ok l = 999
  · rw [if_pos c]; constructor
    · intro h; omega
    · intro h; exact absurd (Or.inl c) h
  · rw [if_neg c]; constructor
    · rintro h (h2 | h2)
      · exact c h2
      · omega
    · intro h
      exact Nat.not_lt.mp fun h2 => h (Or.inr h2)
theorem q_fewest (h : R w σ) (x : Int32) : Ans (fX9_fewest w x) (fun v => fX10_fewest v x) := by
  have h8 := h.g.P
  have hP2 : 2 ^ sP σ ≤ 256 := Nat.pow_le_pow_right (n := 2) (by decide) h8
  have hP1 : 1 ≤ 2 ^ sP σ := Nat.one_le_two_pow
  rcases arg x 2 with hx | hx | ⟨p, hp, rfl⟩
  · exact Ans.nof h 2 (by decide) (by decide) (by unfold fX9_fewest fX9_isOutside; simp only [if_pos hx, if_neg (show ¬ (1 : Int32) = 0 by decide), rf1, rf2, rf3, rf4, rf6, bd_e, un2_e] <;> rfl) (fun v e => by unfold fX10_fewest fX10_isIn; simp only [if_pos hx, if_pos, e _ (show (42 : Nat) ≠ 12 by decide), no1, no2, no3, no4, no6, bd_e, un2_e] <;> rfl)
  · have a1 : ¬ x < 0 := ge0 hx (by decide)
    have a2 : ¬ x ≤ 1 := hi_le (m := 1) hx (by decide)
    have a3 : (1 : Int32) < x := hi_lt (m := 1) hx (by decide)
    exact Ans.nof h 2 (by decide) (by decide) (by unfold fX9_fewest fX9_isOutside; simp only [if_neg a1, if_neg a2, if_neg (show ¬ (1 : Int32) = 0 by decide), rf1, rf2, rf3, rf4, rf6, bd_e, un2_e] <;> rfl) (fun v e => by unfold fX10_fewest fX10_isIn; simp only [if_neg a1, if_pos a3, if_pos, e _ (show (42 : Nat) ≠ 12 by decide), no1, no2, no3, no4, no6, bd_e, un2_e] <;> rfl)
  · have i1 : fX9_isOutside (nI p) 1 = 0 := (by decide : ∀ p, p < 2 → fX9_isOutside (nI p) 1 = 0) p hp
    have i2 : fX10_isIn (nI p) 0 1 = 1 := (by decide : ∀ p, p < 2 → fX10_isIn (nI p) 0 1 = 1) p hp
    have hfin := fwN_le (okL σ) (2 ^ sP σ)
    refine Ans.q (r := nos p (fwN (okL σ) (2 ^ sP σ))) h ?_ fun v hv => ?_
    · have hev : fX2_everybody 1 w = nI (2 ^ sP σ - 1) := by
        unfold fX2_everybody
        rw [h.c.P, ev_t _ (by omega)]
      have main : ∃ x, iter (fun s : Int32 × Int32 × Int32 × Wd => fX1_fewestLanterns_b17 (nI (2 ^ sP σ - 1)) s.1 s.2.1 s.2.2.1 s.2.2.2) FU (-9, 9, 0, w) = some x ∧ x.1 = cv9 (fwN (okL σ) (2 ^ sP σ)) ∧ Cq w x.2 := by
        refine itn (fun l s => s.1 = cv9 (fwN (okL σ) l) ∧ s.2.1 = nI (if fwN (okL σ) l = 999 then 9 else pop (fwN (okL σ) l)) ∧ s.2.2.1 = nI l ∧ Cq w s.2.2.2) _ (2 ^ sP σ) ⟨rfl, rfl, rfl, Ag.rf⟩ ?_ ?_ (by omega)
        · rintro l ⟨x, y, z, u⟩ hl ⟨e1, e2, e3, e4⟩
          dsimp only at e1 e2 e3 e4
          subst e1; subst e2; subst e3
          have hl8 : l < 256 := by omega
          have hpl := pop8 hl8
          have ha := fwN_le (okL σ) l
          have hb : (if fwN (okL σ) l = 999 then 9 else pop (fwN (okL σ) l)) ≤ 9 := by
            split
            · exact Nat.le_refl _
            · have := pop8 (m := fwN (okL σ) l) (by omega); omega
          have e5 : fwN (okL σ) (l + 1) = if (fwN (okL σ) l = 999 ∨ pop l < pop (fwN (okL σ) l)) ∧ okL σ l = true then l else fwN (okL σ) l := rfl
          have hlt : ¬ nI (2 ^ sP σ - 1) < nI l := by rw [n_lt (by omega) (by omega)]; omega
          have less := fw_less (ok := okL σ) (l := l) (by omega) hpl
          by_cases c : (if fwN (okL σ) l = 999 then 9 else pop (fwN (okL σ) l)) ≤ pop l
          · have e6 : fwN (okL σ) (l + 1) = fwN (okL σ) l := by rw [e5, if_neg (fun h => less.mp c h.1)]
            refine ⟨(cv9 (fwN (okL σ) l), nI _, nI (l + 1), u), ?_, by rw [e6], by rw [e6], rfl, e4⟩
            show fX1_fewestLanterns_b17 _ _ _ _ _ = _
            unfold fX1_fewestLanterns_b17
            rw [if_neg hlt, pop_c _ hl8, lt_e, if_pos (by rw [n_le (by omega) (by omega)]; exact c), nI_1, lt_e]
          · have c' : ¬ nI (if fwN (okL σ) l = 999 then 9 else pop (fwN (okL σ) l)) ≤ nI (pop l) := by rw [n_le (by omega) (by omega)]; exact c
            obtain ⟨u1, b1, b2⟩ := c_lanternsDo (e4.co1 h.c) h.g hl
            by_cases k : okL σ l = true
            · have e6 : fwN (okL σ) (l + 1) = l := by rw [e5, if_pos ⟨Decidable.not_not.mp fun h => c (less.mpr h), k⟩]
              rw [if_pos k] at b1
              refine ⟨(nI l, nI (pop l), nI (l + 1), u1), ?_, ?_, ?_, rfl, e4.tr b2⟩
              · show fX1_fewestLanterns_b17 _ _ _ _ _ = _
                unfold fX1_fewestLanterns_b17
                rw [if_neg hlt, pop_c _ hl8, lt_e, if_neg c', b1, bd_e, un2_e, if_neg (by decide), nI_1, lt_e]
              · rw [e6]; unfold cv9; rw [if_neg (by omega)]
              · rw [e6, if_neg (by omega)]
            · have e6 : fwN (okL σ) (l + 1) = fwN (okL σ) l := by rw [e5, if_neg (fun h => k h.2)]
              rw [if_neg k] at b1
              refine ⟨(cv9 (fwN (okL σ) l), nI _, nI (l + 1), u1), ?_, by rw [e6], by rw [e6], rfl, e4.tr b2⟩
              show fX1_fewestLanterns_b17 _ _ _ _ _ = _
              unfold fX1_fewestLanterns_b17
              rw [if_neg hlt, pop_c _ hl8, lt_e, if_neg c', b1, bd_e, un2_e, if_pos rfl, nI_1, lt_e]
        · rintro ⟨x, y, z, u⟩ ⟨e1, e2, e3, e4⟩
          dsimp only at e1 e2 e3 e4
          subst e1; subst e2; subst e3
          refine ⟨(cv9 (fwN (okL σ) (2 ^ sP σ)), u), ?_, rfl, e4⟩
          show fX1_fewestLanterns_b17 _ _ _ _ _ = _
          unfold fX1_fewestLanterns_b17
          rw [if_pos (by rw [n_lt (by omega) (by omega)]; omega)]
      obtain ⟨⟨x, u⟩, m1, m2, m3⟩ := main
      dsimp only at m2 m3
      refine ⟨u, ?_, m3⟩
      unfold fX9_fewest fX1_fewestLanterns
      rw [i1, if_pos rfl, hev, lt_e, m1, bd_e, un2_e, bd_e, un2_e, m2, c_nos hp (by omega)]
    · have main : ∃ x, iter (fun s : Int32 × Int32 × Wd => fX10_fewest_b21 s.1 s.2.1 s.2.2) FU (-9, 0, v) = some x ∧ x.1 = cv9 (fwN (okL σ) (2 ^ sP σ)) ∧ MoIs x.2 σ ∧ Mq v x.2 := by
        refine itn (fun l s => s.1 = cv9 (fwN (okL σ) l) ∧ s.2.1 = nI l ∧ MoIs s.2.2 σ ∧ Mq v s.2.2) _ (2 ^ sP σ) ⟨rfl, rfl, hv.o, Ag.rf⟩ ?_ ?_ (by omega)
        · rintro l ⟨x, y, u⟩ hl ⟨e1, e2, e3, e4⟩
          dsimp only at e1 e2 e3 e4
          subst e1; subst e2
          have hl8 : l < 256 := by omega
          have hpl := pop8 hl8
          have ha := fwN_le (okL σ) l
          obtain ⟨u1, b1, b2, b3, b4⟩ := m_with e3 h.g h.m2 hl
          have b4' : u1.1 42 32 = if okL σ l = true then 1 else 0 := by
            rw [b4]
            unfold okL
            by_cases k : dN (lan σ l) = grown (lan σ l)
            · rw [if_pos k, if_pos (decide_eq_true k)]
            · rw [if_neg k, if_neg (by simpa using k)]
          have e5 : fwN (okL σ) (l + 1) = if (fwN (okL σ) l = 999 ∨ pop l < pop (fwN (okL σ) l)) ∧ okL σ l = true then l else fwN (okL σ) l := rfl
          have hbnd : ¬ (1 : Int32) <<< (nI (sP σ) &&& 31) ≤ nI l := by rw [sh_p _ (by omega), n_le (by omega) (by omega)]; omega
          by_cases k : okL σ l = true
          · rw [if_pos k] at b4'
            by_cases c9 : fwN (okL σ) l = 999
            · have e6 : fwN (okL σ) (l + 1) = l := by rw [e5, if_pos ⟨Or.inl c9, k⟩]
              refine ⟨(nI l, nI (l + 1), u1), ?_, ?_, rfl, b2, e4.tr b3⟩
              · show fX10_fewest_b21 _ _ _ = _
                unfold fX10_fewest_b21
                rw [e3.P, if_neg hbnd, b1, bd_e, un2_e, b4', if_neg (by decide), if_pos (by rw [cv9_lt (by omega)]; exact c9), nI_1, lt_e]
              · rw [e6]; unfold cv9; rw [if_neg (by omega)]
            · have ev : cv9 (fwN (okL σ) l) = nI (fwN (okL σ) l) := by unfold cv9; rw [if_neg c9]
              have p2 := pop8 (m := fwN (okL σ) l) (by omega)
              by_cases c : pop l < pop (fwN (okL σ) l)
              · have e6 : fwN (okL σ) (l + 1) = l := by rw [e5, if_pos ⟨Or.inr c, k⟩]
                refine ⟨(nI l, nI (l + 1), u1), ?_, ?_, rfl, b2, e4.tr b3⟩
                · show fX10_fewest_b21 _ _ _ = _
                  unfold fX10_fewest_b21
                  rw [e3.P, if_neg hbnd, b1, bd_e, un2_e, b4', if_neg (by decide), if_neg (by rw [cv9_lt (by omega)]; exact c9), pop_m _ hl8, bd_e, ev, pop_m _ (by omega), bd_e, if_neg (by rw [n_le (by omega) (by omega)]; omega), nI_1, lt_e]
                · rw [e6]; unfold cv9; rw [if_neg (by omega)]
              · have e6 : fwN (okL σ) (l + 1) = fwN (okL σ) l := by rw [e5, if_neg (by rintro ⟨h1 | h1, -⟩; exact c9 h1; exact c h1)]
                refine ⟨(cv9 (fwN (okL σ) l), nI (l + 1), u1), ?_, by rw [e6], rfl, b2, e4.tr b3⟩
                show fX10_fewest_b21 _ _ _ = _
                unfold fX10_fewest_b21
                rw [e3.P, if_neg hbnd, b1, bd_e, un2_e, b4', if_neg (by decide), if_neg (by rw [cv9_lt (by omega)]; exact c9), pop_m _ hl8, bd_e, ev, pop_m _ (by omega), bd_e, if_pos (by rw [n_le (by omega) (by omega)]; omega), nI_1, lt_e]
          · rw [if_neg k] at b4'
            have e6 : fwN (okL σ) (l + 1) = fwN (okL σ) l := by rw [e5, if_neg (fun h => k h.2)]
            refine ⟨(cv9 (fwN (okL σ) l), nI (l + 1), u1), ?_, by rw [e6], rfl, b2, e4.tr b3⟩
            show fX10_fewest_b21 _ _ _ = _
            unfold fX10_fewest_b21
            rw [e3.P, if_neg hbnd, b1, bd_e, un2_e, b4', if_pos rfl, nI_1, lt_e]
        · rintro ⟨x, y, u⟩ ⟨e1, e2, e3, e4⟩
          dsimp only at e1 e2 e3 e4
          subst e1; subst e2
          refine ⟨(cv9 (fwN (okL σ) (2 ^ sP σ)), u), ?_, rfl, e3, e4⟩
          show fX10_fewest_b21 _ _ _ = _
          unfold fX10_fewest_b21
          rw [e3.P, sh_p _ (by omega), if_pos (Int32.le_refl _)]
      obtain ⟨⟨x, u⟩, m1, m2, m3, m4⟩ := main
      dsimp only at m2 m3 m4
      refine ⟨u, ?_, m3, m4⟩
      show fX10_fewest v (nI p) = _
      unfold fX10_fewest
      rw [i2, if_neg (by decide), m1, bd_e, un2_e, m2]
      exact m_nos hp (by omega) _
/-- the kinds with which p has light at the door -/
def heN (σ : St) (p : Nat) (n : Nat) : Nat := mask (fun k => (dN (bec σ p k)).testBit p) n
theorem he_s (σ : St) (p n : Nat) : heN σ p (n + 1) = if (dN (bec σ p n)).testBit p then heN σ p n ||| 2 ^ n else heN σ p n := by
  show mask _ n ||| _ = _
  by_cases c : (dN (bec σ p n)).testBit p = true
  · rw [if_pos c, if_pos c]; rfl
  · rw [if_neg c, if_neg c, Nat.or_zero]; rfl
theorem q_heirs (h : R w σ) (x : Int32) : Ans (fX9_heirs w x) (fun v => fX10_heirs v x) := by
  have h8 := h.g.P
  rcases who h x with ⟨a, b⟩ | ⟨a, b, p, hp, rfl⟩
  · exact Ans.nof h 1 (by decide) (by decide) (by unfold fX9_heirs; simp only [a, if_pos, rf1, rf2, rf3, rf4, rf6, bd_e, un2_e] <;> rfl) (fun v e => by unfold fX10_heirs; simp only [b v e, if_pos, e _ (show (42 : Nat) ≠ 12 by decide), no1, no2, no3, no4, no6, bd_e, un2_e] <;> rfl)
  · refine Ans.q (r := nI (heN σ p 7)) h ?_ fun v hv => ?_
    · have main : ∃ x, iter (fun s : Int32 × Int32 × Wd => fX1_kindsLit_b4 (nI p) s.1 s.2.1 s.2.2) FU (0, 0, w) = some x ∧ x.1 = nI (heN σ p 7) ∧ Cq w x.2 := by
        refine itn (fun n s => s.1 = nI (heN σ p n) ∧ s.2.1 = nI n ∧ Cq w s.2.2) _ 7 ⟨rfl, rfl, Ag.rf⟩ ?_ ?_ (by omega)
        · rintro n ⟨x, y, u⟩ hn ⟨e1, e2, e3⟩
          dsimp only at e1 e2 e3
          subst e1; subst e2
          have hCu := e3.co1 h.c
          have hC3 : CoIs (fX2_takeFrom 3 1 u) 3 σ := c_take co3 co1 (by decide) hCu
          obtain ⟨u1, b1, b2⟩ := c_become co3 hC3 (p := p) (k := n) (by omega) hn
          have b2' : CoIs u1 3 (bec σ p n) := b2
          have gb := good_bec h.g (p := p) (k := n) hn
          obtain ⟨u2, d1, d2⟩ := c_doorOf co3 b2' gb
          have hd := dN_lt gb
          have q1 : Cq u u1 := (Cq.of (l := pX2_takeFrom 3) (rX2_takeFrom rfl) (by decide)).tr (Cq.of (rX2_become b1) (by decide))
          refine ⟨(nI (heN σ p (n + 1)), nI (n + 1), u2), ?_, rfl, rfl, (e3.tr q1).tr d2.cq⟩
          show fX1_kindsLit_b4 _ _ _ _ = _
          unfold fX1_kindsLit_b4
          rw [if_neg (by rw [c6, n_lt (by decide) (by omega)]; omega), lt_e, b1, bd_e, d1, bd_e, un2_e, hasc (by omega) (by omega), he_s]
          by_cases c : (dN (bec σ p n)).testBit p = true
          · rw [if_pos c, if_neg (by decide), if_pos c, sh_p n (by omega), n_or, lt_e, nI_1, lt_e]
          · rw [if_neg c, if_pos rfl, if_neg c, nI_1, lt_e]
        · rintro ⟨x, y, u⟩ ⟨e1, e2, e3⟩
          dsimp only at e1 e2 e3
          subst e1; subst e2
          refine ⟨(nI (heN σ p 7), u), ?_, rfl, e3⟩
          show fX1_kindsLit_b4 _ _ _ _ = _
          unfold fX1_kindsLit_b4
          rw [if_pos (show (6 : Int32) < nI 7 by decide)]
      obtain ⟨⟨x, u⟩, m1, m2, m3⟩ := main
      dsimp only at m2 m3
      refine ⟨u, ?_, m3⟩
      unfold fX9_heirs fX1_kindsLit
      rw [a, if_neg (by decide), m1, bd_e, un2_e, bd_e, un2_e, m2]
    · have main : ∃ x, iter (fun s : Int32 × Int32 × Wd => fX10_heirs_b18 (nI p) s.1 s.2.1 s.2.2) FU (0, 0, v) = some x ∧ x.1 = nI (heN σ p 7) ∧ MoIs x.2 σ ∧ Mq v x.2 := by
        refine itn (fun n s => s.1 = nI (heN σ p n) ∧ s.2.1 = nI n ∧ MoIs s.2.2 σ ∧ Mq v s.2.2) _ 7 ⟨rfl, rfl, hv.o, Ag.rf⟩ ?_ ?_ (by omega)
        · rintro n ⟨x, y, u⟩ hn ⟨e1, e2, e3, e4⟩
          dsimp only at e1 e2 e3 e4
          subst e1; subst e2
          obtain ⟨u1, b1, b2, b3, b4, -⟩ := m_save1 e3
          obtain ⟨u2, d1, d2⟩ := m_becomes b2 (p := p) (k := n) (by omega) hn
          have d2' : MoIs u2 (bec σ p n) := d2
          have gb := good_bec h.g (p := p) (k := n) hn
          have hsM : sM (bec σ p n) ≤ 1200 := by
            have : sM (bec σ p n) = sM σ := by unfold bec; split <;> rfl
            rw [this]; exact h.m2
          obtain ⟨u3, f1, f2, f3, f4⟩ := m_door d2' gb hsM
          have hK : Kept u2 1 σ := b3.keep fun q _ _ => congrFun ((rX10_becomes d1).cell 53 (by decide)).1 q
          obtain ⟨u4, g1, g2, g3, -⟩ := m_rest1 (hK.kk f3 (by decide))
          have hd := dN_lt gb
          refine ⟨(nI (heN σ p (n + 1)), nI (n + 1), u4), ?_, rfl, rfl, g2, ((((e4.tr b4).tr (Mq.of (rX10_becomes d1) (by decide))).tr f4).tr g3)⟩
          show fX10_heirs_b18 _ _ _ _ = _
          unfold fX10_heirs_b18
          rw [if_neg (by rw [c6, n_lt (by decide) (by omega)]; omega), b1, bd_e, d1, bd_e, f1, bd_e, un2_e, hasm (show dN (bec σ p n) < 2 ^ 31 by omega) (by omega), he_s]
          by_cases c : (dN (bec σ p n)).testBit p = true
          · rw [if_pos c, if_neg (by decide), if_pos c, sh_p n (by omega), lt_e, n_or, lt_e, g1, bd_e, nI_1, lt_e]
          · rw [if_neg c, if_pos rfl, if_neg c, lt_e, show nI (heN σ p n) ||| (0 : Int32) = nI (heN σ p n) from by rw [c0, n_or, Nat.or_zero], lt_e, g1, bd_e, nI_1, lt_e]
        · rintro ⟨x, y, u⟩ ⟨e1, e2, e3, e4⟩
          dsimp only at e1 e2 e3 e4
          subst e1; subst e2
          refine ⟨(nI (heN σ p 7), u), ?_, rfl, e3, e4⟩
          show fX10_heirs_b18 _ _ _ _ = _
          unfold fX10_heirs_b18
          rw [if_pos (show (6 : Int32) < nI 7 by decide)]
      obtain ⟨⟨x, u⟩, m1, m2, m3, m4⟩ := main
      dsimp only at m2 m3 m4
      refine ⟨u, ?_, m3, m4⟩
      show fX10_heirs v (nI p) = _
      unfold fX10_heirs
      rw [isP hv.o hv.g hp, if_neg (by decide), m1, bd_e, un2_e, m2]
end

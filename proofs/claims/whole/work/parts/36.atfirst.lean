/-! atFirst -/
section
variable {w w1 w2 : Wd} {σ τ : St} {b : Nat}
theorem grown_eq (h0 : sP σ = sP τ) (hK : sK σ = sK τ) : grown σ = grown τ := by unfold grown; rw [h0, hK]
theorem spS_eq (h0 : sP σ = sP τ) (h2 : sF σ = sF τ) (h3 : sE σ = sE τ) (hK : sK σ = sK τ) (lit : Nat) : ∀ p, spS σ lit p = spS τ lit p
  | 0 => rfl
  | p + 1 => by unfold spS; rw [spS_eq h0 h2 h3 hK lit p, grown_eq h0 hK, h0, h2, h3]
theorem spr_eq (h0 : sP σ = sP τ) (h2 : sF σ = sF τ) (h3 : sE σ = sE τ) (hK : sK σ = sK τ) (lit : Nat) : spr σ lit = spr τ lit := by unfold spr fresh; rw [spS_eq h0 h2 h3 hK lit, h0]
theorem runU_eq (h0 : sP σ = sP τ) (h2 : sF σ = sF τ) (h3 : sE σ = sE τ) (hK : sK σ = sK τ) (u : Nat → Nat) (a lit : Nat) : ∀ n, runU σ u a lit n = runU τ u a lit n
  | 0 => rfl
  | n + 1 => by unfold runU mntU; rw [runU_eq h0 h2 h3 hK u a lit n, spr_eq h0 h2 h3 hK]
theorem door_wL (σ : St) (v lit : Nat) : door (wr σ 1 v) lit = door σ lit := runU_eq (σ := wr σ 1 v) (τ := σ) rfl rfl rfl rfl _ _ _ _
/-- the set with the fewest that does, of those below l; 999: none -/
def afN (σ : St) (ok : Nat → Bool) : Nat → Nat
  | 0 => 999
  | l + 1 => if nd l (grown σ) = 0 ∧ (afN σ ok l = 999 ∨ pop l < pop (afN σ ok l)) ∧ ok l = true then l else afN σ ok l
def cv9 (n : Nat) : Int32 := if n = 999 then -9 else nI n
theorem afN_le (σ : St) (ok : Nat → Bool) : ∀ l, afN σ ok l = 999 ∨ afN σ ok l < l
  | 0 => Or.inl rfl
  | l + 1 => by
    have := afN_le σ ok l
    unfold afN
    split <;> omega
theorem nd_le {l g : Nat} (h : nd l g = 0) : l ≤ g := by
  have : l = l &&& g := bits_ext fun q => by
    rw [Nat.testBit_and]
    cases hb : l.testBit q with
    | false => rfl
    | true => rw [nd_zero.mp h q hb]; rfl
  rw [this]
  exact Nat.and_le_right
theorem afN_stay (σ : St) (ok : Nat → Bool) : ∀ k, afN σ ok (grown σ + 1 + k) = afN σ ok (grown σ + 1)
  | 0 => rfl
  | k + 1 => by
    show afN σ ok (grown σ + 1 + k + 1) = _
    rw [afN, if_neg (by rintro ⟨h, -⟩; have := nd_le h; omega), afN_stay σ ok k]
theorem pop8 {m : Nat} (h : m < 256) : pop m ≤ 8 := pop_le m h
theorem c_enough (hC : CoIs w 1 σ) (hg : good σ) : ∃ w1, fX4_enoughAtFirst w = some (cv9 (afN σ (fun l => decide (door σ l = grown σ)) (grown σ + 1)), w1) := by
  have h8 := hg.P
  have hG := lt256 (grown_lt (σ := σ)) h8
  obtain ⟨v, a1, a2, a3, a4⟩ := c_outNow hC hg
  unfold fX4_enoughAtFirst
  rw [a1, bd_e]
  have main : ∃ x, iter (fun s : Int32 × Int32 × Int32 × Wd => fX4_enoughAtFirst_b19 s.1 s.2.1 s.2.2.1 s.2.2.2) FU (-9, 9, 0, v) = some x ∧ x.1 = cv9 (afN σ (fun l => decide (door σ l = grown σ)) (grown σ + 1)) := by
    refine itn (fun l s => s.1 = cv9 (afN σ (fun l => decide (door σ l = grown σ)) l) ∧ s.2.1 = nI (if afN σ (fun l => decide (door σ l = grown σ)) l = 999 then 9 else pop (afN σ (fun l => decide (door σ l = grown σ)) l)) ∧ s.2.2.1 = nI l ∧ WkIs s.2.2.2 σ) _ (grown σ + 1) ⟨rfl, rfl, rfl, a2⟩ ?_ ?_ (by omega)
    · rintro l ⟨x, y, z, u⟩ hl ⟨e1, e2, e3, e4⟩
      dsimp only at e1 e2 e3 e4
      subst e1; subst e2; subst e3
      have hl8 : l < 256 := by omega
      have hpl := pop8 hl8
      have ha := afN_le σ (fun l => decide (door σ l = grown σ)) l
      have hb : (if afN σ (fun l => decide (door σ l = grown σ)) l = 999 then 9 else pop (afN σ (fun l => decide (door σ l = grown σ)) l)) ≤ 9 := by
        split
        · exact Nat.le_refl _
        · have := pop8 (m := afN σ (fun l => decide (door σ l = grown σ)) l) (by omega); omega
      have e5 : afN σ (fun l => decide (door σ l = grown σ)) (l + 1) = if nd l (grown σ) = 0 ∧ (afN σ (fun l => decide (door σ l = grown σ)) l = 999 ∨ pop l < pop (afN σ (fun l => decide (door σ l = grown σ)) l)) ∧ decide (door σ l = grown σ) = true then l else afN σ (fun l => decide (door σ l = grown σ)) l := rfl
      have hless : (if afN σ (fun l => decide (door σ l = grown σ)) l = 999 then 9 else pop (afN σ (fun l => decide (door σ l = grown σ)) l)) ≤ pop l ↔ ¬ (afN σ (fun l => decide (door σ l = grown σ)) l = 999 ∨ pop l < pop (afN σ (fun l => decide (door σ l = grown σ)) l)) := by
        by_cases c : afN σ (fun l => decide (door σ l = grown σ)) l = 999
        · rw [if_pos c]; constructor
          · intro h; omega
          · intro h; exact absurd (Or.inl c) h
        · rw [if_neg c]; constructor
          · rintro h (h2 | h2)
            · exact c h2
            · omega
          · intro h
            exact Nat.not_lt.mp fun h2 => h (Or.inr h2)
      have hGlt : ¬ nI (grown σ) < nI l := by rw [n_lt (by omega) (by omega)]; omega
      by_cases c : (if afN σ (fun l => decide (door σ l = grown σ)) l = 999 then 9 else pop (afN σ (fun l => decide (door σ l = grown σ)) l)) ≤ pop l
      · have e6 : afN σ (fun l => decide (door σ l = grown σ)) (l + 1) = afN σ (fun l => decide (door σ l = grown σ)) l := by rw [e5, if_neg (fun h => hless.mp c h.2.1)]
        refine ⟨(cv9 (afN σ (fun l => decide (door σ l = grown σ)) l), nI _, nI (l + 1), u), ?_, by rw [e6], by rw [e6], rfl, e4⟩
        show fX4_enoughAtFirst_b19 _ _ _ _ = _
        unfold fX4_enoughAtFirst_b19
        rw [e4.2.1, if_neg hGlt, pop_c _ hl8, lt_e, if_pos (by rw [n_le (by omega) (by omega)]; exact c), nI_1, lt_e]
      · have c' : ¬ nI (if afN σ (fun l => decide (door σ l = grown σ)) l = 999 then 9 else pop (afN σ (fun l => decide (door σ l = grown σ)) l)) ≤ nI (pop l) := by rw [n_le (by omega) (by omega)]; exact c
        have hnd : nI l &&& (nI (grown σ) ^^^ (-1)) = nI (nd l (grown σ)) := n_nd _ _
        have hndl : nd l (grown σ) < 2 ^ 31 := by
          have : nd l (grown σ) < 2 ^ 8 := nd_lt (by omega)
          omega
        by_cases d : nd l (grown σ) = 0
        · obtain ⟨s1, s2⟩ := sub_grown.mp d
          obtain ⟨u1, b1, b2⟩ := c_atDoor e4 hg (m := 0) s1 (Nat.zero_le _)
          have b1' : fX8_atDoorFrom u 0 (nI l) = some (nI (door σ l), u1) := b1
          have hd8 : door σ l < 256 := lt256 (runU_lt hg s1 _) h8
          by_cases k : door σ l = grown σ
          · have e6 : afN σ (fun l => decide (door σ l = grown σ)) (l + 1) = l := by
              rw [e5, if_pos ⟨d, Decidable.not_not.mp fun h => c (hless.mpr h), decide_eq_true k⟩]
            refine ⟨(nI l, nI (pop l), nI (l + 1), u1), ?_, ?_, ?_, rfl, b2⟩
            · show fX4_enoughAtFirst_b19 _ _ _ _ = _
              unfold fX4_enoughAtFirst_b19
              rw [e4.2.1, if_neg hGlt, pop_c _ hl8, lt_e, if_neg c', hnd, if_pos (by rw [d]; rfl), b1', bd_e, un2_e, b2.2.1, if_pos (by rw [k]), nI_1, lt_e]
            · rw [e6]; unfold cv9; rw [if_neg (by omega)]
            · rw [e6, if_neg (by omega)]
          · have e6 : afN σ (fun l => decide (door σ l = grown σ)) (l + 1) = afN σ (fun l => decide (door σ l = grown σ)) l := by
              rw [e5, if_neg (fun h => k (of_decide_eq_true h.2.2))]
            refine ⟨(cv9 (afN σ (fun l => decide (door σ l = grown σ)) l), nI _, nI (l + 1), u1), ?_, by rw [e6], by rw [e6], rfl, b2⟩
            show fX4_enoughAtFirst_b19 _ _ _ _ = _
            unfold fX4_enoughAtFirst_b19
            rw [e4.2.1, if_neg hGlt, pop_c _ hl8, lt_e, if_neg c', hnd, if_pos (by rw [d]; rfl), b1', bd_e, un2_e, b2.2.1, if_neg (by rw [n_eq (by omega) (by omega)]; exact k), nI_1, lt_e]
        · have e6 : afN σ (fun l => decide (door σ l = grown σ)) (l + 1) = afN σ (fun l => decide (door σ l = grown σ)) l := by
            rw [e5, if_neg (fun h => d h.1)]
          refine ⟨(cv9 (afN σ (fun l => decide (door σ l = grown σ)) l), nI _, nI (l + 1), u), ?_, by rw [e6], by rw [e6], rfl, e4⟩
          show fX4_enoughAtFirst_b19 _ _ _ _ = _
          unfold fX4_enoughAtFirst_b19
          rw [e4.2.1, if_neg hGlt, pop_c _ hl8, lt_e, if_neg c', hnd, if_neg (by rw [c0, n_eq hndl (by decide)]; exact d), nI_1, lt_e]
    · rintro ⟨x, y, z, u⟩ ⟨e1, e2, e3, e4⟩
      dsimp only at e1 e2 e3 e4
      subst e1; subst e2; subst e3
      refine ⟨(cv9 (afN σ (fun l => decide (door σ l = grown σ)) (grown σ + 1)), u), ?_, rfl⟩
      show fX4_enoughAtFirst_b19 _ _ _ _ = _
      unfold fX4_enoughAtFirst_b19
      rw [e4.2.1, if_pos (by rw [n_lt (by omega) (by omega)]; omega)]
  obtain ⟨⟨x, u⟩, m1, m2⟩ := main
  dsimp only at m2
  rw [m1, bd_e, un2_e, m2]
  exact ⟨_, rfl⟩
theorem cv9_ge {a : Nat} (h : a = 999 ∨ a < 999) : ((0 : Int32) ≤ cv9 a) = (a ≠ 999) := by
  unfold cv9
  by_cases c : a = 999
  · rw [if_pos c, c]; simp
  · rw [if_neg c]
    have : (0 : Int32) ≤ nI a := nI_pos' (by omega)
    simp [this, c]
theorem cv9_lt {a : Nat} (h : a = 999 ∨ a < 999) : (cv9 a < (0 : Int32)) = (a = 999) := by
  unfold cv9
  by_cases c : a = 999
  · rw [if_pos c, c]; simp
  · rw [if_neg c]
    have : ¬ nI a < 0 := nI_pos (by omega)
    simp [this, c]
/-- the number of a set, or the set -/
def nos (p a : Nat) : Int32 := if a = 999 then -9 else if p = 0 then nI (pop a) else nI a
theorem c_nos {p a : Nat} (hp : p < 2) (ha : a = 999 ∨ a < 256) : fX9_numberOrSet (nI p) (cv9 a) = nos p a := by
  unfold fX9_numberOrSet nos
  by_cases c : a = 999
  · rw [if_neg (by rw [cv9_ge (by omega)]; simp [c]), if_pos c]
  · have e : cv9 a = nI a := by unfold cv9; rw [if_neg c]
    rw [if_pos (by rw [cv9_ge (by omega)]; exact c), if_neg c, e]
    by_cases d : p = 0
    · rw [if_pos (by rw [d]; rfl), if_pos d, pop_c _ (by omega)]
    · rw [if_neg (by rw [c0, n_eq (by omega) (by decide)]; exact d), if_neg d]
theorem m_nos {p a : Nat} (hp : p < 2) (ha : a = 999 ∨ a < 256) (v : Wd) : (if nI p = 1 then some (cv9 a, v) else if (0 : Int32) ≤ cv9 a then (fX10_bits (cv9 a)).bind fun (r38 : Int32) => some (r38, v) else some (cv9 a, v)) = some (nos p a, v) := by
  unfold nos
  by_cases c : a = 999
  · have e : cv9 a = -9 := by unfold cv9; rw [if_pos c]
    have e2 : ¬ (0 : Int32) ≤ -9 := by decide
    rw [if_pos c, e, if_neg e2]
    split <;> rfl
  · have e : cv9 a = nI a := by unfold cv9; rw [if_neg c]
    rw [if_neg c]
    by_cases d : p = 0
    · rw [if_neg (by rw [d]; decide), if_pos (by rw [cv9_ge (by omega)]; exact c), if_pos d, e, pop_m _ (by omega), bd_e]
    · rw [if_pos (by rw [show p = 1 by omega]; rfl), if_neg d, e]
theorem wr_wr (σ : St) (k x y : Nat) : wr (wr σ k x) k y = wr σ k y := by
  unfold wr
  congr 1
  funext j
  dsimp only
  by_cases h : j = k
  · rw [if_pos h, if_pos h]
  · rw [if_neg h, if_neg h, if_neg h]
theorem q_atFirst (h : R w σ) (x : Int32) : Ans (fX9_atFirst w x) (fun v => fX10_atFirst v x) := by
  have h8 := h.g.P
  have hG := lt256 (grown_lt (σ := σ)) h8
  have hGP := grown_lt (σ := σ)
  have hP2 : 2 ^ sP σ ≤ 256 := Nat.pow_le_pow_right (n := 2) (by decide) h8
  rcases arg x 2 with hx | hx | ⟨p, hp, rfl⟩
  · exact Ans.nof h 2 (by decide) (by decide) (by unfold fX9_atFirst fX9_isOutside; simp only [if_pos hx, if_neg (show ¬ (1 : Int32) = 0 by decide), rf1, rf2, rf3, rf4, rf6, bd_e, un2_e] <;> rfl) (fun v e => by unfold fX10_atFirst fX10_isIn; simp only [if_pos hx, if_pos, e _ (show (42 : Nat) ≠ 12 by decide), no1, no2, no3, no4, no6, bd_e, un2_e] <;> rfl)
  · have a1 : ¬ x < 0 := ge0 hx (by decide)
    have a2 : ¬ x ≤ 1 := hi_le (m := 1) hx (by decide)
    have a3 : (1 : Int32) < x := hi_lt (m := 1) hx (by decide)
    exact Ans.nof h 2 (by decide) (by decide) (by unfold fX9_atFirst fX9_isOutside; simp only [if_neg a1, if_neg a2, if_neg (show ¬ (1 : Int32) = 0 by decide), rf1, rf2, rf3, rf4, rf6, bd_e, un2_e] <;> rfl) (fun v e => by unfold fX10_atFirst fX10_isIn; simp only [if_neg a1, if_pos a3, if_pos, e _ (show (42 : Nat) ≠ 12 by decide), no1, no2, no3, no4, no6, bd_e, un2_e] <;> rfl)
  · have i1 : fX9_isOutside (nI p) 1 = 0 := (by decide : ∀ p, p < 2 → fX9_isOutside (nI p) 1 = 0) p hp
    have i2 : fX10_isIn (nI p) 0 1 = 1 := (by decide : ∀ p, p < 2 → fX10_isIn (nI p) 0 1 = 1) p hp
    have hfin := afN_le σ (fun l => decide (door σ l = grown σ)) (grown σ + 1)
    refine Ans.q (r := nos p (afN σ (fun l => decide (door σ l = grown σ)) (grown σ + 1))) h ?_ fun v hv => ?_
    · obtain ⟨v, e⟩ := c_enough h.c h.g
      refine ⟨v, ?_, Cq.of (rX4_enoughAtFirst e) (by decide)⟩
      unfold fX9_atFirst
      rw [i1, if_pos rfl, e, bd_e, un2_e, c_nos hp (by omega)]
    · have main : ∃ x, iter (fun s : Int32 × Int32 × Wd => fX10_atFirst_b27 s.1 s.2.1 s.2.2) FU (-9, 0, v) = some x ∧ x.1 = cv9 (afN σ (fun l => decide (door σ l = grown σ)) (2 ^ sP σ)) ∧ (∃ y, good (wr σ 1 y) ∧ MoIs x.2 (wr σ 1 y)) ∧ Mq v x.2 := by
        refine itn (fun l s => s.1 = cv9 (afN σ (fun l => decide (door σ l = grown σ)) l) ∧ s.2.1 = nI l ∧ (∃ y, good (wr σ 1 y) ∧ MoIs s.2.2 (wr σ 1 y)) ∧ Mq v s.2.2) _ (2 ^ sP σ) ⟨rfl, rfl, ⟨sL σ, h.g.lit h.g.L h.g.sm, hv.o⟩, Ag.rf⟩ ?_ ?_ (by omega)
        · rintro l ⟨x, y, u⟩ hl ⟨e1, e2, ⟨z, g1, g2⟩, e4⟩
          dsimp only at e1 e2 g2 e4
          subst e1; subst e2
          have hl8 : l < 256 := by omega
          have ha := afN_le σ (fun l => decide (door σ l = grown σ)) l
          have e5 : afN σ (fun l => decide (door σ l = grown σ)) (l + 1) = if nd l (grown σ) = 0 ∧ (afN σ (fun l => decide (door σ l = grown σ)) l = 999 ∨ pop l < pop (afN σ (fun l => decide (door σ l = grown σ)) l)) ∧ decide (door σ l = grown σ) = true then l else afN σ (fun l => decide (door σ l = grown σ)) l := rfl
          have hbnd : ¬ (1 : Int32) <<< (nI (sP σ) &&& 31) ≤ nI l := by rw [sh_p _ (by omega), n_le (by omega) (by omega)]; omega
          have hsm : fX10_smallBits u = some (nI (smallM σ)) := m_small (σ := wr σ 1 z) g2 g1
          have gP : u.1 42 6 = nI (sP σ) := g2.P
          have hsl : smallM σ < 256 := lt256 smallM_lt h8
          have hands : l &&& smallM σ < 2 ^ 31 := by
            have : l &&& smallM σ < 2 ^ 8 := Nat.and_lt_two_pow _ (by omega)
            omega
          by_cases d : NoSm σ l
          · have d0 : nI l &&& nI (smallM σ) = 0 := by rw [n_and, (and_small hl).mpr d]; rfl
            have dnd : nd l (grown σ) = 0 := sub_grown.mpr ⟨hl, d⟩
            -- trying l
            have try_ : ∃ o, fX10_atFirst_j67 u (cv9 (afN σ (fun l => decide (door σ l = grown σ)) l)) (nI l) = some o ∧ (∃ u1, o = Sum.inl ((if door σ l = grown σ then nI l else cv9 (afN σ (fun l => decide (door σ l = grown σ)) l)), nI (l + 1), u1) ∧ (∃ y, good (wr σ 1 y) ∧ MoIs u1 (wr σ 1 y)) ∧ Mq v u1) := by
              have hgl : good (wr σ 1 l) := h.g.lit hl d
              have hMl : MoIs (upI u 42 7 (nI l)) (wr σ 1 l) := by
                have := g2.wL l
                rw [wr_wr] at this
                exact this
              obtain ⟨u1, b1, b2, -, b4⟩ := m_door hMl hgl h.m2
              have b1' : fX10_atDoor (upI u 42 7 (nI l)) = some (nI (door σ l), u1) := by
                rw [b1, door_wL]; rfl
              have hal := m_allLit (σ := wr σ 1 l) b2 hgl (s := door σ l) (runU_lt h.g hl _) (runU_sm h.g _ _ d _)
              have hal' : fX10_areAllLit u1 (nI (door σ l)) = some (if door σ l = grown σ then 1 else 0) := hal
              have hq : Mq u (upI u 42 7 (nI l)) := Mq.of (l := [at_ 42 7]) (Agree.rf.pI rfl (Or.inl (List.mem_singleton.mpr rfl))) (by decide)
              refine ⟨_, ?_, u1, rfl, ⟨l, hgl, b2⟩, (e4.tr hq).tr b4⟩
              unfold fX10_atFirst_j67
              rw [lt_e, b1', bd_e, un2_e, hal', bd_e]
              by_cases k : door σ l = grown σ
              · rw [if_pos k, if_neg (by decide), if_pos k, nI_1, lt_e]
              · rw [if_neg k, if_pos rfl, if_neg k, nI_1, lt_e]
            obtain ⟨o, t1, u1, rfl, t2, t3⟩ := try_
            by_cases c : afN σ (fun l => decide (door σ l = grown σ)) l = 999 ∨ pop l < pop (afN σ (fun l => decide (door σ l = grown σ)) l)
            · have e6 : afN σ (fun l => decide (door σ l = grown σ)) (l + 1) = if door σ l = grown σ then l else afN σ (fun l => decide (door σ l = grown σ)) l := by
                rw [e5]
                by_cases k : door σ l = grown σ
                · rw [if_pos ⟨dnd, c, decide_eq_true k⟩, if_pos k]
                · rw [if_neg (fun h => k (of_decide_eq_true h.2.2)), if_neg k]
              refine ⟨((if door σ l = grown σ then nI l else cv9 (afN σ (fun l => decide (door σ l = grown σ)) l)), nI (l + 1), u1), ?_, ?_, rfl, t2, t3⟩
              · show fX10_atFirst_b27 _ _ _ = _
                unfold fX10_atFirst_b27
                rw [gP, if_neg hbnd, hsm, bd_e, if_pos d0]
                by_cases c9 : afN σ (fun l => decide (door σ l = grown σ)) l = 999
                · rw [if_pos (by rw [cv9_lt (by omega)]; exact c9), t1]
                · have ev : cv9 (afN σ (fun l => decide (door σ l = grown σ)) l) = nI (afN σ (fun l => decide (door σ l = grown σ)) l) := by unfold cv9; rw [if_neg c9]
                  have hlt : pop l < pop (afN σ (fun l => decide (door σ l = grown σ)) l) := by rcases c with c | c; exact absurd c c9; exact c
                  have p1 := pop8 hl8
                  have p2 := pop8 (m := afN σ (fun l => decide (door σ l = grown σ)) l) (by omega)
                  rw [if_neg (by rw [cv9_lt (by omega)]; exact c9), pop_m _ hl8, bd_e]
                  rw [ev] at t1 ⊢
                  rw [pop_m _ (by omega), bd_e, if_pos (by rw [n_lt (by omega) (by omega)]; exact hlt), t1]
              · rw [e6]
                by_cases k : door σ l = grown σ
                · rw [if_pos k, if_pos k]; unfold cv9; rw [if_neg (by omega)]
                · rw [if_neg k, if_neg k]
            · have c9 : afN σ (fun l => decide (door σ l = grown σ)) l ≠ 999 := fun h => c (Or.inl h)
              have e6 : afN σ (fun l => decide (door σ l = grown σ)) (l + 1) = afN σ (fun l => decide (door σ l = grown σ)) l := by rw [e5, if_neg (fun h => c h.2.1)]
              have ev : cv9 (afN σ (fun l => decide (door σ l = grown σ)) l) = nI (afN σ (fun l => decide (door σ l = grown σ)) l) := by unfold cv9; rw [if_neg c9]
              have p1 := pop8 hl8
              have p2 := pop8 (m := afN σ (fun l => decide (door σ l = grown σ)) l) (by omega)
              refine ⟨(cv9 (afN σ (fun l => decide (door σ l = grown σ)) l), nI (l + 1), u), ?_, by rw [e6], rfl, ⟨z, g1, g2⟩, e4⟩
              show fX10_atFirst_b27 _ _ _ = _
              unfold fX10_atFirst_b27
              rw [gP, if_neg hbnd, hsm, bd_e, if_pos d0, if_neg (by rw [cv9_lt (by omega)]; exact c9), pop_m _ hl8, bd_e, ev, pop_m _ (by omega), bd_e, if_neg (by rw [n_lt (by omega) (by omega)]; exact fun h => c (Or.inr h)), nI_1, lt_e]
          · have e6 : afN σ (fun l => decide (door σ l = grown σ)) (l + 1) = afN σ (fun l => decide (door σ l = grown σ)) l := by
              rw [e5, if_neg (fun h => d (sub_grown.mp h.1).2)]
            refine ⟨(cv9 (afN σ (fun l => decide (door σ l = grown σ)) l), nI (l + 1), u), ?_, by rw [e6], rfl, ⟨z, g1, g2⟩, e4⟩
            show fX10_atFirst_b27 _ _ _ = _
            unfold fX10_atFirst_b27
            rw [gP, if_neg hbnd, hsm, bd_e, n_and, if_neg (by rw [c0, n_eq hands (by decide), and_small hl]; exact d), nI_1, lt_e]
        · rintro ⟨x, y, u⟩ ⟨e1, e2, ⟨z, g1, g2⟩, e4⟩
          dsimp only at e1 e2 g2 e4
          subst e1; subst e2
          refine ⟨(cv9 (afN σ (fun l => decide (door σ l = grown σ)) (2 ^ sP σ)), u), ?_, rfl, ⟨z, g1, g2⟩, e4⟩
          show fX10_atFirst_b27 _ _ _ = _
          unfold fX10_atFirst_b27
          rw [g2.P, show sP (wr σ 1 z) = sP σ from rfl, sh_p _ (by omega), if_pos (Int32.le_refl _)]
      obtain ⟨⟨x, u⟩, m1, m2, ⟨z, g1, g2⟩, m4⟩ := main
      dsimp only at m2 g2 m4
      have hst := afN_stay σ (fun l => decide (door σ l = grown σ)) (2 ^ sP σ - (grown σ + 1))
      rw [show grown σ + 1 + (2 ^ sP σ - (grown σ + 1)) = 2 ^ sP σ by omega] at hst
      rw [hst] at m2
      have hq : Mq u (upI u 42 7 (nI (sL σ))) := Mq.of (l := [at_ 42 7]) (Agree.rf.pI rfl (Or.inl (List.mem_singleton.mpr rfl))) (by decide)
      refine ⟨upI u 42 7 (nI (sL σ)), ?_, ?_, m4.tr hq⟩
      · show fX10_atFirst v (nI p) = _
        unfold fX10_atFirst
        rw [i2, if_neg (by decide), hv.o.L, lt_e, m1, bd_e, un2_e, lt_e, m2]
        exact m_nos hp (by omega) _
      · have := g2.wL (sL σ)
        rw [wr_wr] at this
        exact this
end

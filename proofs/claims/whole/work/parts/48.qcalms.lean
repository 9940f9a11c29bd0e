/-! calms: the reference -/
section
variable {w w1 w2 : Wd} {σ τ : St} {b : Nat} {u : Nat → Nat}
theorem m_calmIn (hg : good σ) (hm : sM σ ≤ 1200) {v : Wd} {i : Nat} (hi : sA σ + i < sD σ) {x y : Int32} {s : Wd} (h : XM v σ (bZ σ i) x y s) : ∃ r, iter (fun s : Int32 × Int32 × Int32 × Wd => fX10_calms_b57 1 (nI (sA σ + i)) s.1 s.2.1 s.2.2.1 s.2.2.2) FU (x, y, nI (sA σ + i + 1), s) = some r ∧ XM v σ (bZ σ (i + 1)) r.1 r.2.1 r.2.2 := by
  have hD := hg.D
  refine itn (fun m s => s.2.2.1 = nI (sA σ + i + 1 + m) ∧ XM v σ (bs (fun m => pZ σ (sA σ + i) (sA σ + i + 1 + m)) (fun m => 100 * (sA σ + i) + (sA σ + i + 1 + m)) (bZ σ i) m) s.1 s.2.1 s.2.2.2) _ (sD σ - (sA σ + i + 1)) ⟨rfl, h⟩ ?_ ?_ (by omega)
  · rintro m ⟨x, y, z, s⟩ hm2 ⟨e1, e2, e3, e4, e5⟩
    dsimp only at e1 e2 e3 e4 e5
    subst e1; subst e2; subst e3
    obtain ⟨s1, b1, b2, b3⟩ := m_doorCalm e4 hg hm (a := sA σ + i) (c := sA σ + i + 1 + m) (by omega) (by omega)
    have hb2 := bs_2 (fun m => pZ σ (sA σ + i) (sA σ + i + 1 + m)) (fun m => 100 * (sA σ + i) + (sA σ + i + 1 + m)) (bZ σ i) 9 (bZ_2 hg i) m (fun k _ => by have := pZ_le hg (sA σ + i) (sA σ + i + 1 + k); omega)
    have hp8 := pZ_le hg (sA σ + i) (sA σ + i + 1 + m)
    have e7 : bs (fun m => pZ σ (sA σ + i) (sA σ + i + 1 + m)) (fun m => 100 * (sA σ + i) + (sA σ + i + 1 + m)) (bZ σ i) (m + 1) = if (bs (fun m => pZ σ (sA σ + i) (sA σ + i + 1 + m)) (fun m => 100 * (sA σ + i) + (sA σ + i + 1 + m)) (bZ σ i) m).2 ≤ pZ σ (sA σ + i) (sA σ + i + 1 + m) then (100 * (sA σ + i) + (sA σ + i + 1 + m), pZ σ (sA σ + i) (sA σ + i + 1 + m) + 1) else bs (fun m => pZ σ (sA σ + i) (sA σ + i + 1 + m)) (fun m => 100 * (sA σ + i) + (sA σ + i + 1 + m)) (bZ σ i) m := rfl
    refine ⟨(bI (-9) (bs (fun m => pZ σ (sA σ + i) (sA σ + i + 1 + m)) (fun m => 100 * (sA σ + i) + (sA σ + i + 1 + m)) (bZ σ i) (m + 1)).2, fI (-9) (bs (fun m => pZ σ (sA σ + i) (sA σ + i + 1 + m)) (fun m => 100 * (sA σ + i) + (sA σ + i + 1 + m)) (bZ σ i) (m + 1)).1, nI (sA σ + i + 1 + (m + 1)), s1), ?_, rfl, rfl, rfl, b2, e5.tr b3⟩
    show fX10_calms_b57 _ _ _ _ _ _ = _
    unfold fX10_calms_b57 fX10_doorAt
    rw [if_neg (show ¬ (1 : Int32) = 0 by decide), lt_e, e4.D, if_neg (by rw [n_le (by omega) (by omega)]; omega), b1, bd_e, un2_e, e7]
    by_cases c : (bs (fun m => pZ σ (sA σ + i) (sA σ + i + 1 + m)) (fun m => 100 * (sA σ + i) + (sA σ + i + 1 + m)) (bZ σ i) m).2 ≤ pZ σ (sA σ + i) (sA σ + i + 1 + m)
    · rw [if_pos (by rw [bI_lt (by decide) (by omega) (by omega)]; exact c), if_pos c, if_neg (show ¬ (1 : Int32) = 0 by decide), show (100 : Int32) = nI 100 from rfl, n_mul, n_add, lt_e, nI_1, lt_e, bI_s, fI_s _ (by dsimp only; omega)]
      rfl
    · rw [if_neg (by rw [bI_lt (by decide) (by omega) (by omega)]; exact c), if_neg c, nI_1, lt_e]
      rfl
  · rintro ⟨x, y, z, s⟩ ⟨e1, e2⟩
    dsimp only at e1 e2
    subst e1
    refine ⟨(x, y, s), ?_, e2⟩
    show fX10_calms_b57 _ _ _ _ _ _ = _
    unfold fX10_calms_b57 fX10_doorAt
    rw [if_neg (show ¬ (1 : Int32) = 0 by decide), lt_e, e2.2.2.1.D, if_pos (by rw [n_le (by omega) (by omega)]; omega)]
theorem m_calm1 (hg : good σ) (hm : sM σ ≤ 1200) {v : Wd} {m : Nat} (hi : sA σ + m < sD σ) {x y : Int32} {s : Wd} (h : XM v σ (bs (pZ1 σ) (fun m => sA σ + m) (9999, pop (dN σ) + 1) m) x y s) : ∃ r, iter (fun s : Int32 × Int32 × Int32 × Wd => fX10_calms_b57 0 (nI (sA σ + m)) s.1 s.2.1 s.2.2.1 s.2.2.2) FU (x, y, nI (sA σ + m), s) = some r ∧ XM v σ (bs (pZ1 σ) (fun m => sA σ + m) (9999, pop (dN σ) + 1) (m + 1)) r.1 r.2.1 r.2.2 := by
  have hD := hg.D
  have hpd := pop8 (dN_lt hg)
  refine itn (fun k s => s.2.2.1 = nI (sA σ + m + k) ∧ XM v σ (bs (pZ1 σ) (fun m => sA σ + m) (9999, pop (dN σ) + 1) (m + k)) s.1 s.2.1 s.2.2.2) _ 1 ⟨rfl, h⟩ ?_ ?_ (by omega)
  · rintro k ⟨x, y, z, s⟩ hk ⟨e1, e2, e3, e4, e5⟩
    have k0 : k = 0 := by omega
    subst k0
    dsimp only at e1 e2 e3 e4 e5
    rw [Nat.add_zero] at e1 e2 e3
    subst e1; subst e2; subst e3
    obtain ⟨s1, b1, b2, b3⟩ := m_doorCalm e4 hg hm (a := sA σ + m) (c := sA σ + m) (by omega) (by omega)
    have hb2 := bs_2 (pZ1 σ) (fun m => sA σ + m) (9999, pop (dN σ) + 1) 9 (by dsimp only; omega) m (fun k _ => by have := pZ_le hg (sA σ + k) (sA σ + k); unfold pZ1; omega)
    have hp8 : pZ1 σ m ≤ 8 := pZ_le hg (sA σ + m) (sA σ + m)
    have e7 : bs (pZ1 σ) (fun m => sA σ + m) (9999, pop (dN σ) + 1) (m + 1) = if (bs (pZ1 σ) (fun m => sA σ + m) (9999, pop (dN σ) + 1) m).2 ≤ pZ1 σ m then (sA σ + m, pZ1 σ m + 1) else bs (pZ1 σ) (fun m => sA σ + m) (9999, pop (dN σ) + 1) m := rfl
    refine ⟨(bI (-9) (bs (pZ1 σ) (fun m => sA σ + m) (9999, pop (dN σ) + 1) (m + 1)).2, fI (-9) (bs (pZ1 σ) (fun m => sA σ + m) (9999, pop (dN σ) + 1) (m + 1)).1, nI (sA σ + m + 1), s1), ?_, rfl, rfl, rfl, b2, e5.tr b3⟩
    show fX10_calms_b57 0 (nI (sA σ + m)) (bI (-9) (bs (pZ1 σ) (fun m => sA σ + m) (9999, pop (dN σ) + 1) m).2) (fI (-9) (bs (pZ1 σ) (fun m => sA σ + m) (9999, pop (dN σ) + 1) m).1) (nI (sA σ + m)) s = _
    unfold fX10_calms_b57
    have b1' : fX10_doorCalm s (nI (sA σ + m)) (nI (sA σ + m)) = some (nI (pZ1 σ m), s1) := b1
    rw [if_pos rfl, nI_1, lt_e, if_neg (by rw [n_le (by omega) (by omega)]; omega), b1', bd_e, un2_e, e7]
    by_cases c : (bs (pZ1 σ) (fun m => sA σ + m) (9999, pop (dN σ) + 1) m).2 ≤ pZ1 σ m
    · rw [if_pos (by rw [bI_lt (by decide) (by omega) (by omega)]; exact c), if_pos c, if_pos rfl, lt_e, lt_e, bI_s, fI_s _ (by dsimp only; omega)]
    · rw [if_neg (by rw [bI_lt (by decide) (by omega) (by omega)]; exact c), if_neg c, lt_e]
  · rintro ⟨x, y, z, s⟩ ⟨e1, e2⟩
    dsimp only at e1 e2
    subst e1
    refine ⟨(x, y, s), ?_, e2⟩
    show fX10_calms_b57 _ _ _ _ _ _ = _
    unfold fX10_calms_b57
    rw [if_pos rfl, nI_1, lt_e, if_pos (Int32.le_refl _)]
theorem q_calms (h : R w σ) (x : Int32) : Ans (fX9_calms w x) (fun v => fX10_calms v x) := by
  have hD := h.g.D
  have hA := h.g.A
  have hd := dN_lt h.g
  rcases arg x 2 with hx | hx | ⟨p, hp, rfl⟩
  · exact Ans.nof h 2 (by decide) (by decide) (by unfold fX9_calms fX9_isOutside; simp only [if_pos hx, if_neg (show ¬ (1 : Int32) = 0 by decide), rf1, rf2, rf3, rf4, rf6, bd_e, un2_e] <;> rfl) (fun v e => by unfold fX10_calms fX10_isIn; simp only [if_pos hx, if_pos, e _ (show (42 : Nat) ≠ 12 by decide), no1, no2, no3, no4, no6, bd_e, un2_e] <;> rfl)
  · have a1 : ¬ x < 0 := ge0 hx (by decide)
    have a2 : ¬ x ≤ 1 := hi_le (m := 1) hx (by decide)
    have a3 : (1 : Int32) < x := hi_lt (m := 1) hx (by decide)
    exact Ans.nof h 2 (by decide) (by decide) (by unfold fX9_calms fX9_isOutside; simp only [if_neg a1, if_neg a2, if_neg (show ¬ (1 : Int32) = 0 by decide), rf1, rf2, rf3, rf4, rf6, bd_e, un2_e] <;> rfl) (fun v e => by unfold fX10_calms fX10_isIn; simp only [if_neg a1, if_pos a3, if_pos, e _ (show (42 : Nat) ≠ 12 by decide), no1, no2, no3, no4, no6, bd_e, un2_e] <;> rfl)
  · have fin : ∀ (q : Int32) (F : Nat → Nat × Nat), q = nI p → F 0 = (9999, pop (dN σ) + 1) → (∀ v : Wd, ∀ i, sA σ + i < sD σ → ∀ x y s, XM v σ (F i) x y s → ∃ r, iter (fun s : Int32 × Int32 × Int32 × Wd => fX10_calms_b57 q (nI (sA σ + i)) s.1 s.2.1 s.2.2.1 s.2.2.2) FU (x, y, (if q = 0 then nI (sA σ + i) else nI (sA σ + i) + 1), s) = some r ∧ XM v σ (F (i + 1)) r.1 r.2.1 r.2.2) → ∀ v, R v σ → ∃ w2, fX10_calms v q = some (fI (-9) (F (sD σ - sA σ)).1, w2) ∧ MoIs w2 σ ∧ Mq v w2 := fun q F hq hF0 hF v hv => by
      have i2 : fX10_isIn q 0 1 = 1 := by rw [hq]; exact (by decide : ∀ p, p < 2 → fX10_isIn (nI p) 0 1 = 1) p hp
      obtain ⟨v1, a1, a2, -, a4⟩ := m_door hv.o hv.g hv.m2
      have main : ∃ x, iter (fun s : Int32 × Int32 × Int32 × Wd => fX10_calms_b33 q s.1 s.2.1 s.2.2.1 s.2.2.2) FU (nI (pop (dN σ)), -9, nI (sA σ), v1) = some x ∧ x.1 = fI (-9) (F (sD σ - sA σ)).1 ∧ MoIs x.2 σ ∧ Mq v x.2 := by
        refine itn (fun i s => s.2.2.1 = nI (sA σ + i) ∧ XM v σ (F i) s.1 s.2.1 s.2.2.2) _ (sD σ - sA σ) ⟨rfl, ?_, ?_, a2, a4⟩ ?_ ?_ (by omega)
        · rw [hF0]; show nI _ = bI (-9) (pop (dN σ) + 1); rw [bI_s]
        · rw [hF0]; rfl
        · rintro i ⟨x, y, z, s⟩ hi ⟨e1, e2⟩
          dsimp only at e1 e2
          subst e1
          obtain ⟨⟨x1, y1, s1⟩, b1, b2⟩ := hF v i (by omega) x y s e2
          dsimp only at b2
          refine ⟨(x1, y1, nI (sA σ + (i + 1)), s1), ?_, rfl, b2⟩
          show fX10_calms_b33 _ _ _ _ _ = _
          unfold fX10_calms_b33 fX10_doorAt
          rw [e2.2.2.1.D, if_neg (by rw [n_le (by omega) (by omega)]; omega), lt_e, b1, bd_e, un3_e, nI_1, lt_e]
          rfl
        · rintro ⟨x, y, z, s⟩ ⟨e1, e2, e3, e4, e5⟩
          dsimp only at e1 e2 e3 e4 e5
          subst e1
          refine ⟨(y, s), ?_, e3, e4, e5⟩
          show fX10_calms_b33 _ _ _ _ _ = _
          unfold fX10_calms_b33 fX10_doorAt
          rw [e4.D, if_pos (by rw [n_le (by omega) (by omega)]; omega)]
      obtain ⟨⟨x, s⟩, m1, m2, m3, m4⟩ := main
      dsimp only at m2 m3 m4
      refine ⟨s, ?_, m3, m4⟩
      unfold fX10_calms
      rw [i2, if_neg (by decide), a1, bd_e, un2_e, pop_m _ hd, bd_e, a2.A, lt_e, m1, bd_e, un2_e, m2]
    by_cases c : p = 0
    · subst c
      refine Ans.q (r := fI (-9) (bs (pZ1 σ) (fun m => sA σ + m) (9999, pop (dN σ) + 1) (sD σ - sA σ)).1) h ?_ fun v hv => ?_
      · obtain ⟨v, e⟩ := c_calmPlace h.c h.g
        refine ⟨v, ?_, Cq.of (rX6_calmPlace e) (by decide)⟩
        unfold fX9_calms
        rw [show fX9_isOutside (nI 0) 1 = 0 by decide, if_pos rfl, if_pos (show nI 0 = 0 from rfl), e, bd_e, un2_e]
      · exact fin 0 (bs (pZ1 σ) (fun m => sA σ + m) (9999, pop (dN σ) + 1)) rfl rfl (fun v i hi x y s hx => by rw [if_pos rfl]; exact m_calm1 h.g h.m2 hi hx) v hv
    · have p1 : p = 1 := by omega
      subst p1
      refine Ans.q (r := fI (-9) (bZ σ (sD σ - sA σ)).1) h ?_ fun v hv => ?_
      · obtain ⟨v, e⟩ := c_calmPair h.c h.g
        refine ⟨v, ?_, Cq.of (rX6_calmPair e) (by decide)⟩
        unfold fX9_calms
        rw [show fX9_isOutside (nI 1) 1 = 0 by decide, if_pos rfl, if_neg (by decide), e, bd_e, un2_e]
      · exact fin 1 (bZ σ) rfl rfl (fun v i hi x y s hx => by rw [if_neg (by decide), nI_1]; exact m_calmIn h.g h.m2 hi hx) v hv
end

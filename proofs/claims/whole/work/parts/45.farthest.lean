/-! farthest -/
/-- of the doors 24, 23 .. (k of them) the first at which somebody has light; 99: none -/
def faN (σ : St) : Nat → Nat
  | 0 => 99
  | k + 1 => if faN σ k ≠ 99 then faN σ k else if run σ (sA σ) (sL σ) (24 - k - sA σ) ≠ 0 then 24 - k else 99
theorem fa_stay (σ : St) (i : Nat) (h : faN σ i ≠ 99) : ∀ k, faN σ (i + k) = faN σ i
  | 0 => rfl
  | k + 1 => by
    show faN σ (i + k + 1) = _
    rw [faN, fa_stay σ i h k, if_pos h]
theorem fa_le (σ : St) : ∀ n, faN σ n = 99 ∨ faN σ n ≤ 24
  | 0 => Or.inl rfl
  | n + 1 => by
    have := fa_le σ n
    unfold faN
    split
    · omega
    · split <;> omega
section
variable {w w1 w2 : Wd} {σ τ : St} {b : Nat}
theorem run_wD (σ : St) (d a lit n : Nat) : run (wr σ 4 d) a lit n = run σ a lit n := runU_eq (σ := wr σ 4 d) (τ := σ) rfl rfl rfl rfl _ _ _ _
theorem q_farthest (h : R w σ) : Ans (fX9_farthest w) (fun v => fX10_farthest v) := by
  have h8 := h.g.P
  have hA := h.g.A
  have hD := h.g.D
  have hfin := fa_le σ (25 - max 1 (sA σ))
  refine Ans.q (r := cvI (faN σ (25 - max 1 (sA σ)))) h ?_ fun v hv => ?_
  · have h3 : CoIs (fX2_takeFrom 3 1 w) 3 σ := c_take co3 co1 (by decide) h.c
    have s1 := h3.wr co3 4 24
    have gd := h.g.D2 (v := 24) ⟨by decide, by decide⟩ (by omega)
    obtain ⟨v1, a1, a2⟩ := c_setOut co3 s1 gd
    have k1 : Kc _ v1 := Kc.of (rX8_setOut a1) (by decide)
    have hC3 := k1.co co3 s1
    obtain ⟨v2, b1, b2, b3⟩ := c_walkOn a2 gd (lit := sL σ) h.g.L
    have k2 : Kc v1 v2 := Kc.of (rX8_walkOn b1) (by decide)
    have c15 : v2.1 1 5 = nI (sA σ) := by
      rw [k2 1 (by decide), k1 1 (by decide), upI_o _ _ _ _ (by decide), take_o (by decide)]; exact h.c.Pl
    have b2' : ∀ m, m ≤ 24 - sA σ → v2.1 26 m = nI (run σ (sA σ) (sL σ) m) := fun m hm => by
      rw [b2 m hm]
      exact congrArg nI (run_wD σ 24 (sA σ) (sL σ) m)
    have q : Cq w v2 := by
      have q0 : Cq w (upI (fX2_takeFrom 3 1 w) 3 4 (nI 24)) := fun i k hi => by
        rw [upI_o _ _ _ _ (fun d => by subst d; cases hi)]
        exact (Cq.of (l := pX2_takeFrom 3) (rX2_takeFrom rfl) (by decide)) i k hi
      exact (q0.tr k1.cq).tr k2.cq
    refine ⟨v2, ?_, q⟩
    have main : ∃ x, iter (fun s : Int32 => fX1_farthestDoor_b60 (nI (max 1 (sA σ))) v2 s) FU 24 = some x ∧ x = (cvI (faN σ (25 - max 1 (sA σ))), v2) := by
      refine it (fun k s => s = nI (24 - k) ∧ faN σ k = 99) _ (25 - max 1 (sA σ)) ⟨rfl, rfl⟩ ?_ ?_ (by omega)
      · rintro k s hk ⟨rfl, e2⟩
        have e5 : faN σ (k + 1) = if run σ (sA σ) (sL σ) (24 - k - sA σ) ≠ 0 then 24 - k else 99 := by
          show (if faN σ k ≠ 99 then _ else _) = _
          rw [if_neg (by rw [e2]; decide)]
        have hr := run256 h.g (24 - k - sA σ)
        have hlt : ¬ nI (24 - k) < nI (max 1 (sA σ)) := by rw [n_lt (by omega) (by omega)]; omega
        by_cases c : run σ (sA σ) (sL σ) (24 - k - sA σ) = 0
        · refine Or.inl ⟨nI (24 - (k + 1)), ?_, rfl, by rw [e5, if_neg (fun h => h c)]⟩
          unfold fX1_farthestDoor_b60
          rw [if_neg hlt, c15, n_sub (by omega), gdn (by omega) (by decide), n_cl (by omega), b2' _ (by omega), if_pos (by rw [c]; rfl), n_m1 (by omega), lt_e, show 24 - (k + 1) = 24 - k - 1 by omega]
        · refine Or.inr ⟨(nI (24 - k), v2), ?_, ?_⟩
          · unfold fX1_farthestDoor_b60
            rw [if_neg hlt, c15, n_sub (by omega), gdn (by omega) (by decide), n_cl (by omega), b2' _ (by omega), if_neg (by rw [c0, n_eq (by omega) (by decide)]; exact c)]
          · rw [if_pos c] at e5
            have := fa_stay σ (k + 1) (by rw [e5]; omega) (25 - max 1 (sA σ) - (k + 1))
            rw [show k + 1 + (25 - max 1 (sA σ) - (k + 1)) = 25 - max 1 (sA σ) by omega, e5] at this
            rw [this, cv_pos (by omega)]
      · rintro s ⟨rfl, e2⟩
        refine ⟨(-9, v2), ?_, by rw [e2]; rfl⟩
        unfold fX1_farthestDoor_b60
        rw [if_pos (by rw [n_lt (by omega) (by omega)]; omega)]
    obtain ⟨x, m1, m2⟩ := main
    unfold fX9_farthest fX1_farthestDoor
    have hL3 : v1.1 3 1 = nI (sL σ) := hC3.L
    rw [lt_e, show (24 : Int32) = nI 24 from rfl, lt_e, a1, bd_e, hL3, b1, bd_e, c15, show jmax 1 (nI (sA σ)) = nI (max 1 (sA σ)) from n_max (by decide) (by omega), lt_e]
    have m1' : iter (fun s : Int32 => fX1_farthestDoor_b60 (nI (max 1 (sA σ))) v2 s) FU (nI 24) = some x := m1
    rw [m1', m2, bd_e, un2_e]
  · have main : ∃ x, iter (fun s : Int32 × Int32 × Wd => fX10_farthest_b13 s.1 s.2.1 s.2.2) FU (-9, 24, v) = some x ∧ x.1 = cvI (faN σ (25 - max 1 (sA σ))) ∧ (∃ d, MoIs x.2 (wr σ 4 d)) ∧ Mq v x.2 := by
      refine it (fun k s => s.1 = cvI (faN σ k) ∧ s.2.1 = nI (24 - k) ∧ (∃ d, MoIs s.2.2 (wr σ 4 d)) ∧ Mq v s.2.2) _ (25 - max 1 (sA σ)) ⟨rfl, rfl, ⟨sD σ, hv.o⟩, Ag.rf⟩ ?_ ?_ (by omega)
      · rintro k ⟨x, y, u⟩ hk ⟨e1, e2, ⟨d, e3⟩, e4⟩
        dsimp only at e1 e2 e3 e4
        subst e1; subst e2
        have hle := fa_le σ k
        have hcv := cv_le (a := faN σ k) (by omega)
        have uA : u.1 42 8 = nI (sA σ) := e3.A
        have b1 : ¬ nI (24 - k) < nI (sA σ) := by rw [n_lt (by omega) (by omega)]; omega
        have b2 : ¬ nI (24 - k) ≤ 0 := by rw [c0, n_le (by omega) (by decide)]; omega
        by_cases c : faN σ k = 99
        · have e5 : faN σ (k + 1) = if run σ (sA σ) (sL σ) (24 - k - sA σ) ≠ 0 then 24 - k else 99 := by
            show (if faN σ k ≠ 99 then _ else _) = _
            rw [if_neg (by rw [c]; decide)]
          have s1 := e3.wD (24 - k)
          rw [wr_wr] at s1
          have gd := h.g.D2 (v := 24 - k) ⟨by omega, by omega⟩ (by omega)
          obtain ⟨u1, d1, d2, -, d4⟩ := m_door s1 gd h.m2
          have hdo : door (wr σ 4 (24 - k)) (sL (wr σ 4 (24 - k))) = run σ (sA σ) (sL σ) (24 - k - sA σ) := run_wD σ (24 - k) (sA σ) (sL σ) _
          have hr := run256 h.g (24 - k - sA σ)
          have q1 : Mq u (upI u 44 2 (nI (24 - k))) := Mq.one (i := 44) (by decide) fun j hj => upI_o _ _ _ _ hj
          refine Or.inl ⟨(cvI (faN σ (k + 1)), nI (24 - (k + 1)), u1), ?_, rfl, rfl, ⟨_, d2⟩, (e4.tr q1).tr d4⟩
          show fX10_farthest_b13 _ _ _ = _
          unfold fX10_farthest_b13
          rw [uA, if_neg b1, if_neg b2, if_neg (by rw [hcv]; simp [c]), lt_e, d1, bd_e, un2_e, hdo, n_m1 (by omega), show 24 - (k + 1) = 24 - k - 1 by omega, e5]
          by_cases k0 : run σ (sA σ) (sL σ) (24 - k - sA σ) = 0
          · rw [if_pos (by rw [k0]; rfl), lt_e, lt_e, if_neg (fun h => h k0)]; rfl
          · rw [if_neg (by rw [c0, n_eq (by omega) (by decide)]; exact k0), lt_e, lt_e, if_pos k0, cv_pos (show 24 - k < 99 by omega)]
        · refine Or.inr ⟨(cvI (faN σ k), u), ?_, ?_, ⟨d, e3⟩, e4⟩
          · show fX10_farthest_b13 _ _ _ = _
            unfold fX10_farthest_b13
            rw [uA, if_neg b1, if_neg b2, if_pos (by rw [hcv]; exact c)]
          · have := fa_stay σ k c (25 - max 1 (sA σ) - k)
            rw [show k + (25 - max 1 (sA σ) - k) = 25 - max 1 (sA σ) by omega] at this
            rw [this]
      · rintro ⟨x, y, u⟩ ⟨e1, e2, ⟨d, e3⟩, e4⟩
        dsimp only at e1 e2 e3 e4
        subst e1; subst e2
        refine ⟨(cvI (faN σ (25 - max 1 (sA σ))), u), ?_, rfl, ⟨d, e3⟩, e4⟩
        have uA : u.1 42 8 = nI (sA σ) := e3.A
        show fX10_farthest_b13 _ _ _ = _
        unfold fX10_farthest_b13
        rw [uA]
        by_cases c : sA σ = 0
        · rw [if_neg (by rw [n_lt (by omega) (by omega)]; omega), if_pos (by rw [c0, n_le (by omega) (by decide)]; omega)]
        · rw [if_pos (by rw [n_lt (by omega) (by omega)]; omega)]
    obtain ⟨⟨x, u⟩, m1, m2, ⟨d, m3⟩, m4⟩ := main
    dsimp only at m2 m3 m4
    have q1 : Mq u (upI u 44 2 (nI (sD σ))) := Mq.one (i := 44) (by decide) fun j hj => upI_o _ _ _ _ hj
    refine ⟨upI u 44 2 (nI (sD σ)), ?_, ?_, m4.tr q1⟩
    · show fX10_farthest v = _
      unfold fX10_farthest fX10_farthest_j56
      rw [hv.o.D, lt_e, m1, bd_e, un2_e, lt_e, m2]
    · have s1 := m3.wD (sD σ)
      rw [wr_wr] at s1
      exact s1
end

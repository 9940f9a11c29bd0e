/-! all, behind, atFirst -/
/-- n minutes in which nobody goes out -/
def clN (σ : St) : Nat → Nat
  | 0 => sL σ
  | n + 1 => spr σ (clN σ n)
def smallM (σ : St) : Nat := mask (fun p => sK σ p == 6) (sP σ)
/-- the first n at which all have light; 99: none up to N -/
def alN (σ : St) : Nat → Nat
  | 0 => 99
  | n + 1 => if alN σ n ≠ 99 then alN σ n else if clN σ n = grown σ then n else 99
theorem al_stay (σ : St) (i : Nat) (h : alN σ i ≠ 99) : ∀ k, alN σ (i + k) = alN σ i
  | 0 => rfl
  | k + 1 => by
    show alN σ (i + k + 1) = _
    rw [alN, al_stay σ i h k, if_pos h]
section
variable {w w1 w2 : Wd} {σ τ : St} {b : Nat}
theorem clN_lt (hg : good σ) : ∀ n, clN σ n < 2 ^ sP σ
  | 0 => hg.L
  | n + 1 => spr_lt hg (clN_lt hg n)
theorem clN_sm (hg : good σ) : ∀ n, NoSm σ (clN σ n)
  | 0 => hg.sm
  | n + 1 => spr_sm hg (clN_sm hg n)
theorem smallM_bit (p : Nat) : (smallM σ).testBit p = (decide (p < sP σ) && (sK σ p == 6)) := mask_bit _ _ _
theorem smallM_lt : smallM σ < 2 ^ sP σ := mask_lt _ _
theorem nd_zero {a b : Nat} : nd a b = 0 ↔ ∀ p, a.testBit p = true → b.testBit p = true := by
  constructor
  · intro h p hp
    cases hb : b.testBit p with
    | true => rfl
    | false =>
      have h2 : (nd a b).testBit p = true := by rw [nd_bit, hp, hb]; rfl
      rw [h] at h2
      simp at h2
  · intro h
    refine bits_ext fun p => ?_
    rw [nd_bit]
    simp only [Nat.zero_testBit]
    cases ha : a.testBit p with
    | false => rfl
    | true => rw [h p ha]; rfl
theorem all_bit (P p : Nat) : (2 ^ P - 1).testBit p = decide (p < P) := Nat.testBit_two_pow_sub_one P p
/-- all who can have light have it: in the reference's words and in the class's -/
theorem allLit {s : Nat} (hs : s < 2 ^ sP σ) (hn : NoSm σ s) : nd (2 ^ sP σ - 1) (s ||| smallM σ) = 0 ↔ s = grown σ := by
  rw [nd_zero]
  constructor
  · intro h
    refine bits_ext fun p => ?_
    rw [grown_bit]
    by_cases hp : p < sP σ
    · have := h p (by rw [all_bit]; simp [hp])
      rw [Nat.testBit_or, smallM_bit, Bool.or_eq_true] at this
      cases hb : s.testBit p with
      | true => have := hn p hb; simp [hp, this]
      | false =>
        rw [hb] at this
        simp [hp] at this
        simp [this]
    · cases hb : s.testBit p with
      | true => exact absurd (bit_lt hs hb) hp
      | false => simp [hp]
  · intro h p hp
    rw [all_bit] at hp
    have hp2 : p < sP σ := of_decide_eq_true hp
    rw [Nat.testBit_or, smallM_bit, h, grown_bit]
    by_cases c : sK σ p = 6
    · simp [c, hp2]
    · simp [c, hp2]
theorem sub_grown {s : Nat} : nd s (grown σ) = 0 ↔ (s < 2 ^ sP σ ∧ NoSm σ s) := by
  rw [nd_zero]
  constructor
  · intro h
    refine ⟨lt_of_bits fun q hq => ?_, fun q hq => ?_⟩
    · have := h q hq
      rw [grown_bit] at this
      simp at this
      exact this.1
    · have := h q hq
      rw [grown_bit] at this
      simp at this
      exact this.2
  · rintro ⟨h1, h2⟩ q hq
    rw [grown_bit]
    have := h2 q hq
    simp [bit_lt h1 hq, this]
theorem and_small {s : Nat} (hs : s < 2 ^ sP σ) : s &&& smallM σ = 0 ↔ NoSm σ s := by
  constructor
  · intro h q hq hk
    have h2 : (s &&& smallM σ).testBit q = true := by rw [Nat.testBit_and, hq, smallM_bit, hk]; simp [bit_lt hs hq]
    rw [h] at h2
    simp at h2
  · intro h
    refine bits_ext fun q => ?_
    rw [Nat.testBit_and, smallM_bit]
    simp only [Nat.zero_testBit]
    cases hb : s.testBit q with
    | false => rfl
    | true => have := h q hb; simp [this]
theorem m_small (hM : MoIs w σ) (hg : good σ) : fX10_smallBits w = some (nI (smallM σ)) := by
  have h8 := hg.P
  unfold fX10_smallBits
  refine (itb (fun i => (nI (mask (fun p => sK σ p == 6) i), nI i)) (nI (smallM σ)) (sP σ) rfl (fun i hi => ?_) ?_ (by omega)).trans rfl
  · have hk := hg.K i
    show fX10_smallBits_b4 w _ _ = _
    unfold fX10_smallBits_b4
    have hv : (if nI (sK σ i) = 6 then (1 : Int32) <<< (nI i &&& 31) else 0) = nI (if (sK σ i == 6) = true then 2 ^ i else 0) := by
      by_cases c : sK σ i = 6
      · rw [if_pos (by rw [c]; rfl), if_pos (by simp [c]), sh_p i (by omega)]
      · rw [if_neg (by rw [c6, n_eq (by omega) (by decide)]; exact c), if_neg (by simp [c])]; rfl
    rw [hM.P, if_neg (by rw [n_le (by omega) (by omega)]; omega), gdn (by omega) (by decide), n_cl (by omega), hM.K (by omega), hv, lt_e, n_or, lt_e, nI_1, lt_e]
    rfl
  · show fX10_smallBits_b4 w _ _ = _
    unfold fX10_smallBits_b4
    rw [hM.P, if_pos (by rw [n_le (by omega) (by omega)]; omega)]
    rfl
theorem ev_t : ∀ P, P < 9 → ((1 : Int32) <<< (nI P &&& 31)) - 1 = nI (2 ^ P - 1) := fun P h => sh_0 P (by omega)
theorem m_allLit (hM : MoIs w σ) (hg : good σ) {s : Nat} (hs : s < 2 ^ sP σ) (hn : NoSm σ s) : fX10_areAllLit w (nI s) = some (if s = grown σ then 1 else 0) := by
  have h8 := hg.P
  have hp : 2 ^ sP σ ≤ 256 := Nat.pow_le_pow_right (n := 2) (by decide) h8
  unfold fX10_areAllLit
  have hx : nd (2 ^ sP σ - 1) (s ||| smallM σ) < 2 ^ 31 := by
    have : nd (2 ^ sP σ - 1) (s ||| smallM σ) < 2 ^ 8 := nd_lt (by omega)
    omega
  rw [m_small hM hg, bd_e, hM.P, ev_t _ (by omega), n_or, n_nd]
  by_cases c : s = grown σ
  · rw [if_pos (by rw [(allLit hs hn).mpr c]; rfl), if_pos c]
  · rw [if_neg (by rw [c0, n_eq hx (by decide), allLit hs hn]; exact c), if_neg c]
theorem c_relightC (hW : WkIs w σ) (hg : good σ) (n : Nat) : ∃ w1, fX8_relight w (nI (clN σ n)) = some (nI (clN σ (n + 1)), w1) ∧ WkIs w1 σ := by
  obtain ⟨v, a1, -⟩ := c_relight hW hg (clN_lt hg n)
  exact ⟨v, a1, hW.keep (rX8_relight a1) (by decide)⟩
theorem c_calmBehind (hC : CoIs w 1 σ) (hg : good σ) {k : Nat} (hk : k ≤ 60) : ∃ w1, fX4_calmBehind w (nI k) = some (nI (clN σ k), w1) := by
  obtain ⟨v, a1, a2, a3, a4⟩ := c_outNow hC hg
  unfold fX4_calmBehind
  rw [a1, bd_e, a3.L, lt_e]
  have main : ∃ x, iter (fun s : Int32 × Int32 × Wd => fX4_calmBehind_b21 (nI k) s.1 s.2.1 s.2.2) FU (nI (sL σ), 0, v) = some x ∧ x.1 = nI (clN σ k) := by
    refine itn (fun n s => s.1 = nI (clN σ n) ∧ s.2.1 = nI n ∧ WkIs s.2.2 σ) _ k ⟨rfl, rfl, a2⟩ ?_ ?_ (by omega)
    · rintro n ⟨x, y, u⟩ hn ⟨e1, e2, e3⟩
      dsimp only at e1 e2 e3
      subst e1; subst e2
      obtain ⟨u1, b1, b2⟩ := c_relightC e3 hg n
      refine ⟨(nI (clN σ (n + 1)), nI (n + 1), u1), ?_, rfl, rfl, b2⟩
      show fX4_calmBehind_b21 _ _ _ _ = _
      unfold fX4_calmBehind_b21
      rw [if_neg (by rw [n_le (by omega) (by omega)]; omega), b1, bd_e, un2_e, nI_1, lt_e]
    · rintro ⟨x, y, u⟩ ⟨e1, e2, e3⟩
      dsimp only at e1 e2 e3
      subst e1; subst e2
      refine ⟨(nI (clN σ k), u), ?_, rfl⟩
      show fX4_calmBehind_b21 _ _ _ _ = _
      unfold fX4_calmBehind_b21
      rw [if_pos (by rw [n_le (by omega) (by omega)]; omega)]
  obtain ⟨⟨x, u⟩, m1, m2⟩ := main
  dsimp only at m2
  rw [m1, bd_e, un2_e, m2]
  exact ⟨_, rfl⟩
theorem c_calmMinutes (hC : CoIs w 1 σ) (hg : good σ) : ∃ w1, fX4_calmMinutes w = some (cvI (alN σ 61), w1) := by
  have h8 := hg.P
  obtain ⟨v, a1, a2, a3, a4⟩ := c_outNow hC hg
  unfold fX4_calmMinutes
  rw [a1, bd_e, a3.L, lt_e]
  have main : ∃ x, iter (fun s : Int32 × Int32 × Wd => fX4_calmMinutes_b21 s.1 s.2.1 s.2.2) FU (nI (sL σ), 0, v) = some x ∧ x.1 = cvI (alN σ 61) := by
    refine it (fun n s => s.1 = nI (clN σ n) ∧ s.2.1 = nI n ∧ WkIs s.2.2 σ ∧ alN σ n = 99) _ 61 ⟨rfl, rfl, a2, rfl⟩ ?_ ?_ (by omega)
    · rintro n ⟨x, y, u⟩ hn ⟨e1, e2, e3, e4⟩
      dsimp only at e1 e2 e3 e4
      subst e1; subst e2
      have e5 : alN σ (n + 1) = if clN σ n = grown σ then n else 99 := by
        show (if alN σ n ≠ 99 then _ else _) = _
        rw [if_neg (by rw [e4]; decide)]
      have h1 := lt256 (clN_lt hg n) h8
      have h2 := lt256 (grown_lt (σ := σ)) h8
      by_cases c : clN σ n = grown σ
      · rw [if_pos c] at e5
        refine Or.inr ⟨(nI n, u), ?_, ?_⟩
        · show fX4_calmMinutes_b21 _ _ _ = _
          unfold fX4_calmMinutes_b21
          rw [if_neg (by rw [c60, n_lt (by omega) (by omega)]; omega), e3.2.1, if_pos (by rw [c])]
        · have := al_stay σ (n + 1) (by rw [e5]; omega) (61 - (n + 1))
          rw [show n + 1 + (61 - (n + 1)) = 61 by omega, e5] at this
          rw [this, cv_pos (by omega)]
      · rw [if_neg c] at e5
        obtain ⟨u1, b1, b2⟩ := c_relightC e3 hg n
        refine Or.inl ⟨(nI (clN σ (n + 1)), nI (n + 1), u1), ?_, rfl, rfl, b2, e5⟩
        show fX4_calmMinutes_b21 _ _ _ = _
        unfold fX4_calmMinutes_b21
        rw [if_neg (by rw [c60, n_lt (by omega) (by omega)]; omega), e3.2.1, if_neg (by rw [n_eq (by omega) (by omega)]; exact c), b1, bd_e, un2_e, nI_1, lt_e]
    · rintro ⟨x, y, u⟩ ⟨e1, e2, e3, e4⟩
      dsimp only at e1 e2 e3 e4
      subst e1; subst e2
      refine ⟨(-9, u), ?_, by rw [e4]; rfl⟩
      show fX4_calmMinutes_b21 _ _ _ = _
      unfold fX4_calmMinutes_b21
      rw [if_pos (show (60 : Int32) < nI 61 by decide)]
  obtain ⟨⟨x, u⟩, m1, m2⟩ := main
  dsimp only at m2
  rw [m1, m2]
  exact ⟨_, rfl⟩
theorem m_sprQ (hM : MoIs w σ) (hg : good σ) {lit : Nat} (hl : lit < 2 ^ sP σ) : ∃ w1, fX10_spread w (nI lit) = some (nI (spr σ lit), w1) ∧ MoIs w1 σ ∧ Mq w w1 := by
  obtain ⟨v, a1, a2, -⟩ := m_spread hM hg hl
  exact ⟨v, a1, a2, Mq.of (rX10_spread a1) (by decide)⟩
theorem q_all (h : R w σ) : Ans (fX9_all w) (fun v => fX10_all v) := by
  have h8 := h.g.P
  refine Ans.q (r := cvI (alN σ 61)) h ?_ fun v hv => ?_
  · obtain ⟨v, e⟩ := c_calmMinutes h.c h.g
    refine ⟨v, ?_, Cq.of (rX4_calmMinutes e) (by decide)⟩
    unfold fX9_all
    rw [e, bd_e, un2_e]
  · have main : ∃ x, iter (fun s : Int32 × Int32 × Wd => fX10_all_b7 s.1 s.2.1 s.2.2) FU (nI (sL σ), 0, v) = some x ∧ x.1 = cvI (alN σ 61) ∧ MoIs x.2 σ ∧ Mq v x.2 := by
      refine it (fun n s => s.1 = nI (clN σ n) ∧ s.2.1 = nI n ∧ MoIs s.2.2 σ ∧ Mq v s.2.2 ∧ alN σ n = 99) _ 61 ⟨rfl, rfl, hv.o, Ag.rf, rfl⟩ ?_ ?_ (by omega)
      · rintro n ⟨x, y, u⟩ hn ⟨e1, e2, e3, e3', e4⟩
        dsimp only at e1 e2 e3 e3' e4
        subst e1; subst e2
        have e5 : alN σ (n + 1) = if clN σ n = grown σ then n else 99 := by
          show (if alN σ n ≠ 99 then _ else _) = _
          rw [if_neg (by rw [e4]; decide)]
        have hal := m_allLit e3 h.g (clN_lt h.g n) (clN_sm h.g n)
        by_cases c : clN σ n = grown σ
        · rw [if_pos c] at e5 hal
          refine Or.inr ⟨(nI n, u), ?_, ?_, e3, e3'⟩
          · show fX10_all_b7 _ _ _ = _
            unfold fX10_all_b7
            rw [if_neg (by rw [show (61 : Int32) = nI 61 from rfl, n_le (by omega) (by omega)]; omega), hal, bd_e, if_neg (by decide)]
          · have := al_stay σ (n + 1) (by rw [e5]; omega) (61 - (n + 1))
            rw [show n + 1 + (61 - (n + 1)) = 61 by omega, e5] at this
            rw [this, cv_pos (by omega)]
        · rw [if_neg c] at e5 hal
          obtain ⟨u1, b1, b2, b3⟩ := m_sprQ e3 h.g (clN_lt h.g n)
          refine Or.inl ⟨(nI (clN σ (n + 1)), nI (n + 1), u1), ?_, rfl, rfl, b2, e3'.tr b3, e5⟩
          show fX10_all_b7 _ _ _ = _
          unfold fX10_all_b7
          rw [if_neg (by rw [show (61 : Int32) = nI 61 from rfl, n_le (by omega) (by omega)]; omega), hal, bd_e, if_pos rfl, b1, bd_e, un2_e, nI_1, lt_e]
          rfl
      · rintro ⟨x, y, u⟩ ⟨e1, e2, e3, e3', e4⟩
        dsimp only at e1 e2 e3 e3' e4
        subst e1; subst e2
        refine ⟨(-9, u), ?_, by rw [e4]; rfl, e3, e3'⟩
        show fX10_all_b7 _ _ _ = _
        unfold fX10_all_b7
        rw [if_pos (show (61 : Int32) ≤ nI 61 by decide)]
    obtain ⟨⟨x, u⟩, m1, m2, m3, m4⟩ := main
    dsimp only at m2 m3 m4
    refine ⟨u, ?_, m3, m4⟩
    show fX10_all v = _
    unfold fX10_all
    rw [hv.o.L, lt_e, m1, m2]
theorem q_behind (h : R w σ) (x : Int32) : Ans (fX9_behind w x) (fun v => fX10_behind v x) := by
  have h8 := h.g.P
  rcases arg x 61 with hx | hx | ⟨k, hk, rfl⟩
  · have a1 := lo_ge hx
    exact Ans.nof h 4 (by decide) (by decide) (by unfold fX9_behind; simp only [if_neg a1, rf1, rf2, rf3, rf4, rf6, bd_e, un2_e] <;> rfl) (fun v e => by unfold fX10_behind fX10_bound; simp only [if_neg a1, lt_e, if_neg (show ¬ (-4 : Int32) = 0 by decide), e _ (show (42 : Nat) ≠ 12 by decide), no1, no2, no3, no4, no6, bd_e, un2_e] <;> rfl)
  · have a1 := hi_ge hx (by decide)
    have a2 : ¬ x ≤ 60 := hi_le (m := 60) hx (by decide)
    exact Ans.nof h 6 (by decide) (by decide) (by unfold fX9_behind; simp only [if_pos a1, if_neg a2, rf1, rf2, rf3, rf4, rf6, bd_e, un2_e] <;> rfl) (fun v e => by unfold fX10_behind fX10_bound; simp only [if_pos a1, if_neg a2, lt_e, if_neg (show ¬ (-6 : Int32) = 0 by decide), e _ (show (42 : Nat) ≠ 12 by decide), no1, no2, no3, no4, no6, bd_e, un2_e] <;> rfl)
  · have a1 : (0 : Int32) ≤ nI k := nI_pos' (by omega)
    have a2 : nI k ≤ 60 := by rw [c60, n_le (by omega) (by decide)]; omega
    refine Ans.q (r := nI (clN σ k)) h ?_ fun v hv => ?_
    · obtain ⟨v, e⟩ := c_calmBehind h.c h.g (show k ≤ 60 by omega)
      refine ⟨v, ?_, Cq.of (rX4_calmBehind e) (by decide)⟩
      unfold fX9_behind
      rw [if_pos a1, if_pos a2, e, bd_e, un2_e]
    · have main : ∃ x, iter (fun s : Int32 × Int32 × Wd => fX10_behind_b26 (nI k) s.1 s.2.1 s.2.2) FU (nI (sL σ), 0, v) = some x ∧ x.1 = nI (clN σ k) ∧ MoIs x.2 σ ∧ Mq v x.2 := by
        refine itn (fun n s => s.1 = nI (clN σ n) ∧ s.2.1 = nI n ∧ MoIs s.2.2 σ ∧ Mq v s.2.2) _ k ⟨rfl, rfl, hv.o, Ag.rf⟩ ?_ ?_ (by omega)
        · rintro n ⟨x, y, u⟩ hn ⟨e1, e2, e3, e4⟩
          dsimp only at e1 e2 e3 e4
          subst e1; subst e2
          obtain ⟨u1, b1, b2, b3⟩ := m_sprQ e3 h.g (clN_lt h.g n)
          refine ⟨(nI (clN σ (n + 1)), nI (n + 1), u1), ?_, rfl, rfl, b2, e4.tr b3⟩
          show fX10_behind_b26 _ _ _ _ = _
          unfold fX10_behind_b26
          rw [if_neg (by rw [n_le (by omega) (by omega)]; omega), b1, bd_e, un2_e, nI_1, lt_e]
          rfl
        · rintro ⟨x, y, u⟩ ⟨e1, e2, e3, e4⟩
          dsimp only at e1 e2 e3 e4
          subst e1; subst e2
          refine ⟨(nI (clN σ k), u), ?_, rfl, e3, e4⟩
          show fX10_behind_b26 _ _ _ _ = _
          unfold fX10_behind_b26
          rw [if_pos (by rw [n_le (by omega) (by omega)]; omega)]
      obtain ⟨⟨x, u⟩, m1, m2, m3, m4⟩ := main
      dsimp only at m2 m3 m4
      refine ⟨u, ?_, m3, m4⟩
      show fX10_behind v (nI k) = _
      unfold fX10_behind fX10_bound
      rw [if_pos a1, if_pos a2, lt_e, if_pos rfl, hv.o.L, lt_e, m1, bd_e, un2_e, m2]
end

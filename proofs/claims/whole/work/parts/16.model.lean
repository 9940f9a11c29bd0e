/-! the reference: people, wind, a minute -/
def MoIs (w : Wd) (σ : St) : Prop := (w.1 44 0 = nI (sF σ) ∧ w.1 44 1 = nI (sE σ) ∧ w.1 44 2 = nI (sD σ)) ∧ (w.1 42 6 = nI (sP σ) ∧ w.1 42 7 = nI (sL σ) ∧ w.1 42 8 = nI (sA σ) ∧ w.1 42 9 = nI (sM σ)) ∧ (∀ k, k < 8 → w.1 45 k = nI (sK σ k)) ∧ (∀ k, k < 8 → w.1 46 k = nI (sG σ k)) ∧ (∀ k, k < 25 → w.1 47 k = nI (sW σ k)) ∧ ∀ k, k < 25 → w.1 48 k = nI (sS σ k)
section
variable {w w1 : Wd} {σ : St}
theorem MoIs.F (h : MoIs w σ) : w.1 44 0 = nI (sF σ) := h.1.1
theorem MoIs.E (h : MoIs w σ) : w.1 44 1 = nI (sE σ) := h.1.2.1
theorem MoIs.D (h : MoIs w σ) : w.1 44 2 = nI (sD σ) := h.1.2.2
theorem MoIs.P (h : MoIs w σ) : w.1 42 6 = nI (sP σ) := h.2.1.1
theorem MoIs.L (h : MoIs w σ) : w.1 42 7 = nI (sL σ) := h.2.1.2.1
theorem MoIs.A (h : MoIs w σ) : w.1 42 8 = nI (sA σ) := h.2.1.2.2.1
theorem MoIs.M (h : MoIs w σ) : w.1 42 9 = nI (sM σ) := h.2.1.2.2.2
theorem MoIs.K (h : MoIs w σ) {k : Nat} (hk : k < 8) : w.1 45 k = nI (sK σ k) := h.2.2.1 k hk
theorem MoIs.G (h : MoIs w σ) {k : Nat} (hk : k < 8) : w.1 46 k = nI (sG σ k) := h.2.2.2.1 k hk
theorem MoIs.W (h : MoIs w σ) {k : Nat} (hk : k < 25) : w.1 47 k = nI (sW σ k) := h.2.2.2.2.1 k hk
theorem MoIs.S (h : MoIs w σ) {k : Nat} (hk : k < 25) : w.1 48 k = nI (sS σ k) := h.2.2.2.2.2 k hk
/-- which writes leave the reference's people and wind -/
def okMo (l : List (Nat × Option Nat)) : Bool := l.all fun q => q.1 != 44 && q.1 != 45 && q.1 != 46 && q.1 != 47 && q.1 != 48 && (q.1 != 42 || match q.2 with | some f => decide (10 ≤ f) | none => false)
theorem okMo_at {l : List (Nat × Option Nat)} (hl : okMo l = true) {q : Nat × Option Nat} (hq : q ∈ l) : (q.1 < 44 ∨ 48 < q.1) ∧ (q.1 ≠ 42 ∨ ∃ f, q.2 = some f ∧ 10 ≤ f) := by
  have h1 := List.all_eq_true.mp hl q hq
  simp only [Bool.and_eq_true, Bool.or_eq_true, bne_iff_ne, ne_eq] at h1
  obtain ⟨⟨⟨⟨⟨h2, h3⟩, h4⟩, h5⟩, h6⟩, h7⟩ := h1
  refine ⟨by omega, ?_⟩
  rcases h7 with h7 | h7
  · exact Or.inl h7
  · cases h8 : q.2 with
    | none => rw [h8] at h7; cases h7
    | some f => rw [h8] at h7; exact Or.inr ⟨f, rfl, of_decide_eq_true h7⟩
theorem keep42 {l : List (Nat × Option Nat)} (ha : Agree (pU l) w w1) (hl : okMo l = true) (k : Nat) (hk : k < 10) : w1.1 42 k = w.1 42 k := (ha 42 k (by
  unfold pU
  rw [List.any_eq_false]
  intro q hqm hh
  unfold hit at hh
  rw [Bool.and_eq_true] at hh
  have e4 : q.1 = 42 := beq_iff_eq.mp hh.1
  rcases (okMo_at hl hqm).2 with h5 | ⟨f, h5, h6⟩
  · exact h5 e4
  · rw [h5] at hh
    have : f = k := beq_iff_eq.mp hh.2
    omega)).1
theorem keepR {l : List (Nat × Option Nat)} (ha : Agree (pU l) w w1) (hl : okMo l = true) (c : Nat) (hc : 44 ≤ c ∧ c ≤ 48) : w1.1 c = w.1 c := (ha.cell c (List.all_eq_true.mpr fun q hq => by
  have := (okMo_at hl hq).1
  simp only [bne_iff_ne, ne_eq]
  omega)).1
theorem MoIs.keep {l : List (Nat × Option Nat)} (h : MoIs w σ) (ha : Agree (pU l) w w1) (hl : okMo l = true) : MoIs w1 σ := by
  have r := fun c hc => keepR ha hl c hc
  have q := fun k hk => keep42 ha hl k hk
  refine ⟨?_, ?_, ?_, ?_, ?_, ?_⟩
  · rw [r 44 (by omega)]; exact h.1
  · rw [q 6 (by decide), q 7 (by decide), q 8 (by decide), q 9 (by decide)]; exact h.2.1
  · rw [r 45 (by omega)]; exact h.2.2.1
  · rw [r 46 (by omega)]; exact h.2.2.2.1
  · rw [r 47 (by omega)]; exact h.2.2.2.2.1
  · rw [r 48 (by omega)]; exact h.2.2.2.2.2
theorem m_along (hM : MoIs w σ) (p q : Int32) : fX10_along w p q = fX10_along (wm (nI (sF σ)) (nI (sP σ))) p q := by rw [alo_w, hM.F, hM.P]
theorem m_coverer (hM : MoIs w σ) (hg : good σ) {p a : Nat} (hp : p < sP σ) (ha : a < 25) : fX10_coverer w (nI p) (nI a) = some (cvI (covN (sF σ) (sP σ) p (sS σ a))) := by
  have := hg.P
  rw [mcov_w _ _ _ (n_ib ha (by decide)), n_cl (by omega), hM.F, hM.S ha]
  have e : mcov (nI (sF σ)) (nI (sS σ a)) w (nI p) = mcov (nI (sF σ)) (nI (sS σ a)) (wm (nI (sF σ)) (nI (sP σ))) (nI p) := by
    unfold mcov
    rw [m_along hM]
  rw [e, mcov_t _ hg.F _ (by omega) _ hp _ (hg.S a)]
theorem m_felt (hM : MoIs w σ) (hg : good σ) {p a : Nat} (hp : p < sP σ) (ha : a < 25) : fX10_feltBy w (nI p) (nI a) = some (nI (felt σ p a)) := by
  have h8 := hg.P
  have hW := hg.W a
  have hcA := covA_le hg p (sS σ a)
  unfold fX10_feltBy
  rw [m_coverer hM hg hp ha, bd_e, gd_t (n_ib ha (by decide)), n_cl (by omega), hM.W ha]
  have hv : (if (0 : Int32) ≤ cvI (covN (sF σ) (sP σ) p (sS σ a)) then gd_ (ib (cvI (covN (sF σ) (sP σ) p (sS σ a))) 8) (some (fX10_coverOf (w.1 45 (cvI (covN (sF σ) (sP σ) p (sS σ a))).toNatClampNeg))) else some (0 : Int32)) = some (nI (covA σ p (sS σ a))) := by
    unfold covA
    rcases cov_lt _ hg.F _ (by omega : sP σ < 9) _ hp _ (hg.S a) with h | h
    · rw [h, if_pos rfl]
      exact if_neg (by decide)
    · have h9 : covN (sF σ) (sP σ) p (sS σ a) ≠ 99 := by omega
      rw [if_neg h9]
      unfold cvI
      rw [if_neg h9, if_pos (nI_pos' (by omega)), n_cl (by omega), gd_t (n_ib (by omega) (by decide)), hM.K (by omega), cover_m _ (hg.K _)]
  rw [hv, bd_e, lt_e]
  have e := jmax_sub (a := sW σ a) (c := covA σ p (sS σ a)) (by omega) (by omega)
  unfold jmax at e
  unfold felt
  rw [← e]
  by_cases c : (0 : Int32) < nI (sW σ a) - nI (covA σ p (sS σ a))
  · rw [if_pos c, if_pos (Int32.le_of_lt c)]
  · rw [if_neg c]
    by_cases d : (0 : Int32) ≤ nI (sW σ a) - nI (covA σ p (sS σ a))
    · rw [if_pos d]
      congr 1
      exact Int32.le_antisymm (Int32.not_lt.mp c) d
    · rw [if_neg d]
theorem m_holds (hM : MoIs w σ) (hg : good σ) {p : Nat} (hp : p < sP σ) (ha : sA σ < 25) : fX10_holds w (nI p) = some (if hold σ p < felt σ p (sA σ) then 0 else 1) := by
  have h8 := hg.P
  have hh : hold σ p ≤ 99 := hold_le _ (hg.K p) _ (hg.G p)
  have hf : felt σ p (sA σ) < 10 := by have := hg.W (sA σ); unfold felt; omega
  unfold fX10_holds
  rw [hM.A, m_felt hM hg hp ha, bd_e, gd_t (n_ib (by omega) (by decide)), n_cl (by omega), hM.K (by omega), hM.G (by omega), hold_m _ (hg.K p) _ (hg.G p)]
  show (if nI (hold σ p) < nI (felt σ p (sA σ)) then some (0 : Int32) else some (1 : Int32)) = _
  simp only [n_lt (show hold σ p < 2 ^ 31 by omega) (show felt σ p (sA σ) < 2 ^ 31 by omega)]
  split <;> rfl
theorem m_holding (hM : MoIs w σ) (hg : good σ) (ha : sA σ < 25) : fX10_holding w = some (nI (nd (sL σ) (uns σ (sA σ)))) := by
  have h8 := hg.P
  have hL := hg.L
  have hL8 := lt256 hL h8
  have e : nd (sL σ) (uns σ (sA σ)) = mask (fun p => (sL σ).testBit p && !decide (hold σ p < felt σ p (sA σ))) (sP σ) := bits_ext fun q => by
    rw [nd_bit, mask_bit]
    unfold uns
    rw [mask_bit]
    by_cases hq : q < sP σ
    · simp [hq]
    · have : (sL σ).testBit q = false := by
        cases hb : (sL σ).testBit q with
        | false => rfl
        | true => exact absurd (bit_lt hL hb) hq
      simp [this]
  rw [e]
  unfold fX10_holding
  refine (itb (fun i => (nI (mask (fun p => (sL σ).testBit p && !decide (hold σ p < felt σ p (sA σ))) i), nI i)) (nI (mask (fun p => (sL σ).testBit p && !decide (hold σ p < felt σ p (sA σ))) (sP σ))) (sP σ) rfl (fun i hi => ?_) ?_ (by omega)).trans rfl
  · show fX10_holding_b4 _ _ _ = _
    unfold fX10_holding_b4
    rw [hM.P, if_neg (by rw [n_le (by omega) (by omega)]; omega), hM.L, hasm (by omega) (by omega)]
    have hv : (if (if (sL σ).testBit i = true then (1 : Int32) else 0) = 0 then some (0 : Int32) else (fX10_holds w (nI i)).bind fun r6 => if r6 = 0 then some (0 : Int32) else some ((1 : Int32) <<< (nI i &&& 31))) = some (nI (if ((sL σ).testBit i && !decide (hold σ i < felt σ i (sA σ))) = true then 2 ^ i else 0)) := by
      by_cases c : (sL σ).testBit i = true
      · rw [if_pos c, if_neg (by decide), m_holds hM hg hi ha, bd_e, c, Bool.true_and]
        by_cases d : hold σ i < felt σ i (sA σ)
        · rw [if_pos d, if_pos rfl, decide_eq_true d]; rfl
        · rw [if_neg d, if_neg (by decide), decide_eq_false d, sh_p i (by omega)]; rfl
      · rw [if_neg c, if_pos rfl, (by simpa using c : (sL σ).testBit i = false)]; rfl
    rw [hv, bd_e, n_or, lt_e, lt_e, nI_1]
    rfl
  · show fX10_holding_b4 _ _ _ = _
    unfold fX10_holding_b4
    rw [hM.P, if_pos (by rw [n_le (by omega) (by omega)]; omega)]
theorem sc_bit (e m : Nat) : ∀ n q, (sc e m n).1.testBit q = true → q < n ∧ m.testBit q = true
  | 0, q, h => by simp [sc] at h
  | n + 1, q, h => by
    unfold sc at h
    split at h
    · rename_i c
      rw [Nat.testBit_or, Bool.or_eq_true, Nat.testBit_two_pow, decide_eq_true_eq] at h
      rcases h with h | h
      · exact ⟨by have := (sc_bit e m n q h).1; omega, (sc_bit e m n q h).2⟩
      · subst h; exact ⟨by omega, c.2⟩
    · exact ⟨by have := (sc_bit e m n q h).1; omega, (sc_bit e m n q h).2⟩
theorem sc_stop (e m n : Nat) (h : (sc e m n).2 = 0) : ∀ k, sc e m (n + k) = sc e m n
  | 0 => rfl
  | k + 1 => by
    show sc e m (n + k + 1) = _
    rw [sc, sc_stop e m n h k, if_neg (by simp [h])]
theorem sc_le (e m : Nat) : ∀ n, (sc e m n).2 ≤ e
  | 0 => Nat.le_refl _
  | n + 1 => by
    unfold sc
    have := sc_le e m n
    split
    · dsimp only; omega
    · exact this
theorem m_inner (hg : good σ) (hP : w.1 42 6 = nI (sP σ)) (hK : ∀ k, k < 8 → w.1 45 k = nI (sK σ k)) {p e t : Nat} (he : e ≤ 2) (hp : p < sP σ) (ht : t < 2 ^ sP σ) (hpt : e ≠ 0 → t.testBit p = true) :
    ∃ x, iter (fun s : Int32 × Int32 × Int32 × Wd => fX10_spread_b42 (nI (near (sF σ) (sP σ) p)) (nI p) s.1 s.2.1 s.2.2.1 s.2.2.2) FU (nI t, nI e, 0, w) = some x ∧ x.1 = nI (t ||| pk e (nd (near (sF σ) (sP σ) p &&& grown σ) t)) ∧
      (∀ q, x.2.1 54 q = if (pk e (nd (near (sF σ) (sP σ) p &&& grown σ) t)).testBit q then nI p else w.1 54 q) ∧ (∀ q, x.2.1 55 q = if (pk e (nd (near (sF σ) (sP σ) p &&& grown σ) t)).testBit q then w.1 55 p else w.1 55 q) ∧ x.2.1 42 23 = w.1 42 23 + nI (pop (pk e (nd (near (sF σ) (sP σ) p &&& grown σ) t))) ∧ (∀ k, k ≠ 23 → x.2.1 42 k = w.1 42 k) ∧ x.2.1 45 = w.1 45 ∧ x.2.1 44 = w.1 44 := by
  have h8 := hg.P
  have hm : nd (near (sF σ) (sP σ) p &&& grown σ) t < 2 ^ sP σ := nd_lt (Nat.and_lt_two_pow _ grown_lt)
  have hmb : ∀ n, n < sP σ → (nd (near (sF σ) (sP σ) p &&& grown σ) t).testBit n = ((near (sF σ) (sP σ) p).testBit n && (sK σ n != 6) && !t.testBit n) := fun n hn => by
    rw [nd_bit, Nat.testBit_and, grown_bit]
    simp [hn]
  generalize hme : nd (near (sF σ) (sP σ) p &&& grown σ) t = m at hm hmb ⊢
  have hnear := lt256 (near_lt _ hg.F _ (by omega : sP σ < 9) _ hp) h8
  obtain ⟨q1, q2, q3⟩ := sc_pk e (by omega) (sP σ) (by omega) m hm
  have ht8 := lt256 ht h8
  have hmp : e ≠ 0 → m.testBit p = false := fun h => by rw [hmb p hp, hpt h]; simp
  refine it (fun n s => s.1 = nI (t ||| (sc e m n).1) ∧ s.2.1 = nI (sc e m n).2 ∧ s.2.2.1 = nI n ∧ (∀ q, s.2.2.2.1 54 q = if (sc e m n).1.testBit q then nI p else w.1 54 q) ∧ (∀ q, s.2.2.2.1 55 q = if (sc e m n).1.testBit q then w.1 55 p else w.1 55 q) ∧ s.2.2.2.1 42 23 = w.1 42 23 + nI (e - (sc e m n).2) ∧ (∀ k, k ≠ 23 → s.2.2.2.1 42 k = w.1 42 k) ∧ s.2.2.2.1 45 = w.1 45 ∧ s.2.2.2.1 44 = w.1 44) _ (sP σ) ⟨by simp [sc], rfl, rfl, fun q => by simp [sc], fun q => by simp [sc], by simp [sc, nI_0], fun _ _ => rfl, rfl, rfl⟩ ?_ ?_ (by omega)
  · rintro n ⟨a, b, c, v⟩ hn ⟨e1, e2, e3, e4, e5, e6, e7, e8, e9⟩
    dsimp only at e1 e2 e3 e4 e5 e6 e7 e8 e9
    subst e1; subst e2; subst e3
    have hle := sc_le e m n
    by_cases hz : (sc e m n).2 = 0
    · refine Or.inr ⟨(nI (t ||| (sc e m n).1), v), ?_, ?_⟩
      · show fX10_spread_b42 _ _ _ _ _ _ = _
        unfold fX10_spread_b42
        rw [e7 6 (by decide), hP, if_neg (by rw [n_le (by omega) (by omega)]; omega), hz]
        exact if_pos (show nI 0 ≤ 0 by decide)
      · have hs := sc_stop e m n hz (sP σ - n)
        rw [show n + (sP σ - n) = sP σ by omega] at hs
        rw [hs] at q1 q2
        rw [← q1]
        exact ⟨rfl, e4, e5, by rw [e6, q1, q2], e7, e8, e9⟩
    · have he0 : e ≠ 0 := by omega
      have hcn : (sc e m n).1.testBit n = false := by
        cases hb : (sc e m n).1.testBit n with
        | false => rfl
        | true => exact absurd (sc_bit e m n n hb).1 (by omega)
      have htc : t ||| (sc e m n).1 < 256 := lt256 (Nat.or_lt_two_pow ht (lt_of_bits fun q hq => by have := (sc_bit e m n q hq).1; omega)) h8
      have hlz : ¬ nI (sc e m n).2 ≤ 0 := by rw [show (0 : Int32) = nI 0 from rfl, n_le (by omega) (by decide)]; omega
      have skip : m.testBit n = false → sc e m (n + 1) = sc e m n := fun h => by rw [sc, if_neg (by simp [h])]
      have hk7 := hg.K n
      by_cases hb : (near (sF σ) (sP σ) p).testBit n = true
      · by_cases htn : t.testBit n = true
        · have hmf : m.testBit n = false := by rw [hmb n hn, htn]; simp
          refine Or.inl ⟨(nI (t ||| (sc e m n).1), nI (sc e m n).2, nI (n + 1), v), ?_, ?_⟩
          · show fX10_spread_b42 _ _ _ _ _ _ = _
            unfold fX10_spread_b42
            rw [e7 6 (by decide), hP, if_neg (by rw [n_le (by omega) (by omega)]; omega), if_neg hlz, hasm (by omega) (by omega), if_pos hb, if_neg (by decide), hasm (by omega) (by omega), Nat.testBit_or, htn, Bool.true_or, if_pos rfl, if_neg (by decide), nI_1]
            rfl
          · rw [skip hmf]; exact ⟨rfl, rfl, rfl, e4, e5, e6, e7, e8, e9⟩
        · have htn' : t.testBit n = false := by simpa using htn
          by_cases hsm : sK σ n = 6
          · have hmf : m.testBit n = false := by rw [hmb n hn, hsm]; simp
            refine Or.inl ⟨(nI (t ||| (sc e m n).1), nI (sc e m n).2, nI (n + 1), v), ?_, ?_⟩
            · show fX10_spread_b42 _ _ _ _ _ _ = _
              unfold fX10_spread_b42
              rw [e7 6 (by decide), hP, if_neg (by rw [n_le (by omega) (by omega)]; omega), if_neg hlz, hasm (by omega) (by omega), if_pos hb, if_neg (by decide), hasm (by omega) (by omega), Nat.testBit_or, htn', hcn, Bool.or_false, if_neg (show ¬ (false = true) by decide), if_pos rfl, gd_t (n_ib (by omega) (by decide)), n_cl (by omega), e8, hK n (by omega), hsm, if_pos (show nI 6 = 6 from rfl), nI_1]
              rfl
            · rw [skip hmf]; exact ⟨rfl, rfl, rfl, e4, e5, e6, e7, e8, e9⟩
          · have hmt : m.testBit n = true := by rw [hmb n hn, hb, htn']; simp [hsm]
            have hsc : sc e m (n + 1) = ((sc e m n).1 ||| 2 ^ n, (sc e m n).2 - 1) := by rw [sc, if_pos ⟨hz, hmt⟩]
            have hcp : (sc e m n).1.testBit p = false := by
              cases hb2 : (sc e m n).1.testBit p with
              | false => rfl
              | true => exact absurd ((sc_bit e m n p hb2).2) (by rw [hmp he0]; decide)
            have hnp : n ≠ p := fun h => by rw [h, hpt he0] at htn'; cases htn'
            refine Or.inl ⟨(nI (t ||| ((sc e m n).1 ||| 2 ^ n)), nI ((sc e m n).2 - 1), nI (n + 1), upI (upI (upI v 54 n (nI p)) 55 n (w.1 55 p)) 42 23 (w.1 42 23 + nI (e - ((sc e m n).2 - 1)))), ?_, ?_⟩
            · show fX10_spread_b42 _ _ _ _ _ _ = _
              unfold fX10_spread_b42
              rw [e7 6 (by decide), hP, if_neg (by rw [n_le (by omega) (by omega)]; omega), if_neg hlz, hasm (by omega) (by omega), if_pos hb, if_neg (by decide), hasm (by omega) (by omega), Nat.testBit_or, htn', hcn, Bool.or_false, if_neg (show ¬ (false = true) by decide), if_pos rfl, gd_t (n_ib (by omega) (by decide)), n_cl (by omega), e8, hK n (by omega), if_neg (by rw [show (6 : Int32) = nI 6 from rfl, n_eq (by omega) (by decide)]; exact hsm), sh_p n (by omega), n_or, Nat.or_assoc, lt_e, lt_e, gd_t (n_ib (by omega) (by decide)), n_cl (by omega)]
              have e55 : (upI v 54 n (nI p)).1 55 p = w.1 55 p := by rw [upI_o _ _ _ _ (by decide), e5 p, hcp]; rfl
              have e23 : (upI (upI v 54 n (nI p)) 55 n (w.1 55 p)).1 42 23 + 1 = w.1 42 23 + nI (e - ((sc e m n).2 - 1)) := by
                rw [upI_o _ _ _ _ (by decide), upI_o _ _ _ _ (by decide), e6, show e - ((sc e m n).2 - 1) = e - (sc e m n).2 + 1 by omega, nI_succ, Int32.add_assoc]
              rw [e55, lt_e, lt_e, e23, n_m1 (by omega), nI_1]
              rfl
            · rw [hsc]
              refine ⟨rfl, rfl, rfl, fun q => ?_, fun q => ?_, upI_s _ _ _ _, fun k hk => ?_, ?_, ?_⟩
              · dsimp only
                rw [upI_o _ _ _ _ (by decide), upI_o _ _ _ _ (by decide), Nat.testBit_or, Nat.testBit_two_pow]
                by_cases d : n = q
                · subst d; rw [upI_s]; simp
                · rw [upI_k _ _ _ _ (fun h => d h.symm), e4 q]; simp [d]
              · dsimp only
                rw [upI_o _ _ _ _ (by decide), Nat.testBit_or, Nat.testBit_two_pow]
                by_cases d : n = q
                · subst d; rw [upI_s]; simp
                · rw [upI_k _ _ _ _ (fun h => d h.symm), upI_o _ _ _ _ (by decide), e5 q]; simp [d]
              · dsimp only
                rw [upI_k _ _ _ _ hk, upI_o _ _ _ _ (by decide), upI_o _ _ _ _ (by decide)]; exact e7 k hk
              · dsimp only
                rw [upI_o _ _ _ _ (by decide), upI_o _ _ _ _ (by decide), upI_o _ _ _ _ (by decide)]; exact e8
              · dsimp only
                rw [upI_o _ _ _ _ (by decide), upI_o _ _ _ _ (by decide), upI_o _ _ _ _ (by decide)]; exact e9
      · have hmf : m.testBit n = false := by rw [hmb n hn]; simp [hb]
        refine Or.inl ⟨(nI (t ||| (sc e m n).1), nI (sc e m n).2, nI (n + 1), v), ?_, ?_⟩
        · show fX10_spread_b42 _ _ _ _ _ _ = _
          unfold fX10_spread_b42
          rw [e7 6 (by decide), hP, if_neg (by rw [n_le (by omega) (by omega)]; omega), if_neg hlz, hasm (by omega) (by omega), if_neg hb, if_pos rfl, nI_1]
          rfl
        · rw [skip hmf]; exact ⟨rfl, rfl, rfl, e4, e5, e6, e7, e8, e9⟩
  · rintro ⟨a, b, c, v⟩ ⟨e1, e2, e3, e4, e5, e6, e7, e8, e9⟩
    dsimp only at e1 e2 e3 e4 e5 e6 e7 e8 e9
    subst e1; subst e2; subst e3
    refine ⟨(nI (t ||| (sc e m (sP σ)).1), v), ?_, ?_⟩
    · show fX10_spread_b42 _ _ _ _ _ _ = _
      unfold fX10_spread_b42
      rw [e7 6 (by decide), hP, if_pos (by rw [n_le (by omega) (by omega)]; omega)]
    · rw [q1] at e4 e5 ⊢
      exact ⟨rfl, e4, e5, by rw [e6, q2], e7, e8, e9⟩
end

/-! judge, gaps -/
def juN (r vals : Nat → Nat) (T : Nat) : Nat → Nat
  | 0 => 99
  | k + 1 => if juN r vals T k ≠ 99 then juN r vals T k else if T ≤ k ∨ pop (r (k + 1)) ≠ vals k then k else 99
theorem ju_stay (r vals : Nat → Nat) (T i : Nat) (h : juN r vals T i ≠ 99) : ∀ k, juN r vals T (i + k) = juN r vals T i
  | 0 => rfl
  | k + 1 => by
    show juN r vals T (i + k + 1) = _
    rw [juN, ju_stay r vals T i h k, if_pos h]
theorem ju_le (r vals : Nat → Nat) (T : Nat) : ∀ n, juN r vals T n = 99 ∨ juN r vals T n < n
  | 0 => Or.inl rfl
  | n + 1 => by
    have := ju_le r vals T n
    unfold juN
    split
    · omega
    · split <;> omega
section
variable {w w1 w2 : Wd} {σ τ : St} {b : Nat}
theorem c_firstUntrue (hC : CoIs w 1 σ) (hg : good σ) {n : Nat} {vals : Nat → Nat} (hn : n ≤ 12) (h7 : w.1 7 0 = nI n) (hv : ∀ k, k < n → w.1 34 k = nI (vals k)) (hv2 : ∀ k, vals k < 2 ^ 31) : ∃ w1, fX4_firstUntrue w = some (cvI (juN (run σ (sA σ) (sL σ)) vals (sD σ - sA σ) n), w1) := by
  have hD := hg.D
  obtain ⟨v, a1, a2, a3, a4, a5⟩ := c_walkNow hC hg
  unfold fX4_firstUntrue
  rw [a1, bd_e]
  have T4 : v.1 4 4 = nI (sD σ - sA σ) := Wk.T a2
  have v7 : v.1 7 0 = nI n := by rw [a5.at 7 rfl]; exact h7
  have v34 : ∀ k, k < n → v.1 34 k = nI (vals k) := fun k hk => by rw [a5.at 34 rfl]; exact hv k hk
  have main : ∃ x, iter (fun s : Int32 => fX4_firstUntrue_b6 v s) FU 0 = some x ∧ x = (cvI (juN (run σ (sA σ) (sL σ)) vals (sD σ - sA σ) n), v) := by
    refine it (fun i s => s = nI i ∧ juN (run σ (sA σ) (sL σ)) vals (sD σ - sA σ) i = 99) _ n ⟨rfl, rfl⟩ ?_ ?_ (by omega)
    · rintro i s hi ⟨rfl, e2⟩
      have e3 : juN (run σ (sA σ) (sL σ)) vals (sD σ - sA σ) (i + 1) = if sD σ - sA σ ≤ i ∨ pop (run σ (sA σ) (sL σ) (i + 1)) ≠ vals i then i else 99 := by
        show (if juN (run σ (sA σ) (sL σ)) vals (sD σ - sA σ) i ≠ 99 then _ else _) = _
        rw [if_neg (by rw [e2]; decide)]
      have out : ∀ x : Int32 × Wd, x = (nI i, v) → (sD σ - sA σ ≤ i ∨ pop (run σ (sA σ) (sL σ) (i + 1)) ≠ vals i) → x = (cvI (juN (run σ (sA σ) (sL σ)) vals (sD σ - sA σ) n), v) := fun x hx hc => by
        rw [if_pos hc] at e3
        have := ju_stay (run σ (sA σ) (sL σ)) vals (sD σ - sA σ) (i + 1) (by rw [e3]; omega) (n - (i + 1))
        rw [show i + 1 + (n - (i + 1)) = n by omega, e3] at this
        rw [this, hx, cv_pos (by omega)]
      by_cases c : sD σ - sA σ ≤ i
      · refine Or.inr ⟨(nI i, v), ?_, out _ rfl (Or.inl c)⟩
        unfold fX4_firstUntrue_b6
        rw [v7, if_neg (by rw [n_le (by omega) (by omega)]; omega), T4, if_pos (by rw [n_le (by omega) (by omega)]; exact c)]
      · have hr := run256 hg (i + 1)
        have hpop := pop_le _ hr
        by_cases d : pop (run σ (sA σ) (sL σ) (i + 1)) = vals i
        · refine Or.inl ⟨nI (i + 1), ?_, rfl, ?_⟩
          · unfold fX4_firstUntrue_b6
            rw [v7, if_neg (by rw [n_le (by omega) (by omega)]; omega), T4, if_neg (by rw [n_le (by omega) (by omega)]; exact c), nI_1, gdn (by omega) (by decide), gdn (by omega) (by decide), n_cl (by omega), n_cl (by omega), a4 (i + 1) (by omega), pop_c _ hr, v34 i hi, if_pos (by rw [d]), lt_e]
          · rw [e3, if_neg (by rintro (h | h); exact c h; exact h d)]
        · refine Or.inr ⟨(nI i, v), ?_, out _ rfl (Or.inr d)⟩
          unfold fX4_firstUntrue_b6
          rw [v7, if_neg (by rw [n_le (by omega) (by omega)]; omega), T4, if_neg (by rw [n_le (by omega) (by omega)]; exact c), nI_1, gdn (by omega) (by decide), gdn (by omega) (by decide), n_cl (by omega), n_cl (by omega), a4 (i + 1) (by omega), pop_c _ hr, v34 i hi, if_neg (by rw [n_eq (by omega) (hv2 i)]; exact d)]
    · rintro s ⟨rfl, e2⟩
      refine ⟨(-9, v), ?_, by rw [e2]; rfl⟩
      unfold fX4_firstUntrue_b6
      rw [v7, if_pos (by rw [n_le (by omega) (by omega)]; omega)]
  obtain ⟨x, e1, e2⟩ := main
  exact ⟨v, by rw [e1, e2]⟩
theorem q_judge (h : R w σ) : Ans (fX9_judge w) (fun v => fX10_judge v) := by
  have hD := h.g.D
  obtain ⟨n, hn, p1, p2, p3⟩ := h.ro
  have hf : ∀ k, k < n → (w.1 34 k).toNatClampNeg < 100 ∧ w.1 34 k = nI (w.1 34 k).toNatClampNeg ∧ w.1 67 k = nI (w.1 34 k).toNatClampNeg := fun k hk => by
    obtain ⟨c, c1', c2', c3'⟩ := p3 k hk
    rw [c2', n_cl (by omega)]
    exact ⟨c1', rfl, c3'⟩
  obtain ⟨u, a1⟩ := c_firstUntrue h.c h.g hn p1 (vals := fun k => if k < n then (w.1 34 k).toNatClampNeg else 0) (fun k hk => by rw [if_pos hk]; exact (hf k hk).2.1) (fun k => by
    by_cases c : k < n
    · simp only [if_pos c]; have := (hf k c).1; omega
    · simp only [if_neg c]; decide)
  generalize hvals : (fun k => if k < n then (w.1 34 k).toNatClampNeg else 0) = vals at a1
  have hv67 : ∀ k, k < n → w.1 67 k = nI (vals k) ∧ vals k < 100 := fun k hk => by
    rw [← hvals]; simp only [if_pos hk]; exact ⟨(hf k hk).2.2, (hf k hk).1⟩
  have q1 : Cq w u := Cq.of (rX4_firstUntrue a1) (by decide)
  have hu := h.cq q1
  have hu2 : R (upI (upI u 7 0 0) 42 41 0) σ := ⟨hu.g, hu.m, hu.c, hu.o, hu.le, ⟨0, by omega, rfl, rfl, fun k hk => absurd hk (Nat.not_lt_zero _)⟩, hu.pa, hu.pi, hu.re⟩
  have e9 : fX9_judge w = some (cvI (juN (run σ (sA σ) (sL σ)) vals (sD σ - sA σ) n), upI u 7 0 0) := by
    unfold fX9_judge
    rw [a1, bd_e, un2_e, lt_e]
  obtain ⟨v1, b1, b2, b3, b4⟩ := g_save1 hu2.o
  have main : ∃ x, iter (fun s : Int32 × Int32 × Wd => fX10_judge_b21 (nI n) s.1 s.2.1 s.2.2) FU (-9, 0, v1) = some x ∧ x.1 = cvI (juN (run σ (sA σ) (sL σ)) vals (sD σ - sA σ) n) ∧ ∃ m, Gk (upI (upI u 7 0 0) 42 41 0) 1 σ m x.2 := by
    refine it (fun i s => s.1 = cvI (juN (run σ (sA σ) (sL σ)) vals (sD σ - sA σ) i) ∧ s.2.1 = nI i ∧ s.2.2.1 67 = w.1 67 ∧ ∃ m, Gk (upI (upI u 7 0 0) 42 41 0) 1 σ m s.2.2 ∧ (juN (run σ (sA σ) (sL σ)) vals (sD σ - sA σ) i = 99 → m = i ∧ i ≤ sD σ - sA σ)) _ n ⟨rfl, rfl, ?_, 0, b2, fun _ => ⟨rfl, Nat.zero_le _⟩⟩ ?_ ?_ (by omega)
    · show v1.1 67 = _
      rw [b3 67 (by decide) (by decide), upI_o _ _ _ _ (by decide), upI_o _ _ _ _ (by decide), q1.ge (by decide)]
    · rintro i ⟨x, y, s⟩ hi ⟨e1, e2, e3, m, e4, e5⟩
      dsimp only at e1 e2 e3 e4 e5
      subst e1; subst e2
      have hj := ju_le (run σ (sA σ) (sL σ)) vals (sD σ - sA σ) i
      have hcv := cv_le (a := juN (run σ (sA σ) (sL σ)) vals (sD σ - sA σ) i) (by omega)
      by_cases c : juN (run σ (sA σ) (sL σ)) vals (sD σ - sA σ) i = 99
      · obtain ⟨rfl, e6⟩ := e5 c
        have e7 : juN (run σ (sA σ) (sL σ)) vals (sD σ - sA σ) (m + 1) = if sD σ - sA σ ≤ m ∨ pop (run σ (sA σ) (sL σ) (m + 1)) ≠ vals m then m else 99 := by
          show (if juN (run σ (sA σ) (sL σ)) vals (sD σ - sA σ) m ≠ 99 then _ else _) = _
          rw [if_neg (by rw [c]; decide)]
        have head : ¬ (0 : Int32) ≤ cvI (juN (run σ (sA σ) (sL σ)) vals (sD σ - sA σ) m) := by rw [hcv]; simp [c]
        have hnle : ¬ nI n ≤ nI m := by rw [n_le (by omega) (by omega)]; omega
        by_cases d : m = sD σ - sA σ
        · rw [if_pos (Or.inl (by omega))] at e7
          refine Or.inl ⟨(nI m, nI (m + 1), s), ?_, by rw [e7, cv_pos (by omega)], rfl, e3, m, e4, fun hh => by rw [e7] at hh; omega⟩
          show fX10_judge_b21 _ _ _ _ = _
          unfold fX10_judge_b21 fX10_judge_j58
          rw [d] at e4 ⊢
          rw [d] at head hnle
          rw [if_neg hnle, if_neg head, if_pos (e4.end h.g), lt_e, if_pos rfl, if_pos rfl, bd_e, nI_1, lt_e]
        · obtain ⟨s1, g1, g2, -⟩ := g_step h.g h.m2 (n := m) (by omega) e4
          have hr := run256 h.g (m + 1)
          have hpop := pop_le _ hr
          have f67 : s1.1 67 = w.1 67 := by rw [((rX10_goes g1).cell 67 (by decide)).1]; exact e3
          have hb : ∃ r : Int32, fX10_judge_b21 (nI n) (cvI (juN (run σ (sA σ) (sL σ)) vals (sD σ - sA σ) m)) (nI m) s = some (Sum.inl (r, nI (m + 1), s1)) ∧ r = cvI (juN (run σ (sA σ) (sL σ)) vals (sD σ - sA σ) (m + 1)) := by
            unfold fX10_judge_b21 fX10_judge_j58
            rw [if_neg hnle, if_neg head, if_neg (e4.go h.g (by omega)), lt_e, if_neg (show ¬ (1 : Int32) = 0 by decide), g1, bd_e, if_neg (show ¬ (1 : Int32) = 0 by decide), g2.lit, pop_m _ hr, bd_e, gdn (by omega) (by decide), n_cl (by omega), f67, (hv67 m hi).1]
            have h100 := (hv67 m hi).2
            by_cases k : pop (run σ (sA σ) (sL σ) (m + 1)) = vals m
            · rw [if_pos (by rw [k]), bd_e, nI_1, lt_e]
              refine ⟨_, rfl, ?_⟩
              rw [e7, if_neg (by rintro (h | h); omega; exact h k)]; rfl
            · rw [if_neg (by rw [n_eq (by omega) (by omega)]; exact k), bd_e, nI_1, lt_e]
              refine ⟨_, rfl, ?_⟩
              rw [e7, if_pos (Or.inr k), cv_pos (by omega)]
          obtain ⟨r, hb1, hb2⟩ := hb
          exact Or.inl ⟨(r, nI (m + 1), s1), hb1, hb2, rfl, f67, m + 1, g2, fun _ => ⟨rfl, by omega⟩⟩
      · refine Or.inr ⟨(cvI (juN (run σ (sA σ) (sL σ)) vals (sD σ - sA σ) i), s), ?_, ?_, m, e4⟩
        · show fX10_judge_b21 _ _ _ _ = _
          unfold fX10_judge_b21
          rw [if_neg (by rw [n_le (by omega) (by omega)]; omega), if_pos (by rw [hcv]; exact c)]
        · have := ju_stay (run σ (sA σ) (sL σ)) vals (sD σ - sA σ) i c (n - i)
          rw [show i + (n - i) = n by omega] at this
          rw [this]
    · rintro ⟨x, y, s⟩ ⟨e1, e2, e3, m, e4, e5⟩
      dsimp only at e1 e2 e3 e4 e5
      subst e1; subst e2
      refine ⟨(cvI (juN (run σ (sA σ) (sL σ)) vals (sD σ - sA σ) n), s), ?_, rfl, m, e4⟩
      show fX10_judge_b21 _ _ _ _ = _
      unfold fX10_judge_b21
      rw [if_pos (by rw [n_le (by omega) (by omega)]; omega)]
  obtain ⟨⟨x, s⟩, m1, m2, m, m3⟩ := main
  dsimp only at m2 m3
  obtain ⟨v3, f1, f2, f3, -⟩ := g_rest1 m3
  refine ⟨_, _, v3, σ, e9, ?_, hu2.mq f3 f2⟩
  show fX10_judge (upI u 7 0 0) = _
  unfold fX10_judge fX10_judge_j92
  have e41 : (upI u 7 0 0).1 42 41 = nI n := by rw [upI_o _ _ _ _ (by decide), q1.ge (by decide)]; exact p2
  rw [e41, lt_e, lt_e, b1, bd_e, m1, bd_e, un2_e, f1, bd_e, m2]
/-- dark people side by side in s: the run that ends at n, the longest -/
def gcu (s : Nat) : Nat → Nat
  | 0 => 0
  | n + 1 => if s.testBit n then 0 else gcu s n + 1
def gbe (s : Nat) : Nat → Nat
  | 0 => 0
  | n + 1 => max (gbe s n) (gcu s (n + 1))
theorem gcu_le (s : Nat) : ∀ n, gcu s n ≤ n
  | 0 => Nat.le_refl _
  | n + 1 => by unfold gcu; have := gcu_le s n; split <;> omega
theorem gbe_le (s : Nat) : ∀ n, gbe s n ≤ n
  | 0 => Nat.le_refl _
  | n + 1 => by unfold gbe; have := gbe_le s n; have := gcu_le s (n + 1); omega
theorem c_widest (h0 : w.1 4 0 = nI (sP σ)) (hg : good σ) {s : Nat} (hs : s < 2 ^ 31) : fX4_widestGap w (nI s) = some (nI (gbe s (sP σ))) := by
  have h8 := hg.P
  unfold fX4_widestGap
  refine (itb (fun n => (nI (gbe s n), nI (gcu s n), nI n)) (nI (gbe s (sP σ))) (sP σ) rfl (fun n hn => ?_) ?_ (by omega)).trans rfl
  · have h1 := gcu_le s n
    have h2 := gbe_le s n
    have h3 := gcu_le s (n + 1)
    show fX4_widestGap_b7 w _ _ _ _ = _
    unfold fX4_widestGap_b7
    have hv : (if (if s.testBit n = true then (1 : Int32) else 0) = 0 then nI (gcu s n) + 1 else 0) = nI (gcu s (n + 1)) := by
      show _ = nI (if _ then _ else _)
      by_cases c : s.testBit n = true
      · rw [if_pos c, if_neg (by decide), if_pos c]; rfl
      · rw [if_neg c, if_pos rfl, if_neg c, nI_1]
    rw [h0, if_neg (by rw [n_le (by omega) (by omega)]; omega), hasc hs (by omega), hv, lt_e, n_max (by omega) (by omega), lt_e, nI_1, lt_e]
    rfl
  · show fX4_widestGap_b7 w _ _ _ _ = _
    unfold fX4_widestGap_b7
    rw [h0, if_pos (by rw [n_le (by omega) (by omega)]; omega)]
theorem m_longest {s : Nat} (hP : w.1 42 6 = nI (sP σ)) (hL : w.1 42 7 = nI s) (hg : good σ) (hs : s < 2 ^ 31) : fX10_longestDark w = some (nI (gbe s (sP σ))) := by
  have h8 := hg.P
  unfold fX10_longestDark
  refine (itb (fun n => (nI (gcu s n), nI (gbe s n), nI n)) (nI (gbe s (sP σ))) (sP σ) rfl (fun n hn => ?_) ?_ (by omega)).trans rfl
  · have h1 := gcu_le s n
    have h2 := gbe_le s n
    have h3 := gcu_le s (n + 1)
    show fX10_longestDark_b6 w _ _ _ = _
    unfold fX10_longestDark_b6
    have hv : (if (if s.testBit n = true then (1 : Int32) else 0) = 0 then nI (gcu s n) + 1 else 0) = nI (gcu s (n + 1)) := by
      show _ = nI (if _ then _ else _)
      by_cases c : s.testBit n = true
      · rw [if_pos c, if_neg (by decide), if_pos c]; rfl
      · rw [if_neg c, if_pos rfl, if_neg c, nI_1]
    have t2 : (if nI (gcu s (n + 1)) ≤ nI (gbe s n) then nI (gbe s n) else nI (gcu s (n + 1))) = nI (gbe s (n + 1)) := by
      show _ = nI (max _ _)
      by_cases c : gcu s (n + 1) ≤ gbe s n
      · rw [if_pos (by rw [n_le (by omega) (by omega)]; exact c), Nat.max_eq_left c]
      · rw [if_neg (by rw [n_le (by omega) (by omega)]; exact c), Nat.max_eq_right (by omega)]
    rw [hP, if_neg (by rw [n_le (by omega) (by omega)]; omega), hL, hasm hs (by omega), hv, lt_e, t2, lt_e, nI_1, lt_e]
  · show fX10_longestDark_b6 w _ _ _ = _
    unfold fX10_longestDark_b6
    rw [hP, if_pos (by rw [n_le (by omega) (by omega)]; omega)]
/-- the widest gap within n minutes, and its minute -/
def gaB (r : Nat → Nat) (P : Nat) : Nat → Nat × Nat
  | 0 => (0, 99)
  | n + 1 => if gbe (r (n + 1)) P ≤ (gaB r P n).1 then gaB r P n else (gbe (r (n + 1)) P, n + 1)
theorem gaB_le (r : Nat → Nat) (P : Nat) : ∀ n, (gaB r P n).1 ≤ P ∧ ((gaB r P n).2 = 99 ∨ (gaB r P n).2 ≤ n)
  | 0 => ⟨Nat.zero_le _, Or.inl rfl⟩
  | n + 1 => by
    have := gaB_le r P n
    unfold gaB
    split
    · omega
    · exact ⟨gbe_le _ _, Or.inr (Nat.le_refl _)⟩
theorem c_findGap (hC : CoIs w 1 σ) (hg : good σ) : ∃ w1, fX4_findGap w = some w1 ∧ w1.1 8 2 = nI (gaB (run σ (sA σ) (sL σ)) (sP σ) (sD σ - sA σ)).1 ∧ w1.1 8 3 = cvI (gaB (run σ (sA σ) (sL σ)) (sP σ) (sD σ - sA σ)).2 := by
  have hD := hg.D
  have h8 := hg.P
  obtain ⟨v, a1, a2, a3, a4, a5⟩ := c_walkNow hC hg
  unfold fX4_findGap
  rw [a1, bd_e, lt_e, lt_e]
  refine itnb (fun n s => s.1 = nI (n + 1) ∧ s.2.1 4 = v.1 4 ∧ s.2.1 26 = v.1 26 ∧ s.2.1 8 2 = nI (gaB (run σ (sA σ) (sL σ)) (sP σ) n).1 ∧ s.2.1 8 3 = cvI (gaB (run σ (sA σ) (sL σ)) (sP σ) n).2) (fun x => x.1 8 2 = nI (gaB (run σ (sA σ) (sL σ)) (sP σ) (sD σ - sA σ)).1 ∧ x.1 8 3 = cvI (gaB (run σ (sA σ) (sL σ)) (sP σ) (sD σ - sA σ)).2) (sD σ - sA σ) ⟨rfl, rfl, rfl, rfl, rfl⟩ ?_ ?_ (by omega) (fun x hx => ⟨x, rfl, hx⟩)
  · rintro n ⟨x, u⟩ hn ⟨e1, e2, e3, e4, e5⟩
    dsimp only at e1 e2 e3 e4 e5
    subst e1
    have hr := run256 hg (n + 1)
    have h1 := gaB_le (run σ (sA σ) (sL σ)) (sP σ) n
    have h2 := gbe_le (run σ (sA σ) (sL σ) (n + 1)) (sP σ)
    have hw := c_widest (w := u) (s := run σ (sA σ) (sL σ) (n + 1)) (by rw [e2]; exact a2.1) hg (by omega)
    have e6 : gaB (run σ (sA σ) (sL σ)) (sP σ) (n + 1) = if gbe (run σ (sA σ) (sL σ) (n + 1)) (sP σ) ≤ (gaB (run σ (sA σ) (sL σ)) (sP σ) n).1 then gaB (run σ (sA σ) (sL σ)) (sP σ) n else (gbe (run σ (sA σ) (sL σ) (n + 1)) (sP σ), n + 1) := rfl
    have hT : u.1 4 4 = nI (sD σ - sA σ) := by rw [e2]; exact Wk.T a2
    have h26 : u.1 26 (n + 1) = nI (run σ (sA σ) (sL σ) (n + 1)) := by rw [e3]; exact a4 (n + 1) (by omega)
    by_cases c : gbe (run σ (sA σ) (sL σ) (n + 1)) (sP σ) ≤ (gaB (run σ (sA σ) (sL σ)) (sP σ) n).1
    · rw [if_pos c] at e6
      refine ⟨(nI (n + 2), u), ?_, rfl, e2, e3, by rw [e6]; exact e4, by rw [e6]; exact e5⟩
      show fX4_findGap_b17 _ _ = _
      unfold fX4_findGap_b17
      rw [hT, if_neg (by rw [n_lt (by omega) (by omega)]; omega), gdn (by omega) (by decide), n_cl (by omega), h26, hw, bd_e, e4, if_pos (by rw [n_le (by omega) (by omega)]; exact c), lt_e, nI_1]
    · rw [if_neg c] at e6
      refine ⟨(nI (n + 2), upI (upI u 8 2 (nI (gbe (run σ (sA σ) (sL σ) (n + 1)) (sP σ)))) 8 3 (nI (n + 1))), ?_, rfl, e2, e3, ?_, ?_⟩
      · show fX4_findGap_b17 _ _ = _
        unfold fX4_findGap_b17
        rw [hT, if_neg (by rw [n_lt (by omega) (by omega)]; omega), gdn (by omega) (by decide), n_cl (by omega), h26, hw, bd_e, e4, if_neg (by rw [n_le (by omega) (by omega)]; exact c), lt_e, lt_e, lt_e, nI_1]
      · rw [e6]; rfl
      · rw [e6, cv_pos (show n + 1 < 99 by omega)]; rfl
  · rintro ⟨x, u⟩ ⟨e1, e2, e3, e4, e5⟩
    dsimp only at e1 e2 e3 e4 e5
    subst e1
    refine ⟨u, ?_, e4, e5⟩
    show fX4_findGap_b17 _ _ = _
    unfold fX4_findGap_b17
    rw [show u.1 4 4 = nI (sD σ - sA σ) by rw [e2]; exact Wk.T a2, if_pos (by rw [n_lt (by omega) (by omega)]; omega)]
theorem q_gaps (h : R w σ) (x : Int32) : Ans (fX9_gaps w x) (fun v => fX10_gaps v x) := by
  have hD := h.g.D
  have h8 := h.g.P
  rcases arg x 2 with hx | hx | ⟨p, hp, rfl⟩
  · exact Ans.nof h 2 (by decide) (by decide) (by unfold fX9_gaps fX9_isOutside; simp only [if_pos hx, if_neg (show ¬ (1 : Int32) = 0 by decide), rf1, rf2, rf3, rf4, rf6, bd_e, un2_e] <;> rfl) (fun v e => by unfold fX10_gaps fX10_isIn; simp only [if_pos hx, if_pos, e _ (show (42 : Nat) ≠ 12 by decide), no1, no2, no3, no4, no6, bd_e, un2_e] <;> rfl)
  · have a1 : ¬ x < 0 := ge0 hx (by decide)
    have a2 : ¬ x ≤ 1 := hi_le (m := 1) hx (by decide)
    have a3 : (1 : Int32) < x := hi_lt (m := 1) hx (by decide)
    exact Ans.nof h 2 (by decide) (by decide) (by unfold fX9_gaps fX9_isOutside; simp only [if_neg a1, if_neg a2, if_neg (show ¬ (1 : Int32) = 0 by decide), rf1, rf2, rf3, rf4, rf6, bd_e, un2_e] <;> rfl) (fun v e => by unfold fX10_gaps fX10_isIn; simp only [if_neg a1, if_pos a3, if_pos, e _ (show (42 : Nat) ≠ 12 by decide), no1, no2, no3, no4, no6, bd_e, un2_e] <;> rfl)
  · have i1 : fX9_isOutside (nI p) 1 = 0 := (by decide : ∀ p, p < 2 → fX9_isOutside (nI p) 1 = 0) p hp
    have i2 : fX10_isIn (nI p) 0 1 = 1 := (by decide : ∀ p, p < 2 → fX10_isIn (nI p) 0 1 = 1) p hp
    refine Ans.q (r := if p = 0 then nI (gaB (run σ (sA σ) (sL σ)) (sP σ) (sD σ - sA σ)).1 else cvI (gaB (run σ (sA σ) (sL σ)) (sP σ) (sD σ - sA σ)).2) h ?_ fun v hv => ?_
    · obtain ⟨v, e, e2, e3⟩ := c_findGap h.c h.g
      refine ⟨v, ?_, Cq.of (rX4_findGap e) (by decide)⟩
      unfold fX9_gaps
      rw [i1, if_pos rfl, e, bd_e]
      by_cases c : p = 0
      · subst c; rw [if_pos (show nI 0 = 0 from rfl), e2, if_pos rfl]
      · rw [if_neg (by rw [c0, n_eq (by omega) (by decide)]; exact c), e3, if_neg c]
    · obtain ⟨v1, b1, b2, -⟩ := g_save1 hv.o
      have main : ∃ x, iter (fun s : Int32 × Int32 × Int32 × Wd => fX10_gaps_b30 s.1 s.2.1 s.2.2.1 s.2.2.2) FU (0, -9, 1, v1) = some x ∧ x.1 = nI (gaB (run σ (sA σ) (sL σ)) (sP σ) (sD σ - sA σ)).1 ∧ x.2.1 = cvI (gaB (run σ (sA σ) (sL σ)) (sP σ) (sD σ - sA σ)).2 ∧ Gk v 1 σ (sD σ - sA σ) x.2.2 := by
        refine itn (fun n s => s.1 = nI (gaB (run σ (sA σ) (sL σ)) (sP σ) n).1 ∧ s.2.1 = cvI (gaB (run σ (sA σ) (sL σ)) (sP σ) n).2 ∧ s.2.2.1 = nI (n + 1) ∧ Gk v 1 σ n s.2.2.2) _ (sD σ - sA σ) ⟨rfl, rfl, rfl, b2⟩ ?_ ?_ (by omega)
        · rintro n ⟨x, y, z, u⟩ hn ⟨e1, e2, e3, e4⟩
          dsimp only at e1 e2 e3 e4
          subst e1; subst e2; subst e3
          obtain ⟨u1, d1, d2, -⟩ := g_step hv.g hv.m2 hn e4
          have hr := run256 hv.g (n + 1)
          have h1 := gaB_le (run σ (sA σ) (sL σ)) (sP σ) n
          have h2 := gbe_le (run σ (sA σ) (sL σ) (n + 1)) (sP σ)
          have hw : fX10_longestDark u1 = some (nI (gbe (run σ (sA σ) (sL σ) (n + 1)) (sP σ))) := m_longest (σ := σ) (w := u1) d2.1.P d2.lit h.g (by omega)
          refine ⟨(nI (gaB (run σ (sA σ) (sL σ)) (sP σ) (n + 1)).1, cvI (gaB (run σ (sA σ) (sL σ)) (sP σ) (n + 1)).2, nI (n + 2), u1), ?_, rfl, rfl, rfl, d2⟩
          show fX10_gaps_b30 _ _ _ _ = _
          unfold fX10_gaps_b30
          rw [if_neg (e4.go hv.g hn), d1, bd_e, hw, bd_e]
          have e6 : gaB (run σ (sA σ) (sL σ)) (sP σ) (n + 1) = if gbe (run σ (sA σ) (sL σ) (n + 1)) (sP σ) ≤ (gaB (run σ (sA σ) (sL σ)) (sP σ) n).1 then gaB (run σ (sA σ) (sL σ)) (sP σ) n else (gbe (run σ (sA σ) (sL σ) (n + 1)) (sP σ), n + 1) := rfl
          have hsP : sP (wst σ (n + 1)) = sP σ := rfl
          by_cases c : gbe (run σ (sA σ) (sL σ) (n + 1)) (sP σ) ≤ (gaB (run σ (sA σ) (sL σ)) (sP σ) n).1
          · have c' : nI (gbe (run σ (sA σ) (sL σ) (n + 1)) (sP σ)) ≤ nI (gaB (run σ (sA σ) (sL σ)) (sP σ) n).1 := by rw [n_le (by omega) (by omega)]; exact c
            rw [e6, if_pos c]
            rw [if_pos c', if_pos c', lt_e, lt_e, nI_1, lt_e]
          · have c' : ¬ nI (gbe (run σ (sA σ) (sL σ) (n + 1)) (sP σ)) ≤ nI (gaB (run σ (sA σ) (sL σ)) (sP σ) n).1 := by rw [n_le (by omega) (by omega)]; exact c
            rw [e6, if_neg c, cv_pos (show n + 1 < 99 by omega)]
            rw [if_neg c', if_neg c', lt_e, lt_e, nI_1, lt_e]
        · rintro ⟨x, y, z, u⟩ ⟨e1, e2, e3, e4⟩
          dsimp only at e1 e2 e3 e4
          subst e1; subst e2; subst e3
          refine ⟨(nI (gaB (run σ (sA σ) (sL σ)) (sP σ) (sD σ - sA σ)).1, cvI (gaB (run σ (sA σ) (sL σ)) (sP σ) (sD σ - sA σ)).2, u), ?_, rfl, rfl, e4⟩
          show fX10_gaps_b30 _ _ _ _ = _
          unfold fX10_gaps_b30
          rw [if_pos (e4.end hv.g)]
      obtain ⟨⟨x, y, u⟩, m1, m2, m3, m4⟩ := main
      dsimp only at m2 m3 m4
      obtain ⟨v3, f1, f2, f3, -⟩ := g_rest1 m4
      refine ⟨v3, ?_, f2, f3⟩
      show fX10_gaps v (nI p) = _
      unfold fX10_gaps
      rw [i2, if_neg (by decide), b1, bd_e, m1, bd_e, un3_e, f1, bd_e, m2, m3]
      by_cases c : p = 0
      · subst c; rw [if_pos (show nI 0 = 0 from rfl), if_pos rfl]
      · rw [if_neg (by rw [c0, n_eq (by omega) (by decide)]; exact c), if_neg c]
end

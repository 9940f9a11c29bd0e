/-! dark, darkFor -/
def fdN (r : Nat → Nat) : Nat → Nat
  | 0 => if r 0 = 0 then 0 else 99
  | n + 1 => if fdN r n ≠ 99 then fdN r n else if r (n + 1) = 0 then n + 1 else 99
def curN (r : Nat → Nat) : Nat → Nat
  | 0 => 0
  | n + 1 => if r (n + 1) = 0 then curN r n + 1 else 0
def bestN (r : Nat → Nat) : Nat → Nat
  | 0 => 0
  | n + 1 => max (bestN r n) (curN r (n + 1))
def dfN (r : Nat → Nat) (p : Nat) : Nat → Nat
  | 0 => 0
  | n + 1 => dfN r p n + if (r (n + 1)).testBit p then 0 else 1
theorem fd_none (r : Nat → Nat) : ∀ T, (∀ m, m ≤ T → r m ≠ 0) → fdN r T = 99
  | 0, h => by unfold fdN; rw [if_neg (h 0 (Nat.le_refl _))]
  | T + 1, h => by
    unfold fdN
    rw [fd_none r T (fun m hm => h m (by omega)), if_neg (by decide), if_neg (h (T + 1) (Nat.le_refl _))]
theorem fd_first (r : Nat → Nat) (n : Nat) (hn : n < 99) (h : ∀ m, m < n → r m ≠ 0) (h0 : r n = 0) : ∀ k, fdN r (n + k) = n
  | 0 => by
    cases n with
    | zero => show fdN r 0 = 0; unfold fdN; rw [if_pos h0]
    | succ n =>
      show fdN r (n + 1) = n + 1
      unfold fdN
      rw [fd_none r n (fun m hm => h m (by omega)), if_neg (by decide), if_pos h0]
  | k + 1 => by
    show fdN r (n + k + 1) = n
    unfold fdN
    rw [fd_first r n hn h h0 k, if_pos (by omega)]
theorem fd_le (r : Nat → Nat) : ∀ n, fdN r n = 99 ∨ fdN r n ≤ n
  | 0 => by unfold fdN; split; exact Or.inr (Nat.le_refl _); exact Or.inl rfl
  | n + 1 => by
    unfold fdN
    rcases fd_le r n with h | h
    · rw [if_neg (by rw [h]; decide)]; split
      · exact Or.inr (Nat.le_refl _)
      · exact Or.inl rfl
    · by_cases c : fdN r n = 99
      · rw [if_neg (by rw [c]; decide)]; split
        · exact Or.inr (Nat.le_refl _)
        · exact Or.inl rfl
      · rw [if_pos c]; exact Or.inr (by omega)
theorem curN_le (r : Nat → Nat) : ∀ n, curN r n ≤ n
  | 0 => Nat.le_refl _
  | n + 1 => by unfold curN; have := curN_le r n; split <;> omega
theorem bestN_le (r : Nat → Nat) : ∀ n, bestN r n ≤ n
  | 0 => Nat.le_refl _
  | n + 1 => by unfold bestN; have := bestN_le r n; have := curN_le r (n + 1); omega
theorem dfN_le (r : Nat → Nat) (p : Nat) : ∀ n, dfN r p n ≤ n
  | 0 => Nat.le_refl _
  | n + 1 => by unfold dfN; have := dfN_le r p n; split <;> omega
section
variable {w w1 w2 : Wd} {σ τ : St} {b : Nat}
/-- n minutes ahead, what was kept in region k -/
def Gk (w : Wd) (k : Nat) (σ : St) (n : Nat) (s : Wd) : Prop := MoIs s (wst σ n) ∧ Kept s k σ ∧ Mq w s ∧ KK k w s
theorem Gk.lit {k n : Nat} {s : Wd} (h : Gk w k σ n s) : s.1 42 7 = nI (run σ (sA σ) (sL σ) n) := h.1.L
theorem Gk.go {k n : Nat} {s : Wd} (h : Gk w k σ n s) (hg : good σ) (hn : n < sD σ - sA σ) : ¬ fX10_doorAt s ≤ s.1 42 8 := by
  have hD := hg.D
  unfold fX10_doorAt
  rw [h.1.D, h.1.A, show sD (wst σ n) = sD σ from rfl, show sA (wst σ n) = sA σ + n from rfl, n_le (by omega) (by omega)]
  omega
theorem Gk.end {k : Nat} {s : Wd} (h : Gk w k σ (sD σ - sA σ) s) (hg : good σ) : fX10_doorAt s ≤ s.1 42 8 := by
  have hD := hg.D
  have hA := hg.A
  unfold fX10_doorAt
  rw [h.1.D, h.1.A, show sD (wst σ (sD σ - sA σ)) = sD σ from rfl, show sA (wst σ (sD σ - sA σ)) = sA σ + (sD σ - sA σ) from rfl, n_le (by omega) (by omega)]
  omega
theorem Gk.keep {k n : Nat} {s s1 : Wd} {l : List (Nat × Option Nat)} (h : Gk w k σ n s) (fr : Agree (pU l) s s1) (h1 : okMo l = true) (h2 : okMQ l = true) (h3 : (l.all fun q => q.1 != 53) = true) : Gk w k σ n s1 := ⟨h.1.keep fr h1, h.2.1.keep fun q _ _ => congrFun (fr.cell 53 h3).1 q, h.2.2.1.tr (Mq.of fr h2), h.2.2.2.tr (KK.of k fr h3)⟩
theorem g_step (hg : good σ) (hm : sM σ ≤ 1200) {k n : Nat} {s : Wd} (hn : n < sD σ - sA σ) (h : Gk w k σ n s) : ∃ w1, fX10_goes s 0 = some w1 ∧ Gk w k σ (n + 1) w1 ∧ (∀ q, w1.1 54 q = if (fresh σ (nd (run σ (sA σ) (sL σ) n) (uns σ (sA σ + n)))).testBit q then nI (by_ σ (nd (run σ (sA σ) (sL σ) n) (uns σ (sA σ + n))) q) else s.1 54 q) ∧ (∀ q, w1.1 55 q = if (fresh σ (nd (run σ (sA σ) (sL σ) n) (uns σ (sA σ + n)))).testBit q then s.1 55 (by_ σ (nd (run σ (sA σ) (sL σ) n) (uns σ (sA σ + n))) q) else s.1 55 q) ∧ w1.1 42 23 = s.1 42 23 + nI (pop (fresh σ (nd (run σ (sA σ) (sL σ) n) (uns σ (sA σ + n))))) := by
  obtain ⟨v, a1, a2, a3, a4, a5⟩ := m_goesN hg hm (n := n) (by omega) h.1
  have fr := rX10_goes a1
  exact ⟨v, a1, ⟨a2, h.2.1.keep fun q _ _ => congrFun (fr.cell 53 (by decide)).1 q, h.2.2.1.tr (Mq.of fr (by decide)), h.2.2.2.tr (KK.of k fr (by decide))⟩, a3, a4, a5⟩
theorem g_save1 (hM : MoIs w σ) : ∃ v, fX10_passesAll w 1 1 = some v ∧ Gk w 1 σ 0 v ∧ (∀ i, i ≠ 42 → i ≠ 53 → v.1 i = w.1 i) ∧ (∀ f, f ≠ 19 → f ≠ 20 → v.1 42 f = w.1 42 f) := by
  obtain ⟨v, a1, a2, a3, a4, a5, a6, a7, -⟩ := m_save1 hM
  exact ⟨v, a1, ⟨a2, a3, a4, a5⟩, a6, a7⟩
theorem g_save2 (hM : MoIs w σ) : ∃ v, fX10_passesAll w 2 1 = some v ∧ Gk w 2 σ 0 v ∧ (∀ i, i ≠ 42 → i ≠ 53 → v.1 i = w.1 i) ∧ (∀ f, f ≠ 19 → f ≠ 20 → v.1 42 f = w.1 42 f) := by
  obtain ⟨v, a1, a2, a3, a4, a5, a6, a7, -⟩ := m_save2 hM
  exact ⟨v, a1, ⟨a2, a3, a4, a5⟩, a6, a7⟩
theorem g_rest1 {n : Nat} {s : Wd} (h : Gk w 1 σ n s) : ∃ v, fX10_passesAll s 1 0 = some v ∧ MoIs v σ ∧ Mq w v ∧ KK 1 w v ∧ (∀ i, i < 42 ∨ i = 43 ∨ 48 < i → v.1 i = s.1 i) ∧ (∀ f, 10 ≤ f → f ≠ 19 → f ≠ 20 → v.1 42 f = s.1 42 f) := by
  obtain ⟨v, a1, a2, a3, a4, a5, -⟩ := m_rest1 h.2.1
  exact ⟨v, a1, a2, h.2.2.1.tr a3, h.2.2.2.tr fun q _ => by rw [a4 53 (by omega)], a4, a5⟩
theorem g_rest2 {n : Nat} {s : Wd} (h : Gk w 2 σ n s) : ∃ v, fX10_passesAll s 2 0 = some v ∧ MoIs v σ ∧ Mq w v ∧ KK 2 w v ∧ (∀ i, i < 42 ∨ i = 43 ∨ 48 < i → v.1 i = s.1 i) ∧ (∀ f, 10 ≤ f → f ≠ 19 → f ≠ 20 → v.1 42 f = s.1 42 f) := by
  obtain ⟨v, a1, a2, a3, a4, a5, -⟩ := m_rest2 h.2.1
  exact ⟨v, a1, a2, h.2.2.1.tr a3, h.2.2.2.tr fun q _ => by rw [a4 53 (by omega)], a4, a5⟩
theorem run256 (hg : good σ) (n : Nat) : run σ (sA σ) (sL σ) n < 256 := lt256 (runU_lt hg hg.L n) hg.P
theorem cv_le {a : Nat} (h : a = 99 ∨ a < 99) : ((0 : Int32) ≤ cvI a) = (a ≠ 99) := by
  unfold cvI
  by_cases c : a = 99
  · rw [if_pos c, c]
    simp
  · rw [if_neg c]
    have : (0 : Int32) ≤ nI a := nI_pos' (by omega)
    simp [this, c]
theorem c_firstDark (hC : CoIs w 1 σ) (hg : good σ) : ∃ w1, fX4_firstDark w = some (cvI (fdN (run σ (sA σ) (sL σ)) (sD σ - sA σ)), w1) := by
  have hD := hg.D
  obtain ⟨v, a1, a2, a3, a4, a5⟩ := c_walkNow hC hg
  unfold fX4_firstDark
  rw [a1, bd_e]
  have T4 : v.1 4 4 = nI (sD σ - sA σ) := a2.2.2.2.2.1
  have main : ∃ x, iter (fun s : Int32 => fX4_firstDark_b6 v s) FU 0 = some x ∧ x = (cvI (fdN (run σ (sA σ) (sL σ)) (sD σ - sA σ)), v) := by
    refine it (fun n s => s = nI n ∧ ∀ m, m < n → run σ (sA σ) (sL σ) m ≠ 0) _ (sD σ - sA σ + 1) ⟨rfl, fun m hm => absurd hm (Nat.not_lt_zero _)⟩ ?_ ?_ (by omega)
    · rintro n s hn ⟨rfl, e2⟩
      have hr := run256 hg n
      by_cases c : run σ (sA σ) (sL σ) n = 0
      · refine Or.inr ⟨(nI n, v), ?_, ?_⟩
        · unfold fX4_firstDark_b6
          rw [T4, if_neg (by rw [n_lt (by omega) (by omega)]; omega), gdn (by omega) (by decide), n_cl (by omega), a4 n (by omega), if_pos (by rw [c]; rfl)]
        · have := fd_first (run σ (sA σ) (sL σ)) n (by omega) e2 c (sD σ - sA σ - n)
          rw [show n + (sD σ - sA σ - n) = sD σ - sA σ by omega] at this
          rw [this]
          unfold cvI
          rw [if_neg (by omega)]
      · refine Or.inl ⟨nI (n + 1), ?_, rfl, fun m hm => ?_⟩
        · unfold fX4_firstDark_b6
          rw [T4, if_neg (by rw [n_lt (by omega) (by omega)]; omega), gdn (by omega) (by decide), n_cl (by omega), a4 n (by omega), if_neg (by rw [c0, n_eq (by omega) (by decide)]; exact c), lt_e, nI_1]
        · by_cases d : m = n
          · subst d; exact c
          · exact e2 m (by omega)
    · rintro s ⟨rfl, e2⟩
      refine ⟨(-9, v), ?_, ?_⟩
      · unfold fX4_firstDark_b6
        rw [T4, if_pos (by rw [n_lt (by omega) (by omega)]; omega)]
      · rw [fd_none _ _ fun m hm => e2 m (by omega)]; rfl
  obtain ⟨x, e1, e2⟩ := main
  exact ⟨v, by rw [e1, e2]⟩
theorem c_longest (hC : CoIs w 1 σ) (hg : good σ) : ∃ w1, fX4_longestDark w = some (nI (bestN (run σ (sA σ) (sL σ)) (sD σ - sA σ)), w1) := by
  have hD := hg.D
  obtain ⟨v, a1, a2, a3, a4, a5⟩ := c_walkNow hC hg
  unfold fX4_longestDark
  have T4 : v.1 4 4 = nI (sD σ - sA σ) := a2.2.2.2.2.1
  rw [a1, bd_e]
  refine ⟨v, (itb (fun n => (nI (bestN (run σ (sA σ) (sL σ)) n), nI (curN (run σ (sA σ) (sL σ)) n), nI (n + 1))) (nI (bestN (run σ (sA σ) (sL σ)) (sD σ - sA σ))) (sD σ - sA σ) rfl (fun n hn => ?_) ?_ (by omega)).trans rfl⟩
  · have hr := run256 hg (n + 1)
    have h1 := curN_le (run σ (sA σ) (sL σ)) n
    have h2 := bestN_le (run σ (sA σ) (sL σ)) n
    show fX4_longestDark_b10 v _ _ _ = _
    unfold fX4_longestDark_b10
    have hv : (if nI (run σ (sA σ) (sL σ) (n + 1)) = 0 then nI (curN (run σ (sA σ) (sL σ)) n) + 1 else 0) = nI (curN (run σ (sA σ) (sL σ)) (n + 1)) := by
      show _ = nI (if _ then _ else _)
      by_cases c : run σ (sA σ) (sL σ) (n + 1) = 0
      · rw [if_pos (by rw [c]; rfl), if_pos c, nI_1]
      · rw [if_neg (by rw [c0, n_eq (by omega) (by decide)]; exact c), if_neg c]; rfl
    have h3 := curN_le (run σ (sA σ) (sL σ)) (n + 1)
    rw [T4, if_neg (by rw [n_lt (by omega) (by omega)]; omega), gdn (by omega) (by decide), n_cl (by omega), a4 (n + 1) (by omega), hv, lt_e, n_max (by omega) (by omega), lt_e, nI_1, lt_e]
    rfl
  · show fX4_longestDark_b10 v _ _ _ = _
    unfold fX4_longestDark_b10
    rw [T4, if_pos (by rw [n_lt (by omega) (by omega)]; omega)]
theorem q_dark (h : R w σ) (x : Int32) : Ans (fX9_dark w x) (fun v => fX10_dark v x) := by
  have hD := h.g.D
  rcases arg x 2 with hx | hx | ⟨p, hp, rfl⟩
  · exact Ans.nof h 2 (by decide) (by decide) (by unfold fX9_dark fX9_isOutside; simp only [if_pos hx, if_neg (show ¬ (1 : Int32) = 0 by decide), rf1, rf2, rf3, rf4, rf6, bd_e, un2_e] <;> rfl) (fun v e => by unfold fX10_dark fX10_isIn; simp only [if_pos hx, if_pos, e _ (show (42 : Nat) ≠ 12 by decide), no1, no2, no3, no4, no6, bd_e, un2_e] <;> rfl)
  · have a1 : ¬ x < 0 := ge0 hx (by decide)
    have a2 : ¬ x ≤ 1 := hi_le (m := 1) hx (by decide)
    have a3 : (1 : Int32) < x := hi_lt (m := 1) hx (by decide)
    exact Ans.nof h 2 (by decide) (by decide) (by unfold fX9_dark fX9_isOutside; simp only [if_neg a1, if_neg a2, if_neg (show ¬ (1 : Int32) = 0 by decide), rf1, rf2, rf3, rf4, rf6, bd_e, un2_e] <;> rfl) (fun v e => by unfold fX10_dark fX10_isIn; simp only [if_neg a1, if_pos a3, if_pos, e _ (show (42 : Nat) ≠ 12 by decide), no1, no2, no3, no4, no6, bd_e, un2_e] <;> rfl)
  · have i1 : fX9_isOutside (nI p) 1 = 0 := (by decide : ∀ p, p < 2 → fX9_isOutside (nI p) 1 = 0) p hp
    have i2 : fX10_isIn (nI p) 0 1 = 1 := (by decide : ∀ p, p < 2 → fX10_isIn (nI p) 0 1 = 1) p hp
    refine Ans.q (r := if p = 0 then cvI (fdN (run σ (sA σ) (sL σ)) (sD σ - sA σ)) else nI (bestN (run σ (sA σ) (sL σ)) (sD σ - sA σ))) h ?_ fun v hv => ?_
    · unfold fX9_dark
      by_cases c : p = 0
      · subst c
        obtain ⟨v, e⟩ := c_firstDark h.c h.g
        refine ⟨v, ?_, Cq.of (rX4_firstDark e) (by decide)⟩
        rw [i1, if_pos rfl, if_pos (show nI 0 = 0 from rfl), e, bd_e, un2_e, if_pos rfl]
      · obtain ⟨v, e⟩ := c_longest h.c h.g
        refine ⟨v, ?_, Cq.of (rX4_longestDark e) (by decide)⟩
        rw [i1, if_pos rfl, if_neg (by rw [c0, n_eq (by omega) (by decide)]; exact c), e, bd_e, un2_e, if_neg c]
    · obtain ⟨v1, a1, a2, -⟩ := g_save1 hv.o
      have hv7 : (if v1.1 42 7 = 0 then (0 : Int32) else -9) = cvI (fdN (run σ (sA σ) (sL σ)) 0) := by
        have hL := run256 hv.g 0
        rw [a2.lit]
        unfold fdN
        by_cases c : run σ (sA σ) (sL σ) 0 = 0
        · rw [if_pos (by rw [c]; rfl), if_pos c]; rfl
        · rw [if_neg (by rw [c0, n_eq (by omega) (by decide)]; exact c), if_neg c]; rfl
      have main : ∃ x, iter (fun s : Int32 × Int32 × Int32 × Int32 × Wd => fX10_dark_b44 s.1 s.2.1 s.2.2.1 s.2.2.2.1 s.2.2.2.2) FU (cvI (fdN (run σ (sA σ) (sL σ)) 0), 0, 0, 1, v1) = some x ∧ x.1 = cvI (fdN (run σ (sA σ) (sL σ)) (sD σ - sA σ)) ∧ x.2.1 = nI (bestN (run σ (sA σ) (sL σ)) (sD σ - sA σ)) ∧ Gk v 1 σ (sD σ - sA σ) x.2.2 := by
        refine itn (fun n s => s.1 = cvI (fdN (run σ (sA σ) (sL σ)) n) ∧ s.2.1 = nI (curN (run σ (sA σ) (sL σ)) n) ∧ s.2.2.1 = nI (bestN (run σ (sA σ) (sL σ)) n) ∧ s.2.2.2.1 = nI (n + 1) ∧ Gk v 1 σ n s.2.2.2.2) _ (sD σ - sA σ) ⟨rfl, rfl, rfl, rfl, a2⟩ ?_ ?_ (by omega)
        · rintro n ⟨x1, x2, x3, x4, y⟩ hn ⟨e1, e2, e3, e4, e5⟩
          dsimp only at e1 e2 e3 e4 e5
          subst e1; subst e2; subst e3; subst e4
          obtain ⟨y1, b1, b2, -⟩ := g_step hv.g hv.m2 hn e5
          have hr := run256 hv.g (n + 1)
          have h1 := curN_le (run σ (sA σ) (sL σ)) n
          have h2 := bestN_le (run σ (sA σ) (sL σ)) n
          have h3 := curN_le (run σ (sA σ) (sL σ)) (n + 1)
          have h4 := fd_le (run σ (sA σ) (sL σ)) n
          refine ⟨(cvI (fdN (run σ (sA σ) (sL σ)) (n + 1)), nI (curN (run σ (sA σ) (sL σ)) (n + 1)), nI (bestN (run σ (sA σ) (sL σ)) (n + 1)), nI (n + 2), y1), ?_, rfl, rfl, rfl, rfl, b2⟩
          show fX10_dark_b44 _ _ _ _ _ = _
          unfold fX10_dark_b44
          have t1 : (if nI (run σ (sA σ) (sL σ) (n + 1)) = 0 then nI (curN (run σ (sA σ) (sL σ)) n) + 1 else 0) = nI (curN (run σ (sA σ) (sL σ)) (n + 1)) := by
            show _ = nI (if _ then _ else _)
            by_cases c : run σ (sA σ) (sL σ) (n + 1) = 0
            · rw [if_pos (by rw [c]; rfl), if_pos c, nI_1]
            · rw [if_neg (by rw [c0, n_eq (by omega) (by decide)]; exact c), if_neg c]; rfl
          have t2 : (if nI (curN (run σ (sA σ) (sL σ)) (n + 1)) ≤ nI (bestN (run σ (sA σ) (sL σ)) n) then nI (bestN (run σ (sA σ) (sL σ)) n) else nI (curN (run σ (sA σ) (sL σ)) (n + 1))) = nI (bestN (run σ (sA σ) (sL σ)) (n + 1)) := by
            show _ = nI (max _ _)
            by_cases c : curN (run σ (sA σ) (sL σ)) (n + 1) ≤ bestN (run σ (sA σ) (sL σ)) n
            · rw [if_pos (by rw [n_le (by omega) (by omega)]; exact c), Nat.max_eq_left c]
            · rw [if_neg (by rw [n_le (by omega) (by omega)]; exact c), Nat.max_eq_right (by omega)]
          have t3 : (if nI (run σ (sA σ) (sL σ) (n + 1)) = 0 then if (0 : Int32) ≤ cvI (fdN (run σ (sA σ) (sL σ)) n) then cvI (fdN (run σ (sA σ) (sL σ)) n) else nI (n + 1) else cvI (fdN (run σ (sA σ) (sL σ)) n)) = cvI (fdN (run σ (sA σ) (sL σ)) (n + 1)) := by
            show _ = cvI (if _ then _ else if _ then _ else _)
            simp only [cv_le (a := fdN (run σ (sA σ) (sL σ)) n) (by omega)]
            by_cases c : run σ (sA σ) (sL σ) (n + 1) = 0
            · rw [if_pos (by rw [c]; rfl), if_pos c]
              by_cases d : fdN (run σ (sA σ) (sL σ)) n ≠ 99
              · rw [if_pos d, if_pos d]
              · rw [if_neg d, if_neg d]
                unfold cvI
                rw [if_neg (by omega)]
            · rw [if_neg (by rw [c0, n_eq (by omega) (by decide)]; exact c), if_neg c]
              by_cases d : fdN (run σ (sA σ) (sL σ)) n ≠ 99
              · rw [if_pos d]
              · rw [if_neg d, Decidable.not_not.mp d]
          rw [if_neg (e5.go hv.g hn), b1, bd_e, b2.lit, t1, lt_e, t2, lt_e, t3, lt_e, nI_1, lt_e]
        · rintro ⟨x1, x2, x3, x4, y⟩ ⟨e1, e2, e3, e4, e5⟩
          dsimp only at e1 e2 e3 e4 e5
          subst e1; subst e3
          refine ⟨(cvI (fdN (run σ (sA σ) (sL σ)) (sD σ - sA σ)), nI (bestN (run σ (sA σ) (sL σ)) (sD σ - sA σ)), y), ?_, rfl, rfl, e5⟩
          show fX10_dark_b44 _ _ _ _ _ = _
          unfold fX10_dark_b44
          rw [if_pos (e5.end hv.g)]
      obtain ⟨⟨x1, x2, y⟩, m1, m2, m3, m4⟩ := main
      dsimp only at m2 m3 m4
      obtain ⟨v3, f1, f2, f3, -⟩ := g_rest1 m4
      refine ⟨v3, ?_, f2, f3⟩
      show fX10_dark v (nI p) = _
      unfold fX10_dark
      rw [i2, if_neg (by decide), a1, bd_e, hv7, lt_e, m1, bd_e, un3_e, f1, bd_e, m2, m3]
      by_cases c : p = 0
      · subst c; rw [if_pos (show nI 0 = 0 from rfl), if_pos rfl]
      · rw [if_neg (by rw [c0, n_eq (by omega) (by decide)]; exact c), if_neg c]
end

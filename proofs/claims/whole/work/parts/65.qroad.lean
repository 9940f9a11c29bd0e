/-! road: both -/
/-- what is left of the machine's cells when the reference has read -/
def FrR (w w1 : Wd) : Prop := (∀ i, i ≠ 42 → i ≠ 50 → i ≠ 51 → i ≠ 52 → w1.1 i = w.1 i) ∧ ∀ f, f ≠ 15 → f ≠ 16 → w1.1 42 f = w.1 42 f
section
variable {w w1 w2 : Wd} {σ τ : St} {b : Nat} {T : Nat → Nat} {n : Nat}
theorem posT_lt (T : Nat → Nat) {i j : Nat} (h : i < j) : posT T i < posT T j := by
  induction j with
  | zero => exact absurd h (Nat.not_lt_zero _)
  | succ j ih =>
    have e : posT T (j + 1) = posT T j + dgN (T (posT T j)) + 2 := rfl
    by_cases c : i = j
    · subst c; omega
    · have := ih (by omega); omega
theorem sq_none (σ : St) (T : Nat → Nat) {k : Nat} (h : sqT σ T k = none) : ∀ j, sqT σ T (k + j) = none
  | 0 => h
  | j + 1 => by
    show (sqT σ T (k + j)).bind _ = none
    rw [sq_none σ T h j]; rfl
theorem RcT.keep {a q k : Nat} {u v : Wd} (h : RcT T a q u) (hq : q < k) (h1 : ∀ q, q < k → v.1 50 q = u.1 50 q ∧ v.1 51 q = u.1 51 q) (h2 : ∀ q, q < 3 * k → v.1 52 q = u.1 52 q) : RcT T a q v := by
  obtain ⟨r0, r1, r2, r3, r4⟩ := h
  exact ⟨(h1 q hq).1.trans r0, (h1 q hq).2.trans r1, (h2 _ (by omega)).trans r2, fun z => (h2 _ (by omega)).trans (r3 z), fun z => (h2 _ (by omega)).trans (r4 z)⟩
theorem m_parse (h : TxX w T n) : ∃ x, iter (fun s : Int32 × Wd => fX10_road_b12 s.1 s.2) FU (1, upI (upI w 42 15 0) 42 16 0) = some x ∧ FrR w x.2 ∧ ((x.1 = 1 ∧ AlT T n ∧ ∃ N, N ≤ 40 ∧ posT T N = n ∧ x.2.1 42 16 = nI N ∧ ∀ q, q < N → RcT T (posT T q) q x.2 ∧ posT T q < n ∧ stT T (posT T q) = 0) ∨ (x.1 = 0 ∧ ∃ f, FaT T n f ∧ x.2.1 42 15 = nI f)) := by
  have hn := h.1
  refine it (fun i (s : Int32 × Wd) => FrR w s.2 ∧ ((s.1 = 1 ∧ s.2.1 42 15 = nI (posT T i) ∧ s.2.1 42 16 = nI i ∧ posT T i ≤ n ∧ 3 * i ≤ posT T i ∧ stT T (posT T i) = 0 ∧ (∀ j, j < posT T i → okT T j) ∧ ∀ q, q < i → RcT T (posT T q) q s.2 ∧ posT T q < n ∧ stT T (posT T q) = 0) ∨ (s.1 = 0 ∧ ∃ f, FaT T n f ∧ s.2.1 42 15 = nI f))) _ 45 ⟨⟨fun i h1 _ _ _ => by rw [upI_o _ _ _ _ h1, upI_o _ _ _ _ h1], fun f h1 h2 => by rw [upI_k _ _ _ _ h2, upI_k _ _ _ _ h1]⟩, Or.inl ⟨rfl, ?_, upI_s _ _ _ _, Nat.zero_le _, Nat.zero_le _, rfl, fun j hj => absurd hj (Nat.not_lt_zero _), fun q hq => absurd hq (Nat.not_lt_zero _)⟩⟩ ?_ ?_ (by omega)
  · dsimp only
    rw [upI_k _ _ _ _ (by decide), upI_s]; rfl
  · rintro i ⟨x, u⟩ hi ⟨e1, e2⟩
    dsimp only at e1 e2
    rcases e2 with ⟨rfl, e2, e3, e4, e5, e6, e7, e8⟩ | ⟨rfl, f, e2, e3⟩
    · have hu : TxX u T n := ⟨hn, (e1.2 14 (by decide) (by decide)).trans h.2.1, fun k hk => by rw [e1.1 49 (by decide) (by decide) (by decide) (by decide)]; exact h.2.2.1 k hk, h.2.2.2⟩
      have hpos : posT T (i + 1) = posT T i + dgN (T (posT T i)) + 2 := rfl
      have sto : (posT T i < n ∨ n = 0) → ∃ s', fX10_road_j34 u = some (.inl s') ∧ FrR w s'.2 ∧ ((s'.1 = 1 ∧ s'.2.1 42 15 = nI (posT T (i + 1)) ∧ s'.2.1 42 16 = nI (i + 1) ∧ posT T (i + 1) ≤ n ∧ 3 * (i + 1) ≤ posT T (i + 1) ∧ stT T (posT T (i + 1)) = 0 ∧ (∀ j, j < posT T (i + 1) → okT T j) ∧ ∀ q, q < i + 1 → RcT T (posT T q) q s'.2 ∧ posT T q < n ∧ stT T (posT T q) = 0) ∨ (s'.1 = 0 ∧ ∃ f, FaT T n f ∧ s'.2.1 42 15 = nI f)) := fun h0 => by
        obtain ⟨r, u1, b1, ⟨g1, g2, g3, g4⟩, b2⟩ := m_statement hu e2 e3 e4 (by omega) e6 e7 h0
        unfold fX10_road_j34
        rw [b1, bd_e, un2_e]
        rcases b2 with ⟨rfl, d0, d1, d2, d3, d4, d5, d6⟩ | ⟨rfl, f, d1, d2⟩
        · have hd4 := dgN_c (T (posT T i))
          rw [if_neg (show ¬ (1 : Int32) = 0 by decide), lt_e, g2 16 (by decide), e3, nI_1, lt_e]
          refine ⟨_, rfl, ⟨fun j h1 h2 h3 h4 => ?_, fun f h1 h2 => ?_⟩, Or.inl ⟨rfl, ?_, upI_s _ _ _ _, ?_, ?_, ?_, ?_, fun q hq => ?_⟩⟩
          · dsimp only
            rw [upI_o _ _ _ _ h1]; exact (g1 j h1 h2 h3 h4).trans (e1.1 j h1 h2 h3 h4)
          · dsimp only
            rw [upI_k _ _ _ _ h2]; exact (g2 f h1).trans (e1.2 f h1 h2)
          · dsimp only
            rw [upI_k _ _ _ _ (by decide), d5, hpos]
          · rw [hpos]; exact d2
          · rw [hpos]; omega
          · rw [hpos]; exact d4
          · rw [hpos]; exact d3
          · dsimp only
            have tail : ∀ {a q : Nat} {v : Wd}, RcT T a q v → RcT T a q (upI v 42 16 (nI (i + 1))) := fun {a q v} hh => by
              unfold RcT at hh ⊢
              rw [upI_o _ _ _ _ (show (50 : Nat) ≠ 42 by decide), upI_o _ _ _ _ (show (51 : Nat) ≠ 42 by decide), upI_o _ _ _ _ (show (52 : Nat) ≠ 42 by decide)]
              exact hh
            by_cases z : q = i
            · subst z
              exact ⟨tail d6, d1, e6⟩
            · obtain ⟨f1, f2, f3⟩ := e8 q (by omega)
              exact ⟨tail (f1.keep (k := i) (by omega) g3 g4), f2, f3⟩
        · rw [if_pos rfl, lt_e, g2 16 (by decide), e3, lt_e]
          refine ⟨_, rfl, ⟨fun j h1 h2 h3 h4 => ?_, fun f h1 h2 => ?_⟩, Or.inr ⟨rfl, f, d1, ?_⟩⟩
          · dsimp only
            rw [upI_o _ _ _ _ h1]; exact (g1 j h1 h2 h3 h4).trans (e1.1 j h1 h2 h3 h4)
          · dsimp only
            rw [upI_k _ _ _ _ h2]; exact (g2 f h1).trans (e1.2 f h1 h2)
          · dsimp only
            rw [upI_k _ _ _ _ (by decide)]; exact d2
      by_cases c : posT T i < n
      · obtain ⟨s', t1, t2⟩ := sto (Or.inl c)
        refine Or.inl ⟨s', ?_, t2⟩
        show fX10_road_b12 _ _ = _
        unfold fX10_road_b12
        rw [if_neg (show ¬ (1 : Int32) = 0 by decide), e2, hu.2.1, if_pos (by rw [n_lt (by omega) (by omega)]; exact c), t1]
      · have hnl : ¬ nI (posT T i) < nI n := by rw [n_lt (by omega) (by omega)]; exact c
        by_cases z : i = 0
        · subst z
          have p0 : posT T 0 = 0 := rfl
          obtain ⟨s', t1, t2⟩ := sto (Or.inr (by omega))
          refine Or.inl ⟨s', ?_, t2⟩
          show fX10_road_b12 _ _ = _
          unfold fX10_road_b12
          rw [if_neg (show ¬ (1 : Int32) = 0 by decide), e2, hu.2.1, if_neg hnl, e3, if_pos (show nI 0 = (0 : Int32) from rfl), t1]
        · have en : posT T i = n := by omega
          have npos : 0 < posT T i := posT_lt T (i := 0) (by omega)
          refine Or.inr ⟨(1, u), ?_, e1, Or.inl ⟨rfl, ⟨by omega, fun j hj => e7 j (by omega), by rw [← en]; exact e6⟩, i, by omega, en, e3, e8⟩⟩
          show fX10_road_b12 _ _ = _
          unfold fX10_road_b12
          rw [if_neg (show ¬ (1 : Int32) = 0 by decide), e2, hu.2.1, if_neg hnl, e3, if_neg (by rw [c0, n_eq (by omega) (by decide)]; exact z)]
    · refine Or.inr ⟨(0, u), ?_, e1, Or.inr ⟨rfl, f, e2, e3⟩⟩
      show fX10_road_b12 _ _ = _
      unfold fX10_road_b12
      rw [if_pos rfl]
  · rintro ⟨x, u⟩ ⟨e1, e2⟩
    dsimp only at e1 e2
    rcases e2 with ⟨rfl, e2, e3, e4, e5, -⟩ | ⟨rfl, f, e2, e3⟩
    · exact absurd e5 (by omega)
    · refine ⟨(0, u), ?_, e1, Or.inr ⟨rfl, f, e2, e3⟩⟩
      show fX10_road_b12 _ _ = _
      unfold fX10_road_b12
      rw [if_pos rfl]
/-- the reference's second half: the statements come, or the state is taken back -/
theorem m_allCome {N : Nat} (hM : MoIs w σ) (hg : good σ) (hm : sM σ ≤ 999) (hK : Kept w 1 σ) (hA : AlT T n) (hN : N ≤ 40) (hp : posT T N = n) (h16 : w.1 42 16 = nI N) (hR : ∀ q, q < N → RcT T (posT T q) q w ∧ posT T q < n ∧ stT T (posT T q) = 0) (hn : n ≤ 96) : ∃ x, iter (fun s : Int32 × Wd => fX10_road_b86 s.1 s.2) FU (0, w) = some x ∧ Mq w (upI x.2 42 27 (w.1 42 27)) ∧ ((∃ τ, sqT σ T N = some τ ∧ x.1 = nI N ∧ MoIs x.2 τ ∧ x.2.1 42 27 = 0) ∨ (∃ k τ, k < N ∧ sqT σ T k = some τ ∧ sqT σ T (k + 1) = none ∧ x.1 = -2000 - nI (posT T k) ∧ MoIs x.2 σ ∧ x.2.1 42 27 = w.1 42 27)) := by
  refine it (fun k (s : Int32 × Wd) => s.1 = nI k ∧ (∃ τ, sqT σ T k = some τ ∧ good τ ∧ sM τ ≤ 999 ∧ MoIs s.2 τ) ∧ Kept s.2 1 σ ∧ Mq w s.2 ∧ (s.2.1 50 = w.1 50 ∧ s.2.1 51 = w.1 51 ∧ s.2.1 52 = w.1 52 ∧ s.2.1 42 16 = w.1 42 16 ∧ s.2.1 42 27 = w.1 42 27)) _ N ⟨rfl, ⟨σ, rfl, hg, hm, hM⟩, hK, Ag.rf, rfl, rfl, rfl, rfl, rfl⟩ ?_ ?_ (by omega)
  · rintro k ⟨x, u⟩ hk ⟨e1, ⟨τ, e2, e3, e4, e5⟩, e6, e7, e8, e9, e10, e11, e12⟩
    dsimp only at e1 e2 e3 e4 e5 e6 e7 e8 e9 e10 e11 e12
    subst e1
    obtain ⟨f1, f2, f3⟩ := hR k hk
    have f1' : RcT T (posT T k) k u := f1.keep (k := N) hk (fun q _ => by rw [e8, e9]; exact ⟨rfl, rfl⟩) (fun q _ => by rw [e10])
    obtain ⟨r, u1, b1, b2⟩ := m_comes e5 e3 e4 (by omega) f1' hA f2 f3
    have fr := rX10_comes b1
    have hsq : sqT σ T (k + 1) = stE τ (T (posT T k)) (tv0 T (posT T k)) (tv1 T (posT T k)) (tv2 T (posT T k)) := by
      show (sqT σ T k).bind _ = _
      rw [e2]; rfl
    have q1 : Mq u u1 := Mq.of fr (by decide)
    have K1 : Kept u1 1 σ := e6.keep fun q _ _ => congrFun (fr.cell 53 (by decide)).1 q
    have s50 : u1.1 50 = w.1 50 := ((fr.cell 50 (by decide)).1).trans e8
    have s51 : u1.1 51 = w.1 51 := ((fr.cell 51 (by decide)).1).trans e9
    have s52 : u1.1 52 = w.1 52 := ((fr.cell 52 (by decide)).1).trans e10
    have s16 : u1.1 42 16 = w.1 42 16 := ((fr 42 16 (by decide)).1).trans e11
    have s27 : u1.1 42 27 = w.1 42 27 := ((fr 42 27 (by decide)).1).trans e12
    have hnle : ¬ nI N ≤ nI k := by rw [n_le (by omega) (by omega)]; omega
    rcases b2 with ⟨rfl, τ', b3, b4⟩ | ⟨rfl, b3⟩
    · obtain ⟨g1, g2⟩ := stE_next hA f2 f3 e3 e4 b3
      refine Or.inl ⟨(nI (k + 1), u1), ?_, rfl, ⟨τ', hsq.trans b3, g1, g2, b4⟩, K1, e7.tr q1, s50, s51, s52, s16, s27⟩
      show fX10_road_b86 _ _ = _
      unfold fX10_road_b86
      rw [e11, h16, if_neg hnle, b1, bd_e, un2_e, if_neg (show ¬ (1 : Int32) = 0 by decide), nI_1, lt_e]
    · obtain ⟨u2, c1, c2, c3, c4, c5, -⟩ := m_rest1 K1
      have t27 : u2.1 42 27 = w.1 42 27 := by rw [c5 27 (by decide) (by decide) (by decide)]; exact s27
      refine Or.inr ⟨(-2000 - nI (posT T k), u2), ?_, ?_, Or.inr ⟨k, τ, hk, e2, hsq.trans b3, rfl, c2, t27⟩⟩
      · show fX10_road_b86 _ _ = _
        unfold fX10_road_b86
        rw [e11, h16, if_neg hnle, b1, bd_e, un2_e, if_pos rfl, c1, bd_e, gdn (by omega) (by decide), n_cl (by omega), c4 51 (by decide), s51, f1.2.1]
      · have q3 := (e7.tr q1).tr c3
        intro i j hj
        dsimp only
        rw [upI_r]
        by_cases z : i = 42 ∧ j = 27
        · rw [if_pos z, z.1, z.2]
        · rw [if_neg z]; exact q3 i j hj
  · rintro ⟨x, u⟩ ⟨e1, ⟨τ, e2, e3, e4, e5⟩, e6, e7, e8, e9, e10, e11, e12⟩
    dsimp only at e1 e2 e3 e4 e5 e6 e7 e8 e9 e10 e11 e12
    subst e1
    refine ⟨(nI N, upI u 42 27 0), ?_, ?_, Or.inl ⟨τ, e2, rfl, ?_, upI_s _ _ _ _⟩⟩
    · show fX10_road_b86 _ _ = _
      unfold fX10_road_b86
      rw [e11, h16, if_pos (Int32.le_refl _), lt_e, upI_k _ _ _ _ (by decide), e11, h16]
    · intro i j hj
      dsimp only
      rw [upI_r]
      by_cases z : i = 42 ∧ j = 27
      · rw [if_pos z, z.1, z.2]
      · rw [if_neg z, upI_r, if_neg z]; exact e7 i j hj
    · exact e5.keep (l := [at_ 42 27]) (Agree.rf.pI rfl (Or.inl (List.mem_singleton.mpr rfl))) (by decide)
theorem R.mk4 (h : R w σ) (g : good τ) (m : sM τ ≤ 999) (c : CoIs w2 1 τ) (o : MoIs w2 τ) (pa : PastR w2 τ) (l1 : w2.1 6 0 = 0) (l2 : w2.1 42 14 = 0) (e : ∀ i, (i == 0 || i == 2 || i == 17 || i == 18 || i == 19 || i == 20 || i == 7 || i == 12 || i == 34 || i == 43 || i == 67) = true → w2.1 i = w.1 i) (e42 : ∀ f, (f == 18 || f == 41) = true → w2.1 42 f = w.1 42 f) (kk : KK 1 w w2) : R w2 τ := by
  refine ⟨g, m, c, o, ⟨0, by decide, l1, l2, fun k hk => absurd hk (Nat.not_lt_zero _)⟩, ?_, pa, ?_, ?_⟩
  · unfold RowR
    rw [e 7 rfl, e 34 rfl, e42 41 rfl, e 67 rfl]
    exact h.ro
  · obtain ⟨h1, h2⟩ := h.pi
    unfold PicR
    rw [e 0 rfl, e42 18 rfl]
    refine ⟨h1, ?_⟩
    rcases h2 with h2 | ⟨h2, υ, h3, h4, h5, h6⟩
    · exact Or.inl h2
    · exact Or.inr ⟨h2, υ, h3, h4, h5.eq (e 2 rfl) (e 17 rfl) (e 18 rfl) (e 19 rfl) (e 20 rfl), h6.kk kk (by decide)⟩
  · unfold RefR
    rw [e 12 rfl, e 43 rfl]
    exact h.re
theorem neg1 : ∀ f, f < 97 → (-1000 : Int32) - nI f < 0 ∧ ¬ (-1000 : Int32) - nI f = 0 := by decide +kernel
theorem neg2 : ∀ f, f < 97 → (-2000 : Int32) - nI f < 0 := by decide +kernel
theorem q_road (h : R w σ) : Ans (fX9_road w) (fun v => fX10_road v) := by
  obtain ⟨n, hn, p1, p2, p3⟩ := h.le
  obtain ⟨T, hT33, hT49, hT8⟩ : ∃ T : Nat → Nat, (∀ k, k < n → w.1 33 k = nI (T k)) ∧ (∀ k, k < n → w.1 49 k = nI (T k)) ∧ ∀ k, T k < 256 := by
    have hf : ∀ k, k < n → (w.1 33 k).toNatClampNeg < 256 ∧ w.1 33 k = nI (w.1 33 k).toNatClampNeg ∧ w.1 49 k = nI (w.1 33 k).toNatClampNeg := fun k hk => by
      obtain ⟨c, c1', c2', c3'⟩ := p3 k hk
      rw [c2', n_cl (by omega)]
      exact ⟨c1', rfl, c3'⟩
    refine ⟨fun k => if k < n then (w.1 33 k).toNatClampNeg else 0, fun k hk => ?_, fun k hk => ?_, fun k => ?_⟩
    · dsimp only; rw [if_pos hk]; exact (hf k hk).2.1
    · dsimp only; rw [if_pos hk]; exact (hf k hk).2.2
    · dsimp only
      by_cases c : k < n
      · rw [if_pos c]; exact (hf k c).1
      · rw [if_neg c]; decide
  obtain ⟨x, a1, a2⟩ := c_textFault hn p1 hT33 hT8
  rcases a2 with ⟨rfl, hA⟩ | ⟨f, hF, rfl⟩
  · obtain ⟨r, v, b1, b2⟩ := c_comeTo h.c h.g h.m hn p1 hT33 hT8 hA
    have fr := rX3_comeTo b1
    have k42 : ∀ i, 42 ≤ i → v.1 i = w.1 i := fun i hi => (fr.cell i (by
      rw [List.all_eq_true]
      intro q hq
      have : q.1 < 42 := (by decide : ∀ q, q ∈ pX3_comeTo 1 → q.1 < 42) q hq
      simp only [bne_iff_ne, ne_eq]; omega)).1
    have kc : ∀ i, (i == 0 || i == 2 || i == 17 || i == 18 || i == 19 || i == 20 || i == 7 || i == 12 || i == 34 || i == 5 || i == 30 || i == 31 || i == 32) = true → v.1 i = w.1 i := fun i hi => (fr.cell i (by
      rw [List.all_eq_true]
      intro q hq
      have := (by decide : ∀ q, q ∈ pX3_comeTo 1 → (q.1 == 0 || q.1 == 2 || q.1 == 17 || q.1 == 18 || q.1 == 19 || q.1 == 20 || q.1 == 7 || q.1 == 12 || q.1 == 34 || q.1 == 5 || q.1 == 30 || q.1 == 31 || q.1 == 32) = false) q hq
      simp only [bne_iff_ne, ne_eq]
      rintro rfl
      rw [this] at hi
      cases hi)).1
    have Mv : MoIs v σ := by
      obtain ⟨t1, t2, t3, t4, t5, t6⟩ := h.o
      refine ⟨?_, ?_, ?_, ?_, ?_, ?_⟩
      · rw [k42 44 (by decide)]; exact t1
      · rw [k42 42 (by decide)]; exact t2
      · rw [k42 45 (by decide)]; exact t3
      · rw [k42 46 (by decide)]; exact t4
      · rw [k42 47 (by decide)]; exact t5
      · rw [k42 48 (by decide)]; exact t6
    -- the reference, from any world that agrees with v on its side
    have ref : ∀ v9 : Wd, (∀ i, 42 ≤ i → v9.1 i = w.1 i) → ∃ r2 v4, fX10_road v9 = some (r2, v4) ∧ (∀ i, i < 42 → v4.1 i = v9.1 i) ∧ v4.1 42 14 = 0 ∧ (v4.1 42 18 = w.1 42 18 ∧ v4.1 42 41 = w.1 42 41) ∧ (v4.1 43 = w.1 43 ∧ v4.1 67 = w.1 67 ∧ v4.1 56 = w.1 56 ∧ v4.1 57 = w.1 57 ∧ v4.1 58 = w.1 58) ∧ KK 1 w v4 ∧ ((∃ k τ, posT T k = n ∧ sqT σ T k = some τ ∧ r2 = nI k ∧ MoIs v4 τ ∧ v4.1 42 27 = 0) ∨ (∃ k τ, posT T k < n ∧ sqT σ T k = some τ ∧ sqT σ T (k + 1) = none ∧ r2 = -2000 - nI (posT T k) ∧ MoIs v4 σ ∧ v4.1 42 27 = w.1 42 27)) := fun v9 h9 => by
      have hX : TxX v9 T n := ⟨hn, by rw [h9 42 (by decide)]; exact p2, fun k hk => by rw [h9 49 (by decide)]; exact hT49 k hk, hT8⟩
      obtain ⟨⟨l, v1⟩, m1, m2, m3⟩ := m_parse hX
      dsimp only at m2 m3
      rcases m3 with ⟨rfl, -, N, n1, n2, n3, n4⟩ | ⟨rfl, f, n1, -⟩
      · have c14 : ∀ f, f ≠ 15 → f ≠ 16 → f ≠ 14 → (upI v1 42 14 0).1 42 f = w.1 42 f := fun f h1 h2 h3 => by rw [upI_k _ _ _ _ h3, m2.2 f h1 h2, h9 42 (by decide)]
        have cO : ∀ i, 42 ≤ i → i ≠ 42 → i ≠ 50 → i ≠ 51 → i ≠ 52 → (upI v1 42 14 0).1 i = w.1 i := fun i h0 h1 h2 h3 h4 => by rw [upI_o _ _ _ _ h1, m2.1 i h1 h2 h3 h4, h9 i h0]
        have M1 : MoIs (upI v1 42 14 0) σ := by
          obtain ⟨t1, t2, t3, t4, t5, t6⟩ := h.o
          refine ⟨?_, ⟨?_, ?_, ?_, ?_⟩, ?_, ?_, ?_, ?_⟩
          · rw [cO 44 (by decide) (by decide) (by decide) (by decide) (by decide)]; exact t1
          · rw [c14 6 (by decide) (by decide) (by decide)]; exact t2.1
          · rw [c14 7 (by decide) (by decide) (by decide)]; exact t2.2.1
          · rw [c14 8 (by decide) (by decide) (by decide)]; exact t2.2.2.1
          · rw [c14 9 (by decide) (by decide) (by decide)]; exact t2.2.2.2
          · rw [cO 45 (by decide) (by decide) (by decide) (by decide) (by decide)]; exact t3
          · rw [cO 46 (by decide) (by decide) (by decide) (by decide) (by decide)]; exact t4
          · rw [cO 47 (by decide) (by decide) (by decide) (by decide) (by decide)]; exact t5
          · rw [cO 48 (by decide) (by decide) (by decide) (by decide) (by decide)]; exact t6
        obtain ⟨v2, s1, s2, s3, s4, s5, s6, s7, -⟩ := m_save1 M1
        have r16 : v2.1 42 16 = nI N := by rw [s7 16 (by decide) (by decide), upI_k _ _ _ _ (by decide)]; exact n3
        have rR : ∀ q, q < N → RcT T (posT T q) q v2 ∧ posT T q < n ∧ stT T (posT T q) = 0 := fun q hq => by
          obtain ⟨f1, f2, f3⟩ := n4 q hq
          refine ⟨f1.keep (k := N) hq (fun q _ => ?_) (fun q _ => ?_), f2, f3⟩
          · rw [s6 50 (by decide) (by decide), s6 51 (by decide) (by decide), upI_o _ _ _ _ (by decide), upI_o _ _ _ _ (by decide)]; exact ⟨rfl, rfl⟩
          · rw [s6 52 (by decide) (by decide), upI_o _ _ _ _ (by decide)]
        obtain ⟨⟨r2, v4⟩, w1, w2, w3⟩ := m_allCome s2 h.g h.m s3 hA n1 n2 r16 rR hn
        dsimp only at w2 w3
        have e10 : fX10_road v9 = some (r2, v4) := by
          unfold fX10_road fX10_road_j60
          rw [lt_e, lt_e, m1, bd_e, un2_e, lt_e, if_neg (show ¬ (1 : Int32) = 0 by decide), s1, bd_e, w1]
        have w2k : ∀ i k, mqP i k = false → ¬ (i = 42 ∧ k = 27) → v4.1 i k = v2.1 i k := fun i k hi hne => by
          have := w2 i k hi
          rw [upI_r, if_neg hne] at this
          exact this
        have w2r : ∀ i, mqA i = false → i ≠ 42 → i ≠ 53 → v4.1 i = v2.1 i := fun i hi h1 h2 => funext fun k => w2k i k (by unfold mqP; rw [hi]; simp [h1, h2]) (fun z => h1 z.1)
        refine ⟨r2, v4, e10, fun i hi => ?_, ?_, ⟨?_, ?_⟩, ⟨?_, ?_, ?_, ?_, ?_⟩, fun q hq => ?_, ?_⟩
        · rw [w2r i (by unfold mqA; simp; omega) (by omega) (by omega), s6 i (by omega) (by omega), upI_o _ _ _ _ (by omega), m2.1 i (by omega) (by omega) (by omega) (by omega)]
        · rw [w2k 42 14 rfl (by decide), s7 14 (by decide) (by decide), upI_s]
        · rw [w2k 42 18 rfl (by decide), s7 18 (by decide) (by decide), c14 18 (by decide) (by decide) (by decide)]
        · rw [w2k 42 41 rfl (by decide), s7 41 (by decide) (by decide), c14 41 (by decide) (by decide) (by decide)]
        · rw [w2r 43 rfl (by decide) (by decide), s6 43 (by decide) (by decide), cO 43 (by decide) (by decide) (by decide) (by decide) (by decide)]
        · rw [w2r 67 rfl (by decide) (by decide), s6 67 (by decide) (by decide), cO 67 (by decide) (by decide) (by decide) (by decide) (by decide)]
        · rw [w2r 56 rfl (by decide) (by decide), s6 56 (by decide) (by decide), cO 56 (by decide) (by decide) (by decide) (by decide) (by decide)]
        · rw [w2r 57 rfl (by decide) (by decide), s6 57 (by decide) (by decide), cO 57 (by decide) (by decide) (by decide) (by decide) (by decide)]
        · rw [w2r 58 rfl (by decide) (by decide), s6 58 (by decide) (by decide), cO 58 (by decide) (by decide) (by decide) (by decide) (by decide)]
        · rw [w2k 53 q (by unfold mqP mqA; simp; omega) (fun z => absurd z.1 (by decide)), s5 q hq, cO 53 (by decide) (by decide) (by decide) (by decide) (by decide)]
        · rcases w3 with ⟨τ, z1, z2, z3, z4⟩ | ⟨k, τ, z0, z1, z2, z3, z4, z5⟩
          · exact Or.inl ⟨N, τ, n2, z1, z2, z3, z4⟩
          · refine Or.inr ⟨k, τ, ?_, z1, z2, z3, z4, ?_⟩
            · have := posT_lt T z0; omega
            · rw [z5, s7 27 (by decide) (by decide), c14 27 (by decide) (by decide) (by decide)]
      · exact absurd n1 (fun z => hA.no z)
    rcases b2 with ⟨k, τ, c1', c2', c3', c4', c5', c6', c7'⟩ | ⟨k, τ, c1', c3', c4', c5', c6'⟩
    · subst c4'
      have k96 : ¬ nI k < (0 : Int32) := nI_pos (by omega)
      have e9 : fX9_road w = some (nI k, upI (upI v 5 0 0) 6 0 0) := by
        unfold fX9_road fX9_road_j24 fX9_road_j35 fX5_forget
        rw [a1, bd_e, if_pos rfl, b1, bd_e, un2_e, if_neg k96, lt_e, lt_e, lt_e]
      obtain ⟨r2, v4, d1, d2, d3, ⟨d4, d5⟩, ⟨d6, d7, d8, d9, d10⟩, d11, d12⟩ := ref (upI (upI v 5 0 0) 6 0 0) (fun i hi => by rw [upI_o _ _ _ _ (by omega), upI_o _ _ _ _ (by omega)]; exact k42 i hi)
      rcases d12 with ⟨k2, τ2, f1, f2, f3, f4, f5⟩ | ⟨k2, τ2, f1, f2, f3, f4, -⟩
      · have hk : k2 = k := by
          rcases Nat.lt_trichotomy k2 k with z | z | z
          · have := posT_lt T z; omega
          · exact z
          · have := posT_lt T z; omega
        subst hk
        have ht : τ2 = τ := by rw [f2] at c3'; exact Option.some.inj c3'
        subst ht
        refine ⟨nI k2, _, v4, τ2, e9, by rw [← f3]; exact d1, ?_⟩
        have cc : ∀ i, i < 42 → i ≠ 5 → i ≠ 6 → v4.1 i = v.1 i := fun i h1 h2 h3 => by rw [d2 i h1, upI_o _ _ _ _ h3, upI_o _ _ _ _ h2]
        refine h.mk4 c5' c6' (c7'.eq (cc _ (by decide) (by decide) (by decide)) (cc _ (by decide) (by decide) (by decide)) (cc _ (by decide) (by decide) (by decide)) (cc _ (by decide) (by decide) (by decide)) (cc _ (by decide) (by decide) (by decide))) f4 (Past0 ?_ f5) ?_ d3 (fun i hi => ?_) (fun f hf => ?_) d11
        · rw [d2 5 (by decide), upI_o _ _ _ _ (by decide), upI_s]
        · rw [d2 6 (by decide), upI_s]
        · simp only [Bool.or_eq_true, beq_iff_eq] at hi
          rcases hi with ((((((((((rfl | rfl) | rfl) | rfl) | rfl) | rfl) | rfl) | rfl) | rfl) | rfl) | rfl)
          · rw [cc 0 (by decide) (by decide) (by decide), kc 0 rfl]
          · rw [cc 2 (by decide) (by decide) (by decide), kc 2 rfl]
          · rw [cc 17 (by decide) (by decide) (by decide), kc 17 rfl]
          · rw [cc 18 (by decide) (by decide) (by decide), kc 18 rfl]
          · rw [cc 19 (by decide) (by decide) (by decide), kc 19 rfl]
          · rw [cc 20 (by decide) (by decide) (by decide), kc 20 rfl]
          · rw [cc 7 (by decide) (by decide) (by decide), kc 7 rfl]
          · rw [cc 12 (by decide) (by decide) (by decide), kc 12 rfl]
          · rw [cc 34 (by decide) (by decide) (by decide), kc 34 rfl]
          · exact d6
          · exact d7
        · simp only [Bool.or_eq_true, beq_iff_eq] at hf
          rcases hf with rfl | rfl
          · exact d4
          · exact d5
      · exfalso
        have hlt : k2 < k := by
          rcases Nat.lt_trichotomy k2 k with z | z | z
          · exact z
          · subst z; omega
          · have := posT_lt T z; omega
        have := sq_none σ T f3 (k - (k2 + 1))
        rw [show k2 + 1 + (k - (k2 + 1)) = k by omega, c3'] at this
        cases this
    · subst c5'
      have k96 := neg2 (posT T k) (by omega)
      have e9 : fX9_road w = some (-2000 - nI (posT T k), upI v 6 0 0) := by
        unfold fX9_road fX9_road_j24 fX9_road_j35
        rw [a1, bd_e, if_pos rfl, b1, bd_e, un2_e, if_pos k96, lt_e]
      obtain ⟨r2, v4, d1, d2, d3, ⟨d4, d5⟩, ⟨d6, d7, d8, d9, d10⟩, d11, d12⟩ := ref (upI v 6 0 0) (fun i hi => by rw [upI_o _ _ _ _ (by omega)]; exact k42 i hi)
      rcases d12 with ⟨k2, τ2, f1, f2, f3, f4, f5⟩ | ⟨k2, τ2, f1, f2, f3, f4, f5, f6⟩
      · exfalso
        have hlt : k < k2 := by
          rcases Nat.lt_trichotomy k k2 with z | z | z
          · exact z
          · subst z; omega
          · have := posT_lt T z; omega
        have := sq_none σ T c4' (k2 - (k + 1))
        rw [show k + 1 + (k2 - (k + 1)) = k2 by omega, f2] at this
        cases this
      · have hk : k2 = k := by
          rcases Nat.lt_trichotomy k2 k with z | z | z
          · exfalso
            have := sq_none σ T f3 (k - (k2 + 1))
            rw [show k2 + 1 + (k - (k2 + 1)) = k by omega, c3'] at this
            cases this
          · exact z
          · exfalso
            have := sq_none σ T c4' (k2 - (k + 1))
            rw [show k + 1 + (k2 - (k + 1)) = k2 by omega, f2] at this
            cases this
        subst hk
        refine ⟨_, _, v4, σ, e9, by rw [← f4]; exact d1, ?_⟩
        have cc : ∀ i, i < 42 → i ≠ 6 → v4.1 i = v.1 i := fun i h1 h3 => by rw [d2 i h1, upI_o _ _ _ _ h3]
        refine h.mk4 h.g h.m (c6'.eq (cc _ (by decide) (by decide)) (cc _ (by decide) (by decide)) (cc _ (by decide) (by decide)) (cc _ (by decide) (by decide)) (cc _ (by decide) (by decide))) f5 ?_ ?_ d3 (fun i hi => ?_) (fun f hf => ?_) d11
        · unfold PastR
          rw [cc 5 (by decide) (by decide), cc 30 (by decide) (by decide), cc 31 (by decide) (by decide), cc 32 (by decide) (by decide), kc 5 rfl, kc 30 rfl, kc 31 rfl, kc 32 rfl, f6, d8, d9, d10]
          exact h.pa
        · rw [d2 6 (by decide), upI_s]
        · simp only [Bool.or_eq_true, beq_iff_eq] at hi
          rcases hi with ((((((((((rfl | rfl) | rfl) | rfl) | rfl) | rfl) | rfl) | rfl) | rfl) | rfl) | rfl)
          · rw [cc 0 (by decide) (by decide), kc 0 rfl]
          · rw [cc 2 (by decide) (by decide), kc 2 rfl]
          · rw [cc 17 (by decide) (by decide), kc 17 rfl]
          · rw [cc 18 (by decide) (by decide), kc 18 rfl]
          · rw [cc 19 (by decide) (by decide), kc 19 rfl]
          · rw [cc 20 (by decide) (by decide), kc 20 rfl]
          · rw [cc 7 (by decide) (by decide), kc 7 rfl]
          · rw [cc 12 (by decide) (by decide), kc 12 rfl]
          · rw [cc 34 (by decide) (by decide), kc 34 rfl]
          · exact d6
          · exact d7
        · simp only [Bool.or_eq_true, beq_iff_eq] at hf
          rcases hf with rfl | rfl
          · exact d4
          · exact d5
  · have hf96 : f < 97 := by have := hF.1; omega
    obtain ⟨g1, g2⟩ := neg1 f hf96
    have e9 : fX9_road w = some (-1000 - nI f, upI w 6 0 0) := by
      unfold fX9_road fX9_road_j24 fX9_road_j35
      rw [a1, bd_e, if_neg g2, if_pos g1, lt_e]
    have hX : TxX (upI w 6 0 0) T n := ⟨hn, p2, fun k hk => hT49 k hk, hT8⟩
    obtain ⟨⟨l, v1⟩, m1, m2, m3⟩ := m_parse hX
    dsimp only at m2 m3
    rcases m3 with ⟨rfl, hA, -⟩ | ⟨rfl, f2, n1, n2⟩
    · exact absurd hF (fun z => hA.no z)
    · have hff : f2 = f := n1.one hF
      subst hff
      have cO : ∀ i, i ≠ 42 → i ≠ 50 → i ≠ 51 → i ≠ 52 → i ≠ 6 → (upI v1 42 14 0).1 i = w.1 i := fun i h1 h2 h3 h4 h5 => by rw [upI_o _ _ _ _ h1, m2.1 i h1 h2 h3 h4, upI_o _ _ _ _ h5]
      have c14 : ∀ f, f ≠ 15 → f ≠ 16 → f ≠ 14 → (upI v1 42 14 0).1 42 f = w.1 42 f := fun f h1 h2 h3 => by rw [upI_k _ _ _ _ h3, m2.2 f h1 h2, upI_o _ _ _ _ (by decide)]
      refine ⟨-1000 - nI f2, _, upI v1 42 14 0, σ, e9, ?_, ?_⟩
      · show fX10_road (upI w 6 0 0) = _
        unfold fX10_road fX10_road_j60
        rw [lt_e, lt_e, m1, bd_e, un2_e, lt_e, if_pos rfl, upI_k _ _ _ _ (by decide), n2]
      · have M1 : MoIs (upI v1 42 14 0) σ := by
          obtain ⟨t1, t2, t3, t4, t5, t6⟩ := h.o
          refine ⟨?_, ⟨?_, ?_, ?_, ?_⟩, ?_, ?_, ?_, ?_⟩
          · rw [cO 44 (by decide) (by decide) (by decide) (by decide) (by decide)]; exact t1
          · rw [c14 6 (by decide) (by decide) (by decide)]; exact t2.1
          · rw [c14 7 (by decide) (by decide) (by decide)]; exact t2.2.1
          · rw [c14 8 (by decide) (by decide) (by decide)]; exact t2.2.2.1
          · rw [c14 9 (by decide) (by decide) (by decide)]; exact t2.2.2.2
          · rw [cO 45 (by decide) (by decide) (by decide) (by decide) (by decide)]; exact t3
          · rw [cO 46 (by decide) (by decide) (by decide) (by decide) (by decide)]; exact t4
          · rw [cO 47 (by decide) (by decide) (by decide) (by decide) (by decide)]; exact t5
          · rw [cO 48 (by decide) (by decide) (by decide) (by decide) (by decide)]; exact t6
        have cc : ∀ i, (i != 42 && i != 50 && i != 51 && i != 52 && i != 6) = true → (upI v1 42 14 0).1 i = w.1 i := fun i hi => by
          simp only [Bool.and_eq_true, bne_iff_ne, ne_eq] at hi
          exact cO i hi.1.1.1.1 hi.1.1.1.2 hi.1.1.2 hi.1.2 hi.2
        refine h.mk4 h.g h.m (h.c.eq (cc _ rfl) (cc _ rfl) (cc _ rfl) (cc _ rfl) (cc _ rfl)) M1 ?_ ?_ (upI_s _ _ _ _) (fun i hi => ?_) (fun f hf => ?_) (fun q _ => by rw [cc 53 rfl])
        · unfold PastR
          rw [cc 5 rfl, cc 30 rfl, cc 31 rfl, cc 32 rfl, c14 27 (by decide) (by decide) (by decide), cc 56 rfl, cc 57 rfl, cc 58 rfl]
          exact h.pa
        · rw [upI_o _ _ _ _ (by decide), m2.1 6 (by decide) (by decide) (by decide) (by decide), upI_s]
        · simp only [Bool.or_eq_true, beq_iff_eq] at hi
          refine cO i ?_ ?_ ?_ ?_ ?_ <;> omega
        · simp only [Bool.or_eq_true, beq_iff_eq] at hf
          refine c14 f ?_ ?_ ?_ <;> omega
end

/-! game -/
def pG (σ : St) (k : Nat) : Nat := pop (dN (allS (wr σ 2 (k / 3)) (k % 3)))
def GS (σ : St) (n : Nat) (u : Wd) : Prop := (∃ f x, CoIs u 3 (wS (wr σ 2 f) x)) ∧ ∀ k, k < n → u.1 38 k = nI (pG σ k)
/-- the k-th of g is the most of its side and the fewest of its form -/
def restP (g : Nat → Nat) (k : Nat) : Prop := ∀ q, q < 3 → g (3 * q + k % 3) ≤ g k ∧ g k ≤ g (k / 3 * 3 + q)
def QG (g : Nat → Nat) (x : Int32) : Prop := (∃ k, k < 9 ∧ restP g k ∧ (∀ j, j < k → ¬ restP g j) ∧ x = nI (10 * (k / 3) + k % 3)) ∨ ((∀ k, k < 9 → ¬ restP g k) ∧ x = -9)
def few (g : Nat → Nat) (f : Nat) : Nat := min (g (3 * f)) (min (g (3 * f + 1)) (g (3 * f + 2)))
def mst (g : Nat → Nat) (s : Nat) : Nat := max (g s) (max (g (s + 3)) (g (s + 6)))
def op2 (t : Bool) (a b : Nat) : Nat := if t then max a b else min a b
def fo (t : Bool) (n : Nat → Nat) : Nat → Nat
  | 0 => n 0
  | b + 1 => op2 t (fo t n b) (n (b + 1))
section
variable {w w1 w2 : Wd} {σ τ : St} {b : Nat} {u : Nat → Nat} {g : Nat → Nat}
theorem QG.one {x y : Int32} (h : QG g x) (h2 : QG g y) : x = y := by
  rcases h with ⟨k, a1, a2, a3, a4⟩ | ⟨a1, a2⟩
  · rcases h2 with ⟨j, b1, b2, b3, b4⟩ | ⟨b1, b2⟩
    · have : k = j := by
        rcases Nat.lt_trichotomy k j with h | h | h
        · exact absurd a2 (b3 k h)
        · exact h
        · exact absurd b2 (a3 j h)
      subst this
      rw [a4, b4]
    · exact absurd a2 (b1 k a1)
  · rcases h2 with ⟨j, b1, b2, b3, b4⟩ | ⟨b1, b2⟩
    · exact absurd b2 (a1 j b1)
    · rw [a2, b2]
theorem wr_id (σ : St) (k : Nat) : wr σ k (σ.1 k) = σ := by
  unfold wr
  refine Prod.ext (funext fun j => ?_) rfl
  dsimp only
  by_cases h : j = k
  · subst h; rw [if_pos rfl]
  · rw [if_neg h]
theorem good_G (hg : good σ) {f s : Nat} (hf : f < 3) (hs : s < 3) : good (allS (wr σ 2 f) s) := good_allS (good.F2 hg hf) hs
theorem pG_e (σ : St) {f s : Nat} (hs : s < 3) : pG σ (3 * f + s) = pop (dN (allS (wr σ 2 f) s)) := by
  unfold pG
  rw [show (3 * f + s) / 3 = f by omega, show (3 * f + s) % 3 = s by omega]
theorem pG_le (hg : good σ) {k : Nat} (hk : k < 9) : pG σ k ≤ 8 := pop8 (dN_lt (good_G hg (by omega) (by omega)))
theorem wS_F (σ : St) (f f2 : Nat) (x : Nat → Nat) : wr (wS (wr σ 2 f) x) 2 f2 = wS (wr σ 2 f2) x := by
  show wS (wr (wr σ 2 f) 2 f2) x = _
  rw [wr_wr]
theorem c_fillIn (hg : good σ) {f : Nat} (hf : f < 3) {u : Wd} (h : GS σ (3 * f) u) : ∃ u1, iter (fun s : Int32 × Wd => fX1_fillGame_b20 (nI f) s.1 s.2) FU (0, u) = some u1 ∧ GS σ (3 * (f + 1)) u1 := by
  refine itn (fun s v => v.1 = nI s ∧ GS σ (3 * f + s) v.2) _ 3 ⟨rfl, h⟩ ?_ ?_ (by omega)
  · rintro s ⟨x, v⟩ hs ⟨e1, ⟨f0, xs, e2⟩, e3⟩
    dsimp only at e1 e2 e3
    subst e1
    have h1 := (e2.wr co3 2 f)
    rw [wS_F] at h1
    obtain ⟨v1, b1, b2⟩ := c_blow h1 s
    have gb := good_G hg hf hs
    obtain ⟨v2, d1, d2⟩ := c_countOf co3 b2 gb
    have k38 : v2.1 38 = v.1 38 := by rw [d2 38 (by decide), ((rX2_blowFrom b1).cell 38 (by decide)).1, upI_o _ _ _ _ (by decide)]
    refine ⟨(nI (s + 1), upI v2 38 (3 * f + s) (nI (pop (dN (allS (wr σ 2 f) s))))), ?_, rfl, ⟨f, _, (d2.co co3 b2).far co3 (Or.inr (Or.inr (by decide))) _ _⟩, fun k hk => ?_⟩
    · show fX1_fillGame_b20 _ _ _ = _
      unfold fX1_fillGame_b20
      rw [if_neg (by rw [c2, n_lt (by decide) (by omega)]; omega), lt_e, b1, bd_e, d1, bd_e, un2_e, c3, n_mul, n_add, gdn (by omega) (by decide), n_cl (by omega), lt_e, nI_1, lt_e]
    · dsimp only
      by_cases d : k = 3 * f + s
      · subst d
        rw [upI_s, pG_e σ hs]
      · rw [upI_k _ _ _ _ d, k38]
        exact e3 k (by omega)
  · rintro ⟨x, v⟩ ⟨e1, e2⟩
    dsimp only at e1 e2
    subst e1
    refine ⟨v, ?_, e2⟩
    show fX1_fillGame_b20 _ _ _ = _
    unfold fX1_fillGame_b20
    rw [if_pos (show (2 : Int32) < nI 3 by decide)]
theorem c_fillGame (hC : CoIs w 1 σ) (hg : good σ) : ∃ w1, fX1_fillGame w = some w1 ∧ ∀ k, k < 9 → w1.1 38 k = nI (pG σ k) := by
  unfold fX1_fillGame
  rw [lt_e]
  have h0 : CoIs (fX2_takeFrom 3 1 w) 3 σ := c_take co3 co1 (by decide) hC
  have e0 : σ = wS (wr σ 2 (sF σ)) (sS σ) := (wr_id σ 2).symm
  rw [e0] at h0
  refine itnb (fun f v => v.1 = nI f ∧ GS σ (3 * f) v.2) (fun x => GS σ 9 x) 3 ⟨rfl, ⟨_, _, h0⟩, fun k hk => absurd hk (Nat.not_lt_zero _)⟩ ?_ ?_ (by decide) (fun x hx => ⟨x, rfl, hx.2⟩)
  · rintro f ⟨x, v⟩ hf ⟨e1, e2⟩
    dsimp only at e1 e2
    subst e1
    obtain ⟨v1, b1, b2⟩ := c_fillIn hg hf e2
    refine ⟨(nI (f + 1), v1), ?_, rfl, b2⟩
    show fX1_fillGame_b13 _ _ = _
    unfold fX1_fillGame_b13
    rw [if_neg (by rw [c2, n_lt (by decide) (by omega)]; omega), b1, bd_e, nI_1, lt_e]
  · rintro ⟨x, v⟩ ⟨e1, e2⟩
    dsimp only at e1 e2
    subst e1
    refine ⟨v, ?_, e2⟩
    show fX1_fillGame_b13 _ _ = _
    unfold fX1_fillGame_b13
    rw [if_pos (show (2 : Int32) < nI 3 by decide)]
theorem c_few (hw : ∀ k, k < 9 → w.1 38 k = nI (g k)) (h8 : ∀ k, k < 9 → g k ≤ 8) {f : Nat} (hf : f < 3) : fX1_fewestOfForm w (nI f) = some (nI (few g f)) := by
  have a0 := h8 (3 * f) (by omega)
  have a1 := h8 (3 * f + 1) (by omega)
  have a2 := h8 (3 * f + 2) (by omega)
  unfold fX1_fewestOfForm few
  rw [c3, n_mul, lt_e, gdn (by omega) (by decide), nI_1, gdn (by omega) (by decide), c2, n_add, gdn (by omega) (by decide), n_cl (by omega), n_cl (by omega), n_cl (by omega), hw _ (by omega), hw _ (by omega), hw _ (by omega), n_min (by omega) (by omega), n_min (by omega) (by omega)]
theorem c_mst (hw : ∀ k, k < 9 → w.1 38 k = nI (g k)) (h8 : ∀ k, k < 9 → g k ≤ 8) {f : Nat} (hf : f < 3) : fX1_mostOfSide w (nI f) = some (nI (mst g f)) := by
  have a0 := h8 f (by omega)
  have a1 := h8 (f + 3) (by omega)
  have a2 := h8 (f + 6) (by omega)
  unfold fX1_mostOfSide mst
  rw [gdn (by omega) (by decide), c3, n_add, gdn (by omega) (by decide), c6, n_add, gdn (by omega) (by decide), n_cl (by omega), n_cl (by omega), n_cl (by omega), hw _ (by omega), hw _ (by omega), hw _ (by omega), n_max (by omega) (by omega), n_max (by omega) (by omega)]
theorem few_le (h8 : ∀ k, k < 9 → g k ≤ 8) {f : Nat} (hf : f < 3) : few g f ≤ 8 := by
  have a0 := h8 (3 * f) (by omega)
  unfold few
  omega
theorem mst_le (h8 : ∀ k, k < 9 → g k ≤ 8) {f : Nat} (hf : f < 3) : mst g f ≤ 8 := by
  have a0 := h8 f (by omega)
  have a1 := h8 (f + 3) (by omega)
  have a2 := h8 (f + 6) (by omega)
  unfold mst
  omega
theorem rest_iff {f s : Nat} (hf : f < 3) (hs : s < 3) : restP g (3 * f + s) ↔ (g (3 * f + s) = few g f ∧ g (3 * f + s) = mst g s) := by
  have d1 : (3 * f + s) % 3 = s := by omega
  have d2 : (3 * f + s) / 3 * 3 = 3 * f := by omega
  unfold restP few mst
  rw [d1, d2]
  constructor
  · intro h
    obtain ⟨a0, b0⟩ := h 0 (by decide)
    obtain ⟨a1, b1⟩ := h 1 (by decide)
    obtain ⟨a2, b2⟩ := h 2 (by decide)
    rw [show 3 * 0 + s = s by omega] at a0
    rw [show 3 * 1 + s = s + 3 by omega] at a1
    rw [show 3 * 2 + s = s + 6 by omega] at a2
    rw [show 3 * f + 0 = 3 * f by omega] at b0
    have kf : g (3 * f + s) = g (3 * f) ∨ g (3 * f + s) = g (3 * f + 1) ∨ g (3 * f + s) = g (3 * f + 2) := by
      rcases (by omega : s = 0 ∨ s = 1 ∨ s = 2) with rfl | rfl | rfl
      · exact Or.inl rfl
      · exact Or.inr (Or.inl rfl)
      · exact Or.inr (Or.inr rfl)
    have ks : g (3 * f + s) = g s ∨ g (3 * f + s) = g (s + 3) ∨ g (3 * f + s) = g (s + 6) := by
      rcases (by omega : f = 0 ∨ f = 1 ∨ f = 2) with rfl | rfl | rfl
      · rw [show 3 * 0 + s = s by omega]; exact Or.inl rfl
      · rw [show 3 * 1 + s = s + 3 by omega]; exact Or.inr (Or.inl rfl)
      · rw [show 3 * 2 + s = s + 6 by omega]; exact Or.inr (Or.inr rfl)
    omega
  · rintro ⟨h1, h2⟩ q hq
    rcases (by omega : q = 0 ∨ q = 1 ∨ q = 2) with rfl | rfl | rfl
    · rw [show 3 * 0 + s = s by omega, show 3 * f + 0 = 3 * f by omega]; omega
    · rw [show 3 * 1 + s = s + 3 by omega]; omega
    · rw [show 3 * 2 + s = s + 6 by omega]; omega
theorem c_steady (hw : ∀ k, k < 9 → w.1 38 k = nI (g k)) (h8 : ∀ k, k < 9 → g k ≤ 8) : ∃ x, fX1_steadyPair w = some x ∧ QG g x := by
  unfold fX1_steadyPair
  refine it (fun f s => s = nI f ∧ ∀ k, k < 3 * f → ¬ restP g k) _ 3 ⟨rfl, fun k hk => absurd hk (Nat.not_lt_zero _)⟩ ?_ ?_ (by decide)
  · rintro f s hf ⟨e1, e2⟩
    subst e1
    have inner : ∃ y, iter (fun s : Int32 => fX1_steadyPair_b9 (nI f) w s) FU (0 : Int32) = some y ∧ ((y = .inl (nI (f + 1)) ∧ ∀ k, k < 3 * (f + 1) → ¬ restP g k) ∨ ∃ x, y = .inr x ∧ QG g x) := by
      refine it (fun t s => s = nI t ∧ ∀ k, k < 3 * f + t → ¬ restP g k) _ 3 ⟨rfl, e2⟩ ?_ ?_ (by decide)
      · rintro t s ht ⟨e3, e4⟩
        subst e3
        have hk8 := h8 (3 * f + t) (by omega)
        have hf8 := few_le h8 hf
        have hm8 := mst_le h8 ht
        have ri := rest_iff (g := g) hf ht
        have st : ¬ restP g (3 * f + t) → ∀ k, k < 3 * f + (t + 1) → ¬ restP g k := fun hn k hk => by
          by_cases d : k = 3 * f + t
          · subst d; exact hn
          · exact e4 k (by omega)
        by_cases c1 : g (3 * f + t) = few g f
        · by_cases c2 : g (3 * f + t) = mst g t
          · refine Or.inr ⟨.inr (nI (10 * f + t)), ?_, Or.inr ⟨_, rfl, Or.inl ⟨3 * f + t, by omega, ri.mpr ⟨c1, c2⟩, e4, ?_⟩⟩⟩
            · show fX1_steadyPair_b9 _ _ _ = _
              unfold fX1_steadyPair_b9
              rw [if_neg (by rw [show (2 : Int32) = nI 2 from rfl, n_lt (by decide) (by omega)]; omega), c3, n_mul, n_add, gdn (by omega) (by decide), n_cl (by omega), hw _ (by omega), lt_e, c_few hw h8 hf, bd_e, if_pos (by rw [c1]), c_mst hw h8 ht, bd_e, if_pos (by rw [c2]), c10m]
            · rw [show (3 * f + t) / 3 = f by omega, show (3 * f + t) % 3 = t by omega]
          · refine Or.inl ⟨nI (t + 1), ?_, rfl, st (fun h => c2 (ri.mp h).2)⟩
            show fX1_steadyPair_b9 _ _ _ = _
            unfold fX1_steadyPair_b9
            rw [if_neg (by rw [show (2 : Int32) = nI 2 from rfl, n_lt (by decide) (by omega)]; omega), c3, n_mul, n_add, gdn (by omega) (by decide), n_cl (by omega), hw _ (by omega), lt_e, c_few hw h8 hf, bd_e, if_pos (by rw [c1]), c_mst hw h8 ht, bd_e, if_neg (by rw [n_eq (by omega) (by omega)]; exact c2), nI_1, lt_e]
        · refine Or.inl ⟨nI (t + 1), ?_, rfl, st (fun h => c1 (ri.mp h).1)⟩
          show fX1_steadyPair_b9 _ _ _ = _
          unfold fX1_steadyPair_b9
          rw [if_neg (by rw [show (2 : Int32) = nI 2 from rfl, n_lt (by decide) (by omega)]; omega), c3, n_mul, n_add, gdn (by omega) (by decide), n_cl (by omega), hw _ (by omega), lt_e, c_few hw h8 hf, bd_e, if_neg (by rw [n_eq (by omega) (by omega)]; exact c1), nI_1, lt_e]
      · rintro s ⟨e3, e4⟩
        subst e3
        refine ⟨.inl (nI (f + 1)), ?_, Or.inl ⟨rfl, e4⟩⟩
        show fX1_steadyPair_b9 _ _ _ = _
        unfold fX1_steadyPair_b9
        rw [if_pos (show (2 : Int32) < nI 3 by decide), nI_1, lt_e]
    obtain ⟨y, i1, i2⟩ := inner
    have e9 : fX1_steadyPair_b2 w (nI f) = some y := by
      unfold fX1_steadyPair_b2
      rw [if_neg (by rw [c2, n_lt (by decide) (by omega)]; omega), i1]
    rcases i2 with ⟨i3, i4⟩ | ⟨x, i3, i4⟩
    · exact Or.inl ⟨nI (f + 1), by rw [e9, i3], rfl, i4⟩
    · exact Or.inr ⟨x, by rw [e9, i3], i4⟩
  · rintro s ⟨e1, e2⟩
    subst e1
    refine ⟨-9, ?_, Or.inr ⟨e2, rfl⟩⟩
    show fX1_steadyPair_b2 _ _ = _
    unfold fX1_steadyPair_b2
    rw [if_pos (show (2 : Int32) < nI 3 by decide)]
-- the reference
theorem m_blowG {x : Nat → Nat} (hM : MoIs w (wS σ x)) {k : Nat} (hk : k < 9) : ∃ w1, iter (fun u : Int32 × Wd => fX10_findGame_b25 (nI k) u.1 u.2) FU (0, w) = some w1 ∧ MoIs w1 (allS σ (k % 3)) ∧ ∀ i, i ≠ 48 → w1.1 i = w.1 i := by
  refine itn (fun n u => u.1 = nI n ∧ (∀ i, i ≠ 48 → u.2.1 i = w.1 i) ∧ ∀ j, j < n → u.2.1 48 j = nI (k % 3)) (fun y => MoIs y (allS σ (k % 3)) ∧ ∀ i, i ≠ 48 → y.1 i = w.1 i) 25 ⟨rfl, fun _ _ => rfl, fun k hk => absurd hk (Nat.not_lt_zero _)⟩ ?_ ?_ (by decide)
  · rintro n ⟨y, u⟩ hn ⟨e1, e2, e3⟩
    dsimp only at e1 e2 e3
    subst e1
    refine ⟨(nI (n + 1), upI u 48 n (nI (k % 3))), ?_, rfl, fun i hi => (upI_o _ _ _ _ hi).trans (e2 i hi), fun j hj => ?_⟩
    · show fX10_findGame_b25 _ _ _ = _
      unfold fX10_findGame_b25
      rw [if_neg (by rw [show (25 : Int32) = nI 25 from rfl, n_le (by decide) (by omega)]; omega), gdn hn (by decide), n_cl (by omega), c3, n_rem (by omega) (by decide) (by decide), lt_e, nI_1, lt_e]
    · by_cases d : j = n
      · subst d; exact upI_s _ 48 _ _
      · exact (upI_k _ 48 _ _ d).trans (e3 j (by omega))
  · rintro ⟨y, u⟩ ⟨e1, e2, e3⟩
    dsimp only at e1 e2 e3
    subst e1
    obtain ⟨t1, t2, t3, t4, t5, t6⟩ := hM
    refine ⟨u, ?_, ⟨?_, ?_, ?_, ?_, ?_, fun j hj => ?_⟩, e2⟩
    · show fX10_findGame_b25 _ _ _ = _
      unfold fX10_findGame_b25
      rw [if_pos (show (25 : Int32) ≤ nI 25 by decide)]
    · rw [e2 44 (by decide)]; exact t1
    · rw [e2 42 (by decide)]; exact t2
    · rw [e2 45 (by decide)]; exact t3
    · rw [e2 46 (by decide)]; exact t4
    · rw [e2 47 (by decide)]; exact t5
    · rw [e3 j hj]
      show _ = nI (if j < 25 then k % 3 else _)
      rw [if_pos hj]
theorem m_findGame (hM : MoIs w σ) (hg : good σ) (hm : sM σ ≤ 1200) : ∃ w1, fX10_findGame w = some w1 ∧ MoIs w1 σ ∧ Mq w w1 ∧ ∀ k, k < 9 → w1.1 65 k = nI (pG σ k) := by
  obtain ⟨v, a1, a2, a3, a4, a5, -⟩ := m_save1 hM
  unfold fX10_findGame
  rw [a1, bd_e]
  have e0 : σ = wS (wr σ 2 (sF σ)) (sS σ) := (wr_id σ 2).symm
  have main : ∃ x, iter (fun s : Int32 × Wd => fX10_findGame_b8 s.1 s.2) FU (0, v) = some x ∧ Kept x 1 σ ∧ Mq w x ∧ ∀ k, k < 9 → x.1 65 k = nI (pG σ k) := by
    refine itn (fun n s => s.1 = nI n ∧ (∃ f x, MoIs s.2 (wS (wr σ 2 f) x)) ∧ Kept s.2 1 σ ∧ Mq w s.2 ∧ ∀ k, k < n → s.2.1 65 k = nI (pG σ k)) _ 9 ⟨rfl, ⟨sF σ, sS σ, by rw [← e0]; exact a2⟩, a3, a4, fun k hk => absurd hk (Nat.not_lt_zero _)⟩ ?_ ?_ (by omega)
    · rintro n ⟨x, u⟩ hn ⟨e1, ⟨f0, xs, e2⟩, e3, e4, e5⟩
      dsimp only at e1 e2 e3 e4 e5
      subst e1
      have h1 := e2.wF (n / 3)
      rw [wS_F] at h1
      obtain ⟨u1, b1, b2, b3⟩ := m_blowG h1 hn
      have gb := good_G hg (f := n / 3) (s := n % 3) (by omega) (by omega)
      obtain ⟨u2, d1, d2, d3, d4⟩ := m_door b2 gb hm
      have hd := dN_lt gb
      have k65 : u2.1 65 = u.1 65 := by rw [((rX10_atDoor d1).cell 65 (by decide)).1, b3 65 (by decide), upI_o _ _ _ _ (by decide)]
      have q1 : Mq u (upI u 44 0 (nI (n / 3))) := Mq.one (i := 44) (by decide) fun j hj => upI_o _ _ _ _ hj
      have q2 : Mq (upI u 44 0 (nI (n / 3))) u1 := Mq.one (i := 48) (by decide) b3
      have q3 : Mq u2 (upI u2 65 n (nI (pG σ n))) := Mq.one (i := 65) (by decide) fun j hj => upI_o _ _ _ _ hj
      have kk : Kept u2 1 σ := (e3.keep fun q _ _ => by rw [b3 53 (by decide), upI_o _ _ _ _ (by decide)] : Kept u1 1 σ).kk d3 (by decide)
      refine ⟨(nI (n + 1), upI u2 65 n (nI (pG σ n))), ?_, rfl, ⟨n / 3, _, d2.keep (l := [all_ 65]) (Agree.rf.pI rfl (Or.inr (List.mem_singleton.mpr rfl))) (by decide)⟩, kk.keep fun q _ _ => by rw [upI_o _ _ _ _ (by decide)], (((e4.tr q1).tr q2).tr d4).tr q3, fun k hk => ?_⟩
      · show fX10_findGame_b8 _ _ = _
        unfold fX10_findGame_b8
        rw [if_neg (by rw [c9, n_le (by decide) (by omega)]; omega), c3, n_div (by omega) (by decide) (by decide), lt_e, b1, bd_e, d1, bd_e, un2_e, show fX10_bits (nI (door (allS (wr σ 2 (n / 3)) (n % 3)) (sL (allS (wr σ 2 (n / 3)) (n % 3))))) = some (nI (pG σ n)) from pop_m _ hd, bd_e, gdn (by omega) (by decide), n_cl (by omega), lt_e, nI_1, lt_e]
      · dsimp only
        by_cases d : k = n
        · subst d; rw [upI_s]
        · rw [upI_k _ _ _ _ d, k65]; exact e5 k (by omega)
    · rintro ⟨x, u⟩ ⟨e1, e2, e3, e4, e5⟩
      dsimp only at e1 e2 e3 e4 e5
      subst e1
      refine ⟨u, ?_, e3, e4, e5⟩
      show fX10_findGame_b8 _ _ = _
      unfold fX10_findGame_b8
      rw [if_pos (show (9 : Int32) ≤ nI 9 by decide)]
  obtain ⟨x, m1, m2, m3, m4⟩ := main
  obtain ⟨v2, f1, f2, f3, f4, -⟩ := m_rest1 m2
  refine ⟨v2, ?_, f2, m3.tr f3, fun k hk => ?_⟩
  · rw [m1, bd_e, f1, bd_e]
  · rw [f4 65 (by decide)]; exact m4 k hk
theorem m_rests (hw : ∀ k, k < 9 → w.1 65 k = nI (g k)) (h8 : ∀ k, k < 9 → g k ≤ 8) {k : Nat} (hk : k < 9) : ∃ x, fX10_rests w (nI k) = some x ∧ ((x = 1 ∧ restP g k) ∨ (x = 0 ∧ ¬ restP g k)) := by
  have hk8 := h8 k hk
  unfold fX10_rests
  refine it (fun q s => s = nI q ∧ ∀ j, j < q → g (3 * j + k % 3) ≤ g k ∧ g k ≤ g (k / 3 * 3 + j)) _ 3 ⟨rfl, fun k hk => absurd hk (Nat.not_lt_zero _)⟩ ?_ ?_ (by decide)
  · rintro q s hq ⟨e1, e2⟩
    subst e1
    have a1 := h8 (3 * q + k % 3) (by omega)
    have a2 := h8 (k / 3 * 3 + q) (by omega)
    by_cases c1 : g k < g (3 * q + k % 3)
    · refine Or.inr ⟨0, ?_, Or.inr ⟨rfl, fun h => by have := (h q hq).1; omega⟩⟩
      show fX10_rests_b2 _ _ _ = _
      unfold fX10_rests_b2
      rw [if_neg (by rw [c3, n_le (by decide) (by omega)]; omega), c3, n_mul, n_rem (by omega) (by decide) (by decide), n_add, gdn (by omega) (by decide), gdn hk (by decide), n_cl (by omega), n_cl (by omega), hw _ (by omega), hw _ (by omega), if_pos (by rw [n_lt (by omega) (by omega)]; exact c1)]
    · by_cases c2' : g k ≤ g (k / 3 * 3 + q)
      · refine Or.inl ⟨nI (q + 1), ?_, rfl, fun j hj => ?_⟩
        · show fX10_rests_b2 _ _ _ = _
          unfold fX10_rests_b2
          rw [if_neg (by rw [c3, n_le (by decide) (by omega)]; omega), c3, n_mul, n_rem (by omega) (by decide) (by decide), n_add, gdn (by omega) (by decide), gdn hk (by decide), n_cl (by omega), n_cl (by omega), hw _ (by omega), hw _ (by omega), if_neg (by rw [n_lt (by omega) (by omega)]; exact c1), n_div (by omega) (by decide) (by decide), n_mul, n_add, gdn (by omega) (by decide), n_cl (by omega), hw _ (by omega), if_pos (by rw [n_le (by omega) (by omega)]; exact c2'), nI_1, lt_e]
        · by_cases d : j = q
          · subst d; exact ⟨by omega, c2'⟩
          · exact e2 j (by omega)
      · refine Or.inr ⟨0, ?_, Or.inr ⟨rfl, fun h => c2' (h q hq).2⟩⟩
        show fX10_rests_b2 _ _ _ = _
        unfold fX10_rests_b2
        rw [if_neg (by rw [c3, n_le (by decide) (by omega)]; omega), c3, n_mul, n_rem (by omega) (by decide) (by decide), n_add, gdn (by omega) (by decide), gdn hk (by decide), n_cl (by omega), n_cl (by omega), hw _ (by omega), hw _ (by omega), if_neg (by rw [n_lt (by omega) (by omega)]; exact c1), n_div (by omega) (by decide) (by decide), n_mul, n_add, gdn (by omega) (by decide), n_cl (by omega), hw _ (by omega), if_neg (by rw [n_le (by omega) (by omega)]; exact c2')]
  · rintro s ⟨e1, e2⟩
    subst e1
    refine ⟨1, ?_, Or.inl ⟨rfl, e2⟩⟩
    show fX10_rests_b2 _ _ _ = _
    unfold fX10_rests_b2
    rw [if_pos (show (3 : Int32) ≤ nI 3 by decide)]
theorem m_first (hw : ∀ k, k < 9 → w.1 65 k = nI (g k)) (h8 : ∀ k, k < 9 → g k ≤ 8) : ∃ x, iter (fun s : Int32 => fX10_game_b41 w s) FU (0 : Int32) = some x ∧ QG g x.1 ∧ x.2 = w := by
  refine it (fun k s => s = nI k ∧ ∀ j, j < k → ¬ restP g j) _ 9 ⟨rfl, fun k hk => absurd hk (Nat.not_lt_zero _)⟩ ?_ ?_ (by decide)
  · rintro k s hk ⟨e1, e2⟩
    subst e1
    obtain ⟨x, r1, r2⟩ := m_rests hw h8 hk
    rcases r2 with ⟨rfl, r3⟩ | ⟨rfl, r3⟩
    · refine Or.inr ⟨(nI (10 * (k / 3) + k % 3), w), ?_, Or.inl ⟨k, hk, r3, e2, rfl⟩, rfl⟩
      show fX10_game_b41 _ _ = _
      unfold fX10_game_b41
      rw [if_neg (by rw [c9, n_le (by decide) (by omega)]; omega), r1, bd_e, if_neg (by decide), c3, n_div (by omega) (by decide) (by decide), n_rem (by omega) (by decide) (by decide), c10m]
    · refine Or.inl ⟨nI (k + 1), ?_, rfl, fun j hj => ?_⟩
      · show fX10_game_b41 _ _ = _
        unfold fX10_game_b41
        rw [if_neg (by rw [c9, n_le (by decide) (by omega)]; omega), r1, bd_e, if_pos rfl, nI_1, lt_e]
      · by_cases d : j = k
        · subst d; exact r3
        · exact e2 j (by omega)
  · rintro s ⟨e1, e2⟩
    subst e1
    refine ⟨(-9, w), ?_, Or.inr ⟨e2, rfl⟩, rfl⟩
    show fX10_game_b41 _ _ = _
    unfold fX10_game_b41
    rw [if_pos (show (9 : Int32) ≤ nI 9 by decide)]
theorem op2t (a c : Nat) : op2 true a c = max a c := by unfold op2; rw [if_pos rfl]
theorem op2f (a c : Nat) : op2 false a c = min a c := by unfold op2; rw [if_neg (show ¬ (false = true) by decide)]
theorem imax {x y : Nat} (hx : x < 2 ^ 31) (hy : y < 2 ^ 31) : (if nI x ≤ nI y then nI y else nI x) = nI (op2 true y x) := by
  rw [op2t]
  by_cases c : x ≤ y
  · rw [if_pos (by rw [n_le hx hy]; exact c), Nat.max_eq_left c]
  · rw [if_neg (by rw [n_le hx hy]; exact c), Nat.max_eq_right (by omega)]
theorem imin {x y : Nat} (hx : x < 2 ^ 31) (hy : y < 2 ^ 31) : (if nI y ≤ nI x then nI y else nI x) = nI (op2 false y x) := by
  rw [op2f]
  by_cases c : y ≤ x
  · rw [if_pos (by rw [n_le hy hx]; exact c), Nat.min_eq_left c]
  · rw [if_neg (by rw [n_le hy hx]; exact c), Nat.min_eq_right (by omega)]
theorem op2_le {t : Bool} {a c : Nat} (ha : a ≤ 8) (hc : c ≤ 8) : op2 t a c ≤ 8 := by
  unfold op2
  split <;> omega
theorem fo_le {t : Bool} {n : Nat → Nat} : ∀ b, (∀ c, c ≤ b → n c ≤ 8) → fo t n b ≤ 8
  | 0, h => h 0 (Nat.le_refl _)
  | b + 1, h => op2_le (fo_le b fun c hc => h c (by omega)) (h (b + 1) (Nat.le_refl _))
def ix (t : Bool) (a c : Nat) : Nat := if t then 3 * c + a else 3 * a + c
theorem m_sureIn (hw : ∀ k, k < 9 → w.1 65 k = nI (g k)) (h8 : ∀ k, k < 9 → g k ≤ 8) {a : Nat} (ha : a < 3) (z : Int32) (t : Bool) (hz : (z = 0 ∧ t = true) ∨ (z = 1 ∧ t = false)) : iter (fun s : Int32 × Int32 => fX10_sureBy_b17 z (nI a) w s.1 s.2) FU ((-9), 0) = some (nI (fo t (fun c => g (ix t a c)) 2)) := by
  have hix : ∀ c, c < 3 → ix t a c < 9 := fun c hc => by unfold ix; split <;> omega
  have main : ∃ x, iter (fun s : Int32 × Int32 => fX10_sureBy_b17 z (nI a) w s.1 s.2) FU ((-9), 0) = some x ∧ x = nI (fo t (fun c => g (ix t a c)) 2) := by
    refine itn (fun n s => s.2 = nI n ∧ ((n = 0 ∧ s.1 = -9) ∨ ∃ c, n = c + 1 ∧ s.1 = nI (fo t (fun c => g (ix t a c)) c))) _ 3 ⟨rfl, Or.inl ⟨rfl, rfl⟩⟩ ?_ ?_ (by decide)
    · rintro n ⟨x, y⟩ hn ⟨e1, e2⟩
      dsimp only at e1 e2
      subst e1
      have hv := hix n hn
      have hg8 := h8 (ix t a n) hv
      have hidx : (if z = 0 then (3 : Int32) * nI n + nI a else 3 * nI a + nI n) = nI (ix t a n) := by
        unfold ix
        rcases hz with ⟨rfl, rfl⟩ | ⟨rfl, rfl⟩
        · rw [if_pos rfl, if_pos rfl, c3, n_mul, n_add]
        · rw [if_neg (by decide), if_neg (by decide), c3, n_mul, n_add]
      have pre : ∀ l : Int32, fX10_sureBy_b17 z (nI a) w l (nI n) = some (.inl ((if l < 0 then nI (g (ix t a n)) else if z = 0 then (if nI (g (ix t a n)) ≤ l then l else nI (g (ix t a n))) else if l ≤ nI (g (ix t a n)) then l else nI (g (ix t a n))), nI (n + 1))) := fun l => by
        unfold fX10_sureBy_b17
        rw [if_neg (by rw [c3, n_le (by decide) (by omega)]; omega), hidx, lt_e, gdn hv (by decide), n_cl (by omega), hw _ hv, lt_e, lt_e, nI_1, lt_e]
      rcases e2 with ⟨z1, z2⟩ | ⟨c, z1, z2⟩
      · subst z1; subst z2
        refine ⟨(nI (g (ix t a 0)), nI (0 + 1)), ?_, rfl, Or.inr ⟨0, rfl, rfl⟩⟩
        show fX10_sureBy_b17 _ _ _ _ _ = _
        rw [pre, if_pos (show (-9 : Int32) < 0 by decide)]
      · subst z1; subst z2
        have hf8 := fo_le (t := t) (n := fun c => g (ix t a c)) c (fun d hd => h8 _ (hix d (by omega)))
        refine ⟨(nI (fo t (fun c => g (ix t a c)) (c + 1)), nI (c + 1 + 1)), ?_, rfl, Or.inr ⟨c + 1, rfl, rfl⟩⟩
        show fX10_sureBy_b17 _ _ _ _ _ = _
        rw [pre, if_neg (nI_pos (by omega))]
        have e : fo t (fun c => g (ix t a c)) (c + 1) = op2 t (fo t (fun c => g (ix t a c)) c) (g (ix t a (c + 1))) := rfl
        rw [e]
        rcases hz with ⟨rfl, rfl⟩ | ⟨rfl, rfl⟩
        · rw [if_pos rfl, imax (by omega) (by omega)]
        · rw [if_neg (by decide), imin (by omega) (by omega)]
    · rintro ⟨x, y⟩ ⟨e1, e2⟩
      dsimp only at e1 e2
      subst e1
      rcases e2 with ⟨z1, z2⟩ | ⟨c, z1, z2⟩
      · exact absurd z1 (by decide)
      · have : c = 2 := by omega
        subst this
        refine ⟨x, ?_, z2⟩
        show fX10_sureBy_b17 _ _ _ _ _ = _
        unfold fX10_sureBy_b17
        rw [if_pos (show (3 : Int32) ≤ nI 3 by decide)]
  obtain ⟨x, m1, m2⟩ := main
  rw [m1, m2]
def suN (g : Nat → Nat) (t : Bool) : Nat := fo (!t) (fun a => fo t (fun c => g (ix t a c)) 2) 2
theorem m_sure (hw : ∀ k, k < 9 → w.1 65 k = nI (g k)) (h8 : ∀ k, k < 9 → g k ≤ 8) (z : Int32) (t : Bool) (hz : (z = 0 ∧ t = true) ∨ (z = 1 ∧ t = false)) : fX10_sureBy w z = some (nI (suN g t)) := by
  have hix : ∀ a, a < 3 → ∀ c, c < 3 → ix t a c < 9 := fun a ha c hc => by unfold ix; split <;> omega
  have hin : ∀ a, a < 3 → fo t (fun c => g (ix t a c)) 2 ≤ 8 := fun a ha => fo_le 2 fun c hc => h8 _ (hix a ha c (by omega))
  unfold fX10_sureBy suN
  have main : ∃ x, iter (fun s : Int32 × Int32 => fX10_sureBy_b5 z w s.1 s.2) FU ((-9), 0) = some x ∧ x = nI (fo (!t) (fun a => fo t (fun c => g (ix t a c)) 2) 2) := by
    refine itn (fun n s => s.2 = nI n ∧ ((n = 0 ∧ s.1 = -9) ∨ ∃ c, n = c + 1 ∧ s.1 = nI (fo (!t) (fun a => fo t (fun c => g (ix t a c)) 2) c))) _ 3 ⟨rfl, Or.inl ⟨rfl, rfl⟩⟩ ?_ ?_ (by decide)
    · rintro n ⟨x, y⟩ hn ⟨e1, e2⟩
      dsimp only at e1 e2
      subst e1
      have hv := hin n hn
      have pre : ∀ l : Int32, fX10_sureBy_b5 z w l (nI n) = some (.inl ((if l < 0 then nI (fo t (fun c => g (ix t n c)) 2) else if z = 0 then (if l ≤ nI (fo t (fun c => g (ix t n c)) 2) then l else nI (fo t (fun c => g (ix t n c)) 2)) else if nI (fo t (fun c => g (ix t n c)) 2) ≤ l then l else nI (fo t (fun c => g (ix t n c)) 2)), nI (n + 1))) := fun l => by
        unfold fX10_sureBy_b5
        rw [if_neg (by rw [c3, n_le (by decide) (by omega)]; omega), m_sureIn hw h8 hn z t hz, bd_e, lt_e, nI_1, lt_e]
      rcases e2 with ⟨z1, z2⟩ | ⟨c, z1, z2⟩
      · subst z1; subst z2
        refine ⟨(nI (fo t (fun c => g (ix t 0 c)) 2), nI (0 + 1)), ?_, rfl, Or.inr ⟨0, rfl, rfl⟩⟩
        show fX10_sureBy_b5 _ _ _ _ = _
        rw [pre, if_pos (show (-9 : Int32) < 0 by decide)]
      · subst z1; subst z2
        have hf8 := fo_le (t := !t) (n := fun a => fo t (fun c => g (ix t a c)) 2) c (fun d hd => hin d (by omega))
        refine ⟨(nI (fo (!t) (fun a => fo t (fun c => g (ix t a c)) 2) (c + 1)), nI (c + 1 + 1)), ?_, rfl, Or.inr ⟨c + 1, rfl, rfl⟩⟩
        show fX10_sureBy_b5 _ _ _ _ = _
        rw [pre, if_neg (nI_pos (by omega))]
        have e : fo (!t) (fun a => fo t (fun c => g (ix t a c)) 2) (c + 1) = op2 (!t) (fo (!t) (fun a => fo t (fun c => g (ix t a c)) 2) c) (fo t (fun d => g (ix t (c + 1) d)) 2) := rfl
        rw [e]
        rcases hz with ⟨rfl, rfl⟩ | ⟨rfl, rfl⟩
        · rw [if_pos rfl, imin (by omega) (by omega)]; rfl
        · rw [if_neg (by decide), imax (by omega) (by omega)]; rfl
    · rintro ⟨x, y⟩ ⟨e1, e2⟩
      dsimp only at e1 e2
      subst e1
      rcases e2 with ⟨z1, z2⟩ | ⟨c, z1, z2⟩
      · exact absurd z1 (by decide)
      · have : c = 2 := by omega
        subst this
        refine ⟨x, ?_, z2⟩
        show fX10_sureBy_b5 _ _ _ _ = _
        unfold fX10_sureBy_b5
        rw [if_pos (show (3 : Int32) ≤ nI 3 by decide)]
  obtain ⟨x, m1, m2⟩ := main
  rw [m1, bd_e, m2]
theorem fo2 (t : Bool) (n : Nat → Nat) : fo t n 2 = op2 t (op2 t (n 0) (n 1)) (n 2) := rfl
theorem few_fo (g : Nat → Nat) (f : Nat) : fo false (fun c => g (ix false f c)) 2 = few g f := by
  have e : ∀ c, ix false f c = 3 * f + c := fun c => by unfold ix; rw [if_neg (show ¬ (false = true) by decide)]
  rw [fo2, op2f, op2f]
  show min (min (g (ix false f 0)) (g (ix false f 1))) (g (ix false f 2)) = min (g (3 * f)) (min (g (3 * f + 1)) (g (3 * f + 2)))
  rw [e, e, e, Nat.min_assoc, Nat.add_zero]
theorem mst_fo (g : Nat → Nat) (f : Nat) : fo true (fun c => g (ix true f c)) 2 = mst g f := by
  have e : ∀ c, ix true f c = 3 * c + f := fun c => by unfold ix; rw [if_pos rfl]
  rw [fo2, op2t, op2t]
  show max (max (g (ix true f 0)) (g (ix true f 1))) (g (ix true f 2)) = max (g f) (max (g (f + 3)) (g (f + 6)))
  rw [e, e, e, Nat.max_assoc, show 3 * 0 + f = f by omega, show 3 * 1 + f = f + 3 by omega, show 3 * 2 + f = f + 6 by omega]
theorem c_sure (hw : ∀ k, k < 9 → w.1 38 k = nI (g k)) (h8 : ∀ k, k < 9 → g k ≤ 8) : fX1_sureNumber w = some (nI (suN g false)) := by
  have a0 := few_le h8 (f := 0) (by decide)
  have a1 := few_le h8 (f := 1) (by decide)
  have a2 := few_le h8 (f := 2) (by decide)
  have e : suN g false = max (few g 0) (max (few g 1) (few g 2)) := by
    unfold suN
    rw [fo2, few_fo, few_fo, few_fo, show (!false) = true from rfl, op2t, op2t, Nat.max_assoc]
  have r0 := c_few hw h8 (f := 0) (by decide)
  have r1 := c_few hw h8 (f := 1) (by decide)
  have r2 := c_few hw h8 (f := 2) (by decide)
  generalize few g 0 = m0 at *
  generalize few g 1 = m1 at *
  generalize few g 2 = m2 at *
  unfold fX1_sureNumber
  rw [show fX1_fewestOfForm w 0 = some (nI m0) from r0, bd_e, show fX1_fewestOfForm w 1 = some (nI m1) from r1, bd_e, show fX1_fewestOfForm w 2 = some (nI m2) from r2, bd_e, n_max (by omega) (by omega), n_max (by omega) (by omega), e]
theorem c_known (hw : ∀ k, k < 9 → w.1 38 k = nI (g k)) (h8 : ∀ k, k < 9 → g k ≤ 8) : fX1_knownNumber w = some (nI (suN g true)) := by
  have a0 := mst_le h8 (f := 0) (by decide)
  have a1 := mst_le h8 (f := 1) (by decide)
  have a2 := mst_le h8 (f := 2) (by decide)
  have e : suN g true = min (mst g 0) (min (mst g 1) (mst g 2)) := by
    unfold suN
    rw [fo2, mst_fo, mst_fo, mst_fo, show (!true) = false from rfl, op2f, op2f, Nat.min_assoc]
  have r0 := c_mst hw h8 (f := 0) (by decide)
  have r1 := c_mst hw h8 (f := 1) (by decide)
  have r2 := c_mst hw h8 (f := 2) (by decide)
  generalize mst g 0 = m0 at *
  generalize mst g 1 = m1 at *
  generalize mst g 2 = m2 at *
  unfold fX1_knownNumber
  rw [show fX1_mostOfSide w 0 = some (nI m0) from r0, bd_e, show fX1_mostOfSide w 1 = some (nI m1) from r1, bd_e, show fX1_mostOfSide w 2 = some (nI m2) from r2, bd_e, n_min (by omega) (by omega), n_min (by omega) (by omega), e]
theorem q_game (h : R w σ) (x : Int32) : Ans (fX9_game w x) (fun v => fX10_game v x) := by
  have h8 : ∀ k, k < 9 → pG σ k ≤ 8 := fun k hk => pG_le h.g hk
  rcases io2 x with ⟨i1, i2⟩ | ⟨i1, i2, p, hp, rfl⟩
  · exact Ans.nof h 2 (by decide) (by decide) (by unfold fX9_game; simp only [i1, if_neg (show ¬ (1 : Int32) = 0 by decide), rf1, rf2, rf3, rf4, rf6, bd_e, un2_e] <;> rfl) (fun v e => by unfold fX10_game; simp only [i2, if_pos, e _ (show (42 : Nat) ≠ 12 by decide), no1, no2, no3, no4, no6, bd_e, un2_e] <;> rfl)
  · obtain ⟨w1, a1, a2⟩ := c_fillGame h.c h.g
    have cq : Cq w w1 := Cq.of (rX1_fillGame a1) (by decide)
    rcases (by omega : p = 0 ∨ p = 1 ∨ p = 2) with rfl | rfl | rfl
    · obtain ⟨y, b1, b2⟩ := c_steady a2 h8
      refine Ans.q (r := y) h ⟨w1, ?_, cq⟩ fun v hv => ?_
      · unfold fX9_game
        rw [i1, if_pos rfl, a1, bd_e, if_pos (show nI 0 = 0 from rfl), b1, bd_e]
      · obtain ⟨v1, d1, d2, d3, d4⟩ := m_findGame hv.o hv.g hv.m2
        obtain ⟨⟨y2, v2⟩, f1, f2, f3⟩ := m_first d4 h8
        dsimp only at f2 f3
        subst f3
        refine ⟨v2, ?_, d2, d3⟩
        show fX10_game v (nI 0) = _
        unfold fX10_game
        rw [i2, if_neg (by decide), d1, bd_e, if_pos (show nI 0 ≤ 0 by decide), f1, f2.one b2]
    · refine Ans.q (r := nI (suN (pG σ) false)) h ⟨w1, ?_, cq⟩ fun v hv => ?_
      · unfold fX9_game
        rw [i1, if_pos rfl, a1, bd_e, if_neg (show ¬ nI 1 = 0 by decide), if_pos (show nI 1 = 1 from rfl), c_sure a2 h8, bd_e]
      · obtain ⟨v1, d1, d2, d3, d4⟩ := m_findGame hv.o hv.g hv.m2
        refine ⟨v1, ?_, d2, d3⟩
        show fX10_game v (nI 1) = _
        unfold fX10_game fX10_game_j35
        rw [i2, if_neg (by decide), d1, bd_e, if_neg (show ¬ nI 1 ≤ 0 by decide), if_pos (show nI 1 = 1 from rfl), m_sure d4 h8 1 false (Or.inr ⟨rfl, rfl⟩), bd_e]
    · refine Ans.q (r := nI (suN (pG σ) true)) h ⟨w1, ?_, cq⟩ fun v hv => ?_
      · unfold fX9_game
        rw [i1, if_pos rfl, a1, bd_e, if_neg (show ¬ nI 2 = 0 by decide), if_neg (show ¬ nI 2 = 1 by decide), c_known a2 h8, bd_e]
      · obtain ⟨v1, d1, d2, d3, d4⟩ := m_findGame hv.o hv.g hv.m2
        refine ⟨v1, ?_, d2, d3⟩
        show fX10_game v (nI 2) = _
        unfold fX10_game fX10_game_j35
        rw [i2, if_neg (by decide), d1, bd_e, if_neg (show ¬ nI 2 ≤ 0 by decide), if_neg (show ¬ nI 2 = 1 by decide), m_sure d4 h8 0 true (Or.inl ⟨rfl, rfl⟩), bd_e]
end

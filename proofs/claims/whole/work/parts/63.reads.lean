/-! road: the reference reads -/
def dvN (T : Nat → Nat) (a : Nat) : Nat → Nat
  | 0 => 0
  | j + 1 => 10 * dvN T a j + (T (a + j) - 48)
def RdX (T : Nat → Nat) (n a d : Nat) (r : Int32) (w1 : Wd) (G : Prop) : Prop := (r = 1 ∧ a + d ≤ n ∧ (∀ j, j < d → isD (T (a + j))) ∧ w1.1 42 15 = nI (a + d) ∧ G) ∨ (r = 0 ∧ ∃ j, j < d ∧ a + j ≤ n ∧ (∀ t, t < j → isD (T (a + t))) ∧ (a + j = n ∨ ¬ isD (T (a + j))) ∧ w1.1 42 15 = nI (a + j))
/-- what reading leaves alone -/
def FrX (w w1 : Wd) : Prop := (∀ i, i ≠ 42 → i ≠ 52 → w1.1 i = w.1 i) ∧ ∀ f, f ≠ 15 → w1.1 42 f = w.1 42 f
/-- the text as the reference has it -/
def TxX (w : Wd) (T : Nat → Nat) (n : Nat) : Prop := n ≤ 96 ∧ w.1 42 14 = nI n ∧ (∀ k, k < n → w.1 49 k = nI (T k)) ∧ ∀ k, T k < 256
/-- statement k is recorded, which stands at a -/
def RcT (T : Nat → Nat) (a k : Nat) (w : Wd) : Prop := w.1 50 k = nI (T a) ∧ w.1 51 k = nI a ∧ w.1 52 (3 * k) = nI (tv0 T a) ∧ ((T a = 112 ∨ T a = 119 ∨ T a = 102) → w.1 52 (3 * k + 1) = nI (tv1 T a)) ∧ ((T a = 112 ∨ T a = 119) → w.1 52 (3 * k + 2) = nI (tv2 T a))
section
variable {w w1 w2 : Wd} {σ τ : St} {b : Nat} {T : Nat → Nat} {n : Nat}
theorem FrX.tr {a c d : Wd} (h : FrX a c) (h2 : FrX c d) : FrX a d := ⟨fun i h1 h3 => (h2.1 i h1 h3).trans (h.1 i h1 h3), fun f h1 => (h2.2 f h1).trans (h.2 f h1)⟩
theorem TxX.fr (h : TxX w T n) (f : FrX w w1) : TxX w1 T n := ⟨h.1, (f.2 14 (by decide)).trans h.2.1, fun k hk => by rw [f.1 49 (by decide) (by decide)]; exact h.2.2.1 k hk, h.2.2.2⟩
theorem m_next {a : Nat} (h : TxX w T n) (h15 : w.1 42 15 = nI a) (ha : a ≤ n) : fX10_next w = some (if a < n then nI (T a) else -1) := by
  obtain ⟨hn, h14, hT, -⟩ := h
  unfold fX10_next
  rw [h14, h15]
  by_cases c : a < n
  · rw [if_neg (by rw [n_le (by omega) (by omega)]; omega), gdn (by omega) (by decide), n_cl (by omega), hT a c, if_pos c]
  · rw [if_pos (by rw [n_le (by omega) (by omega)]; omega), if_neg c]
theorem inD {c : Nat} (hc : c < 256) (h : isD c) : fX10_isIn (nI c) 48 57 = 1 := by
  unfold isD at h
  unfold fX10_isIn
  rw [if_neg (by rw [show (48 : Int32) = nI 48 from rfl, n_lt (by omega) (by decide)]; omega), if_neg (by rw [show (57 : Int32) = nI 57 from rfl, n_lt (by decide) (by omega)]; omega)]
theorem inD0 {c : Nat} (hc : c < 256) (h : ¬ isD c) : fX10_isIn (nI c) 48 57 = 0 := by
  unfold isD at h
  unfold fX10_isIn
  by_cases d : c < 48
  · rw [if_pos (by rw [show (48 : Int32) = nI 48 from rfl, n_lt (by omega) (by decide)]; exact d)]
  · rw [if_neg (by rw [show (48 : Int32) = nI 48 from rfl, n_lt (by omega) (by decide)]; exact d), if_pos (by rw [show (57 : Int32) = nI 57 from rfl, n_lt (by decide) (by omega)]; omega)]
theorem m_reads {a m p : Nat} (h : TxX w T n) (h15 : w.1 42 15 = nI a) (ha : a ≤ n) (hm : m ≤ 2) (hp : p < 144) : ∃ r w1, fX10_readsDigits w (nI p) (nI m) = some (r, w1) ∧ FrX w w1 ∧ (∀ q, q ≠ p → w1.1 52 q = w.1 52 q) ∧ RdX T n a m r w1 (w1.1 52 p = nI (dvN T a m)) := by
  have hn := h.1
  unfold fX10_readsDigits
  have main : ∃ x, iter (fun s : Int32 × Int32 × Wd => fX10_readsDigits_b5 (nI m) (nI p) s.1 s.2.1 s.2.2) FU (0, 0, w) = some x ∧ (FrX w x.2 ∧ (∀ q, q ≠ p → x.2.1 52 q = w.1 52 q) ∧ RdX T n a m x.1 x.2 (x.2.1 52 p = nI (dvN T a m))) := by
    refine it (fun j (s : Int32 × Int32 × Wd) => s.1 = nI (dvN T a j) ∧ s.2.1 = nI j ∧ a + j ≤ n ∧ (∀ t, t < j → isD (T (a + t))) ∧ s.2.2.1 42 15 = nI (a + j) ∧ (∀ i, i ≠ 42 → s.2.2.1 i = w.1 i) ∧ ∀ f, f ≠ 15 → s.2.2.1 42 f = w.1 42 f) _ m ⟨rfl, rfl, ha, fun t ht => absurd ht (Nat.not_lt_zero _), h15, fun _ _ => rfl, fun _ _ => rfl⟩ ?_ ?_ (by omega)
    · rintro j ⟨x, y, u⟩ hj ⟨e1, e2, e3, e4, e5, e6, e7⟩
      dsimp only at e1 e2 e3 e4 e5 e6 e7
      subst e1; subst e2
      have fu : FrX w u := ⟨fun i i1 _ => e6 i i1, e7⟩
      have hx := m_next (h.fr fu) e5 e3
      have hle : ¬ nI m ≤ nI j := by rw [n_le (by omega) (by omega)]; omega
      by_cases c : a + j < n
      · rw [if_pos c] at hx
        have h8 := h.2.2.2 (a + j)
        by_cases d : isD (T (a + j))
        · have d' := d
          unfold isD at d'
          refine Or.inl ⟨(nI (dvN T a (j + 1)), nI (j + 1), upI u 42 15 (nI (a + (j + 1)))), ?_, rfl, rfl, by omega, fun t ht => ?_, upI_s _ _ _ _, fun i hi => (upI_o _ _ _ _ hi).trans (e6 i hi), fun f hf => (upI_k _ _ _ _ hf).trans (e7 f hf)⟩
          · show fX10_readsDigits_b5 _ _ _ _ _ = _
            unfold fX10_readsDigits_b5
            rw [if_neg hle, hx, bd_e, inD h8 d, if_neg (by decide), bd_e, c10m, show (48 : Int32) = nI 48 from rfl, n_sub (by omega), lt_e, e5, nI_1, lt_e, nI_1, lt_e, show 10 * dvN T a j + T (a + j) - 48 = dvN T a (j + 1) by show _ = 10 * dvN T a j + (T (a + j) - 48); omega]
            rfl
          · by_cases z : t = j
            · subst z; exact d
            · exact e4 t (by omega)
        · refine Or.inr ⟨(0, u), ?_, fu, fun q _ => by rw [e6 52 (by decide)], Or.inr ⟨rfl, j, hj, e3, e4, Or.inr d, e5⟩⟩
          show fX10_readsDigits_b5 _ _ _ _ _ = _
          unfold fX10_readsDigits_b5
          rw [if_neg hle, hx, bd_e, inD0 h8 d, if_pos rfl]
      · rw [if_neg c] at hx
        refine Or.inr ⟨(0, u), ?_, fu, fun q _ => by rw [e6 52 (by decide)], Or.inr ⟨rfl, j, hj, e3, e4, Or.inl (by omega), e5⟩⟩
        show fX10_readsDigits_b5 _ _ _ _ _ = _
        unfold fX10_readsDigits_b5
        rw [if_neg hle, hx, bd_e, if_pos (show fX10_isIn (-1) 48 57 = 0 by decide)]
    · rintro ⟨x, y, u⟩ ⟨e1, e2, e3, e4, e5, e6, e7⟩
      dsimp only at e1 e2 e3 e4 e5 e6 e7
      subst e1; subst e2
      refine ⟨(1, upI u 52 p (nI (dvN T a m))), ?_, ⟨fun i h1 h2 => (upI_o _ _ _ _ h2).trans (e6 i h1), fun f hf => by dsimp only; rw [upI_o _ _ _ _ (by decide)]; exact e7 f hf⟩, fun q hq => by dsimp only; rw [upI_k _ _ _ _ hq, e6 52 (by decide)], Or.inl ⟨rfl, e3, e4, ?_, upI_s _ _ _ _⟩⟩
      · show fX10_readsDigits_b5 _ _ _ _ _ = _
        unfold fX10_readsDigits_b5
        rw [if_pos (Int32.le_refl _), gdn hp (by decide), n_cl (by omega), lt_e]
      · dsimp only
        rw [upI_o _ _ _ _ (by decide)]; exact e5
  obtain ⟨⟨r, u⟩, m1, m2, m3, m4⟩ := main
  exact ⟨r, u, m1, m2, m3, m4⟩
/-- two readings, one behind the other -/
theorem RdX.snd {a d d2 : Nat} {r : Int32} {u v : Wd} {G : Prop} (h1 : a + d ≤ n) (h2 : ∀ j, j < d → isD (T (a + j))) (h : RdX T n (a + d) d2 r v G) : RdX T n a (d + d2) r v G := by
  rcases h with ⟨b1, b2, b3, b4, b5⟩ | ⟨b1, j, b2, b3, b4, b5, b6⟩
  · refine Or.inl ⟨b1, by omega, fun j hj => ?_, by rw [b4, Nat.add_assoc], b5⟩
    by_cases c : j < d
    · exact h2 j c
    · have := b3 (j - d) (by omega)
      rw [show a + d + (j - d) = a + j by omega] at this
      exact this
  · refine Or.inr ⟨b1, d + j, by omega, by omega, fun t ht => ?_, ?_, by rw [b6, Nat.add_assoc]⟩
    · by_cases c : t < d
      · exact h2 t c
      · have := b4 (t - d) (by omega)
        rw [show a + d + (t - d) = a + t by omega] at this
        exact this
    · rw [← Nat.add_assoc]; exact b5
theorem RdX.fst {a d d2 : Nat} {u : Wd} {j : Nat} {G : Prop} (hj : j < d) (h1 : a + j ≤ n) (h2 : ∀ t, t < j → isD (T (a + t))) (h3 : a + j = n ∨ ¬ isD (T (a + j))) (h4 : u.1 42 15 = nI (a + j)) : RdX T n a (d + d2) 0 u G := Or.inr ⟨rfl, j, by omega, h1, h2, h3, h4⟩
theorem RdX.as {a d : Nat} {r : Int32} {u : Wd} {G G2 : Prop} (h : RdX T n a d r u G) (e : r = 1 → G → G2) : RdX T n a d r u G2 := by
  rcases h with ⟨b1, b2, b3, b4, b5⟩ | h
  · exact Or.inl ⟨b1, b2, b3, b4, e b1 b5⟩
  · exact Or.inr h
theorem dv1 (T : Nat → Nat) (a : Nat) : dvN T a 1 = T a - 48 := by
  show 10 * 0 + (T (a + 0) - 48) = _
  rw [Nat.add_zero]; omega
theorem dv2 (T : Nat → Nat) (a : Nat) : dvN T a 2 = 10 * (T a - 48) + (T (a + 1) - 48) := by
  show 10 * (dvN T a 1) + (T (a + 1) - 48) = _
  rw [dv1]
/-- one digit more -/
theorem m_more {a d p : Nat} {u : Wd} (h : TxX u T n) (h15 : u.1 42 15 = nI (a + d)) (h1 : a + d ≤ n) (h2 : ∀ j, j < d → isD (T (a + j))) (hp : p < 144) : ∃ r v, fX10_readsDigits u (nI p) 1 = some (r, v) ∧ FrX u v ∧ (∀ q, q ≠ p → v.1 52 q = u.1 52 q) ∧ RdX T n a (d + 1) r v (v.1 52 p = nI (T (a + d) - 48)) := by
  obtain ⟨r, v, b1, b2, b3, b4⟩ := m_reads (m := 1) h h15 h1 (by decide) hp
  refine ⟨r, v, b1, b2, b3, RdX.snd (u := u) h1 h2 (b4.as fun _ hx => ?_)⟩
  rw [hx, dv1]
theorem m_readsAll {a k : Nat} (h : TxX w T n) (h15 : w.1 42 15 = nI (a + 1)) (ha : a + 1 ≤ n) (hk : k < 48) (hd : dgN (T a) ≠ 99) : ∃ r w1, fX10_readsAll w (nI (T a)) (nI (3 * k)) = some (r, w1) ∧ FrX w w1 ∧ (∀ q, q < 3 * k → w1.1 52 q = w.1 52 q) ∧ RdX T n (a + 1) (dgN (T a)) r w1 (w1.1 52 (3 * k) = nI (tv0 T a) ∧ ((T a = 112 ∨ T a = 119 ∨ T a = 102) → w1.1 52 (3 * k + 1) = nI (tv1 T a)) ∧ ((T a = 112 ∨ T a = 119) → w1.1 52 (3 * k + 2) = nI (tv2 T a))) := by
  unfold fX10_readsAll
  rcases dg_kind hd with ⟨hc, hk2⟩ | ⟨hc, hk2⟩ | ⟨hc, hk2⟩ | ⟨hc, hk2⟩ | ⟨hc, hk2⟩ | ⟨hc, hk2⟩
  · obtain ⟨r, u, b1, b2, b3, b4⟩ := m_reads (p := 3 * k) (m := 2) h h15 ha (by decide) (by omega)
    have b1' : fX10_readsDigits w (nI (3 * k)) 2 = some (r, u) := b1
    have hr : r = 1 ∨ r = 0 := by rcases b4 with ⟨h, -⟩ | ⟨h, -⟩; exact Or.inl h; exact Or.inr h
    rw [hk2]
    refine ⟨r, u, ?_, b2, fun q hq => b3 q (by omega), b4.as fun _ hx => ⟨?_, fun h => by omega, fun h => by omega⟩⟩
    · rw [hc, if_pos (show nI 100 = 100 from rfl), b1', bd_e, un2_e, gd_t (bz01 hr)]
    · rw [hx, dv2]
      unfold tv0
      rw [if_pos (Or.inr hc)]
  · obtain ⟨r, u, b1, b2, b3, b4⟩ := m_more (a := a + 1) (d := 0) (p := 3 * k) h h15 ha (fun j hj => absurd hj (Nat.not_lt_zero _)) (by omega)
    rw [hk2, hc, if_neg (show ¬ nI 102 = 100 by decide), if_pos (show nI 102 = 102 from rfl), b1, bd_e, un2_e]
    rcases b4 with ⟨rfl, f2, f3, f4, f5⟩ | ⟨rfl, j, f2, f3, f4, f5, f6⟩
    · obtain ⟨r2, u2, d1, d2, d3, d4⟩ := m_more (a := a + 1) (d := 1) (p := 3 * k + 1) (h.fr b2) f4 f2 f3 (by omega)
      have hr : r2 = 1 ∨ r2 = 0 := by rcases d4 with ⟨h, -⟩ | ⟨h, -⟩; exact Or.inl h; exact Or.inr h
      refine ⟨r2, u2, ?_, b2.tr d2, fun q hq => (d3 q (by omega)).trans (b3 q (by omega)), d4.as fun _ hx => ⟨?_, fun _ => ?_, fun h => by omega⟩⟩
      · rw [if_neg (show ¬ (1 : Int32) = 0 by decide), nI_1, d1, bd_e, un2_e]
        rcases hr with rfl | rfl <;> rfl
      · rw [d3 _ (by omega), f5]
        unfold tv0
        rw [if_neg (by omega)]
      · rw [hx]
        unfold tv1
        rw [if_neg (by omega)]
    · rw [if_pos rfl]
      exact ⟨0, u, rfl, b2, fun q hq => b3 q (by omega), RdX.fst (d := 1) (d2 := 1) (by omega) f3 f4 f5 f6⟩
  · obtain ⟨r, u, b1, b2, b3, b4⟩ := m_more (a := a + 1) (d := 0) (p := 3 * k) h h15 ha (fun j hj => absurd hj (Nat.not_lt_zero _)) (by omega)
    have hr : r = 1 ∨ r = 0 := by rcases b4 with ⟨h, -⟩ | ⟨h, -⟩; exact Or.inl h; exact Or.inr h
    rw [hk2]
    refine ⟨r, u, ?_, b2, fun q hq => b3 q (by omega), b4.as fun _ hx => ⟨?_, fun h => by omega, fun h => by omega⟩⟩
    · rw [hc, if_neg (show ¬ nI 108 = 100 by decide), if_neg (show ¬ nI 108 = 102 by decide), if_neg (show ¬ nI 108 = 112 by decide), if_neg (show ¬ nI 108 = 119 by decide), b1, bd_e, un2_e, gd_t (bz01 hr)]
    · rw [hx]
      unfold tv0
      rw [if_neg (by omega)]
  · obtain ⟨r, u, b1, b2, b3, b4⟩ := m_more (a := a + 1) (d := 0) (p := 3 * k) h h15 ha (fun j hj => absurd hj (Nat.not_lt_zero _)) (by omega)
    have hr : r = 1 ∨ r = 0 := by rcases b4 with ⟨h, -⟩ | ⟨h, -⟩; exact Or.inl h; exact Or.inr h
    rw [hk2]
    refine ⟨r, u, ?_, b2, fun q hq => b3 q (by omega), b4.as fun _ hx => ⟨?_, fun h => by omega, fun h => by omega⟩⟩
    · rw [hc, if_neg (show ¬ nI 109 = 100 by decide), if_neg (show ¬ nI 109 = 102 by decide), if_neg (show ¬ nI 109 = 112 by decide), if_neg (show ¬ nI 109 = 119 by decide), b1, bd_e, un2_e, gd_t (bz01 hr)]
    · rw [hx]
      unfold tv0
      rw [if_neg (by omega)]
  · obtain ⟨r, u, b1, b2, b3, b4⟩ := m_more (a := a + 1) (d := 0) (p := 3 * k) h h15 ha (fun j hj => absurd hj (Nat.not_lt_zero _)) (by omega)
    rw [hk2, hc, if_neg (show ¬ nI 112 = 100 by decide), if_neg (show ¬ nI 112 = 102 by decide), if_pos (show nI 112 = 112 from rfl), b1, bd_e, un2_e]
    rcases b4 with ⟨rfl, f2, f3, f4, f5⟩ | ⟨rfl, j, f2, f3, f4, f5, f6⟩
    · obtain ⟨r2, u2, d1, d2, d3, d4⟩ := m_more (a := a + 1) (d := 1) (p := 3 * k + 1) (h.fr b2) f4 f2 f3 (by omega)
      rw [if_neg (show ¬ (1 : Int32) = 0 by decide), nI_1, d1, bd_e, un2_e]
      rcases d4 with ⟨rfl, g2, g3, g4, g5⟩ | ⟨rfl, j, g2, g3, g4, g5, g6⟩
      · obtain ⟨r3, u3, l1, l2, l3, l4⟩ := m_more (a := a + 1) (d := 2) (p := 3 * k + 2) ((h.fr b2).fr d2) g4 g2 g3 (by omega)
        have hr : r3 = 1 ∨ r3 = 0 := by rcases l4 with ⟨h, -⟩ | ⟨h, -⟩; exact Or.inl h; exact Or.inr h
        refine ⟨r3, u3, ?_, (b2.tr d2).tr l2, fun q hq => ((l3 q (by omega)).trans (d3 q (by omega))).trans (b3 q (by omega)), l4.as fun _ hx => ⟨?_, fun _ => ?_, fun _ => ?_⟩⟩
        · rw [if_neg (show ¬ (1 : Int32) = 0 by decide), show (2 : Int32) = nI 2 from rfl, n_add, l1, bd_e, un2_e]
          rcases hr with rfl | rfl <;> rfl
        · rw [l3 _ (by omega), d3 _ (by omega), f5]
          unfold tv0
          rw [if_neg (by omega)]
        · rw [l3 _ (by omega), g5]
          unfold tv1
          rw [if_neg (by omega)]
        · rw [hx]
          unfold tv2
          rw [if_neg (by omega)]
      · rw [if_pos rfl]
        exact ⟨0, u2, rfl, b2.tr d2, fun q hq => (d3 q (by omega)).trans (b3 q (by omega)), RdX.fst (d := 2) (d2 := 1) (by omega) g3 g4 g5 g6⟩
    · rw [if_pos rfl]
      exact ⟨0, u, rfl, b2, fun q hq => b3 q (by omega), RdX.fst (d := 1) (d2 := 2) (by omega) f3 f4 f5 f6⟩
  · obtain ⟨r, u, b1, b2, b3, b4⟩ := m_reads (p := 3 * k) (m := 2) h h15 ha (by decide) (by omega)
    have b1' : fX10_readsDigits w (nI (3 * k)) 2 = some (r, u) := b1
    rw [hk2, hc, if_neg (show ¬ nI 119 = 100 by decide), if_neg (show ¬ nI 119 = 102 by decide), if_neg (show ¬ nI 119 = 112 by decide), if_pos (show nI 119 = 119 from rfl), b1', bd_e, un2_e]
    rcases b4 with ⟨rfl, f2, f3, f4, f5⟩ | ⟨rfl, j, f2, f3, f4, f5, f6⟩
    · obtain ⟨r2, u2, d1, d2, d3, d4⟩ := m_more (a := a + 1) (d := 2) (p := 3 * k + 1) (h.fr b2) f4 f2 f3 (by omega)
      rw [if_neg (show ¬ (1 : Int32) = 0 by decide), nI_1, d1, bd_e, un2_e]
      rcases d4 with ⟨rfl, g2, g3, g4, g5⟩ | ⟨rfl, j, g2, g3, g4, g5, g6⟩
      · obtain ⟨r3, u3, l1, l2, l3, l4⟩ := m_more (a := a + 1) (d := 3) (p := 3 * k + 2) ((h.fr b2).fr d2) g4 g2 g3 (by omega)
        have hr : r3 = 1 ∨ r3 = 0 := by rcases l4 with ⟨h, -⟩ | ⟨h, -⟩; exact Or.inl h; exact Or.inr h
        refine ⟨r3, u3, ?_, (b2.tr d2).tr l2, fun q hq => ((l3 q (by omega)).trans (d3 q (by omega))).trans (b3 q (by omega)), l4.as fun _ hx => ⟨?_, fun _ => ?_, fun _ => ?_⟩⟩
        · rw [if_neg (show ¬ (1 : Int32) = 0 by decide), show (2 : Int32) = nI 2 from rfl, n_add, l1, bd_e, un2_e]
          rcases hr with rfl | rfl <;> rfl
        · rw [l3 _ (by omega), d3 _ (by omega), f5, dv2]
          unfold tv0
          rw [if_pos (Or.inl hc)]
        · rw [l3 _ (by omega), g5]
          unfold tv1
          rw [if_pos hc]
        · rw [hx]
          unfold tv2
          rw [if_pos hc]
      · rw [if_pos rfl]
        exact ⟨0, u2, rfl, b2.tr d2, fun q hq => (d3 q (by omega)).trans (b3 q (by omega)), RdX.fst (d := 3) (d2 := 1) (by omega) g3 g4 g5 g6⟩
    · rw [if_pos rfl]
      exact ⟨0, u, rfl, b2, fun q hq => b3 q (by omega), RdX.fst (d := 2) (d2 := 2) (by omega) f3 f4 f5 f6⟩
theorem m_stJ {a k : Nat} (h : TxX w T n) (h15 : w.1 42 15 = nI a) (h16 : w.1 42 16 = nI k) (ha : a < n) (hk : k < 48) (hd : dgN (T a) ≠ 99) (hst : stT T a = 0) (hok : ∀ i, i < a → okT T i) : ∃ r w1, fX10_statement_j43 w (nI (T a)) = some (r, w1) ∧ ((∀ i, i ≠ 42 → i ≠ 50 → i ≠ 51 → i ≠ 52 → w1.1 i = w.1 i) ∧ (∀ f, f ≠ 15 → w1.1 42 f = w.1 42 f) ∧ (∀ q, q < k → w1.1 50 q = w.1 50 q ∧ w1.1 51 q = w.1 51 q) ∧ ∀ q, q < 3 * k → w1.1 52 q = w.1 52 q) ∧ ((r = 1 ∧ a + dgN (T a) + 2 ≤ n ∧ (∀ i, i < a + dgN (T a) + 2 → okT T i) ∧ stT T (a + dgN (T a) + 2) = 0 ∧ w1.1 42 15 = nI (a + dgN (T a) + 2) ∧ RcT T a k w1) ∨ (r = 0 ∧ ∃ f, FaT T n f ∧ w1.1 42 15 = nI f)) := by
  have hn := h.1
  have hd4 := dgN_c (T a)
  have hin := stT_in (T := T) hst (rfl : dgN (T a) = dgN (T a))
  have oka : okT T a := ⟨fun _ => hd, fun h => by omega, fun h => by omega⟩
  unfold fX10_statement_j43
  rw [h16, gdn hk (by decide), n_cl (by omega), lt_e, upI_o _ _ _ _ (show (42 : Nat) ≠ 50 by decide), h16, gdn hk (by decide), n_cl (by omega), h15, lt_e, upI_o _ _ _ _ (show (42 : Nat) ≠ 51 by decide), upI_o _ _ _ _ (show (42 : Nat) ≠ 50 by decide), h15, nI_1, lt_e, upI_k _ _ _ _ (show (16 : Nat) ≠ 15 by decide), upI_o _ _ _ _ (show (42 : Nat) ≠ 51 by decide), upI_o _ _ _ _ (show (42 : Nat) ≠ 50 by decide), h16, c3, n_mul]
  have F0 : ∀ i, i ≠ 42 → i ≠ 50 → i ≠ 51 → (upI (upI (upI w 50 k (nI (T a))) 51 k (nI a)) 42 15 (nI (a + 1))).1 i = w.1 i := fun i h1 h2 h3 => by rw [upI_o _ _ _ _ h1, upI_o _ _ _ _ h3, upI_o _ _ _ _ h2]
  have F1 : ∀ f, f ≠ 15 → (upI (upI (upI w 50 k (nI (T a))) 51 k (nI a)) 42 15 (nI (a + 1))).1 42 f = w.1 42 f := fun f h1 => by rw [upI_k _ _ _ _ h1, upI_o _ _ _ _ (by decide), upI_o _ _ _ _ (by decide)]
  have F2 : ∀ q, q ≠ k → (upI (upI (upI w 50 k (nI (T a))) 51 k (nI a)) 42 15 (nI (a + 1))).1 50 q = w.1 50 q ∧ (upI (upI (upI w 50 k (nI (T a))) 51 k (nI a)) 42 15 (nI (a + 1))).1 51 q = w.1 51 q := fun q hq => ⟨by rw [upI_o _ _ _ _ (by decide), upI_o _ _ _ _ (by decide), upI_k _ _ _ _ hq], by rw [upI_o _ _ _ _ (by decide), upI_k _ _ _ _ hq, upI_o _ _ _ _ (by decide)]⟩
  have F3 : (upI (upI (upI w 50 k (nI (T a))) 51 k (nI a)) 42 15 (nI (a + 1))).1 50 k = nI (T a) ∧ (upI (upI (upI w 50 k (nI (T a))) 51 k (nI a)) 42 15 (nI (a + 1))).1 51 k = nI a := ⟨by rw [upI_o _ _ _ _ (by decide), upI_o _ _ _ _ (by decide), upI_s], by rw [upI_o _ _ _ _ (by decide), upI_s]⟩
  have F4 : (upI (upI (upI w 50 k (nI (T a))) 51 k (nI a)) 42 15 (nI (a + 1))).1 42 15 = nI (a + 1) := upI_s _ _ _ _
  generalize upI (upI (upI w 50 k (nI (T a))) 51 k (nI a)) 42 15 (nI (a + 1)) = u at F0 F1 F2 F3 F4 ⊢
  have hu : TxX u T n := ⟨h.1, (F1 14 (by decide)).trans h.2.1, fun k hk => by rw [F0 49 (by decide) (by decide) (by decide)]; exact h.2.2.1 k hk, h.2.2.2⟩
  obtain ⟨r, u1, b1, b2, b3, b4⟩ := m_readsAll hu F4 (by omega) hk hd
  rw [b1, bd_e, un2_e]
  have G0 : ∀ i, i ≠ 42 → i ≠ 50 → i ≠ 51 → i ≠ 52 → u1.1 i = w.1 i := fun i h1 h2 h3 h4 => (b2.1 i h1 h4).trans (F0 i h1 h2 h3)
  have G1 : ∀ f, f ≠ 15 → u1.1 42 f = w.1 42 f := fun f hf => (b2.2 f hf).trans (F1 f hf)
  have G2 : ∀ q, q < k → u1.1 50 q = w.1 50 q ∧ u1.1 51 q = w.1 51 q := fun q hq => by
    rw [b2.1 50 (by decide) (by decide), b2.1 51 (by decide) (by decide)]
    exact F2 q (by omega)
  have G3 : ∀ q, q < 3 * k → u1.1 52 q = w.1 52 q := fun q hq => (b3 q hq).trans (by rw [F0 52 (by decide) (by decide) (by decide)])
  have okd : ∀ j, j < dgN (T a) → isD (T (a + 1 + j)) → okT T (a + 1 + j) := fun j hj hx => by
    have := hin j (by omega)
    exact ⟨fun h => by omega, fun h => by omega, fun _ => hx⟩
  have okl : ∀ m, m ≤ dgN (T a) → (∀ j, j < m → isD (T (a + 1 + j))) → ∀ i, i < a + 1 + m → okT T i := fun m hm hj i hi => by
    rcases Nat.lt_trichotomy i a with c | c | c
    · exact hok i c
    · subst c; exact oka
    · have := okd (i - (a + 1)) (by omega) (hj (i - (a + 1)) (by omega))
      rw [show a + 1 + (i - (a + 1)) = i by omega] at this
      exact this
  rcases b4 with ⟨rfl, f2, f3, f4, f5, f6, f7⟩ | ⟨rfl, j, f2, f3, f4, f5, f6⟩
  · have hs1 := hin (dgN (T a)) (by omega)
    have hx := m_next (hu.fr b2) f4 f2
    have okp := okl (dgN (T a)) (Nat.le_refl _) f3
    rw [if_neg (show ¬ (1 : Int32) = 0 by decide), hx, bd_e]
    by_cases c : a + 1 + dgN (T a) < n
    · rw [if_pos c]
      have h8 := h.2.2.2 (a + 1 + dgN (T a))
      by_cases d : T (a + 1 + dgN (T a)) = 59
      · rw [if_pos (by rw [d]; rfl), f4, nI_1, lt_e]
        refine ⟨1, _, rfl, ⟨fun i h1 h2 h3 h4 => by rw [upI_o _ _ _ _ h1]; exact G0 i h1 h2 h3 h4, fun f hf => by rw [upI_k _ _ _ _ hf]; exact G1 f hf, fun q hq => by rw [upI_o _ _ _ _ (by decide), upI_o _ _ _ _ (by decide)]; exact G2 q hq, fun q hq => by rw [upI_o _ _ _ _ (by decide)]; exact G3 q hq⟩, Or.inl ⟨rfl, by omega, fun i hi => ?_, ?_, ?_, ?_⟩⟩
        · by_cases z : i = a + 1 + dgN (T a)
          · subst z; exact ⟨fun h => by omega, fun _ => d, fun h => by omega⟩
          · exact okp i (by omega)
        · have := hin (dgN (T a) + 1) (Nat.le_refl _)
          rw [show a + 1 + (dgN (T a) + 1) = a + dgN (T a) + 2 by omega] at this
          omega
        · rw [upI_s, show a + 1 + dgN (T a) + 1 = a + dgN (T a) + 2 by omega]
        · unfold RcT
          rw [upI_o _ _ _ _ (show (50 : Nat) ≠ 42 by decide), upI_o _ _ _ _ (show (51 : Nat) ≠ 42 by decide), upI_o _ _ _ _ (show (52 : Nat) ≠ 42 by decide), b2.1 50 (by decide) (by decide), b2.1 51 (by decide) (by decide)]
          exact ⟨F3.1, F3.2, f5, f6, f7⟩
      · rw [if_neg (by rw [show (59 : Int32) = nI 59 from rfl, n_eq (by omega) (by decide)]; exact d)]
        exact ⟨0, u1, rfl, ⟨G0, G1, G2, G3⟩, Or.inr ⟨rfl, _, ⟨by omega, okp, Or.inl ⟨c, fun h => d (h.2.1 (by omega))⟩⟩, f4⟩⟩
    · rw [if_neg c, if_neg (by decide)]
      have e : a + 1 + dgN (T a) = n := by omega
      exact ⟨0, u1, rfl, ⟨G0, G1, G2, G3⟩, Or.inr ⟨rfl, _, ⟨by omega, okp, Or.inr ⟨e, Or.inl (by rw [← e]; omega)⟩⟩, f4⟩⟩
  · rw [if_pos rfl]
    have hs1 := hin j (by omega)
    refine ⟨0, u1, rfl, ⟨G0, G1, G2, G3⟩, Or.inr ⟨rfl, a + 1 + j, ⟨f3, okl j (by omega) f4, ?_⟩, f6⟩⟩
    by_cases c : a + 1 + j < n
    · refine Or.inl ⟨c, fun h => ?_⟩
      rcases f5 with f5 | f5
      · omega
      · exact f5 (h.2.2 (by omega))
    · have e : a + 1 + j = n := by omega
      exact Or.inr ⟨e, Or.inl (by rw [← e]; omega)⟩
theorem m_statement {a k : Nat} (h : TxX w T n) (h15 : w.1 42 15 = nI a) (h16 : w.1 42 16 = nI k) (ha : a ≤ n) (hk : k < 48) (hst : stT T a = 0) (hok : ∀ i, i < a → okT T i) (h0 : a < n ∨ n = 0) : ∃ r w1, fX10_statement w = some (r, w1) ∧ ((∀ i, i ≠ 42 → i ≠ 50 → i ≠ 51 → i ≠ 52 → w1.1 i = w.1 i) ∧ (∀ f, f ≠ 15 → w1.1 42 f = w.1 42 f) ∧ (∀ q, q < k → w1.1 50 q = w.1 50 q ∧ w1.1 51 q = w.1 51 q) ∧ ∀ q, q < 3 * k → w1.1 52 q = w.1 52 q) ∧ ((r = 1 ∧ dgN (T a) ≠ 99 ∧ a < n ∧ a + dgN (T a) + 2 ≤ n ∧ (∀ i, i < a + dgN (T a) + 2 → okT T i) ∧ stT T (a + dgN (T a) + 2) = 0 ∧ w1.1 42 15 = nI (a + dgN (T a) + 2) ∧ RcT T a k w1) ∨ (r = 0 ∧ ∃ f, FaT T n f ∧ w1.1 42 15 = nI f)) := by
  have hn := h.1
  have hx := m_next h h15 ha
  unfold fX10_statement
  rw [hx, bd_e]
  by_cases c : a < n
  · rw [if_pos c]
    by_cases hd : dgN (T a) = 99
    · have h8 := h.2.2.2 a
      have ne : ∀ z, z < 256 → dgN z ≠ 99 → ¬ nI (T a) = nI z := fun z hz hzd e => by
        rw [n_eq (by omega) (by omega)] at e
        rw [e] at hd; exact hzd hd
      rw [if_neg (show ¬ nI (T a) = 112 from ne 112 (by decide) (by decide)), if_neg (show ¬ nI (T a) = 119 from ne 119 (by decide) (by decide)), if_neg (show ¬ nI (T a) = 102 from ne 102 (by decide) (by decide)), if_neg (show ¬ nI (T a) = 100 from ne 100 (by decide) (by decide)), if_neg (show ¬ nI (T a) = 108 from ne 108 (by decide) (by decide)), if_neg (show ¬ nI (T a) = 109 from ne 109 (by decide) (by decide))]
      exact ⟨0, w, rfl, ⟨fun _ _ _ _ _ => rfl, fun _ _ => rfl, fun _ _ => ⟨rfl, rfl⟩, fun _ _ => rfl⟩, Or.inr ⟨rfl, a, ⟨ha, hok, Or.inl ⟨c, fun h => h.1 hst hd⟩⟩, h15⟩⟩
    · obtain ⟨r, w1, b1, b2, b3⟩ := m_stJ h h15 h16 c hk hd hst hok
      refine ⟨r, w1, ?_, b2, ?_⟩
      · rw [← b1]
        rcases dg_kind hd with ⟨hc, -⟩ | ⟨hc, -⟩ | ⟨hc, -⟩ | ⟨hc, -⟩ | ⟨hc, -⟩ | ⟨hc, -⟩
        · rw [hc, if_neg (show ¬ nI 100 = 112 by decide), if_neg (show ¬ nI 100 = 119 by decide), if_neg (show ¬ nI 100 = 102 by decide), if_pos (show nI 100 = 100 from rfl)]
        · rw [hc, if_neg (show ¬ nI 102 = 112 by decide), if_neg (show ¬ nI 102 = 119 by decide), if_pos (show nI 102 = 102 from rfl)]
        · rw [hc, if_neg (show ¬ nI 108 = 112 by decide), if_neg (show ¬ nI 108 = 119 by decide), if_neg (show ¬ nI 108 = 102 by decide), if_neg (show ¬ nI 108 = 100 by decide), if_pos (show nI 108 = 108 from rfl)]
        · rw [hc, if_neg (show ¬ nI 109 = 112 by decide), if_neg (show ¬ nI 109 = 119 by decide), if_neg (show ¬ nI 109 = 102 by decide), if_neg (show ¬ nI 109 = 100 by decide), if_neg (show ¬ nI 109 = 108 by decide), if_pos (show nI 109 = 109 from rfl)]
        · rw [hc, if_pos (show nI 112 = 112 from rfl)]
        · rw [hc, if_neg (show ¬ nI 119 = 112 by decide), if_pos (show nI 119 = 119 from rfl)]
      · rcases b3 with ⟨d1, d2, d3, d4, d5, d6⟩ | b3
        · exact Or.inl ⟨d1, hd, c, d2, d3, d4, d5, d6⟩
        · exact Or.inr b3
  · rw [if_neg c, if_neg (show ¬ (-1 : Int32) = 112 by decide), if_neg (show ¬ (-1 : Int32) = 119 by decide), if_neg (show ¬ (-1 : Int32) = 102 by decide), if_neg (show ¬ (-1 : Int32) = 100 by decide), if_neg (show ¬ (-1 : Int32) = 108 by decide), if_neg (show ¬ (-1 : Int32) = 109 by decide)]
    have hz : n = 0 := by omega
    have az : a = n := by omega
    exact ⟨0, w, rfl, ⟨fun _ _ _ _ _ => rfl, fun _ _ => rfl, fun _ _ => ⟨rfl, rfl⟩, fun _ _ => rfl⟩, Or.inr ⟨rfl, a, ⟨ha, hok, Or.inr ⟨az, Or.inr hz⟩⟩, h15⟩⟩
end

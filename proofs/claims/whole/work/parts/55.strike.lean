/-! matches: what is meant; the class -/
/-- the first dark one (not small) is lit -/
def str (σ : St) (l : Nat) : Nat := l ||| (if nd (grown σ) l = 0 then 0 else 2 ^ lo (nd (grown σ) l))
/-- struck at minute m, l being lit at minute f: who is lit behind it -/
def hitM (σ : St) (f l m : Nat) : Nat := mnt σ (sA σ + m) (str σ (run σ (sA σ + f) l (m - f)))
def D1 (σ : St) (f l m : Nat) : Nat := run σ (sA σ + (m + 1)) (hitM σ f l m) (sD σ - sA σ - (m + 1))
def D2 (σ : St) (f l m m2 : Nat) : Nat := D1 σ (m + 1) (hitM σ f l m) m2
/-- cells that the search leaves alone -/
def Km (w w1 : Wd) : Prop := ∀ i, i ≠ 4 → i ≠ 25 → i ≠ 36 → w1.1 i = w.1 i
theorem lo_first : ∀ m, m < 256 → ∀ p, p < 8 → m.testBit p = true → (∀ q, q < p → m.testBit q = false) → lo m = p := by decide +kernel
section
variable {w w1 w2 : Wd} {σ τ : St} {b : Nat} {u : Nat → Nat}
theorem Km.tr {a c d : Wd} (h : Km a c) (h2 : Km c d) : Km a d := fun i h1 h3 h4 => (h2 i h1 h3 h4).trans (h i h1 h3 h4)
theorem Km.rf {a : Wd} : Km a a := fun _ _ _ _ => rfl
theorem Km.of {l : List (Nat × Option Nat)} (fr : Agree (pU l) w w1) (hl : (l.all fun q => q.1 == 4 || q.1 == 25) = true) : Km w w1 := fun i h1 h2 h3 => (fr.cell i (by
  rw [List.all_eq_true] at hl ⊢
  intro q hq
  have := hl q hq
  simp only [Bool.or_eq_true, beq_iff_eq, bne_iff_ne, ne_eq] at this ⊢
  omega)).1
theorem Km.co (h : Km w w1) (hC : CoIs w 1 σ) : CoIs w1 1 σ := hC.eq (h _ (by omega) (by omega) (by omega)) (h _ (by omega) (by omega) (by omega)) (h _ (by omega) (by omega) (by omega)) (h _ (by omega) (by omega) (by omega)) (h _ (by omega) (by omega) (by omega))
theorem str_gl {l : Nat} (h : GL σ l) (hg : good σ) : GL σ (str σ l) := by
  obtain ⟨h1, h2⟩ := h
  unfold str
  by_cases c : nd (grown σ) l = 0
  · rw [if_pos c, Nat.or_zero]; exact ⟨h1, h2⟩
  · rw [if_neg c]
    have h8 := hg.P
    have hm : nd (grown σ) l < 256 := lt256 (nd_lt grown_lt) h8
    have hb := lo_in _ hm (by omega)
    rw [nd_bit, Bool.and_eq_true, grown_bit, Bool.and_eq_true, decide_eq_true_eq, bne_iff_ne] at hb
    refine ⟨Nat.or_lt_two_pow h1 (Nat.pow_lt_pow_right (by decide) hb.1.1), fun q hq => ?_⟩
    rw [Nat.testBit_or, Bool.or_eq_true, Nat.testBit_two_pow, decide_eq_true_eq] at hq
    rcases hq with hq | hq
    · exact h2 q hq
    · rw [← hq]; exact hb.1.2
theorem hitM_gl {l : Nat} (h : GL σ l) (hg : good σ) (f m : Nat) : GL σ (hitM σ f l m) := (str_gl (h.run hg _ _ _) hg).mnt hg _
theorem D1_gl {l : Nat} (h : GL σ l) (hg : good σ) (f m : Nat) : GL σ (D1 σ f l m) := (hitM_gl h hg f m).run hg _ _ _
theorem D1_e {f l m : Nat} (hm : m < sD σ - sA σ) : run σ (sA σ + m) (str σ (run σ (sA σ + f) l (m - f))) (sD σ - sA σ - m) = D1 σ f l m := by
  have h := runU_add σ (uns σ) (sA σ + m) (str σ (run σ (sA σ + f) l (m - f))) 1 (sD σ - sA σ - (m + 1))
  rw [show 1 + (sD σ - sA σ - (m + 1)) = sD σ - sA σ - m by omega] at h
  exact h
theorem c_struck (h : w.1 4 1 = nI (grown σ)) (hg : good σ) {l : Nat} : fX6_struck w (nI l) = nI (str σ l) := by
  have h8 := hg.P
  have hm : nd (grown σ) l < 256 := lt256 (nd_lt grown_lt) h8
  unfold fX6_struck str
  rw [h, n_nd, lt_e]
  by_cases c : nd (grown σ) l = 0
  · rw [if_pos c, c, show nI 0 &&& -nI 0 = nI 0 by decide, n_or]
  · rw [if_neg c, lo_neg _ hm (by omega), n_or]
theorem c_one (hW : WkIs w σ) (hg : good σ) {f l x : Nat} (hl : GL σ l) (hf : f ≤ sD σ - sA σ) (hx : x < 3) : ∃ r w1, fX6_hasOneMatch w (nI f) (nI l) (nI x) = some (r, w1) ∧ WkIs w1 σ ∧ Km w w1 ∧ (∀ j, j ≠ x → w1.1 36 j = w.1 36 j) ∧ ((r = 0 ∧ ∀ m, f ≤ m → m < sD σ - sA σ → D1 σ f l m = 0) ∨ (r = 1 ∧ ∃ m, f ≤ m ∧ m < sD σ - sA σ ∧ D1 σ f l m ≠ 0 ∧ (∀ m', f ≤ m' → m' < m → D1 σ f l m' = 0) ∧ w1.1 36 x = nI m)) := by
  have hD := hg.D
  unfold fX6_hasOneMatch
  have main : ∃ y, iter (fun s : Int32 × Int32 × Wd => fX6_hasOneMatch_b6 (nI x) s.1 s.2.1 s.2.2) FU (nI l, nI f, w) = some y ∧ (WkIs y.2 σ ∧ Km w y.2 ∧ (∀ j, j ≠ x → y.2.1 36 j = w.1 36 j) ∧ ((y.1 = 0 ∧ ∀ m, f ≤ m → m < sD σ - sA σ → D1 σ f l m = 0) ∨ (y.1 = 1 ∧ ∃ m, f ≤ m ∧ m < sD σ - sA σ ∧ D1 σ f l m ≠ 0 ∧ (∀ m', f ≤ m' → m' < m → D1 σ f l m' = 0) ∧ y.2.1 36 x = nI m))) := by
    refine it (fun n (s : Int32 × Int32 × Wd) => s.1 = nI (run σ (sA σ + f) l n) ∧ s.2.1 = nI (f + n) ∧ WkIs s.2.2 σ ∧ Km w s.2.2 ∧ (∀ j, s.2.2.1 36 j = w.1 36 j) ∧ ∀ m, f ≤ m → m < f + n → D1 σ f l m = 0) _ (sD σ - sA σ - f) ⟨rfl, rfl, hW, Km.rf, fun _ => rfl, fun m h1 h2 => absurd h2 (by omega)⟩ ?_ ?_ (by omega)
    · rintro n ⟨y, z, v⟩ hn ⟨e1, e2, e3, e4, e5, e6⟩
      dsimp only at e1 e2 e3 e4 e5 e6
      subst e1; subst e2
      have gl : GL σ (run σ (sA σ + f) l n) := hl.run hg (uns σ) (sA σ + f) n
      have gs := str_gl gl hg
      obtain ⟨v1, b1, b2⟩ := c_atDoor e3 hg (m := f + n) gs.1 (by omega)
      have eD : run σ (sA σ + (f + n)) (str σ (run σ (sA σ + f) l n)) (sD σ - sA σ - (f + n)) = D1 σ f l (f + n) := by
        have := D1_e (σ := σ) (f := f) (l := l) (m := f + n) (by omega)
        rw [show f + n - f = n by omega] at this
        exact this
      have b1' : fX8_atDoorFrom v (nI (f + n)) (nI (str σ (run σ (sA σ + f) l n))) = some (nI (D1 σ f l (f + n)), v1) := by rw [← eD]; exact b1
      have k1 : Km v v1 := Km.of (rX8_atDoorFrom b1) (by decide)
      have k36 : v1.1 36 = v.1 36 := ((rX8_atDoorFrom b1).cell 36 (by decide)).1
      have hd := (D1_gl hl hg f (f + n)).p8 hg
      by_cases c : D1 σ f l (f + n) = 0
      · obtain ⟨v2, d1, -, -, -, d2⟩ := c_minute b2 hg (a := sA σ + (f + n)) gl.1 (by omega) (by omega)
        have k2 : Km v1 v2 := Km.of (rX8_minuteAt d1) (by decide)
        have k236 : v2.1 36 = v1.1 36 := ((rX8_minuteAt d1).cell 36 (by decide)).1
        refine Or.inl ⟨(nI (run σ (sA σ + f) l (n + 1)), nI (f + (n + 1)), v2), ?_, rfl, rfl, d2, (e4.tr k1).tr k2, fun j => by rw [k236, k36]; exact e5 j, fun m h1 h2 => ?_⟩
        · show fX6_hasOneMatch_b6 _ _ _ _ = _
          unfold fX6_hasOneMatch_b6
          rw [Wk.T e3, if_neg (by rw [n_le (by omega) (by omega)]; omega), c_struck e3.2.1 hg, b1', bd_e, un2_e, if_pos (by rw [c]; rfl), Wk.A b2, n_add, d1, bd_e, un2_e, nI_1, lt_e]
          show some (Sum.inl (nI (mntU σ (uns σ) (sA σ + (f + n)) (run σ (sA σ + f) l n)), _, _)) = some (Sum.inl (nI (mntU σ (uns σ) (sA σ + f + n) (run σ (sA σ + f) l n)), _, _))
          rw [Nat.add_assoc (sA σ) f n, Nat.add_assoc f n 1]
        · by_cases d : m = f + n
          · subst d; exact c
          · exact e6 m h1 (by omega)
      · refine Or.inr ⟨(1, upI v1 36 x (nI (f + n))), ?_, ?_, ?_, fun j hj => ?_, Or.inr ⟨rfl, f + n, by omega, by omega, c, e6, ?_⟩⟩
        · show fX6_hasOneMatch_b6 _ _ _ _ = _
          unfold fX6_hasOneMatch_b6
          rw [Wk.T e3, if_neg (by rw [n_le (by omega) (by omega)]; omega), c_struck e3.2.1 hg, b1', bd_e, un2_e, if_neg (by rw [c0, n_eq (by omega) (by decide)]; exact c), gdn hx (by decide), n_cl (by omega), lt_e]
        · exact WkU.keep b2 (l := [all_ 36]) (Agree.rf.pI rfl (Or.inr (List.mem_singleton.mpr rfl))) (by decide)
        · intro i h1 h2 h3
          dsimp only
          rw [upI_o _ _ _ _ h3]; exact (e4.tr k1) i h1 h2 h3
        · dsimp only
          rw [upI_k _ _ _ _ hj, k36]; exact e5 j
        · dsimp only
          rw [upI_s]
    · rintro ⟨y, z, v⟩ ⟨e1, e2, e3, e4, e5, e6⟩
      dsimp only at e1 e2 e3 e4 e5 e6
      subst e1; subst e2
      refine ⟨(0, v), ?_, e3, e4, fun j _ => e5 j, Or.inl ⟨rfl, fun m h1 h2 => e6 m h1 (by omega)⟩⟩
      show fX6_hasOneMatch_b6 _ _ _ _ = _
      unfold fX6_hasOneMatch_b6
      rw [Wk.T e3, if_pos (by rw [n_le (by omega) (by omega)]; omega)]
  obtain ⟨⟨r, v⟩, m1, m2, m3, m4, m5⟩ := main
  exact ⟨r, v, m1, m2, m3, m4, m5⟩
theorem c_two (hW : WkIs w σ) (hg : good σ) {f l x : Nat} (hl : GL σ l) (hf : f ≤ sD σ - sA σ) (hx : x < 2) : ∃ r w1, fX6_hasTwoMatches w (nI f) (nI l) (nI x) = some (r, w1) ∧ WkIs w1 σ ∧ Km w w1 ∧ (∀ j, j < x → w1.1 36 j = w.1 36 j) ∧ ((r = 0 ∧ ∀ m m2, f ≤ m → m < m2 → m2 < sD σ - sA σ → D2 σ f l m m2 = 0) ∨ (r = 1 ∧ ∃ m m2, f ≤ m ∧ m < m2 ∧ m2 < sD σ - sA σ ∧ D2 σ f l m m2 ≠ 0 ∧ (∀ m' m2', f ≤ m' → m' < m → m' < m2' → m2' < sD σ - sA σ → D2 σ f l m' m2' = 0) ∧ (∀ m2', m < m2' → m2' < m2 → D2 σ f l m m2' = 0) ∧ w1.1 36 x = nI m ∧ w1.1 36 (x + 1) = nI m2)) := by
  have hD := hg.D
  unfold fX6_hasTwoMatches
  have main : ∃ y, iter (fun s : Int32 × Int32 × Wd => fX6_hasTwoMatches_b6 (nI x) s.1 s.2.1 s.2.2) FU (nI l, nI f, w) = some y ∧ (WkIs y.2 σ ∧ Km w y.2 ∧ (∀ j, j < x → y.2.1 36 j = w.1 36 j) ∧ ((y.1 = 0 ∧ ∀ m m2, f ≤ m → m < m2 → m2 < sD σ - sA σ → D2 σ f l m m2 = 0) ∨ (y.1 = 1 ∧ ∃ m m2, f ≤ m ∧ m < m2 ∧ m2 < sD σ - sA σ ∧ D2 σ f l m m2 ≠ 0 ∧ (∀ m' m2', f ≤ m' → m' < m → m' < m2' → m2' < sD σ - sA σ → D2 σ f l m' m2' = 0) ∧ (∀ m2', m < m2' → m2' < m2 → D2 σ f l m m2' = 0) ∧ y.2.1 36 x = nI m ∧ y.2.1 36 (x + 1) = nI m2))) := by
    refine it (fun n (s : Int32 × Int32 × Wd) => s.1 = nI (run σ (sA σ + f) l n) ∧ s.2.1 = nI (f + n) ∧ WkIs s.2.2 σ ∧ Km w s.2.2 ∧ (∀ j, j < x → s.2.2.1 36 j = w.1 36 j) ∧ ∀ m m2, f ≤ m → m < f + n → m < m2 → m2 < sD σ - sA σ → D2 σ f l m m2 = 0) _ (sD σ - sA σ - f) ⟨rfl, rfl, hW, Km.rf, fun _ _ => rfl, fun m m2 h1 h2 => absurd h2 (by omega)⟩ ?_ ?_ (by omega)
    · rintro n ⟨y, z, v⟩ hn ⟨e1, e2, e3, e4, e5, e6⟩
      dsimp only at e1 e2 e3 e4 e5 e6
      subst e1; subst e2
      have gl : GL σ (run σ (sA σ + f) l n) := hl.run hg (uns σ) (sA σ + f) n
      have gs := str_gl gl hg
      obtain ⟨v1, b1, -, -, -, b2⟩ := c_minute e3 hg (a := sA σ + (f + n)) gs.1 (by omega) (by omega)
      have eh : mntU σ (uns σ) (sA σ + (f + n)) (str σ (run σ (sA σ + f) l n)) = hitM σ f l (f + n) := by
        unfold hitM
        rw [show f + n - f = n by omega]
      rw [eh] at b1
      have k1 : Km v v1 := Km.of (rX8_minuteAt b1) (by decide)
      have k36 : v1.1 36 = v.1 36 := ((rX8_minuteAt b1).cell 36 (by decide)).1
      obtain ⟨r, v2, d1, d2, d3, d4, d5⟩ := c_one b2 hg (f := f + n + 1) (x := x + 1) (hitM_gl hl hg f (f + n)) (by omega) (by omega)
      rcases d5 with ⟨rfl, d6⟩ | ⟨rfl, m2, q1, q2, q3, q4, q5⟩
      · obtain ⟨v3, g1, -, -, -, g2⟩ := c_minute d2 hg (a := sA σ + (f + n)) gl.1 (by omega) (by omega)
        have k3 : Km v2 v3 := Km.of (rX8_minuteAt g1) (by decide)
        have k336 : v3.1 36 = v2.1 36 := ((rX8_minuteAt g1).cell 36 (by decide)).1
        refine Or.inl ⟨(nI (run σ (sA σ + f) l (n + 1)), nI (f + (n + 1)), v3), ?_, rfl, rfl, g2, ((e4.tr k1).tr d3).tr k3, fun j hj => by rw [k336, d4 j (by omega), k36]; exact e5 j hj, fun m m2 h1 h2 h3 h4 => ?_⟩
        · show fX6_hasTwoMatches_b6 _ _ _ _ = _
          unfold fX6_hasTwoMatches_b6
          rw [Wk.T e3, if_neg (by rw [n_le (by omega) (by omega)]; omega), Wk.A e3, n_add, c_struck e3.2.1 hg, b1, bd_e, un2_e, nI_1, nI_1, d1, bd_e, un2_e, if_pos rfl, Wk.A d2, n_add, g1, bd_e, un2_e, lt_e]
          show some (Sum.inl (nI (mntU σ (uns σ) (sA σ + (f + n)) (run σ (sA σ + f) l n)), _, _)) = some (Sum.inl (nI (mntU σ (uns σ) (sA σ + f + n) (run σ (sA σ + f) l n)), _, _))
          rw [Nat.add_assoc (sA σ) f n, Nat.add_assoc f n 1]
        · by_cases d : m = f + n
          · subst d; exact d6 m2 (by omega) h4
          · exact e6 m m2 h1 (by omega) h3 h4
      · refine Or.inr ⟨(1, upI v2 36 x (nI (f + n))), ?_, ?_, ?_, fun j hj => ?_, Or.inr ⟨rfl, f + n, m2, by omega, by omega, q2, q3, e6, fun m2' h1 h2 => q4 m2' (by omega) h2, ?_, ?_⟩⟩
        · show fX6_hasTwoMatches_b6 _ _ _ _ = _
          unfold fX6_hasTwoMatches_b6
          rw [Wk.T e3, if_neg (by rw [n_le (by omega) (by omega)]; omega), Wk.A e3, n_add, c_struck e3.2.1 hg, b1, bd_e, un2_e, nI_1, nI_1, d1, bd_e, un2_e, if_neg (show ¬ (1 : Int32) = 0 by decide), gdn (by omega) (by decide), n_cl (by omega), lt_e]
        · exact WkU.keep d2 (l := [all_ 36]) (Agree.rf.pI rfl (Or.inr (List.mem_singleton.mpr rfl))) (by decide)
        · intro i h1 h2 h3
          dsimp only
          rw [upI_o _ _ _ _ h3]; exact ((e4.tr k1).tr d3) i h1 h2 h3
        · dsimp only
          rw [upI_k _ _ _ _ (by omega), d4 j (by omega), k36]; exact e5 j hj
        · dsimp only
          rw [upI_s]
        · dsimp only
          rw [upI_k _ _ _ _ (by omega)]; exact q5
    · rintro ⟨y, z, v⟩ ⟨e1, e2, e3, e4, e5, e6⟩
      dsimp only at e1 e2 e3 e4 e5 e6
      subst e1; subst e2
      refine ⟨(0, v), ?_, e3, e4, e5, Or.inl ⟨rfl, fun m m2 h1 h2 h3 => e6 m m2 h1 (by omega) h2 h3⟩⟩
      show fX6_hasTwoMatches_b6 _ _ _ _ = _
      unfold fX6_hasTwoMatches_b6
      rw [Wk.T e3, if_pos (by rw [n_le (by omega) (by omega)]; omega)]
  obtain ⟨⟨r, v⟩, m1, m2, m3, m4, m5⟩ := main
  exact ⟨r, v, m1, m2, m3, m4, m5⟩
def D3 (σ : St) (m m2 m3 : Nat) : Nat := D2 σ (m + 1) (hitM σ 0 (sL σ) m) m2 m3
/-- what the class finds: how many matches, and when (cell 36) -/
def FoC (σ : St) (r : Int32) (g : Nat → Int32) : Prop :=
  (r = 0 ∧ dN σ ≠ 0) ∨
  (dN σ = 0 ∧ ((r = 1 ∧ ∃ a, a < sD σ - sA σ ∧ D1 σ 0 (sL σ) a ≠ 0 ∧ (∀ a', a' < a → D1 σ 0 (sL σ) a' = 0) ∧ g 0 = nI a) ∨
  ((∀ a, a < sD σ - sA σ → D1 σ 0 (sL σ) a = 0) ∧ ((r = 2 ∧ ∃ a c, a < c ∧ c < sD σ - sA σ ∧ D2 σ 0 (sL σ) a c ≠ 0 ∧ (∀ a' c', a' < a → a' < c' → c' < sD σ - sA σ → D2 σ 0 (sL σ) a' c' = 0) ∧ (∀ c', a < c' → c' < c → D2 σ 0 (sL σ) a c' = 0) ∧ g 0 = nI a ∧ g 1 = nI c) ∨
  ((∀ a c, a < c → c < sD σ - sA σ → D2 σ 0 (sL σ) a c = 0) ∧ ((r = 3 ∧ ∃ a c d, a < c ∧ c < d ∧ d < sD σ - sA σ ∧ D3 σ a c d ≠ 0 ∧ (∀ a' c' d', a' < a → a' < c' → c' < d' → d' < sD σ - sA σ → D3 σ a' c' d' = 0) ∧ (∀ c' d', a < c' → c' < c → c' < d' → d' < sD σ - sA σ → D3 σ a c' d' = 0) ∧ (∀ d', c < d' → d' < d → D3 σ a c d' = 0) ∧ g 0 = nI a ∧ g 1 = nI c ∧ g 2 = nI d) ∨
  (r = -9 ∧ ∀ a c d, a < c → c < d → d < sD σ - sA σ → D3 σ a c d = 0)))))))
theorem c_fewestM (hC : CoIs w 1 σ) (hg : good σ) : ∃ r w1, fX6_fewestMatches w = some (r, w1) ∧ FoC σ r (w1.1 36) := by
  have hD := hg.D
  have hd := dN_lt hg
  have hpd := pop8 hd
  obtain ⟨v, a1, a2, a3, a4⟩ := c_start hC hg
  unfold fX6_fewestMatches
  rw [a1, bd_e, un2_e]
  by_cases c : dN σ = 0
  · rw [if_pos (by rw [c]; decide), a3.L, show (0 : Int32) = nI 0 from rfl]
    obtain ⟨r1, v1, b1, b2, b3, b4, b5⟩ := c_one a2 hg (f := 0) (x := 0) hg.gl (Nat.zero_le _) (by decide)
    rw [b1, bd_e, un2_e]
    rcases b5 with ⟨rfl, b6⟩ | ⟨rfl, a, q1, q2, q3, q4, q5⟩
    · rw [if_pos (show (0 : Int32) = nI 0 from rfl), (b3.co a3).L]
      have n1 : ∀ a, a < sD σ - sA σ → D1 σ 0 (sL σ) a = 0 := fun a ha => b6 a (Nat.zero_le _) ha
      obtain ⟨r2, v2, d1, d2, d3, d4, d5⟩ := c_two b2 hg (f := 0) (x := 0) hg.gl (Nat.zero_le _) (by decide)
      rw [d1, bd_e, un2_e]
      rcases d5 with ⟨rfl, d6⟩ | ⟨rfl, a, a2', q1, q2, q3, q4, q5, q6, q7, q8⟩
      · rw [if_pos (show (0 : Int32) = nI 0 from rfl)]
        have n2 : ∀ a c, a < c → c < sD σ - sA σ → D2 σ 0 (sL σ) a c = 0 := fun a c h1 h2 => d6 a c (Nat.zero_le _) h1 h2
        have k26 : ∀ m, m ≤ sD σ - sA σ → v2.1 26 m = nI (run σ (sA σ) (sL σ) m) := fun m hm => by rw [(b3.tr d3) 26 (by decide) (by decide) (by decide)]; exact a4 m hm
        have main : ∃ y, iter (fun s : Int32 × Wd => fX6_fewestMatches_b47 s.1 s.2) FU (nI 0, v2) = some y ∧ ((y.1 = 3 ∧ ∃ a c d, a < c ∧ c < d ∧ d < sD σ - sA σ ∧ D3 σ a c d ≠ 0 ∧ (∀ a' c' d', a' < a → a' < c' → c' < d' → d' < sD σ - sA σ → D3 σ a' c' d' = 0) ∧ (∀ c' d', a < c' → c' < c → c' < d' → d' < sD σ - sA σ → D3 σ a c' d' = 0) ∧ (∀ d', c < d' → d' < d → D3 σ a c d' = 0) ∧ y.2.1 36 0 = nI a ∧ y.2.1 36 1 = nI c ∧ y.2.1 36 2 = nI d) ∨ (y.1 = -9 ∧ ∀ a c d, a < c → c < d → d < sD σ - sA σ → D3 σ a c d = 0)) := by
          refine it (fun n (s : Int32 × Wd) => s.1 = nI n ∧ WkIs s.2 σ ∧ (∀ m, m ≤ sD σ - sA σ → s.2.1 26 m = nI (run σ (sA σ) (sL σ) m)) ∧ ∀ a c d, a < n → a < c → c < d → d < sD σ - sA σ → D3 σ a c d = 0) _ (sD σ - sA σ) ⟨rfl, d2, k26, fun a c d h => absurd h (Nat.not_lt_zero _)⟩ ?_ ?_ (by omega)
          · rintro n ⟨y, u⟩ hn ⟨e1, e2, e3, e4⟩
            dsimp only at e1 e2 e3 e4
            subst e1
            have gl : GL σ (run σ (sA σ) (sL σ) n) := hg.gl.run hg (uns σ) (sA σ) n
            have gs := str_gl gl hg
            obtain ⟨u1, f1, -, -, -, f2⟩ := c_minute e2 hg (a := sA σ + n) gs.1 (by omega) (by omega)
            have eh : mntU σ (uns σ) (sA σ + n) (str σ (run σ (sA σ) (sL σ) n)) = hitM σ 0 (sL σ) n := rfl
            rw [eh] at f1
            have k1 : Km u u1 := Km.of (rX8_minuteAt f1) (by decide)
            obtain ⟨r3, u2, g1, g2, g3, g4, g5⟩ := c_two f2 hg (f := n + 1) (x := 1) (hitM_gl hg.gl hg 0 n) (by omega) (by decide)
            have g1' : fX6_hasTwoMatches u1 (nI (n + 1)) (nI (hitM σ 0 (sL σ) n)) 1 = some (r3, u2) := g1
            rcases g5 with ⟨rfl, g6⟩ | ⟨rfl, m, m2, q1, q2, q3, q4, q5, q6, q7, q8⟩
            · refine Or.inl ⟨(nI (n + 1), u2), ?_, rfl, g2, fun m hm => by rw [(k1.tr g3) 26 (by decide) (by decide) (by decide)]; exact e3 m hm, fun a c d h1 h2 h3 h4 => ?_⟩
              · show fX6_fewestMatches_b47 _ _ = _
                unfold fX6_fewestMatches_b47
                rw [Wk.T e2, if_neg (by rw [n_le (by omega) (by omega)]; omega), gdn (by omega) (by decide), n_cl (by omega), e3 n (by omega), Wk.A e2, n_add, c_struck e2.2.1 hg, f1, bd_e, un2_e, nI_1, g1', bd_e, un2_e, if_pos rfl, lt_e]
              · by_cases da : a = n
                · subst da; exact g6 c d (by omega) h3 h4
                · exact e4 a c d (by omega) h2 h3 h4
            · refine Or.inr ⟨(3, upI u2 36 0 (nI n)), ?_, Or.inl ⟨rfl, n, m, m2, by omega, q2, q3, q4, fun a' c' d' h1 h2 h3 h4 => e4 a' c' d' h1 h2 h3 h4, fun c' d' h1 h2 h3 h4 => q5 c' d' (by omega) h2 h3 h4, q6, upI_s _ _ _ _, ?_, ?_⟩⟩
              · show fX6_fewestMatches_b47 _ _ = _
                unfold fX6_fewestMatches_b47
                rw [Wk.T e2, if_neg (by rw [n_le (by omega) (by omega)]; omega), gdn (by omega) (by decide), n_cl (by omega), e3 n (by omega), Wk.A e2, n_add, c_struck e2.2.1 hg, f1, bd_e, un2_e, nI_1, g1', bd_e, un2_e, if_neg (show ¬ (1 : Int32) = 0 by decide), lt_e]
              · dsimp only
                rw [upI_k _ _ _ _ (by decide)]; exact q7
              · dsimp only
                rw [upI_k _ _ _ _ (by decide)]; exact q8
          · rintro ⟨y, u⟩ ⟨e1, e2, e3, e4⟩
            dsimp only at e1 e2 e3 e4
            subst e1
            refine ⟨(-9, u), ?_, Or.inr ⟨rfl, fun a c d h1 h2 h3 => e4 a c d (by omega) h1 h2 h3⟩⟩
            show fX6_fewestMatches_b47 _ _ = _
            unfold fX6_fewestMatches_b47
            rw [Wk.T e2, if_pos (Int32.le_refl _)]
        obtain ⟨⟨y, u⟩, m1, m2⟩ := main
        dsimp only at m2
        rw [m1]
        exact ⟨y, u, rfl, Or.inr ⟨c, Or.inr ⟨n1, Or.inr ⟨n2, m2⟩⟩⟩⟩
      · rw [if_neg (show ¬ (1 : Int32) = nI 0 by decide)]
        exact ⟨2, v2, rfl, Or.inr ⟨c, Or.inr ⟨n1, Or.inl ⟨rfl, a, a2', q2, q3, q4, fun a' c' h1 h2 h3 => q5 a' c' (Nat.zero_le _) h1 h2 h3, q6, q7, q8⟩⟩⟩⟩
    · rw [if_neg (show ¬ (1 : Int32) = nI 0 by decide)]
      exact ⟨1, v1, rfl, Or.inr ⟨c, Or.inl ⟨rfl, a, q2, q3, fun a' h => q4 a' (Nat.zero_le _) h, q5⟩⟩⟩
  · have hp : pop (dN σ) ≠ 0 := fun h => c ((pop_0 _ hd).mp h)
    rw [if_neg (by rw [c0, n_le (by omega) (by decide)]; omega)]
    exact ⟨0, v, rfl, Or.inl ⟨rfl, c⟩⟩
end

/-! matches: the reference -/
/-- at minute k: a match for each i below n with mt i = k -/
def sti (σ : St) (mt : Nat → Nat) (k l : Nat) : Nat → Nat
  | 0 => l
  | i + 1 => if mt i = k then str σ (sti σ mt k l i) else sti σ mt k l i
/-- who is lit after n minutes with these matches -/
def fiR (σ : St) (mt : Nat → Nat) (many : Nat) : Nat → Nat
  | 0 => sL σ
  | n + 1 => mnt σ (sA σ + n) (sti σ mt n (fiR σ mt many n) many)
def dq (n k : Nat) : Nat → Nat
  | 0 => k
  | t + 1 => dq n k t / n
def eN (n k t : Nat) : Nat := dq n k t % n
def riN (e : Nat → Nat) : Nat → Nat
  | 0 => 1
  | j + 1 => if j = 0 ∨ e j < e (j - 1) then riN e j else 0
def mtk (n many k i : Nat) : Nat := eN n k (many - 1 - i)
/-- the k-th choice of minutes rises and does light -/
def Gd (σ : St) (many k : Nat) : Prop := riN (eN (sD σ - sA σ) k) many = 1 ∧ fiR σ (mtk (sD σ - sA σ) many k) many (sD σ - sA σ) ≠ 0
section
variable {w w1 w2 : Wd} {σ τ : St} {b : Nat} {u : Nat → Nat} {mt : Nat → Nat}
theorem sti_gl {l : Nat} (h : GL σ l) (hg : good σ) (mt : Nat → Nat) (k : Nat) : ∀ i, GL σ (sti σ mt k l i)
  | 0 => h
  | i + 1 => by
    unfold sti
    split
    · exact str_gl (sti_gl h hg mt k i) hg
    · exact sti_gl h hg mt k i
theorem fiR_gl (hg : good σ) (mt : Nat → Nat) (many : Nat) : ∀ n, GL σ (fiR σ mt many n)
  | 0 => hg.gl
  | n + 1 => (sti_gl (fiR_gl hg mt many n) hg mt n many).mnt hg _
theorem Ga.one {k a l M : Nat} {u : Wd} (h : Ga w k σ (aw σ a l M) u) (hg : good σ) (hl : GL σ l) : ∃ u1, fX10_lightsOne u = some u1 ∧ Ga w k σ (aw σ a (str σ l) M) u1 := by
  have h8 := hg.P
  have hl8 := hl.p8 hg
  have hP : u.1 42 6 = nI (sP σ) := h.1.P
  have hL : u.1 42 7 = nI l := h.1.L
  have hm : nd (grown σ) l < 256 := lt256 (nd_lt grown_lt) h8
  have main : ∃ x, iter (fun s : Int32 => fX10_lightsOne_b2 u s) FU (0 : Int32) = some x ∧ ((nd (grown σ) l = 0 ∧ x = u) ∨ x = upI u 42 7 (nI (str σ l))) := by
    refine it (fun p s => s = nI p ∧ ∀ q, q < p → (nd (grown σ) l).testBit q = false) _ (sP σ) ⟨rfl, fun q hq => absurd hq (Nat.not_lt_zero _)⟩ ?_ ?_ (by omega)
    · rintro p s hp ⟨e1, e2⟩
      subst e1
      have hk7 := hg.K p
      have hK : u.1 45 p = nI (sK σ p) := h.1.K (by omega)
      have go : (nd (grown σ) l).testBit p = false → ∀ q, q < p + 1 → (nd (grown σ) l).testBit q = false := fun hn q hq => by
        by_cases d : q = p
        · subst d; exact hn
        · exact e2 q (by omega)
      by_cases hk : sK σ p = 6
      · refine Or.inl ⟨nI (p + 1), ?_, rfl, go (by rw [nd_bit, grown_bit]; simp [hk])⟩
        show fX10_lightsOne_b2 _ _ = _
        unfold fX10_lightsOne_b2
        rw [hP, if_neg (by rw [n_le (by omega) (by omega)]; omega), gdn (by omega) (by decide), n_cl (by omega), hK, hk, if_pos (show nI 6 = (6 : Int32) from rfl), nI_1, lt_e]
      · have hne : ¬ nI (sK σ p) = 6 := by rw [c6, n_eq (by omega) (by decide)]; exact hk
        by_cases c : l.testBit p = true
        · refine Or.inl ⟨nI (p + 1), ?_, rfl, go (by rw [nd_bit, c]; simp)⟩
          show fX10_lightsOne_b2 _ _ = _
          unfold fX10_lightsOne_b2
          rw [hP, if_neg (by rw [n_le (by omega) (by omega)]; omega), gdn (by omega) (by decide), n_cl (by omega), hK, if_neg hne, hL, hasm (by omega) (by omega), if_pos c, if_neg (by decide), nI_1, lt_e]
        · have hb : (nd (grown σ) l).testBit p = true := by
            rw [nd_bit, grown_bit]
            simp [hp, hk, c]
          have hlo : lo (nd (grown σ) l) = p := lo_first _ hm p (by omega) hb e2
          have hn0 : nd (grown σ) l ≠ 0 := fun hz => by rw [hz, Nat.zero_testBit] at hb; cases hb
          have hst : str σ l = l ||| 2 ^ p := by
            unfold str
            rw [if_neg hn0, hlo]
          refine Or.inr ⟨upI u 42 7 (nI (str σ l)), ?_, Or.inr rfl⟩
          show fX10_lightsOne_b2 _ _ = _
          unfold fX10_lightsOne_b2
          rw [hP, if_neg (by rw [n_le (by omega) (by omega)]; omega), gdn (by omega) (by decide), n_cl (by omega), hK, if_neg hne, hL, hasm (by omega) (by omega), if_neg c, if_pos rfl, sh_p p (by omega), n_or, lt_e, hst]
    · rintro s ⟨e1, e2⟩
      subst e1
      refine ⟨u, ?_, Or.inl ⟨bits_ext fun q => ?_, rfl⟩⟩
      · show fX10_lightsOne_b2 _ _ = _
        unfold fX10_lightsOne_b2
        rw [hP, if_pos (by rw [n_le (by omega) (by omega)]; omega)]
      · rw [Nat.zero_testBit]
        by_cases hq : q < sP σ
        · exact e2 q hq
        · rw [nd_bit, grown_bit]
          simp [hq]
  obtain ⟨x, m1, m2⟩ := main
  refine ⟨x, m1, ?_⟩
  rcases m2 with ⟨hz, rfl⟩ | rfl
  · have : str σ l = l := by
      unfold str
      rw [if_pos hz, Nat.or_zero]
    rw [this]
    exact h
  · exact (h.lit (v := str σ l)).cg (wr_aw _ _ _ _ _)
theorem m_strikes {k a l M n many : Nat} {v : Wd} (h : Ga w k σ (aw σ a l M) v) (hg : good σ) (hl : GL σ l) (hn : many ≤ 3) (hk : n < 1000) (h66 : ∀ i, i < many → v.1 66 i = nI (mt i)) (hmt : ∀ i, i < many → mt i < 1000) : ∃ v1, iter (fun s : Int32 × Wd => fX10_doesLight_b21 (nI many) (nI n) s.1 s.2) FU (0, v) = some v1 ∧ Ga w k σ (aw σ a (sti σ mt n l many) M) v1 ∧ v1.1 66 = v.1 66 := by
  refine itn (fun i (s : Int32 × Wd) => s.1 = nI i ∧ Ga w k σ (aw σ a (sti σ mt n l i) M) s.2 ∧ s.2.1 66 = v.1 66) _ many ⟨rfl, h, rfl⟩ ?_ ?_ (by omega)
  · rintro i ⟨x, u⟩ hi ⟨e1, e2, e3⟩
    dsimp only at e1 e2 e3
    subst e1
    have hmi := hmt i hi
    by_cases c : mt i = n
    · obtain ⟨u1, b1, b2⟩ := e2.one hg (sti_gl hl hg mt n i)
      refine ⟨(nI (i + 1), u1), ?_, rfl, ?_, ?_⟩
      · show fX10_doesLight_b21 _ _ _ _ = _
        unfold fX10_doesLight_b21
        rw [if_neg (by rw [n_le (by omega) (by omega)]; omega), gdn (by omega) (by decide), n_cl (by omega), e3, h66 i hi, if_pos (by rw [c]), b1, bd_e, nI_1, lt_e]
      · rw [show sti σ mt n l (i + 1) = str σ (sti σ mt n l i) from if_pos c]; exact b2
      · dsimp only
        rw [((rX10_lightsOne b1).cell 66 (by decide)).1]; exact e3
    · refine ⟨(nI (i + 1), u), ?_, rfl, ?_, e3⟩
      · show fX10_doesLight_b21 _ _ _ _ = _
        unfold fX10_doesLight_b21
        rw [if_neg (by rw [n_le (by omega) (by omega)]; omega), gdn (by omega) (by decide), n_cl (by omega), e3, h66 i hi, if_neg (by rw [n_eq (by omega) (by omega)]; exact c), nI_1, lt_e]
      · rw [show sti σ mt n l (i + 1) = sti σ mt n l i from if_neg c]; exact e2
  · rintro ⟨x, u⟩ ⟨e1, e2, e3⟩
    dsimp only at e1 e2 e3
    subst e1
    refine ⟨u, ?_, e2, e3⟩
    show fX10_doesLight_b21 _ _ _ _ = _
    unfold fX10_doesLight_b21
    rw [if_pos (by rw [n_le (by omega) (by omega)]; omega)]
theorem m_doesLight (hM : MoIs w σ) (hg : good σ) (hm : sM σ ≤ 1200) {many : Nat} (hn : many ≤ 3) (h66 : ∀ i, i < many → w.1 66 i = nI (mt i)) (hmt : ∀ i, i < many → mt i < 1000) : ∃ w1, fX10_doesLight w (nI many) = some (if fiR σ mt many (sD σ - sA σ) = 0 then 0 else 1, w1) ∧ MoIs w1 σ ∧ Mq w w1 ∧ w1.1 66 = w.1 66 := by
  have hD := hg.D
  have hA := hg.A
  obtain ⟨v, a1, a2, a3, a4⟩ := ga_save1 hM
  have v66 : v.1 66 = w.1 66 := a4 66 (by decide) (by decide)
  have main : ∃ x, iter (fun s : Int32 × Wd => fX10_doesLight_b8 (nI many) s.1 s.2) FU (0, v) = some x ∧ Ga w 1 σ (aw σ (sA σ + (sD σ - sA σ)) (fiR σ mt many (sD σ - sA σ)) (sM σ + (sD σ - sA σ))) x ∧ x.1 66 = w.1 66 := by
    refine itn (fun n (s : Int32 × Wd) => s.1 = nI n ∧ Ga w 1 σ (aw σ (sA σ + n) (fiR σ mt many n) (sM σ + n)) s.2 ∧ s.2.1 66 = w.1 66) _ (sD σ - sA σ) ⟨rfl, a2.cg (aw_self σ).symm, v66⟩ ?_ ?_ (by omega)
    · rintro n ⟨x, u⟩ hnT ⟨e1, e2, e3⟩
      dsimp only at e1 e2 e3
      subst e1
      have gl := fiR_gl hg mt many n
      obtain ⟨u1, b1, b2, b3⟩ := m_strikes (mt := mt) (n := n) (many := many) e2 hg gl hn (by omega) (fun i hi => by rw [e3]; exact h66 i hi) hmt
      obtain ⟨u2, d1, d2⟩ := b2.go ((sti_gl gl hg mt n many).g hg (by omega) (by omega)) (by omega) 0
      rw [if_pos rfl] at d2
      refine ⟨(nI (n + 1), u2), ?_, rfl, d2, ?_⟩
      · show fX10_doesLight_b8 _ _ _ = _
        unfold fX10_doesLight_b8 fX10_doorAt
        rw [show u.1 44 2 = nI (sD σ) from e2.1.D, show u.1 42 8 = nI (sA σ + n) from e2.1.A, if_neg (by rw [n_le (by omega) (by omega)]; omega), b1, bd_e, d1, bd_e, nI_1, lt_e]
      · dsimp only
        rw [((rX10_goes d1).cell 66 (by decide)).1, b3]; exact e3
    · rintro ⟨x, u⟩ ⟨e1, e2, e3⟩
      dsimp only at e1 e2 e3
      subst e1
      refine ⟨u, ?_, e2, e3⟩
      show fX10_doesLight_b8 _ _ _ = _
      unfold fX10_doesLight_b8 fX10_doorAt
      rw [show u.1 44 2 = nI (sD σ) from e2.1.D, show u.1 42 8 = nI (sA σ + (sD σ - sA σ)) from e2.1.A, if_pos (by rw [n_le (by omega) (by omega)]; omega)]
  obtain ⟨x, m1, m2, m3⟩ := main
  have hd := (fiR_gl hg mt many (sD σ - sA σ)).p8 hg
  obtain ⟨v2, f1, f2, f3, -, f5, -⟩ := m2.rest1
  refine ⟨v2, ?_, f2, f3, by rw [f5 66 (by decide), m3]⟩
  unfold fX10_doesLight
  rw [a1, bd_e, m1, bd_e, show x.1 42 7 = nI (fiR σ mt many (sD σ - sA σ)) from m2.1.L]
  have e : (if nI (fiR σ mt many (sD σ - sA σ)) = 0 then (0 : Int32) else 1) = if fiR σ mt many (sD σ - sA σ) = 0 then 0 else 1 := by
    by_cases c : fiR σ mt many (sD σ - sA σ) = 0
    · rw [if_pos (by rw [c]; rfl), if_pos c]
    · rw [if_neg (by rw [c0, n_eq (by omega) (by decide)]; exact c), if_neg c]
  rw [e, lt_e, f1, bd_e, gd_t (by split <;> rfl)]
theorem dq_le (n k : Nat) : ∀ t, dq n k t ≤ k
  | 0 => Nat.le_refl _
  | t + 1 => Nat.le_trans (Nat.div_le_self _ _) (dq_le n k t)
theorem riN_le (e : Nat → Nat) : ∀ j, riN e j ≤ 1
  | 0 => Nat.le_refl _
  | j + 1 => by
    unfold riN
    split
    · exact riN_le e j
    · omega
/-- the digits of k are laid into the row -/
theorem m_digits {many k : Nat} (hT2 : sD σ - sA σ ≤ 24) (hn : many ≤ 3) (hk : k < 100000) (hT' : 1 ≤ sD σ - sA σ ∨ many = 0) (v : Wd) : ∃ x, iter (fun s : Int32 × Int32 × Int32 × Wd => fX10_findMatches_b52 (nI (sD σ - sA σ)) (nI many) s.1 s.2.1 s.2.2.1 s.2.2.2) FU (nI k, 1, nI many + (-1), v) = some x ∧ x.1 = nI (riN (eN (sD σ - sA σ) k) many) ∧ (∀ i, i < many → x.2.1 66 i = nI (mtk (sD σ - sA σ) many k i)) ∧ ∀ i, i ≠ 66 → x.2.1 i = v.1 i := by
  refine itn (fun j (s : Int32 × Int32 × Int32 × Wd) => s.1 = nI (dq (sD σ - sA σ) k j) ∧ s.2.1 = nI (riN (eN (sD σ - sA σ) k) j) ∧ s.2.2.1 = nI (many - j) + (-1) ∧ (∀ t, t < j → s.2.2.2.1 66 (many - 1 - t) = nI (eN (sD σ - sA σ) k t)) ∧ ∀ i, i ≠ 66 → s.2.2.2.1 i = v.1 i) _ many ⟨rfl, rfl, rfl, fun t ht => absurd ht (Nat.not_lt_zero _), fun _ _ => rfl⟩ ?_ ?_ (by omega)
  · rintro j ⟨x, y, z, u⟩ hj ⟨e1, e2, e3, e4, e5⟩
    dsimp only at e1 e2 e3 e4 e5
    subst e1; subst e2; subst e3
    have hT1 : 1 ≤ sD σ - sA σ := by omega
    generalize sD σ - sA σ = T at *
    have hq := dq_le T k j
    have hme : eN T k j < T := Nat.mod_lt _ (by omega)
    have hz : (!(nI T == 0)) = true := by
      have : ¬ nI T = 0 := by rw [c0, n_eq (by omega) (by decide)]; omega
      simp [this]
    have hri := riN_le (eN T k) j
    refine ⟨(nI (dq T k (j + 1)), nI (riN (eN T k) (j + 1)), nI (many - (j + 1)) + (-1), upI u 66 (many - j - 1) (nI (eN T k j))), ?_, rfl, rfl, rfl, fun t ht => ?_, fun i hi => ?_⟩
    · show fX10_findMatches_b52 _ _ _ _ _ _ = _
      unfold fX10_findMatches_b52
      rw [n_m1 (by omega), if_neg (nI_pos (by omega)), gd_t hz, gdn (by omega) (by decide), n_cl (by omega), n_rem (by omega) (by omega) (by omega), lt_e, n_div (by omega) (by omega) (by omega), lt_e]
      have hcond : (if nI (many - j - 1) = nI many - 1 then some (1 : Int32) else gd_ (ib (nI (many - j - 1) + 1) 3) <| if ((upI u 66 (many - j - 1) (nI (dq T k j % T))).1 66 (nI (many - j - 1) + 1).toNatClampNeg) ≤ ((upI u 66 (many - j - 1) (nI (dq T k j % T))).1 66 (many - j - 1)) then some (0 : Int32) else some (1 : Int32) : Option Int32) = some (nI (if j = 0 ∨ eN T k j < eN T k (j - 1) then 1 else 0)) := by
        rw [show (1 : Int32) = nI 1 from rfl, n_sub (by omega)]
        by_cases d : j = 0
        · subst d
          rw [if_pos (by rw [show many - 0 - 1 = many - 1 by omega]), if_pos (Or.inl rfl)]
        · have he := e4 (j - 1) (by omega)
          rw [show many - 1 - (j - 1) = many - j - 1 + 1 by omega] at he
          have hme2 : eN T k (j - 1) < T := Nat.mod_lt _ (by omega)
          rw [if_neg (by rw [n_eq (by omega) (by omega)]; omega), n_add, gdn (by omega) (by decide), n_cl (by omega), upI_s, upI_k _ _ _ _ (by omega), he]
          have : dq T k j % T = eN T k j := rfl
          rw [this]
          by_cases f : eN T k j < eN T k (j - 1)
          · rw [if_neg (by rw [n_le (by omega) (by omega)]; omega), if_pos (Or.inr f)]
          · rw [if_pos (by rw [n_le (by omega) (by omega)]; omega), if_neg (by rintro (h | h); exact d h; exact f h)]; rfl
      rw [hcond, bd_e, n_and]
      have hand : riN (eN T k) j &&& (if j = 0 ∨ eN T k j < eN T k (j - 1) then 1 else 0) = riN (eN T k) (j + 1) := by
        show _ = if j = 0 ∨ eN T k j < eN T k (j - 1) then riN (eN T k) j else 0
        by_cases f : j = 0 ∨ eN T k j < eN T k (j - 1)
        · rw [if_pos f, if_pos f]
          rcases (by omega : riN (eN T k) j = 0 ∨ riN (eN T k) j = 1) with h | h <;> rw [h] <;> rfl
        · rw [if_neg f, if_neg f, Nat.and_zero]
      rw [hand, lt_e, lt_e]
      rfl
    · dsimp only
      by_cases d : t = j
      · subst d
        rw [show many - 1 - t = many - t - 1 by omega, upI_s]
      · rw [upI_k _ _ _ _ (by omega)]; exact e4 t (by omega)
    · dsimp only
      rw [upI_o _ _ _ _ hi]; exact e5 i hi
  · rintro ⟨x, y, z, u⟩ ⟨e1, e2, e3, e4, e5⟩
    dsimp only at e1 e2 e3 e4 e5
    subst e1; subst e2; subst e3
    refine ⟨(nI (riN (eN (sD σ - sA σ) k) many), u), ?_, rfl, fun i hi => ?_, e5⟩
    · show fX10_findMatches_b52 _ _ _ _ _ _ = _
      unfold fX10_findMatches_b52
      rw [Nat.sub_self, if_pos (show nI 0 + (-1) < (0 : Int32) by decide)]
    · have h := e4 (many - 1 - i) (by omega)
      rw [show many - 1 - (many - 1 - i) = i by omega] at h
      exact h
theorem pw3 {n many : Nat} (hn : n ≤ 24) (hm : many ≤ 3) : n ^ many < 20000 := by
  have h1 : n ^ many ≤ 24 ^ many := Nat.pow_le_pow_left hn many
  have h2 : 24 ^ many ≤ 24 ^ 3 := Nat.pow_le_pow_right (by decide) hm
  have h3 : 24 ^ 3 = 13824 := by decide
  omega
theorem m_find (hM : MoIs w σ) (hg : good σ) (hm : sM σ ≤ 1200) {many : Nat} (hn : many ≤ 3) : ∃ r w1, fX10_findMatches w (nI many) = some (r, w1) ∧ MoIs w1 σ ∧ Mq w w1 ∧ ((r = 0 ∧ ∀ k, k < (sD σ - sA σ) ^ many → ¬ Gd σ many k) ∨ (r = 1 ∧ ∃ k, k < (sD σ - sA σ) ^ many ∧ Gd σ many k ∧ (∀ k', k' < k → ¬ Gd σ many k') ∧ ∀ i, i < many → w1.1 66 i = nI (mtk (sD σ - sA σ) many k i))) := by
  have hD := hg.D
  have hA := hg.A
  have hpw := pw3 (n := sD σ - sA σ) (by omega) hn
  have hall : iter (fun s : Int32 × Int32 => fX10_findMatches_b15 (nI many) (nI (sD σ - sA σ)) s.1 s.2) FU (1, 0) = some (nI ((sD σ - sA σ) ^ many)) := by
    refine itf (fun i => (nI ((sD σ - sA σ) ^ i), nI i)) (nI ((sD σ - sA σ) ^ many)) many rfl (fun i hi => ?_) ?_ (by omega)
    · show fX10_findMatches_b15 _ _ _ _ = _
      unfold fX10_findMatches_b15
      rw [if_neg (by rw [n_le (by omega) (by omega)]; omega), n_mul, lt_e, nI_1, lt_e, Nat.pow_succ]
    · show fX10_findMatches_b15 _ _ _ _ = _
      unfold fX10_findMatches_b15
      rw [if_pos (by rw [n_le (by omega) (by omega)]; omega)]
  have main : ∃ x, iter (fun s : Int32 × Wd => fX10_findMatches_b34 (nI ((sD σ - sA σ) ^ many)) (nI many) (nI (sD σ - sA σ)) s.1 s.2) FU (0, w) = some x ∧ (MoIs x.2 σ ∧ Mq w x.2 ∧ ((x.1 = 0 ∧ ∀ k, k < (sD σ - sA σ) ^ many → ¬ Gd σ many k) ∨ (x.1 = 1 ∧ ∃ k, k < (sD σ - sA σ) ^ many ∧ Gd σ many k ∧ (∀ k', k' < k → ¬ Gd σ many k') ∧ ∀ i, i < many → x.2.1 66 i = nI (mtk (sD σ - sA σ) many k i)))) := by
    refine it (fun k (s : Int32 × Wd) => s.1 = nI k ∧ MoIs s.2 σ ∧ Mq w s.2 ∧ ∀ k', k' < k → ¬ Gd σ many k') _ ((sD σ - sA σ) ^ many) ⟨rfl, hM, Ag.rf, fun k hk => absurd hk (Nat.not_lt_zero _)⟩ ?_ ?_ (by omega)
    · rintro k ⟨x, u⟩ hk ⟨e1, e2, e3, e4⟩
      dsimp only at e1 e2 e3 e4
      subst e1
      have hT1 : 1 ≤ sD σ - sA σ ∨ many = 0 := by
        rcases Nat.eq_zero_or_pos (sD σ - sA σ) with h | h
        · refine Or.inr ?_
          rcases Nat.eq_zero_or_pos many with h2 | h2
          · exact h2
          · rw [h, Nat.zero_pow h2] at hk; exact absurd hk (Nat.not_lt_zero _)
        · exact Or.inl h
      obtain ⟨⟨r, u1⟩, b1, b2, b3, b4⟩ := m_digits (σ := σ) (many := many) (k := k) (by omega) hn (by omega) hT1 u
      dsimp only at b2 b3 b4
      have q1 : Mq u u1 := Mq.one (i := 66) (by decide) b4
      have hM1 : MoIs u1 σ := by
        obtain ⟨t1, t2, t3, t4, t5, t6⟩ := e2
        refine ⟨?_, ?_, ?_, ?_, ?_, ?_⟩
        · rw [b4 44 (by decide)]; exact t1
        · rw [b4 42 (by decide)]; exact t2
        · rw [b4 45 (by decide)]; exact t3
        · rw [b4 46 (by decide)]; exact t4
        · rw [b4 47 (by decide)]; exact t5
        · rw [b4 48 (by decide)]; exact t6
      have hri := riN_le (eN (sD σ - sA σ) k) many
      have hnle : ¬ nI ((sD σ - sA σ) ^ many) ≤ nI k := by rw [n_le (by omega) (by omega)]; omega
      have nx : ¬ Gd σ many k → ∀ k', k' < k + 1 → ¬ Gd σ many k' := fun hk k' hk' => by
        by_cases d : k' = k
        · subst d; exact hk
        · exact e4 k' (by omega)
      by_cases c : riN (eN (sD σ - sA σ) k) many = 1
      · have hmt : ∀ i, i < many → mtk (sD σ - sA σ) many k i < 1000 := fun i hi => by
          have : mtk (sD σ - sA σ) many k i < sD σ - sA σ := Nat.mod_lt _ (by omega)
          omega
        obtain ⟨u2, d1, d2, d3, d4⟩ := m_doesLight hM1 hg hm hn b3 hmt
        by_cases z : fiR σ (mtk (sD σ - sA σ) many k) many (sD σ - sA σ) = 0
        · refine Or.inl ⟨(nI (k + 1), u2), ?_, rfl, d2, (e3.tr q1).tr d3, nx (fun h => h.2 z)⟩
          show fX10_findMatches_b34 _ _ _ _ _ = _
          unfold fX10_findMatches_b34
          rw [if_neg hnle, i_m1, lt_e, b1, bd_e, un2_e, b2, c, if_neg (show ¬ nI 1 = 0 by decide), d1, bd_e, un2_e, if_pos z, if_pos rfl, nI_1, lt_e]
        · refine Or.inr ⟨(1, u2), ?_, d2, (e3.tr q1).tr d3, Or.inr ⟨rfl, k, hk, ⟨c, z⟩, e4, fun i hi => by rw [d4]; exact b3 i hi⟩⟩
          show fX10_findMatches_b34 _ _ _ _ _ = _
          unfold fX10_findMatches_b34
          rw [if_neg hnle, i_m1, lt_e, b1, bd_e, un2_e, b2, c, if_neg (show ¬ nI 1 = 0 by decide), d1, bd_e, un2_e, if_neg z, if_neg (by decide)]
      · refine Or.inl ⟨(nI (k + 1), u1), ?_, rfl, hM1, e3.tr q1, nx (fun h => c h.1)⟩
        have c0' : riN (eN (sD σ - sA σ) k) many = 0 := by omega
        show fX10_findMatches_b34 _ _ _ _ _ = _
        unfold fX10_findMatches_b34
        rw [if_neg hnle, i_m1, lt_e, b1, bd_e, un2_e, b2, c0', if_pos (show nI 0 = 0 from rfl), nI_1, lt_e]
    · rintro ⟨x, u⟩ ⟨e1, e2, e3, e4⟩
      dsimp only at e1 e2 e3 e4
      subst e1
      refine ⟨(0, u), ?_, e2, e3, Or.inl ⟨rfl, e4⟩⟩
      show fX10_findMatches_b34 _ _ _ _ _ = _
      unfold fX10_findMatches_b34
      rw [if_pos (Int32.le_refl _)]
  obtain ⟨⟨r, u⟩, m1, m2, m3, m4⟩ := main
  refine ⟨r, u, ?_, m2, m3, m4⟩
  unfold fX10_findMatches fX10_doorAt
  rw [hM.D, hM.A, n_sub hA, lt_e, hall, bd_e, m1]
end

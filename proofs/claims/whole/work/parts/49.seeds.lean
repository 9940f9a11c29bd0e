/-! seeds -/
theorem io (x : Int32) (n : Nat) (hn : n < 1000) : (fX9_isOutside x (nI n) = 1 ∧ fX10_isIn x 0 (nI n) = 0) ∨ (fX9_isOutside x (nI n) = 0 ∧ fX10_isIn x 0 (nI n) = 1 ∧ ∃ p, p ≤ n ∧ x = nI p) := by
  unfold fX9_isOutside fX10_isIn
  rcases arg x (n + 1) (by omega) with hx | hx | ⟨p, hp, rfl⟩
  · exact Or.inl ⟨if_pos hx, if_pos hx⟩
  · have a1 : ¬ x < 0 := ge0 hx (by omega)
    have a2 : ¬ x ≤ nI n := hi_le hx (by omega)
    have a3 : nI n < x := hi_lt hx (by omega)
    exact Or.inl ⟨by rw [if_neg a1, if_neg a2], by rw [if_neg a1, if_pos a3]⟩
  · have a1 : ¬ nI p < 0 := nI_pos (by omega)
    have a2 : nI p ≤ nI n := by rw [n_le (by omega) (by omega)]; omega
    have a3 : ¬ nI n < nI p := Int32.not_lt.mpr a2
    exact Or.inr ⟨by rw [if_neg a1, if_pos a2], by rw [if_neg a1, if_neg a3], p, by omega, rfl⟩
theorem io1 (x : Int32) : (fX9_isOutside x 1 = 1 ∧ fX10_isIn x 0 1 = 0) ∨ (fX9_isOutside x 1 = 0 ∧ fX10_isIn x 0 1 = 1 ∧ ∃ p, p ≤ 1 ∧ x = nI p) := io x 1 (by decide)
theorem io2 (x : Int32) : (fX9_isOutside x 2 = 1 ∧ fX10_isIn x 0 2 = 0) ∨ (fX9_isOutside x 2 = 0 ∧ fX10_isIn x 0 2 = 1 ∧ ∃ p, p ≤ 2 ∧ x = nI p) := io x 2 (by decide)
theorem io4 (x : Int32) : (fX9_isOutside x 4 = 1 ∧ fX10_isIn x 0 4 = 0) ∨ (fX9_isOutside x 4 = 0 ∧ fX10_isIn x 0 4 = 1 ∧ ∃ p, p ≤ 4 ∧ x = nI p) := io x 4 (by decide)
theorem bou (x : Int32) (lo hi : Nat) (hl : lo ≤ hi) (hn : hi < 1000) : (¬ nI lo ≤ x ∧ fX10_bound x (nI lo) (nI hi) = -4) ∨ (nI lo ≤ x ∧ ¬ x ≤ nI hi ∧ fX10_bound x (nI lo) (nI hi) = -6) ∨ (nI lo ≤ x ∧ x ≤ nI hi ∧ fX10_bound x (nI lo) (nI hi) = 0 ∧ ∃ p, lo ≤ p ∧ p ≤ hi ∧ x = nI p) := by
  unfold fX10_bound
  rcases arg x (hi + 1) (by omega) with hx | hx | ⟨p, hp, rfl⟩
  · have a1 : ¬ nI lo ≤ x := fun q => nI_pos (show lo < 2 ^ 31 by omega) (Int32.lt_of_le_of_lt q hx)
    exact Or.inl ⟨a1, if_neg a1⟩
  · have a2 : ¬ x ≤ nI hi := hi_le hx (by omega)
    have a1 : nI lo ≤ x := Int32.le_trans (by rw [n_le (by omega) (by omega)]; omega) hx
    exact Or.inr (Or.inl ⟨a1, a2, by rw [if_pos a1, if_neg a2]⟩)
  · have a2 : nI p ≤ nI hi := by rw [n_le (by omega) (by omega)]; omega
    by_cases c : lo ≤ p
    · have a1 : nI lo ≤ nI p := by rw [n_le (by omega) (by omega)]; omega
      exact Or.inr (Or.inr ⟨a1, a2, by rw [if_pos a1, if_pos a2], p, c, by omega, rfl⟩)
    · have a1 : ¬ nI lo ≤ nI p := by rw [n_le (by omega) (by omega)]; omega
      exact Or.inl ⟨a1, if_neg a1⟩
theorem iz {n : Nat} (hn : n < 2 ^ 31) : (if nI n = 0 then (1 : Int32) else 0) = nI (if n = 0 then 1 else 0) := by
  by_cases c : n = 0
  · rw [if_pos (by rw [c]; rfl), if_pos c]; rfl
  · rw [if_neg (by rw [c0, n_eq hn (by decide)]; exact c), if_neg c]; rfl
/-- the wind at l is drawn -/
def drS (ad : Int32 → Int32) (rr : Nat → Int32 → Nat) (s : Int32) (σ : St) (l : Nat) : Int32 × St := (ad (ad s), wrS (wrW σ l (rr 10 (ad s))) l (rr 3 (ad (ad s))))
def niN (ad : Int32 → Int32) (rr : Nat → Int32 → Nat) (s : Int32) (σ : St) (a : Nat) : Nat → Int32 × St
  | 0 => (s, σ)
  | n + 1 => drS ad rr (niN ad rr s σ a n).1 (niN ad rr s σ a n).2 (a + n)
/-- a night: the seed, the wind, the sum, the dark ones -/
def seT (ad : Int32 → Int32) (rr : Nat → Int32 → Nat) (a : Nat) (t : (Int32 × St) × Nat × Nat) : (Int32 × St) × Nat × Nat := (niN ad rr t.1.1 t.1.2 a (25 - a), t.2.1 + pop (dN (niN ad rr t.1.1 t.1.2 a (25 - a)).2), t.2.2 + if pop (dN (niN ad rr t.1.1 t.1.2 a (25 - a)).2) = 0 then 1 else 0)
def seN (ad : Int32 → Int32) (rr : Nat → Int32 → Nat) (s : Int32) (σ : St) : Nat → (Int32 × St) × Nat × Nat
  | 0 => ((s, σ), 0, 0)
  | n + 1 => seT ad rr (sA σ) (seN ad rr s σ n)
def RR (rr : Nat → Int32 → Nat) : Prop := ∀ k s, 0 < k → rr k s < k
def DC (ad : Int32 → Int32) (rr : Nat → Int32 → Nat) : Prop := ∀ (w : Wd) (k : Nat), 0 < k → k < 2 ^ 31 → fX1_drawBelow w (nI k) = some (nI (rr k (ad (w.1 10 4))), upI w 10 4 (ad (w.1 10 4)))
def DM (ad : Int32 → Int32) (rr : Nat → Int32 → Nat) : Prop := ∀ (w : Wd) (k : Nat), 0 < k → k < 2 ^ 31 → fX10_draw w (nI k) = some (nI (rr k (ad (w.1 42 42))), upI w 42 42 (ad (w.1 42 42)))
section
variable {w w1 w2 : Wd} {σ τ : St} {b : Nat} {s : Int32} {ad : Int32 → Int32} {rr : Nat → Int32 → Nat}
theorem good_drS (hr : RR rr) (hg : good σ) (s : Int32) (l : Nat) : good (drS ad rr s σ l).2 := good.wS (good.wW hg (hr 10 _ (by decide))) (hr 3 _ (by decide))
theorem niN_p (hr : RR rr) (hg : good σ) (s : Int32) (a : Nat) : ∀ n, good (niN ad rr s σ a n).2 ∧ (niN ad rr s σ a n).2.1 = σ.1
  | 0 => ⟨hg, rfl⟩
  | n + 1 => ⟨good_drS hr (niN_p hr hg s a n).1 _ _, (niN_p hr hg s a n).2⟩
theorem seN_p (hr : RR rr) (hg : good σ) (s : Int32) : ∀ n, good (seN ad rr s σ n).1.2 ∧ (seN ad rr s σ n).1.2.1 = σ.1
  | 0 => ⟨hg, rfl⟩
  | n + 1 => ⟨(niN_p hr (seN_p hr hg s n).1 _ _ _).1, (niN_p hr (seN_p hr hg s n).1 _ _ _).2.trans (seN_p hr hg s n).2⟩
theorem c_night (hd : DC ad rr) (hC : CoIs w 3 σ) (h : w.1 10 4 = s) {a : Nat} (ha : a ≤ 25) : ∃ w1, iter (fun s : Int32 × Wd => fX1_walkNights_b42 s.1 s.2) FU (nI a, w) = some w1 ∧ CoIs w1 3 (niN ad rr s σ a (25 - a)).2 ∧ w1.1 10 4 = (niN ad rr s σ a (25 - a)).1 ∧ (∀ f, f ≠ 4 → w1.1 10 f = w.1 10 f) ∧ ∀ i, i ≠ 10 → i ≠ 23 → i ≠ 24 → w1.1 i = w.1 i := by
  refine itn (fun n u => u.1 = nI (a + n) ∧ CoIs u.2 3 (niN ad rr s σ a n).2 ∧ u.2.1 10 4 = (niN ad rr s σ a n).1 ∧ (∀ f, f ≠ 4 → u.2.1 10 f = w.1 10 f) ∧ ∀ i, i ≠ 10 → i ≠ 23 → i ≠ 24 → u.2.1 i = w.1 i) _ (25 - a) ⟨rfl, hC, h, fun _ _ => rfl, fun _ _ _ _ => rfl⟩ ?_ ?_ (by omega)
  · rintro n ⟨x, u⟩ hn ⟨e1, e2, e3, e4, e5⟩
    dsimp only at e1 e2 e3 e4 e5
    subst e1
    have e6 : niN ad rr s σ a (n + 1) = drS ad rr (niN ad rr s σ a n).1 (niN ad rr s σ a n).2 (a + n) := rfl
    rw [e6]
    generalize niN ad rr s σ a n = t at e2 e3 ⊢
    obtain ⟨s1, τ⟩ := t
    dsimp only at e2 e3
    have d1 := hd u 10 (by decide) (by decide)
    rw [e3] at d1
    have d2 := hd (upI (upI u 10 4 (ad s1)) 23 (a + n) (nI (rr 10 (ad s1)))) 3 (by decide) (by decide)
    rw [show (upI (upI u 10 4 (ad s1)) 23 (a + n) (nI (rr 10 (ad s1)))).1 10 4 = ad s1 by rw [upI_o _ _ _ _ (by decide), upI_s]] at d2
    have f10 : aside 10 := Or.inr (Or.inl (by decide))
    have q := CoIs.wrW (w := upI u 10 4 (ad s1)) (b := 3) (σ := τ) (e2.far co3 f10 _ _) co3 (a + n) (rr 10 (ad s1))
    have q2 := CoIs.wrS (w := upI (upI (upI u 10 4 (ad s1)) 23 (a + n) (nI (rr 10 (ad s1)))) 10 4 (ad (ad s1))) (b := 3) (σ := wrW τ (a + n) (rr 10 (ad s1))) (q.far co3 f10 _ _) co3 (a + n) (rr 3 (ad (ad s1)))
    refine ⟨(nI (a + (n + 1)), upI (upI (upI (upI u 10 4 (ad s1)) 23 (a + n) (nI (rr 10 (ad s1)))) 10 4 (ad (ad s1))) 24 (a + n) (nI (rr 3 (ad (ad s1))))), ?_, rfl, q2, ?_, fun f hf => ?_, fun i h1 h2 h3 => ?_⟩
    · show fX1_walkNights_b42 _ _ = _
      unfold fX1_walkNights_b42
      rw [if_neg (by rw [c24, n_lt (by decide) (by omega)]; omega), c10, d1, bd_e, un2_e, gdn (by omega) (by decide), n_cl (by omega), lt_e, c3, d2, bd_e, un2_e, lt_e, nI_1, lt_e]
      rfl
    · dsimp only [drS]
      rw [upI_o _ _ _ _ (by decide), upI_s]
    · dsimp only
      rw [upI_o _ _ _ _ (by decide), upI_k _ _ _ _ hf, upI_o _ _ _ _ (by decide), upI_k _ _ _ _ hf]
      exact e4 f hf
    · dsimp only
      rw [upI_o _ _ _ _ h3, upI_o _ _ _ _ h1, upI_o _ _ _ _ h2, upI_o _ _ _ _ h1]
      exact e5 i h1 h2 h3
  · rintro ⟨x, u⟩ ⟨e1, e2, e3, e4, e5⟩
    dsimp only at e1 e2 e3 e4 e5
    subst e1
    refine ⟨u, ?_, e2, e3, e4, e5⟩
    show fX1_walkNights_b42 _ _ = _
    unfold fX1_walkNights_b42
    rw [if_pos (by rw [c24, n_lt (by decide) (by omega)]; omega)]
theorem m_night (hd : DM ad rr) (hM : MoIs w σ) (h : w.1 42 42 = s) {a : Nat} (ha : a ≤ 25) : ∃ w1, iter (fun s : Int32 × Wd => fX10_seeds_b71 s.1 s.2) FU (nI a, w) = some w1 ∧ MoIs w1 (niN ad rr s σ a (25 - a)).2 ∧ w1.1 42 42 = (niN ad rr s σ a (25 - a)).1 ∧ (∀ f, f ≠ 42 → w1.1 42 f = w.1 42 f) ∧ ∀ i, i ≠ 42 → i ≠ 47 → i ≠ 48 → w1.1 i = w.1 i := by
  refine itn (fun n u => u.1 = nI (a + n) ∧ MoIs u.2 (niN ad rr s σ a n).2 ∧ u.2.1 42 42 = (niN ad rr s σ a n).1 ∧ (∀ f, f ≠ 42 → u.2.1 42 f = w.1 42 f) ∧ ∀ i, i ≠ 42 → i ≠ 47 → i ≠ 48 → u.2.1 i = w.1 i) _ (25 - a) ⟨rfl, hM, h, fun _ _ => rfl, fun _ _ _ _ => rfl⟩ ?_ ?_ (by omega)
  · rintro n ⟨x, u⟩ hn ⟨e1, e2, e3, e4, e5⟩
    dsimp only at e1 e2 e3 e4 e5
    subst e1
    have e6 : niN ad rr s σ a (n + 1) = drS ad rr (niN ad rr s σ a n).1 (niN ad rr s σ a n).2 (a + n) := rfl
    rw [e6]
    generalize niN ad rr s σ a n = t at e2 e3 ⊢
    obtain ⟨s1, τ⟩ := t
    dsimp only at e2 e3
    have up : ∀ {v : Wd} {τ : St} (x : Int32), MoIs v τ → MoIs (upI v 42 42 x) τ := fun {v τ} x hv => hv.keep (l := [at_ 42 42]) (Agree.rf.pI rfl (Or.inl (List.mem_singleton.mpr rfl))) (by decide)
    have d1 := hd u 10 (by decide) (by decide)
    rw [e3] at d1
    have d2 := hd (upI (upI u 42 42 (ad s1)) 47 (a + n) (nI (rr 10 (ad s1)))) 3 (by decide) (by decide)
    rw [show (upI (upI u 42 42 (ad s1)) 47 (a + n) (nI (rr 10 (ad s1)))).1 42 42 = ad s1 by rw [upI_o _ _ _ _ (by decide), upI_s]] at d2
    have q := (up (ad s1) e2).wW (a + n) (rr 10 (ad s1))
    have q2 := (up (ad (ad s1)) q).wS (a + n) (rr 3 (ad (ad s1)))
    refine ⟨(nI (a + (n + 1)), upI (upI (upI (upI u 42 42 (ad s1)) 47 (a + n) (nI (rr 10 (ad s1)))) 42 42 (ad (ad s1))) 48 (a + n) (nI (rr 3 (ad (ad s1))))), ?_, rfl, q2, ?_, fun f hf => ?_, fun i h1 h2 h3 => ?_⟩
    · show fX10_seeds_b71 _ _ = _
      unfold fX10_seeds_b71
      rw [if_neg (by rw [show (25 : Int32) = nI 25 from rfl, n_le (by decide) (by omega)]; omega), c10, d1, bd_e, un2_e, gdn (by omega) (by decide), n_cl (by omega), lt_e, c3, d2, bd_e, un2_e, lt_e, nI_1, lt_e]
      rfl
    · dsimp only [drS]
      rw [upI_o _ _ _ _ (by decide), upI_s]
    · dsimp only
      rw [upI_o _ _ _ _ (by decide), upI_k _ _ _ _ hf, upI_o _ _ _ _ (by decide), upI_k _ _ _ _ hf]
      exact e4 f hf
    · dsimp only
      rw [upI_o _ _ _ _ h3, upI_o _ _ _ _ h1, upI_o _ _ _ _ h2, upI_o _ _ _ _ h1]
      exact e5 i h1 h2 h3
  · rintro ⟨x, u⟩ ⟨e1, e2, e3, e4, e5⟩
    dsimp only at e1 e2 e3 e4 e5
    subst e1
    refine ⟨u, ?_, e2, e3, e4, e5⟩
    show fX10_seeds_b71 _ _ = _
    unfold fX10_seeds_b71
    rw [if_pos (by rw [show (25 : Int32) = nI 25 from rfl, n_le (by decide) (by omega)]; omega)]
theorem c_walkNights (hr : RR rr) (hd : DC ad rr) (hC : CoIs w 1 σ) (hg : good σ) {k : Nat} (hk : k ≤ 20) (z : Int32) : ∃ w1, fX1_walkNights w (nI k) z = some w1 ∧ w1.1 10 2 = nI (seN ad rr z σ k).2.1 ∧ w1.1 10 3 = nI (seN ad rr z σ k).2.2 := by
  have hA := hg.A
  have hD := hg.D
  unfold fX1_walkNights
  rw [lt_e, lt_e, lt_e, lt_e]
  have f10 : aside 10 := Or.inr (Or.inl (by decide))
  have hC0 : CoIs (upI (upI (upI w 10 4 z) 10 2 0) 10 3 0) 1 σ := ((hC.far co1 f10 _ _).far co1 f10 _ _).far co1 f10 _ _
  have t10 : (fX2_takeFrom 3 1 (upI (upI (upI w 10 4 z) 10 2 0) 10 3 0)).1 10 = (upI (upI (upI w 10 4 z) 10 2 0) 10 3 0).1 10 := take_o (by decide)
  refine itnb (fun n s => s.1 = nI n ∧ Cq w s.2 ∧ CoIs s.2 3 (seN ad rr z σ n).1.2 ∧ s.2.1 10 4 = (seN ad rr z σ n).1.1 ∧ s.2.1 10 2 = nI (seN ad rr z σ n).2.1 ∧ s.2.1 10 3 = nI (seN ad rr z σ n).2.2) (fun x => x.1 10 2 = nI (seN ad rr z σ k).2.1 ∧ x.1 10 3 = nI (seN ad rr z σ k).2.2) k ⟨rfl, ?_, c_take co3 co1 (by decide) hC0, ?_, ?_, ?_⟩ ?_ ?_ (by omega) (fun x hx => ⟨x, rfl, hx⟩)
  · exact (Cq.con Ag.rf fun i hi => by rw [upI_o _ _ _ _ hi, upI_o _ _ _ _ hi, upI_o _ _ _ _ hi] : Cq w (upI (upI (upI w 10 4 z) 10 2 0) 10 3 0)).tr (Cq.of (l := pX2_takeFrom 3) (rX2_takeFrom rfl) (by decide))
  · dsimp only
    rw [t10, upI_k _ _ _ _ (by decide), upI_k _ _ _ _ (by decide), upI_s]; rfl
  · dsimp only
    rw [t10, upI_k _ _ _ _ (by decide), upI_s]; rfl
  · dsimp only
    rw [t10, upI_s]; rfl
  · rintro n ⟨x, u⟩ hn ⟨e1, e2, e3, e4, e5, e6⟩
    dsimp only at e1 e2 e3 e4 e5 e6
    subst e1
    have e7 : seN ad rr z σ (n + 1) = seT ad rr (sA σ) (seN ad rr z σ n) := rfl
    rw [e7]
    have hp := seN_p (ad := ad) hr hg z n
    generalize seN ad rr z σ n = t at e3 e4 e5 e6 hp ⊢
    obtain ⟨⟨s1, τ⟩, sm, dk⟩ := t
    dsimp only at e3 e4 e5 e6 hp
    obtain ⟨u1, b1, b2, b3, b4, b5⟩ := c_night hd e3 e4 (a := sA σ) (by omega)
    have gb := (niN_p (ad := ad) hr hp.1 s1 (sA σ) (25 - sA σ)).1
    obtain ⟨u2, d1, d2⟩ := c_countOf co3 b2 gb
    have hpp := pop8 (dN_lt gb)
    dsimp only [seT]
    generalize niN ad rr s1 τ (sA σ) (25 - sA σ) = y at b2 b3 gb d1 hpp ⊢
    obtain ⟨s2, τ2⟩ := y
    dsimp only at b2 b3 gb d1 hpp ⊢
    have k10 : u2.1 10 = u1.1 10 := d2 10 (by decide)
    have q1 : Cq u u1 := fun i k hi => by rw [b5 i (fun d => by subst d; cases hi) (fun d => by subst d; cases hi) (fun d => by subst d; cases hi)]
    have hC2 := d2.co co3 b2
    have h2 : u2.1 10 2 = nI sm := by rw [k10, b4 2 (by decide), e5]
    have h3 : u2.1 10 3 = nI dk := by rw [k10, b4 3 (by decide), e6]
    refine ⟨(nI (n + 1), upI (upI u2 10 2 (nI (sm + pop (dN τ2)))) 10 3 (nI (dk + if pop (dN τ2) = 0 then 1 else 0))), ?_, rfl, ?_, (hC2.far co3 f10 _ _).far co3 f10 _ _, ?_, ?_, ?_⟩
    · show fX1_walkNights_b28 _ _ _ = _
      unfold fX1_walkNights_b28
      rw [if_neg (by rw [n_le (by omega) (by omega)]; omega), show u.1 1 5 = nI (sA σ) from (e2.co1 hC).Pl, lt_e, b1, bd_e, d1, bd_e, un2_e, h2, n_add, lt_e, iz (by omega), lt_e, upI_k _ _ _ _ (by decide), h3, n_add, lt_e, nI_1, lt_e]
    · exact Cq.con ((e2.tr q1).tr d2.cq) fun i hi => by rw [upI_o _ _ _ _ hi, upI_o _ _ _ _ hi]
    · rw [upI_k _ _ _ _ (by decide), upI_k _ _ _ _ (by decide), k10, b3]
    · rw [upI_k _ _ _ _ (by decide), upI_s]
    · rw [upI_s]
  · rintro ⟨x, u⟩ ⟨e1, e2, e3, e4, e5, e6⟩
    dsimp only at e1 e2 e3 e4 e5 e6
    subst e1
    refine ⟨u, ?_, e5, e6⟩
    show fX1_walkNights_b28 _ _ _ = _
    unfold fX1_walkNights_b28
    rw [if_pos (by rw [n_le (by omega) (by omega)]; omega)]
theorem m_nights (hr : RR rr) (hd : DM ad rr) (hM : MoIs w σ) (hg : good σ) (hm : sM σ ≤ 1200) {k : Nat} (hk : k ≤ 20) (z : Int32) (h : w.1 42 42 = z) (hK : Kept w 1 σ) : ∃ x, iter (fun s : Int32 × Int32 × Int32 × Wd => fX10_seeds_b59 (nI k) s.1 s.2.1 s.2.2.1 s.2.2.2) FU (0, 0, 0, w) = some x ∧ x.1 = nI (seN ad rr z σ k).2.1 ∧ x.2.1 = nI (seN ad rr z σ k).2.2 ∧ Kept x.2.2 1 σ ∧ Mq w x.2.2 := by
  have hA := hg.A
  have hD := hg.D
  refine itn (fun n s => s.1 = nI (seN ad rr z σ n).2.1 ∧ s.2.1 = nI (seN ad rr z σ n).2.2 ∧ s.2.2.1 = nI n ∧ MoIs s.2.2.2 (seN ad rr z σ n).1.2 ∧ s.2.2.2.1 42 42 = (seN ad rr z σ n).1.1 ∧ Kept s.2.2.2 1 σ ∧ Mq w s.2.2.2) _ k ⟨rfl, rfl, rfl, hM, h, hK, Ag.rf⟩ ?_ ?_ (by omega)
  · rintro n ⟨x, y, c, u⟩ hn ⟨e1, e2, e3, e4, e5, e6, e8⟩
    dsimp only at e1 e2 e3 e4 e5 e6 e8
    have e7 : seN ad rr z σ (n + 1) = seT ad rr (sA σ) (seN ad rr z σ n) := rfl
    rw [e7]
    have hp := seN_p (ad := ad) hr hg z n
    generalize seN ad rr z σ n = t at e1 e2 e4 e5 hp ⊢
    obtain ⟨⟨s1, τ⟩, sm, dk⟩ := t
    dsimp only at e1 e2 e4 e5 hp
    subst e1; subst e2; subst e3
    obtain ⟨u1, b1, b2, b3, b4, b5⟩ := m_night hd e4 e5 (a := sA σ) (by omega)
    have gb := (niN_p (ad := ad) hr hp.1 s1 (sA σ) (25 - sA σ)).1
    have gp := (niN_p (ad := ad) hr hp.1 s1 (sA σ) (25 - sA σ)).2
    dsimp only [seT]
    generalize niN ad rr s1 τ (sA σ) (25 - sA σ) = v at b2 b3 gb gp ⊢
    obtain ⟨s2, τ2⟩ := v
    dsimp only at b2 b3 gb gp ⊢
    have hm2 : sM τ2 ≤ 1200 := by show τ2.1 6 ≤ 1200; rw [gp, hp.2]; exact hm
    obtain ⟨u2, d1, d2, d3, d4⟩ := m_door b2 gb hm2
    have hdl := dN_lt gb
    have hpp := pop8 hdl
    have q1 : Mq u u1 := fun i k hi => by
      by_cases c : i = 42
      · subst c
        rw [b4 k (fun d => by subst d; cases hi)]
      · rw [b5 i c (fun d => by subst d; cases hi) (fun d => by subst d; cases hi)]
    have h5 : u.1 42 8 = nI (sA σ) := by rw [e4.A]; show nI (τ.1 5) = nI (σ.1 5); rw [hp.2]
    have k42 : u2.1 42 42 = s2 := ((rX10_atDoor d1) 42 42 (by decide)).1.trans b3
    refine ⟨(nI (sm + pop (dN τ2)), nI (dk + if pop (dN τ2) = 0 then 1 else 0), nI (n + 1), u2), ?_, rfl, rfl, rfl, d2, k42, (e6.keep fun q _ _ => by rw [b5 53 (by decide) (by decide) (by decide)]).kk d3 (by decide), (e8.tr q1).tr d4⟩
    show fX10_seeds_b59 _ _ _ _ _ = _
    unfold fX10_seeds_b59
    rw [if_neg (by rw [n_le (by omega) (by omega)]; omega), h5, lt_e, b1, bd_e, d1, bd_e, un2_e, show fX10_bits (nI (door τ2 (sL τ2))) = some (nI (pop (dN τ2))) from pop_m _ hdl, bd_e, n_add, lt_e, iz (by omega), lt_e, n_add, lt_e, nI_1, lt_e]
  · rintro ⟨x, y, c, u⟩ ⟨e1, e2, e3, e4, e5, e6, e8⟩
    dsimp only at e1 e2 e3 e4 e5 e6 e8
    subst e1; subst e2; subst e3
    refine ⟨(_, _, u), ?_, rfl, rfl, e6, e8⟩
    show fX10_seeds_b59 _ _ _ _ _ = _
    unfold fX10_seeds_b59
    rw [if_pos (by rw [n_le (by omega) (by omega)]; omega)]
    rfl
theorem q_seedsG (hr : RR rr) (hdc : DC ad rr) (hdm : DM ad rr) (h : R w σ) (x y z : Int32) : Ans (fX9_seeds w x y z) (fun v => fX10_seeds v x y z) := by
  rcases bou x 1 20 (by decide) (by decide) with ⟨a1, a2⟩ | ⟨a1, a2, a3⟩ | ⟨a1, a2, a3, k, hk1, hk, rfl⟩
  · have a2' : fX10_bound x 1 20 = -4 := a2
    have a1' : ¬ (1 : Int32) ≤ x := a1
    exact Ans.nof h 4 (by decide) (by decide) (by unfold fX9_seeds; simp only [if_neg a1', rf1, rf2, rf3, rf4, rf6, bd_e, un2_e] <;> rfl) (fun v e => by unfold fX10_seeds fX10_seeds_j27; simp only [a2', lt_e, if_neg (show ¬ (-4 : Int32) = 0 by decide), e _ (show (42 : Nat) ≠ 12 by decide), no1, no2, no3, no4, no6, bd_e, un2_e] <;> rfl)
  · have a3' : fX10_bound x 1 20 = -6 := a3
    have a1' : (1 : Int32) ≤ x := a1
    have a2' : ¬ x ≤ 20 := a2
    exact Ans.nof h 6 (by decide) (by decide) (by unfold fX9_seeds; simp only [if_pos a1', if_neg a2', rf1, rf2, rf3, rf4, rf6, bd_e, un2_e] <;> rfl) (fun v e => by unfold fX10_seeds fX10_seeds_j27; simp only [a3', lt_e, if_neg (show ¬ (-6 : Int32) = 0 by decide), e _ (show (42 : Nat) ≠ 12 by decide), no1, no2, no3, no4, no6, bd_e, un2_e] <;> rfl)
  · have a3' : fX10_bound (nI k) 1 20 = 0 := a3
    have a1' : (1 : Int32) ≤ nI k := a1
    have a2' : nI k ≤ 20 := a2
    rcases io1 z with ⟨i1, i2⟩ | ⟨i1, i2, p, hp, rfl⟩
    · exact Ans.nof h 2 (by decide) (by decide) (by unfold fX9_seeds; simp only [if_pos a1', if_pos a2', i1, if_neg (show ¬ (1 : Int32) = 0 by decide), rf1, rf2, rf3, rf4, rf6, bd_e, un2_e] <;> rfl) (fun v e => by unfold fX10_seeds fX10_seeds_j27; simp only [a3', lt_e, i2, if_pos, if_neg (show ¬ (-2 : Int32) = 0 by decide), e _ (show (42 : Nat) ≠ 12 by decide), no1, no2, no3, no4, no6, bd_e, un2_e] <;> rfl)
    · refine Ans.q (r := if p = 0 then nI (seN ad rr y σ k).2.1 else nI (seN ad rr y σ k).2.2) h ?_ fun v hv => ?_
      · obtain ⟨v, e, e2, e3⟩ := c_walkNights hr hdc h.c h.g hk y
        refine ⟨v, ?_, Cq.of (rX1_walkNights e) (by decide)⟩
        unfold fX9_seeds
        rw [if_pos a1', if_pos a2', i1, if_pos rfl, e, bd_e]
        by_cases c : p = 0
        · subst c; rw [if_pos (show nI 0 = 0 from rfl), e2, if_pos rfl]
        · rw [if_neg (by rw [c0, n_eq (by omega) (by decide)]; exact c), e3, if_neg c]
      · obtain ⟨v1, b1, b2, b3, b4, -⟩ := m_save1 hv.o
        have ag : Agree (pU [at_ 42 42]) v1 (upI v1 42 42 y) := Agree.rf.pI rfl (Or.inl (List.mem_singleton.mpr rfl))
        obtain ⟨⟨r1, r2, v2⟩, d1, d2, d3, d4, d5⟩ := m_nights hr hdm (b2.keep ag (by decide)) hv.g hv.m2 hk y (upI_s _ _ _ _) (b3.keep fun q _ _ => rfl)
        dsimp only at d2 d3 d4 d5
        obtain ⟨v3, f1, f2, f3, -⟩ := m_rest1 d4
        refine ⟨v3, ?_, f2, ((b4.tr (Mq.of ag (by decide))).tr d5).tr f3⟩
        show fX10_seeds v (nI k) y (nI p) = _
        unfold fX10_seeds fX10_seeds_j27
        rw [a3', lt_e, if_pos rfl, i2, if_neg (by decide), if_pos rfl, b1, bd_e, lt_e, d1, bd_e, un3_e, f1, bd_e, d2, d3]
        by_cases c : p = 0
        · subst c; rw [if_pos (show nI 0 = 0 from rfl), if_pos rfl]
        · rw [if_neg (by rw [c0, n_eq (by omega) (by decide)]; exact c), if_neg c]
end
def adv (s : Int32) : Int32 := s * 1103515245 + 12345
def rv (k : Nat) (s : Int32) : Nat := (s &&& 2147483647).toNatClampNeg / 65536 % k
theorem msk_nat (s : Int32) : ∃ n, n < 2 ^ 31 ∧ s &&& 2147483647 = nI n := by
  refine ⟨s.toBitVec.toNat % 2 ^ 31, Nat.mod_lt _ (by decide), ?_⟩
  apply Int32.toBitVec_inj.mp
  show s.toBitVec &&& BitVec.ofNat 32 2147483647 = BitVec.ofNat 32 (s.toBitVec.toNat % 2 ^ 31)
  apply BitVec.eq_of_toNat_eq
  rw [BitVec.toNat_and, BitVec.toNat_ofNat, BitVec.toNat_ofNat]
  have e : 2147483647 % 2 ^ 32 = 2 ^ 31 - 1 := by decide
  rw [e, Nat.and_two_pow_sub_one_eq_mod]
  have := Nat.mod_lt s.toBitVec.toNat (show 2 ^ 31 > 0 by decide)
  omega
theorem rv_t (s : Int32) {k : Nat} (h0 : 0 < k) (hk : k < 2 ^ 31) : jrem ((s &&& 2147483647) / 65536) (nI k) = nI (rv k s) := by
  obtain ⟨n, h1, h2⟩ := msk_nat s
  unfold rv
  have : n / 65536 < 2 ^ 31 := Nat.lt_of_le_of_lt (Nat.div_le_self _ _) h1
  rw [h2, n_cl h1, show (65536 : Int32) = nI 65536 from rfl, n_div h1 (by decide) (by decide), n_rem this h0 hk]
theorem rv_lt : RR rv := fun k s h0 => Nat.mod_lt _ h0
theorem c_draw : DC adv rv := fun w k h0 hk => by
  unfold fX1_drawBelow
  have hz : ¬ nI k ≤ 0 := by rw [c0, n_le hk (by decide)]; omega
  have hz2 : (!(nI k == 0)) = true := by
    have : ¬ nI k = 0 := by rw [c0, n_eq hk (by decide)]; omega
    simp [this]
  rw [lt_e, if_neg hz, gd_t hz2, upI_s, show w.1 10 4 * 1103515245 + 12345 = adv (w.1 10 4) from rfl, rv_t _ h0 hk]
theorem m_draw : DM adv rv := fun w k h0 hk => by
  unfold fX10_draw
  have hz2 : (!(nI k == 0)) = true := by
    have : ¬ nI k = 0 := by rw [c0, n_eq hk (by decide)]; omega
    simp [this]
  rw [lt_e, gd_t hz2, upI_s, show w.1 42 42 * 1103515245 + 12345 = adv (w.1 42 42) from rfl, rv_t _ h0 hk]
theorem q_seeds {w : Wd} {σ : St} (h : R w σ) (x y z : Int32) : Ans (fX9_seeds w x y z) (fun v => fX10_seeds v x y z) := q_seedsG rv_lt c_draw m_draw h x y z

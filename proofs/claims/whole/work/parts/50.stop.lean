/-! stop -/
def exN (σ : St) (a l : Nat) : Nat → Nat
  | 0 => l
  | s + 1 => mnt σ a (exN σ a l s)
def stL (σ : St) (m s : Nat) : Nat := exN σ (sA σ + m) (run σ (sA σ) (sL σ) m) s
def stD (σ : St) (m s : Nat) : Nat := run σ (sA σ + m) (stL σ m s) (sD σ - sA σ - m)
def pSt (σ : St) (s m : Nat) : Nat := pop (stD σ m s)
def GL (σ : St) (L : Nat) : Prop := L < 2 ^ sP σ ∧ NoSm σ L
/-- the best of all stops of up to i minutes -/
def bSt (σ : St) : Nat → Nat × Nat
  | 0 => (9999, pop (dN σ) + 1)
  | i + 1 => bs (fun m => pSt σ (1 + i) m) (fun m => 10 * (sA σ + m) + (1 + i)) (bSt σ i) (sD σ - sA σ)
/-- region k holds σ, and now it is τ -/
def Ga (w : Wd) (k : Nat) (σ τ : St) (s : Wd) : Prop := MoIs s τ ∧ Kept s k σ ∧ Mq w s ∧ KK k w s
section
variable {w w1 w2 : Wd} {σ τ : St} {b : Nat} {u : Nat → Nat}
theorem GL.run {L : Nat} (h : GL σ L) (hg : good σ) (u : Nat → Nat) (a n : Nat) : GL σ (runU σ u a L n) := ⟨runU_lt hg h.1 n, runU_sm hg u a h.2 n⟩
theorem GL.mnt {L : Nat} (h : GL σ L) (hg : good σ) (a : Nat) : GL σ (mnt σ a L) := ⟨mntU_lt hg h.1, mntU_sm hg _ a h.2⟩
theorem good.gl (hg : good σ) : GL σ (sL σ) := ⟨hg.L, hg.sm⟩
theorem GL.ex {L : Nat} (h : GL σ L) (hg : good σ) (a : Nat) : ∀ s, GL σ (exN σ a L s)
  | 0 => h
  | s + 1 => (GL.ex h hg a s).mnt hg a
theorem GL.p8 {L : Nat} (h : GL σ L) (hg : good σ) : L < 256 := lt256 h.1 hg.P
theorem GL.g {L : Nat} (h : GL σ L) (hg : good σ) {a M : Nat} (ha : a ≤ sD σ) (hm : M ≤ 2000) : good (aw σ a L M) := good_aw hg h.1 h.2 ha hm
theorem stL_gl (hg : good σ) (m s : Nat) : GL σ (stL σ m s) := (hg.gl.run hg _ _ _).ex hg _ _
theorem pSt_le (hg : good σ) (s m : Nat) : pSt σ s m ≤ 8 := pop8 (((stL_gl hg m s).run hg _ _ _).p8 hg)
theorem bSt_2 (hg : good σ) : ∀ i, (bSt σ i).2 ≤ 9
  | 0 => by have := pop8 (dN_lt hg); show pop (dN σ) + 1 ≤ 9; omega
  | i + 1 => bs_2 _ _ _ 9 (bSt_2 hg i) _ (fun k _ => by have := pSt_le hg (1 + i) k; omega)
theorem aw_aw (σ : St) (a L M a2 L2 M2 : Nat) : aw (aw σ a L M) a2 L2 M2 = aw σ a2 L2 M2 := by
  unfold aw
  refine Prod.ext (funext fun k => ?_) rfl
  dsimp only
  by_cases h1 : k = 1
  · subst h1; rfl
  · by_cases h5 : k = 5
    · subst h5; rfl
    · by_cases h6 : k = 6
      · subst h6; rfl
      · simp only [if_neg h1, if_neg h5, if_neg h6]
theorem m_goA {a L M : Nat} (hM : MoIs w (aw σ a L M)) (hg : good (aw σ a L M)) (ha : a < 25) (x : Int32) : ∃ w1, fX10_goes w x = some w1 ∧ MoIs w1 (aw σ (a + if x = 0 then 1 else 0) (mnt σ a L) (M + 1)) := by
  obtain ⟨w1, a1, a2, -⟩ := m_goes hM hg ha x
  have e : aw (aw σ a L M) (sA (aw σ a L M) + if x = 0 then 1 else 0) (mnt (aw σ a L M) (sA (aw σ a L M)) (sL (aw σ a L M))) (sM (aw σ a L M) + 1) = aw σ (a + if x = 0 then 1 else 0) (mnt σ a L) (M + 1) := by
    rw [aw_aw, mnt_aw]; rfl
  rw [e] at a2
  exact ⟨w1, a1, a2⟩
theorem Ga.go {k a L M : Nat} {s : Wd} (h : Ga w k σ (aw σ a L M) s) (hg : good (aw σ a L M)) (ha : a < 25) (x : Int32) : ∃ s1, fX10_goes s x = some s1 ∧ Ga w k σ (aw σ (a + if x = 0 then 1 else 0) (mnt σ a L) (M + 1)) s1 := by
  obtain ⟨s1, a1, a2⟩ := m_goA h.1 hg ha x
  have fr := rX10_goes a1
  exact ⟨s1, a1, a2, h.2.1.keep fun q _ _ => congrFun (fr.cell 53 (by decide)).1 q, h.2.2.1.tr (Mq.of fr (by decide)), h.2.2.2.tr (KK.of k fr (by decide))⟩
theorem Ga.lit {k : Nat} {s : Wd} (h : Ga w k σ τ s) {v : Nat} : Ga w k σ (wr τ 1 v) (upI s 42 7 (nI v)) :=
  ⟨h.1.wL v, h.2.1.keep fun q _ _ => rfl, h.2.2.1.tr (Mq.of (l := [at_ 42 7]) (Agree.rf.pI rfl (Or.inl (List.mem_singleton.mpr rfl))) (by decide)), h.2.2.2.tr fun q _ => rfl⟩
theorem ga_save2 (hM : MoIs w σ) : ∃ v, fX10_passesAll w 2 1 = some v ∧ Ga w 2 σ σ v := by
  obtain ⟨v, a1, a2, a3, a4, a5, -⟩ := m_save2 hM
  exact ⟨v, a1, a2, a3, a4, a5⟩
theorem ga_save1 (hM : MoIs w σ) : ∃ v, fX10_passesAll w 1 1 = some v ∧ Ga w 1 σ σ v ∧ (∀ f, f ≠ 19 → f ≠ 20 → v.1 42 f = w.1 42 f) ∧ (∀ i, i ≠ 42 → i ≠ 53 → v.1 i = w.1 i) := by
  obtain ⟨v, a1, a2, a3, a4, a5, a6, a7, -⟩ := m_save1 hM
  exact ⟨v, a1, ⟨a2, a3, a4, a5⟩, a7, a6⟩
theorem Ga.rest2 {s : Wd} (h : Ga w 2 σ τ s) : ∃ v, fX10_passesAll s 2 0 = some v ∧ MoIs v σ ∧ Mq w v ∧ KK 2 w v ∧ (∀ i, i < 42 ∨ i = 43 ∨ 48 < i → v.1 i = s.1 i) ∧ (∀ f, 10 ≤ f → f ≠ 19 → f ≠ 20 → v.1 42 f = s.1 42 f) := by
  obtain ⟨v, a1, a2, a3, a4, a5, -⟩ := m_rest2 h.2.1
  exact ⟨v, a1, a2, h.2.2.1.tr a3, fun q hq => by rw [a4 53 (by decide)]; exact h.2.2.2 q hq, a4, a5⟩
theorem Ga.rest1 {s : Wd} (h : Ga w 1 σ τ s) : ∃ v, fX10_passesAll s 1 0 = some v ∧ MoIs v σ ∧ Mq w v ∧ KK 1 w v ∧ (∀ i, i < 42 ∨ i = 43 ∨ 48 < i → v.1 i = s.1 i) ∧ (∀ f, 10 ≤ f → f ≠ 19 → f ≠ 20 → v.1 42 f = s.1 42 f) := by
  obtain ⟨v, a1, a2, a3, a4, a5, -⟩ := m_rest1 h.2.1
  exact ⟨v, a1, a2, h.2.2.1.tr a3, fun q hq => by rw [a4 53 (by decide)]; exact h.2.2.2 q hq, a4, a5⟩
theorem Ga.cg {τ2 : St} {k : Nat} {s : Wd} (h : Ga w k σ τ s) (e : τ = τ2) : Ga w k σ τ2 s := e ▸ h
theorem aw_self (σ : St) : aw σ (sA σ) (sL σ) (sM σ) = σ := by
  unfold aw
  refine Prod.ext (funext fun k => ?_) rfl
  dsimp only
  by_cases h1 : k = 1
  · subst h1; rfl
  · by_cases h5 : k = 5
    · subst h5; rfl
    · by_cases h6 : k = 6
      · subst h6; rfl
      · simp only [if_neg h1, if_neg h5, if_neg h6]
-- the class
theorem c_withStop (hW : WkIs w σ) (hE : ∀ m, m ≤ sD σ - sA σ → w.1 26 m = nI (run σ (sA σ) (sL σ) m)) (hg : good σ) {m s : Nat} (hm : sA σ + m < sD σ) (hs : s ≤ 5) : ∃ w1, fX6_withStop w (nI m) (nI s) = some (nI (stD σ m s), w1) ∧ WkIs w1 σ ∧ w1.1 26 = w.1 26 := by
  have hD := hg.D
  unfold fX6_withStop
  rw [gdn (by omega) (by decide), n_cl (by omega), hE m (by omega), lt_e]
  have main : ∃ x, iter (fun s1 : Int32 × Int32 × Wd => fX6_withStop_b13 (nI s) (nI m) s1.1 s1.2.1 s1.2.2) FU (nI (run σ (sA σ) (sL σ) m), 0, w) = some x ∧ x.1 = nI (stL σ m s) ∧ WkIs x.2 σ ∧ x.2.1 26 = w.1 26 := by
    refine itn (fun k u => u.1 = nI (exN σ (sA σ + m) (run σ (sA σ) (sL σ) m) k) ∧ u.2.1 = nI k ∧ WkIs u.2.2 σ ∧ u.2.2.1 26 = w.1 26) _ s ⟨rfl, rfl, hW, rfl⟩ ?_ ?_ (by omega)
    · rintro k ⟨x, y, v⟩ hk ⟨e1, e2, e3, e4⟩
      dsimp only at e1 e2 e3 e4
      subst e1; subst e2
      have gl := ((hg.gl.run hg (uns σ) (sA σ) m).ex hg (sA σ + m) k)
      obtain ⟨u1, b1, -, -, -, b2⟩ := c_minute e3 hg (a := sA σ + m) gl.1 (by omega) (by omega)
      refine ⟨(nI (mntU σ (uns σ) (sA σ + m) (exN σ (sA σ + m) (run σ (sA σ) (sL σ) m) k)), nI (k + 1), u1), ?_, rfl, rfl, b2, ((rX8_minuteAt b1).cell 26 (by decide)).1.trans e4⟩
      show fX6_withStop_b13 _ _ _ _ _ = _
      unfold fX6_withStop_b13
      rw [if_neg (by rw [n_le (by omega) (by omega)]; omega), Wk.A e3, n_add, b1, bd_e, un2_e, nI_1, lt_e]
    · rintro ⟨x, y, v⟩ ⟨e1, e2, e3, e4⟩
      dsimp only at e1 e2 e3 e4
      subst e1; subst e2
      refine ⟨(nI (stL σ m s), v), ?_, rfl, e3, e4⟩
      show fX6_withStop_b13 _ _ _ _ _ = _
      unfold fX6_withStop_b13
      rw [if_pos (by rw [n_le (by omega) (by omega)]; omega)]
      rfl
  obtain ⟨⟨x, v⟩, m1, e1, e3, e4⟩ := main
  dsimp only at e1 e3 e4
  subst e1
  obtain ⟨v2, b1, b2⟩ := c_atDoor e3 hg (m := m) (stL_gl hg m s).1 (by omega)
  refine ⟨v2, ?_, b2, ((rX8_atDoorFrom b1).cell 26 (by decide)).1.trans e4⟩
  rw [m1, bd_e, un2_e, b1, bd_e, un2_e]
  rfl
def SSt (σ : St) (k : Nat × Nat) (x y : Int32) (s : Wd) : Prop := x = bI (-9) k.2 ∧ y = fI (-9) k.1 ∧ WkIs s σ ∧ ∀ m, m ≤ sD σ - sA σ → s.1 26 m = nI (run σ (sA σ) (sL σ) m)
theorem c_stopIn (hg : good σ) {i : Nat} (hi : i < 5) {x y : Int32} {s : Wd} (h : SSt σ (bSt σ i) x y s) : ∃ r, iter (fun s : Int32 × Int32 × Int32 × Wd => fX6_bestStop_b18 (nI (1 + i)) s.1 s.2.1 s.2.2.1 s.2.2.2) FU (x, y, 0, s) = some r ∧ SSt σ (bSt σ (i + 1)) r.1 r.2.1 r.2.2 := by
  have hD := hg.D
  refine itn (fun m s => s.2.2.1 = nI m ∧ SSt σ (bs (fun m => pSt σ (1 + i) m) (fun m => 10 * (sA σ + m) + (1 + i)) (bSt σ i) m) s.1 s.2.1 s.2.2.2) _ (sD σ - sA σ) ⟨rfl, h⟩ ?_ ?_ (by omega)
  · rintro m ⟨x, y, z, s⟩ hm ⟨e1, e2, e3, e4, e5⟩
    dsimp only at e1 e2 e3 e4 e5
    subst e1; subst e2; subst e3
    obtain ⟨s1, b1, b2, b3⟩ := c_withStop e4 e5 hg (m := m) (s := 1 + i) (by omega) (by omega)
    have hp8 := pSt_le hg (1 + i) m
    have hd : stD σ m (1 + i) < 256 := ((stL_gl hg m (1 + i)).run hg _ _ _).p8 hg
    have hb2 := bs_2 (fun m => pSt σ (1 + i) m) (fun m => 10 * (sA σ + m) + (1 + i)) (bSt σ i) 9 (bSt_2 hg i) m (fun k _ => by have := pSt_le hg (1 + i) k; omega)
    have e7 : bs (fun m => pSt σ (1 + i) m) (fun m => 10 * (sA σ + m) + (1 + i)) (bSt σ i) (m + 1) = if (bs (fun m => pSt σ (1 + i) m) (fun m => 10 * (sA σ + m) + (1 + i)) (bSt σ i) m).2 ≤ pSt σ (1 + i) m then (10 * (sA σ + m) + (1 + i), pSt σ (1 + i) m + 1) else bs (fun m => pSt σ (1 + i) m) (fun m => 10 * (sA σ + m) + (1 + i)) (bSt σ i) m := rfl
    refine ⟨(bI (-9) (bs (fun m => pSt σ (1 + i) m) (fun m => 10 * (sA σ + m) + (1 + i)) (bSt σ i) (m + 1)).2, fI (-9) (bs (fun m => pSt σ (1 + i) m) (fun m => 10 * (sA σ + m) + (1 + i)) (bSt σ i) (m + 1)).1, nI (m + 1), s1), ?_, rfl, rfl, rfl, b2, fun k hk => by rw [b3]; exact e5 k hk⟩
    show fX6_bestStop_b18 _ _ _ _ _ = _
    unfold fX6_bestStop_b18
    rw [Wk.T e4, if_neg (by rw [n_le (by omega) (by omega)]; omega), b1, bd_e, un2_e, show fJ6_bitCount_0f7a4 (nI (stD σ m (1 + i))) = nI (pSt σ (1 + i) m) from pop_c _ hd, lt_e, e7]
    by_cases c : (bs (fun m => pSt σ (1 + i) m) (fun m => 10 * (sA σ + m) + (1 + i)) (bSt σ i) m).2 ≤ pSt σ (1 + i) m
    · rw [if_neg (by rw [bI_le (by decide) (by omega) (by omega)]; exact fun h => h c), if_pos c, Wk.A b2, n_add, c10m, lt_e, nI_1, lt_e, bI_s, fI_s _ (by dsimp only; omega)]
    · rw [if_pos (by rw [bI_le (by decide) (by omega) (by omega)]; exact c), if_neg c, nI_1, lt_e]
  · rintro ⟨x, y, z, s⟩ ⟨e1, e2⟩
    dsimp only at e1 e2
    subst e1
    refine ⟨(x, y, s), ?_, e2⟩
    show fX6_bestStop_b18 _ _ _ _ _ = _
    unfold fX6_bestStop_b18
    rw [Wk.T e2.2.2.1, if_pos (by rw [n_le (by omega) (by omega)]; omega)]
theorem c_bestStop (hC : CoIs w 1 σ) (hg : good σ) : ∃ w1, fX6_bestStop w = some (fI (-9) (bSt σ 5).1, w1) := by
  obtain ⟨v, a1, a2, a3, a4⟩ := c_start hC hg
  unfold fX6_bestStop
  rw [a1, bd_e, un2_e]
  have main : ∃ x, iter (fun s : Int32 × Int32 × Int32 × Wd => fX6_bestStop_b10 s.1 s.2.1 s.2.2.1 s.2.2.2) FU (nI (pop (dN σ)), -9, 1, v) = some x ∧ x.1 = fI (-9) (bSt σ 5).1 := by
    refine itn (fun i s => s.2.2.1 = nI (1 + i) ∧ SSt σ (bSt σ i) s.1 s.2.1 s.2.2.2) _ 5 ⟨rfl, ?_, rfl, a2, a4⟩ ?_ ?_ (by omega)
    · show nI _ = bI (-9) (pop (dN σ) + 1)
      rw [bI_s]
    · rintro i ⟨x, y, z, s⟩ hi ⟨e1, e2⟩
      dsimp only at e1 e2
      subst e1
      obtain ⟨⟨x1, y1, s2⟩, b1, b2⟩ := c_stopIn hg hi e2
      dsimp only at b2
      refine ⟨(x1, y1, nI (1 + (i + 1)), s2), ?_, rfl, b2⟩
      show fX6_bestStop_b10 _ _ _ _ = _
      unfold fX6_bestStop_b10
      rw [if_neg (by rw [c5, n_lt (by decide) (by omega)]; omega), b1, bd_e, un3_e, nI_1, lt_e]
      rfl
    · rintro ⟨x, y, z, s⟩ ⟨e1, e2, e3, e4, e5⟩
      dsimp only at e1 e2 e3 e4 e5
      subst e1; subst e3
      refine ⟨(fI (-9) (bSt σ 5).1, s), ?_, rfl⟩
      show fX6_bestStop_b10 _ _ _ _ = _
      unfold fX6_bestStop_b10
      rw [if_pos (show (5 : Int32) < nI (1 + 5) by decide)]
  obtain ⟨⟨x, s⟩, m1, m2⟩ := main
  dsimp only at m2
  rw [m1, bd_e, un2_e, m2]
  exact ⟨_, rfl⟩
-- the reference
/-- who is lit after n minutes on the way with a stop of s at m; and the minute -/
def stR (σ : St) (m s n : Nat) : Nat := if n ≤ m then run σ (sA σ) (sL σ) n else run σ (sA σ + m) (stL σ m s) (n - m)
def stM (σ : St) (m s n : Nat) : Nat := if n ≤ m then sM σ + n else sM σ + n + s
theorem stR_gl (hg : good σ) (m s n : Nat) : GL σ (stR σ m s n) := by
  unfold stR
  split
  · exact hg.gl.run hg _ _ _
  · exact (stL_gl hg m s).run hg _ _ _
theorem stR_s {m s n : Nat} (h : n ≠ m) : stR σ m s (n + 1) = mnt σ (sA σ + n) (stR σ m s n) := by
  unfold stR
  by_cases c : n < m
  · rw [if_pos (by omega), if_pos (by omega)]; rfl
  · rw [if_neg (by omega), if_neg (by omega), show n + 1 - m = (n - m) + 1 by omega]
    show mnt σ (sA σ + m + (n - m)) _ = _
    rw [show sA σ + m + (n - m) = sA σ + n by omega]
theorem stR_m {m s : Nat} : stR σ m s (m + 1) = mnt σ (sA σ + m) (stL σ m s) := by
  unfold stR
  rw [if_neg (by omega), show m + 1 - m = 0 + 1 by omega]
  rfl
theorem m_stopBy (hM : MoIs w σ) (hg : good σ) (hm : sM σ ≤ 1200) {m s : Nat} (hm2 : sA σ + m < sD σ) (hs : s ≤ 5) : ∃ w1, fX10_stopBy w (nI (sA σ + m)) (nI s) = some (nI (pSt σ s m), w1) ∧ MoIs w1 σ ∧ Mq w w1 := by
  have hD := hg.D
  obtain ⟨v, a1, a2⟩ := ga_save2 hM
  unfold fX10_stopBy
  rw [a1, bd_e]
  have main : ∃ x, iter (fun s1 : Wd => fX10_stopBy_b6 (nI s) (nI (sA σ + m)) s1) FU v = some x ∧ Ga w 2 σ (aw σ (sA σ + (sD σ - sA σ)) (stR σ m s (sD σ - sA σ)) (stM σ m s (sD σ - sA σ))) x := by
    refine itn (fun n u => Ga w 2 σ (aw σ (sA σ + n) (stR σ m s n) (stM σ m s n)) u) _ (sD σ - sA σ) ?_ ?_ ?_ (by omega)
    · have e0 : aw σ (sA σ + 0) (stR σ m s 0) (stM σ m s 0) = σ := by
        unfold stR stM
        rw [if_pos (Nat.zero_le _), if_pos (Nat.zero_le _)]
        exact aw_self σ
      exact a2.cg e0.symm
    · intro n u hn h
      have inner : ∃ x L M, iter (fun s1 : Int32 × Wd => fX10_stopBy_b19 (nI s) (nI (sA σ + m)) s1.1 s1.2) FU (0, u) = some x ∧ Ga w 2 σ (aw σ (sA σ + n) L M) x ∧ GL σ L ∧ M + 1 = stM σ m s (n + 1) ∧ mnt σ (sA σ + n) L = stR σ m s (n + 1) := by
        by_cases c : n = m
        · subst c
          have lp : ∃ x, iter (fun s1 : Int32 × Wd => fX10_stopBy_b19 (nI s) (nI (sA σ + n)) s1.1 s1.2) FU (0, u) = some x ∧ Ga w 2 σ (aw σ (sA σ + n) (stL σ n s) (sM σ + n + s)) x := by
            refine itn (fun k u => u.1 = nI k ∧ Ga w 2 σ (aw σ (sA σ + n) (stL σ n k) (sM σ + n + k)) u.2) _ s ⟨rfl, ?_⟩ ?_ ?_ (by omega)
            · refine h.cg ?_
              unfold stR stM
              rw [if_pos (Nat.le_refl _), if_pos (Nat.le_refl _)]
              rfl
            · rintro k ⟨x, y⟩ hk ⟨e1, e2⟩
              dsimp only at e1 e2
              subst e1
              obtain ⟨y1, b1, b2⟩ := e2.go ((stL_gl hg n k).g hg (by omega) (by omega)) (by omega) 1
              refine ⟨(nI (k + 1), y1), ?_, rfl, b2⟩
              show fX10_stopBy_b19 _ _ _ _ = _
              unfold fX10_stopBy_b19
              rw [if_neg (by rw [n_le (by omega) (by omega)]; omega), if_pos (show y.1 42 8 = nI (sA σ + n) from e2.1.A), b1, bd_e, nI_1, lt_e]
            · rintro ⟨x, y⟩ ⟨e1, e2⟩
              dsimp only at e1 e2
              subst e1
              refine ⟨y, ?_, e2⟩
              show fX10_stopBy_b19 _ _ _ _ = _
              unfold fX10_stopBy_b19
              rw [if_pos (by rw [n_le (by omega) (by omega)]; omega)]
          obtain ⟨x, l1, l2⟩ := lp
          refine ⟨x, _, _, l1, l2, stL_gl hg n s, ?_, stR_m.symm⟩
          unfold stM
          rw [if_neg (by omega)]
          omega
        · refine ⟨u, stR σ m s n, stM σ m s n, ?_, h, stR_gl hg m s n, ?_, (stR_s c).symm⟩
          · have hne : ¬ u.1 42 8 = nI (sA σ + m) := by
              rw [show u.1 42 8 = nI (sA σ + n) from h.1.A, n_eq (by omega) (by omega)]; omega
            refine itf (fun _ => ((0 : Int32), u)) u 0 rfl (fun i hi => absurd hi (Nat.not_lt_zero _)) ?_ (by decide)
            show fX10_stopBy_b19 _ _ _ _ = _
            unfold fX10_stopBy_b19
            by_cases c2 : nI s ≤ 0
            · rw [if_pos c2]
            · rw [if_neg c2, if_neg hne]
          · unfold stM
            by_cases c2 : n < m
            · rw [if_pos (by omega), if_pos (by omega)]; rfl
            · rw [if_neg (by omega), if_neg (by omega)]; omega
      obtain ⟨x, L, M, l1, l2, l3, l4, l5⟩ := inner
      have hM2 : M ≤ 2000 := by
        have : stM σ m s (n + 1) ≤ sM σ + (n + 1) + s := by unfold stM; split <;> omega
        omega
      obtain ⟨y1, b1, b2⟩ := l2.go (l3.g hg (by omega) hM2) (by omega) 0
      rw [l5, l4, if_pos rfl] at b2
      refine ⟨y1, ?_, b2⟩
      show fX10_stopBy_b6 _ _ _ = _
      unfold fX10_stopBy_b6 fX10_stopBy_j43 fX10_doorAt
      rw [show u.1 44 2 = nI (sD σ) from h.1.D, show u.1 42 8 = nI (sA σ + n) from h.1.A, if_neg (by rw [n_le (by omega) (by omega)]; omega), l1, bd_e, b1, bd_e]
    · intro u h
      refine ⟨u, ?_, h⟩
      show fX10_stopBy_b6 _ _ _ = _
      unfold fX10_stopBy_b6 fX10_doorAt
      rw [show u.1 44 2 = nI (sD σ) from h.1.D, show u.1 42 8 = nI (sA σ + (sD σ - sA σ)) from h.1.A, if_pos (by rw [n_le (by omega) (by omega)]; omega)]
  obtain ⟨x, m1, m2⟩ := main
  have hR : stR σ m s (sD σ - sA σ) = stD σ m s := by
    unfold stR
    rw [if_neg (by omega)]
    rfl
  have hd : stD σ m s < 256 := ((stL_gl hg m s).run hg _ _ _).p8 hg
  obtain ⟨v2, f1, f2, f3, -⟩ := m2.rest2
  refine ⟨v2, ?_, f2, f3⟩
  rw [m1, bd_e, show x.1 42 7 = nI (stR σ m s (sD σ - sA σ)) from m2.1.L, hR, pop_m _ hd, bd_e, f1, bd_e]
  rfl
theorem m_stopIn (hg : good σ) (hm : sM σ ≤ 1200) {v : Wd} {i : Nat} (hi : i < 5) {x y : Int32} {s : Wd} (h : XM v σ (bSt σ i) x y s) : ∃ r, iter (fun s : Int32 × Int32 × Int32 × Wd => fX10_stop_b25 (nI (1 + i)) s.1 s.2.1 s.2.2.1 s.2.2.2) FU (x, y, nI (sA σ), s) = some r ∧ XM v σ (bSt σ (i + 1)) r.1 r.2.1 r.2.2 := by
  have hD := hg.D
  have hA := hg.A
  refine itn (fun m s => s.2.2.1 = nI (sA σ + m) ∧ XM v σ (bs (fun m => pSt σ (1 + i) m) (fun m => 10 * (sA σ + m) + (1 + i)) (bSt σ i) m) s.1 s.2.1 s.2.2.2) _ (sD σ - sA σ) ⟨rfl, h⟩ ?_ ?_ (by omega)
  · rintro m ⟨x, y, z, s⟩ hm2 ⟨e1, e2, e3, e4, e5⟩
    dsimp only at e1 e2 e3 e4 e5
    subst e1; subst e2; subst e3
    obtain ⟨s1, b1, b2, b3⟩ := m_stopBy e4 hg hm (m := m) (s := 1 + i) (by omega) (by omega)
    have hp8 := pSt_le hg (1 + i) m
    have hb2 := bs_2 (fun m => pSt σ (1 + i) m) (fun m => 10 * (sA σ + m) + (1 + i)) (bSt σ i) 9 (bSt_2 hg i) m (fun k _ => by have := pSt_le hg (1 + i) k; omega)
    have e7 : bs (fun m => pSt σ (1 + i) m) (fun m => 10 * (sA σ + m) + (1 + i)) (bSt σ i) (m + 1) = if (bs (fun m => pSt σ (1 + i) m) (fun m => 10 * (sA σ + m) + (1 + i)) (bSt σ i) m).2 ≤ pSt σ (1 + i) m then (10 * (sA σ + m) + (1 + i), pSt σ (1 + i) m + 1) else bs (fun m => pSt σ (1 + i) m) (fun m => 10 * (sA σ + m) + (1 + i)) (bSt σ i) m := rfl
    refine ⟨(bI (-9) (bs (fun m => pSt σ (1 + i) m) (fun m => 10 * (sA σ + m) + (1 + i)) (bSt σ i) (m + 1)).2, fI (-9) (bs (fun m => pSt σ (1 + i) m) (fun m => 10 * (sA σ + m) + (1 + i)) (bSt σ i) (m + 1)).1, nI (sA σ + m + 1), s1), ?_, rfl, rfl, rfl, b2, e5.tr b3⟩
    show fX10_stop_b25 _ _ _ _ _ = _
    unfold fX10_stop_b25 fX10_doorAt
    rw [e4.D, if_neg (by rw [n_le (by omega) (by omega)]; omega), b1, bd_e, un2_e, e7]
    by_cases c : (bs (fun m => pSt σ (1 + i) m) (fun m => 10 * (sA σ + m) + (1 + i)) (bSt σ i) m).2 ≤ pSt σ (1 + i) m
    · rw [if_pos (by rw [bI_lt (by decide) (by omega) (by omega)]; exact c), if_pos c, c10m, lt_e, nI_1, lt_e, bI_s, fI_s _ (by dsimp only; omega)]
    · rw [if_neg (by rw [bI_lt (by decide) (by omega) (by omega)]; exact c), if_neg c, nI_1, lt_e]
  · rintro ⟨x, y, z, s⟩ ⟨e1, e2⟩
    dsimp only at e1 e2
    subst e1
    refine ⟨(x, y, s), ?_, e2⟩
    show fX10_stop_b25 _ _ _ _ _ = _
    unfold fX10_stop_b25 fX10_doorAt
    rw [e2.2.2.1.D, if_pos (by rw [n_le (by omega) (by omega)]; omega)]
theorem q_stop (h : R w σ) : Ans (fX9_stop w) (fun v => fX10_stop v) := by
  have hd := dN_lt h.g
  refine Ans.q (r := fI (-9) (bSt σ 5).1) h ?_ fun v hv => ?_
  · obtain ⟨v, e⟩ := c_bestStop h.c h.g
    refine ⟨v, ?_, Cq.of (rX6_bestStop e) (by decide)⟩
    unfold fX9_stop
    rw [e, bd_e, un2_e]
  · obtain ⟨v1, a1, a2, -, a4⟩ := m_door hv.o hv.g hv.m2
    have main : ∃ x, iter (fun s : Int32 × Int32 × Int32 × Wd => fX10_stop_b13 s.1 s.2.1 s.2.2.1 s.2.2.2) FU (nI (pop (dN σ)), -9, 1, v1) = some x ∧ x.1 = fI (-9) (bSt σ 5).1 ∧ MoIs x.2 σ ∧ Mq v x.2 := by
      refine itn (fun i s => s.2.2.1 = nI (1 + i) ∧ XM v σ (bSt σ i) s.1 s.2.1 s.2.2.2) _ 5 ⟨rfl, ?_, rfl, a2, a4⟩ ?_ ?_ (by omega)
      · show nI _ = bI (-9) (pop (dN σ) + 1)
        rw [bI_s]
      · rintro i ⟨x, y, z, s⟩ hi ⟨e1, e2⟩
        dsimp only at e1 e2
        subst e1
        obtain ⟨⟨x1, y1, s2⟩, b1, b2⟩ := m_stopIn h.g h.m2 hi e2
        dsimp only at b2
        refine ⟨(x1, y1, nI (1 + (i + 1)), s2), ?_, rfl, b2⟩
        show fX10_stop_b13 _ _ _ _ = _
        unfold fX10_stop_b13
        rw [if_neg (by rw [c6, n_le (by decide) (by omega)]; omega), show s.1 42 8 = nI (sA σ) from e2.2.2.1.A, lt_e, b1, bd_e, un3_e, nI_1, lt_e]
        rfl
      · rintro ⟨x, y, z, s⟩ ⟨e1, e2, e3, e4, e5⟩
        dsimp only at e1 e2 e3 e4 e5
        subst e1; subst e3
        refine ⟨(fI (-9) (bSt σ 5).1, s), ?_, rfl, e4, e5⟩
        show fX10_stop_b13 _ _ _ _ = _
        unfold fX10_stop_b13
        rw [if_pos (show (6 : Int32) ≤ nI (1 + 5) by decide)]
    obtain ⟨⟨x, s⟩, m1, m2, m3, m4⟩ := main
    dsimp only at m2 m3 m4
    refine ⟨s, ?_, m3, m4⟩
    show fX10_stop v = _
    unfold fX10_stop
    rw [a1, bd_e, un2_e, pop_m _ hd, bd_e, m1, bd_e, un2_e, m2]
end

/-! rule, best -/
/-- whether the rule r tells to stop, with l lit at a (1: it does) -/
def tellN (σ : St) (r l a : Nat) : Nat :=
  if l = 0 then 0
  else if r = 1 then (if sP σ ≤ 2 * pop l then 0 else 1)
  else if r = 2 then (if l = grown σ then 0 else 1)
  else if r = 3 then (if sW σ a ≤ 2 then (if l = grown σ then 0 else 1) else 0)
  else if r = 4 then (if 5 < sW σ (a + 1) then (if l = grown σ then 0 else 1) else 0)
  else 0
def stoN (σ : St) (r l a s : Nat) : Nat := if 5 ≤ s then 0 else tellN σ r l a
/-- lit, place, stops one after the other, after i minutes by the rule -/
def ruT (σ : St) (r : Nat) (t : Nat × Nat × Nat) : Nat × Nat × Nat := (mnt σ t.2.1 t.1, if stoN σ r t.1 t.2.1 t.2.2 = 0 then t.2.1 + 1 else t.2.1, if stoN σ r t.1 t.2.1 t.2.2 = 0 then 0 else t.2.2 + 1)
def ruS (σ : St) (r : Nat) : Nat → Nat × Nat × Nat
  | 0 => (sL σ, sA σ, 0)
  | i + 1 => ruT σ r (ruS σ r i)
/-- it comes to the door after N minutes -/
def RuE (σ : St) (r N : Nat) : Prop := N ≤ 144 ∧ (∀ i, i < N → (ruS σ r i).2.1 < sD σ) ∧ (ruS σ r N).2.1 = sD σ
section
variable {w w1 w2 : Wd} {σ τ : St} {b : Nat} {u : Nat → Nat}
theorem tellN_le (σ : St) (r l a : Nat) : tellN σ r l a ≤ 1 := by
  unfold tellN
  split
  · omega
  split
  · split <;> omega
  split
  · split <;> omega
  split
  · split
    · split <;> omega
    · omega
  split
  · split
    · split <;> omega
    · omega
  · omega
theorem stoN_le (σ : St) (r l a s : Nat) : stoN σ r l a s ≤ 1 := by
  unfold stoN
  split
  · omega
  · exact tellN_le σ r l a
theorem sto5 {r l a s : Nat} (h : stoN σ r l a s ≠ 0) : s < 5 := by
  unfold stoN at h
  by_cases c : 5 ≤ s
  · rw [if_pos c] at h; exact absurd rfl h
  · omega
theorem ruS_p (hg : good σ) (r : Nat) : ∀ i, GL σ (ruS σ r i).1 ∧ sA σ ≤ (ruS σ r i).2.1 ∧ (ruS σ r i).2.2 ≤ 5 ∧ 6 * sA σ + i ≤ 6 * (ruS σ r i).2.1 + (ruS σ r i).2.2
  | 0 => ⟨hg.gl, Nat.le_refl _, Nat.zero_le _, by show 6 * sA σ + 0 ≤ 6 * sA σ + 0; omega⟩
  | i + 1 => by
    obtain ⟨h1, h2, h3, h4⟩ := ruS_p hg r i
    have e : ruS σ r (i + 1) = ruT σ r (ruS σ r i) := rfl
    rw [e]
    generalize ruS σ r i = t at h1 h2 h3 h4 ⊢
    obtain ⟨l, a, s⟩ := t
    unfold ruT
    dsimp only at h1 h2 h3 h4 ⊢
    by_cases c : stoN σ r l a s = 0
    · rw [if_pos c, if_pos c]
      exact ⟨h1.mnt hg a, by omega, by omega, by omega⟩
    · rw [if_neg c, if_neg c]
      have := sto5 c
      exact ⟨h1.mnt hg a, by omega, by omega, by omega⟩
theorem ruS_1 (r i : Nat) : (ruS σ r (i + 1)).2.1 ≤ (ruS σ r i).2.1 + 1 := by
  have e : ruS σ r (i + 1) = ruT σ r (ruS σ r i) := rfl
  rw [e]
  unfold ruT
  dsimp only
  split <;> omega
theorem ru_ex (hg : good σ) (r : Nat) : ∃ N, RuE σ r N := by
  have hD := hg.D
  have hA := hg.A
  have step : ∀ n, (∃ N, N ≤ n ∧ (∀ i, i < N → (ruS σ r i).2.1 < sD σ) ∧ (ruS σ r N).2.1 = sD σ) ∨ ∀ i, i ≤ n → (ruS σ r i).2.1 < sD σ := fun n => by
    induction n with
    | zero =>
      rcases Nat.lt_or_ge (sA σ) (sD σ) with h | h
      · refine Or.inr fun i hi => ?_
        have : i = 0 := by omega
        subst this; exact h
      · exact Or.inl ⟨0, Nat.le_refl _, fun i hi => absurd hi (Nat.not_lt_zero _), by show sA σ = sD σ; omega⟩
    | succ n ih =>
      rcases ih with ⟨N, h1, h2⟩ | h
      · exact Or.inl ⟨N, by omega, h2⟩
      · rcases Nat.lt_or_ge (ruS σ r (n + 1)).2.1 (sD σ) with h3 | h3
        · refine Or.inr fun i hi => ?_
          by_cases c : i = n + 1
          · subst c; exact h3
          · exact h i (by omega)
        · refine Or.inl ⟨n + 1, Nat.le_refl _, fun i hi => h i (by omega), ?_⟩
          have h4 := ruS_1 (σ := σ) r n
          have h5 := h n (Nat.le_refl _)
          omega
  rcases step 144 with ⟨N, h1, h2, h3⟩ | h
  · exact ⟨N, h1, h2, h3⟩
  · obtain ⟨-, h2, h3, h4⟩ := ruS_p hg r 144
    have h5 := h 144 (Nat.le_refl _)
    omega
-- the class
theorem if01 {t : Nat} (h : t ≤ 1) : (if nI t = 0 then some (0 : Int32) else some 1) = some (nI t) := by
  rcases (by omega : t = 0 ∨ t = 1) with rfl | rfl <;> rfl
theorem ifi (a c : Nat) : (if a = c then some (0 : Int32) else some 1) = some (nI (if a = c then 0 else 1)) := by
  by_cases d : a = c
  · rw [if_pos d, if_pos d]; rfl
  · rw [if_neg d, if_neg d]; rfl
theorem c_tells (hW : WkIs w σ) (hC : CoIs w 1 σ) (hg : good σ) {r l a : Nat} (hr : r ≤ 4) (hl : GL σ l) (ha : a < sD σ) : fX6_tellsToStop w (nI r) (nI l) (nI a) = some (nI (tellN σ r l a)) := by
  have h8 := hg.P
  have hD := hg.D
  have hl8 := hl.p8 hg
  have hp8 := pop8 hl8
  have hgr : grown σ < 256 := lt256 grown_lt h8
  have j85 : fX6_tellsToStop_j85 (nI l) w = some (nI (if l = grown σ then 0 else 1)) := by
    unfold fX6_tellsToStop_j85
    rw [hW.2.1, ← ifi]
    simp only [n_eq (show l < 2 ^ 31 by omega) (show grown σ < 2 ^ 31 by omega)]
  unfold fX6_tellsToStop tellN
  by_cases hz : l = 0
  · subst hz
    rw [if_pos rfl, if_pos (show nI 0 = (0 : Int32) from rfl)]
    split <;> rfl
  · have hz' : ¬ nI l = 0 := by rw [c0, n_eq (by omega) (by decide)]; exact hz
    rw [if_neg hz, if_neg hz']
    rcases (by omega : r = 0 ∨ r = 1 ∨ r = 2 ∨ r = 3 ∨ r = 4) with rfl | rfl | rfl | rfl | rfl
    · rw [if_pos (show nI 0 = 0 from rfl)]
      rfl
    · rw [if_neg (show ¬ nI 1 = 0 by decide), if_pos (show nI 1 = 1 from rfl), if_pos rfl, hW.1, pop_c _ hl8, c2, n_mul]
      by_cases d : sP σ ≤ 2 * pop l
      · rw [if_pos (by rw [n_le (by omega) (by omega)]; exact d), if_pos d]; rfl
      · rw [if_neg (by rw [n_le (by omega) (by omega)]; exact d), if_neg d]; rfl
    · unfold fX6_tellsToStop_j57
      rw [if_neg (show ¬ nI 2 = 0 by decide), if_neg (show ¬ nI 2 = 1 by decide), if_neg (show ¬ nI 2 = 3 by decide), if_neg (show ¬ nI 2 = 4 by decide), j85]
      rfl
    · unfold fX6_tellsToStop_j57
      have hw := hg.W a
      rw [if_neg (show ¬ nI 3 = 0 by decide), if_neg (show ¬ nI 3 = 1 by decide), if_pos (show nI 3 = 3 from rfl), if_neg (show ¬ nI 3 = 4 by decide), gdn (by omega) (by decide), n_cl (by omega), show w.1 15 a = nI (sW σ a) from hC.W (by omega), j85]
      rw [if_neg (show ¬ 3 = 1 by decide), if_neg (show ¬ 3 = 2 by decide), if_pos (show 3 = 3 from rfl)]
      by_cases d : sW σ a ≤ 2
      · rw [if_pos (by rw [c2, n_le (by omega) (by decide)]; exact d), if_pos d]
      · rw [if_neg (by rw [c2, n_le (by omega) (by decide)]; exact d), if_neg d]; rfl
    · unfold fX6_tellsToStop_j57
      have hw := hg.W (a + 1)
      rw [if_neg (show ¬ nI 4 = 0 by decide), if_neg (show ¬ nI 4 = 1 by decide), if_neg (show ¬ nI 4 = 3 by decide), if_pos (show nI 4 = 4 from rfl), if_neg (by rw [c24, n_le (by decide) (by omega)]; omega), nI_1, gdn (by omega) (by decide), n_cl (by omega), show w.1 15 (a + 1) = nI (sW σ (a + 1)) from hC.W (by omega), j85]
      rw [if_neg (show ¬ 4 = 1 by decide), if_neg (show ¬ 4 = 2 by decide), if_neg (show ¬ 4 = 3 by decide), if_pos (show 4 = 4 from rfl)]
      by_cases d : 5 < sW σ (a + 1)
      · rw [if_pos (by rw [c5, n_lt (by decide) (by omega)]; exact d), if_pos d]
      · rw [if_neg (by rw [c5, n_lt (by decide) (by omega)]; exact d), if_neg d]; rfl
theorem c_stopF (hW : WkIs w σ) (hC : CoIs w 1 σ) (hg : good σ) {r l a s : Nat} (hr : r ≤ 4) (hl : GL σ l) (ha : a < sD σ) (hs : s ≤ 5) : (if (5 : Int32) ≤ nI s then some (0 : Int32) else (fX6_tellsToStop w (nI r) (nI l) (nI a)).bind fun (r15 : Int32) => if r15 = 0 then some (0 : Int32) else some (1 : Int32) : Option Int32) = some (nI (stoN σ r l a s)) := by
  rw [c_tells hW hC hg hr hl ha, bd_e, if01 (tellN_le σ r l a)]
  unfold stoN
  by_cases c : 5 ≤ s
  · rw [if_pos (by rw [c5, n_le (by decide) (by omega)]; exact c), if_pos c]; rfl
  · rw [if_neg (by rw [c5, n_le (by decide) (by omega)]; exact c), if_neg c]
theorem c_follow (hC : CoIs w 1 σ) (hg : good σ) {r N : Nat} (hr : r ≤ 4) (hN : RuE σ r N) : ∃ w1, fX6_follow w (nI r) = some w1 ∧ w1.1 9 0 = nI (pop (ruS σ r N).1) ∧ w1.1 9 1 = nI N := by
  have hD := hg.D
  have hA := hg.A
  obtain ⟨hN1, hN2, hN3⟩ := hN
  obtain ⟨v, a1, a2, a3, a4⟩ := c_outNow hC hg
  unfold fX6_follow
  rw [a1, bd_e, a3.L, lt_e, a3.Pl, lt_e]
  have main : ∃ x, iter (fun s : Int32 × Int32 × Int32 × Int32 × Int32 × Wd => fX6_follow_b36 (nI r) s.1 s.2.1 s.2.2.1 s.2.2.2.1 s.2.2.2.2.1 s.2.2.2.2.2) FU (nI (sL σ), nI (sA σ), 0, 0, 0, v) = some x ∧ x.1 = nI (ruS σ r N).1 ∧ x.2.1 = nI N := by
    refine itn (fun i s => s.1 = nI (ruS σ r i).1 ∧ s.2.1 = nI (ruS σ r i).2.1 ∧ s.2.2.1 = nI (ruS σ r i).2.2 ∧ s.2.2.2.1 = nI i ∧ s.2.2.2.2.1 = nI i ∧ WkIs s.2.2.2.2.2 σ ∧ CoIs s.2.2.2.2.2 1 σ) _ N ⟨rfl, rfl, rfl, rfl, rfl, a2, a3⟩ ?_ ?_ (by omega)
    · rintro i ⟨x1, x2, x3, x4, x5, s⟩ hi ⟨e1, e2, e3, e4, e5, e6, e7⟩
      dsimp only at e1 e2 e3 e4 e5 e6 e7
      subst e1; subst e2; subst e3; subst e4; subst e5
      have hp := ruS_p hg r i
      have hlt := hN2 i hi
      have e : ruS σ r (i + 1) = ruT σ r (ruS σ r i) := rfl
      rw [e]
      generalize ruS σ r i = t at hp hlt ⊢
      obtain ⟨l, a, st⟩ := t
      obtain ⟨p1, p2, p3, p4⟩ := hp
      dsimp only at p1 p2 p3 p4 hlt ⊢
      obtain ⟨s1, b1, -, -, -, b2⟩ := c_minute e6 hg (a := a) p1.1 p2 hlt
      have k1 : Kc s s1 := Kc.of (rX8_minuteAt b1) (by decide)
      have hst := stoN_le σ r l a st
      refine ⟨(nI (mntU σ (uns σ) a l), nI (if stoN σ r l a st = 0 then a + 1 else a), nI (if stoN σ r l a st = 0 then 0 else st + 1), nI (i + 1), nI (i + 1), s1), ?_, rfl, rfl, rfl, rfl, rfl, b2, k1.coA e7⟩
      show fX6_follow_b36 _ _ _ _ _ _ _ = _
      unfold fX6_follow_b36
      rw [if_neg (by rw [show (144 : Int32) = nI 144 from rfl, n_le (by decide) (by omega)]; omega), e7.Do, if_neg (by rw [n_le (by omega) (by omega)]; omega), c_stopF e6 e7 hg hr p1 hlt p3, bd_e, b1, bd_e, un2_e, nI_1, lt_e]
      by_cases c : stoN σ r l a st = 0
      · rw [c, if_pos (show nI 0 = 0 from rfl), if_pos (show nI 0 = 0 from rfl), if_pos rfl, if_pos rfl, lt_e, nI_1, lt_e, lt_e]
        rfl
      · have hne : ¬ nI (stoN σ r l a st) = 0 := by rw [c0, n_eq (by omega) (by decide)]; exact c
        rw [if_neg hne, if_neg hne, if_neg c, if_neg c, nI_1, lt_e, lt_e, lt_e]
    · rintro ⟨x1, x2, x3, x4, x5, s⟩ ⟨e1, e2, e3, e4, e5, e6, e7⟩
      dsimp only at e1 e2 e3 e4 e5 e6 e7
      subst e1; subst e2; subst e3; subst e4; subst e5
      refine ⟨(_, _, s), ?_, rfl, rfl⟩
      show fX6_follow_b36 _ _ _ _ _ _ _ = _
      unfold fX6_follow_b36
      rw [e7.Do, hN3]
      by_cases c : (144 : Int32) ≤ nI N
      · rw [if_pos c] <;> rfl
      · rw [if_neg c, if_pos (Int32.le_refl _)] <;> rfl
  obtain ⟨⟨x, y, s⟩, m1, m2, m3⟩ := main
  dsimp only at m2 m3
  rw [m1, bd_e, un3_e]
  unfold fX6_follow_j125
  rw [lt_e, lt_e]
  refine ⟨_, rfl, ?_, ?_⟩
  · rw [upI_k _ _ _ _ (by decide), upI_s, m2, pop_c _ ((ruS_p hg r N).1.p8 hg)]
  · rw [upI_s, m3]
-- the reference
theorem m_dark {a l M : Nat} (hM : MoIs w (aw σ a l M)) (hg : good σ) (hl : GL σ l) : fX10_isSomebodyDark w = some (nI (if l = grown σ then 0 else 1)) := by
  have h8 := hg.P
  have hl8 := hl.p8 hg
  have hP : w.1 42 6 = nI (sP σ) := hM.P
  have hL : w.1 42 7 = nI l := hM.L
  have main : ∃ x, iter (fun s : Int32 => fX10_isSomebodyDark_b2 w s) FU (0 : Int32) = some x ∧ x = nI (if l = grown σ then 0 else 1) := by
    refine it (fun n s => s = nI n ∧ ∀ q, q < n → sK σ q ≠ 6 → l.testBit q = true) _ (sP σ) ⟨rfl, fun q hq => absurd hq (Nat.not_lt_zero _)⟩ ?_ ?_ (by omega)
    · rintro n s hn ⟨e1, e2⟩
      subst e1
      have hk7 := hg.K n
      have hK : w.1 45 n = nI (sK σ n) := hM.K (by omega)
      by_cases hk : sK σ n = 6
      · refine Or.inl ⟨nI (n + 1), ?_, rfl, fun q hq hq6 => ?_⟩
        · show fX10_isSomebodyDark_b2 w _ = _
          unfold fX10_isSomebodyDark_b2
          rw [hP, if_neg (by rw [n_le (by omega) (by omega)]; omega), gdn (by omega) (by decide), n_cl (by omega), hK, hk, if_pos (show nI 6 = (6 : Int32) from rfl), nI_1, lt_e]
        · by_cases d : q = n
          · subst d; exact absurd hk hq6
          · exact e2 q (by omega) hq6
      · have hne : ¬ nI (sK σ n) = 6 := by rw [c6, n_eq (by omega) (by decide)]; exact hk
        by_cases c : l.testBit n = true
        · refine Or.inl ⟨nI (n + 1), ?_, rfl, fun q hq hq6 => ?_⟩
          · show fX10_isSomebodyDark_b2 w _ = _
            unfold fX10_isSomebodyDark_b2
            rw [hP, if_neg (by rw [n_le (by omega) (by omega)]; omega), gdn (by omega) (by decide), n_cl (by omega), hK, if_neg hne, hL, hasm (by omega) (by omega), if_pos c, if_neg (by decide), nI_1, lt_e]
          · by_cases d : q = n
            · subst d; exact c
            · exact e2 q (by omega) hq6
        · refine Or.inr ⟨1, ?_, ?_⟩
          · show fX10_isSomebodyDark_b2 w _ = _
            unfold fX10_isSomebodyDark_b2
            rw [hP, if_neg (by rw [n_le (by omega) (by omega)]; omega), gdn (by omega) (by decide), n_cl (by omega), hK, if_neg hne, hL, hasm (by omega) (by omega), if_neg c, if_pos rfl]
          · have : l ≠ grown σ := fun e => c (by rw [e, grown_bit]; simp [hn, hk])
            rw [if_neg this]; rfl
    · rintro s ⟨e1, e2⟩
      subst e1
      refine ⟨0, ?_, ?_⟩
      · show fX10_isSomebodyDark_b2 w _ = _
        unfold fX10_isSomebodyDark_b2
        rw [hP, if_pos (by rw [n_le (by omega) (by omega)]; omega)]
      · have : l = grown σ := bits_ext fun q => by
          rw [grown_bit]
          by_cases hq : q < sP σ
          · by_cases hk : sK σ q = 6
            · have hf : l.testBit q = false := by
                cases hb : l.testBit q with
                | false => rfl
                | true => exact absurd hk (hl.2 q hb)
              rw [hf]; simp [hk]
            · rw [e2 q hq hk]; simp [hq, hk]
          · have hf : l.testBit q = false := by
              cases hb : l.testBit q with
              | false => rfl
              | true => exact absurd (bit_lt hl.1 hb) hq
            rw [hf]; simp [hq]
        rw [if_pos this]; rfl
  obtain ⟨x, m1, m2⟩ := main
  unfold fX10_isSomebodyDark
  rw [m1, m2]
theorem m_doesStop {r a l M : Nat} (hM : MoIs w (aw σ a l M)) (hg : good σ) (hr : r ≤ 4) (hl : GL σ l) (ha : a < sD σ) : fX10_doesStop w (nI r) = some (nI (tellN σ r l a)) := by
  have h8 := hg.P
  have hD := hg.D
  have hl8 := hl.p8 hg
  have hp8 := pop8 hl8
  have hP : w.1 42 6 = nI (sP σ) := hM.P
  have hL : w.1 42 7 = nI l := hM.L
  have hA : w.1 42 8 = nI a := hM.A
  have dk := m_dark hM hg hl
  have d1 : (if l = grown σ then 0 else 1 : Nat) ≤ 1 := by split <;> omega
  unfold fX10_doesStop tellN
  rw [hL]
  by_cases hz : l = 0
  · subst hz
    rw [if_pos rfl, if_pos (show nI 0 = (0 : Int32) from rfl)]
    rfl
  · have hz' : ¬ nI l = 0 := by rw [c0, n_eq (by omega) (by decide)]; exact hz
    rw [if_neg hz, if_neg hz']
    rcases (by omega : r = 0 ∨ r = 1 ∨ r = 2 ∨ r = 3 ∨ r = 4) with rfl | rfl | rfl | rfl | rfl
    · rw [if_neg (show ¬ nI 0 = 1 by decide), if_neg (show ¬ nI 0 = 2 by decide), if_neg (show ¬ nI 0 = 3 by decide), if_neg (show ¬ nI 0 = 4 by decide)]
      rfl
    · rw [if_pos (show nI 1 = 1 from rfl), if_pos rfl, pop_m _ hl8, bd_e, hP, c2, n_mul]
      by_cases d : sP σ ≤ 2 * pop l
      · rw [if_pos (by rw [n_le (by omega) (by omega)]; exact d), if_pos d]; rfl
      · rw [if_neg (by rw [n_le (by omega) (by omega)]; exact d), if_neg d]; rfl
    · rw [if_neg (show ¬ nI 2 = 1 by decide), if_pos (show nI 2 = 2 from rfl), dk, bd_e, gd_t (by rcases (by omega : (if l = grown σ then 0 else 1 : Nat) = 0 ∨ (if l = grown σ then 0 else 1 : Nat) = 1) with h | h <;> rw [h] <;> decide)]
      rfl
    · have hw := hg.W a
      rw [if_neg (show ¬ nI 3 = 1 by decide), if_neg (show ¬ nI 3 = 2 by decide), if_pos (show nI 3 = 3 from rfl), hA, gdn (by omega) (by decide), n_cl (by omega), show w.1 47 a = nI (sW σ a) from hM.W (by omega), dk, bd_e, if01 d1]
      rw [if_neg (show ¬ 3 = 1 by decide), if_neg (show ¬ 3 = 2 by decide), if_pos (show 3 = 3 from rfl)]
      by_cases d : sW σ a ≤ 2
      · rw [if_neg (by rw [c2, n_lt (by decide) (by omega)]; omega), if_pos d]
      · rw [if_pos (by rw [c2, n_lt (by decide) (by omega)]; omega), if_neg d]; rfl
    · have hw := hg.W (a + 1)
      rw [if_neg (show ¬ nI 4 = 1 by decide), if_neg (show ¬ nI 4 = 2 by decide), if_neg (show ¬ nI 4 = 3 by decide), if_pos (show nI 4 = 4 from rfl), hA, nI_1, gdn (by omega) (by decide), n_cl (by omega), show w.1 47 (a + 1) = nI (sW σ (a + 1)) from hM.W (by omega), dk, bd_e, if01 d1]
      rw [if_neg (show ¬ 4 = 1 by decide), if_neg (show ¬ 4 = 2 by decide), if_neg (show ¬ 4 = 3 by decide), if_pos (show 4 = 4 from rfl)]
      by_cases d : 5 < sW σ (a + 1)
      · rw [if_neg (by rw [c5, n_le (by omega) (by decide)]; omega), if_pos d]
      · rw [if_pos (by rw [c5, n_le (by omega) (by decide)]; omega), if_neg d]; rfl
theorem m_stopF {r a l M s : Nat} (hM : MoIs w (aw σ a l M)) (hg : good σ) (hr : r ≤ 4) (hl : GL σ l) (ha : a < sD σ) (hs : s ≤ 5) : (if (5 : Int32) ≤ nI s then some (0 : Int32) else (fX10_doesStop w (nI r)).bind fun (r10 : Int32) => if r10 = 0 then some (0 : Int32) else some (1 : Int32) : Option Int32) = some (nI (stoN σ r l a s)) := by
  rw [m_doesStop hM hg hr hl ha, bd_e, if01 (tellN_le σ r l a)]
  unfold stoN
  by_cases c : 5 ≤ s
  · rw [if_pos (by rw [c5, n_le (by decide) (by omega)]; exact c), if_pos c]; rfl
  · rw [if_neg (by rw [c5, n_le (by decide) (by omega)]; exact c), if_neg c]
theorem Ga.up {k : Nat} {s : Wd} (h : Ga w k σ τ s) (f : Nat) (x : Int32) (h1 : okMo [at_ 42 f] = true) (h2 : okMQ [at_ 42 f] = true) : Ga w k σ τ (upI s 42 f x) := by
  have fr : Agree (pU [at_ 42 f]) s (upI s 42 f x) := Agree.rf.pI rfl (Or.inl (List.mem_singleton.mpr rfl))
  exact ⟨h.1.keep fr h1, h.2.1.keep fun q _ _ => rfl, h.2.2.1.tr (Mq.of fr h2), h.2.2.2.tr fun q _ => rfl⟩
theorem m_byRule (hM : MoIs w σ) (hg : good σ) (hm : sM σ ≤ 1200) {r N : Nat} (hr : r ≤ 4) (hN : RuE σ r N) : ∃ w1, fX10_goesByRule w (nI r) = some w1 ∧ MoIs w1 σ ∧ Mq w w1 ∧ w1.1 42 33 = nI (pop (ruS σ r N).1) ∧ w1.1 42 34 = nI N := by
  have hD := hg.D
  have hA := hg.A
  obtain ⟨hN1, hN2, hN3⟩ := hN
  obtain ⟨v, a1, a2, -⟩ := ga_save1 hM
  unfold fX10_goesByRule
  rw [a1, bd_e, lt_e]
  have main : ∃ x, iter (fun s : Int32 × Wd => fX10_goesByRule_b13 (nI r) s.1 s.2) FU (0, upI v 42 34 0) = some x ∧ Ga w 1 σ (aw σ (ruS σ r N).2.1 (ruS σ r N).1 (sM σ + N)) x ∧ x.1 42 34 = nI N := by
    refine itn (fun i (s : Int32 × Wd) => s.1 = nI (ruS σ r i).2.2 ∧ Ga w 1 σ (aw σ (ruS σ r i).2.1 (ruS σ r i).1 (sM σ + i)) s.2 ∧ s.2.1 42 34 = nI i) _ N ⟨rfl, (a2.up 34 0 (by decide) (by decide)).cg (aw_self σ).symm, upI_s _ _ _ _⟩ ?_ ?_ (by omega)
    · rintro i ⟨x, s⟩ hi ⟨e1, e2, e3⟩
      dsimp only at e1 e2 e3
      subst e1
      have hp := ruS_p hg r i
      have hlt := hN2 i hi
      have e : ruS σ r (i + 1) = ruT σ r (ruS σ r i) := rfl
      rw [e]
      generalize ruS σ r i = t at hp hlt e2 ⊢
      obtain ⟨l, a, st⟩ := t
      obtain ⟨p1, p2, p3, p4⟩ := hp
      dsimp only at p1 p2 p3 p4 hlt e2 ⊢
      obtain ⟨s1, b1, b2⟩ := e2.go (p1.g hg (by omega) (by omega)) (by omega) (nI (stoN σ r l a st))
      have hst := stoN_le σ r l a st
      have k34 : s1.1 42 34 = nI i := ((rX10_goes b1) 42 34 (by decide)).1.trans e3
      have hpl : (a + if nI (stoN σ r l a st) = 0 then 1 else 0) = if stoN σ r l a st = 0 then a + 1 else a := by
        by_cases c : stoN σ r l a st = 0
        · rw [c, if_pos (show nI 0 = 0 from rfl), if_pos rfl]
        · rw [if_neg (by rw [c0, n_eq (by omega) (by decide)]; exact c), if_neg c, Nat.add_zero]
      rw [hpl] at b2
      refine ⟨(nI (if stoN σ r l a st = 0 then 0 else st + 1), upI s1 42 34 (nI (i + 1))), ?_, rfl, b2.up 34 _ (by decide) (by decide), upI_s _ _ _ _⟩
      show fX10_goesByRule_b13 _ _ _ = _
      unfold fX10_goesByRule_b13 fX10_doorAt
      rw [show s.1 44 2 = nI (sD σ) from e2.1.D, show s.1 42 8 = nI a from e2.1.A, if_neg (by rw [n_le (by omega) (by omega)]; omega), m_stopF e2.1 hg hr p1 hlt p3, bd_e, b1, bd_e]
      by_cases c : stoN σ r l a st = 0
      · rw [c, if_pos (show nI 0 = 0 from rfl), if_pos rfl, lt_e, k34, nI_1, lt_e]
        rfl
      · have hne : ¬ nI (stoN σ r l a st) = 0 := by rw [c0, n_eq (by omega) (by decide)]; exact c
        rw [if_neg hne, if_neg c, nI_1, lt_e, k34, nI_1, lt_e]
    · rintro ⟨x, s⟩ ⟨e1, e2, e3⟩
      dsimp only at e1 e2 e3
      refine ⟨s, ?_, e2, e3⟩
      show fX10_goesByRule_b13 _ _ _ = _
      unfold fX10_goesByRule_b13 fX10_doorAt
      rw [show s.1 44 2 = nI (sD σ) from e2.1.D, show s.1 42 8 = nI (ruS σ r N).2.1 from e2.1.A, hN3, if_pos (Int32.le_refl _)]
  obtain ⟨x, m1, m2, m3⟩ := main
  have hd := (ruS_p hg r N).1.p8 hg
  have m4 := m2.up 33 (nI (pop (ruS σ r N).1)) (by decide) (by decide)
  obtain ⟨v2, f1, f2, f3, -, -, f6⟩ := m4.rest1
  refine ⟨v2, ?_, f2, f3, ?_, ?_⟩
  · rw [m1, bd_e, show x.1 42 7 = nI (ruS σ r N).1 from m2.1.L, pop_m _ hd, bd_e, lt_e, f1, bd_e]
  · rw [f6 33 (by decide) (by decide) (by decide), upI_s]
  · rw [f6 34 (by decide) (by decide) (by decide), upI_k _ _ _ _ (by decide), m3]
theorem q_rule (h : R w σ) (x y : Int32) : Ans (fX9_rule w x y) (fun v => fX10_rule v x y) := by
  rcases io4 x with ⟨i1, i2⟩ | ⟨i1, i2, r, hr, rfl⟩
  · exact Ans.nof h 2 (by decide) (by decide) (by unfold fX9_rule fX9_rule_j16; simp only [i1, if_neg (show ¬ (1 : Int32) = 0 by decide), rf1, rf2, rf3, rf4, rf6, bd_e, un2_e] <;> rfl) (fun v e => by unfold fX10_rule fX10_rule_j18; simp only [i2, if_pos, e _ (show (42 : Nat) ≠ 12 by decide), no1, no2, no3, no4, no6, bd_e, un2_e] <;> rfl)
  · rcases io1 y with ⟨j1, j2⟩ | ⟨j1, j2, p, hp, rfl⟩
    · exact Ans.nof h 2 (by decide) (by decide) (by unfold fX9_rule fX9_rule_j16; simp only [i1, if_pos, j1, if_neg (show ¬ (1 : Int32) = 0 by decide), rf1, rf2, rf3, rf4, rf6, bd_e, un2_e] <;> rfl) (fun v e => by unfold fX10_rule fX10_rule_j18; simp only [i2, j2, if_pos, if_neg (show ¬ (1 : Int32) = 0 by decide), e _ (show (42 : Nat) ≠ 12 by decide), no1, no2, no3, no4, no6, bd_e, un2_e] <;> rfl)
    · obtain ⟨N, hN⟩ := ru_ex h.g r
      refine Ans.q (r := if p = 0 then nI (pop (ruS σ r N).1) else nI N) h ?_ fun v hv => ?_
      · obtain ⟨v, e, e2, e3⟩ := c_follow h.c h.g hr hN
        refine ⟨v, ?_, Cq.of (rX6_follow e) (by decide)⟩
        unfold fX9_rule
        rw [i1, if_pos rfl, j1, if_pos rfl, e, bd_e]
        by_cases c : p = 0
        · subst c; rw [if_pos (show nI 0 = 0 from rfl), e2, if_pos rfl]
        · rw [if_neg (by rw [c0, n_eq (by omega) (by decide)]; exact c), e3, if_neg c]
      · obtain ⟨v2, e, e1, e2, e3, e4⟩ := m_byRule hv.o hv.g hv.m2 hr hN
        refine ⟨v2, ?_, e1, e2⟩
        show fX10_rule v (nI r) (nI p) = _
        unfold fX10_rule
        rw [i2, if_neg (by decide), j2, if_neg (by decide), e, bd_e]
        by_cases c : p = 0
        · subst c; rw [if_pos (show nI 0 = 0 from rfl), e3, if_pos rfl]
        · rw [if_neg (by rw [c0, n_eq (by omega) (by decide)]; exact c), e4, if_neg c]
/-- the best rule up to i: the rule, how many are lit, how long -/
def beN (L N : Nat → Nat) : Nat → Nat × Nat × Nat
  | 0 => (0, L 0, N 0)
  | i + 1 => if (beN L N i).2.1 < L (i + 1) then (i + 1, L (i + 1), N (i + 1)) else if L (i + 1) = (beN L N i).2.1 then (if (beN L N i).2.2 ≤ N (i + 1) then beN L N i else (i + 1, L (i + 1), N (i + 1))) else beN L N i
theorem beN_le {L N : Nat → Nat} (hL : ∀ i, i ≤ 4 → L i ≤ 8) (hN : ∀ i, i ≤ 4 → N i ≤ 144) : ∀ i, i ≤ 4 → (beN L N i).2.1 ≤ 8 ∧ (beN L N i).2.2 ≤ 144
  | 0, _ => ⟨hL 0 (by decide), hN 0 (by decide)⟩
  | i + 1, hi => by
    have h := beN_le hL hN i (by omega)
    have h2 : L (i + 1) ≤ 8 ∧ N (i + 1) ≤ 144 := ⟨hL _ hi, hN _ hi⟩
    unfold beN
    split
    · exact h2
    · split
      · split
        · exact h
        · exact h2
      · exact h
theorem q_best (h : R w σ) : Ans (fX9_best w) (fun v => fX10_best v) := by
  obtain ⟨N, hN⟩ : ∃ N : Nat → Nat, ∀ r, RuE σ r (N r) := ⟨fun r => Classical.choose (ru_ex h.g r), fun r => Classical.choose_spec (ru_ex h.g r)⟩
  have hL8 : ∀ r, pop (ruS σ r (N r)).1 ≤ 8 := fun r => pop8 ((ruS_p h.g r _).1.p8 h.g)
  have hN8 : ∀ r, N r ≤ 144 := fun r => (hN r).1
  generalize hLL : (fun r => pop (ruS σ r (N r)).1) = L
  have hL9 : ∀ r, pop (ruS σ r (N r)).1 = L r := fun r => by rw [← hLL]
  have hLe : ∀ r, L r ≤ 8 := fun r => by rw [← hL9]; exact hL8 r
  have hb := beN_le (L := L) (N := N) (fun i _ => hLe i) (fun i _ => hN8 i)
  refine Ans.q (r := nI (beN L N 4).1) h ?_ fun v hv => ?_
  · have main : ∃ x, iter (fun s : Int32 × Int32 × Int32 × Int32 × Wd => fX6_bestRule_b9 s.1 s.2.1 s.2.2.1 s.2.2.2.1 s.2.2.2.2) FU (0, (-1), 0, 0, w) = some x ∧ x.1 = nI (beN L N 4).1 := by
      refine itn (fun n s => s.2.2.2.1 = nI n ∧ CoIs s.2.2.2.2 1 σ ∧ ((n = 0 ∧ s.1 = 0 ∧ s.2.1 = -1 ∧ s.2.2.1 = 0) ∨ ∃ k, n = k + 1 ∧ s.1 = nI (beN L N k).1 ∧ s.2.1 = nI (beN L N k).2.1 ∧ s.2.2.1 = nI (beN L N k).2.2)) _ 5 ⟨rfl, h.c, Or.inl ⟨rfl, rfl, rfl, rfl⟩⟩ ?_ ?_ (by omega)
      · rintro n ⟨x1, x2, x3, x4, s⟩ hn ⟨e1, e2, e3⟩
        dsimp only at e1 e2 e3
        subst e1
        obtain ⟨s1, b1, b2, b3⟩ := c_follow e2 h.g (r := n) (by omega) (hN n)
        rw [hL9] at b2
        have hLn := hLe n
        have hNn := hN8 n
        have hC1 : CoIs s1 1 σ := (Cq.of (rX6_follow b1) (by decide)).co1 e2
        have g0 : ¬ (4 : Int32) < nI n := by rw [c4, n_lt (by decide) (by omega)]; omega
        rcases e3 with ⟨z1, z2, z3, z4⟩ | ⟨k, z1, z2, z3, z4⟩
        · subst z1; subst z2; subst z3; subst z4
          refine ⟨(nI 0, nI (L 0), nI (N 0), nI 1, s1), ?_, rfl, hC1, Or.inr ⟨0, rfl, rfl, rfl, rfl⟩⟩
          show fX6_bestRule_b9 _ _ _ _ _ = _
          unfold fX6_bestRule_b9 fX6_bestRule_j45
          rw [if_neg g0, b1, bd_e, b2, if_pos (Int32.lt_of_lt_of_le (show (-1 : Int32) < 0 by decide) (nI_pos' (by omega))), lt_e, b3, lt_e, nI_1, lt_e]
        · subst z1; subst z2; subst z3; subst z4
          obtain ⟨hb1, hb2⟩ := hb k (by omega)
          have take : fX6_bestRule_j45 s1 (nI (k + 1)) = some (.inl (nI (k + 1), nI (L (k + 1)), nI (N (k + 1)), nI (k + 1 + 1), s1)) := by
            unfold fX6_bestRule_j45
            rw [b2, lt_e, b3, lt_e, nI_1, lt_e]
          by_cases c1 : (beN L N k).2.1 < L (k + 1)
          · refine ⟨(nI (k + 1), nI (L (k + 1)), nI (N (k + 1)), nI (k + 1 + 1), s1), ?_, rfl, hC1, Or.inr ⟨k + 1, rfl, ?_, ?_, ?_⟩⟩
            · show fX6_bestRule_b9 _ _ _ _ _ = _
              unfold fX6_bestRule_b9
              rw [if_neg g0, b1, bd_e, b2, if_pos (by rw [n_lt (by omega) (by omega)]; exact c1), take]
            all_goals (rw [beN, if_pos c1])
          · by_cases c2 : L (k + 1) = (beN L N k).2.1
            · by_cases c3 : (beN L N k).2.2 ≤ N (k + 1)
              · refine ⟨(_, _, _, nI (k + 1 + 1), s1), ?_, rfl, hC1, Or.inr ⟨k + 1, rfl, rfl, rfl, rfl⟩⟩
                show fX6_bestRule_b9 _ _ _ _ _ = _
                unfold fX6_bestRule_b9
                rw [if_neg g0, b1, bd_e, b2, if_neg (by rw [n_lt (by omega) (by omega)]; exact c1), if_pos (by rw [n_eq (by omega) (by omega)]; exact c2), b3, if_pos (by rw [n_le (by omega) (by omega)]; exact c3), nI_1, lt_e, beN, if_neg c1, if_pos c2, if_pos c3] <;> rfl
              · refine ⟨(nI (k + 1), nI (L (k + 1)), nI (N (k + 1)), nI (k + 1 + 1), s1), ?_, rfl, hC1, Or.inr ⟨k + 1, rfl, ?_, ?_, ?_⟩⟩
                · show fX6_bestRule_b9 _ _ _ _ _ = _
                  unfold fX6_bestRule_b9
                  rw [if_neg g0, b1, bd_e, b2, if_neg (by rw [n_lt (by omega) (by omega)]; exact c1), if_pos (by rw [n_eq (by omega) (by omega)]; exact c2), b3, if_neg (by rw [n_le (by omega) (by omega)]; exact c3), take]
                all_goals (rw [beN, if_neg c1, if_pos c2, if_neg c3])
            · refine ⟨(_, _, _, nI (k + 1 + 1), s1), ?_, rfl, hC1, Or.inr ⟨k + 1, rfl, rfl, rfl, rfl⟩⟩
              show fX6_bestRule_b9 _ _ _ _ _ = _
              unfold fX6_bestRule_b9
              rw [if_neg g0, b1, bd_e, b2, if_neg (by rw [n_lt (by omega) (by omega)]; exact c1), if_neg (by rw [n_eq (by omega) (by omega)]; exact c2), nI_1, lt_e, beN, if_neg c1, if_neg c2] <;> rfl
      · rintro ⟨x1, x2, x3, x4, s⟩ ⟨e1, e2, e3⟩
        dsimp only at e1 e2 e3
        subst e1
        rcases e3 with ⟨z1, -⟩ | ⟨k, z1, z2, z3, z4⟩
        · exact absurd z1 (by decide)
        · have : k = 4 := by omega
          subst this
          refine ⟨(_, s), ?_, z2⟩
          show fX6_bestRule_b9 _ _ _ _ _ = _
          unfold fX6_bestRule_b9
          rw [if_pos (show (4 : Int32) < nI 5 by decide)] <;> rfl
    obtain ⟨⟨x, s⟩, m1, m2⟩ := main
    dsimp only at m2
    have e : fX6_bestRule w = some (nI (beN L N 4).1, s) := by
      unfold fX6_bestRule
      rw [m1, bd_e, un2_e, m2]
    refine ⟨s, ?_, Cq.of (rX6_bestRule e) (by decide)⟩
    unfold fX9_best
    rw [e, bd_e, un2_e]
  · obtain ⟨v1, a1, a2, a3, a4, a5⟩ := m_byRule hv.o hv.g hv.m2 (r := 0) (by decide) (hN 0)
    rw [hL9] at a4
    have main : ∃ x, iter (fun s : Int32 × Int32 × Int32 × Int32 × Wd => fX10_best_b20 s.1 s.2.1 s.2.2.1 s.2.2.2.1 s.2.2.2.2) FU (0, nI (L 0), nI (N 0), 1, v1) = some x ∧ x.1 = nI (beN L N 4).1 ∧ MoIs x.2 σ ∧ Mq v x.2 := by
      refine itn (fun k s => s.2.2.2.1 = nI (k + 1) ∧ MoIs s.2.2.2.2 σ ∧ Mq v s.2.2.2.2 ∧ s.1 = nI (beN L N k).1 ∧ s.2.1 = nI (beN L N k).2.1 ∧ s.2.2.1 = nI (beN L N k).2.2) _ 4 ⟨rfl, a2, a3, rfl, rfl, rfl⟩ ?_ ?_ (by omega)
      · rintro k ⟨x1, x2, x3, x4, s⟩ hk ⟨e1, e2, e3, z2, z3, z4⟩
        dsimp only at e1 e2 e3 z2 z3 z4
        subst e1; subst z2; subst z3; subst z4
        obtain ⟨s1, b1, b2, b4, b5, b6⟩ := m_byRule e2 h.g h.m2 (r := k + 1) (by omega) (hN (k + 1))
        rw [hL9] at b5
        have hLn := hLe (k + 1)
        have hNn := hN8 (k + 1)
        have g0 : ¬ (5 : Int32) ≤ nI (k + 1) := by rw [c5, n_le (by decide) (by omega)]; omega
        obtain ⟨hb1, hb2⟩ := hb k (by omega)
        have take : fX10_best_j59 s1 (nI (k + 1)) = some (.inl (nI (k + 1), nI (L (k + 1)), nI (N (k + 1)), nI (k + 1 + 1), s1)) := by
          unfold fX10_best_j59
          rw [b5, lt_e, b6, lt_e, nI_1, lt_e]
        by_cases c1 : (beN L N k).2.1 < L (k + 1)
        · have c2 : ¬ L (k + 1) = (beN L N k).2.1 := by omega
          refine ⟨(nI (k + 1), nI (L (k + 1)), nI (N (k + 1)), nI (k + 1 + 1), s1), ?_, rfl, b2, e3.tr b4, ?_, ?_, ?_⟩
          · show fX10_best_b20 _ _ _ _ _ = _
            unfold fX10_best_b20
            rw [if_neg g0, b1, bd_e, b5, if_neg (by rw [n_lt (by omega) (by omega)]; omega), if_neg (by rw [n_eq (by omega) (by omega)]; exact c2), take]
          all_goals (rw [beN, if_pos c1])
        · by_cases c2 : L (k + 1) = (beN L N k).2.1
          · by_cases c3 : (beN L N k).2.2 ≤ N (k + 1)
            · refine ⟨(_, _, _, nI (k + 1 + 1), s1), ?_, rfl, b2, e3.tr b4, rfl, rfl, rfl⟩
              show fX10_best_b20 _ _ _ _ _ = _
              unfold fX10_best_b20
              rw [if_neg g0, b1, bd_e, b5, if_neg (by rw [n_lt (by omega) (by omega)]; omega), if_pos (by rw [n_eq (by omega) (by omega)]; exact c2), b6, if_neg (by rw [n_lt (by omega) (by omega)]; omega), nI_1, lt_e, beN, if_neg c1, if_pos c2, if_pos c3] <;> rfl
            · refine ⟨(nI (k + 1), nI (L (k + 1)), nI (N (k + 1)), nI (k + 1 + 1), s1), ?_, rfl, b2, e3.tr b4, ?_, ?_, ?_⟩
              · show fX10_best_b20 _ _ _ _ _ = _
                unfold fX10_best_b20
                rw [if_neg g0, b1, bd_e, b5, if_neg (by rw [n_lt (by omega) (by omega)]; omega), if_pos (by rw [n_eq (by omega) (by omega)]; exact c2), b6, if_pos (by rw [n_lt (by omega) (by omega)]; omega), take]
              all_goals (rw [beN, if_neg c1, if_pos c2, if_neg c3])
          · refine ⟨(_, _, _, nI (k + 1 + 1), s1), ?_, rfl, b2, e3.tr b4, rfl, rfl, rfl⟩
            show fX10_best_b20 _ _ _ _ _ = _
            unfold fX10_best_b20
            rw [if_neg g0, b1, bd_e, b5, if_pos (by rw [n_lt (by omega) (by omega)]; omega), nI_1, lt_e, beN, if_neg c1, if_neg c2] <;> rfl
      · rintro ⟨x1, x2, x3, x4, s⟩ ⟨e1, e2, e3, z2, z3, z4⟩
        dsimp only at e1 e2 e3 z2 z3 z4
        subst e1
        refine ⟨(_, s), ?_, z2, e2, e3⟩
        show fX10_best_b20 _ _ _ _ _ = _
        unfold fX10_best_b20
        rw [if_pos (show (5 : Int32) ≤ nI (4 + 1) by decide)] <;> rfl
    obtain ⟨⟨x, s⟩, m1, m2, m3, m4⟩ := main
    dsimp only at m2 m3 m4
    refine ⟨s, ?_, m3, m4⟩
    show fX10_best v = _
    unfold fX10_best
    have a1' : fX10_goesByRule v 0 = some v1 := a1
    rw [a1', bd_e, a4, lt_e, a5, lt_e, m1, bd_e, un2_e, m2]
end

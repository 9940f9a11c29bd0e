/-! road: the text, and the class -/
def dgN (c : Nat) : Nat := if c = 100 then 2 else if c = 102 then 2 else if c = 108 then 1 else if c = 109 then 1 else if c = 112 then 3 else if c = 119 then 4 else 99
/-- ahead of the i-th letter: 0 a statement, 1 its end, k + 1 k digits are awaited -/
def stT (T : Nat → Nat) : Nat → Nat
  | 0 => 0
  | i + 1 => if stT T i = 0 then dgN (T i) + 1 else stT T i - 1
def isD (c : Nat) : Prop := 48 ≤ c ∧ c ≤ 57
def okT (T : Nat → Nat) (i : Nat) : Prop := (stT T i = 0 → dgN (T i) ≠ 99) ∧ (stT T i = 1 → T i = 59) ∧ (2 ≤ stT T i → isD (T i))
def FaT (T : Nat → Nat) (n f : Nat) : Prop := f ≤ n ∧ (∀ i, i < f → okT T i) ∧ ((f < n ∧ ¬ okT T f) ∨ (f = n ∧ (stT T n ≠ 0 ∨ n = 0)))
def AlT (T : Nat → Nat) (n : Nat) : Prop := n ≠ 0 ∧ (∀ i, i < n → okT T i) ∧ stT T n = 0
def posT (T : Nat → Nat) : Nat → Nat
  | 0 => 0
  | k + 1 => posT T k + dgN (T (posT T k)) + 2
def tv0 (T : Nat → Nat) (a : Nat) : Nat := if T a = 119 ∨ T a = 100 then 10 * (T (a + 1) - 48) + (T (a + 2) - 48) else T (a + 1) - 48
def tv1 (T : Nat → Nat) (a : Nat) : Nat := if T a = 119 then T (a + 3) - 48 else T (a + 2) - 48
def tv2 (T : Nat → Nat) (a : Nat) : Nat := if T a = 119 then T (a + 4) - 48 else T (a + 3) - 48
/-- one more person -/
def appS (σ : St) (k g l : Nat) : St := ((fun j => if j = 0 then sP σ + 1 else if j = 1 then setLit (sL σ) (sP σ) l else σ.1 j), (fun j => if j = sP σ then k else sK σ j), (fun j => if j = sP σ then g else sG σ j), σ.2.2.2)
/-- what a statement makes of it -/
def stE (σ : St) (c a b d : Nat) : Option St :=
  if c = 112 then (if a ≤ 6 ∧ d ≤ 1 ∧ ¬ (a = 6 ∧ d = 1) ∧ sP σ < 8 then some (appS σ a b d) else none)
  else if c = 119 then (if a ≤ 24 ∧ d ≤ 2 then some (wrS (wrW σ a b) a d) else none)
  else if c = 102 then (if a ≤ 2 ∧ 1 ≤ b ∧ b ≤ 2 then some (wr (wr σ 2 a) 3 b) else none)
  else if c = 100 then (if 1 ≤ a ∧ a ≤ 24 ∧ sA σ ≤ a then some (wr σ 4 a) else none)
  else if c = 108 then (if a < sP σ ∧ sK σ a ≠ 6 then some (wr σ 1 (sL σ ^^^ 2 ^ a)) else none)
  else (if a ≤ 1 ∧ sA σ < sD σ ∧ sM σ < 999 then some (aw σ (sA σ + if a = 1 then 0 else 1) (mnt σ (sA σ) (sL σ)) (sM σ + 1)) else none)
def sqT (σ : St) (T : Nat → Nat) : Nat → Option St
  | 0 => some σ
  | k + 1 => (sqT σ T k).bind fun τ => stE τ (T (posT T k)) (tv0 T (posT T k)) (tv1 T (posT T k)) (tv2 T (posT T k))
section
variable {w w1 w2 : Wd} {σ τ : St} {b : Nat} {T : Nat → Nat} {n : Nat}
theorem AlT.no {f : Nat} (h : AlT T n) (h2 : FaT T n f) : False := by
  obtain ⟨a1, a2, a3⟩ := h
  obtain ⟨b1, b2, b3⟩ := h2
  rcases b3 with ⟨c1, c2⟩ | ⟨c1, c2⟩
  · exact c2 (a2 f c1)
  · rcases c2 with c2 | c2
    · exact c2 a3
    · exact a1 c2
theorem FaT.one {f g : Nat} (h : FaT T n f) (h2 : FaT T n g) : f = g := by
  obtain ⟨a1, a2, a3⟩ := h
  obtain ⟨b1, b2, b3⟩ := h2
  rcases Nat.lt_trichotomy f g with h | h | h
  · rcases a3 with ⟨c1, c2⟩ | ⟨c1, -⟩
    · exact absurd (b2 f h) c2
    · omega
  · exact h
  · rcases b3 with ⟨c1, c2⟩ | ⟨c1, -⟩
    · exact absurd (a2 g h) c2
    · omega
theorem dgN_c (c : Nat) : dgN c = 99 ∨ (1 ≤ dgN c ∧ dgN c ≤ 4) := by
  unfold dgN
  split
  · omega
  split
  · omega
  split
  · omega
  split
  · omega
  split
  · omega
  split <;> omega
theorem stT_le : ∀ i, (∀ j, j < i → okT T j) → stT T i ≤ 5
  | 0, _ => Nat.zero_le _
  | i + 1, h => by
    have h1 := stT_le i (fun j hj => h j (by omega))
    have h2 := h i (by omega)
    unfold stT
    split
    · rename_i c
      have := h2.1 c
      rcases dgN_c (T i) with d | d <;> omega
    · omega
theorem dgb_t : ∀ c, c < 256 → fX3_digitsBehind (nI c) = if dgN c = 99 then -1 else nI (dgN c) := by decide +kernel
theorem c_textFault (hn : n ≤ 96) (h6 : w.1 6 0 = nI n) (hT : ∀ k, k < n → w.1 33 k = nI (T k)) (h8 : ∀ k, T k < 256) : ∃ x, fX3_textFault w = some x ∧ ((x = 0 ∧ AlT T n) ∨ ∃ f, FaT T n f ∧ x = -1000 - nI f) := by
  unfold fX3_textFault
  refine it (fun i (s : Int32 × Int32) => s.1 = nI (stT T i) + (-1) ∧ s.2 = nI i ∧ ∀ j, j < i → okT T j) _ n ⟨(show (-1 : Int32) = nI 0 + (-1) by decide), rfl, fun j hj => absurd hj (Nat.not_lt_zero _)⟩ ?_ ?_ (by omega)
  · rintro i ⟨x, y⟩ hi ⟨e1, e2, e3⟩
    dsimp only at e1 e2 e3
    subst e1; subst e2
    have h5 := stT_le i e3
    have hc8 := h8 i
    have hnle : ¬ nI n ≤ nI i := by rw [n_le (by omega) (by omega)]; omega
    have go : okT T i → ∀ j, j < i + 1 → okT T j := fun h j hj => by
      by_cases d : j = i
      · subst d; exact h
      · exact e3 j (by omega)
    have bad : ¬ okT T i → FaT T n i := fun h => ⟨by omega, e3, Or.inl ⟨hi, h⟩⟩
    have es : stT T (i + 1) = if stT T i = 0 then dgN (T i) + 1 else stT T i - 1 := rfl
    rcases Nat.eq_zero_or_pos (stT T i) with h0 | h0
    · have e0 : nI (stT T i) + (-1) = -1 := by rw [h0]; decide
      rcases dgN_c (T i) with d | d
      · refine Or.inr ⟨-1000 - nI i, ?_, Or.inr ⟨i, bad (fun h => h.1 h0 d), rfl⟩⟩
        show fX3_textFault_b4 _ _ _ = _
        unfold fX3_textFault_b4
        rw [h6, if_neg hnle, gdn (by omega) (by decide), n_cl (by omega), hT i hi, lt_e, if_pos e0, dgb_t _ hc8, if_pos d, lt_e, if_neg (show ¬ (0 : Int32) ≤ -1 by decide)]
      · have dn : dgN (T i) ≠ 99 := by omega
        refine Or.inl ⟨(nI (dgN (T i)), nI (i + 1)), ?_, ?_, rfl, go ⟨fun _ => dn, fun h => by omega, fun h => by omega⟩⟩
        · show fX3_textFault_b4 _ _ _ = _
          unfold fX3_textFault_b4
          rw [h6, if_neg hnle, gdn (by omega) (by decide), n_cl (by omega), hT i hi, lt_e, if_pos e0, dgb_t _ hc8, if_neg dn, lt_e, if_pos (nI_pos' (by omega)), nI_1, lt_e]
        · rw [es, if_pos h0, n_m1 (by omega), Nat.add_sub_cancel]
    · have e0 : nI (stT T i) + (-1) = nI (stT T i - 1) := n_m1 h0
      have ne : ¬ nI (stT T i - 1) = -1 := fun h => nI_pos (show stT T i - 1 < 2 ^ 31 by omega) (by rw [h]; decide)
      by_cases h1 : stT T i = 1
      · have le0 : nI (stT T i - 1) ≤ 0 := by rw [h1]; decide
        by_cases d : T i = 59
        · refine Or.inl ⟨(-1, nI (i + 1)), ?_, ?_, rfl, go ⟨fun h => by omega, fun _ => d, fun h => by omega⟩⟩
          · show fX3_textFault_b4 _ _ _ = _
            unfold fX3_textFault_b4
            rw [h6, if_neg hnle, gdn (by omega) (by decide), n_cl (by omega), hT i hi, lt_e, e0, if_neg ne, if_pos le0, if_pos (by rw [d]; rfl), nI_1, lt_e]
          · rw [es, if_neg (by omega), h1]; exact (show (-1 : Int32) = nI (1 - 1) + (-1) by decide)
        · refine Or.inr ⟨-1000 - nI i, ?_, Or.inr ⟨i, bad (fun h => d (h.2.1 h1)), rfl⟩⟩
          show fX3_textFault_b4 _ _ _ = _
          unfold fX3_textFault_b4
          rw [h6, if_neg hnle, gdn (by omega) (by decide), n_cl (by omega), hT i hi, lt_e, e0, if_neg ne, if_pos le0, if_neg (by rw [show (59 : Int32) = nI 59 from rfl, n_eq (by omega) (by decide)]; exact d)]
      · have le0 : ¬ nI (stT T i - 1) ≤ 0 := by rw [c0, n_le (by omega) (by decide)]; omega
        by_cases d1 : T i < 48
        · refine Or.inr ⟨-1000 - nI i, ?_, Or.inr ⟨i, bad (fun h => by have := h.2.2 (by omega); unfold isD at this; omega), rfl⟩⟩
          show fX3_textFault_b4 _ _ _ = _
          unfold fX3_textFault_b4
          rw [h6, if_neg hnle, gdn (by omega) (by decide), n_cl (by omega), hT i hi, lt_e, e0, if_neg ne, if_neg le0, if_pos (by rw [show (48 : Int32) = nI 48 from rfl, n_lt (by omega) (by decide)]; exact d1)]
        · by_cases d2 : T i ≤ 57
          · refine Or.inl ⟨(nI (stT T i - 1) + (-1), nI (i + 1)), ?_, ?_, rfl, go ⟨fun h => by omega, fun h => by omega, fun _ => ⟨by omega, d2⟩⟩⟩
            · show fX3_textFault_b4 _ _ _ = _
              unfold fX3_textFault_b4
              rw [h6, if_neg hnle, gdn (by omega) (by decide), n_cl (by omega), hT i hi, lt_e, e0, if_neg ne, if_neg le0, if_neg (by rw [show (48 : Int32) = nI 48 from rfl, n_lt (by omega) (by decide)]; exact d1), if_pos (by rw [show (57 : Int32) = nI 57 from rfl, n_le (by omega) (by decide)]; exact d2), lt_e, nI_1, lt_e]
            · rw [es, if_neg (by omega)]
          · refine Or.inr ⟨-1000 - nI i, ?_, Or.inr ⟨i, bad (fun h => by have := h.2.2 (by omega); unfold isD at this; omega), rfl⟩⟩
            show fX3_textFault_b4 _ _ _ = _
            unfold fX3_textFault_b4
            rw [h6, if_neg hnle, gdn (by omega) (by decide), n_cl (by omega), hT i hi, lt_e, e0, if_neg ne, if_neg le0, if_neg (by rw [show (48 : Int32) = nI 48 from rfl, n_lt (by omega) (by decide)]; exact d1), if_neg (by rw [show (57 : Int32) = nI 57 from rfl, n_le (by omega) (by decide)]; exact d2)]
  · rintro ⟨x, y⟩ ⟨e1, e2, e3⟩
    dsimp only at e1 e2 e3
    subst e1; subst e2
    have h5 := stT_le n e3
    by_cases h0 : n = 0
    · refine ⟨-1000 - nI n, ?_, Or.inr ⟨n, ⟨Nat.le_refl _, e3, Or.inr ⟨rfl, Or.inr h0⟩⟩, rfl⟩⟩
      show fX3_textFault_b4 _ _ _ = _
      unfold fX3_textFault_b4
      rw [h6, if_pos (Int32.le_refl _), if_pos (by rw [h0]; decide)]
    · have np : ¬ nI n ≤ 0 := by rw [c0, n_le (by omega) (by decide)]; omega
      by_cases hs : stT T n = 0
      · refine ⟨0, ?_, Or.inl ⟨rfl, h0, e3, hs⟩⟩
        show fX3_textFault_b4 _ _ _ = _
        unfold fX3_textFault_b4
        rw [h6, if_pos (Int32.le_refl _), if_neg np, if_pos (show nI (stT T n) + (-1) = -1 by rw [hs]; decide)]
      · refine ⟨-1000 - nI n, ?_, Or.inr ⟨n, ⟨Nat.le_refl _, e3, Or.inr ⟨rfl, Or.inl hs⟩⟩, rfl⟩⟩
        show fX3_textFault_b4 _ _ _ = _
        unfold fX3_textFault_b4
        rw [h6, if_pos (Int32.le_refl _), if_neg np, n_m1 (by omega), if_neg (show ¬ nI (stT T n - 1) = -1 from fun h => nI_pos (show stT T n - 1 < 2 ^ 31 by omega) (by rw [h]; decide))]
-- a statement that stands at a
theorem stT_in {a d : Nat} (h0 : stT T a = 0) (hd : dgN (T a) = d) : ∀ j, j ≤ d + 1 → stT T (a + 1 + j) = d + 1 - j
  | 0, _ => by
    show (if stT T a = 0 then dgN (T a) + 1 else stT T a - 1) = _
    rw [if_pos h0, hd]; rfl
  | j + 1, h => by
    have ih := stT_in h0 hd j (by omega)
    show (if stT T (a + 1 + j) = 0 then dgN (T (a + 1 + j)) + 1 else stT T (a + 1 + j) - 1) = _
    rw [ih, if_neg (by omega)]
    omega
theorem AlT.st {a : Nat} (h : AlT T n) (ha : a < n) (h0 : stT T a = 0) : dgN (T a) ≠ 99 ∧ a + dgN (T a) + 2 ≤ n ∧ stT T (a + dgN (T a) + 2) = 0 ∧ ∀ j, j < dgN (T a) → isD (T (a + 1 + j)) := by
  obtain ⟨a1, a2, a3⟩ := h
  have hd := (a2 a ha).1 h0
  have hin := stT_in (T := T) h0 (rfl : dgN (T a) = dgN (T a))
  have hle : a + dgN (T a) + 2 ≤ n := by
    rcases Nat.lt_or_ge n (a + dgN (T a) + 2) with h | h
    · have := hin (n - (a + 1)) (by omega)
      rw [show a + 1 + (n - (a + 1)) = n by omega, a3] at this
      omega
    · exact h
  refine ⟨hd, hle, ?_, fun j hj => ?_⟩
  · have := hin (dgN (T a) + 1) (Nat.le_refl _)
    rw [show a + 1 + (dgN (T a) + 1) = a + dgN (T a) + 2 by omega] at this
    omega
  · have h1 := hin j (by omega)
    exact (a2 (a + 1 + j) (by omega)).2.2 (by omega)
theorem c_dig (h6 : w.1 6 0 = nI n) (hn : n ≤ 96) (hT : ∀ k, k < n → w.1 33 k = nI (T k)) {a : Nat} (ha : a < n) (hd : isD (T a)) : fX3_digitAt w (nI a) = some (nI (T a - 48)) := by
  unfold fX3_digitAt
  have h48 : isD (T a) := hd
  unfold isD at h48
  rw [if_neg (nI_pos (by omega)), h6, if_neg (by rw [n_le (by omega) (by omega)]; omega), gdn (by omega) (by decide), n_cl (by omega), hT a ha, show (48 : Int32) = nI 48 from rfl, n_sub h48.1]
theorem good_app (hg : good σ) {k g l : Nat} (hk : k ≤ 6) (hgd : g < 10) (hl : l ≤ 1) (h6 : ¬ (k = 6 ∧ l = 1)) (hP : sP σ < 8) : good (appS σ k g l) := by
  obtain ⟨a1, a2, a3, a4, a5, a6, a7, a8, a9, a10, a11, a12⟩ := hg
  refine ⟨by show sP σ + 1 ≤ 8; omega, ?_, fun p hp => ?_, a4, a5, a6, a7, a8, fun j => ?_, fun j => ?_, a11, a12⟩
  · show setLit (sL σ) (sP σ) l < 2 ^ (sP σ + 1)
    exact setLit_lt (Nat.lt_of_lt_of_le a2 (Nat.pow_le_pow_right (by decide) (by omega))) (by omega)
  · have hp2 : (setLit (sL σ) (sP σ) l).testBit p = true := hp
    show (if p = sP σ then k else sK σ p) ≠ 6
    by_cases c : p = sP σ
    · rw [if_pos c]
      subst c
      unfold setLit at hp2
      by_cases z : l = 0
      · rw [if_pos z, nd_bit, Nat.testBit_two_pow_self] at hp2; simp at hp2
      · omega
    · rw [if_neg c]
      unfold setLit at hp2
      by_cases z : l = 0
      · rw [if_pos z, nd_bit, Bool.and_eq_true] at hp2; exact a3 p hp2.1
      · rw [if_neg z, Nat.testBit_or, Nat.testBit_two_pow, Bool.or_eq_true, decide_eq_true_eq] at hp2
        rcases hp2 with h | h
        · exact a3 p h
        · exact absurd h.symm c
  · show (if j = sP σ then k else sK σ j) < 7
    split
    · omega
    · exact a9 j
  · show (if j = sP σ then g else sG σ j) < 10
    split
    · exact hgd
    · exact a10 j
theorem stE_good {c x y z : Nat} (hg : good σ) (hm : sM σ ≤ 999) (hy : y < 10) (h : stE σ c x y z = some τ) : good τ ∧ sM τ ≤ 999 := by
  unfold stE at h
  split at h
  · split at h
    · rename_i q
      cases h
      exact ⟨good_app hg q.1 hy q.2.1 q.2.2.1 q.2.2.2, hm⟩
    · cases h
  split at h
  · split at h
    · rename_i q
      cases h
      exact ⟨good.wS (good.wW hg hy) (by omega), hm⟩
    · cases h
  split at h
  · split at h
    · rename_i q
      cases h
      exact ⟨good.E2 (good.F2 hg (by omega)) ⟨q.2.1, q.2.2⟩, hm⟩
    · cases h
  split at h
  · split at h
    · rename_i q
      cases h
      exact ⟨good.D2 hg ⟨q.1, q.2.1⟩ q.2.2, hm⟩
    · cases h
  split at h
  · split at h
    · rename_i q
      cases h
      refine ⟨good.lit hg ?_ fun p hp => ?_, hm⟩
      · exact Nat.xor_lt_two_pow hg.L (Nat.pow_lt_pow_right (by decide) q.1)
      · rw [Nat.testBit_xor, Nat.testBit_two_pow] at hp
        by_cases d : x = p
        · subst d; exact q.2
        · rw [decide_eq_false d] at hp
          exact hg.sm p (by simpa using hp)
    · cases h
  · split at h
    · rename_i q
      cases h
      refine ⟨(hg.gl.mnt hg _).g hg ?_ (by omega), by show sM σ + 1 ≤ 999; omega⟩
      split <;> omega
    · cases h
end

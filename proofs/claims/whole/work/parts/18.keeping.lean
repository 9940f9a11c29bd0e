/-! the reference: keeping a state aside and taking it back -/
def loc (j : Nat) : Nat × Nat := if j < 3 then (44, j) else if j < 11 then (45, j - 3) else if j < 19 then (46, j - 11) else if j < 44 then (47, j - 19) else if j < 69 then (48, j - 44) else (42, j - 63)
def img (w : Wd) (j : Nat) : Int32 := w.1 (loc j).1 (loc j).2
section
variable {w v : Wd} {σ : St} {k : Nat}
/-- c of the numbers of w are laid aside into region k -/
def Sv (w : Wd) (k c : Nat) (v : Wd) : Prop := v.1 42 20 = nI (80 * k + c) ∧ v.1 42 19 = 1 ∧ (∀ f, f ≠ 19 → f ≠ 20 → v.1 42 f = w.1 42 f) ∧ (∀ i, i ≠ 42 → i ≠ 53 → v.1 i = w.1 i) ∧ (∀ q, v.1 53 q = if 80 * k ≤ q ∧ q < 80 * k + c then img w (q - 80 * k) else w.1 53 q) ∧ v.2 = w.2
theorem sv_many (i n c : Nat) (hk : k < 3) (hn : c + n ≤ 73) (hi : i ≠ 42 ∧ i ≠ 53) (hl : ∀ j, j < n → loc (c + j) = (i, j)) (h : Sv w k c v) : ∃ v1, fX10_passes i n v = some v1 ∧ Sv w k (c + n) v1 := by
  unfold fX10_passes
  refine itnb (fun m s => s.1 = nI m ∧ Sv w k (c + m) s.2) (fun x => Sv w k (c + n) x) n ⟨rfl, h⟩ ?_ ?_ (by omega) (fun x hx => ⟨x, rfl, hx⟩)
  · rintro m ⟨x, y⟩ hm ⟨e1, e2, e3, e4, e5, e6, e7⟩
    dsimp only at e1 e2 e3 e4 e5 e6 e7
    subst e1
    refine ⟨(nI (m + 1), upI (upI y 53 (80 * k + (c + m)) (y.1 i m)) 42 20 (nI (80 * k + (c + m) + 1))), ?_, rfl, ?_, ?_, ?_, ?_, ?_, e7⟩
    · show fX10_passes_b2 _ _ _ _ = _
      unfold fX10_passes_b2
      rw [show Int32.ofNat n = nI n from rfl, if_neg (by rw [n_le (by omega) (by omega)]; omega), e3, if_neg (by decide), gdn hm (by omega), e2, gdn (by omega) (by decide), n_cl (by omega), n_cl (by omega), lt_e]
      unfold fX10_passes_j42
      rw [lt_e, lt_e, nI_1, upI_o _ _ _ _ (by decide), e2, nI_1]
    · show _ = nI (80 * k + (c + (m + 1)))
      rw [upI_s]; rfl
    · dsimp only
      rw [upI_k _ _ _ _ (by decide), upI_o _ _ _ _ (by decide)]; exact e3
    · intro f h1 h2
      dsimp only
      rw [upI_k _ _ _ _ h2, upI_o _ _ _ _ (by decide)]; exact e4 f h1 h2
    · intro j h1 h2
      dsimp only
      rw [upI_o _ _ _ _ h1, upI_o _ _ _ _ h2]; exact e5 j h1 h2
    · intro q
      dsimp only
      rw [upI_o _ _ _ _ (by decide), upI_r, e6 q]
      by_cases d : q = 80 * k + (c + m)
      · rw [if_pos ⟨rfl, d⟩, if_pos (by omega), e5 i hi.1 hi.2]
        unfold img
        rw [show q - 80 * k = c + m by omega, hl m hm]
      · rw [if_neg (fun h => d h.2)]
        by_cases d2 : 80 * k ≤ q ∧ q < 80 * k + (c + m)
        · rw [if_pos d2, if_pos (by omega)]
        · rw [if_neg d2, if_neg (by omega)]
  · rintro ⟨x, y⟩ ⟨e1, e2⟩
    dsimp only at e1 e2
    subst e1
    refine ⟨y, ?_, e2⟩
    show fX10_passes_b2 _ _ _ _ = _
    unfold fX10_passes_b2
    rw [if_pos (by rw [show Int32.ofNat n = nI n from rfl, n_le (by omega) (by omega)]; omega)]
theorem sv_one (f c : Nat) (hk : k < 3) (hn : c < 73) (hf : f < 10) (hl : loc c = (42, f)) (h : Sv w k c v) : ∃ v1, fX10_passOne v (v.1 42 f) = some (v.1 42 f, v1) ∧ Sv w k (c + 1) (upI v1 42 f (v.1 42 f)) := by
  obtain ⟨e2, e3, e4, e5, e6, e7⟩ := h
  refine ⟨upI (upI v 53 (80 * k + c) (v.1 42 f)) 42 20 (nI (80 * k + c + 1)), ?_, ?_, ?_, ?_, ?_, ?_, e7⟩
  · unfold fX10_passOne fX10_passOne_j38
    rw [e3, if_neg (by decide), bd_e, if_neg (by decide), e2, gdn (by omega) (by decide), n_cl (by omega), lt_e, lt_e, upI_o _ _ _ _ (by decide), e2, nI_1]
  · rw [upI_k _ _ _ _ (by omega), upI_s]; rfl
  · rw [upI_k _ _ _ _ (by omega), upI_k _ _ _ _ (by decide), upI_o _ _ _ _ (by decide)]; exact e3
  · intro g h1 h2
    rw [upI_r]
    by_cases d : g = f
    · subst d; rw [if_pos ⟨rfl, rfl⟩]; exact e4 g h1 h2
    · rw [if_neg (fun h => d h.2), upI_k _ _ _ _ h2, upI_o _ _ _ _ (by decide)]; exact e4 g h1 h2
  · intro j h1 h2
    rw [upI_o _ _ _ _ h1, upI_o _ _ _ _ h1, upI_o _ _ _ _ h2]; exact e5 j h1 h2
  · intro q
    rw [upI_o _ _ _ _ (by decide), upI_o _ _ _ _ (by decide), upI_r, e6 q]
    by_cases d : q = 80 * k + c
    · rw [if_pos ⟨rfl, d⟩, if_pos (by omega), e4 f (by omega) (by omega)]
      unfold img
      rw [show q - 80 * k = c by omega, hl]
    · rw [if_neg (fun h => d h.2)]
      by_cases d2 : 80 * k ≤ q ∧ q < 80 * k + c
      · rw [if_pos d2, if_pos (by omega)]
      · rw [if_neg d2, if_neg (by omega)]
theorem bz1 : bz 1 = true := by decide
theorem bz0 : bz 0 = true := by decide
theorem k80 (h : k < 3) : (80 : Int32) * nI k = nI (80 * k + 0) := by rw [show (80 : Int32) = nI 80 from rfl, n_mul]; rfl
theorem sv_all (w : Wd) (hk : k < 3) : ∃ v, fX10_passesAll w (nI k) 1 = some v ∧ Sv w k 73 v := by
  unfold fX10_passesAll
  rw [lt_e, gd_t bz1, lt_e, k80 hk]
  have h0 : Sv w k 0 (upI (upI w 42 20 (nI (80 * k + 0))) 42 19 1) := ⟨rfl, rfl, fun f h1 h2 => by rw [upI_k _ _ _ _ h1, upI_k _ _ _ _ h2], fun i h1 _ => by rw [upI_o _ _ _ _ h1, upI_o _ _ _ _ h1], fun q => by rw [if_neg (by omega), upI_o _ _ _ _ (by decide), upI_o _ _ _ _ (by decide)], rfl⟩
  refine bx (sv_many 44 3 0 hk (by decide) (by decide) (by decide) h0) fun v1 _ h1 => ?_
  refine bx (sv_many 45 8 3 hk (by decide) (by decide) (by decide) h1) fun v2 _ h2 => ?_
  refine bx (sv_many 46 8 11 hk (by decide) (by decide) (by decide) h2) fun v3 _ h3 => ?_
  refine bx (sv_many 47 25 19 hk (by decide) (by decide) (by decide) h3) fun v4 _ h4 => ?_
  refine bx (sv_many 48 25 44 hk (by decide) (by decide) (by decide) h4) fun v5 _ h5 => ?_
  obtain ⟨v6, a6, h6⟩ := sv_one 6 69 hk (by decide) (by decide) (by decide) h5
  rw [a6, bd_e, un2_e, lt_e]
  obtain ⟨v7, a7, h7⟩ := sv_one 7 70 hk (by decide) (by decide) (by decide) h6
  rw [a7, bd_e, un2_e, lt_e]
  obtain ⟨v8, a8, h8⟩ := sv_one 8 71 hk (by decide) (by decide) (by decide) h7
  rw [a8, bd_e, un2_e, lt_e]
  obtain ⟨v9, a9, h9⟩ := sv_one 9 72 hk (by decide) (by decide) (by decide) h8
  rw [a9, bd_e, un2_e, lt_e]
  exact ⟨_, rfl, h9⟩
/-- c numbers are taken back out of region k -/
def Rs (w : Wd) (k c : Nat) (v : Wd) : Prop := v.1 42 20 = nI (80 * k + c) ∧ v.1 42 19 = 0 ∧ (∀ f, 10 ≤ f → f ≠ 19 → f ≠ 20 → v.1 42 f = w.1 42 f) ∧ (∀ i, i < 42 ∨ i = 43 ∨ 48 < i → v.1 i = w.1 i) ∧ (∀ j, j < c → img v j = w.1 53 (80 * k + j)) ∧ v.2 = w.2
theorem rs_many (i n c : Nat) (hk : k < 3) (hn : c + n ≤ 73) (hi : 44 ≤ i ∧ i ≤ 48) (hl : ∀ j, j < n → loc (c + j) = (i, j)) (ho : ∀ j, j < c → (loc j).1 ≠ i) (h : Rs w k c v) : ∃ v1, fX10_passes i n v = some v1 ∧ Rs w k (c + n) v1 := by
  unfold fX10_passes
  refine itnb (fun m s => s.1 = nI m ∧ Rs w k (c + m) s.2) (fun x => Rs w k (c + n) x) n ⟨rfl, h⟩ ?_ ?_ (by omega) (fun x hx => ⟨x, rfl, hx⟩)
  · rintro m ⟨x, y⟩ hm ⟨e2, e3, e4, e5, e6, e7, e8⟩
    dsimp only at e2 e3 e4 e5 e6 e7 e8
    subst e2
    refine ⟨(nI (m + 1), upI (upI y i m (y.1 53 (80 * k + (c + m)))) 42 20 (nI (80 * k + (c + m) + 1))), ?_, rfl, ?_, ?_, ?_, ?_, ?_, e8⟩
    · show fX10_passes_b2 _ _ _ _ = _
      unfold fX10_passes_b2
      rw [show Int32.ofNat n = nI n from rfl, if_neg (by rw [n_le (by omega) (by omega)]; omega), e4, if_pos rfl, e3, gdn (by omega) (by decide), gdn hm (by omega), n_cl (by omega), n_cl (by omega), lt_e]
      unfold fX10_passes_j42
      rw [lt_e, lt_e, nI_1, upI_o _ _ _ _ (by omega), e3, nI_1]
    · dsimp only
      rw [upI_s]; rfl
    · dsimp only
      rw [upI_k _ _ _ _ (by decide), upI_o _ _ _ _ (by omega)]; exact e4
    · intro f h0 h1 h2
      dsimp only
      rw [upI_k _ _ _ _ h2, upI_o _ _ _ _ (by omega)]; exact e5 f h0 h1 h2
    · intro j h1
      dsimp only
      rw [upI_o _ _ _ _ (by omega), upI_o _ _ _ _ (by omega)]; exact e6 j h1
    · intro j hj
      dsimp only
      unfold img
      by_cases d : j = c + m
      · subst d
        rw [hl m hm, upI_o _ _ _ _ (by omega), upI_s, e6 53 (by omega)]
      · have h7 := e7 j (by omega)
        unfold img at h7
        rw [← h7]
        rcases Nat.lt_or_ge j c with h9 | h9
        · have ho2 := ho j h9
          by_cases h10 : (loc j).1 = 42
          · have : (loc j).2 ≠ 20 := by
              unfold loc at h10 ⊢
              split at h10; · simp at h10
              split at h10; · simp at h10
              split at h10; · simp at h10
              split at h10; · simp at h10
              split at h10; · simp at h10
              rename_i a1 a2 a3 a4 a5
              rw [if_neg a1, if_neg a2, if_neg a3, if_neg a4, if_neg a5]
              dsimp only; omega
            rw [h10, upI_k _ _ _ _ this, upI_o _ _ _ _ (by omega)]
          · rw [upI_o _ _ _ _ h10, upI_o _ _ _ _ ho2]
        · have hl2 := hl (j - c) (by omega)
          rw [show c + (j - c) = j by omega] at hl2
          rw [hl2]
          dsimp only
          rw [upI_o _ _ _ _ (by omega), upI_k _ _ _ _ (by omega)]
  · rintro ⟨x, y⟩ ⟨e1, e2⟩
    dsimp only at e1 e2
    subst e1
    refine ⟨y, ?_, e2⟩
    show fX10_passes_b2 _ _ _ _ = _
    unfold fX10_passes_b2
    rw [if_pos (by rw [show Int32.ofNat n = nI n from rfl, n_le (by omega) (by omega)]; omega)]
theorem rs_one (f c : Nat) (hk : k < 3) (hn : c < 73) (hf : f < 10) (hl : loc c = (42, f)) (ho : ∀ j, j < c → loc j ≠ (42, f) ∧ loc j ≠ (42, 20)) (h : Rs w k c v) (x : Int32) : ∃ r v1, fX10_passOne v x = some (r, v1) ∧ Rs w k (c + 1) (upI v1 42 f r) := by
  obtain ⟨e2, e3, e4, e5, e6, e7⟩ := h
  refine ⟨v.1 53 (80 * k + c), upI v 42 20 (nI (80 * k + c + 1)), ?_, ?_, ?_, ?_, ?_, ?_, e7⟩
  · unfold fX10_passOne fX10_passOne_j38
    rw [e3, if_pos rfl, e2, gdn (by omega) (by decide), n_cl (by omega), bd_e, if_pos rfl, lt_e, nI_1]
  · rw [upI_k _ _ _ _ (by omega), upI_s]; rfl
  · rw [upI_k _ _ _ _ (by omega), upI_k _ _ _ _ (by decide)]; exact e3
  · intro g h0 h1 h2
    rw [upI_k _ _ _ _ (by omega), upI_k _ _ _ _ h2]; exact e4 g h0 h1 h2
  · intro j h1
    rw [upI_o _ _ _ _ (by omega), upI_o _ _ _ _ (by omega)]; exact e5 j h1
  · intro j hj
    unfold img
    by_cases d : j = c
    · subst d
      rw [hl, upI_s, e5 53 (by omega)]
    · have h7 := e6 j (by omega)
      unfold img at h7
      obtain ⟨o1, o2⟩ := ho j (by omega)
      rw [← h7, upI_r, if_neg (fun h => o1 (Prod.ext h.1 h.2)), upI_r, if_neg (fun h => o2 (Prod.ext h.1 h.2))]
theorem rs_all (w : Wd) (hk : k < 3) : ∃ v, fX10_passesAll w (nI k) 0 = some v ∧ Rs w k 73 v := by
  unfold fX10_passesAll
  rw [lt_e, gd_t bz0, lt_e, k80 hk]
  have h0 : Rs w k 0 (upI (upI w 42 20 (nI (80 * k + 0))) 42 19 0) := ⟨rfl, rfl, fun f _ h1 h2 => by rw [upI_k _ _ _ _ h1, upI_k _ _ _ _ h2], fun i h1 => by rw [upI_o _ _ _ _ (by omega), upI_o _ _ _ _ (by omega)], fun j hj => absurd hj (Nat.not_lt_zero _), rfl⟩
  refine bx (rs_many 44 3 0 hk (by decide) (by decide) (by decide) (by decide) h0) fun v1 _ h1 => ?_
  refine bx (rs_many 45 8 3 hk (by decide) (by decide) (by decide) (by decide) h1) fun v2 _ h2 => ?_
  refine bx (rs_many 46 8 11 hk (by decide) (by decide) (by decide) (by decide) h2) fun v3 _ h3 => ?_
  refine bx (rs_many 47 25 19 hk (by decide) (by decide) (by decide) (by decide) h3) fun v4 _ h4 => ?_
  refine bx (rs_many 48 25 44 hk (by decide) (by decide) (by decide) (by decide) h4) fun v5 _ h5 => ?_
  obtain ⟨r6, v6, a6, h6⟩ := rs_one 6 69 hk (by decide) (by decide) (by decide) (by decide) h5 (v5.1 42 6)
  rw [a6, bd_e, un2_e, lt_e]
  obtain ⟨r7, v7, a7, h7⟩ := rs_one 7 70 hk (by decide) (by decide) (by decide) (by decide) h6 ((upI v6 42 6 r6).1 42 7)
  rw [a7, bd_e, un2_e, lt_e]
  obtain ⟨r8, v8, a8, h8⟩ := rs_one 8 71 hk (by decide) (by decide) (by decide) (by decide) h7 ((upI v7 42 7 r7).1 42 8)
  rw [a8, bd_e, un2_e, lt_e]
  obtain ⟨r9, v9, a9, h9⟩ := rs_one 9 72 hk (by decide) (by decide) (by decide) (by decide) h8 ((upI v8 42 8 r8).1 42 9)
  rw [a9, bd_e, un2_e, lt_e]
  exact ⟨_, rfl, h9⟩
/-- region k holds σ -/
def Kept (w : Wd) (k : Nat) (σ : St) : Prop := (w.1 53 (80 * k) = nI (sF σ) ∧ w.1 53 (80 * k + 1) = nI (sE σ) ∧ w.1 53 (80 * k + 2) = nI (sD σ)) ∧ (w.1 53 (80 * k + 69) = nI (sP σ) ∧ w.1 53 (80 * k + 70) = nI (sL σ) ∧ w.1 53 (80 * k + 71) = nI (sA σ) ∧ w.1 53 (80 * k + 72) = nI (sM σ)) ∧ (∀ j, j < 8 → w.1 53 (80 * k + (3 + j)) = nI (sK σ j)) ∧ (∀ j, j < 8 → w.1 53 (80 * k + (11 + j)) = nI (sG σ j)) ∧ (∀ j, j < 25 → w.1 53 (80 * k + (19 + j)) = nI (sW σ j)) ∧ ∀ j, j < 25 → w.1 53 (80 * k + (44 + j)) = nI (sS σ j)
theorem Kept.keep {w1 : Wd} (h : Kept w k σ) (e : ∀ q, 80 * k ≤ q → q < 80 * k + 80 → w1.1 53 q = w.1 53 q) : Kept w1 k σ := by
  obtain ⟨⟨a, b, c⟩, ⟨d, f, g, i⟩, h1, h2, h3, h4⟩ := h
  refine ⟨⟨?_, ?_, ?_⟩, ⟨?_, ?_, ?_, ?_⟩, fun j hj => ?_, fun j hj => ?_, fun j hj => ?_, fun j hj => ?_⟩
  all_goals rw [e _ (by omega) (by omega)]
  all_goals first | assumption | exact h1 j hj | exact h2 j hj | exact h3 j hj | exact h4 j hj
theorem lK : ∀ j, j < 8 → loc (3 + j) = (45, j) := by decide
theorem lG : ∀ j, j < 8 → loc (11 + j) = (46, j) := by decide
theorem lW : ∀ j, j < 25 → loc (19 + j) = (47, j) := by decide
theorem lS : ∀ j, j < 25 → loc (44 + j) = (48, j) := by decide
theorem m_save (hM : MoIs w σ) (hk : k < 3) : ∃ v, fX10_passesAll w (nI k) 1 = some v ∧ MoIs v σ ∧ Kept v k σ ∧ (∀ q, q < 80 * k ∨ 80 * k + 80 ≤ q → v.1 53 q = w.1 53 q) ∧ (∀ i, i ≠ 42 → i ≠ 53 → v.1 i = w.1 i) ∧ (∀ f, f ≠ 19 → f ≠ 20 → v.1 42 f = w.1 42 f) ∧ v.2 = w.2 := by
  obtain ⟨v, e, h1, h2, h3, h4, h5, h6⟩ := sv_all w hk
  have hq : ∀ j, j < 73 → v.1 53 (80 * k + j) = img w j := fun j hj => by rw [h5, if_pos (by omega), show 80 * k + j - 80 * k = j by omega]
  refine ⟨v, e, ?_, ?_, fun q hq => by rw [h5, if_neg (by omega)], h4, h3, h6⟩
  · obtain ⟨a, b, c, d, f, g⟩ := hM
    refine ⟨?_, ?_, ?_, ?_, ?_, ?_⟩
    · rw [h4 44 (by decide) (by decide)]; exact a
    · rw [h3 6 (by decide) (by decide), h3 7 (by decide) (by decide), h3 8 (by decide) (by decide), h3 9 (by decide) (by decide)]; exact b
    · rw [h4 45 (by decide) (by decide)]; exact c
    · rw [h4 46 (by decide) (by decide)]; exact d
    · rw [h4 47 (by decide) (by decide)]; exact f
    · rw [h4 48 (by decide) (by decide)]; exact g
  · refine ⟨⟨(hq 0 (by decide)).trans hM.F, (hq 1 (by decide)).trans hM.E, (hq 2 (by decide)).trans hM.D⟩, ⟨(hq 69 (by decide)).trans hM.P, (hq 70 (by decide)).trans hM.L, (hq 71 (by decide)).trans hM.A, (hq 72 (by decide)).trans hM.M⟩, fun j hj => ?_, fun j hj => ?_, fun j hj => ?_, fun j hj => ?_⟩
    · rw [hq _ (by omega), img, lK j hj]; exact hM.K hj
    · rw [hq _ (by omega), img, lG j hj]; exact hM.G hj
    · rw [hq _ (by omega), img, lW j hj]; exact hM.W hj
    · rw [hq _ (by omega), img, lS j hj]; exact hM.S hj
theorem m_rest (hM : Kept w k σ) (hk : k < 3) : ∃ v, fX10_passesAll w (nI k) 0 = some v ∧ MoIs v σ ∧ (∀ i, i < 42 ∨ i = 43 ∨ 48 < i → v.1 i = w.1 i) ∧ (∀ f, 10 ≤ f → f ≠ 19 → f ≠ 20 → v.1 42 f = w.1 42 f) ∧ v.2 = w.2 := by
  obtain ⟨v, e, h1, h2, h3, h4, h5, h6⟩ := rs_all w hk
  obtain ⟨⟨a, b, c⟩, ⟨d, f, g, i⟩, i1, i2, i3, i4⟩ := hM
  refine ⟨v, e, ⟨⟨?_, ?_, ?_⟩, ⟨?_, ?_, ?_, ?_⟩, fun j hj => ?_, fun j hj => ?_, fun j hj => ?_, fun j hj => ?_⟩, h4, h3, h6⟩
  · exact (h5 0 (by decide)).trans a
  · exact (h5 1 (by decide)).trans b
  · exact (h5 2 (by decide)).trans c
  · exact (h5 69 (by decide)).trans d
  · exact (h5 70 (by decide)).trans f
  · exact (h5 71 (by decide)).trans g
  · exact (h5 72 (by decide)).trans i
  · have h := h5 (3 + j) (by omega)
    rw [img, lK j hj] at h
    exact h.trans (i1 j hj)
  · have h := h5 (11 + j) (by omega)
    rw [img, lG j hj] at h
    exact h.trans (i2 j hj)
  · have h := h5 (19 + j) (by omega)
    rw [img, lW j hj] at h
    exact h.trans (i3 j hj)
  · have h := h5 (44 + j) (by omega)
    rw [img, lS j hj] at h
    exact h.trans (i4 j hj)
end

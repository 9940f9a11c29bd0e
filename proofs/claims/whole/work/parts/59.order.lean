/-! order: the class -/
def fcN : Nat → Nat
  | 0 => 1
  | i + 1 => fcN i * (i + 1)
def dcN (n k : Nat) : Nat → Nat
  | 0 => 0
  | t + 1 => 10 * dcN n k t + eN n k t
def pfN (n k q : Nat) : Nat := if q < n then dig n k q else q
def pOr (σ : St) (k : Nat) : Nat := pop (dN (mx σ (pfN (sP σ) k)))
def inB (f : Nat → Nat) (L : List Nat) (b : Nat × Nat) : Nat → Nat × Nat
  | 0 => b
  | i + 1 => besU f (inB f L b i) (L.getD i 0)
def fOr (n k : Nat) : Int32 := if k = 999999 then -9 else nI (dcN n k n)
theorem plx_len : ∀ n, n < 7 → 0 < n → (PLx n).length = fcN n := by decide +kernel
theorem plx_lt : ∀ n, n < 7 → (PLx n).all (fun k => Nat.blt k 99999) = true := by decide +kernel
theorem plx_0 : ∀ n, n < 7 → 0 < n → ∀ j, j < n → dig n ((PLx n).getD 0 0) j = j := by decide +kernel
theorem plx_nx (n : Nat) (h1 : 0 < n) (h6 : n < 7) : nxA n (PLx n) = true := by
  rcases (by omega : n = 1 ∨ n = 2 ∨ n = 3 ∨ n = 4 ∨ n = 5 ∨ n = 6) with rfl | rfl | rfl | rfl | rfl | rfl
  · exact nx1
  · exact nx2
  · exact nx3
  · exact nx4
  · exact nx5
  · exact nx6
theorem plx_fold (n : Nat) (h1 : 0 < n) (h6 : n < 7) (f : Nat → Nat) (b : Nat × Nat) : rfN n f 0 (n ^ n) b = (PLx n).foldl (besU f) b := by
  rcases (by omega : n = 1 ∨ n = 2 ∨ n = 3 ∨ n = 4 ∨ n = 5 ∨ n = 6) with rfl | rfl | rfl | rfl | rfl | rfl
  · exact rch_fold pl1 (Nat.zero_le _)
  · exact rch_fold pl2 (Nat.zero_le _)
  · exact rch_fold pl3 (Nat.zero_le _)
  · exact rch_fold pl4 (Nat.zero_le _)
  · exact rch_fold pl5 (Nat.zero_le _)
  · exact pl6 f b
theorem nxA_d {n : Nat} : ∀ {L : List Nat} {i : Nat}, nxA n L = true → i + 1 < L.length → nxOK n (L.getD i 0) (L.getD (i + 1) 0) = true
  | [], i, _, h => absurd h (by simp)
  | [k], i, _, h => absurd h (by simp)
  | k1 :: k2 :: L, 0, h, _ => by
    unfold nxA at h
    rw [Bool.and_eq_true] at h
    exact h.1
  | k1 :: k2 :: L, i + 1, h, h1 => by
    unfold nxA at h
    rw [Bool.and_eq_true] at h
    exact nxA_d (L := k2 :: L) (i := i) h.2 (by simpa using h1)
theorem all_d {p : Nat → Bool} : ∀ {L : List Nat} {i : Nat}, L.all p = true → i < L.length → p (L.getD i 0) = true
  | [], i, _, h => absurd h (by simp)
  | k :: L, 0, h, _ => by
    rw [List.all_cons, Bool.and_eq_true] at h
    exact h.1
  | k :: L, i + 1, h, h1 => by
    rw [List.all_cons, Bool.and_eq_true] at h
    exact all_d (L := L) (i := i) h.2 (by simpa using h1)
theorem inB_c (f : Nat → Nat) (k : Nat) (L : List Nat) (b : Nat × Nat) : ∀ i, inB f (k :: L) b (i + 1) = inB f L (besU f b k) i
  | 0 => rfl
  | i + 1 => by
    show besU f (inB f (k :: L) b (i + 1)) ((k :: L).getD (i + 1) 0) = besU f (inB f L (besU f b k) i) (L.getD i 0)
    rw [inB_c f k L b i]
    rfl
theorem inB_all (f : Nat → Nat) : ∀ (L : List Nat) (b : Nat × Nat), inB f L b L.length = L.foldl (besU f) b
  | [], _ => rfl
  | k :: L, b => by
    show inB f (k :: L) b (L.length + 1) = L.foldl (besU f) (besU f b k)
    rw [inB_c, inB_all f L]
theorem inB_2 (f : Nat → Nat) (L : List Nat) (b : Nat × Nat) (hb : b.2 ≤ 9) (hf : ∀ k, f k ≤ 8) : ∀ i, (inB f L b i).2 ≤ 9
  | 0 => hb
  | i + 1 => by
    unfold inB besU
    split
    · have := hf (L.getD i 0); dsimp only; omega
    · exact inB_2 f L b hb hf i
theorem inB_ne (f : Nat → Nat) (L : List Nat) (b : Nat × Nat) (h0 : b.2 = 0) (hL : ∀ i, i < L.length → L.getD i 0 < 99999) : ∀ i, 0 < i → i ≤ L.length → (inB f L b i).1 < 99999 ∧ (inB f L b i).2 ≠ 0
  | 0, h, _ => absurd h (Nat.lt_irrefl _)
  | 1, _, h => by
    show (besU f b (L.getD 0 0)).1 < 99999 ∧ (besU f b (L.getD 0 0)).2 ≠ 0
    unfold besU
    rw [if_pos (by omega)]
    exact ⟨hL 0 (by omega), Nat.succ_ne_zero _⟩
  | i + 2, _, h => by
    have ih := inB_ne f L b h0 hL (i + 1) (by omega) (by omega)
    show (besU f (inB f L b (i + 1)) (L.getD (i + 1) 0)).1 < 99999 ∧ (besU f (inB f L b (i + 1)) (L.getD (i + 1) 0)).2 ≠ 0
    unfold besU
    split
    · exact ⟨hL _ (by omega), Nat.succ_ne_zero _⟩
    · exact ih
section
variable {w w1 w2 : Wd} {σ τ : St} {b : Nat} {g : Nat → Nat} {n : Nat}
theorem i_m2 (m : Nat) : nI (m + 1) - 2 = nI m + (-1) := by
  rw [nI_succ, Int32.sub_eq_add_neg, Int32.add_assoc, show (1 : Int32) + -2 = -1 by decide]
theorem rzN_le (g : Nat → Nat) : ∀ m, rzN g m ≤ m
  | 0 => Nat.le_refl _
  | m + 1 => by
    unfold rzN
    have := rzN_le g m
    split <;> omega
theorem nqN_le (g : Nat → Nat) (p : Nat) : ∀ q, nqN g p q ≤ q
  | 0 => Nat.le_refl _
  | q + 1 => by
    unfold nqN
    have := nqN_le g p q
    split
    · omega
    · split <;> omega
theorem c_rise (hn : n ≤ 6) (h1 : 1 ≤ n) (hr : ∀ j, j < n → w.1 37 j = nI (g j)) (h8 : ∀ j, j < n → g j < 100) : iter (fun s : Int32 => fX1_nextOrder_b4 w s) FU (nI (n - 1) + (-1)) = some (nI (rzN g (n - 1)) + (-1)) := by
  have main : ∃ x, iter (fun s : Int32 => fX1_nextOrder_b4 w s) FU (nI (n - 1) + (-1)) = some x ∧ x = nI (rzN g (n - 1)) + (-1) := by
    refine it (fun i s => s = nI (n - 1 - i) + (-1) ∧ rzN g (n - 1) = rzN g (n - 1 - i)) _ (n - 1) ⟨by rw [Nat.sub_zero], by rw [Nat.sub_zero]⟩ ?_ ?_ (by omega)
    · rintro i s hi ⟨e1, e2⟩
      subst e1
      obtain ⟨p, hp⟩ : ∃ p, n - 1 - i = p + 1 := ⟨n - 1 - i - 1, by omega⟩
      rw [hp] at e2 ⊢
      have ga := h8 p (by omega)
      have gb := h8 (p + 1) (by omega)
      have er : rzN g (p + 1) = if g (p + 1) < g p then rzN g p else p + 1 := rfl
      by_cases c : g (p + 1) < g p
      · refine Or.inl ⟨nI p + (-1), ?_, by rw [show n - 1 - (i + 1) = p by omega], ?_⟩
        · show fX1_nextOrder_b4 _ _ = _
          unfold fX1_nextOrder_b4
          rw [n_m1 (by omega), Nat.add_sub_cancel, if_neg (nI_pos (by omega)), gdn (by omega) (by decide), nI_1, gdn (by omega) (by decide), n_cl (by omega), n_cl (by omega), hr p (by omega), hr (p + 1) (by omega), if_neg (by rw [n_le (by omega) (by omega)]; omega), lt_e]
        · rw [e2, er, if_pos c, show n - 1 - (i + 1) = p by omega]
      · refine Or.inr ⟨nI p, ?_, ?_⟩
        · show fX1_nextOrder_b4 _ _ = _
          unfold fX1_nextOrder_b4
          rw [n_m1 (by omega), Nat.add_sub_cancel, if_neg (nI_pos (by omega)), gdn (by omega) (by decide), nI_1, gdn (by omega) (by decide), n_cl (by omega), n_cl (by omega), hr p (by omega), hr (p + 1) (by omega), if_pos (by rw [n_le (by omega) (by omega)]; omega)]
        · rw [e2, er, if_neg c, n_m1 (by omega), Nat.add_sub_cancel]
    · rintro s ⟨e1, e2⟩
      subst e1
      refine ⟨nI 0 + (-1), ?_, ?_⟩
      · show fX1_nextOrder_b4 _ _ = _
        unfold fX1_nextOrder_b4
        rw [Nat.sub_self, if_pos (show nI 0 + (-1) < (0 : Int32) by decide)]
      · rw [e2, Nat.sub_self]; rfl
  obtain ⟨x, m1, m2⟩ := main
  rw [m1, m2]
theorem c_swap (hn : n ≤ 6) (hr : ∀ j, j < n → w.1 37 j = nI (g j)) {a c : Nat} (ha : a < n) (hc : c < n) : ∃ w1, fX1_exchangePlaces w (nI a) (nI c) = some w1 ∧ ∀ j, j < n → w1.1 37 j = nI (swG g a c j) := by
  unfold fX1_exchangePlaces
  rw [gdn (by omega) (by decide), n_cl (by omega), lt_e, gdn (by omega) (by decide), n_cl (by omega), lt_e, lt_e]
  refine ⟨_, rfl, fun j hj => ?_⟩
  unfold swG
  by_cases d : j = c
  · subst d
    rw [upI_s, if_pos rfl, hr a ha]
  · rw [upI_k _ _ _ _ d, if_neg d]
    by_cases d2 : j = a
    · subst d2
      rw [upI_s, if_pos rfl, hr c hc]
    · rw [upI_k _ _ _ _ d2, if_neg d2, hr j hj]
theorem c_nq (hn : n ≤ 6) (h1 : 1 ≤ n) (hr : ∀ j, j < n → w.1 37 j = nI (g j)) (h8 : ∀ j, j < n → g j < 100) {p : Nat} (hp : p < n) : iter (fun s : Int32 => fX1_nextOrder_b40 (nI p) w s) FU (nI (n - 1)) = some (nI (nqN g p (n - 1))) := by
  have main : ∃ x, iter (fun s : Int32 => fX1_nextOrder_b40 (nI p) w s) FU (nI (n - 1)) = some x ∧ x = nI (nqN g p (n - 1)) := by
    refine it (fun i s => s = nI (n - 1 - i) ∧ nqN g p (n - 1) = nqN g p (n - 1 - i)) _ (n - 1) ⟨by rw [Nat.sub_zero], by rw [Nat.sub_zero]⟩ ?_ ?_ (by omega)
    · rintro i s hi ⟨e1, e2⟩
      subst e1
      obtain ⟨q, hq⟩ : ∃ q, n - 1 - i = q + 1 := ⟨n - 1 - i - 1, by omega⟩
      rw [hq] at e2 ⊢
      have ga := h8 p hp
      have gb := h8 (q + 1) (by omega)
      have er : nqN g p (q + 1) = if q + 1 ≤ p then q + 1 else if g p ≤ g (q + 1) then q + 1 else nqN g p q := rfl
      by_cases c : q + 1 ≤ p
      · refine Or.inr ⟨nI (q + 1), ?_, by rw [e2, er, if_pos c]⟩
        show fX1_nextOrder_b40 _ _ _ = _
        unfold fX1_nextOrder_b40
        rw [if_pos (by rw [n_le (by omega) (by omega)]; exact c)]
      · by_cases d : g p ≤ g (q + 1)
        · refine Or.inr ⟨nI (q + 1), ?_, by rw [e2, er, if_neg c, if_pos d]⟩
          show fX1_nextOrder_b40 _ _ _ = _
          unfold fX1_nextOrder_b40
          rw [if_neg (by rw [n_le (by omega) (by omega)]; exact c), gdn (by omega) (by decide), gdn (by omega) (by decide), n_cl (by omega), n_cl (by omega), hr p hp, hr (q + 1) (by omega), if_pos (by rw [n_le (by omega) (by omega)]; exact d)]
        · refine Or.inl ⟨nI q, ?_, by rw [show n - 1 - (i + 1) = q by omega], by rw [e2, er, if_neg c, if_neg d, show n - 1 - (i + 1) = q by omega]⟩
          show fX1_nextOrder_b40 _ _ _ = _
          unfold fX1_nextOrder_b40
          rw [if_neg (by rw [n_le (by omega) (by omega)]; exact c), gdn (by omega) (by decide), gdn (by omega) (by decide), n_cl (by omega), n_cl (by omega), hr p hp, hr (q + 1) (by omega), if_neg (by rw [n_le (by omega) (by omega)]; exact d), n_m1 (by omega), lt_e, Nat.add_sub_cancel]
    · rintro s ⟨e1, e2⟩
      subst e1
      refine ⟨nI 0, ?_, by rw [e2, Nat.sub_self]; rfl⟩
      show fX1_nextOrder_b40 _ _ _ = _
      unfold fX1_nextOrder_b40
      rw [Nat.sub_self, if_pos (by rw [n_le (by omega) (by omega)]; omega)]
  obtain ⟨x, m1, m2⟩ := main
  rw [m1, m2]
theorem c_rev (hn : n ≤ 6) (hr : ∀ j, j < n → w.1 37 j = nI (g j)) {a c : Nat} (ha : a < 100) (hc : c < n) : ∃ w1, iter (fun s : Int32 × Int32 × Wd => fX1_nextOrder_b82 s.1 s.2.1 s.2.2) FU (nI a, nI c, w) = some w1 ∧ ∀ j, j < n → w1.1 37 j = nI (rvF 6 g a c j) := by
  · refine it (fun i (s : Int32 × Int32 × Wd) => s.1 = nI (a + i) ∧ ∃ c', c' + i = c ∧ s.2.1 = nI c' ∧ ∃ h, (∀ j, j < n → s.2.2.1 37 j = nI (h j)) ∧ rvF 6 g a c = rvF (6 - i) h (a + i) c') _ 6 ⟨rfl, c, rfl, rfl, g, hr, rfl⟩ ?_ ?_ (by omega)
    · rintro i ⟨x, y, u⟩ hi ⟨e1, c', e2, e3, h, e4, e5⟩
      dsimp only at e1 e2 e3 e4 e5
      subst e1; subst e3
      have er : rvF (6 - i) h (a + i) c' = if c' ≤ a + i then h else rvF (6 - (i + 1)) (swG h (a + i) c') (a + i + 1) (c' - 1) := by
        rw [show 6 - i = (6 - (i + 1)) + 1 by omega]; rfl
      by_cases d : c' ≤ a + i
      · refine Or.inr ⟨u, ?_, fun j hj => by rw [e5, er, if_pos d]; exact e4 j hj⟩
        show fX1_nextOrder_b82 _ _ _ = _
        unfold fX1_nextOrder_b82
        rw [if_pos (by rw [n_le (by omega) (by omega)]; exact d)]
      · obtain ⟨u1, b1, b2⟩ := c_swap hn e4 (a := a + i) (c := c') (by omega) (by omega)
        refine Or.inl ⟨(nI (a + (i + 1)), nI (c' - 1), u1), ?_, rfl, c' - 1, by omega, rfl, swG h (a + i) c', b2, by rw [e5, er, if_neg d]; rfl⟩
        show fX1_nextOrder_b82 _ _ _ = _
        unfold fX1_nextOrder_b82
        rw [if_neg (by rw [n_le (by omega) (by omega)]; exact d), b1, bd_e, nI_1, lt_e, n_m1 (by omega), lt_e]
        rfl
    · rintro ⟨x, y, u⟩ ⟨e1, c', e2, -⟩
      exact absurd e2 (by omega)
theorem c_next (hn : n ≤ 6) (h1 : 1 ≤ n) (hr : ∀ j, j < n → w.1 37 j = nI (g j)) (h8 : ∀ j, j < n → g j < 100) : ∃ w1, fX1_nextOrder w (nI n) = some w1 ∧ ∀ j, j < n → w1.1 37 j = nI (nxR n g j) := by
  obtain ⟨m, rfl⟩ : ∃ m, n = m + 1 := ⟨n - 1, by omega⟩
  have hz := rzN_le g (m + 1 - 1)
  unfold fX1_nextOrder
  rw [i_m2, lt_e]
  have hcr := c_rise hn h1 hr h8
  rw [show m + 1 - 1 = m by omega] at hcr hz
  rw [hcr, bd_e]
  unfold fX1_nextOrder_j31 nxR
  rw [show m + 1 - 1 = m by omega]
  by_cases c : rzN g m = 0
  · rw [c, if_neg (show ¬ (0 : Int32) ≤ nI 0 + (-1) by decide), if_pos rfl]
    exact ⟨w, rfl, hr⟩
  · obtain ⟨p, hp⟩ : ∃ p, rzN g m = p + 1 := ⟨rzN g m - 1, by omega⟩
    rw [hp, n_m1 (by omega), Nat.add_sub_cancel, if_pos (nI_pos' (by omega)), if_neg (Nat.succ_ne_zero _), i_m1, n_m1 (by omega), show m + 1 - 1 = m by omega, lt_e]
    have hq := c_nq hn h1 hr h8 (p := p) (by omega)
    rw [show m + 1 - 1 = m by omega] at hq
    have hql := nqN_le g p m
    rw [hq, bd_e]
    unfold fX1_nextOrder_j66
    obtain ⟨u1, b1, b2⟩ := c_swap hn hr (a := p) (c := nqN g p m) (by omega) (by omega)
    obtain ⟨u2, d1, d2⟩ := c_rev hn b2 (a := p + 1) (c := m) (by omega) (by omega)
    rw [b1, bd_e, nI_1, lt_e, i_m1, n_m1 (by omega), show m + 1 - 1 = m by omega, lt_e, d1, bd_e]
    exact ⟨u2, rfl, d2⟩
theorem dig_lt {k j : Nat} (h : 0 < n) : dig n k j < n := Nat.mod_lt _ h
theorem nxOK_at {k1 k2 : Nat} (h : nxOK n k1 k2 = true) {j : Nat} (hj : j < n) : nxR n (dig n k1) j = dig n k2 j := Nat.eq_of_beq_eq_true (List.all_eq_true.mp h j (List.mem_range.mpr hj))
theorem c_digits {k : Nat} (hn : n ≤ 6) (hr : ∀ j, j < n → w.1 37 j = nI (dig n k j)) : fX1_orderAsDigits w (nI n) = some (nI (dcN n k n)) := by
  unfold fX1_orderAsDigits
  rw [i_m1, lt_e]
  refine (itb (fun t => (nI (dcN n k t), nI (n - t) + (-1))) (nI (dcN n k n)) n rfl (fun t ht => ?_) ?_ (by omega)).trans rfl
  · show fX1_orderAsDigits_b6 _ _ _ = _
    unfold fX1_orderAsDigits_b6
    rw [n_m1 (by omega), if_neg (nI_pos (by omega)), gdn (by omega) (by decide), n_cl (by omega), hr _ (by omega), show dig n k (n - t - 1) = eN n k t by unfold dig; rw [show n - 1 - (n - t - 1) = t by omega], c10m, lt_e, lt_e]
    rfl
  · show fX1_orderAsDigits_b6 _ _ _ = _
    unfold fX1_orderAsDigits_b6
    rw [Nat.sub_self, if_pos (show nI 0 + (-1) < (0 : Int32) by decide)]
theorem c_place {k : Nat} {f : Nat → Nat} (h1 : CoIs w 1 σ) (h3 : CoIs w 3 (mx σ f)) (hf : ∀ q, sP σ ≤ q → f q = q) (hg : good σ) (h6 : sP σ ≤ 6) (hr : ∀ j, j < sP σ → w.1 37 j = nI (dig (sP σ) k j)) : ∃ w1, iter (fun s : Int32 × Wd => fX1_findOrder_b67 (nI (sP σ)) s.1 s.2) FU (0, w) = some w1 ∧ CoIs w1 3 (mx σ (pfN (sP σ) k)) ∧ CoIs w1 1 σ ∧ ∀ i, i ≠ 3 → i ≠ 21 → i ≠ 22 → w1.1 i = w.1 i := by
  refine itn (fun p (s : Int32 × Wd) => s.1 = nI p ∧ CoIs s.2 1 σ ∧ (∃ f, CoIs s.2 3 (mx σ f) ∧ (∀ q, q < p → f q = dig (sP σ) k q) ∧ ∀ q, sP σ ≤ q → f q = q) ∧ ∀ i, i ≠ 3 → i ≠ 21 → i ≠ 22 → s.2.1 i = w.1 i) _ (sP σ) ⟨rfl, h1, ⟨f, h3, fun q hq => absurd hq (Nat.not_lt_zero _), hf⟩, fun _ _ _ _ => rfl⟩ ?_ ?_ (by omega)
  · rintro p ⟨x, u⟩ hp ⟨e1, e2, ⟨f2, e3, e4, e5⟩, e6⟩
    dsimp only at e1 e2 e3 e4 e5 e6
    subst e1
    have hd := dig_lt (n := sP σ) (k := k) (j := p) (by omega)
    obtain ⟨u1, b1, b2, b3⟩ := c_copy e2 e3 hg hp hd
    refine ⟨(nI (p + 1), u1), ?_, rfl, b3, ⟨_, b2, fun q hq => ?_, fun q hq => ?_⟩, fun i i1 i2 i3 => ?_⟩
    · show fX1_findOrder_b67 _ _ _ = _
      unfold fX1_findOrder_b67
      rw [if_neg (by rw [n_le (by omega) (by omega)]; omega), gdn (by omega) (by decide), n_cl (by omega), show u.1 37 p = nI (dig (sP σ) k p) by rw [e6 37 (by decide) (by decide) (by decide)]; exact hr p hp, b1, bd_e, nI_1, lt_e]
    · unfold upF
      by_cases d : q = p
      · subst d; rw [if_pos rfl]
      · rw [if_neg d]; exact e4 q (by omega)
    · unfold upF
      rw [if_neg (by omega)]; exact e5 q hq
    · dsimp only
      rw [((rX2_copyOne b1).cell i (by
        rw [List.all_eq_true]
        intro q hq
        have : q.1 = 3 ∨ q.1 = 21 ∨ q.1 = 22 := (by decide : ∀ q, q ∈ pX2_copyOne 3 → q.1 = 3 ∨ q.1 = 21 ∨ q.1 = 22) q hq
        simp only [bne_iff_ne, ne_eq]; omega)).1]
      exact e6 i i1 i2 i3
  · rintro ⟨x, u⟩ ⟨e1, e2, ⟨f2, e3, e4, e5⟩, e6⟩
    dsimp only at e1 e2 e3 e4 e5 e6
    subst e1
    refine ⟨u, ?_, mx_eq (fun q _ => ?_) hg.P e3, e2, e6⟩
    · show fX1_findOrder_b67 _ _ _ = _
      unfold fX1_findOrder_b67
      rw [if_pos (Int32.le_refl _)]
    · unfold pfN
      by_cases d : q < sP σ
      · rw [if_pos d, e4 q d]
      · rw [if_neg d, e5 q (by omega)]
theorem c_cons {m f : Nat} {x c : Int32} (h1 : w.1 10 1 = bI (-1) m) (h0 : w.1 10 0 = x) (hm : m < 2 ^ 31) (hf : f < 2 ^ 31) : (fX1_consider w c (nI f)).1 10 1 = bI (-1) (if m ≤ f then f + 1 else m) ∧ (fX1_consider w c (nI f)).1 10 0 = (if m ≤ f then c else x) ∧ ∀ i, i ≠ 10 → (fX1_consider w c (nI f)).1 i = w.1 i := by
  unfold fX1_consider
  rw [h1]
  by_cases d : m ≤ f
  · rw [if_neg (by rw [bI_le (by decide) hm hf]; exact fun h => h d), if_pos d, if_pos d, lt_e, lt_e]
    refine ⟨?_, ?_, fun i hi => ?_⟩
    · rw [upI_k _ _ _ _ (by decide), upI_s, bI_s]
    · rw [upI_s]
    · rw [upI_o _ _ _ _ hi, upI_o _ _ _ _ hi]
  · rw [if_pos (by rw [bI_le (by decide) hm hf]; exact d), if_neg d, if_neg d]
    exact ⟨h1, h0, fun _ _ => rfl⟩
theorem pOr_le (hg : good σ) (k : Nat) : pOr σ k ≤ 8 := pop8 (dN_lt (good_mx hg _))
theorem fc_lt : ∀ n, n < 7 → fcN n ≤ 720 := by decide
abbrev bO (σ : St) (i : Nat) : Nat × Nat := inB (pOr σ) (PLx (sP σ)) (999999, 0) i
theorem c_findOrder (hC : CoIs w 1 σ) (hg : good σ) (h0 : 0 < sP σ) (h6 : sP σ ≤ 6) : ∃ w1, fX1_findOrder w = some w1 ∧ w1.1 10 1 = bI (-1) (bO σ (fcN (sP σ))).2 ∧ w1.1 10 0 = fOr (sP σ) (bO σ (fcN (sP σ))).1 := by
  have hlen := plx_len (sP σ) (by omega) h0
  have hfc := fc_lt (sP σ) (by omega)
  unfold fX1_findOrder
  have f10 : aside 10 := Or.inr (Or.inl (by decide))
  have f37 : aside 37 := Or.inr (Or.inr (by decide))
  have st : fX1_startSearch w (-1) = upI (upI w 10 0 (-9)) 10 1 (-1) ∨ True := Or.inr trivial
  have hS : ∀ i, i ≠ 10 → (fX1_startSearch w (-1)).1 i = w.1 i := fun i hi => by unfold fX1_startSearch; rw [lt_e, lt_e, upI_o _ _ _ _ hi, upI_o _ _ _ _ hi]
  have hCs : CoIs (fX1_startSearch w (-1)) 1 σ := hC.eq (hS _ (by decide)) (hS _ (by decide)) (hS _ (by decide)) (hS _ (by decide)) (hS _ (by decide))
  have hs1 : (fX1_startSearch w (-1)).1 10 1 = -1 := rfl
  have hs0 : (fX1_startSearch w (-1)).1 10 0 = -9 := rfl
  generalize fX1_startSearch w (-1) = v at hS hCs hs1 hs0 ⊢
  have cq0 : Cq w v := Cq.con Ag.rf hS
  have h3 : CoIs (fX2_takeFrom 3 1 v) 3 (mx σ (fun q => q)) := by rw [mx_id hg]; exact c_take co3 co1 (by decide) hCs
  have h1 : CoIs (fX2_takeFrom 3 1 v) 1 σ := hCs
  have t10 : (fX2_takeFrom 3 1 v).1 10 = v.1 10 := take_o (by decide)
  have cq1 : Cq v (fX2_takeFrom 3 1 v) := Cq.of (l := pX2_takeFrom 3) (rX2_takeFrom rfl) (by decide)
  rw [lt_e, lt_e]
  generalize fX2_takeFrom 3 1 v = u0 at h3 h1 t10 cq1 ⊢
  rw [h1.P, c6, n_min (by omega) (by decide), Nat.min_eq_left h6, lt_e]
  have ini : ∃ x, iter (fun s : Int32 × Int32 × Wd => fX1_findOrder_b33 (nI (sP σ)) s.1 s.2.1 s.2.2) FU (1, 0, u0) = some x ∧ x.1 = nI (fcN (sP σ)) ∧ (∀ j, j < sP σ → x.2.1 37 j = nI j) ∧ ∀ i, i ≠ 37 → x.2.1 i = u0.1 i := by
    refine itn (fun i (s : Int32 × Int32 × Wd) => s.1 = nI (fcN i) ∧ s.2.1 = nI i ∧ (∀ j, j < i → s.2.2.1 37 j = nI j) ∧ ∀ i, i ≠ 37 → s.2.2.1 i = u0.1 i) _ (sP σ) ⟨rfl, rfl, fun j hj => absurd hj (Nat.not_lt_zero _), fun _ _ => rfl⟩ ?_ ?_ (by omega)
    · rintro i ⟨x, y, u⟩ hi ⟨e1, e2, e3, e4⟩
      dsimp only at e1 e2 e3 e4
      subst e1; subst e2
      refine ⟨(nI (fcN (i + 1)), nI (i + 1), upI u 37 i (nI i)), ?_, rfl, rfl, fun j hj => ?_, fun j hj => ?_⟩
      · show fX1_findOrder_b33 _ _ _ _ = _
        unfold fX1_findOrder_b33
        rw [if_neg (by rw [n_le (by omega) (by omega)]; omega), gdn (by omega) (by decide), n_cl (by omega), lt_e, nI_1, n_mul, lt_e, lt_e]
        rfl
      · dsimp only
        by_cases d : j = i
        · subst d; rw [upI_s]
        · rw [upI_k _ _ _ _ d]; exact e3 j (by omega)
      · dsimp only
        rw [upI_o _ _ _ _ hj]; exact e4 j hj
    · rintro ⟨x, y, u⟩ ⟨e1, e2, e3, e4⟩
      dsimp only at e1 e2 e3 e4
      subst e1; subst e2
      refine ⟨(nI (fcN (sP σ)), u), ?_, rfl, e3, e4⟩
      show fX1_findOrder_b33 _ _ _ _ = _
      unfold fX1_findOrder_b33
      rw [if_pos (Int32.le_refl _)]
  obtain ⟨⟨x, u1⟩, i1, i2, i3, i4⟩ := ini
  dsimp only at i2 i3 i4
  subst i2
  rw [i1, bd_e, un2_e]
  have k37 : Cq u0 u1 := fun i k hi => by rw [i4 i (fun d => by subst d; cases hi)]
  have c37 : ∀ {b : Nat} {τ : St}, isCo b → CoIs u0 b τ → CoIs u1 b τ := fun {b τ} hb hc => by
    unfold isCo at hb
    rcases hb with rfl | rfl | rfl <;> exact hc.eq (i4 _ (by decide)) (i4 _ (by decide)) (i4 _ (by decide)) (i4 _ (by decide)) (i4 _ (by decide))
  have main : ∃ y, iter (fun s : Int32 × Wd => fX1_findOrder_b59 (nI (fcN (sP σ))) (nI (sP σ)) s.1 s.2) FU (0, u1) = some y ∧ y.1 10 1 = bI (-1) (bO σ (fcN (sP σ))).2 ∧ y.1 10 0 = fOr (sP σ) (bO σ (fcN (sP σ))).1 := by
    refine itn (fun i (s : Int32 × Wd) => s.1 = nI i ∧ CoIs s.2 1 σ ∧ (∃ f, CoIs s.2 3 (mx σ f) ∧ ∀ q, sP σ ≤ q → f q = q) ∧ (i < fcN (sP σ) → ∀ j, j < sP σ → s.2.1 37 j = nI (dig (sP σ) ((PLx (sP σ)).getD i 0) j)) ∧ s.2.1 10 1 = bI (-1) (bO σ i).2 ∧ s.2.1 10 0 = fOr (sP σ) (bO σ i).1) _ (fcN (sP σ)) ⟨rfl, c37 co1 h1, ⟨_, c37 co3 h3, fun _ _ => rfl⟩, fun _ j hj => ?_, ?_, ?_⟩ ?_ ?_ (by omega)
    · rw [plx_0 _ (by omega) h0 j hj]; exact i3 j hj
    · dsimp only
      rw [i4 10 (by decide), t10, hs1]; rfl
    · dsimp only
      rw [i4 10 (by decide), t10, hs0]; rfl
    · rintro i ⟨x, u⟩ hi ⟨e1, e2, ⟨f, e3, e3'⟩, e4, e5, e6⟩
      dsimp only at e1 e2 e3 e4 e5 e6
      subst e1
      have e4 := e4 hi
      have hk := all_d (plx_lt (sP σ) (by omega)) (i := i) (by omega)
      have hnx : i + 1 < fcN (sP σ) → nxOK (sP σ) ((PLx (sP σ)).getD i 0) ((PLx (sP σ)).getD (i + 1) 0) = true := fun h => nxA_d (plx_nx _ h0 (by omega)) (by omega)
      have ebo : bO σ (i + 1) = besU (pOr σ) (bO σ i) ((PLx (sP σ)).getD i 0) := rfl
      generalize (PLx (sP σ)).getD i 0 = k at e4 hk hnx ebo
      have hk' : k < 99999 := Nat.le_of_ble_eq_true hk
      obtain ⟨u2, b1, b2, b3, b4⟩ := c_place e2 e3 e3' hg h6 e4
      have r2 : ∀ j, j < sP σ → u2.1 37 j = nI (dig (sP σ) k j) := fun j hj => by rw [b4 37 (by decide) (by decide) (by decide)]; exact e4 j hj
      have gm := good_mx hg (pfN (sP σ) k)
      obtain ⟨u3, d1, d2⟩ := c_countOf co3 b2 gm
      have hb2 := inB_2 (pOr σ) (PLx (sP σ)) (999999, 0) (by decide) (pOr_le hg) i
      have hp8 := pOr_le hg k
      have q10 : u3.1 10 = u.1 10 := by rw [d2 10 (by decide), b4 10 (by decide) (by decide) (by decide)]
      obtain ⟨s1, s2, s3⟩ := c_cons (w := u3) (m := (bO σ i).2) (f := pOr σ k) (x := fOr (sP σ) (bO σ i).1) (c := nI (dcN (sP σ) k (sP σ))) (by rw [q10]; exact e5) (by rw [q10]; exact e6) (show (inB (pOr σ) (PLx (sP σ)) (999999, 0) i).2 < 2 ^ 31 by omega) (by omega)
      have hC1 : CoIs (fX1_consider u3 (nI (dcN (sP σ) k (sP σ))) (nI (pOr σ k))) 1 σ := (d2.coA b3).eq (s3 _ (by decide)) (s3 _ (by decide)) (s3 _ (by decide)) (s3 _ (by decide)) (s3 _ (by decide))
      have hC3 : CoIs (fX1_consider u3 (nI (dcN (sP σ) k (sP σ))) (nI (pOr σ k))) 3 (mx σ (pfN (sP σ) k)) := (d2.co co3 b2).eq (s3 _ (by decide)) (s3 _ (by decide)) (s3 _ (by decide)) (s3 _ (by decide)) (s3 _ (by decide))
      have r3 : ∀ j, j < sP σ → (fX1_consider u3 (nI (dcN (sP σ) k (sP σ))) (nI (pOr σ k))).1 37 j = nI (dig (sP σ) k j) := fun j hj => by rw [s3 37 (by decide), d2 37 (by decide)]; exact r2 j hj
      obtain ⟨u4, g1, g2⟩ := c_next h6 h0 r3 (fun j _ => by have := dig_lt (n := sP σ) (k := k) (j := j) h0; omega)
      have fr := rX1_nextOrder g1
      have k4 : ∀ i, i ≠ 37 → u4.1 i = (fX1_consider u3 (nI (dcN (sP σ) k (sP σ))) (nI (pOr σ k))).1 i := fun i hi => (fr.cell i (by
        rw [List.all_eq_true]
        intro q hq
        have : q.1 = 37 := (by decide : ∀ q, q ∈ pX1_nextOrder → q.1 = 37) q hq
        simp only [bne_iff_ne, ne_eq]; omega)).1
      refine ⟨(nI (i + 1), u4), ?_, rfl, hC1.eq (k4 _ (by decide)) (k4 _ (by decide)) (k4 _ (by decide)) (k4 _ (by decide)) (k4 _ (by decide)), ⟨_, hC3.eq (k4 _ (by decide)) (k4 _ (by decide)) (k4 _ (by decide)) (k4 _ (by decide)) (k4 _ (by decide)), fun q hq => ?_⟩, fun h j hj => ?_, ?_, ?_⟩
      · show fX1_findOrder_b59 _ _ _ _ = _
        unfold fX1_findOrder_b59
        rw [if_neg (by rw [n_le (by omega) (by omega)]; omega), b1, bd_e, c_digits h6 r2, bd_e, d1, bd_e, un2_e, lt_e, show fX1_nextOrder (fX1_consider u3 (nI (dcN (sP σ) k (sP σ))) (nI (pop (dN (mx σ (pfN (sP σ) k)))))) (nI (sP σ)) = some u4 from g1, bd_e, nI_1, lt_e]
      · unfold pfN
        rw [if_neg (by omega)]
      · dsimp only
        rw [g2 j hj, nxOK_at (hnx h) hj]
      · dsimp only
        rw [k4 10 (by decide), s1, ebo]
        unfold besU
        by_cases c : (bO σ i).2 ≤ pOr σ k
        · rw [if_pos c, if_pos c]
        · rw [if_neg c, if_neg c]
      · dsimp only
        rw [k4 10 (by decide), s2, ebo]
        unfold besU
        by_cases c : (bO σ i).2 ≤ pOr σ k
        · rw [if_pos c, if_pos c]
          show _ = if k = 999999 then _ else _
          rw [if_neg (by omega)]
        · rw [if_neg c, if_neg c]
    · rintro ⟨x, u⟩ ⟨e1, e2, e3, e4, e5, e6⟩
      dsimp only at e1 e2 e3 e4 e5 e6
      subst e1
      refine ⟨u, ?_, e5, e6⟩
      show fX1_findOrder_b59 _ _ _ _ = _
      unfold fX1_findOrder_b59
      rw [if_pos (Int32.le_refl _)]
  obtain ⟨y, m1, m2, m3⟩ := main
  exact ⟨y, by rw [m1, bd_e], m2, m3⟩
end

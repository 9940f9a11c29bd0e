/-! the plain ones -/
theorem c0 : (0 : Int32) = nI 0 := rfl
theorem c1 : (1 : Int32) = nI 1 := rfl
theorem c2 : (2 : Int32) = nI 2 := rfl
theorem c3 : (3 : Int32) = nI 3 := rfl
theorem c4 : (4 : Int32) = nI 4 := rfl
theorem c5 : (5 : Int32) = nI 5 := rfl
theorem c6 : (6 : Int32) = nI 6 := rfl
theorem c8 : (8 : Int32) = nI 8 := rfl
theorem c9 : (9 : Int32) = nI 9 := rfl
theorem c10 : (10 : Int32) = nI 10 := rfl
theorem c12 : (12 : Int32) = nI 12 := rfl
theorem c20 : (20 : Int32) = nI 20 := rfl
theorem c24 : (24 : Int32) = nI 24 := rfl
theorem c60 : (60 : Int32) = nI 60 := rfl
theorem c96 : (96 : Int32) = nI 96 := rfl
theorem c99 : (99 : Int32) = nI 99 := rfl
theorem c255 : (255 : Int32) = nI 255 := rfl
theorem c999 : (999 : Int32) = nI 999 := rfl
section
variable {w w1 : Wd} {σ : St}
theorem rf1 (w : Wd) : fX9_refuse w (-1) = some (-1, upI w 12 1 (w.1 12 1 + 1)) := ref9 1 (by decide) (by decide) w
theorem rf2 (w : Wd) : fX9_refuse w (-2) = some (-2, upI w 12 2 (w.1 12 2 + 1)) := ref9 2 (by decide) (by decide) w
theorem rf3 (w : Wd) : fX9_refuse w (-3) = some (-3, upI w 12 3 (w.1 12 3 + 1)) := ref9 3 (by decide) (by decide) w
theorem rf4 (w : Wd) : fX9_refuse w (-4) = some (-4, upI w 12 4 (w.1 12 4 + 1)) := ref9 4 (by decide) (by decide) w
theorem rf6 (w : Wd) : fX9_refuse w (-6) = some (-6, upI w 12 6 (w.1 12 6 + 1)) := ref9 6 (by decide) (by decide) w
theorem no1 (w : Wd) : fX10_no w (-1) = some (-1, upI w 43 1 (w.1 43 1 + 1)) := ref10 1 (by decide) w
theorem no2 (w : Wd) : fX10_no w (-2) = some (-2, upI w 43 2 (w.1 43 2 + 1)) := ref10 2 (by decide) w
theorem no3 (w : Wd) : fX10_no w (-3) = some (-3, upI w 43 3 (w.1 43 3 + 1)) := ref10 3 (by decide) w
theorem no4 (w : Wd) : fX10_no w (-4) = some (-4, upI w 43 4 (w.1 43 4 + 1)) := ref10 4 (by decide) w
theorem no6 (w : Wd) : fX10_no w (-6) = some (-6, upI w 43 6 (w.1 43 6 + 1)) := ref10 6 (by decide) w
theorem Ans.nof {m : Option (Int32 × Wd)} {f : Wd → Option (Int32 × Wd)} (h : R w σ) (k : Nat) (h1 : 1 ≤ k) (h7 : k < 7) (e9 : m = some (-(nI k), upI w 12 k (w.1 12 k + 1))) (e10 : ∀ v : Wd, (∀ i, i ≠ 12 → v.1 i = w.1 i) → f v = some (-(nI k), upI v 43 k (v.1 43 k + 1))) : Ans m f :=
  ⟨-(nI k), _, _, σ, e9, e10 _ (fun i hi => upI_o _ _ _ _ hi), upR h k h7⟩
theorem lo_ge {x : Int32} (h : x < 0) : ¬ (0 : Int32) ≤ x := Int32.not_le.mpr h
theorem lo_le {x : Int32} {m : Nat} (h : x < 0) (hm : m < 2 ^ 31) : x ≤ nI m := Int32.le_of_lt (Int32.lt_of_lt_of_le h (nI_pos' hm))
theorem hi_ge {x : Int32} {m : Nat} (h : nI m ≤ x) (hm : m < 2 ^ 31) : (0 : Int32) ≤ x := Int32.le_trans (nI_pos' hm) h
theorem hi_lt {x : Int32} {m : Nat} (h : nI (m + 1) ≤ x) (hm : m + 1 < 2 ^ 31) : nI m < x := Int32.lt_of_lt_of_le (by rw [n_lt (by omega) hm]; omega) h
theorem hi_le {x : Int32} {m : Nat} (h : nI (m + 1) ≤ x) (hm : m + 1 < 2 ^ 31) : ¬ x ≤ nI m := Int32.not_le.mpr (hi_lt h hm)
theorem hi_ne {x : Int32} {m k : Nat} (h : nI m ≤ x) (hk : k < m) (hm : m < 2 ^ 31) : x ≠ nI k := fun e => by
  rw [e, n_le hm (by omega)] at h
  omega
theorem q_feed (h : R w σ) (x : Int32) : Ans (fX9_feed w x) (fun v => fX10_feed v x) := by
  obtain ⟨n, hn, e1, e2, e3⟩ := h.le
  rcases arg x 256 with hx | hx | ⟨p, hp, rfl⟩
  · have a1 := lo_ge hx
    exact Ans.nof h 4 (by decide) (by decide) (by unfold fX9_feed; simp only [if_neg a1, rf1, rf2, rf3, rf4, rf6, bd_e, un2_e] <;> rfl) (fun v e => by unfold fX10_feed fX10_bound fX10_feed_j25; simp only [if_neg a1, lt_e, if_neg (show ¬ (-4 : Int32) = 0 by decide), e _ (show (42 : Nat) ≠ 12 by decide), no1, no2, no3, no4, no6, bd_e, un2_e] <;> rfl)
  · have a1 := hi_ge hx (by decide)
    have a2 : (255 : Int32) < x := hi_lt (m := 255) hx (by decide)
    have a3 : ¬ x ≤ 255 := Int32.not_le.mpr a2
    exact Ans.nof h 6 (by decide) (by decide) (by unfold fX9_feed fX9_feed_j28; simp only [if_pos a1, if_pos a2, rf1, rf2, rf3, rf4, rf6, bd_e, un2_e] <;> rfl) (fun v e => by unfold fX10_feed fX10_bound fX10_feed_j25; simp only [if_pos a1, if_neg a3, lt_e, if_neg (show ¬ (-6 : Int32) = 0 by decide), e _ (show (42 : Nat) ≠ 12 by decide), no1, no2, no3, no4, no6, bd_e, un2_e] <;> rfl)
  · have a1 : (0 : Int32) ≤ nI p := nI_pos' (by omega)
    have a2 : ¬ (255 : Int32) < nI p := by rw [c255, n_lt (by decide) (by omega)]; omega
    have a3 : nI p ≤ (255 : Int32) := by rw [c255, n_le (by omega) (by decide)]; omega
    by_cases c : n = 96
    · subst c
      have b1 : ¬ nI 96 < (96 : Int32) := by decide
      exact Ans.nof h 6 (by decide) (by decide) (by unfold fX9_feed fX9_feed_j28 fX3_isFull; simp only [if_pos a1, if_neg a2, e1, if_neg b1, if_neg (show ¬ (1 : Int32) = 0 by decide), rf1, rf2, rf3, rf4, rf6, bd_e, un2_e] <;> rfl) (fun v e => by unfold fX10_feed fX10_bound fX10_feed_j25; simp only [if_pos a1, if_pos a3, lt_e, if_pos, e2, if_pos (show nI 96 = (96 : Int32) from rfl), if_neg (show ¬ (-6 : Int32) = 0 by decide), e _ (show (42 : Nat) ≠ 12 by decide), no1, no2, no3, no4, no6, bd_e, un2_e] <;> rfl)
    · have b1 : nI n < (96 : Int32) := by rw [c96, n_lt (by omega) (by decide)]; omega
      have b2 : ¬ nI n = (96 : Int32) := by rw [c96, n_eq (by omega) (by decide)]; omega
      refine ⟨nI (n + 1), upI (upI w 33 n (nI p)) 6 0 (nI (n + 1)), upI (upI (upI (upI w 33 n (nI p)) 6 0 (nI (n + 1))) 49 n (nI p)) 42 14 (nI (n + 1)), σ, ?_, ?_, h.g, h.m, h.c, h.o, ⟨n + 1, by omega, rfl, rfl, fun k hk => ?_⟩, h.ro, h.pa, h.pi, h.re⟩
      · unfold fX9_feed fX3_append fX3_isFull
        simp only [if_pos a1, if_neg a2, e1, if_pos b1, if_pos, gdn (show n < 96 by omega) (by decide), lt_e, upI_o _ 33 _ _ (show (6 : Nat) ≠ 33 by decide), n_cl (show n < 2 ^ 31 by omega), nI_1, bd_e, un2_e, upI_s]
      · unfold fX10_feed fX10_bound fX10_feed_j25
        have e4 : (upI (upI w 33 n (nI p)) 6 0 (nI (n + 1))).1 42 14 = nI n := e2
        have e5 : ∀ v x, (upI v 49 n x).1 42 14 = v.1 42 14 := fun v x => rfl
        simp only [if_pos a1, if_pos a3, e4, if_neg b2, if_pos, gdn (show n < 96 by omega) (by decide), lt_e, n_cl (show n < 2 ^ 31 by omega), nI_1, bd_e, un2_e, upI_s, e5]
      · by_cases d : k = n
        · subst d; exact ⟨p, by omega, upI_s _ _ _ _, upI_s _ _ _ _⟩
        · obtain ⟨c, h1, h2, h3⟩ := e3 k (by omega)
          exact ⟨c, h1, (upI_k _ _ _ _ d).trans h2, (upI_k _ _ _ _ d).trans h3⟩
end

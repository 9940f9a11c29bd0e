/-! calms: pairs, and both -/
/-- the best of all pairs up to the i-th's -/
def bZ (σ : St) : Nat → Nat × Nat
  | 0 => (9999, pop (dN σ) + 1)
  | i + 1 => bs (fun m => pZ σ (sA σ + i) (sA σ + i + 1 + m)) (fun m => 100 * (sA σ + i) + (sA σ + i + 1 + m)) (bZ σ i) (sD σ - (sA σ + i + 1))
section
variable {w w1 w2 : Wd} {σ τ : St} {b : Nat} {u : Nat → Nat}
theorem bZ_2 (hg : good σ) : ∀ i, (bZ σ i).2 ≤ 9
  | 0 => by have := pop8 (dN_lt hg); show pop (dN σ) + 1 ≤ 9; omega
  | i + 1 => bs_2 _ _ _ 9 (bZ_2 hg i) _ (fun k _ => by have := pZ_le hg (sA σ + i) (sA σ + i + 1 + k); omega)
/-- the class within pairs: number, code, and the walk with u -/
def ZS (σ : St) (u : Nat → Nat) (k : Nat × Nat) (x y : Int32) (s : Wd) : Prop := x = bI (-9) k.2 ∧ y = fI (-9) k.1 ∧ WkU s σ u ∧ CoIs s 1 σ
theorem c_calmIn (hg : good σ) {i : Nat} (hi : sA σ + i < sD σ) {x y : Int32} {s : Wd} (h : ZS σ (uz σ (sA σ + i) (sA σ + i)) (bZ σ i) x y s) : ∃ r, iter (fun s : Int32 × Int32 × Int32 × Wd => fX6_calmPair_b39 (nI (sA σ + i)) s.1 s.2.1 s.2.2.1 s.2.2.2) FU (x, y, nI (sA σ + i + 1), s) = some r ∧ ZS σ (uz σ (sA σ + i) (sA σ + i)) (bZ σ (i + 1)) r.1 r.2.1 r.2.2 := by
  have hD := hg.D
  refine itn (fun m s => s.2.2.1 = nI (sA σ + i + 1 + m) ∧ ZS σ (uz σ (sA σ + i) (sA σ + i)) (bs (fun m => pZ σ (sA σ + i) (sA σ + i + 1 + m)) (fun m => 100 * (sA σ + i) + (sA σ + i + 1 + m)) (bZ σ i) m) s.1 s.2.1 s.2.2.2) _ (sD σ - (sA σ + i + 1)) ⟨rfl, h⟩ ?_ ?_ (by omega)
  · rintro m ⟨x, y, z, s⟩ hm ⟨e1, e2, e3, e4, e5⟩
    dsimp only at e1 e2 e3 e4 e5
    subst e1; subst e2; subst e3
    have s1 : WkU (upI s 27 (sA σ + i + 1 + m) (nI 0)) σ (uz σ (sA σ + i) (sA σ + i + 1 + m)) := (WkU.still e4 (sA σ + i + 1 + m) 0).cg (uz_s σ _ _)
    obtain ⟨s2, b1, b2, b3⟩ := c_calmDoor s1 e5 hg
    have hun : uz σ (sA σ + i) (sA σ + i) (sA σ + i + 1 + m) = uns σ (sA σ + i + 1 + m) := by
      unfold uz
      rw [if_neg (by omega), if_neg (by omega)]
    have s3 : WkU (upI s2 27 (sA σ + i + 1 + m) (nI (uns σ (sA σ + i + 1 + m)))) σ (uz σ (sA σ + i) (sA σ + i)) := (WkU.still b2 (sA σ + i + 1 + m) (uns σ (sA σ + i + 1 + m))).cg fun k => by
      by_cases h1 : k = sA σ + i + 1 + m
      · rw [if_pos h1, h1, hun]
      · rw [if_neg h1]
        unfold uz
        rw [if_neg h1]
        by_cases h2 : k = sA σ + i
        · rw [if_pos h2, if_pos h2]
        · rw [if_neg h2, if_neg h2]
    have hp8 := pZ_le hg (sA σ + i) (sA σ + i + 1 + m)
    have hd : doorU σ (uz σ (sA σ + i) (sA σ + i + 1 + m)) (sL σ) < 256 := lt256 (runU_lt hg hg.L _) hg.P
    have hb2 := bs_2 (fun m => pZ σ (sA σ + i) (sA σ + i + 1 + m)) (fun m => 100 * (sA σ + i) + (sA σ + i + 1 + m)) (bZ σ i) 9 (bZ_2 hg i) m (fun k _ => by have := pZ_le hg (sA σ + i) (sA σ + i + 1 + k); omega)
    have e7 : bs (fun m => pZ σ (sA σ + i) (sA σ + i + 1 + m)) (fun m => 100 * (sA σ + i) + (sA σ + i + 1 + m)) (bZ σ i) (m + 1) = if (bs (fun m => pZ σ (sA σ + i) (sA σ + i + 1 + m)) (fun m => 100 * (sA σ + i) + (sA σ + i + 1 + m)) (bZ σ i) m).2 ≤ pZ σ (sA σ + i) (sA σ + i + 1 + m) then (100 * (sA σ + i) + (sA σ + i + 1 + m), pZ σ (sA σ + i) (sA σ + i + 1 + m) + 1) else bs (fun m => pZ σ (sA σ + i) (sA σ + i + 1 + m)) (fun m => 100 * (sA σ + i) + (sA σ + i + 1 + m)) (bZ σ i) m := rfl
    refine ⟨(bI (-9) (bs (fun m => pZ σ (sA σ + i) (sA σ + i + 1 + m)) (fun m => 100 * (sA σ + i) + (sA σ + i + 1 + m)) (bZ σ i) (m + 1)).2, fI (-9) (bs (fun m => pZ σ (sA σ + i) (sA σ + i + 1 + m)) (fun m => 100 * (sA σ + i) + (sA σ + i + 1 + m)) (bZ σ i) (m + 1)).1, nI (sA σ + i + 1 + (m + 1)), upI s2 27 (sA σ + i + 1 + m) (nI (uns σ (sA σ + i + 1 + m)))), ?_, rfl, rfl, rfl, s3, b3⟩
    show fX6_calmPair_b39 _ _ _ _ _ = _
    unfold fX6_calmPair_b39 fX6_stillAt
    have b1' : fX8_atDoorFrom (upI s 27 (sA σ + i + 1 + m) 0) 0 (nI (sL σ)) = some (nI (doorU σ (uz σ (sA σ + i) (sA σ + i + 1 + m)) (sL σ)), s2) := b1
    rw [e5.Do, if_neg (by rw [n_le (by omega) (by omega)]; omega), gdn (by omega) (by decide), n_cl (by omega), lt_e, lt_e, bd_e, un2_e, show (upI s 27 (sA σ + i + 1 + m) 0).1 1 1 = nI (sL σ) from e5.L, b1', bd_e, un2_e, show fJ6_bitCount_0f7a4 (nI (doorU σ (uz σ (sA σ + i) (sA σ + i + 1 + m)) (sL σ))) = nI (pZ σ (sA σ + i) (sA σ + i + 1 + m)) from pop_c _ hd, lt_e, gdn (by omega) (by decide), e4.2.2.2.2.2.2 (sA σ + i + 1 + m) (by omega) (by omega), hun, lt_e, e7]
    by_cases c : (bs (fun m => pZ σ (sA σ + i) (sA σ + i + 1 + m)) (fun m => 100 * (sA σ + i) + (sA σ + i + 1 + m)) (bZ σ i) m).2 ≤ pZ σ (sA σ + i) (sA σ + i + 1 + m)
    · rw [if_neg (by rw [bI_le (by decide) (by omega) (by omega)]; exact fun h => h c), if_pos c, show (100 : Int32) = nI 100 from rfl, n_mul, n_add, lt_e, nI_1, lt_e, bI_s, fI_s _ (by dsimp only; omega)]
      rfl
    · rw [if_pos (by rw [bI_le (by decide) (by omega) (by omega)]; exact c), if_neg c, nI_1, lt_e]
      rfl
  · rintro ⟨x, y, z, s⟩ ⟨e1, e2⟩
    dsimp only at e1 e2
    subst e1
    refine ⟨(x, y, s), ?_, e2⟩
    show fX6_calmPair_b39 _ _ _ _ _ = _
    unfold fX6_calmPair_b39
    rw [e2.2.2.2.Do, if_pos (by rw [n_le (by omega) (by omega)]; omega)]
theorem c_calmPair (hC : CoIs w 1 σ) (hg : good σ) : ∃ w1, fX6_calmPair w = some (fI (-9) (bZ σ (sD σ - sA σ)).1, w1) := by
  have hD := hg.D
  have hA := hg.A
  obtain ⟨v, a1, a2, a3, a4⟩ := c_start hC hg
  unfold fX6_calmPair
  rw [a1, bd_e, un2_e, a3.Pl, lt_e]
  have main : ∃ x, iter (fun s : Int32 × Int32 × Int32 × Wd => fX6_calmPair_b16 s.1 s.2.1 s.2.2.1 s.2.2.2) FU (nI (pop (dN σ)), -9, nI (sA σ), v) = some x ∧ x.1 = fI (-9) (bZ σ (sD σ - sA σ)).1 := by
    refine itn (fun i s => s.2.2.1 = nI (sA σ + i) ∧ ZS σ (uns σ) (bZ σ i) s.1 s.2.1 s.2.2.2) _ (sD σ - sA σ) ⟨rfl, ?_, rfl, a2, a3⟩ ?_ ?_ (by omega)
    · show nI _ = bI (-9) (pop (dN σ) + 1)
      rw [bI_s]
    · rintro i ⟨x, y, z, s⟩ hi ⟨e1, e2, e3, e4, e5⟩
      dsimp only at e1 e2 e3 e4 e5
      subst e1; subst e2; subst e3
      have s1 : WkU (upI s 27 (sA σ + i) (nI 0)) σ (uz σ (sA σ + i) (sA σ + i)) := (WkU.still e4 (sA σ + i) 0).cg (uz_0 σ _)
      obtain ⟨⟨x1, y1, s2⟩, b1, b2, b3, b4, b5⟩ := c_calmIn hg (i := i) (by omega) (s := upI s 27 (sA σ + i) (nI 0)) ⟨rfl, rfl, s1, e5⟩
      dsimp only at b2 b3 b4 b5
      subst b2; subst b3
      have s3 : WkU (upI s2 27 (sA σ + i) (nI (uns σ (sA σ + i)))) σ (uns σ) := (WkU.still b4 (sA σ + i) (uns σ (sA σ + i))).cg fun k => by
        by_cases h1 : k = sA σ + i
        · rw [if_pos h1, h1]
        · unfold uz
          rw [if_neg h1, if_neg h1, if_neg h1]
      refine ⟨(bI (-9) (bZ σ (i + 1)).2, fI (-9) (bZ σ (i + 1)).1, nI (sA σ + (i + 1)), upI s2 27 (sA σ + i) (nI (uns σ (sA σ + i)))), ?_, rfl, rfl, rfl, s3, b5⟩
      show fX6_calmPair_b16 _ _ _ _ = _
      unfold fX6_calmPair_b16 fX6_stillAt
      have b1' : iter (fun s : Int32 × Int32 × Int32 × Wd => fX6_calmPair_b39 (nI (sA σ + i)) s.1 s.2.1 s.2.2.1 s.2.2.2) FU (bI (-9) (bZ σ i).2, fI (-9) (bZ σ i).1, nI (sA σ + i + 1), upI s 27 (sA σ + i) 0) = some (bI (-9) (bZ σ (i + 1)).2, fI (-9) (bZ σ (i + 1)).1, s2) := b1
      rw [e5.Do, if_neg (by rw [n_le (by omega) (by omega)]; omega), gdn (by omega) (by decide), n_cl (by omega), lt_e, lt_e, bd_e, un2_e, nI_1, lt_e, b1', bd_e, un3_e, gdn (by omega) (by decide), e4.2.2.2.2.2.2 (sA σ + i) (by omega) (by omega), lt_e, lt_e]
      rfl
    · rintro ⟨x, y, z, s⟩ ⟨e1, e2, e3, e4, e5⟩
      dsimp only at e1 e2 e3 e4 e5
      subst e1; subst e3
      refine ⟨(fI (-9) (bZ σ (sD σ - sA σ)).1, s), ?_, rfl⟩
      show fX6_calmPair_b16 _ _ _ _ = _
      unfold fX6_calmPair_b16
      rw [e5.Do, if_pos (by rw [n_le (by omega) (by omega)]; omega)]
  obtain ⟨⟨x, s⟩, m1, m2⟩ := main
  dsimp only at m2
  rw [m1, bd_e, un2_e, m2]
  exact ⟨_, rfl⟩
end

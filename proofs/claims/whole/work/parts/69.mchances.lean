/-! chances: the reference -/
/-- m minutes further on, for the reference's weights *-/
def cst (σ : St) (m : Nat) : St := aw σ (sA σ + m) (sL σ) (sM σ)
section
variable {w w1 w2 : Wd} {σ τ : St} {b : Nat}
theorem good_cst (hg : good σ) {m : Nat} (hm : sA σ + m ≤ sD σ) : good (cst σ m) := good_aw hg hg.L hg.sm hm hg.M
theorem m_out (hg : good σ) {m : Nat} (hM : MoIs w (cst σ m)) (hm : sA σ + m < sD σ) {p : Nat} (hp : p < sP σ) : fX10_tenthsOut w (nI p) = some (nI (teN σ (sA σ + m) p)) := by
  have hD := hg.D
  have h8 := hg.P
  have hK := hg.K p
  have hG := hg.G p
  have hh := hold_ge hg p
  have hW := hg.W (sA σ + m)
  have hf : felt σ p (sA σ + m) < 10 := by unfold felt; omega
  unfold fX10_tenthsOut teN
  rw [gdn (by omega) (by decide), n_cl (by omega), hM.K (by omega), hM.G (by omega), if_pos hp]
  show (if nI (sK σ p) = 3 then _ else _) = _
  by_cases d : sK σ p = 3
  · rw [if_pos (by rw [d]; rfl), if_pos d]; rfl
  · have e1 : fX10_feltBy w (nI p) (w.1 42 8) = some (nI (felt σ p (sA σ + m))) := by
      rw [hM.A]
      exact m_felt hM (good_cst hg (by omega)) hp (show sA σ + m < 25 by omega)
    have e2 : fX10_holdsOf (nI (sK σ p)) (nI (sG σ p)) = nI (hold σ p) := hold_m _ hK _ hG
    rw [if_neg (by rw [c3, n_eq (by omega) (by omega)]; exact d), if_neg d, e1, bd_e]
    show lt_ ((nI (felt σ p (sA σ + m)) - fX10_holdsOf (nI (sK σ p)) (nI (sG σ p))) + 2) _ = _
    rw [e2, lt_e]
    have key : ∀ a, a < 10 → ∀ c, c < 100 → 2 ≤ c → (if (0 : Int32) ≤ (nI a - nI c) + 2 then if (nI a - nI c) + 2 ≤ 9 then some ((nI a - nI c) + 2) else some (9 : Int32) else some (0 : Int32)) = some (nI (a - (c - 2))) := by decide +kernel
    exact key _ hf _ hh.2 hh.1
theorem m_stays (hg : good σ) {m : Nat} (hM : MoIs w (cst σ m)) (hm : sA σ + m < sD σ) {set still : Nat} (h1 : set < 16) (h2 : still < 16) : fX10_stays w (nI set) (nI still) = some (lN (prN σ (sA σ + m) set still (sP σ))) := by
  have h8 := hg.P
  unfold fX10_stays
  refine (itb (fun p => (lN (prN σ (sA σ + m) set still p), nI p)) (lN (prN σ (sA σ + m) set still (sP σ))) (sP σ) rfl (fun p hp => ?_) ?_ (by omega)).trans rfl
  · have ht := teN_le hg (sA σ + m) p
    have e1 : (if (if set.testBit p = true then (1 : Int32) else 0) = 0 then (10 : Int64) else if (if still.testBit p = true then (1 : Int32) else 0) = 0 then (nI (teN σ (sA σ + m) p)).toInt64 else (10 - nI (teN σ (sA σ + m) p)).toInt64) = lN (if set.testBit p then (if still.testBit p then 10 - teN σ (sA σ + m) p else teN σ (sA σ + m) p) else 10) := by
      cases set.testBit p with
      | false => rfl
      | true =>
        cases still.testBit p with
        | false => exact nI_l (by omega)
        | true =>
          show (10 - nI (teN σ (sA σ + m) p)).toInt64 = lN (10 - teN σ (sA σ + m) p)
          rw [show (10 : Int32) = nI 10 from rfl, n_sub (by omega), nI_l (by omega)]
    show fX10_stays_b5 _ _ _ _ _ = _
    unfold fX10_stays_b5
    rw [hM.P, if_neg (by show ¬ nI (sP σ) ≤ nI p; rw [n_le (by omega) (by omega)]; omega), m_out hg hM hm hp, bd_e, hasm (by omega) (by omega), hasm (by omega) (by omega), e1, lt_e, lN_mul, lt_e, nI_1, lt_e]
    rfl
  · show fX10_stays_b5 _ _ _ _ _ = _
    unfold fX10_stays_b5
    rw [hM.P, if_pos (by show nI (sP σ) ≤ nI (sP σ); rw [n_le (by omega) (by omega)]; exact Nat.le_refl _)]
theorem m_goesCh (hg : good σ) (h4 : sP σ ≤ 4) {m : Nat} (hM : MoIs w (cst σ m)) (hm : sA σ + m < sD σ) {W : Nat → Nat} (hWz : ∀ t, 2 ^ sP σ ≤ t → W t = 0) (h63 : ∀ t, t < 16 → w.2 63 t = lN (W t)) : ∃ w1, fX10_goesChances w = some w1 ∧ MoIs w1 (cst σ (m + 1)) ∧ ∀ t, t < 16 → w1.2 63 t = lN (smN (fun set => smN (tmN σ (sA σ + m) W t set) 16) 16) := by
  have hp16 := p16 h4
  have hgc := good_cst hg (m := m) (by omega)
  unfold fX10_goesChances
  refine itnb (fun k (s : Int32 × Wd) => s.1 = nI k ∧ s.2.1 = w.1 ∧ s.2.2 63 = w.2 63 ∧ ∀ t, t < k → s.2.2 64 t = 0) (fun (v : Wd) => v.1 = w.1 ∧ v.2 63 = w.2 63 ∧ ∀ t, t < 16 → v.2 64 t = 0) 16 ⟨rfl, rfl, rfl, fun t ht => absurd ht (Nat.not_lt_zero _)⟩ ?_ ?_ (by decide) ?_
  · rintro k ⟨x, v⟩ hk ⟨e1, e2, e3, e4⟩
    dsimp only at e1 e2 e3 e4
    subst e1
    refine ⟨(nI (k + 1), upJ v 64 k 0), ?_, rfl, e2, (upJ_o _ _ _ _ (by decide)).trans e3, fun t ht => ?_⟩
    · show fX10_goesChances_b2 _ _ = _
      unfold fX10_goesChances_b2
      rw [if_neg (by rw [show (16 : Int32) = nI 16 from rfl, n_le (by decide) (by omega)]; omega), gdn (by omega) (by decide), n_cl (by omega), lt_e, nI_1, lt_e]
    · dsimp only
      by_cases d : t = k
      · subst d; rw [upJ_s]
      · rw [upJ_k _ _ _ _ d]; exact e4 t (by omega)
  · rintro ⟨x, v⟩ ⟨e1, e2, e3, e4⟩
    dsimp only at e1 e2 e3 e4
    subst e1
    refine ⟨v, ?_, e2, e3, e4⟩
    show fX10_goesChances_b2 _ _ = _
    unfold fX10_goesChances_b2
    rw [if_pos (show (16 : Int32) ≤ nI 16 by decide)]
  · rintro v ⟨f1, f2, f3⟩
    have hv : MoIs v (cst σ m) := by unfold MoIs at hM ⊢; rw [f1]; exact hM
    refine itnb (fun k (s : Int32 × Wd) => s.1 = nI k ∧ MoIs s.2 (cst σ m) ∧ s.2.2 63 = w.2 63 ∧ ∀ t, t < 16 → s.2.2 64 t = lN (smN (fun j => tmN σ (sA σ + m) W t (j / 16) (j % 16)) k)) (fun (y : Wd) => MoIs y (cst σ m) ∧ ∀ t, t < 16 → y.2 64 t = lN (smN (fun j => tmN σ (sA σ + m) W t (j / 16) (j % 16)) 256)) 256 ⟨rfl, hv, f2, fun t ht => f3 t ht⟩ ?_ ?_ (by decide) ?_
    · rintro k ⟨x, y⟩ hk ⟨e1, e2, e3, e4⟩
      dsimp only at e1 e2 e3 e4
      subst e1
      have s16 : k / 16 < 16 := by omega
      have r16 : k % 16 < 16 := Nat.mod_lt _ (by decide)
      have d1 : nI k / 16 = nI (k / 16) := n_div (by omega) (by decide) (by decide)
      have d2 : jrem (nI k) 16 = nI (k % 16) := n_rem (by omega) (by decide) (by decide)
      have hl : ¬ (256 : Int32) ≤ nI k := by rw [show (256 : Int32) = nI 256 from rfl, n_le (by decide) (by omega)]; omega
      have w63 : y.2 63 (k / 16) = lN (W (k / 16)) := by rw [e3]; exact h63 _ s16
      have es : ∀ t, smN (fun j => tmN σ (sA σ + m) W t (j / 16) (j % 16)) (k + 1) = smN (fun j => tmN σ (sA σ + m) W t (j / 16) (j % 16)) k + tmN σ (sA σ + m) W t (k / 16) (k % 16) := fun t => rfl
      have et : ∀ t, tmN σ (sA σ + m) W t (k / 16) (k % 16) = if nd (k % 16) (k / 16) = 0 ∧ spr σ (k % 16) = t then W (k / 16) * prN σ (sA σ + m) (k / 16) (k % 16) (sP σ) else 0 := fun t => rfl
      have hndl : nd (k % 16) (k / 16) < 2 ^ 31 := by
        have : nd (k % 16) (k / 16) < 2 ^ 4 := nd_lt r16
        omega
      by_cases z : lN (W (k / 16)) = 0
      · refine ⟨(nI (k + 1), y), ?_, rfl, e2, e3, fun t ht => ?_⟩
        · show fX10_goesChances_b23 _ _ = _
          unfold fX10_goesChances_b23
          rw [if_neg hl, d1, lt_e, d2, lt_e, gdn (by omega) (by decide), n_cl (by omega), w63, if_pos (by rw [lc0]; exact z), nI_1, lt_e]
        · dsimp only
          rw [e4 t ht, es, et]
          by_cases c : nd (k % 16) (k / 16) = 0 ∧ spr σ (k % 16) = t
          · rw [if_pos c, ← lN_add, ← lN_mul, z, Int64.zero_mul, Int64.add_zero]
          · rw [if_neg c, Nat.add_zero]
      · by_cases c : nd (k % 16) (k / 16) = 0
        · have hset : k / 16 < 2 ^ sP σ := by
            rcases Nat.lt_or_ge (k / 16) (2 ^ sP σ) with h | h
            · exact h
            · exact absurd (by rw [hWz _ h]; rfl) z
          have hst : k % 16 < 2 ^ sP σ := sub_lt c hset
          obtain ⟨y1, b1, b2, b3⟩ := m_sprQ e2 hgc (lit := k % 16) hst
          rw [show spr (cst σ m) (k % 16) = spr σ (k % 16) from spr_aw σ _ _ _ _] at b1
          have fr := rX10_spread b1
          have k64 : y1.2 64 = y.2 64 := (fr.cell 64 (by decide)).2
          have k63 : y1.2 63 = y.2 63 := (fr.cell 63 (by decide)).2
          have hsp := spr_lt hg hst
          refine ⟨(nI (k + 1), upJ y1 64 (spr σ (k % 16)) (lN (smN (fun j => tmN σ (sA σ + m) W (spr σ (k % 16)) (j / 16) (j % 16)) (k + 1)))), ?_, rfl, b2, (upJ_o _ _ _ _ (by decide)).trans (k63.trans e3), fun t ht => ?_⟩
          · show fX10_goesChances_b23 _ _ = _
            unfold fX10_goesChances_b23
            rw [if_neg hl, d1, lt_e, d2, lt_e, gdn (by omega) (by decide), n_cl (by omega), w63, if_neg (by rw [lc0]; exact z), n_nd, if_pos (by rw [c]; rfl), b1, bd_e, un2_e, gdn (by omega) (by decide), m_stays hg b2 hm s16 r16, bd_e, n_cl (by omega), k64, k63, e4 _ (by omega), w63, lN_mul, lN_add, es, et, if_pos ⟨c, rfl⟩, lt_e, nI_1, lt_e]
          · dsimp only
            by_cases d : t = spr σ (k % 16)
            · subst d; rw [upJ_s]
            · rw [upJ_k _ _ _ _ d, k64, e4 t ht, es, et, if_neg (fun h => d h.2.symm), Nat.add_zero]
        · refine ⟨(nI (k + 1), y), ?_, rfl, e2, e3, fun t ht => ?_⟩
          · show fX10_goesChances_b23 _ _ = _
            unfold fX10_goesChances_b23
            rw [if_neg hl, d1, lt_e, d2, lt_e, gdn (by omega) (by decide), n_cl (by omega), w63, if_neg (by rw [lc0]; exact z), n_nd, if_neg (by rw [c0, n_eq hndl (by decide)]; exact c), nI_1, lt_e]
          · dsimp only
            rw [e4 t ht, es, et, if_neg (fun h => c h.1), Nat.add_zero]
    · rintro ⟨x, y⟩ ⟨e1, e2, e3, e4⟩
      dsimp only at e1 e2 e3 e4
      subst e1
      refine ⟨y, ?_, e2, e4⟩
      show fX10_goesChances_b23 _ _ = _
      unfold fX10_goesChances_b23
      rw [if_pos (show (256 : Int32) ≤ nI 256 by decide)]
    · rintro y ⟨e2, e4⟩
      refine itnb (fun k (s : Int32 × Wd) => s.1 = nI k ∧ s.2.1 = y.1 ∧ s.2.2 64 = y.2 64 ∧ ∀ t, t < k → s.2.2 63 t = y.2 64 t) (fun (v : Wd) => v.1 = y.1 ∧ ∀ t, t < 16 → v.2 63 t = y.2 64 t) 16 ⟨rfl, rfl, rfl, fun t ht => absurd ht (Nat.not_lt_zero _)⟩ ?_ ?_ (by decide) ?_
      · rintro k ⟨x, v⟩ hk ⟨e1, g2, g3, g4⟩
        dsimp only at e1 g2 g3 g4
        subst e1
        refine ⟨(nI (k + 1), upJ v 63 k (y.2 64 k)), ?_, rfl, g2, (upJ_o _ _ _ _ (by decide)).trans g3, fun t ht => ?_⟩
        · show fX10_goesChances_b96 _ _ = _
          unfold fX10_goesChances_b96
          rw [if_neg (by rw [show (16 : Int32) = nI 16 from rfl, n_le (by decide) (by omega)]; omega), gdn (by omega) (by decide), n_cl (by omega), g3, lt_e, nI_1, lt_e]
        · dsimp only
          by_cases d : t = k
          · subst d; rw [upJ_s]
          · rw [upJ_k _ _ _ _ d]; exact g4 t (by omega)
      · rintro ⟨x, v⟩ ⟨e1, g2, g3, g4⟩
        dsimp only at e1 g2 g3 g4
        subst e1
        refine ⟨v, ?_, g2, g4⟩
        show fX10_goesChances_b96 _ _ = _
        unfold fX10_goesChances_b96
        rw [if_pos (show (16 : Int32) ≤ nI 16 by decide)]
      · rintro z ⟨g2, g4⟩
        have hz : MoIs z (cst σ m) := by unfold MoIs at e2 ⊢; rw [g2]; exact e2
        refine ⟨upI z 42 8 (nI (sA σ + (m + 1))), ?_, ?_, fun t ht => ?_⟩
        · rw [hz.A]
          show lt_ (upI z 42 8 (nI (sA σ + m) + 1)) _ = _
          rw [nI_1]
          rfl
        · obtain ⟨t1, t2, t3⟩ := hz
          exact ⟨t1, ⟨t2.1, t2.2.1, upI_s _ _ _ _, t2.2.2.2⟩, t3⟩
        · show z.2 63 t = _
          rw [g4 t ht, e4 t ht]
          congr 1
          have := smN_blk (tmN σ (sA σ + m) W t) 16 0 (by decide)
          exact this
end

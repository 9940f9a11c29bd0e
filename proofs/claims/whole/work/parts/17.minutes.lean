/-! the reference: lighting again, a minute -/
theorem gdn {α : Type} {a n : Nat} {m : Option α} (h : a < n) (hn : n < 2 ^ 31) : gd_ (ib (nI a) n) m = m := gd_t (n_ib h hn)
def aw (σ : St) (a L M : Nat) : St := (fun k => if k = 1 then L else if k = 5 then a else if k = 6 then M else σ.1 k, σ.2)
section
variable {w w1 : Wd} {σ : St}
theorem m_spread (hM : MoIs w σ) (hg : good σ) {lit : Nat} (hl : lit < 2 ^ sP σ) : ∃ w1, fX10_spread w (nI lit) = some (nI (spr σ lit), w1) ∧ MoIs w1 σ ∧ (∀ q, w1.1 54 q = if (fresh σ lit).testBit q then nI (by_ σ lit q) else w.1 54 q) ∧ (∀ q, w1.1 55 q = if (fresh σ lit).testBit q then w.1 55 (by_ σ lit q) else w.1 55 q) ∧ w1.1 42 23 = w.1 42 23 + nI (pop (fresh σ lit)) := by
  have h8 := hg.P
  have hE := hg.E
  have hl8 := lt256 hl h8
  have main : ∃ x, iter (fun s : Int32 × Int32 × Wd => fX10_spread_b4 (nI lit) s.1 s.2.1 s.2.2) FU (nI lit, 0, w) = some x ∧ x.1 = nI (spr σ lit) ∧ (∀ q, x.2.1 54 q = if (fresh σ lit).testBit q then nI (by_ σ lit q) else w.1 54 q) ∧ (∀ q, x.2.1 55 q = if (fresh σ lit).testBit q then w.1 55 (by_ σ lit q) else w.1 55 q) ∧ x.2.1 42 23 = w.1 42 23 + nI (pop (fresh σ lit)) := by
    refine itn (fun n s => s.1 = nI (lit ||| spS σ lit n) ∧ s.2.1 = nI n ∧ (∀ q, s.2.2.1 54 q = if (spS σ lit n).testBit q then nI (spB σ lit n q) else w.1 54 q) ∧ (∀ q, s.2.2.1 55 q = if (spS σ lit n).testBit q then w.1 55 (spB σ lit n q) else w.1 55 q) ∧ s.2.2.1 42 23 = w.1 42 23 + nI (pop (spS σ lit n)) ∧ (∀ k, k ≠ 23 → s.2.2.1 42 k = w.1 42 k) ∧ s.2.2.1 45 = w.1 45 ∧ s.2.2.1 44 = w.1 44) _ (sP σ) ⟨by simp [spS], rfl, fun q => by simp [spS], fun q => by simp [spS], by simp [spS, show pop 0 = 0 from rfl, nI_0], fun _ _ => rfl, rfl, rfl⟩ ?_ ?_ (by omega)
    · rintro n ⟨x, y, v⟩ hn ⟨e1, e2, e3, e4, e5, e6, e7, e8⟩
      dsimp only at e1 e2 e3 e4 e5 e6 e7 e8
      subst e1; subst e2
      have hP : v.1 42 6 = nI (sP σ) := (e6 6 (by decide)).trans hM.P
      have hK : ∀ k, k < 8 → v.1 45 k = nI (sK σ k) := fun k hk => by rw [e7]; exact hM.K hk
      have ht : lit ||| spS σ lit n < 2 ^ sP σ := Nat.or_lt_two_pow hl (spS_lt σ hg lit n)
      obtain ⟨x, a1, a2, a3, a4, a5, a6, a7, a8⟩ := m_inner hg hP hK (p := n) (e := if lit.testBit n then sE σ else 0) (t := lit ||| spS σ lit n) (by split <;> omega) hn ht (fun h => by
        rw [Nat.testBit_or]
        by_cases c : lit.testBit n = true
        · rw [c]; rfl
        · rw [if_neg c] at h; exact absurd rfl h)
      have hpk : (spS σ lit (n + 1)) = spS σ lit n ||| pk (if lit.testBit n then sE σ else 0) (nd (near (sF σ) (sP σ) n &&& grown σ) (lit ||| spS σ lit n)) := by
        show _ ||| _ = _
        congr 1
        by_cases c : lit.testBit n = true
        · rw [if_pos c, if_pos c]
        · rw [if_neg c, if_neg c]; rfl
      have hB : ∀ q, spB σ lit (n + 1) q = if (pk (if lit.testBit n then sE σ else 0) (nd (near (sF σ) (sP σ) n &&& grown σ) (lit ||| spS σ lit n))).testBit q then n else spB σ lit n q := fun q => by
        show (if (lit.testBit n && _) = true then n else spB σ lit n q) = _
        by_cases c : lit.testBit n = true
        · rw [if_pos c, c, Bool.true_and]
        · rw [if_neg c, (by simpa using c : lit.testBit n = false)]; simp [pk]
      have hdis : ∀ q, (pk (if lit.testBit n then sE σ else 0) (nd (near (sF σ) (sP σ) n &&& grown σ) (lit ||| spS σ lit n))).testBit q = true → (spS σ lit n).testBit q = false := fun q h => by
        have h2 := pk_bit _ _ _ h (by split <;> omega) (lt256 (nd_lt (Nat.and_lt_two_pow _ grown_lt)) h8)
        rw [nd_bit, Nat.testBit_or] at h2
        simp only [Bool.and_eq_true, Bool.not_eq_true', Bool.or_eq_false_iff] at h2
        exact h2.2.2
      have hnn : lit.testBit n = true → (spS σ lit n).testBit n = false := fun h => by
        cases hb : (spS σ lit n).testBit n with
        | false => rfl
        | true => have := (spS_bit σ hg lit n n hb).2; rw [h] at this; cases this
      refine ⟨(nI (lit ||| spS σ lit (n + 1)), nI (n + 1), x.2), ?_, rfl, rfl, fun q => ?_, fun q => ?_, ?_, fun k hk => (a6 k hk).trans (e6 k hk), a7.trans e7, a8.trans e8⟩
      · show fX10_spread_b4 _ _ _ _ = _
        unfold fX10_spread_b4
        have hv : (if (if lit.testBit n = true then (1 : Int32) else 0) = 0 then (0 : Int32) else v.1 44 1) = nI (if lit.testBit n then sE σ else 0) := by
          by_cases c : lit.testBit n = true
          · rw [if_pos c, if_neg (by decide), if_pos c, e8]; exact hM.E
          · rw [if_neg c, if_pos rfl, if_neg c]; rfl
        rw [hP, if_neg (by rw [n_le (by omega) (by omega)]; omega), hasm (by omega) (by omega), hv, lt_e, bes_w, e8, hM.F, hP, bes_t _ hg.F _ (by omega) _ hn, lt_e, a1, bd_e]
        obtain ⟨x1, x2⟩ := x
        dsimp only at a2
        rw [un2_e, lt_e, nI_1, a2, hpk, Nat.or_assoc]
      · dsimp only
        rw [a3 q, e3 q, hpk, Nat.testBit_or, hB]
        by_cases d : (pk (if lit.testBit n then sE σ else 0) (nd (near (sF σ) (sP σ) n &&& grown σ) (lit ||| spS σ lit n))).testBit q = true
        · rw [if_pos d, if_pos d, d, Bool.or_true, if_pos rfl]
        · rw [if_neg d, if_neg d, (by simpa using d : (pk _ _).testBit q = false), Bool.or_false]
      · dsimp only
        rw [a4 q, e4 n, e4 q, hpk, Nat.testBit_or, hB]
        by_cases d : (pk (if lit.testBit n then sE σ else 0) (nd (near (sF σ) (sP σ) n &&& grown σ) (lit ||| spS σ lit n))).testBit q = true
        · rw [if_pos d, if_pos d, d, Bool.or_true, if_pos rfl]
          by_cases c : lit.testBit n = true
          · rw [hnn c]; rfl
          · rw [if_neg c] at d; simp [pk] at d
        · rw [if_neg d, if_neg d, (by simpa using d : (pk _ _).testBit q = false), Bool.or_false]
      · dsimp only
        rw [a5, e5, hpk, pop_or (fun q h => by rw [hdis q h.2] at h; exact absurd h.1 (by decide)), ← n_add, Int32.add_assoc]
    · rintro ⟨x, y, v⟩ ⟨e1, e2, e3, e4, e5, e6, e7, e8⟩
      dsimp only at e1 e2 e3 e4 e5 e6 e7 e8
      subst e1; subst e2
      refine ⟨(nI (spr σ lit), v), ?_, rfl, e3, e4, e5⟩
      show fX10_spread_b4 _ _ _ _ = _
      unfold fX10_spread_b4
      rw [e6 6 (by decide), hM.P, if_pos (by rw [n_le (by omega) (by omega)]; omega)]
      rfl
  obtain ⟨⟨x, v⟩, h1, h2, h3, h4, h5⟩ := main
  have e : fX10_spread w (nI lit) = some (nI (spr σ lit), v) := by
    unfold fX10_spread
    rw [h1, bd_e, un2_e]
    dsimp only at h2
    rw [h2]
  exact ⟨v, e, hM.keep (rX10_spread e) (by decide), h3, h4, h5⟩
/-- a minute -/
theorem m_goes (hM : MoIs w σ) (hg : good σ) (ha : sA σ < 25) (x : Int32) : ∃ w1, fX10_goes w x = some w1 ∧ MoIs w1 (aw σ (sA σ + if x = 0 then 1 else 0) (mnt σ (sA σ) (sL σ)) (sM σ + 1)) ∧ (∀ q, w1.1 54 q = if (fresh σ (nd (sL σ) (uns σ (sA σ)))).testBit q then nI (by_ σ (nd (sL σ) (uns σ (sA σ))) q) else w.1 54 q) ∧ (∀ q, w1.1 55 q = if (fresh σ (nd (sL σ) (uns σ (sA σ)))).testBit q then w.1 55 (by_ σ (nd (sL σ) (uns σ (sA σ))) q) else w.1 55 q) ∧ w1.1 42 23 = w.1 42 23 + nI (pop (fresh σ (nd (sL σ) (uns σ (sA σ))))) := by
  obtain ⟨w1, a1, a2, a3, a4, a5⟩ := m_spread hM hg (nd_lt (b := uns σ (sA σ)) hg.L)
  unfold fX10_goes
  rw [m_holding hM hg ha, bd_e, a1, bd_e, un2_e, lt_e, lt_e, lt_e, lt_e]
  refine ⟨_, rfl, ?_, a3, a4, a5⟩
  have e8 : (upI (upI w1 42 7 (nI (spr σ (nd (sL σ) (uns σ (sA σ)))))) 42 9 ((upI w1 42 7 (nI (spr σ (nd (sL σ) (uns σ (sA σ)))))).1 42 9 + 1)).1 42 8 = nI (sA σ) := a2.A
  refine ⟨a2.1, ⟨a2.P, rfl, ?_, ?_⟩, a2.2.2.1, a2.2.2.2.1, a2.2.2.2.2.1, a2.2.2.2.2.2⟩
  · rw [e8, upI_s]
    show _ = nI (sA σ + _)
    rw [← n_add]
    by_cases h : x = 0
    · rw [if_pos h, if_pos h]; rfl
    · rw [if_neg h, if_neg h]; rfl
  · show (upI w1 42 7 (nI (spr σ (nd (sL σ) (uns σ (sA σ)))))).1 42 9 + 1 = nI (sM σ + 1)
    rw [← nI_1]
    exact congrArg (· + 1) a2.M
end

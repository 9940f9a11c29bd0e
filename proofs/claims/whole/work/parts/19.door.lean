/-! the reference: minutes, the door -/
section
variable {w w1 : Wd} {σ : St}
theorem good_aw (hg : good σ) {a L M : Nat} (hL : L < 2 ^ sP σ) (hs : ∀ p, L.testBit p = true → sK σ p ≠ 6) (ha : a ≤ sD σ) (hm : M ≤ 2000) : good (aw σ a L M) := by
  obtain ⟨h1, h2, h3, h4, h5, h6, h7, h8, h9, h10, h11, h12⟩ := hg
  exact ⟨h1, hL, hs, h4, h5, h6, ha, hm, h9, h10, h11, h12⟩
theorem spr_sm (hg : good σ) {lit : Nat} (h : ∀ p, lit.testBit p = true → sK σ p ≠ 6) : ∀ p, (spr σ lit).testBit p = true → sK σ p ≠ 6 := fun p hp => by
  unfold spr at hp
  rw [Nat.testBit_or, Bool.or_eq_true] at hp
  rcases hp with hp | hp
  · exact h p hp
  · have := (spS_bit σ hg lit _ p hp).1
    rw [grown_bit] at this
    simp at this
    exact this.2
theorem nd_sm {a b : Nat} {P : Nat → Prop} (h : ∀ p, a.testBit p = true → P p) : ∀ p, (nd a b).testBit p = true → P p := fun p hp => h p (by rw [nd_bit, Bool.and_eq_true] at hp; exact hp.1)
theorem mntU_sm (hg : good σ) (u : Nat → Nat) (a : Nat) {lit : Nat} (h : ∀ p, lit.testBit p = true → sK σ p ≠ 6) : ∀ p, (mntU σ u a lit).testBit p = true → sK σ p ≠ 6 := spr_sm hg (nd_sm h)
theorem runU_sm (hg : good σ) (u : Nat → Nat) (a : Nat) {lit : Nat} (h : ∀ p, lit.testBit p = true → sK σ p ≠ 6) : ∀ n p, (runU σ u a lit n).testBit p = true → sK σ p ≠ 6
  | 0 => h
  | n + 1 => mntU_sm hg u _ (runU_sm hg u a h n)
theorem spS_aw (σ : St) (a L M lit : Nat) : ∀ p, spS (aw σ a L M) lit p = spS σ lit p
  | 0 => rfl
  | p + 1 => by
    show spS (aw σ a L M) lit p ||| (if lit.testBit p then pk (sE σ) (nd (near (sF σ) (sP σ) p &&& grown σ) (lit ||| spS (aw σ a L M) lit p)) else 0) = _
    rw [spS_aw σ a L M lit p]
    rfl
theorem spB_aw (σ : St) (a L M lit : Nat) : ∀ p q, spB (aw σ a L M) lit p q = spB σ lit p q
  | 0, _ => rfl
  | p + 1, q => by
    show (if lit.testBit p && (pk (sE σ) (nd (near (sF σ) (sP σ) p &&& grown σ) (lit ||| spS (aw σ a L M) lit p))).testBit q then p else spB (aw σ a L M) lit p q) = _
    rw [spS_aw σ a L M lit p, spB_aw σ a L M lit p q]
    rfl
theorem fresh_aw (σ : St) (a L M lit : Nat) : fresh (aw σ a L M) lit = fresh σ lit := spS_aw σ a L M lit (sP σ)
theorem by_aw (σ : St) (a L M lit q : Nat) : by_ (aw σ a L M) lit q = by_ σ lit q := spB_aw σ a L M lit (sP σ) q
theorem spr_aw (σ : St) (a L M lit : Nat) : spr (aw σ a L M) lit = spr σ lit := by
  unfold spr
  rw [fresh_aw]
theorem mnt_aw (σ : St) (a L M a2 lit : Nat) : mnt (aw σ a L M) a2 lit = mnt σ a2 lit := by
  show spr (aw σ a L M) (nd lit (uns σ a2)) = _
  rw [spr_aw]
  rfl
/-- after n minutes of going -/
def wst (σ : St) (n : Nat) : St := aw σ (sA σ + n) (run σ (sA σ) (sL σ) n) (sM σ + n)
theorem good_wst (hg : good σ) (hm : sM σ ≤ 1200) {n : Nat} (hn : sA σ + n ≤ sD σ) : good (wst σ n) := good_aw hg (runU_lt hg hg.L n) (runU_sm hg _ _ hg.sm n) hn (by have := hg.D; omega)
theorem m_goesN (hg : good σ) (hm : sM σ ≤ 1200) {n : Nat} (hn : sA σ + n < sD σ) (hM : MoIs w (wst σ n)) : ∃ w1, fX10_goes w 0 = some w1 ∧ MoIs w1 (wst σ (n + 1)) ∧ (∀ q, w1.1 54 q = if (fresh σ (nd (run σ (sA σ) (sL σ) n) (uns σ (sA σ + n)))).testBit q then nI (by_ σ (nd (run σ (sA σ) (sL σ) n) (uns σ (sA σ + n))) q) else w.1 54 q) ∧ (∀ q, w1.1 55 q = if (fresh σ (nd (run σ (sA σ) (sL σ) n) (uns σ (sA σ + n)))).testBit q then w.1 55 (by_ σ (nd (run σ (sA σ) (sL σ) n) (uns σ (sA σ + n))) q) else w.1 55 q) ∧ w1.1 42 23 = w.1 42 23 + nI (pop (fresh σ (nd (run σ (sA σ) (sL σ) n) (uns σ (sA σ + n))))) := by
  have hD := hg.D
  obtain ⟨w1, a1, a2, a3, a4, a5⟩ := m_goes hM (good_wst hg hm (by omega)) (show sA σ + n < 25 by omega) 0
  have e : nd (sL (wst σ n)) (uns (wst σ n) (sA (wst σ n))) = nd (run σ (sA σ) (sL σ) n) (uns σ (sA σ + n)) := rfl
  have e2 : fresh (wst σ n) = fresh σ := funext fun l => fresh_aw σ _ _ _ l
  have e3 : by_ (wst σ n) = by_ σ := funext fun l => funext fun q => by_aw σ _ _ _ l q
  rw [e, e2, e3] at a3 a4
  rw [e, e2] at a5
  refine ⟨w1, a1, ?_, a3, a4, a5⟩
  have e4 : aw (wst σ n) (sA (wst σ n) + if (0 : Int32) = 0 then 1 else 0) (mnt (wst σ n) (sA (wst σ n)) (sL (wst σ n))) (sM (wst σ n) + 1) = wst σ (n + 1) := by
    rw [if_pos rfl]
    unfold wst
    rw [mnt_aw]
    show ((fun k => if k = 1 then _ else if k = 5 then _ else if k = 6 then _ else (aw σ _ _ _).1 k, σ.2) : St) = _
    unfold aw
    congr 1
    funext k
    dsimp only
    by_cases h1 : k = 1
    · subst h1; rfl
    · by_cases h5 : k = 5
      · subst h5; rfl
      · by_cases h6 : k = 6
        · subst h6; rfl
        · simp only [if_neg h1, if_neg h5, if_neg h6]
  rw [e4] at a2
  exact a2
theorem m_goesToDoor (hM : MoIs w σ) (hg : good σ) (hm : sM σ ≤ 1200) : ∃ w1, fX10_goesToDoor w = some w1 ∧ MoIs w1 (wst σ (sD σ - sA σ)) := by
  have hD := hg.D
  have hA := hg.A
  unfold fX10_goesToDoor
  refine itnb (fun n s => MoIs s (wst σ n)) (fun x => MoIs x (wst σ (sD σ - sA σ))) (sD σ - sA σ) hM ?_ ?_ (by omega) (fun x hx => ⟨x, rfl, hx⟩)
  · intro n v hn h
    obtain ⟨w1, a1, a2, -⟩ := m_goesN hg hm (by omega) h
    refine ⟨w1, ?_, a2⟩
    show fX10_goesToDoor_b0 v = _
    unfold fX10_goesToDoor_b0 fX10_doorAt
    rw [h.D, h.A, if_neg (by rw [show sD (wst σ n) = sD σ from rfl, show sA (wst σ n) = sA σ + n from rfl, n_le (by omega) (by omega)]; omega), a1, bd_e]
  · intro v h
    refine ⟨v, ?_, h⟩
    show fX10_goesToDoor_b0 v = _
    unfold fX10_goesToDoor_b0 fX10_doorAt
    rw [h.D, h.A, if_pos (by rw [show sD (wst σ (sD σ - sA σ)) = sD σ from rfl, show sA (wst σ (sD σ - sA σ)) = sA σ + (sD σ - sA σ) from rfl, n_le (by omega) (by omega)]; omega)]
/-- the kept regions below n stay -/
def KK (n : Nat) (w w1 : Wd) : Prop := ∀ q, q < 80 * n → w1.1 53 q = w.1 53 q
theorem KK.refl (n : Nat) (w : Wd) : KK n w w := fun _ _ => rfl
theorem KK.tr {n : Nat} {a b c : Wd} (h : KK n a b) (h2 : KK n b c) : KK n a c := fun q hq => (h2 q hq).trans (h q hq)
theorem KK.le {n m : Nat} {a b : Wd} (h : KK n a b) (hm : m ≤ n) : KK m a b := fun q hq => h q (by omega)
theorem KK.of {l : List (Nat × Option Nat)} (n : Nat) {a b : Wd} (h : Agree (pU l) a b) (hc : (l.all fun q => q.1 != 53) = true) : KK n a b := fun q _ => congrFun (h.cell 53 hc).1 q
theorem Kept.kk {k n : Nat} {τ : St} (h : Kept w k τ) (hk : KK n w w1) (hn : k < n) : Kept w1 k τ := h.keep fun q h1 h2 => hk q (by omega)
theorem m_atDoor (hM : MoIs w σ) (hg : good σ) (hm : sM σ ≤ 1200) : ∃ w1, fX10_atDoor w = some (nI (door σ (sL σ)), w1) ∧ MoIs w1 σ ∧ KK 2 w w1 := by
  unfold fX10_atDoor
  obtain ⟨v1, a1, a2, a3, a4, -⟩ := m_save hM (show 2 < 3 by decide)
  rw [show (2 : Int32) = nI 2 from rfl, a1, bd_e]
  obtain ⟨v2, b1, b2⟩ := m_goesToDoor a2 hg hm
  have b3 : v2.1 53 = v1.1 53 := ((rX10_goesToDoor b1).cell 53 (by decide)).1
  rw [b1, bd_e, lt_e]
  obtain ⟨v3, c1, c2, c3, -⟩ := m_rest (a3.keep (fun q _ _ => congrFun b3 q)) (show 2 < 3 by decide)
  rw [c1, bd_e, b2.L]
  refine ⟨v3, rfl, c2, fun q hq => ?_⟩
  rw [c3 53 (by decide), b3, a4 q (by omega)]
theorem m_goesAhead (hM : MoIs w σ) (hg : good σ) (hm : sM σ ≤ 1200) {m : Nat} (hm2 : m ≤ 1000) : ∃ w1, fX10_goesAhead w (nI m) = some w1 ∧ MoIs w1 (wst σ (min m (sD σ - sA σ))) := by
  have hD := hg.D
  have hA := hg.A
  unfold fX10_goesAhead
  refine itbb (fun n s => s.1 = nI n ∧ MoIs s.2 (wst σ n)) (fun x => MoIs x (wst σ (min m (sD σ - sA σ)))) (min m (sD σ - sA σ)) ⟨rfl, hM⟩ ?_ ?_ (by omega) (fun x hx => ⟨x, rfl, hx⟩)
  · rintro n ⟨x, v⟩ hn ⟨e, h⟩
    dsimp only at e h
    subst e
    obtain ⟨w1, a1, a2, -⟩ := m_goesN hg hm (by omega) h
    refine Or.inl ⟨(nI (n + 1), w1), ?_, rfl, a2⟩
    show fX10_goesAhead_b2 _ _ v = _
    unfold fX10_goesAhead_b2 fX10_doorAt
    rw [h.D, h.A, if_neg (by rw [n_le (by omega) (by omega)]; omega), if_neg (by rw [show sD (wst σ n) = sD σ from rfl, show sA (wst σ n) = sA σ + n from rfl, n_le (by omega) (by omega)]; omega), a1, bd_e, lt_e, nI_1]
  · rintro ⟨x, v⟩ ⟨e, h⟩
    dsimp only at e h
    subst e
    refine ⟨v, ?_, h⟩
    show fX10_goesAhead_b2 _ _ v = _
    unfold fX10_goesAhead_b2 fX10_doorAt
    by_cases c : m ≤ sD σ - sA σ
    · rw [if_pos (by rw [n_le (by omega) (by omega)]; omega)]
    · rw [if_neg (by rw [n_le (by omega) (by omega)]; omega), h.D, h.A, if_pos (by rw [show sD (wst σ (min m (sD σ - sA σ))) = sD σ from rfl, show sA (wst σ (min m (sD σ - sA σ))) = sA σ + min m (sD σ - sA σ) from rfl, n_le (by omega) (by omega)]; omega)]
theorem m_lightOf (hM : MoIs w σ) (hg : good σ) {s : Nat} (hs : s < 2 ^ 31) : fX10_lightOf w (nI s) = some (nI (light σ s)) := by
  have h8 := hg.P
  unfold fX10_lightOf
  refine (itb (fun i => (nI (lig σ s i), nI i)) (nI (light σ s)) (sP σ) rfl (fun i hi => ?_) ?_ (by omega)).trans rfl
  · show fX10_lightOf_b4 _ _ _ _ = _
    unfold fX10_lightOf_b4
    rw [hM.P, if_neg (by rw [n_le (by omega) (by omega)]; omega), hasm hs (by omega)]
    have hv : (if (if s.testBit i = true then (1 : Int32) else 0) = 0 then some (0 : Int32) else gd_ (ib (nI i) 8) (some (fX10_givesOf (w.1 45 (nI i).toNatClampNeg)))) = some (nI (if s.testBit i then give (sK σ i) else 0)) := by
      by_cases c : s.testBit i = true
      · rw [if_pos c, if_neg (by decide), if_pos c, gdn (by omega) (by decide), n_cl (by omega), hM.K (by omega), give_m _ (hg.K i)]
      · rw [if_neg c, if_pos rfl, if_neg c]; rfl
    rw [hv, bd_e, lt_e, lt_e, n_add, nI_1]
    rfl
  · show fX10_lightOf_b4 _ _ _ _ = _
    unfold fX10_lightOf_b4
    rw [hM.P, if_pos (by rw [n_le (by omega) (by omega)]; omega)]
    rfl
end

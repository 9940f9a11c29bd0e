/-! person, light, kind, blows, set -/
def wr (σ : St) (k v : Nat) : St := (fun j => if j = k then v else σ.1 j, σ.2)
def wrK (σ : St) (p v : Nat) : St := (σ.1, fun j => if j = p then v else σ.2.1 j, σ.2.2)
def wrG (σ : St) (p v : Nat) : St := (σ.1, σ.2.1, fun j => if j = p then v else σ.2.2.1 j, σ.2.2.2)
def wrW (σ : St) (p v : Nat) : St := (σ.1, σ.2.1, σ.2.2.1, fun j => if j = p then v else σ.2.2.2.1 j, σ.2.2.2.2)
def wrS (σ : St) (p v : Nat) : St := (σ.1, σ.2.1, σ.2.2.1, σ.2.2.2.1, fun j => if j = p then v else σ.2.2.2.2 j)
section
variable {w w1 : Wd} {σ : St} {b : Nat}
theorem up_nI (w : Wd) (i p v : Nat) (f : Nat → Nat) (n : Nat) (h : ∀ k, k < n → w.1 i k = nI (f k)) : ∀ k, k < n → (upI w i p (nI v)).1 i k = nI (if k = p then v else f k) := fun k hk => by
  by_cases c : k = p
  · subst c; rw [upI_s, if_pos rfl]
  · rw [upI_k _ _ _ _ c, if_neg c]; exact h k hk
theorem CoIs.wr (h : CoIs w b σ) (hb : isCo b) (k v : Nat) : CoIs (upI w b k (nI v)) b (wr σ k v) := by
  have hb1 : b = 1 ∨ b = 2 ∨ b = 3 := hb
  refine ⟨up_nI w b k v σ.1 7 h.1, fun j hj => ?_, fun j hj => ?_, fun j hj => ?_, fun j hj => ?_⟩
  · rw [upI_o _ _ _ _ (by omega)]; exact h.K hj
  · rw [upI_o _ _ _ _ (by omega)]; exact h.G hj
  · rw [upI_o _ _ _ _ (by omega)]; exact h.W hj
  · rw [upI_o _ _ _ _ (by omega)]; exact h.S hj
theorem CoIs.wrK (h : CoIs w b σ) (hb : isCo b) (k v : Nat) : CoIs (upI w (9 + 4 * b) k (nI v)) b (wrK σ k v) := by
  have hb1 : b = 1 ∨ b = 2 ∨ b = 3 := hb
  refine ⟨fun j hj => ?_, up_nI w _ k v (sK σ) 8 h.2.1, fun j hj => ?_, fun j hj => ?_, fun j hj => ?_⟩
  · rw [upI_o _ _ _ _ (by omega)]; exact h.1 j hj
  · rw [upI_o _ _ _ _ (by omega)]; exact h.G hj
  · rw [upI_o _ _ _ _ (by omega)]; exact h.W hj
  · rw [upI_o _ _ _ _ (by omega)]; exact h.S hj
theorem CoIs.wrG (h : CoIs w b σ) (hb : isCo b) (k v : Nat) : CoIs (upI w (10 + 4 * b) k (nI v)) b (wrG σ k v) := by
  have hb1 : b = 1 ∨ b = 2 ∨ b = 3 := hb
  refine ⟨fun j hj => ?_, fun j hj => ?_, up_nI w _ k v (sG σ) 8 h.2.2.1, fun j hj => ?_, fun j hj => ?_⟩
  · rw [upI_o _ _ _ _ (by omega)]; exact h.1 j hj
  · rw [upI_o _ _ _ _ (by omega)]; exact h.K hj
  · rw [upI_o _ _ _ _ (by omega)]; exact h.W hj
  · rw [upI_o _ _ _ _ (by omega)]; exact h.S hj
theorem CoIs.wrW (h : CoIs w b σ) (hb : isCo b) (k v : Nat) : CoIs (upI w (11 + 4 * b) k (nI v)) b (wrW σ k v) := by
  have hb1 : b = 1 ∨ b = 2 ∨ b = 3 := hb
  refine ⟨fun j hj => ?_, fun j hj => ?_, fun j hj => ?_, up_nI w _ k v (sW σ) 25 h.2.2.2.1, fun j hj => ?_⟩
  · rw [upI_o _ _ _ _ (by omega)]; exact h.1 j hj
  · rw [upI_o _ _ _ _ (by omega)]; exact h.K hj
  · rw [upI_o _ _ _ _ (by omega)]; exact h.G hj
  · rw [upI_o _ _ _ _ (by omega)]; exact h.S hj
theorem CoIs.wrS (h : CoIs w b σ) (hb : isCo b) (k v : Nat) : CoIs (upI w (12 + 4 * b) k (nI v)) b (wrS σ k v) := by
  have hb1 : b = 1 ∨ b = 2 ∨ b = 3 := hb
  refine ⟨fun j hj => ?_, fun j hj => ?_, fun j hj => ?_, fun j hj => ?_, up_nI w _ k v (sS σ) 25 h.2.2.2.2⟩
  · rw [upI_o _ _ _ _ (by omega)]; exact h.1 j hj
  · rw [upI_o _ _ _ _ (by omega)]; exact h.K hj
  · rw [upI_o _ _ _ _ (by omega)]; exact h.G hj
  · rw [upI_o _ _ _ _ (by omega)]; exact h.W hj
theorem MoIs.wL (h : MoIs w σ) (v : Nat) : MoIs (upI w 42 7 (nI v)) (wr σ 1 v) := ⟨h.1, ⟨h.P, rfl, h.A, h.M⟩, h.2.2⟩
theorem MoIs.wA (h : MoIs w σ) (v : Nat) : MoIs (upI w 42 8 (nI v)) (wr σ 5 v) := ⟨h.1, ⟨h.P, h.L, rfl, h.M⟩, h.2.2⟩
theorem MoIs.wM (h : MoIs w σ) (v : Nat) : MoIs (upI w 42 9 (nI v)) (wr σ 6 v) := ⟨h.1, ⟨h.P, h.L, h.A, rfl⟩, h.2.2⟩
theorem MoIs.wP (h : MoIs w σ) (v : Nat) : MoIs (upI w 42 6 (nI v)) (wr σ 0 v) := ⟨h.1, ⟨rfl, h.L, h.A, h.M⟩, h.2.2⟩
theorem MoIs.wF (h : MoIs w σ) (v : Nat) : MoIs (upI w 44 0 (nI v)) (wr σ 2 v) := ⟨⟨rfl, h.E, h.D⟩, h.2⟩
theorem MoIs.wE (h : MoIs w σ) (v : Nat) : MoIs (upI w 44 1 (nI v)) (wr σ 3 v) := ⟨⟨h.F, rfl, h.D⟩, h.2⟩
theorem MoIs.wD (h : MoIs w σ) (v : Nat) : MoIs (upI w 44 2 (nI v)) (wr σ 4 v) := ⟨⟨h.F, h.E, rfl⟩, h.2⟩
theorem MoIs.wK (h : MoIs w σ) (k v : Nat) : MoIs (upI w 45 k (nI v)) (wrK σ k v) := ⟨h.1, h.2.1, up_nI w 45 k v (sK σ) 8 h.2.2.1, h.2.2.2⟩
theorem MoIs.wG (h : MoIs w σ) (k v : Nat) : MoIs (upI w 46 k (nI v)) (wrG σ k v) := ⟨h.1, h.2.1, h.2.2.1, up_nI w 46 k v (sG σ) 8 h.2.2.2.1, h.2.2.2.2⟩
theorem MoIs.wW (h : MoIs w σ) (k v : Nat) : MoIs (upI w 47 k (nI v)) (wrW σ k v) := ⟨h.1, h.2.1, h.2.2.1, h.2.2.2.1, up_nI w 47 k v (sW σ) 25 h.2.2.2.2.1, h.2.2.2.2.2⟩
theorem MoIs.wS (h : MoIs w σ) (k v : Nat) : MoIs (upI w 48 k (nI v)) (wrS σ k v) := ⟨h.1, h.2.1, h.2.2.1, h.2.2.2.1, h.2.2.2.2.1, up_nI w 48 k v (sS σ) 25 h.2.2.2.2.2⟩
theorem Past0 {σ : St} (h1 : w.1 5 0 = 0) (h2 : w.1 42 27 = 0) : PastR w σ := ⟨0, by decide, h1, h2, fun k hk => absurd hk (Nat.not_lt_zero _)⟩
theorem bz_b (b : Bool) : bz (if b = true then (1 : Int32) else 0) = true := by cases b <;> rfl
theorem c_isLit (hb : isCo b) (hC : CoIs w b σ) (hg : good σ) {p : Nat} (hp : p < sP σ) : fX2_isLit b w (nI p) = some (if (sL σ).testBit p = true then 1 else 0) := by
  have h8 := hg.P
  have hL := lt256 hg.L h8
  unfold fX2_isLit
  rw [hC.L, hasc (by omega) (by omega), gd_t (bz_b _)]
theorem q_person (h : R w σ) (x y : Int32) : Ans (fX9_person w x y) (fun v => fX10_person v x y) := by
  have h8 := h.g.P
  have hL := lt256 h.g.L h8
  rcases who h x with ⟨a, b⟩ | ⟨a, b, p, hp, rfl⟩
  · exact Ans.nof h 1 (by decide) (by decide) (by unfold fX9_person; simp only [a, if_pos, rf1, rf2, rf3, rf4, rf6, bd_e, un2_e] <;> rfl) (fun v e => by unfold fX10_person; simp only [b v e, if_pos, e _ (show (42 : Nat) ≠ 12 by decide), no1, no2, no3, no4, no6, bd_e, un2_e] <;> rfl)
  · rcases arg y 7 with hy | hy | ⟨k, hk, rfl⟩
    · have n0 : y ≠ 0 := fun e => by subst e; exact absurd hy (by decide)
      have n1 : y ≠ 1 := fun e => by subst e; exact absurd hy (by decide)
      have n2 : y ≠ 2 := fun e => by subst e; exact absurd hy (by decide)
      have n3 : y ≠ 3 := fun e => by subst e; exact absurd hy (by decide)
      have n4 : y ≠ 4 := fun e => by subst e; exact absurd hy (by decide)
      have n5 : y ≠ 5 := fun e => by subst e; exact absurd hy (by decide)
      have n6 : y ≠ 6 := fun e => by subst e; exact absurd hy (by decide)
      exact Ans.nof h 2 (by decide) (by decide) (by unfold fX9_person fX9_isOutside; simp only [a, if_pos hy, if_neg (show ¬ (1 : Int32) = 0 by decide), rf1, rf2, rf3, rf4, rf6, bd_e, un2_e] <;> rfl) (fun v e => by unfold fX10_person; simp only [b v (by rw [e 42 (by decide)]), if_neg n0, if_neg n1, if_neg n2, if_neg n3, if_neg n4, if_neg n5, if_neg n6, if_neg (show ¬ (1 : Int32) = 0 by decide), e _ (show (42 : Nat) ≠ 12 by decide), no1, no2, no3, no4, no6, bd_e, un2_e] <;> rfl)
    · have b1 : ¬ y < 0 := ge0 hy (by decide)
      have b2 : ¬ y ≤ 6 := hi_le (m := 6) hy (by decide)
      have n0 : y ≠ 0 := hi_ne (k := 0) hy (by decide) (by decide)
      have n1 : y ≠ 1 := hi_ne (k := 1) hy (by decide) (by decide)
      have n2 : y ≠ 2 := hi_ne (k := 2) hy (by decide) (by decide)
      have n3 : y ≠ 3 := hi_ne (k := 3) hy (by decide) (by decide)
      have n4 : y ≠ 4 := hi_ne (k := 4) hy (by decide) (by decide)
      have n5 : y ≠ 5 := hi_ne (k := 5) hy (by decide) (by decide)
      have n6 : y ≠ 6 := hi_ne (k := 6) hy (by decide) (by decide)
      exact Ans.nof h 2 (by decide) (by decide) (by unfold fX9_person fX9_isOutside; simp only [a, if_neg b1, if_neg b2, if_neg (show ¬ (1 : Int32) = 0 by decide), rf1, rf2, rf3, rf4, rf6, bd_e, un2_e] <;> rfl) (fun v e => by unfold fX10_person; simp only [b v (by rw [e 42 (by decide)]), if_neg n0, if_neg n1, if_neg n2, if_neg n3, if_neg n4, if_neg n5, if_neg n6, if_neg (show ¬ (1 : Int32) = 0 by decide), e _ (show (42 : Nat) ≠ 12 by decide), no1, no2, no3, no4, no6, bd_e, un2_e] <;> rfl)
    · have b1 : ¬ nI k < 0 := nI_pos (by omega)
      have b2 : nI k ≤ 6 := by rw [c6, n_le (by omega) (by decide)]; omega
      have hA := h.g.A
      have hD := h.g.D
      have key : ∀ r, fX2_tellOf 1 w (nI p) (nI k) = some r → (if nI k = 0 then gd_ (ib (nI p) 8) (some (w.1 45 (nI p).toNatClampNeg, w)) else if nI k = 1 then gd_ (ib (nI p) 8) (some (w.1 46 (nI p).toNatClampNeg, w)) else if nI k = 2 then some (((w.1 42 7) >>> (nI p &&& 31)) &&& 1, w) else if nI k = 3 then gd_ (ib (nI p) 8) (some (fX10_coverOf (w.1 45 (nI p).toNatClampNeg), w)) else if nI k = 4 then gd_ (ib (nI p) 8) (some (fX10_holdsOf (w.1 45 (nI p).toNatClampNeg) (w.1 46 (nI p).toNatClampNeg), w)) else if nI k = 5 then gd_ (ib (nI p) 8) (some (fX10_givesOf (w.1 45 (nI p).toNatClampNeg), w)) else if nI k = 6 then (fX10_feltBy w (nI p) (w.1 42 8)).bind fun (r17 : Int32) => some (r17, w) else (fX10_no w (-2)).bind fun q20 => un2 q20 fun (r19 : Int32) (w18 : Wd) => some (r19, w18)) = some (r, w) → Ans (fX9_person w (nI p) (nI k)) (fun v => fX10_person v (nI p) (nI k)) := fun r h1 h2 => by
        refine Ans.eq (r := r) h ?_ ?_
        · unfold fX9_person fX9_isOutside
          rw [a, if_neg (by decide), if_neg b1, if_pos b2, if_pos rfl, h1, bd_e]
        · show fX10_person _ _ _ = _
          unfold fX10_person
          rw [b w rfl, if_neg (by decide)]
          exact h2
      have hp8 : p < 8 := by omega
      have hK := h.c.K hp8
      have hG := h.c.G hp8
      have g1 := gdn (n := 8) (α := Int32) (m := some (nI (sK σ p))) hp8 (by decide)
      have hk7 := h.g.K p
      rcases (by omega : k = 0 ∨ k = 1 ∨ k = 2 ∨ k = 3 ∨ k = 4 ∨ k = 5 ∨ k = 6) with rfl | rfl | rfl | rfl | rfl | rfl | rfl
      · refine key (nI (sK σ p)) ?_ ?_
        · unfold fX2_tellOf
          rw [if_pos (by decide), gdn hp8 (by decide), n_cl (by omega), hK]
        · rw [if_pos (by decide), gdn hp8 (by decide), n_cl (by omega), h.o.K hp8]
      · refine key (nI (sG σ p)) ?_ ?_
        · unfold fX2_tellOf
          rw [if_neg (by decide), if_pos (by decide), gdn hp8 (by decide), n_cl (by omega), hG]
        · rw [if_neg (by decide), if_pos (by decide), gdn hp8 (by decide), n_cl (by omega), h.o.G hp8]
      · refine key (nI (if (sL σ).testBit p then 1 else 0)) ?_ ?_
        · unfold fX2_tellOf
          rw [if_neg (by decide), if_neg (by decide), if_pos (by decide), c_isLit co1 h.c h.g hp, bd_e]
          cases (sL σ).testBit p <;> rfl
        · rw [if_neg (by decide), if_neg (by decide), if_pos (by decide), h.o.L, n_tb (by omega) (by omega)]
      · refine key (nI (cover (sK σ p))) ?_ ?_
        · unfold fX2_tellOf
          rw [if_neg (by decide), if_neg (by decide), if_neg (by decide), if_pos (by decide), gdn hp8 (by decide), n_cl (by omega), hK, gdn hk7 (by decide), n_cl (by omega), cover_c _ hk7]
        · rw [if_neg (by decide), if_neg (by decide), if_neg (by decide), if_pos (by decide), gdn hp8 (by decide), n_cl (by omega), h.o.K hp8, cover_m _ hk7]
      · refine key (nI (hold σ p)) ?_ ?_
        · unfold fX2_tellOf
          rw [if_neg (by decide), if_neg (by decide), if_neg (by decide), if_neg (by decide), if_pos (by decide), c_hold h.c h.g hp8, bd_e]
        · rw [if_neg (by decide), if_neg (by decide), if_neg (by decide), if_neg (by decide), if_pos (by decide), gdn hp8 (by decide), n_cl (by omega), h.o.K hp8, h.o.G hp8, hold_m _ hk7 _ (h.g.G p)]
          rfl
      · refine key (nI (give (sK σ p))) ?_ ?_
        · unfold fX2_tellOf
          rw [if_neg (by decide), if_neg (by decide), if_neg (by decide), if_neg (by decide), if_neg (by decide), if_pos (by decide), gdn hp8 (by decide), n_cl (by omega), hK, gdn hk7 (by decide), n_cl (by omega), give_c _ hk7]
        · rw [if_neg (by decide), if_neg (by decide), if_neg (by decide), if_neg (by decide), if_neg (by decide), if_pos (by decide), gdn hp8 (by decide), n_cl (by omega), h.o.K hp8, give_m _ hk7]
      · refine key (nI (felt σ p (sA σ))) ?_ ?_
        · unfold fX2_tellOf
          rw [if_neg (by decide), if_neg (by decide), if_neg (by decide), if_neg (by decide), if_neg (by decide), if_neg (by decide), h.c.Pl, c_felt h.c h.g hp (by omega), bd_e]
        · rw [if_neg (by decide), if_neg (by decide), if_neg (by decide), if_neg (by decide), if_neg (by decide), if_neg (by decide), if_pos (by decide), h.o.A, m_felt h.o h.g hp (by omega), bd_e]
theorem nd_or {l p : Nat} : nd l (2 ^ p) ||| 2 ^ p = l ||| 2 ^ p := bits_ext fun q => by
  rw [Nat.testBit_or, Nat.testBit_or, nd_bit]
  cases l.testBit q <;> cases (2 ^ p).testBit q <;> rfl
theorem wr_self {w : Wd} {b f v : Nat} : (upI w b f (nI v)).1 b f = nI v := upI_s _ _ _ _
/-- lit or not lit: p is set so -/
def setLit (l p k : Nat) : Nat := if k = 0 then nd l (2 ^ p) else l ||| 2 ^ p
theorem putLit_t {w : Wd} {b L p : Nat} (hL : w.1 b 1 = nI L) (hp : p < 31) {k : Nat} (hk : k < 2) : fX2_putLit b w (nI p) (nI k) = upI w b 1 (nI (setLit L p k)) := by
  unfold fX2_putLit fX2_putLit_j26 setLit
  rw [hL, sh_p p hp, n_nd, n_or]
  rcases (by omega : k = 0 ∨ k = 1) with rfl | rfl
  · rw [if_pos (by decide), if_pos rfl]; rfl
  · rw [if_neg (by decide), if_neg (by decide)]; rfl
theorem good.lit (hg : good σ) {v : Nat} (h1 : v < 2 ^ sP σ) (h2 : NoSm σ v) : good (wr σ 1 v) := by
  obtain ⟨a1, a2, a3, a4, a5, a6, a7, a8, a9, a10, a11, a12⟩ := hg
  exact ⟨a1, h1, h2, a4, a5, a6, a7, a8, a9, a10, a11, a12⟩
theorem setLit_lt {P l p k : Nat} (h : l < 2 ^ P) (hp : p < P) : setLit l p k < 2 ^ P := by
  unfold setLit
  split
  · exact nd_lt h
  · exact Nat.or_lt_two_pow h (Nat.pow_lt_pow_right (by decide) hp)
theorem setLit_sm {l p k : Nat} (h : NoSm σ l) (hp : k ≠ 0 → sK σ p ≠ 6) : NoSm σ (setLit l p k) := by
  intro q hq
  unfold setLit at hq
  split at hq
  · exact nd_sm h q hq
  · rename_i c
    rw [Nat.testBit_or, Bool.or_eq_true, Nat.testBit_two_pow, decide_eq_true_eq] at hq
    rcases hq with hq | hq
    · exact h q hq
    · subst hq; exact hp c
theorem q_light (h : R w σ) (x y : Int32) : Ans (fX9_light w x y) (fun v => fX10_light v x y) := by
  have h8 := h.g.P
  have hL := lt256 h.g.L h8
  rcases who h x with ⟨a, b⟩ | ⟨a, b, p, hp, rfl⟩
  · exact Ans.nof h 1 (by decide) (by decide) (by unfold fX9_light; simp only [a, if_pos, rf1, rf2, rf3, rf4, rf6, bd_e, un2_e] <;> rfl) (fun v e => by unfold fX10_light; simp only [b v e, if_pos, bd_e, if_neg (show ¬ (-1 : Int32) = 0 by decide), e _ (show (42 : Nat) ≠ 12 by decide), no1, no2, no3, no4, no6, bd_e, un2_e] <;> rfl)
  · rcases arg y 2 with hy | hy | ⟨k, hk, rfl⟩
    · exact Ans.nof h 2 (by decide) (by decide) (by unfold fX9_light fX9_isOutside; simp only [a, if_pos hy, if_neg (show ¬ (1 : Int32) = 0 by decide), rf1, rf2, rf3, rf4, rf6, bd_e, un2_e] <;> rfl) (fun v e => by unfold fX10_light fX10_isIn; simp only [b v (by rw [e 42 (by decide)]), if_pos hy, if_pos, if_neg (show ¬ (1 : Int32) = 0 by decide), bd_e, if_neg (show ¬ (-2 : Int32) = 0 by decide), e _ (show (42 : Nat) ≠ 12 by decide), no1, no2, no3, no4, no6, bd_e, un2_e] <;> rfl)
    · have b1 : ¬ y < 0 := ge0 hy (by decide)
      have b2 : ¬ y ≤ 1 := hi_le (m := 1) hy (by decide)
      have b3 : (1 : Int32) < y := hi_lt (m := 1) hy (by decide)
      exact Ans.nof h 2 (by decide) (by decide) (by unfold fX9_light fX9_isOutside; simp only [a, if_neg b1, if_neg b2, if_neg (show ¬ (1 : Int32) = 0 by decide), rf1, rf2, rf3, rf4, rf6, bd_e, un2_e] <;> rfl) (fun v e => by unfold fX10_light fX10_isIn; simp only [b v (by rw [e 42 (by decide)]), if_neg b1, if_pos b3, if_pos, if_neg (show ¬ (1 : Int32) = 0 by decide), bd_e, if_neg (show ¬ (-2 : Int32) = 0 by decide), e _ (show (42 : Nat) ≠ 12 by decide), no1, no2, no3, no4, no6, bd_e, un2_e] <;> rfl)
    · have b1 : ¬ nI k < 0 := nI_pos (by omega)
      have b2 : nI k ≤ 1 := by rw [c1, n_le (by omega) (by decide)]; omega
      have b3 : ¬ (1 : Int32) < nI k := Int32.not_lt.mpr b2
      have hp8 : p < 8 := by omega
      have hk6 := h.g.K p
      have hK : ∀ v : Wd, (∀ i, i ≠ 12 → v.1 i = w.1 i) → v.1 45 p = nI (sK σ p) := fun v e => by rw [e 45 (by decide)]; exact h.o.K hp8
      by_cases c : k = 1 ∧ sK σ p = 6
      · obtain ⟨c1', c2'⟩ := c
        subst c1'
        have b4 : nI (sK σ p) = 6 := by rw [c2']; rfl
        have hsm := c_isSmall h.c h.g hp8
        rw [if_pos c2'] at hsm
        exact Ans.nof h 3 (by decide) (by decide) (by unfold fX9_light fX9_isOutside; simp only [a, if_neg b1, if_pos b2, if_pos (show nI 1 = (1 : Int32) from rfl), hsm, if_pos, if_neg (show ¬ (1 : Int32) = 0 by decide), rf1, rf2, rf3, rf4, rf6, bd_e, un2_e] <;> rfl) (fun v e => by unfold fX10_light fX10_isIn; simp only [b v (by rw [e 42 (by decide)]), if_neg b1, if_neg b3, if_neg (show ¬ (1 : Int32) = 0 by decide), gdn hp8 (show 8 < 2 ^ 31 by decide), n_cl (show p < 2 ^ 31 by omega), hK v e, if_pos b4, if_pos (show nI 1 = (1 : Int32) from rfl), bd_e, if_neg (show ¬ (-3 : Int32) = 0 by decide), e _ (show (42 : Nat) ≠ 12 by decide), no1, no2, no3, no4, no6, bd_e, un2_e] <;> rfl)
      · have hks : k ≠ 0 → sK σ p ≠ 6 := fun h1 h2 => c ⟨by omega, h2⟩
        have e9 : fX9_light w (nI p) (nI k) = some (nI (if (sL σ).testBit p then 1 else 0), upI (upI w 1 1 (nI (setLit (sL σ) p k))) 5 0 0) := by
          have j : fX9_light_j55 (nI p) (nI k) w = some (nI (if (sL σ).testBit p then 1 else 0), upI (upI w 1 1 (nI (setLit (sL σ) p k))) 5 0 0) := by
            unfold fX9_light_j55 fX5_forget
            have ek : (if nI k = 1 then (1 : Int32) else 0) = nI k := by
              rcases (by omega : k = 0 ∨ k = 1) with rfl | rfl <;> decide
            rw [c_isLit co1 h.c h.g hp, bd_e, ek, lt_e, lt_e, putLit_t h.c.L (by omega) hk, lt_e, lt_e, lt_e]
            cases (sL σ).testBit p <;> rfl
          unfold fX9_light fX9_isOutside
          rw [a, if_neg (by decide), if_neg b1, if_pos b2, if_pos rfl]
          by_cases d : nI k = 1
          · have d2 : k = 1 := by rw [c1, n_eq (by omega) (by decide)] at d; exact d
            rw [if_pos d, c_isSmall h.c h.g hp8, if_neg (hks (by omega)), bd_e, if_pos rfl, j]
          · rw [if_neg d, j]
        have e10 : fX10_light (upI (upI w 1 1 (nI (setLit (sL σ) p k))) 5 0 0) (nI p) (nI k) = some (nI (if (sL σ).testBit p then 1 else 0), upI (upI (upI (upI w 1 1 (nI (setLit (sL σ) p k))) 5 0 0) 42 7 (nI (setLit (sL σ) p k))) 42 27 0) := by
          have q7 : (upI (upI w 1 1 (nI (setLit (sL σ) p k))) 5 0 0).1 42 7 = nI (sL σ) := h.o.L
          have q45 : (upI (upI w 1 1 (nI (setLit (sL σ) p k))) 5 0 0).1 45 p = nI (sK σ p) := h.o.K hp8
          unfold fX10_light fX10_isIn
          rw [b (upI (upI w 1 1 (nI (setLit (sL σ) p k))) 5 0 0) rfl, if_neg (by decide), if_neg b1, if_neg b3, if_neg (by decide), gdn hp8 (by decide), n_cl (by omega), q45]
          have hv : (if nI (sK σ p) = 6 then if nI k = 1 then some (-3 : Int32) else some (0 : Int32) else some (0 : Int32)) = some 0 := by
            by_cases d : nI (sK σ p) = 6
            · rw [if_pos d]
              have d2 : sK σ p = 6 := by rw [c6, n_eq (by omega) (by decide)] at d; exact d
              have : k = 0 := by omega
              subst this
              rfl
            · rw [if_neg d]
          rw [hv, bd_e, if_pos rfl, q7, n_tb (by omega) (by omega), lt_e]
          have hv2 : (nI (sL σ) &&& (((1 : Int32) <<< (nI p &&& 31)) ^^^ (-1))) ||| (nI k <<< (nI p &&& 31)) = nI (setLit (sL σ) p k) := by
            rw [sh_p p (by omega), n_nd]
            unfold setLit
            rcases (by omega : k = 0 ∨ k = 1) with rfl | rfl
            · rw [if_pos rfl, show nI 0 <<< (nI p &&& 31) = nI 0 from (by decide +kernel : ∀ p, p < 8 → nI 0 <<< (nI p &&& 31) = nI 0) p hp8, n_or, Nat.or_zero]
            · rw [if_neg (by decide), show nI 1 <<< (nI p &&& 31) = nI (2 ^ p) from sh_p p (by omega), n_or, nd_or]
          rw [hv2]; rfl
        exact ⟨_, _, _, wr σ 1 (setLit (sL σ) p k), e9, e10, h.g.lit (setLit_lt h.g.L hp) (setLit_sm h.g.sm hks), h.m, h.c.wr co1 1 _, h.o.wL _, h.le, h.ro, Past0 rfl rfl, h.pi, h.re⟩
end

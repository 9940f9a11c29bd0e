/-! the class's Walk: lighting again, a minute, the minutes to the door -/
theorem pk_z : ∀ e, pk e 0 = 0
  | 0 => rfl
  | e + 1 => by unfold pk; rw [if_pos rfl]
theorem pk_bit (e m q : Nat) (h : (pk e m).testBit q = true) : e < 3 → m < 256 → m.testBit q = true := fun he hm => by
  have := pick_sub e he m hm
  rw [← this, Nat.testBit_and, Bool.and_eq_true] at h
  exact h.2
theorem spS_bit (σ : St) (hg : good σ) (lit : Nat) : ∀ p q, (spS σ lit p).testBit q = true → (grown σ).testBit q = true ∧ lit.testBit q = false
  | 0, q, h => by simp [spS] at h
  | p + 1, q, h => by
    unfold spS at h
    rw [Nat.testBit_or, Bool.or_eq_true] at h
    rcases h with h | h
    · exact spS_bit σ hg lit p q h
    · by_cases c : lit.testBit p = true
      · rw [if_pos c] at h
        have hE := hg.E
        have hP := hg.P
        have hlt : nd (near (sF σ) (sP σ) p &&& grown σ) (lit ||| spS σ lit p) < 2 ^ sP σ := nd_lt (Nat.and_lt_two_pow _ grown_lt)
        have h2 := pk_bit _ _ _ h (by omega) (lt256 hlt hP)
        rw [nd_bit, Nat.testBit_and, Nat.testBit_or] at h2
        simp only [Bool.and_eq_true, Bool.not_eq_true', Bool.or_eq_false_iff] at h2
        exact ⟨h2.1.2, h2.2.1⟩
      · rw [if_neg c] at h
        simp at h
theorem spS_lt (σ : St) (hg : good σ) (lit p : Nat) : spS σ lit p < 2 ^ sP σ := lt_of_bits fun q hq => bit_lt grown_lt (spS_bit σ hg lit p q hq).1
theorem fresh_lt {σ : St} (hg : good σ) (lit : Nat) : fresh σ lit < 2 ^ sP σ := spS_lt σ hg lit _
theorem spr_lt {σ : St} (hg : good σ) {lit : Nat} (h : lit < 2 ^ sP σ) : spr σ lit < 2 ^ sP σ := Nat.or_lt_two_pow h (fresh_lt hg lit)
theorem mntU_lt {σ : St} (hg : good σ) {u : Nat → Nat} {a lit : Nat} (h : lit < 2 ^ sP σ) : mntU σ u a lit < 2 ^ sP σ := spr_lt hg (nd_lt h)
theorem runU_lt {σ : St} (hg : good σ) {u : Nat → Nat} {a lit : Nat} (h : lit < 2 ^ sP σ) : ∀ n, runU σ u a lit n < 2 ^ sP σ
  | 0 => h
  | n + 1 => mntU_lt hg (runU_lt hg h n)
theorem spS_0 (σ : St) : ∀ p, spS σ 0 p = 0
  | 0 => rfl
  | p + 1 => by unfold spS; rw [spS_0 σ p]; simp
theorem mntU_0 (σ : St) (u : Nat → Nat) (a : Nat) : mntU σ u a 0 = 0 := by
  unfold mntU spr fresh
  have : nd 0 (u a) = 0 := by unfold nd; simp
  rw [this, spS_0]; rfl
theorem runU_0 (σ : St) (u : Nat → Nat) (a : Nat) : ∀ n, runU σ u a 0 n = 0
  | 0 => rfl
  | n + 1 => by unfold runU; rw [runU_0 σ u a n]; exact mntU_0 σ u _
theorem runU_add (σ : St) (u : Nat → Nat) (a lit n : Nat) : ∀ k, runU σ u a lit (n + k) = runU σ u (a + n) (runU σ u a lit n) k
  | 0 => rfl
  | k + 1 => by
    show mntU σ u (a + (n + k)) (runU σ u a lit (n + k)) = mntU σ u (a + n + k) _
    rw [runU_add σ u a lit n k, Nat.add_assoc]
theorem two_pow_le {i : Nat} (h : i < 8) : 2 ^ i ≤ 128 := Nat.pow_le_pow_right (n := 2) (by decide) (show i ≤ 7 by omega)
theorem c_inner {p E : Nat} (hE : E ≤ 2) (hp : p < 8) : ∀ (e m F i : Nat) (w : Wd) (fu : Nat), m < 256 → i + e = E → e < fu → w.1 4 2 = nI E → w.1 4 6 = nI F → ∃ w1, iter (fun s : Int32 × Int32 × Wd => fX8_relight_b51 (nI p) s.1 s.2.1 s.2.2) fu (nI m, nI i, w) = some w1 ∧ w1.1 4 6 = nI (F ||| pk e m) ∧ (∀ k, k ≠ 6 → w1.1 4 k = w.1 4 k) ∧ (∀ q, w1.1 25 q = if (pk e m).testBit q then nI p else w.1 25 q) ∧ ∀ c, c ≠ 4 → c ≠ 25 → w1.1 c = w.1 c
  | _, _, _, _, _, 0, _, _, hf, _, _ => absurd hf (Nat.not_lt_zero _)
  | 0, m, F, i, w, fu + 1, hm, hi, hf, h2, h6 => by
    refine ⟨w, ?_, by rw [h6]; simp [pk], fun _ _ => rfl, fun q => by simp [pk], fun _ _ _ => rfl⟩
    unfold iter
    dsimp only
    unfold fX8_relight_b51
    rw [h2, if_pos (by rw [n_le (by omega) (by omega)]; omega)]
  | e + 1, m, F, i, w, fu + 1, hm, hi, hf, h2, h6 => by
    unfold iter
    dsimp only
    unfold fX8_relight_b51
    rw [h2, if_neg (by rw [n_le (by omega) (by omega)]; omega), show (0 : Int32) = nI 0 from rfl]
    by_cases hz : m = 0
    · subst hz
      rw [if_pos rfl]
      refine ⟨w, rfl, by rw [h6, pk_z]; simp, fun _ _ => rfl, fun q => by rw [pk_z]; simp, fun _ _ _ => rfl⟩
    · have hpos : 0 < m := Nat.pos_of_ne_zero hz
      have hlo := lo_lt m hm
      have h128 := two_pow_le hlo
      rw [if_neg (by rw [n_eq (by omega) (by omega)]; exact hz), lo_neg m hm hpos, lt_e, lo_cnt _ hlo, gd_t (n_ib hlo (by decide)), n_cl (by omega), lt_e, lt_e, lt_e, lt_e, n_nd, nI_1]
      have e6 : (upI w 25 (lo m) (nI p)).1 4 6 = nI F := by rw [upI_o _ _ _ _ (by decide)]; exact h6
      rw [e6, n_or]
      have hn : nd m (2 ^ lo m) < 256 := lt256 (nd_lt (P := 8) hm) (by decide)
      obtain ⟨w1, a1, a2, a3, a4, a5⟩ := c_inner hE hp e (nd m (2 ^ lo m)) (F ||| 2 ^ lo m) (i + 1) (upI (upI w 25 (lo m) (nI p)) 4 6 (nI (F ||| 2 ^ lo m))) fu hn (by omega) (by omega) (by rw [upI_k _ _ _ _ (by decide), upI_o _ _ _ _ (by decide)]; exact h2) (upI_s _ _ _ _)
      refine ⟨w1, a1, ?_, fun k hk => ?_, fun q => ?_, fun c hc1 hc2 => ?_⟩
      · rw [a2, pk, if_neg hz, Nat.or_assoc]
      · rw [a3 k hk, upI_k _ _ _ _ hk, upI_o _ _ _ _ (by decide)]
      · rw [a4 q, pk, if_neg hz, Nat.testBit_or]
        by_cases c : (pk e (nd m (2 ^ lo m))).testBit q = true
        · rw [if_pos c, c, Bool.or_true, if_pos rfl]
        · rw [if_neg c, (by simpa using c : (pk e (nd m (2 ^ lo m))).testBit q = false), Bool.or_false, upI_o _ _ _ _ (by decide), Nat.testBit_two_pow]
          by_cases d : lo m = q
          · subst d
            rw [upI_s, if_pos (decide_eq_true rfl)]
          · rw [upI_k _ _ _ _ (fun h => d h.symm), if_neg (by simpa using d)]
      · rw [a5 c hc1 hc2, upI_o _ _ _ _ hc1, upI_o _ _ _ _ hc2]
section
variable {w : Wd} {σ : St} {u : Nat → Nat}
theorem c_relight (hW : WkU w σ u) (hg : good σ) {lit : Nat} (hl : lit < 2 ^ sP σ) : ∃ w1, fX8_relight w (nI lit) = some (nI (spr σ lit), w1) ∧ w1.1 4 6 = nI (fresh σ lit) ∧ ∀ q, w1.1 25 q = if (fresh σ lit).testBit q then nI (by_ σ lit q) else w.1 25 q := by
  obtain ⟨k0, k1, k2, k3, k4, k5, -⟩ := hW
  have h8 := hg.P
  have hE := hg.E
  have hl8 := lt256 hl h8
  unfold fX8_relight
  rw [lt_e]
  have main : ∃ w1, iter (fun s : Int32 × Wd => fX8_relight_b7 (nI lit) s.1 s.2) FU (0, upI w 4 6 0) = some w1 ∧ w1.1 4 6 = nI (fresh σ lit) ∧ ∀ q, w1.1 25 q = if (fresh σ lit).testBit q then nI (by_ σ lit q) else w.1 25 q := by
    refine itn (fun n s => s.1 = nI n ∧ s.2.1 4 6 = nI (spS σ lit n) ∧ (∀ k, k ≠ 6 → s.2.1 4 k = w.1 4 k) ∧ s.2.1 28 = w.1 28 ∧ ∀ q, s.2.1 25 q = if (spS σ lit n).testBit q then nI (spB σ lit n q) else w.1 25 q) _ (sP σ) ⟨rfl, upI_s _ _ _ _, fun k hk => upI_k _ _ _ _ hk, upI_o _ _ _ _ (by decide), fun q => by simp [spS]; exact congrFun (upI_o _ _ _ _ (by decide)) q⟩ ?_ ?_ (by omega)
    · rintro n ⟨x, v⟩ hn ⟨e1, e2, e3, e4, e5⟩
      dsimp only at e1 e2 e3 e4 e5
      subst e1
      have hs8 := lt256 (spS_lt σ hg lit n) h8
      have hm : ∀ m, m = (if lit.testBit n then nd (near (sF σ) (sP σ) n &&& grown σ) (lit ||| spS σ lit n) else 0) → m < 256 := fun m e => by
        rw [e]
        split
        · exact lt256 (nd_lt (Nat.and_lt_two_pow _ grown_lt)) h8
        · decide
      obtain ⟨w1, a1, a2, a3, a4, a5⟩ := c_inner hE.2 (show n < 8 by omega) (sE σ) _ (spS σ lit n) 0 v FU (hm _ rfl) (by omega) (by unfold FU; omega) (by rw [e3 2 (by decide), k2]) e2
      refine ⟨(nI (n + 1), w1), ?_, rfl, ?_, fun k hk => (a3 k hk).trans (e3 k hk), (a5 28 (by decide) (by decide)).trans e4, fun q => ?_⟩
      · show fX8_relight_b7 _ _ _ = _
        unfold fX8_relight_b7
        rw [e3 0 (by decide), k0, if_neg (by rw [n_le (by omega) (by omega)]; omega), hasc (by omega) (by omega)]
        have hopen : (if (if lit.testBit n = true then (1 : Int32) else 0) = 0 then some (0 : Int32) else gd_ (ib (nI n) 8) (some (v.1 28 (nI n).toNatClampNeg &&& v.1 4 1 &&& ((nI lit ||| v.1 4 6) ^^^ (-1))))) = some (nI (if lit.testBit n then nd (near (sF σ) (sP σ) n &&& grown σ) (lit ||| spS σ lit n) else 0)) := by
          by_cases c : lit.testBit n = true
          · rw [if_pos c, if_neg (by decide), gd_t (n_ib (by omega) (by decide)), n_cl (by omega), e4, k5 n hn, e3 1 (by decide), k1, e2, n_or, n_and, n_nd, if_pos c]
          · rw [if_neg c, if_pos rfl, if_neg c]; rfl
        rw [hopen, bd_e, show ((0 : Int32)) = nI 0 from rfl, a1, bd_e, lt_e, nI_1]
      · rw [a2]
        congr 1
        show _ = spS σ lit n ||| _
        congr 1
        by_cases c : lit.testBit n = true
        · rw [if_pos c, if_pos c]
        · rw [if_neg c, if_neg c, pk_z]
      · rw [a4 q, e5 q]
        show _ = if (spS σ lit n ||| _).testBit q = true then nI (if (lit.testBit n && _) = true then n else spB σ lit n q) else _
        by_cases c : lit.testBit n = true
        · rw [if_pos c, if_pos c, c, Bool.true_and, Nat.testBit_or]
          by_cases d : (pk (sE σ) (nd (near (sF σ) (sP σ) n &&& grown σ) (lit ||| spS σ lit n))).testBit q = true
          · rw [if_pos d, if_pos d, d, Bool.or_true, if_pos rfl]
          · rw [if_neg d, if_neg d, (by simpa using d : (pk (sE σ) (nd (near (sF σ) (sP σ) n &&& grown σ) (lit ||| spS σ lit n))).testBit q = false), Bool.or_false]
        · rw [if_neg c, if_neg c, (by simpa using c : lit.testBit n = false), pk_z]
          simp
    · rintro ⟨x, v⟩ ⟨e1, e2, e3, e4, e5⟩
      dsimp only at e1 e2 e3 e4 e5
      subst e1
      refine ⟨v, ?_, e2, e5⟩
      show fX8_relight_b7 _ _ _ = _
      unfold fX8_relight_b7
      rw [e3 0 (by decide), k0, if_pos (by rw [n_le (by omega) (by omega)]; omega)]
  obtain ⟨w1, a1, a2, a3⟩ := main
  rw [a1, bd_e, a2, n_or]
  exact ⟨w1, rfl, a2, a3⟩
theorem nd_and (a b : Nat) : nd a (a &&& b) = nd a b := bits_ext fun q => by
  rw [nd_bit, nd_bit, Nat.testBit_and]
  cases a.testBit q <;> cases b.testBit q <;> rfl
theorem c_minute (hW : WkU w σ u) (hg : good σ) {a lit : Nat} (hl : lit < 2 ^ sP σ) (h1 : sA σ ≤ a) (h2 : a < sD σ) : ∃ w1, fX8_minuteAt w (nI a) (nI lit) = some (nI (mntU σ u a lit), w1) ∧ w1.1 4 5 = nI (lit &&& u a) ∧ w1.1 4 6 = nI (fresh σ (nd lit (u a))) ∧ (∀ q, w1.1 25 q = if (fresh σ (nd lit (u a))).testBit q then nI (by_ σ (nd lit (u a)) q) else w.1 25 q) ∧ WkU w1 σ u := by
  have hD := hg.D
  have hW2 := hW
  obtain ⟨k0, k1, k2, k3, k4, k5, k6⟩ := hW
  have hX : WkU (upI w 4 5 (nI (lit &&& u a))) σ u := ⟨k0, k1, k2, k3, k4, k5, k6⟩
  obtain ⟨w1, a1, a2, a3⟩ := c_relight hX hg (nd_lt (b := u a) hl)
  have e : fX8_minuteAt w (nI a) (nI lit) = some (nI (mntU σ u a lit), w1) := by
    unfold fX8_minuteAt
    rw [gd_t (n_ib (by omega) (by decide)), n_cl (by omega), k6 a h1 h2, n_and, lt_e, upI_s, n_nd, nd_and, a1, bd_e, un2_e]
    rfl
  refine ⟨w1, e, ?_, a2, fun q => ?_, hW2.keep (rX8_minuteAt e) (by decide)⟩
  · exact ((rX8_relight a1) 4 5 (by decide)).1.trans (upI_s _ _ _ _)
  · rw [a3 q, upI_o _ _ _ _ (by decide)]
theorem c_walkOn (hW : WkU w σ u) (hg : good σ) {lit : Nat} (hl : lit < 2 ^ sP σ) : ∃ w1, fX8_walkOn w (nI lit) = some w1 ∧ (∀ m, m ≤ sD σ - sA σ → w1.1 26 m = nI (runU σ u (sA σ) lit m)) ∧ WkU w1 σ u := by
  have hD := hg.D
  unfold fX8_walkOn
  rw [lt_e]
  have hX : WkU (upI w 26 0 (nI lit)) σ u := hW
  refine itnb (fun n s => s.1 = nI n ∧ WkU s.2 σ u ∧ ∀ m, m ≤ n → s.2.1 26 m = nI (runU σ u (sA σ) lit m)) (fun x => WkU x σ u ∧ ∀ m, m ≤ sD σ - sA σ → x.1 26 m = nI (runU σ u (sA σ) lit m)) (sD σ - sA σ) ⟨rfl, hX, fun m hm => by rw [Nat.le_zero.mp hm]; exact upI_s _ _ _ _⟩ ?_ ?_ (by omega) (fun x hx => ⟨x, rfl, hx.2, hx.1⟩)
  · rintro n ⟨x, v⟩ hn ⟨e1, e2, e3⟩
    dsimp only at e1 e2 e3
    subst e1
    obtain ⟨w1, a1, a2, a3, a4, a5⟩ := c_minute e2 hg (runU_lt (u := u) (a := sA σ) hg hl n) (show sA σ ≤ sA σ + n by omega) (by omega)
    refine ⟨(nI (n + 1), upI w1 26 (n + 1) (nI (runU σ u (sA σ) lit (n + 1)))), ?_, rfl, a5, fun m hm => ?_⟩
    · show fX8_walkOn_b9 _ _ = _
      unfold fX8_walkOn_b9
      rw [e2.2.2.2.2.1, if_neg (by rw [n_le (by omega) (by omega)]; omega), gd_t (n_ib (by omega) (by decide)), n_cl (by omega), e2.2.2.2.1, n_add, e3 n (Nat.le_refl _), a1, bd_e, un2_e, nI_1, gd_t (n_ib (by omega) (by decide)), n_cl (by omega)]
      rfl
    · by_cases h : m = n + 1
      · subst h; exact upI_s _ _ _ _
      · exact (upI_k _ _ _ _ h).trans ((congrFun ((rX8_minuteAt a1).cell 26 (by decide)).1 m).trans (e3 m (by omega)))
  · rintro ⟨x, v⟩ ⟨e1, e2, e3⟩
    dsimp only at e1 e2 e3
    subst e1
    refine ⟨v, ?_, e2, e3⟩
    show fX8_walkOn_b9 _ _ = _
    unfold fX8_walkOn_b9
    rw [e2.2.2.2.2.1, if_pos (by rw [n_le (by omega) (by omega)]; omega)]
theorem c_atDoor (hW : WkU w σ u) (hg : good σ) {lit m : Nat} (hl : lit < 2 ^ sP σ) (hm : m ≤ sD σ - sA σ) : ∃ w1, fX8_atDoorFrom w (nI m) (nI lit) = some (nI (runU σ u (sA σ + m) lit (sD σ - sA σ - m)), w1) ∧ WkU w1 σ u := by
  have hD := hg.D
  have h8 := hg.P
  have main : ∃ w1, fX8_atDoorFrom w (nI m) (nI lit) = some (nI (runU σ u (sA σ + m) lit (sD σ - sA σ - m)), w1) := by
    unfold fX8_atDoorFrom
    have loop : ∃ x, iter (fun s : Int32 × Int32 × Wd => fX8_atDoorFrom_b5 s.1 s.2.1 s.2.2) FU (nI lit, nI m, w) = some x ∧ x.1 = nI (runU σ u (sA σ + m) lit (sD σ - sA σ - m)) := by
      refine it (fun n s => s.1 = nI (runU σ u (sA σ + m) lit n) ∧ s.2.1 = nI (m + n) ∧ WkU s.2.2 σ u) _ (sD σ - sA σ - m) ⟨rfl, rfl, hW⟩ ?_ ?_ (by omega)
      · rintro n ⟨x, y, v⟩ hn ⟨e1, e2, e3⟩
        dsimp only at e1 e2 e3
        subst e1; subst e2
        have hr := runU_lt (u := u) (a := sA σ + m) hg hl n
        have hr8 := lt256 hr h8
        obtain ⟨w1, a1, a2, a3⟩ := c_relight e3 hg (nd_lt (b := u (sA σ + m + n)) hr)
        have a4 : WkU w1 σ u := e3.keep (rX8_relight a1) (by decide)
        by_cases hz : runU σ u (sA σ + m) lit n = 0
        · refine Or.inr ⟨(nI (runU σ u (sA σ + m) lit n), v), ?_, ?_⟩
          · show fX8_atDoorFrom_b5 _ _ _ = _
            unfold fX8_atDoorFrom_b5
            rw [e3.2.2.2.2.1, if_neg (by rw [n_le (by omega) (by omega)]; omega), hz]
            exact if_pos rfl
          · have e : sD σ - sA σ - m = n + (sD σ - sA σ - m - n) := by omega
            rw [e, runU_add, hz, runU_0]
        · refine Or.inl ⟨(nI (runU σ u (sA σ + m) lit (n + 1)), nI (m + n + 1), w1), ?_, rfl, by rw [Nat.add_assoc], a4⟩
          show fX8_atDoorFrom_b5 _ _ _ = _
          unfold fX8_atDoorFrom_b5
          rw [e3.2.2.2.2.1, if_neg (by rw [n_le (by omega) (by omega)]; omega), show (0 : Int32) = nI 0 from rfl, if_neg (by rw [n_eq (by omega) (by omega)]; exact hz), e3.2.2.2.1, n_add, gd_t (n_ib (by omega) (by decide)), n_cl (by omega), ← Nat.add_assoc, e3.2.2.2.2.2.2 (sA σ + m + n) (by omega) (by omega), n_nd, a1, bd_e, un2_e, lt_e, nI_1]
          rfl
      · rintro ⟨x, y, v⟩ ⟨e1, e2, e3⟩
        dsimp only at e1 e2 e3
        subst e1; subst e2
        refine ⟨(nI (runU σ u (sA σ + m) lit (sD σ - sA σ - m)), v), ?_, rfl⟩
        show fX8_atDoorFrom_b5 _ _ _ = _
        unfold fX8_atDoorFrom_b5
        rw [e3.2.2.2.2.1, if_pos (by rw [n_le (by omega) (by omega)]; omega)]
    obtain ⟨⟨x, v⟩, h1, h2⟩ := loop
    rw [h1, bd_e, un2_e]
    dsimp only at h2
    rw [h2]
    exact ⟨v, rfl⟩
  obtain ⟨w1, e⟩ := main
  exact ⟨w1, e, hW.keep (rX8_atDoorFrom e) (by decide)⟩
end

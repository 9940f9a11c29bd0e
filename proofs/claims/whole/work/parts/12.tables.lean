/-! small tables, each case by the kernel -/
theorem lo_neg : ∀ m, m < 256 → 0 < m → nI m &&& -nI m = nI (2 ^ lo m) := by decide +kernel
theorem lo_lt : ∀ m, m < 256 → lo m < 8 := by decide +kernel
theorem lo_in : ∀ m, m < 256 → 0 < m → m.testBit (lo m) = true := by decide +kernel
theorem lo_cnt : ∀ i, i < 8 → fJ6_bitCount_0f7a4 (nI (2 ^ i) - 1) = nI i := by decide +kernel
theorem pop_c : ∀ m, m < 256 → fJ6_bitCount_0f7a4 (nI m) = nI (pop m) := by decide +kernel
theorem pop_m : ∀ m, m < 256 → fX10_bits (nI m) = some (nI (pop m)) := by decide +kernel
theorem pop_le : ∀ m, m < 256 → pop m ≤ 8 := by decide +kernel
theorem pop_0 : ∀ m, m < 256 → (pop m = 0 ↔ m = 0) := by decide +kernel
theorem pop_leP : ∀ P, P < 9 → ∀ m, m < 2 ^ P → pop m ≤ P := by decide +kernel
theorem pick_sub : ∀ e, e < 3 → ∀ m, m < 256 → pk e m &&& m = pk e m := by decide +kernel
theorem sc_pk : ∀ e, e < 3 → ∀ P, P < 9 → ∀ m, m < 2 ^ P → (sc e m P).1 = pk e m ∧ pop (pk e m) = e - (sc e m P).2 ∧ (sc e m P).2 ≤ e := by decide +kernel
def wk (f P : Int32) : Wd := (fun _ k => if k = 2 then f else P, fun _ _ => 0)
theorem near_w (b : Nat) (w : Wd) (p : Int32) : fX2_nearOnes b w p = fX2_nearOnes 1 (wk (w.1 b 2) (w.1 b 0)) p := rfl
theorem near_t : ∀ f, f < 3 → ∀ P, P < 9 → ∀ p, p < P → fX2_nearOnes 1 (wk (nI f) (nI P)) (nI p) = some (nI (near f P p)) := by decide +kernel
theorem near_lt : ∀ f, f < 3 → ∀ P, P < 9 → ∀ p, p < P → near f P p < 2 ^ P := by decide +kernel
theorem cov_w (b : Nat) (w : Wd) (p s : Int32) : fX2_coverer b w p s = fX2_coverer 1 (wk (w.1 b 2) (w.1 b 0)) p s := rfl
theorem cov_t : ∀ f, f < 3 → ∀ P, P < 9 → ∀ p, p < P → ∀ s, s < 3 → fX2_coverer 1 (wk (nI f) (nI P)) (nI p) (nI s) = some (cvI (covN f P p s)) := by decide +kernel
theorem cov_lt : ∀ f, f < 3 → ∀ P, P < 9 → ∀ p, p < P → ∀ s, s < 3 → covN f P p s = 99 ∨ covN f P p s < P := by decide +kernel
def wm (f P : Int32) : Wd := (fun i k => if i = 44 then f else P, fun _ _ => 0)
theorem bes_w (w : Wd) (p : Int32) : fX10_besideBits w p = fX10_besideBits (wm (w.1 44 0) (w.1 42 6)) p := rfl
theorem bes_t : ∀ f, f < 3 → ∀ P, P < 9 → ∀ p, p < P → fX10_besideBits (wm (nI f) (nI P)) (nI p) = nI (near f P p) := by decide +kernel
theorem alo_w (w : Wd) (p q : Int32) : fX10_along w p q = fX10_along (wm (w.1 44 0) (w.1 42 6)) p q := rfl
/-- the reference's coverer, its place's side put in -/
def mcov (f s : Int32) (w : Wd) (p : Int32) : Int32 := if s = 2 then -9 else fX10_along w p (if s = 0 then -(if f = 2 then 2 else 1) else (if f = 2 then 2 else 1))
theorem mcov_w (w : Wd) (p a : Int32) (ha : ib a 25 = true) : fX10_coverer w p a = some (mcov (w.1 44 0) (w.1 48 a.toNatClampNeg) w p) := by
  unfold fX10_coverer mcov
  simp only [lt_e, gd_t ha]
  by_cases h : w.1 48 a.toNatClampNeg = 2
  · rw [if_pos h, if_pos h]
  · rw [if_neg h, if_neg h]
theorem mcov_t : ∀ f, f < 3 → ∀ P, P < 9 → ∀ p, p < P → ∀ s, s < 3 → mcov (nI f) (nI s) (wm (nI f) (nI P)) (nI p) = cvI (covN f P p s) := by decide +kernel
def wh (k g : Int32) : Wd := (fun i _ => if i = 13 then k else g, fun _ _ => 0)
theorem hold_t : ∀ k, k < 7 → ∀ g, g < 10 → fX2_holdsOf 1 (wh (nI k) (nI g)) 0 = some (nI (holdK k g)) := by decide +kernel
theorem hold_m : ∀ k, k < 7 → ∀ g, g < 10 → fX10_holdsOf (nI k) (nI g) = nI (holdK k g) := by decide +kernel
theorem hold_le : ∀ k, k < 7 → ∀ g, g < 10 → holdK k g ≤ 99 := by decide +kernel
theorem cover_c : ∀ k, k < 7 → covF k = nI (cover k) := by decide +kernel
theorem cover_m : ∀ k, k < 7 → fX10_coverOf (nI k) = nI (cover k) := by decide +kernel
theorem cover_le : ∀ k, k < 7 → cover k ≤ 3 := by decide +kernel
theorem give_c : ∀ k, k < 7 → givF k = nI (give k) := by decide +kernel
theorem give_m : ∀ k, k < 7 → fX10_givesOf (nI k) = nI (give k) := by decide +kernel
theorem give_le : ∀ k, k < 7 → give k ≤ 3 := by decide +kernel
theorem hasc {a p : Nat} (ha : a < 2 ^ 31) (hp : p < 31) : fX9_hasBit (nI a) (nI p) = if a.testBit p then 1 else 0 := by
  unfold fX9_hasBit
  rw [n_tb ha hp]
  cases a.testBit p <;> rfl
theorem hasm {a p : Nat} (ha : a < 2 ^ 31) (hp : p < 31) : fX10_has (nI a) (nI p) = if a.testBit p then 1 else 0 := by
  unfold fX10_has
  rw [n_tb ha hp]
  cases a.testBit p <;> rfl

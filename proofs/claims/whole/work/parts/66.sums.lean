/-! chances: sums, and the greatest common divisor -/
def smN (f : Nat → Nat) : Nat → Nat
  | 0 => 0
  | n + 1 => smN f n + f n
theorem smN_cg {f g : Nat → Nat} : ∀ {n : Nat}, (∀ i, i < n → f i = g i) → smN f n = smN g n
  | 0, _ => rfl
  | n + 1, h => by unfold smN; rw [smN_cg (fun i hi => h i (by omega)), h n (by omega)]
theorem smN_le {f g : Nat → Nat} : ∀ {n : Nat}, (∀ i, i < n → f i ≤ g i) → smN f n ≤ smN g n
  | 0, _ => Nat.le_refl _
  | n + 1, h => by
    unfold smN
    have := smN_le (n := n) (fun i hi => h i (by omega))
    have := h n (by omega)
    omega
theorem smN_z {f : Nat → Nat} : ∀ {n : Nat}, (∀ i, i < n → f i = 0) → smN f n = 0
  | 0, _ => rfl
  | n + 1, h => by unfold smN; rw [smN_z (fun i hi => h i (by omega)), h n (by omega)]
theorem smN_add (f g : Nat → Nat) : ∀ n, smN (fun i => f i + g i) n = smN f n + smN g n
  | 0 => rfl
  | n + 1 => by
    show smN (fun i => f i + g i) n + (f n + g n) = smN f n + f n + (smN g n + g n)
    rw [smN_add f g n]; omega
theorem smN_mul (c : Nat) (f : Nat → Nat) : ∀ n, smN (fun i => c * f i) n = c * smN f n
  | 0 => rfl
  | n + 1 => by
    show smN (fun i => c * f i) n + c * f n = c * (smN f n + f n)
    rw [smN_mul c f n, Nat.mul_add]
theorem smN_app (f : Nat → Nat) (n : Nat) : ∀ m, smN f (n + m) = smN f n + smN (fun i => f (n + i)) m
  | 0 => rfl
  | m + 1 => by
    show smN f (n + m) + f (n + m) = smN f n + (smN (fun i => f (n + i)) m + f (n + m))
    rw [smN_app f n m]; omega
theorem smN_hd (f : Nat → Nat) (n : Nat) : smN f (n + 1) = f 0 + smN (fun i => f (i + 1)) n := by
  rw [Nat.add_comm n 1, smN_app f 1 n]
  show 0 + f 0 + _ = _
  rw [Nat.zero_add]
  congr 1
  exact smN_cg fun i _ => by rw [Nat.add_comm]
theorem smN_rev (f : Nat → Nat) : ∀ n, smN f (n + 1) = smN (fun i => f (n - i)) (n + 1)
  | 0 => rfl
  | n + 1 => by
    rw [smN_hd (fun i => f (n + 1 - i)) (n + 1)]
    show smN f (n + 1) + f (n + 1) = f (n + 1 - 0) + smN (fun i => f (n + 1 - (i + 1))) (n + 1)
    rw [smN_rev f n, Nat.sub_zero, Nat.add_comm]
    congr 1
    exact smN_cg fun i _ => by rw [show n + 1 - (i + 1) = n - i by omega]
theorem smN_swap (F : Nat → Nat → Nat) (m : Nat) : ∀ n, smN (fun i => smN (F i) m) n = smN (fun j => smN (fun i => F i j) n) m
  | 0 => (smN_z fun _ _ => rfl).symm
  | n + 1 => by
    show smN (fun i => smN (F i) m) n + smN (F n) m = smN (fun j => smN (fun i => F i j) n + F n j) m
    rw [smN_swap F m n, smN_add]
theorem smN_blk (F : Nat → Nat → Nat) (s r : Nat) (hr : r ≤ 16) : smN (fun j => F (j / 16) (j % 16)) (16 * s + r) = smN (fun i => smN (F i) 16) s + smN (F s) r := by
  have one : ∀ s r, r ≤ 16 → smN (fun j => F ((16 * s + j) / 16) ((16 * s + j) % 16)) r = smN (F s) r := fun s r hr => smN_cg fun i hi => by
    rw [show (16 * s + i) / 16 = s by omega, show (16 * s + i) % 16 = i by omega]
  have all : ∀ s, smN (fun j => F (j / 16) (j % 16)) (16 * s) = smN (fun i => smN (F i) 16) s := fun s => by
    induction s with
    | zero => rfl
    | succ s ih =>
      rw [show 16 * (s + 1) = 16 * s + 16 by omega, smN_app, ih, one s 16 (Nat.le_refl _)]
      rfl
  rw [smN_app, all, one s r hr]
theorem smN_pt (A : Prop) (hA : A ∨ ¬ A) (x v : Nat) (f : Nat → Nat) (hf : ∀ t, (A ∧ x = t → f t = v) ∧ (¬ (A ∧ x = t) → f t = 0)) : ∀ n, smN f n ≤ v := by
  have main : ∀ n, (x < n → smN f n ≤ v) ∧ (n ≤ x → smN f n = 0) := fun n => by
    induction n with
    | zero => exact ⟨fun h => absurd h (Nat.not_lt_zero _), fun _ => rfl⟩
    | succ n ih =>
      refine ⟨fun h => ?_, fun h => ?_⟩
      · show smN f n + f n ≤ v
        by_cases c : x = n
        · rw [ih.2 (by omega), Nat.zero_add]
          rcases hA with a | a
          · rw [(hf n).1 ⟨a, c⟩]; exact Nat.le_refl _
          · rw [(hf n).2 (fun h => a h.1)]; exact Nat.zero_le _
        · rw [(hf n).2 (fun h => c h.2)]; exact ih.1 (by omega)
      · show smN f n + f n = 0
        rw [ih.2 (by omega), (hf n).2 (fun h => by omega)]
  intro n
  rcases Nat.lt_or_ge x n with h | h
  · exact (main n).1 h
  · rw [(main n).2 h]; exact Nat.zero_le _
-- longs
theorem lc0 (x : Int64) : (lg_cmp x 0 = 0) = (x = 0) := by
  unfold lg_cmp
  by_cases a : x > 0
  · rw [if_pos a]
    have : x ≠ 0 := fun e => by rw [e] at a; exact absurd a (by decide)
    simp [this]
  · rw [if_neg a]
    by_cases b : x = 0
    · rw [if_pos b]; simp [b]
    · rw [if_neg b]; simp [b]
theorem lN0 : lN 0 = 0 := rfl
/-- Euclid's steps -/
def euN (x y : Nat) : Nat → Nat × Nat
  | 0 => (x, y)
  | i + 1 => if (euN x y i).2 = 0 then euN x y i else ((euN x y i).2, (euN x y i).1 % (euN x y i).2)
theorem eu_gcd (x y : Nat) : ∀ i, Nat.gcd (euN x y i).1 (euN x y i).2 = Nat.gcd x y
  | 0 => rfl
  | i + 1 => by
    have ih := eu_gcd x y i
    unfold euN
    split
    · exact ih
    · dsimp only
      rw [← ih]
      exact (Nat.gcd_comm _ _).trans ((Nat.gcd_rec (euN x y i).2 (euN x y i).1).symm.trans (Nat.gcd_comm _ _))
theorem eu_lt {x y : Nat} (hx : x < 2 ^ 62) (hy : y < 2 ^ 62) : ∀ i, (euN x y i).1 < 2 ^ 62 ∧ (euN x y i).2 < 2 ^ 62
  | 0 => ⟨hx, hy⟩
  | i + 1 => by
    obtain ⟨h1, h2⟩ := eu_lt hx hy i
    unfold euN
    split
    · exact ⟨h1, h2⟩
    · rename_i c
      have := Nat.mod_lt (euN x y i).1 (show (euN x y i).2 > 0 by omega)
      exact ⟨h2, by dsimp only; omega⟩
theorem eu_half {a c : Nat} (h : c < a) (hc : 0 < c) : 2 * (a % c) ≤ a := by
  have h1 := Nat.mod_lt a hc
  have h2 := Nat.div_add_mod a c
  have h3 : 1 ≤ a / c := Nat.div_pos (by omega) hc
  have h4 : c * 1 ≤ c * (a / c) := Nat.mul_le_mul_left c h3
  omega
theorem eu_p (x y : Nat) (hy : y ≠ 0) : ∀ i, ((euN x y (i + 1)).2 < (euN x y (i + 1)).1) ∧ (euN x y (i + 1)).1 * (euN x y (i + 1)).2 * 2 ^ i ≤ y * y
  | 0 => by
    have e : euN x y 1 = (y, x % y) := if_neg hy
    rw [e]
    have := Nat.mod_lt x (show y > 0 by omega)
    refine ⟨this, ?_⟩
    show y * (x % y) * 2 ^ 0 ≤ y * y
    rw [Nat.pow_zero, Nat.mul_one]
    exact Nat.mul_le_mul_left y (by omega)
  | i + 1 => by
    obtain ⟨h1, h2⟩ := eu_p x y hy i
    have e : euN x y (i + 1 + 1) = if (euN x y (i + 1)).2 = 0 then euN x y (i + 1) else ((euN x y (i + 1)).2, (euN x y (i + 1)).1 % (euN x y (i + 1)).2) := rfl
    rw [e]
    generalize euN x y (i + 1) = t at h1 h2 ⊢
    obtain ⟨a, c⟩ := t
    dsimp only at h1 h2 ⊢
    by_cases z : c = 0
    · rw [if_pos z]
      refine ⟨h1, ?_⟩
      dsimp only
      rw [z, Nat.mul_zero, Nat.zero_mul]; exact Nat.zero_le _
    · rw [if_neg z]
      dsimp only
      refine ⟨Nat.mod_lt _ (by omega), ?_⟩
      have h3 := eu_half h1 (by omega)
      have h4 : c * (2 * (a % c)) ≤ c * a := Nat.mul_le_mul_left c h3
      have h5 : c * (a % c) * 2 ^ (i + 1) = c * (2 * (a % c)) * 2 ^ i := by
        rw [Nat.pow_succ, Nat.mul_comm (2 ^ i) 2, ← Nat.mul_assoc, Nat.mul_assoc c (a % c) 2, Nat.mul_comm (a % c) 2]
      rw [h5]
      refine Nat.le_trans (Nat.mul_le_mul_right _ h4) ?_
      rw [Nat.mul_comm c a]; exact h2
theorem eu_end {x y : Nat} (hy : y < 2 ^ 62) : (euN x y 130).2 = 0 := by
  by_cases z : y = 0
  · have : ∀ i, euN x y i = (x, y) := fun i => by
      induction i with
      | zero => rfl
      | succ i ih => unfold euN; rw [ih]; exact if_pos z
    rw [this]; exact z
  · obtain ⟨h1, h2⟩ := eu_p x y z 129
    have h3 : y * y < 2 ^ 124 := by
      have := Nat.mul_lt_mul_of_lt_of_le hy (Nat.le_of_lt hy) (by decide)
      exact Nat.lt_of_lt_of_le this (by decide)
    generalize (euN x y (129 + 1)) = t at h1 h2 ⊢
    obtain ⟨a, c⟩ := t
    dsimp only at h1 h2 ⊢
    rcases Nat.eq_zero_or_pos c with h | h
    · exact h
    · exfalso
      have h4 : 1 ≤ a * c := Nat.mul_pos (by omega) h
      have h5 : 1 * 2 ^ 129 ≤ a * c * 2 ^ 129 := Nat.mul_le_mul_right _ h4
      have h6 : (2 : Nat) ^ 124 ≤ 1 * 2 ^ 129 := by decide
      omega
theorem eu_fin {x y i : Nat} (h : (euN x y i).2 = 0) : (euN x y i).1 = Nat.gcd x y := by
  have := eu_gcd x y i
  rw [h, Nat.gcd_zero_right] at this
  exact this
theorem c_gcd {x y : Nat} (hx : x < 2 ^ 62) (hy : y < 2 ^ 62) : fX0_greatestCommon (lN x) (lN y) = some (lN (Nat.gcd x y)) := by
  have main : ∃ z, iter (fun s : Int64 × Int64 × Int32 => fX0_greatestCommon_b9 s.1 s.2.1 s.2.2) FU (lN x, lN y, 0) = some z ∧ z = lN (Nat.gcd x y) := by
    refine it (fun i (s : Int64 × Int64 × Int32) => s.1 = lN (euN x y i).1 ∧ s.2.1 = lN (euN x y i).2 ∧ s.2.2 = nI i) _ 130 ⟨rfl, rfl, rfl⟩ ?_ ?_ (by decide)
    · rintro i ⟨u, v, k⟩ hi ⟨e1, e2, e3⟩
      dsimp only at e1 e2 e3
      subst e1; subst e2; subst e3
      obtain ⟨b1, b2⟩ := eu_lt hx hy i
      have hl : ¬ (200 : Int32) ≤ nI i := by rw [show (200 : Int32) = nI 200 from rfl, n_le (by decide) (by omega)]; omega
      by_cases z : (euN x y i).2 = 0
      · refine Or.inr ⟨lN (euN x y i).1, ?_, by rw [eu_fin z]⟩
        show fX0_greatestCommon_b9 _ _ _ = _
        unfold fX0_greatestCommon_b9
        rw [if_neg hl, if_pos (by rw [lc0, z]; rfl)]
      · have nz : ¬ lN (euN x y i).2 = 0 := fun e => z ((pk_lEQ (by omega) (by decide)).mp (e.trans lN0.symm))
        have es : euN x y (i + 1) = ((euN x y i).2, (euN x y i).1 % (euN x y i).2) := if_neg z
        refine Or.inl ⟨(lN (euN x y i).2, lN ((euN x y i).1 % (euN x y i).2), nI (i + 1)), ?_, by rw [es], by rw [es], rfl⟩
        show fX0_greatestCommon_b9 _ _ _ = _
        unfold fX0_greatestCommon_b9 jremL
        rw [if_neg hl, if_neg (by rw [lc0]; exact nz), gd_t (by simp [nz]), pk_lRem (by omega) (by omega) (by omega), lt_e, nI_1, lt_e]
    · rintro ⟨u, v, k⟩ ⟨e1, e2, e3⟩
      dsimp only at e1 e2 e3
      subst e1; subst e2; subst e3
      have z := eu_end (x := x) hy
      refine ⟨lN (euN x y 130).1, ?_, by rw [eu_fin z]⟩
      show fX0_greatestCommon_b9 _ _ _ = _
      unfold fX0_greatestCommon_b9
      rw [if_neg (show ¬ (200 : Int32) ≤ nI 130 by decide), if_pos (by rw [lc0, z]; rfl)]
  obtain ⟨z, m1, m2⟩ := main
  unfold fX0_greatestCommon
  rw [m1, bd_e, m2]
theorem m_gcd {x y : Nat} (hx : x < 2 ^ 62) (hy : y < 2 ^ 62) : fX10_divisor (lN x) (lN y) = some (lN (Nat.gcd x y)) := by
  have main : ∃ z, iter (fun s : Int64 × Int64 => fX10_divisor_b6 s.1 s.2) FU (lN x, lN y) = some z ∧ z = lN (Nat.gcd x y) := by
    refine it (fun i (s : Int64 × Int64) => s.1 = lN (euN x y i).1 ∧ s.2 = lN (euN x y i).2) _ 130 ⟨rfl, rfl⟩ ?_ ?_ (by decide)
    · rintro i ⟨u, v⟩ hi ⟨e1, e2⟩
      dsimp only at e1 e2
      subst e1; subst e2
      obtain ⟨b1, b2⟩ := eu_lt hx hy i
      by_cases z : (euN x y i).2 = 0
      · refine Or.inr ⟨lN (euN x y i).1, ?_, by rw [eu_fin z]⟩
        show fX10_divisor_b6 _ _ = _
        unfold fX10_divisor_b6
        rw [if_pos (by rw [lc0, z]; rfl)]
      · have nz : ¬ lN (euN x y i).2 = 0 := fun e => z ((pk_lEQ (by omega) (by decide)).mp (e.trans lN0.symm))
        have es : euN x y (i + 1) = ((euN x y i).2, (euN x y i).1 % (euN x y i).2) := if_neg z
        refine Or.inl ⟨(lN (euN x y i).2, lN ((euN x y i).1 % (euN x y i).2)), ?_, by rw [es], by rw [es]⟩
        show fX10_divisor_b6 _ _ = _
        unfold fX10_divisor_b6 jremL
        rw [if_neg (by rw [lc0]; exact nz), gd_t (by simp [nz]), pk_lRem (by omega) (by omega) (by omega), lt_e]
    · rintro ⟨u, v⟩ ⟨e1, e2⟩
      dsimp only at e1 e2
      subst e1; subst e2
      have z := eu_end (x := x) hy
      refine ⟨lN (euN x y 130).1, ?_, by rw [eu_fin z]⟩
      show fX10_divisor_b6 _ _ = _
      unfold fX10_divisor_b6
      rw [if_pos (by rw [lc0, z]; rfl)]
  obtain ⟨z, m1, m2⟩ := main
  unfold fX10_divisor
  rw [m1, bd_e, m2]
/-! what the chances are, in parts -/
def teN (σ : St) (a p : Nat) : Nat := if p < sP σ then (if sK σ p = 3 then 0 else felt σ p a - (hold σ p - 2)) else 0
/-- the parts with which of 'set' just 'still' are lit still -/
def prN (σ : St) (a set still : Nat) : Nat → Nat
  | 0 => 1
  | p + 1 => prN σ a set still p * (if set.testBit p then (if still.testBit p then 10 - teN σ a p else teN σ a p) else 10)
/-- what comes to t out of set, if still are lit still -/
def tmN (σ : St) (a : Nat) (W : Nat → Nat) (t set still : Nat) : Nat := if nd still set = 0 ∧ spr σ still = t then W set * prN σ a set still (sP σ) else 0
def wtN (σ : St) : Nat → Nat → Nat
  | 0 => fun t => if t = sL σ then 1 else 0
  | m + 1 => fun t => smN (fun set => smN (tmN σ (sA σ + m) (wtN σ m) t set) 16) 16
section
variable {w w1 w2 : Wd} {σ τ : St} {b : Nat}
theorem hold_ge (hg : good σ) (p : Nat) : 2 ≤ hold σ p ∧ hold σ p < 100 := by
  have h := (by decide +kernel : ∀ k, k < 7 → ∀ g, g < 10 → 2 ≤ holdK k g ∧ holdK k g < 100) _ (hg.K p) _ (hg.G p)
  exact h
theorem teN_le (hg : good σ) (a p : Nat) : teN σ a p ≤ 9 := by
  have h1 := hg.W a
  have h2 := hold_ge hg p
  unfold teN felt
  split
  · split <;> omega
  · omega
theorem prN_le (hg : good σ) (a set still : Nat) : ∀ p, prN σ a set still p ≤ 10 ^ p
  | 0 => Nat.le_refl _
  | p + 1 => by
    have h1 := prN_le hg a set still p
    have h2 := teN_le hg a p
    rw [Nat.pow_succ]
    refine Nat.mul_le_mul h1 ?_
    split
    · split <;> omega
    · omega
theorem sub_lt {set still P : Nat} (h : nd still set = 0) (hs : set < 2 ^ P) : still < 2 ^ P := lt_of_bits fun q hq => bit_lt hs (nd_zero.mp h q hq)
theorem wt_z (hg : good σ) (h4 : sP σ ≤ 4) : ∀ m t, 2 ^ sP σ ≤ t → wtN σ m t = 0
  | 0, t, ht => by
    have := hg.L
    exact if_neg (by omega)
  | m + 1, t, ht => smN_z fun set _ => smN_z fun still _ => by
    unfold tmN
    by_cases c : nd still set = 0 ∧ spr σ still = t
    · rw [if_pos c]
      by_cases d : set < 2 ^ sP σ
      · have := spr_lt hg (sub_lt c.1 d)
        omega
      · rw [wt_z hg h4 m set (by omega), Nat.zero_mul]
    · rw [if_neg c]
theorem tot_le (hg : good σ) (h4 : sP σ ≤ 4) : ∀ m, smN (wtN σ m) 16 ≤ (16 * 10 ^ sP σ) ^ m
  | 0 => by
    rw [Nat.pow_zero]
    exact smN_pt True (Or.inl trivial) (sL σ) 1 _ (fun t => ⟨fun h => if_pos h.2.symm, fun h => if_neg (fun e => h ⟨trivial, e.symm⟩)⟩) 16
  | m + 1 => by
    have ih := tot_le hg h4 m
    show smN (fun t => smN (fun set => smN (tmN σ (sA σ + m) (wtN σ m) t set) 16) 16) 16 ≤ _
    rw [smN_swap (fun t set => smN (tmN σ (sA σ + m) (wtN σ m) t set) 16) 16 16]
    have h1 : ∀ set, smN (fun t => smN (tmN σ (sA σ + m) (wtN σ m) t set) 16) 16 ≤ 16 * 10 ^ sP σ * wtN σ m set := fun set => by
      rw [smN_swap (fun t still => tmN σ (sA σ + m) (wtN σ m) t set still) 16 16]
      have h2 : ∀ still, smN (fun t => tmN σ (sA σ + m) (wtN σ m) t set still) 16 ≤ 10 ^ sP σ * wtN σ m set := fun still => by
        have h3 : smN (fun t => tmN σ (sA σ + m) (wtN σ m) t set still) 16 ≤ wtN σ m set * prN σ (sA σ + m) set still (sP σ) :=
          smN_pt (nd still set = 0) (Decidable.em _) (spr σ still) _ _ (fun t => ⟨fun h => if_pos h, fun h => if_neg h⟩) 16
        refine Nat.le_trans h3 ?_
        rw [Nat.mul_comm]
        exact Nat.mul_le_mul_right _ (prN_le hg _ _ _ _)
      refine Nat.le_trans (smN_le (g := fun _ => 10 ^ sP σ * wtN σ m set) (fun i _ => h2 i)) ?_
      have : ∀ n, smN (fun _ => 10 ^ sP σ * wtN σ m set) n = n * (10 ^ sP σ * wtN σ m set) := fun n => by
        induction n with
        | zero => rw [Nat.zero_mul]; rfl
        | succ n ih => rw [Nat.add_mul, Nat.one_mul, ← ih]; rfl
      rw [this, ← Nat.mul_assoc]
      exact Nat.le_refl _
    refine Nat.le_trans (smN_le (fun i _ => h1 i)) ?_
    rw [smN_mul, Nat.pow_succ, Nat.mul_comm]
    exact Nat.mul_le_mul_right _ ih
/-- the class's way through the subsets comes to the same -/
theorem sub_t : ∀ set, set < 16 → ∀ i, i < set + 1 → (nd (set - i) set = 0 ↔ nd i set = 0) ∧ (nd i set = 0 → nd set (set - i) = i) := by decide +kernel
def tcN (σ : St) (a : Nat) (W : Nat → Nat) (t set gone : Nat) : Nat := if nd gone set = 0 ∧ spr σ (nd set gone) = t then W set * prN σ a set (nd set gone) (sP σ) else 0
theorem tc_tm (a : Nat) (W : Nat → Nat) (t : Nat) {set : Nat} (hs : set < 16) : smN (tcN σ a W t set) (set + 1) = smN (tmN σ a W t set) 16 := by
  rw [smN_rev, show 16 = set + 1 + (15 - set) by omega, smN_app (tmN σ a W t set)]
  have h2 : smN (fun i => tmN σ a W t set (set + 1 + i)) (15 - set) = 0 := smN_z fun i hi => by
    unfold tmN
    rw [if_neg]
    rintro ⟨h, -⟩
    have := nd_le h
    omega
  rw [h2, Nat.add_zero]
  refine smN_cg fun i hi => ?_
  obtain ⟨s1, s2⟩ := sub_t set hs i hi
  unfold tcN tmN
  by_cases c : nd i set = 0
  · rw [s2 c]
    by_cases d : spr σ i = t
    · rw [if_pos ⟨s1.mpr c, d⟩, if_pos ⟨c, d⟩]
    · rw [if_neg (fun h => d h.2), if_neg (fun h => d h.2)]
  · rw [if_neg (fun h => c (s1.mp h.1)), if_neg (fun h => c h.1)]
end

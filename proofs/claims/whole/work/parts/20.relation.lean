/-! the two side by side: what they hold in common, what queries leave alone -/
/-- what the reference's queries may write -/
def mqA (i : Nat) : Bool := (decide (44 ≤ i) && decide (i ≤ 48)) || (decide (50 ≤ i) && decide (i ≤ 52)) || i == 54 || i == 55 || (decide (59 ≤ i) && decide (i ≤ 66))
def mqP (i k : Nat) : Bool := mqA i || (i == 42 && k != 14 && k != 18 && k != 27 && k != 41) || (i == 53 && decide (80 ≤ k))
/-- what the class's queries may write -/
def cqA (i : Nat) : Bool := i == 3 || i == 4 || (decide (8 ≤ i) && decide (i ≤ 11)) || (decide (21 ≤ i) && decide (i ≤ 29)) || (decide (35 ≤ i) && decide (i ≤ 41))
def cqP (i _k : Nat) : Bool := cqA i
/-- the ints outside P are as they were -/
def Ag (P : Nat → Nat → Bool) (w w1 : Wd) : Prop := ∀ i k, P i k = false → w1.1 i k = w.1 i k
theorem Ag.rf {P : Nat → Nat → Bool} {w : Wd} : Ag P w w := fun _ _ _ => rfl
theorem Ag.tr {P : Nat → Nat → Bool} {w w1 w2 : Wd} (h : Ag P w w1) (h2 : Ag P w1 w2) : Ag P w w2 := fun i k q => (h2 i k q).trans (h i k q)
abbrev Mq : Wd → Wd → Prop := Ag mqP
abbrev Cq : Wd → Wd → Prop := Ag cqP
theorem AgP {P : Nat → Nat → Bool} {l : List (Nat × Option Nat)} {w w1 : Wd} (h : Agree (pU l) w w1) (hc : (∀ q, q ∈ l → ∀ k, (q.2 = none ∨ q.2 = some k) → P q.1 k = true)) : Ag P w w1 := fun i k q => (h i k (by
  unfold pU
  rw [List.any_eq_false]
  intro x hx hh
  unfold hit at hh
  rw [Bool.and_eq_true] at hh
  have e : x.1 = i := beq_iff_eq.mp hh.1
  have : P x.1 k = true := hc x hx k (by
    cases h2 : x.2 with
    | none => exact Or.inl rfl
    | some f => rw [h2] at hh; exact Or.inr (congrArg some (beq_iff_eq.mp hh.2)))
  rw [e, q] at this
  cases this)).1
def okMQ (l : List (Nat × Option Nat)) : Bool := l.all fun q => mqA q.1 || match q.2 with | some k => mqP q.1 k | none => false
def okCQ (l : List (Nat × Option Nat)) : Bool := l.all fun q => cqA q.1
theorem Mq.of {l : List (Nat × Option Nat)} {w w1 : Wd} (h : Agree (pU l) w w1) (hc : okMQ l = true) : Mq w w1 := AgP h fun q hq k hk => by
  have := List.all_eq_true.mp hc q hq
  rcases hk with hk | hk
  · rw [hk] at this
    simp only [Bool.or_false] at this
    unfold mqP
    rw [this]; rfl
  · rw [hk] at this
    rw [Bool.or_eq_true] at this
    rcases this with h | h
    · unfold mqP; rw [h]; rfl
    · exact h
theorem Cq.of {l : List (Nat × Option Nat)} {w w1 : Wd} (h : Agree (pU l) w w1) (hc : okCQ l = true) : Cq w w1 := AgP h fun q hq k _ => List.all_eq_true.mp hc q hq
theorem Cq.ge {w w1 : Wd} (h : Cq w w1) {i : Nat} (hi : 42 ≤ i) : w1.1 i = w.1 i := funext fun k => h i k (by unfold cqP cqA; simp; omega)
theorem Cq.at {w w1 : Wd} (h : Cq w w1) (i : Nat) (hi : cqA i = false) : w1.1 i = w.1 i := funext fun k => h i k hi
theorem Mq.lt {w w1 : Wd} (h : Mq w w1) {i : Nat} (hi : i < 42) : w1.1 i = w.1 i := funext fun k => h i k (by unfold mqP mqA; simp; omega)
theorem Mq.at {w w1 : Wd} (h : Mq w w1) (i k : Nat) (hi : mqP i k = false) : w1.1 i k = w.1 i k := h i k hi
theorem Mq.kk {w w1 : Wd} (h : Mq w w1) : KK 1 w w1 := fun q hq => h 53 q (by unfold mqP mqA; simp; omega)
theorem Mq.mk1 {w w1 : Wd} (h1 : ∀ i, i ≠ 42 → i ≠ 53 → mqA i = false → w1.1 i = w.1 i) (h2 : ∀ f, f = 14 ∨ f = 18 ∨ f = 27 ∨ f = 41 → w1.1 42 f = w.1 42 f) (h3 : ∀ q, q < 80 → w1.1 53 q = w.1 53 q) : Mq w w1 := fun i k q => by
  unfold mqP at q
  simp only [Bool.or_eq_false_iff] at q
  obtain ⟨⟨a, b⟩, c⟩ := q
  by_cases c42 : i = 42
  · subst c42
    refine h2 k ?_
    simp at b
    omega
  · by_cases c53 : i = 53
    · subst c53
      refine h3 k ?_
      simp at c
      omega
    · rw [h1 i c42 c53 a]
section
variable {w w1 : Wd} {σ : St}
def NoSm (σ : St) (l : Nat) : Prop := ∀ p, l.testBit p = true → sK σ p ≠ 6
def LettersR (w : Wd) : Prop := ∃ n, n ≤ 96 ∧ w.1 6 0 = nI n ∧ w.1 42 14 = nI n ∧ ∀ k, k < n → ∃ c, c < 256 ∧ w.1 33 k = nI c ∧ w.1 49 k = nI c
def RowR (w : Wd) : Prop := ∃ n, n ≤ 12 ∧ w.1 7 0 = nI n ∧ w.1 42 41 = nI n ∧ ∀ k, k < n → ∃ c, c < 100 ∧ w.1 34 k = nI c ∧ w.1 67 k = nI c
def PastR (w : Wd) (σ : St) : Prop := ∃ n, n ≤ 8 ∧ w.1 5 0 = nI n ∧ w.1 42 27 = nI n ∧ ∀ k, k < n → ∃ l a m, l < 2 ^ sP σ ∧ NoSm σ l ∧ a ≤ sD σ ∧ m ≤ 999 ∧ (w.1 30 (n - 1 - k) = nI l ∧ w.1 31 (n - 1 - k) = nI a ∧ w.1 32 (n - 1 - k) = nI m) ∧ (w.1 56 k = nI l ∧ w.1 57 k = nI a ∧ w.1 58 k = nI m)
def PicR (w : Wd) : Prop := w.1 42 18 = w.1 0 2 ∧ (w.1 0 2 = 0 ∨ (w.1 0 2 = 1 ∧ ∃ σ, good σ ∧ sM σ ≤ 999 ∧ CoIs w 2 σ ∧ Kept w 0 σ))
def RefR (w : Wd) : Prop := ∀ k, k < 7 → w.1 43 k = w.1 12 k
def R (w : Wd) (σ : St) : Prop := good σ ∧ sM σ ≤ 999 ∧ CoIs w 1 σ ∧ MoIs w σ ∧ LettersR w ∧ RowR w ∧ PastR w σ ∧ PicR w ∧ RefR w
theorem R.g (h : R w σ) : good σ := h.1
theorem R.m (h : R w σ) : sM σ ≤ 999 := h.2.1
theorem R.c (h : R w σ) : CoIs w 1 σ := h.2.2.1
theorem R.o (h : R w σ) : MoIs w σ := h.2.2.2.1
theorem R.le (h : R w σ) : LettersR w := h.2.2.2.2.1
theorem R.ro (h : R w σ) : RowR w := h.2.2.2.2.2.1
theorem R.pa (h : R w σ) : PastR w σ := h.2.2.2.2.2.2.1
theorem R.pi (h : R w σ) : PicR w := h.2.2.2.2.2.2.2.1
theorem R.re (h : R w σ) : RefR w := h.2.2.2.2.2.2.2.2
theorem R.m2 (h : R w σ) : sM σ ≤ 1200 := by have := h.m; omega
/-- a query of the class leaves it so -/
theorem R.cq (h : R w σ) (q : Cq w w1) : R w1 σ := by
  have a := fun i hi => q.at i hi
  have b := fun (i : Nat) (hi : 42 ≤ i) => q.ge hi
  refine ⟨h.g, h.m, h.c.eq (a 1 rfl) (a 13 rfl) (a 14 rfl) (a 15 rfl) (a 16 rfl), ?_, ?_, ?_, ?_, ?_, ?_⟩
  · obtain ⟨h1, h2, h3, h4, h5, h6⟩ := h.o
    refine ⟨?_, ?_, ?_, ?_, ?_, ?_⟩
    · rw [b 44 (by decide)]; exact h1
    · rw [b 42 (by decide)]; exact h2
    · rw [b 45 (by decide)]; exact h3
    · rw [b 46 (by decide)]; exact h4
    · rw [b 47 (by decide)]; exact h5
    · rw [b 48 (by decide)]; exact h6
  · unfold LettersR
    rw [a 6 rfl, a 33 rfl, b 42 (by decide), b 49 (by decide)]
    exact h.le
  · unfold RowR
    rw [a 7 rfl, a 34 rfl, b 42 (by decide), b 67 (by decide)]
    exact h.ro
  · unfold PastR
    rw [a 5 rfl, a 30 rfl, a 31 rfl, a 32 rfl, b 42 (by decide), b 56 (by decide), b 57 (by decide), b 58 (by decide)]
    exact h.pa
  · obtain ⟨h1, h2⟩ := h.pi
    unfold PicR
    rw [a 0 rfl, b 42 (by decide)]
    refine ⟨h1, ?_⟩
    rcases h2 with h2 | ⟨h2, τ, h3, h4, h5, h6⟩
    · exact Or.inl h2
    · exact Or.inr ⟨h2, τ, h3, h4, h5.eq (a 2 rfl) (a 17 rfl) (a 18 rfl) (a 19 rfl) (a 20 rfl), h6.keep fun q _ _ => by rw [b 53 (by decide)]⟩
  · unfold RefR
    rw [a 12 rfl, b 43 (by decide)]
    exact h.re
/-- a query of the reference, too -/
theorem R.mq (h : R w σ) (q : Mq w w1) (hM : MoIs w1 σ) : R w1 σ := by
  have a := fun (i : Nat) (hi : i < 42) => q.lt hi
  have b := fun (i : Nat) (hi : mqA i = false ∧ i ≠ 42 ∧ i ≠ 53) => (funext fun k => q.at i k (by unfold mqP; rw [hi.1]; simp [hi.2.1, hi.2.2]) : w1.1 i = w.1 i)
  refine ⟨h.g, h.m, h.c.eq (a 1 (by decide)) (a 13 (by decide)) (a 14 (by decide)) (a 15 (by decide)) (a 16 (by decide)), hM, ?_, ?_, ?_, ?_, ?_⟩
  · unfold LettersR
    rw [a 6 (by decide), a 33 (by decide), q.at 42 14 rfl, b 49 (by decide)]
    exact h.le
  · unfold RowR
    rw [a 7 (by decide), a 34 (by decide), q.at 42 41 rfl, b 67 (by decide)]
    exact h.ro
  · unfold PastR
    rw [a 5 (by decide), a 30 (by decide), a 31 (by decide), a 32 (by decide), q.at 42 27 rfl, b 56 (by decide), b 57 (by decide), b 58 (by decide)]
    exact h.pa
  · obtain ⟨h1, h2⟩ := h.pi
    unfold PicR
    rw [a 0 (by decide), q.at 42 18 rfl]
    refine ⟨h1, ?_⟩
    rcases h2 with h2 | ⟨h2, τ, h3, h4, h5, h6⟩
    · exact Or.inl h2
    · exact Or.inr ⟨h2, τ, h3, h4, h5.eq (a 2 (by decide)) (a 17 (by decide)) (a 18 (by decide)) (a 19 (by decide)) (a 20 (by decide)), h6.kk q.kk (by decide)⟩
  · unfold RefR
    rw [a 12 (by decide), b 43 (by decide)]
    exact h.re
/-- both answer alike, and are side by side afterwards -/
def Ans {α : Type} (m : Option (α × Wd)) (f : Wd → Option (α × Wd)) : Prop := ∃ r w1 w2 σ, m = some (r, w1) ∧ f w1 = some (r, w2) ∧ R w2 σ
/-- no outcome but one: of both it is known -/
theorem Ans.q {α : Type} {m : Option (α × Wd)} {f : Wd → Option (α × Wd)} {r : α} (h : R w σ) (h1 : ∃ w1, m = some (r, w1) ∧ Cq w w1) (h2 : ∀ w1, R w1 σ → ∃ w2, f w1 = some (r, w2) ∧ MoIs w2 σ ∧ Mq w1 w2) : Ans m f := by
  obtain ⟨w1, e1, q1⟩ := h1
  obtain ⟨w2, e2, hM, q2⟩ := h2 w1 (h.cq q1)
  exact ⟨r, w1, w2, σ, e1, e2, (h.cq q1).mq q2 hM⟩
theorem upR (h : R w σ) (k : Nat) (hk : k < 7) : R (upI (upI w 12 k (w.1 12 k + 1)) 43 k (w.1 43 k + 1)) σ := by
  have e : ∀ i, i ≠ 12 → i ≠ 43 → (upI (upI w 12 k (w.1 12 k + 1)) 43 k (w.1 43 k + 1)).1 i = w.1 i := fun i h1 h2 => by rw [upI_o _ _ _ _ h2, upI_o _ _ _ _ h1]
  refine ⟨h.g, h.m, h.c, h.o, h.le, h.ro, h.pa, ?_, ?_⟩
  · obtain ⟨h1, h2⟩ := h.pi
    refine ⟨h1, ?_⟩
    rcases h2 with h2 | ⟨h2, τ, h3, h4, h5, h6⟩
    · exact Or.inl h2
    · exact Or.inr ⟨h2, τ, h3, h4, h5, h6⟩
  · intro j hj
    by_cases c : j = k
    · subst c
      rw [upI_s, upI_o _ 43 _ _ (show (12 : Nat) ≠ 43 by decide), upI_s, h.re j hj]
    · rw [upI_k _ 43 _ _ c, upI_o _ 12 _ _ (show (43 : Nat) ≠ 12 by decide), upI_o _ 43 _ _ (show (12 : Nat) ≠ 43 by decide), upI_k _ 12 _ _ c, h.re j hj]
theorem neg_t : ∀ k : Nat, k < 7 → -(-(nI k)) = nI k := by decide
/-- a call that is refused -/
theorem ref9 (k : Nat) (h1 : 1 ≤ k) (h7 : k < 7) (w : Wd) : fX9_refuse w (-(nI k)) = some (-(nI k), upI w 12 k (w.1 12 k + 1)) := by
  unfold fX9_refuse
  rw [neg_t k h7, lt_e, if_neg (by rw [show (0 : Int32) = nI 0 from rfl, n_le (by omega) (by omega)]; omega), if_neg (by rw [show (7 : Int32) = nI 7 from rfl, n_le (by omega) (by omega)]; omega), gdn h7 (by decide), n_cl (by omega), lt_e]
theorem ref10 (k : Nat) (h7 : k < 7) (w : Wd) : fX10_no w (-(nI k)) = some (-(nI k), upI w 43 k (w.1 43 k + 1)) := by
  unfold fX10_no
  rw [neg_t k h7, gdn h7 (by decide), n_cl (by omega), lt_e]
theorem Ans.no (h : R w σ) (k : Nat) (h1 : 1 ≤ k) (h7 : k < 7) : Ans ((fX9_refuse w (-(nI k))).bind fun q3 => un2 q3 fun (r2 : Int32) (w1 : Wd) => some (r2, w1)) (fun w => (fX10_no w (-(nI k))).bind fun q3 => un2 q3 fun (r2 : Int32) (w1 : Wd) => some (r2, w1)) :=
  ⟨-(nI k), _, _, σ, by rw [ref9 k h1 h7, bd_e, un2_e], by show (fX10_no _ _).bind _ = _; rw [ref10 k h7, bd_e, un2_e]; rfl, upR h k h7⟩
-- arguments
theorem arg (x : Int32) (n : Nat) (hn : n < 2 ^ 31 := by decide) : x < 0 ∨ nI n ≤ x ∨ ∃ p, p < n ∧ x = nI p := pk_ix x (n := n) hn
theorem ge0 {x : Int32} {n : Nat} (h : nI n ≤ x) (hn : n < 2 ^ 31) : ¬ x < 0 := fun h2 => nI_pos hn (Int32.lt_of_le_of_lt h h2)
end

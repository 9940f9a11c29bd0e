/-! what is said of people and wind, in numbers -/
def nd (a b : Nat) : Nat := a ^^^ (a &&& b)
theorem nd_bit (a b i : Nat) : (nd a b).testBit i = (a.testBit i && !b.testBit i) := by
  unfold nd
  rw [Nat.testBit_xor, Nat.testBit_and]
  cases a.testBit i <;> cases b.testBit i <;> rfl
theorem n_nd (a b : Nat) : nI a &&& (nI b ^^^ (-1)) = nI (nd a b) := by
  apply Int32.toBitVec_inj.mp
  show BitVec.ofNat 32 a &&& (BitVec.ofNat 32 b ^^^ (-1 : Int32).toBitVec) = BitVec.ofNat 32 (nd a b)
  rw [show (-1 : Int32).toBitVec = BitVec.allOnes 32 from by decide]
  apply BitVec.eq_of_getLsbD_eq
  intro i hi
  simp only [BitVec.getLsbD_and, BitVec.getLsbD_xor, BitVec.getLsbD_ofNat, BitVec.getLsbD_allOnes, nd_bit, hi, decide_true, Bool.true_and]
  cases a.testBit i <;> cases b.testBit i <;> rfl
def mask (f : Nat → Bool) : Nat → Nat
  | 0 => 0
  | n + 1 => mask f n ||| (if f n then 2 ^ n else 0)
theorem mask_bit (f : Nat → Bool) (q : Nat) : ∀ n, (mask f n).testBit q = (decide (q < n) && f q)
  | 0 => by simp [mask]
  | n + 1 => by
    unfold mask
    rw [Nat.testBit_or, mask_bit f q n]
    by_cases h : q = n
    · subst h
      by_cases hf : f q = true
      · simp [hf, Nat.testBit_two_pow_self]
      · simp [hf]
    · have h2 : ((if f n = true then 2 ^ n else 0 : Nat).testBit q) = false := by
        by_cases hf : f n = true
        · rw [if_pos hf, Nat.testBit_two_pow]
          simp; omega
        · rw [if_neg hf]; simp
      rw [h2, Bool.or_false]
      congr 1
      exact decide_eq_decide.mpr ⟨fun _ => by omega, fun _ => by omega⟩
theorem mask_lt (f : Nat → Bool) : ∀ n, mask f n < 2 ^ n
  | 0 => by simp [mask]
  | n + 1 => by
    unfold mask
    have h1 := mask_lt f n
    have h2 : (if f n then 2 ^ n else 0 : Nat) < 2 ^ (n + 1) := by split <;> omega
    exact Nat.or_lt_two_pow (by omega) h2
theorem mask_congr {f g : Nat → Bool} : ∀ {n : Nat}, (∀ q, q < n → f q = g q) → mask f n = mask g n
  | 0, _ => rfl
  | n + 1, h => by unfold mask; rw [mask_congr (fun q hq => h q (by omega)), h n (by omega)]
theorem lt256 {a P : Nat} (h : a < 2 ^ P) (hP : P ≤ 8) : a < 256 := Nat.lt_of_lt_of_le h (Nat.pow_le_pow_right (by decide) hP)
theorem bit_lt {a P q : Nat} (h : a < 2 ^ P) (hb : a.testBit q = true) : q < P := by
  rcases Nat.lt_or_ge q P with h1 | h1
  · exact h1
  · rw [Nat.testBit_lt_two_pow (Nat.lt_of_lt_of_le h (Nat.pow_le_pow_right (by decide) h1))] at hb
    cases hb
theorem lt_of_bits {a P : Nat} (h : ∀ q, a.testBit q = true → q < P) : a < 2 ^ P := by
  apply Nat.lt_pow_two_of_testBit
  intro i hi
  cases hb : a.testBit i with
  | false => rfl
  | true => exact absurd (h i hb) (by omega)
theorem nd_lt {a b P : Nat} (h : a < 2 ^ P) : nd a b < 2 ^ P := lt_of_bits fun q hq => bit_lt h (by rw [nd_bit, Bool.and_eq_true] at hq; exact hq.1)
theorem bits_ext {a b : Nat} (h : ∀ q, a.testBit q = b.testBit q) : a = b := Nat.eq_of_testBit_eq h
-- the state of people and wind: 0 PEOPLE, 1 LIT, 2 FORM, 3 EACH, 4 DOOR, 5 PLACE, 6 MINUTE; kinds, figures, forces, sides
abbrev St : Type := (Nat → Nat) × (Nat → Nat) × (Nat → Nat) × (Nat → Nat) × (Nat → Nat)
abbrev sP (σ : St) : Nat := σ.1 0
abbrev sL (σ : St) : Nat := σ.1 1
abbrev sF (σ : St) : Nat := σ.1 2
abbrev sE (σ : St) : Nat := σ.1 3
abbrev sD (σ : St) : Nat := σ.1 4
abbrev sA (σ : St) : Nat := σ.1 5
abbrev sM (σ : St) : Nat := σ.1 6
abbrev sK (σ : St) : Nat → Nat := σ.2.1
abbrev sG (σ : St) : Nat → Nat := σ.2.2.1
abbrev sW (σ : St) : Nat → Nat := σ.2.2.2.1
abbrev sS (σ : St) : Nat → Nat := σ.2.2.2.2
def grown (σ : St) : Nat := mask (fun p => sK σ p != 6) (sP σ)
/-- as the places are: LIT ones are there and not SMALL -/
def good (σ : St) : Prop := sP σ ≤ 8 ∧ sL σ < 2 ^ sP σ ∧ (∀ p, (sL σ).testBit p = true → sK σ p ≠ 6) ∧ sF σ < 3 ∧ (1 ≤ sE σ ∧ sE σ ≤ 2) ∧ (1 ≤ sD σ ∧ sD σ ≤ 24) ∧ sA σ ≤ sD σ ∧ sM σ ≤ 2000 ∧ (∀ k, sK σ k < 7) ∧ (∀ k, sG σ k < 10) ∧ (∀ k, sW σ k < 10) ∧ ∀ k, sS σ k < 3
def covN (f P p s : Nat) : Nat :=
  if s = 2 then 99
  else if f = 1 ∧ 1 < P then (if s = 0 then (p + P - 1) % P else (p + 1) % P)
  else if s = 0 then (if (if f = 2 then 2 else 1) ≤ p then p - (if f = 2 then 2 else 1) else 99)
  else if p + (if f = 2 then 2 else 1) < P then p + (if f = 2 then 2 else 1) else 99
def cvI (n : Nat) : Int32 := if n = 99 then -9 else nI n
def cover (k : Nat) : Nat := ([1, 1, 0, 1, 3, 1, 0] : List Nat).getD k 0
def give (k : Nat) : Nat := ([2, 1, 1, 3, 3, 1, 1] : List Nat).getD k 0
def holdK (k g : Nat) : Nat := if k = 0 then 3 + g / 3 else if k = 1 then 5 + g / 3 else if k = 3 then 99 else if k = 4 then 2 + g / 3 else if k = 5 then 4 + g / 3 + g / 2 else 4 + g / 3
def covA (σ : St) (p s : Nat) : Nat := if covN (sF σ) (sP σ) p s = 99 then 0 else cover (sK σ (covN (sF σ) (sP σ) p s))
def felt (σ : St) (p a : Nat) : Nat := sW σ a - covA σ p (sS σ a)
def hold (σ : St) (p : Nat) : Nat := holdK (sK σ p) (sG σ p)
def near (f P p : Nat) : Nat :=
  if f = 1 then (if P ≤ 1 then 0 else (2 ^ ((p + P - 1) % P)) ||| (2 ^ ((p + 1) % P)))
  else mask (fun q => if f = 2 then q == (p ^^^ 1) || q + 2 == p || q == p + 2 else q + 1 == p || q == p + 1) P
def uns (σ : St) (a : Nat) : Nat := mask (fun p => decide (hold σ p < felt σ p a)) (sP σ)
def lo (m : Nat) : Nat := ((List.range 8).find? (fun i => m.testBit i)).getD 0
def popN (m : Nat) : Nat → Nat
  | 0 => 0
  | n + 1 => popN m n + (if m.testBit n then 1 else 0)
def pop (m : Nat) : Nat := popN m 8
theorem popN_or {a b : Nat} (h : ∀ q, ¬ (a.testBit q = true ∧ b.testBit q = true)) : ∀ n, popN (a ||| b) n = popN a n + popN b n
  | 0 => rfl
  | n + 1 => by
    unfold popN
    rw [popN_or h n, Nat.testBit_or]
    have := h n
    cases ha : a.testBit n <;> cases hb : b.testBit n <;> simp [ha, hb] at this ⊢ <;> omega
theorem pop_or {a b : Nat} (h : ∀ q, ¬ (a.testBit q = true ∧ b.testBit q = true)) : pop (a ||| b) = pop a + pop b := popN_or h 8
/-- taking the first e of m, place by place: who is taken, how many are left to take -/
def sc (e m : Nat) : Nat → Nat × Nat
  | 0 => (0, e)
  | n + 1 => if (sc e m n).2 ≠ 0 ∧ m.testBit n = true then ((sc e m n).1 ||| 2 ^ n, (sc e m n).2 - 1) else sc e m n
/-- the first e of a set -/
def pk : Nat → Nat → Nat
  | 0, _ => 0
  | e + 1, m => if m = 0 then 0 else 2 ^ lo m ||| pk e (nd m (2 ^ lo m))
/-- who is lit anew when all of 'lit' below p have lit others; and by whom -/
def spS (σ : St) (lit : Nat) : Nat → Nat
  | 0 => 0
  | p + 1 => spS σ lit p ||| (if lit.testBit p then pk (sE σ) (nd (near (sF σ) (sP σ) p &&& grown σ) (lit ||| spS σ lit p)) else 0)
def spB (σ : St) (lit : Nat) : Nat → Nat → Nat
  | 0, _ => 0
  | p + 1, q => if lit.testBit p && (pk (sE σ) (nd (near (sF σ) (sP σ) p &&& grown σ) (lit ||| spS σ lit p))).testBit q then p else spB σ lit p q
def fresh (σ : St) (lit : Nat) : Nat := spS σ lit (sP σ)
def by_ (σ : St) (lit q : Nat) : Nat := spB σ lit (sP σ) q
def spr (σ : St) (lit : Nat) : Nat := lit ||| fresh σ lit
def mntU (σ : St) (u : Nat → Nat) (a lit : Nat) : Nat := spr σ (nd lit (u a))
abbrev mnt (σ : St) (a lit : Nat) : Nat := mntU σ (uns σ) a lit
/-- n minutes from place a on -/
def runU (σ : St) (u : Nat → Nat) (a lit : Nat) : Nat → Nat
  | 0 => lit
  | n + 1 => mntU σ u (a + n) (runU σ u a lit n)
abbrev run (σ : St) (a lit n : Nat) : Nat := runU σ (uns σ) a lit n
def doorU (σ : St) (u : Nat → Nat) (lit : Nat) : Nat := runU σ u (sA σ) lit (sD σ - sA σ)
abbrev door (σ : St) (lit : Nat) : Nat := doorU σ (uns σ) lit
-- bits of ints
theorem sh_p : ∀ p, p < 31 → (1 : Int32) <<< (nI p &&& 31) = nI (2 ^ p) := by decide +kernel
theorem sh_0 : ∀ p, p < 31 → ((1 : Int32) <<< (nI p &&& 31)) - 1 = nI (2 ^ p - 1) := by decide +kernel
theorem s31 : ∀ p, p < 31 → ((nI p &&& 31).toBitVec.smod 32).toNat = p := by decide +kernel
theorem n_tb {a p : Nat} (ha : a < 2 ^ 31) (hp : p < 31) : (nI a >>> (nI p &&& 31)) &&& 1 = nI (if a.testBit p then 1 else 0) := by
  have hs : ((nI p &&& 31).toBitVec.smod 32).toNat = p := s31 p hp
  rw [pk_shrN ha _ p hs, show (1 : Int32) = nI 1 from rfl, n_and]
  congr 1
  rw [Nat.and_one_is_mod, Nat.testBit_eq_decide_div_mod_eq]
  have := Nat.mod_lt (a / 2 ^ p) (show 2 > 0 by decide)
  by_cases h : a / 2 ^ p % 2 = 1
  · rw [if_pos (decide_eq_true h), h]
  · rw [if_neg (by simpa using h)]; omega

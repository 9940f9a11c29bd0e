/-! tools: numbers, loops, frames -/
theorem Agree.cell {l : List (Nat × Option Nat)} {w w1 : Wd} (h : Agree (pU l) w w1) (c : Nat) (hc : (l.all fun q => q.1 != c) = true) : w1.1 c = w.1 c ∧ w1.2 c = w.2 c := by
  have hp : ∀ k, pU l c k = false := fun k => by
    unfold pU
    rw [List.any_eq_false]
    intro q hq h2
    have h3 := List.all_eq_true.mp hc q hq
    unfold hit at h2
    rw [Bool.and_eq_true] at h2
    have h4 : q.1 = c := beq_iff_eq.mp h2.1
    rw [h4] at h3
    simp at h3
  exact ⟨funext fun k => (h c k (hp k)).1, funext fun k => (h c k (hp k)).2⟩
theorem Agree.ge {l : List (Nat × Option Nat)} {w w1 : Wd} (h : Agree (pU l) w w1) (n : Nat) (hc : (l.all fun q => decide (q.1 < n)) = true) : ∀ c, n ≤ c → w1.1 c = w.1 c ∧ w1.2 c = w.2 c := fun c hn => h.cell c (by
  rw [List.all_eq_true] at hc ⊢
  intro q hq
  have := of_decide_eq_true (hc q hq)
  simp only [bne_iff_ne, ne_eq]
  omega)
theorem Agree.lt {l : List (Nat × Option Nat)} {w w1 : Wd} (h : Agree (pU l) w w1) (n : Nat) (hc : (l.all fun q => decide (n ≤ q.1)) = true) : ∀ c, c < n → w1.1 c = w.1 c ∧ w1.2 c = w.2 c := fun c hn => h.cell c (by
  rw [List.all_eq_true] at hc ⊢
  intro q hq
  have := of_decide_eq_true (hc q hq)
  simp only [bne_iff_ne, ne_eq]
  omega)
theorem Agree.wide {l l2 : List (Nat × Option Nat)} {w w1 : Wd} (h : Agree (pU l) w w1) (hc : (l.all fun q => decide (q ∈ l2)) = true) : Agree (pU l2) w w1 := fun i k q => h i k (by
  unfold pU
  rw [List.any_eq_false]
  intro x hx
  rw [pU_no q (of_decide_eq_true (List.all_eq_true.mp hc x hx))]
  decide)
theorem gd_t {α : Type} {c : Bool} {m : Option α} (h : c = true) : gd_ c m = m := by unfold gd_; rw [if_pos h]
theorem lt_e {α β : Type} (a : α) (f : α → β) : lt_ a f = f a := rfl
theorem un2_e {α β γ : Type} (a : α) (b : β) (f : α → β → γ) : un2 (a, b) f = f a b := rfl
theorem un3_e {α β δ γ : Type} (a : α) (b : β) (c : δ) (f : α → β → δ → γ) : un3 (a, b, c) f = f a b c := rfl
theorem un4_e {α β δ ε γ : Type} (a : α) (b : β) (c : δ) (d : ε) (f : α → β → δ → ε → γ) : un4 (a, b, c, d) f = f a b c d := rfl
theorem un5_e {α β δ ε ζ γ : Type} (a : α) (b : β) (c : δ) (d : ε) (e : ζ) (f : α → β → δ → ε → ζ → γ) : un5 (a, b, c, d, e) f = f a b c d e := rfl
theorem un6_e {α β δ ε ζ η γ : Type} (a : α) (b : β) (c : δ) (d : ε) (e : ζ) (k : η) (f : α → β → δ → ε → ζ → η → γ) : un6 (a, b, c, d, e, k) f = f a b c d e k := rfl
theorem bd_e {α β : Type} (a : α) (f : α → Option β) : (some a).bind f = f a := rfl
theorem iter_inv {S X : Type} {B : S → Option (S ⊕ X)} (I : Nat → S → Prop) (Q : X → Prop) (n : Nat) (hs : ∀ i s, i < n → I i s → (∃ s', B s = some (.inl s') ∧ I (i + 1) s') ∨ (∃ x, B s = some (.inr x) ∧ Q x)) (he : ∀ s, I n s → ∃ x, B s = some (.inr x) ∧ Q x) : ∀ (m i : Nat) (s : S), n - i < m → i ≤ n → I i s → ∃ x, iter B m s = some x ∧ Q x
  | 0, i, s, h, _, _ => absurd h (Nat.not_lt_zero _)
  | m + 1, i, s, h, hi, hI => by
    unfold iter
    by_cases c : i < n
    · rcases hs i s c hI with ⟨s', e, h2⟩ | ⟨x, e, h2⟩
      · rw [e]
        exact iter_inv I Q n hs he m (i + 1) s' (by omega) c h2
      · rw [e]
        exact ⟨x, rfl, h2⟩
    · have : i = n := by omega
      subst this
      obtain ⟨x, e, h2⟩ := he s hI
      rw [e]
      exact ⟨x, rfl, h2⟩
/-- a loop that is counted: I holds ahead of step i; after n steps it leaves (or sooner) -/
theorem it {S X : Type} {B : S → Option (S ⊕ X)} {s0 : S} (I : Nat → S → Prop) (Q : X → Prop) (n : Nat) (h0 : I 0 s0) (hs : ∀ i s, i < n → I i s → (∃ s', B s = some (.inl s') ∧ I (i + 1) s') ∨ (∃ x, B s = some (.inr x) ∧ Q x)) (he : ∀ s, I n s → ∃ x, B s = some (.inr x) ∧ Q x) (hn : n < 100000) : ∃ x, iter B FU s0 = some x ∧ Q x :=
  iter_inv I Q n hs he FU 0 s0 (by unfold FU; omega) (Nat.zero_le _) h0
/-- without a way out ahead of the end -/
theorem itn {S X : Type} {B : S → Option (S ⊕ X)} {s0 : S} (I : Nat → S → Prop) (Q : X → Prop) (n : Nat) (h0 : I 0 s0) (hs : ∀ i s, i < n → I i s → ∃ s', B s = some (.inl s') ∧ I (i + 1) s') (he : ∀ s, I n s → ∃ x, B s = some (.inr x) ∧ Q x) (hn : n < 100000) : ∃ x, iter B FU s0 = some x ∧ Q x :=
  it I Q n h0 (fun i s h1 h2 => Or.inl (hs i s h1 h2)) he hn
/-- the states told -/
theorem itf {S X : Type} {B : S → Option (S ⊕ X)} (f : Nat → S) (x : X) (n : Nat) {s0 : S} (h0 : s0 = f 0) (hs : ∀ i, i < n → B (f i) = some (.inl (f (i + 1)))) (he : B (f n) = some (.inr x)) (hn : n < 100000) : iter B FU s0 = some x := by
  obtain ⟨y, h1, h2⟩ := itn (B := B) (s0 := s0) (fun i s => s = f i) (fun y => y = x) n h0 (fun i s hi e => ⟨f (i + 1), by rw [e]; exact hs i hi, rfl⟩) (fun s e => ⟨x, by rw [e]; exact he, rfl⟩) hn
  rw [h1, h2]
theorem itb {S X α : Type} {B : S → Option (S ⊕ X)} {g : X → Option α} {s0 : S} (f : Nat → S) (x : X) (n : Nat) (h0 : s0 = f 0) (hs : ∀ i, i < n → B (f i) = some (.inl (f (i + 1)))) (he : B (f n) = some (.inr x)) (hn : n < 100000) : (iter B FU s0).bind g = g x := by
  rw [itf f x n h0 hs he hn]; rfl
theorem itnb {S X α : Type} {B : S → Option (S ⊕ X)} {g : X → Option α} {R : α → Prop} {s0 : S} (I : Nat → S → Prop) (Q : X → Prop) (n : Nat) (h0 : I 0 s0) (hs : ∀ i s, i < n → I i s → ∃ s', B s = some (.inl s') ∧ I (i + 1) s') (he : ∀ s, I n s → ∃ x, B s = some (.inr x) ∧ Q x) (hn : n < 100000) (hg : ∀ x, Q x → ∃ o, g x = some o ∧ R o) : ∃ o, (iter B FU s0).bind g = some o ∧ R o := by
  obtain ⟨x, h1, h2⟩ := itn I Q n h0 hs he hn
  rw [h1]
  exact hg x h2
theorem itbb {S X α : Type} {B : S → Option (S ⊕ X)} {g : X → Option α} {R : α → Prop} {s0 : S} (I : Nat → S → Prop) (Q : X → Prop) (n : Nat) (h0 : I 0 s0) (hs : ∀ i s, i < n → I i s → (∃ s', B s = some (.inl s') ∧ I (i + 1) s') ∨ (∃ x, B s = some (.inr x) ∧ Q x)) (he : ∀ s, I n s → ∃ x, B s = some (.inr x) ∧ Q x) (hn : n < 100000) (hg : ∀ x, Q x → ∃ o, g x = some o ∧ R o) : ∃ o, (iter B FU s0).bind g = some o ∧ R o := by
  obtain ⟨x, h1, h2⟩ := it I Q n h0 hs he hn
  rw [h1]
  exact hg x h2
/-- a call whose outcome is told -/
theorem bx {α β : Type} {m : Option α} {g : α → Option β} {P : α → Prop} {R : β → Prop} (h : ∃ a, m = some a ∧ P a) (k : ∀ a, m = some a → P a → ∃ o, g a = some o ∧ R o) : ∃ o, m.bind g = some o ∧ R o := by
  obtain ⟨a, e, h2⟩ := h
  rw [e]
  exact k a e h2
theorem upI_r (w : Wd) (i k : Nat) (x : Int32) (a c : Nat) : (upI w i k x).1 a c = if a = i ∧ c = k then x else w.1 a c := rfl
theorem upI_s (w : Wd) (i k : Nat) (x : Int32) : (upI w i k x).1 i k = x := if_pos ⟨rfl, rfl⟩
theorem upI_k (w : Wd) (i k : Nat) (x : Int32) {c : Nat} (h : c ≠ k) : (upI w i k x).1 i c = w.1 i c := if_neg (fun q => h q.2)
theorem upI_o (w : Wd) (i k : Nat) (x : Int32) {a : Nat} (h : a ≠ i) : (upI w i k x).1 a = w.1 a := funext fun _ => if_neg (fun q => h q.1)
theorem upI_2 (w : Wd) (i k : Nat) (x : Int32) : (upI w i k x).2 = w.2 := rfl
theorem upJ_s (w : Wd) (i k : Nat) (x : Int64) : (upJ w i k x).2 i k = x := if_pos ⟨rfl, rfl⟩
theorem upJ_k (w : Wd) (i k : Nat) (x : Int64) {c : Nat} (h : c ≠ k) : (upJ w i k x).2 i c = w.2 i c := if_neg (fun q => h q.2)
theorem upJ_o (w : Wd) (i k : Nat) (x : Int64) {a : Nat} (h : a ≠ i) : (upJ w i k x).2 a = w.2 a := funext fun _ => if_neg (fun q => h q.1)
-- numbers
theorem n_le {a b : Nat} (ha : a < 2 ^ 31) (hb : b < 2 ^ 31) : (nI a ≤ nI b) = (a ≤ b) := propext (nI_leI ha hb)
theorem n_lt {a b : Nat} (ha : a < 2 ^ 31) (hb : b < 2 ^ 31) : (nI a < nI b) = (a < b) := propext (nI_ltI ha hb)
theorem n_eq {a b : Nat} (ha : a < 2 ^ 31) (hb : b < 2 ^ 31) : (nI a = nI b) = (a = b) := propext (nI_eq ha hb)
theorem n_cl {a : Nat} (ha : a < 2 ^ 31) : (nI a).toNatClampNeg = a := nI_clamp ha
theorem n_ib {a n : Nat} (h : a < n) (hn : n < 2 ^ 31) : ib (nI a) n = true := by
  unfold ib
  rw [nI_toInt (by omega)]
  exact decide_eq_true ⟨by omega, by omega⟩
theorem n_add (a b : Nat) : nI a + nI b = nI (a + b) := nI_add a b
theorem n_mul (a b : Nat) : nI a * nI b = nI (a * b) := pk_mul a b
theorem n_sub {a b : Nat} (h : b ≤ a) : nI a - nI b = nI (a - b) := pk_sub h
theorem n_m1 {a : Nat} (h : 0 < a) : nI a + (-1) = nI (a - 1) := sb_m1 h
theorem n_div {a d : Nat} (ha : a < 2 ^ 31) (h0 : 0 < d) (hd : d < 2 ^ 31) : nI a / nI d = nI (a / d) := pk_div ha h0 hd
theorem n_rem {a d : Nat} (ha : a < 2 ^ 31) (h0 : 0 < d) (hd : d < 2 ^ 31) : jrem (nI a) (nI d) = nI (a % d) := by unfold jrem; exact pk_rem ha h0 hd
theorem n_and (a b : Nat) : nI a &&& nI b = nI (a &&& b) := by
  apply Int32.toBitVec_inj.mp
  show BitVec.ofNat 32 a &&& BitVec.ofNat 32 b = BitVec.ofNat 32 (a &&& b)
  exact (BitVec.ofNat_and).symm
theorem n_or (a b : Nat) : nI a ||| nI b = nI (a ||| b) := by
  apply Int32.toBitVec_inj.mp
  show BitVec.ofNat 32 a ||| BitVec.ofNat 32 b = BitVec.ofNat 32 (a ||| b)
  exact (BitVec.ofNat_or).symm
theorem n_xor (a b : Nat) : nI a ^^^ nI b = nI (a ^^^ b) := by
  apply Int32.toBitVec_inj.mp
  show BitVec.ofNat 32 a ^^^ BitVec.ofNat 32 b = BitVec.ofNat 32 (a ^^^ b)
  exact (BitVec.ofNat_xor).symm

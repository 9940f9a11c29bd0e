/-! matches: both -/
/-- what both find: the fewest and the first choice of minutes *-/
def OutK (σ : St) (r : Int32) (g : Nat → Int32) : Prop :=
  (∃ M k, M ≤ 3 ∧ r = nI M ∧ k < (sD σ - sA σ) ^ M ∧ Gd σ M k ∧ (∀ k', k' < k → ¬ Gd σ M k') ∧ (∀ M', M' < M → ∀ k', k' < (sD σ - sA σ) ^ M' → ¬ Gd σ M' k') ∧ ∀ i, i < M → g i = nI (mtk (sD σ - sA σ) M k i)) ∨
  (r = -9 ∧ ∀ M', M' ≤ 3 → ∀ k', k' < (sD σ - sA σ) ^ M' → ¬ Gd σ M' k')
section
variable {w w1 w2 : Wd} {σ τ : St} {b : Nat} {u : Nat → Nat} {mt : Nat → Nat}
theorem sti_no {k l : Nat} : ∀ n, (∀ i, i < n → mt i ≠ k) → sti σ mt k l n = l
  | 0, _ => rfl
  | n + 1, h => by
    rw [sti, if_neg (h n (by omega)), sti_no n (fun i hi => h i (by omega))]
theorem sti_one {k l i0 : Nat} (h0 : mt i0 = k) : ∀ n, i0 < n → (∀ i, i < n → i ≠ i0 → mt i ≠ k) → sti σ mt k l n = str σ l
  | 0, h, _ => absurd h (Nat.not_lt_zero _)
  | n + 1, h, h2 => by
    by_cases c : n = i0
    · subst c
      rw [sti, if_pos h0, sti_no n (fun i hi => h2 i (by omega) (by omega))]
    · rw [sti, if_neg (h2 n (by omega) c), sti_one h0 n (by omega) (fun i hi => h2 i (by omega))]
theorem fi_run {many f : Nat} : ∀ n, (∀ k, f ≤ k → k < f + n → ∀ i, i < many → mt i ≠ k) → fiR σ mt many (f + n) = run σ (sA σ + f) (fiR σ mt many f) n
  | 0, _ => rfl
  | n + 1, h => by
    show mnt σ (sA σ + (f + n)) (sti σ mt (f + n) (fiR σ mt many (f + n)) many) = mnt σ (sA σ + f + n) (run σ (sA σ + f) (fiR σ mt many f) n)
    rw [sti_no many (h (f + n) (by omega) (by omega)), fi_run n (fun k h1 h2 => h k h1 (by omega)), Nat.add_assoc]
theorem fi_hit {many f m i0 : Nat} (hf : f ≤ m) (hi : i0 < many) (h0 : mt i0 = m) (h1 : ∀ i, i < many → i ≠ i0 → mt i ≠ m) (h2 : ∀ k, f ≤ k → k < m → ∀ i, i < many → mt i ≠ k) : fiR σ mt many (m + 1) = hitM σ f (fiR σ mt many f) m := by
  show mnt σ (sA σ + m) (sti σ mt m (fiR σ mt many m) many) = mnt σ (sA σ + m) (str σ (run σ (sA σ + f) (fiR σ mt many f) (m - f)))
  rw [sti_one h0 many hi h1]
  have := fi_run (σ := σ) (mt := mt) (many := many) (f := f) (m - f) (fun k h3 h4 => h2 k h3 (by omega))
  rw [show f + (m - f) = m by omega] at this
  rw [this]
theorem fi_end {many f T : Nat} (hf : f ≤ T) (h : ∀ k, f ≤ k → ∀ i, i < many → mt i ≠ k) : fiR σ mt many T = run σ (sA σ + f) (fiR σ mt many f) (T - f) := by
  have := fi_run (σ := σ) (mt := mt) (many := many) (f := f) (T - f) (fun k h1 _ => h k h1)
  rw [show f + (T - f) = T by omega] at this
  exact this
theorem fin0 : fiR σ mt 0 (sD σ - sA σ) = dN σ := fi_end (σ := σ) (mt := mt) (many := 0) (f := 0) (Nat.zero_le _) (fun k _ i hi => absurd hi (Nat.not_lt_zero _))
theorem fin1 {a : Nat} (ha : a < sD σ - sA σ) (h0 : mt 0 = a) : fiR σ mt 1 (sD σ - sA σ) = D1 σ 0 (sL σ) a := by
  have e1 : fiR σ mt 1 (a + 1) = hitM σ 0 (sL σ) a := fi_hit (i0 := 0) (Nat.zero_le _) (by decide) h0 (fun i h1 h2 => absurd h1 (by omega)) (fun k _ h2 i hi => by
    have : i = 0 := by omega
    subst this; omega)
  rw [fi_end (f := a + 1) (by omega) (fun k h i hi => by
    have : i = 0 := by omega
    subst this; omega), e1]
  rfl
theorem fin2 {a c : Nat} (hac : a < c) (hc : c < sD σ - sA σ) (h0 : mt 0 = a) (h1 : mt 1 = c) : fiR σ mt 2 (sD σ - sA σ) = D2 σ 0 (sL σ) a c := by
  have two : ∀ i, i < 2 → mt i = a ∨ mt i = c := fun i hi => by
    rcases (by omega : i = 0 ∨ i = 1) with rfl | rfl
    · exact Or.inl h0
    · exact Or.inr h1
  have e1 : fiR σ mt 2 (a + 1) = hitM σ 0 (sL σ) a := fi_hit (i0 := 0) (Nat.zero_le _) (by decide) h0 (fun i h3 h4 => by
    have : i = 1 := by omega
    subst this; omega) (fun k _ h2 i hi => by rcases two i hi with h | h <;> omega)
  have e2 : fiR σ mt 2 (c + 1) = hitM σ (a + 1) (fiR σ mt 2 (a + 1)) c := fi_hit (i0 := 1) (by omega) (by decide) h1 (fun i h3 h4 => by
    have : i = 0 := by omega
    subst this; omega) (fun k h h2 i hi => by rcases two i hi with h | h <;> omega)
  rw [fi_end (f := c + 1) (by omega) (fun k h i hi => by rcases two i hi with h | h <;> omega), e2, e1]
  rfl
theorem fin3 {a c d : Nat} (hac : a < c) (hcd : c < d) (hd : d < sD σ - sA σ) (h0 : mt 0 = a) (h1 : mt 1 = c) (h2 : mt 2 = d) : fiR σ mt 3 (sD σ - sA σ) = D3 σ a c d := by
  have three : ∀ i, i < 3 → (i = 0 ∧ mt i = a) ∨ (i = 1 ∧ mt i = c) ∨ (i = 2 ∧ mt i = d) := fun i hi => by
    rcases (by omega : i = 0 ∨ i = 1 ∨ i = 2) with rfl | rfl | rfl
    · exact Or.inl ⟨rfl, h0⟩
    · exact Or.inr (Or.inl ⟨rfl, h1⟩)
    · exact Or.inr (Or.inr ⟨rfl, h2⟩)
  have e1 : fiR σ mt 3 (a + 1) = hitM σ 0 (sL σ) a := fi_hit (i0 := 0) (Nat.zero_le _) (by decide) h0 (fun i h3 h4 => by rcases three i h3 with h | h | h <;> omega) (fun k _ h2 i hi => by rcases three i hi with h | h | h <;> omega)
  have e2 : fiR σ mt 3 (c + 1) = hitM σ (a + 1) (fiR σ mt 3 (a + 1)) c := fi_hit (i0 := 1) (by omega) (by decide) h1 (fun i h3 h4 => by rcases three i h3 with h | h | h <;> omega) (fun k h h2 i hi => by rcases three i hi with h | h | h <;> omega)
  have e3 : fiR σ mt 3 (d + 1) = hitM σ (c + 1) (fiR σ mt 3 (c + 1)) d := fi_hit (i0 := 2) (by omega) (by decide) h2 (fun i h3 h4 => by rcases three i h3 with h | h | h <;> omega) (fun k h h2 i hi => by rcases three i hi with h | h | h <;> omega)
  rw [fi_end (f := d + 1) (by omega) (fun k h i hi => by rcases three i hi with h | h | h <;> omega), e3, e2, e1]
  rfl
theorem G0 (k : Nat) : Gd σ 0 k ↔ dN σ ≠ 0 := by
  unfold Gd
  rw [fin0]
  exact ⟨fun h => h.2, fun h => ⟨rfl, h⟩⟩
theorem ri1 (e : Nat → Nat) : riN e 1 = 1 := if_pos (Or.inl rfl)
theorem ri2 (e : Nat → Nat) : riN e 2 = if e 1 < e 0 then 1 else 0 := by
  show (if 1 = 0 ∨ e 1 < e 0 then riN e 1 else 0) = _
  rw [ri1]
  by_cases c : e 1 < e 0
  · rw [if_pos (Or.inr c), if_pos c]
  · rw [if_neg (by rintro (h | h); exact absurd h (by decide); exact c h), if_neg c]
theorem ri3 (e : Nat → Nat) : riN e 3 = if e 2 < e 1 ∧ e 1 < e 0 then 1 else 0 := by
  show (if 2 = 0 ∨ e 2 < e 1 then riN e 2 else 0) = _
  rw [ri2]
  by_cases c : e 2 < e 1
  · rw [if_pos (Or.inr c)]
    by_cases d : e 1 < e 0
    · rw [if_pos d, if_pos ⟨c, d⟩]
    · rw [if_neg d, if_neg (fun h => d h.2)]
  · rw [if_neg (by rintro (h | h); exact absurd h (by decide); exact c h), if_neg (fun h => c h.1)]
theorem G1 {k : Nat} (hk : k < sD σ - sA σ) : Gd σ 1 k ↔ D1 σ 0 (sL σ) k ≠ 0 := by
  unfold Gd
  rw [fin1 (a := k) hk (show mtk (sD σ - sA σ) 1 k 0 = k from Nat.mod_eq_of_lt hk), ri1]
  exact ⟨fun h => h.2, fun h => ⟨rfl, h⟩⟩
theorem G2 {k : Nat} (hT : 0 < sD σ - sA σ) : Gd σ 2 k ↔ eN (sD σ - sA σ) k 1 < eN (sD σ - sA σ) k 0 ∧ D2 σ 0 (sL σ) (eN (sD σ - sA σ) k 1) (eN (sD σ - sA σ) k 0) ≠ 0 := by
  unfold Gd
  rw [ri2]
  by_cases c : eN (sD σ - sA σ) k 1 < eN (sD σ - sA σ) k 0
  · rw [if_pos c, fin2 c (Nat.mod_lt _ hT) (show mtk (sD σ - sA σ) 2 k 0 = _ from rfl) (show mtk (sD σ - sA σ) 2 k 1 = _ from rfl)]
    exact ⟨fun h => ⟨c, h.2⟩, fun h => ⟨rfl, h.2⟩⟩
  · rw [if_neg c]
    exact ⟨fun h => absurd h.1 (by decide), fun h => absurd h.1 c⟩
theorem G3 {k : Nat} (hT : 0 < sD σ - sA σ) : Gd σ 3 k ↔ (eN (sD σ - sA σ) k 2 < eN (sD σ - sA σ) k 1 ∧ eN (sD σ - sA σ) k 1 < eN (sD σ - sA σ) k 0) ∧ D3 σ (eN (sD σ - sA σ) k 2) (eN (sD σ - sA σ) k 1) (eN (sD σ - sA σ) k 0) ≠ 0 := by
  unfold Gd
  rw [ri3]
  by_cases c : eN (sD σ - sA σ) k 2 < eN (sD σ - sA σ) k 1 ∧ eN (sD σ - sA σ) k 1 < eN (sD σ - sA σ) k 0
  · rw [if_pos c, fin3 c.1 c.2 (Nat.mod_lt _ hT) (show mtk (sD σ - sA σ) 3 k 0 = _ from rfl) (show mtk (sD σ - sA σ) 3 k 1 = _ from rfl) (show mtk (sD σ - sA σ) 3 k 2 = _ from rfl)]
    exact ⟨fun h => ⟨c, h.2⟩, fun h => ⟨rfl, h.2⟩⟩
  · rw [if_neg c]
    exact ⟨fun h => absurd h.1 (by decide), fun h => absurd h.1 c⟩
-- numbers with two digits
theorem dv {x c T : Nat} (hc : c < T) : (x * T + c) / T = x := by
  rw [Nat.mul_comm, Nat.mul_add_div (by omega), Nat.div_eq_of_lt hc, Nat.add_zero]
theorem md {x c T : Nat} (hc : c < T) : (x * T + c) % T = c := by
  rw [Nat.mul_comm, Nat.mul_add_mod, Nat.mod_eq_of_lt hc]
theorem key {x y c d T : Nat} (hc : c < T) (h : x * T + c < y * T + d) (hd : d < T) : x < y ∨ (x = y ∧ c < d) := by
  rcases Nat.lt_trichotomy x y with h1 | h1 | h1
  · exact Or.inl h1
  · subst h1; exact Or.inr ⟨rfl, by omega⟩
  · have := Nat.mul_le_mul_right T (show y + 1 ≤ x from h1)
    rw [Nat.add_mul, Nat.one_mul] at this
    omega
theorem keyU {x c T B : Nat} (hx : x < B) (hc : c < T) : x * T + c < B * T := by
  have := Nat.mul_le_mul_right T (show x + 1 ≤ B from hx)
  rw [Nat.add_mul, Nat.one_mul] at this
  omega
theorem split_ (k T : Nat) (hT : 0 < T) : k = k / T * T + k % T := by
  have := Nat.div_add_mod k T
  rw [Nat.mul_comm] at this
  omega
theorem foc {r : Int32} {g : Nat → Int32} (h : FoC σ r g) : OutK σ r g := by
  rcases h with ⟨h1, h2⟩ | ⟨hz, h⟩
  · exact Or.inl ⟨0, 0, by decide, h1, Nat.one_pos, (G0 0).mpr h2, fun k' hk => absurd hk (Nat.not_lt_zero _), fun M' hM => absurd hM (Nat.not_lt_zero _), fun i hi => absurd hi (Nat.not_lt_zero _)⟩
  · have N0 : ∀ k', k' < (sD σ - sA σ) ^ 0 → ¬ Gd σ 0 k' := fun k' _ hh => (G0 k').mp hh hz
    have lt1 : ∀ M', M' < 1 → ∀ k', k' < (sD σ - sA σ) ^ M' → ¬ Gd σ M' k' := fun M' hM => by
      have : M' = 0 := by omega
      subst this; exact N0
    rcases h with ⟨h1, a, ha, q1, q2, q3⟩ | ⟨n1, h⟩
    · refine Or.inl ⟨1, a, by decide, h1, by rw [Nat.pow_one]; exact ha, (G1 ha).mpr q1, fun k' hk hh => (G1 (by omega)).mp hh (q2 k' hk), lt1, fun i hi => ?_⟩
      have : i = 0 := by omega
      subst this
      rw [show mtk (sD σ - sA σ) 1 a 0 = a from Nat.mod_eq_of_lt ha]
      exact q3
    · have N1 : ∀ k', k' < (sD σ - sA σ) ^ 1 → ¬ Gd σ 1 k' := fun k' hk hh => by
        rw [Nat.pow_one] at hk
        exact (G1 hk).mp hh (n1 k' hk)
      have lt2 : ∀ M', M' < 2 → ∀ k', k' < (sD σ - sA σ) ^ M' → ¬ Gd σ M' k' := fun M' hM => by
        rcases (by omega : M' = 0 ∨ M' = 1) with rfl | rfl
        · exact N0
        · exact N1
      rcases h with ⟨h1, a, c, hac, hc, q1, q2, q3, q4, q5⟩ | ⟨n2, h⟩
      · have hT : 0 < sD σ - sA σ := by omega
        have ka : (a * (sD σ - sA σ) + c) / (sD σ - sA σ) = a := dv hc
        have kc : (a * (sD σ - sA σ) + c) % (sD σ - sA σ) = c := md hc
        have e0 : eN (sD σ - sA σ) (a * (sD σ - sA σ) + c) 0 = c := kc
        have e1 : eN (sD σ - sA σ) (a * (sD σ - sA σ) + c) 1 = a := by
          show (a * (sD σ - sA σ) + c) / (sD σ - sA σ) % (sD σ - sA σ) = a
          rw [ka, Nat.mod_eq_of_lt (by omega)]
        refine Or.inl ⟨2, a * (sD σ - sA σ) + c, by decide, h1, ?_, (G2 hT).mpr ?_, fun k' hk hh => ?_, lt2, fun i hi => ?_⟩
        · rw [Nat.pow_succ, Nat.pow_one]
          exact keyU (by omega) hc
        · rw [e0, e1]; exact ⟨hac, q1⟩
        · obtain ⟨g1, g2⟩ := (G2 hT).mp hh
          have hs := split_ k' (sD σ - sA σ) hT
          have hm0 : k' % (sD σ - sA σ) < sD σ - sA σ := Nat.mod_lt _ hT
          rw [hs] at hk
          have hx := key hm0 hk hc
          have hx1 : k' / (sD σ - sA σ) ≤ a := by omega
          have f0 : eN (sD σ - sA σ) k' 0 = k' % (sD σ - sA σ) := rfl
          have f1 : eN (sD σ - sA σ) k' 1 = k' / (sD σ - sA σ) := Nat.mod_eq_of_lt (show k' / (sD σ - sA σ) < sD σ - sA σ by omega)
          rw [f0, f1] at g1 g2
          rcases hx with hx | ⟨hx, hy⟩
          · exact g2 (q2 _ _ hx g1 hm0)
          · rw [hx] at g1 g2
            exact g2 (q3 _ g1 hy)
        · rcases (by omega : i = 0 ∨ i = 1) with rfl | rfl
          · rw [show mtk (sD σ - sA σ) 2 (a * (sD σ - sA σ) + c) 0 = a from e1]; exact q4
          · rw [show mtk (sD σ - sA σ) 2 (a * (sD σ - sA σ) + c) 1 = c from e0]; exact q5
      · have N2 : ∀ k', k' < (sD σ - sA σ) ^ 2 → ¬ Gd σ 2 k' := fun k' hk hh => by
          have hT : 0 < sD σ - sA σ := by
            rcases Nat.eq_zero_or_pos (sD σ - sA σ) with h | h
            · rw [h] at hk; exact absurd hk (Nat.not_lt_zero _)
            · exact h
          obtain ⟨g1, g2⟩ := (G2 hT).mp hh
          exact g2 (n2 _ _ g1 (Nat.mod_lt _ hT))
        have lt3 : ∀ M', M' < 3 → ∀ k', k' < (sD σ - sA σ) ^ M' → ¬ Gd σ M' k' := fun M' hM => by
          rcases (by omega : M' = 0 ∨ M' = 1 ∨ M' = 2) with rfl | rfl | rfl
          · exact N0
          · exact N1
          · exact N2
        rcases h with ⟨h1, a, c, d, hac, hcd, hd, q1, q2, q3, q4, q5, q6, q7⟩ | ⟨h1, n3⟩
        · have hT : 0 < sD σ - sA σ := by omega
          have hc : c < sD σ - sA σ := by omega
          have k1 : ((a * (sD σ - sA σ) + c) * (sD σ - sA σ) + d) / (sD σ - sA σ) = a * (sD σ - sA σ) + c := dv hd
          have e0 : eN (sD σ - sA σ) ((a * (sD σ - sA σ) + c) * (sD σ - sA σ) + d) 0 = d := md hd
          have e1 : eN (sD σ - sA σ) ((a * (sD σ - sA σ) + c) * (sD σ - sA σ) + d) 1 = c := by
            show ((a * (sD σ - sA σ) + c) * (sD σ - sA σ) + d) / (sD σ - sA σ) % (sD σ - sA σ) = c
            rw [k1, md hc]
          have e2 : eN (sD σ - sA σ) ((a * (sD σ - sA σ) + c) * (sD σ - sA σ) + d) 2 = a := by
            show ((a * (sD σ - sA σ) + c) * (sD σ - sA σ) + d) / (sD σ - sA σ) / (sD σ - sA σ) % (sD σ - sA σ) = a
            rw [k1, dv hc, Nat.mod_eq_of_lt (by omega)]
          refine Or.inl ⟨3, (a * (sD σ - sA σ) + c) * (sD σ - sA σ) + d, by decide, h1, ?_, (G3 hT).mpr ?_, fun k' hk hh => ?_, lt3, fun i hi => ?_⟩
          · rw [Nat.pow_succ, Nat.pow_succ, Nat.pow_one]
            exact keyU (keyU (by omega) hc) hd
          · rw [e0, e1, e2]; exact ⟨⟨hac, hcd⟩, q1⟩
          · obtain ⟨⟨g1, g2⟩, g3⟩ := (G3 hT).mp hh
            have hs := split_ k' (sD σ - sA σ) hT
            have hs2 := split_ (k' / (sD σ - sA σ)) (sD σ - sA σ) hT
            have hm0 : k' % (sD σ - sA σ) < sD σ - sA σ := Nat.mod_lt _ hT
            have hm1 : k' / (sD σ - sA σ) % (sD σ - sA σ) < sD σ - sA σ := Nat.mod_lt _ hT
            rw [hs] at hk
            have hx := key hm0 hk hd
            have f0 : eN (sD σ - sA σ) k' 0 = k' % (sD σ - sA σ) := rfl
            have f1 : eN (sD σ - sA σ) k' 1 = k' / (sD σ - sA σ) % (sD σ - sA σ) := rfl
            have f2' : ∀ z, z < sD σ - sA σ → k' / (sD σ - sA σ) / (sD σ - sA σ) = z → eN (sD σ - sA σ) k' 2 = z := fun z hz e => by
              show k' / (sD σ - sA σ) / (sD σ - sA σ) % (sD σ - sA σ) = z
              rw [e, Nat.mod_eq_of_lt hz]
            rcases hx with hx | ⟨hx, hy⟩
            · rw [hs2] at hx
              rcases key hm1 hx hc with hz | ⟨hz, hv⟩
              · have f2 := f2' _ (by omega) (rfl : k' / (sD σ - sA σ) / (sD σ - sA σ) = _)
                rw [f0, f1, f2] at g3
                rw [f1, f2] at g1
                rw [f0, f1] at g2
                exact g3 (q2 _ _ _ hz g1 g2 hm0)
              · have f2 := f2' a (by omega) hz
                rw [f0, f1, f2] at g3
                rw [f1, f2] at g1
                rw [f0, f1] at g2
                exact g3 (q3 _ _ g1 hv g2 hm0)
            · have hq1 : k' / (sD σ - sA σ) % (sD σ - sA σ) = c := by rw [hx, md hc]
              have f2 := f2' a (by omega) (by rw [hx, dv hc])
              rw [f0, f1, f2, hq1] at g3
              rw [f0, f1, hq1] at g2
              exact g3 (q4 _ g2 hy)
          · rcases (by omega : i = 0 ∨ i = 1 ∨ i = 2) with rfl | rfl | rfl
            · rw [show mtk (sD σ - sA σ) 3 ((a * (sD σ - sA σ) + c) * (sD σ - sA σ) + d) 0 = a from e2]; exact q5
            · rw [show mtk (sD σ - sA σ) 3 ((a * (sD σ - sA σ) + c) * (sD σ - sA σ) + d) 1 = c from e1]; exact q6
            · rw [show mtk (sD σ - sA σ) 3 ((a * (sD σ - sA σ) + c) * (sD σ - sA σ) + d) 2 = d from e0]; exact q7
        · refine Or.inr ⟨h1, fun M' hM k' hk hh => ?_⟩
          rcases (by omega : M' < 3 ∨ M' = 3) with h | rfl
          · exact lt3 M' h k' hk hh
          · have hT : 0 < sD σ - sA σ := by
              rcases Nat.eq_zero_or_pos (sD σ - sA σ) with h | h
              · rw [h] at hk; exact absurd hk (Nat.not_lt_zero _)
              · exact h
            obtain ⟨⟨g1, g2⟩, g3⟩ := (G3 hT).mp hh
            exact g3 (n3 _ _ _ g1 g2 (Nat.mod_lt _ hT))
theorem m1x {x : Int32} (h : (-1 : Int32) ≤ x) : x = -1 ∨ (0 : Int32) ≤ x := by
  by_cases c : (0 : Int32) ≤ x
  · exact Or.inr c
  · refine Or.inl ?_
    rw [Int32.le_iff_toInt_le] at h c
    have h1 : (-1 : Int32).toInt = -1 := by decide
    have h0 : (0 : Int32).toInt = 0 := by decide
    rw [h1] at h
    rw [h0] at c
    apply Int32.toInt_inj.mp
    rw [h1]
    omega
/-- the answer, of what was found -/
def maV (x : Int32) (r : Int32) (v : Int32) : Int32 := if x = -1 then r else if r ≤ x then -9 else v
theorem q_matches (h : R w σ) (x : Int32) : Ans (fX9_matches w x) (fun v => fX10_matches v x) := by
  by_cases hx : (-1 : Int32) ≤ x
  · obtain ⟨r, w1, a1, a2⟩ := c_fewestM h.c h.g
    have cq : Cq w w1 := Cq.of (rX6_fewestMatches a1) (by decide)
    have n0 : ∀ z : Int32, (0 : Int32) ≤ z → z ≠ -1 := fun z hz e => by rw [e] at hz; exact absurd hz (by decide)
    have n1 : ∀ z : Int32, (0 : Int32) ≤ z → (-9 : Int32) ≤ z := fun z hz => Int32.le_trans (by decide) hz
    rcases foc a2 with ⟨M, k, hM, rfl, hk, g1, g2, g3, g4⟩ | ⟨rfl, g1⟩
    · refine Ans.q (r := maV x (nI M) (nI (mtk (sD σ - sA σ) M k x.toNatClampNeg))) h ⟨w1, ?_, cq⟩ fun v hv => ?_
      · unfold fX9_matches maV
        rw [if_pos hx, a1, bd_e, un2_e]
        rcases m1x hx with rfl | h0
        · rw [if_pos rfl, if_pos rfl]
        · rw [if_neg (n0 x h0), if_neg (n0 x h0)]
          by_cases c : nI M ≤ x
          · rw [if_pos c, if_pos c]
          · rw [if_neg c, if_neg c]
            rcases arg x 3 with hy | hy | ⟨p, hp, rfl⟩
            · exact absurd h0 (lo_ge hy)
            · exact absurd (Int32.le_trans (by rw [n_le (by omega) (by decide)]; omega) hy) c
            · have hpM : p < M := by rw [n_le (by omega) (by omega)] at c; omega
              rw [if_neg (by rw [c3, n_le (by decide) (by omega)]; omega), gdn (by omega) (by decide), n_cl (by omega), g4 p hpM]
      · have main : ∃ y, iter (fun s : Int32 × Wd => fX10_matches_b14 x s.1 s.2) FU (0, v) = some y ∧ y.1 = maV x (nI M) (nI (mtk (sD σ - sA σ) M k x.toNatClampNeg)) ∧ MoIs y.2 σ ∧ Mq v y.2 := by
          refine itn (fun n (s : Int32 × Wd) => s.1 = nI n ∧ MoIs s.2 σ ∧ Mq v s.2) _ M ⟨rfl, hv.o, Ag.rf⟩ ?_ ?_ (by omega)
          · rintro n ⟨y, u⟩ hn ⟨e1, e2, e3⟩
            dsimp only at e1 e2 e3
            subst e1
            obtain ⟨r2, u1, b1, b2, b3, b4⟩ := m_find e2 h.g h.m2 (many := n) (by omega)
            rcases b4 with ⟨rfl, b5⟩ | ⟨-, k2, b5, b6, -⟩
            · refine ⟨(nI (n + 1), u1), ?_, rfl, b2, e3.tr b3⟩
              show fX10_matches_b14 _ _ _ = _
              unfold fX10_matches_b14
              rw [if_neg (by rw [c4, n_le (by decide) (by omega)]; omega), b1, bd_e, un2_e, if_pos rfl, nI_1, lt_e]
            · exact absurd b6 (g3 n hn k2 b5)
          · rintro ⟨y, u⟩ ⟨e1, e2, e3⟩
            dsimp only at e1 e2 e3
            subst e1
            obtain ⟨r2, u1, b1, b2, b3, b4⟩ := m_find e2 h.g h.m2 (many := M) (by omega)
            rcases b4 with ⟨rfl, b5⟩ | ⟨rfl, k2, b5, b6, b7, b8⟩
            · exact absurd g1 (b5 k hk)
            · have hkk : k2 = k := by
                rcases Nat.lt_trichotomy k2 k with h | h | h
                · exact absurd b6 (g2 k2 h)
                · exact h
                · exact absurd g1 (b7 k h)
              subst hkk
              refine ⟨(maV x (nI M) (nI (mtk (sD σ - sA σ) M k2 x.toNatClampNeg)), u1), ?_, rfl, b2, e3.tr b3⟩
              show fX10_matches_b14 _ _ _ = _
              unfold fX10_matches_b14 maV
              rw [if_neg (by rw [c4, n_le (by decide) (by omega)]; omega), b1, bd_e, un2_e, if_neg (show ¬ (1 : Int32) = 0 by decide)]
              rcases m1x hx with rfl | h0
              · rw [if_neg (show ¬ (0 : Int32) ≤ -1 by decide), if_pos rfl]
              · rw [if_pos h0, if_neg (n0 x h0)]
                by_cases c : nI M ≤ x
                · rw [if_pos c, if_pos c]
                · rw [if_neg c, if_neg c]
                  rcases arg x 3 with hy | hy | ⟨p, hp, rfl⟩
                  · exact absurd h0 (lo_ge hy)
                  · exact absurd (Int32.le_trans (by rw [n_le (by omega) (by decide)]; omega) hy) c
                  · have hpM : p < M := by rw [n_le (by omega) (by omega)] at c; omega
                    rw [gdn (by omega) (by decide), n_cl (by omega), b8 p hpM]
        obtain ⟨⟨y, u⟩, m1, m2, m3, m4⟩ := main
        dsimp only at m2 m3 m4
        refine ⟨u, ?_, m3, m4⟩
        show fX10_matches v x = _
        unfold fX10_matches
        rw [if_pos hx, m1, m2]
    · refine Ans.q (r := -9) h ⟨w1, ?_, cq⟩ fun v hv => ?_
      · unfold fX9_matches
        rw [if_pos hx, a1, bd_e, un2_e]
        rcases m1x hx with rfl | h0
        · rw [if_pos rfl]
        · rw [if_neg (n0 x h0), if_pos (n1 x h0)]
      · have main : ∃ y, iter (fun s : Int32 × Wd => fX10_matches_b14 x s.1 s.2) FU (0, v) = some y ∧ y.1 = -9 ∧ MoIs y.2 σ ∧ Mq v y.2 := by
          refine itn (fun n (s : Int32 × Wd) => s.1 = nI n ∧ MoIs s.2 σ ∧ Mq v s.2) _ 4 ⟨rfl, hv.o, Ag.rf⟩ ?_ ?_ (by omega)
          · rintro n ⟨y, u⟩ hn ⟨e1, e2, e3⟩
            dsimp only at e1 e2 e3
            subst e1
            obtain ⟨r2, u1, b1, b2, b3, b4⟩ := m_find e2 h.g h.m2 (many := n) (by omega)
            rcases b4 with ⟨rfl, b5⟩ | ⟨-, k2, b5, b6, -⟩
            · refine ⟨(nI (n + 1), u1), ?_, rfl, b2, e3.tr b3⟩
              show fX10_matches_b14 _ _ _ = _
              unfold fX10_matches_b14
              rw [if_neg (by rw [c4, n_le (by decide) (by omega)]; omega), b1, bd_e, un2_e, if_pos rfl, nI_1, lt_e]
            · exact absurd b6 (g1 n (by omega) k2 b5)
          · rintro ⟨y, u⟩ ⟨e1, e2, e3⟩
            dsimp only at e1 e2 e3
            subst e1
            refine ⟨(-9, u), ?_, rfl, e2, e3⟩
            show fX10_matches_b14 _ _ _ = _
            unfold fX10_matches_b14
            rw [if_pos (show (4 : Int32) ≤ nI 4 by decide)]
        obtain ⟨⟨y, u⟩, m1, m2, m3, m4⟩ := main
        dsimp only at m2 m3 m4
        refine ⟨u, ?_, m3, m4⟩
        show fX10_matches v x = _
        unfold fX10_matches
        rw [if_pos hx, m1, m2]
  · exact Ans.nof h 4 (by decide) (by decide) (by unfold fX9_matches; simp only [if_neg hx, rf1, rf2, rf3, rf4, rf6, bd_e, un2_e] <;> rfl) (fun v e => by unfold fX10_matches; simp only [if_neg hx, e _ (show (42 : Nat) ≠ 12 by decide), no1, no2, no3, no4, no6, bd_e, un2_e] <;> rfl)
end

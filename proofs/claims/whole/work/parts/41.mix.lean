/-! people in other places: changed, turned -/
def mx (σ : St) (f : Nat → Nat) : St := ((fun j => if j = 1 then mask (fun q => (sL σ).testBit (f q)) (sP σ) else σ.1 j), (fun q => sK σ (f q)), (fun q => sG σ (f q)), σ.2.2.2)
def upF (f : Nat → Nat) (a c : Nat) : Nat → Nat := fun q => if q = a then c else f q
def swF (f : Nat → Nat) (a c : Nat) : Nat → Nat := fun q => if q = a then f c else if q = c then f a else f q
section
variable {w w1 w2 : Wd} {σ τ : St} {b : Nat}
theorem good_mx (hg : good σ) (f : Nat → Nat) : good (mx σ f) := by
  obtain ⟨a1, a2, a3, a4, a5, a6, a7, a8, a9, a10, a11, a12⟩ := hg
  refine ⟨a1, mask_lt _ _, fun q hq => ?_, a4, a5, a6, a7, a8, fun j => a9 _, fun j => a10 _, a11, a12⟩
  have hq2 : (mask (fun q => (sL σ).testBit (f q)) (sP σ)).testBit q = true := hq
  rw [mask_bit, Bool.and_eq_true] at hq2
  exact a3 _ hq2.2
theorem mx_id (hg : good σ) : mx σ (fun q => q) = σ := by
  unfold mx
  refine Prod.ext (funext fun j => ?_) rfl
  dsimp only
  by_cases h : j = 1
  · subst h
    rw [if_pos rfl]
    refine bits_ext fun q => ?_
    rw [mask_bit]
    by_cases c : q < sP σ
    · simp [c]
    · cases hb : (sL σ).testBit q with
      | true => exact absurd (bit_lt hg.L hb) c
      | false => simp
  · rw [if_neg h]
theorem mx_eq {f g : Nat → Nat} (h : ∀ q, q < 8 → f q = g q) (hP : sP σ ≤ 8) (hC : CoIs w 3 (mx σ f)) : CoIs w 3 (mx σ g) := by
  obtain ⟨h1, h2, h3, h4, h5⟩ := hC
  refine ⟨fun k hk => ?_, fun k hk => ?_, fun k hk => ?_, h4, h5⟩
  · rw [h1 k hk]
    show nI (if k = 1 then _ else _) = nI (if k = 1 then _ else _)
    by_cases c : k = 1
    · rw [if_pos c, if_pos c]
      congr 1
      exact mask_congr fun q hq => by rw [h q (by omega)]
    · rw [if_neg c, if_neg c]
  · rw [h2 k hk]; show nI (sK σ (f k)) = nI (sK σ (g k)); rw [h k hk]
  · rw [h3 k hk]; show nI (sG σ (f k)) = nI (sG σ (g k)); rw [h k hk]
theorem mx_eqM {f g : Nat → Nat} (h : ∀ q, q < 8 → f q = g q) (hP : sP σ ≤ 8) (hC : MoIs w (mx σ f)) : MoIs w (mx σ g) := by
  obtain ⟨h1, ⟨h2, h3, h4, h5⟩, h6, h7, h8, h9⟩ := hC
  refine ⟨h1, ⟨h2, ?_, h4, h5⟩, fun k hk => ?_, fun k hk => ?_, h8, h9⟩
  · rw [h3]
    show nI (mask _ _) = nI (mask _ _)
    congr 1
    exact mask_congr fun q hq => by rw [h q (by omega)]
  · rw [h6 k hk]; show nI (sK σ (f k)) = nI (sK σ (g k)); rw [h k hk]
  · rw [h7 k hk]; show nI (sG σ (f k)) = nI (sG σ (g k)); rw [h k hk]
theorem hasOne_t (hC : CoIs w b σ) (hg : good σ) {p : Nat} (hp : p < sP σ) : fX2_hasOne b w (nI p) = 1 := by
  rcases c_hasOne hC hg (nI p) with ⟨_, d⟩ | ⟨c, _⟩
  · exact absurd ⟨p, hp, rfl⟩ d
  · exact c
theorem c_copy {f : Nat → Nat} (h1 : CoIs w 1 σ) (h3 : CoIs w 3 (mx σ f)) (hg : good σ) {a c : Nat} (ha : a < sP σ) (hc : c < sP σ) : ∃ w1, fX2_copyOne 3 1 w (nI a) (nI c) = some w1 ∧ CoIs w1 3 (mx σ (upF f a c)) ∧ CoIs w1 1 σ := by
  have h8 := hg.P
  have gm := good_mx hg f
  unfold fX2_copyOne
  rw [hasOne_t h3 gm (p := a) ha, if_neg (by decide), hasOne_t h1 hg hc, if_neg (by decide), gdn (by omega) (by decide), gdn (by omega) (by decide), n_cl (by omega), n_cl (by omega), show w.1 (9 + 4 * 1) c = nI (sK σ c) from h1.K (by omega), lt_e]
  have s1 := h3.wrK co3 a (sK σ c)
  have s2 := s1.wrG co3 a (sG σ c)
  have t1 : CoIs (upI (upI w (9 + 4 * 3) a (nI (sK σ c))) (10 + 4 * 3) a (nI (sG σ c))) 1 σ := h1
  rw [show (upI w (9 + 4 * 3) a (nI (sK σ c))).1 (10 + 4 * 1) c = nI (sG σ c) from h1.G (by omega), lt_e, c_isLit co1 t1 hg hc, bd_e]
  have hL3 : (upI (upI w (9 + 4 * 3) a (nI (sK σ c))) (10 + 4 * 3) a (nI (sG σ c))).1 3 1 = nI (mask (fun q => (sL σ).testBit (f q)) (sP σ)) := h3.L
  have hk : (if (sL σ).testBit c = true then (1 : Int32) else 0) = nI (if (sL σ).testBit c = true then 1 else 0) := by split <;> rfl
  rw [hk, putLit_t hL3 (by omega) (by split <;> omega), lt_e]
  have s3 := s2.wr co3 1 (setLit (mask (fun q => (sL σ).testBit (f q)) (sP σ)) a (if (sL σ).testBit c = true then 1 else 0))
  refine ⟨_, rfl, ?_, h1⟩
  have e : wr (wrG (wrK (mx σ f) a (sK σ c)) a (sG σ c)) 1 (setLit (mask (fun q => (sL σ).testBit (f q)) (sP σ)) a (if (sL σ).testBit c = true then 1 else 0)) = mx σ (upF f a c) := by
    unfold mx wr wrG wrK upF
    refine Prod.ext (funext fun j => ?_) (Prod.ext (funext fun j => ?_) (Prod.ext (funext fun j => ?_) rfl))
    · dsimp only
      by_cases h : j = 1
      · subst h
        rw [if_pos rfl, if_pos rfl]
        refine bits_ext fun q => ?_
        rw [mask_bit]
        unfold setLit
        by_cases hb : (sL σ).testBit c = true
        · rw [if_pos hb, if_neg (by decide), Nat.testBit_or, mask_bit, Nat.testBit_two_pow]
          by_cases d : q = a
          · subst d; simp [ha, hb]
          · have d2 : decide (a = q) = false := decide_eq_false fun e => d e.symm
            rw [d2, Bool.or_false, if_neg d]
        · rw [if_neg hb, if_pos rfl, nd_bit, mask_bit, Nat.testBit_two_pow]
          by_cases d : q = a
          · subst d; simp [hb]
          · have d2 : decide (a = q) = false := decide_eq_false fun e => d e.symm
            rw [d2, if_neg d]; simp
      · rw [if_neg h, if_neg h, if_neg h]
    · dsimp only
      by_cases h : j = a
      · rw [if_pos h, if_pos h]
      · rw [if_neg h, if_neg h]
    · dsimp only
      by_cases h : j = a
      · rw [if_pos h, if_pos h]
      · rw [if_neg h, if_neg h]
  rw [e] at s3
  exact s3
theorem tb_t {a p : Nat} (ha : a < 2 ^ 31) (hp : p < 31) : (nI a >>> (nI p &&& 31)) = nI (a >>> p) := by
  rw [pk_shrN ha _ p (s31 p hp), Nat.shiftRight_eq_div_pow]
theorem shl_t : ∀ k, k < 2 → ∀ p, p < 8 → nI k <<< (nI p &&& 31) = nI (k <<< p) := by decide +kernel
theorem m_exch {f : Nat → Nat} (hM : MoIs w (mx σ f)) (hg : good σ) {a c : Nat} (ha : a < sP σ) (hc : c < sP σ) (hn : a ≠ c) : ∃ w1, fX10_exchanges w (nI a) (nI c) = some w1 ∧ MoIs w1 (mx σ (swF f a c)) := by
  have h8 := hg.P
  have gm := good_mx hg f
  have hL : sL (mx σ f) < 256 := lt256 gm.L h8
  unfold fX10_exchanges
  have e4 : ((nI (sL (mx σ f)) >>> (nI a &&& 31)) ^^^ (nI (sL (mx σ f)) >>> (nI c &&& 31))) &&& 1 = nI (if ((sL (mx σ f)).testBit a ^^ (sL (mx σ f)).testBit c) then 1 else 0) := by
    rw [tb_t (by omega) (by omega), tb_t (by omega) (by omega), n_xor, show (1 : Int32) = nI 1 from rfl, n_and]
    congr 1
    refine bits_ext fun q => ?_
    rw [Nat.testBit_and, Nat.testBit_xor, Nat.testBit_shiftRight, Nat.testBit_shiftRight]
    by_cases d : q = 0
    · subst d
      rw [Nat.add_zero, Nat.add_zero]
      cases (sL (mx σ f)).testBit a <;> cases (sL (mx σ f)).testBit c <;> rfl
    · have : (1 : Nat).testBit q = false := by rw [show (1 : Nat) = 2 ^ 0 from rfl, Nat.testBit_two_pow]; simp; omega
      rw [this, Bool.and_false]
      split
      · exact this.symm
      · simp
  rw [gdn (by omega) (by decide), n_cl (by omega), hM.K (by omega), lt_e, hM.G (by omega), lt_e, hM.L, e4, lt_e, gdn (by omega) (by decide), n_cl (by omega), hM.K (by omega), lt_e]
  have g1 : (upI w 45 a (nI (sK (mx σ f) c))).1 46 c = nI (sG (mx σ f) c) := hM.G (by omega)
  rw [g1, lt_e, lt_e, lt_e]
  have g2 : (upI (upI (upI (upI w 45 a (nI (sK (mx σ f) c))) 46 a (nI (sG (mx σ f) c))) 45 c (nI (sK (mx σ f) a))) 46 c (nI (sG (mx σ f) a))).1 42 7 = nI (sL (mx σ f)) := hM.L
  have hk2 : (if ((sL (mx σ f)).testBit a ^^ (sL (mx σ f)).testBit c) then 1 else 0 : Nat) < 2 := by split <;> omega
  rw [g2, shl_t _ hk2 a (by omega), shl_t _ hk2 c (by omega), n_or, n_xor, lt_e]
  refine ⟨_, rfl, ?_⟩
  have s := (((((hM.wK a (sK (mx σ f) c)).wG a (sG (mx σ f) c)).wK c (sK (mx σ f) a)).wG c (sG (mx σ f) a)).wL (sL (mx σ f) ^^^ ((if ((sL (mx σ f)).testBit a ^^ (sL (mx σ f)).testBit c) then 1 else 0) <<< a ||| (if ((sL (mx σ f)).testBit a ^^ (sL (mx σ f)).testBit c) then 1 else 0) <<< c)))
  have e : wr (wrG (wrK (wrG (wrK (mx σ f) a (sK (mx σ f) c)) a (sG (mx σ f) c)) c (sK (mx σ f) a)) c (sG (mx σ f) a)) 1 (sL (mx σ f) ^^^ ((if ((sL (mx σ f)).testBit a ^^ (sL (mx σ f)).testBit c) then 1 else 0) <<< a ||| (if ((sL (mx σ f)).testBit a ^^ (sL (mx σ f)).testBit c) then 1 else 0) <<< c)) = mx σ (swF f a c) := by
    refine Prod.ext (funext fun j => ?_) (Prod.ext (funext fun j => ?_) (Prod.ext (funext fun j => ?_) rfl))
    · show (if j = 1 then _ else (mx σ f).1 j) = (if j = 1 then _ else σ.1 j)
      by_cases h : j = 1
      · rw [if_pos h, if_pos h]
        refine bits_ext fun q => ?_
        have hLb : ∀ q, (sL (mx σ f)).testBit q = (decide (q < sP σ) && (sL σ).testBit (f q)) := fun q => mask_bit _ _ _
        have hsh : ∀ (t : Bool) (x : Nat), ((if t then 1 else 0 : Nat) <<< x).testBit q = (t && decide (q = x)) := fun t x => by
          cases t with
          | false => simp
          | true =>
            rw [if_pos rfl, Nat.shiftLeft_eq, Nat.one_mul, Nat.testBit_two_pow, Bool.true_and]
            exact decide_eq_decide.mpr ⟨fun h => h.symm, fun h => h.symm⟩
        rw [Nat.testBit_xor, Nat.testBit_or, hsh, hsh, mask_bit, hLb q, hLb a, hLb c]
        unfold swF
        have da : decide (a < sP σ) = true := decide_eq_true ha
        have dc : decide (c < sP σ) = true := decide_eq_true hc
        rw [da, dc, Bool.true_and, Bool.true_and]
        by_cases h1 : q = a
        · subst h1
          rw [if_pos rfl, decide_eq_true rfl, decide_eq_false hn, da]
          cases (sL σ).testBit (f q) <;> cases (sL σ).testBit (f c) <;> rfl
        · by_cases h2 : q = c
          · subst h2
            rw [if_neg h1, if_pos rfl, decide_eq_true rfl, decide_eq_false h1, dc]
            cases (sL σ).testBit (f q) <;> cases (sL σ).testBit (f a) <;> rfl
          · rw [if_neg h1, if_neg h2, decide_eq_false h1, decide_eq_false h2]
            simp
      · rw [if_neg h, if_neg h]
        show (if j = 1 then _ else σ.1 j) = _
        rw [if_neg h]
    · show (if j = c then sK σ (f a) else if j = a then sK σ (f c) else sK σ (f j)) = sK σ (swF f a c j)
      unfold swF
      by_cases h1 : j = a
      · rw [if_pos h1, if_neg (by omega), if_pos h1]
      · by_cases h2 : j = c
        · rw [if_pos h2, if_neg h1, if_pos h2]
        · rw [if_neg h2, if_neg h1, if_neg h1, if_neg h2]
    · show (if j = c then sG σ (f a) else if j = a then sG σ (f c) else sG σ (f j)) = sG σ (swF f a c j)
      unfold swF
      by_cases h1 : j = a
      · rw [if_pos h1, if_neg (by omega), if_pos h1]
      · by_cases h2 : j = c
        · rw [if_pos h2, if_neg h1, if_pos h2]
        · rw [if_neg h2, if_neg h1, if_neg h1, if_neg h2]
  rw [e] at s
  exact s
end

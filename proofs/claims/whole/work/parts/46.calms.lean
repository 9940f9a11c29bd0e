/-! calms -/
def uz (σ : St) (a c : Nat) : Nat → Nat := fun k => if k = c then 0 else if k = a then 0 else uns σ k
def pZ (σ : St) (a c : Nat) : Nat := pop (doorU σ (uz σ a c) (sL σ))
section
variable {w w1 w2 : Wd} {σ τ : St} {b : Nat} {u : Nat → Nat}
theorem WkU.still (h : WkU w σ u) (a v : Nat) : WkU (upI w 27 a (nI v)) σ (fun k => if k = a then v else u k) := by
  obtain ⟨k0, k1, k2, k3, k4, k5, k6⟩ := h
  refine ⟨k0, k1, k2, k3, k4, k5, fun k h1 h2 => ?_⟩
  show (upI w 27 a (nI v)).1 27 k = nI (if k = a then v else u k)
  by_cases c : k = a
  · subst c; rw [upI_s, if_pos rfl]
  · rw [upI_k _ _ _ _ c, if_neg c]; exact k6 k h1 h2
theorem WkU.cg {u' : Nat → Nat} (h : WkU w σ u) (e : ∀ k, u k = u' k) : WkU w σ u' := by
  rw [← funext e]; exact h
theorem pZ_le (hg : good σ) (a c : Nat) : pZ σ a c ≤ 8 := pop8 (lt256 (runU_lt hg hg.L _) hg.P)
theorem uns_calm (σ : St) (a c k : Nat) : uns (wrW (wrW σ a 0) c 0) k = uz σ a c k := by
  have e : ∀ x, sW (wrW (wrW σ a 0) c 0) k = x → uns (wrW (wrW σ a 0) c 0) k = mask (fun p => decide (hold σ p < x - covA σ p (sS σ k))) (sP σ) := fun x hx => by
    show mask (fun p => decide (hold σ p < sW (wrW (wrW σ a 0) c 0) k - covA σ p (sS σ k))) (sP σ) = _
    rw [hx]
  have z : mask (fun p => decide (hold σ p < 0 - covA σ p (sS σ k))) (sP σ) = 0 := bits_ext fun q => by
    rw [mask_bit]
    simp
  unfold uz
  by_cases h1 : k = c
  · rw [if_pos h1, e 0 (by show (if k = c then 0 else _) = 0; rw [if_pos h1]), z]
  · rw [if_neg h1]
    by_cases h2 : k = a
    · rw [if_pos h2, e 0 (by show (if k = c then 0 else if k = a then 0 else sW σ k) = 0; rw [if_neg h1, if_pos h2]), z]
    · rw [if_neg h2, e (sW σ k) (by show (if k = c then 0 else if k = a then 0 else sW σ k) = _; rw [if_neg h1, if_neg h2])]
      rfl
theorem m_doorCalm (hM : MoIs w σ) (hg : good σ) (hm : sM σ ≤ 1200) {a c : Nat} (ha : a < 25) (hc : c < 25) : ∃ w1, fX10_doorCalm w (nI a) (nI c) = some (nI (pZ σ a c), w1) ∧ MoIs w1 σ ∧ Mq w w1 := by
  have s := (hM.wW a 0).wW c 0
  have gw := good.wW (p := c) (good.wW (p := a) hg (show 0 < 10 by decide)) (show 0 < 10 by decide)
  obtain ⟨v, a1, a2, -, a4⟩ := m_door s gw hm
  have hdo : door (wrW (wrW σ a 0) c 0) (sL (wrW (wrW σ a 0) c 0)) = doorU σ (uz σ a c) (sL σ) := by
    show runU (wrW (wrW σ a 0) c 0) (uns (wrW (wrW σ a 0) c 0)) (sA σ) (sL σ) (sD σ - sA σ) = _
    rw [funext (uns_calm σ a c)]
    exact runU_eq (σ := wrW (wrW σ a 0) c 0) (τ := σ) rfl rfl rfl rfl _ _ _ _
  have hd : doorU σ (uz σ a c) (sL σ) < 256 := lt256 (runU_lt hg hg.L _) hg.P
  have s2 := (a2.wW c (sW σ c)).wW a (sW σ a)
  have e : wrW (wrW (wrW (wrW σ a 0) c 0) c (sW σ c)) a (sW σ a) = σ := by
    refine Prod.ext rfl (Prod.ext rfl (Prod.ext rfl (Prod.ext (funext fun k => ?_) rfl)))
    show (if k = a then sW σ a else if k = c then sW σ c else if k = c then 0 else if k = a then 0 else sW σ k) = sW σ k
    by_cases h1 : k = a
    · subst h1; rw [if_pos rfl]
    · by_cases h2 : k = c
      · subst h2; rw [if_neg h1, if_pos rfl]
      · rw [if_neg h1, if_neg h2, if_neg h2, if_neg h1]
  rw [e] at s2
  have q1 : Mq w (upI (upI w 47 a (nI 0)) 47 c (nI 0)) := Mq.one (i := 47) (by decide) fun j hj => by rw [upI_o _ _ _ _ hj, upI_o _ _ _ _ hj]
  have q2 : Mq v (upI (upI v 47 c (nI (sW σ c))) 47 a (nI (sW σ a))) := Mq.one (i := 47) (by decide) fun j hj => by rw [upI_o _ _ _ _ hj, upI_o _ _ _ _ hj]
  refine ⟨_, ?_, s2, (q1.tr a4).tr q2⟩
  unfold fX10_doorCalm
  have a1' : fX10_atDoor (upI (upI w 47 a 0) 47 c 0) = some (nI (doorU σ (uz σ a c) (sL σ)), v) := by rw [← hdo]; exact a1
  rw [gdn ha (by decide), n_cl (by omega), hM.W ha, lt_e, gdn hc (by decide), n_cl (by omega), hM.W hc, lt_e, lt_e, lt_e, a1', bd_e, un2_e, pop_m _ hd, bd_e, lt_e, lt_e]
  rfl
theorem uz_s (σ : St) (a c : Nat) : ∀ k, (if k = c then 0 else uz σ a a k) = uz σ a c k := fun k => by
  unfold uz
  by_cases h1 : k = c
  · rw [if_pos h1, if_pos h1]
  · rw [if_neg h1, if_neg h1]
    by_cases h2 : k = a
    · rw [if_pos h2, if_pos h2]
    · rw [if_neg h2, if_neg h2]
theorem uz_0 (σ : St) (a : Nat) : ∀ k, (if k = a then 0 else uns σ k) = uz σ a a k := fun k => by
  unfold uz
  by_cases h1 : k = a
  · rw [if_pos h1, if_pos h1]
  · rw [if_neg h1, if_neg h1]
theorem c_start (hC : CoIs w 1 σ) (hg : good σ) : ∃ w1, fX6_startFromNow w = some (nI (pop (dN σ)), w1) ∧ WkIs w1 σ ∧ CoIs w1 1 σ ∧ (∀ m, m ≤ sD σ - sA σ → w1.1 26 m = nI (run σ (sA σ) (sL σ) m)) := by
  have hD := hg.D
  obtain ⟨v1, a1, a2, a3, a4⟩ := c_outNow hC hg
  obtain ⟨v2, b1, b2, b3⟩ := c_walkOn a2 hg hg.L
  have k2 : Kc v1 v2 := Kc.of (rX8_walkOn b1) (by decide)
  refine ⟨v2, ?_, b3, k2.coA a3, b2⟩
  unfold fX6_startFromNow
  rw [a1, bd_e, a3.L, b1, bd_e, Wk.T b3, gdn (by omega) (by decide), n_cl (by omega), b2 _ (Nat.le_refl _)]
  exact congrArg (fun x => some (x, v2)) (pop_c _ (run256 hg _))
/-- how the class's walk ends when the wind is still at certain places -/
theorem c_calmDoor (hW : WkU w σ u) (hC : CoIs w 1 σ) (hg : good σ) : ∃ w1, fX8_atDoorFrom w 0 (nI (sL σ)) = some (nI (doorU σ u (sL σ)), w1) ∧ WkU w1 σ u ∧ CoIs w1 1 σ := by
  obtain ⟨v, a1, a2⟩ := c_atDoor hW hg (m := 0) hg.L (Nat.zero_le _)
  have k2 : Kc w v := Kc.of (rX8_atDoorFrom a1) (by decide)
  exact ⟨v, a1, a2, k2.coA hC⟩
theorem CoIs.u27 (h : CoIs w 1 σ) (a : Nat) (x : Int32) : CoIs (upI w 27 a x) 1 σ := h
def pZ1 (σ : St) (m : Nat) : Nat := pZ σ (sA σ + m) (sA σ + m)
theorem c_calmPlace (hC : CoIs w 1 σ) (hg : good σ) : ∃ w1, fX6_calmPlace w = some (fI (-9) (bs (pZ1 σ) (fun m => sA σ + m) (9999, pop (dN σ) + 1) (sD σ - sA σ)).1, w1) := by
  have hD := hg.D
  have hA := hg.A
  have hpd := pop8 (dN_lt hg)
  obtain ⟨v, a1, a2, a3, a4⟩ := c_start hC hg
  unfold fX6_calmPlace
  rw [a1, bd_e, un2_e, a3.Pl, lt_e]
  have main : ∃ x, iter (fun s : Int32 × Int32 × Int32 × Wd => fX6_calmPlace_b16 s.1 s.2.1 s.2.2.1 s.2.2.2) FU (nI (pop (dN σ)), -9, nI (sA σ), v) = some x ∧ x.1 = fI (-9) (bs (pZ1 σ) (fun m => sA σ + m) (9999, pop (dN σ) + 1) (sD σ - sA σ)).1 := by
    refine itn (fun m s => s.1 = bI (-9) (bs (pZ1 σ) (fun m => sA σ + m) (9999, pop (dN σ) + 1) m).2 ∧ s.2.1 = fI (-9) (bs (pZ1 σ) (fun m => sA σ + m) (9999, pop (dN σ) + 1) m).1 ∧ s.2.2.1 = nI (sA σ + m) ∧ WkIs s.2.2.2 σ ∧ CoIs s.2.2.2 1 σ) _ (sD σ - sA σ) ⟨?_, rfl, rfl, a2, a3⟩ ?_ ?_ (by omega)
    · show nI _ = bI (-9) (pop (dN σ) + 1)
      rw [bI_s]
    · rintro m ⟨x, y, z, s⟩ hm ⟨e1, e2, e3, e4, e5⟩
      dsimp only at e1 e2 e3 e4 e5
      subst e1; subst e2; subst e3
      have s1 : WkU (upI s 27 (sA σ + m) (nI 0)) σ (uz σ (sA σ + m) (sA σ + m)) := (WkU.still e4 (sA σ + m) 0).cg (uz_0 σ _)
      obtain ⟨s2, b1, b2, b3⟩ := c_calmDoor s1 e5 hg
      have s3 : WkIs (upI s2 27 (sA σ + m) (nI (uns σ (sA σ + m)))) σ := (WkU.still b2 (sA σ + m) (uns σ (sA σ + m))).cg fun k => by
        unfold uz
        by_cases h1 : k = sA σ + m
        · rw [if_pos h1, h1]
        · rw [if_neg h1, if_neg h1, if_neg h1]
      have hp8 := pZ_le hg (sA σ + m) (sA σ + m)
      have hd : doorU σ (uz σ (sA σ + m) (sA σ + m)) (sL σ) < 256 := lt256 (runU_lt hg hg.L _) hg.P
      have hb2 := bs_2 (pZ1 σ) (fun m => sA σ + m) (9999, pop (dN σ) + 1) 9 (by dsimp only; omega) m (fun k _ => by have := pZ_le hg (sA σ + k) (sA σ + k); unfold pZ1; omega)
      have e7 : bs (pZ1 σ) (fun m => sA σ + m) (9999, pop (dN σ) + 1) (m + 1) = if (bs (pZ1 σ) (fun m => sA σ + m) (9999, pop (dN σ) + 1) m).2 ≤ pZ1 σ m then (sA σ + m, pZ1 σ m + 1) else bs (pZ1 σ) (fun m => sA σ + m) (9999, pop (dN σ) + 1) m := rfl
      have hpz : pZ1 σ m ≤ 8 := hp8
      refine ⟨(bI (-9) (bs (pZ1 σ) (fun m => sA σ + m) (9999, pop (dN σ) + 1) (m + 1)).2, fI (-9) (bs (pZ1 σ) (fun m => sA σ + m) (9999, pop (dN σ) + 1) (m + 1)).1, nI (sA σ + (m + 1)), upI s2 27 (sA σ + m) (nI (uns σ (sA σ + m)))), ?_, rfl, rfl, rfl, s3, b3⟩
      show fX6_calmPlace_b16 _ _ _ _ = _
      unfold fX6_calmPlace_b16 fX6_stillAt
      have b1' : fX8_atDoorFrom (upI s 27 (sA σ + m) 0) 0 (nI (sL σ)) = some (nI (doorU σ (uz σ (sA σ + m) (sA σ + m)) (sL σ)), s2) := b1
      rw [e5.Do, if_neg (by rw [n_le (by omega) (by omega)]; omega), gdn (by omega) (by decide), n_cl (by omega), lt_e, lt_e, bd_e, un2_e, show (upI s 27 (sA σ + m) 0).1 1 1 = nI (sL σ) from e5.L, b1', bd_e, un2_e, show fJ6_bitCount_0f7a4 (nI (doorU σ (uz σ (sA σ + m) (sA σ + m)) (sL σ))) = nI (pZ1 σ m) from pop_c _ hd, lt_e, gdn (by omega) (by decide), e4.2.2.2.2.2.2 (sA σ + m) (by omega) (by omega), lt_e, e7]
      by_cases c : (bs (pZ1 σ) (fun m => sA σ + m) (9999, pop (dN σ) + 1) m).2 ≤ pZ1 σ m
      · rw [if_neg (by rw [bI_le (by decide) (by omega) (by omega)]; exact fun h => h c), if_pos c, nI_1, lt_e, bI_s, fI_s _ (show sA σ + m < 9999 by omega)]
        rfl
      · rw [if_pos (by rw [bI_le (by decide) (by omega) (by omega)]; exact c), if_neg c, nI_1, lt_e]
        rfl
    · rintro ⟨x, y, z, s⟩ ⟨e1, e2, e3, e4, e5⟩
      dsimp only at e1 e2 e3 e4 e5
      subst e1; subst e2; subst e3
      refine ⟨(fI (-9) (bs (pZ1 σ) (fun m => sA σ + m) (9999, pop (dN σ) + 1) (sD σ - sA σ)).1, s), ?_, rfl⟩
      show fX6_calmPlace_b16 _ _ _ _ = _
      unfold fX6_calmPlace_b16
      rw [e5.Do, if_pos (by rw [n_le (by omega) (by omega)]; omega)]
  obtain ⟨⟨x, s⟩, m1, m2⟩ := main
  dsimp only at m2
  rw [m1, bd_e, un2_e, m2]
  exact ⟨_, rfl⟩
end

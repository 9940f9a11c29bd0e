/-! what each method leaves as it is (by program): places (cell, field or all of it) that it may write -/
def at_ (c f : Nat) : Nat × Option Nat := (c, some f)
def all_ (c : Nat) : Nat × Option Nat := (c, none)
def hit (q : Nat × Option Nat) (i k : Nat) : Bool := q.1 == i && (match q.2 with | none => true | some f => f == k)
def pU (l : List (Nat × Option Nat)) (i k : Nat) : Bool := l.any fun q => hit q i k
def Agree (p : Nat → Nat → Bool) (w w1 : Wd) : Prop := ∀ i k, p i k = false → w1.1 i k = w.1 i k ∧ w1.2 i k = w.2 i k
theorem Agree.rf {p : Nat → Nat → Bool} {w : Wd} : Agree p w w := fun _ _ _ => ⟨rfl, rfl⟩
theorem Agree.tr {p : Nat → Nat → Bool} {w w1 w2 : Wd} (h : Agree p w w1) (h2 : Agree p w1 w2) : Agree p w w2 := fun i k q => ⟨(h2 i k q).1.trans (h i k q).1, (h2 i k q).2.trans (h i k q).2⟩
theorem pU_no {l : List (Nat × Option Nat)} {q : Nat × Option Nat} {i k : Nat} (h : pU l i k = false) (hq : q ∈ l) : hit q i k = false := by
  cases hc : hit q i k with
  | false => rfl
  | true => exact absurd (List.any_eq_true.mpr ⟨q, hq, hc⟩) (by unfold pU at h; rw [h]; decide)
theorem Agree.sub {l l2 : List (Nat × Option Nat)} {w w1 : Wd} (ps : List Nat) (hp : ps.filterMap (fun i => l2[i]?) = l) (h : Agree (pU l) w w1) : Agree (pU l2) w w1 := fun i k q => h i k (by
  unfold pU
  rw [List.any_eq_false]
  intro x hx
  rw [← hp] at hx
  obtain ⟨j, -, hj⟩ := List.mem_filterMap.mp hx
  rw [pU_no q (List.mem_of_getElem? hj)]
  decide)
theorem hit_at (c f : Nat) : hit (at_ c f) c f = true := by simp [hit, at_]
theorem hit_all (c f : Nat) : hit (all_ c) c f = true := by simp [hit, all_]
theorem Agree.pI {l : List (Nat × Option Nat)} {w w1 w2 : Wd} {c f : Nat} {x : Int32} (h : Agree (pU l) w w1) (e : w2 = upI w1 c f x) (hq : at_ c f ∈ l ∨ all_ c ∈ l) : Agree (pU l) w w2 := fun i k q => by
  subst e
  have hn : ¬ (i = c ∧ k = f) := by
    rintro ⟨rfl, rfl⟩
    rcases hq with hq | hq
    · have := pU_no q hq; rw [hit_at] at this; cases this
    · have := pU_no q hq; rw [hit_all] at this; cases this
  exact ⟨(if_neg hn).trans (h i k q).1, (h i k q).2⟩
theorem Agree.pJ {l : List (Nat × Option Nat)} {w w1 w2 : Wd} {c f : Nat} {x : Int64} (h : Agree (pU l) w w1) (e : w2 = upJ w1 c f x) (hq : at_ c f ∈ l ∨ all_ c ∈ l) : Agree (pU l) w w2 := fun i k q => by
  subst e
  have hn : ¬ (i = c ∧ k = f) := by
    rintro ⟨rfl, rfl⟩
    rcases hq with hq | hq
    · have := pU_no q hq; rw [hit_at] at this; cases this
    · have := pU_no q hq; rw [hit_all] at this; cases this
  exact ⟨(h i k q).1, (if_neg hn).trans (h i k q).2⟩
theorem Agree.pA {l : List (Nat × Option Nat)} {w w1 w2 : Wd} {c : Nat} {f : Nat → Int32} (h : Agree (pU l) w w1) (e : w2 = upA w1 c f) (hq : all_ c ∈ l) : Agree (pU l) w w2 := fun i k q => by
  subst e
  have hn : ¬ i = c := by
    rintro rfl
    have := pU_no q hq; rw [hit_all] at this; cases this
  exact ⟨(by show (if i = c then f else w1.1 i) k = _; rw [if_neg hn]; exact (h i k q).1), (h i k q).2⟩
theorem Agree.pB {l : List (Nat × Option Nat)} {w w1 w2 : Wd} {c : Nat} {f : Nat → Int64} (h : Agree (pU l) w w1) (e : w2 = upB w1 c f) (hq : all_ c ∈ l) : Agree (pU l) w w2 := fun i k q => by
  subst e
  have hn : ¬ i = c := by
    rintro rfl
    have := pU_no q hq; rw [hit_all] at this; cases this
  exact ⟨(h i k q).1, (by show (if i = c then f else w1.2 i) k = _; rw [if_neg hn]; exact (h i k q).2)⟩
def pX9_refuse : List (Nat × Option Nat) := [all_ 12]
theorem rX9_refuse {w : Wd} {a1 : Int32} {out : Int32 × Wd} (h0 : fX9_refuse w a1 = some out) : Agree (pU pX9_refuse) w out.2 := by
  have ag0 : Agree (pU pX9_refuse) w w := Agree.rf
  unfold fX9_refuse at h0
  obtain ⟨v1, ev1, h0⟩ := lt_some h0
  by_cases c6 : v1 ≤ 0
  · rw [if_pos c6] at h0
    rw [← Option.some.inj h0]
    exact ag0
  · rw [if_neg c6] at h0
    by_cases c5 : (7 : Int32) ≤ v1
    · rw [if_pos c5] at h0
      rw [← Option.some.inj h0]
      exact ag0
    · rw [if_neg c5] at h0
      obtain ⟨g2, h0⟩ := gd_some h0
      obtain ⟨w3, ew3, h0⟩ := lt_some h0
      have ag4 := ag0.pI ew3 (Or.inr (List.mem_of_getElem? (i := 0) rfl))
      rw [← Option.some.inj h0]
      exact ag4
def pX3_append : List (Nat × Option Nat) := [all_ 33, at_ 6 0]
theorem rX3_append {w : Wd} {a1 : Int32} {out : Int32 × Wd} (h0 : fX3_append w a1 = some out) : Agree (pU pX3_append) w out.2 := by
  have ag0 : Agree (pU pX3_append) w w := Agree.rf
  unfold fX3_append at h0
  by_cases c6 : (fX3_isFull w) = 0
  · rw [if_pos c6] at h0
    obtain ⟨g2, h0⟩ := gd_some h0
    obtain ⟨w1, ew1, h0⟩ := lt_some h0
    have ag3 := ag0.pI ew1 (Or.inr (List.mem_of_getElem? (i := 0) rfl))
    obtain ⟨w4, ew4, h0⟩ := lt_some h0
    have ag5 := ag3.pI ew4 (Or.inl (List.mem_of_getElem? (i := 1) rfl))
    rw [← Option.some.inj h0]
    exact ag5
  · rw [if_neg c6] at h0
    rw [← Option.some.inj h0]
    exact ag0
def pX9_feed : List (Nat × Option Nat) := [all_ 12, all_ 33, at_ 6 0]
theorem rX9_feed {w : Wd} {a1 : Int32} {out : Int32 × Wd} (h0 : fX9_feed w a1 = some out) : Agree (pU pX9_feed) w out.2 := by
  have ag0 : Agree (pU pX9_feed) w w := Agree.rf
  unfold fX9_feed at h0
  have J28 : ∀ (w1 : Wd), fX9_feed_j28 w1 = some out → Agree (pU pX9_feed) w w1 → Agree (pU pX9_feed) w out.2 := by
    intro w1 h0 agj
    unfold fX9_feed_j28 at h0
    obtain ⟨q4, er3, h0⟩ := bind_some h0
    replace h0 := un2_eq h0
    obtain ⟨r3, w2, rfl, h0⟩ := h0
    have ag5 := agj.tr (Agree.sub [0] rfl (rX9_refuse er3))
    rw [← Option.some.inj h0]
    exact ag5
  by_cases c16 : (0 : Int32) ≤ a1
  · rw [if_pos c16] at h0
    by_cases c11 : (255 : Int32) < a1
    · rw [if_pos c11] at h0
      exact J28 w h0 ag0
    · rw [if_neg c11] at h0
      by_cases c10 : (fX3_isFull w) = 0
      · rw [if_pos c10] at h0
        obtain ⟨q8, er7, h0⟩ := bind_some h0
        replace h0 := un2_eq h0
        obtain ⟨r7, w6, rfl, h0⟩ := h0
        have ag9 := ag0.tr (Agree.sub [1, 2] rfl (rX3_append er7))
        rw [← Option.some.inj h0]
        exact ag9
      · rw [if_neg c10] at h0
        exact J28 w h0 ag0
  · rw [if_neg c16] at h0
    obtain ⟨q14, er13, h0⟩ := bind_some h0
    replace h0 := un2_eq h0
    obtain ⟨r13, w12, rfl, h0⟩ := h0
    have ag15 := ag0.tr (Agree.sub [0] rfl (rX9_refuse er13))
    rw [← Option.some.inj h0]
    exact ag15
def pX2_takeFrom (b : Nat) : List (Nat × Option Nat) := [at_ b 0, at_ b 1, at_ b 2, at_ b 3, at_ b 4, at_ b 5, at_ b 6, all_ (9 + 4 * b), all_ (10 + 4 * b), all_ (11 + 4 * b), all_ (12 + 4 * b)]
theorem rX2_takeFrom {b : Nat} {b1 : Nat} {w : Wd} {out : Wd} (h0 : fX2_takeFrom b b1 w = out) : Agree (pU (pX2_takeFrom b)) w out := by
  have ag0 : Agree (pU (pX2_takeFrom b)) w w := Agree.rf
  unfold fX2_takeFrom at h0
  obtain ⟨w1, ew1, h0⟩ := lt_some h0
  have ag2 := ag0.pI ew1 (Or.inl (List.mem_of_getElem? (i := 0) rfl))
  obtain ⟨w3, ew3, h0⟩ := lt_some h0
  have ag4 := ag2.pI ew3 (Or.inl (List.mem_of_getElem? (i := 1) rfl))
  obtain ⟨w5, ew5, h0⟩ := lt_some h0
  have ag6 := ag4.pI ew5 (Or.inl (List.mem_of_getElem? (i := 2) rfl))
  obtain ⟨w7, ew7, h0⟩ := lt_some h0
  have ag8 := ag6.pI ew7 (Or.inl (List.mem_of_getElem? (i := 3) rfl))
  obtain ⟨w9, ew9, h0⟩ := lt_some h0
  have ag10 := ag8.pI ew9 (Or.inl (List.mem_of_getElem? (i := 4) rfl))
  obtain ⟨w11, ew11, h0⟩ := lt_some h0
  have ag12 := ag10.pI ew11 (Or.inl (List.mem_of_getElem? (i := 5) rfl))
  obtain ⟨w13, ew13, h0⟩ := lt_some h0
  have ag14 := ag12.pI ew13 (Or.inl (List.mem_of_getElem? (i := 6) rfl))
  obtain ⟨w15, ew15, h0⟩ := lt_some h0
  have ag16 := ag14.pA ew15 (List.mem_of_getElem? (i := 7) rfl)
  obtain ⟨w17, ew17, h0⟩ := lt_some h0
  have ag18 := ag16.pA ew17 (List.mem_of_getElem? (i := 8) rfl)
  obtain ⟨w19, ew19, h0⟩ := lt_some h0
  have ag20 := ag18.pA ew19 (List.mem_of_getElem? (i := 9) rfl)
  obtain ⟨w21, ew21, h0⟩ := lt_some h0
  have ag22 := ag20.pA ew21 (List.mem_of_getElem? (i := 10) rfl)
  rw [← h0]
  exact ag22
def pX2_putLit (b : Nat) : List (Nat × Option Nat) := [at_ b 1]
theorem rX2_putLit {b : Nat} {w : Wd} {a1 : Int32} {a2 : Int32} {out : Wd} (h0 : fX2_putLit b w a1 a2 = out) : Agree (pU (pX2_putLit b)) w out := by
  have ag0 : Agree (pU (pX2_putLit b)) w w := Agree.rf
  unfold fX2_putLit at h0
  have J26 : ∀ (w2 : Wd) (l1 : Int32), fX2_putLit_j26 b w2 l1 = out → Agree (pU (pX2_putLit b)) w w2 → Agree (pU (pX2_putLit b)) w out := by
    intro w2 l1 h0 agj
    unfold fX2_putLit_j26 at h0
    obtain ⟨w3, ew3, h0⟩ := lt_some h0
    have ag4 := agj.pI ew3 (Or.inl (List.mem_of_getElem? (i := 0) rfl))
    rw [← h0]
    exact ag4
  by_cases c5 : a2 = 0
  · rw [if_pos c5] at h0
    exact J26 w ((w.1 b 1) &&& (((1 : Int32) <<< (a1 &&& 31)) ^^^ (-1))) h0 ag0
  · rw [if_neg c5] at h0
    exact J26 w ((w.1 b 1) ||| ((1 : Int32) <<< (a1 &&& 31))) h0 ag0
def pX2_append (b : Nat) : List (Nat × Option Nat) := [all_ (9 + 4 * b), all_ (10 + 4 * b), at_ b 0, at_ b 1]
theorem rX2_append {b : Nat} {w : Wd} {a1 : Int32} {a2 : Int32} {a3 : Int32} {out : Wd} (h0 : fX2_append b w a1 a2 a3 = some out) : Agree (pU (pX2_append b)) w out := by
  have ag0 : Agree (pU (pX2_append b)) w w := Agree.rf
  unfold fX2_append at h0
  by_cases c11 : (8 : Int32) ≤ (w.1 b 0)
  · rw [if_pos c11] at h0
    rw [← Option.some.inj h0]
    exact ag0
  · rw [if_neg c11] at h0
    obtain ⟨g2, h0⟩ := gd_some h0
    obtain ⟨w1, ew1, h0⟩ := lt_some h0
    have ag3 := ag0.pI ew1 (Or.inr (List.mem_of_getElem? (i := 0) rfl))
    obtain ⟨g5, h0⟩ := gd_some h0
    obtain ⟨w4, ew4, h0⟩ := lt_some h0
    have ag6 := ag3.pI ew4 (Or.inr (List.mem_of_getElem? (i := 1) rfl))
    obtain ⟨w7, ew7, h0⟩ := lt_some h0
    have ag8 := ag6.pI ew7 (Or.inl (List.mem_of_getElem? (i := 2) rfl))
    obtain ⟨w9, ew9, h0⟩ := lt_some h0
    have ag10 := ag8.tr (Agree.sub [3] rfl (rX2_putLit ew9.symm))
    rw [← Option.some.inj h0]
    exact ag10
def pX3_personComes : List (Nat × Option Nat) := [all_ (9 + 4 * 3), all_ (10 + 4 * 3), at_ 3 0, at_ 3 1]
theorem rX3_personComes {w : Wd} {a1 : Int32} {a2 : Int32} {a3 : Int32} {out : Int32 × Wd} (h0 : fX3_personComes w a1 a2 a3 = some out) : Agree (pU pX3_personComes) w out.2 := by
  have ag0 : Agree (pU pX3_personComes) w w := Agree.rf
  unfold fX3_personComes at h0
  obtain ⟨v1, hv1, h0⟩ := lt_some h0
  have hv1 := hv1.symm
  by_cases c9 : (6 : Int32) < a1
  · rw [if_pos c9] at h0
    rw [← Option.some.inj h0]
    exact ag0
  · rw [if_neg c9] at h0
    by_cases c8 : (1 : Int32) < a3
    · rw [if_pos c8] at h0
      rw [← Option.some.inj h0]
      exact ag0
    · rw [if_neg c8] at h0
      by_cases c7 : v1 = 0
      · rw [if_pos c7] at h0
        by_cases c6 : (w.1 3 0) < 8
        · rw [if_pos c6] at h0
          obtain ⟨v3, hv3, h0⟩ := lt_some h0
          have hv3 := hv3.symm
          obtain ⟨w4, ew4, h0⟩ := bind_some h0
          have ag5 := ag0.tr (Agree.sub [0, 1, 2, 3] rfl (rX2_append ew4))
          rw [← Option.some.inj h0]
          exact ag5
        · rw [if_neg c6] at h0
          rw [← Option.some.inj h0]
          exact ag0
      · rw [if_neg c7] at h0
        rw [← Option.some.inj h0]
        exact ag0
def pX3_windComes : List (Nat × Option Nat) := [all_ 23, all_ 24]
theorem rX3_windComes {w : Wd} {a1 : Int32} {a2 : Int32} {a3 : Int32} {out : Int32 × Wd} (h0 : fX3_windComes w a1 a2 a3 = some out) : Agree (pU pX3_windComes) w out.2 := by
  have ag0 : Agree (pU pX3_windComes) w w := Agree.rf
  unfold fX3_windComes at h0
  by_cases c7 : (fX9_isOutside a1 24) = 0
  · rw [if_pos c7] at h0
    by_cases c6 : a3 ≤ 2
    · rw [if_pos c6] at h0
      obtain ⟨g2, h0⟩ := gd_some h0
      obtain ⟨w1, ew1, h0⟩ := lt_some h0
      have ag3 := ag0.pI ew1 (Or.inr (List.mem_of_getElem? (i := 0) rfl))
      obtain ⟨w4, ew4, h0⟩ := lt_some h0
      have ag5 := ag3.pI ew4 (Or.inr (List.mem_of_getElem? (i := 1) rfl))
      rw [← Option.some.inj h0]
      exact ag5
    · rw [if_neg c6] at h0
      rw [← Option.some.inj h0]
      exact ag0
  · rw [if_neg c7] at h0
    rw [← Option.some.inj h0]
    exact ag0
def pX3_formComes : List (Nat × Option Nat) := [at_ 3 2, at_ 3 3]
theorem rX3_formComes {w : Wd} {a1 : Int32} {a2 : Int32} {out : Int32 × Wd} (h0 : fX3_formComes w a1 a2 = out) : Agree (pU pX3_formComes) w out.2 := by
  have ag0 : Agree (pU pX3_formComes) w w := Agree.rf
  unfold fX3_formComes at h0
  by_cases c7 : (2 : Int32) < a1
  · rw [if_pos c7] at h0
    rw [← h0]
    exact ag0
  · rw [if_neg c7] at h0
    by_cases c6 : a2 < 1
    · rw [if_pos c6] at h0
      rw [← h0]
      exact ag0
    · rw [if_neg c6] at h0
      by_cases c5 : a2 ≤ 2
      · rw [if_pos c5] at h0
        obtain ⟨w1, ew1, h0⟩ := lt_some h0
        have ag2 := ag0.pI ew1 (Or.inl (List.mem_of_getElem? (i := 0) rfl))
        obtain ⟨w3, ew3, h0⟩ := lt_some h0
        have ag4 := ag2.pI ew3 (Or.inl (List.mem_of_getElem? (i := 1) rfl))
        rw [← h0]
        exact ag4
      · rw [if_neg c5] at h0
        rw [← h0]
        exact ag0
def pX3_doorComes : List (Nat × Option Nat) := [at_ 3 4]
theorem rX3_doorComes {w : Wd} {a1 : Int32} {out : Int32 × Wd} (h0 : fX3_doorComes w a1 = out) : Agree (pU pX3_doorComes) w out.2 := by
  have ag0 : Agree (pU pX3_doorComes) w w := Agree.rf
  unfold fX3_doorComes at h0
  by_cases c5 : a1 < 1
  · rw [if_pos c5] at h0
    rw [← h0]
    exact ag0
  · rw [if_neg c5] at h0
    by_cases c4 : (24 : Int32) < a1
    · rw [if_pos c4] at h0
      rw [← h0]
      exact ag0
    · rw [if_neg c4] at h0
      by_cases c3 : (w.1 3 5) ≤ a1
      · rw [if_pos c3] at h0
        obtain ⟨w1, ew1, h0⟩ := lt_some h0
        have ag2 := ag0.pI ew1 (Or.inl (List.mem_of_getElem? (i := 0) rfl))
        rw [← h0]
        exact ag2
      · rw [if_neg c3] at h0
        rw [← h0]
        exact ag0
def pX3_lightComes : List (Nat × Option Nat) := [at_ 3 1]
theorem rX3_lightComes {w : Wd} {a1 : Int32} {out : Int32 × Wd} (h0 : fX3_lightComes w a1 = some out) : Agree (pU pX3_lightComes) w out.2 := by
  have ag0 : Agree (pU pX3_lightComes) w w := Agree.rf
  unfold fX3_lightComes at h0
  by_cases c7 : (fX2_hasOne 3 w a1) = 0
  · rw [if_pos c7] at h0
    rw [← Option.some.inj h0]
    exact ag0
  · rw [if_neg c7] at h0
    obtain ⟨r1, er1, h0⟩ := bind_some h0
    by_cases c6 : r1 = 0
    · rw [if_pos c6] at h0
      obtain ⟨r2, er2, h0⟩ := bind_some h0
      obtain ⟨v3, hv3, h0⟩ := lt_some h0
      have hv3 := hv3.symm
      obtain ⟨w4, ew4, h0⟩ := lt_some h0
      have ag5 := ag0.tr (Agree.sub [0] rfl (rX2_putLit ew4.symm))
      rw [← Option.some.inj h0]
      exact ag5
    · rw [if_neg c6] at h0
      rw [← Option.some.inj h0]
      exact ag0
def pX8_setOut : List (Nat × Option Nat) := [at_ 4 0, at_ 4 1, at_ 4 2, at_ 4 3, at_ 4 4, all_ 28, all_ 29, all_ 27]
theorem rX8_setOut {b1 : Nat} {w : Wd} {out : Wd} (h0 : fX8_setOut b1 w = some out) : Agree (pU pX8_setOut) w out := by
  have ag0 : Agree (pU pX8_setOut) w w := Agree.rf
  unfold fX8_setOut at h0
  obtain ⟨w1, ew1, h0⟩ := lt_some h0
  have ag2 := ag0.pI ew1 (Or.inl (List.mem_of_getElem? (i := 0) rfl))
  obtain ⟨r3, er3, h0⟩ := bind_some h0
  obtain ⟨w4, ew4, h0⟩ := lt_some h0
  have ag5 := ag2.pI ew4 (Or.inl (List.mem_of_getElem? (i := 1) rfl))
  obtain ⟨w6, ew6, h0⟩ := lt_some h0
  have ag7 := ag5.pI ew6 (Or.inl (List.mem_of_getElem? (i := 2) rfl))
  obtain ⟨w8, ew8, h0⟩ := lt_some h0
  have ag9 := ag7.pI ew8 (Or.inl (List.mem_of_getElem? (i := 3) rfl))
  obtain ⟨w10, ew10, h0⟩ := lt_some h0
  have ag11 := ag9.pI ew10 (Or.inl (List.mem_of_getElem? (i := 4) rfl))
  obtain ⟨w35, iw35, h0⟩ := bind_some h0
  have ag36 : Agree (pU pX8_setOut) w w35 := by
    refine iter_rule (P := fun s : Int32 × Wd => Agree (pU pX8_setOut) w s.2 → Agree (pU pX8_setOut) w w35) (x := w35) ?_ FU (0, w10) iw35 ag11
    intro s y1 h1 hP1 hX1 agl51
    obtain ⟨l12, w13⟩ := s
    have h1 : fX8_setOut_b51 b1 l12 w13 = some y1 := h1
    have agl51 : Agree (pU pX8_setOut) w w13 := agl51
    unfold fX8_setOut_b51 at h1
    by_cases c33 : (w13.1 4 0) ≤ l12
    · rw [if_pos c33] at h1
      have e14 := hX1 _ (Option.some.inj h1).symm
      cases e14
      exact agl51
    · rw [if_neg c33] at h1
      obtain ⟨r15, er15, h1⟩ := bind_some h1
      obtain ⟨g17, h1⟩ := gd_some h1
      obtain ⟨w16, ew16, h1⟩ := lt_some h1
      have ag18 := agl51.pI ew16 (Or.inr (List.mem_of_getElem? (i := 5) rfl))
      obtain ⟨r19, er19, h1⟩ := bind_some h1
      obtain ⟨w30, iw30, h1⟩ := bind_some h1
      have ag31 : Agree (pU pX8_setOut) w w30 := by
        refine iter_rule (P := fun s : Int32 × Wd => Agree (pU pX8_setOut) w s.2 → Agree (pU pX8_setOut) w w30) (x := w30) ?_ FU (0, w16) iw30 ag18
        intro s y2 h2 hP2 hX2 agl79
        obtain ⟨l20, w21⟩ := s
        have h2 : fX8_setOut_b79 b1 l12 r19 l20 w21 = some y2 := h2
        have agl79 : Agree (pU pX8_setOut) w w21 := agl79
        unfold fX8_setOut_b79 at h2
        by_cases c28 : (2 : Int32) < l20
        · rw [if_pos c28] at h2
          have e22 := hX2 _ (Option.some.inj h2).symm
          cases e22
          exact agl79
        · rw [if_neg c28] at h2
          obtain ⟨r23, er23, h2⟩ := bind_some h2
          obtain ⟨g25, h2⟩ := gd_some h2
          obtain ⟨w24, ew24, h2⟩ := lt_some h2
          have ag26 := agl79.pI ew24 (Or.inr (List.mem_of_getElem? (i := 6) rfl))
          obtain ⟨v27, ev27, h2⟩ := lt_some h2
          exact hP2 (v27, w24) (Option.some.inj h2).symm ag26
      obtain ⟨v32, ev32, h1⟩ := lt_some h1
      exact hP1 (v32, w30) (Option.some.inj h1).symm ag31
  obtain ⟨v37, ev37, h0⟩ := lt_some h0
  obtain ⟨w48, iw48, h0⟩ := bind_some h0
  have ag49 : Agree (pU pX8_setOut) w w48 := by
    refine iter_rule (P := fun s : Int32 × Wd => Agree (pU pX8_setOut) w s.2 → Agree (pU pX8_setOut) w w48) (x := w48) ?_ FU (v37, w35) iw48 ag36
    intro s y1 h1 hP1 hX1 agl123
    obtain ⟨l38, w39⟩ := s
    have h1 : fX8_setOut_b123 b1 l38 w39 = some y1 := h1
    have agl123 : Agree (pU pX8_setOut) w w39 := agl123
    unfold fX8_setOut_b123 at h1
    by_cases c46 : (w39.1 b1 4) ≤ l38
    · rw [if_pos c46] at h1
      have e40 := hX1 _ (Option.some.inj h1).symm
      cases e40
      exact agl123
    · rw [if_neg c46] at h1
      obtain ⟨g41, h1⟩ := gd_some h1
      obtain ⟨r42, er42, h1⟩ := bind_some h1
      obtain ⟨w43, ew43, h1⟩ := lt_some h1
      have ag44 := agl123.pI ew43 (Or.inr (List.mem_of_getElem? (i := 7) rfl))
      obtain ⟨v45, ev45, h1⟩ := lt_some h1
      exact hP1 (v45, w43) (Option.some.inj h1).symm ag44
  rw [← Option.some.inj h0]
  exact ag49
def pX8_relight : List (Nat × Option Nat) := [at_ 4 6, all_ 25]
theorem rX8_relight {w : Wd} {a1 : Int32} {out : Int32 × Wd} (h0 : fX8_relight w a1 = some out) : Agree (pU pX8_relight) w out.2 := by
  have ag0 : Agree (pU pX8_relight) w w := Agree.rf
  unfold fX8_relight at h0
  obtain ⟨w1, ew1, h0⟩ := lt_some h0
  have ag2 := ag0.pI ew1 (Or.inl (List.mem_of_getElem? (i := 0) rfl))
  obtain ⟨w30, iw30, h0⟩ := bind_some h0
  have ag31 : Agree (pU pX8_relight) w w30 := by
    refine iter_rule (P := fun s : Int32 × Wd => Agree (pU pX8_relight) w s.2 → Agree (pU pX8_relight) w w30) (x := w30) ?_ FU (0, w1) iw30 ag2
    intro s y1 h1 hP1 hX1 agl7
    obtain ⟨l3, w4⟩ := s
    have h1 : fX8_relight_b7 a1 l3 w4 = some y1 := h1
    have agl7 : Agree (pU pX8_relight) w w4 := agl7
    unfold fX8_relight_b7 at h1
    by_cases c28 : (w4.1 4 0) ≤ l3
    · rw [if_pos c28] at h1
      have e5 := hX1 _ (Option.some.inj h1).symm
      cases e5
      exact agl7
    · rw [if_neg c28] at h1
      obtain ⟨v7, hv7, h1⟩ := bind_some h1
      obtain ⟨w25, iw25, h1⟩ := bind_some h1
      have ag26 : Agree (pU pX8_relight) w w25 := by
        refine iter_rule (P := fun s : Int32 × Int32 × Wd => Agree (pU pX8_relight) w s.2.2 → Agree (pU pX8_relight) w w25) (x := w25) ?_ FU (v7, 0, w4) iw25 agl7
        intro s y2 h2 hP2 hX2 agl51
        obtain ⟨l9, l10, w11⟩ := s
        have h2 : fX8_relight_b51 l3 l9 l10 w11 = some y2 := h2
        have agl51 : Agree (pU pX8_relight) w w11 := agl51
        unfold fX8_relight_b51 at h2
        by_cases c23 : (w11.1 4 2) ≤ l10
        · rw [if_pos c23] at h2
          have e12 := hX2 _ (Option.some.inj h2).symm
          cases e12
          exact agl51
        · rw [if_neg c23] at h2
          by_cases c22 : l9 = 0
          · rw [if_pos c22] at h2
            have e13 := hX2 _ (Option.some.inj h2).symm
            cases e13
            exact agl51
          · rw [if_neg c22] at h2
            obtain ⟨v14, ev14, h2⟩ := lt_some h2
            obtain ⟨g16, h2⟩ := gd_some h2
            obtain ⟨w15, ew15, h2⟩ := lt_some h2
            have ag17 := agl51.pI ew15 (Or.inr (List.mem_of_getElem? (i := 1) rfl))
            obtain ⟨w18, ew18, h2⟩ := lt_some h2
            have ag19 := ag17.pI ew18 (Or.inl (List.mem_of_getElem? (i := 0) rfl))
            obtain ⟨v20, ev20, h2⟩ := lt_some h2
            obtain ⟨v21, ev21, h2⟩ := lt_some h2
            exact hP2 (v20, v21, w18) (Option.some.inj h2).symm ag19
      obtain ⟨v27, ev27, h1⟩ := lt_some h1
      exact hP1 (v27, w25) (Option.some.inj h1).symm ag26
  rw [← Option.some.inj h0]
  exact ag31
def pX8_minuteAt : List (Nat × Option Nat) := [at_ 4 5, at_ 4 6, all_ 25]
theorem rX8_minuteAt {w : Wd} {a1 : Int32} {a2 : Int32} {out : Int32 × Wd} (h0 : fX8_minuteAt w a1 a2 = some out) : Agree (pU pX8_minuteAt) w out.2 := by
  have ag0 : Agree (pU pX8_minuteAt) w w := Agree.rf
  unfold fX8_minuteAt at h0
  obtain ⟨g1, h0⟩ := gd_some h0
  obtain ⟨w2, ew2, h0⟩ := lt_some h0
  have ag3 := ag0.pI ew2 (Or.inl (List.mem_of_getElem? (i := 0) rfl))
  obtain ⟨q6, er5, h0⟩ := bind_some h0
  replace h0 := un2_eq h0
  obtain ⟨r5, w4, rfl, h0⟩ := h0
  have ag7 := ag3.tr (Agree.sub [1, 2] rfl (rX8_relight er5))
  rw [← Option.some.inj h0]
  exact ag7
def pX8_passMinute (b1 : Nat) : List (Nat × Option Nat) := [at_ 4 0, at_ 4 1, at_ 4 2, at_ 4 3, at_ 4 4, all_ 28, all_ 29, all_ 27, at_ 4 5, at_ 4 6, all_ 25, at_ b1 1, at_ b1 6, at_ b1 5]
theorem rX8_passMinute {b1 : Nat} {w : Wd} {a2 : Int32} {out : Wd} (h0 : fX8_passMinute b1 w a2 = some out) : Agree (pU (pX8_passMinute b1)) w out := by
  have ag0 : Agree (pU (pX8_passMinute b1)) w w := Agree.rf
  unfold fX8_passMinute at h0
  obtain ⟨w1, ew1, h0⟩ := bind_some h0
  have ag2 := ag0.tr (Agree.sub [0, 1, 2, 3, 4, 5, 6, 7] rfl (rX8_setOut ew1))
  obtain ⟨q5, er4, h0⟩ := bind_some h0
  replace h0 := un2_eq h0
  obtain ⟨r4, w3, rfl, h0⟩ := h0
  have ag6 := ag2.tr (Agree.sub [8, 9, 10] rfl (rX8_minuteAt er4))
  obtain ⟨w7, ew7, h0⟩ := lt_some h0
  have ag8 := ag6.pI ew7 (Or.inl (List.mem_of_getElem? (i := 11) rfl))
  obtain ⟨w9, ew9, h0⟩ := lt_some h0
  have ag10 := ag8.pI ew9 (Or.inl (List.mem_of_getElem? (i := 12) rfl))
  by_cases c13 : a2 = 0
  · rw [if_pos c13] at h0
    obtain ⟨w11, ew11, h0⟩ := lt_some h0
    have ag12 := ag10.pI ew11 (Or.inl (List.mem_of_getElem? (i := 13) rfl))
    rw [← Option.some.inj h0]
    exact ag12
  · rw [if_neg c13] at h0
    rw [← Option.some.inj h0]
    exact ag10
def pX3_comes : List (Nat × Option Nat) := [at_ 3 4, at_ 3 2, at_ 3 3, at_ 3 1, all_ (9 + 4 * 3), all_ (10 + 4 * 3), at_ 3 0, all_ 23, all_ 24, at_ 4 0, at_ 4 1, at_ 4 2, at_ 4 3, at_ 4 4, all_ 28, all_ 29, all_ 27, at_ 4 5, at_ 4 6, all_ 25, at_ 3 6, at_ 3 5]
theorem rX3_comes {w : Wd} {a1 : Int32} {out : Int32 × Wd} (h0 : fX3_comes w a1 = some out) : Agree (pU pX3_comes) w out.2 := by
  have ag0 : Agree (pU pX3_comes) w w := Agree.rf
  unfold fX3_comes at h0
  obtain ⟨g1, h0⟩ := gd_some h0
  obtain ⟨v2, ev2, h0⟩ := lt_some h0
  by_cases c3 : v2 = 100
  · rw [if_pos c3] at h0
    obtain ⟨r4, er4, h0⟩ := bind_some h0
    replace h0 := un2_eq h0
    obtain ⟨r6, w5, er6, h0⟩ := h0
    have ag7 := ag0.tr (Agree.sub [0] rfl (rX3_doorComes er6))
    obtain ⟨g8, h0⟩ := gd_some h0
    rw [← Option.some.inj h0]
    exact ag7
  rw [if_neg c3] at h0
  by_cases c9 : v2 = 102
  · rw [if_pos c9] at h0
    obtain ⟨r10, er10, h0⟩ := bind_some h0
    obtain ⟨r11, er11, h0⟩ := bind_some h0
    replace h0 := un2_eq h0
    obtain ⟨r13, w12, er13, h0⟩ := h0
    have ag14 := ag0.tr (Agree.sub [1, 2] rfl (rX3_formComes er13))
    obtain ⟨g15, h0⟩ := gd_some h0
    rw [← Option.some.inj h0]
    exact ag14
  rw [if_neg c9] at h0
  by_cases c16 : v2 = 108
  · rw [if_pos c16] at h0
    obtain ⟨r17, er17, h0⟩ := bind_some h0
    obtain ⟨q20, er19, h0⟩ := bind_some h0
    replace h0 := un2_eq h0
    obtain ⟨r19, w18, rfl, h0⟩ := h0
    have ag21 := ag0.tr (Agree.sub [3] rfl (rX3_lightComes er19))
    obtain ⟨g22, h0⟩ := gd_some h0
    rw [← Option.some.inj h0]
    exact ag21
  rw [if_neg c16] at h0
  by_cases c23 : v2 = 112
  · rw [if_pos c23] at h0
    obtain ⟨r24, er24, h0⟩ := bind_some h0
    obtain ⟨r25, er25, h0⟩ := bind_some h0
    obtain ⟨r26, er26, h0⟩ := bind_some h0
    obtain ⟨q29, er28, h0⟩ := bind_some h0
    replace h0 := un2_eq h0
    obtain ⟨r28, w27, rfl, h0⟩ := h0
    have ag30 := ag0.tr (Agree.sub [4, 5, 6, 3] rfl (rX3_personComes er28))
    obtain ⟨g31, h0⟩ := gd_some h0
    rw [← Option.some.inj h0]
    exact ag30
  rw [if_neg c23] at h0
  by_cases c32 : v2 = 119
  · rw [if_pos c32] at h0
    obtain ⟨r33, er33, h0⟩ := bind_some h0
    obtain ⟨r34, er34, h0⟩ := bind_some h0
    obtain ⟨r35, er35, h0⟩ := bind_some h0
    obtain ⟨q38, er37, h0⟩ := bind_some h0
    replace h0 := un2_eq h0
    obtain ⟨r37, w36, rfl, h0⟩ := h0
    have ag39 := ag0.tr (Agree.sub [7, 8] rfl (rX3_windComes er37))
    obtain ⟨g40, h0⟩ := gd_some h0
    rw [← Option.some.inj h0]
    exact ag39
  rw [if_neg c32] at h0
  obtain ⟨r41, er41, h0⟩ := bind_some h0
  by_cases c47 : (1 : Int32) < r41
  · rw [if_pos c47] at h0
    rw [← Option.some.inj h0]
    exact ag0
  · rw [if_neg c47] at h0
    by_cases c46 : (fX2_isAtDoor 3 w) = 0
    · rw [if_pos c46] at h0
      by_cases c45 : (w.1 3 6) < 999
      · rw [if_pos c45] at h0
        obtain ⟨v42, hv42, h0⟩ := lt_some h0
        have hv42 := hv42.symm
        obtain ⟨w43, ew43, h0⟩ := bind_some h0
        have ag44 := ag0.tr (Agree.sub [9, 10, 11, 12, 13, 14, 15, 16, 17, 18, 19, 3, 20, 21] rfl (rX8_passMinute ew43))
        rw [← Option.some.inj h0]
        exact ag44
      · rw [if_neg c45] at h0
        rw [← Option.some.inj h0]
        exact ag0
    · rw [if_neg c46] at h0
      rw [← Option.some.inj h0]
      exact ag0
def pX3_comeTo (b1 : Nat) : List (Nat × Option Nat) := [at_ 3 0, at_ 3 1, at_ 3 2, at_ 3 3, at_ 3 4, at_ 3 5, at_ 3 6, all_ (9 + 4 * 3), all_ (10 + 4 * 3), all_ (11 + 4 * 3), all_ (12 + 4 * 3), at_ b1 0, at_ b1 1, at_ b1 2, at_ b1 3, at_ b1 4, at_ b1 5, at_ b1 6, all_ (9 + 4 * b1), all_ (10 + 4 * b1), all_ (11 + 4 * b1), all_ (12 + 4 * b1), all_ 23, all_ 24, at_ 4 0, at_ 4 1, at_ 4 2, at_ 4 3, at_ 4 4, all_ 28, all_ 29, all_ 27, at_ 4 5, at_ 4 6, all_ 25]
theorem rX3_comeTo {b1 : Nat} {w : Wd} {out : Int32 × Wd} (h0 : fX3_comeTo b1 w = some out) : Agree (pU (pX3_comeTo b1)) w out.2 := by
  have ag0 : Agree (pU (pX3_comeTo b1)) w w := Agree.rf
  unfold fX3_comeTo at h0
  have J67 : ∀ (w8 : Wd) (l7 : Int32), fX3_comeTo_j67 b1 w8 l7 = some out → Agree (pU (pX3_comeTo b1)) w w8 → Agree (pU (pX3_comeTo b1)) w out.2 := by
    intro w8 l7 h0 agj
    unfold fX3_comeTo_j67 at h0
    obtain ⟨w9, ew9, h0⟩ := lt_some h0
    have ag10 := agj.tr (Agree.sub [11, 12, 13, 14, 15, 16, 17, 18, 19, 20, 21] rfl (rX2_takeFrom ew9.symm))
    rw [← Option.some.inj h0]
    exact ag10
  obtain ⟨w1, ew1, h0⟩ := lt_some h0
  have ag2 := ag0.tr (Agree.sub [0, 1, 2, 3, 4, 5, 6, 7, 8, 9, 10] rfl (rX2_takeFrom ew1.symm))
  refine iter_rule (P := fun s : Int32 × Int32 × Int32 × Wd => Agree (pU (pX3_comeTo b1)) w s.2.2.2 → Agree (pU (pX3_comeTo b1)) w out.2) (x := out) ?_ FU (0, 0, 0, w1) h0 ag2
  intro s y1 h1 hP1 hX1 agl15
  obtain ⟨l3, l4, l5, w6⟩ := s
  have h1 : fX3_comeTo_b15 b1 l3 l4 l5 w6 = some y1 := h1
  have agl15 : Agree (pU (pX3_comeTo b1)) w w6 := agl15
  unfold fX3_comeTo_b15 at h1
  by_cases c23 : (96 : Int32) ≤ l5
  · rw [if_pos c23] at h1
    obtain ⟨m11, hjm11, em11⟩ := map_inr h1
    have em11 := hX1 _ em11.symm
    rw [em11] at hjm11
    exact J67 w6 l3 hjm11 agl15
  · rw [if_neg c23] at h1
    by_cases c22 : (w6.1 6 0) ≤ l4
    · rw [if_pos c22] at h1
      obtain ⟨m12, hjm12, em12⟩ := map_inr h1
      have em12 := hX1 _ em12.symm
      rw [em12] at hjm12
      exact J67 w6 l3 hjm12 agl15
    · rw [if_neg c22] at h1
      obtain ⟨q15, er14, h1⟩ := bind_some h1
      replace h1 := un2_eq h1
      obtain ⟨r14, w13, rfl, h1⟩ := h1
      have ag16 := agl15.tr (Agree.sub [4, 2, 3, 1, 7, 8, 0, 22, 23, 24, 25, 26, 27, 28, 29, 30, 31, 32, 33, 34, 6, 5] rfl (rX3_comes er14))
      by_cases c21 : r14 = 0
      · rw [if_pos c21] at h1
        have h0 := congrArg some (hX1 _ (Option.some.inj h1).symm)
        rw [← Option.some.inj h0]
        exact ag16
      · rw [if_neg c21] at h1
        obtain ⟨v17, ev17, h1⟩ := lt_some h1
        obtain ⟨g18, h1⟩ := gd_some h1
        obtain ⟨v19, ev19, h1⟩ := lt_some h1
        obtain ⟨v20, ev20, h1⟩ := lt_some h1
        exact hP1 (v17, v19, v20, w13) (Option.some.inj h1).symm ag16
def pX5_forget : List (Nat × Option Nat) := [at_ 5 0]
theorem rX5_forget {w : Wd} {out : Wd} (h0 : fX5_forget w = out) : Agree (pU pX5_forget) w out := by
  have ag0 : Agree (pU pX5_forget) w w := Agree.rf
  unfold fX5_forget at h0
  obtain ⟨w1, ew1, h0⟩ := lt_some h0
  have ag2 := ag0.pI ew1 (Or.inl (List.mem_of_getElem? (i := 0) rfl))
  rw [← h0]
  exact ag2
def pX9_road : List (Nat × Option Nat) := [at_ 3 0, at_ 3 1, at_ 3 2, at_ 3 3, at_ 3 4, at_ 3 5, at_ 3 6, all_ (9 + 4 * 3), all_ (10 + 4 * 3), all_ (11 + 4 * 3), all_ (12 + 4 * 3), at_ 1 0, at_ 1 1, at_ 1 2, at_ 1 3, at_ 1 4, at_ 1 5, at_ 1 6, all_ (9 + 4 * 1), all_ (10 + 4 * 1), all_ (11 + 4 * 1), all_ (12 + 4 * 1), all_ 23, all_ 24, at_ 4 0, at_ 4 1, at_ 4 2, at_ 4 3, at_ 4 4, all_ 28, all_ 29, all_ 27, at_ 4 5, at_ 4 6, all_ 25, at_ 6 0, at_ 5 0]
theorem rX9_road {w : Wd} {out : Int32 × Wd} (h0 : fX9_road w = some out) : Agree (pU pX9_road) w out.2 := by
  have ag0 : Agree (pU pX9_road) w w := Agree.rf
  unfold fX9_road at h0
  have J35 : ∀ (w9 : Wd) (l8 : Int32), fX9_road_j35 w9 l8 = some out → Agree (pU pX9_road) w w9 → Agree (pU pX9_road) w out.2 := by
    intro w9 l8 h0 agj
    unfold fX9_road_j35 at h0
    obtain ⟨w10, ew10, h0⟩ := lt_some h0
    have ag11 := agj.pI ew10 (Or.inl (List.mem_of_getElem? (i := 35) rfl))
    rw [← Option.some.inj h0]
    exact ag11
  have J24 : ∀ (w7 : Wd) (l6 : Int32), fX9_road_j24 w7 l6 = some out → Agree (pU pX9_road) w w7 → Agree (pU pX9_road) w out.2 := by
    intro w7 l6 h0 agj
    unfold fX9_road_j24 at h0
    by_cases c14 : l6 < 0
    · rw [if_pos c14] at h0
      exact J35 w7 l6 h0 agj
    · rw [if_neg c14] at h0
      obtain ⟨w12, ew12, h0⟩ := lt_some h0
      have ag13 := agj.tr (Agree.sub [36] rfl (rX5_forget ew12.symm))
      exact J35 w12 l6 h0 ag13
  obtain ⟨r1, er1, h0⟩ := bind_some h0
  by_cases c15 : r1 = 0
  · rw [if_pos c15] at h0
    obtain ⟨q4, er3, h0⟩ := bind_some h0
    replace h0 := un2_eq h0
    obtain ⟨r3, w2, rfl, h0⟩ := h0
    have ag5 := ag0.tr (Agree.sub [0, 1, 2, 3, 4, 5, 6, 7, 8, 9, 10, 11, 12, 13, 14, 15, 16, 17, 18, 19, 20, 21, 22, 23, 24, 25, 26, 27, 28, 29, 30, 31, 32, 33, 34] rfl (rX3_comeTo er3))
    exact J24 w2 r3 h0 ag5
  · rw [if_neg c15] at h0
    exact J24 w r1 h0 ag0
def pX9_person : List (Nat × Option Nat) := [all_ 12]
theorem rX9_person {w : Wd} {a1 : Int32} {a2 : Int32} {out : Int32 × Wd} (h0 : fX9_person w a1 a2 = some out) : Agree (pU pX9_person) w out.2 := by
  have ag0 : Agree (pU pX9_person) w w := Agree.rf
  unfold fX9_person at h0
  by_cases c11 : (fX2_hasOne 1 w a1) = 0
  · rw [if_pos c11] at h0
    obtain ⟨q3, er2, h0⟩ := bind_some h0
    replace h0 := un2_eq h0
    obtain ⟨r2, w1, rfl, h0⟩ := h0
    have ag4 := ag0.tr (Agree.sub [0] rfl (rX9_refuse er2))
    rw [← Option.some.inj h0]
    exact ag4
  · rw [if_neg c11] at h0
    by_cases c10 : (fX9_isOutside a2 6) = 0
    · rw [if_pos c10] at h0
      obtain ⟨r5, er5, h0⟩ := bind_some h0
      rw [← Option.some.inj h0]
      exact ag0
    · rw [if_neg c10] at h0
      obtain ⟨q8, er7, h0⟩ := bind_some h0
      replace h0 := un2_eq h0
      obtain ⟨r7, w6, rfl, h0⟩ := h0
      have ag9 := ag0.tr (Agree.sub [0] rfl (rX9_refuse er7))
      rw [← Option.some.inj h0]
      exact ag9
def pX9_light : List (Nat × Option Nat) := [all_ 12, at_ 1 1, at_ 5 0]
theorem rX9_light {w : Wd} {a1 : Int32} {a2 : Int32} {out : Int32 × Wd} (h0 : fX9_light w a1 a2 = some out) : Agree (pU pX9_light) w out.2 := by
  have ag0 : Agree (pU pX9_light) w w := Agree.rf
  unfold fX9_light at h0
  have J55 : ∀ (w6 : Wd), fX9_light_j55 a1 a2 w6 = some out → Agree (pU pX9_light) w w6 → Agree (pU pX9_light) w out.2 := by
    intro w6 h0 agj
    unfold fX9_light_j55 at h0
    obtain ⟨r7, er7, h0⟩ := bind_some h0
    obtain ⟨v8, hv8, h0⟩ := lt_some h0
    have hv8 := hv8.symm
    obtain ⟨v9, hv9, h0⟩ := lt_some h0
    have hv9 := hv9.symm
    obtain ⟨w10, ew10, h0⟩ := lt_some h0
    have ag11 := agj.tr (Agree.sub [1] rfl (rX2_putLit ew10.symm))
    obtain ⟨w12, ew12, h0⟩ := lt_some h0
    have ag13 := ag11.tr (Agree.sub [2] rfl (rX5_forget ew12.symm))
    rw [← Option.some.inj h0]
    exact ag13
  by_cases c25 : (fX2_hasOne 1 w a1) = 0
  · rw [if_pos c25] at h0
    obtain ⟨q3, er2, h0⟩ := bind_some h0
    replace h0 := un2_eq h0
    obtain ⟨r2, w1, rfl, h0⟩ := h0
    have ag4 := ag0.tr (Agree.sub [0] rfl (rX9_refuse er2))
    rw [← Option.some.inj h0]
    exact ag4
  · rw [if_neg c25] at h0
    by_cases c24 : (fX9_isOutside a2 1) = 0
    · rw [if_pos c24] at h0
      by_cases c19 : a2 = 1
      · rw [if_pos c19] at h0
        obtain ⟨r5, er5, h0⟩ := bind_some h0
        by_cases c18 : r5 = 0
        · rw [if_pos c18] at h0
          exact J55 w h0 ag0
        · rw [if_neg c18] at h0
          obtain ⟨q16, er15, h0⟩ := bind_some h0
          replace h0 := un2_eq h0
          obtain ⟨r15, w14, rfl, h0⟩ := h0
          have ag17 := ag0.tr (Agree.sub [0] rfl (rX9_refuse er15))
          rw [← Option.some.inj h0]
          exact ag17
      · rw [if_neg c19] at h0
        exact J55 w h0 ag0
    · rw [if_neg c24] at h0
      obtain ⟨q22, er21, h0⟩ := bind_some h0
      replace h0 := un2_eq h0
      obtain ⟨r21, w20, rfl, h0⟩ := h0
      have ag23 := ag0.tr (Agree.sub [0] rfl (rX9_refuse er21))
      rw [← Option.some.inj h0]
      exact ag23
def pX2_become (b : Nat) : List (Nat × Option Nat) := [all_ (9 + 4 * b), at_ b 1]
theorem rX2_become {b : Nat} {w : Wd} {a1 : Int32} {a2 : Int32} {out : Wd} (h0 : fX2_become b w a1 a2 = some out) : Agree (pU (pX2_become b)) w out := by
  have ag0 : Agree (pU (pX2_become b)) w w := Agree.rf
  unfold fX2_become at h0
  obtain ⟨g2, h0⟩ := gd_some h0
  obtain ⟨w1, ew1, h0⟩ := lt_some h0
  have ag3 := ag0.pI ew1 (Or.inr (List.mem_of_getElem? (i := 0) rfl))
  by_cases c6 : a2 = 6
  · rw [if_pos c6] at h0
    obtain ⟨w4, ew4, h0⟩ := lt_some h0
    have ag5 := ag3.tr (Agree.sub [1] rfl (rX2_putLit ew4.symm))
    rw [← Option.some.inj h0]
    exact ag5
  · rw [if_neg c6] at h0
    rw [← Option.some.inj h0]
    exact ag3
def pX9_kind : List (Nat × Option Nat) := [all_ 12, all_ 14, all_ (9 + 4 * 1), at_ 1 1, at_ 5 0]
theorem rX9_kind {w : Wd} {a1 : Int32} {a2 : Int32} {a3 : Int32} {out : Int32 × Wd} (h0 : fX9_kind w a1 a2 a3 = some out) : Agree (pU pX9_kind) w out.2 := by
  have ag0 : Agree (pU pX9_kind) w w := Agree.rf
  unfold fX9_kind at h0
  by_cases c28 : (fX2_hasOne 1 w a1) = 0
  · rw [if_pos c28] at h0
    obtain ⟨q3, er2, h0⟩ := bind_some h0
    replace h0 := un2_eq h0
    obtain ⟨r2, w1, rfl, h0⟩ := h0
    have ag4 := ag0.tr (Agree.sub [0] rfl (rX9_refuse er2))
    rw [← Option.some.inj h0]
    exact ag4
  · rw [if_neg c28] at h0
    by_cases c27 : (fX9_isOutside a2 6) = 0
    · rw [if_pos c27] at h0
      by_cases c22 : (0 : Int32) ≤ a3
      · rw [if_pos c22] at h0
        by_cases c17 : a3 ≤ 9
        · rw [if_pos c17] at h0
          obtain ⟨g5, h0⟩ := gd_some h0
          obtain ⟨v6, ev6, h0⟩ := lt_some h0
          obtain ⟨w7, ew7, h0⟩ := lt_some h0
          have ag8 := ag0.pI ew7 (Or.inr (List.mem_of_getElem? (i := 1) rfl))
          obtain ⟨w9, ew9, h0⟩ := bind_some h0
          have ag10 := ag8.tr (Agree.sub [2, 3] rfl (rX2_become ew9))
          obtain ⟨w11, ew11, h0⟩ := lt_some h0
          have ag12 := ag10.tr (Agree.sub [4] rfl (rX5_forget ew11.symm))
          rw [← Option.some.inj h0]
          exact ag12
        · rw [if_neg c17] at h0
          obtain ⟨q15, er14, h0⟩ := bind_some h0
          replace h0 := un2_eq h0
          obtain ⟨r14, w13, rfl, h0⟩ := h0
          have ag16 := ag0.tr (Agree.sub [0] rfl (rX9_refuse er14))
          rw [← Option.some.inj h0]
          exact ag16
      · rw [if_neg c22] at h0
        obtain ⟨q20, er19, h0⟩ := bind_some h0
        replace h0 := un2_eq h0
        obtain ⟨r19, w18, rfl, h0⟩ := h0
        have ag21 := ag0.tr (Agree.sub [0] rfl (rX9_refuse er19))
        rw [← Option.some.inj h0]
        exact ag21
    · rw [if_neg c27] at h0
      obtain ⟨q25, er24, h0⟩ := bind_some h0
      replace h0 := un2_eq h0
      obtain ⟨r24, w23, rfl, h0⟩ := h0
      have ag26 := ag0.tr (Agree.sub [0] rfl (rX9_refuse er24))
      rw [← Option.some.inj h0]
      exact ag26
def pX9_wind : List (Nat × Option Nat) := [all_ 12]
theorem rX9_wind {w : Wd} {a1 : Int32} {a2 : Int32} {out : Int32 × Wd} (h0 : fX9_wind w a1 a2 = some out) : Agree (pU pX9_wind) w out.2 := by
  have ag0 : Agree (pU pX9_wind) w w := Agree.rf
  unfold fX9_wind at h0
  by_cases c13 : (fX9_isOutside a1 24) = 0
  · rw [if_pos c13] at h0
    by_cases c8 : (fX9_isOutside a2 1) = 0
    · rw [if_pos c8] at h0
      by_cases c3 : a2 = 0
      · rw [if_pos c3] at h0
        obtain ⟨g1, h0⟩ := gd_some h0
        rw [← Option.some.inj h0]
        exact ag0
      · rw [if_neg c3] at h0
        obtain ⟨g2, h0⟩ := gd_some h0
        rw [← Option.some.inj h0]
        exact ag0
    · rw [if_neg c8] at h0
      obtain ⟨q6, er5, h0⟩ := bind_some h0
      replace h0 := un2_eq h0
      obtain ⟨r5, w4, rfl, h0⟩ := h0
      have ag7 := ag0.tr (Agree.sub [0] rfl (rX9_refuse er5))
      rw [← Option.some.inj h0]
      exact ag7
  · rw [if_neg c13] at h0
    obtain ⟨q11, er10, h0⟩ := bind_some h0
    replace h0 := un2_eq h0
    obtain ⟨r10, w9, rfl, h0⟩ := h0
    have ag12 := ag0.tr (Agree.sub [0] rfl (rX9_refuse er10))
    rw [← Option.some.inj h0]
    exact ag12
def pX9_blows : List (Nat × Option Nat) := [all_ 12, all_ 15, all_ 16, at_ 5 0]
theorem rX9_blows {w : Wd} {a1 : Int32} {a2 : Int32} {a3 : Int32} {out : Int32 × Wd} (h0 : fX9_blows w a1 a2 a3 = some out) : Agree (pU pX9_blows) w out.2 := by
  have ag0 : Agree (pU pX9_blows) w w := Agree.rf
  unfold fX9_blows at h0
  have J23 : ∀ (w1 : Wd), fX9_blows_j23 w1 = some out → Agree (pU pX9_blows) w w1 → Agree (pU pX9_blows) w out.2 := by
    intro w1 h0 agj
    unfold fX9_blows_j23 at h0
    obtain ⟨q4, er3, h0⟩ := bind_some h0
    replace h0 := un2_eq h0
    obtain ⟨r3, w2, rfl, h0⟩ := h0
    have ag5 := agj.tr (Agree.sub [0] rfl (rX9_refuse er3))
    rw [← Option.some.inj h0]
    exact ag5
  have J41 : ∀ (w6 : Wd), fX9_blows_j41 w6 = some out → Agree (pU pX9_blows) w w6 → Agree (pU pX9_blows) w out.2 := by
    intro w6 h0 agj
    unfold fX9_blows_j41 at h0
    obtain ⟨q9, er8, h0⟩ := bind_some h0
    replace h0 := un2_eq h0
    obtain ⟨r8, w7, rfl, h0⟩ := h0
    have ag10 := agj.tr (Agree.sub [0] rfl (rX9_refuse er8))
    rw [← Option.some.inj h0]
    exact ag10
  by_cases c27 : (fX9_isOutside a1 24) = 0
  · rw [if_pos c27] at h0
    by_cases c22 : a2 < 0
    · rw [if_pos c22] at h0
      exact J23 w h0 ag0
    · rw [if_neg c22] at h0
      by_cases c21 : (0 : Int32) ≤ a3
      · rw [if_pos c21] at h0
        by_cases c20 : (9 : Int32) < a2
        · rw [if_pos c20] at h0
          exact J41 w h0 ag0
        · rw [if_neg c20] at h0
          by_cases c19 : a3 ≤ 2
          · rw [if_pos c19] at h0
            obtain ⟨g11, h0⟩ := gd_some h0
            obtain ⟨v12, ev12, h0⟩ := lt_some h0
            obtain ⟨w13, ew13, h0⟩ := lt_some h0
            have ag14 := ag0.pI ew13 (Or.inr (List.mem_of_getElem? (i := 1) rfl))
            obtain ⟨w15, ew15, h0⟩ := lt_some h0
            have ag16 := ag14.pI ew15 (Or.inr (List.mem_of_getElem? (i := 2) rfl))
            obtain ⟨w17, ew17, h0⟩ := lt_some h0
            have ag18 := ag16.tr (Agree.sub [3] rfl (rX5_forget ew17.symm))
            rw [← Option.some.inj h0]
            exact ag18
          · rw [if_neg c19] at h0
            exact J41 w h0 ag0
      · rw [if_neg c21] at h0
        exact J23 w h0 ag0
  · rw [if_neg c27] at h0
    obtain ⟨q25, er24, h0⟩ := bind_some h0
    replace h0 := un2_eq h0
    obtain ⟨r24, w23, rfl, h0⟩ := h0
    have ag26 := ag0.tr (Agree.sub [0] rfl (rX9_refuse er24))
    rw [← Option.some.inj h0]
    exact ag26
def pX9_change : List (Nat × Option Nat) := [at_ 1 2, at_ 1 3, at_ 1 4]
theorem rX9_change {w : Wd} {a1 : Int32} {a2 : Int32} {out : Int32 × Wd} (h0 : fX9_change w a1 a2 = out) : Agree (pU pX9_change) w out.2 := by
  have ag0 : Agree (pU pX9_change) w w := Agree.rf
  unfold fX9_change at h0
  by_cases c11 : a1 = 0
  · rw [if_pos c11] at h0
    obtain ⟨v1, ev1, h0⟩ := lt_some h0
    obtain ⟨w2, ew2, h0⟩ := lt_some h0
    have ag3 := ag0.pI ew2 (Or.inl (List.mem_of_getElem? (i := 0) rfl))
    rw [← h0]
    exact ag3
  · rw [if_neg c11] at h0
    by_cases c10 : a1 = 1
    · rw [if_pos c10] at h0
      obtain ⟨v4, ev4, h0⟩ := lt_some h0
      obtain ⟨w5, ew5, h0⟩ := lt_some h0
      have ag6 := ag0.pI ew5 (Or.inl (List.mem_of_getElem? (i := 1) rfl))
      rw [← h0]
      exact ag6
    · rw [if_neg c10] at h0
      obtain ⟨v7, ev7, h0⟩ := lt_some h0
      obtain ⟨w8, ew8, h0⟩ := lt_some h0
      have ag9 := ag0.pI ew8 (Or.inl (List.mem_of_getElem? (i := 2) rfl))
      rw [← h0]
      exact ag9
def pX9_set : List (Nat × Option Nat) := [at_ 5 0, at_ 1 2, at_ 1 3, at_ 1 4, all_ 12]
theorem rX9_set {w : Wd} {a1 : Int32} {a2 : Int32} {out : Int32 × Wd} (h0 : fX9_set w a1 a2 = some out) : Agree (pU pX9_set) w out.2 := by
  have ag0 : Agree (pU pX9_set) w w := Agree.rf
  unfold fX9_set at h0
  have J68 : ∀ (w1 : Wd), fX9_set_j68 a1 a2 w1 = some out → Agree (pU pX9_set) w w1 → Agree (pU pX9_set) w out.2 := by
    intro w1 h0 agj
    unfold fX9_set_j68 at h0
    obtain ⟨w2, ew2, h0⟩ := lt_some h0
    have ag3 := agj.tr (Agree.sub [0] rfl (rX5_forget ew2.symm))
    replace h0 := un2_eq h0
    obtain ⟨r5, w4, er5, h0⟩ := h0
    have ag6 := ag3.tr (Agree.sub [1, 2, 3] rfl (rX9_change er5))
    rw [← Option.some.inj h0]
    exact ag6
  by_cases c27 : (fX9_isOutside a1 2) = 0
  · rw [if_pos c27] at h0
    by_cases c22 : (fX9_leastOf a1) ≤ a2
    · rw [if_pos c22] at h0
      by_cases c17 : a2 ≤ (fX9_mostOf a1)
      · rw [if_pos c17] at h0
        by_cases c12 : a1 = 2
        · rw [if_pos c12] at h0
          by_cases c11 : (w.1 1 5) ≤ a2
          · rw [if_pos c11] at h0
            exact J68 w h0 ag0
          · rw [if_neg c11] at h0
            obtain ⟨q9, er8, h0⟩ := bind_some h0
            replace h0 := un2_eq h0
            obtain ⟨r8, w7, rfl, h0⟩ := h0
            have ag10 := ag0.tr (Agree.sub [4] rfl (rX9_refuse er8))
            rw [← Option.some.inj h0]
            exact ag10
        · rw [if_neg c12] at h0
          exact J68 w h0 ag0
      · rw [if_neg c17] at h0
        obtain ⟨q15, er14, h0⟩ := bind_some h0
        replace h0 := un2_eq h0
        obtain ⟨r14, w13, rfl, h0⟩ := h0
        have ag16 := ag0.tr (Agree.sub [4] rfl (rX9_refuse er14))
        rw [← Option.some.inj h0]
        exact ag16
    · rw [if_neg c22] at h0
      obtain ⟨q20, er19, h0⟩ := bind_some h0
      replace h0 := un2_eq h0
      obtain ⟨r19, w18, rfl, h0⟩ := h0
      have ag21 := ag0.tr (Agree.sub [4] rfl (rX9_refuse er19))
      rw [← Option.some.inj h0]
      exact ag21
  · rw [if_neg c27] at h0
    obtain ⟨q25, er24, h0⟩ := bind_some h0
    replace h0 := un2_eq h0
    obtain ⟨r24, w23, rfl, h0⟩ := h0
    have ag26 := ag0.tr (Agree.sub [4] rfl (rX9_refuse er24))
    rw [← Option.some.inj h0]
    exact ag26
def pX9_beside : List (Nat × Option Nat) := [all_ 12]
theorem rX9_beside {w : Wd} {a1 : Int32} {out : Int32 × Wd} (h0 : fX9_beside w a1 = some out) : Agree (pU pX9_beside) w out.2 := by
  have ag0 : Agree (pU pX9_beside) w w := Agree.rf
  unfold fX9_beside at h0
  by_cases c6 : (fX2_hasOne 1 w a1) = 0
  · rw [if_pos c6] at h0
    obtain ⟨q3, er2, h0⟩ := bind_some h0
    replace h0 := un2_eq h0
    obtain ⟨r2, w1, rfl, h0⟩ := h0
    have ag4 := ag0.tr (Agree.sub [0] rfl (rX9_refuse er2))
    rw [← Option.some.inj h0]
    exact ag4
  · rw [if_neg c6] at h0
    obtain ⟨r5, er5, h0⟩ := bind_some h0
    rw [← Option.some.inj h0]
    exact ag0
def pX9_covers : List (Nat × Option Nat) := [all_ 12]
theorem rX9_covers {w : Wd} {a1 : Int32} {a2 : Int32} {out : Int32 × Wd} (h0 : fX9_covers w a1 a2 = some out) : Agree (pU pX9_covers) w out.2 := by
  have ag0 : Agree (pU pX9_covers) w w := Agree.rf
  unfold fX9_covers at h0
  have J20 : ∀ (w1 : Wd), fX9_covers_j20 w1 = some out → Agree (pU pX9_covers) w w1 → Agree (pU pX9_covers) w out.2 := by
    intro w1 h0 agj
    unfold fX9_covers_j20 at h0
    obtain ⟨q4, er3, h0⟩ := bind_some h0
    replace h0 := un2_eq h0
    obtain ⟨r3, w2, rfl, h0⟩ := h0
    have ag5 := agj.tr (Agree.sub [0] rfl (rX9_refuse er3))
    rw [← Option.some.inj h0]
    exact ag5
  by_cases c9 : (fX2_hasOne 1 w a1) = 0
  · rw [if_pos c9] at h0
    exact J20 w h0 ag0
  · rw [if_neg c9] at h0
    by_cases c8 : (fX9_isOutside a2 24) = 0
    · rw [if_pos c8] at h0
      obtain ⟨g6, h0⟩ := gd_some h0
      obtain ⟨r7, er7, h0⟩ := bind_some h0
      rw [← Option.some.inj h0]
      exact ag0
    · rw [if_neg c8] at h0
      exact J20 w h0 ag0
def pX5_dropOldest : List (Nat × Option Nat) := [all_ 30, all_ 31, all_ 32, at_ 5 0]
theorem rX5_dropOldest {w : Wd} {out : Wd} (h0 : fX5_dropOldest w = some out) : Agree (pU pX5_dropOldest) w out := by
  have ag0 : Agree (pU pX5_dropOldest) w w := Agree.rf
  unfold fX5_dropOldest at h0
  obtain ⟨w15, iw15, h0⟩ := bind_some h0
  have ag16 : Agree (pU pX5_dropOldest) w w15 := by
    refine iter_rule (P := fun s : Int32 × Wd => Agree (pU pX5_dropOldest) w s.2 → Agree (pU pX5_dropOldest) w w15) (x := w15) ?_ FU (1, w) iw15 ag0
    intro s y1 h1 hP1 hX1 agl2
    obtain ⟨l1, w2⟩ := s
    have h1 : fX5_dropOldest_b2 l1 w2 = some y1 := h1
    have agl2 : Agree (pU pX5_dropOldest) w w2 := agl2
    unfold fX5_dropOldest_b2 at h1
    by_cases c13 : (w2.1 5 0) ≤ l1
    · rw [if_pos c13] at h1
      have e3 := hX1 _ (Option.some.inj h1).symm
      cases e3
      exact agl2
    · rw [if_neg c13] at h1
      obtain ⟨g4, h1⟩ := gd_some h1
      obtain ⟨g6, h1⟩ := gd_some h1
      obtain ⟨w5, ew5, h1⟩ := lt_some h1
      have ag7 := agl2.pI ew5 (Or.inr (List.mem_of_getElem? (i := 0) rfl))
      obtain ⟨w8, ew8, h1⟩ := lt_some h1
      have ag9 := ag7.pI ew8 (Or.inr (List.mem_of_getElem? (i := 1) rfl))
      obtain ⟨w10, ew10, h1⟩ := lt_some h1
      have ag11 := ag9.pI ew10 (Or.inr (List.mem_of_getElem? (i := 2) rfl))
      obtain ⟨v12, ev12, h1⟩ := lt_some h1
      exact hP1 (v12, w10) (Option.some.inj h1).symm ag11
  obtain ⟨w17, ew17, h0⟩ := lt_some h0
  have ag18 := ag16.pI ew17 (Or.inl (List.mem_of_getElem? (i := 3) rfl))
  rw [← Option.some.inj h0]
  exact ag18
def pX5_keep : List (Nat × Option Nat) := [all_ 30, all_ 31, all_ 32, at_ 5 0]
theorem rX5_keep {b1 : Nat} {w : Wd} {out : Wd} (h0 : fX5_keep b1 w = some out) : Agree (pU pX5_keep) w out := by
  have ag0 : Agree (pU pX5_keep) w w := Agree.rf
  unfold fX5_keep at h0
  have J13 : ∀ (w3 : Wd), fX5_keep_j13 b1 w3 = some out → Agree (pU pX5_keep) w w3 → Agree (pU pX5_keep) w out := by
    intro w3 h0 agj
    unfold fX5_keep_j13 at h0
    obtain ⟨g5, h0⟩ := gd_some h0
    obtain ⟨w4, ew4, h0⟩ := lt_some h0
    have ag6 := agj.pI ew4 (Or.inr (List.mem_of_getElem? (i := 0) rfl))
    obtain ⟨g8, h0⟩ := gd_some h0
    obtain ⟨w7, ew7, h0⟩ := lt_some h0
    have ag9 := ag6.pI ew7 (Or.inr (List.mem_of_getElem? (i := 1) rfl))
    obtain ⟨g11, h0⟩ := gd_some h0
    obtain ⟨w10, ew10, h0⟩ := lt_some h0
    have ag12 := ag9.pI ew10 (Or.inr (List.mem_of_getElem? (i := 2) rfl))
    obtain ⟨w13, ew13, h0⟩ := lt_some h0
    have ag14 := ag12.pI ew13 (Or.inl (List.mem_of_getElem? (i := 3) rfl))
    rw [← Option.some.inj h0]
    exact ag14
  by_cases c15 : (w.1 5 0) = 8
  · rw [if_pos c15] at h0
    obtain ⟨w1, ew1, h0⟩ := bind_some h0
    have ag2 := ag0.tr (Agree.sub [0, 1, 2, 3] rfl (rX5_dropOldest ew1))
    exact J13 w1 h0 ag2
  · rw [if_neg c15] at h0
    exact J13 w h0 ag0
def pX9_go : List (Nat × Option Nat) := [all_ 30, all_ 31, all_ 32, at_ 5 0, at_ 4 0, at_ 4 1, at_ 4 2, at_ 4 3, at_ 4 4, all_ 28, all_ 29, all_ 27, at_ 4 5, at_ 4 6, all_ 25, at_ 1 1, at_ 1 6, at_ 1 5, all_ 12]
theorem rX9_go {w : Wd} {a1 : Int32} {out : Int32 × Wd} (h0 : fX9_go w a1 = some out) : Agree (pU pX9_go) w out.2 := by
  have ag0 : Agree (pU pX9_go) w w := Agree.rf
  unfold fX9_go at h0
  by_cases c20 : (fX9_isOutside a1 1) = 0
  · rw [if_pos c20] at h0
    by_cases c15 : (fX2_isAtDoor 1 w) = 0
    · rw [if_pos c15] at h0
      by_cases c10 : (w.1 1 6) < 999
      · rw [if_pos c10] at h0
        obtain ⟨w1, ew1, h0⟩ := bind_some h0
        have ag2 := ag0.tr (Agree.sub [0, 1, 2, 3] rfl (rX5_keep ew1))
        obtain ⟨v3, hv3, h0⟩ := lt_some h0
        have hv3 := hv3.symm
        obtain ⟨w4, ew4, h0⟩ := bind_some h0
        have ag5 := ag2.tr (Agree.sub [4, 5, 6, 7, 8, 9, 10, 11, 12, 13, 14, 15, 16, 17] rfl (rX8_passMinute ew4))
        rw [← Option.some.inj h0]
        exact ag5
      · rw [if_neg c10] at h0
        obtain ⟨q8, er7, h0⟩ := bind_some h0
        replace h0 := un2_eq h0
        obtain ⟨r7, w6, rfl, h0⟩ := h0
        have ag9 := ag0.tr (Agree.sub [18] rfl (rX9_refuse er7))
        rw [← Option.some.inj h0]
        exact ag9
    · rw [if_neg c15] at h0
      obtain ⟨q13, er12, h0⟩ := bind_some h0
      replace h0 := un2_eq h0
      obtain ⟨r12, w11, rfl, h0⟩ := h0
      have ag14 := ag0.tr (Agree.sub [18] rfl (rX9_refuse er12))
      rw [← Option.some.inj h0]
      exact ag14
  · rw [if_neg c20] at h0
    obtain ⟨q18, er17, h0⟩ := bind_some h0
    replace h0 := un2_eq h0
    obtain ⟨r17, w16, rfl, h0⟩ := h0
    have ag19 := ag0.tr (Agree.sub [18] rfl (rX9_refuse er17))
    rw [← Option.some.inj h0]
    exact ag19
def pX8_walkOn : List (Nat × Option Nat) := [all_ 26, at_ 4 5, at_ 4 6, all_ 25]
theorem rX8_walkOn {w : Wd} {a1 : Int32} {out : Wd} (h0 : fX8_walkOn w a1 = some out) : Agree (pU pX8_walkOn) w out := by
  have ag0 : Agree (pU pX8_walkOn) w w := Agree.rf
  unfold fX8_walkOn at h0
  obtain ⟨w1, ew1, h0⟩ := lt_some h0
  have ag2 := ag0.pI ew1 (Or.inr (List.mem_of_getElem? (i := 0) rfl))
  obtain ⟨w17, iw17, h0⟩ := bind_some h0
  have ag18 : Agree (pU pX8_walkOn) w w17 := by
    refine iter_rule (P := fun s : Int32 × Wd => Agree (pU pX8_walkOn) w s.2 → Agree (pU pX8_walkOn) w w17) (x := w17) ?_ FU (0, w1) iw17 ag2
    intro s y1 h1 hP1 hX1 agl9
    obtain ⟨l3, w4⟩ := s
    have h1 : fX8_walkOn_b9 l3 w4 = some y1 := h1
    have agl9 : Agree (pU pX8_walkOn) w w4 := agl9
    unfold fX8_walkOn_b9 at h1
    by_cases c15 : (w4.1 4 4) ≤ l3
    · rw [if_pos c15] at h1
      have e5 := hX1 _ (Option.some.inj h1).symm
      cases e5
      exact agl9
    · rw [if_neg c15] at h1
      obtain ⟨g6, h1⟩ := gd_some h1
      obtain ⟨q9, er8, h1⟩ := bind_some h1
      replace h1 := un2_eq h1
      obtain ⟨r8, w7, rfl, h1⟩ := h1
      have ag10 := agl9.tr (Agree.sub [1, 2, 3] rfl (rX8_minuteAt er8))
      obtain ⟨g12, h1⟩ := gd_some h1
      obtain ⟨w11, ew11, h1⟩ := lt_some h1
      have ag13 := ag10.pI ew11 (Or.inr (List.mem_of_getElem? (i := 0) rfl))
      obtain ⟨v14, ev14, h1⟩ := lt_some h1
      exact hP1 (v14, w11) (Option.some.inj h1).symm ag13
  rw [← Option.some.inj h0]
  exact ag18
def pX4_walkFromNow : List (Nat × Option Nat) := [at_ 4 0, at_ 4 1, at_ 4 2, at_ 4 3, at_ 4 4, all_ 28, all_ 29, all_ 27, all_ 26, at_ 4 5, at_ 4 6, all_ 25]
theorem rX4_walkFromNow {w : Wd} {out : Wd} (h0 : fX4_walkFromNow w = some out) : Agree (pU pX4_walkFromNow) w out := by
  have ag0 : Agree (pU pX4_walkFromNow) w w := Agree.rf
  unfold fX4_walkFromNow at h0
  obtain ⟨w1, ew1, h0⟩ := bind_some h0
  have ag2 := ag0.tr (Agree.sub [0, 1, 2, 3, 4, 5, 6, 7] rfl (rX8_setOut ew1))
  obtain ⟨w3, ew3, h0⟩ := bind_some h0
  have ag4 := ag2.tr (Agree.sub [8, 9, 10, 11] rfl (rX8_walkOn ew3))
  rw [← Option.some.inj h0]
  exact ag4
def pX4_litBehind : List (Nat × Option Nat) := [at_ 4 0, at_ 4 1, at_ 4 2, at_ 4 3, at_ 4 4, all_ 28, all_ 29, all_ 27, all_ 26, at_ 4 5, at_ 4 6, all_ 25]
theorem rX4_litBehind {w : Wd} {a1 : Int32} {out : Int32 × Wd} (h0 : fX4_litBehind w a1 = some out) : Agree (pU pX4_litBehind) w out.2 := by
  have ag0 : Agree (pU pX4_litBehind) w w := Agree.rf
  unfold fX4_litBehind at h0
  obtain ⟨w1, ew1, h0⟩ := bind_some h0
  have ag2 := ag0.tr (Agree.sub [0, 1, 2, 3, 4, 5, 6, 7, 8, 9, 10, 11] rfl (rX4_walkFromNow ew1))
  obtain ⟨g3, h0⟩ := gd_some h0
  rw [← Option.some.inj h0]
  exact ag2
def pX9_then : List (Nat × Option Nat) := [at_ 4 0, at_ 4 1, at_ 4 2, at_ 4 3, at_ 4 4, all_ 28, all_ 29, all_ 27, all_ 26, at_ 4 5, at_ 4 6, all_ 25, all_ 12]
theorem rX9_then {w : Wd} {a1 : Int32} {out : Int32 × Wd} (h0 : fX9_then w a1 = some out) : Agree (pU pX9_then) w out.2 := by
  have ag0 : Agree (pU pX9_then) w w := Agree.rf
  unfold fX9_then at h0
  by_cases c14 : (0 : Int32) ≤ a1
  · rw [if_pos c14] at h0
    by_cases c9 : a1 ≤ 24
    · rw [if_pos c9] at h0
      obtain ⟨q3, er2, h0⟩ := bind_some h0
      replace h0 := un2_eq h0
      obtain ⟨r2, w1, rfl, h0⟩ := h0
      have ag4 := ag0.tr (Agree.sub [0, 1, 2, 3, 4, 5, 6, 7, 8, 9, 10, 11] rfl (rX4_litBehind er2))
      rw [← Option.some.inj h0]
      exact ag4
    · rw [if_neg c9] at h0
      obtain ⟨q7, er6, h0⟩ := bind_some h0
      replace h0 := un2_eq h0
      obtain ⟨r6, w5, rfl, h0⟩ := h0
      have ag8 := ag0.tr (Agree.sub [12] rfl (rX9_refuse er6))
      rw [← Option.some.inj h0]
      exact ag8
  · rw [if_neg c14] at h0
    obtain ⟨q12, er11, h0⟩ := bind_some h0
    replace h0 := un2_eq h0
    obtain ⟨r11, w10, rfl, h0⟩ := h0
    have ag13 := ag0.tr (Agree.sub [12] rfl (rX9_refuse er11))
    rw [← Option.some.inj h0]
    exact ag13
def pX9_door : List (Nat × Option Nat) := [at_ 4 0, at_ 4 1, at_ 4 2, at_ 4 3, at_ 4 4, all_ 28, all_ 29, all_ 27, all_ 26, at_ 4 5, at_ 4 6, all_ 25, all_ 12]
theorem rX9_door {w : Wd} {a1 : Int32} {out : Int32 × Wd} (h0 : fX9_door w a1 = some out) : Agree (pU pX9_door) w out.2 := by
  have ag0 : Agree (pU pX9_door) w w := Agree.rf
  unfold fX9_door at h0
  by_cases c12 : (fX9_isOutside a1 2) = 0
  · rw [if_pos c12] at h0
    obtain ⟨q3, er2, h0⟩ := bind_some h0
    replace h0 := un2_eq h0
    obtain ⟨r2, w1, rfl, h0⟩ := h0
    have ag4 := ag0.tr (Agree.sub [0, 1, 2, 3, 4, 5, 6, 7, 8, 9, 10, 11] rfl (rX4_litBehind er2))
    by_cases c7 : a1 = 0
    · rw [if_pos c7] at h0
      rw [← Option.some.inj h0]
      exact ag4
    · rw [if_neg c7] at h0
      by_cases c6 : a1 = 1
      · rw [if_pos c6] at h0
        rw [← Option.some.inj h0]
        exact ag4
      · rw [if_neg c6] at h0
        obtain ⟨r5, er5, h0⟩ := bind_some h0
        rw [← Option.some.inj h0]
        exact ag4
  · rw [if_neg c12] at h0
    obtain ⟨q10, er9, h0⟩ := bind_some h0
    replace h0 := un2_eq h0
    obtain ⟨r9, w8, rfl, h0⟩ := h0
    have ag11 := ag0.tr (Agree.sub [12] rfl (rX9_refuse er9))
    rw [← Option.some.inj h0]
    exact ag11
def pX4_firstDark : List (Nat × Option Nat) := [at_ 4 0, at_ 4 1, at_ 4 2, at_ 4 3, at_ 4 4, all_ 28, all_ 29, all_ 27, all_ 26, at_ 4 5, at_ 4 6, all_ 25]
theorem rX4_firstDark {w : Wd} {out : Int32 × Wd} (h0 : fX4_firstDark w = some out) : Agree (pU pX4_firstDark) w out.2 := by
  have ag0 : Agree (pU pX4_firstDark) w w := Agree.rf
  unfold fX4_firstDark at h0
  obtain ⟨w1, ew1, h0⟩ := bind_some h0
  have ag2 := ag0.tr (Agree.sub [0, 1, 2, 3, 4, 5, 6, 7, 8, 9, 10, 11] rfl (rX4_walkFromNow ew1))
  refine iter_rule (P := fun s : Int32 => Agree (pU pX4_firstDark) w out.2) (x := out) ?_ FU 0 h0
  intro s y1 h1 hP1 hX1
  obtain ⟨l3, rfl⟩ : ∃ z, z = s := ⟨s, rfl⟩
  have h1 : fX4_firstDark_b6 w1 l3 = some y1 := h1
  unfold fX4_firstDark_b6 at h1
  by_cases c7 : (w1.1 4 4) < l3
  · rw [if_pos c7] at h1
    have h0 := congrArg some (hX1 _ (Option.some.inj h1).symm)
    rw [← Option.some.inj h0]
    exact ag2
  · rw [if_neg c7] at h1
    obtain ⟨g4, h1⟩ := gd_some h1
    by_cases c6 : (w1.1 26 l3.toNatClampNeg) = 0
    · rw [if_pos c6] at h1
      have h0 := congrArg some (hX1 _ (Option.some.inj h1).symm)
      rw [← Option.some.inj h0]
      exact ag2
    · rw [if_neg c6] at h1
      obtain ⟨v5, ev5, h1⟩ := lt_some h1
      exact hP1 v5 (Option.some.inj h1).symm
def pX4_longestDark : List (Nat × Option Nat) := [at_ 4 0, at_ 4 1, at_ 4 2, at_ 4 3, at_ 4 4, all_ 28, all_ 29, all_ 27, all_ 26, at_ 4 5, at_ 4 6, all_ 25]
theorem rX4_longestDark {w : Wd} {out : Int32 × Wd} (h0 : fX4_longestDark w = some out) : Agree (pU pX4_longestDark) w out.2 := by
  have ag0 : Agree (pU pX4_longestDark) w w := Agree.rf
  unfold fX4_longestDark at h0
  obtain ⟨w1, ew1, h0⟩ := bind_some h0
  have ag2 := ag0.tr (Agree.sub [0, 1, 2, 3, 4, 5, 6, 7, 8, 9, 10, 11] rfl (rX4_walkFromNow ew1))
  obtain ⟨l13, il13, h0⟩ := bind_some h0
  rw [← Option.some.inj h0]
  exact ag2
def pX9_dark : List (Nat × Option Nat) := [at_ 4 0, at_ 4 1, at_ 4 2, at_ 4 3, at_ 4 4, all_ 28, all_ 29, all_ 27, all_ 26, at_ 4 5, at_ 4 6, all_ 25, all_ 12]
theorem rX9_dark {w : Wd} {a1 : Int32} {out : Int32 × Wd} (h0 : fX9_dark w a1 = some out) : Agree (pU pX9_dark) w out.2 := by
  have ag0 : Agree (pU pX9_dark) w w := Agree.rf
  unfold fX9_dark at h0
  by_cases c14 : (fX9_isOutside a1 1) = 0
  · rw [if_pos c14] at h0
    by_cases c9 : a1 = 0
    · rw [if_pos c9] at h0
      obtain ⟨q3, er2, h0⟩ := bind_some h0
      replace h0 := un2_eq h0
      obtain ⟨r2, w1, rfl, h0⟩ := h0
      have ag4 := ag0.tr (Agree.sub [0, 1, 2, 3, 4, 5, 6, 7, 8, 9, 10, 11] rfl (rX4_firstDark er2))
      rw [← Option.some.inj h0]
      exact ag4
    · rw [if_neg c9] at h0
      obtain ⟨q7, er6, h0⟩ := bind_some h0
      replace h0 := un2_eq h0
      obtain ⟨r6, w5, rfl, h0⟩ := h0
      have ag8 := ag0.tr (Agree.sub [0, 1, 2, 3, 4, 5, 6, 7, 8, 9, 10, 11] rfl (rX4_longestDark er6))
      rw [← Option.some.inj h0]
      exact ag8
  · rw [if_neg c14] at h0
    obtain ⟨q12, er11, h0⟩ := bind_some h0
    replace h0 := un2_eq h0
    obtain ⟨r11, w10, rfl, h0⟩ := h0
    have ag13 := ag0.tr (Agree.sub [12] rfl (rX9_refuse er11))
    rw [← Option.some.inj h0]
    exact ag13
def pX4_darkMinutes : List (Nat × Option Nat) := [at_ 4 0, at_ 4 1, at_ 4 2, at_ 4 3, at_ 4 4, all_ 28, all_ 29, all_ 27, all_ 26, at_ 4 5, at_ 4 6, all_ 25]
theorem rX4_darkMinutes {w : Wd} {a1 : Int32} {out : Int32 × Wd} (h0 : fX4_darkMinutes w a1 = some out) : Agree (pU pX4_darkMinutes) w out.2 := by
  have ag0 : Agree (pU pX4_darkMinutes) w w := Agree.rf
  unfold fX4_darkMinutes at h0
  obtain ⟨w1, ew1, h0⟩ := bind_some h0
  have ag2 := ag0.tr (Agree.sub [0, 1, 2, 3, 4, 5, 6, 7, 8, 9, 10, 11] rfl (rX4_walkFromNow ew1))
  obtain ⟨r3, er3, h0⟩ := bind_some h0
  rw [← Option.some.inj h0]
  exact ag2
def pX9_darkFor : List (Nat × Option Nat) := [all_ 12, at_ 4 0, at_ 4 1, at_ 4 2, at_ 4 3, at_ 4 4, all_ 28, all_ 29, all_ 27, all_ 26, at_ 4 5, at_ 4 6, all_ 25]
theorem rX9_darkFor {w : Wd} {a1 : Int32} {out : Int32 × Wd} (h0 : fX9_darkFor w a1 = some out) : Agree (pU pX9_darkFor) w out.2 := by
  have ag0 : Agree (pU pX9_darkFor) w w := Agree.rf
  unfold fX9_darkFor at h0
  by_cases c9 : (fX2_hasOne 1 w a1) = 0
  · rw [if_pos c9] at h0
    obtain ⟨q3, er2, h0⟩ := bind_some h0
    replace h0 := un2_eq h0
    obtain ⟨r2, w1, rfl, h0⟩ := h0
    have ag4 := ag0.tr (Agree.sub [0] rfl (rX9_refuse er2))
    rw [← Option.some.inj h0]
    exact ag4
  · rw [if_neg c9] at h0
    obtain ⟨q7, er6, h0⟩ := bind_some h0
    replace h0 := un2_eq h0
    obtain ⟨r6, w5, rfl, h0⟩ := h0
    have ag8 := ag0.tr (Agree.sub [1, 2, 3, 4, 5, 6, 7, 8, 9, 10, 11, 12] rfl (rX4_darkMinutes er6))
    rw [← Option.some.inj h0]
    exact ag8
def pX4_lastLighter : List (Nat × Option Nat) := [at_ 4 0, at_ 4 1, at_ 4 2, at_ 4 3, at_ 4 4, all_ 28, all_ 29, all_ 27, at_ 4 5, at_ 4 6, all_ 25]
theorem rX4_lastLighter {w : Wd} {a1 : Int32} {a2 : Int32} {out : Int32 × Wd} (h0 : fX4_lastLighter w a1 a2 = some out) : Agree (pU pX4_lastLighter) w out.2 := by
  have ag0 : Agree (pU pX4_lastLighter) w w := Agree.rf
  unfold fX4_lastLighter at h0
  obtain ⟨w1, ew1, h0⟩ := bind_some h0
  have ag2 := ag0.tr (Agree.sub [0, 1, 2, 3, 4, 5, 6, 7] rfl (rX8_setOut ew1))
  obtain ⟨v3, ev3, h0⟩ := lt_some h0
  obtain ⟨v4, ev4, h0⟩ := lt_some h0
  obtain ⟨x20, ix20, h0⟩ := bind_some h0
  replace h0 := un2_eq h0
  obtain ⟨l21, w22, rfl, h0⟩ := h0
  have ag23 : Agree (pU pX4_lastLighter) w w22 := by
    refine iter_rule (P := fun s : Int32 × Int32 × Int32 × Wd => Agree (pU pX4_lastLighter) w s.2.2.2 → Agree (pU pX4_lastLighter) w w22) (x := (l21, w22)) ?_ FU ((-9), v3, 0, w1) ix20 ag2
    intro s y1 h1 hP1 hX1 agl39
    obtain ⟨l5, l6, l7, w8⟩ := s
    have h1 : fX4_lastLighter_b39 v4 a1 l5 l6 l7 w8 = some y1 := h1
    have agl39 : Agree (pU pX4_lastLighter) w w8 := agl39
    unfold fX4_lastLighter_b39 at h1
    by_cases c19 : v4 ≤ l7
    · rw [if_pos c19] at h1
      have e9 := hX1 _ (Option.some.inj h1).symm
      cases e9
      exact agl39
    · rw [if_neg c19] at h1
      obtain ⟨q12, er11, h1⟩ := bind_some h1
      replace h1 := un2_eq h1
      obtain ⟨r11, w10, rfl, h1⟩ := h1
      have ag13 := agl39.tr (Agree.sub [8, 9, 10] rfl (rX8_minuteAt er11))
      by_cases c18 : (fX9_hasBit (w10.1 4 6) a1) = 0
      · rw [if_pos c18] at h1
        obtain ⟨v14, ev14, h1⟩ := lt_some h1
        exact hP1 (l5, r11, v14, w10) (Option.some.inj h1).symm ag13
      · rw [if_neg c18] at h1
        obtain ⟨g15, h1⟩ := gd_some h1
        obtain ⟨v16, ev16, h1⟩ := lt_some h1
        obtain ⟨v17, ev17, h1⟩ := lt_some h1
        exact hP1 (v16, r11, v17, w10) (Option.some.inj h1).symm ag13
  rw [← Option.some.inj h0]
  exact ag23
def pX9_litBy : List (Nat × Option Nat) := [all_ 12, at_ 4 0, at_ 4 1, at_ 4 2, at_ 4 3, at_ 4 4, all_ 28, all_ 29, all_ 27, at_ 4 5, at_ 4 6, all_ 25]
theorem rX9_litBy {w : Wd} {a1 : Int32} {a2 : Int32} {out : Int32 × Wd} (h0 : fX9_litBy w a1 a2 = some out) : Agree (pU pX9_litBy) w out.2 := by
  have ag0 : Agree (pU pX9_litBy) w w := Agree.rf
  unfold fX9_litBy at h0
  by_cases c19 : (fX2_hasOne 1 w a1) = 0
  · rw [if_pos c19] at h0
    obtain ⟨q3, er2, h0⟩ := bind_some h0
    replace h0 := un2_eq h0
    obtain ⟨r2, w1, rfl, h0⟩ := h0
    have ag4 := ag0.tr (Agree.sub [0] rfl (rX9_refuse er2))
    rw [← Option.some.inj h0]
    exact ag4
  · rw [if_neg c19] at h0
    by_cases c18 : (0 : Int32) ≤ a2
    · rw [if_pos c18] at h0
      by_cases c13 : a2 ≤ 24
      · rw [if_pos c13] at h0
        obtain ⟨q7, er6, h0⟩ := bind_some h0
        replace h0 := un2_eq h0
        obtain ⟨r6, w5, rfl, h0⟩ := h0
        have ag8 := ag0.tr (Agree.sub [1, 2, 3, 4, 5, 6, 7, 8, 9, 10, 11] rfl (rX4_lastLighter er6))
        rw [← Option.some.inj h0]
        exact ag8
      · rw [if_neg c13] at h0
        obtain ⟨q11, er10, h0⟩ := bind_some h0
        replace h0 := un2_eq h0
        obtain ⟨r10, w9, rfl, h0⟩ := h0
        have ag12 := ag0.tr (Agree.sub [0] rfl (rX9_refuse er10))
        rw [← Option.some.inj h0]
        exact ag12
    · rw [if_neg c18] at h0
      obtain ⟨q16, er15, h0⟩ := bind_some h0
      replace h0 := un2_eq h0
      obtain ⟨r15, w14, rfl, h0⟩ := h0
      have ag17 := ag0.tr (Agree.sub [0] rfl (rX9_refuse er15))
      rw [← Option.some.inj h0]
      exact ag17
def pX6_startFromNow : List (Nat × Option Nat) := [at_ 4 0, at_ 4 1, at_ 4 2, at_ 4 3, at_ 4 4, all_ 28, all_ 29, all_ 27, all_ 26, at_ 4 5, at_ 4 6, all_ 25]
theorem rX6_startFromNow {w : Wd} {out : Int32 × Wd} (h0 : fX6_startFromNow w = some out) : Agree (pU pX6_startFromNow) w out.2 := by
  have ag0 : Agree (pU pX6_startFromNow) w w := Agree.rf
  unfold fX6_startFromNow at h0
  obtain ⟨w1, ew1, h0⟩ := bind_some h0
  have ag2 := ag0.tr (Agree.sub [0, 1, 2, 3, 4, 5, 6, 7] rfl (rX8_setOut ew1))
  obtain ⟨w3, ew3, h0⟩ := bind_some h0
  have ag4 := ag2.tr (Agree.sub [8, 9, 10, 11] rfl (rX8_walkOn ew3))
  obtain ⟨g5, h0⟩ := gd_some h0
  rw [← Option.some.inj h0]
  exact ag4
def pX8_atDoorFrom : List (Nat × Option Nat) := [at_ 4 6, all_ 25]
theorem rX8_atDoorFrom {w : Wd} {a1 : Int32} {a2 : Int32} {out : Int32 × Wd} (h0 : fX8_atDoorFrom w a1 a2 = some out) : Agree (pU pX8_atDoorFrom) w out.2 := by
  have ag0 : Agree (pU pX8_atDoorFrom) w w := Agree.rf
  unfold fX8_atDoorFrom at h0
  obtain ⟨x14, ix14, h0⟩ := bind_some h0
  replace h0 := un2_eq h0
  obtain ⟨l15, w16, rfl, h0⟩ := h0
  have ag17 : Agree (pU pX8_atDoorFrom) w w16 := by
    refine iter_rule (P := fun s : Int32 × Int32 × Wd => Agree (pU pX8_atDoorFrom) w s.2.2 → Agree (pU pX8_atDoorFrom) w w16) (x := (l15, w16)) ?_ FU (a2, a1, w) ix14 ag0
    intro s y1 h1 hP1 hX1 agl5
    obtain ⟨l1, l2, w3⟩ := s
    have h1 : fX8_atDoorFrom_b5 l1 l2 w3 = some y1 := h1
    have agl5 : Agree (pU pX8_atDoorFrom) w w3 := agl5
    unfold fX8_atDoorFrom_b5 at h1
    by_cases c13 : (w3.1 4 4) ≤ l2
    · rw [if_pos c13] at h1
      have e4 := hX1 _ (Option.some.inj h1).symm
      cases e4
      exact agl5
    · rw [if_neg c13] at h1
      by_cases c12 : l1 = 0
      · rw [if_pos c12] at h1
        have e5 := hX1 _ (Option.some.inj h1).symm
        cases e5
        exact agl5
      · rw [if_neg c12] at h1
        obtain ⟨g6, h1⟩ := gd_some h1
        obtain ⟨q9, er8, h1⟩ := bind_some h1
        replace h1 := un2_eq h1
        obtain ⟨r8, w7, rfl, h1⟩ := h1
        have ag10 := agl5.tr (Agree.sub [0, 1] rfl (rX8_relight er8))
        obtain ⟨v11, ev11, h1⟩ := lt_some h1
        exact hP1 (r8, v11, w7) (Option.some.inj h1).symm ag10
  rw [← Option.some.inj h0]
  exact ag17
def pX6_withStop : List (Nat × Option Nat) := [at_ 4 5, at_ 4 6, all_ 25]
theorem rX6_withStop {w : Wd} {a1 : Int32} {a2 : Int32} {out : Int32 × Wd} (h0 : fX6_withStop w a1 a2 = some out) : Agree (pU pX6_withStop) w out.2 := by
  have ag0 : Agree (pU pX6_withStop) w w := Agree.rf
  unfold fX6_withStop at h0
  obtain ⟨g1, h0⟩ := gd_some h0
  obtain ⟨v2, ev2, h0⟩ := lt_some h0
  obtain ⟨x13, ix13, h0⟩ := bind_some h0
  replace h0 := un2_eq h0
  obtain ⟨l14, w15, rfl, h0⟩ := h0
  have ag16 : Agree (pU pX6_withStop) w w15 := by
    refine iter_rule (P := fun s : Int32 × Int32 × Wd => Agree (pU pX6_withStop) w s.2.2 → Agree (pU pX6_withStop) w w15) (x := (l14, w15)) ?_ FU (v2, 0, w) ix13 ag0
    intro s y1 h1 hP1 hX1 agl13
    obtain ⟨l3, l4, w5⟩ := s
    have h1 : fX6_withStop_b13 a2 a1 l3 l4 w5 = some y1 := h1
    have agl13 : Agree (pU pX6_withStop) w w5 := agl13
    unfold fX6_withStop_b13 at h1
    by_cases c12 : a2 ≤ l4
    · rw [if_pos c12] at h1
      have e6 := hX1 _ (Option.some.inj h1).symm
      cases e6
      exact agl13
    · rw [if_neg c12] at h1
      obtain ⟨q9, er8, h1⟩ := bind_some h1
      replace h1 := un2_eq h1
      obtain ⟨r8, w7, rfl, h1⟩ := h1
      have ag10 := agl13.tr (Agree.sub [0, 1, 2] rfl (rX8_minuteAt er8))
      obtain ⟨v11, ev11, h1⟩ := lt_some h1
      exact hP1 (r8, v11, w7) (Option.some.inj h1).symm ag10
  obtain ⟨q19, er18, h0⟩ := bind_some h0
  replace h0 := un2_eq h0
  obtain ⟨r18, w17, rfl, h0⟩ := h0
  have ag20 := ag16.tr (Agree.sub [1, 2] rfl (rX8_atDoorFrom er18))
  rw [← Option.some.inj h0]
  exact ag20
def pX6_bestStop : List (Nat × Option Nat) := [at_ 4 0, at_ 4 1, at_ 4 2, at_ 4 3, at_ 4 4, all_ 28, all_ 29, all_ 27, all_ 26, at_ 4 5, at_ 4 6, all_ 25]
theorem rX6_bestStop {w : Wd} {out : Int32 × Wd} (h0 : fX6_bestStop w = some out) : Agree (pU pX6_bestStop) w out.2 := by
  have ag0 : Agree (pU pX6_bestStop) w w := Agree.rf
  unfold fX6_bestStop at h0
  obtain ⟨q3, er2, h0⟩ := bind_some h0
  replace h0 := un2_eq h0
  obtain ⟨r2, w1, rfl, h0⟩ := h0
  have ag4 := ag0.tr (Agree.sub [0, 1, 2, 3, 4, 5, 6, 7, 8, 9, 10, 11] rfl (rX6_startFromNow er2))
  obtain ⟨x32, ix32, h0⟩ := bind_some h0
  replace h0 := un2_eq h0
  obtain ⟨l33, w34, rfl, h0⟩ := h0
  have ag35 : Agree (pU pX6_bestStop) w w34 := by
    refine iter_rule (P := fun s : Int32 × Int32 × Int32 × Wd => Agree (pU pX6_bestStop) w s.2.2.2 → Agree (pU pX6_bestStop) w w34) (x := (l33, w34)) ?_ FU (r2, (-9), 1, w1) ix32 ag4
    intro s y1 h1 hP1 hX1 agl10
    obtain ⟨l5, l6, l7, w8⟩ := s
    have h1 : fX6_bestStop_b10 l5 l6 l7 w8 = some y1 := h1
    have agl10 : Agree (pU pX6_bestStop) w w8 := agl10
    unfold fX6_bestStop_b10 at h1
    by_cases c31 : (5 : Int32) < l7
    · rw [if_pos c31] at h1
      have e9 := hX1 _ (Option.some.inj h1).symm
      cases e9
      exact agl10
    · rw [if_neg c31] at h1
      obtain ⟨x25, ix25, h1⟩ := bind_some h1
      replace h1 := un3_eq h1
      obtain ⟨l26, l27, w28, rfl, h1⟩ := h1
      have ag29 : Agree (pU pX6_bestStop) w w28 := by
        refine iter_rule (P := fun s : Int32 × Int32 × Int32 × Wd => Agree (pU pX6_bestStop) w s.2.2.2 → Agree (pU pX6_bestStop) w w28) (x := (l26, l27, w28)) ?_ FU (l5, l6, 0, w8) ix25 agl10
        intro s y2 h2 hP2 hX2 agl18
        obtain ⟨l10, l11, l12, w13⟩ := s
        have h2 : fX6_bestStop_b18 l7 l10 l11 l12 w13 = some y2 := h2
        have agl18 : Agree (pU pX6_bestStop) w w13 := agl18
        unfold fX6_bestStop_b18 at h2
        by_cases c24 : (w13.1 4 4) ≤ l12
        · rw [if_pos c24] at h2
          have e14 := hX2 _ (Option.some.inj h2).symm
          cases e14
          exact agl18
        · rw [if_neg c24] at h2
          obtain ⟨q17, er16, h2⟩ := bind_some h2
          replace h2 := un2_eq h2
          obtain ⟨r16, w15, rfl, h2⟩ := h2
          have ag18 := agl18.tr (Agree.sub [9, 10, 11] rfl (rX6_withStop er16))
          obtain ⟨v19, ev19, h2⟩ := lt_some h2
          by_cases c23 : v19 ≤ l10
          · rw [if_pos c23] at h2
            obtain ⟨v20, ev20, h2⟩ := lt_some h2
            exact hP2 (l10, l11, v20, w15) (Option.some.inj h2).symm ag18
          · rw [if_neg c23] at h2
            obtain ⟨v21, ev21, h2⟩ := lt_some h2
            obtain ⟨v22, ev22, h2⟩ := lt_some h2
            exact hP2 (v19, v21, v22, w15) (Option.some.inj h2).symm ag18
      obtain ⟨v30, ev30, h1⟩ := lt_some h1
      exact hP1 (l26, l27, v30, w28) (Option.some.inj h1).symm ag29
  rw [← Option.some.inj h0]
  exact ag35
def pX9_stop : List (Nat × Option Nat) := [at_ 4 0, at_ 4 1, at_ 4 2, at_ 4 3, at_ 4 4, all_ 28, all_ 29, all_ 27, all_ 26, at_ 4 5, at_ 4 6, all_ 25]
theorem rX9_stop {w : Wd} {out : Int32 × Wd} (h0 : fX9_stop w = some out) : Agree (pU pX9_stop) w out.2 := by
  have ag0 : Agree (pU pX9_stop) w w := Agree.rf
  unfold fX9_stop at h0
  obtain ⟨q3, er2, h0⟩ := bind_some h0
  replace h0 := un2_eq h0
  obtain ⟨r2, w1, rfl, h0⟩ := h0
  have ag4 := ag0.tr (Agree.sub [0, 1, 2, 3, 4, 5, 6, 7, 8, 9, 10, 11] rfl (rX6_bestStop er2))
  rw [← Option.some.inj h0]
  exact ag4
def pX1_doorOf : List (Nat × Option Nat) := [at_ 4 0, at_ 4 1, at_ 4 2, at_ 4 3, at_ 4 4, all_ 28, all_ 29, all_ 27, at_ 4 6, all_ 25]
theorem rX1_doorOf {b1 : Nat} {w : Wd} {out : Int32 × Wd} (h0 : fX1_doorOf b1 w = some out) : Agree (pU pX1_doorOf) w out.2 := by
  have ag0 : Agree (pU pX1_doorOf) w w := Agree.rf
  unfold fX1_doorOf at h0
  obtain ⟨w1, ew1, h0⟩ := bind_some h0
  have ag2 := ag0.tr (Agree.sub [0, 1, 2, 3, 4, 5, 6, 7] rfl (rX8_setOut ew1))
  obtain ⟨q5, er4, h0⟩ := bind_some h0
  replace h0 := un2_eq h0
  obtain ⟨r4, w3, rfl, h0⟩ := h0
  have ag6 := ag2.tr (Agree.sub [8, 9] rfl (rX8_atDoorFrom er4))
  rw [← Option.some.inj h0]
  exact ag6
def pX1_startSearch : List (Nat × Option Nat) := [at_ 10 0, at_ 10 1]
theorem rX1_startSearch {w : Wd} {a1 : Int32} {out : Wd} (h0 : fX1_startSearch w a1 = out) : Agree (pU pX1_startSearch) w out := by
  have ag0 : Agree (pU pX1_startSearch) w w := Agree.rf
  unfold fX1_startSearch at h0
  obtain ⟨w1, ew1, h0⟩ := lt_some h0
  have ag2 := ag0.pI ew1 (Or.inl (List.mem_of_getElem? (i := 0) rfl))
  obtain ⟨w3, ew3, h0⟩ := lt_some h0
  have ag4 := ag2.pI ew3 (Or.inl (List.mem_of_getElem? (i := 1) rfl))
  rw [← h0]
  exact ag4
def pX1_consider : List (Nat × Option Nat) := [at_ 10 1, at_ 10 0]
theorem rX1_consider {w : Wd} {a1 : Int32} {a2 : Int32} {out : Wd} (h0 : fX1_consider w a1 a2 = out) : Agree (pU pX1_consider) w out := by
  have ag0 : Agree (pU pX1_consider) w w := Agree.rf
  unfold fX1_consider at h0
  by_cases c5 : a2 ≤ (w.1 10 1)
  · rw [if_pos c5] at h0
    rw [← h0]
    exact ag0
  · rw [if_neg c5] at h0
    obtain ⟨w1, ew1, h0⟩ := lt_some h0
    have ag2 := ag0.pI ew1 (Or.inl (List.mem_of_getElem? (i := 0) rfl))
    obtain ⟨w3, ew3, h0⟩ := lt_some h0
    have ag4 := ag2.pI ew3 (Or.inl (List.mem_of_getElem? (i := 1) rfl))
    rw [← h0]
    exact ag4
def pX1_lowered : List (Nat × Option Nat) := [at_ 4 0, at_ 4 1, at_ 4 2, at_ 4 3, at_ 4 4, all_ 28, all_ 29, all_ 27, at_ 4 6, all_ 25, at_ 10 0, at_ 10 1, at_ 3 0, at_ 3 1, at_ 3 2, at_ 3 3, at_ 3 4, at_ 3 5, at_ 3 6, all_ (9 + 4 * 3), all_ (10 + 4 * 3), all_ (11 + 4 * 3), all_ (12 + 4 * 3)]
theorem rX1_lowered {w : Wd} {out : Int32 × Wd} (h0 : fX1_lowered w = some out) : Agree (pU pX1_lowered) w out.2 := by
  have ag0 : Agree (pU pX1_lowered) w w := Agree.rf
  unfold fX1_lowered at h0
  obtain ⟨q3, er2, h0⟩ := bind_some h0
  replace h0 := un2_eq h0
  obtain ⟨r2, w1, rfl, h0⟩ := h0
  have ag4 := ag0.tr (Agree.sub [0, 1, 2, 3, 4, 5, 6, 7, 8, 9] rfl (rX1_doorOf er2))
  obtain ⟨r5, er5, h0⟩ := bind_some h0
  obtain ⟨w6, ew6, h0⟩ := lt_some h0
  have ag7 := ag4.tr (Agree.sub [10, 11] rfl (rX1_startSearch ew6.symm))
  obtain ⟨w25, iw25, h0⟩ := bind_some h0
  have ag26 : Agree (pU pX1_lowered) w w25 := by
    refine iter_rule (P := fun s : Int32 × Wd => Agree (pU pX1_lowered) w s.2 → Agree (pU pX1_lowered) w w25) (x := w25) ?_ FU (0, w6) iw25 ag7
    intro s y1 h1 hP1 hX1 agl21
    obtain ⟨l8, w9⟩ := s
    have h1 : fX1_lowered_b21 l8 w9 = some y1 := h1
    have agl21 : Agree (pU pX1_lowered) w w9 := agl21
    unfold fX1_lowered_b21 at h1
    by_cases c23 : (w9.1 1 0) ≤ l8
    · rw [if_pos c23] at h1
      have e10 := hX1 _ (Option.some.inj h1).symm
      cases e10
      exact agl21
    · rw [if_neg c23] at h1
      obtain ⟨w11, ew11, h1⟩ := lt_some h1
      have ag12 := agl21.tr (Agree.sub [12, 13, 14, 15, 16, 17, 18, 19, 20, 21, 22] rfl (rX2_takeFrom ew11.symm))
      obtain ⟨w13, ew13, h1⟩ := bind_some h1
      have ag14 := ag12.tr (Agree.sub [19, 13] rfl (rX2_become ew13))
      obtain ⟨q17, er16, h1⟩ := bind_some h1
      replace h1 := un2_eq h1
      obtain ⟨r16, w15, rfl, h1⟩ := h1
      have ag18 := ag14.tr (Agree.sub [0, 1, 2, 3, 4, 5, 6, 7, 8, 9] rfl (rX1_doorOf er16))
      obtain ⟨r19, er19, h1⟩ := bind_some h1
      obtain ⟨w20, ew20, h1⟩ := lt_some h1
      have ag21 := ag18.tr (Agree.sub [11, 10] rfl (rX1_consider ew20.symm))
      obtain ⟨v22, ev22, h1⟩ := lt_some h1
      exact hP1 (v22, w20) (Option.some.inj h1).symm ag21
  rw [← Option.some.inj h0]
  exact ag26
def pX9_lower : List (Nat × Option Nat) := [at_ 4 0, at_ 4 1, at_ 4 2, at_ 4 3, at_ 4 4, all_ 28, all_ 29, all_ 27, at_ 4 6, all_ 25, at_ 10 0, at_ 10 1, at_ 3 0, at_ 3 1, at_ 3 2, at_ 3 3, at_ 3 4, at_ 3 5, at_ 3 6, all_ (9 + 4 * 3), all_ (10 + 4 * 3), all_ (11 + 4 * 3), all_ (12 + 4 * 3)]
theorem rX9_lower {w : Wd} {out : Int32 × Wd} (h0 : fX9_lower w = some out) : Agree (pU pX9_lower) w out.2 := by
  have ag0 : Agree (pU pX9_lower) w w := Agree.rf
  unfold fX9_lower at h0
  obtain ⟨q3, er2, h0⟩ := bind_some h0
  replace h0 := un2_eq h0
  obtain ⟨r2, w1, rfl, h0⟩ := h0
  have ag4 := ag0.tr (Agree.sub [0, 1, 2, 3, 4, 5, 6, 7, 8, 9, 10, 11, 12, 13, 14, 15, 16, 17, 18, 19, 20, 21, 22] rfl (rX1_lowered er2))
  rw [← Option.some.inj h0]
  exact ag4
def pX1_countOf : List (Nat × Option Nat) := [at_ 4 0, at_ 4 1, at_ 4 2, at_ 4 3, at_ 4 4, all_ 28, all_ 29, all_ 27, at_ 4 6, all_ 25]
theorem rX1_countOf {b1 : Nat} {w : Wd} {out : Int32 × Wd} (h0 : fX1_countOf b1 w = some out) : Agree (pU pX1_countOf) w out.2 := by
  have ag0 : Agree (pU pX1_countOf) w w := Agree.rf
  unfold fX1_countOf at h0
  obtain ⟨w1, ew1, h0⟩ := bind_some h0
  have ag2 := ag0.tr (Agree.sub [0, 1, 2, 3, 4, 5, 6, 7] rfl (rX8_setOut ew1))
  obtain ⟨q5, er4, h0⟩ := bind_some h0
  replace h0 := un2_eq h0
  obtain ⟨r4, w3, rfl, h0⟩ := h0
  have ag6 := ag2.tr (Agree.sub [8, 9] rfl (rX8_atDoorFrom er4))
  rw [← Option.some.inj h0]
  exact ag6
def pX2_copyOne (b : Nat) : List (Nat × Option Nat) := [all_ (9 + 4 * b), all_ (10 + 4 * b), at_ b 1]
theorem rX2_copyOne {b : Nat} {b2 : Nat} {w : Wd} {a1 : Int32} {a3 : Int32} {out : Wd} (h0 : fX2_copyOne b b2 w a1 a3 = some out) : Agree (pU (pX2_copyOne b)) w out := by
  have ag0 : Agree (pU (pX2_copyOne b)) w w := Agree.rf
  unfold fX2_copyOne at h0
  by_cases c11 : (fX2_hasOne b w a1) = 0
  · rw [if_pos c11] at h0
    rw [← Option.some.inj h0]
    exact ag0
  · rw [if_neg c11] at h0
    by_cases c10 : (fX2_hasOne b2 w a3) = 0
    · rw [if_pos c10] at h0
      rw [← Option.some.inj h0]
      exact ag0
    · rw [if_neg c10] at h0
      obtain ⟨g1, h0⟩ := gd_some h0
      obtain ⟨g3, h0⟩ := gd_some h0
      obtain ⟨w2, ew2, h0⟩ := lt_some h0
      have ag4 := ag0.pI ew2 (Or.inr (List.mem_of_getElem? (i := 0) rfl))
      obtain ⟨w5, ew5, h0⟩ := lt_some h0
      have ag6 := ag4.pI ew5 (Or.inr (List.mem_of_getElem? (i := 1) rfl))
      obtain ⟨r7, er7, h0⟩ := bind_some h0
      obtain ⟨w8, ew8, h0⟩ := lt_some h0
      have ag9 := ag6.tr (Agree.sub [2] rfl (rX2_putLit ew8.symm))
      rw [← Option.some.inj h0]
      exact ag9
def pX1_exchanged : List (Nat × Option Nat) := [at_ 4 0, at_ 4 1, at_ 4 2, at_ 4 3, at_ 4 4, all_ 28, all_ 29, all_ 27, at_ 4 6, all_ 25, at_ 10 0, at_ 10 1, at_ 3 0, at_ 3 1, at_ 3 2, at_ 3 3, at_ 3 4, at_ 3 5, at_ 3 6, all_ (9 + 4 * 3), all_ (10 + 4 * 3), all_ (11 + 4 * 3), all_ (12 + 4 * 3)]
theorem rX1_exchanged {w : Wd} {out : Int32 × Wd} (h0 : fX1_exchanged w = some out) : Agree (pU pX1_exchanged) w out.2 := by
  have ag0 : Agree (pU pX1_exchanged) w w := Agree.rf
  unfold fX1_exchanged at h0
  obtain ⟨q3, er2, h0⟩ := bind_some h0
  replace h0 := un2_eq h0
  obtain ⟨r2, w1, rfl, h0⟩ := h0
  have ag4 := ag0.tr (Agree.sub [0, 1, 2, 3, 4, 5, 6, 7, 8, 9] rfl (rX1_countOf er2))
  obtain ⟨w5, ew5, h0⟩ := lt_some h0
  have ag6 := ag4.tr (Agree.sub [10, 11] rfl (rX1_startSearch ew5.symm))
  obtain ⟨w34, iw34, h0⟩ := bind_some h0
  have ag35 : Agree (pU pX1_exchanged) w w34 := by
    refine iter_rule (P := fun s : Int32 × Wd => Agree (pU pX1_exchanged) w s.2 → Agree (pU pX1_exchanged) w w34) (x := w34) ?_ FU (0, w5) iw34 ag6
    intro s y1 h1 hP1 hX1 agl14
    obtain ⟨l7, w8⟩ := s
    have h1 : fX1_exchanged_b14 l7 w8 = some y1 := h1
    have agl14 : Agree (pU pX1_exchanged) w w8 := agl14
    unfold fX1_exchanged_b14 at h1
    by_cases c32 : (w8.1 1 0) ≤ l7
    · rw [if_pos c32] at h1
      have e9 := hX1 _ (Option.some.inj h1).symm
      cases e9
      exact agl14
    · rw [if_neg c32] at h1
      obtain ⟨v10, ev10, h1⟩ := lt_some h1
      obtain ⟨w29, iw29, h1⟩ := bind_some h1
      have ag30 : Agree (pU pX1_exchanged) w w29 := by
        refine iter_rule (P := fun s : Int32 × Wd => Agree (pU pX1_exchanged) w s.2 → Agree (pU pX1_exchanged) w w29) (x := w29) ?_ FU (v10, w8) iw29 agl14
        intro s y2 h2 hP2 hX2 agl29
        obtain ⟨l11, w12⟩ := s
        have h2 : fX1_exchanged_b29 l7 l11 w12 = some y2 := h2
        have agl29 : Agree (pU pX1_exchanged) w w12 := agl29
        unfold fX1_exchanged_b29 at h2
        by_cases c27 : (w12.1 1 0) ≤ l11
        · rw [if_pos c27] at h2
          have e13 := hX2 _ (Option.some.inj h2).symm
          cases e13
          exact agl29
        · rw [if_neg c27] at h2
          obtain ⟨w14, ew14, h2⟩ := lt_some h2
          have ag15 := agl29.tr (Agree.sub [12, 13, 14, 15, 16, 17, 18, 19, 20, 21, 22] rfl (rX2_takeFrom ew14.symm))
          obtain ⟨w16, ew16, h2⟩ := bind_some h2
          have ag17 := ag15.tr (Agree.sub [19, 20, 13] rfl (rX2_copyOne ew16))
          obtain ⟨w18, ew18, h2⟩ := bind_some h2
          have ag19 := ag17.tr (Agree.sub [19, 20, 13] rfl (rX2_copyOne ew18))
          obtain ⟨q22, er21, h2⟩ := bind_some h2
          replace h2 := un2_eq h2
          obtain ⟨r21, w20, rfl, h2⟩ := h2
          have ag23 := ag19.tr (Agree.sub [0, 1, 2, 3, 4, 5, 6, 7, 8, 9] rfl (rX1_countOf er21))
          obtain ⟨w24, ew24, h2⟩ := lt_some h2
          have ag25 := ag23.tr (Agree.sub [11, 10] rfl (rX1_consider ew24.symm))
          obtain ⟨v26, ev26, h2⟩ := lt_some h2
          exact hP2 (v26, w24) (Option.some.inj h2).symm ag25
      obtain ⟨v31, ev31, h1⟩ := lt_some h1
      exact hP1 (v31, w29) (Option.some.inj h1).symm ag30
  rw [← Option.some.inj h0]
  exact ag35
def pX9_changed : List (Nat × Option Nat) := [at_ 4 0, at_ 4 1, at_ 4 2, at_ 4 3, at_ 4 4, all_ 28, all_ 29, all_ 27, at_ 4 6, all_ 25, at_ 10 0, at_ 10 1, at_ 3 0, at_ 3 1, at_ 3 2, at_ 3 3, at_ 3 4, at_ 3 5, at_ 3 6, all_ (9 + 4 * 3), all_ (10 + 4 * 3), all_ (11 + 4 * 3), all_ (12 + 4 * 3)]
theorem rX9_changed {w : Wd} {out : Int32 × Wd} (h0 : fX9_changed w = some out) : Agree (pU pX9_changed) w out.2 := by
  have ag0 : Agree (pU pX9_changed) w w := Agree.rf
  unfold fX9_changed at h0
  obtain ⟨q3, er2, h0⟩ := bind_some h0
  replace h0 := un2_eq h0
  obtain ⟨r2, w1, rfl, h0⟩ := h0
  have ag4 := ag0.tr (Agree.sub [0, 1, 2, 3, 4, 5, 6, 7, 8, 9, 10, 11, 12, 13, 14, 15, 16, 17, 18, 19, 20, 21, 22] rfl (rX1_exchanged er2))
  rw [← Option.some.inj h0]
  exact ag4
def pX1_exchangePlaces : List (Nat × Option Nat) := [all_ 37]
theorem rX1_exchangePlaces {w : Wd} {a1 : Int32} {a2 : Int32} {out : Wd} (h0 : fX1_exchangePlaces w a1 a2 = some out) : Agree (pU pX1_exchangePlaces) w out := by
  have ag0 : Agree (pU pX1_exchangePlaces) w w := Agree.rf
  unfold fX1_exchangePlaces at h0
  obtain ⟨g1, h0⟩ := gd_some h0
  obtain ⟨v2, ev2, h0⟩ := lt_some h0
  obtain ⟨g3, h0⟩ := gd_some h0
  obtain ⟨w4, ew4, h0⟩ := lt_some h0
  have ag5 := ag0.pI ew4 (Or.inr (List.mem_of_getElem? (i := 0) rfl))
  obtain ⟨w6, ew6, h0⟩ := lt_some h0
  have ag7 := ag5.pI ew6 (Or.inr (List.mem_of_getElem? (i := 0) rfl))
  rw [← Option.some.inj h0]
  exact ag7
def pX1_nextOrder : List (Nat × Option Nat) := [all_ 37]
theorem rX1_nextOrder {w : Wd} {a1 : Int32} {out : Wd} (h0 : fX1_nextOrder w a1 = some out) : Agree (pU pX1_nextOrder) w out := by
  have ag0 : Agree (pU pX1_nextOrder) w w := Agree.rf
  unfold fX1_nextOrder at h0
  have J66 : ∀ (w27 : Wd) (l25 : Int32) (l26 : Int32), fX1_nextOrder_j66 a1 w27 l25 l26 = some out → Agree (pU pX1_nextOrder) w w27 → Agree (pU pX1_nextOrder) w out := by
    intro w27 l25 l26 h0 agj
    unfold fX1_nextOrder_j66 at h0
    obtain ⟨w28, ew28, h0⟩ := bind_some h0
    have ag29 := agj.tr (Agree.sub [0] rfl (rX1_exchangePlaces ew28))
    obtain ⟨v30, ev30, h0⟩ := lt_some h0
    obtain ⟨v31, ev31, h0⟩ := lt_some h0
    obtain ⟨w42, iw42, h0⟩ := bind_some h0
    have ag43 : Agree (pU pX1_nextOrder) w w42 := by
      refine iter_rule (P := fun s : Int32 × Int32 × Wd => Agree (pU pX1_nextOrder) w s.2.2 → Agree (pU pX1_nextOrder) w w42) (x := w42) ?_ FU (v30, v31, w28) iw42 ag29
      intro s y1 h1 hP1 hX1 agl82
      obtain ⟨l32, l33, w34⟩ := s
      have h1 : fX1_nextOrder_b82 l32 l33 w34 = some y1 := h1
      have agl82 : Agree (pU pX1_nextOrder) w w34 := agl82
      unfold fX1_nextOrder_b82 at h1
      by_cases c40 : l33 ≤ l32
      · rw [if_pos c40] at h1
        have e35 := hX1 _ (Option.some.inj h1).symm
        cases e35
        exact agl82
      · rw [if_neg c40] at h1
        obtain ⟨w36, ew36, h1⟩ := bind_some h1
        have ag37 := agl82.tr (Agree.sub [0] rfl (rX1_exchangePlaces ew36))
        obtain ⟨v38, ev38, h1⟩ := lt_some h1
        obtain ⟨v39, ev39, h1⟩ := lt_some h1
        exact hP1 (v38, v39, w36) (Option.some.inj h1).symm ag37
    rw [← Option.some.inj h0]
    exact ag43
  have J31 : ∀ (w13 : Wd) (l12 : Int32), fX1_nextOrder_j31 a1 w13 l12 = some out → Agree (pU pX1_nextOrder) w w13 → Agree (pU pX1_nextOrder) w out := by
    intro w13 l12 h0 agj
    unfold fX1_nextOrder_j31 at h0
    by_cases c44 : (0 : Int32) ≤ l12
    · rw [if_pos c44] at h0
      obtain ⟨v14, ev14, h0⟩ := lt_some h0
      obtain ⟨l24, il24, h0⟩ := bind_some h0
      exact J66 w13 l12 l24 h0 agj
    · rw [if_neg c44] at h0
      rw [← Option.some.inj h0]
      exact agj
  obtain ⟨v1, ev1, h0⟩ := lt_some h0
  obtain ⟨l11, il11, h0⟩ := bind_some h0
  exact J31 w l11 h0 ag0
def pX1_findOrder : List (Nat × Option Nat) := [at_ 10 0, at_ 10 1, at_ 3 0, at_ 3 1, at_ 3 2, at_ 3 3, at_ 3 4, at_ 3 5, at_ 3 6, all_ (9 + 4 * 3), all_ (10 + 4 * 3), all_ (11 + 4 * 3), all_ (12 + 4 * 3), all_ 37, at_ 4 0, at_ 4 1, at_ 4 2, at_ 4 3, at_ 4 4, all_ 28, all_ 29, all_ 27, at_ 4 6, all_ 25]
theorem rX1_findOrder {w : Wd} {out : Wd} (h0 : fX1_findOrder w = some out) : Agree (pU pX1_findOrder) w out := by
  have ag0 : Agree (pU pX1_findOrder) w w := Agree.rf
  unfold fX1_findOrder at h0
  obtain ⟨w1, ew1, h0⟩ := lt_some h0
  have ag2 := ag0.tr (Agree.sub [0, 1] rfl (rX1_startSearch ew1.symm))
  obtain ⟨w3, ew3, h0⟩ := lt_some h0
  have ag4 := ag2.tr (Agree.sub [2, 3, 4, 5, 6, 7, 8, 9, 10, 11, 12] rfl (rX2_takeFrom ew3.symm))
  obtain ⟨v5, ev5, h0⟩ := lt_some h0
  obtain ⟨x16, ix16, h0⟩ := bind_some h0
  replace h0 := un2_eq h0
  obtain ⟨l17, w18, rfl, h0⟩ := h0
  have ag19 : Agree (pU pX1_findOrder) w w18 := by
    refine iter_rule (P := fun s : Int32 × Int32 × Wd => Agree (pU pX1_findOrder) w s.2.2 → Agree (pU pX1_findOrder) w w18) (x := (l17, w18)) ?_ FU (1, 0, w3) ix16 ag4
    intro s y1 h1 hP1 hX1 agl33
    obtain ⟨l6, l7, w8⟩ := s
    have h1 : fX1_findOrder_b33 v5 l6 l7 w8 = some y1 := h1
    have agl33 : Agree (pU pX1_findOrder) w w8 := agl33
    unfold fX1_findOrder_b33 at h1
    by_cases c15 : v5 ≤ l7
    · rw [if_pos c15] at h1
      have e9 := hX1 _ (Option.some.inj h1).symm
      cases e9
      exact agl33
    · rw [if_neg c15] at h1
      obtain ⟨g11, h1⟩ := gd_some h1
      obtain ⟨w10, ew10, h1⟩ := lt_some h1
      have ag12 := agl33.pI ew10 (Or.inr (List.mem_of_getElem? (i := 13) rfl))
      obtain ⟨v13, ev13, h1⟩ := lt_some h1
      obtain ⟨v14, ev14, h1⟩ := lt_some h1
      exact hP1 (v13, v14, w10) (Option.some.inj h1).symm ag12
  obtain ⟨w46, iw46, h0⟩ := bind_some h0
  have ag47 : Agree (pU pX1_findOrder) w w46 := by
    refine iter_rule (P := fun s : Int32 × Wd => Agree (pU pX1_findOrder) w s.2 → Agree (pU pX1_findOrder) w w46) (x := w46) ?_ FU (0, w18) iw46 ag19
    intro s y1 h1 hP1 hX1 agl59
    obtain ⟨l20, w21⟩ := s
    have h1 : fX1_findOrder_b59 l17 v5 l20 w21 = some y1 := h1
    have agl59 : Agree (pU pX1_findOrder) w w21 := agl59
    unfold fX1_findOrder_b59 at h1
    by_cases c44 : l17 ≤ l20
    · rw [if_pos c44] at h1
      have e22 := hX1 _ (Option.some.inj h1).symm
      cases e22
      exact agl59
    · rw [if_neg c44] at h1
      obtain ⟨w32, iw32, h1⟩ := bind_some h1
      have ag33 : Agree (pU pX1_findOrder) w w32 := by
        refine iter_rule (P := fun s : Int32 × Wd => Agree (pU pX1_findOrder) w s.2 → Agree (pU pX1_findOrder) w w32) (x := w32) ?_ FU (0, w21) iw32 agl59
        intro s y2 h2 hP2 hX2 agl67
        obtain ⟨l23, w24⟩ := s
        have h2 : fX1_findOrder_b67 v5 l23 w24 = some y2 := h2
        have agl67 : Agree (pU pX1_findOrder) w w24 := agl67
        unfold fX1_findOrder_b67 at h2
        by_cases c30 : v5 ≤ l23
        · rw [if_pos c30] at h2
          have e25 := hX2 _ (Option.some.inj h2).symm
          cases e25
          exact agl67
        · rw [if_neg c30] at h2
          obtain ⟨g26, h2⟩ := gd_some h2
          obtain ⟨w27, ew27, h2⟩ := bind_some h2
          have ag28 := agl67.tr (Agree.sub [9, 10, 3] rfl (rX2_copyOne ew27))
          obtain ⟨v29, ev29, h2⟩ := lt_some h2
          exact hP2 (v29, w27) (Option.some.inj h2).symm ag28
      obtain ⟨r34, er34, h1⟩ := bind_some h1
      obtain ⟨q37, er36, h1⟩ := bind_some h1
      replace h1 := un2_eq h1
      obtain ⟨r36, w35, rfl, h1⟩ := h1
      have ag38 := ag33.tr (Agree.sub [14, 15, 16, 17, 18, 19, 20, 21, 22, 23] rfl (rX1_countOf er36))
      obtain ⟨w39, ew39, h1⟩ := lt_some h1
      have ag40 := ag38.tr (Agree.sub [1, 0] rfl (rX1_consider ew39.symm))
      obtain ⟨w41, ew41, h1⟩ := bind_some h1
      have ag42 := ag40.tr (Agree.sub [13] rfl (rX1_nextOrder ew41))
      obtain ⟨v43, ev43, h1⟩ := lt_some h1
      exact hP1 (v43, w41) (Option.some.inj h1).symm ag42
  rw [← Option.some.inj h0]
  exact ag47
def pX9_order : List (Nat × Option Nat) := [all_ 12, at_ 10 0, at_ 10 1, at_ 3 0, at_ 3 1, at_ 3 2, at_ 3 3, at_ 3 4, at_ 3 5, at_ 3 6, all_ (9 + 4 * 3), all_ (10 + 4 * 3), all_ (11 + 4 * 3), all_ (12 + 4 * 3), all_ 37, at_ 4 0, at_ 4 1, at_ 4 2, at_ 4 3, at_ 4 4, all_ 28, all_ 29, all_ 27, at_ 4 6, all_ 25]
theorem rX9_order {w : Wd} {a1 : Int32} {out : Int32 × Wd} (h0 : fX9_order w a1 = some out) : Agree (pU pX9_order) w out.2 := by
  have ag0 : Agree (pU pX9_order) w w := Agree.rf
  unfold fX9_order at h0
  have J37 : ∀ (w1 : Wd), fX9_order_j37 w1 = some out → Agree (pU pX9_order) w w1 → Agree (pU pX9_order) w out.2 := by
    intro w1 h0 agj
    unfold fX9_order_j37 at h0
    obtain ⟨q4, er3, h0⟩ := bind_some h0
    replace h0 := un2_eq h0
    obtain ⟨r3, w2, rfl, h0⟩ := h0
    have ag5 := agj.tr (Agree.sub [0] rfl (rX9_refuse er3))
    rw [← Option.some.inj h0]
    exact ag5
  by_cases c15 : (fX9_isOutside a1 1) = 0
  · rw [if_pos c15] at h0
    by_cases c10 : (w.1 1 0) = 0
    · rw [if_pos c10] at h0
      exact J37 w h0 ag0
    · rw [if_neg c10] at h0
      by_cases c9 : (w.1 1 0) ≤ 6
      · rw [if_pos c9] at h0
        obtain ⟨w6, ew6, h0⟩ := bind_some h0
        have ag7 := ag0.tr (Agree.sub [1, 2, 3, 4, 5, 6, 7, 8, 9, 10, 11, 12, 13, 14, 15, 16, 17, 18, 19, 20, 21, 22, 23, 24] rfl (rX1_findOrder ew6))
        by_cases c8 : a1 = 0
        · rw [if_pos c8] at h0
          rw [← Option.some.inj h0]
          exact ag7
        · rw [if_neg c8] at h0
          rw [← Option.some.inj h0]
          exact ag7
      · rw [if_neg c9] at h0
        exact J37 w h0 ag0
  · rw [if_neg c15] at h0
    obtain ⟨q13, er12, h0⟩ := bind_some h0
    replace h0 := un2_eq h0
    obtain ⟨r12, w11, rfl, h0⟩ := h0
    have ag14 := ag0.tr (Agree.sub [0] rfl (rX9_refuse er12))
    rw [← Option.some.inj h0]
    exact ag14
def pX2_becomeLantern (b : Nat) : List (Nat × Option Nat) := [all_ (9 + 4 * b), at_ b 1]
theorem rX2_becomeLantern {b : Nat} {w : Wd} {a1 : Int32} {out : Wd} (h0 : fX2_becomeLantern b w a1 = some out) : Agree (pU (pX2_becomeLantern b)) w out := by
  have ag0 : Agree (pU (pX2_becomeLantern b)) w w := Agree.rf
  unfold fX2_becomeLantern at h0
  obtain ⟨g2, h0⟩ := gd_some h0
  obtain ⟨w1, ew1, h0⟩ := lt_some h0
  have ag3 := ag0.pI ew1 (Or.inr (List.mem_of_getElem? (i := 0) rfl))
  obtain ⟨w4, ew4, h0⟩ := lt_some h0
  have ag5 := ag3.tr (Agree.sub [1] rfl (rX2_putLit ew4.symm))
  rw [← Option.some.inj h0]
  exact ag5
def pX1_findLantern : List (Nat × Option Nat) := [at_ 10 0, at_ 10 1, at_ 3 0, at_ 3 1, at_ 3 2, at_ 3 3, at_ 3 4, at_ 3 5, at_ 3 6, all_ (9 + 4 * 3), all_ (10 + 4 * 3), all_ (11 + 4 * 3), all_ (12 + 4 * 3), at_ 4 0, at_ 4 1, at_ 4 2, at_ 4 3, at_ 4 4, all_ 28, all_ 29, all_ 27, at_ 4 6, all_ 25]
theorem rX1_findLantern {w : Wd} {out : Wd} (h0 : fX1_findLantern w = some out) : Agree (pU pX1_findLantern) w out := by
  have ag0 : Agree (pU pX1_findLantern) w w := Agree.rf
  unfold fX1_findLantern at h0
  obtain ⟨w1, ew1, h0⟩ := lt_some h0
  have ag2 := ag0.tr (Agree.sub [0, 1] rfl (rX1_startSearch ew1.symm))
  obtain ⟨w19, iw19, h0⟩ := bind_some h0
  have ag20 : Agree (pU pX1_findLantern) w w19 := by
    refine iter_rule (P := fun s : Int32 × Wd => Agree (pU pX1_findLantern) w s.2 → Agree (pU pX1_findLantern) w w19) (x := w19) ?_ FU (0, w1) iw19 ag2
    intro s y1 h1 hP1 hX1 agl7
    obtain ⟨l3, w4⟩ := s
    have h1 : fX1_findLantern_b7 l3 w4 = some y1 := h1
    have agl7 : Agree (pU pX1_findLantern) w w4 := agl7
    unfold fX1_findLantern_b7 at h1
    by_cases c17 : (w4.1 1 0) ≤ l3
    · rw [if_pos c17] at h1
      have e5 := hX1 _ (Option.some.inj h1).symm
      cases e5
      exact agl7
    · rw [if_neg c17] at h1
      obtain ⟨w6, ew6, h1⟩ := lt_some h1
      have ag7 := agl7.tr (Agree.sub [2, 3, 4, 5, 6, 7, 8, 9, 10, 11, 12] rfl (rX2_takeFrom ew6.symm))
      obtain ⟨w8, ew8, h1⟩ := bind_some h1
      have ag9 := ag7.tr (Agree.sub [9, 3] rfl (rX2_becomeLantern ew8))
      obtain ⟨q12, er11, h1⟩ := bind_some h1
      replace h1 := un2_eq h1
      obtain ⟨r11, w10, rfl, h1⟩ := h1
      have ag13 := ag9.tr (Agree.sub [13, 14, 15, 16, 17, 18, 19, 20, 21, 22] rfl (rX1_countOf er11))
      obtain ⟨w14, ew14, h1⟩ := lt_some h1
      have ag15 := ag13.tr (Agree.sub [1, 0] rfl (rX1_consider ew14.symm))
      obtain ⟨v16, ev16, h1⟩ := lt_some h1
      exact hP1 (v16, w14) (Option.some.inj h1).symm ag15
  rw [← Option.some.inj h0]
  exact ag20
def pX9_lantern : List (Nat × Option Nat) := [all_ 12, at_ 10 0, at_ 10 1, at_ 3 0, at_ 3 1, at_ 3 2, at_ 3 3, at_ 3 4, at_ 3 5, at_ 3 6, all_ (9 + 4 * 3), all_ (10 + 4 * 3), all_ (11 + 4 * 3), all_ (12 + 4 * 3), at_ 4 0, at_ 4 1, at_ 4 2, at_ 4 3, at_ 4 4, all_ 28, all_ 29, all_ 27, at_ 4 6, all_ 25]
theorem rX9_lantern {w : Wd} {a1 : Int32} {out : Int32 × Wd} (h0 : fX9_lantern w a1 = some out) : Agree (pU pX9_lantern) w out.2 := by
  have ag0 : Agree (pU pX9_lantern) w w := Agree.rf
  unfold fX9_lantern at h0
  by_cases c13 : (fX9_isOutside a1 1) = 0
  · rw [if_pos c13] at h0
    by_cases c8 : (w.1 1 0) = 0
    · rw [if_pos c8] at h0
      obtain ⟨q3, er2, h0⟩ := bind_some h0
      replace h0 := un2_eq h0
      obtain ⟨r2, w1, rfl, h0⟩ := h0
      have ag4 := ag0.tr (Agree.sub [0] rfl (rX9_refuse er2))
      rw [← Option.some.inj h0]
      exact ag4
    · rw [if_neg c8] at h0
      obtain ⟨w5, ew5, h0⟩ := bind_some h0
      have ag6 := ag0.tr (Agree.sub [1, 2, 3, 4, 5, 6, 7, 8, 9, 10, 11, 12, 13, 14, 15, 16, 17, 18, 19, 20, 21, 22, 23] rfl (rX1_findLantern ew5))
      by_cases c7 : a1 = 0
      · rw [if_pos c7] at h0
        rw [← Option.some.inj h0]
        exact ag6
      · rw [if_neg c7] at h0
        rw [← Option.some.inj h0]
        exact ag6
  · rw [if_neg c13] at h0
    obtain ⟨q11, er10, h0⟩ := bind_some h0
    replace h0 := un2_eq h0
    obtain ⟨r10, w9, rfl, h0⟩ := h0
    have ag12 := ag0.tr (Agree.sub [0] rfl (rX9_refuse er10))
    rw [← Option.some.inj h0]
    exact ag12
def pX1_lanternsDo : List (Nat × Option Nat) := [at_ 3 0, at_ 3 1, at_ 3 2, at_ 3 3, at_ 3 4, at_ 3 5, at_ 3 6, all_ (9 + 4 * 3), all_ (10 + 4 * 3), all_ (11 + 4 * 3), all_ (12 + 4 * 3), at_ 4 0, at_ 4 1, at_ 4 2, at_ 4 3, at_ 4 4, all_ 28, all_ 29, all_ 27, at_ 4 6, all_ 25]
theorem rX1_lanternsDo {w : Wd} {a1 : Int32} {out : Int32 × Wd} (h0 : fX1_lanternsDo w a1 = some out) : Agree (pU pX1_lanternsDo) w out.2 := by
  have ag0 : Agree (pU pX1_lanternsDo) w w := Agree.rf
  unfold fX1_lanternsDo at h0
  obtain ⟨w1, ew1, h0⟩ := lt_some h0
  have ag2 := ag0.tr (Agree.sub [0, 1, 2, 3, 4, 5, 6, 7, 8, 9, 10] rfl (rX2_takeFrom ew1.symm))
  obtain ⟨w13, iw13, h0⟩ := bind_some h0
  have ag14 : Agree (pU pX1_lanternsDo) w w13 := by
    refine iter_rule (P := fun s : Int32 × Wd => Agree (pU pX1_lanternsDo) w s.2 → Agree (pU pX1_lanternsDo) w w13) (x := w13) ?_ FU (0, w1) iw13 ag2
    intro s y1 h1 hP1 hX1 agl13
    obtain ⟨l3, w4⟩ := s
    have h1 : fX1_lanternsDo_b13 a1 l3 w4 = some y1 := h1
    have agl13 : Agree (pU pX1_lanternsDo) w w4 := agl13
    unfold fX1_lanternsDo_b13 at h1
    by_cases c11 : (w4.1 1 0) ≤ l3
    · rw [if_pos c11] at h1
      have e5 := hX1 _ (Option.some.inj h1).symm
      cases e5
      exact agl13
    · rw [if_neg c11] at h1
      by_cases c10 : (fX9_hasBit a1 l3) = 0
      · rw [if_pos c10] at h1
        obtain ⟨v6, ev6, h1⟩ := lt_some h1
        exact hP1 (v6, w4) (Option.some.inj h1).symm agl13
      · rw [if_neg c10] at h1
        obtain ⟨w7, ew7, h1⟩ := bind_some h1
        have ag8 := agl13.tr (Agree.sub [7, 1] rfl (rX2_becomeLantern ew7))
        obtain ⟨v9, ev9, h1⟩ := lt_some h1
        exact hP1 (v9, w7) (Option.some.inj h1).symm ag8
  obtain ⟨q17, er16, h0⟩ := bind_some h0
  replace h0 := un2_eq h0
  obtain ⟨r16, w15, rfl, h0⟩ := h0
  have ag18 := ag14.tr (Agree.sub [11, 12, 13, 14, 15, 16, 17, 18, 19, 20] rfl (rX1_doorOf er16))
  obtain ⟨r19, er19, h0⟩ := bind_some h0
  by_cases c20 : r16 = r19
  · rw [if_pos c20] at h0
    rw [← Option.some.inj h0]
    exact ag18
  · rw [if_neg c20] at h0
    rw [← Option.some.inj h0]
    exact ag18
def pX1_fewestLanterns : List (Nat × Option Nat) := [at_ 3 0, at_ 3 1, at_ 3 2, at_ 3 3, at_ 3 4, at_ 3 5, at_ 3 6, all_ (9 + 4 * 3), all_ (10 + 4 * 3), all_ (11 + 4 * 3), all_ (12 + 4 * 3), at_ 4 0, at_ 4 1, at_ 4 2, at_ 4 3, at_ 4 4, all_ 28, all_ 29, all_ 27, at_ 4 6, all_ 25]
theorem rX1_fewestLanterns {w : Wd} {out : Int32 × Wd} (h0 : fX1_fewestLanterns w = some out) : Agree (pU pX1_fewestLanterns) w out.2 := by
  have ag0 : Agree (pU pX1_fewestLanterns) w w := Agree.rf
  unfold fX1_fewestLanterns at h0
  obtain ⟨v1, ev1, h0⟩ := lt_some h0
  obtain ⟨x18, ix18, h0⟩ := bind_some h0
  replace h0 := un2_eq h0
  obtain ⟨l19, w20, rfl, h0⟩ := h0
  have ag21 : Agree (pU pX1_fewestLanterns) w w20 := by
    refine iter_rule (P := fun s : Int32 × Int32 × Int32 × Wd => Agree (pU pX1_fewestLanterns) w s.2.2.2 → Agree (pU pX1_fewestLanterns) w w20) (x := (l19, w20)) ?_ FU ((-9), 9, 0, w) ix18 ag0
    intro s y1 h1 hP1 hX1 agl17
    obtain ⟨l2, l3, l4, w5⟩ := s
    have h1 : fX1_fewestLanterns_b17 v1 l2 l3 l4 w5 = some y1 := h1
    have agl17 : Agree (pU pX1_fewestLanterns) w w5 := agl17
    unfold fX1_fewestLanterns_b17 at h1
    by_cases c17 : v1 < l4
    · rw [if_pos c17] at h1
      have e6 := hX1 _ (Option.some.inj h1).symm
      cases e6
      exact agl17
    · rw [if_neg c17] at h1
      obtain ⟨v7, ev7, h1⟩ := lt_some h1
      by_cases c16 : l3 ≤ v7
      · rw [if_pos c16] at h1
        obtain ⟨v8, ev8, h1⟩ := lt_some h1
        exact hP1 (l2, l3, v8, w5) (Option.some.inj h1).symm agl17
      · rw [if_neg c16] at h1
        obtain ⟨q11, er10, h1⟩ := bind_some h1
        replace h1 := un2_eq h1
        obtain ⟨r10, w9, rfl, h1⟩ := h1
        have ag12 := agl17.tr (Agree.sub [0, 1, 2, 3, 4, 5, 6, 7, 8, 9, 10, 11, 12, 13, 14, 15, 16, 17, 18, 19, 20] rfl (rX1_lanternsDo er10))
        by_cases c15 : r10 = 0
        · rw [if_pos c15] at h1
          obtain ⟨v13, ev13, h1⟩ := lt_some h1
          exact hP1 (l2, l3, v13, w9) (Option.some.inj h1).symm ag12
        · rw [if_neg c15] at h1
          obtain ⟨v14, ev14, h1⟩ := lt_some h1
          exact hP1 (l4, v7, v14, w9) (Option.some.inj h1).symm ag12
  rw [← Option.some.inj h0]
  exact ag21
def pX9_fewest : List (Nat × Option Nat) := [at_ 3 0, at_ 3 1, at_ 3 2, at_ 3 3, at_ 3 4, at_ 3 5, at_ 3 6, all_ (9 + 4 * 3), all_ (10 + 4 * 3), all_ (11 + 4 * 3), all_ (12 + 4 * 3), at_ 4 0, at_ 4 1, at_ 4 2, at_ 4 3, at_ 4 4, all_ 28, all_ 29, all_ 27, at_ 4 6, all_ 25, all_ 12]
theorem rX9_fewest {w : Wd} {a1 : Int32} {out : Int32 × Wd} (h0 : fX9_fewest w a1 = some out) : Agree (pU pX9_fewest) w out.2 := by
  have ag0 : Agree (pU pX9_fewest) w w := Agree.rf
  unfold fX9_fewest at h0
  by_cases c9 : (fX9_isOutside a1 1) = 0
  · rw [if_pos c9] at h0
    obtain ⟨q3, er2, h0⟩ := bind_some h0
    replace h0 := un2_eq h0
    obtain ⟨r2, w1, rfl, h0⟩ := h0
    have ag4 := ag0.tr (Agree.sub [0, 1, 2, 3, 4, 5, 6, 7, 8, 9, 10, 11, 12, 13, 14, 15, 16, 17, 18, 19, 20] rfl (rX1_fewestLanterns er2))
    rw [← Option.some.inj h0]
    exact ag4
  · rw [if_neg c9] at h0
    obtain ⟨q7, er6, h0⟩ := bind_some h0
    replace h0 := un2_eq h0
    obtain ⟨r6, w5, rfl, h0⟩ := h0
    have ag8 := ag0.tr (Agree.sub [21] rfl (rX9_refuse er6))
    rw [← Option.some.inj h0]
    exact ag8
def pX6_bestMatch : List (Nat × Option Nat) := [at_ 4 0, at_ 4 1, at_ 4 2, at_ 4 3, at_ 4 4, all_ 28, all_ 29, all_ 27, all_ 26, at_ 4 5, at_ 4 6, all_ 25]
theorem rX6_bestMatch {w : Wd} {out : Int32 × Wd} (h0 : fX6_bestMatch w = some out) : Agree (pU pX6_bestMatch) w out.2 := by
  have ag0 : Agree (pU pX6_bestMatch) w w := Agree.rf
  unfold fX6_bestMatch at h0
  obtain ⟨q3, er2, h0⟩ := bind_some h0
  replace h0 := un2_eq h0
  obtain ⟨r2, w1, rfl, h0⟩ := h0
  have ag4 := ag0.tr (Agree.sub [0, 1, 2, 3, 4, 5, 6, 7, 8, 9, 10, 11] rfl (rX6_startFromNow er2))
  obtain ⟨v5, ev5, h0⟩ := lt_some h0
  obtain ⟨x36, ix36, h0⟩ := bind_some h0
  replace h0 := un2_eq h0
  obtain ⟨l37, w38, rfl, h0⟩ := h0
  have ag39 : Agree (pU pX6_bestMatch) w w38 := by
    refine iter_rule (P := fun s : Int32 × Int32 × Int32 × Wd => Agree (pU pX6_bestMatch) w s.2.2.2 → Agree (pU pX6_bestMatch) w w38) (x := (l37, w38)) ?_ FU (r2, (-9), v5, w1) ix36 ag4
    intro s y1 h1 hP1 hX1 agl18
    obtain ⟨l6, l7, l8, w9⟩ := s
    have h1 : fX6_bestMatch_b18 l6 l7 l8 w9 = some y1 := h1
    have agl18 : Agree (pU pX6_bestMatch) w w9 := agl18
    unfold fX6_bestMatch_b18 at h1
    by_cases c35 : l8 < 0
    · rw [if_pos c35] at h1
      have e10 := hX1 _ (Option.some.inj h1).symm
      cases e10
      exact agl18
    · rw [if_neg c35] at h1
      obtain ⟨x29, ix29, h1⟩ := bind_some h1
      replace h1 := un3_eq h1
      obtain ⟨l30, l31, w32, rfl, h1⟩ := h1
      have ag33 : Agree (pU pX6_bestMatch) w w32 := by
        refine iter_rule (P := fun s : Int32 × Int32 × Int32 × Wd => Agree (pU pX6_bestMatch) w s.2.2.2 → Agree (pU pX6_bestMatch) w w32) (x := (l30, l31, w32)) ?_ FU (l6, l7, 0, w9) ix29 agl18
        intro s y2 h2 hP2 hX2 agl25
        obtain ⟨l11, l12, l13, w14⟩ := s
        have h2 : fX6_bestMatch_b25 l8 l11 l12 l13 w14 = some y2 := h2
        have agl25 : Agree (pU pX6_bestMatch) w w14 := agl25
        unfold fX6_bestMatch_b25 at h2
        by_cases c28 : (w14.1 4 0) ≤ l13
        · rw [if_pos c28] at h2
          have e15 := hX2 _ (Option.some.inj h2).symm
          cases e15
          exact agl25
        · rw [if_neg c28] at h2
          by_cases c27 : (fX9_hasBit (w14.1 4 1) l13) = 0
          · rw [if_pos c27] at h2
            obtain ⟨v16, ev16, h2⟩ := lt_some h2
            exact hP2 (l11, l12, v16, w14) (Option.some.inj h2).symm agl25
          · rw [if_neg c27] at h2
            obtain ⟨g17, h2⟩ := gd_some h2
            obtain ⟨q20, er19, h2⟩ := bind_some h2
            replace h2 := un2_eq h2
            obtain ⟨r19, w18, rfl, h2⟩ := h2
            have ag21 := agl25.tr (Agree.sub [10, 11] rfl (rX8_atDoorFrom er19))
            obtain ⟨v22, ev22, h2⟩ := lt_some h2
            by_cases c26 : v22 ≤ l11
            · rw [if_pos c26] at h2
              obtain ⟨v23, ev23, h2⟩ := lt_some h2
              exact hP2 (l11, l12, v23, w18) (Option.some.inj h2).symm ag21
            · rw [if_neg c26] at h2
              obtain ⟨v24, ev24, h2⟩ := lt_some h2
              obtain ⟨v25, ev25, h2⟩ := lt_some h2
              exact hP2 (v22, v24, v25, w18) (Option.some.inj h2).symm ag21
      obtain ⟨v34, ev34, h1⟩ := lt_some h1
      exact hP1 (l30, l31, v34, w32) (Option.some.inj h1).symm ag33
  rw [← Option.some.inj h0]
  exact ag39
def pX9_match : List (Nat × Option Nat) := [at_ 4 0, at_ 4 1, at_ 4 2, at_ 4 3, at_ 4 4, all_ 28, all_ 29, all_ 27, all_ 26, at_ 4 5, at_ 4 6, all_ 25]
theorem rX9_match {w : Wd} {out : Int32 × Wd} (h0 : fX9_match w = some out) : Agree (pU pX9_match) w out.2 := by
  have ag0 : Agree (pU pX9_match) w w := Agree.rf
  unfold fX9_match at h0
  obtain ⟨q3, er2, h0⟩ := bind_some h0
  replace h0 := un2_eq h0
  obtain ⟨r2, w1, rfl, h0⟩ := h0
  have ag4 := ag0.tr (Agree.sub [0, 1, 2, 3, 4, 5, 6, 7, 8, 9, 10, 11] rfl (rX6_bestMatch er2))
  rw [← Option.some.inj h0]
  exact ag4
def pX1_leftBehind : List (Nat × Option Nat) := [at_ 3 0, at_ 3 1, at_ 3 2, at_ 3 3, at_ 3 4, at_ 3 5, at_ 3 6, all_ (9 + 4 * 3), all_ (10 + 4 * 3), all_ (11 + 4 * 3), all_ (12 + 4 * 3), at_ 4 0, at_ 4 1, at_ 4 2, at_ 4 3, at_ 4 4, all_ 28, all_ 29, all_ 27, at_ 4 6, all_ 25]
theorem rX1_leftBehind {w : Wd} {out : Int32 × Wd} (h0 : fX1_leftBehind w = some out) : Agree (pU pX1_leftBehind) w out.2 := by
  have ag0 : Agree (pU pX1_leftBehind) w w := Agree.rf
  unfold fX1_leftBehind at h0
  obtain ⟨x26, ix26, h0⟩ := bind_some h0
  replace h0 := un2_eq h0
  obtain ⟨l27, w28, rfl, h0⟩ := h0
  have ag29 : Agree (pU pX1_leftBehind) w w28 := by
    refine iter_rule (P := fun s : Int32 × Int32 × Int32 × Int32 × Wd => Agree (pU pX1_leftBehind) w s.2.2.2.2 → Agree (pU pX1_leftBehind) w w28) (x := (l27, w28)) ?_ FU (0, 0, 1, 0, w) ix26 ag0
    intro s y1 h1 hP1 hX1 agl9
    obtain ⟨l1, l2, l3, l4, w5⟩ := s
    have h1 : fX1_leftBehind_b9 l1 l2 l3 l4 w5 = some y1 := h1
    have agl9 : Agree (pU pX1_leftBehind) w w5 := agl9
    unfold fX1_leftBehind_b9 at h1
    have J99 : ∀ (w19 : Wd) (l17 : Int32) (l18 : Int32), fX1_leftBehind_j99 w19 l17 l18 = some y1 → Agree (pU pX1_leftBehind) w w19 → Agree (pU pX1_leftBehind) w w28 := by
      intro w19 l17 l18 h1 agj
      unfold fX1_leftBehind_j99 at h1
      obtain ⟨v20, ev20, h1⟩ := lt_some h1
      obtain ⟨v21, ev21, h1⟩ := lt_some h1
      exact hP1 (l17, l18, v20, v21, w19) (Option.some.inj h1).symm agj
    by_cases c25 : (w5.1 1 0) ≤ l4
    · rw [if_pos c25] at h1
      have e6 := hX1 _ (Option.some.inj h1).symm
      cases e6
      exact agl9
    · rw [if_neg c25] at h1
      obtain ⟨w7, ew7, h1⟩ := lt_some h1
      have ag8 := agl9.tr (Agree.sub [0, 1, 2, 3, 4, 5, 6, 7, 8, 9, 10] rfl (rX2_takeFrom ew7.symm))
      obtain ⟨w9, ew9, h1⟩ := lt_some h1
      have ag10 := ag8.pI ew9 (Or.inl (List.mem_of_getElem? (i := 0) rfl))
      obtain ⟨w11, ew11, h1⟩ := lt_some h1
      have ag12 := ag10.pI ew11 (Or.inl (List.mem_of_getElem? (i := 1) rfl))
      obtain ⟨q15, er14, h1⟩ := bind_some h1
      replace h1 := un2_eq h1
      obtain ⟨r14, w13, rfl, h1⟩ := h1
      have ag16 := ag12.tr (Agree.sub [11, 12, 13, 14, 15, 16, 17, 18, 19, 20] rfl (rX1_countOf er14))
      by_cases c24 : l4 = 0
      · rw [if_pos c24] at h1
        exact J99 w13 l4 r14 h1 ag16
      · rw [if_neg c24] at h1
        by_cases c23 : (r14 * l3) ≤ (l2 * (w13.1 3 0))
        · rw [if_pos c23] at h1
          obtain ⟨v22, ev22, h1⟩ := lt_some h1
          exact hP1 (l1, l2, l3, v22, w13) (Option.some.inj h1).symm ag16
        · rw [if_neg c23] at h1
          exact J99 w13 l4 r14 h1 ag16
  rw [← Option.some.inj h0]
  exact ag29
def pX9_tail : List (Nat × Option Nat) := [all_ 12, at_ 3 0, at_ 3 1, at_ 3 2, at_ 3 3, at_ 3 4, at_ 3 5, at_ 3 6, all_ (9 + 4 * 3), all_ (10 + 4 * 3), all_ (11 + 4 * 3), all_ (12 + 4 * 3), at_ 4 0, at_ 4 1, at_ 4 2, at_ 4 3, at_ 4 4, all_ 28, all_ 29, all_ 27, at_ 4 6, all_ 25]
theorem rX9_tail {w : Wd} {out : Int32 × Wd} (h0 : fX9_tail w = some out) : Agree (pU pX9_tail) w out.2 := by
  have ag0 : Agree (pU pX9_tail) w w := Agree.rf
  unfold fX9_tail at h0
  by_cases c9 : (w.1 1 0) = 0
  · rw [if_pos c9] at h0
    obtain ⟨q3, er2, h0⟩ := bind_some h0
    replace h0 := un2_eq h0
    obtain ⟨r2, w1, rfl, h0⟩ := h0
    have ag4 := ag0.tr (Agree.sub [0] rfl (rX9_refuse er2))
    rw [← Option.some.inj h0]
    exact ag4
  · rw [if_neg c9] at h0
    obtain ⟨q7, er6, h0⟩ := bind_some h0
    replace h0 := un2_eq h0
    obtain ⟨r6, w5, rfl, h0⟩ := h0
    have ag8 := ag0.tr (Agree.sub [1, 2, 3, 4, 5, 6, 7, 8, 9, 10, 11, 12, 13, 14, 15, 16, 17, 18, 19, 20, 21] rfl (rX1_leftBehind er6))
    rw [← Option.some.inj h0]
    exact ag8
def pX6_follow : List (Nat × Option Nat) := [at_ 4 0, at_ 4 1, at_ 4 2, at_ 4 3, at_ 4 4, all_ 28, all_ 29, all_ 27, at_ 4 5, at_ 4 6, all_ 25, at_ 9 0, at_ 9 1]
theorem rX6_follow {w : Wd} {a1 : Int32} {out : Wd} (h0 : fX6_follow w a1 = some out) : Agree (pU pX6_follow) w out := by
  have ag0 : Agree (pU pX6_follow) w w := Agree.rf
  unfold fX6_follow at h0
  have J125 : ∀ (w34 : Wd) (l32 : Int32) (l33 : Int32), fX6_follow_j125 w34 l32 l33 = some out → Agree (pU pX6_follow) w w34 → Agree (pU pX6_follow) w out := by
    intro w34 l32 l33 h0 agj
    unfold fX6_follow_j125 at h0
    obtain ⟨w35, ew35, h0⟩ := lt_some h0
    have ag36 := agj.pI ew35 (Or.inl (List.mem_of_getElem? (i := 11) rfl))
    obtain ⟨w37, ew37, h0⟩ := lt_some h0
    have ag38 := ag36.pI ew37 (Or.inl (List.mem_of_getElem? (i := 12) rfl))
    rw [← Option.some.inj h0]
    exact ag38
  obtain ⟨w1, ew1, h0⟩ := bind_some h0
  have ag2 := ag0.tr (Agree.sub [0, 1, 2, 3, 4, 5, 6, 7] rfl (rX8_setOut ew1))
  obtain ⟨v3, ev3, h0⟩ := lt_some h0
  obtain ⟨v4, ev4, h0⟩ := lt_some h0
  obtain ⟨x27, ix27, h0⟩ := bind_some h0
  replace h0 := un3_eq h0
  obtain ⟨l28, l29, w30, rfl, h0⟩ := h0
  have ag31 : Agree (pU pX6_follow) w w30 := by
    refine iter_rule (P := fun s : Int32 × Int32 × Int32 × Int32 × Int32 × Wd => Agree (pU pX6_follow) w s.2.2.2.2.2 → Agree (pU pX6_follow) w w30) (x := (l28, l29, w30)) ?_ FU (v3, v4, 0, 0, 0, w1) ix27 ag2
    intro s y1 h1 hP1 hX1 agl36
    obtain ⟨l5, l6, l7, l8, l9, w10⟩ := s
    have h1 : fX6_follow_b36 a1 l5 l6 l7 l8 l9 w10 = some y1 := h1
    have agl36 : Agree (pU pX6_follow) w w10 := agl36
    unfold fX6_follow_b36 at h1
    by_cases c26 : (144 : Int32) ≤ l9
    · rw [if_pos c26] at h1
      have e11 := hX1 _ (Option.some.inj h1).symm
      cases e11
      exact agl36
    · rw [if_neg c26] at h1
      by_cases c25 : (w10.1 1 4) ≤ l6
      · rw [if_pos c25] at h1
        have e12 := hX1 _ (Option.some.inj h1).symm
        cases e12
        exact agl36
      · rw [if_neg c25] at h1
        obtain ⟨v14, hv14, h1⟩ := bind_some h1
        obtain ⟨q19, er18, h1⟩ := bind_some h1
        replace h1 := un2_eq h1
        obtain ⟨r18, w17, rfl, h1⟩ := h1
        have ag20 := agl36.tr (Agree.sub [8, 9, 10] rfl (rX8_minuteAt er18))
        obtain ⟨v21, ev21, h1⟩ := lt_some h1
        obtain ⟨v22, hv22, h1⟩ := lt_some h1
        have hv22 := hv22.symm
        obtain ⟨v23, hv23, h1⟩ := lt_some h1
        have hv23 := hv23.symm
        obtain ⟨v24, ev24, h1⟩ := lt_some h1
        exact hP1 (r18, v23, v22, v21, v24, w17) (Option.some.inj h1).symm ag20
  exact J125 w30 l28 l29 h0 ag31
def pX9_rule : List (Nat × Option Nat) := [at_ 4 0, at_ 4 1, at_ 4 2, at_ 4 3, at_ 4 4, all_ 28, all_ 29, all_ 27, at_ 4 5, at_ 4 6, all_ 25, at_ 9 0, at_ 9 1, all_ 12]
theorem rX9_rule {w : Wd} {a1 : Int32} {a2 : Int32} {out : Int32 × Wd} (h0 : fX9_rule w a1 a2 = some out) : Agree (pU pX9_rule) w out.2 := by
  have ag0 : Agree (pU pX9_rule) w w := Agree.rf
  unfold fX9_rule at h0
  have J16 : ∀ (w4 : Wd), fX9_rule_j16 w4 = some out → Agree (pU pX9_rule) w w4 → Agree (pU pX9_rule) w out.2 := by
    intro w4 h0 agj
    unfold fX9_rule_j16 at h0
    obtain ⟨q7, er6, h0⟩ := bind_some h0
    replace h0 := un2_eq h0
    obtain ⟨r6, w5, rfl, h0⟩ := h0
    have ag8 := agj.tr (Agree.sub [13] rfl (rX9_refuse er6))
    rw [← Option.some.inj h0]
    exact ag8
  by_cases c10 : (fX9_isOutside a1 4) = 0
  · rw [if_pos c10] at h0
    by_cases c9 : (fX9_isOutside a2 1) = 0
    · rw [if_pos c9] at h0
      obtain ⟨w1, ew1, h0⟩ := bind_some h0
      have ag2 := ag0.tr (Agree.sub [0, 1, 2, 3, 4, 5, 6, 7, 8, 9, 10, 11, 12] rfl (rX6_follow ew1))
      by_cases c3 : a2 = 0
      · rw [if_pos c3] at h0
        rw [← Option.some.inj h0]
        exact ag2
      · rw [if_neg c3] at h0
        rw [← Option.some.inj h0]
        exact ag2
    · rw [if_neg c9] at h0
      exact J16 w h0 ag0
  · rw [if_neg c10] at h0
    exact J16 w h0 ag0
def pX6_bestRule : List (Nat × Option Nat) := [at_ 4 0, at_ 4 1, at_ 4 2, at_ 4 3, at_ 4 4, all_ 28, all_ 29, all_ 27, at_ 4 5, at_ 4 6, all_ 25, at_ 9 0, at_ 9 1]
theorem rX6_bestRule {w : Wd} {out : Int32 × Wd} (h0 : fX6_bestRule w = some out) : Agree (pU pX6_bestRule) w out.2 := by
  have ag0 : Agree (pU pX6_bestRule) w w := Agree.rf
  unfold fX6_bestRule at h0
  obtain ⟨x20, ix20, h0⟩ := bind_some h0
  replace h0 := un2_eq h0
  obtain ⟨l21, w22, rfl, h0⟩ := h0
  have ag23 : Agree (pU pX6_bestRule) w w22 := by
    refine iter_rule (P := fun s : Int32 × Int32 × Int32 × Int32 × Wd => Agree (pU pX6_bestRule) w s.2.2.2.2 → Agree (pU pX6_bestRule) w w22) (x := (l21, w22)) ?_ FU (0, (-1), 0, 0, w) ix20 ag0
    intro s y1 h1 hP1 hX1 agl9
    obtain ⟨l1, l2, l3, l4, w5⟩ := s
    have h1 : fX6_bestRule_b9 l1 l2 l3 l4 w5 = some y1 := h1
    have agl9 : Agree (pU pX6_bestRule) w w5 := agl9
    unfold fX6_bestRule_b9 at h1
    have J45 : ∀ (w10 : Wd) (l9 : Int32), fX6_bestRule_j45 w10 l9 = some y1 → Agree (pU pX6_bestRule) w w10 → Agree (pU pX6_bestRule) w w22 := by
      intro w10 l9 h1 agj
      unfold fX6_bestRule_j45 at h1
      obtain ⟨v11, ev11, h1⟩ := lt_some h1
      obtain ⟨v12, ev12, h1⟩ := lt_some h1
      obtain ⟨v13, ev13, h1⟩ := lt_some h1
      exact hP1 (l9, v11, v12, v13, w10) (Option.some.inj h1).symm agj
    by_cases c19 : (4 : Int32) < l4
    · rw [if_pos c19] at h1
      have e6 := hX1 _ (Option.some.inj h1).symm
      cases e6
      exact agl9
    · rw [if_neg c19] at h1
      obtain ⟨w7, ew7, h1⟩ := bind_some h1
      have ag8 := agl9.tr (Agree.sub [0, 1, 2, 3, 4, 5, 6, 7, 8, 9, 10, 11, 12] rfl (rX6_follow ew7))
      by_cases c18 : l2 < (w7.1 9 0)
      · rw [if_pos c18] at h1
        exact J45 w7 l4 h1 ag8
      · rw [if_neg c18] at h1
        by_cases c17 : (w7.1 9 0) = l2
        · rw [if_pos c17] at h1
          by_cases c15 : l3 ≤ (w7.1 9 1)
          · rw [if_pos c15] at h1
            obtain ⟨v14, ev14, h1⟩ := lt_some h1
            exact hP1 (l1, l2, l3, v14, w7) (Option.some.inj h1).symm ag8
          · rw [if_neg c15] at h1
            exact J45 w7 l4 h1 ag8
        · rw [if_neg c17] at h1
          obtain ⟨v16, ev16, h1⟩ := lt_some h1
          exact hP1 (l1, l2, l3, v16, w7) (Option.some.inj h1).symm ag8
  rw [← Option.some.inj h0]
  exact ag23
def pX9_best : List (Nat × Option Nat) := [at_ 4 0, at_ 4 1, at_ 4 2, at_ 4 3, at_ 4 4, all_ 28, all_ 29, all_ 27, at_ 4 5, at_ 4 6, all_ 25, at_ 9 0, at_ 9 1]
theorem rX9_best {w : Wd} {out : Int32 × Wd} (h0 : fX9_best w = some out) : Agree (pU pX9_best) w out.2 := by
  have ag0 : Agree (pU pX9_best) w w := Agree.rf
  unfold fX9_best at h0
  obtain ⟨q3, er2, h0⟩ := bind_some h0
  replace h0 := un2_eq h0
  obtain ⟨r2, w1, rfl, h0⟩ := h0
  have ag4 := ag0.tr (Agree.sub [0, 1, 2, 3, 4, 5, 6, 7, 8, 9, 10, 11, 12] rfl (rX6_bestRule er2))
  rw [← Option.some.inj h0]
  exact ag4
def pX9_calm : List (Nat × Option Nat) := [all_ 12]
theorem rX9_calm {w : Wd} {a1 : Int32} {a2 : Int32} {out : Int32 × Wd} (h0 : fX9_calm w a1 a2 = some out) : Agree (pU pX9_calm) w out.2 := by
  have ag0 : Agree (pU pX9_calm) w w := Agree.rf
  unfold fX9_calm at h0
  have J9 : ∀ (w1 : Wd), fX9_calm_j9 w1 = some out → Agree (pU pX9_calm) w w1 → Agree (pU pX9_calm) w out.2 := by
    intro w1 h0 agj
    unfold fX9_calm_j9 at h0
    obtain ⟨q4, er3, h0⟩ := bind_some h0
    replace h0 := un2_eq h0
    obtain ⟨r3, w2, rfl, h0⟩ := h0
    have ag5 := agj.tr (Agree.sub [0] rfl (rX9_refuse er3))
    rw [← Option.some.inj h0]
    exact ag5
  have J28 : ∀ (w6 : Wd), fX9_calm_j28 w6 = some out → Agree (pU pX9_calm) w w6 → Agree (pU pX9_calm) w out.2 := by
    intro w6 h0 agj
    unfold fX9_calm_j28 at h0
    obtain ⟨q9, er8, h0⟩ := bind_some h0
    replace h0 := un2_eq h0
    obtain ⟨r8, w7, rfl, h0⟩ := h0
    have ag10 := agj.tr (Agree.sub [0] rfl (rX9_refuse er8))
    rw [← Option.some.inj h0]
    exact ag10
  by_cases c16 : a1 < 1
  · rw [if_pos c16] at h0
    exact J9 w h0 ag0
  · rw [if_neg c16] at h0
    by_cases c15 : (0 : Int32) ≤ a2
    · rw [if_pos c15] at h0
      by_cases c14 : (99 : Int32) < a1
      · rw [if_pos c14] at h0
        exact J28 w h0 ag0
      · rw [if_neg c14] at h0
        by_cases c13 : a2 ≤ 99
        · rw [if_pos c13] at h0
          obtain ⟨v11, ev11, h0⟩ := lt_some h0
          obtain ⟨g12, h0⟩ := gd_some h0
          rw [← Option.some.inj h0]
          exact ag0
        · rw [if_neg c13] at h0
          exact J28 w h0 ag0
    · rw [if_neg c15] at h0
      exact J9 w h0 ag0
def pX9_spreads : List (Nat × Option Nat) := [all_ 12]
theorem rX9_spreads {w : Wd} {a1 : Int32} {a2 : Int32} {out : Int32 × Wd} (h0 : fX9_spreads w a1 a2 = some out) : Agree (pU pX9_spreads) w out.2 := by
  have ag0 : Agree (pU pX9_spreads) w w := Agree.rf
  unfold fX9_spreads at h0
  have J9 : ∀ (w1 : Wd), fX9_spreads_j9 w1 = some out → Agree (pU pX9_spreads) w w1 → Agree (pU pX9_spreads) w out.2 := by
    intro w1 h0 agj
    unfold fX9_spreads_j9 at h0
    obtain ⟨q4, er3, h0⟩ := bind_some h0
    replace h0 := un2_eq h0
    obtain ⟨r3, w2, rfl, h0⟩ := h0
    have ag5 := agj.tr (Agree.sub [0] rfl (rX9_refuse er3))
    rw [← Option.some.inj h0]
    exact ag5
  have J28 : ∀ (w6 : Wd), fX9_spreads_j28 w6 = some out → Agree (pU pX9_spreads) w w6 → Agree (pU pX9_spreads) w out.2 := by
    intro w6 h0 agj
    unfold fX9_spreads_j28 at h0
    obtain ⟨q9, er8, h0⟩ := bind_some h0
    replace h0 := un2_eq h0
    obtain ⟨r8, w7, rfl, h0⟩ := h0
    have ag10 := agj.tr (Agree.sub [0] rfl (rX9_refuse er8))
    rw [← Option.some.inj h0]
    exact ag10
  by_cases c19 : a1 < 1
  · rw [if_pos c19] at h0
    exact J9 w h0 ag0
  · rw [if_neg c19] at h0
    by_cases c18 : (0 : Int32) ≤ a2
    · rw [if_pos c18] at h0
      by_cases c17 : (99 : Int32) < a1
      · rw [if_pos c17] at h0
        exact J28 w h0 ag0
      · rw [if_neg c17] at h0
        by_cases c16 : a2 ≤ 99
        · rw [if_pos c16] at h0
          by_cases c15 : a2 < a1
          · rw [if_pos c15] at h0
            rw [← Option.some.inj h0]
            exact ag0
          · rw [if_neg c15] at h0
            obtain ⟨q13, er12, h0⟩ := bind_some h0
            replace h0 := un2_eq h0
            obtain ⟨r12, w11, rfl, h0⟩ := h0
            have ag14 := ag0.tr (Agree.sub [0] rfl (rX9_refuse er12))
            rw [← Option.some.inj h0]
            exact ag14
        · rw [if_neg c16] at h0
          exact J28 w h0 ag0
    · rw [if_neg c18] at h0
      exact J9 w h0 ag0
def pX9_refuseLong : List (Nat × Option Nat) := [all_ 12]
theorem rX9_refuseLong {w : Wd} {a1 : Int32} {out : Int64 × Wd} (h0 : fX9_refuseLong w a1 = some out) : Agree (pU pX9_refuseLong) w out.2 := by
  have ag0 : Agree (pU pX9_refuseLong) w w := Agree.rf
  unfold fX9_refuseLong at h0
  obtain ⟨q3, er2, h0⟩ := bind_some h0
  replace h0 := un2_eq h0
  obtain ⟨r2, w1, rfl, h0⟩ := h0
  have ag4 := ag0.tr (Agree.sub [0] rfl (rX9_refuse er2))
  rw [← Option.some.inj h0]
  exact ag4
def pX0_fillTenths : List (Nat × Option Nat) := [all_ 41]
theorem rX0_fillTenths {b1 : Nat} {w : Wd} {a2 : Int32} {out : Wd} (h0 : fX0_fillTenths b1 w a2 = some out) : Agree (pU pX0_fillTenths) w out := by
  have ag0 : Agree (pU pX0_fillTenths) w w := Agree.rf
  unfold fX0_fillTenths at h0
  obtain ⟨w19, iw19, h0⟩ := bind_some h0
  have ag20 : Agree (pU pX0_fillTenths) w w19 := by
    refine iter_rule (P := fun s : Int32 × Wd => Agree (pU pX0_fillTenths) w s.2 → Agree (pU pX0_fillTenths) w w19) (x := w19) ?_ FU (0, w) iw19 ag0
    intro s y1 h1 hP1 hX1 agl2
    obtain ⟨l1, w2⟩ := s
    have h1 : fX0_fillTenths_b2 b1 a2 l1 w2 = some y1 := h1
    have agl2 : Agree (pU pX0_fillTenths) w w2 := agl2
    unfold fX0_fillTenths_b2 at h1
    have J44 : ∀ (w6 : Wd) (l4 : Int32) (l5 : Int32), fX0_fillTenths_j44 w6 l4 l5 = some y1 → Agree (pU pX0_fillTenths) w w6 → Agree (pU pX0_fillTenths) w w19 := by
      intro w6 l4 l5 h1 agj
      unfold fX0_fillTenths_j44 at h1
      obtain ⟨g8, h1⟩ := gd_some h1
      obtain ⟨w7, ew7, h1⟩ := lt_some h1
      have ag9 := agj.pI ew7 (Or.inr (List.mem_of_getElem? (i := 0) rfl))
      obtain ⟨v10, ev10, h1⟩ := lt_some h1
      exact hP1 (v10, w7) (Option.some.inj h1).symm ag9
    by_cases c17 : (4 : Int32) ≤ l1
    · rw [if_pos c17] at h1
      have e3 := hX1 _ (Option.some.inj h1).symm
      cases e3
      exact agl2
    · rw [if_neg c17] at h1
      by_cases c16 : (fX2_hasOne b1 w2 l1) = 0
      · rw [if_pos c16] at h1
        exact J44 w2 l1 0 h1 agl2
      · rw [if_neg c16] at h1
        obtain ⟨g11, h1⟩ := gd_some h1
        by_cases c15 : (w2.1 (9 + 4 * b1) l1.toNatClampNeg) = 3
        · rw [if_pos c15] at h1
          exact J44 w2 l1 0 h1 agl2
        · rw [if_neg c15] at h1
          obtain ⟨r12, er12, h1⟩ := bind_some h1
          obtain ⟨r13, er13, h1⟩ := bind_some h1
          obtain ⟨v14, ev14, h1⟩ := lt_some h1
          exact J44 w2 l1 v14 h1 agl2
  rw [← Option.some.inj h0]
  exact ag20
def pX0_passChances : List (Nat × Option Nat) := [all_ 40, at_ 4 6, all_ 25, all_ 39]
theorem rX0_passChances {w : Wd} {out : Wd} (h0 : fX0_passChances w = some out) : Agree (pU pX0_passChances) w out := by
  have ag0 : Agree (pU pX0_passChances) w w := Agree.rf
  unfold fX0_passChances at h0
  obtain ⟨w10, iw10, h0⟩ := bind_some h0
  have ag11 : Agree (pU pX0_passChances) w w10 := by
    refine iter_rule (P := fun s : Int32 × Wd => Agree (pU pX0_passChances) w s.2 → Agree (pU pX0_passChances) w w10) (x := w10) ?_ FU (0, w) iw10 ag0
    intro s y1 h1 hP1 hX1 agl2
    obtain ⟨l1, w2⟩ := s
    have h1 : fX0_passChances_b2 l1 w2 = some y1 := h1
    have agl2 : Agree (pU pX0_passChances) w w2 := agl2
    unfold fX0_passChances_b2 at h1
    by_cases c8 : (16 : Int32) ≤ l1
    · rw [if_pos c8] at h1
      have e3 := hX1 _ (Option.some.inj h1).symm
      cases e3
      exact agl2
    · rw [if_neg c8] at h1
      obtain ⟨g5, h1⟩ := gd_some h1
      obtain ⟨w4, ew4, h1⟩ := lt_some h1
      have ag6 := agl2.pJ ew4 (Or.inr (List.mem_of_getElem? (i := 0) rfl))
      obtain ⟨v7, ev7, h1⟩ := lt_some h1
      exact hP1 (v7, w4) (Option.some.inj h1).symm ag6
  obtain ⟨w40, iw40, h0⟩ := bind_some h0
  have ag41 : Agree (pU pX0_passChances) w w40 := by
    refine iter_rule (P := fun s : Int32 × Wd => Agree (pU pX0_passChances) w s.2 → Agree (pU pX0_passChances) w w40) (x := w40) ?_ FU (0, w10) iw40 ag11
    intro s y1 h1 hP1 hX1 agl23
    obtain ⟨l12, w13⟩ := s
    have h1 : fX0_passChances_b23 l12 w13 = some y1 := h1
    have agl23 : Agree (pU pX0_passChances) w w13 := agl23
    unfold fX0_passChances_b23 at h1
    by_cases c38 : (16 : Int32) ≤ l12
    · rw [if_pos c38] at h1
      have e14 := hX1 _ (Option.some.inj h1).symm
      cases e14
      exact agl23
    · rw [if_neg c38] at h1
      obtain ⟨w35, iw35, h1⟩ := bind_some h1
      have ag36 : Agree (pU pX0_passChances) w w35 := by
        refine iter_rule (P := fun s : Int32 × Wd => Agree (pU pX0_passChances) w s.2 → Agree (pU pX0_passChances) w w35) (x := w35) ?_ FU (0, w13) iw35 agl23
        intro s y2 h2 hP2 hX2 agl31
        obtain ⟨l15, w16⟩ := s
        have h2 : fX0_passChances_b31 l12 l15 w16 = some y2 := h2
        have agl31 : Agree (pU pX0_passChances) w w16 := agl31
        unfold fX0_passChances_b31 at h2
        by_cases c33 : l12 < l15
        · rw [if_pos c33] at h2
          have e17 := hX2 _ (Option.some.inj h2).symm
          cases e17
          exact agl31
        · rw [if_neg c33] at h2
          obtain ⟨g18, h2⟩ := gd_some h2
          by_cases c32 : (lg_cmp (w16.2 39 l12.toNatClampNeg) 0) = 0
          · rw [if_pos c32] at h2
            obtain ⟨v19, ev19, h2⟩ := lt_some h2
            exact hP2 (v19, w16) (Option.some.inj h2).symm agl31
          · rw [if_neg c32] at h2
            by_cases c31 : (l15 &&& (l12 ^^^ (-1))) = 0
            · rw [if_pos c31] at h2
              obtain ⟨q22, er21, h2⟩ := bind_some h2
              replace h2 := un2_eq h2
              obtain ⟨r21, w20, rfl, h2⟩ := h2
              have ag23 := agl31.tr (Agree.sub [1, 2] rfl (rX8_relight er21))
              obtain ⟨v24, ev24, h2⟩ := lt_some h2
              obtain ⟨g25, h2⟩ := gd_some h2
              obtain ⟨r26, er26, h2⟩ := bind_some h2
              obtain ⟨w27, ew27, h2⟩ := lt_some h2
              have ag28 := ag23.pJ ew27 (Or.inr (List.mem_of_getElem? (i := 0) rfl))
              obtain ⟨v29, ev29, h2⟩ := lt_some h2
              exact hP2 (v29, w27) (Option.some.inj h2).symm ag28
            · rw [if_neg c31] at h2
              obtain ⟨v30, ev30, h2⟩ := lt_some h2
              exact hP2 (v30, w16) (Option.some.inj h2).symm agl31
      obtain ⟨v37, ev37, h1⟩ := lt_some h1
      exact hP1 (v37, w35) (Option.some.inj h1).symm ag36
  obtain ⟨w42, ew42, h0⟩ := lt_some h0
  have ag43 := ag41.pB ew42 (List.mem_of_getElem? (i := 3) rfl)
  rw [← Option.some.inj h0]
  exact ag43
def pX0_weigh : List (Nat × Option Nat) := [at_ 4 0, at_ 4 1, at_ 4 2, at_ 4 3, at_ 4 4, all_ 28, all_ 29, all_ 27, all_ 39, at_ 11 0, all_ 41, all_ 40, at_ 4 6, all_ 25]
theorem rX0_weigh {b1 : Nat} {w : Wd} {a2 : Int32} {out : Wd} (h0 : fX0_weigh b1 w a2 = some out) : Agree (pU pX0_weigh) w out := by
  have ag0 : Agree (pU pX0_weigh) w w := Agree.rf
  unfold fX0_weigh at h0
  obtain ⟨w1, ew1, h0⟩ := bind_some h0
  have ag2 := ag0.tr (Agree.sub [0, 1, 2, 3, 4, 5, 6, 7] rfl (rX8_setOut ew1))
  obtain ⟨w13, iw13, h0⟩ := bind_some h0
  have ag14 : Agree (pU pX0_weigh) w w13 := by
    refine iter_rule (P := fun s : Int32 × Wd => Agree (pU pX0_weigh) w s.2 → Agree (pU pX0_weigh) w w13) (x := w13) ?_ FU (0, w1) iw13 ag2
    intro s y1 h1 hP1 hX1 agl10
    obtain ⟨l3, w4⟩ := s
    have h1 : fX0_weigh_b10 b1 l3 w4 = some y1 := h1
    have agl10 : Agree (pU pX0_weigh) w w4 := agl10
    unfold fX0_weigh_b10 at h1
    by_cases c11 : (16 : Int32) ≤ l3
    · rw [if_pos c11] at h1
      have e5 := hX1 _ (Option.some.inj h1).symm
      cases e5
      exact agl10
    · rw [if_neg c11] at h1
      obtain ⟨v6, hv6, h1⟩ := lt_some h1
      have hv6 := hv6.symm
      obtain ⟨g8, h1⟩ := gd_some h1
      obtain ⟨w7, ew7, h1⟩ := lt_some h1
      have ag9 := agl10.pJ ew7 (Or.inr (List.mem_of_getElem? (i := 8) rfl))
      obtain ⟨v10, ev10, h1⟩ := lt_some h1
      exact hP1 (v10, w7) (Option.some.inj h1).symm ag9
  obtain ⟨w15, ew15, h0⟩ := lt_some h0
  have ag16 := ag14.pJ ew15 (Or.inl (List.mem_of_getElem? (i := 9) rfl))
  obtain ⟨w29, iw29, h0⟩ := bind_some h0
  have ag30 : Agree (pU pX0_weigh) w w29 := by
    refine iter_rule (P := fun s : Int32 × Wd => Agree (pU pX0_weigh) w s.2 → Agree (pU pX0_weigh) w w29) (x := w29) ?_ FU (0, w15) iw29 ag16
    intro s y1 h1 hP1 hX1 agl48
    obtain ⟨l17, w18⟩ := s
    have h1 : fX0_weigh_b48 a2 b1 l17 w18 = some y1 := h1
    have agl48 : Agree (pU pX0_weigh) w w18 := agl48
    unfold fX0_weigh_b48 at h1
    by_cases c27 : a2 ≤ l17
    · rw [if_pos c27] at h1
      have e19 := hX1 _ (Option.some.inj h1).symm
      cases e19
      exact agl48
    · rw [if_neg c27] at h1
      obtain ⟨w20, ew20, h1⟩ := bind_some h1
      have ag21 := agl48.tr (Agree.sub [10] rfl (rX0_fillTenths ew20))
      obtain ⟨w22, ew22, h1⟩ := bind_some h1
      have ag23 := ag21.tr (Agree.sub [11, 12, 13, 8] rfl (rX0_passChances ew22))
      obtain ⟨w24, ew24, h1⟩ := lt_some h1
      have ag25 := ag23.pJ ew24 (Or.inl (List.mem_of_getElem? (i := 9) rfl))
      obtain ⟨v26, ev26, h1⟩ := lt_some h1
      exact hP1 (v26, w24) (Option.some.inj h1).symm ag25
  rw [← Option.some.inj h0]
  exact ag30
def pX9_chances : List (Nat × Option Nat) := [all_ 12, at_ 4 0, at_ 4 1, at_ 4 2, at_ 4 3, at_ 4 4, all_ 28, all_ 29, all_ 27, all_ 39, at_ 11 0, all_ 41, all_ 40, at_ 4 6, all_ 25]
theorem rX9_chances {w : Wd} {a1 : Int32} {a2 : Int32} {a3 : Int32} {out : Int64 × Wd} (h0 : fX9_chances w a1 a2 a3 = some out) : Agree (pU pX9_chances) w out.2 := by
  have ag0 : Agree (pU pX9_chances) w w := Agree.rf
  unfold fX9_chances at h0
  have J76 : ∀ (w1 : Wd), fX9_chances_j76 w1 = some out → Agree (pU pX9_chances) w w1 → Agree (pU pX9_chances) w out.2 := by
    intro w1 h0 agj
    unfold fX9_chances_j76 at h0
    obtain ⟨q4, er3, h0⟩ := bind_some h0
    replace h0 := un2_eq h0
    obtain ⟨r3, w2, rfl, h0⟩ := h0
    have ag5 := agj.tr (Agree.sub [0] rfl (rX9_refuseLong er3))
    rw [← Option.some.inj h0]
    exact ag5
  have J119 : ∀ (w11 : Wd) (l9 : Int32) (l10 : Int32), fX9_chances_j119 w11 l9 l10 = some out → Agree (pU pX9_chances) w w11 → Agree (pU pX9_chances) w out.2 := by
    intro w11 l9 l10 h0 agj
    unfold fX9_chances_j119 at h0
    obtain ⟨r12, er12, h0⟩ := bind_some h0
    rw [← Option.some.inj h0]
    exact agj
  have J39 : ∀ (w16 : Wd), fX9_chances_j39 w16 = some out → Agree (pU pX9_chances) w w16 → Agree (pU pX9_chances) w out.2 := by
    intro w16 h0 agj
    unfold fX9_chances_j39 at h0
    obtain ⟨q19, er18, h0⟩ := bind_some h0
    replace h0 := un2_eq h0
    obtain ⟨r18, w17, rfl, h0⟩ := h0
    have ag20 := agj.tr (Agree.sub [0] rfl (rX9_refuseLong er18))
    rw [← Option.some.inj h0]
    exact ag20
  by_cases c32 : (0 : Int32) ≤ a1
  · rw [if_pos c32] at h0
    by_cases c27 : a1 ≤ 3
    · rw [if_pos c27] at h0
      by_cases c22 : (fX9_isOutside a2 1) = 0
      · rw [if_pos c22] at h0
        by_cases c21 : (fX9_isOutside a3 1) = 0
        · rw [if_pos c21] at h0
          by_cases c15 : (4 : Int32) < (w.1 1 0)
          · rw [if_pos c15] at h0
            exact J76 w h0 ag0
          · rw [if_neg c15] at h0
            by_cases c14 : a1 ≤ ((w.1 1 4) - (w.1 1 5))
            · rw [if_pos c14] at h0
              obtain ⟨w6, ew6, h0⟩ := bind_some h0
              have ag7 := ag0.tr (Agree.sub [1, 2, 3, 4, 5, 6, 7, 8, 9, 10, 11, 12, 13, 14] rfl (rX0_weigh ew6))
              obtain ⟨v8, hv8, h0⟩ := lt_some h0
              have hv8 := hv8.symm
              by_cases c13 : a3 = 1
              · rw [if_pos c13] at h0
                exact J119 w6 v8 1 h0 ag7
              · rw [if_neg c13] at h0
                exact J119 w6 v8 0 h0 ag7
            · rw [if_neg c14] at h0
              exact J76 w h0 ag0
        · rw [if_neg c21] at h0
          exact J39 w h0 ag0
      · rw [if_neg c22] at h0
        exact J39 w h0 ag0
    · rw [if_neg c27] at h0
      obtain ⟨q25, er24, h0⟩ := bind_some h0
      replace h0 := un2_eq h0
      obtain ⟨r24, w23, rfl, h0⟩ := h0
      have ag26 := ag0.tr (Agree.sub [0] rfl (rX9_refuseLong er24))
      rw [← Option.some.inj h0]
      exact ag26
  · rw [if_neg c32] at h0
    obtain ⟨q30, er29, h0⟩ := bind_some h0
    replace h0 := un2_eq h0
    obtain ⟨r29, w28, rfl, h0⟩ := h0
    have ag31 := ag0.tr (Agree.sub [0] rfl (rX9_refuseLong er29))
    rw [← Option.some.inj h0]
    exact ag31
def pX4_agrees : List (Nat × Option Nat) := [all_ 26, at_ 4 5, at_ 4 6, all_ 25]
theorem rX4_agrees {w : Wd} {a1 : Int32} {out : Int32 × Wd} (h0 : fX4_agrees w a1 = some out) : Agree (pU pX4_agrees) w out.2 := by
  have ag0 : Agree (pU pX4_agrees) w w := Agree.rf
  unfold fX4_agrees at h0
  obtain ⟨w1, ew1, h0⟩ := bind_some h0
  have ag2 := ag0.tr (Agree.sub [0, 1, 2, 3] rfl (rX8_walkOn ew1))
  refine iter_rule (P := fun s : Int32 => Agree (pU pX4_agrees) w out.2) (x := out) ?_ FU 0 h0
  intro s y1 h1 hP1 hX1
  obtain ⟨l3, rfl⟩ : ∃ z, z = s := ⟨s, rfl⟩
  have h1 : fX4_agrees_b10 w1 l3 = some y1 := h1
  unfold fX4_agrees_b10 at h1
  by_cases c8 : (w1.1 4 0) ≤ l3
  · rw [if_pos c8] at h1
    have h0 := congrArg some (hX1 _ (Option.some.inj h1).symm)
    rw [← Option.some.inj h0]
    exact ag2
  · rw [if_neg c8] at h1
    obtain ⟨r4, er4, h1⟩ := bind_some h1
    obtain ⟨g5, h1⟩ := gd_some h1
    by_cases c7 : r4 = (w1.1 34 l3.toNatClampNeg)
    · rw [if_pos c7] at h1
      obtain ⟨v6, ev6, h1⟩ := lt_some h1
      exact hP1 v6 (Option.some.inj h1).symm
    · rw [if_neg c7] at h1
      have h0 := congrArg some (hX1 _ (Option.some.inj h1).symm)
      rw [← Option.some.inj h0]
      exact ag2
def pX4_findWaxSets : List (Nat × Option Nat) := [at_ 4 0, at_ 4 1, at_ 4 2, at_ 4 3, at_ 4 4, all_ 28, all_ 29, all_ 27, at_ 8 0, at_ 8 1, all_ 26, at_ 4 5, at_ 4 6, all_ 25]
theorem rX4_findWaxSets {w : Wd} {out : Wd} (h0 : fX4_findWaxSets w = some out) : Agree (pU pX4_findWaxSets) w out := by
  have ag0 : Agree (pU pX4_findWaxSets) w w := Agree.rf
  unfold fX4_findWaxSets at h0
  obtain ⟨w1, ew1, h0⟩ := bind_some h0
  have ag2 := ag0.tr (Agree.sub [0, 1, 2, 3, 4, 5, 6, 7] rfl (rX8_setOut ew1))
  obtain ⟨w3, ew3, h0⟩ := lt_some h0
  have ag4 := ag2.pI ew3 (Or.inl (List.mem_of_getElem? (i := 8) rfl))
  obtain ⟨w5, ew5, h0⟩ := lt_some h0
  have ag6 := ag4.pI ew5 (Or.inl (List.mem_of_getElem? (i := 9) rfl))
  obtain ⟨w28, iw28, h0⟩ := bind_some h0
  have ag29 : Agree (pU pX4_findWaxSets) w w28 := by
    refine iter_rule (P := fun s : Int32 × Wd => Agree (pU pX4_findWaxSets) w s.2 → Agree (pU pX4_findWaxSets) w w28) (x := w28) ?_ FU (0, w5) iw28 ag6
    intro s y1 h1 hP1 hX1 agl24
    obtain ⟨l7, w8⟩ := s
    have h1 : fX4_findWaxSets_b24 l7 w8 = some y1 := h1
    have agl24 : Agree (pU pX4_findWaxSets) w w8 := agl24
    unfold fX4_findWaxSets_b24 at h1
    have J70 : ∀ (w18 : Wd) (l17 : Int32), fX4_findWaxSets_j70 w18 l17 = some y1 → Agree (pU pX4_findWaxSets) w w18 → Agree (pU pX4_findWaxSets) w w28 := by
      intro w18 l17 h1 agj
      unfold fX4_findWaxSets_j70 at h1
      obtain ⟨w19, ew19, h1⟩ := lt_some h1
      have ag20 := agj.pI ew19 (Or.inl (List.mem_of_getElem? (i := 8) rfl))
      obtain ⟨v21, ev21, h1⟩ := lt_some h1
      exact hP1 (v21, w19) (Option.some.inj h1).symm ag20
    by_cases c26 : (w8.1 4 1) < l7
    · rw [if_pos c26] at h1
      have e9 := hX1 _ (Option.some.inj h1).symm
      cases e9
      exact agl24
    · rw [if_neg c26] at h1
      by_cases c25 : (l7 &&& ((w8.1 4 1) ^^^ (-1))) = 0
      · rw [if_pos c25] at h1
        obtain ⟨q12, er11, h1⟩ := bind_some h1
        replace h1 := un2_eq h1
        obtain ⟨r11, w10, rfl, h1⟩ := h1
        have ag13 := agl24.tr (Agree.sub [10, 11, 12, 13] rfl (rX4_agrees er11))
        by_cases c23 : r11 = 0
        · rw [if_pos c23] at h1
          obtain ⟨v14, ev14, h1⟩ := lt_some h1
          exact hP1 (v14, w10) (Option.some.inj h1).symm ag13
        · rw [if_neg c23] at h1
          by_cases c22 : (w10.1 8 0) = 0
          · rw [if_pos c22] at h1
            obtain ⟨w15, ew15, h1⟩ := lt_some h1
            have ag16 := ag13.pI ew15 (Or.inl (List.mem_of_getElem? (i := 9) rfl))
            exact J70 w15 l7 h1 ag16
          · rw [if_neg c22] at h1
            exact J70 w10 l7 h1 ag13
      · rw [if_neg c25] at h1
        obtain ⟨v24, ev24, h1⟩ := lt_some h1
        exact hP1 (v24, w8) (Option.some.inj h1).symm agl24
  rw [← Option.some.inj h0]
  exact ag29
def pX9_wax : List (Nat × Option Nat) := [at_ 4 0, at_ 4 1, at_ 4 2, at_ 4 3, at_ 4 4, all_ 28, all_ 29, all_ 27, at_ 8 0, at_ 8 1, all_ 26, at_ 4 5, at_ 4 6, all_ 25, all_ 12]
theorem rX9_wax {w : Wd} {a1 : Int32} {out : Int32 × Wd} (h0 : fX9_wax w a1 = some out) : Agree (pU pX9_wax) w out.2 := by
  have ag0 : Agree (pU pX9_wax) w w := Agree.rf
  unfold fX9_wax at h0
  by_cases c13 : (fX9_isOutside a1 1) = 0
  · rw [if_pos c13] at h0
    by_cases c8 : (w.1 7 0) = (w.1 1 0)
    · rw [if_pos c8] at h0
      obtain ⟨w1, ew1, h0⟩ := bind_some h0
      have ag2 := ag0.tr (Agree.sub [0, 1, 2, 3, 4, 5, 6, 7, 8, 9, 10, 11, 12, 13] rfl (rX4_findWaxSets ew1))
      by_cases c3 : a1 = 0
      · rw [if_pos c3] at h0
        rw [← Option.some.inj h0]
        exact ag2
      · rw [if_neg c3] at h0
        rw [← Option.some.inj h0]
        exact ag2
    · rw [if_neg c8] at h0
      obtain ⟨q6, er5, h0⟩ := bind_some h0
      replace h0 := un2_eq h0
      obtain ⟨r5, w4, rfl, h0⟩ := h0
      have ag7 := ag0.tr (Agree.sub [14] rfl (rX9_refuse er5))
      rw [← Option.some.inj h0]
      exact ag7
  · rw [if_neg c13] at h0
    obtain ⟨q11, er10, h0⟩ := bind_some h0
    replace h0 := un2_eq h0
    obtain ⟨r10, w9, rfl, h0⟩ := h0
    have ag12 := ag0.tr (Agree.sub [14] rfl (rX9_refuse er10))
    rw [← Option.some.inj h0]
    exact ag12
def pX2_blowFrom (b : Nat) : List (Nat × Option Nat) := [all_ (12 + 4 * b)]
theorem rX2_blowFrom {b : Nat} {w : Wd} {a1 : Int32} {out : Wd} (h0 : fX2_blowFrom b w a1 = some out) : Agree (pU (pX2_blowFrom b)) w out := by
  have ag0 : Agree (pU (pX2_blowFrom b)) w w := Agree.rf
  unfold fX2_blowFrom at h0
  obtain ⟨w10, iw10, h0⟩ := bind_some h0
  have ag11 : Agree (pU (pX2_blowFrom b)) w w10 := by
    refine iter_rule (P := fun s : Int32 × Wd => Agree (pU (pX2_blowFrom b)) w s.2 → Agree (pU (pX2_blowFrom b)) w w10) (x := w10) ?_ FU (0, w) iw10 ag0
    intro s y1 h1 hP1 hX1 agl2
    obtain ⟨l1, w2⟩ := s
    have h1 : fX2_blowFrom_b2 b a1 l1 w2 = some y1 := h1
    have agl2 : Agree (pU (pX2_blowFrom b)) w w2 := agl2
    unfold fX2_blowFrom_b2 at h1
    by_cases c8 : (24 : Int32) < l1
    · rw [if_pos c8] at h1
      have e3 := hX1 _ (Option.some.inj h1).symm
      cases e3
      exact agl2
    · rw [if_neg c8] at h1
      obtain ⟨g5, h1⟩ := gd_some h1
      obtain ⟨w4, ew4, h1⟩ := lt_some h1
      have ag6 := agl2.pI ew4 (Or.inr (List.mem_of_getElem? (i := 0) rfl))
      obtain ⟨v7, ev7, h1⟩ := lt_some h1
      exact hP1 (v7, w4) (Option.some.inj h1).symm ag6
  rw [← Option.some.inj h0]
  exact ag11
def pX1_bestSide : List (Nat × Option Nat) := [at_ 10 0, at_ 10 1, at_ 3 0, at_ 3 1, at_ 3 2, at_ 3 3, at_ 3 4, at_ 3 5, at_ 3 6, all_ (9 + 4 * 3), all_ (10 + 4 * 3), all_ (11 + 4 * 3), all_ (12 + 4 * 3), at_ 4 0, at_ 4 1, at_ 4 2, at_ 4 3, at_ 4 4, all_ 28, all_ 29, all_ 27, at_ 4 6, all_ 25]
theorem rX1_bestSide {w : Wd} {out : Int32 × Wd} (h0 : fX1_bestSide w = some out) : Agree (pU pX1_bestSide) w out.2 := by
  have ag0 : Agree (pU pX1_bestSide) w w := Agree.rf
  unfold fX1_bestSide at h0
  obtain ⟨w1, ew1, h0⟩ := lt_some h0
  have ag2 := ag0.tr (Agree.sub [0, 1] rfl (rX1_startSearch ew1.symm))
  obtain ⟨w19, iw19, h0⟩ := bind_some h0
  have ag20 : Agree (pU pX1_bestSide) w w19 := by
    refine iter_rule (P := fun s : Int32 × Wd => Agree (pU pX1_bestSide) w s.2 → Agree (pU pX1_bestSide) w w19) (x := w19) ?_ FU (0, w1) iw19 ag2
    intro s y1 h1 hP1 hX1 agl7
    obtain ⟨l3, w4⟩ := s
    have h1 : fX1_bestSide_b7 l3 w4 = some y1 := h1
    have agl7 : Agree (pU pX1_bestSide) w w4 := agl7
    unfold fX1_bestSide_b7 at h1
    by_cases c17 : (2 : Int32) < l3
    · rw [if_pos c17] at h1
      have e5 := hX1 _ (Option.some.inj h1).symm
      cases e5
      exact agl7
    · rw [if_neg c17] at h1
      obtain ⟨w6, ew6, h1⟩ := lt_some h1
      have ag7 := agl7.tr (Agree.sub [2, 3, 4, 5, 6, 7, 8, 9, 10, 11, 12] rfl (rX2_takeFrom ew6.symm))
      obtain ⟨w8, ew8, h1⟩ := bind_some h1
      have ag9 := ag7.tr (Agree.sub [12] rfl (rX2_blowFrom ew8))
      obtain ⟨q12, er11, h1⟩ := bind_some h1
      replace h1 := un2_eq h1
      obtain ⟨r11, w10, rfl, h1⟩ := h1
      have ag13 := ag9.tr (Agree.sub [13, 14, 15, 16, 17, 18, 19, 20, 21, 22] rfl (rX1_countOf er11))
      obtain ⟨w14, ew14, h1⟩ := lt_some h1
      have ag15 := ag13.tr (Agree.sub [1, 0] rfl (rX1_consider ew14.symm))
      obtain ⟨v16, ev16, h1⟩ := lt_some h1
      exact hP1 (v16, w14) (Option.some.inj h1).symm ag15
  rw [← Option.some.inj h0]
  exact ag20
def pX9_sides : List (Nat × Option Nat) := [at_ 10 0, at_ 10 1, at_ 3 0, at_ 3 1, at_ 3 2, at_ 3 3, at_ 3 4, at_ 3 5, at_ 3 6, all_ (9 + 4 * 3), all_ (10 + 4 * 3), all_ (11 + 4 * 3), all_ (12 + 4 * 3), at_ 4 0, at_ 4 1, at_ 4 2, at_ 4 3, at_ 4 4, all_ 28, all_ 29, all_ 27, at_ 4 6, all_ 25]
theorem rX9_sides {w : Wd} {out : Int32 × Wd} (h0 : fX9_sides w = some out) : Agree (pU pX9_sides) w out.2 := by
  have ag0 : Agree (pU pX9_sides) w w := Agree.rf
  unfold fX9_sides at h0
  obtain ⟨q3, er2, h0⟩ := bind_some h0
  replace h0 := un2_eq h0
  obtain ⟨r2, w1, rfl, h0⟩ := h0
  have ag4 := ag0.tr (Agree.sub [0, 1, 2, 3, 4, 5, 6, 7, 8, 9, 10, 11, 12, 13, 14, 15, 16, 17, 18, 19, 20, 21, 22] rfl (rX1_bestSide er2))
  rw [← Option.some.inj h0]
  exact ag4
def pX7_append : List (Nat × Option Nat) := [all_ 34, at_ 7 0]
theorem rX7_append {w : Wd} {a1 : Int32} {out : Int32 × Wd} (h0 : fX7_append w a1 = some out) : Agree (pU pX7_append) w out.2 := by
  have ag0 : Agree (pU pX7_append) w w := Agree.rf
  unfold fX7_append at h0
  by_cases c6 : (fX7_isFull w) = 0
  · rw [if_pos c6] at h0
    obtain ⟨g2, h0⟩ := gd_some h0
    obtain ⟨w1, ew1, h0⟩ := lt_some h0
    have ag3 := ag0.pI ew1 (Or.inr (List.mem_of_getElem? (i := 0) rfl))
    obtain ⟨w4, ew4, h0⟩ := lt_some h0
    have ag5 := ag3.pI ew4 (Or.inl (List.mem_of_getElem? (i := 1) rfl))
    rw [← Option.some.inj h0]
    exact ag5
  · rw [if_neg c6] at h0
    rw [← Option.some.inj h0]
    exact ag0
def pX9_row : List (Nat × Option Nat) := [all_ 12, all_ 34, at_ 7 0]
theorem rX9_row {w : Wd} {a1 : Int32} {out : Int32 × Wd} (h0 : fX9_row w a1 = some out) : Agree (pU pX9_row) w out.2 := by
  have ag0 : Agree (pU pX9_row) w w := Agree.rf
  unfold fX9_row at h0
  have J27 : ∀ (w1 : Wd), fX9_row_j27 w1 = some out → Agree (pU pX9_row) w w1 → Agree (pU pX9_row) w out.2 := by
    intro w1 h0 agj
    unfold fX9_row_j27 at h0
    obtain ⟨q4, er3, h0⟩ := bind_some h0
    replace h0 := un2_eq h0
    obtain ⟨r3, w2, rfl, h0⟩ := h0
    have ag5 := agj.tr (Agree.sub [0] rfl (rX9_refuse er3))
    rw [← Option.some.inj h0]
    exact ag5
  by_cases c16 : (0 : Int32) ≤ a1
  · rw [if_pos c16] at h0
    by_cases c11 : (99 : Int32) < a1
    · rw [if_pos c11] at h0
      exact J27 w h0 ag0
    · rw [if_neg c11] at h0
      by_cases c10 : (fX7_isFull w) = 0
      · rw [if_pos c10] at h0
        obtain ⟨q8, er7, h0⟩ := bind_some h0
        replace h0 := un2_eq h0
        obtain ⟨r7, w6, rfl, h0⟩ := h0
        have ag9 := ag0.tr (Agree.sub [1, 2] rfl (rX7_append er7))
        rw [← Option.some.inj h0]
        exact ag9
      · rw [if_neg c10] at h0
        exact J27 w h0 ag0
  · rw [if_neg c16] at h0
    obtain ⟨q14, er13, h0⟩ := bind_some h0
    replace h0 := un2_eq h0
    obtain ⟨r13, w12, rfl, h0⟩ := h0
    have ag15 := ag0.tr (Agree.sub [0] rfl (rX9_refuse er13))
    rw [← Option.some.inj h0]
    exact ag15
def pX4_firstUntrue : List (Nat × Option Nat) := [at_ 4 0, at_ 4 1, at_ 4 2, at_ 4 3, at_ 4 4, all_ 28, all_ 29, all_ 27, all_ 26, at_ 4 5, at_ 4 6, all_ 25]
theorem rX4_firstUntrue {w : Wd} {out : Int32 × Wd} (h0 : fX4_firstUntrue w = some out) : Agree (pU pX4_firstUntrue) w out.2 := by
  have ag0 : Agree (pU pX4_firstUntrue) w w := Agree.rf
  unfold fX4_firstUntrue at h0
  obtain ⟨w1, ew1, h0⟩ := bind_some h0
  have ag2 := ag0.tr (Agree.sub [0, 1, 2, 3, 4, 5, 6, 7, 8, 9, 10, 11] rfl (rX4_walkFromNow ew1))
  refine iter_rule (P := fun s : Int32 => Agree (pU pX4_firstUntrue) w out.2) (x := out) ?_ FU 0 h0
  intro s y1 h1 hP1 hX1
  obtain ⟨l3, rfl⟩ : ∃ z, z = s := ⟨s, rfl⟩
  have h1 : fX4_firstUntrue_b6 w1 l3 = some y1 := h1
  unfold fX4_firstUntrue_b6 at h1
  by_cases c9 : (w1.1 7 0) ≤ l3
  · rw [if_pos c9] at h1
    have h0 := congrArg some (hX1 _ (Option.some.inj h1).symm)
    rw [← Option.some.inj h0]
    exact ag2
  · rw [if_neg c9] at h1
    by_cases c8 : (w1.1 4 4) ≤ l3
    · rw [if_pos c8] at h1
      have h0 := congrArg some (hX1 _ (Option.some.inj h1).symm)
      rw [← Option.some.inj h0]
      exact ag2
    · rw [if_neg c8] at h1
      obtain ⟨g4, h1⟩ := gd_some h1
      obtain ⟨g5, h1⟩ := gd_some h1
      by_cases c7 : (fJ6_bitCount_0f7a4 (w1.1 26 (l3 + 1).toNatClampNeg)) = (w1.1 34 l3.toNatClampNeg)
      · rw [if_pos c7] at h1
        obtain ⟨v6, ev6, h1⟩ := lt_some h1
        exact hP1 v6 (Option.some.inj h1).symm
      · rw [if_neg c7] at h1
        have h0 := congrArg some (hX1 _ (Option.some.inj h1).symm)
        rw [← Option.some.inj h0]
        exact ag2
def pX9_judge : List (Nat × Option Nat) := [at_ 4 0, at_ 4 1, at_ 4 2, at_ 4 3, at_ 4 4, all_ 28, all_ 29, all_ 27, all_ 26, at_ 4 5, at_ 4 6, all_ 25, at_ 7 0]
theorem rX9_judge {w : Wd} {out : Int32 × Wd} (h0 : fX9_judge w = some out) : Agree (pU pX9_judge) w out.2 := by
  have ag0 : Agree (pU pX9_judge) w w := Agree.rf
  unfold fX9_judge at h0
  obtain ⟨q3, er2, h0⟩ := bind_some h0
  replace h0 := un2_eq h0
  obtain ⟨r2, w1, rfl, h0⟩ := h0
  have ag4 := ag0.tr (Agree.sub [0, 1, 2, 3, 4, 5, 6, 7, 8, 9, 10, 11] rfl (rX4_firstUntrue er2))
  obtain ⟨w5, ew5, h0⟩ := lt_some h0
  have ag6 := ag4.pI ew5 (Or.inl (List.mem_of_getElem? (i := 12) rfl))
  rw [← Option.some.inj h0]
  exact ag6
def pX9_clear : List (Nat × Option Nat) := [at_ 7 0]
theorem rX9_clear {w : Wd} {out : Int32 × Wd} (h0 : fX9_clear w = out) : Agree (pU pX9_clear) w out.2 := by
  have ag0 : Agree (pU pX9_clear) w w := Agree.rf
  unfold fX9_clear at h0
  obtain ⟨v1, ev1, h0⟩ := lt_some h0
  obtain ⟨w2, ew2, h0⟩ := lt_some h0
  have ag3 := ag0.pI ew2 (Or.inl (List.mem_of_getElem? (i := 0) rfl))
  rw [← h0]
  exact ag3
def pX1_drawBelow : List (Nat × Option Nat) := [at_ 10 4]
theorem rX1_drawBelow {w : Wd} {a1 : Int32} {out : Int32 × Wd} (h0 : fX1_drawBelow w a1 = some out) : Agree (pU pX1_drawBelow) w out.2 := by
  have ag0 : Agree (pU pX1_drawBelow) w w := Agree.rf
  unfold fX1_drawBelow at h0
  obtain ⟨w1, ew1, h0⟩ := lt_some h0
  have ag2 := ag0.pI ew1 (Or.inl (List.mem_of_getElem? (i := 0) rfl))
  by_cases c4 : a1 ≤ 0
  · rw [if_pos c4] at h0
    rw [← Option.some.inj h0]
    exact ag2
  · rw [if_neg c4] at h0
    obtain ⟨g3, h0⟩ := gd_some h0
    rw [← Option.some.inj h0]
    exact ag2
def pX1_walkNights : List (Nat × Option Nat) := [at_ 10 4, at_ 10 2, at_ 10 3, at_ 3 0, at_ 3 1, at_ 3 2, at_ 3 3, at_ 3 4, at_ 3 5, at_ 3 6, all_ (9 + 4 * 3), all_ (10 + 4 * 3), all_ (11 + 4 * 3), all_ (12 + 4 * 3), all_ 23, all_ 24, at_ 4 0, at_ 4 1, at_ 4 2, at_ 4 3, at_ 4 4, all_ 28, all_ 29, all_ 27, at_ 4 6, all_ 25]
theorem rX1_walkNights {w : Wd} {a1 : Int32} {a2 : Int32} {out : Wd} (h0 : fX1_walkNights w a1 a2 = some out) : Agree (pU pX1_walkNights) w out := by
  have ag0 : Agree (pU pX1_walkNights) w w := Agree.rf
  unfold fX1_walkNights at h0
  obtain ⟨w1, ew1, h0⟩ := lt_some h0
  have ag2 := ag0.pI ew1 (Or.inl (List.mem_of_getElem? (i := 0) rfl))
  obtain ⟨w3, ew3, h0⟩ := lt_some h0
  have ag4 := ag2.pI ew3 (Or.inl (List.mem_of_getElem? (i := 1) rfl))
  obtain ⟨w5, ew5, h0⟩ := lt_some h0
  have ag6 := ag4.pI ew5 (Or.inl (List.mem_of_getElem? (i := 2) rfl))
  obtain ⟨w7, ew7, h0⟩ := lt_some h0
  have ag8 := ag6.tr (Agree.sub [3, 4, 5, 6, 7, 8, 9, 10, 11, 12, 13] rfl (rX2_takeFrom ew7.symm))
  obtain ⟨w46, iw46, h0⟩ := bind_some h0
  have ag47 : Agree (pU pX1_walkNights) w w46 := by
    refine iter_rule (P := fun s : Int32 × Wd => Agree (pU pX1_walkNights) w s.2 → Agree (pU pX1_walkNights) w w46) (x := w46) ?_ FU (0, w7) iw46 ag8
    intro s y1 h1 hP1 hX1 agl28
    obtain ⟨l9, w10⟩ := s
    have h1 : fX1_walkNights_b28 a1 l9 w10 = some y1 := h1
    have agl28 : Agree (pU pX1_walkNights) w w10 := agl28
    unfold fX1_walkNights_b28 at h1
    by_cases c44 : a1 ≤ l9
    · rw [if_pos c44] at h1
      have e11 := hX1 _ (Option.some.inj h1).symm
      cases e11
      exact agl28
    · rw [if_neg c44] at h1
      obtain ⟨v12, ev12, h1⟩ := lt_some h1
      obtain ⟨w32, iw32, h1⟩ := bind_some h1
      have ag33 : Agree (pU pX1_walkNights) w w32 := by
        refine iter_rule (P := fun s : Int32 × Wd => Agree (pU pX1_walkNights) w s.2 → Agree (pU pX1_walkNights) w w32) (x := w32) ?_ FU (v12, w10) iw32 agl28
        intro s y2 h2 hP2 hX2 agl42
        obtain ⟨l13, w14⟩ := s
        have h2 : fX1_walkNights_b42 l13 w14 = some y2 := h2
        have agl42 : Agree (pU pX1_walkNights) w w14 := agl42
        unfold fX1_walkNights_b42 at h2
        by_cases c30 : (24 : Int32) < l13
        · rw [if_pos c30] at h2
          have e15 := hX2 _ (Option.some.inj h2).symm
          cases e15
          exact agl42
        · rw [if_neg c30] at h2
          obtain ⟨q18, er17, h2⟩ := bind_some h2
          replace h2 := un2_eq h2
          obtain ⟨r17, w16, rfl, h2⟩ := h2
          have ag19 := agl42.tr (Agree.sub [0] rfl (rX1_drawBelow er17))
          obtain ⟨g21, h2⟩ := gd_some h2
          obtain ⟨w20, ew20, h2⟩ := lt_some h2
          have ag22 := ag19.pI ew20 (Or.inr (List.mem_of_getElem? (i := 14) rfl))
          obtain ⟨q25, er24, h2⟩ := bind_some h2
          replace h2 := un2_eq h2
          obtain ⟨r24, w23, rfl, h2⟩ := h2
          have ag26 := ag22.tr (Agree.sub [0] rfl (rX1_drawBelow er24))
          obtain ⟨w27, ew27, h2⟩ := lt_some h2
          have ag28 := ag26.pI ew27 (Or.inr (List.mem_of_getElem? (i := 15) rfl))
          obtain ⟨v29, ev29, h2⟩ := lt_some h2
          exact hP2 (v29, w27) (Option.some.inj h2).symm ag28
      obtain ⟨q36, er35, h1⟩ := bind_some h1
      replace h1 := un2_eq h1
      obtain ⟨r35, w34, rfl, h1⟩ := h1
      have ag37 := ag33.tr (Agree.sub [16, 17, 18, 19, 20, 21, 22, 23, 24, 25] rfl (rX1_countOf er35))
      obtain ⟨w38, ew38, h1⟩ := lt_some h1
      have ag39 := ag37.pI ew38 (Or.inl (List.mem_of_getElem? (i := 1) rfl))
      obtain ⟨v40, hv40, h1⟩ := lt_some h1
      have hv40 := hv40.symm
      obtain ⟨w41, ew41, h1⟩ := lt_some h1
      have ag42 := ag39.pI ew41 (Or.inl (List.mem_of_getElem? (i := 2) rfl))
      obtain ⟨v43, ev43, h1⟩ := lt_some h1
      exact hP1 (v43, w41) (Option.some.inj h1).symm ag42
  rw [← Option.some.inj h0]
  exact ag47
def pX9_seeds : List (Nat × Option Nat) := [at_ 10 4, at_ 10 2, at_ 10 3, at_ 3 0, at_ 3 1, at_ 3 2, at_ 3 3, at_ 3 4, at_ 3 5, at_ 3 6, all_ (9 + 4 * 3), all_ (10 + 4 * 3), all_ (11 + 4 * 3), all_ (12 + 4 * 3), all_ 23, all_ 24, at_ 4 0, at_ 4 1, at_ 4 2, at_ 4 3, at_ 4 4, all_ 28, all_ 29, all_ 27, at_ 4 6, all_ 25, all_ 12]
theorem rX9_seeds {w : Wd} {a1 : Int32} {a2 : Int32} {a3 : Int32} {out : Int32 × Wd} (h0 : fX9_seeds w a1 a2 a3 = some out) : Agree (pU pX9_seeds) w out.2 := by
  have ag0 : Agree (pU pX9_seeds) w w := Agree.rf
  unfold fX9_seeds at h0
  by_cases c18 : (1 : Int32) ≤ a1
  · rw [if_pos c18] at h0
    by_cases c13 : a1 ≤ 20
    · rw [if_pos c13] at h0
      by_cases c8 : (fX9_isOutside a3 1) = 0
      · rw [if_pos c8] at h0
        obtain ⟨w1, ew1, h0⟩ := bind_some h0
        have ag2 := ag0.tr (Agree.sub [0, 1, 2, 3, 4, 5, 6, 7, 8, 9, 10, 11, 12, 13, 14, 15, 16, 17, 18, 19, 20, 21, 22, 23, 24, 25] rfl (rX1_walkNights ew1))
        by_cases c3 : a3 = 0
        · rw [if_pos c3] at h0
          rw [← Option.some.inj h0]
          exact ag2
        · rw [if_neg c3] at h0
          rw [← Option.some.inj h0]
          exact ag2
      · rw [if_neg c8] at h0
        obtain ⟨q6, er5, h0⟩ := bind_some h0
        replace h0 := un2_eq h0
        obtain ⟨r5, w4, rfl, h0⟩ := h0
        have ag7 := ag0.tr (Agree.sub [26] rfl (rX9_refuse er5))
        rw [← Option.some.inj h0]
        exact ag7
    · rw [if_neg c13] at h0
      obtain ⟨q11, er10, h0⟩ := bind_some h0
      replace h0 := un2_eq h0
      obtain ⟨r10, w9, rfl, h0⟩ := h0
      have ag12 := ag0.tr (Agree.sub [26] rfl (rX9_refuse er10))
      rw [← Option.some.inj h0]
      exact ag12
  · rw [if_neg c18] at h0
    obtain ⟨q16, er15, h0⟩ := bind_some h0
    replace h0 := un2_eq h0
    obtain ⟨r15, w14, rfl, h0⟩ := h0
    have ag17 := ag0.tr (Agree.sub [26] rfl (rX9_refuse er15))
    rw [← Option.some.inj h0]
    exact ag17
def pX5_takeBack (b1 : Nat) : List (Nat × Option Nat) := [at_ 5 0, at_ b1 1, at_ b1 5, at_ b1 6]
theorem rX5_takeBack {b1 : Nat} {w : Wd} {out : Wd} (h0 : fX5_takeBack b1 w = some out) : Agree (pU (pX5_takeBack b1)) w out := by
  have ag0 : Agree (pU (pX5_takeBack b1)) w w := Agree.rf
  unfold fX5_takeBack at h0
  by_cases c12 : (w.1 5 0) ≤ 0
  · rw [if_pos c12] at h0
    rw [← Option.some.inj h0]
    exact ag0
  · rw [if_neg c12] at h0
    obtain ⟨w1, ew1, h0⟩ := lt_some h0
    have ag2 := ag0.pI ew1 (Or.inl (List.mem_of_getElem? (i := 0) rfl))
    obtain ⟨g3, h0⟩ := gd_some h0
    obtain ⟨w4, ew4, h0⟩ := lt_some h0
    have ag5 := ag2.pI ew4 (Or.inl (List.mem_of_getElem? (i := 1) rfl))
    obtain ⟨g6, h0⟩ := gd_some h0
    obtain ⟨w7, ew7, h0⟩ := lt_some h0
    have ag8 := ag5.pI ew7 (Or.inl (List.mem_of_getElem? (i := 2) rfl))
    obtain ⟨g9, h0⟩ := gd_some h0
    obtain ⟨w10, ew10, h0⟩ := lt_some h0
    have ag11 := ag8.pI ew10 (Or.inl (List.mem_of_getElem? (i := 3) rfl))
    rw [← Option.some.inj h0]
    exact ag11
def pX9_back : List (Nat × Option Nat) := [all_ 12, at_ 5 0, at_ 1 1, at_ 1 5, at_ 1 6]
theorem rX9_back {w : Wd} {out : Int32 × Wd} (h0 : fX9_back w = some out) : Agree (pU pX9_back) w out.2 := by
  have ag0 : Agree (pU pX9_back) w w := Agree.rf
  unfold fX9_back at h0
  by_cases c7 : (w.1 5 0) = 0
  · rw [if_pos c7] at h0
    obtain ⟨q3, er2, h0⟩ := bind_some h0
    replace h0 := un2_eq h0
    obtain ⟨r2, w1, rfl, h0⟩ := h0
    have ag4 := ag0.tr (Agree.sub [0] rfl (rX9_refuse er2))
    rw [← Option.some.inj h0]
    exact ag4
  · rw [if_neg c7] at h0
    obtain ⟨w5, ew5, h0⟩ := bind_some h0
    have ag6 := ag0.tr (Agree.sub [1, 2, 3, 4] rfl (rX5_takeBack ew5))
    rw [← Option.some.inj h0]
    exact ag6
def pX4_calmMinutes : List (Nat × Option Nat) := [at_ 4 0, at_ 4 1, at_ 4 2, at_ 4 3, at_ 4 4, all_ 28, all_ 29, all_ 27, at_ 4 6, all_ 25]
theorem rX4_calmMinutes {w : Wd} {out : Int32 × Wd} (h0 : fX4_calmMinutes w = some out) : Agree (pU pX4_calmMinutes) w out.2 := by
  have ag0 : Agree (pU pX4_calmMinutes) w w := Agree.rf
  unfold fX4_calmMinutes at h0
  obtain ⟨w1, ew1, h0⟩ := bind_some h0
  have ag2 := ag0.tr (Agree.sub [0, 1, 2, 3, 4, 5, 6, 7] rfl (rX8_setOut ew1))
  obtain ⟨v3, ev3, h0⟩ := lt_some h0
  refine iter_rule (P := fun s : Int32 × Int32 × Wd => Agree (pU pX4_calmMinutes) w s.2.2 → Agree (pU pX4_calmMinutes) w out.2) (x := out) ?_ FU (v3, 0, w1) h0 ag2
  intro s y1 h1 hP1 hX1 agl21
  obtain ⟨l4, l5, w6⟩ := s
  have h1 : fX4_calmMinutes_b21 l4 l5 w6 = some y1 := h1
  have agl21 : Agree (pU pX4_calmMinutes) w w6 := agl21
  unfold fX4_calmMinutes_b21 at h1
  by_cases c13 : (60 : Int32) < l5
  · rw [if_pos c13] at h1
    have h0 := congrArg some (hX1 _ (Option.some.inj h1).symm)
    rw [← Option.some.inj h0]
    exact agl21
  · rw [if_neg c13] at h1
    by_cases c12 : l4 = (w6.1 4 1)
    · rw [if_pos c12] at h1
      have h0 := congrArg some (hX1 _ (Option.some.inj h1).symm)
      rw [← Option.some.inj h0]
      exact agl21
    · rw [if_neg c12] at h1
      obtain ⟨q9, er8, h1⟩ := bind_some h1
      replace h1 := un2_eq h1
      obtain ⟨r8, w7, rfl, h1⟩ := h1
      have ag10 := agl21.tr (Agree.sub [8, 9] rfl (rX8_relight er8))
      obtain ⟨v11, ev11, h1⟩ := lt_some h1
      exact hP1 (r8, v11, w7) (Option.some.inj h1).symm ag10
def pX9_all : List (Nat × Option Nat) := [at_ 4 0, at_ 4 1, at_ 4 2, at_ 4 3, at_ 4 4, all_ 28, all_ 29, all_ 27, at_ 4 6, all_ 25]
theorem rX9_all {w : Wd} {out : Int32 × Wd} (h0 : fX9_all w = some out) : Agree (pU pX9_all) w out.2 := by
  have ag0 : Agree (pU pX9_all) w w := Agree.rf
  unfold fX9_all at h0
  obtain ⟨q3, er2, h0⟩ := bind_some h0
  replace h0 := un2_eq h0
  obtain ⟨r2, w1, rfl, h0⟩ := h0
  have ag4 := ag0.tr (Agree.sub [0, 1, 2, 3, 4, 5, 6, 7, 8, 9] rfl (rX4_calmMinutes er2))
  rw [← Option.some.inj h0]
  exact ag4
def pX4_calmBehind : List (Nat × Option Nat) := [at_ 4 0, at_ 4 1, at_ 4 2, at_ 4 3, at_ 4 4, all_ 28, all_ 29, all_ 27, at_ 4 6, all_ 25]
theorem rX4_calmBehind {w : Wd} {a1 : Int32} {out : Int32 × Wd} (h0 : fX4_calmBehind w a1 = some out) : Agree (pU pX4_calmBehind) w out.2 := by
  have ag0 : Agree (pU pX4_calmBehind) w w := Agree.rf
  unfold fX4_calmBehind at h0
  obtain ⟨w1, ew1, h0⟩ := bind_some h0
  have ag2 := ag0.tr (Agree.sub [0, 1, 2, 3, 4, 5, 6, 7] rfl (rX8_setOut ew1))
  obtain ⟨v3, ev3, h0⟩ := lt_some h0
  obtain ⟨x14, ix14, h0⟩ := bind_some h0
  replace h0 := un2_eq h0
  obtain ⟨l15, w16, rfl, h0⟩ := h0
  have ag17 : Agree (pU pX4_calmBehind) w w16 := by
    refine iter_rule (P := fun s : Int32 × Int32 × Wd => Agree (pU pX4_calmBehind) w s.2.2 → Agree (pU pX4_calmBehind) w w16) (x := (l15, w16)) ?_ FU (v3, 0, w1) ix14 ag2
    intro s y1 h1 hP1 hX1 agl21
    obtain ⟨l4, l5, w6⟩ := s
    have h1 : fX4_calmBehind_b21 a1 l4 l5 w6 = some y1 := h1
    have agl21 : Agree (pU pX4_calmBehind) w w6 := agl21
    unfold fX4_calmBehind_b21 at h1
    by_cases c13 : a1 ≤ l5
    · rw [if_pos c13] at h1
      have e7 := hX1 _ (Option.some.inj h1).symm
      cases e7
      exact agl21
    · rw [if_neg c13] at h1
      obtain ⟨q10, er9, h1⟩ := bind_some h1
      replace h1 := un2_eq h1
      obtain ⟨r9, w8, rfl, h1⟩ := h1
      have ag11 := agl21.tr (Agree.sub [8, 9] rfl (rX8_relight er9))
      obtain ⟨v12, ev12, h1⟩ := lt_some h1
      exact hP1 (r9, v12, w8) (Option.some.inj h1).symm ag11
  rw [← Option.some.inj h0]
  exact ag17
def pX9_behind : List (Nat × Option Nat) := [at_ 4 0, at_ 4 1, at_ 4 2, at_ 4 3, at_ 4 4, all_ 28, all_ 29, all_ 27, at_ 4 6, all_ 25, all_ 12]
theorem rX9_behind {w : Wd} {a1 : Int32} {out : Int32 × Wd} (h0 : fX9_behind w a1 = some out) : Agree (pU pX9_behind) w out.2 := by
  have ag0 : Agree (pU pX9_behind) w w := Agree.rf
  unfold fX9_behind at h0
  by_cases c14 : (0 : Int32) ≤ a1
  · rw [if_pos c14] at h0
    by_cases c9 : a1 ≤ 60
    · rw [if_pos c9] at h0
      obtain ⟨q3, er2, h0⟩ := bind_some h0
      replace h0 := un2_eq h0
      obtain ⟨r2, w1, rfl, h0⟩ := h0
      have ag4 := ag0.tr (Agree.sub [0, 1, 2, 3, 4, 5, 6, 7, 8, 9] rfl (rX4_calmBehind er2))
      rw [← Option.some.inj h0]
      exact ag4
    · rw [if_neg c9] at h0
      obtain ⟨q7, er6, h0⟩ := bind_some h0
      replace h0 := un2_eq h0
      obtain ⟨r6, w5, rfl, h0⟩ := h0
      have ag8 := ag0.tr (Agree.sub [10] rfl (rX9_refuse er6))
      rw [← Option.some.inj h0]
      exact ag8
  · rw [if_neg c14] at h0
    obtain ⟨q12, er11, h0⟩ := bind_some h0
    replace h0 := un2_eq h0
    obtain ⟨r11, w10, rfl, h0⟩ := h0
    have ag13 := ag0.tr (Agree.sub [10] rfl (rX9_refuse er11))
    rw [← Option.some.inj h0]
    exact ag13
def pX4_enoughAtFirst : List (Nat × Option Nat) := [at_ 4 0, at_ 4 1, at_ 4 2, at_ 4 3, at_ 4 4, all_ 28, all_ 29, all_ 27, at_ 4 6, all_ 25]
theorem rX4_enoughAtFirst {w : Wd} {out : Int32 × Wd} (h0 : fX4_enoughAtFirst w = some out) : Agree (pU pX4_enoughAtFirst) w out.2 := by
  have ag0 : Agree (pU pX4_enoughAtFirst) w w := Agree.rf
  unfold fX4_enoughAtFirst at h0
  obtain ⟨w1, ew1, h0⟩ := bind_some h0
  have ag2 := ag0.tr (Agree.sub [0, 1, 2, 3, 4, 5, 6, 7] rfl (rX8_setOut ew1))
  obtain ⟨x21, ix21, h0⟩ := bind_some h0
  replace h0 := un2_eq h0
  obtain ⟨l22, w23, rfl, h0⟩ := h0
  have ag24 : Agree (pU pX4_enoughAtFirst) w w23 := by
    refine iter_rule (P := fun s : Int32 × Int32 × Int32 × Wd => Agree (pU pX4_enoughAtFirst) w s.2.2.2 → Agree (pU pX4_enoughAtFirst) w w23) (x := (l22, w23)) ?_ FU ((-9), 9, 0, w1) ix21 ag2
    intro s y1 h1 hP1 hX1 agl19
    obtain ⟨l3, l4, l5, w6⟩ := s
    have h1 : fX4_enoughAtFirst_b19 l3 l4 l5 w6 = some y1 := h1
    have agl19 : Agree (pU pX4_enoughAtFirst) w w6 := agl19
    unfold fX4_enoughAtFirst_b19 at h1
    by_cases c20 : (w6.1 4 1) < l5
    · rw [if_pos c20] at h1
      have e7 := hX1 _ (Option.some.inj h1).symm
      cases e7
      exact agl19
    · rw [if_neg c20] at h1
      obtain ⟨v8, ev8, h1⟩ := lt_some h1
      by_cases c19 : l4 ≤ v8
      · rw [if_pos c19] at h1
        obtain ⟨v9, ev9, h1⟩ := lt_some h1
        exact hP1 (l3, l4, v9, w6) (Option.some.inj h1).symm agl19
      · rw [if_neg c19] at h1
        by_cases c18 : (l5 &&& ((w6.1 4 1) ^^^ (-1))) = 0
        · rw [if_pos c18] at h1
          obtain ⟨q12, er11, h1⟩ := bind_some h1
          replace h1 := un2_eq h1
          obtain ⟨r11, w10, rfl, h1⟩ := h1
          have ag13 := agl19.tr (Agree.sub [8, 9] rfl (rX8_atDoorFrom er11))
          by_cases c16 : r11 = (w10.1 4 1)
          · rw [if_pos c16] at h1
            obtain ⟨v14, ev14, h1⟩ := lt_some h1
            exact hP1 (l5, v8, v14, w10) (Option.some.inj h1).symm ag13
          · rw [if_neg c16] at h1
            obtain ⟨v15, ev15, h1⟩ := lt_some h1
            exact hP1 (l3, l4, v15, w10) (Option.some.inj h1).symm ag13
        · rw [if_neg c18] at h1
          obtain ⟨v17, ev17, h1⟩ := lt_some h1
          exact hP1 (l3, l4, v17, w6) (Option.some.inj h1).symm agl19
  rw [← Option.some.inj h0]
  exact ag24
def pX9_atFirst : List (Nat × Option Nat) := [at_ 4 0, at_ 4 1, at_ 4 2, at_ 4 3, at_ 4 4, all_ 28, all_ 29, all_ 27, at_ 4 6, all_ 25, all_ 12]
theorem rX9_atFirst {w : Wd} {a1 : Int32} {out : Int32 × Wd} (h0 : fX9_atFirst w a1 = some out) : Agree (pU pX9_atFirst) w out.2 := by
  have ag0 : Agree (pU pX9_atFirst) w w := Agree.rf
  unfold fX9_atFirst at h0
  by_cases c9 : (fX9_isOutside a1 1) = 0
  · rw [if_pos c9] at h0
    obtain ⟨q3, er2, h0⟩ := bind_some h0
    replace h0 := un2_eq h0
    obtain ⟨r2, w1, rfl, h0⟩ := h0
    have ag4 := ag0.tr (Agree.sub [0, 1, 2, 3, 4, 5, 6, 7, 8, 9] rfl (rX4_enoughAtFirst er2))
    rw [← Option.some.inj h0]
    exact ag4
  · rw [if_neg c9] at h0
    obtain ⟨q7, er6, h0⟩ := bind_some h0
    replace h0 := un2_eq h0
    obtain ⟨r6, w5, rfl, h0⟩ := h0
    have ag8 := ag0.tr (Agree.sub [10] rfl (rX9_refuse er6))
    rw [← Option.some.inj h0]
    exact ag8
def pX1_findForm : List (Nat × Option Nat) := [at_ 10 0, at_ 10 1, at_ 3 0, at_ 3 1, at_ 3 2, at_ 3 3, at_ 3 4, at_ 3 5, at_ 3 6, all_ (9 + 4 * 3), all_ (10 + 4 * 3), all_ (11 + 4 * 3), all_ (12 + 4 * 3), at_ 4 0, at_ 4 1, at_ 4 2, at_ 4 3, at_ 4 4, all_ 28, all_ 29, all_ 27, at_ 4 6, all_ 25]
theorem rX1_findForm {w : Wd} {out : Wd} (h0 : fX1_findForm w = some out) : Agree (pU pX1_findForm) w out := by
  have ag0 : Agree (pU pX1_findForm) w w := Agree.rf
  unfold fX1_findForm at h0
  obtain ⟨w1, ew1, h0⟩ := lt_some h0
  have ag2 := ag0.tr (Agree.sub [0, 1] rfl (rX1_startSearch ew1.symm))
  obtain ⟨w3, ew3, h0⟩ := lt_some h0
  have ag4 := ag2.tr (Agree.sub [2, 3, 4, 5, 6, 7, 8, 9, 10, 11, 12] rfl (rX2_takeFrom ew3.symm))
  obtain ⟨w29, iw29, h0⟩ := bind_some h0
  have ag30 : Agree (pU pX1_findForm) w w29 := by
    refine iter_rule (P := fun s : Int32 × Wd => Agree (pU pX1_findForm) w s.2 → Agree (pU pX1_findForm) w w29) (x := w29) ?_ FU (0, w3) iw29 ag4
    intro s y1 h1 hP1 hX1 agl18
    obtain ⟨l5, w6⟩ := s
    have h1 : fX1_findForm_b18 l5 w6 = some y1 := h1
    have agl18 : Agree (pU pX1_findForm) w w6 := agl18
    unfold fX1_findForm_b18 at h1
    by_cases c27 : (2 : Int32) < l5
    · rw [if_pos c27] at h1
      have e7 := hX1 _ (Option.some.inj h1).symm
      cases e7
      exact agl18
    · rw [if_neg c27] at h1
      obtain ⟨w24, iw24, h1⟩ := bind_some h1
      have ag25 : Agree (pU pX1_findForm) w w24 := by
        refine iter_rule (P := fun s : Int32 × Wd => Agree (pU pX1_findForm) w s.2 → Agree (pU pX1_findForm) w w24) (x := w24) ?_ FU (1, w6) iw24 agl18
        intro s y2 h2 hP2 hX2 agl25
        obtain ⟨l8, w9⟩ := s
        have h2 : fX1_findForm_b25 l5 l8 w9 = some y2 := h2
        have agl25 : Agree (pU pX1_findForm) w w9 := agl25
        unfold fX1_findForm_b25 at h2
        by_cases c22 : (2 : Int32) < l8
        · rw [if_pos c22] at h2
          have e10 := hX2 _ (Option.some.inj h2).symm
          cases e10
          exact agl25
        · rw [if_neg c22] at h2
          obtain ⟨w11, ew11, h2⟩ := lt_some h2
          have ag12 := agl25.pI ew11 (Or.inl (List.mem_of_getElem? (i := 4) rfl))
          obtain ⟨w13, ew13, h2⟩ := lt_some h2
          have ag14 := ag12.pI ew13 (Or.inl (List.mem_of_getElem? (i := 5) rfl))
          obtain ⟨q17, er16, h2⟩ := bind_some h2
          replace h2 := un2_eq h2
          obtain ⟨r16, w15, rfl, h2⟩ := h2
          have ag18 := ag14.tr (Agree.sub [13, 14, 15, 16, 17, 18, 19, 20, 21, 22] rfl (rX1_countOf er16))
          obtain ⟨w19, ew19, h2⟩ := lt_some h2
          have ag20 := ag18.tr (Agree.sub [1, 0] rfl (rX1_consider ew19.symm))
          obtain ⟨v21, ev21, h2⟩ := lt_some h2
          exact hP2 (v21, w19) (Option.some.inj h2).symm ag20
      obtain ⟨v26, ev26, h1⟩ := lt_some h1
      exact hP1 (v26, w24) (Option.some.inj h1).symm ag25
  rw [← Option.some.inj h0]
  exact ag30
def pX9_forms : List (Nat × Option Nat) := [at_ 10 0, at_ 10 1, at_ 3 0, at_ 3 1, at_ 3 2, at_ 3 3, at_ 3 4, at_ 3 5, at_ 3 6, all_ (9 + 4 * 3), all_ (10 + 4 * 3), all_ (11 + 4 * 3), all_ (12 + 4 * 3), at_ 4 0, at_ 4 1, at_ 4 2, at_ 4 3, at_ 4 4, all_ 28, all_ 29, all_ 27, at_ 4 6, all_ 25, all_ 12]
theorem rX9_forms {w : Wd} {a1 : Int32} {out : Int32 × Wd} (h0 : fX9_forms w a1 = some out) : Agree (pU pX9_forms) w out.2 := by
  have ag0 : Agree (pU pX9_forms) w w := Agree.rf
  unfold fX9_forms at h0
  by_cases c8 : (fX9_isOutside a1 1) = 0
  · rw [if_pos c8] at h0
    obtain ⟨w1, ew1, h0⟩ := bind_some h0
    have ag2 := ag0.tr (Agree.sub [0, 1, 2, 3, 4, 5, 6, 7, 8, 9, 10, 11, 12, 13, 14, 15, 16, 17, 18, 19, 20, 21, 22] rfl (rX1_findForm ew1))
    by_cases c3 : a1 = 0
    · rw [if_pos c3] at h0
      rw [← Option.some.inj h0]
      exact ag2
    · rw [if_neg c3] at h0
      rw [← Option.some.inj h0]
      exact ag2
  · rw [if_neg c8] at h0
    obtain ⟨q6, er5, h0⟩ := bind_some h0
    replace h0 := un2_eq h0
    obtain ⟨r5, w4, rfl, h0⟩ := h0
    have ag7 := ag0.tr (Agree.sub [23] rfl (rX9_refuse er5))
    rw [← Option.some.inj h0]
    exact ag7
def pX6_stillAt : List (Nat × Option Nat) := [all_ 27]
theorem rX6_stillAt {w : Wd} {a1 : Int32} {out : Int32 × Wd} (h0 : fX6_stillAt w a1 = some out) : Agree (pU pX6_stillAt) w out.2 := by
  have ag0 : Agree (pU pX6_stillAt) w w := Agree.rf
  unfold fX6_stillAt at h0
  obtain ⟨g1, h0⟩ := gd_some h0
  obtain ⟨v2, ev2, h0⟩ := lt_some h0
  obtain ⟨w3, ew3, h0⟩ := lt_some h0
  have ag4 := ag0.pI ew3 (Or.inr (List.mem_of_getElem? (i := 0) rfl))
  rw [← Option.some.inj h0]
  exact ag4
def pX6_calmPlace : List (Nat × Option Nat) := [at_ 4 0, at_ 4 1, at_ 4 2, at_ 4 3, at_ 4 4, all_ 28, all_ 29, all_ 27, all_ 26, at_ 4 5, at_ 4 6, all_ 25]
theorem rX6_calmPlace {w : Wd} {out : Int32 × Wd} (h0 : fX6_calmPlace w = some out) : Agree (pU pX6_calmPlace) w out.2 := by
  have ag0 : Agree (pU pX6_calmPlace) w w := Agree.rf
  unfold fX6_calmPlace at h0
  obtain ⟨q3, er2, h0⟩ := bind_some h0
  replace h0 := un2_eq h0
  obtain ⟨r2, w1, rfl, h0⟩ := h0
  have ag4 := ag0.tr (Agree.sub [0, 1, 2, 3, 4, 5, 6, 7, 8, 9, 10, 11] rfl (rX6_startFromNow er2))
  obtain ⟨v5, ev5, h0⟩ := lt_some h0
  obtain ⟨x27, ix27, h0⟩ := bind_some h0
  replace h0 := un2_eq h0
  obtain ⟨l28, w29, rfl, h0⟩ := h0
  have ag30 : Agree (pU pX6_calmPlace) w w29 := by
    refine iter_rule (P := fun s : Int32 × Int32 × Int32 × Wd => Agree (pU pX6_calmPlace) w s.2.2.2 → Agree (pU pX6_calmPlace) w w29) (x := (l28, w29)) ?_ FU (r2, (-9), v5, w1) ix27 ag4
    intro s y1 h1 hP1 hX1 agl16
    obtain ⟨l6, l7, l8, w9⟩ := s
    have h1 : fX6_calmPlace_b16 l6 l7 l8 w9 = some y1 := h1
    have agl16 : Agree (pU pX6_calmPlace) w w9 := agl16
    unfold fX6_calmPlace_b16 at h1
    by_cases c26 : (w9.1 1 4) ≤ l8
    · rw [if_pos c26] at h1
      have e10 := hX1 _ (Option.some.inj h1).symm
      cases e10
      exact agl16
    · rw [if_neg c26] at h1
      obtain ⟨q13, er12, h1⟩ := bind_some h1
      replace h1 := un2_eq h1
      obtain ⟨r12, w11, rfl, h1⟩ := h1
      have ag14 := agl16.tr (Agree.sub [7] rfl (rX6_stillAt er12))
      obtain ⟨q17, er16, h1⟩ := bind_some h1
      replace h1 := un2_eq h1
      obtain ⟨r16, w15, rfl, h1⟩ := h1
      have ag18 := ag14.tr (Agree.sub [10, 11] rfl (rX8_atDoorFrom er16))
      obtain ⟨v19, ev19, h1⟩ := lt_some h1
      obtain ⟨g21, h1⟩ := gd_some h1
      obtain ⟨w20, ew20, h1⟩ := lt_some h1
      have ag22 := ag18.pI ew20 (Or.inr (List.mem_of_getElem? (i := 7) rfl))
      by_cases c25 : v19 ≤ l6
      · rw [if_pos c25] at h1
        obtain ⟨v23, ev23, h1⟩ := lt_some h1
        exact hP1 (l6, l7, v23, w20) (Option.some.inj h1).symm ag22
      · rw [if_neg c25] at h1
        obtain ⟨v24, ev24, h1⟩ := lt_some h1
        exact hP1 (v19, l8, v24, w20) (Option.some.inj h1).symm ag22
  rw [← Option.some.inj h0]
  exact ag30
def pX6_calmPair : List (Nat × Option Nat) := [at_ 4 0, at_ 4 1, at_ 4 2, at_ 4 3, at_ 4 4, all_ 28, all_ 29, all_ 27, all_ 26, at_ 4 5, at_ 4 6, all_ 25]
theorem rX6_calmPair {w : Wd} {out : Int32 × Wd} (h0 : fX6_calmPair w = some out) : Agree (pU pX6_calmPair) w out.2 := by
  have ag0 : Agree (pU pX6_calmPair) w w := Agree.rf
  unfold fX6_calmPair at h0
  obtain ⟨q3, er2, h0⟩ := bind_some h0
  replace h0 := un2_eq h0
  obtain ⟨r2, w1, rfl, h0⟩ := h0
  have ag4 := ag0.tr (Agree.sub [0, 1, 2, 3, 4, 5, 6, 7, 8, 9, 10, 11] rfl (rX6_startFromNow er2))
  obtain ⟨v5, ev5, h0⟩ := lt_some h0
  obtain ⟨x48, ix48, h0⟩ := bind_some h0
  replace h0 := un2_eq h0
  obtain ⟨l49, w50, rfl, h0⟩ := h0
  have ag51 : Agree (pU pX6_calmPair) w w50 := by
    refine iter_rule (P := fun s : Int32 × Int32 × Int32 × Wd => Agree (pU pX6_calmPair) w s.2.2.2 → Agree (pU pX6_calmPair) w w50) (x := (l49, w50)) ?_ FU (r2, (-9), v5, w1) ix48 ag4
    intro s y1 h1 hP1 hX1 agl16
    obtain ⟨l6, l7, l8, w9⟩ := s
    have h1 : fX6_calmPair_b16 l6 l7 l8 w9 = some y1 := h1
    have agl16 : Agree (pU pX6_calmPair) w w9 := agl16
    unfold fX6_calmPair_b16 at h1
    by_cases c47 : (w9.1 1 4) ≤ l8
    · rw [if_pos c47] at h1
      have e10 := hX1 _ (Option.some.inj h1).symm
      cases e10
      exact agl16
    · rw [if_neg c47] at h1
      obtain ⟨q13, er12, h1⟩ := bind_some h1
      replace h1 := un2_eq h1
      obtain ⟨r12, w11, rfl, h1⟩ := h1
      have ag14 := agl16.tr (Agree.sub [7] rfl (rX6_stillAt er12))
      obtain ⟨v15, ev15, h1⟩ := lt_some h1
      obtain ⟨x38, ix38, h1⟩ := bind_some h1
      replace h1 := un3_eq h1
      obtain ⟨l39, l40, w41, rfl, h1⟩ := h1
      have ag42 : Agree (pU pX6_calmPair) w w41 := by
        refine iter_rule (P := fun s : Int32 × Int32 × Int32 × Wd => Agree (pU pX6_calmPair) w s.2.2.2 → Agree (pU pX6_calmPair) w w41) (x := (l39, l40, w41)) ?_ FU (l6, l7, v15, w11) ix38 ag14
        intro s y2 h2 hP2 hX2 agl39
        obtain ⟨l16, l17, l18, w19⟩ := s
        have h2 : fX6_calmPair_b39 l8 l16 l17 l18 w19 = some y2 := h2
        have agl39 : Agree (pU pX6_calmPair) w w19 := agl39
        unfold fX6_calmPair_b39 at h2
        by_cases c37 : (w19.1 1 4) ≤ l18
        · rw [if_pos c37] at h2
          have e20 := hX2 _ (Option.some.inj h2).symm
          cases e20
          exact agl39
        · rw [if_neg c37] at h2
          obtain ⟨q23, er22, h2⟩ := bind_some h2
          replace h2 := un2_eq h2
          obtain ⟨r22, w21, rfl, h2⟩ := h2
          have ag24 := agl39.tr (Agree.sub [7] rfl (rX6_stillAt er22))
          obtain ⟨q27, er26, h2⟩ := bind_some h2
          replace h2 := un2_eq h2
          obtain ⟨r26, w25, rfl, h2⟩ := h2
          have ag28 := ag24.tr (Agree.sub [10, 11] rfl (rX8_atDoorFrom er26))
          obtain ⟨v29, ev29, h2⟩ := lt_some h2
          obtain ⟨g31, h2⟩ := gd_some h2
          obtain ⟨w30, ew30, h2⟩ := lt_some h2
          have ag32 := ag28.pI ew30 (Or.inr (List.mem_of_getElem? (i := 7) rfl))
          by_cases c36 : v29 ≤ l16
          · rw [if_pos c36] at h2
            obtain ⟨v33, ev33, h2⟩ := lt_some h2
            exact hP2 (l16, l17, v33, w30) (Option.some.inj h2).symm ag32
          · rw [if_neg c36] at h2
            obtain ⟨v34, ev34, h2⟩ := lt_some h2
            obtain ⟨v35, ev35, h2⟩ := lt_some h2
            exact hP2 (v29, v34, v35, w30) (Option.some.inj h2).symm ag32
      obtain ⟨g44, h1⟩ := gd_some h1
      obtain ⟨w43, ew43, h1⟩ := lt_some h1
      have ag45 := ag42.pI ew43 (Or.inr (List.mem_of_getElem? (i := 7) rfl))
      obtain ⟨v46, ev46, h1⟩ := lt_some h1
      exact hP1 (l39, l40, v46, w43) (Option.some.inj h1).symm ag45
  rw [← Option.some.inj h0]
  exact ag51
def pX9_calms : List (Nat × Option Nat) := [at_ 4 0, at_ 4 1, at_ 4 2, at_ 4 3, at_ 4 4, all_ 28, all_ 29, all_ 27, all_ 26, at_ 4 5, at_ 4 6, all_ 25, all_ 12]
theorem rX9_calms {w : Wd} {a1 : Int32} {out : Int32 × Wd} (h0 : fX9_calms w a1 = some out) : Agree (pU pX9_calms) w out.2 := by
  have ag0 : Agree (pU pX9_calms) w w := Agree.rf
  unfold fX9_calms at h0
  by_cases c14 : (fX9_isOutside a1 1) = 0
  · rw [if_pos c14] at h0
    by_cases c9 : a1 = 0
    · rw [if_pos c9] at h0
      obtain ⟨q3, er2, h0⟩ := bind_some h0
      replace h0 := un2_eq h0
      obtain ⟨r2, w1, rfl, h0⟩ := h0
      have ag4 := ag0.tr (Agree.sub [0, 1, 2, 3, 4, 5, 6, 7, 8, 9, 10, 11] rfl (rX6_calmPlace er2))
      rw [← Option.some.inj h0]
      exact ag4
    · rw [if_neg c9] at h0
      obtain ⟨q7, er6, h0⟩ := bind_some h0
      replace h0 := un2_eq h0
      obtain ⟨r6, w5, rfl, h0⟩ := h0
      have ag8 := ag0.tr (Agree.sub [0, 1, 2, 3, 4, 5, 6, 7, 8, 9, 10, 11] rfl (rX6_calmPair er6))
      rw [← Option.some.inj h0]
      exact ag8
  · rw [if_neg c14] at h0
    obtain ⟨q12, er11, h0⟩ := bind_some h0
    replace h0 := un2_eq h0
    obtain ⟨r11, w10, rfl, h0⟩ := h0
    have ag13 := ag0.tr (Agree.sub [12] rfl (rX9_refuse er11))
    rw [← Option.some.inj h0]
    exact ag13
def pX1_farthestDoor : List (Nat × Option Nat) := [at_ 3 0, at_ 3 1, at_ 3 2, at_ 3 3, at_ 3 4, at_ 3 5, at_ 3 6, all_ (9 + 4 * 3), all_ (10 + 4 * 3), all_ (11 + 4 * 3), all_ (12 + 4 * 3), at_ 4 0, at_ 4 1, at_ 4 2, at_ 4 3, at_ 4 4, all_ 28, all_ 29, all_ 27, all_ 26, at_ 4 5, at_ 4 6, all_ 25]
theorem rX1_farthestDoor {w : Wd} {out : Int32 × Wd} (h0 : fX1_farthestDoor w = some out) : Agree (pU pX1_farthestDoor) w out.2 := by
  have ag0 : Agree (pU pX1_farthestDoor) w w := Agree.rf
  unfold fX1_farthestDoor at h0
  obtain ⟨w1, ew1, h0⟩ := lt_some h0
  have ag2 := ag0.tr (Agree.sub [0, 1, 2, 3, 4, 5, 6, 7, 8, 9, 10] rfl (rX2_takeFrom ew1.symm))
  obtain ⟨w3, ew3, h0⟩ := lt_some h0
  have ag4 := ag2.pI ew3 (Or.inl (List.mem_of_getElem? (i := 4) rfl))
  obtain ⟨w5, ew5, h0⟩ := bind_some h0
  have ag6 := ag4.tr (Agree.sub [11, 12, 13, 14, 15, 16, 17, 18] rfl (rX8_setOut ew5))
  obtain ⟨w7, ew7, h0⟩ := bind_some h0
  have ag8 := ag6.tr (Agree.sub [19, 20, 21, 22] rfl (rX8_walkOn ew7))
  obtain ⟨v9, ev9, h0⟩ := lt_some h0
  refine iter_rule (P := fun s : Int32 => Agree (pU pX1_farthestDoor) w out.2) (x := out) ?_ FU 24 h0
  intro s y1 h1 hP1 hX1
  obtain ⟨l10, rfl⟩ : ∃ z, z = s := ⟨s, rfl⟩
  have h1 : fX1_farthestDoor_b60 v9 w7 l10 = some y1 := h1
  unfold fX1_farthestDoor_b60 at h1
  by_cases c14 : l10 < v9
  · rw [if_pos c14] at h1
    have h0 := congrArg some (hX1 _ (Option.some.inj h1).symm)
    rw [← Option.some.inj h0]
    exact ag8
  · rw [if_neg c14] at h1
    obtain ⟨g11, h1⟩ := gd_some h1
    by_cases c13 : (w7.1 26 (l10 - (w7.1 1 5)).toNatClampNeg) = 0
    · rw [if_pos c13] at h1
      obtain ⟨v12, ev12, h1⟩ := lt_some h1
      exact hP1 v12 (Option.some.inj h1).symm
    · rw [if_neg c13] at h1
      have h0 := congrArg some (hX1 _ (Option.some.inj h1).symm)
      rw [← Option.some.inj h0]
      exact ag8
def pX9_farthest : List (Nat × Option Nat) := [at_ 3 0, at_ 3 1, at_ 3 2, at_ 3 3, at_ 3 4, at_ 3 5, at_ 3 6, all_ (9 + 4 * 3), all_ (10 + 4 * 3), all_ (11 + 4 * 3), all_ (12 + 4 * 3), at_ 4 0, at_ 4 1, at_ 4 2, at_ 4 3, at_ 4 4, all_ 28, all_ 29, all_ 27, all_ 26, at_ 4 5, at_ 4 6, all_ 25]
theorem rX9_farthest {w : Wd} {out : Int32 × Wd} (h0 : fX9_farthest w = some out) : Agree (pU pX9_farthest) w out.2 := by
  have ag0 : Agree (pU pX9_farthest) w w := Agree.rf
  unfold fX9_farthest at h0
  obtain ⟨q3, er2, h0⟩ := bind_some h0
  replace h0 := un2_eq h0
  obtain ⟨r2, w1, rfl, h0⟩ := h0
  have ag4 := ag0.tr (Agree.sub [0, 1, 2, 3, 4, 5, 6, 7, 8, 9, 10, 11, 12, 13, 14, 15, 16, 17, 18, 19, 20, 21, 22] rfl (rX1_farthestDoor er2))
  rw [← Option.some.inj h0]
  exact ag4
def pX1_countTurned : List (Nat × Option Nat) := [at_ 3 0, at_ 3 1, at_ 3 2, at_ 3 3, at_ 3 4, at_ 3 5, at_ 3 6, all_ (9 + 4 * 3), all_ (10 + 4 * 3), all_ (11 + 4 * 3), all_ (12 + 4 * 3), at_ 4 0, at_ 4 1, at_ 4 2, at_ 4 3, at_ 4 4, all_ 28, all_ 29, all_ 27, at_ 4 6, all_ 25]
theorem rX1_countTurned {w : Wd} {out : Int32 × Wd} (h0 : fX1_countTurned w = some out) : Agree (pU pX1_countTurned) w out.2 := by
  have ag0 : Agree (pU pX1_countTurned) w w := Agree.rf
  unfold fX1_countTurned at h0
  obtain ⟨w1, ew1, h0⟩ := lt_some h0
  have ag2 := ag0.tr (Agree.sub [0, 1, 2, 3, 4, 5, 6, 7, 8, 9, 10] rfl (rX2_takeFrom ew1.symm))
  obtain ⟨w11, iw11, h0⟩ := bind_some h0
  have ag12 : Agree (pU pX1_countTurned) w w11 := by
    refine iter_rule (P := fun s : Int32 × Wd => Agree (pU pX1_countTurned) w s.2 → Agree (pU pX1_countTurned) w w11) (x := w11) ?_ FU (0, w1) iw11 ag2
    intro s y1 h1 hP1 hX1 agl13
    obtain ⟨l3, w4⟩ := s
    have h1 : fX1_countTurned_b13 l3 w4 = some y1 := h1
    have agl13 : Agree (pU pX1_countTurned) w w4 := agl13
    unfold fX1_countTurned_b13 at h1
    by_cases c9 : (w4.1 1 0) ≤ l3
    · rw [if_pos c9] at h1
      have e5 := hX1 _ (Option.some.inj h1).symm
      cases e5
      exact agl13
    · rw [if_neg c9] at h1
      obtain ⟨w6, ew6, h1⟩ := bind_some h1
      have ag7 := agl13.tr (Agree.sub [7, 8, 1] rfl (rX2_copyOne ew6))
      obtain ⟨v8, ev8, h1⟩ := lt_some h1
      exact hP1 (v8, w6) (Option.some.inj h1).symm ag7
  obtain ⟨q15, er14, h0⟩ := bind_some h0
  replace h0 := un2_eq h0
  obtain ⟨r14, w13, rfl, h0⟩ := h0
  have ag16 := ag12.tr (Agree.sub [11, 12, 13, 14, 15, 16, 17, 18, 19, 20] rfl (rX1_countOf er14))
  rw [← Option.some.inj h0]
  exact ag16
def pX9_turned : List (Nat × Option Nat) := [at_ 3 0, at_ 3 1, at_ 3 2, at_ 3 3, at_ 3 4, at_ 3 5, at_ 3 6, all_ (9 + 4 * 3), all_ (10 + 4 * 3), all_ (11 + 4 * 3), all_ (12 + 4 * 3), at_ 4 0, at_ 4 1, at_ 4 2, at_ 4 3, at_ 4 4, all_ 28, all_ 29, all_ 27, at_ 4 6, all_ 25]
theorem rX9_turned {w : Wd} {out : Int32 × Wd} (h0 : fX9_turned w = some out) : Agree (pU pX9_turned) w out.2 := by
  have ag0 : Agree (pU pX9_turned) w w := Agree.rf
  unfold fX9_turned at h0
  obtain ⟨q3, er2, h0⟩ := bind_some h0
  replace h0 := un2_eq h0
  obtain ⟨r2, w1, rfl, h0⟩ := h0
  have ag4 := ag0.tr (Agree.sub [0, 1, 2, 3, 4, 5, 6, 7, 8, 9, 10, 11, 12, 13, 14, 15, 16, 17, 18, 19, 20] rfl (rX1_countTurned er2))
  rw [← Option.some.inj h0]
  exact ag4
def pX4_handOn : List (Nat × Option Nat) := [all_ 35]
theorem rX4_handOn {w : Wd} {a1 : Int32} {out : Wd} (h0 : fX4_handOn w a1 = some out) : Agree (pU pX4_handOn) w out := by
  have ag0 : Agree (pU pX4_handOn) w w := Agree.rf
  unfold fX4_handOn at h0
  obtain ⟨w13, iw13, h0⟩ := bind_some h0
  have ag14 : Agree (pU pX4_handOn) w w13 := by
    refine iter_rule (P := fun s : Int32 × Wd => Agree (pU pX4_handOn) w s.2 → Agree (pU pX4_handOn) w w13) (x := w13) ?_ FU (0, w) iw13 ag0
    intro s y1 h1 hP1 hX1 agl2
    obtain ⟨l1, w2⟩ := s
    have h1 : fX4_handOn_b2 a1 l1 w2 = some y1 := h1
    have agl2 : Agree (pU pX4_handOn) w w2 := agl2
    unfold fX4_handOn_b2 at h1
    by_cases c11 : (w2.1 4 0) ≤ l1
    · rw [if_pos c11] at h1
      have e3 := hX1 _ (Option.some.inj h1).symm
      cases e3
      exact agl2
    · rw [if_neg c11] at h1
      by_cases c10 : (fX9_hasBit a1 l1) = 0
      · rw [if_pos c10] at h1
        obtain ⟨v4, ev4, h1⟩ := lt_some h1
        exact hP1 (v4, w2) (Option.some.inj h1).symm agl2
      · rw [if_neg c10] at h1
        obtain ⟨g5, h1⟩ := gd_some h1
        obtain ⟨g6, h1⟩ := gd_some h1
        obtain ⟨w7, ew7, h1⟩ := lt_some h1
        have ag8 := agl2.pI ew7 (Or.inr (List.mem_of_getElem? (i := 0) rfl))
        obtain ⟨v9, ev9, h1⟩ := lt_some h1
        exact hP1 (v9, w7) (Option.some.inj h1).symm ag8
  rw [← Option.some.inj h0]
  exact ag14
def pX4_originOf : List (Nat × Option Nat) := [at_ 4 0, at_ 4 1, at_ 4 2, at_ 4 3, at_ 4 4, all_ 28, all_ 29, all_ 27, all_ 35, at_ 4 5, at_ 4 6, all_ 25]
theorem rX4_originOf {w : Wd} {a1 : Int32} {out : Int32 × Wd} (h0 : fX4_originOf w a1 = some out) : Agree (pU pX4_originOf) w out.2 := by
  have ag0 : Agree (pU pX4_originOf) w w := Agree.rf
  unfold fX4_originOf at h0
  obtain ⟨w1, ew1, h0⟩ := bind_some h0
  have ag2 := ag0.tr (Agree.sub [0, 1, 2, 3, 4, 5, 6, 7] rfl (rX8_setOut ew1))
  obtain ⟨w12, iw12, h0⟩ := bind_some h0
  have ag13 : Agree (pU pX4_originOf) w w12 := by
    refine iter_rule (P := fun s : Int32 × Wd => Agree (pU pX4_originOf) w s.2 → Agree (pU pX4_originOf) w w12) (x := w12) ?_ FU (0, w1) iw12 ag2
    intro s y1 h1 hP1 hX1 agl13
    obtain ⟨l3, w4⟩ := s
    have h1 : fX4_originOf_b13 l3 w4 = some y1 := h1
    have agl13 : Agree (pU pX4_originOf) w w4 := agl13
    unfold fX4_originOf_b13 at h1
    by_cases c10 : (8 : Int32) ≤ l3
    · rw [if_pos c10] at h1
      have e5 := hX1 _ (Option.some.inj h1).symm
      cases e5
      exact agl13
    · rw [if_neg c10] at h1
      obtain ⟨g7, h1⟩ := gd_some h1
      obtain ⟨w6, ew6, h1⟩ := lt_some h1
      have ag8 := agl13.pI ew6 (Or.inr (List.mem_of_getElem? (i := 8) rfl))
      obtain ⟨v9, ev9, h1⟩ := lt_some h1
      exact hP1 (v9, w6) (Option.some.inj h1).symm ag8
  obtain ⟨v14, ev14, h0⟩ := lt_some h0
  obtain ⟨x27, ix27, h0⟩ := bind_some h0
  replace h0 := un2_eq h0
  obtain ⟨l28, w29, rfl, h0⟩ := h0
  have ag30 : Agree (pU pX4_originOf) w w29 := by
    refine iter_rule (P := fun s : Int32 × Int32 × Wd => Agree (pU pX4_originOf) w s.2.2 → Agree (pU pX4_originOf) w w29) (x := (l28, w29)) ?_ FU (v14, 0, w12) ix27 ag13
    intro s y1 h1 hP1 hX1 agl42
    obtain ⟨l15, l16, w17⟩ := s
    have h1 : fX4_originOf_b42 l15 l16 w17 = some y1 := h1
    have agl42 : Agree (pU pX4_originOf) w w17 := agl42
    unfold fX4_originOf_b42 at h1
    by_cases c26 : (w17.1 4 4) ≤ l16
    · rw [if_pos c26] at h1
      have e18 := hX1 _ (Option.some.inj h1).symm
      cases e18
      exact agl42
    · rw [if_neg c26] at h1
      obtain ⟨q21, er20, h1⟩ := bind_some h1
      replace h1 := un2_eq h1
      obtain ⟨r20, w19, rfl, h1⟩ := h1
      have ag22 := agl42.tr (Agree.sub [9, 10, 11] rfl (rX8_minuteAt er20))
      obtain ⟨w23, ew23, h1⟩ := bind_some h1
      have ag24 := ag22.tr (Agree.sub [8] rfl (rX4_handOn ew23))
      obtain ⟨v25, ev25, h1⟩ := lt_some h1
      exact hP1 (r20, v25, w23) (Option.some.inj h1).symm ag24
  by_cases c32 : (fX9_hasBit l28 a1) = 0
  · rw [if_pos c32] at h0
    rw [← Option.some.inj h0]
    exact ag30
  · rw [if_neg c32] at h0
    obtain ⟨g31, h0⟩ := gd_some h0
    rw [← Option.some.inj h0]
    exact ag30
def pX9_flame : List (Nat × Option Nat) := [all_ 12, at_ 4 0, at_ 4 1, at_ 4 2, at_ 4 3, at_ 4 4, all_ 28, all_ 29, all_ 27, all_ 35, at_ 4 5, at_ 4 6, all_ 25]
theorem rX9_flame {w : Wd} {a1 : Int32} {out : Int32 × Wd} (h0 : fX9_flame w a1 = some out) : Agree (pU pX9_flame) w out.2 := by
  have ag0 : Agree (pU pX9_flame) w w := Agree.rf
  unfold fX9_flame at h0
  by_cases c9 : (fX2_hasOne 1 w a1) = 0
  · rw [if_pos c9] at h0
    obtain ⟨q3, er2, h0⟩ := bind_some h0
    replace h0 := un2_eq h0
    obtain ⟨r2, w1, rfl, h0⟩ := h0
    have ag4 := ag0.tr (Agree.sub [0] rfl (rX9_refuse er2))
    rw [← Option.some.inj h0]
    exact ag4
  · rw [if_neg c9] at h0
    obtain ⟨q7, er6, h0⟩ := bind_some h0
    replace h0 := un2_eq h0
    obtain ⟨r6, w5, rfl, h0⟩ := h0
    have ag8 := ag0.tr (Agree.sub [1, 2, 3, 4, 5, 6, 7, 8, 9, 10, 11, 12] rfl (rX4_originOf er6))
    rw [← Option.some.inj h0]
    exact ag8
def pX4_timesOut : List (Nat × Option Nat) := [at_ 4 0, at_ 4 1, at_ 4 2, at_ 4 3, at_ 4 4, all_ 28, all_ 29, all_ 27, at_ 4 5, at_ 4 6, all_ 25]
theorem rX4_timesOut {w : Wd} {a1 : Int32} {out : Int32 × Wd} (h0 : fX4_timesOut w a1 = some out) : Agree (pU pX4_timesOut) w out.2 := by
  have ag0 : Agree (pU pX4_timesOut) w w := Agree.rf
  unfold fX4_timesOut at h0
  obtain ⟨w1, ew1, h0⟩ := bind_some h0
  have ag2 := ag0.tr (Agree.sub [0, 1, 2, 3, 4, 5, 6, 7] rfl (rX8_setOut ew1))
  obtain ⟨v3, ev3, h0⟩ := lt_some h0
  obtain ⟨x18, ix18, h0⟩ := bind_some h0
  replace h0 := un2_eq h0
  obtain ⟨l19, w20, rfl, h0⟩ := h0
  have ag21 : Agree (pU pX4_timesOut) w w20 := by
    refine iter_rule (P := fun s : Int32 × Int32 × Int32 × Wd => Agree (pU pX4_timesOut) w s.2.2.2 → Agree (pU pX4_timesOut) w w20) (x := (l19, w20)) ?_ FU (0, v3, 0, w1) ix18 ag2
    intro s y1 h1 hP1 hX1 agl24
    obtain ⟨l4, l5, l6, w7⟩ := s
    have h1 : fX4_timesOut_b24 a1 l4 l5 l6 w7 = some y1 := h1
    have agl24 : Agree (pU pX4_timesOut) w w7 := agl24
    unfold fX4_timesOut_b24 at h1
    by_cases c17 : (w7.1 4 4) ≤ l6
    · rw [if_pos c17] at h1
      have e8 := hX1 _ (Option.some.inj h1).symm
      cases e8
      exact agl24
    · rw [if_neg c17] at h1
      obtain ⟨q11, er10, h1⟩ := bind_some h1
      replace h1 := un2_eq h1
      obtain ⟨r10, w9, rfl, h1⟩ := h1
      have ag12 := agl24.tr (Agree.sub [8, 9, 10] rfl (rX8_minuteAt er10))
      by_cases c16 : (fX9_hasBit (w9.1 4 5) a1) = 0
      · rw [if_pos c16] at h1
        obtain ⟨v13, ev13, h1⟩ := lt_some h1
        exact hP1 (l4, r10, v13, w9) (Option.some.inj h1).symm ag12
      · rw [if_neg c16] at h1
        obtain ⟨v14, ev14, h1⟩ := lt_some h1
        obtain ⟨v15, ev15, h1⟩ := lt_some h1
        exact hP1 (v14, r10, v15, w9) (Option.some.inj h1).symm ag12
  rw [← Option.some.inj h0]
  exact ag21
def pX9_out : List (Nat × Option Nat) := [all_ 12, at_ 4 0, at_ 4 1, at_ 4 2, at_ 4 3, at_ 4 4, all_ 28, all_ 29, all_ 27, at_ 4 5, at_ 4 6, all_ 25]
theorem rX9_out {w : Wd} {a1 : Int32} {out : Int32 × Wd} (h0 : fX9_out w a1 = some out) : Agree (pU pX9_out) w out.2 := by
  have ag0 : Agree (pU pX9_out) w w := Agree.rf
  unfold fX9_out at h0
  by_cases c9 : (fX2_hasOne 1 w a1) = 0
  · rw [if_pos c9] at h0
    obtain ⟨q3, er2, h0⟩ := bind_some h0
    replace h0 := un2_eq h0
    obtain ⟨r2, w1, rfl, h0⟩ := h0
    have ag4 := ag0.tr (Agree.sub [0] rfl (rX9_refuse er2))
    rw [← Option.some.inj h0]
    exact ag4
  · rw [if_neg c9] at h0
    obtain ⟨q7, er6, h0⟩ := bind_some h0
    replace h0 := un2_eq h0
    obtain ⟨r6, w5, rfl, h0⟩ := h0
    have ag8 := ag0.tr (Agree.sub [1, 2, 3, 4, 5, 6, 7, 8, 9, 10, 11] rfl (rX4_timesOut er6))
    rw [← Option.some.inj h0]
    exact ag8
def pX4_timesLit : List (Nat × Option Nat) := [at_ 4 0, at_ 4 1, at_ 4 2, at_ 4 3, at_ 4 4, all_ 28, all_ 29, all_ 27, at_ 4 5, at_ 4 6, all_ 25]
theorem rX4_timesLit {w : Wd} {out : Int32 × Wd} (h0 : fX4_timesLit w = some out) : Agree (pU pX4_timesLit) w out.2 := by
  have ag0 : Agree (pU pX4_timesLit) w w := Agree.rf
  unfold fX4_timesLit at h0
  obtain ⟨w1, ew1, h0⟩ := bind_some h0
  have ag2 := ag0.tr (Agree.sub [0, 1, 2, 3, 4, 5, 6, 7] rfl (rX8_setOut ew1))
  obtain ⟨v3, ev3, h0⟩ := lt_some h0
  obtain ⟨x16, ix16, h0⟩ := bind_some h0
  replace h0 := un2_eq h0
  obtain ⟨l17, w18, rfl, h0⟩ := h0
  have ag19 : Agree (pU pX4_timesLit) w w18 := by
    refine iter_rule (P := fun s : Int32 × Int32 × Int32 × Wd => Agree (pU pX4_timesLit) w s.2.2.2 → Agree (pU pX4_timesLit) w w18) (x := (l17, w18)) ?_ FU (0, v3, 0, w1) ix16 ag2
    intro s y1 h1 hP1 hX1 agl23
    obtain ⟨l4, l5, l6, w7⟩ := s
    have h1 : fX4_timesLit_b23 l4 l5 l6 w7 = some y1 := h1
    have agl23 : Agree (pU pX4_timesLit) w w7 := agl23
    unfold fX4_timesLit_b23 at h1
    by_cases c15 : (w7.1 4 4) ≤ l6
    · rw [if_pos c15] at h1
      have e8 := hX1 _ (Option.some.inj h1).symm
      cases e8
      exact agl23
    · rw [if_neg c15] at h1
      obtain ⟨q11, er10, h1⟩ := bind_some h1
      replace h1 := un2_eq h1
      obtain ⟨r10, w9, rfl, h1⟩ := h1
      have ag12 := agl23.tr (Agree.sub [8, 9, 10] rfl (rX8_minuteAt er10))
      obtain ⟨v13, ev13, h1⟩ := lt_some h1
      obtain ⟨v14, ev14, h1⟩ := lt_some h1
      exact hP1 (v13, r10, v14, w9) (Option.some.inj h1).symm ag12
  rw [← Option.some.inj h0]
  exact ag19
def pX9_again : List (Nat × Option Nat) := [at_ 4 0, at_ 4 1, at_ 4 2, at_ 4 3, at_ 4 4, all_ 28, all_ 29, all_ 27, at_ 4 5, at_ 4 6, all_ 25]
theorem rX9_again {w : Wd} {out : Int32 × Wd} (h0 : fX9_again w = some out) : Agree (pU pX9_again) w out.2 := by
  have ag0 : Agree (pU pX9_again) w w := Agree.rf
  unfold fX9_again at h0
  obtain ⟨q3, er2, h0⟩ := bind_some h0
  replace h0 := un2_eq h0
  obtain ⟨r2, w1, rfl, h0⟩ := h0
  have ag4 := ag0.tr (Agree.sub [0, 1, 2, 3, 4, 5, 6, 7, 8, 9, 10] rfl (rX4_timesLit er2))
  rw [← Option.some.inj h0]
  exact ag4
def pX1_fillGame : List (Nat × Option Nat) := [at_ 3 0, at_ 3 1, at_ 3 2, at_ 3 3, at_ 3 4, at_ 3 5, at_ 3 6, all_ (9 + 4 * 3), all_ (10 + 4 * 3), all_ (11 + 4 * 3), all_ (12 + 4 * 3), at_ 4 0, at_ 4 1, at_ 4 2, at_ 4 3, at_ 4 4, all_ 28, all_ 29, all_ 27, at_ 4 6, all_ 25, all_ 38]
theorem rX1_fillGame {w : Wd} {out : Wd} (h0 : fX1_fillGame w = some out) : Agree (pU pX1_fillGame) w out := by
  have ag0 : Agree (pU pX1_fillGame) w w := Agree.rf
  unfold fX1_fillGame at h0
  obtain ⟨w1, ew1, h0⟩ := lt_some h0
  have ag2 := ag0.tr (Agree.sub [0, 1, 2, 3, 4, 5, 6, 7, 8, 9, 10] rfl (rX2_takeFrom ew1.symm))
  obtain ⟨w28, iw28, h0⟩ := bind_some h0
  have ag29 : Agree (pU pX1_fillGame) w w28 := by
    refine iter_rule (P := fun s : Int32 × Wd => Agree (pU pX1_fillGame) w s.2 → Agree (pU pX1_fillGame) w w28) (x := w28) ?_ FU (0, w1) iw28 ag2
    intro s y1 h1 hP1 hX1 agl13
    obtain ⟨l3, w4⟩ := s
    have h1 : fX1_fillGame_b13 l3 w4 = some y1 := h1
    have agl13 : Agree (pU pX1_fillGame) w w4 := agl13
    unfold fX1_fillGame_b13 at h1
    by_cases c26 : (2 : Int32) < l3
    · rw [if_pos c26] at h1
      have e5 := hX1 _ (Option.some.inj h1).symm
      cases e5
      exact agl13
    · rw [if_neg c26] at h1
      obtain ⟨w23, iw23, h1⟩ := bind_some h1
      have ag24 : Agree (pU pX1_fillGame) w w23 := by
        refine iter_rule (P := fun s : Int32 × Wd => Agree (pU pX1_fillGame) w s.2 → Agree (pU pX1_fillGame) w w23) (x := w23) ?_ FU (0, w4) iw23 agl13
        intro s y2 h2 hP2 hX2 agl20
        obtain ⟨l6, w7⟩ := s
        have h2 : fX1_fillGame_b20 l3 l6 w7 = some y2 := h2
        have agl20 : Agree (pU pX1_fillGame) w w7 := agl20
        unfold fX1_fillGame_b20 at h2
        by_cases c21 : (2 : Int32) < l6
        · rw [if_pos c21] at h2
          have e8 := hX2 _ (Option.some.inj h2).symm
          cases e8
          exact agl20
        · rw [if_neg c21] at h2
          obtain ⟨w9, ew9, h2⟩ := lt_some h2
          have ag10 := agl20.pI ew9 (Or.inl (List.mem_of_getElem? (i := 2) rfl))
          obtain ⟨w11, ew11, h2⟩ := bind_some h2
          have ag12 := ag10.tr (Agree.sub [10] rfl (rX2_blowFrom ew11))
          obtain ⟨q15, er14, h2⟩ := bind_some h2
          replace h2 := un2_eq h2
          obtain ⟨r14, w13, rfl, h2⟩ := h2
          have ag16 := ag12.tr (Agree.sub [11, 12, 13, 14, 15, 16, 17, 18, 19, 20] rfl (rX1_countOf er14))
          obtain ⟨g18, h2⟩ := gd_some h2
          obtain ⟨w17, ew17, h2⟩ := lt_some h2
          have ag19 := ag16.pI ew17 (Or.inr (List.mem_of_getElem? (i := 21) rfl))
          obtain ⟨v20, ev20, h2⟩ := lt_some h2
          exact hP2 (v20, w17) (Option.some.inj h2).symm ag19
      obtain ⟨v25, ev25, h1⟩ := lt_some h1
      exact hP1 (v25, w23) (Option.some.inj h1).symm ag24
  rw [← Option.some.inj h0]
  exact ag29
def pX9_game : List (Nat × Option Nat) := [at_ 3 0, at_ 3 1, at_ 3 2, at_ 3 3, at_ 3 4, at_ 3 5, at_ 3 6, all_ (9 + 4 * 3), all_ (10 + 4 * 3), all_ (11 + 4 * 3), all_ (12 + 4 * 3), at_ 4 0, at_ 4 1, at_ 4 2, at_ 4 3, at_ 4 4, all_ 28, all_ 29, all_ 27, at_ 4 6, all_ 25, all_ 38, all_ 12]
theorem rX9_game {w : Wd} {a1 : Int32} {out : Int32 × Wd} (h0 : fX9_game w a1 = some out) : Agree (pU pX9_game) w out.2 := by
  have ag0 : Agree (pU pX9_game) w w := Agree.rf
  unfold fX9_game at h0
  by_cases c12 : (fX9_isOutside a1 2) = 0
  · rw [if_pos c12] at h0
    obtain ⟨w1, ew1, h0⟩ := bind_some h0
    have ag2 := ag0.tr (Agree.sub [0, 1, 2, 3, 4, 5, 6, 7, 8, 9, 10, 11, 12, 13, 14, 15, 16, 17, 18, 19, 20, 21] rfl (rX1_fillGame ew1))
    by_cases c7 : a1 = 0
    · rw [if_pos c7] at h0
      obtain ⟨r3, er3, h0⟩ := bind_some h0
      rw [← Option.some.inj h0]
      exact ag2
    · rw [if_neg c7] at h0
      by_cases c6 : a1 = 1
      · rw [if_pos c6] at h0
        obtain ⟨r4, er4, h0⟩ := bind_some h0
        rw [← Option.some.inj h0]
        exact ag2
      · rw [if_neg c6] at h0
        obtain ⟨r5, er5, h0⟩ := bind_some h0
        rw [← Option.some.inj h0]
        exact ag2
  · rw [if_neg c12] at h0
    obtain ⟨q10, er9, h0⟩ := bind_some h0
    replace h0 := un2_eq h0
    obtain ⟨r9, w8, rfl, h0⟩ := h0
    have ag11 := ag0.tr (Agree.sub [22] rfl (rX9_refuse er9))
    rw [← Option.some.inj h0]
    exact ag11
def pX1_kindsLit : List (Nat × Option Nat) := [at_ 3 0, at_ 3 1, at_ 3 2, at_ 3 3, at_ 3 4, at_ 3 5, at_ 3 6, all_ (9 + 4 * 3), all_ (10 + 4 * 3), all_ (11 + 4 * 3), all_ (12 + 4 * 3), at_ 4 0, at_ 4 1, at_ 4 2, at_ 4 3, at_ 4 4, all_ 28, all_ 29, all_ 27, at_ 4 6, all_ 25]
theorem rX1_kindsLit {w : Wd} {a1 : Int32} {out : Int32 × Wd} (h0 : fX1_kindsLit w a1 = some out) : Agree (pU pX1_kindsLit) w out.2 := by
  have ag0 : Agree (pU pX1_kindsLit) w w := Agree.rf
  unfold fX1_kindsLit at h0
  obtain ⟨x18, ix18, h0⟩ := bind_some h0
  replace h0 := un2_eq h0
  obtain ⟨l19, w20, rfl, h0⟩ := h0
  have ag21 : Agree (pU pX1_kindsLit) w w20 := by
    refine iter_rule (P := fun s : Int32 × Int32 × Wd => Agree (pU pX1_kindsLit) w s.2.2 → Agree (pU pX1_kindsLit) w w20) (x := (l19, w20)) ?_ FU (0, 0, w) ix18 ag0
    intro s y1 h1 hP1 hX1 agl4
    obtain ⟨l1, l2, w3⟩ := s
    have h1 : fX1_kindsLit_b4 a1 l1 l2 w3 = some y1 := h1
    have agl4 : Agree (pU pX1_kindsLit) w w3 := agl4
    unfold fX1_kindsLit_b4 at h1
    by_cases c17 : (6 : Int32) < l2
    · rw [if_pos c17] at h1
      have e4 := hX1 _ (Option.some.inj h1).symm
      cases e4
      exact agl4
    · rw [if_neg c17] at h1
      obtain ⟨w5, ew5, h1⟩ := lt_some h1
      have ag6 := agl4.tr (Agree.sub [0, 1, 2, 3, 4, 5, 6, 7, 8, 9, 10] rfl (rX2_takeFrom ew5.symm))
      obtain ⟨w7, ew7, h1⟩ := bind_some h1
      have ag8 := ag6.tr (Agree.sub [7, 1] rfl (rX2_become ew7))
      obtain ⟨q11, er10, h1⟩ := bind_some h1
      replace h1 := un2_eq h1
      obtain ⟨r10, w9, rfl, h1⟩ := h1
      have ag12 := ag8.tr (Agree.sub [11, 12, 13, 14, 15, 16, 17, 18, 19, 20] rfl (rX1_doorOf er10))
      by_cases c16 : (fX9_hasBit r10 a1) = 0
      · rw [if_pos c16] at h1
        obtain ⟨v13, ev13, h1⟩ := lt_some h1
        exact hP1 (l1, v13, w9) (Option.some.inj h1).symm ag12
      · rw [if_neg c16] at h1
        obtain ⟨v14, ev14, h1⟩ := lt_some h1
        obtain ⟨v15, ev15, h1⟩ := lt_some h1
        exact hP1 (v14, v15, w9) (Option.some.inj h1).symm ag12
  rw [← Option.some.inj h0]
  exact ag21
def pX9_heirs : List (Nat × Option Nat) := [all_ 12, at_ 3 0, at_ 3 1, at_ 3 2, at_ 3 3, at_ 3 4, at_ 3 5, at_ 3 6, all_ (9 + 4 * 3), all_ (10 + 4 * 3), all_ (11 + 4 * 3), all_ (12 + 4 * 3), at_ 4 0, at_ 4 1, at_ 4 2, at_ 4 3, at_ 4 4, all_ 28, all_ 29, all_ 27, at_ 4 6, all_ 25]
theorem rX9_heirs {w : Wd} {a1 : Int32} {out : Int32 × Wd} (h0 : fX9_heirs w a1 = some out) : Agree (pU pX9_heirs) w out.2 := by
  have ag0 : Agree (pU pX9_heirs) w w := Agree.rf
  unfold fX9_heirs at h0
  by_cases c9 : (fX2_hasOne 1 w a1) = 0
  · rw [if_pos c9] at h0
    obtain ⟨q3, er2, h0⟩ := bind_some h0
    replace h0 := un2_eq h0
    obtain ⟨r2, w1, rfl, h0⟩ := h0
    have ag4 := ag0.tr (Agree.sub [0] rfl (rX9_refuse er2))
    rw [← Option.some.inj h0]
    exact ag4
  · rw [if_neg c9] at h0
    obtain ⟨q7, er6, h0⟩ := bind_some h0
    replace h0 := un2_eq h0
    obtain ⟨r6, w5, rfl, h0⟩ := h0
    have ag8 := ag0.tr (Agree.sub [1, 2, 3, 4, 5, 6, 7, 8, 9, 10, 11, 12, 13, 14, 15, 16, 17, 18, 19, 20, 21] rfl (rX1_kindsLit er6))
    rw [← Option.some.inj h0]
    exact ag8
def pX4_findGap : List (Nat × Option Nat) := [at_ 4 0, at_ 4 1, at_ 4 2, at_ 4 3, at_ 4 4, all_ 28, all_ 29, all_ 27, all_ 26, at_ 4 5, at_ 4 6, all_ 25, at_ 8 2, at_ 8 3]
theorem rX4_findGap {w : Wd} {out : Wd} (h0 : fX4_findGap w = some out) : Agree (pU pX4_findGap) w out := by
  have ag0 : Agree (pU pX4_findGap) w w := Agree.rf
  unfold fX4_findGap at h0
  obtain ⟨w1, ew1, h0⟩ := bind_some h0
  have ag2 := ag0.tr (Agree.sub [0, 1, 2, 3, 4, 5, 6, 7, 8, 9, 10, 11] rfl (rX4_walkFromNow ew1))
  obtain ⟨w3, ew3, h0⟩ := lt_some h0
  have ag4 := ag2.pI ew3 (Or.inl (List.mem_of_getElem? (i := 12) rfl))
  obtain ⟨w5, ew5, h0⟩ := lt_some h0
  have ag6 := ag4.pI ew5 (Or.inl (List.mem_of_getElem? (i := 13) rfl))
  obtain ⟨w21, iw21, h0⟩ := bind_some h0
  have ag22 : Agree (pU pX4_findGap) w w21 := by
    refine iter_rule (P := fun s : Int32 × Wd => Agree (pU pX4_findGap) w s.2 → Agree (pU pX4_findGap) w w21) (x := w21) ?_ FU (1, w5) iw21 ag6
    intro s y1 h1 hP1 hX1 agl17
    obtain ⟨l7, w8⟩ := s
    have h1 : fX4_findGap_b17 l7 w8 = some y1 := h1
    have agl17 : Agree (pU pX4_findGap) w w8 := agl17
    unfold fX4_findGap_b17 at h1
    by_cases c19 : (w8.1 4 4) < l7
    · rw [if_pos c19] at h1
      have e9 := hX1 _ (Option.some.inj h1).symm
      cases e9
      exact agl17
    · rw [if_neg c19] at h1
      obtain ⟨g10, h1⟩ := gd_some h1
      obtain ⟨r11, er11, h1⟩ := bind_some h1
      by_cases c18 : r11 ≤ (w8.1 8 2)
      · rw [if_pos c18] at h1
        obtain ⟨v12, ev12, h1⟩ := lt_some h1
        exact hP1 (v12, w8) (Option.some.inj h1).symm agl17
      · rw [if_neg c18] at h1
        obtain ⟨w13, ew13, h1⟩ := lt_some h1
        have ag14 := agl17.pI ew13 (Or.inl (List.mem_of_getElem? (i := 12) rfl))
        obtain ⟨w15, ew15, h1⟩ := lt_some h1
        have ag16 := ag14.pI ew15 (Or.inl (List.mem_of_getElem? (i := 13) rfl))
        obtain ⟨v17, ev17, h1⟩ := lt_some h1
        exact hP1 (v17, w15) (Option.some.inj h1).symm ag16
  rw [← Option.some.inj h0]
  exact ag22
def pX9_gaps : List (Nat × Option Nat) := [at_ 4 0, at_ 4 1, at_ 4 2, at_ 4 3, at_ 4 4, all_ 28, all_ 29, all_ 27, all_ 26, at_ 4 5, at_ 4 6, all_ 25, at_ 8 2, at_ 8 3, all_ 12]
theorem rX9_gaps {w : Wd} {a1 : Int32} {out : Int32 × Wd} (h0 : fX9_gaps w a1 = some out) : Agree (pU pX9_gaps) w out.2 := by
  have ag0 : Agree (pU pX9_gaps) w w := Agree.rf
  unfold fX9_gaps at h0
  by_cases c8 : (fX9_isOutside a1 1) = 0
  · rw [if_pos c8] at h0
    obtain ⟨w1, ew1, h0⟩ := bind_some h0
    have ag2 := ag0.tr (Agree.sub [0, 1, 2, 3, 4, 5, 6, 7, 8, 9, 10, 11, 12, 13] rfl (rX4_findGap ew1))
    by_cases c3 : a1 = 0
    · rw [if_pos c3] at h0
      rw [← Option.some.inj h0]
      exact ag2
    · rw [if_neg c3] at h0
      rw [← Option.some.inj h0]
      exact ag2
  · rw [if_neg c8] at h0
    obtain ⟨q6, er5, h0⟩ := bind_some h0
    replace h0 := un2_eq h0
    obtain ⟨r5, w4, rfl, h0⟩ := h0
    have ag7 := ag0.tr (Agree.sub [14] rfl (rX9_refuse er5))
    rw [← Option.some.inj h0]
    exact ag7
def pX6_hasOneMatch : List (Nat × Option Nat) := [at_ 4 6, all_ 25, at_ 4 5, all_ 36]
theorem rX6_hasOneMatch {w : Wd} {a1 : Int32} {a2 : Int32} {a3 : Int32} {out : Int32 × Wd} (h0 : fX6_hasOneMatch w a1 a2 a3 = some out) : Agree (pU pX6_hasOneMatch) w out.2 := by
  have ag0 : Agree (pU pX6_hasOneMatch) w w := Agree.rf
  unfold fX6_hasOneMatch at h0
  refine iter_rule (P := fun s : Int32 × Int32 × Wd => Agree (pU pX6_hasOneMatch) w s.2.2 → Agree (pU pX6_hasOneMatch) w out.2) (x := out) ?_ FU (a2, a1, w) h0 ag0
  intro s y1 h1 hP1 hX1 agl6
  obtain ⟨l1, l2, w3⟩ := s
  have h1 : fX6_hasOneMatch_b6 a3 l1 l2 w3 = some y1 := h1
  have agl6 : Agree (pU pX6_hasOneMatch) w w3 := agl6
  unfold fX6_hasOneMatch_b6 at h1
  by_cases c17 : (w3.1 4 4) ≤ l2
  · rw [if_pos c17] at h1
    have h0 := congrArg some (hX1 _ (Option.some.inj h1).symm)
    rw [← Option.some.inj h0]
    exact agl6
  · rw [if_neg c17] at h1
    obtain ⟨q6, er5, h1⟩ := bind_some h1
    replace h1 := un2_eq h1
    obtain ⟨r5, w4, rfl, h1⟩ := h1
    have ag7 := agl6.tr (Agree.sub [0, 1] rfl (rX8_atDoorFrom er5))
    by_cases c16 : r5 = 0
    · rw [if_pos c16] at h1
      obtain ⟨q10, er9, h1⟩ := bind_some h1
      replace h1 := un2_eq h1
      obtain ⟨r9, w8, rfl, h1⟩ := h1
      have ag11 := ag7.tr (Agree.sub [2, 0, 1] rfl (rX8_minuteAt er9))
      obtain ⟨v12, ev12, h1⟩ := lt_some h1
      exact hP1 (r9, v12, w8) (Option.some.inj h1).symm ag11
    · rw [if_neg c16] at h1
      obtain ⟨g14, h1⟩ := gd_some h1
      obtain ⟨w13, ew13, h1⟩ := lt_some h1
      have ag15 := ag7.pI ew13 (Or.inr (List.mem_of_getElem? (i := 3) rfl))
      have h0 := congrArg some (hX1 _ (Option.some.inj h1).symm)
      rw [← Option.some.inj h0]
      exact ag15
def pX6_hasTwoMatches : List (Nat × Option Nat) := [at_ 4 5, at_ 4 6, all_ 25, all_ 36]
theorem rX6_hasTwoMatches {w : Wd} {a1 : Int32} {a2 : Int32} {a3 : Int32} {out : Int32 × Wd} (h0 : fX6_hasTwoMatches w a1 a2 a3 = some out) : Agree (pU pX6_hasTwoMatches) w out.2 := by
  have ag0 : Agree (pU pX6_hasTwoMatches) w w := Agree.rf
  unfold fX6_hasTwoMatches at h0
  refine iter_rule (P := fun s : Int32 × Int32 × Wd => Agree (pU pX6_hasTwoMatches) w s.2.2 → Agree (pU pX6_hasTwoMatches) w out.2) (x := out) ?_ FU (a2, a1, w) h0 ag0
  intro s y1 h1 hP1 hX1 agl6
  obtain ⟨l1, l2, w3⟩ := s
  have h1 : fX6_hasTwoMatches_b6 a3 l1 l2 w3 = some y1 := h1
  have agl6 : Agree (pU pX6_hasTwoMatches) w w3 := agl6
  unfold fX6_hasTwoMatches_b6 at h1
  by_cases c21 : (w3.1 4 4) ≤ l2
  · rw [if_pos c21] at h1
    have h0 := congrArg some (hX1 _ (Option.some.inj h1).symm)
    rw [← Option.some.inj h0]
    exact agl6
  · rw [if_neg c21] at h1
    obtain ⟨q6, er5, h1⟩ := bind_some h1
    replace h1 := un2_eq h1
    obtain ⟨r5, w4, rfl, h1⟩ := h1
    have ag7 := agl6.tr (Agree.sub [0, 1, 2] rfl (rX8_minuteAt er5))
    obtain ⟨q10, er9, h1⟩ := bind_some h1
    replace h1 := un2_eq h1
    obtain ⟨r9, w8, rfl, h1⟩ := h1
    have ag11 := ag7.tr (Agree.sub [1, 2, 0, 3] rfl (rX6_hasOneMatch er9))
    by_cases c20 : r9 = 0
    · rw [if_pos c20] at h1
      obtain ⟨q14, er13, h1⟩ := bind_some h1
      replace h1 := un2_eq h1
      obtain ⟨r13, w12, rfl, h1⟩ := h1
      have ag15 := ag11.tr (Agree.sub [0, 1, 2] rfl (rX8_minuteAt er13))
      obtain ⟨v16, ev16, h1⟩ := lt_some h1
      exact hP1 (r13, v16, w12) (Option.some.inj h1).symm ag15
    · rw [if_neg c20] at h1
      obtain ⟨g18, h1⟩ := gd_some h1
      obtain ⟨w17, ew17, h1⟩ := lt_some h1
      have ag19 := ag11.pI ew17 (Or.inr (List.mem_of_getElem? (i := 3) rfl))
      have h0 := congrArg some (hX1 _ (Option.some.inj h1).symm)
      rw [← Option.some.inj h0]
      exact ag19
def pX6_fewestMatches : List (Nat × Option Nat) := [at_ 4 0, at_ 4 1, at_ 4 2, at_ 4 3, at_ 4 4, all_ 28, all_ 29, all_ 27, all_ 26, at_ 4 5, at_ 4 6, all_ 25, all_ 36]
theorem rX6_fewestMatches {w : Wd} {out : Int32 × Wd} (h0 : fX6_fewestMatches w = some out) : Agree (pU pX6_fewestMatches) w out.2 := by
  have ag0 : Agree (pU pX6_fewestMatches) w w := Agree.rf
  unfold fX6_fewestMatches at h0
  obtain ⟨q3, er2, h0⟩ := bind_some h0
  replace h0 := un2_eq h0
  obtain ⟨r2, w1, rfl, h0⟩ := h0
  have ag4 := ag0.tr (Agree.sub [0, 1, 2, 3, 4, 5, 6, 7, 8, 9, 10, 11] rfl (rX6_startFromNow er2))
  by_cases c31 : r2 ≤ 0
  · rw [if_pos c31] at h0
    obtain ⟨q7, er6, h0⟩ := bind_some h0
    replace h0 := un2_eq h0
    obtain ⟨r6, w5, rfl, h0⟩ := h0
    have ag8 := ag4.tr (Agree.sub [10, 11, 9, 12] rfl (rX6_hasOneMatch er6))
    by_cases c30 : r6 = 0
    · rw [if_pos c30] at h0
      obtain ⟨q11, er10, h0⟩ := bind_some h0
      replace h0 := un2_eq h0
      obtain ⟨r10, w9, rfl, h0⟩ := h0
      have ag12 := ag8.tr (Agree.sub [9, 10, 11, 12] rfl (rX6_hasTwoMatches er10))
      by_cases c29 : r10 = 0
      · rw [if_pos c29] at h0
        refine iter_rule (P := fun s : Int32 × Wd => Agree (pU pX6_fewestMatches) w s.2 → Agree (pU pX6_fewestMatches) w out.2) (x := out) ?_ FU (0, w9) h0 ag12
        intro s y1 h1 hP1 hX1 agl47
        obtain ⟨l13, w14⟩ := s
        have h1 : fX6_fewestMatches_b47 l13 w14 = some y1 := h1
        have agl47 : Agree (pU pX6_fewestMatches) w w14 := agl47
        unfold fX6_fewestMatches_b47 at h1
        by_cases c28 : (w14.1 4 4) ≤ l13
        · rw [if_pos c28] at h1
          have h0 := congrArg some (hX1 _ (Option.some.inj h1).symm)
          rw [← Option.some.inj h0]
          exact agl47
        · rw [if_neg c28] at h1
          obtain ⟨g15, h1⟩ := gd_some h1
          obtain ⟨q18, er17, h1⟩ := bind_some h1
          replace h1 := un2_eq h1
          obtain ⟨r17, w16, rfl, h1⟩ := h1
          have ag19 := agl47.tr (Agree.sub [9, 10, 11] rfl (rX8_minuteAt er17))
          obtain ⟨q22, er21, h1⟩ := bind_some h1
          replace h1 := un2_eq h1
          obtain ⟨r21, w20, rfl, h1⟩ := h1
          have ag23 := ag19.tr (Agree.sub [9, 10, 11, 12] rfl (rX6_hasTwoMatches er21))
          by_cases c27 : r21 = 0
          · rw [if_pos c27] at h1
            obtain ⟨v24, ev24, h1⟩ := lt_some h1
            exact hP1 (v24, w20) (Option.some.inj h1).symm ag23
          · rw [if_neg c27] at h1
            obtain ⟨w25, ew25, h1⟩ := lt_some h1
            have ag26 := ag23.pI ew25 (Or.inr (List.mem_of_getElem? (i := 12) rfl))
            have h0 := congrArg some (hX1 _ (Option.some.inj h1).symm)
            rw [← Option.some.inj h0]
            exact ag26
      · rw [if_neg c29] at h0
        rw [← Option.some.inj h0]
        exact ag12
    · rw [if_neg c30] at h0
      rw [← Option.some.inj h0]
      exact ag8
  · rw [if_neg c31] at h0
    rw [← Option.some.inj h0]
    exact ag4
def pX9_matches : List (Nat × Option Nat) := [at_ 4 0, at_ 4 1, at_ 4 2, at_ 4 3, at_ 4 4, all_ 28, all_ 29, all_ 27, all_ 26, at_ 4 5, at_ 4 6, all_ 25, all_ 36, all_ 12]
theorem rX9_matches {w : Wd} {a1 : Int32} {out : Int32 × Wd} (h0 : fX9_matches w a1 = some out) : Agree (pU pX9_matches) w out.2 := by
  have ag0 : Agree (pU pX9_matches) w w := Agree.rf
  unfold fX9_matches at h0
  by_cases c13 : ((-1) : Int32) ≤ a1
  · rw [if_pos c13] at h0
    obtain ⟨q3, er2, h0⟩ := bind_some h0
    replace h0 := un2_eq h0
    obtain ⟨r2, w1, rfl, h0⟩ := h0
    have ag4 := ag0.tr (Agree.sub [0, 1, 2, 3, 4, 5, 6, 7, 8, 9, 10, 11, 12] rfl (rX6_fewestMatches er2))
    by_cases c8 : a1 = (-1)
    · rw [if_pos c8] at h0
      rw [← Option.some.inj h0]
      exact ag4
    · rw [if_neg c8] at h0
      by_cases c7 : r2 ≤ a1
      · rw [if_pos c7] at h0
        rw [← Option.some.inj h0]
        exact ag4
      · rw [if_neg c7] at h0
        by_cases c6 : (3 : Int32) ≤ a1
        · rw [if_pos c6] at h0
          rw [← Option.some.inj h0]
          exact ag4
        · rw [if_neg c6] at h0
          obtain ⟨g5, h0⟩ := gd_some h0
          rw [← Option.some.inj h0]
          exact ag4
  · rw [if_neg c13] at h0
    obtain ⟨q11, er10, h0⟩ := bind_some h0
    replace h0 := un2_eq h0
    obtain ⟨r10, w9, rfl, h0⟩ := h0
    have ag12 := ag0.tr (Agree.sub [13] rfl (rX9_refuse er10))
    rw [← Option.some.inj h0]
    exact ag12
def pX9_image : List (Nat × Option Nat) := [at_ 2 0, at_ 2 1, at_ 2 2, at_ 2 3, at_ 2 4, at_ 2 5, at_ 2 6, all_ (9 + 4 * 2), all_ (10 + 4 * 2), all_ (11 + 4 * 2), all_ (12 + 4 * 2), at_ 0 2]
theorem rX9_image {w : Wd} {out : Int32 × Wd} (h0 : fX9_image w = out) : Agree (pU pX9_image) w out.2 := by
  have ag0 : Agree (pU pX9_image) w w := Agree.rf
  unfold fX9_image at h0
  obtain ⟨w1, ew1, h0⟩ := lt_some h0
  have ag2 := ag0.tr (Agree.sub [0, 1, 2, 3, 4, 5, 6, 7, 8, 9, 10] rfl (rX2_takeFrom ew1.symm))
  obtain ⟨w3, ew3, h0⟩ := lt_some h0
  have ag4 := ag2.pI ew3 (Or.inl (List.mem_of_getElem? (i := 11) rfl))
  rw [← h0]
  exact ag4
def pX9_restore : List (Nat × Option Nat) := [all_ 12, at_ 1 0, at_ 1 1, at_ 1 2, at_ 1 3, at_ 1 4, at_ 1 5, at_ 1 6, all_ (9 + 4 * 1), all_ (10 + 4 * 1), all_ (11 + 4 * 1), all_ (12 + 4 * 1), at_ 5 0]
theorem rX9_restore {w : Wd} {out : Int32 × Wd} (h0 : fX9_restore w = some out) : Agree (pU pX9_restore) w out.2 := by
  have ag0 : Agree (pU pX9_restore) w w := Agree.rf
  unfold fX9_restore at h0
  by_cases c9 : (w.1 0 2) = 0
  · rw [if_pos c9] at h0
    obtain ⟨q3, er2, h0⟩ := bind_some h0
    replace h0 := un2_eq h0
    obtain ⟨r2, w1, rfl, h0⟩ := h0
    have ag4 := ag0.tr (Agree.sub [0] rfl (rX9_refuse er2))
    rw [← Option.some.inj h0]
    exact ag4
  · rw [if_neg c9] at h0
    obtain ⟨w5, ew5, h0⟩ := lt_some h0
    have ag6 := ag0.tr (Agree.sub [1, 2, 3, 4, 5, 6, 7, 8, 9, 10, 11] rfl (rX2_takeFrom ew5.symm))
    obtain ⟨w7, ew7, h0⟩ := lt_some h0
    have ag8 := ag6.tr (Agree.sub [12] rfl (rX5_forget ew7.symm))
    rw [← Option.some.inj h0]
    exact ag8
def pX10_no : List (Nat × Option Nat) := [all_ 43]
theorem rX10_no {w : Wd} {a1 : Int32} {out : Int32 × Wd} (h0 : fX10_no w a1 = some out) : Agree (pU pX10_no) w out.2 := by
  have ag0 : Agree (pU pX10_no) w w := Agree.rf
  unfold fX10_no at h0
  obtain ⟨g1, h0⟩ := gd_some h0
  obtain ⟨w2, ew2, h0⟩ := lt_some h0
  have ag3 := ag0.pI ew2 (Or.inr (List.mem_of_getElem? (i := 0) rfl))
  rw [← Option.some.inj h0]
  exact ag3
def pX10_feed : List (Nat × Option Nat) := [all_ 49, at_ 42 14, all_ 43]
theorem rX10_feed {w : Wd} {a1 : Int32} {out : Int32 × Wd} (h0 : fX10_feed w a1 = some out) : Agree (pU pX10_feed) w out.2 := by
  have ag0 : Agree (pU pX10_feed) w w := Agree.rf
  unfold fX10_feed at h0
  have J25 : ∀ (w3 : Wd) (l2 : Int32), fX10_feed_j25 a1 w3 l2 = some out → Agree (pU pX10_feed) w w3 → Agree (pU pX10_feed) w out.2 := by
    intro w3 l2 h0 agj
    unfold fX10_feed_j25 at h0
    by_cases c13 : l2 = 0
    · rw [if_pos c13] at h0
      obtain ⟨g5, h0⟩ := gd_some h0
      obtain ⟨w4, ew4, h0⟩ := lt_some h0
      have ag6 := agj.pI ew4 (Or.inr (List.mem_of_getElem? (i := 0) rfl))
      obtain ⟨w7, ew7, h0⟩ := lt_some h0
      have ag8 := ag6.pI ew7 (Or.inl (List.mem_of_getElem? (i := 1) rfl))
      rw [← Option.some.inj h0]
      exact ag8
    · rw [if_neg c13] at h0
      obtain ⟨q11, er10, h0⟩ := bind_some h0
      replace h0 := un2_eq h0
      obtain ⟨r10, w9, rfl, h0⟩ := h0
      have ag12 := agj.tr (Agree.sub [2] rfl (rX10_no er10))
      rw [← Option.some.inj h0]
      exact ag12
  obtain ⟨v1, ev1, h0⟩ := lt_some h0
  by_cases c15 : v1 = 0
  · rw [if_pos c15] at h0
    by_cases c14 : (w.1 42 14) = 96
    · rw [if_pos c14] at h0
      exact J25 w (-6) h0 ag0
    · rw [if_neg c14] at h0
      exact J25 w v1 h0 ag0
  · rw [if_neg c15] at h0
    exact J25 w v1 h0 ag0
def pX10_readsDigits : List (Nat × Option Nat) := [all_ 52, at_ 42 15]
theorem rX10_readsDigits {w : Wd} {a1 : Int32} {a2 : Int32} {out : Int32 × Wd} (h0 : fX10_readsDigits w a1 a2 = some out) : Agree (pU pX10_readsDigits) w out.2 := by
  have ag0 : Agree (pU pX10_readsDigits) w w := Agree.rf
  unfold fX10_readsDigits at h0
  refine iter_rule (P := fun s : Int32 × Int32 × Wd => Agree (pU pX10_readsDigits) w s.2.2 → Agree (pU pX10_readsDigits) w out.2) (x := out) ?_ FU (0, 0, w) h0 ag0
  intro s y1 h1 hP1 hX1 agl5
  obtain ⟨l1, l2, w3⟩ := s
  have h1 : fX10_readsDigits_b5 a2 a1 l1 l2 w3 = some y1 := h1
  have agl5 : Agree (pU pX10_readsDigits) w w3 := agl5
  unfold fX10_readsDigits_b5 at h1
  by_cases c14 : a2 ≤ l2
  · rw [if_pos c14] at h1
    obtain ⟨g5, h1⟩ := gd_some h1
    obtain ⟨w4, ew4, h1⟩ := lt_some h1
    have ag6 := agl5.pI ew4 (Or.inr (List.mem_of_getElem? (i := 0) rfl))
    have h0 := congrArg some (hX1 _ (Option.some.inj h1).symm)
    rw [← Option.some.inj h0]
    exact ag6
  · rw [if_neg c14] at h1
    obtain ⟨r7, er7, h1⟩ := bind_some h1
    by_cases c13 : (fX10_isIn r7 48 57) = 0
    · rw [if_pos c13] at h1
      have h0 := congrArg some (hX1 _ (Option.some.inj h1).symm)
      rw [← Option.some.inj h0]
      exact agl5
    · rw [if_neg c13] at h1
      obtain ⟨r8, er8, h1⟩ := bind_some h1
      obtain ⟨v9, ev9, h1⟩ := lt_some h1
      obtain ⟨w10, ew10, h1⟩ := lt_some h1
      have ag11 := agl5.pI ew10 (Or.inl (List.mem_of_getElem? (i := 1) rfl))
      obtain ⟨v12, ev12, h1⟩ := lt_some h1
      exact hP1 (v9, v12, w10) (Option.some.inj h1).symm ag11
def pX10_readsAll : List (Nat × Option Nat) := [all_ 52, at_ 42 15]
theorem rX10_readsAll {w : Wd} {a1 : Int32} {a2 : Int32} {out : Int32 × Wd} (h0 : fX10_readsAll w a1 a2 = some out) : Agree (pU pX10_readsAll) w out.2 := by
  have ag0 : Agree (pU pX10_readsAll) w w := Agree.rf
  unfold fX10_readsAll at h0
  by_cases c1 : a1 = 100
  · rw [if_pos c1] at h0
    obtain ⟨q4, er3, h0⟩ := bind_some h0
    replace h0 := un2_eq h0
    obtain ⟨r3, w2, rfl, h0⟩ := h0
    have ag5 := ag0.tr (Agree.sub [0, 1] rfl (rX10_readsDigits er3))
    obtain ⟨g6, h0⟩ := gd_some h0
    rw [← Option.some.inj h0]
    exact ag5
  rw [if_neg c1] at h0
  by_cases c7 : a1 = 102
  · rw [if_pos c7] at h0
    obtain ⟨q10, er9, h0⟩ := bind_some h0
    replace h0 := un2_eq h0
    obtain ⟨r9, w8, rfl, h0⟩ := h0
    have ag11 := ag0.tr (Agree.sub [0, 1] rfl (rX10_readsDigits er9))
    by_cases c17 : r9 = 0
    · rw [if_pos c17] at h0
      rw [← Option.some.inj h0]
      exact ag11
    · rw [if_neg c17] at h0
      obtain ⟨q14, er13, h0⟩ := bind_some h0
      replace h0 := un2_eq h0
      obtain ⟨r13, w12, rfl, h0⟩ := h0
      have ag15 := ag11.tr (Agree.sub [0, 1] rfl (rX10_readsDigits er13))
      by_cases c16 : r13 = 0
      · rw [if_pos c16] at h0
        rw [← Option.some.inj h0]
        exact ag15
      · rw [if_neg c16] at h0
        rw [← Option.some.inj h0]
        exact ag15
  rw [if_neg c7] at h0
  by_cases c18 : a1 = 112
  · rw [if_pos c18] at h0
    obtain ⟨q21, er20, h0⟩ := bind_some h0
    replace h0 := un2_eq h0
    obtain ⟨r20, w19, rfl, h0⟩ := h0
    have ag22 := ag0.tr (Agree.sub [0, 1] rfl (rX10_readsDigits er20))
    by_cases c33 : r20 = 0
    · rw [if_pos c33] at h0
      rw [← Option.some.inj h0]
      exact ag22
    · rw [if_neg c33] at h0
      obtain ⟨q25, er24, h0⟩ := bind_some h0
      replace h0 := un2_eq h0
      obtain ⟨r24, w23, rfl, h0⟩ := h0
      have ag26 := ag22.tr (Agree.sub [0, 1] rfl (rX10_readsDigits er24))
      by_cases c32 : r24 = 0
      · rw [if_pos c32] at h0
        rw [← Option.some.inj h0]
        exact ag26
      · rw [if_neg c32] at h0
        obtain ⟨q29, er28, h0⟩ := bind_some h0
        replace h0 := un2_eq h0
        obtain ⟨r28, w27, rfl, h0⟩ := h0
        have ag30 := ag26.tr (Agree.sub [0, 1] rfl (rX10_readsDigits er28))
        by_cases c31 : r28 = 0
        · rw [if_pos c31] at h0
          rw [← Option.some.inj h0]
          exact ag30
        · rw [if_neg c31] at h0
          rw [← Option.some.inj h0]
          exact ag30
  rw [if_neg c18] at h0
  by_cases c34 : a1 = 119
  · rw [if_pos c34] at h0
    obtain ⟨q37, er36, h0⟩ := bind_some h0
    replace h0 := un2_eq h0
    obtain ⟨r36, w35, rfl, h0⟩ := h0
    have ag38 := ag0.tr (Agree.sub [0, 1] rfl (rX10_readsDigits er36))
    by_cases c49 : r36 = 0
    · rw [if_pos c49] at h0
      rw [← Option.some.inj h0]
      exact ag38
    · rw [if_neg c49] at h0
      obtain ⟨q41, er40, h0⟩ := bind_some h0
      replace h0 := un2_eq h0
      obtain ⟨r40, w39, rfl, h0⟩ := h0
      have ag42 := ag38.tr (Agree.sub [0, 1] rfl (rX10_readsDigits er40))
      by_cases c48 : r40 = 0
      · rw [if_pos c48] at h0
        rw [← Option.some.inj h0]
        exact ag42
      · rw [if_neg c48] at h0
        obtain ⟨q45, er44, h0⟩ := bind_some h0
        replace h0 := un2_eq h0
        obtain ⟨r44, w43, rfl, h0⟩ := h0
        have ag46 := ag42.tr (Agree.sub [0, 1] rfl (rX10_readsDigits er44))
        by_cases c47 : r44 = 0
        · rw [if_pos c47] at h0
          rw [← Option.some.inj h0]
          exact ag46
        · rw [if_neg c47] at h0
          rw [← Option.some.inj h0]
          exact ag46
  rw [if_neg c34] at h0
  obtain ⟨q52, er51, h0⟩ := bind_some h0
  replace h0 := un2_eq h0
  obtain ⟨r51, w50, rfl, h0⟩ := h0
  have ag53 := ag0.tr (Agree.sub [0, 1] rfl (rX10_readsDigits er51))
  obtain ⟨g54, h0⟩ := gd_some h0
  rw [← Option.some.inj h0]
  exact ag53
def pX10_statement : List (Nat × Option Nat) := [all_ 50, all_ 51, at_ 42 15, all_ 52]
theorem rX10_statement {w : Wd} {out : Int32 × Wd} (h0 : fX10_statement w = some out) : Agree (pU pX10_statement) w out.2 := by
  have ag0 : Agree (pU pX10_statement) w w := Agree.rf
  unfold fX10_statement at h0
  have J43 : ∀ (w3 : Wd) (l2 : Int32), fX10_statement_j43 w3 l2 = some out → Agree (pU pX10_statement) w w3 → Agree (pU pX10_statement) w out.2 := by
    intro w3 l2 h0 agj
    unfold fX10_statement_j43 at h0
    obtain ⟨g5, h0⟩ := gd_some h0
    obtain ⟨w4, ew4, h0⟩ := lt_some h0
    have ag6 := agj.pI ew4 (Or.inr (List.mem_of_getElem? (i := 0) rfl))
    obtain ⟨g8, h0⟩ := gd_some h0
    obtain ⟨w7, ew7, h0⟩ := lt_some h0
    have ag9 := ag6.pI ew7 (Or.inr (List.mem_of_getElem? (i := 1) rfl))
    obtain ⟨w10, ew10, h0⟩ := lt_some h0
    have ag11 := ag9.pI ew10 (Or.inl (List.mem_of_getElem? (i := 2) rfl))
    obtain ⟨q14, er13, h0⟩ := bind_some h0
    replace h0 := un2_eq h0
    obtain ⟨r13, w12, rfl, h0⟩ := h0
    have ag15 := ag11.tr (Agree.sub [3, 2] rfl (rX10_readsAll er13))
    by_cases c20 : r13 = 0
    · rw [if_pos c20] at h0
      rw [← Option.some.inj h0]
      exact ag15
    · rw [if_neg c20] at h0
      obtain ⟨r16, er16, h0⟩ := bind_some h0
      by_cases c19 : r16 = 59
      · rw [if_pos c19] at h0
        obtain ⟨w17, ew17, h0⟩ := lt_some h0
        have ag18 := ag15.pI ew17 (Or.inl (List.mem_of_getElem? (i := 2) rfl))
        rw [← Option.some.inj h0]
        exact ag18
      · rw [if_neg c19] at h0
        rw [← Option.some.inj h0]
        exact ag15
  obtain ⟨r1, er1, h0⟩ := bind_some h0
  by_cases c26 : r1 = 112
  · rw [if_pos c26] at h0
    exact J43 w r1 h0 ag0
  · rw [if_neg c26] at h0
    by_cases c25 : r1 = 119
    · rw [if_pos c25] at h0
      exact J43 w r1 h0 ag0
    · rw [if_neg c25] at h0
      by_cases c24 : r1 = 102
      · rw [if_pos c24] at h0
        exact J43 w r1 h0 ag0
      · rw [if_neg c24] at h0
        by_cases c23 : r1 = 100
        · rw [if_pos c23] at h0
          exact J43 w r1 h0 ag0
        · rw [if_neg c23] at h0
          by_cases c22 : r1 = 108
          · rw [if_pos c22] at h0
            exact J43 w r1 h0 ag0
          · rw [if_neg c22] at h0
            by_cases c21 : r1 = 109
            · rw [if_pos c21] at h0
              exact J43 w r1 h0 ag0
            · rw [if_neg c21] at h0
              rw [← Option.some.inj h0]
              exact ag0
def pX10_passes (i1 : Nat) : List (Nat × Option Nat) := [all_ i1, at_ 42 20, all_ 53]
theorem rX10_passes {i1 : Nat} {n1 : Nat} {w : Wd} {out : Wd} (h0 : fX10_passes i1 n1 w = some out) : Agree (pU (pX10_passes i1)) w out := by
  have ag0 : Agree (pU (pX10_passes i1)) w w := Agree.rf
  unfold fX10_passes at h0
  obtain ⟨w20, iw20, h0⟩ := bind_some h0
  have ag21 : Agree (pU (pX10_passes i1)) w w20 := by
    refine iter_rule (P := fun s : Int32 × Wd => Agree (pU (pX10_passes i1)) w s.2 → Agree (pU (pX10_passes i1)) w w20) (x := w20) ?_ FU (0, w) iw20 ag0
    intro s y1 h1 hP1 hX1 agl2
    obtain ⟨l1, w2⟩ := s
    have h1 : fX10_passes_b2 n1 i1 l1 w2 = some y1 := h1
    have agl2 : Agree (pU (pX10_passes i1)) w w2 := agl2
    unfold fX10_passes_b2 at h1
    have J42 : ∀ (w9 : Wd) (l8 : Int32), fX10_passes_j42 w9 l8 = some y1 → Agree (pU (pX10_passes i1)) w w9 → Agree (pU (pX10_passes i1)) w w20 := by
      intro w9 l8 h1 agj
      unfold fX10_passes_j42 at h1
      obtain ⟨w10, ew10, h1⟩ := lt_some h1
      have ag11 := agj.pI ew10 (Or.inl (List.mem_of_getElem? (i := 1) rfl))
      obtain ⟨v12, ev12, h1⟩ := lt_some h1
      exact hP1 (v12, w10) (Option.some.inj h1).symm ag11
    by_cases c18 : (Int32.ofNat n1) ≤ l1
    · rw [if_pos c18] at h1
      have e3 := hX1 _ (Option.some.inj h1).symm
      cases e3
      exact agl2
    · rw [if_neg c18] at h1
      by_cases c17 : (w2.1 42 19) = 0
      · rw [if_pos c17] at h1
        obtain ⟨g4, h1⟩ := gd_some h1
        obtain ⟨g6, h1⟩ := gd_some h1
        obtain ⟨w5, ew5, h1⟩ := lt_some h1
        have ag7 := agl2.pI ew5 (Or.inr (List.mem_of_getElem? (i := 0) rfl))
        exact J42 w5 l1 h1 ag7
      · rw [if_neg c17] at h1
        obtain ⟨g13, h1⟩ := gd_some h1
        obtain ⟨g15, h1⟩ := gd_some h1
        obtain ⟨w14, ew14, h1⟩ := lt_some h1
        have ag16 := agl2.pI ew14 (Or.inr (List.mem_of_getElem? (i := 2) rfl))
        exact J42 w14 l1 h1 ag16
  rw [← Option.some.inj h0]
  exact ag21
def pX10_passOne : List (Nat × Option Nat) := [at_ 42 20, all_ 53]
theorem rX10_passOne {w : Wd} {a1 : Int32} {out : Int32 × Wd} (h0 : fX10_passOne w a1 = some out) : Agree (pU pX10_passOne) w out.2 := by
  have ag0 : Agree (pU pX10_passOne) w w := Agree.rf
  unfold fX10_passOne at h0
  have J38 : ∀ (w5 : Wd) (l4 : Int32), fX10_passOne_j38 w5 l4 = some out → Agree (pU pX10_passOne) w w5 → Agree (pU pX10_passOne) w out.2 := by
    intro w5 l4 h0 agj
    unfold fX10_passOne_j38 at h0
    obtain ⟨w6, ew6, h0⟩ := lt_some h0
    have ag7 := agj.pI ew6 (Or.inl (List.mem_of_getElem? (i := 0) rfl))
    rw [← Option.some.inj h0]
    exact ag7
  obtain ⟨v2, hv2, h0⟩ := bind_some h0
  by_cases c11 : (w.1 42 19) = 0
  · rw [if_pos c11] at h0
    exact J38 w v2 h0 ag0
  · rw [if_neg c11] at h0
    obtain ⟨g9, h0⟩ := gd_some h0
    obtain ⟨w8, ew8, h0⟩ := lt_some h0
    have ag10 := ag0.pI ew8 (Or.inr (List.mem_of_getElem? (i := 1) rfl))
    exact J38 w8 v2 h0 ag10
def pX10_passesAll : List (Nat × Option Nat) := [at_ 42 20, at_ 42 19, all_ 44, all_ 53, all_ 45, all_ 46, all_ 47, all_ 48, at_ 42 6, at_ 42 7, at_ 42 8, at_ 42 9]
theorem rX10_passesAll {w : Wd} {a1 : Int32} {a2 : Int32} {out : Wd} (h0 : fX10_passesAll w a1 a2 = some out) : Agree (pU pX10_passesAll) w out := by
  have ag0 : Agree (pU pX10_passesAll) w w := Agree.rf
  unfold fX10_passesAll at h0
  obtain ⟨w1, ew1, h0⟩ := lt_some h0
  have ag2 := ag0.pI ew1 (Or.inl (List.mem_of_getElem? (i := 0) rfl))
  obtain ⟨g4, h0⟩ := gd_some h0
  obtain ⟨w3, ew3, h0⟩ := lt_some h0
  have ag5 := ag2.pI ew3 (Or.inl (List.mem_of_getElem? (i := 1) rfl))
  obtain ⟨w6, ew6, h0⟩ := bind_some h0
  have ag7 := ag5.tr (Agree.sub [2, 0, 3] rfl (rX10_passes ew6))
  obtain ⟨w8, ew8, h0⟩ := bind_some h0
  have ag9 := ag7.tr (Agree.sub [4, 0, 3] rfl (rX10_passes ew8))
  obtain ⟨w10, ew10, h0⟩ := bind_some h0
  have ag11 := ag9.tr (Agree.sub [5, 0, 3] rfl (rX10_passes ew10))
  obtain ⟨w12, ew12, h0⟩ := bind_some h0
  have ag13 := ag11.tr (Agree.sub [6, 0, 3] rfl (rX10_passes ew12))
  obtain ⟨w14, ew14, h0⟩ := bind_some h0
  have ag15 := ag13.tr (Agree.sub [7, 0, 3] rfl (rX10_passes ew14))
  obtain ⟨q18, er17, h0⟩ := bind_some h0
  replace h0 := un2_eq h0
  obtain ⟨r17, w16, rfl, h0⟩ := h0
  have ag19 := ag15.tr (Agree.sub [0, 3] rfl (rX10_passOne er17))
  obtain ⟨w20, ew20, h0⟩ := lt_some h0
  have ag21 := ag19.pI ew20 (Or.inl (List.mem_of_getElem? (i := 8) rfl))
  obtain ⟨q24, er23, h0⟩ := bind_some h0
  replace h0 := un2_eq h0
  obtain ⟨r23, w22, rfl, h0⟩ := h0
  have ag25 := ag21.tr (Agree.sub [0, 3] rfl (rX10_passOne er23))
  obtain ⟨w26, ew26, h0⟩ := lt_some h0
  have ag27 := ag25.pI ew26 (Or.inl (List.mem_of_getElem? (i := 9) rfl))
  obtain ⟨q30, er29, h0⟩ := bind_some h0
  replace h0 := un2_eq h0
  obtain ⟨r29, w28, rfl, h0⟩ := h0
  have ag31 := ag27.tr (Agree.sub [0, 3] rfl (rX10_passOne er29))
  obtain ⟨w32, ew32, h0⟩ := lt_some h0
  have ag33 := ag31.pI ew32 (Or.inl (List.mem_of_getElem? (i := 10) rfl))
  obtain ⟨q36, er35, h0⟩ := bind_some h0
  replace h0 := un2_eq h0
  obtain ⟨r35, w34, rfl, h0⟩ := h0
  have ag37 := ag33.tr (Agree.sub [0, 3] rfl (rX10_passOne er35))
  obtain ⟨w38, ew38, h0⟩ := lt_some h0
  have ag39 := ag37.pI ew38 (Or.inl (List.mem_of_getElem? (i := 11) rfl))
  rw [← Option.some.inj h0]
  exact ag39
def pX10_comesOne : List (Nat × Option Nat) := [all_ 45, all_ 46, at_ 42 7, at_ 42 6]
theorem rX10_comesOne {w : Wd} {a1 : Int32} {out : Int32 × Wd} (h0 : fX10_comesOne w a1 = some out) : Agree (pU pX10_comesOne) w out.2 := by
  have ag0 : Agree (pU pX10_comesOne) w w := Agree.rf
  unfold fX10_comesOne at h0
  have J46 : ∀ (w3 : Wd), fX10_comesOne_j46 a1 w3 = some out → Agree (pU pX10_comesOne) w w3 → Agree (pU pX10_comesOne) w out.2 := by
    intro w3 h0 agj
    unfold fX10_comesOne_j46 at h0
    by_cases c17 : (w3.1 42 6) = 8
    · rw [if_pos c17] at h0
      rw [← Option.some.inj h0]
      exact agj
    · rw [if_neg c17] at h0
      obtain ⟨g4, h0⟩ := gd_some h0
      obtain ⟨g6, h0⟩ := gd_some h0
      obtain ⟨w5, ew5, h0⟩ := lt_some h0
      have ag7 := agj.pI ew5 (Or.inr (List.mem_of_getElem? (i := 0) rfl))
      obtain ⟨g8, h0⟩ := gd_some h0
      obtain ⟨g10, h0⟩ := gd_some h0
      obtain ⟨w9, ew9, h0⟩ := lt_some h0
      have ag11 := ag7.pI ew9 (Or.inr (List.mem_of_getElem? (i := 1) rfl))
      obtain ⟨g12, h0⟩ := gd_some h0
      obtain ⟨w13, ew13, h0⟩ := lt_some h0
      have ag14 := ag11.pI ew13 (Or.inl (List.mem_of_getElem? (i := 2) rfl))
      obtain ⟨w15, ew15, h0⟩ := lt_some h0
      have ag16 := ag14.pI ew15 (Or.inl (List.mem_of_getElem? (i := 3) rfl))
      rw [← Option.some.inj h0]
      exact ag16
  obtain ⟨g1, h0⟩ := gd_some h0
  by_cases c21 : (6 : Int32) < (w.1 52 a1.toNatClampNeg)
  · rw [if_pos c21] at h0
    rw [← Option.some.inj h0]
    exact ag0
  · rw [if_neg c21] at h0
    obtain ⟨g2, h0⟩ := gd_some h0
    by_cases c20 : (1 : Int32) < (w.1 52 (a1 + 2).toNatClampNeg)
    · rw [if_pos c20] at h0
      rw [← Option.some.inj h0]
      exact ag0
    · rw [if_neg c20] at h0
      by_cases c19 : (w.1 52 a1.toNatClampNeg) = 6
      · rw [if_pos c19] at h0
        by_cases c18 : (w.1 52 (a1 + 2).toNatClampNeg) = 1
        · rw [if_pos c18] at h0
          rw [← Option.some.inj h0]
          exact ag0
        · rw [if_neg c18] at h0
          exact J46 w h0 ag0
      · rw [if_neg c19] at h0
        exact J46 w h0 ag0
def pX10_spread : List (Nat × Option Nat) := [all_ 54, all_ 55, at_ 42 23]
theorem rX10_spread {w : Wd} {a1 : Int32} {out : Int32 × Wd} (h0 : fX10_spread w a1 = some out) : Agree (pU pX10_spread) w out.2 := by
  have ag0 : Agree (pU pX10_spread) w w := Agree.rf
  unfold fX10_spread at h0
  obtain ⟨x38, ix38, h0⟩ := bind_some h0
  replace h0 := un2_eq h0
  obtain ⟨l39, w40, rfl, h0⟩ := h0
  have ag41 : Agree (pU pX10_spread) w w40 := by
    refine iter_rule (P := fun s : Int32 × Int32 × Wd => Agree (pU pX10_spread) w s.2.2 → Agree (pU pX10_spread) w w40) (x := (l39, w40)) ?_ FU (a1, 0, w) ix38 ag0
    intro s y1 h1 hP1 hX1 agl4
    obtain ⟨l1, l2, w3⟩ := s
    have h1 : fX10_spread_b4 a1 l1 l2 w3 = some y1 := h1
    have agl4 : Agree (pU pX10_spread) w w3 := agl4
    unfold fX10_spread_b4 at h1
    by_cases c37 : (w3.1 42 6) ≤ l2
    · rw [if_pos c37] at h1
      have e4 := hX1 _ (Option.some.inj h1).symm
      cases e4
      exact agl4
    · rw [if_neg c37] at h1
      obtain ⟨v5, hv5, h1⟩ := lt_some h1
      have hv5 := hv5.symm
      obtain ⟨v6, ev6, h1⟩ := lt_some h1
      obtain ⟨x32, ix32, h1⟩ := bind_some h1
      replace h1 := un2_eq h1
      obtain ⟨l33, w34, rfl, h1⟩ := h1
      have ag35 : Agree (pU pX10_spread) w w34 := by
        refine iter_rule (P := fun s : Int32 × Int32 × Int32 × Wd => Agree (pU pX10_spread) w s.2.2.2 → Agree (pU pX10_spread) w w34) (x := (l33, w34)) ?_ FU (l1, v5, 0, w3) ix32 agl4
        intro s y2 h2 hP2 hX2 agl42
        obtain ⟨l7, l8, l9, w10⟩ := s
        have h2 : fX10_spread_b42 v6 l2 l7 l8 l9 w10 = some y2 := h2
        have agl42 : Agree (pU pX10_spread) w w10 := agl42
        unfold fX10_spread_b42 at h2
        by_cases c31 : (w10.1 42 6) ≤ l9
        · rw [if_pos c31] at h2
          have e11 := hX2 _ (Option.some.inj h2).symm
          cases e11
          exact agl42
        · rw [if_neg c31] at h2
          by_cases c30 : l8 ≤ 0
          · rw [if_pos c30] at h2
            have e12 := hX2 _ (Option.some.inj h2).symm
            cases e12
            exact agl42
          · rw [if_neg c30] at h2
            by_cases c29 : (fX10_has v6 l9) = 0
            · rw [if_pos c29] at h2
              obtain ⟨v13, ev13, h2⟩ := lt_some h2
              exact hP2 (l7, l8, v13, w10) (Option.some.inj h2).symm agl42
            · rw [if_neg c29] at h2
              by_cases c28 : (fX10_has l7 l9) = 0
              · rw [if_pos c28] at h2
                obtain ⟨g14, h2⟩ := gd_some h2
                by_cases c26 : (w10.1 45 l9.toNatClampNeg) = 6
                · rw [if_pos c26] at h2
                  obtain ⟨v15, ev15, h2⟩ := lt_some h2
                  exact hP2 (l7, l8, v15, w10) (Option.some.inj h2).symm agl42
                · rw [if_neg c26] at h2
                  obtain ⟨v16, ev16, h2⟩ := lt_some h2
                  obtain ⟨w17, ew17, h2⟩ := lt_some h2
                  have ag18 := agl42.pI ew17 (Or.inr (List.mem_of_getElem? (i := 0) rfl))
                  obtain ⟨g19, h2⟩ := gd_some h2
                  obtain ⟨w20, ew20, h2⟩ := lt_some h2
                  have ag21 := ag18.pI ew20 (Or.inr (List.mem_of_getElem? (i := 1) rfl))
                  obtain ⟨w22, ew22, h2⟩ := lt_some h2
                  have ag23 := ag21.pI ew22 (Or.inl (List.mem_of_getElem? (i := 2) rfl))
                  obtain ⟨v24, ev24, h2⟩ := lt_some h2
                  obtain ⟨v25, ev25, h2⟩ := lt_some h2
                  exact hP2 (v16, v24, v25, w22) (Option.some.inj h2).symm ag23
              · rw [if_neg c28] at h2
                obtain ⟨v27, ev27, h2⟩ := lt_some h2
                exact hP2 (l7, l8, v27, w10) (Option.some.inj h2).symm agl42
      obtain ⟨v36, ev36, h1⟩ := lt_some h1
      exact hP1 (l33, v36, w34) (Option.some.inj h1).symm ag35
  rw [← Option.some.inj h0]
  exact ag41
def pX10_goes : List (Nat × Option Nat) := [all_ 54, all_ 55, at_ 42 23, at_ 42 7, at_ 42 9, at_ 42 8]
theorem rX10_goes {w : Wd} {a1 : Int32} {out : Wd} (h0 : fX10_goes w a1 = some out) : Agree (pU pX10_goes) w out := by
  have ag0 : Agree (pU pX10_goes) w w := Agree.rf
  unfold fX10_goes at h0
  obtain ⟨r1, er1, h0⟩ := bind_some h0
  obtain ⟨q4, er3, h0⟩ := bind_some h0
  replace h0 := un2_eq h0
  obtain ⟨r3, w2, rfl, h0⟩ := h0
  have ag5 := ag0.tr (Agree.sub [0, 1, 2] rfl (rX10_spread er3))
  obtain ⟨w6, ew6, h0⟩ := lt_some h0
  have ag7 := ag5.pI ew6 (Or.inl (List.mem_of_getElem? (i := 3) rfl))
  obtain ⟨w8, ew8, h0⟩ := lt_some h0
  have ag9 := ag7.pI ew8 (Or.inl (List.mem_of_getElem? (i := 4) rfl))
  obtain ⟨v10, hv10, h0⟩ := lt_some h0
  have hv10 := hv10.symm
  obtain ⟨w11, ew11, h0⟩ := lt_some h0
  have ag12 := ag9.pI ew11 (Or.inl (List.mem_of_getElem? (i := 5) rfl))
  rw [← Option.some.inj h0]
  exact ag12
def pX10_comesMinute : List (Nat × Option Nat) := [all_ 54, all_ 55, at_ 42 23, at_ 42 7, at_ 42 9, at_ 42 8]
theorem rX10_comesMinute {w : Wd} {a1 : Int32} {out : Int32 × Wd} (h0 : fX10_comesMinute w a1 = some out) : Agree (pU pX10_comesMinute) w out.2 := by
  have ag0 : Agree (pU pX10_comesMinute) w w := Agree.rf
  unfold fX10_comesMinute at h0
  by_cases c6 : (1 : Int32) < a1
  · rw [if_pos c6] at h0
    rw [← Option.some.inj h0]
    exact ag0
  · rw [if_neg c6] at h0
    by_cases c5 : (w.1 42 8) = (fX10_doorAt w)
    · rw [if_pos c5] at h0
      rw [← Option.some.inj h0]
      exact ag0
    · rw [if_neg c5] at h0
      by_cases c4 : (w.1 42 9) = 999
      · rw [if_pos c4] at h0
        rw [← Option.some.inj h0]
        exact ag0
      · rw [if_neg c4] at h0
        obtain ⟨v1, hv1, h0⟩ := lt_some h0
        have hv1 := hv1.symm
        obtain ⟨w2, ew2, h0⟩ := bind_some h0
        have ag3 := ag0.tr (Agree.sub [0, 1, 2, 3, 4, 5] rfl (rX10_goes ew2))
        rw [← Option.some.inj h0]
        exact ag3
def pX10_comes : List (Nat × Option Nat) := [all_ 44, at_ 42 7, all_ 45, all_ 46, at_ 42 6, all_ 47, all_ 48, all_ 54, all_ 55, at_ 42 23, at_ 42 9, at_ 42 8]
theorem rX10_comes {w : Wd} {a1 : Int32} {out : Int32 × Wd} (h0 : fX10_comes w a1 = some out) : Agree (pU pX10_comes) w out.2 := by
  have ag0 : Agree (pU pX10_comes) w w := Agree.rf
  unfold fX10_comes at h0
  have J225 : ∀ (w23 : Wd) (l22 : Int32), fX10_comes_j225 w23 l22 = some out → Agree (pU pX10_comes) w w23 → Agree (pU pX10_comes) w out.2 := by
    intro w23 l22 h0 agj
    unfold fX10_comes_j225 at h0
    obtain ⟨w24, ew24, h0⟩ := lt_some h0
    have ag25 := agj.pI ew24 (Or.inl (List.mem_of_getElem? (i := 1) rfl))
    rw [← Option.some.inj h0]
    exact ag25
  obtain ⟨v1, ev1, h0⟩ := lt_some h0
  obtain ⟨g2, h0⟩ := gd_some h0
  obtain ⟨v3, ev3, h0⟩ := lt_some h0
  obtain ⟨g4, h0⟩ := gd_some h0
  obtain ⟨v5, ev5, h0⟩ := lt_some h0
  obtain ⟨g6, h0⟩ := gd_some h0
  obtain ⟨v7, ev7, h0⟩ := lt_some h0
  by_cases c8 : v7 = 100
  · rw [if_pos c8] at h0
    obtain ⟨w9, ew9, h0⟩ := lt_some h0
    have ag10 := ag0.pI ew9 (Or.inr (List.mem_of_getElem? (i := 0) rfl))
    by_cases c12 : (fX10_isIn v3 1 24) = 0
    · rw [if_pos c12] at h0
      rw [← Option.some.inj h0]
      exact ag10
    · rw [if_neg c12] at h0
      by_cases c11 : v3 < (w9.1 42 8)
      · rw [if_pos c11] at h0
        rw [← Option.some.inj h0]
        exact ag10
      · rw [if_neg c11] at h0
        rw [← Option.some.inj h0]
        exact ag10
  rw [if_neg c8] at h0
  by_cases c13 : v7 = 102
  · rw [if_pos c13] at h0
    obtain ⟨w14, ew14, h0⟩ := lt_some h0
    have ag15 := ag0.pI ew14 (Or.inr (List.mem_of_getElem? (i := 0) rfl))
    obtain ⟨w16, ew16, h0⟩ := lt_some h0
    have ag17 := ag15.pI ew16 (Or.inr (List.mem_of_getElem? (i := 0) rfl))
    by_cases c19 : (3 : Int32) ≤ v3
    · rw [if_pos c19] at h0
      rw [← Option.some.inj h0]
      exact ag17
    · rw [if_neg c19] at h0
      by_cases c18 : (fX10_isIn v5 1 2) = 0
      · rw [if_pos c18] at h0
        rw [← Option.some.inj h0]
        exact ag17
      · rw [if_neg c18] at h0
        rw [← Option.some.inj h0]
        exact ag17
  rw [if_neg c13] at h0
  by_cases c20 : v7 = 108
  · rw [if_pos c20] at h0
    by_cases c28 : (fX10_isPerson w v3) = 0
    · rw [if_pos c28] at h0
      rw [← Option.some.inj h0]
      exact ag0
    · rw [if_neg c28] at h0
      obtain ⟨g21, h0⟩ := gd_some h0
      by_cases c27 : (w.1 45 v3.toNatClampNeg) = 6
      · rw [if_pos c27] at h0
        by_cases c26 : (fX10_has (w.1 42 7) v3) = 0
        · rw [if_pos c26] at h0
          rw [← Option.some.inj h0]
          exact ag0
        · rw [if_neg c26] at h0
          exact J225 w v3 h0 ag0
      · rw [if_neg c27] at h0
        exact J225 w v3 h0 ag0
  rw [if_neg c20] at h0
  by_cases c29 : v7 = 112
  · rw [if_pos c29] at h0
    obtain ⟨q32, er31, h0⟩ := bind_some h0
    replace h0 := un2_eq h0
    obtain ⟨r31, w30, rfl, h0⟩ := h0
    have ag33 := ag0.tr (Agree.sub [2, 3, 1, 4] rfl (rX10_comesOne er31))
    obtain ⟨g34, h0⟩ := gd_some h0
    rw [← Option.some.inj h0]
    exact ag33
  rw [if_neg c29] at h0
  by_cases c35 : v7 = 119
  · rw [if_pos c35] at h0
    by_cases c43 : (24 : Int32) < v3
    · rw [if_pos c43] at h0
      rw [← Option.some.inj h0]
      exact ag0
    · rw [if_neg c43] at h0
      obtain ⟨g36, h0⟩ := gd_some h0
      by_cases c42 : (w.1 52 (v1 + 2).toNatClampNeg) ≤ 2
      · rw [if_pos c42] at h0
        obtain ⟨g38, h0⟩ := gd_some h0
        obtain ⟨w37, ew37, h0⟩ := lt_some h0
        have ag39 := ag0.pI ew37 (Or.inr (List.mem_of_getElem? (i := 5) rfl))
        obtain ⟨w40, ew40, h0⟩ := lt_some h0
        have ag41 := ag39.pI ew40 (Or.inr (List.mem_of_getElem? (i := 6) rfl))
        rw [← Option.some.inj h0]
        exact ag41
      · rw [if_neg c42] at h0
        rw [← Option.some.inj h0]
        exact ag0
  rw [if_neg c35] at h0
  obtain ⟨q46, er45, h0⟩ := bind_some h0
  replace h0 := un2_eq h0
  obtain ⟨r45, w44, rfl, h0⟩ := h0
  have ag47 := ag0.tr (Agree.sub [7, 8, 9, 1, 10, 11] rfl (rX10_comesMinute er45))
  obtain ⟨g48, h0⟩ := gd_some h0
  rw [← Option.some.inj h0]
  exact ag47
def pX10_road : List (Nat × Option Nat) := [at_ 42 15, at_ 42 16, all_ 50, all_ 51, all_ 52, at_ 42 14, at_ 42 20, at_ 42 19, all_ 44, all_ 53, all_ 45, all_ 46, all_ 47, all_ 48, at_ 42 6, at_ 42 7, at_ 42 8, at_ 42 9, at_ 42 27, all_ 54, all_ 55, at_ 42 23]
theorem rX10_road {w : Wd} {out : Int32 × Wd} (h0 : fX10_road w = some out) : Agree (pU pX10_road) w out.2 := by
  have ag0 : Agree (pU pX10_road) w w := Agree.rf
  unfold fX10_road at h0
  have J60 : ∀ (w25 : Wd) (l24 : Int32), fX10_road_j60 w25 l24 = some out → Agree (pU pX10_road) w w25 → Agree (pU pX10_road) w out.2 := by
    intro w25 l24 h0 agj
    unfold fX10_road_j60 at h0
    obtain ⟨w26, ew26, h0⟩ := lt_some h0
    have ag27 := agj.pI ew26 (Or.inl (List.mem_of_getElem? (i := 5) rfl))
    by_cases c44 : l24 = 0
    · rw [if_pos c44] at h0
      rw [← Option.some.inj h0]
      exact ag27
    · rw [if_neg c44] at h0
      obtain ⟨w28, ew28, h0⟩ := bind_some h0
      have ag29 := ag27.tr (Agree.sub [6, 7, 8, 9, 10, 11, 12, 13, 14, 15, 16, 17] rfl (rX10_passesAll ew28))
      refine iter_rule (P := fun s : Int32 × Wd => Agree (pU pX10_road) w s.2 → Agree (pU pX10_road) w out.2) (x := out) ?_ FU (0, w28) h0 ag29
      intro s y1 h1 hP1 hX1 agl86
      obtain ⟨l30, w31⟩ := s
      have h1 : fX10_road_b86 l30 w31 = some y1 := h1
      have agl86 : Agree (pU pX10_road) w w31 := agl86
      unfold fX10_road_b86 at h1
      by_cases c43 : (w31.1 42 16) ≤ l30
      · rw [if_pos c43] at h1
        obtain ⟨w32, ew32, h1⟩ := lt_some h1
        have ag33 := agl86.pI ew32 (Or.inl (List.mem_of_getElem? (i := 18) rfl))
        have h0 := congrArg some (hX1 _ (Option.some.inj h1).symm)
        rw [← Option.some.inj h0]
        exact ag33
      · rw [if_neg c43] at h1
        obtain ⟨q36, er35, h1⟩ := bind_some h1
        replace h1 := un2_eq h1
        obtain ⟨r35, w34, rfl, h1⟩ := h1
        have ag37 := agl86.tr (Agree.sub [8, 15, 10, 11, 14, 12, 13, 19, 20, 21, 17, 16] rfl (rX10_comes er35))
        by_cases c42 : r35 = 0
        · rw [if_pos c42] at h1
          obtain ⟨w38, ew38, h1⟩ := bind_some h1
          have ag39 := ag37.tr (Agree.sub [6, 7, 8, 9, 10, 11, 12, 13, 14, 15, 16, 17] rfl (rX10_passesAll ew38))
          obtain ⟨g40, h1⟩ := gd_some h1
          have h0 := congrArg some (hX1 _ (Option.some.inj h1).symm)
          rw [← Option.some.inj h0]
          exact ag39
        · rw [if_neg c42] at h1
          obtain ⟨v41, ev41, h1⟩ := lt_some h1
          exact hP1 (v41, w34) (Option.some.inj h1).symm ag37
  obtain ⟨w1, ew1, h0⟩ := lt_some h0
  have ag2 := ag0.pI ew1 (Or.inl (List.mem_of_getElem? (i := 0) rfl))
  obtain ⟨w3, ew3, h0⟩ := lt_some h0
  have ag4 := ag2.pI ew3 (Or.inl (List.mem_of_getElem? (i := 1) rfl))
  obtain ⟨x20, ix20, h0⟩ := bind_some h0
  replace h0 := un2_eq h0
  obtain ⟨l21, w22, rfl, h0⟩ := h0
  have ag23 : Agree (pU pX10_road) w w22 := by
    refine iter_rule (P := fun s : Int32 × Wd => Agree (pU pX10_road) w s.2 → Agree (pU pX10_road) w w22) (x := (l21, w22)) ?_ FU (1, w3) ix20 ag4
    intro s y1 h1 hP1 hX1 agl12
    obtain ⟨l5, w6⟩ := s
    have h1 : fX10_road_b12 l5 w6 = some y1 := h1
    have agl12 : Agree (pU pX10_road) w w6 := agl12
    unfold fX10_road_b12 at h1
    have J34 : ∀ (w8 : Wd), fX10_road_j34 w8 = some y1 → Agree (pU pX10_road) w w8 → Agree (pU pX10_road) w w22 := by
      intro w8 h1 agj
      unfold fX10_road_j34 at h1
      obtain ⟨q11, er10, h1⟩ := bind_some h1
      replace h1 := un2_eq h1
      obtain ⟨r10, w9, rfl, h1⟩ := h1
      have ag12 := agj.tr (Agree.sub [2, 3, 0, 4] rfl (rX10_statement er10))
      obtain ⟨v13, hv13, h1⟩ := lt_some h1
      have hv13 := hv13.symm
      obtain ⟨w14, ew14, h1⟩ := lt_some h1
      have ag15 := ag12.pI ew14 (Or.inl (List.mem_of_getElem? (i := 1) rfl))
      exact hP1 (r10, w14) (Option.some.inj h1).symm ag15
    by_cases c19 : l5 = 0
    · rw [if_pos c19] at h1
      have e7 := hX1 _ (Option.some.inj h1).symm
      cases e7
      exact agl12
    · rw [if_neg c19] at h1
      by_cases c18 : (w6.1 42 15) < (w6.1 42 14)
      · rw [if_pos c18] at h1
        exact J34 w6 h1 agl12
      · rw [if_neg c18] at h1
        by_cases c17 : (w6.1 42 16) = 0
        · rw [if_pos c17] at h1
          exact J34 w6 h1 agl12
        · rw [if_neg c17] at h1
          have e16 := hX1 _ (Option.some.inj h1).symm
          cases e16
          exact agl12
  exact J60 w22 l21 h0 ag23
def pX10_image : List (Nat × Option Nat) := [at_ 42 18, at_ 42 20, at_ 42 19, all_ 44, all_ 53, all_ 45, all_ 46, all_ 47, all_ 48, at_ 42 6, at_ 42 7, at_ 42 8, at_ 42 9]
theorem rX10_image {w : Wd} {out : Int32 × Wd} (h0 : fX10_image w = some out) : Agree (pU pX10_image) w out.2 := by
  have ag0 : Agree (pU pX10_image) w w := Agree.rf
  unfold fX10_image at h0
  obtain ⟨w1, ew1, h0⟩ := lt_some h0
  have ag2 := ag0.pI ew1 (Or.inl (List.mem_of_getElem? (i := 0) rfl))
  obtain ⟨w3, ew3, h0⟩ := bind_some h0
  have ag4 := ag2.tr (Agree.sub [1, 2, 3, 4, 5, 6, 7, 8, 9, 10, 11, 12] rfl (rX10_passesAll ew3))
  rw [← Option.some.inj h0]
  exact ag4
def pX10_restore : List (Nat × Option Nat) := [all_ 43, at_ 42 20, at_ 42 19, all_ 44, all_ 53, all_ 45, all_ 46, all_ 47, all_ 48, at_ 42 6, at_ 42 7, at_ 42 8, at_ 42 9, at_ 42 27]
theorem rX10_restore {w : Wd} {out : Int32 × Wd} (h0 : fX10_restore w = some out) : Agree (pU pX10_restore) w out.2 := by
  have ag0 : Agree (pU pX10_restore) w w := Agree.rf
  unfold fX10_restore at h0
  by_cases c9 : (w.1 42 18) = 0
  · rw [if_pos c9] at h0
    obtain ⟨q3, er2, h0⟩ := bind_some h0
    replace h0 := un2_eq h0
    obtain ⟨r2, w1, rfl, h0⟩ := h0
    have ag4 := ag0.tr (Agree.sub [0] rfl (rX10_no er2))
    rw [← Option.some.inj h0]
    exact ag4
  · rw [if_neg c9] at h0
    obtain ⟨w5, ew5, h0⟩ := bind_some h0
    have ag6 := ag0.tr (Agree.sub [1, 2, 3, 4, 5, 6, 7, 8, 9, 10, 11, 12] rfl (rX10_passesAll ew5))
    obtain ⟨w7, ew7, h0⟩ := lt_some h0
    have ag8 := ag6.pI ew7 (Or.inl (List.mem_of_getElem? (i := 13) rfl))
    rw [← Option.some.inj h0]
    exact ag8
def pX10_person : List (Nat × Option Nat) := [all_ 43]
theorem rX10_person {w : Wd} {a1 : Int32} {a2 : Int32} {out : Int32 × Wd} (h0 : fX10_person w a1 a2 = some out) : Agree (pU pX10_person) w out.2 := by
  have ag0 : Agree (pU pX10_person) w w := Agree.rf
  unfold fX10_person at h0
  by_cases c22 : (fX10_isPerson w a1) = 0
  · rw [if_pos c22] at h0
    obtain ⟨q3, er2, h0⟩ := bind_some h0
    replace h0 := un2_eq h0
    obtain ⟨r2, w1, rfl, h0⟩ := h0
    have ag4 := ag0.tr (Agree.sub [0] rfl (rX10_no er2))
    rw [← Option.some.inj h0]
    exact ag4
  · rw [if_neg c22] at h0
    by_cases c5 : a2 = 0
    · rw [if_pos c5] at h0
      obtain ⟨g6, h0⟩ := gd_some h0
      rw [← Option.some.inj h0]
      exact ag0
    rw [if_neg c5] at h0
    by_cases c7 : a2 = 1
    · rw [if_pos c7] at h0
      obtain ⟨g8, h0⟩ := gd_some h0
      rw [← Option.some.inj h0]
      exact ag0
    rw [if_neg c7] at h0
    by_cases c9 : a2 = 2
    · rw [if_pos c9] at h0
      rw [← Option.some.inj h0]
      exact ag0
    rw [if_neg c9] at h0
    by_cases c10 : a2 = 3
    · rw [if_pos c10] at h0
      obtain ⟨g11, h0⟩ := gd_some h0
      rw [← Option.some.inj h0]
      exact ag0
    rw [if_neg c10] at h0
    by_cases c12 : a2 = 4
    · rw [if_pos c12] at h0
      obtain ⟨g13, h0⟩ := gd_some h0
      rw [← Option.some.inj h0]
      exact ag0
    rw [if_neg c12] at h0
    by_cases c14 : a2 = 5
    · rw [if_pos c14] at h0
      obtain ⟨g15, h0⟩ := gd_some h0
      rw [← Option.some.inj h0]
      exact ag0
    rw [if_neg c14] at h0
    by_cases c16 : a2 = 6
    · rw [if_pos c16] at h0
      obtain ⟨r17, er17, h0⟩ := bind_some h0
      rw [← Option.some.inj h0]
      exact ag0
    rw [if_neg c16] at h0
    obtain ⟨q20, er19, h0⟩ := bind_some h0
    replace h0 := un2_eq h0
    obtain ⟨r19, w18, rfl, h0⟩ := h0
    have ag21 := ag0.tr (Agree.sub [0] rfl (rX10_no er19))
    rw [← Option.some.inj h0]
    exact ag21
def pX10_light : List (Nat × Option Nat) := [at_ 42 7, at_ 42 27, all_ 43]
theorem rX10_light {w : Wd} {a1 : Int32} {a2 : Int32} {out : Int32 × Wd} (h0 : fX10_light w a1 a2 = some out) : Agree (pU pX10_light) w out.2 := by
  have ag0 : Agree (pU pX10_light) w w := Agree.rf
  unfold fX10_light at h0
  obtain ⟨v2, hv2, h0⟩ := bind_some h0
  by_cases c16 : v2 = 0
  · rw [if_pos c16] at h0
    obtain ⟨v7, ev7, h0⟩ := lt_some h0
    obtain ⟨w8, ew8, h0⟩ := lt_some h0
    have ag9 := ag0.pI ew8 (Or.inl (List.mem_of_getElem? (i := 0) rfl))
    obtain ⟨w10, ew10, h0⟩ := lt_some h0
    have ag11 := ag9.pI ew10 (Or.inl (List.mem_of_getElem? (i := 1) rfl))
    rw [← Option.some.inj h0]
    exact ag11
  · rw [if_neg c16] at h0
    obtain ⟨q14, er13, h0⟩ := bind_some h0
    replace h0 := un2_eq h0
    obtain ⟨r13, w12, rfl, h0⟩ := h0
    have ag15 := ag0.tr (Agree.sub [2] rfl (rX10_no er13))
    rw [← Option.some.inj h0]
    exact ag15
def pX10_becomes : List (Nat × Option Nat) := [all_ 45, at_ 42 7]
theorem rX10_becomes {w : Wd} {a1 : Int32} {a2 : Int32} {out : Wd} (h0 : fX10_becomes w a1 a2 = some out) : Agree (pU pX10_becomes) w out := by
  have ag0 : Agree (pU pX10_becomes) w w := Agree.rf
  unfold fX10_becomes at h0
  obtain ⟨g2, h0⟩ := gd_some h0
  obtain ⟨w1, ew1, h0⟩ := lt_some h0
  have ag3 := ag0.pI ew1 (Or.inr (List.mem_of_getElem? (i := 0) rfl))
  by_cases c6 : a2 = 6
  · rw [if_pos c6] at h0
    obtain ⟨w4, ew4, h0⟩ := lt_some h0
    have ag5 := ag3.pI ew4 (Or.inl (List.mem_of_getElem? (i := 1) rfl))
    rw [← Option.some.inj h0]
    exact ag5
  · rw [if_neg c6] at h0
    rw [← Option.some.inj h0]
    exact ag3
def pX10_kind : List (Nat × Option Nat) := [all_ 45, at_ 42 7, all_ 46, at_ 42 27, all_ 43]
theorem rX10_kind {w : Wd} {a1 : Int32} {a2 : Int32} {a3 : Int32} {out : Int32 × Wd} (h0 : fX10_kind w a1 a2 a3 = some out) : Agree (pU pX10_kind) w out.2 := by
  have ag0 : Agree (pU pX10_kind) w w := Agree.rf
  unfold fX10_kind at h0
  obtain ⟨v1, hv1, h0⟩ := lt_some h0
  have hv1 := hv1.symm
  by_cases c15 : v1 = 0
  · rw [if_pos c15] at h0
    obtain ⟨g3, h0⟩ := gd_some h0
    obtain ⟨v4, ev4, h0⟩ := lt_some h0
    obtain ⟨w5, ew5, h0⟩ := bind_some h0
    have ag6 := ag0.tr (Agree.sub [0, 1] rfl (rX10_becomes ew5))
    obtain ⟨w7, ew7, h0⟩ := lt_some h0
    have ag8 := ag6.pI ew7 (Or.inr (List.mem_of_getElem? (i := 2) rfl))
    obtain ⟨w9, ew9, h0⟩ := lt_some h0
    have ag10 := ag8.pI ew9 (Or.inl (List.mem_of_getElem? (i := 3) rfl))
    rw [← Option.some.inj h0]
    exact ag10
  · rw [if_neg c15] at h0
    obtain ⟨q13, er12, h0⟩ := bind_some h0
    replace h0 := un2_eq h0
    obtain ⟨r12, w11, rfl, h0⟩ := h0
    have ag14 := ag0.tr (Agree.sub [4] rfl (rX10_no er12))
    rw [← Option.some.inj h0]
    exact ag14
def pX10_wind : List (Nat × Option Nat) := [all_ 43]
theorem rX10_wind {w : Wd} {a1 : Int32} {a2 : Int32} {out : Int32 × Wd} (h0 : fX10_wind w a1 a2 = some out) : Agree (pU pX10_wind) w out.2 := by
  have ag0 : Agree (pU pX10_wind) w w := Agree.rf
  unfold fX10_wind at h0
  by_cases c13 : (fX10_isPlace a1) = 0
  · rw [if_pos c13] at h0
    obtain ⟨q3, er2, h0⟩ := bind_some h0
    replace h0 := un2_eq h0
    obtain ⟨r2, w1, rfl, h0⟩ := h0
    have ag4 := ag0.tr (Agree.sub [0] rfl (rX10_no er2))
    rw [← Option.some.inj h0]
    exact ag4
  · rw [if_neg c13] at h0
    by_cases c12 : (fX10_isIn a2 0 1) = 0
    · rw [if_pos c12] at h0
      obtain ⟨q7, er6, h0⟩ := bind_some h0
      replace h0 := un2_eq h0
      obtain ⟨r6, w5, rfl, h0⟩ := h0
      have ag8 := ag0.tr (Agree.sub [0] rfl (rX10_no er6))
      rw [← Option.some.inj h0]
      exact ag8
    · rw [if_neg c12] at h0
      by_cases c11 : a2 = 0
      · rw [if_pos c11] at h0
        obtain ⟨g9, h0⟩ := gd_some h0
        rw [← Option.some.inj h0]
        exact ag0
      · rw [if_neg c11] at h0
        obtain ⟨g10, h0⟩ := gd_some h0
        rw [← Option.some.inj h0]
        exact ag0
def pX10_blows : List (Nat × Option Nat) := [all_ 47, all_ 48, at_ 42 27, all_ 43]
theorem rX10_blows {w : Wd} {a1 : Int32} {a2 : Int32} {a3 : Int32} {out : Int32 × Wd} (h0 : fX10_blows w a1 a2 a3 = some out) : Agree (pU pX10_blows) w out.2 := by
  have ag0 : Agree (pU pX10_blows) w w := Agree.rf
  unfold fX10_blows at h0
  obtain ⟨v1, hv1, h0⟩ := lt_some h0
  have hv1 := hv1.symm
  by_cases c18 : v1 = 0
  · rw [if_pos c18] at h0
    obtain ⟨g6, h0⟩ := gd_some h0
    obtain ⟨v7, ev7, h0⟩ := lt_some h0
    obtain ⟨w8, ew8, h0⟩ := lt_some h0
    have ag9 := ag0.pI ew8 (Or.inr (List.mem_of_getElem? (i := 0) rfl))
    obtain ⟨w10, ew10, h0⟩ := lt_some h0
    have ag11 := ag9.pI ew10 (Or.inr (List.mem_of_getElem? (i := 1) rfl))
    obtain ⟨w12, ew12, h0⟩ := lt_some h0
    have ag13 := ag11.pI ew12 (Or.inl (List.mem_of_getElem? (i := 2) rfl))
    rw [← Option.some.inj h0]
    exact ag13
  · rw [if_neg c18] at h0
    obtain ⟨q16, er15, h0⟩ := bind_some h0
    replace h0 := un2_eq h0
    obtain ⟨r15, w14, rfl, h0⟩ := h0
    have ag17 := ag0.tr (Agree.sub [3] rfl (rX10_no er15))
    rw [← Option.some.inj h0]
    exact ag17
def pX10_set : List (Nat × Option Nat) := [all_ 44, at_ 42 27, all_ 43]
theorem rX10_set {w : Wd} {a1 : Int32} {a2 : Int32} {out : Int32 × Wd} (h0 : fX10_set w a1 a2 = some out) : Agree (pU pX10_set) w out.2 := by
  have ag0 : Agree (pU pX10_set) w w := Agree.rf
  unfold fX10_set at h0
  have J59 : ∀ (w6 : Wd) (l5 : Int32), fX10_set_j59 a1 a2 w6 l5 = some out → Agree (pU pX10_set) w w6 → Agree (pU pX10_set) w out.2 := by
    intro w6 l5 h0 agj
    unfold fX10_set_j59 at h0
    by_cases c17 : l5 = 0
    · rw [if_pos c17] at h0
      obtain ⟨g7, h0⟩ := gd_some h0
      obtain ⟨v8, ev8, h0⟩ := lt_some h0
      obtain ⟨w9, ew9, h0⟩ := lt_some h0
      have ag10 := agj.pI ew9 (Or.inr (List.mem_of_getElem? (i := 0) rfl))
      obtain ⟨w11, ew11, h0⟩ := lt_some h0
      have ag12 := ag10.pI ew11 (Or.inl (List.mem_of_getElem? (i := 1) rfl))
      rw [← Option.some.inj h0]
      exact ag12
    · rw [if_neg c17] at h0
      obtain ⟨q15, er14, h0⟩ := bind_some h0
      replace h0 := un2_eq h0
      obtain ⟨r14, w13, rfl, h0⟩ := h0
      have ag16 := agj.tr (Agree.sub [2] rfl (rX10_no er14))
      rw [← Option.some.inj h0]
      exact ag16
  obtain ⟨v1, hv1, h0⟩ := lt_some h0
  have hv1 := hv1.symm
  by_cases c20 : v1 = 0
  · rw [if_pos c20] at h0
    by_cases c19 : a1 = 2
    · rw [if_pos c19] at h0
      by_cases c18 : (w.1 42 8) ≤ a2
      · rw [if_pos c18] at h0
        exact J59 w v1 h0 ag0
      · rw [if_neg c18] at h0
        exact J59 w (-3) h0 ag0
    · rw [if_neg c19] at h0
      exact J59 w v1 h0 ag0
  · rw [if_neg c20] at h0
    exact J59 w v1 h0 ag0
def pX10_beside : List (Nat × Option Nat) := [all_ 43]
theorem rX10_beside {w : Wd} {a1 : Int32} {out : Int32 × Wd} (h0 : fX10_beside w a1 = some out) : Agree (pU pX10_beside) w out.2 := by
  have ag0 : Agree (pU pX10_beside) w w := Agree.rf
  unfold fX10_beside at h0
  by_cases c5 : (fX10_isPerson w a1) = 0
  · rw [if_pos c5] at h0
    obtain ⟨q3, er2, h0⟩ := bind_some h0
    replace h0 := un2_eq h0
    obtain ⟨r2, w1, rfl, h0⟩ := h0
    have ag4 := ag0.tr (Agree.sub [0] rfl (rX10_no er2))
    rw [← Option.some.inj h0]
    exact ag4
  · rw [if_neg c5] at h0
    rw [← Option.some.inj h0]
    exact ag0
def pX10_covers : List (Nat × Option Nat) := [all_ 43]
theorem rX10_covers {w : Wd} {a1 : Int32} {a2 : Int32} {out : Int32 × Wd} (h0 : fX10_covers w a1 a2 = some out) : Agree (pU pX10_covers) w out.2 := by
  have ag0 : Agree (pU pX10_covers) w w := Agree.rf
  unfold fX10_covers at h0
  have J24 : ∀ (w1 : Wd), fX10_covers_j24 w1 = some out → Agree (pU pX10_covers) w w1 → Agree (pU pX10_covers) w out.2 := by
    intro w1 h0 agj
    unfold fX10_covers_j24 at h0
    obtain ⟨q4, er3, h0⟩ := bind_some h0
    replace h0 := un2_eq h0
    obtain ⟨r3, w2, rfl, h0⟩ := h0
    have ag5 := agj.tr (Agree.sub [0] rfl (rX10_no er3))
    rw [← Option.some.inj h0]
    exact ag5
  by_cases c8 : (fX10_isPerson w a1) = 0
  · rw [if_pos c8] at h0
    exact J24 w h0 ag0
  · rw [if_neg c8] at h0
    by_cases c7 : (fX10_isPlace a2) = 0
    · rw [if_pos c7] at h0
      exact J24 w h0 ag0
    · rw [if_neg c7] at h0
      obtain ⟨r6, er6, h0⟩ := bind_some h0
      rw [← Option.some.inj h0]
      exact ag0
def pX10_back : List (Nat × Option Nat) := [all_ 43, at_ 42 7, at_ 42 8, at_ 42 9, all_ 56, all_ 57, all_ 58, at_ 42 27]
theorem rX10_back {w : Wd} {out : Int32 × Wd} (h0 : fX10_back w = some out) : Agree (pU pX10_back) w out.2 := by
  have ag0 : Agree (pU pX10_back) w w := Agree.rf
  unfold fX10_back at h0
  by_cases c29 : (w.1 42 27) = 0
  · rw [if_pos c29] at h0
    obtain ⟨q3, er2, h0⟩ := bind_some h0
    replace h0 := un2_eq h0
    obtain ⟨r2, w1, rfl, h0⟩ := h0
    have ag4 := ag0.tr (Agree.sub [0] rfl (rX10_no er2))
    rw [← Option.some.inj h0]
    exact ag4
  · rw [if_neg c29] at h0
    obtain ⟨w5, ew5, h0⟩ := lt_some h0
    have ag6 := ag0.pI ew5 (Or.inl (List.mem_of_getElem? (i := 1) rfl))
    obtain ⟨w7, ew7, h0⟩ := lt_some h0
    have ag8 := ag6.pI ew7 (Or.inl (List.mem_of_getElem? (i := 2) rfl))
    obtain ⟨w9, ew9, h0⟩ := lt_some h0
    have ag10 := ag8.pI ew9 (Or.inl (List.mem_of_getElem? (i := 3) rfl))
    obtain ⟨w25, iw25, h0⟩ := bind_some h0
    have ag26 : Agree (pU pX10_back) w w25 := by
      refine iter_rule (P := fun s : Int32 × Wd => Agree (pU pX10_back) w s.2 → Agree (pU pX10_back) w w25) (x := w25) ?_ FU (0, w9) iw25 ag10
      intro s y1 h1 hP1 hX1 agl46
      obtain ⟨l11, w12⟩ := s
      have h1 : fX10_back_b46 l11 w12 = some y1 := h1
      have agl46 : Agree (pU pX10_back) w w12 := agl46
      unfold fX10_back_b46 at h1
      by_cases c23 : (7 : Int32) ≤ l11
      · rw [if_pos c23] at h1
        have e13 := hX1 _ (Option.some.inj h1).symm
        cases e13
        exact agl46
      · rw [if_neg c23] at h1
        obtain ⟨g14, h1⟩ := gd_some h1
        obtain ⟨g16, h1⟩ := gd_some h1
        obtain ⟨w15, ew15, h1⟩ := lt_some h1
        have ag17 := agl46.pI ew15 (Or.inr (List.mem_of_getElem? (i := 4) rfl))
        obtain ⟨w18, ew18, h1⟩ := lt_some h1
        have ag19 := ag17.pI ew18 (Or.inr (List.mem_of_getElem? (i := 5) rfl))
        obtain ⟨w20, ew20, h1⟩ := lt_some h1
        have ag21 := ag19.pI ew20 (Or.inr (List.mem_of_getElem? (i := 6) rfl))
        obtain ⟨v22, ev22, h1⟩ := lt_some h1
        exact hP1 (v22, w20) (Option.some.inj h1).symm ag21
    obtain ⟨w27, ew27, h0⟩ := lt_some h0
    have ag28 := ag26.pI ew27 (Or.inl (List.mem_of_getElem? (i := 7) rfl))
    rw [← Option.some.inj h0]
    exact ag28
def pX10_keepsMinute : List (Nat × Option Nat) := [all_ 56, all_ 57, all_ 58, at_ 42 27]
theorem rX10_keepsMinute {w : Wd} {out : Wd} (h0 : fX10_keepsMinute w = some out) : Agree (pU pX10_keepsMinute) w out := by
  have ag0 : Agree (pU pX10_keepsMinute) w w := Agree.rf
  unfold fX10_keepsMinute at h0
  have J106 : ∀ (w24 : Wd) (l23 : Int32), fX10_keepsMinute_j106 w24 l23 = some out → Agree (pU pX10_keepsMinute) w w24 → Agree (pU pX10_keepsMinute) w out := by
    intro w24 l23 h0 agj
    unfold fX10_keepsMinute_j106 at h0
    obtain ⟨w25, ew25, h0⟩ := lt_some h0
    have ag26 := agj.pI ew25 (Or.inl (List.mem_of_getElem? (i := 3) rfl))
    rw [← Option.some.inj h0]
    exact ag26
  obtain ⟨w15, iw15, h0⟩ := bind_some h0
  have ag16 : Agree (pU pX10_keepsMinute) w w15 := by
    refine iter_rule (P := fun s : Int32 × Wd => Agree (pU pX10_keepsMinute) w s.2 → Agree (pU pX10_keepsMinute) w w15) (x := w15) ?_ FU (7, w) iw15 ag0
    intro s y1 h1 hP1 hX1 agl3
    obtain ⟨l1, w2⟩ := s
    have h1 : fX10_keepsMinute_b3 l1 w2 = some y1 := h1
    have agl3 : Agree (pU pX10_keepsMinute) w w2 := agl3
    unfold fX10_keepsMinute_b3 at h1
    by_cases c13 : l1 ≤ 0
    · rw [if_pos c13] at h1
      have e3 := hX1 _ (Option.some.inj h1).symm
      cases e3
      exact agl3
    · rw [if_neg c13] at h1
      obtain ⟨g4, h1⟩ := gd_some h1
      obtain ⟨g6, h1⟩ := gd_some h1
      obtain ⟨w5, ew5, h1⟩ := lt_some h1
      have ag7 := agl3.pI ew5 (Or.inr (List.mem_of_getElem? (i := 0) rfl))
      obtain ⟨w8, ew8, h1⟩ := lt_some h1
      have ag9 := ag7.pI ew8 (Or.inr (List.mem_of_getElem? (i := 1) rfl))
      obtain ⟨w10, ew10, h1⟩ := lt_some h1
      have ag11 := ag9.pI ew10 (Or.inr (List.mem_of_getElem? (i := 2) rfl))
      obtain ⟨v12, ev12, h1⟩ := lt_some h1
      exact hP1 (v12, w10) (Option.some.inj h1).symm ag11
  obtain ⟨w17, ew17, h0⟩ := lt_some h0
  have ag18 := ag16.pI ew17 (Or.inr (List.mem_of_getElem? (i := 0) rfl))
  obtain ⟨w19, ew19, h0⟩ := lt_some h0
  have ag20 := ag18.pI ew19 (Or.inr (List.mem_of_getElem? (i := 1) rfl))
  obtain ⟨w21, ew21, h0⟩ := lt_some h0
  have ag22 := ag20.pI ew21 (Or.inr (List.mem_of_getElem? (i := 2) rfl))
  by_cases c27 : (8 : Int32) ≤ (w21.1 42 27)
  · rw [if_pos c27] at h0
    exact J106 w21 8 h0 ag22
  · rw [if_neg c27] at h0
    exact J106 w21 ((w21.1 42 27) + 1) h0 ag22
def pX10_go : List (Nat × Option Nat) := [all_ 56, all_ 57, all_ 58, at_ 42 27, all_ 54, all_ 55, at_ 42 23, at_ 42 7, at_ 42 9, at_ 42 8, all_ 43]
theorem rX10_go {w : Wd} {a1 : Int32} {out : Int32 × Wd} (h0 : fX10_go w a1 = some out) : Agree (pU pX10_go) w out.2 := by
  have ag0 : Agree (pU pX10_go) w w := Agree.rf
  unfold fX10_go at h0
  obtain ⟨v1, hv1, h0⟩ := lt_some h0
  have hv1 := hv1.symm
  by_cases c14 : v1 = 0
  · rw [if_pos c14] at h0
    obtain ⟨w4, ew4, h0⟩ := bind_some h0
    have ag5 := ag0.tr (Agree.sub [0, 1, 2, 3] rfl (rX10_keepsMinute ew4))
    obtain ⟨v6, hv6, h0⟩ := lt_some h0
    have hv6 := hv6.symm
    obtain ⟨w7, ew7, h0⟩ := bind_some h0
    have ag8 := ag5.tr (Agree.sub [4, 5, 6, 7, 8, 9] rfl (rX10_goes ew7))
    obtain ⟨r9, er9, h0⟩ := bind_some h0
    rw [← Option.some.inj h0]
    exact ag8
  · rw [if_neg c14] at h0
    obtain ⟨q12, er11, h0⟩ := bind_some h0
    replace h0 := un2_eq h0
    obtain ⟨r11, w10, rfl, h0⟩ := h0
    have ag13 := ag0.tr (Agree.sub [10] rfl (rX10_no er11))
    rw [← Option.some.inj h0]
    exact ag13
def pX10_goesAhead : List (Nat × Option Nat) := [all_ 54, all_ 55, at_ 42 23, at_ 42 7, at_ 42 9, at_ 42 8]
theorem rX10_goesAhead {w : Wd} {a1 : Int32} {out : Wd} (h0 : fX10_goesAhead w a1 = some out) : Agree (pU pX10_goesAhead) w out := by
  have ag0 : Agree (pU pX10_goesAhead) w w := Agree.rf
  unfold fX10_goesAhead at h0
  obtain ⟨w11, iw11, h0⟩ := bind_some h0
  have ag12 : Agree (pU pX10_goesAhead) w w11 := by
    refine iter_rule (P := fun s : Int32 × Wd => Agree (pU pX10_goesAhead) w s.2 → Agree (pU pX10_goesAhead) w w11) (x := w11) ?_ FU (0, w) iw11 ag0
    intro s y1 h1 hP1 hX1 agl2
    obtain ⟨l1, w2⟩ := s
    have h1 : fX10_goesAhead_b2 a1 l1 w2 = some y1 := h1
    have agl2 : Agree (pU pX10_goesAhead) w w2 := agl2
    unfold fX10_goesAhead_b2 at h1
    by_cases c9 : a1 ≤ l1
    · rw [if_pos c9] at h1
      have e3 := hX1 _ (Option.some.inj h1).symm
      cases e3
      exact agl2
    · rw [if_neg c9] at h1
      by_cases c8 : (fX10_doorAt w2) ≤ (w2.1 42 8)
      · rw [if_pos c8] at h1
        have e4 := hX1 _ (Option.some.inj h1).symm
        cases e4
        exact agl2
      · rw [if_neg c8] at h1
        obtain ⟨w5, ew5, h1⟩ := bind_some h1
        have ag6 := agl2.tr (Agree.sub [0, 1, 2, 3, 4, 5] rfl (rX10_goes ew5))
        obtain ⟨v7, ev7, h1⟩ := lt_some h1
        exact hP1 (v7, w5) (Option.some.inj h1).symm ag6
  rw [← Option.some.inj h0]
  exact ag12
def pX10_then : List (Nat × Option Nat) := [at_ 42 20, at_ 42 19, all_ 44, all_ 53, all_ 45, all_ 46, all_ 47, all_ 48, at_ 42 6, at_ 42 7, at_ 42 8, at_ 42 9, all_ 54, all_ 55, at_ 42 23, all_ 43]
theorem rX10_then {w : Wd} {a1 : Int32} {out : Int32 × Wd} (h0 : fX10_then w a1 = some out) : Agree (pU pX10_then) w out.2 := by
  have ag0 : Agree (pU pX10_then) w w := Agree.rf
  unfold fX10_then at h0
  obtain ⟨v1, ev1, h0⟩ := lt_some h0
  by_cases c13 : v1 = 0
  · rw [if_pos c13] at h0
    obtain ⟨w2, ew2, h0⟩ := bind_some h0
    have ag3 := ag0.tr (Agree.sub [0, 1, 2, 3, 4, 5, 6, 7, 8, 9, 10, 11] rfl (rX10_passesAll ew2))
    obtain ⟨w4, ew4, h0⟩ := bind_some h0
    have ag5 := ag3.tr (Agree.sub [12, 13, 14, 9, 11, 10] rfl (rX10_goesAhead ew4))
    obtain ⟨v6, ev6, h0⟩ := lt_some h0
    obtain ⟨w7, ew7, h0⟩ := bind_some h0
    have ag8 := ag5.tr (Agree.sub [0, 1, 2, 3, 4, 5, 6, 7, 8, 9, 10, 11] rfl (rX10_passesAll ew7))
    rw [← Option.some.inj h0]
    exact ag8
  · rw [if_neg c13] at h0
    obtain ⟨q11, er10, h0⟩ := bind_some h0
    replace h0 := un2_eq h0
    obtain ⟨r10, w9, rfl, h0⟩ := h0
    have ag12 := ag0.tr (Agree.sub [15] rfl (rX10_no er10))
    rw [← Option.some.inj h0]
    exact ag12
def pX10_goesToDoor : List (Nat × Option Nat) := [all_ 54, all_ 55, at_ 42 23, at_ 42 7, at_ 42 9, at_ 42 8]
theorem rX10_goesToDoor {w : Wd} {out : Wd} (h0 : fX10_goesToDoor w = some out) : Agree (pU pX10_goesToDoor) w out := by
  have ag0 : Agree (pU pX10_goesToDoor) w w := Agree.rf
  unfold fX10_goesToDoor at h0
  obtain ⟨w7, iw7, h0⟩ := bind_some h0
  have ag8 : Agree (pU pX10_goesToDoor) w w7 := by
    refine iter_rule (P := fun s : Wd => Agree (pU pX10_goesToDoor) w s → Agree (pU pX10_goesToDoor) w w7) (x := w7) ?_ FU w iw7 ag0
    intro s y1 h1 hP1 hX1 agl0
    obtain ⟨w1, rfl⟩ : ∃ z, z = s := ⟨s, rfl⟩
    have h1 : fX10_goesToDoor_b0 w1 = some y1 := h1
    have agl0 : Agree (pU pX10_goesToDoor) w w1 := agl0
    unfold fX10_goesToDoor_b0 at h1
    by_cases c5 : (fX10_doorAt w1) ≤ (w1.1 42 8)
    · rw [if_pos c5] at h1
      have e2 := hX1 _ (Option.some.inj h1).symm
      cases e2
      exact agl0
    · rw [if_neg c5] at h1
      obtain ⟨w3, ew3, h1⟩ := bind_some h1
      have ag4 := agl0.tr (Agree.sub [0, 1, 2, 3, 4, 5] rfl (rX10_goes ew3))
      exact hP1 w3 (Option.some.inj h1).symm ag4
  rw [← Option.some.inj h0]
  exact ag8
def pX10_atDoor : List (Nat × Option Nat) := [at_ 42 20, at_ 42 19, all_ 44, all_ 53, all_ 45, all_ 46, all_ 47, all_ 48, at_ 42 6, at_ 42 7, at_ 42 8, at_ 42 9, all_ 54, all_ 55, at_ 42 23]
theorem rX10_atDoor {w : Wd} {out : Int32 × Wd} (h0 : fX10_atDoor w = some out) : Agree (pU pX10_atDoor) w out.2 := by
  have ag0 : Agree (pU pX10_atDoor) w w := Agree.rf
  unfold fX10_atDoor at h0
  obtain ⟨w1, ew1, h0⟩ := bind_some h0
  have ag2 := ag0.tr (Agree.sub [0, 1, 2, 3, 4, 5, 6, 7, 8, 9, 10, 11] rfl (rX10_passesAll ew1))
  obtain ⟨w3, ew3, h0⟩ := bind_some h0
  have ag4 := ag2.tr (Agree.sub [12, 13, 14, 9, 11, 10] rfl (rX10_goesToDoor ew3))
  obtain ⟨v5, ev5, h0⟩ := lt_some h0
  obtain ⟨w6, ew6, h0⟩ := bind_some h0
  have ag7 := ag4.tr (Agree.sub [0, 1, 2, 3, 4, 5, 6, 7, 8, 9, 10, 11] rfl (rX10_passesAll ew6))
  rw [← Option.some.inj h0]
  exact ag7
def pX10_door : List (Nat × Option Nat) := [all_ 43, at_ 42 20, at_ 42 19, all_ 44, all_ 53, all_ 45, all_ 46, all_ 47, all_ 48, at_ 42 6, at_ 42 7, at_ 42 8, at_ 42 9, all_ 54, all_ 55, at_ 42 23]
theorem rX10_door {w : Wd} {a1 : Int32} {out : Int32 × Wd} (h0 : fX10_door w a1 = some out) : Agree (pU pX10_door) w out.2 := by
  have ag0 : Agree (pU pX10_door) w w := Agree.rf
  unfold fX10_door at h0
  by_cases c13 : (fX10_isIn a1 0 2) = 0
  · rw [if_pos c13] at h0
    obtain ⟨q3, er2, h0⟩ := bind_some h0
    replace h0 := un2_eq h0
    obtain ⟨r2, w1, rfl, h0⟩ := h0
    have ag4 := ag0.tr (Agree.sub [0] rfl (rX10_no er2))
    rw [← Option.some.inj h0]
    exact ag4
  · rw [if_neg c13] at h0
    obtain ⟨q7, er6, h0⟩ := bind_some h0
    replace h0 := un2_eq h0
    obtain ⟨r6, w5, rfl, h0⟩ := h0
    have ag8 := ag0.tr (Agree.sub [1, 2, 3, 4, 5, 6, 7, 8, 9, 10, 11, 12, 13, 14, 15] rfl (rX10_atDoor er6))
    by_cases c12 : a1 = 0
    · rw [if_pos c12] at h0
      rw [← Option.some.inj h0]
      exact ag8
    · rw [if_neg c12] at h0
      by_cases c11 : a1 = 1
      · rw [if_pos c11] at h0
        obtain ⟨r9, er9, h0⟩ := bind_some h0
        rw [← Option.some.inj h0]
        exact ag8
      · rw [if_neg c11] at h0
        obtain ⟨r10, er10, h0⟩ := bind_some h0
        rw [← Option.some.inj h0]
        exact ag8
def pX10_dark : List (Nat × Option Nat) := [all_ 43, at_ 42 20, at_ 42 19, all_ 44, all_ 53, all_ 45, all_ 46, all_ 47, all_ 48, at_ 42 6, at_ 42 7, at_ 42 8, at_ 42 9, all_ 54, all_ 55, at_ 42 23]
theorem rX10_dark {w : Wd} {a1 : Int32} {out : Int32 × Wd} (h0 : fX10_dark w a1 = some out) : Agree (pU pX10_dark) w out.2 := by
  have ag0 : Agree (pU pX10_dark) w w := Agree.rf
  unfold fX10_dark at h0
  by_cases c30 : (fX10_isIn a1 0 1) = 0
  · rw [if_pos c30] at h0
    obtain ⟨q3, er2, h0⟩ := bind_some h0
    replace h0 := un2_eq h0
    obtain ⟨r2, w1, rfl, h0⟩ := h0
    have ag4 := ag0.tr (Agree.sub [0] rfl (rX10_no er2))
    rw [← Option.some.inj h0]
    exact ag4
  · rw [if_neg c30] at h0
    obtain ⟨w5, ew5, h0⟩ := bind_some h0
    have ag6 := ag0.tr (Agree.sub [1, 2, 3, 4, 5, 6, 7, 8, 9, 10, 11, 12] rfl (rX10_passesAll ew5))
    obtain ⟨v7, hv7, h0⟩ := lt_some h0
    have hv7 := hv7.symm
    obtain ⟨x22, ix22, h0⟩ := bind_some h0
    replace h0 := un3_eq h0
    obtain ⟨l23, l24, w25, rfl, h0⟩ := h0
    have ag26 : Agree (pU pX10_dark) w w25 := by
      refine iter_rule (P := fun s : Int32 × Int32 × Int32 × Int32 × Wd => Agree (pU pX10_dark) w s.2.2.2.2 → Agree (pU pX10_dark) w w25) (x := (l23, l24, w25)) ?_ FU (v7, 0, 0, 1, w5) ix22 ag6
      intro s y1 h1 hP1 hX1 agl44
      obtain ⟨l8, l9, l10, l11, w12⟩ := s
      have h1 : fX10_dark_b44 l8 l9 l10 l11 w12 = some y1 := h1
      have agl44 : Agree (pU pX10_dark) w w12 := agl44
      unfold fX10_dark_b44 at h1
      by_cases c21 : (fX10_doorAt w12) ≤ (w12.1 42 8)
      · rw [if_pos c21] at h1
        have e13 := hX1 _ (Option.some.inj h1).symm
        cases e13
        exact agl44
      · rw [if_neg c21] at h1
        obtain ⟨w14, ew14, h1⟩ := bind_some h1
        have ag15 := agl44.tr (Agree.sub [13, 14, 15, 10, 12, 11] rfl (rX10_goes ew14))
        obtain ⟨v16, hv16, h1⟩ := lt_some h1
        have hv16 := hv16.symm
        obtain ⟨v17, hv17, h1⟩ := lt_some h1
        have hv17 := hv17.symm
        obtain ⟨v18, hv18, h1⟩ := lt_some h1
        have hv18 := hv18.symm
        obtain ⟨v20, ev20, h1⟩ := lt_some h1
        exact hP1 (v18, v16, v17, v20, w14) (Option.some.inj h1).symm ag15
    obtain ⟨w27, ew27, h0⟩ := bind_some h0
    have ag28 := ag26.tr (Agree.sub [1, 2, 3, 4, 5, 6, 7, 8, 9, 10, 11, 12] rfl (rX10_passesAll ew27))
    by_cases c29 : a1 = 0
    · rw [if_pos c29] at h0
      rw [← Option.some.inj h0]
      exact ag28
    · rw [if_neg c29] at h0
      rw [← Option.some.inj h0]
      exact ag28
def pX10_darkEnds : List (Nat × Option Nat) := [at_ 42 20, at_ 42 19, all_ 44, all_ 53, all_ 45, all_ 46, all_ 47, all_ 48, at_ 42 6, at_ 42 7, at_ 42 8, at_ 42 9, all_ 54, all_ 55, at_ 42 23]
theorem rX10_darkEnds {w : Wd} {a1 : Int32} {out : Int32 × Wd} (h0 : fX10_darkEnds w a1 = some out) : Agree (pU pX10_darkEnds) w out.2 := by
  have ag0 : Agree (pU pX10_darkEnds) w w := Agree.rf
  unfold fX10_darkEnds at h0
  obtain ⟨w1, ew1, h0⟩ := bind_some h0
  have ag2 := ag0.tr (Agree.sub [0, 1, 2, 3, 4, 5, 6, 7, 8, 9, 10, 11] rfl (rX10_passesAll ew1))
  obtain ⟨x11, ix11, h0⟩ := bind_some h0
  replace h0 := un2_eq h0
  obtain ⟨l12, w13, rfl, h0⟩ := h0
  have ag14 : Agree (pU pX10_darkEnds) w w13 := by
    refine iter_rule (P := fun s : Int32 × Wd => Agree (pU pX10_darkEnds) w s.2 → Agree (pU pX10_darkEnds) w w13) (x := (l12, w13)) ?_ FU (0, w1) ix11 ag2
    intro s y1 h1 hP1 hX1 agl8
    obtain ⟨l3, w4⟩ := s
    have h1 : fX10_darkEnds_b8 a1 l3 w4 = some y1 := h1
    have agl8 : Agree (pU pX10_darkEnds) w w4 := agl8
    unfold fX10_darkEnds_b8 at h1
    by_cases c10 : (fX10_doorAt w4) ≤ (w4.1 42 8)
    · rw [if_pos c10] at h1
      have e5 := hX1 _ (Option.some.inj h1).symm
      cases e5
      exact agl8
    · rw [if_neg c10] at h1
      obtain ⟨w6, ew6, h1⟩ := bind_some h1
      have ag7 := agl8.tr (Agree.sub [12, 13, 14, 9, 11, 10] rfl (rX10_goes ew6))
      obtain ⟨v8, hv8, h1⟩ := lt_some h1
      have hv8 := hv8.symm
      obtain ⟨v9, ev9, h1⟩ := lt_some h1
      exact hP1 (v9, w6) (Option.some.inj h1).symm ag7
  obtain ⟨w15, ew15, h0⟩ := bind_some h0
  have ag16 := ag14.tr (Agree.sub [0, 1, 2, 3, 4, 5, 6, 7, 8, 9, 10, 11] rfl (rX10_passesAll ew15))
  rw [← Option.some.inj h0]
  exact ag16
def pX10_darkFor : List (Nat × Option Nat) := [all_ 43, at_ 42 20, at_ 42 19, all_ 44, all_ 53, all_ 45, all_ 46, all_ 47, all_ 48, at_ 42 6, at_ 42 7, at_ 42 8, at_ 42 9, all_ 54, all_ 55, at_ 42 23]
theorem rX10_darkFor {w : Wd} {a1 : Int32} {out : Int32 × Wd} (h0 : fX10_darkFor w a1 = some out) : Agree (pU pX10_darkFor) w out.2 := by
  have ag0 : Agree (pU pX10_darkFor) w w := Agree.rf
  unfold fX10_darkFor at h0
  by_cases c9 : (fX10_isPerson w a1) = 0
  · rw [if_pos c9] at h0
    obtain ⟨q3, er2, h0⟩ := bind_some h0
    replace h0 := un2_eq h0
    obtain ⟨r2, w1, rfl, h0⟩ := h0
    have ag4 := ag0.tr (Agree.sub [0] rfl (rX10_no er2))
    rw [← Option.some.inj h0]
    exact ag4
  · rw [if_neg c9] at h0
    obtain ⟨q7, er6, h0⟩ := bind_some h0
    replace h0 := un2_eq h0
    obtain ⟨r6, w5, rfl, h0⟩ := h0
    have ag8 := ag0.tr (Agree.sub [1, 2, 3, 4, 5, 6, 7, 8, 9, 10, 11, 12, 13, 14, 15] rfl (rX10_darkEnds er6))
    rw [← Option.some.inj h0]
    exact ag8
def pX10_litBy : List (Nat × Option Nat) := [at_ 42 20, at_ 42 19, all_ 44, all_ 53, all_ 45, all_ 46, all_ 47, all_ 48, at_ 42 6, at_ 42 7, at_ 42 8, at_ 42 9, all_ 54, all_ 55, at_ 42 23, all_ 43]
theorem rX10_litBy {w : Wd} {a1 : Int32} {a2 : Int32} {out : Int32 × Wd} (h0 : fX10_litBy w a1 a2 = some out) : Agree (pU pX10_litBy) w out.2 := by
  have ag0 : Agree (pU pX10_litBy) w w := Agree.rf
  unfold fX10_litBy at h0
  obtain ⟨v1, hv1, h0⟩ := lt_some h0
  have hv1 := hv1.symm
  by_cases c24 : v1 = 0
  · rw [if_pos c24] at h0
    obtain ⟨w2, ew2, h0⟩ := bind_some h0
    have ag3 := ag0.tr (Agree.sub [0, 1, 2, 3, 4, 5, 6, 7, 8, 9, 10, 11] rfl (rX10_passesAll ew2))
    obtain ⟨w13, iw13, h0⟩ := bind_some h0
    have ag14 : Agree (pU pX10_litBy) w w13 := by
      refine iter_rule (P := fun s : Int32 × Wd => Agree (pU pX10_litBy) w s.2 → Agree (pU pX10_litBy) w w13) (x := w13) ?_ FU (0, w2) iw13 ag3
      intro s y1 h1 hP1 hX1 agl39
      obtain ⟨l4, w5⟩ := s
      have h1 : fX10_litBy_b39 l4 w5 = some y1 := h1
      have agl39 : Agree (pU pX10_litBy) w w5 := agl39
      unfold fX10_litBy_b39 at h1
      by_cases c11 : (8 : Int32) ≤ l4
      · rw [if_pos c11] at h1
        have e6 := hX1 _ (Option.some.inj h1).symm
        cases e6
        exact agl39
      · rw [if_neg c11] at h1
        obtain ⟨g8, h1⟩ := gd_some h1
        obtain ⟨w7, ew7, h1⟩ := lt_some h1
        have ag9 := agl39.pI ew7 (Or.inr (List.mem_of_getElem? (i := 12) rfl))
        obtain ⟨v10, ev10, h1⟩ := lt_some h1
        exact hP1 (v10, w7) (Option.some.inj h1).symm ag9
    obtain ⟨w15, ew15, h0⟩ := bind_some h0
    have ag16 := ag14.tr (Agree.sub [12, 13, 14, 9, 11, 10] rfl (rX10_goesAhead ew15))
    obtain ⟨w17, ew17, h0⟩ := bind_some h0
    have ag18 := ag16.tr (Agree.sub [0, 1, 2, 3, 4, 5, 6, 7, 8, 9, 10, 11] rfl (rX10_passesAll ew17))
    obtain ⟨g19, h0⟩ := gd_some h0
    rw [← Option.some.inj h0]
    exact ag18
  · rw [if_neg c24] at h0
    obtain ⟨q22, er21, h0⟩ := bind_some h0
    replace h0 := un2_eq h0
    obtain ⟨r21, w20, rfl, h0⟩ := h0
    have ag23 := ag0.tr (Agree.sub [15] rfl (rX10_no er21))
    rw [← Option.some.inj h0]
    exact ag23
def pX10_stopBy : List (Nat × Option Nat) := [at_ 42 20, at_ 42 19, all_ 44, all_ 53, all_ 45, all_ 46, all_ 47, all_ 48, at_ 42 6, at_ 42 7, at_ 42 8, at_ 42 9, all_ 54, all_ 55, at_ 42 23]
theorem rX10_stopBy {w : Wd} {a1 : Int32} {a2 : Int32} {out : Int32 × Wd} (h0 : fX10_stopBy w a1 a2 = some out) : Agree (pU pX10_stopBy) w out.2 := by
  have ag0 : Agree (pU pX10_stopBy) w w := Agree.rf
  unfold fX10_stopBy at h0
  obtain ⟨w1, ew1, h0⟩ := bind_some h0
  have ag2 := ag0.tr (Agree.sub [0, 1, 2, 3, 4, 5, 6, 7, 8, 9, 10, 11] rfl (rX10_passesAll ew1))
  obtain ⟨w22, iw22, h0⟩ := bind_some h0
  have ag23 : Agree (pU pX10_stopBy) w w22 := by
    refine iter_rule (P := fun s : Wd => Agree (pU pX10_stopBy) w s → Agree (pU pX10_stopBy) w w22) (x := w22) ?_ FU w1 iw22 ag2
    intro s y1 h1 hP1 hX1 agl6
    obtain ⟨w3, rfl⟩ : ∃ z, z = s := ⟨s, rfl⟩
    have h1 : fX10_stopBy_b6 a2 a1 w3 = some y1 := h1
    have agl6 : Agree (pU pX10_stopBy) w w3 := agl6
    unfold fX10_stopBy_b6 at h1
    have J43 : ∀ (w17 : Wd), fX10_stopBy_j43 w17 = some y1 → Agree (pU pX10_stopBy) w w17 → Agree (pU pX10_stopBy) w w22 := by
      intro w17 h1 agj
      unfold fX10_stopBy_j43 at h1
      obtain ⟨w18, ew18, h1⟩ := bind_some h1
      have ag19 := agj.tr (Agree.sub [12, 13, 14, 9, 11, 10] rfl (rX10_goes ew18))
      exact hP1 w18 (Option.some.inj h1).symm ag19
    by_cases c20 : (fX10_doorAt w3) ≤ (w3.1 42 8)
    · rw [if_pos c20] at h1
      have e4 := hX1 _ (Option.some.inj h1).symm
      cases e4
      exact agl6
    · rw [if_neg c20] at h1
      obtain ⟨w15, iw15, h1⟩ := bind_some h1
      have ag16 : Agree (pU pX10_stopBy) w w15 := by
        refine iter_rule (P := fun s : Int32 × Wd => Agree (pU pX10_stopBy) w s.2 → Agree (pU pX10_stopBy) w w15) (x := w15) ?_ FU (0, w3) iw15 agl6
        intro s y2 h2 hP2 hX2 agl19
        obtain ⟨l5, w6⟩ := s
        have h2 : fX10_stopBy_b19 a2 a1 l5 w6 = some y2 := h2
        have agl19 : Agree (pU pX10_stopBy) w w6 := agl19
        unfold fX10_stopBy_b19 at h2
        by_cases c13 : a2 ≤ l5
        · rw [if_pos c13] at h2
          have e7 := hX2 _ (Option.some.inj h2).symm
          cases e7
          exact agl19
        · rw [if_neg c13] at h2
          by_cases c12 : (w6.1 42 8) = a1
          · rw [if_pos c12] at h2
            obtain ⟨w8, ew8, h2⟩ := bind_some h2
            have ag9 := agl19.tr (Agree.sub [12, 13, 14, 9, 11, 10] rfl (rX10_goes ew8))
            obtain ⟨v10, ev10, h2⟩ := lt_some h2
            exact hP2 (v10, w8) (Option.some.inj h2).symm ag9
          · rw [if_neg c12] at h2
            have e11 := hX2 _ (Option.some.inj h2).symm
            cases e11
            exact agl19
      exact J43 w15 h1 ag16
  obtain ⟨r24, er24, h0⟩ := bind_some h0
  obtain ⟨w25, ew25, h0⟩ := bind_some h0
  have ag26 := ag23.tr (Agree.sub [0, 1, 2, 3, 4, 5, 6, 7, 8, 9, 10, 11] rfl (rX10_passesAll ew25))
  rw [← Option.some.inj h0]
  exact ag26
def pX10_stop : List (Nat × Option Nat) := [at_ 42 20, at_ 42 19, all_ 44, all_ 53, all_ 45, all_ 46, all_ 47, all_ 48, at_ 42 6, at_ 42 7, at_ 42 8, at_ 42 9, all_ 54, all_ 55, at_ 42 23]
theorem rX10_stop {w : Wd} {out : Int32 × Wd} (h0 : fX10_stop w = some out) : Agree (pU pX10_stop) w out.2 := by
  have ag0 : Agree (pU pX10_stop) w w := Agree.rf
  unfold fX10_stop at h0
  obtain ⟨q3, er2, h0⟩ := bind_some h0
  replace h0 := un2_eq h0
  obtain ⟨r2, w1, rfl, h0⟩ := h0
  have ag4 := ag0.tr (Agree.sub [0, 1, 2, 3, 4, 5, 6, 7, 8, 9, 10, 11, 12, 13, 14] rfl (rX10_atDoor er2))
  obtain ⟨r5, er5, h0⟩ := bind_some h0
  obtain ⟨x33, ix33, h0⟩ := bind_some h0
  replace h0 := un2_eq h0
  obtain ⟨l34, w35, rfl, h0⟩ := h0
  have ag36 : Agree (pU pX10_stop) w w35 := by
    refine iter_rule (P := fun s : Int32 × Int32 × Int32 × Wd => Agree (pU pX10_stop) w s.2.2.2 → Agree (pU pX10_stop) w w35) (x := (l34, w35)) ?_ FU (r5, (-9), 1, w1) ix33 ag4
    intro s y1 h1 hP1 hX1 agl13
    obtain ⟨l6, l7, l8, w9⟩ := s
    have h1 : fX10_stop_b13 l6 l7 l8 w9 = some y1 := h1
    have agl13 : Agree (pU pX10_stop) w w9 := agl13
    unfold fX10_stop_b13 at h1
    by_cases c32 : (6 : Int32) ≤ l8
    · rw [if_pos c32] at h1
      have e10 := hX1 _ (Option.some.inj h1).symm
      cases e10
      exact agl13
    · rw [if_neg c32] at h1
      obtain ⟨v11, ev11, h1⟩ := lt_some h1
      obtain ⟨x26, ix26, h1⟩ := bind_some h1
      replace h1 := un3_eq h1
      obtain ⟨l27, l28, w29, rfl, h1⟩ := h1
      have ag30 : Agree (pU pX10_stop) w w29 := by
        refine iter_rule (P := fun s : Int32 × Int32 × Int32 × Wd => Agree (pU pX10_stop) w s.2.2.2 → Agree (pU pX10_stop) w w29) (x := (l27, l28, w29)) ?_ FU (l6, l7, v11, w9) ix26 agl13
        intro s y2 h2 hP2 hX2 agl25
        obtain ⟨l12, l13, l14, w15⟩ := s
        have h2 : fX10_stop_b25 l8 l12 l13 l14 w15 = some y2 := h2
        have agl25 : Agree (pU pX10_stop) w w15 := agl25
        unfold fX10_stop_b25 at h2
        by_cases c25 : (fX10_doorAt w15) ≤ l14
        · rw [if_pos c25] at h2
          have e16 := hX2 _ (Option.some.inj h2).symm
          cases e16
          exact agl25
        · rw [if_neg c25] at h2
          obtain ⟨q19, er18, h2⟩ := bind_some h2
          replace h2 := un2_eq h2
          obtain ⟨r18, w17, rfl, h2⟩ := h2
          have ag20 := agl25.tr (Agree.sub [0, 1, 2, 3, 4, 5, 6, 7, 8, 9, 10, 11, 12, 13, 14] rfl (rX10_stopBy er18))
          by_cases c24 : l12 < r18
          · rw [if_pos c24] at h2
            obtain ⟨v21, ev21, h2⟩ := lt_some h2
            obtain ⟨v22, ev22, h2⟩ := lt_some h2
            exact hP2 (r18, v21, v22, w17) (Option.some.inj h2).symm ag20
          · rw [if_neg c24] at h2
            obtain ⟨v23, ev23, h2⟩ := lt_some h2
            exact hP2 (l12, l13, v23, w17) (Option.some.inj h2).symm ag20
      obtain ⟨v31, ev31, h1⟩ := lt_some h1
      exact hP1 (l27, l28, v31, w29) (Option.some.inj h1).symm ag30
  rw [← Option.some.inj h0]
  exact ag36
def pX10_lower : List (Nat × Option Nat) := [at_ 42 20, at_ 42 19, all_ 44, all_ 53, all_ 45, all_ 46, all_ 47, all_ 48, at_ 42 6, at_ 42 7, at_ 42 8, at_ 42 9, all_ 54, all_ 55, at_ 42 23]
theorem rX10_lower {w : Wd} {out : Int32 × Wd} (h0 : fX10_lower w = some out) : Agree (pU pX10_lower) w out.2 := by
  have ag0 : Agree (pU pX10_lower) w w := Agree.rf
  unfold fX10_lower at h0
  obtain ⟨q3, er2, h0⟩ := bind_some h0
  replace h0 := un2_eq h0
  obtain ⟨r2, w1, rfl, h0⟩ := h0
  have ag4 := ag0.tr (Agree.sub [0, 1, 2, 3, 4, 5, 6, 7, 8, 9, 10, 11, 12, 13, 14] rfl (rX10_atDoor er2))
  obtain ⟨r5, er5, h0⟩ := bind_some h0
  obtain ⟨x27, ix27, h0⟩ := bind_some h0
  replace h0 := un2_eq h0
  obtain ⟨l28, w29, rfl, h0⟩ := h0
  have ag30 : Agree (pU pX10_lower) w w29 := by
    refine iter_rule (P := fun s : Int32 × Int32 × Int32 × Wd => Agree (pU pX10_lower) w s.2.2.2 → Agree (pU pX10_lower) w w29) (x := (l28, w29)) ?_ FU (r5, (-9), 0, w1) ix27 ag4
    intro s y1 h1 hP1 hX1 agl14
    obtain ⟨l6, l7, l8, w9⟩ := s
    have h1 : fX10_lower_b14 l6 l7 l8 w9 = some y1 := h1
    have agl14 : Agree (pU pX10_lower) w w9 := agl14
    unfold fX10_lower_b14 at h1
    by_cases c26 : (w9.1 42 6) ≤ l8
    · rw [if_pos c26] at h1
      have e10 := hX1 _ (Option.some.inj h1).symm
      cases e10
      exact agl14
    · rw [if_neg c26] at h1
      obtain ⟨w11, ew11, h1⟩ := bind_some h1
      have ag12 := agl14.tr (Agree.sub [0, 1, 2, 3, 4, 5, 6, 7, 8, 9, 10, 11] rfl (rX10_passesAll ew11))
      obtain ⟨g14, h1⟩ := gd_some h1
      obtain ⟨w13, ew13, h1⟩ := lt_some h1
      have ag15 := ag12.pI ew13 (Or.inr (List.mem_of_getElem? (i := 4) rfl))
      obtain ⟨q18, er17, h1⟩ := bind_some h1
      replace h1 := un2_eq h1
      obtain ⟨r17, w16, rfl, h1⟩ := h1
      have ag19 := ag15.tr (Agree.sub [0, 1, 2, 3, 4, 5, 6, 7, 8, 9, 10, 11, 12, 13, 14] rfl (rX10_atDoor er17))
      obtain ⟨r20, er20, h1⟩ := bind_some h1
      obtain ⟨w21, ew21, h1⟩ := bind_some h1
      have ag22 := ag19.tr (Agree.sub [0, 1, 2, 3, 4, 5, 6, 7, 8, 9, 10, 11] rfl (rX10_passesAll ew21))
      by_cases c25 : l6 < r20
      · rw [if_pos c25] at h1
        obtain ⟨v23, ev23, h1⟩ := lt_some h1
        exact hP1 (r20, l8, v23, w21) (Option.some.inj h1).symm ag22
      · rw [if_neg c25] at h1
        obtain ⟨v24, ev24, h1⟩ := lt_some h1
        exact hP1 (l6, l7, v24, w21) (Option.some.inj h1).symm ag22
  rw [← Option.some.inj h0]
  exact ag30
def pX10_exchanges : List (Nat × Option Nat) := [all_ 45, all_ 46, at_ 42 7]
theorem rX10_exchanges {w : Wd} {a1 : Int32} {a2 : Int32} {out : Wd} (h0 : fX10_exchanges w a1 a2 = some out) : Agree (pU pX10_exchanges) w out := by
  have ag0 : Agree (pU pX10_exchanges) w w := Agree.rf
  unfold fX10_exchanges at h0
  obtain ⟨g1, h0⟩ := gd_some h0
  obtain ⟨v2, ev2, h0⟩ := lt_some h0
  obtain ⟨v3, ev3, h0⟩ := lt_some h0
  obtain ⟨v4, ev4, h0⟩ := lt_some h0
  obtain ⟨g5, h0⟩ := gd_some h0
  obtain ⟨w6, ew6, h0⟩ := lt_some h0
  have ag7 := ag0.pI ew6 (Or.inr (List.mem_of_getElem? (i := 0) rfl))
  obtain ⟨w8, ew8, h0⟩ := lt_some h0
  have ag9 := ag7.pI ew8 (Or.inr (List.mem_of_getElem? (i := 1) rfl))
  obtain ⟨w10, ew10, h0⟩ := lt_some h0
  have ag11 := ag9.pI ew10 (Or.inr (List.mem_of_getElem? (i := 0) rfl))
  obtain ⟨w12, ew12, h0⟩ := lt_some h0
  have ag13 := ag11.pI ew12 (Or.inr (List.mem_of_getElem? (i := 1) rfl))
  obtain ⟨w14, ew14, h0⟩ := lt_some h0
  have ag15 := ag13.pI ew14 (Or.inl (List.mem_of_getElem? (i := 2) rfl))
  rw [← Option.some.inj h0]
  exact ag15
def pX10_changed : List (Nat × Option Nat) := [at_ 42 20, at_ 42 19, all_ 44, all_ 53, all_ 45, all_ 46, all_ 47, all_ 48, at_ 42 6, at_ 42 7, at_ 42 8, at_ 42 9, all_ 54, all_ 55, at_ 42 23]
theorem rX10_changed {w : Wd} {out : Int32 × Wd} (h0 : fX10_changed w = some out) : Agree (pU pX10_changed) w out.2 := by
  have ag0 : Agree (pU pX10_changed) w w := Agree.rf
  unfold fX10_changed at h0
  obtain ⟨q3, er2, h0⟩ := bind_some h0
  replace h0 := un2_eq h0
  obtain ⟨r2, w1, rfl, h0⟩ := h0
  have ag4 := ag0.tr (Agree.sub [0, 1, 2, 3, 4, 5, 6, 7, 8, 9, 10, 11, 12, 13, 14] rfl (rX10_atDoor er2))
  obtain ⟨r5, er5, h0⟩ := bind_some h0
  obtain ⟨x40, ix40, h0⟩ := bind_some h0
  replace h0 := un2_eq h0
  obtain ⟨l41, w42, rfl, h0⟩ := h0
  have ag43 : Agree (pU pX10_changed) w w42 := by
    refine iter_rule (P := fun s : Int32 × Int32 × Int32 × Wd => Agree (pU pX10_changed) w s.2.2.2 → Agree (pU pX10_changed) w w42) (x := (l41, w42)) ?_ FU (r5, (-9), 0, w1) ix40 ag4
    intro s y1 h1 hP1 hX1 agl13
    obtain ⟨l6, l7, l8, w9⟩ := s
    have h1 : fX10_changed_b13 l6 l7 l8 w9 = some y1 := h1
    have agl13 : Agree (pU pX10_changed) w w9 := agl13
    unfold fX10_changed_b13 at h1
    by_cases c39 : (w9.1 42 6) ≤ l8
    · rw [if_pos c39] at h1
      have e10 := hX1 _ (Option.some.inj h1).symm
      cases e10
      exact agl13
    · rw [if_neg c39] at h1
      obtain ⟨v11, ev11, h1⟩ := lt_some h1
      obtain ⟨x33, ix33, h1⟩ := bind_some h1
      replace h1 := un3_eq h1
      obtain ⟨l34, l35, w36, rfl, h1⟩ := h1
      have ag37 : Agree (pU pX10_changed) w w36 := by
        refine iter_rule (P := fun s : Int32 × Int32 × Int32 × Wd => Agree (pU pX10_changed) w s.2.2.2 → Agree (pU pX10_changed) w w36) (x := (l34, l35, w36)) ?_ FU (l6, l7, v11, w9) ix33 agl13
        intro s y2 h2 hP2 hX2 agl26
        obtain ⟨l12, l13, l14, w15⟩ := s
        have h2 : fX10_changed_b26 l8 l12 l13 l14 w15 = some y2 := h2
        have agl26 : Agree (pU pX10_changed) w w15 := agl26
        unfold fX10_changed_b26 at h2
        by_cases c32 : (w15.1 42 6) ≤ l14
        · rw [if_pos c32] at h2
          have e16 := hX2 _ (Option.some.inj h2).symm
          cases e16
          exact agl26
        · rw [if_neg c32] at h2
          obtain ⟨w17, ew17, h2⟩ := bind_some h2
          have ag18 := agl26.tr (Agree.sub [0, 1, 2, 3, 4, 5, 6, 7, 8, 9, 10, 11] rfl (rX10_passesAll ew17))
          obtain ⟨w19, ew19, h2⟩ := bind_some h2
          have ag20 := ag18.tr (Agree.sub [4, 5, 9] rfl (rX10_exchanges ew19))
          obtain ⟨q23, er22, h2⟩ := bind_some h2
          replace h2 := un2_eq h2
          obtain ⟨r22, w21, rfl, h2⟩ := h2
          have ag24 := ag20.tr (Agree.sub [0, 1, 2, 3, 4, 5, 6, 7, 8, 9, 10, 11, 12, 13, 14] rfl (rX10_atDoor er22))
          obtain ⟨r25, er25, h2⟩ := bind_some h2
          obtain ⟨w26, ew26, h2⟩ := bind_some h2
          have ag27 := ag24.tr (Agree.sub [0, 1, 2, 3, 4, 5, 6, 7, 8, 9, 10, 11] rfl (rX10_passesAll ew26))
          by_cases c31 : l12 < r25
          · rw [if_pos c31] at h2
            obtain ⟨v28, ev28, h2⟩ := lt_some h2
            obtain ⟨v29, ev29, h2⟩ := lt_some h2
            exact hP2 (r25, v28, v29, w26) (Option.some.inj h2).symm ag27
          · rw [if_neg c31] at h2
            obtain ⟨v30, ev30, h2⟩ := lt_some h2
            exact hP2 (l12, l13, v30, w26) (Option.some.inj h2).symm ag27
      obtain ⟨v38, ev38, h1⟩ := lt_some h1
      exact hP1 (l34, l35, v38, w36) (Option.some.inj h1).symm ag37
  rw [← Option.some.inj h0]
  exact ag43
def pX10_tellsOrder : List (Nat × Option Nat) := [all_ 59]
theorem rX10_tellsOrder {w : Wd} {a1 : Int32} {out : Int32 × Wd} (h0 : fX10_tellsOrder w a1 = some out) : Agree (pU pX10_tellsOrder) w out.2 := by
  have ag0 : Agree (pU pX10_tellsOrder) w w := Agree.rf
  unfold fX10_tellsOrder at h0
  obtain ⟨v1, ev1, h0⟩ := lt_some h0
  obtain ⟨x16, ix16, h0⟩ := bind_some h0
  replace h0 := un2_eq h0
  obtain ⟨l17, w18, rfl, h0⟩ := h0
  have ag19 : Agree (pU pX10_tellsOrder) w w18 := by
    refine iter_rule (P := fun s : Int32 × Int32 × Int32 × Wd => Agree (pU pX10_tellsOrder) w s.2.2.2 → Agree (pU pX10_tellsOrder) w w18) (x := (l17, w18)) ?_ FU (a1, 0, v1, w) ix16 ag0
    intro s y1 h1 hP1 hX1 agl12
    obtain ⟨l2, l3, l4, w5⟩ := s
    have h1 : fX10_tellsOrder_b12 l2 l3 l4 w5 = some y1 := h1
    have agl12 : Agree (pU pX10_tellsOrder) w w5 := agl12
    unfold fX10_tellsOrder_b12 at h1
    by_cases c15 : l4 < 0
    · rw [if_pos c15] at h1
      have e6 := hX1 _ (Option.some.inj h1).symm
      cases e6
      exact agl12
    · rw [if_neg c15] at h1
      obtain ⟨g7, h1⟩ := gd_some h1
      obtain ⟨g9, h1⟩ := gd_some h1
      obtain ⟨w8, ew8, h1⟩ := lt_some h1
      have ag10 := agl12.pI ew8 (Or.inr (List.mem_of_getElem? (i := 0) rfl))
      obtain ⟨g11, h1⟩ := gd_some h1
      obtain ⟨v12, ev12, h1⟩ := lt_some h1
      obtain ⟨v13, ev13, h1⟩ := lt_some h1
      obtain ⟨v14, ev14, h1⟩ := lt_some h1
      exact hP1 (v12, v13, v14, w8) (Option.some.inj h1).symm ag10
  obtain ⟨r20, er20, h0⟩ := bind_some h0
  by_cases c21 : r20 = (w18.1 42 6)
  · rw [if_pos c21] at h0
    rw [← Option.some.inj h0]
    exact ag19
  · rw [if_neg c21] at h0
    rw [← Option.some.inj h0]
    exact ag19
def pX10_doorBy : List (Nat × Option Nat) := [all_ 45, all_ 46, at_ 42 7, at_ 42 20, at_ 42 19, all_ 44, all_ 53, all_ 47, all_ 48, at_ 42 6, at_ 42 8, at_ 42 9, all_ 54, all_ 55, at_ 42 23]
theorem rX10_doorBy {w : Wd} {a1 : Int32} {out : Int32 × Wd} (h0 : fX10_doorBy w a1 = some out) : Agree (pU pX10_doorBy) w out.2 := by
  have ag0 : Agree (pU pX10_doorBy) w w := Agree.rf
  unfold fX10_doorBy at h0
  obtain ⟨w17, iw17, h0⟩ := bind_some h0
  have ag18 : Agree (pU pX10_doorBy) w w17 := by
    refine iter_rule (P := fun s : Int32 × Wd => Agree (pU pX10_doorBy) w s.2 → Agree (pU pX10_doorBy) w w17) (x := w17) ?_ FU (0, w) iw17 ag0
    intro s y1 h1 hP1 hX1 agl2
    obtain ⟨l1, w2⟩ := s
    have h1 : fX10_doorBy_b2 a1 l1 w2 = some y1 := h1
    have agl2 : Agree (pU pX10_doorBy) w w2 := agl2
    unfold fX10_doorBy_b2 at h1
    by_cases c15 : (w2.1 42 6) ≤ l1
    · rw [if_pos c15] at h1
      have e3 := hX1 _ (Option.some.inj h1).symm
      cases e3
      exact agl2
    · rw [if_neg c15] at h1
      obtain ⟨g4, h1⟩ := gd_some h1
      obtain ⟨g5, h1⟩ := gd_some h1
      obtain ⟨g7, h1⟩ := gd_some h1
      obtain ⟨w6, ew6, h1⟩ := lt_some h1
      have ag8 := agl2.pI ew6 (Or.inr (List.mem_of_getElem? (i := 0) rfl))
      obtain ⟨g9, h1⟩ := gd_some h1
      obtain ⟨w10, ew10, h1⟩ := lt_some h1
      have ag11 := ag8.pI ew10 (Or.inr (List.mem_of_getElem? (i := 1) rfl))
      obtain ⟨w12, ew12, h1⟩ := lt_some h1
      have ag13 := ag11.pI ew12 (Or.inl (List.mem_of_getElem? (i := 2) rfl))
      obtain ⟨v14, ev14, h1⟩ := lt_some h1
      exact hP1 (v14, w12) (Option.some.inj h1).symm ag13
  obtain ⟨q21, er20, h0⟩ := bind_some h0
  replace h0 := un2_eq h0
  obtain ⟨r20, w19, rfl, h0⟩ := h0
  have ag22 := ag18.tr (Agree.sub [3, 4, 5, 6, 0, 1, 7, 8, 9, 2, 10, 11, 12, 13, 14] rfl (rX10_atDoor er20))
  obtain ⟨r23, er23, h0⟩ := bind_some h0
  rw [← Option.some.inj h0]
  exact ag22
def pX10_order : List (Nat × Option Nat) := [at_ 42 20, at_ 42 19, all_ 44, all_ 53, all_ 45, all_ 46, all_ 47, all_ 48, at_ 42 6, at_ 42 7, at_ 42 8, at_ 42 9, all_ 61, all_ 62, all_ 59, all_ 54, all_ 55, at_ 42 23, all_ 60, all_ 43]
theorem rX10_order {w : Wd} {a1 : Int32} {out : Int32 × Wd} (h0 : fX10_order w a1 = some out) : Agree (pU pX10_order) w out.2 := by
  have ag0 : Agree (pU pX10_order) w w := Agree.rf
  unfold fX10_order at h0
  obtain ⟨v1, hv1, h0⟩ := lt_some h0
  have hv1 := hv1.symm
  by_cases c72 : v1 = 0
  · rw [if_pos c72] at h0
    obtain ⟨w3, ew3, h0⟩ := bind_some h0
    have ag4 := ag0.tr (Agree.sub [0, 1, 2, 3, 4, 5, 6, 7, 8, 9, 10, 11] rfl (rX10_passesAll ew3))
    obtain ⟨v5, ev5, h0⟩ := lt_some h0
    obtain ⟨x18, ix18, h0⟩ := bind_some h0
    replace h0 := un2_eq h0
    obtain ⟨l19, w20, rfl, h0⟩ := h0
    have ag21 : Agree (pU pX10_order) w w20 := by
      refine iter_rule (P := fun s : Int32 × Int32 × Wd => Agree (pU pX10_order) w s.2.2 → Agree (pU pX10_order) w w20) (x := (l19, w20)) ?_ FU (1, 0, w3) ix18 ag4
      intro s y1 h1 hP1 hX1 agl65
      obtain ⟨l6, l7, w8⟩ := s
      have h1 : fX10_order_b65 l6 l7 w8 = some y1 := h1
      have agl65 : Agree (pU pX10_order) w w8 := agl65
      unfold fX10_order_b65 at h1
      by_cases c17 : (w8.1 42 6) ≤ l7
      · rw [if_pos c17] at h1
        have e9 := hX1 _ (Option.some.inj h1).symm
        cases e9
        exact agl65
      · rw [if_neg c17] at h1
        obtain ⟨g10, h1⟩ := gd_some h1
        obtain ⟨w11, ew11, h1⟩ := lt_some h1
        have ag12 := agl65.pI ew11 (Or.inr (List.mem_of_getElem? (i := 12) rfl))
        obtain ⟨w13, ew13, h1⟩ := lt_some h1
        have ag14 := ag12.pI ew13 (Or.inr (List.mem_of_getElem? (i := 13) rfl))
        obtain ⟨v15, ev15, h1⟩ := lt_some h1
        obtain ⟨v16, ev16, h1⟩ := lt_some h1
        exact hP1 (v15, v16, w13) (Option.some.inj h1).symm ag14
    obtain ⟨x51, ix51, h0⟩ := bind_some h0
    replace h0 := un2_eq h0
    obtain ⟨l52, w53, rfl, h0⟩ := h0
    have ag54 : Agree (pU pX10_order) w w53 := by
      refine iter_rule (P := fun s : Int32 × Int32 × Wd => Agree (pU pX10_order) w s.2.2 → Agree (pU pX10_order) w w53) (x := (l52, w53)) ?_ FU ((-9), 0, w20) ix51 ag21
      intro s y1 h1 hP1 hX1 agl120
      obtain ⟨l22, l23, w24⟩ := s
      have h1 : fX10_order_b120 l19 v5 l22 l23 w24 = some y1 := h1
      have agl120 : Agree (pU pX10_order) w w24 := agl120
      unfold fX10_order_b120 at h1
      by_cases c50 : l19 ≤ l23
      · rw [if_pos c50] at h1
        have e25 := hX1 _ (Option.some.inj h1).symm
        cases e25
        exact agl120
      · rw [if_neg c50] at h1
        obtain ⟨q28, er27, h1⟩ := bind_some h1
        replace h1 := un2_eq h1
        obtain ⟨r27, w26, rfl, h1⟩ := h1
        have ag29 := agl120.tr (Agree.sub [14] rfl (rX10_tellsOrder er27))
        by_cases c49 : r27 = 0
        · rw [if_pos c49] at h1
          obtain ⟨v30, ev30, h1⟩ := lt_some h1
          exact hP1 (l22, v30, w26) (Option.some.inj h1).symm ag29
        · rw [if_neg c49] at h1
          obtain ⟨q33, er32, h1⟩ := bind_some h1
          replace h1 := un2_eq h1
          obtain ⟨r32, w31, rfl, h1⟩ := h1
          have ag34 := ag29.tr (Agree.sub [4, 5, 9, 0, 1, 2, 3, 6, 7, 8, 10, 11, 15, 16, 17] rfl (rX10_doorBy er32))
          by_cases c48 : l22 < r32
          · rw [if_pos c48] at h1
            obtain ⟨w44, iw44, h1⟩ := bind_some h1
            have ag45 : Agree (pU pX10_order) w w44 := by
              refine iter_rule (P := fun s : Int32 × Wd => Agree (pU pX10_order) w s.2 → Agree (pU pX10_order) w w44) (x := w44) ?_ FU (0, w31) iw44 ag34
              intro s y2 h2 hP2 hX2 agl163
              obtain ⟨l35, w36⟩ := s
              have h2 : fX10_order_b163 l35 w36 = some y2 := h2
              have agl163 : Agree (pU pX10_order) w w36 := agl163
              unfold fX10_order_b163 at h2
              by_cases c42 : (w36.1 42 6) ≤ l35
              · rw [if_pos c42] at h2
                have e37 := hX2 _ (Option.some.inj h2).symm
                cases e37
                exact agl163
              · rw [if_neg c42] at h2
                obtain ⟨g38, h2⟩ := gd_some h2
                obtain ⟨w39, ew39, h2⟩ := lt_some h2
                have ag40 := agl163.pI ew39 (Or.inr (List.mem_of_getElem? (i := 18) rfl))
                obtain ⟨v41, ev41, h2⟩ := lt_some h2
                exact hP2 (v41, w39) (Option.some.inj h2).symm ag40
            obtain ⟨v46, ev46, h1⟩ := lt_some h1
            exact hP1 (r32, v46, w44) (Option.some.inj h1).symm ag45
          · rw [if_neg c48] at h1
            obtain ⟨v47, ev47, h1⟩ := lt_some h1
            exact hP1 (l22, v47, w31) (Option.some.inj h1).symm ag34
    obtain ⟨w55, ew55, h0⟩ := bind_some h0
    have ag56 := ag54.tr (Agree.sub [0, 1, 2, 3, 4, 5, 6, 7, 8, 9, 10, 11] rfl (rX10_passesAll ew55))
    obtain ⟨v57, ev57, h0⟩ := lt_some h0
    obtain ⟨l66, il66, h0⟩ := bind_some h0
    by_cases c67 : a1 = 0
    · rw [if_pos c67] at h0
      rw [← Option.some.inj h0]
      exact ag56
    · rw [if_neg c67] at h0
      rw [← Option.some.inj h0]
      exact ag56
  · rw [if_neg c72] at h0
    obtain ⟨q70, er69, h0⟩ := bind_some h0
    replace h0 := un2_eq h0
    obtain ⟨r69, w68, rfl, h0⟩ := h0
    have ag71 := ag0.tr (Agree.sub [19] rfl (rX10_no er69))
    rw [← Option.some.inj h0]
    exact ag71
def pX10_withLanterns : List (Nat × Option Nat) := [at_ 42 20, at_ 42 19, all_ 44, all_ 53, all_ 45, all_ 46, all_ 47, all_ 48, at_ 42 6, at_ 42 7, at_ 42 8, at_ 42 9, all_ 54, all_ 55, at_ 42 23, at_ 42 32]
theorem rX10_withLanterns {w : Wd} {a1 : Int32} {out : Int32 × Wd} (h0 : fX10_withLanterns w a1 = some out) : Agree (pU pX10_withLanterns) w out.2 := by
  have ag0 : Agree (pU pX10_withLanterns) w w := Agree.rf
  unfold fX10_withLanterns at h0
  obtain ⟨w1, ew1, h0⟩ := bind_some h0
  have ag2 := ag0.tr (Agree.sub [0, 1, 2, 3, 4, 5, 6, 7, 8, 9, 10, 11] rfl (rX10_passesAll ew1))
  obtain ⟨w15, iw15, h0⟩ := bind_some h0
  have ag16 : Agree (pU pX10_withLanterns) w w15 := by
    refine iter_rule (P := fun s : Int32 × Wd => Agree (pU pX10_withLanterns) w s.2 → Agree (pU pX10_withLanterns) w w15) (x := w15) ?_ FU (0, w1) iw15 ag2
    intro s y1 h1 hP1 hX1 agl8
    obtain ⟨l3, w4⟩ := s
    have h1 : fX10_withLanterns_b8 a1 l3 w4 = some y1 := h1
    have agl8 : Agree (pU pX10_withLanterns) w w4 := agl8
    unfold fX10_withLanterns_b8 at h1
    by_cases c13 : (w4.1 42 6) ≤ l3
    · rw [if_pos c13] at h1
      have e5 := hX1 _ (Option.some.inj h1).symm
      cases e5
      exact agl8
    · rw [if_neg c13] at h1
      obtain ⟨v7, hv7, h1⟩ := bind_some h1
      obtain ⟨g10, h1⟩ := gd_some h1
      obtain ⟨w9, ew9, h1⟩ := lt_some h1
      have ag11 := agl8.pI ew9 (Or.inr (List.mem_of_getElem? (i := 4) rfl))
      obtain ⟨v12, ev12, h1⟩ := lt_some h1
      exact hP1 (v12, w9) (Option.some.inj h1).symm ag11
  obtain ⟨w17, ew17, h0⟩ := lt_some h0
  have ag18 := ag16.pI ew17 (Or.inl (List.mem_of_getElem? (i := 9) rfl))
  obtain ⟨q21, er20, h0⟩ := bind_some h0
  replace h0 := un2_eq h0
  obtain ⟨r20, w19, rfl, h0⟩ := h0
  have ag22 := ag18.tr (Agree.sub [0, 1, 2, 3, 4, 5, 6, 7, 8, 9, 10, 11, 12, 13, 14] rfl (rX10_atDoor er20))
  obtain ⟨l32, il32, h0⟩ := bind_some h0
  obtain ⟨v33, hv33, h0⟩ := lt_some h0
  have hv33 := hv33.symm
  obtain ⟨g35, h0⟩ := gd_some h0
  obtain ⟨w34, ew34, h0⟩ := lt_some h0
  have ag36 := ag22.pI ew34 (Or.inl (List.mem_of_getElem? (i := 15) rfl))
  obtain ⟨w37, ew37, h0⟩ := bind_some h0
  have ag38 := ag36.tr (Agree.sub [0, 1, 2, 3, 4, 5, 6, 7, 8, 9, 10, 11] rfl (rX10_passesAll ew37))
  rw [← Option.some.inj h0]
  exact ag38
def pX10_lantern : List (Nat × Option Nat) := [at_ 42 20, at_ 42 19, all_ 44, all_ 53, all_ 45, all_ 46, all_ 47, all_ 48, at_ 42 6, at_ 42 7, at_ 42 8, at_ 42 9, all_ 54, all_ 55, at_ 42 23, at_ 42 32, all_ 43]
theorem rX10_lantern {w : Wd} {a1 : Int32} {out : Int32 × Wd} (h0 : fX10_lantern w a1 = some out) : Agree (pU pX10_lantern) w out.2 := by
  have ag0 : Agree (pU pX10_lantern) w w := Agree.rf
  unfold fX10_lantern at h0
  obtain ⟨v1, hv1, h0⟩ := lt_some h0
  have hv1 := hv1.symm
  by_cases c27 : v1 = 0
  · rw [if_pos c27] at h0
    obtain ⟨x17, ix17, h0⟩ := bind_some h0
    replace h0 := un3_eq h0
    obtain ⟨l18, l19, w20, rfl, h0⟩ := h0
    have ag21 : Agree (pU pX10_lantern) w w20 := by
      refine iter_rule (P := fun s : Int32 × Int32 × Int32 × Wd => Agree (pU pX10_lantern) w s.2.2.2 → Agree (pU pX10_lantern) w w20) (x := (l18, l19, w20)) ?_ FU (0, (-9), 0, w) ix17 ag0
      intro s y1 h1 hP1 hX1 agl47
      obtain ⟨l3, l4, l5, w6⟩ := s
      have h1 : fX10_lantern_b47 l3 l4 l5 w6 = some y1 := h1
      have agl47 : Agree (pU pX10_lantern) w w6 := agl47
      unfold fX10_lantern_b47 at h1
      by_cases c16 : (w6.1 42 6) ≤ l5
      · rw [if_pos c16] at h1
        have e7 := hX1 _ (Option.some.inj h1).symm
        cases e7
        exact agl47
      · rw [if_neg c16] at h1
        obtain ⟨q10, er9, h1⟩ := bind_some h1
        replace h1 := un2_eq h1
        obtain ⟨r9, w8, rfl, h1⟩ := h1
        have ag11 := agl47.tr (Agree.sub [0, 1, 2, 3, 4, 5, 6, 7, 8, 9, 10, 11, 12, 13, 14, 15] rfl (rX10_withLanterns er9))
        obtain ⟨r12, er12, h1⟩ := bind_some h1
        by_cases c15 : l4 < r12
        · rw [if_pos c15] at h1
          obtain ⟨v13, ev13, h1⟩ := lt_some h1
          exact hP1 (l5, r12, v13, w8) (Option.some.inj h1).symm ag11
        · rw [if_neg c15] at h1
          obtain ⟨v14, ev14, h1⟩ := lt_some h1
          exact hP1 (l3, l4, v14, w8) (Option.some.inj h1).symm ag11
    by_cases c22 : a1 = 0
    · rw [if_pos c22] at h0
      rw [← Option.some.inj h0]
      exact ag21
    · rw [if_neg c22] at h0
      rw [← Option.some.inj h0]
      exact ag21
  · rw [if_neg c27] at h0
    obtain ⟨q25, er24, h0⟩ := bind_some h0
    replace h0 := un2_eq h0
    obtain ⟨r24, w23, rfl, h0⟩ := h0
    have ag26 := ag0.tr (Agree.sub [16] rfl (rX10_no er24))
    rw [← Option.some.inj h0]
    exact ag26
def pX10_fewest : List (Nat × Option Nat) := [all_ 43, at_ 42 20, at_ 42 19, all_ 44, all_ 53, all_ 45, all_ 46, all_ 47, all_ 48, at_ 42 6, at_ 42 7, at_ 42 8, at_ 42 9, all_ 54, all_ 55, at_ 42 23, at_ 42 32]
theorem rX10_fewest {w : Wd} {a1 : Int32} {out : Int32 × Wd} (h0 : fX10_fewest w a1 = some out) : Agree (pU pX10_fewest) w out.2 := by
  have ag0 : Agree (pU pX10_fewest) w w := Agree.rf
  unfold fX10_fewest at h0
  by_cases c30 : (fX10_isIn a1 0 1) = 0
  · rw [if_pos c30] at h0
    obtain ⟨q3, er2, h0⟩ := bind_some h0
    replace h0 := un2_eq h0
    obtain ⟨r2, w1, rfl, h0⟩ := h0
    have ag4 := ag0.tr (Agree.sub [0] rfl (rX10_no er2))
    rw [← Option.some.inj h0]
    exact ag4
  · rw [if_neg c30] at h0
    obtain ⟨x23, ix23, h0⟩ := bind_some h0
    replace h0 := un2_eq h0
    obtain ⟨l24, w25, rfl, h0⟩ := h0
    have ag26 : Agree (pU pX10_fewest) w w25 := by
      refine iter_rule (P := fun s : Int32 × Int32 × Wd => Agree (pU pX10_fewest) w s.2.2 → Agree (pU pX10_fewest) w w25) (x := (l24, w25)) ?_ FU ((-9), 0, w) ix23 ag0
      intro s y1 h1 hP1 hX1 agl21
      obtain ⟨l5, l6, w7⟩ := s
      have h1 : fX10_fewest_b21 l5 l6 w7 = some y1 := h1
      have agl21 : Agree (pU pX10_fewest) w w7 := agl21
      unfold fX10_fewest_b21 at h1
      by_cases c22 : (1 : Int32) <<< ((w7.1 42 6) &&& 31) ≤ l6
      · rw [if_pos c22] at h1
        have e8 := hX1 _ (Option.some.inj h1).symm
        cases e8
        exact agl21
      · rw [if_neg c22] at h1
        obtain ⟨q11, er10, h1⟩ := bind_some h1
        replace h1 := un2_eq h1
        obtain ⟨r10, w9, rfl, h1⟩ := h1
        have ag12 := agl21.tr (Agree.sub [1, 2, 3, 4, 5, 6, 7, 8, 9, 10, 11, 12, 13, 14, 15, 16] rfl (rX10_withLanterns er10))
        by_cases c21 : (w9.1 42 32) = 0
        · rw [if_pos c21] at h1
          obtain ⟨v13, ev13, h1⟩ := lt_some h1
          exact hP1 (l5, v13, w9) (Option.some.inj h1).symm ag12
        · rw [if_neg c21] at h1
          by_cases c20 : l5 < 0
          · rw [if_pos c20] at h1
            obtain ⟨v14, ev14, h1⟩ := lt_some h1
            exact hP1 (l6, v14, w9) (Option.some.inj h1).symm ag12
          · rw [if_neg c20] at h1
            obtain ⟨r15, er15, h1⟩ := bind_some h1
            obtain ⟨r16, er16, h1⟩ := bind_some h1
            by_cases c19 : r16 ≤ r15
            · rw [if_pos c19] at h1
              obtain ⟨v17, ev17, h1⟩ := lt_some h1
              exact hP1 (l5, v17, w9) (Option.some.inj h1).symm ag12
            · rw [if_neg c19] at h1
              obtain ⟨v18, ev18, h1⟩ := lt_some h1
              exact hP1 (l6, v18, w9) (Option.some.inj h1).symm ag12
    by_cases c29 : a1 = 1
    · rw [if_pos c29] at h0
      rw [← Option.some.inj h0]
      exact ag26
    · rw [if_neg c29] at h0
      by_cases c28 : (0 : Int32) ≤ l24
      · rw [if_pos c28] at h0
        obtain ⟨r27, er27, h0⟩ := bind_some h0
        rw [← Option.some.inj h0]
        exact ag26
      · rw [if_neg c28] at h0
        rw [← Option.some.inj h0]
        exact ag26
def pX10_doorByMatch : List (Nat × Option Nat) := [at_ 42 20, at_ 42 19, all_ 44, all_ 53, all_ 45, all_ 46, all_ 47, all_ 48, at_ 42 6, at_ 42 7, at_ 42 8, at_ 42 9, all_ 54, all_ 55, at_ 42 23]
theorem rX10_doorByMatch {w : Wd} {a1 : Int32} {a2 : Int32} {out : Int32 × Wd} (h0 : fX10_doorByMatch w a1 a2 = some out) : Agree (pU pX10_doorByMatch) w out.2 := by
  have ag0 : Agree (pU pX10_doorByMatch) w w := Agree.rf
  unfold fX10_doorByMatch at h0
  obtain ⟨w1, ew1, h0⟩ := bind_some h0
  have ag2 := ag0.tr (Agree.sub [0, 1, 2, 3, 4, 5, 6, 7, 8, 9, 10, 11] rfl (rX10_passesAll ew1))
  obtain ⟨w16, iw16, h0⟩ := bind_some h0
  have ag17 : Agree (pU pX10_doorByMatch) w w16 := by
    refine iter_rule (P := fun s : Int32 × Wd => Agree (pU pX10_doorByMatch) w s.2 → Agree (pU pX10_doorByMatch) w w16) (x := w16) ?_ FU (0, w1) iw16 ag2
    intro s y1 h1 hP1 hX1 agl8
    obtain ⟨l3, w4⟩ := s
    have h1 : fX10_doorByMatch_b8 a1 a2 l3 w4 = some y1 := h1
    have agl8 : Agree (pU pX10_doorByMatch) w w4 := agl8
    unfold fX10_doorByMatch_b8 at h1
    have J36 : ∀ (w9 : Wd) (l8 : Int32), fX10_doorByMatch_j36 w9 l8 = some y1 → Agree (pU pX10_doorByMatch) w w9 → Agree (pU pX10_doorByMatch) w w16 := by
      intro w9 l8 h1 agj
      unfold fX10_doorByMatch_j36 at h1
      obtain ⟨w10, ew10, h1⟩ := bind_some h1
      have ag11 := agj.tr (Agree.sub [12, 13, 14, 9, 11, 10] rfl (rX10_goes ew10))
      obtain ⟨v12, ev12, h1⟩ := lt_some h1
      exact hP1 (v12, w10) (Option.some.inj h1).symm ag11
    by_cases c14 : (fX10_doorAt w4) ≤ (w4.1 42 8)
    · rw [if_pos c14] at h1
      have e5 := hX1 _ (Option.some.inj h1).symm
      cases e5
      exact agl8
    · rw [if_neg c14] at h1
      by_cases c13 : l3 = a1
      · rw [if_pos c13] at h1
        obtain ⟨w6, ew6, h1⟩ := lt_some h1
        have ag7 := agl8.pI ew6 (Or.inl (List.mem_of_getElem? (i := 9) rfl))
        exact J36 w6 l3 h1 ag7
      · rw [if_neg c13] at h1
        exact J36 w4 l3 h1 agl8
  obtain ⟨r18, er18, h0⟩ := bind_some h0
  obtain ⟨w19, ew19, h0⟩ := bind_some h0
  have ag20 := ag17.tr (Agree.sub [0, 1, 2, 3, 4, 5, 6, 7, 8, 9, 10, 11] rfl (rX10_passesAll ew19))
  rw [← Option.some.inj h0]
  exact ag20
def pX10_match : List (Nat × Option Nat) := [at_ 42 20, at_ 42 19, all_ 44, all_ 53, all_ 45, all_ 46, all_ 47, all_ 48, at_ 42 6, at_ 42 7, at_ 42 8, at_ 42 9, all_ 54, all_ 55, at_ 42 23]
theorem rX10_match {w : Wd} {out : Int32 × Wd} (h0 : fX10_match w = some out) : Agree (pU pX10_match) w out.2 := by
  have ag0 : Agree (pU pX10_match) w w := Agree.rf
  unfold fX10_match at h0
  obtain ⟨q3, er2, h0⟩ := bind_some h0
  replace h0 := un2_eq h0
  obtain ⟨r2, w1, rfl, h0⟩ := h0
  have ag4 := ag0.tr (Agree.sub [0, 1, 2, 3, 4, 5, 6, 7, 8, 9, 10, 11, 12, 13, 14] rfl (rX10_atDoor er2))
  obtain ⟨r5, er5, h0⟩ := bind_some h0
  obtain ⟨v6, ev6, h0⟩ := lt_some h0
  obtain ⟨x40, ix40, h0⟩ := bind_some h0
  replace h0 := un2_eq h0
  obtain ⟨l41, w42, rfl, h0⟩ := h0
  have ag43 : Agree (pU pX10_match) w w42 := by
    refine iter_rule (P := fun s : Int32 × Int32 × Int32 × Wd => Agree (pU pX10_match) w s.2.2.2 → Agree (pU pX10_match) w w42) (x := (l41, w42)) ?_ FU (r5, (-9), v6, w1) ix40 ag4
    intro s y1 h1 hP1 hX1 agl23
    obtain ⟨l7, l8, l9, w10⟩ := s
    have h1 : fX10_match_b23 l7 l8 l9 w10 = some y1 := h1
    have agl23 : Agree (pU pX10_match) w w10 := agl23
    unfold fX10_match_b23 at h1
    by_cases c39 : l9 < 0
    · rw [if_pos c39] at h1
      have e11 := hX1 _ (Option.some.inj h1).symm
      cases e11
      exact agl23
    · rw [if_neg c39] at h1
      obtain ⟨x33, ix33, h1⟩ := bind_some h1
      replace h1 := un3_eq h1
      obtain ⟨l34, l35, w36, rfl, h1⟩ := h1
      have ag37 : Agree (pU pX10_match) w w36 := by
        refine iter_rule (P := fun s : Int32 × Int32 × Int32 × Wd => Agree (pU pX10_match) w s.2.2.2 → Agree (pU pX10_match) w w36) (x := (l34, l35, w36)) ?_ FU (l7, l8, 0, w10) ix33 agl23
        intro s y2 h2 hP2 hX2 agl30
        obtain ⟨l12, l13, l14, w15⟩ := s
        have h2 : fX10_match_b30 l9 l12 l13 l14 w15 = some y2 := h2
        have agl30 : Agree (pU pX10_match) w w15 := agl30
        unfold fX10_match_b30 at h2
        by_cases c32 : (w15.1 42 6) ≤ l14
        · rw [if_pos c32] at h2
          have e16 := hX2 _ (Option.some.inj h2).symm
          cases e16
          exact agl30
        · rw [if_neg c32] at h2
          obtain ⟨g17, h2⟩ := gd_some h2
          by_cases c31 : (w15.1 45 l14.toNatClampNeg) = 6
          · rw [if_pos c31] at h2
            obtain ⟨v18, ev18, h2⟩ := lt_some h2
            exact hP2 (l12, l13, v18, w15) (Option.some.inj h2).symm agl30
          · rw [if_neg c31] at h2
            obtain ⟨q21, er20, h2⟩ := bind_some h2
            replace h2 := un2_eq h2
            obtain ⟨r20, w19, rfl, h2⟩ := h2
            have ag22 := agl30.tr (Agree.sub [0, 1, 2, 3, 4, 5, 6, 7, 8, 9, 10, 11, 12, 13, 14] rfl (rX10_doorByMatch er20))
            by_cases c30 : l12 < r20
            · rw [if_pos c30] at h2
              obtain ⟨q25, er24, h2⟩ := bind_some h2
              replace h2 := un2_eq h2
              obtain ⟨r24, w23, rfl, h2⟩ := h2
              have ag26 := ag22.tr (Agree.sub [0, 1, 2, 3, 4, 5, 6, 7, 8, 9, 10, 11, 12, 13, 14] rfl (rX10_doorByMatch er24))
              obtain ⟨v27, ev27, h2⟩ := lt_some h2
              obtain ⟨v28, ev28, h2⟩ := lt_some h2
              exact hP2 (r24, v27, v28, w23) (Option.some.inj h2).symm ag26
            · rw [if_neg c30] at h2
              obtain ⟨v29, ev29, h2⟩ := lt_some h2
              exact hP2 (l12, l13, v29, w19) (Option.some.inj h2).symm ag22
      obtain ⟨v38, ev38, h1⟩ := lt_some h1
      exact hP1 (l34, l35, v38, w36) (Option.some.inj h1).symm ag37
  rw [← Option.some.inj h0]
  exact ag43
def pX10_tail : List (Nat × Option Nat) := [all_ 43, at_ 42 20, at_ 42 19, all_ 44, all_ 53, all_ 45, all_ 46, all_ 47, all_ 48, at_ 42 6, at_ 42 7, at_ 42 8, at_ 42 9, all_ 54, all_ 55, at_ 42 23]
theorem rX10_tail {w : Wd} {out : Int32 × Wd} (h0 : fX10_tail w = some out) : Agree (pU pX10_tail) w out.2 := by
  have ag0 : Agree (pU pX10_tail) w w := Agree.rf
  unfold fX10_tail at h0
  by_cases c39 : (w.1 42 6) = 0
  · rw [if_pos c39] at h0
    obtain ⟨q3, er2, h0⟩ := bind_some h0
    replace h0 := un2_eq h0
    obtain ⟨r2, w1, rfl, h0⟩ := h0
    have ag4 := ag0.tr (Agree.sub [0] rfl (rX10_no er2))
    rw [← Option.some.inj h0]
    exact ag4
  · rw [if_neg c39] at h0
    obtain ⟨q7, er6, h0⟩ := bind_some h0
    replace h0 := un2_eq h0
    obtain ⟨r6, w5, rfl, h0⟩ := h0
    have ag8 := ag0.tr (Agree.sub [1, 2, 3, 4, 5, 6, 7, 8, 9, 10, 11, 12, 13, 14, 15] rfl (rX10_atDoor er6))
    obtain ⟨r9, er9, h0⟩ := bind_some h0
    obtain ⟨v10, ev10, h0⟩ := lt_some h0
    obtain ⟨x35, ix35, h0⟩ := bind_some h0
    replace h0 := un2_eq h0
    obtain ⟨l36, w37, rfl, h0⟩ := h0
    have ag38 : Agree (pU pX10_tail) w w37 := by
      refine iter_rule (P := fun s : Int32 × Int32 × Int32 × Int32 × Wd => Agree (pU pX10_tail) w s.2.2.2.2 → Agree (pU pX10_tail) w w37) (x := (l36, w37)) ?_ FU (0, r9, v10, 1, w5) ix35 ag8
      intro s y1 h1 hP1 hX1 agl32
      obtain ⟨l11, l12, l13, l14, w15⟩ := s
      have h1 : fX10_tail_b32 l11 l12 l13 l14 w15 = some y1 := h1
      have agl32 : Agree (pU pX10_tail) w w15 := agl32
      unfold fX10_tail_b32 at h1
      by_cases c34 : (w15.1 42 6) ≤ l14
      · rw [if_pos c34] at h1
        have e16 := hX1 _ (Option.some.inj h1).symm
        cases e16
        exact agl32
      · rw [if_neg c34] at h1
        obtain ⟨w17, ew17, h1⟩ := bind_some h1
        have ag18 := agl32.tr (Agree.sub [1, 2, 3, 4, 5, 6, 7, 8, 9, 10, 11, 12] rfl (rX10_passesAll ew17))
        obtain ⟨w19, ew19, h1⟩ := lt_some h1
        have ag20 := ag18.pI ew19 (Or.inl (List.mem_of_getElem? (i := 9) rfl))
        obtain ⟨w21, ew21, h1⟩ := lt_some h1
        have ag22 := ag20.pI ew21 (Or.inl (List.mem_of_getElem? (i := 10) rfl))
        obtain ⟨q25, er24, h1⟩ := bind_some h1
        replace h1 := un2_eq h1
        obtain ⟨r24, w23, rfl, h1⟩ := h1
        have ag26 := ag22.tr (Agree.sub [1, 2, 3, 4, 5, 6, 7, 8, 9, 10, 11, 12, 13, 14, 15] rfl (rX10_atDoor er24))
        obtain ⟨r27, er27, h1⟩ := bind_some h1
        obtain ⟨v28, ev28, h1⟩ := lt_some h1
        obtain ⟨w29, ew29, h1⟩ := bind_some h1
        have ag30 := ag26.tr (Agree.sub [1, 2, 3, 4, 5, 6, 7, 8, 9, 10, 11, 12] rfl (rX10_passesAll ew29))
        by_cases c33 : (l12 * v28) < (r27 * l13)
        · rw [if_pos c33] at h1
          obtain ⟨v31, ev31, h1⟩ := lt_some h1
          exact hP1 (l14, r27, v28, v31, w29) (Option.some.inj h1).symm ag30
        · rw [if_neg c33] at h1
          obtain ⟨v32, ev32, h1⟩ := lt_some h1
          exact hP1 (l11, l12, l13, v32, w29) (Option.some.inj h1).symm ag30
    rw [← Option.some.inj h0]
    exact ag38
def pX10_goesByRule : List (Nat × Option Nat) := [at_ 42 20, at_ 42 19, all_ 44, all_ 53, all_ 45, all_ 46, all_ 47, all_ 48, at_ 42 6, at_ 42 7, at_ 42 8, at_ 42 9, at_ 42 34, all_ 54, all_ 55, at_ 42 23, at_ 42 33]
theorem rX10_goesByRule {w : Wd} {a1 : Int32} {out : Wd} (h0 : fX10_goesByRule w a1 = some out) : Agree (pU pX10_goesByRule) w out := by
  have ag0 : Agree (pU pX10_goesByRule) w w := Agree.rf
  unfold fX10_goesByRule at h0
  obtain ⟨w1, ew1, h0⟩ := bind_some h0
  have ag2 := ag0.tr (Agree.sub [0, 1, 2, 3, 4, 5, 6, 7, 8, 9, 10, 11] rfl (rX10_passesAll ew1))
  obtain ⟨w3, ew3, h0⟩ := lt_some h0
  have ag4 := ag2.pI ew3 (Or.inl (List.mem_of_getElem? (i := 12) rfl))
  obtain ⟨w19, iw19, h0⟩ := bind_some h0
  have ag20 : Agree (pU pX10_goesByRule) w w19 := by
    refine iter_rule (P := fun s : Int32 × Wd => Agree (pU pX10_goesByRule) w s.2 → Agree (pU pX10_goesByRule) w w19) (x := w19) ?_ FU (0, w3) iw19 ag4
    intro s y1 h1 hP1 hX1 agl13
    obtain ⟨l5, w6⟩ := s
    have h1 : fX10_goesByRule_b13 a1 l5 w6 = some y1 := h1
    have agl13 : Agree (pU pX10_goesByRule) w w6 := agl13
    unfold fX10_goesByRule_b13 at h1
    by_cases c17 : (fX10_doorAt w6) ≤ (w6.1 42 8)
    · rw [if_pos c17] at h1
      have e7 := hX1 _ (Option.some.inj h1).symm
      cases e7
      exact agl13
    · rw [if_neg c17] at h1
      obtain ⟨v9, hv9, h1⟩ := bind_some h1
      obtain ⟨w12, ew12, h1⟩ := bind_some h1
      have ag13 := agl13.tr (Agree.sub [13, 14, 15, 9, 11, 10] rfl (rX10_goes ew12))
      obtain ⟨v14, hv14, h1⟩ := lt_some h1
      have hv14 := hv14.symm
      obtain ⟨w15, ew15, h1⟩ := lt_some h1
      have ag16 := ag13.pI ew15 (Or.inl (List.mem_of_getElem? (i := 12) rfl))
      exact hP1 (v14, w15) (Option.some.inj h1).symm ag16
  obtain ⟨r21, er21, h0⟩ := bind_some h0
  obtain ⟨w22, ew22, h0⟩ := lt_some h0
  have ag23 := ag20.pI ew22 (Or.inl (List.mem_of_getElem? (i := 16) rfl))
  obtain ⟨w24, ew24, h0⟩ := bind_some h0
  have ag25 := ag23.tr (Agree.sub [0, 1, 2, 3, 4, 5, 6, 7, 8, 9, 10, 11] rfl (rX10_passesAll ew24))
  rw [← Option.some.inj h0]
  exact ag25
def pX10_rule : List (Nat × Option Nat) := [all_ 43, at_ 42 20, at_ 42 19, all_ 44, all_ 53, all_ 45, all_ 46, all_ 47, all_ 48, at_ 42 6, at_ 42 7, at_ 42 8, at_ 42 9, at_ 42 34, all_ 54, all_ 55, at_ 42 23, at_ 42 33]
theorem rX10_rule {w : Wd} {a1 : Int32} {a2 : Int32} {out : Int32 × Wd} (h0 : fX10_rule w a1 a2 = some out) : Agree (pU pX10_rule) w out.2 := by
  have ag0 : Agree (pU pX10_rule) w w := Agree.rf
  unfold fX10_rule at h0
  have J18 : ∀ (w1 : Wd), fX10_rule_j18 w1 = some out → Agree (pU pX10_rule) w w1 → Agree (pU pX10_rule) w out.2 := by
    intro w1 h0 agj
    unfold fX10_rule_j18 at h0
    obtain ⟨q4, er3, h0⟩ := bind_some h0
    replace h0 := un2_eq h0
    obtain ⟨r3, w2, rfl, h0⟩ := h0
    have ag5 := agj.tr (Agree.sub [0] rfl (rX10_no er3))
    rw [← Option.some.inj h0]
    exact ag5
  by_cases c10 : (fX10_isIn a1 0 4) = 0
  · rw [if_pos c10] at h0
    exact J18 w h0 ag0
  · rw [if_neg c10] at h0
    by_cases c9 : (fX10_isIn a2 0 1) = 0
    · rw [if_pos c9] at h0
      exact J18 w h0 ag0
    · rw [if_neg c9] at h0
      obtain ⟨w6, ew6, h0⟩ := bind_some h0
      have ag7 := ag0.tr (Agree.sub [1, 2, 3, 4, 5, 6, 7, 8, 9, 10, 11, 12, 13, 14, 15, 16, 17] rfl (rX10_goesByRule ew6))
      by_cases c8 : a2 = 0
      · rw [if_pos c8] at h0
        rw [← Option.some.inj h0]
        exact ag7
      · rw [if_neg c8] at h0
        rw [← Option.some.inj h0]
        exact ag7
def pX10_best : List (Nat × Option Nat) := [at_ 42 20, at_ 42 19, all_ 44, all_ 53, all_ 45, all_ 46, all_ 47, all_ 48, at_ 42 6, at_ 42 7, at_ 42 8, at_ 42 9, at_ 42 34, all_ 54, all_ 55, at_ 42 23, at_ 42 33]
theorem rX10_best {w : Wd} {out : Int32 × Wd} (h0 : fX10_best w = some out) : Agree (pU pX10_best) w out.2 := by
  have ag0 : Agree (pU pX10_best) w w := Agree.rf
  unfold fX10_best at h0
  obtain ⟨w1, ew1, h0⟩ := bind_some h0
  have ag2 := ag0.tr (Agree.sub [0, 1, 2, 3, 4, 5, 6, 7, 8, 9, 10, 11, 12, 13, 14, 15, 16] rfl (rX10_goesByRule ew1))
  obtain ⟨v3, ev3, h0⟩ := lt_some h0
  obtain ⟨v4, ev4, h0⟩ := lt_some h0
  obtain ⟨x24, ix24, h0⟩ := bind_some h0
  replace h0 := un2_eq h0
  obtain ⟨l25, w26, rfl, h0⟩ := h0
  have ag27 : Agree (pU pX10_best) w w26 := by
    refine iter_rule (P := fun s : Int32 × Int32 × Int32 × Int32 × Wd => Agree (pU pX10_best) w s.2.2.2.2 → Agree (pU pX10_best) w w26) (x := (l25, w26)) ?_ FU (0, v3, v4, 1, w1) ix24 ag2
    intro s y1 h1 hP1 hX1 agl20
    obtain ⟨l5, l6, l7, l8, w9⟩ := s
    have h1 : fX10_best_b20 l5 l6 l7 l8 w9 = some y1 := h1
    have agl20 : Agree (pU pX10_best) w w9 := agl20
    unfold fX10_best_b20 at h1
    have J59 : ∀ (w15 : Wd) (l14 : Int32), fX10_best_j59 w15 l14 = some y1 → Agree (pU pX10_best) w w15 → Agree (pU pX10_best) w w26 := by
      intro w15 l14 h1 agj
      unfold fX10_best_j59 at h1
      obtain ⟨v16, ev16, h1⟩ := lt_some h1
      obtain ⟨v17, ev17, h1⟩ := lt_some h1
      obtain ⟨v18, ev18, h1⟩ := lt_some h1
      exact hP1 (l14, v16, v17, v18, w15) (Option.some.inj h1).symm agj
    by_cases c23 : (5 : Int32) ≤ l8
    · rw [if_pos c23] at h1
      have e10 := hX1 _ (Option.some.inj h1).symm
      cases e10
      exact agl20
    · rw [if_neg c23] at h1
      obtain ⟨w11, ew11, h1⟩ := bind_some h1
      have ag12 := agl20.tr (Agree.sub [0, 1, 2, 3, 4, 5, 6, 7, 8, 9, 10, 11, 12, 13, 14, 15, 16] rfl (rX10_goesByRule ew11))
      by_cases c22 : (w11.1 42 33) < l6
      · rw [if_pos c22] at h1
        obtain ⟨v13, ev13, h1⟩ := lt_some h1
        exact hP1 (l5, l6, l7, v13, w11) (Option.some.inj h1).symm ag12
      · rw [if_neg c22] at h1
        by_cases c21 : (w11.1 42 33) = l6
        · rw [if_pos c21] at h1
          by_cases c20 : (w11.1 42 34) < l7
          · rw [if_pos c20] at h1
            exact J59 w11 l8 h1 ag12
          · rw [if_neg c20] at h1
            obtain ⟨v19, ev19, h1⟩ := lt_some h1
            exact hP1 (l5, l6, l7, v19, w11) (Option.some.inj h1).symm ag12
        · rw [if_neg c21] at h1
          exact J59 w11 l8 h1 ag12
  rw [← Option.some.inj h0]
  exact ag27
def pX10_calm : List (Nat × Option Nat) := [all_ 43]
theorem rX10_calm {w : Wd} {a1 : Int32} {a2 : Int32} {out : Int32 × Wd} (h0 : fX10_calm w a1 a2 = some out) : Agree (pU pX10_calm) w out.2 := by
  have ag0 : Agree (pU pX10_calm) w w := Agree.rf
  unfold fX10_calm at h0
  obtain ⟨v1, hv1, h0⟩ := lt_some h0
  have hv1 := hv1.symm
  by_cases c10 : v1 = 0
  · rw [if_pos c10] at h0
    obtain ⟨g5, h0⟩ := gd_some h0
    rw [← Option.some.inj h0]
    exact ag0
  · rw [if_neg c10] at h0
    obtain ⟨q8, er7, h0⟩ := bind_some h0
    replace h0 := un2_eq h0
    obtain ⟨r7, w6, rfl, h0⟩ := h0
    have ag9 := ag0.tr (Agree.sub [0] rfl (rX10_no er7))
    rw [← Option.some.inj h0]
    exact ag9
def pX10_spreads : List (Nat × Option Nat) := [all_ 43]
theorem rX10_spreads {w : Wd} {a1 : Int32} {a2 : Int32} {out : Int32 × Wd} (h0 : fX10_spreads w a1 a2 = some out) : Agree (pU pX10_spreads) w out.2 := by
  have ag0 : Agree (pU pX10_spreads) w w := Agree.rf
  unfold fX10_spreads at h0
  obtain ⟨v1, hv1, h0⟩ := lt_some h0
  have hv1 := hv1.symm
  by_cases c11 : v1 = 0
  · rw [if_pos c11] at h0
    by_cases c6 : a2 ≤ ((a1 - 1) - a2)
    · rw [if_pos c6] at h0
      rw [← Option.some.inj h0]
      exact ag0
    · rw [if_neg c6] at h0
      rw [← Option.some.inj h0]
      exact ag0
  · rw [if_neg c11] at h0
    obtain ⟨q9, er8, h0⟩ := bind_some h0
    replace h0 := un2_eq h0
    obtain ⟨r8, w7, rfl, h0⟩ := h0
    have ag10 := ag0.tr (Agree.sub [0] rfl (rX10_no er8))
    rw [← Option.some.inj h0]
    exact ag10
def pX10_lowest : List (Nat × Option Nat) := [all_ 43]
theorem rX10_lowest {w : Wd} {a1 : Int32} {out : Int64 × Wd} (h0 : fX10_lowest w a1 = some out) : Agree (pU pX10_lowest) w out.2 := by
  have ag0 : Agree (pU pX10_lowest) w w := Agree.rf
  unfold fX10_lowest at h0
  obtain ⟨g1, h0⟩ := gd_some h0
  obtain ⟨w2, ew2, h0⟩ := lt_some h0
  have ag3 := ag0.pI ew2 (Or.inr (List.mem_of_getElem? (i := 0) rfl))
  rw [← Option.some.inj h0]
  exact ag3
def pX10_goesChances : List (Nat × Option Nat) := [all_ 64, all_ 54, all_ 55, at_ 42 23, all_ 63, at_ 42 8]
theorem rX10_goesChances {w : Wd} {out : Wd} (h0 : fX10_goesChances w = some out) : Agree (pU pX10_goesChances) w out := by
  have ag0 : Agree (pU pX10_goesChances) w w := Agree.rf
  unfold fX10_goesChances at h0
  obtain ⟨w10, iw10, h0⟩ := bind_some h0
  have ag11 : Agree (pU pX10_goesChances) w w10 := by
    refine iter_rule (P := fun s : Int32 × Wd => Agree (pU pX10_goesChances) w s.2 → Agree (pU pX10_goesChances) w w10) (x := w10) ?_ FU (0, w) iw10 ag0
    intro s y1 h1 hP1 hX1 agl2
    obtain ⟨l1, w2⟩ := s
    have h1 : fX10_goesChances_b2 l1 w2 = some y1 := h1
    have agl2 : Agree (pU pX10_goesChances) w w2 := agl2
    unfold fX10_goesChances_b2 at h1
    by_cases c8 : (16 : Int32) ≤ l1
    · rw [if_pos c8] at h1
      have e3 := hX1 _ (Option.some.inj h1).symm
      cases e3
      exact agl2
    · rw [if_neg c8] at h1
      obtain ⟨g5, h1⟩ := gd_some h1
      obtain ⟨w4, ew4, h1⟩ := lt_some h1
      have ag6 := agl2.pJ ew4 (Or.inr (List.mem_of_getElem? (i := 0) rfl))
      obtain ⟨v7, ev7, h1⟩ := lt_some h1
      exact hP1 (v7, w4) (Option.some.inj h1).symm ag6
  obtain ⟨w33, iw33, h0⟩ := bind_some h0
  have ag34 : Agree (pU pX10_goesChances) w w33 := by
    refine iter_rule (P := fun s : Int32 × Wd => Agree (pU pX10_goesChances) w s.2 → Agree (pU pX10_goesChances) w w33) (x := w33) ?_ FU (0, w10) iw33 ag11
    intro s y1 h1 hP1 hX1 agl23
    obtain ⟨l12, w13⟩ := s
    have h1 : fX10_goesChances_b23 l12 w13 = some y1 := h1
    have agl23 : Agree (pU pX10_goesChances) w w13 := agl23
    unfold fX10_goesChances_b23 at h1
    by_cases c31 : (256 : Int32) ≤ l12
    · rw [if_pos c31] at h1
      have e14 := hX1 _ (Option.some.inj h1).symm
      cases e14
      exact agl23
    · rw [if_neg c31] at h1
      obtain ⟨v15, ev15, h1⟩ := lt_some h1
      obtain ⟨v16, ev16, h1⟩ := lt_some h1
      obtain ⟨g17, h1⟩ := gd_some h1
      by_cases c30 : (lg_cmp (w13.2 63 v15.toNatClampNeg) 0) = 0
      · rw [if_pos c30] at h1
        obtain ⟨v18, ev18, h1⟩ := lt_some h1
        exact hP1 (v18, w13) (Option.some.inj h1).symm agl23
      · rw [if_neg c30] at h1
        by_cases c29 : (v16 &&& (v15 ^^^ (-1))) = 0
        · rw [if_pos c29] at h1
          obtain ⟨q21, er20, h1⟩ := bind_some h1
          replace h1 := un2_eq h1
          obtain ⟨r20, w19, rfl, h1⟩ := h1
          have ag22 := agl23.tr (Agree.sub [1, 2, 3] rfl (rX10_spread er20))
          obtain ⟨g23, h1⟩ := gd_some h1
          obtain ⟨r24, er24, h1⟩ := bind_some h1
          obtain ⟨w25, ew25, h1⟩ := lt_some h1
          have ag26 := ag22.pJ ew25 (Or.inr (List.mem_of_getElem? (i := 0) rfl))
          obtain ⟨v27, ev27, h1⟩ := lt_some h1
          exact hP1 (v27, w25) (Option.some.inj h1).symm ag26
        · rw [if_neg c29] at h1
          obtain ⟨v28, ev28, h1⟩ := lt_some h1
          exact hP1 (v28, w13) (Option.some.inj h1).symm agl23
  obtain ⟨w44, iw44, h0⟩ := bind_some h0
  have ag45 : Agree (pU pX10_goesChances) w w44 := by
    refine iter_rule (P := fun s : Int32 × Wd => Agree (pU pX10_goesChances) w s.2 → Agree (pU pX10_goesChances) w w44) (x := w44) ?_ FU (0, w33) iw44 ag34
    intro s y1 h1 hP1 hX1 agl96
    obtain ⟨l35, w36⟩ := s
    have h1 : fX10_goesChances_b96 l35 w36 = some y1 := h1
    have agl96 : Agree (pU pX10_goesChances) w w36 := agl96
    unfold fX10_goesChances_b96 at h1
    by_cases c42 : (16 : Int32) ≤ l35
    · rw [if_pos c42] at h1
      have e37 := hX1 _ (Option.some.inj h1).symm
      cases e37
      exact agl96
    · rw [if_neg c42] at h1
      obtain ⟨g38, h1⟩ := gd_some h1
      obtain ⟨w39, ew39, h1⟩ := lt_some h1
      have ag40 := agl96.pJ ew39 (Or.inr (List.mem_of_getElem? (i := 4) rfl))
      obtain ⟨v41, ev41, h1⟩ := lt_some h1
      exact hP1 (v41, w39) (Option.some.inj h1).symm ag40
  obtain ⟨w46, ew46, h0⟩ := lt_some h0
  have ag47 := ag45.pI ew46 (Or.inl (List.mem_of_getElem? (i := 5) rfl))
  rw [← Option.some.inj h0]
  exact ag47
def pX10_chances : List (Nat × Option Nat) := [all_ 63, all_ 64, all_ 54, all_ 55, at_ 42 23, at_ 42 8, all_ 43]
theorem rX10_chances {w : Wd} {a1 : Int32} {a2 : Int32} {a3 : Int32} {out : Int64 × Wd} (h0 : fX10_chances w a1 a2 a3 = some out) : Agree (pU pX10_chances) w out.2 := by
  have ag0 : Agree (pU pX10_chances) w w := Agree.rf
  unfold fX10_chances at h0
  have J65 : ∀ (w7 : Wd) (l6 : Int32), fX10_chances_j65 a1 a2 a3 w7 l6 = some out → Agree (pU pX10_chances) w w7 → Agree (pU pX10_chances) w out.2 := by
    intro w7 l6 h0 agj
    unfold fX10_chances_j65 at h0
    by_cases c62 : l6 = 0
    · rw [if_pos c62] at h0
      obtain ⟨v8, ev8, h0⟩ := lt_some h0
      obtain ⟨w19, iw19, h0⟩ := bind_some h0
      have ag20 : Agree (pU pX10_chances) w w19 := by
        refine iter_rule (P := fun s : Int32 × Wd => Agree (pU pX10_chances) w s.2 → Agree (pU pX10_chances) w w19) (x := w19) ?_ FU (0, w7) iw19 agj
        intro s y1 h1 hP1 hX1 agl86
        obtain ⟨l9, w10⟩ := s
        have h1 : fX10_chances_b86 l9 w10 = some y1 := h1
        have agl86 : Agree (pU pX10_chances) w w10 := agl86
        unfold fX10_chances_b86 at h1
        by_cases c17 : (16 : Int32) ≤ l9
        · rw [if_pos c17] at h1
          have e11 := hX1 _ (Option.some.inj h1).symm
          cases e11
          exact agl86
        · rw [if_neg c17] at h1
          obtain ⟨v12, hv12, h1⟩ := lt_some h1
          have hv12 := hv12.symm
          obtain ⟨g14, h1⟩ := gd_some h1
          obtain ⟨w13, ew13, h1⟩ := lt_some h1
          have ag15 := agl86.pJ ew13 (Or.inr (List.mem_of_getElem? (i := 0) rfl))
          obtain ⟨v16, ev16, h1⟩ := lt_some h1
          exact hP1 (v16, w13) (Option.some.inj h1).symm ag15
      obtain ⟨x37, ix37, h0⟩ := bind_some h0
      replace h0 := un2_eq h0
      obtain ⟨l38, w39, rfl, h0⟩ := h0
      have ag40 : Agree (pU pX10_chances) w w39 := by
        refine iter_rule (P := fun s : Int64 × Int32 × Wd => Agree (pU pX10_chances) w s.2.2 → Agree (pU pX10_chances) w w39) (x := (l38, w39)) ?_ FU (1, 0, w19) ix37 ag20
        intro s y1 h1 hP1 hX1 agl126
        obtain ⟨l21, l22, w23⟩ := s
        have h1 : fX10_chances_b126 a1 l21 l22 w23 = some y1 := h1
        have agl126 : Agree (pU pX10_chances) w w23 := agl126
        unfold fX10_chances_b126 at h1
        by_cases c36 : a1 ≤ l22
        · rw [if_pos c36] at h1
          have e24 := hX1 _ (Option.some.inj h1).symm
          cases e24
          exact agl126
        · rw [if_neg c36] at h1
          obtain ⟨w25, ew25, h1⟩ := bind_some h1
          have ag26 := agl126.tr (Agree.sub [1, 2, 3, 4, 0, 5] rfl (rX10_goesChances ew25))
          obtain ⟨l34, il34, h1⟩ := bind_some h1
          obtain ⟨v35, ev35, h1⟩ := lt_some h1
          exact hP1 (l34, v35, w25) (Option.some.inj h1).symm ag26
      obtain ⟨w41, ew41, h0⟩ := lt_some h0
      have ag42 := ag40.pI ew41 (Or.inl (List.mem_of_getElem? (i := 5) rfl))
      obtain ⟨l54, il54, h0⟩ := bind_some h0
      obtain ⟨v55, hv55, h0⟩ := lt_some h0
      have hv55 := hv55.symm
      obtain ⟨r56, er56, h0⟩ := bind_some h0
      obtain ⟨g57, h0⟩ := gd_some h0
      rw [← Option.some.inj h0]
      exact ag42
    · rw [if_neg c62] at h0
      obtain ⟨q60, er59, h0⟩ := bind_some h0
      replace h0 := un2_eq h0
      obtain ⟨r59, w58, rfl, h0⟩ := h0
      have ag61 := agj.tr (Agree.sub [6] rfl (rX10_lowest er59))
      rw [← Option.some.inj h0]
      exact ag61
  obtain ⟨v1, ev1, h0⟩ := lt_some h0
  by_cases c63 : v1 = 0
  · rw [if_pos c63] at h0
    obtain ⟨v2, hv2, h0⟩ := lt_some h0
    have hv2 := hv2.symm
    exact J65 w v2 h0 ag0
  · rw [if_neg c63] at h0
    exact J65 w v1 h0 ag0
def pX10_all : List (Nat × Option Nat) := [all_ 54, all_ 55, at_ 42 23]
theorem rX10_all {w : Wd} {out : Int32 × Wd} (h0 : fX10_all w = some out) : Agree (pU pX10_all) w out.2 := by
  have ag0 : Agree (pU pX10_all) w w := Agree.rf
  unfold fX10_all at h0
  obtain ⟨v1, ev1, h0⟩ := lt_some h0
  refine iter_rule (P := fun s : Int32 × Int32 × Wd => Agree (pU pX10_all) w s.2.2 → Agree (pU pX10_all) w out.2) (x := out) ?_ FU (v1, 0, w) h0 ag0
  intro s y1 h1 hP1 hX1 agl7
  obtain ⟨l2, l3, w4⟩ := s
  have h1 : fX10_all_b7 l2 l3 w4 = some y1 := h1
  have agl7 : Agree (pU pX10_all) w w4 := agl7
  unfold fX10_all_b7 at h1
  by_cases c12 : (61 : Int32) ≤ l3
  · rw [if_pos c12] at h1
    have h0 := congrArg some (hX1 _ (Option.some.inj h1).symm)
    rw [← Option.some.inj h0]
    exact agl7
  · rw [if_neg c12] at h1
    obtain ⟨r5, er5, h1⟩ := bind_some h1
    by_cases c11 : r5 = 0
    · rw [if_pos c11] at h1
      obtain ⟨q8, er7, h1⟩ := bind_some h1
      replace h1 := un2_eq h1
      obtain ⟨r7, w6, rfl, h1⟩ := h1
      have ag9 := agl7.tr (Agree.sub [0, 1, 2] rfl (rX10_spread er7))
      obtain ⟨v10, ev10, h1⟩ := lt_some h1
      exact hP1 (r7, v10, w6) (Option.some.inj h1).symm ag9
    · rw [if_neg c11] at h1
      have h0 := congrArg some (hX1 _ (Option.some.inj h1).symm)
      rw [← Option.some.inj h0]
      exact agl7
def pX10_behind : List (Nat × Option Nat) := [all_ 54, all_ 55, at_ 42 23, all_ 43]
theorem rX10_behind {w : Wd} {a1 : Int32} {out : Int32 × Wd} (h0 : fX10_behind w a1 = some out) : Agree (pU pX10_behind) w out.2 := by
  have ag0 : Agree (pU pX10_behind) w w := Agree.rf
  unfold fX10_behind at h0
  obtain ⟨v1, ev1, h0⟩ := lt_some h0
  by_cases c21 : v1 = 0
  · rw [if_pos c21] at h0
    obtain ⟨v2, ev2, h0⟩ := lt_some h0
    obtain ⟨x13, ix13, h0⟩ := bind_some h0
    replace h0 := un2_eq h0
    obtain ⟨l14, w15, rfl, h0⟩ := h0
    have ag16 : Agree (pU pX10_behind) w w15 := by
      refine iter_rule (P := fun s : Int32 × Int32 × Wd => Agree (pU pX10_behind) w s.2.2 → Agree (pU pX10_behind) w w15) (x := (l14, w15)) ?_ FU (v2, 0, w) ix13 ag0
      intro s y1 h1 hP1 hX1 agl26
      obtain ⟨l3, l4, w5⟩ := s
      have h1 : fX10_behind_b26 a1 l3 l4 w5 = some y1 := h1
      have agl26 : Agree (pU pX10_behind) w w5 := agl26
      unfold fX10_behind_b26 at h1
      by_cases c12 : a1 ≤ l4
      · rw [if_pos c12] at h1
        have e6 := hX1 _ (Option.some.inj h1).symm
        cases e6
        exact agl26
      · rw [if_neg c12] at h1
        obtain ⟨q9, er8, h1⟩ := bind_some h1
        replace h1 := un2_eq h1
        obtain ⟨r8, w7, rfl, h1⟩ := h1
        have ag10 := agl26.tr (Agree.sub [0, 1, 2] rfl (rX10_spread er8))
        obtain ⟨v11, ev11, h1⟩ := lt_some h1
        exact hP1 (r8, v11, w7) (Option.some.inj h1).symm ag10
    rw [← Option.some.inj h0]
    exact ag16
  · rw [if_neg c21] at h0
    obtain ⟨q19, er18, h0⟩ := bind_some h0
    replace h0 := un2_eq h0
    obtain ⟨r18, w17, rfl, h0⟩ := h0
    have ag20 := ag0.tr (Agree.sub [3] rfl (rX10_no er18))
    rw [← Option.some.inj h0]
    exact ag20
def pX10_atFirst : List (Nat × Option Nat) := [all_ 43, at_ 42 7, at_ 42 20, at_ 42 19, all_ 44, all_ 53, all_ 45, all_ 46, all_ 47, all_ 48, at_ 42 6, at_ 42 8, at_ 42 9, all_ 54, all_ 55, at_ 42 23]
theorem rX10_atFirst {w : Wd} {a1 : Int32} {out : Int32 × Wd} (h0 : fX10_atFirst w a1 = some out) : Agree (pU pX10_atFirst) w out.2 := by
  have ag0 : Agree (pU pX10_atFirst) w w := Agree.rf
  unfold fX10_atFirst at h0
  by_cases c41 : (fX10_isIn a1 0 1) = 0
  · rw [if_pos c41] at h0
    obtain ⟨q3, er2, h0⟩ := bind_some h0
    replace h0 := un2_eq h0
    obtain ⟨r2, w1, rfl, h0⟩ := h0
    have ag4 := ag0.tr (Agree.sub [0] rfl (rX10_no er2))
    rw [← Option.some.inj h0]
    exact ag4
  · rw [if_neg c41] at h0
    obtain ⟨v5, ev5, h0⟩ := lt_some h0
    obtain ⟨x32, ix32, h0⟩ := bind_some h0
    replace h0 := un2_eq h0
    obtain ⟨l33, w34, rfl, h0⟩ := h0
    have ag35 : Agree (pU pX10_atFirst) w w34 := by
      refine iter_rule (P := fun s : Int32 × Int32 × Wd => Agree (pU pX10_atFirst) w s.2.2 → Agree (pU pX10_atFirst) w w34) (x := (l33, w34)) ?_ FU ((-9), 0, w) ix32 ag0
      intro s y1 h1 hP1 hX1 agl27
      obtain ⟨l6, l7, w8⟩ := s
      have h1 : fX10_atFirst_b27 l6 l7 w8 = some y1 := h1
      have agl27 : Agree (pU pX10_atFirst) w w8 := agl27
      unfold fX10_atFirst_b27 at h1
      have J67 : ∀ (w13 : Wd) (l11 : Int32) (l12 : Int32), fX10_atFirst_j67 w13 l11 l12 = some y1 → Agree (pU pX10_atFirst) w w13 → Agree (pU pX10_atFirst) w w34 := by
        intro w13 l11 l12 h1 agj
        unfold fX10_atFirst_j67 at h1
        obtain ⟨w14, ew14, h1⟩ := lt_some h1
        have ag15 := agj.pI ew14 (Or.inl (List.mem_of_getElem? (i := 1) rfl))
        obtain ⟨q18, er17, h1⟩ := bind_some h1
        replace h1 := un2_eq h1
        obtain ⟨r17, w16, rfl, h1⟩ := h1
        have ag19 := ag15.tr (Agree.sub [2, 3, 4, 5, 6, 7, 8, 9, 10, 1, 11, 12, 13, 14, 15] rfl (rX10_atDoor er17))
        obtain ⟨r20, er20, h1⟩ := bind_some h1
        by_cases c23 : r20 = 0
        · rw [if_pos c23] at h1
          obtain ⟨v21, ev21, h1⟩ := lt_some h1
          exact hP1 (l11, v21, w16) (Option.some.inj h1).symm ag19
        · rw [if_neg c23] at h1
          obtain ⟨v22, ev22, h1⟩ := lt_some h1
          exact hP1 (l12, v22, w16) (Option.some.inj h1).symm ag19
      by_cases c31 : (1 : Int32) <<< ((w8.1 42 6) &&& 31) ≤ l7
      · rw [if_pos c31] at h1
        have e9 := hX1 _ (Option.some.inj h1).symm
        cases e9
        exact agl27
      · rw [if_neg c31] at h1
        obtain ⟨r10, er10, h1⟩ := bind_some h1
        by_cases c30 : (l7 &&& r10) = 0
        · rw [if_pos c30] at h1
          by_cases c28 : l6 < 0
          · rw [if_pos c28] at h1
            exact J67 w8 l6 l7 h1 agl27
          · rw [if_neg c28] at h1
            obtain ⟨r24, er24, h1⟩ := bind_some h1
            obtain ⟨r25, er25, h1⟩ := bind_some h1
            by_cases c27 : r24 < r25
            · rw [if_pos c27] at h1
              exact J67 w8 l6 l7 h1 agl27
            · rw [if_neg c27] at h1
              obtain ⟨v26, ev26, h1⟩ := lt_some h1
              exact hP1 (l6, v26, w8) (Option.some.inj h1).symm agl27
        · rw [if_neg c30] at h1
          obtain ⟨v29, ev29, h1⟩ := lt_some h1
          exact hP1 (l6, v29, w8) (Option.some.inj h1).symm agl27
    obtain ⟨w36, ew36, h0⟩ := lt_some h0
    have ag37 := ag35.pI ew36 (Or.inl (List.mem_of_getElem? (i := 1) rfl))
    by_cases c40 : a1 = 1
    · rw [if_pos c40] at h0
      rw [← Option.some.inj h0]
      exact ag37
    · rw [if_neg c40] at h0
      by_cases c39 : (0 : Int32) ≤ l33
      · rw [if_pos c39] at h0
        obtain ⟨r38, er38, h0⟩ := bind_some h0
        rw [← Option.some.inj h0]
        exact ag37
      · rw [if_neg c39] at h0
        rw [← Option.some.inj h0]
        exact ag37
def pX10_forms : List (Nat × Option Nat) := [all_ 43, all_ 44, at_ 42 20, at_ 42 19, all_ 53, all_ 45, all_ 46, all_ 47, all_ 48, at_ 42 6, at_ 42 7, at_ 42 8, at_ 42 9, all_ 54, all_ 55, at_ 42 23]
theorem rX10_forms {w : Wd} {a1 : Int32} {out : Int32 × Wd} (h0 : fX10_forms w a1 = some out) : Agree (pU pX10_forms) w out.2 := by
  have ag0 : Agree (pU pX10_forms) w w := Agree.rf
  unfold fX10_forms at h0
  by_cases c36 : (fX10_isIn a1 0 1) = 0
  · rw [if_pos c36] at h0
    obtain ⟨q3, er2, h0⟩ := bind_some h0
    replace h0 := un2_eq h0
    obtain ⟨r2, w1, rfl, h0⟩ := h0
    have ag4 := ag0.tr (Agree.sub [0] rfl (rX10_no er2))
    rw [← Option.some.inj h0]
    exact ag4
  · rw [if_neg c36] at h0
    obtain ⟨v5, ev5, h0⟩ := lt_some h0
    obtain ⟨v6, ev6, h0⟩ := lt_some h0
    obtain ⟨x26, ix26, h0⟩ := bind_some h0
    replace h0 := un3_eq h0
    obtain ⟨l27, l28, w29, rfl, h0⟩ := h0
    have ag30 : Agree (pU pX10_forms) w w29 := by
      refine iter_rule (P := fun s : Int32 × Int32 × Int32 × Wd => Agree (pU pX10_forms) w s.2.2.2 → Agree (pU pX10_forms) w w29) (x := (l27, l28, w29)) ?_ FU (1, (-9), 0, w) ix26 ag0
      intro s y1 h1 hP1 hX1 agl40
      obtain ⟨l7, l8, l9, w10⟩ := s
      have h1 : fX10_forms_b40 l7 l8 l9 w10 = some y1 := h1
      have agl40 : Agree (pU pX10_forms) w w10 := agl40
      unfold fX10_forms_b40 at h1
      by_cases c25 : (6 : Int32) ≤ l9
      · rw [if_pos c25] at h1
        have e11 := hX1 _ (Option.some.inj h1).symm
        cases e11
        exact agl40
      · rw [if_neg c25] at h1
        obtain ⟨w12, ew12, h1⟩ := lt_some h1
        have ag13 := agl40.pI ew12 (Or.inr (List.mem_of_getElem? (i := 1) rfl))
        obtain ⟨w14, ew14, h1⟩ := lt_some h1
        have ag15 := ag13.pI ew14 (Or.inr (List.mem_of_getElem? (i := 1) rfl))
        obtain ⟨q18, er17, h1⟩ := bind_some h1
        replace h1 := un2_eq h1
        obtain ⟨r17, w16, rfl, h1⟩ := h1
        have ag19 := ag15.tr (Agree.sub [2, 3, 1, 4, 5, 6, 7, 8, 9, 10, 11, 12, 13, 14, 15] rfl (rX10_atDoor er17))
        obtain ⟨r20, er20, h1⟩ := bind_some h1
        by_cases c24 : l8 < r20
        · rw [if_pos c24] at h1
          obtain ⟨v21, ev21, h1⟩ := lt_some h1
          obtain ⟨v22, ev22, h1⟩ := lt_some h1
          exact hP1 (v21, r20, v22, w16) (Option.some.inj h1).symm ag19
        · rw [if_neg c24] at h1
          obtain ⟨v23, ev23, h1⟩ := lt_some h1
          exact hP1 (l7, l8, v23, w16) (Option.some.inj h1).symm ag19
    obtain ⟨w31, ew31, h0⟩ := lt_some h0
    have ag32 := ag30.pI ew31 (Or.inr (List.mem_of_getElem? (i := 1) rfl))
    obtain ⟨w33, ew33, h0⟩ := lt_some h0
    have ag34 := ag32.pI ew33 (Or.inr (List.mem_of_getElem? (i := 1) rfl))
    by_cases c35 : a1 = 0
    · rw [if_pos c35] at h0
      rw [← Option.some.inj h0]
      exact ag34
    · rw [if_neg c35] at h0
      rw [← Option.some.inj h0]
      exact ag34
def pX10_doorCalm : List (Nat × Option Nat) := [all_ 47, at_ 42 20, at_ 42 19, all_ 44, all_ 53, all_ 45, all_ 46, all_ 48, at_ 42 6, at_ 42 7, at_ 42 8, at_ 42 9, all_ 54, all_ 55, at_ 42 23]
theorem rX10_doorCalm {w : Wd} {a1 : Int32} {a2 : Int32} {out : Int32 × Wd} (h0 : fX10_doorCalm w a1 a2 = some out) : Agree (pU pX10_doorCalm) w out.2 := by
  have ag0 : Agree (pU pX10_doorCalm) w w := Agree.rf
  unfold fX10_doorCalm at h0
  obtain ⟨g1, h0⟩ := gd_some h0
  obtain ⟨v2, ev2, h0⟩ := lt_some h0
  obtain ⟨g3, h0⟩ := gd_some h0
  obtain ⟨v4, ev4, h0⟩ := lt_some h0
  obtain ⟨w5, ew5, h0⟩ := lt_some h0
  have ag6 := ag0.pI ew5 (Or.inr (List.mem_of_getElem? (i := 0) rfl))
  obtain ⟨w7, ew7, h0⟩ := lt_some h0
  have ag8 := ag6.pI ew7 (Or.inr (List.mem_of_getElem? (i := 0) rfl))
  obtain ⟨q11, er10, h0⟩ := bind_some h0
  replace h0 := un2_eq h0
  obtain ⟨r10, w9, rfl, h0⟩ := h0
  have ag12 := ag8.tr (Agree.sub [1, 2, 3, 4, 5, 6, 0, 7, 8, 9, 10, 11, 12, 13, 14] rfl (rX10_atDoor er10))
  obtain ⟨r13, er13, h0⟩ := bind_some h0
  obtain ⟨w14, ew14, h0⟩ := lt_some h0
  have ag15 := ag12.pI ew14 (Or.inr (List.mem_of_getElem? (i := 0) rfl))
  obtain ⟨w16, ew16, h0⟩ := lt_some h0
  have ag17 := ag15.pI ew16 (Or.inr (List.mem_of_getElem? (i := 0) rfl))
  rw [← Option.some.inj h0]
  exact ag17
def pX10_calms : List (Nat × Option Nat) := [all_ 43, at_ 42 20, at_ 42 19, all_ 44, all_ 53, all_ 45, all_ 46, all_ 47, all_ 48, at_ 42 6, at_ 42 7, at_ 42 8, at_ 42 9, all_ 54, all_ 55, at_ 42 23]
theorem rX10_calms {w : Wd} {a1 : Int32} {out : Int32 × Wd} (h0 : fX10_calms w a1 = some out) : Agree (pU pX10_calms) w out.2 := by
  have ag0 : Agree (pU pX10_calms) w w := Agree.rf
  unfold fX10_calms at h0
  by_cases c43 : (fX10_isIn a1 0 1) = 0
  · rw [if_pos c43] at h0
    obtain ⟨q3, er2, h0⟩ := bind_some h0
    replace h0 := un2_eq h0
    obtain ⟨r2, w1, rfl, h0⟩ := h0
    have ag4 := ag0.tr (Agree.sub [0] rfl (rX10_no er2))
    rw [← Option.some.inj h0]
    exact ag4
  · rw [if_neg c43] at h0
    obtain ⟨q7, er6, h0⟩ := bind_some h0
    replace h0 := un2_eq h0
    obtain ⟨r6, w5, rfl, h0⟩ := h0
    have ag8 := ag0.tr (Agree.sub [1, 2, 3, 4, 5, 6, 7, 8, 9, 10, 11, 12, 13, 14, 15] rfl (rX10_atDoor er6))
    obtain ⟨r9, er9, h0⟩ := bind_some h0
    obtain ⟨v10, ev10, h0⟩ := lt_some h0
    obtain ⟨x39, ix39, h0⟩ := bind_some h0
    replace h0 := un2_eq h0
    obtain ⟨l40, w41, rfl, h0⟩ := h0
    have ag42 : Agree (pU pX10_calms) w w41 := by
      refine iter_rule (P := fun s : Int32 × Int32 × Int32 × Wd => Agree (pU pX10_calms) w s.2.2.2 → Agree (pU pX10_calms) w w41) (x := (l40, w41)) ?_ FU (r9, (-9), v10, w5) ix39 ag8
      intro s y1 h1 hP1 hX1 agl33
      obtain ⟨l11, l12, l13, w14⟩ := s
      have h1 : fX10_calms_b33 a1 l11 l12 l13 w14 = some y1 := h1
      have agl33 : Agree (pU pX10_calms) w w14 := agl33
      unfold fX10_calms_b33 at h1
      by_cases c38 : (fX10_doorAt w14) ≤ l13
      · rw [if_pos c38] at h1
        have e15 := hX1 _ (Option.some.inj h1).symm
        cases e15
        exact agl33
      · rw [if_neg c38] at h1
        obtain ⟨v16, hv16, h1⟩ := lt_some h1
        have hv16 := hv16.symm
        obtain ⟨x32, ix32, h1⟩ := bind_some h1
        replace h1 := un3_eq h1
        obtain ⟨l33, l34, w35, rfl, h1⟩ := h1
        have ag36 : Agree (pU pX10_calms) w w35 := by
          refine iter_rule (P := fun s : Int32 × Int32 × Int32 × Wd => Agree (pU pX10_calms) w s.2.2.2 → Agree (pU pX10_calms) w w35) (x := (l33, l34, w35)) ?_ FU (l11, l12, v16, w14) ix32 agl33
          intro s y2 h2 hP2 hX2 agl57
          obtain ⟨l17, l18, l19, w20⟩ := s
          have h2 : fX10_calms_b57 a1 l13 l17 l18 l19 w20 = some y2 := h2
          have agl57 : Agree (pU pX10_calms) w w20 := agl57
          unfold fX10_calms_b57 at h2
          obtain ⟨v21, hv21, h2⟩ := lt_some h2
          have hv21 := hv21.symm
          by_cases c31 : v21 ≤ l19
          · rw [if_pos c31] at h2
            have e22 := hX2 _ (Option.some.inj h2).symm
            cases e22
            exact agl57
          · rw [if_neg c31] at h2
            obtain ⟨q25, er24, h2⟩ := bind_some h2
            replace h2 := un2_eq h2
            obtain ⟨r24, w23, rfl, h2⟩ := h2
            have ag26 := agl57.tr (Agree.sub [7, 1, 2, 3, 4, 5, 6, 8, 9, 10, 11, 12, 13, 14, 15] rfl (rX10_doorCalm er24))
            by_cases c30 : l17 < r24
            · rw [if_pos c30] at h2
              obtain ⟨v27, hv27, h2⟩ := lt_some h2
              have hv27 := hv27.symm
              obtain ⟨v28, ev28, h2⟩ := lt_some h2
              exact hP2 (r24, v27, v28, w23) (Option.some.inj h2).symm ag26
            · rw [if_neg c30] at h2
              obtain ⟨v29, ev29, h2⟩ := lt_some h2
              exact hP2 (l17, l18, v29, w23) (Option.some.inj h2).symm ag26
        obtain ⟨v37, ev37, h1⟩ := lt_some h1
        exact hP1 (l33, l34, v37, w35) (Option.some.inj h1).symm ag36
    rw [← Option.some.inj h0]
    exact ag42
def pX10_farthest : List (Nat × Option Nat) := [all_ 44, at_ 42 20, at_ 42 19, all_ 53, all_ 45, all_ 46, all_ 47, all_ 48, at_ 42 6, at_ 42 7, at_ 42 8, at_ 42 9, all_ 54, all_ 55, at_ 42 23]
theorem rX10_farthest {w : Wd} {out : Int32 × Wd} (h0 : fX10_farthest w = some out) : Agree (pU pX10_farthest) w out.2 := by
  have ag0 : Agree (pU pX10_farthest) w w := Agree.rf
  unfold fX10_farthest at h0
  have J56 : ∀ (w25 : Wd) (l23 : Int32) (l24 : Int32), fX10_farthest_j56 w25 l23 l24 = some out → Agree (pU pX10_farthest) w w25 → Agree (pU pX10_farthest) w out.2 := by
    intro w25 l23 l24 h0 agj
    unfold fX10_farthest_j56 at h0
    obtain ⟨w26, ew26, h0⟩ := lt_some h0
    have ag27 := agj.pI ew26 (Or.inr (List.mem_of_getElem? (i := 0) rfl))
    rw [← Option.some.inj h0]
    exact ag27
  obtain ⟨v1, ev1, h0⟩ := lt_some h0
  obtain ⟨x19, ix19, h0⟩ := bind_some h0
  replace h0 := un2_eq h0
  obtain ⟨l20, w21, rfl, h0⟩ := h0
  have ag22 : Agree (pU pX10_farthest) w w21 := by
    refine iter_rule (P := fun s : Int32 × Int32 × Wd => Agree (pU pX10_farthest) w s.2.2 → Agree (pU pX10_farthest) w w21) (x := (l20, w21)) ?_ FU ((-9), 24, w) ix19 ag0
    intro s y1 h1 hP1 hX1 agl13
    obtain ⟨l2, l3, w4⟩ := s
    have h1 : fX10_farthest_b13 l2 l3 w4 = some y1 := h1
    have agl13 : Agree (pU pX10_farthest) w w4 := agl13
    unfold fX10_farthest_b13 at h1
    by_cases c18 : l3 < (w4.1 42 8)
    · rw [if_pos c18] at h1
      have e5 := hX1 _ (Option.some.inj h1).symm
      cases e5
      exact agl13
    · rw [if_neg c18] at h1
      by_cases c17 : l3 ≤ 0
      · rw [if_pos c17] at h1
        have e6 := hX1 _ (Option.some.inj h1).symm
        cases e6
        exact agl13
      · rw [if_neg c17] at h1
        by_cases c16 : (0 : Int32) ≤ l2
        · rw [if_pos c16] at h1
          have e7 := hX1 _ (Option.some.inj h1).symm
          cases e7
          exact agl13
        · rw [if_neg c16] at h1
          obtain ⟨w8, ew8, h1⟩ := lt_some h1
          have ag9 := agl13.pI ew8 (Or.inr (List.mem_of_getElem? (i := 0) rfl))
          obtain ⟨q12, er11, h1⟩ := bind_some h1
          replace h1 := un2_eq h1
          obtain ⟨r11, w10, rfl, h1⟩ := h1
          have ag13 := ag9.tr (Agree.sub [1, 2, 0, 3, 4, 5, 6, 7, 8, 9, 10, 11, 12, 13, 14] rfl (rX10_atDoor er11))
          obtain ⟨v14, hv14, h1⟩ := lt_some h1
          have hv14 := hv14.symm
          obtain ⟨v15, ev15, h1⟩ := lt_some h1
          exact hP1 (v14, v15, w10) (Option.some.inj h1).symm ag13
  exact J56 w21 v1 l20 h0 ag22
def pX10_turned : List (Nat × Option Nat) := [at_ 42 20, at_ 42 19, all_ 44, all_ 53, all_ 45, all_ 46, all_ 47, all_ 48, at_ 42 6, at_ 42 7, at_ 42 8, at_ 42 9, all_ 54, all_ 55, at_ 42 23]
theorem rX10_turned {w : Wd} {out : Int32 × Wd} (h0 : fX10_turned w = some out) : Agree (pU pX10_turned) w out.2 := by
  have ag0 : Agree (pU pX10_turned) w w := Agree.rf
  unfold fX10_turned at h0
  obtain ⟨w1, ew1, h0⟩ := bind_some h0
  have ag2 := ag0.tr (Agree.sub [0, 1, 2, 3, 4, 5, 6, 7, 8, 9, 10, 11] rfl (rX10_passesAll ew1))
  obtain ⟨w11, iw11, h0⟩ := bind_some h0
  have ag12 : Agree (pU pX10_turned) w w11 := by
    refine iter_rule (P := fun s : Int32 × Wd => Agree (pU pX10_turned) w s.2 → Agree (pU pX10_turned) w w11) (x := w11) ?_ FU (0, w1) iw11 ag2
    intro s y1 h1 hP1 hX1 agl8
    obtain ⟨l3, w4⟩ := s
    have h1 : fX10_turned_b8 l3 w4 = some y1 := h1
    have agl8 : Agree (pU pX10_turned) w w4 := agl8
    unfold fX10_turned_b8 at h1
    by_cases c9 : (w4.1 42 6) / 2 ≤ l3
    · rw [if_pos c9] at h1
      have e5 := hX1 _ (Option.some.inj h1).symm
      cases e5
      exact agl8
    · rw [if_neg c9] at h1
      obtain ⟨w6, ew6, h1⟩ := bind_some h1
      have ag7 := agl8.tr (Agree.sub [4, 5, 9] rfl (rX10_exchanges ew6))
      obtain ⟨v8, ev8, h1⟩ := lt_some h1
      exact hP1 (v8, w6) (Option.some.inj h1).symm ag7
  obtain ⟨q15, er14, h0⟩ := bind_some h0
  replace h0 := un2_eq h0
  obtain ⟨r14, w13, rfl, h0⟩ := h0
  have ag16 := ag12.tr (Agree.sub [0, 1, 2, 3, 4, 5, 6, 7, 8, 9, 10, 11, 12, 13, 14] rfl (rX10_atDoor er14))
  obtain ⟨r17, er17, h0⟩ := bind_some h0
  obtain ⟨w18, ew18, h0⟩ := bind_some h0
  have ag19 := ag16.tr (Agree.sub [0, 1, 2, 3, 4, 5, 6, 7, 8, 9, 10, 11] rfl (rX10_passesAll ew18))
  rw [← Option.some.inj h0]
  exact ag19
def pX10_goesCounting : List (Nat × Option Nat) := [at_ 42 37, at_ 42 23, all_ 55, all_ 54, at_ 42 7, at_ 42 9, at_ 42 8]
theorem rX10_goesCounting {w : Wd} {a1 : Int32} {out : Wd} (h0 : fX10_goesCounting w a1 = some out) : Agree (pU pX10_goesCounting) w out := by
  have ag0 : Agree (pU pX10_goesCounting) w w := Agree.rf
  unfold fX10_goesCounting at h0
  obtain ⟨w1, ew1, h0⟩ := lt_some h0
  have ag2 := ag0.pI ew1 (Or.inl (List.mem_of_getElem? (i := 0) rfl))
  obtain ⟨w3, ew3, h0⟩ := lt_some h0
  have ag4 := ag2.pI ew3 (Or.inl (List.mem_of_getElem? (i := 1) rfl))
  obtain ⟨w14, iw14, h0⟩ := bind_some h0
  have ag15 : Agree (pU pX10_goesCounting) w w14 := by
    refine iter_rule (P := fun s : Int32 × Wd => Agree (pU pX10_goesCounting) w s.2 → Agree (pU pX10_goesCounting) w w14) (x := w14) ?_ FU (0, w3) iw14 ag4
    intro s y1 h1 hP1 hX1 agl12
    obtain ⟨l5, w6⟩ := s
    have h1 : fX10_goesCounting_b12 l5 w6 = some y1 := h1
    have agl12 : Agree (pU pX10_goesCounting) w w6 := agl12
    unfold fX10_goesCounting_b12 at h1
    by_cases c12 : (8 : Int32) ≤ l5
    · rw [if_pos c12] at h1
      have e7 := hX1 _ (Option.some.inj h1).symm
      cases e7
      exact agl12
    · rw [if_neg c12] at h1
      obtain ⟨g9, h1⟩ := gd_some h1
      obtain ⟨w8, ew8, h1⟩ := lt_some h1
      have ag10 := agl12.pI ew8 (Or.inr (List.mem_of_getElem? (i := 2) rfl))
      obtain ⟨v11, ev11, h1⟩ := lt_some h1
      exact hP1 (v11, w8) (Option.some.inj h1).symm ag10
  obtain ⟨w28, iw28, h0⟩ := bind_some h0
  have ag29 : Agree (pU pX10_goesCounting) w w28 := by
    refine iter_rule (P := fun s : Wd => Agree (pU pX10_goesCounting) w s → Agree (pU pX10_goesCounting) w w28) (x := w28) ?_ FU w14 iw28 ag15
    intro s y1 h1 hP1 hX1 agl31
    obtain ⟨w16, rfl⟩ : ∃ z, z = s := ⟨s, rfl⟩
    have h1 : fX10_goesCounting_b31 a1 w16 = some y1 := h1
    have agl31 : Agree (pU pX10_goesCounting) w w16 := agl31
    unfold fX10_goesCounting_b31 at h1
    by_cases c26 : (fX10_doorAt w16) ≤ (w16.1 42 8)
    · rw [if_pos c26] at h1
      have e17 := hX1 _ (Option.some.inj h1).symm
      cases e17
      exact agl31
    · rw [if_neg c26] at h1
      obtain ⟨v19, hv19, h1⟩ := bind_some h1
      obtain ⟨w22, ew22, h1⟩ := lt_some h1
      have ag23 := agl31.pI ew22 (Or.inl (List.mem_of_getElem? (i := 0) rfl))
      obtain ⟨w24, ew24, h1⟩ := bind_some h1
      have ag25 := ag23.tr (Agree.sub [3, 2, 1, 4, 5, 6] rfl (rX10_goes ew24))
      exact hP1 w24 (Option.some.inj h1).symm ag25
  rw [← Option.some.inj h0]
  exact ag29
def pX10_flame : List (Nat × Option Nat) := [all_ 43, at_ 42 20, at_ 42 19, all_ 44, all_ 53, all_ 45, all_ 46, all_ 47, all_ 48, at_ 42 6, at_ 42 7, at_ 42 8, at_ 42 9, at_ 42 37, at_ 42 23, all_ 55, all_ 54]
theorem rX10_flame {w : Wd} {a1 : Int32} {out : Int32 × Wd} (h0 : fX10_flame w a1 = some out) : Agree (pU pX10_flame) w out.2 := by
  have ag0 : Agree (pU pX10_flame) w w := Agree.rf
  unfold fX10_flame at h0
  by_cases c14 : (fX10_isPerson w a1) = 0
  · rw [if_pos c14] at h0
    obtain ⟨q3, er2, h0⟩ := bind_some h0
    replace h0 := un2_eq h0
    obtain ⟨r2, w1, rfl, h0⟩ := h0
    have ag4 := ag0.tr (Agree.sub [0] rfl (rX10_no er2))
    rw [← Option.some.inj h0]
    exact ag4
  · rw [if_neg c14] at h0
    obtain ⟨w5, ew5, h0⟩ := bind_some h0
    have ag6 := ag0.tr (Agree.sub [1, 2, 3, 4, 5, 6, 7, 8, 9, 10, 11, 12] rfl (rX10_passesAll ew5))
    obtain ⟨w7, ew7, h0⟩ := bind_some h0
    have ag8 := ag6.tr (Agree.sub [13, 14, 15, 16, 10, 12, 11] rfl (rX10_goesCounting ew7))
    obtain ⟨v10, hv10, h0⟩ := bind_some h0
    obtain ⟨w12, ew12, h0⟩ := bind_some h0
    have ag13 := ag8.tr (Agree.sub [1, 2, 3, 4, 5, 6, 7, 8, 9, 10, 11, 12] rfl (rX10_passesAll ew12))
    rw [← Option.some.inj h0]
    exact ag13
def pX10_out : List (Nat × Option Nat) := [all_ 43, at_ 42 20, at_ 42 19, all_ 44, all_ 53, all_ 45, all_ 46, all_ 47, all_ 48, at_ 42 6, at_ 42 7, at_ 42 8, at_ 42 9, at_ 42 37, at_ 42 23, all_ 55, all_ 54]
theorem rX10_out {w : Wd} {a1 : Int32} {out : Int32 × Wd} (h0 : fX10_out w a1 = some out) : Agree (pU pX10_out) w out.2 := by
  have ag0 : Agree (pU pX10_out) w w := Agree.rf
  unfold fX10_out at h0
  by_cases c11 : (fX10_isPerson w a1) = 0
  · rw [if_pos c11] at h0
    obtain ⟨q3, er2, h0⟩ := bind_some h0
    replace h0 := un2_eq h0
    obtain ⟨r2, w1, rfl, h0⟩ := h0
    have ag4 := ag0.tr (Agree.sub [0] rfl (rX10_no er2))
    rw [← Option.some.inj h0]
    exact ag4
  · rw [if_neg c11] at h0
    obtain ⟨w5, ew5, h0⟩ := bind_some h0
    have ag6 := ag0.tr (Agree.sub [1, 2, 3, 4, 5, 6, 7, 8, 9, 10, 11, 12] rfl (rX10_passesAll ew5))
    obtain ⟨w7, ew7, h0⟩ := bind_some h0
    have ag8 := ag6.tr (Agree.sub [13, 14, 15, 16, 10, 12, 11] rfl (rX10_goesCounting ew7))
    obtain ⟨w9, ew9, h0⟩ := bind_some h0
    have ag10 := ag8.tr (Agree.sub [1, 2, 3, 4, 5, 6, 7, 8, 9, 10, 11, 12] rfl (rX10_passesAll ew9))
    rw [← Option.some.inj h0]
    exact ag10
def pX10_again : List (Nat × Option Nat) := [at_ 42 20, at_ 42 19, all_ 44, all_ 53, all_ 45, all_ 46, all_ 47, all_ 48, at_ 42 6, at_ 42 7, at_ 42 8, at_ 42 9, at_ 42 37, at_ 42 23, all_ 55, all_ 54]
theorem rX10_again {w : Wd} {out : Int32 × Wd} (h0 : fX10_again w = some out) : Agree (pU pX10_again) w out.2 := by
  have ag0 : Agree (pU pX10_again) w w := Agree.rf
  unfold fX10_again at h0
  obtain ⟨w1, ew1, h0⟩ := bind_some h0
  have ag2 := ag0.tr (Agree.sub [0, 1, 2, 3, 4, 5, 6, 7, 8, 9, 10, 11] rfl (rX10_passesAll ew1))
  obtain ⟨w3, ew3, h0⟩ := bind_some h0
  have ag4 := ag2.tr (Agree.sub [12, 13, 14, 15, 9, 11, 10] rfl (rX10_goesCounting ew3))
  obtain ⟨w5, ew5, h0⟩ := bind_some h0
  have ag6 := ag4.tr (Agree.sub [0, 1, 2, 3, 4, 5, 6, 7, 8, 9, 10, 11] rfl (rX10_passesAll ew5))
  rw [← Option.some.inj h0]
  exact ag6
def pX10_findGame : List (Nat × Option Nat) := [at_ 42 20, at_ 42 19, all_ 44, all_ 53, all_ 45, all_ 46, all_ 47, all_ 48, at_ 42 6, at_ 42 7, at_ 42 8, at_ 42 9, all_ 54, all_ 55, at_ 42 23, all_ 65]
theorem rX10_findGame {w : Wd} {out : Wd} (h0 : fX10_findGame w = some out) : Agree (pU pX10_findGame) w out := by
  have ag0 : Agree (pU pX10_findGame) w w := Agree.rf
  unfold fX10_findGame at h0
  obtain ⟨w1, ew1, h0⟩ := bind_some h0
  have ag2 := ag0.tr (Agree.sub [0, 1, 2, 3, 4, 5, 6, 7, 8, 9, 10, 11] rfl (rX10_passesAll ew1))
  obtain ⟨w30, iw30, h0⟩ := bind_some h0
  have ag31 : Agree (pU pX10_findGame) w w30 := by
    refine iter_rule (P := fun s : Int32 × Wd => Agree (pU pX10_findGame) w s.2 → Agree (pU pX10_findGame) w w30) (x := w30) ?_ FU (0, w1) iw30 ag2
    intro s y1 h1 hP1 hX1 agl8
    obtain ⟨l3, w4⟩ := s
    have h1 : fX10_findGame_b8 l3 w4 = some y1 := h1
    have agl8 : Agree (pU pX10_findGame) w w4 := agl8
    unfold fX10_findGame_b8 at h1
    by_cases c28 : (9 : Int32) ≤ l3
    · rw [if_pos c28] at h1
      have e5 := hX1 _ (Option.some.inj h1).symm
      cases e5
      exact agl8
    · rw [if_neg c28] at h1
      obtain ⟨w6, ew6, h1⟩ := lt_some h1
      have ag7 := agl8.pI ew6 (Or.inr (List.mem_of_getElem? (i := 2) rfl))
      obtain ⟨w17, iw17, h1⟩ := bind_some h1
      have ag18 : Agree (pU pX10_findGame) w w17 := by
        refine iter_rule (P := fun s : Int32 × Wd => Agree (pU pX10_findGame) w s.2 → Agree (pU pX10_findGame) w w17) (x := w17) ?_ FU (0, w6) iw17 ag7
        intro s y2 h2 hP2 hX2 agl25
        obtain ⟨l8, w9⟩ := s
        have h2 : fX10_findGame_b25 l3 l8 w9 = some y2 := h2
        have agl25 : Agree (pU pX10_findGame) w w9 := agl25
        unfold fX10_findGame_b25 at h2
        by_cases c15 : (25 : Int32) ≤ l8
        · rw [if_pos c15] at h2
          have e10 := hX2 _ (Option.some.inj h2).symm
          cases e10
          exact agl25
        · rw [if_neg c15] at h2
          obtain ⟨g12, h2⟩ := gd_some h2
          obtain ⟨w11, ew11, h2⟩ := lt_some h2
          have ag13 := agl25.pI ew11 (Or.inr (List.mem_of_getElem? (i := 7) rfl))
          obtain ⟨v14, ev14, h2⟩ := lt_some h2
          exact hP2 (v14, w11) (Option.some.inj h2).symm ag13
      obtain ⟨q21, er20, h1⟩ := bind_some h1
      replace h1 := un2_eq h1
      obtain ⟨r20, w19, rfl, h1⟩ := h1
      have ag22 := ag18.tr (Agree.sub [0, 1, 2, 3, 4, 5, 6, 7, 8, 9, 10, 11, 12, 13, 14] rfl (rX10_atDoor er20))
      obtain ⟨r23, er23, h1⟩ := bind_some h1
      obtain ⟨g25, h1⟩ := gd_some h1
      obtain ⟨w24, ew24, h1⟩ := lt_some h1
      have ag26 := ag22.pI ew24 (Or.inr (List.mem_of_getElem? (i := 15) rfl))
      obtain ⟨v27, ev27, h1⟩ := lt_some h1
      exact hP1 (v27, w24) (Option.some.inj h1).symm ag26
  obtain ⟨w32, ew32, h0⟩ := bind_some h0
  have ag33 := ag31.tr (Agree.sub [0, 1, 2, 3, 4, 5, 6, 7, 8, 9, 10, 11] rfl (rX10_passesAll ew32))
  rw [← Option.some.inj h0]
  exact ag33
def pX10_game : List (Nat × Option Nat) := [all_ 43, at_ 42 20, at_ 42 19, all_ 44, all_ 53, all_ 45, all_ 46, all_ 47, all_ 48, at_ 42 6, at_ 42 7, at_ 42 8, at_ 42 9, all_ 54, all_ 55, at_ 42 23, all_ 65]
theorem rX10_game {w : Wd} {a1 : Int32} {out : Int32 × Wd} (h0 : fX10_game w a1 = some out) : Agree (pU pX10_game) w out.2 := by
  have ag0 : Agree (pU pX10_game) w w := Agree.rf
  unfold fX10_game at h0
  have J35 : ∀ (w13 : Wd) (l12 : Int32), fX10_game_j35 w13 l12 = some out → Agree (pU pX10_game) w w13 → Agree (pU pX10_game) w out.2 := by
    intro w13 l12 h0 agj
    unfold fX10_game_j35 at h0
    obtain ⟨r14, er14, h0⟩ := bind_some h0
    rw [← Option.some.inj h0]
    exact agj
  by_cases c17 : (fX10_isIn a1 0 2) = 0
  · rw [if_pos c17] at h0
    obtain ⟨q3, er2, h0⟩ := bind_some h0
    replace h0 := un2_eq h0
    obtain ⟨r2, w1, rfl, h0⟩ := h0
    have ag4 := ag0.tr (Agree.sub [0] rfl (rX10_no er2))
    rw [← Option.some.inj h0]
    exact ag4
  · rw [if_neg c17] at h0
    obtain ⟨w5, ew5, h0⟩ := bind_some h0
    have ag6 := ag0.tr (Agree.sub [1, 2, 3, 4, 5, 6, 7, 8, 9, 10, 11, 12, 13, 14, 15, 16] rfl (rX10_findGame ew5))
    by_cases c16 : a1 ≤ 0
    · rw [if_pos c16] at h0
      refine iter_rule (P := fun s : Int32 => Agree (pU pX10_game) w out.2) (x := out) ?_ FU 0 h0
      intro s y1 h1 hP1 hX1
      obtain ⟨l7, rfl⟩ : ∃ z, z = s := ⟨s, rfl⟩
      have h1 : fX10_game_b41 w5 l7 = some y1 := h1
      unfold fX10_game_b41 at h1
      by_cases c11 : (9 : Int32) ≤ l7
      · rw [if_pos c11] at h1
        have h0 := congrArg some (hX1 _ (Option.some.inj h1).symm)
        rw [← Option.some.inj h0]
        exact ag6
      · rw [if_neg c11] at h1
        obtain ⟨r8, er8, h1⟩ := bind_some h1
        by_cases c10 : r8 = 0
        · rw [if_pos c10] at h1
          obtain ⟨v9, ev9, h1⟩ := lt_some h1
          exact hP1 v9 (Option.some.inj h1).symm
        · rw [if_neg c10] at h1
          have h0 := congrArg some (hX1 _ (Option.some.inj h1).symm)
          rw [← Option.some.inj h0]
          exact ag6
    · rw [if_neg c16] at h0
      by_cases c15 : a1 = 1
      · rw [if_pos c15] at h0
        exact J35 w5 1 h0 ag6
      · rw [if_neg c15] at h0
        exact J35 w5 0 h0 ag6
def pX10_heirs : List (Nat × Option Nat) := [all_ 43, at_ 42 20, at_ 42 19, all_ 44, all_ 53, all_ 45, all_ 46, all_ 47, all_ 48, at_ 42 6, at_ 42 7, at_ 42 8, at_ 42 9, all_ 54, all_ 55, at_ 42 23]
theorem rX10_heirs {w : Wd} {a1 : Int32} {out : Int32 × Wd} (h0 : fX10_heirs w a1 = some out) : Agree (pU pX10_heirs) w out.2 := by
  have ag0 : Agree (pU pX10_heirs) w w := Agree.rf
  unfold fX10_heirs at h0
  by_cases c27 : (fX10_isPerson w a1) = 0
  · rw [if_pos c27] at h0
    obtain ⟨q3, er2, h0⟩ := bind_some h0
    replace h0 := un2_eq h0
    obtain ⟨r2, w1, rfl, h0⟩ := h0
    have ag4 := ag0.tr (Agree.sub [0] rfl (rX10_no er2))
    rw [← Option.some.inj h0]
    exact ag4
  · rw [if_neg c27] at h0
    obtain ⟨x23, ix23, h0⟩ := bind_some h0
    replace h0 := un2_eq h0
    obtain ⟨l24, w25, rfl, h0⟩ := h0
    have ag26 : Agree (pU pX10_heirs) w w25 := by
      refine iter_rule (P := fun s : Int32 × Int32 × Wd => Agree (pU pX10_heirs) w s.2.2 → Agree (pU pX10_heirs) w w25) (x := (l24, w25)) ?_ FU (0, 0, w) ix23 ag0
      intro s y1 h1 hP1 hX1 agl18
      obtain ⟨l5, l6, w7⟩ := s
      have h1 : fX10_heirs_b18 a1 l5 l6 w7 = some y1 := h1
      have agl18 : Agree (pU pX10_heirs) w w7 := agl18
      unfold fX10_heirs_b18 at h1
      by_cases c22 : (6 : Int32) < l6
      · rw [if_pos c22] at h1
        have e8 := hX1 _ (Option.some.inj h1).symm
        cases e8
        exact agl18
      · rw [if_neg c22] at h1
        obtain ⟨w9, ew9, h1⟩ := bind_some h1
        have ag10 := agl18.tr (Agree.sub [1, 2, 3, 4, 5, 6, 7, 8, 9, 10, 11, 12] rfl (rX10_passesAll ew9))
        obtain ⟨w11, ew11, h1⟩ := bind_some h1
        have ag12 := ag10.tr (Agree.sub [5, 10] rfl (rX10_becomes ew11))
        obtain ⟨q15, er14, h1⟩ := bind_some h1
        replace h1 := un2_eq h1
        obtain ⟨r14, w13, rfl, h1⟩ := h1
        have ag16 := ag12.tr (Agree.sub [1, 2, 3, 4, 5, 6, 7, 8, 9, 10, 11, 12, 13, 14, 15] rfl (rX10_atDoor er14))
        obtain ⟨v17, hv17, h1⟩ := lt_some h1
        have hv17 := hv17.symm
        obtain ⟨v18, ev18, h1⟩ := lt_some h1
        obtain ⟨w19, ew19, h1⟩ := bind_some h1
        have ag20 := ag16.tr (Agree.sub [1, 2, 3, 4, 5, 6, 7, 8, 9, 10, 11, 12] rfl (rX10_passesAll ew19))
        obtain ⟨v21, ev21, h1⟩ := lt_some h1
        exact hP1 (v18, v21, w19) (Option.some.inj h1).symm ag20
    rw [← Option.some.inj h0]
    exact ag26
def pX10_gaps : List (Nat × Option Nat) := [all_ 43, at_ 42 20, at_ 42 19, all_ 44, all_ 53, all_ 45, all_ 46, all_ 47, all_ 48, at_ 42 6, at_ 42 7, at_ 42 8, at_ 42 9, all_ 54, all_ 55, at_ 42 23]
theorem rX10_gaps {w : Wd} {a1 : Int32} {out : Int32 × Wd} (h0 : fX10_gaps w a1 = some out) : Agree (pU pX10_gaps) w out.2 := by
  have ag0 : Agree (pU pX10_gaps) w w := Agree.rf
  unfold fX10_gaps at h0
  by_cases c27 : (fX10_isIn a1 0 1) = 0
  · rw [if_pos c27] at h0
    obtain ⟨q3, er2, h0⟩ := bind_some h0
    replace h0 := un2_eq h0
    obtain ⟨r2, w1, rfl, h0⟩ := h0
    have ag4 := ag0.tr (Agree.sub [0] rfl (rX10_no er2))
    rw [← Option.some.inj h0]
    exact ag4
  · rw [if_neg c27] at h0
    obtain ⟨w5, ew5, h0⟩ := bind_some h0
    have ag6 := ag0.tr (Agree.sub [1, 2, 3, 4, 5, 6, 7, 8, 9, 10, 11, 12] rfl (rX10_passesAll ew5))
    obtain ⟨x19, ix19, h0⟩ := bind_some h0
    replace h0 := un3_eq h0
    obtain ⟨l20, l21, w22, rfl, h0⟩ := h0
    have ag23 : Agree (pU pX10_gaps) w w22 := by
      refine iter_rule (P := fun s : Int32 × Int32 × Int32 × Wd => Agree (pU pX10_gaps) w s.2.2.2 → Agree (pU pX10_gaps) w w22) (x := (l20, l21, w22)) ?_ FU (0, (-9), 1, w5) ix19 ag6
      intro s y1 h1 hP1 hX1 agl30
      obtain ⟨l7, l8, l9, w10⟩ := s
      have h1 : fX10_gaps_b30 l7 l8 l9 w10 = some y1 := h1
      have agl30 : Agree (pU pX10_gaps) w w10 := agl30
      unfold fX10_gaps_b30 at h1
      by_cases c18 : (fX10_doorAt w10) ≤ (w10.1 42 8)
      · rw [if_pos c18] at h1
        have e11 := hX1 _ (Option.some.inj h1).symm
        cases e11
        exact agl30
      · rw [if_neg c18] at h1
        obtain ⟨w12, ew12, h1⟩ := bind_some h1
        have ag13 := agl30.tr (Agree.sub [13, 14, 15, 10, 12, 11] rfl (rX10_goes ew12))
        obtain ⟨r14, er14, h1⟩ := bind_some h1
        obtain ⟨v15, hv15, h1⟩ := lt_some h1
        have hv15 := hv15.symm
        obtain ⟨v16, hv16, h1⟩ := lt_some h1
        have hv16 := hv16.symm
        obtain ⟨v17, ev17, h1⟩ := lt_some h1
        exact hP1 (v16, v15, v17, w12) (Option.some.inj h1).symm ag13
    obtain ⟨w24, ew24, h0⟩ := bind_some h0
    have ag25 := ag23.tr (Agree.sub [1, 2, 3, 4, 5, 6, 7, 8, 9, 10, 11, 12] rfl (rX10_passesAll ew24))
    by_cases c26 : a1 = 0
    · rw [if_pos c26] at h0
      rw [← Option.some.inj h0]
      exact ag25
    · rw [if_neg c26] at h0
      rw [← Option.some.inj h0]
      exact ag25
def pX10_lightsOne : List (Nat × Option Nat) := [at_ 42 7]
theorem rX10_lightsOne {w : Wd} {out : Wd} (h0 : fX10_lightsOne w = some out) : Agree (pU pX10_lightsOne) w out := by
  have ag0 : Agree (pU pX10_lightsOne) w w := Agree.rf
  unfold fX10_lightsOne at h0
  refine iter_rule (P := fun s : Int32 => Agree (pU pX10_lightsOne) w out) (x := out) ?_ FU 0 h0
  intro s y1 h1 hP1 hX1
  obtain ⟨l1, rfl⟩ : ∃ z, z = s := ⟨s, rfl⟩
  have h1 : fX10_lightsOne_b2 w l1 = some y1 := h1
  unfold fX10_lightsOne_b2 at h1
  by_cases c9 : (w.1 42 6) ≤ l1
  · rw [if_pos c9] at h1
    have h0 := congrArg some (hX1 _ (Option.some.inj h1).symm)
    rw [← Option.some.inj h0]
    exact ag0
  · rw [if_neg c9] at h1
    obtain ⟨g2, h1⟩ := gd_some h1
    by_cases c8 : (w.1 45 l1.toNatClampNeg) = 6
    · rw [if_pos c8] at h1
      obtain ⟨v3, ev3, h1⟩ := lt_some h1
      exact hP1 v3 (Option.some.inj h1).symm
    · rw [if_neg c8] at h1
      by_cases c7 : (fX10_has (w.1 42 7) l1) = 0
      · rw [if_pos c7] at h1
        obtain ⟨w4, ew4, h1⟩ := lt_some h1
        have ag5 := ag0.pI ew4 (Or.inl (List.mem_of_getElem? (i := 0) rfl))
        have h0 := congrArg some (hX1 _ (Option.some.inj h1).symm)
        rw [← Option.some.inj h0]
        exact ag5
      · rw [if_neg c7] at h1
        obtain ⟨v6, ev6, h1⟩ := lt_some h1
        exact hP1 v6 (Option.some.inj h1).symm
def pX10_doesLight : List (Nat × Option Nat) := [at_ 42 20, at_ 42 19, all_ 44, all_ 53, all_ 45, all_ 46, all_ 47, all_ 48, at_ 42 6, at_ 42 7, at_ 42 8, at_ 42 9, all_ 54, all_ 55, at_ 42 23]
theorem rX10_doesLight {w : Wd} {a1 : Int32} {out : Int32 × Wd} (h0 : fX10_doesLight w a1 = some out) : Agree (pU pX10_doesLight) w out.2 := by
  have ag0 : Agree (pU pX10_doesLight) w w := Agree.rf
  unfold fX10_doesLight at h0
  obtain ⟨w1, ew1, h0⟩ := bind_some h0
  have ag2 := ag0.tr (Agree.sub [0, 1, 2, 3, 4, 5, 6, 7, 8, 9, 10, 11] rfl (rX10_passesAll ew1))
  obtain ⟨w24, iw24, h0⟩ := bind_some h0
  have ag25 : Agree (pU pX10_doesLight) w w24 := by
    refine iter_rule (P := fun s : Int32 × Wd => Agree (pU pX10_doesLight) w s.2 → Agree (pU pX10_doesLight) w w24) (x := w24) ?_ FU (0, w1) iw24 ag2
    intro s y1 h1 hP1 hX1 agl8
    obtain ⟨l3, w4⟩ := s
    have h1 : fX10_doesLight_b8 a1 l3 w4 = some y1 := h1
    have agl8 : Agree (pU pX10_doesLight) w w4 := agl8
    unfold fX10_doesLight_b8 at h1
    by_cases c22 : (fX10_doorAt w4) ≤ (w4.1 42 8)
    · rw [if_pos c22] at h1
      have e5 := hX1 _ (Option.some.inj h1).symm
      cases e5
      exact agl8
    · rw [if_neg c22] at h1
      obtain ⟨w17, iw17, h1⟩ := bind_some h1
      have ag18 : Agree (pU pX10_doesLight) w w17 := by
        refine iter_rule (P := fun s : Int32 × Wd => Agree (pU pX10_doesLight) w s.2 → Agree (pU pX10_doesLight) w w17) (x := w17) ?_ FU (0, w4) iw17 agl8
        intro s y2 h2 hP2 hX2 agl21
        obtain ⟨l6, w7⟩ := s
        have h2 : fX10_doesLight_b21 a1 l3 l6 w7 = some y2 := h2
        have agl21 : Agree (pU pX10_doesLight) w w7 := agl21
        unfold fX10_doesLight_b21 at h2
        by_cases c15 : a1 ≤ l6
        · rw [if_pos c15] at h2
          have e8 := hX2 _ (Option.some.inj h2).symm
          cases e8
          exact agl21
        · rw [if_neg c15] at h2
          obtain ⟨g9, h2⟩ := gd_some h2
          by_cases c14 : (w7.1 66 l6.toNatClampNeg) = l3
          · rw [if_pos c14] at h2
            obtain ⟨w10, ew10, h2⟩ := bind_some h2
            have ag11 := agl21.tr (Agree.sub [9] rfl (rX10_lightsOne ew10))
            obtain ⟨v12, ev12, h2⟩ := lt_some h2
            exact hP2 (v12, w10) (Option.some.inj h2).symm ag11
          · rw [if_neg c14] at h2
            obtain ⟨v13, ev13, h2⟩ := lt_some h2
            exact hP2 (v13, w7) (Option.some.inj h2).symm agl21
      obtain ⟨w19, ew19, h1⟩ := bind_some h1
      have ag20 := ag18.tr (Agree.sub [12, 13, 14, 9, 11, 10] rfl (rX10_goes ew19))
      obtain ⟨v21, ev21, h1⟩ := lt_some h1
      exact hP1 (v21, w19) (Option.some.inj h1).symm ag20
  obtain ⟨v26, hv26, h0⟩ := lt_some h0
  have hv26 := hv26.symm
  obtain ⟨w27, ew27, h0⟩ := bind_some h0
  have ag28 := ag25.tr (Agree.sub [0, 1, 2, 3, 4, 5, 6, 7, 8, 9, 10, 11] rfl (rX10_passesAll ew27))
  obtain ⟨g29, h0⟩ := gd_some h0
  rw [← Option.some.inj h0]
  exact ag28
def pX10_findMatches : List (Nat × Option Nat) := [all_ 66, at_ 42 20, at_ 42 19, all_ 44, all_ 53, all_ 45, all_ 46, all_ 47, all_ 48, at_ 42 6, at_ 42 7, at_ 42 8, at_ 42 9, all_ 54, all_ 55, at_ 42 23]
theorem rX10_findMatches {w : Wd} {a1 : Int32} {out : Int32 × Wd} (h0 : fX10_findMatches w a1 = some out) : Agree (pU pX10_findMatches) w out.2 := by
  have ag0 : Agree (pU pX10_findMatches) w w := Agree.rf
  unfold fX10_findMatches at h0
  obtain ⟨v1, ev1, h0⟩ := lt_some h0
  obtain ⟨l9, il9, h0⟩ := bind_some h0
  refine iter_rule (P := fun s : Int32 × Wd => Agree (pU pX10_findMatches) w s.2 → Agree (pU pX10_findMatches) w out.2) (x := out) ?_ FU (0, w) h0 ag0
  intro s y1 h1 hP1 hX1 agl34
  obtain ⟨l10, w11⟩ := s
  have h1 : fX10_findMatches_b34 l9 a1 v1 l10 w11 = some y1 := h1
  have agl34 : Agree (pU pX10_findMatches) w w11 := agl34
  unfold fX10_findMatches_b34 at h1
  by_cases c42 : l9 ≤ l10
  · rw [if_pos c42] at h1
    have h0 := congrArg some (hX1 _ (Option.some.inj h1).symm)
    rw [← Option.some.inj h0]
    exact agl34
  · rw [if_neg c42] at h1
    obtain ⟨v12, ev12, h1⟩ := lt_some h1
    obtain ⟨x30, ix30, h1⟩ := bind_some h1
    replace h1 := un2_eq h1
    obtain ⟨l31, w32, rfl, h1⟩ := h1
    have ag33 : Agree (pU pX10_findMatches) w w32 := by
      refine iter_rule (P := fun s : Int32 × Int32 × Int32 × Wd => Agree (pU pX10_findMatches) w s.2.2.2 → Agree (pU pX10_findMatches) w w32) (x := (l31, w32)) ?_ FU (l10, 1, v12, w11) ix30 agl34
      intro s y2 h2 hP2 hX2 agl52
      obtain ⟨l13, l14, l15, w16⟩ := s
      have h2 : fX10_findMatches_b52 v1 a1 l13 l14 l15 w16 = some y2 := h2
      have agl52 : Agree (pU pX10_findMatches) w w16 := agl52
      unfold fX10_findMatches_b52 at h2
      by_cases c29 : l15 < 0
      · rw [if_pos c29] at h2
        have e17 := hX2 _ (Option.some.inj h2).symm
        cases e17
        exact agl52
      · rw [if_neg c29] at h2
        obtain ⟨g18, h2⟩ := gd_some h2
        obtain ⟨g20, h2⟩ := gd_some h2
        obtain ⟨w19, ew19, h2⟩ := lt_some h2
        have ag21 := agl52.pI ew19 (Or.inr (List.mem_of_getElem? (i := 0) rfl))
        obtain ⟨v22, ev22, h2⟩ := lt_some h2
        obtain ⟨v24, hv24, h2⟩ := bind_some h2
        obtain ⟨v27, ev27, h2⟩ := lt_some h2
        obtain ⟨v28, ev28, h2⟩ := lt_some h2
        exact hP2 (v22, v27, v28, w19) (Option.some.inj h2).symm ag21
    by_cases c41 : l31 = 0
    · rw [if_pos c41] at h1
      obtain ⟨v34, ev34, h1⟩ := lt_some h1
      exact hP1 (v34, w32) (Option.some.inj h1).symm ag33
    · rw [if_neg c41] at h1
      obtain ⟨q37, er36, h1⟩ := bind_some h1
      replace h1 := un2_eq h1
      obtain ⟨r36, w35, rfl, h1⟩ := h1
      have ag38 := ag33.tr (Agree.sub [1, 2, 3, 4, 5, 6, 7, 8, 9, 10, 11, 12, 13, 14, 15] rfl (rX10_doesLight er36))
      by_cases c40 : r36 = 0
      · rw [if_pos c40] at h1
        obtain ⟨v39, ev39, h1⟩ := lt_some h1
        exact hP1 (v39, w35) (Option.some.inj h1).symm ag38
      · rw [if_neg c40] at h1
        have h0 := congrArg some (hX1 _ (Option.some.inj h1).symm)
        rw [← Option.some.inj h0]
        exact ag38
def pX10_matches : List (Nat × Option Nat) := [all_ 66, at_ 42 20, at_ 42 19, all_ 44, all_ 53, all_ 45, all_ 46, all_ 47, all_ 48, at_ 42 6, at_ 42 7, at_ 42 8, at_ 42 9, all_ 54, all_ 55, at_ 42 23, all_ 43]
theorem rX10_matches {w : Wd} {a1 : Int32} {out : Int32 × Wd} (h0 : fX10_matches w a1 = some out) : Agree (pU pX10_matches) w out.2 := by
  have ag0 : Agree (pU pX10_matches) w w := Agree.rf
  unfold fX10_matches at h0
  by_cases c17 : ((-1) : Int32) ≤ a1
  · rw [if_pos c17] at h0
    refine iter_rule (P := fun s : Int32 × Wd => Agree (pU pX10_matches) w s.2 → Agree (pU pX10_matches) w out.2) (x := out) ?_ FU (0, w) h0 ag0
    intro s y1 h1 hP1 hX1 agl14
    obtain ⟨l1, w2⟩ := s
    have h1 : fX10_matches_b14 a1 l1 w2 = some y1 := h1
    have agl14 : Agree (pU pX10_matches) w w2 := agl14
    unfold fX10_matches_b14 at h1
    by_cases c12 : (4 : Int32) ≤ l1
    · rw [if_pos c12] at h1
      have h0 := congrArg some (hX1 _ (Option.some.inj h1).symm)
      rw [← Option.some.inj h0]
      exact agl14
    · rw [if_neg c12] at h1
      obtain ⟨q5, er4, h1⟩ := bind_some h1
      replace h1 := un2_eq h1
      obtain ⟨r4, w3, rfl, h1⟩ := h1
      have ag6 := agl14.tr (Agree.sub [0, 1, 2, 3, 4, 5, 6, 7, 8, 9, 10, 11, 12, 13, 14, 15] rfl (rX10_findMatches er4))
      by_cases c11 : r4 = 0
      · rw [if_pos c11] at h1
        obtain ⟨v7, ev7, h1⟩ := lt_some h1
        exact hP1 (v7, w3) (Option.some.inj h1).symm ag6
      · rw [if_neg c11] at h1
        by_cases c10 : (0 : Int32) ≤ a1
        · rw [if_pos c10] at h1
          by_cases c9 : l1 ≤ a1
          · rw [if_pos c9] at h1
            have h0 := congrArg some (hX1 _ (Option.some.inj h1).symm)
            rw [← Option.some.inj h0]
            exact ag6
          · rw [if_neg c9] at h1
            obtain ⟨g8, h1⟩ := gd_some h1
            have h0 := congrArg some (hX1 _ (Option.some.inj h1).symm)
            rw [← Option.some.inj h0]
            exact ag6
        · rw [if_neg c10] at h1
          have h0 := congrArg some (hX1 _ (Option.some.inj h1).symm)
          rw [← Option.some.inj h0]
          exact ag6
  · rw [if_neg c17] at h0
    obtain ⟨q15, er14, h0⟩ := bind_some h0
    replace h0 := un2_eq h0
    obtain ⟨r14, w13, rfl, h0⟩ := h0
    have ag16 := ag0.tr (Agree.sub [16] rfl (rX10_no er14))
    rw [← Option.some.inj h0]
    exact ag16
def pX10_isWax : List (Nat × Option Nat) := [at_ 42 20, at_ 42 19, all_ 44, all_ 53, all_ 45, all_ 46, all_ 47, all_ 48, at_ 42 6, at_ 42 7, at_ 42 8, at_ 42 9, all_ 54, all_ 55, at_ 42 23]
theorem rX10_isWax {w : Wd} {a1 : Int32} {out : Int32 × Wd} (h0 : fX10_isWax w a1 = some out) : Agree (pU pX10_isWax) w out.2 := by
  have ag0 : Agree (pU pX10_isWax) w w := Agree.rf
  unfold fX10_isWax at h0
  have J53 : ∀ (w24 : Wd) (l23 : Int32), fX10_isWax_j53 w24 l23 = some out → Agree (pU pX10_isWax) w w24 → Agree (pU pX10_isWax) w out.2 := by
    intro w24 l23 h0 agj
    unfold fX10_isWax_j53 at h0
    obtain ⟨w25, ew25, h0⟩ := bind_some h0
    have ag26 := agj.tr (Agree.sub [0, 1, 2, 3, 4, 5, 6, 7, 8, 9, 10, 11] rfl (rX10_passesAll ew25))
    obtain ⟨g27, h0⟩ := gd_some h0
    rw [← Option.some.inj h0]
    exact ag26
  obtain ⟨w1, ew1, h0⟩ := bind_some h0
  have ag2 := ag0.tr (Agree.sub [0, 1, 2, 3, 4, 5, 6, 7, 8, 9, 10, 11] rfl (rX10_passesAll ew1))
  obtain ⟨w3, ew3, h0⟩ := lt_some h0
  have ag4 := ag2.pI ew3 (Or.inl (List.mem_of_getElem? (i := 9) rfl))
  obtain ⟨x19, ix19, h0⟩ := bind_some h0
  replace h0 := un2_eq h0
  obtain ⟨l20, w21, rfl, h0⟩ := h0
  have ag22 : Agree (pU pX10_isWax) w w21 := by
    refine iter_rule (P := fun s : Int32 × Int32 × Wd => Agree (pU pX10_isWax) w s.2.2 → Agree (pU pX10_isWax) w w21) (x := (l20, w21)) ?_ FU (1, 0, w3) ix19 ag4
    intro s y1 h1 hP1 hX1 agl15
    obtain ⟨l5, l6, w7⟩ := s
    have h1 : fX10_isWax_b15 l5 l6 w7 = some y1 := h1
    have agl15 : Agree (pU pX10_isWax) w w7 := agl15
    unfold fX10_isWax_b15 at h1
    by_cases c18 : (w7.1 42 6) ≤ l6
    · rw [if_pos c18] at h1
      have e8 := hX1 _ (Option.some.inj h1).symm
      cases e8
      exact agl15
    · rw [if_neg c18] at h1
      by_cases c17 : l5 = 0
      · rw [if_pos c17] at h1
        have e9 := hX1 _ (Option.some.inj h1).symm
        cases e9
        exact agl15
      · rw [if_neg c17] at h1
        obtain ⟨q12, er11, h1⟩ := bind_some h1
        replace h1 := un2_eq h1
        obtain ⟨r11, w10, rfl, h1⟩ := h1
        have ag13 := agl15.tr (Agree.sub [0, 1, 2, 3, 4, 5, 6, 7, 8, 9, 10, 11, 12, 13, 14] rfl (rX10_darkEnds er11))
        obtain ⟨g14, h1⟩ := gd_some h1
        obtain ⟨v15, hv15, h1⟩ := lt_some h1
        have hv15 := hv15.symm
        obtain ⟨v16, ev16, h1⟩ := lt_some h1
        exact hP1 (v15, v16, w10) (Option.some.inj h1).symm ag13
  exact J53 w21 l20 h0 ag22
def pX10_wax : List (Nat × Option Nat) := [at_ 42 20, at_ 42 19, all_ 44, all_ 53, all_ 45, all_ 46, all_ 47, all_ 48, at_ 42 6, at_ 42 7, at_ 42 8, at_ 42 9, all_ 54, all_ 55, at_ 42 23, all_ 43]
theorem rX10_wax {w : Wd} {a1 : Int32} {out : Int32 × Wd} (h0 : fX10_wax w a1 = some out) : Agree (pU pX10_wax) w out.2 := by
  have ag0 : Agree (pU pX10_wax) w w := Agree.rf
  unfold fX10_wax at h0
  obtain ⟨v1, hv1, h0⟩ := lt_some h0
  have hv1 := hv1.symm
  by_cases c40 : v1 = 0
  · rw [if_pos c40] at h0
    obtain ⟨l12, il12, h0⟩ := bind_some h0
    obtain ⟨x30, ix30, h0⟩ := bind_some h0
    replace h0 := un3_eq h0
    obtain ⟨l31, l32, w33, rfl, h0⟩ := h0
    have ag34 : Agree (pU pX10_wax) w w33 := by
      refine iter_rule (P := fun s : Int32 × Int32 × Int32 × Wd => Agree (pU pX10_wax) w s.2.2.2 → Agree (pU pX10_wax) w w33) (x := (l31, l32, w33)) ?_ FU (0, (-9), 0, w) ix30 ag0
      intro s y1 h1 hP1 hX1 agl95
      obtain ⟨l13, l14, l15, w16⟩ := s
      have h1 : fX10_wax_b95 l12 l13 l14 l15 w16 = some y1 := h1
      have agl95 : Agree (pU pX10_wax) w w16 := agl95
      unfold fX10_wax_b95 at h1
      by_cases c29 : (1 : Int32) <<< ((w16.1 42 6) &&& 31) ≤ l15
      · rw [if_pos c29] at h1
        have e17 := hX1 _ (Option.some.inj h1).symm
        cases e17
        exact agl95
      · rw [if_neg c29] at h1
        by_cases c28 : (l15 &&& l12) = 0
        · rw [if_pos c28] at h1
          obtain ⟨q20, er19, h1⟩ := bind_some h1
          replace h1 := un2_eq h1
          obtain ⟨r19, w18, rfl, h1⟩ := h1
          have ag21 := agl95.tr (Agree.sub [0, 1, 2, 3, 4, 5, 6, 7, 8, 9, 10, 11, 12, 13, 14] rfl (rX10_isWax er19))
          by_cases c26 : r19 = 0
          · rw [if_pos c26] at h1
            obtain ⟨v22, ev22, h1⟩ := lt_some h1
            exact hP1 (l13, l14, v22, w18) (Option.some.inj h1).symm ag21
          · rw [if_neg c26] at h1
            obtain ⟨v23, hv23, h1⟩ := lt_some h1
            have hv23 := hv23.symm
            obtain ⟨v24, ev24, h1⟩ := lt_some h1
            obtain ⟨v25, ev25, h1⟩ := lt_some h1
            exact hP1 (v24, v23, v25, w18) (Option.some.inj h1).symm ag21
        · rw [if_neg c28] at h1
          obtain ⟨v27, ev27, h1⟩ := lt_some h1
          exact hP1 (l13, l14, v27, w16) (Option.some.inj h1).symm agl95
    by_cases c35 : a1 = 0
    · rw [if_pos c35] at h0
      rw [← Option.some.inj h0]
      exact ag34
    · rw [if_neg c35] at h0
      rw [← Option.some.inj h0]
      exact ag34
  · rw [if_neg c40] at h0
    obtain ⟨q38, er37, h0⟩ := bind_some h0
    replace h0 := un2_eq h0
    obtain ⟨r37, w36, rfl, h0⟩ := h0
    have ag39 := ag0.tr (Agree.sub [15] rfl (rX10_no er37))
    rw [← Option.some.inj h0]
    exact ag39
def pX10_sides : List (Nat × Option Nat) := [at_ 42 20, at_ 42 19, all_ 44, all_ 53, all_ 45, all_ 46, all_ 47, all_ 48, at_ 42 6, at_ 42 7, at_ 42 8, at_ 42 9, all_ 54, all_ 55, at_ 42 23]
theorem rX10_sides {w : Wd} {out : Int32 × Wd} (h0 : fX10_sides w = some out) : Agree (pU pX10_sides) w out.2 := by
  have ag0 : Agree (pU pX10_sides) w w := Agree.rf
  unfold fX10_sides at h0
  obtain ⟨w1, ew1, h0⟩ := bind_some h0
  have ag2 := ag0.tr (Agree.sub [0, 1, 2, 3, 4, 5, 6, 7, 8, 9, 10, 11] rfl (rX10_passesAll ew1))
  obtain ⟨x28, ix28, h0⟩ := bind_some h0
  replace h0 := un2_eq h0
  obtain ⟨l29, w30, rfl, h0⟩ := h0
  have ag31 : Agree (pU pX10_sides) w w30 := by
    refine iter_rule (P := fun s : Int32 × Int32 × Int32 × Wd => Agree (pU pX10_sides) w s.2.2.2 → Agree (pU pX10_sides) w w30) (x := (l29, w30)) ?_ FU (0, (-9), 0, w1) ix28 ag2
    intro s y1 h1 hP1 hX1 agl13
    obtain ⟨l3, l4, l5, w6⟩ := s
    have h1 : fX10_sides_b13 l3 l4 l5 w6 = some y1 := h1
    have agl13 : Agree (pU pX10_sides) w w6 := agl13
    unfold fX10_sides_b13 at h1
    by_cases c27 : (3 : Int32) ≤ l5
    · rw [if_pos c27] at h1
      have e7 := hX1 _ (Option.some.inj h1).symm
      cases e7
      exact agl13
    · rw [if_neg c27] at h1
      obtain ⟨w17, iw17, h1⟩ := bind_some h1
      have ag18 : Agree (pU pX10_sides) w w17 := by
        refine iter_rule (P := fun s : Int32 × Wd => Agree (pU pX10_sides) w s.2 → Agree (pU pX10_sides) w w17) (x := w17) ?_ FU (0, w6) iw17 agl13
        intro s y2 h2 hP2 hX2 agl21
        obtain ⟨l8, w9⟩ := s
        have h2 : fX10_sides_b21 l5 l8 w9 = some y2 := h2
        have agl21 : Agree (pU pX10_sides) w w9 := agl21
        unfold fX10_sides_b21 at h2
        by_cases c15 : (25 : Int32) ≤ l8
        · rw [if_pos c15] at h2
          have e10 := hX2 _ (Option.some.inj h2).symm
          cases e10
          exact agl21
        · rw [if_neg c15] at h2
          obtain ⟨g12, h2⟩ := gd_some h2
          obtain ⟨w11, ew11, h2⟩ := lt_some h2
          have ag13 := agl21.pI ew11 (Or.inr (List.mem_of_getElem? (i := 7) rfl))
          obtain ⟨v14, ev14, h2⟩ := lt_some h2
          exact hP2 (v14, w11) (Option.some.inj h2).symm ag13
      obtain ⟨q21, er20, h1⟩ := bind_some h1
      replace h1 := un2_eq h1
      obtain ⟨r20, w19, rfl, h1⟩ := h1
      have ag22 := ag18.tr (Agree.sub [0, 1, 2, 3, 4, 5, 6, 7, 8, 9, 10, 11, 12, 13, 14] rfl (rX10_atDoor er20))
      obtain ⟨r23, er23, h1⟩ := bind_some h1
      by_cases c26 : l4 < r23
      · rw [if_pos c26] at h1
        obtain ⟨v24, ev24, h1⟩ := lt_some h1
        exact hP1 (l5, r23, v24, w19) (Option.some.inj h1).symm ag22
      · rw [if_neg c26] at h1
        obtain ⟨v25, ev25, h1⟩ := lt_some h1
        exact hP1 (l3, l4, v25, w19) (Option.some.inj h1).symm ag22
  obtain ⟨w32, ew32, h0⟩ := bind_some h0
  have ag33 := ag31.tr (Agree.sub [0, 1, 2, 3, 4, 5, 6, 7, 8, 9, 10, 11] rfl (rX10_passesAll ew32))
  rw [← Option.some.inj h0]
  exact ag33
def pX10_row : List (Nat × Option Nat) := [all_ 67, at_ 42 41, all_ 43]
theorem rX10_row {w : Wd} {a1 : Int32} {out : Int32 × Wd} (h0 : fX10_row w a1 = some out) : Agree (pU pX10_row) w out.2 := by
  have ag0 : Agree (pU pX10_row) w w := Agree.rf
  unfold fX10_row at h0
  have J24 : ∀ (w3 : Wd) (l2 : Int32), fX10_row_j24 a1 w3 l2 = some out → Agree (pU pX10_row) w w3 → Agree (pU pX10_row) w out.2 := by
    intro w3 l2 h0 agj
    unfold fX10_row_j24 at h0
    by_cases c13 : l2 = 0
    · rw [if_pos c13] at h0
      obtain ⟨g5, h0⟩ := gd_some h0
      obtain ⟨w4, ew4, h0⟩ := lt_some h0
      have ag6 := agj.pI ew4 (Or.inr (List.mem_of_getElem? (i := 0) rfl))
      obtain ⟨w7, ew7, h0⟩ := lt_some h0
      have ag8 := ag6.pI ew7 (Or.inl (List.mem_of_getElem? (i := 1) rfl))
      rw [← Option.some.inj h0]
      exact ag8
    · rw [if_neg c13] at h0
      obtain ⟨q11, er10, h0⟩ := bind_some h0
      replace h0 := un2_eq h0
      obtain ⟨r10, w9, rfl, h0⟩ := h0
      have ag12 := agj.tr (Agree.sub [2] rfl (rX10_no er10))
      rw [← Option.some.inj h0]
      exact ag12
  obtain ⟨v1, ev1, h0⟩ := lt_some h0
  by_cases c15 : v1 = 0
  · rw [if_pos c15] at h0
    by_cases c14 : (w.1 42 41) = 12
    · rw [if_pos c14] at h0
      exact J24 w (-6) h0 ag0
    · rw [if_neg c14] at h0
      exact J24 w v1 h0 ag0
  · rw [if_neg c15] at h0
    exact J24 w v1 h0 ag0
def pX10_judge : List (Nat × Option Nat) := [at_ 42 41, at_ 42 20, at_ 42 19, all_ 44, all_ 53, all_ 45, all_ 46, all_ 47, all_ 48, at_ 42 6, at_ 42 7, at_ 42 8, at_ 42 9, all_ 54, all_ 55, at_ 42 23]
theorem rX10_judge {w : Wd} {out : Int32 × Wd} (h0 : fX10_judge w = some out) : Agree (pU pX10_judge) w out.2 := by
  have ag0 : Agree (pU pX10_judge) w w := Agree.rf
  unfold fX10_judge at h0
  have J92 : ∀ (w31 : Wd) (l30 : Int32), fX10_judge_j92 w31 l30 = some out → Agree (pU pX10_judge) w w31 → Agree (pU pX10_judge) w out.2 := by
    intro w31 l30 h0 agj
    unfold fX10_judge_j92 at h0
    obtain ⟨w32, ew32, h0⟩ := bind_some h0
    have ag33 := agj.tr (Agree.sub [1, 2, 3, 4, 5, 6, 7, 8, 9, 10, 11, 12] rfl (rX10_passesAll ew32))
    rw [← Option.some.inj h0]
    exact ag33
  obtain ⟨v1, ev1, h0⟩ := lt_some h0
  obtain ⟨w2, ew2, h0⟩ := lt_some h0
  have ag3 := ag0.pI ew2 (Or.inl (List.mem_of_getElem? (i := 0) rfl))
  obtain ⟨w4, ew4, h0⟩ := bind_some h0
  have ag5 := ag3.tr (Agree.sub [1, 2, 3, 4, 5, 6, 7, 8, 9, 10, 11, 12] rfl (rX10_passesAll ew4))
  obtain ⟨x26, ix26, h0⟩ := bind_some h0
  replace h0 := un2_eq h0
  obtain ⟨l27, w28, rfl, h0⟩ := h0
  have ag29 : Agree (pU pX10_judge) w w28 := by
    refine iter_rule (P := fun s : Int32 × Int32 × Wd => Agree (pU pX10_judge) w s.2.2 → Agree (pU pX10_judge) w w28) (x := (l27, w28)) ?_ FU ((-9), 0, w4) ix26 ag5
    intro s y1 h1 hP1 hX1 agl21
    obtain ⟨l6, l7, w8⟩ := s
    have h1 : fX10_judge_b21 v1 l6 l7 w8 = some y1 := h1
    have agl21 : Agree (pU pX10_judge) w w8 := agl21
    unfold fX10_judge_b21 at h1
    have J58 : ∀ (w14 : Wd) (l12 : Int32) (l13 : Int32), fX10_judge_j58 w14 l12 l13 = some y1 → Agree (pU pX10_judge) w w14 → Agree (pU pX10_judge) w w28 := by
      intro w14 l12 l13 h1 agj
      unfold fX10_judge_j58 at h1
      obtain ⟨v16, hv16, h1⟩ := bind_some h1
      obtain ⟨v20, ev20, h1⟩ := lt_some h1
      exact hP1 (v16, v20, w14) (Option.some.inj h1).symm agj
    by_cases c25 : v1 ≤ l7
    · rw [if_pos c25] at h1
      have e9 := hX1 _ (Option.some.inj h1).symm
      cases e9
      exact agl21
    · rw [if_neg c25] at h1
      by_cases c24 : (0 : Int32) ≤ l6
      · rw [if_pos c24] at h1
        have e10 := hX1 _ (Option.some.inj h1).symm
        cases e10
        exact agl21
      · rw [if_neg c24] at h1
        obtain ⟨v11, hv11, h1⟩ := lt_some h1
        have hv11 := hv11.symm
        by_cases c23 : v11 = 0
        · rw [if_pos c23] at h1
          exact J58 w8 l7 v11 h1 agl21
        · rw [if_neg c23] at h1
          obtain ⟨w21, ew21, h1⟩ := bind_some h1
          have ag22 := agl21.tr (Agree.sub [13, 14, 15, 10, 12, 11] rfl (rX10_goes ew21))
          exact J58 w21 l7 v11 h1 ag22
  exact J92 w28 l27 h0 ag29
def pX10_clear : List (Nat × Option Nat) := [at_ 42 41]
theorem rX10_clear {w : Wd} {out : Int32 × Wd} (h0 : fX10_clear w = out) : Agree (pU pX10_clear) w out.2 := by
  have ag0 : Agree (pU pX10_clear) w w := Agree.rf
  unfold fX10_clear at h0
  obtain ⟨v1, ev1, h0⟩ := lt_some h0
  obtain ⟨w2, ew2, h0⟩ := lt_some h0
  have ag3 := ag0.pI ew2 (Or.inl (List.mem_of_getElem? (i := 0) rfl))
  rw [← h0]
  exact ag3
def pX10_draw : List (Nat × Option Nat) := [at_ 42 42]
theorem rX10_draw {w : Wd} {a1 : Int32} {out : Int32 × Wd} (h0 : fX10_draw w a1 = some out) : Agree (pU pX10_draw) w out.2 := by
  have ag0 : Agree (pU pX10_draw) w w := Agree.rf
  unfold fX10_draw at h0
  obtain ⟨w1, ew1, h0⟩ := lt_some h0
  have ag2 := ag0.pI ew1 (Or.inl (List.mem_of_getElem? (i := 0) rfl))
  obtain ⟨g3, h0⟩ := gd_some h0
  rw [← Option.some.inj h0]
  exact ag2
def pX10_seeds : List (Nat × Option Nat) := [at_ 42 20, at_ 42 19, all_ 44, all_ 53, all_ 45, all_ 46, all_ 47, all_ 48, at_ 42 6, at_ 42 7, at_ 42 8, at_ 42 9, at_ 42 42, all_ 54, all_ 55, at_ 42 23, all_ 43]
theorem rX10_seeds {w : Wd} {a1 : Int32} {a2 : Int32} {a3 : Int32} {out : Int32 × Wd} (h0 : fX10_seeds w a1 a2 a3 = some out) : Agree (pU pX10_seeds) w out.2 := by
  have ag0 : Agree (pU pX10_seeds) w w := Agree.rf
  unfold fX10_seeds at h0
  have J27 : ∀ (w3 : Wd) (l2 : Int32), fX10_seeds_j27 a2 a1 a3 w3 l2 = some out → Agree (pU pX10_seeds) w w3 → Agree (pU pX10_seeds) w out.2 := by
    intro w3 l2 h0 agj
    unfold fX10_seeds_j27 at h0
    by_cases c57 : l2 = 0
    · rw [if_pos c57] at h0
      obtain ⟨w4, ew4, h0⟩ := bind_some h0
      have ag5 := agj.tr (Agree.sub [0, 1, 2, 3, 4, 5, 6, 7, 8, 9, 10, 11] rfl (rX10_passesAll ew4))
      obtain ⟨w6, ew6, h0⟩ := lt_some h0
      have ag7 := ag5.pI ew6 (Or.inl (List.mem_of_getElem? (i := 12) rfl))
      obtain ⟨x45, ix45, h0⟩ := bind_some h0
      replace h0 := un3_eq h0
      obtain ⟨l46, l47, w48, rfl, h0⟩ := h0
      have ag49 : Agree (pU pX10_seeds) w w48 := by
        refine iter_rule (P := fun s : Int32 × Int32 × Int32 × Wd => Agree (pU pX10_seeds) w s.2.2.2 → Agree (pU pX10_seeds) w w48) (x := (l46, l47, w48)) ?_ FU (0, 0, 0, w6) ix45 ag7
        intro s y1 h1 hP1 hX1 agl59
        obtain ⟨l8, l9, l10, w11⟩ := s
        have h1 : fX10_seeds_b59 a1 l8 l9 l10 w11 = some y1 := h1
        have agl59 : Agree (pU pX10_seeds) w w11 := agl59
        unfold fX10_seeds_b59 at h1
        by_cases c44 : a1 ≤ l10
        · rw [if_pos c44] at h1
          have e12 := hX1 _ (Option.some.inj h1).symm
          cases e12
          exact agl59
        · rw [if_neg c44] at h1
          obtain ⟨v13, ev13, h1⟩ := lt_some h1
          obtain ⟨w33, iw33, h1⟩ := bind_some h1
          have ag34 : Agree (pU pX10_seeds) w w33 := by
            refine iter_rule (P := fun s : Int32 × Wd => Agree (pU pX10_seeds) w s.2 → Agree (pU pX10_seeds) w w33) (x := w33) ?_ FU (v13, w11) iw33 agl59
            intro s y2 h2 hP2 hX2 agl71
            obtain ⟨l14, w15⟩ := s
            have h2 : fX10_seeds_b71 l14 w15 = some y2 := h2
            have agl71 : Agree (pU pX10_seeds) w w15 := agl71
            unfold fX10_seeds_b71 at h2
            by_cases c31 : (25 : Int32) ≤ l14
            · rw [if_pos c31] at h2
              have e16 := hX2 _ (Option.some.inj h2).symm
              cases e16
              exact agl71
            · rw [if_neg c31] at h2
              obtain ⟨q19, er18, h2⟩ := bind_some h2
              replace h2 := un2_eq h2
              obtain ⟨r18, w17, rfl, h2⟩ := h2
              have ag20 := agl71.tr (Agree.sub [12] rfl (rX10_draw er18))
              obtain ⟨g22, h2⟩ := gd_some h2
              obtain ⟨w21, ew21, h2⟩ := lt_some h2
              have ag23 := ag20.pI ew21 (Or.inr (List.mem_of_getElem? (i := 6) rfl))
              obtain ⟨q26, er25, h2⟩ := bind_some h2
              replace h2 := un2_eq h2
              obtain ⟨r25, w24, rfl, h2⟩ := h2
              have ag27 := ag23.tr (Agree.sub [12] rfl (rX10_draw er25))
              obtain ⟨w28, ew28, h2⟩ := lt_some h2
              have ag29 := ag27.pI ew28 (Or.inr (List.mem_of_getElem? (i := 7) rfl))
              obtain ⟨v30, ev30, h2⟩ := lt_some h2
              exact hP2 (v30, w28) (Option.some.inj h2).symm ag29
          obtain ⟨q37, er36, h1⟩ := bind_some h1
          replace h1 := un2_eq h1
          obtain ⟨r36, w35, rfl, h1⟩ := h1
          have ag38 := ag34.tr (Agree.sub [0, 1, 2, 3, 4, 5, 6, 7, 8, 9, 10, 11, 13, 14, 15] rfl (rX10_atDoor er36))
          obtain ⟨r39, er39, h1⟩ := bind_some h1
          obtain ⟨v40, ev40, h1⟩ := lt_some h1
          obtain ⟨v41, hv41, h1⟩ := lt_some h1
          have hv41 := hv41.symm
          obtain ⟨v42, ev42, h1⟩ := lt_some h1
          obtain ⟨v43, ev43, h1⟩ := lt_some h1
          exact hP1 (v40, v42, v43, w35) (Option.some.inj h1).symm ag38
      obtain ⟨w50, ew50, h0⟩ := bind_some h0
      have ag51 := ag49.tr (Agree.sub [0, 1, 2, 3, 4, 5, 6, 7, 8, 9, 10, 11] rfl (rX10_passesAll ew50))
      by_cases c52 : a3 = 0
      · rw [if_pos c52] at h0
        rw [← Option.some.inj h0]
        exact ag51
      · rw [if_neg c52] at h0
        rw [← Option.some.inj h0]
        exact ag51
    · rw [if_neg c57] at h0
      obtain ⟨q55, er54, h0⟩ := bind_some h0
      replace h0 := un2_eq h0
      obtain ⟨r54, w53, rfl, h0⟩ := h0
      have ag56 := agj.tr (Agree.sub [16] rfl (rX10_no er54))
      rw [← Option.some.inj h0]
      exact ag56
  obtain ⟨v1, ev1, h0⟩ := lt_some h0
  by_cases c59 : v1 = 0
  · rw [if_pos c59] at h0
    by_cases c58 : (fX10_isIn a3 0 1) = 0
    · rw [if_pos c58] at h0
      exact J27 w (-2) h0 ag0
    · rw [if_neg c58] at h0
      exact J27 w v1 h0 ag0
  · rw [if_neg c59] at h0
    exact J27 w v1 h0 ag0

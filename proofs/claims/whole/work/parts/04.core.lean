/-! the words, the world of all cells, and V: a walk's goal over it -/
def gtbl : List Cond := lw_tbl.filter goodWord
theorem in_gtbl {w : Cond} (h : w ∈ lw_tbl) (hg : goodWord w = true) : w ∈ gtbl := List.mem_filter.mpr ⟨h, hg⟩
theorem gtbl_ok {w : Cond} (h : w ∈ gtbl) : (w.onTables && w.keeps) = true ∨ ∃ ty, w = .arrayClass ty := good_of_word (List.mem_filter.mp h).2
theorem goodIn_g {ws : List Cond} (h : ∀ w ∈ ws, w ∈ gtbl) : GoodIn gtbl ws := fun w hw => ⟨h w hw, gtbl_ok (h w hw)⟩
def nestM : List (String × Nat × MethodName × String) := [("LitAgain$Letters", 87, yX9_isOutside, "LitAgain"), ("LitAgain$Company", 56, yX9_hasBit, "LitAgain"), ("LitAgain$Walk", 91, yX9_hasBit, "LitAgain"), ("LitAgain$Mind", 66, yX9_hasBit, "LitAgain"), ("LitAgain$Changes", 146, yX9_hasBit, "LitAgain"), ("LitAgain$Plans", 52, yX9_hasBit, "LitAgain"), ("LitAgain$Chances", 101, yX9_hasBit, "LitAgain")]
def nestF : List (String × Nat × String × String × String × String) := [("LitAgain$Company", 74, "LitAgain", "COVER", "[I", "LitAgain"), ("LitAgain$Company", 89, "LitAgain", "GIVES", "[I", "LitAgain")]
def NW (U : State) : Prop := (∀ q ∈ nestM, va_Nw (.methodLinkNest q.1 q.2.1 q.2.2.1 q.2.2.2) U) ∧ ∀ q ∈ nestF, va_Nw (.fieldLinkNest q.1 q.2.1 q.2.2.1 q.2.2.2.1 q.2.2.2.2.1 q.2.2.2.2.2) U
theorem NW.warm {s U : State} (hW : s.WarmedH U.vm) (h : NW s) : NW U := ⟨fun q hq => va_Nw.warmM hW (h.1 q hq), fun q hq => va_Nw.warmF hW (h.2 q hq)⟩
theorem NW.same {s U : State} (hv : s.vm = U.vm) (h : NW s) : NW U := ⟨fun q hq => va_Nw.same rfl hv (h.1 q hq), fun q hq => va_Nw.same rfl hv (h.2 q hq)⟩
/-- ints by cell and place, longs by cell and place -/
abbrev Wd : Type := (Nat → Nat → Int32) × (Nat → Nat → Int64)
def upI (w : Wd) (i k : Nat) (x : Int32) : Wd := (fun a b => if a = i ∧ b = k then x else w.1 a b, w.2)
def upJ (w : Wd) (i k : Nat) (x : Int64) : Wd := (w.1, fun a b => if a = i ∧ b = k then x else w.2 a b)
def upA (w : Wd) (i : Nat) (f : Nat → Int32) : Wd := (fun a => if a = i then f else w.1 a, w.2)
def upB (w : Wd) (i : Nat) (f : Nat → Int64) : Wd := (w.1, fun a => if a = i then f else w.2 a)
/-- addresses of the cells; the classes of int[] and long[]; classes and slots; the two static rows -/
abbrev GT : Type := (Nat → Nat) × (Nat × Nat) × va_G × (Nat × Nat)
def cellT : List (GT → (Nat → Int32) → (Nat → Int64) → va_E) := [
  fun g f h => .inr (9, [.ref (g.1 1), .ref (g.1 2), .int (f 2), .ref (g.1 4), .ref (g.1 5), .ref (g.1 6), .ref (g.1 7), .ref (g.1 8), .ref (g.1 9), .ref (g.1 10), .ref (g.1 11), .ref (g.1 12)]),
  fun g f h => .inr (2, [.int (f 0), .int (f 1), .int (f 2), .int (f 3), .int (f 4), .int (f 5), .int (f 6), .ref (g.1 13), .ref (g.1 14), .ref (g.1 15), .ref (g.1 16)]),
  fun g f h => .inr (2, [.int (f 0), .int (f 1), .int (f 2), .int (f 3), .int (f 4), .int (f 5), .int (f 6), .ref (g.1 17), .ref (g.1 18), .ref (g.1 19), .ref (g.1 20)]),
  fun g f h => .inr (2, [.int (f 0), .int (f 1), .int (f 2), .int (f 3), .int (f 4), .int (f 5), .int (f 6), .ref (g.1 21), .ref (g.1 22), .ref (g.1 23), .ref (g.1 24)]),
  fun g f h => .inr (8, [.int (f 0), .int (f 1), .int (f 2), .int (f 3), .int (f 4), .int (f 5), .int (f 6), .ref (g.1 25), .ref (g.1 26), .ref (g.1 27), .ref (g.1 28), .ref (g.1 29)]),
  fun g f h => .inr (5, [.int (f 0), .ref (g.1 30), .ref (g.1 31), .ref (g.1 32)]),
  fun g f h => .inr (3, [.int (f 0), .ref (g.1 33), .ref (g.1 3), .ref (g.1 4)]),
  fun g f h => .inr (7, [.int (f 0), .ref (g.1 34)]),
  fun g f h => .inr (4, [.int (f 0), .int (f 1), .int (f 2), .int (f 3), .ref (g.1 1), .ref (g.1 4), .ref (g.1 35)]),
  fun g f h => .inr (6, [.int (f 0), .int (f 1), .ref (g.1 36), .ref (g.1 1), .ref (g.1 4)]),
  fun g f h => .inr (1, [.int (f 0), .int (f 1), .int (f 2), .int (f 3), .int (f 4), .ref (g.1 1), .ref (g.1 3), .ref (g.1 4), .ref (g.1 37), .ref (g.1 38)]),
  fun g f h => .inr (0, [.long (h 0), .ref (g.1 39), .ref (g.1 40), .ref (g.1 41), .ref (g.1 4)]),
  fun g f h => .inl (g.2.1.1, 7, .inl f),
  fun g f h => .inl (g.2.1.1, 8, .inl f),
  fun g f h => .inl (g.2.1.1, 8, .inl f),
  fun g f h => .inl (g.2.1.1, 25, .inl f),
  fun g f h => .inl (g.2.1.1, 25, .inl f),
  fun g f h => .inl (g.2.1.1, 8, .inl f),
  fun g f h => .inl (g.2.1.1, 8, .inl f),
  fun g f h => .inl (g.2.1.1, 25, .inl f),
  fun g f h => .inl (g.2.1.1, 25, .inl f),
  fun g f h => .inl (g.2.1.1, 8, .inl f),
  fun g f h => .inl (g.2.1.1, 8, .inl f),
  fun g f h => .inl (g.2.1.1, 25, .inl f),
  fun g f h => .inl (g.2.1.1, 25, .inl f),
  fun g f h => .inl (g.2.1.1, 8, .inl f),
  fun g f h => .inl (g.2.1.1, 25, .inl f),
  fun g f h => .inl (g.2.1.1, 25, .inl f),
  fun g f h => .inl (g.2.1.1, 8, .inl f),
  fun g f h => .inl (g.2.1.1, 24, .inl f),
  fun g f h => .inl (g.2.1.1, 8, .inl f),
  fun g f h => .inl (g.2.1.1, 8, .inl f),
  fun g f h => .inl (g.2.1.1, 8, .inl f),
  fun g f h => .inl (g.2.1.1, 96, .inl f),
  fun g f h => .inl (g.2.1.1, 12, .inl f),
  fun g f h => .inl (g.2.1.1, 8, .inl f),
  fun g f h => .inl (g.2.1.1, 3, .inl f),
  fun g f h => .inl (g.2.1.1, 6, .inl f),
  fun g f h => .inl (g.2.1.1, 9, .inl f),
  fun g f h => .inl (g.2.1.2, 16, .inr (.inl h)),
  fun g f h => .inl (g.2.1.2, 16, .inr (.inl h)),
  fun g f h => .inl (g.2.1.1, 4, .inl f),
  fun g f h => .inr (10, [.ref (g.1 43), .ref (g.1 44), .ref (g.1 45), .ref (g.1 46), .ref (g.1 47), .ref (g.1 48), .int (f 6), .int (f 7), .int (f 8), .int (f 9), .ref (g.1 49), .ref (g.1 50), .ref (g.1 51), .ref (g.1 52), .int (f 14), .int (f 15), .int (f 16), .ref (g.1 53), .int (f 18), .int (f 19), .int (f 20), .ref (g.1 54), .ref (g.1 55), .int (f 23), .ref (g.1 56), .ref (g.1 57), .ref (g.1 58), .int (f 27), .ref (g.1 59), .ref (g.1 60), .ref (g.1 61), .ref (g.1 62), .int (f 32), .int (f 33), .int (f 34), .ref (g.1 63), .ref (g.1 64), .int (f 37), .ref (g.1 65), .ref (g.1 66), .ref (g.1 67), .int (f 41), .int (f 42)]),
  fun g f h => .inl (g.2.1.1, 7, .inl f),
  fun g f h => .inl (g.2.1.1, 3, .inl f),
  fun g f h => .inl (g.2.1.1, 8, .inl f),
  fun g f h => .inl (g.2.1.1, 8, .inl f),
  fun g f h => .inl (g.2.1.1, 25, .inl f),
  fun g f h => .inl (g.2.1.1, 25, .inl f),
  fun g f h => .inl (g.2.1.1, 96, .inl f),
  fun g f h => .inl (g.2.1.1, 48, .inl f),
  fun g f h => .inl (g.2.1.1, 48, .inl f),
  fun g f h => .inl (g.2.1.1, 144, .inl f),
  fun g f h => .inl (g.2.1.1, 240, .inl f),
  fun g f h => .inl (g.2.1.1, 8, .inl f),
  fun g f h => .inl (g.2.1.1, 8, .inl f),
  fun g f h => .inl (g.2.1.1, 8, .inl f),
  fun g f h => .inl (g.2.1.1, 8, .inl f),
  fun g f h => .inl (g.2.1.1, 8, .inl f),
  fun g f h => .inl (g.2.1.1, 6, .inl f),
  fun g f h => .inl (g.2.1.1, 6, .inl f),
  fun g f h => .inl (g.2.1.1, 8, .inl f),
  fun g f h => .inl (g.2.1.1, 8, .inl f),
  fun g f h => .inl (g.2.1.2, 16, .inr (.inl h)),
  fun g f h => .inl (g.2.1.2, 16, .inr (.inl h)),
  fun g f h => .inl (g.2.1.1, 9, .inl f),
  fun g f h => .inl (g.2.1.1, 3, .inl f),
  fun g f h => .inl (g.2.1.1, 12, .inl f)
]
def cell (g : GT) (i : Nat) (f : Nat → Int32) (h : Nat → Int64) : va_E := match cellT[i]? with
  | some c => c g f h
  | none => .inr (0, [])
def ws (g : GT) (w : Wd) : va_W := (List.range 68).map fun i => (g.1 i, cell g i (w.1 i) (w.2 i))
theorem ws_get (g : GT) (w : Wd) {i : Nat} (hi : i < 68) : (ws g w)[i]? = some (g.1 i, cell g i (w.1 i) (w.2 i)) := by
  unfold ws; rw [List.getElem?_map, List.getElem?_range hi]; rfl
theorem ws_len (g : GT) (w : Wd) : (ws g w).length = 68 := by unfold ws; rw [List.length_map, List.length_range]
theorem ws_at {g : GT} {w : Wd} {k : Nat} {q : Nat × va_E} (h : (ws g w)[k]? = some q) : k < 68 ∧ q = (g.1 k, cell g k (w.1 k) (w.2 k)) := by
  have hk : k < 68 := by
    have := (List.getElem?_eq_some_iff.mp h).1
    rw [ws_len] at this; exact this
  rw [ws_get g w hk] at h
  exact ⟨hk, (Option.some.inj h).symm⟩
theorem ws_set (g : GT) (w w1 : Wd) {i : Nat} {e : va_E} (hi : i < 68) (he : cell g i (w1.1 i) (w1.2 i) = e) (ho : ∀ j, j ≠ i → w1.1 j = w.1 j ∧ w1.2 j = w.2 j) : (ws g w).set i (g.1 i, e) = ws g w1 := by
  refine List.ext_getElem? fun j => ?_
  by_cases hj : j = i
  · subst hj
    rw [List.getElem?_set_self (by rw [ws_len]; exact hi), ws_get g w1 hi, he]
  · rw [List.getElem?_set_ne (Ne.symm hj)]
    by_cases h68 : j < 68
    · rw [ws_get g w h68, ws_get g w1 h68, (ho j hj).1, (ho j hj).2]
    · rw [List.getElem?_eq_none (by rw [ws_len]; omega), List.getElem?_eq_none (by rw [ws_len]; omega)]
theorem ws_D {g : GT} {A : Nat → Prop} {w : Wd} (w1 : Wd) (h : va_D A (ws g w)) : va_D A (ws g w1) := by
  refine ⟨fun i j p q hp hq hpq => ?_, fun k q hk => ?_⟩
  · obtain ⟨hi, rfl⟩ := ws_at hp
    obtain ⟨hj, rfl⟩ := ws_at hq
    exact h.1 i j _ _ (ws_get g w hi) (ws_get g w hj) hpq
  · obtain ⟨hi, rfl⟩ := ws_at hk
    exact h.2 k (g.1 k, cell g k (w.1 k) (w.2 k)) (ws_get g w hi)
def tys (g : GT) : List (ClassId × FieldType) := [(g.2.1.1, .int), (g.2.1.2, .long)]
def covF (j : Nat) : Int32 := ([1, 1, 0, 1, 3, 1, 0] : List Int32).getD j 0
def givF (j : Nat) : Int32 := ([2, 1, 1, 3, 3, 1, 1] : List Int32).getD j 0
/-- the two static rows, which nobody writes -/
def SS (g : GT) (A : Nat → Prop) (U : State) : Prop := va_Z "LitAgain" "COVER" "[I" (.ref g.2.2.2.1) A U U.heap ∧ va_Z "LitAgain" "GIVES" "[I" (.ref g.2.2.2.2) A U U.heap ∧ va_T .int g.2.2.2.1 7 (fun j => .int (covF j)) A U U.heap ∧ va_T .int g.2.2.2.2 7 (fun j => .int (givF j)) A U U.heap
def Pre (g : GT) (w : Wd) (sz : Nat) (U : State) : Prop := U.heap.size = sz ∧ va_P g.2.2.1 vwCl (ws g w) U.heap ∧ va_K g.2.2.1 vwCl (tys g) U ∧ va_D (fun _ => True) (ws g w) ∧ NW U ∧ SS g (va_A (ws g w) sz) U
theorem Pre.blind {g : GT} {w : Wd} {sz : Nat} {As : List Value} : FrameBlind (va_Pc As (Pre g w sz)) := by
  intro a U gg mk q
  obtain ⟨q0, q1, qP, qK, qD, qN, z1, z2, z3, z4⟩ := q
  exact ⟨q0, q1, qP, va_K.moved (u := U) (U := U.calling gg mk a) (Vm.Alike.refl U.vm) qK, qD, NW.same rfl qN, va_Z.moved (u := U) (U := U.calling gg mk a) (Vm.Alike.refl U.vm) z1, va_Z.moved (u := U) (U := U.calling gg mk a) (Vm.Alike.refl U.vm) z2, va_T.moved (u := U) (U := U.calling gg mk a) (Vm.Alike.refl U.vm) z3, va_T.moved (u := U) (U := U.calling gg mk a) (Vm.Alike.refl U.vm) z4⟩
abbrev ZT : Type := Program × Launch × Env × Room × State × MethodId × Array Value × List Frame × Method × Code × GT × (Nat → Prop) × (Nat × Nat × Nat) × (State → Prop)
abbrev zp (Z : ZT) : Program := Z.1
abbrev zl (Z : ZT) : Launch := Z.2.1
abbrev ze (Z : ZT) : Env := Z.2.2.1
abbrev zR (Z : ZT) : Room := Z.2.2.2.1
abbrev zs (Z : ZT) : State := Z.2.2.2.2.1
abbrev zm (Z : ZT) : MethodId := Z.2.2.2.2.2.1
abbrev za (Z : ZT) : Array Value := Z.2.2.2.2.2.2.1
abbrev zb (Z : ZT) : List Frame := Z.2.2.2.2.2.2.2.1
abbrev zh (Z : ZT) : Method := Z.2.2.2.2.2.2.2.2.1
abbrev zc (Z : ZT) : Code := Z.2.2.2.2.2.2.2.2.2.1
abbrev zg (Z : ZT) : GT := Z.2.2.2.2.2.2.2.2.2.2.1
abbrev zA (Z : ZT) : Nat → Prop := Z.2.2.2.2.2.2.2.2.2.2.2.1
abbrev zn (Z : ZT) : Nat × Nat × Nat := Z.2.2.2.2.2.2.2.2.2.2.2.2.1
abbrev zQ (Z : ZT) : State → Prop := Z.2.2.2.2.2.2.2.2.2.2.2.2.2
abbrev ZW (Z : ZT) (H : Heap) (locs : List Loc) (f : JFrame) : Prop := W (zp Z) (zl Z) (ze Z) (zR Z) (zs Z) (zm Z) (za Z) (zb Z) (zh Z) (zc Z) H locs (zn Z).2.1 (zn Z).2.2 (zQ Z) f
/-- from pc with these locals and this stack, in the world w, the walk comes to its end -/
def V (Z : ZT) (pc : Nat) (ls : List (Nat × Value)) (st : List Value) (w : Wd) : Prop := ∀ (H : Heap) (locs : List Loc) (la : Array Slot), lv_has la (zn Z).1 ls → va_P (zg Z).2.2.1 vwCl (ws (zg Z) w) H → va_S (zA Z) (zs Z).heap H locs → ZW Z H locs (F0 (zm Z) pc la st)
/-- what stays the same through a walk -/
def Fx (Z : ZT) (own : String) (cc : ByteArray) (nL FR LO : Nat) : Prop := (zp Z).tables.exec = Jvm.exec ∧ (zc Z).code = cc ∧ (zc Z).maxLocals = nL ∧ (zn Z).1 = nL ∧ (zs Z).vm.findClass own = some (zm Z).cls ∧ (∀ w ∈ gtbl, w.before (za Z) (zs Z) = true) ∧ (zR Z).frames = FR ∧ (zR Z).locals = LO ∧ ((zn Z).2.1 ≤ (zR Z).cells ∧ (zn Z).2.2 ≤ (zR Z).slots) ∧ va_K (zg Z).2.2.1 vwCl (tys (zg Z)) (zs Z) ∧ (∀ w : Wd, va_D (zA Z) (ws (zg Z) w)) ∧ (∀ q, (zs Z).heap.size ≤ q → zA Z q) ∧ NW (zs Z) ∧ SS (zg Z) (zA Z) (zs Z)

/-! rows over the cells; calls; contracts; what functions are made of -/
def ib (x : Int32) (n : Nat) : Bool := decide (0 ≤ x.toInt ∧ x.toInt < (n : Int))
theorem ib_in {x : Int32} {n : Nat} (h : ib x n = true) : vp_in x n := vp_in_iff.mpr (of_decide_eq_true h)
/-- a named value; a test that stands ahead of a step; a loop -/
def lt_ {α β : Type} (a : α) (f : α → β) : β := f a
def gd_ {α : Type} (c : Bool) (m : Option α) : Option α := if c = true then m else none
def iter {S X : Type} (B : S → Option (S ⊕ X)) : Nat → S → Option X
  | 0, _ => none
  | n + 1, s => match B s with
    | none => none
    | some (.inl s') => iter B n s'
    | some (.inr x) => some x
def FU : Nat := 100000
theorem lt_some {α β : Type} {a : α} {f : α → β} {o : β} (h : lt_ a f = o) : ∃ v, v = a ∧ f v = o := ⟨a, rfl, h⟩
theorem gd_some {α : Type} {c : Bool} {m : Option α} {o : α} (h : gd_ c m = some o) : c = true ∧ m = some o := by
  unfold gd_ at h
  by_cases hc : c = true
  · rw [if_pos hc] at h; exact ⟨hc, h⟩
  · rw [if_neg hc] at h; cases h
theorem bind_some {α β : Type} {m : Option α} {f : α → Option β} {o : β} (h : m.bind f = some o) : ∃ a, m = some a ∧ f a = some o := by
  cases m with
  | none => cases h
  | some a => exact ⟨a, rfl, h⟩
theorem iter_rule {S X : Type} {B : S → Option (S ⊕ X)} {P : S → Prop} {x : X} (hb : ∀ (s : S) (y : S ⊕ X), B s = some y → (∀ s' : S, y = .inl s' → P s') → (∀ z : X, y = .inr z → z = x) → P s) : ∀ (n : Nat) (s : S), iter B n s = some x → P s
  | 0, s, h => by cases h
  | n + 1, s, h => by
    unfold iter at h
    cases hs : B s with
    | none => rw [hs] at h; cases h
    | some y =>
      rw [hs] at h
      cases y with
      | inl s' => exact hb s _ hs (fun s2 e => by cases e; exact iter_rule hb n s' h) (fun z e => by cases e)
      | inr z => exact hb s _ hs (fun s2 e => by cases e) (fun z2 e => by cases e; exact Option.some.inj h)
/-- link words, bundled -/
def FL (own : String) (idx ci k : Nat) : Prop := ∃ (C : String) (T : u_T) (N : Nat), vwCl[ci]? = some (C, T, N) ∧ k < N ∧ (∀ w ∈ u_ws C T N, w ∈ gtbl) ∧ Cond.fieldLink own idx (T k).1 (T k).2.1 (T k).2.2.1 ∈ gtbl
def FP (ci k : Nat) (ty : FieldType) : Prop := ∃ (C : String) (T : u_T) (N : Nat) (ty0 : Nat → FieldType), vwCl[ci]? = some (C, T, N) ∧ (T k).2.2.2 = false ∧ (∀ k, k < N → parseFieldDescriptor (T k).2.2.1 = some (ty0 k)) ∧ (∀ a, a < N → ∀ b, b < N → a ≠ b → (T a).2.1 ≠ (T b).2.1) ∧ parseFieldDescriptor (T k).2.2.1 = some ty
def MLV (own : String) (idx : Nat) (y : MethodName) (bs : ByteArray) (mL : Nat) (ret : Option FieldType) (n ci : Nat) : Prop := (∃ (T : u_T) (N : Nat), vwCl[ci]? = some (y.cls, T, N)) ∧ Cond.methodLink own idx y ∈ gtbl ∧ Cond.instanceMethod y ∈ gtbl ∧ Cond.selects y.cls y y ∈ gtbl ∧ Cond.initialized y.cls ∈ gtbl ∧ Cond.code y bs mL ret ∈ gtbl ∧ (y.cls = y.cls ∧ y.cls ≠ "java/lang/invoke/MethodHandle" ∧ y.cls ≠ "java/lang/invoke/VarHandle" ∧ (parseMethodDescriptor y.desc).map (fun d => d.parameters.length) = some n)
def MLS (own : String) (idx : Nat) (y : MethodName) (bs : ByteArray) (mL : Nat) (ret : Option FieldType) (n : Nat) : Prop := Cond.methodLink own idx y ∈ gtbl ∧ Cond.static y ∈ gtbl ∧ Cond.initialized y.cls ∈ gtbl ∧ Cond.code y bs mL ret ∈ gtbl ∧ (y.cls ≠ "java/lang/invoke/MethodHandle" ∧ y.cls ≠ "java/lang/invoke/VarHandle" ∧ (parseMethodDescriptor y.desc).map (fun d => d.parameters.length) = some n)
def MLN (own : String) (idx : Nat) (y : MethodName) (bs : ByteArray) (mL : Nat) (ret : Option FieldType) (n : Nat) (host : String) : Prop := (own, idx, y, host) ∈ nestM ∧ Cond.static y ∈ gtbl ∧ Cond.initialized y.cls ∈ gtbl ∧ Cond.code y bs mL ret ∈ gtbl ∧ (y.cls ≠ "java/lang/invoke/MethodHandle" ∧ y.cls ≠ "java/lang/invoke/VarHandle" ∧ (parseMethodDescriptor y.desc).map (fun d => d.parameters.length) = some n)
/-- contracts: int, long, void answers -/
abbrev Bw (g : GT) (w : Wd) (t : State) : Prop := va_P g.2.2.1 vwCl (ws g w) t.heap
def CtI (g : GT) (y : MethodName) (bs : ByteArray) (mL : Nat) (ret : Option FieldType) (fr lo : Nat) (As : List Value) (w : Wd) (φ : Int32 → Wd → Prop) : Prop := ∀ (l : Launch) (sz : Nat), Met l y (Cond.code y bs mL ret :: gtbl) { frames := fr, cells := 0, slots := 0, locals := lo } (va_Pc As (Pre g w sz)) (va_Qi φ (Bw g) (va_A (ws g w) sz)) 0 0 (va_A (ws g w) sz)
def CtL (g : GT) (y : MethodName) (bs : ByteArray) (mL : Nat) (ret : Option FieldType) (fr lo : Nat) (As : List Value) (w : Wd) (φ : Int64 → Wd → Prop) : Prop := ∀ (l : Launch) (sz : Nat), Met l y (Cond.code y bs mL ret :: gtbl) { frames := fr, cells := 0, slots := 0, locals := lo } (va_Pc As (Pre g w sz)) (va_Ql φ (Bw g) (va_A (ws g w) sz)) 0 0 (va_A (ws g w) sz)
def CtV (g : GT) (y : MethodName) (bs : ByteArray) (mL : Nat) (ret : Option FieldType) (fr lo : Nat) (As : List Value) (w : Wd) (φ : Wd → Prop) : Prop := ∀ (l : Launch) (sz : Nat), Met l y (Cond.code y bs mL ret :: gtbl) { frames := fr, cells := 0, slots := 0, locals := lo } (va_Pc As (Pre g w sz)) (va_Qv φ (Bw g) (va_A (ws g w) sz)) 0 0 (va_A (ws g w) sz)
section
variable {Z : ZT} {own : String} {cc : ByteArray} {nL FR LO : Nat}
variable {pc : Nat} {ls : List (Nat × Value)} {st : List Value} {w w1 : Wd} {x y : Int32} {u v : Int64} {idx i ci k j n : Nat}
theorem u_sub {C : String} {T : u_T} {N : Nat} (h : ∀ w ∈ u_ws C T N, w ∈ gtbl) : ∀ w ∈ u_ws C T N, w ∈ gtbl := h
theorem r_getf (F : Fx Z own cc nL FR LO) {fs : List Value} {z : Value} (d : decode cc pc = .ok (.getfield idx, 3)) (fl : FL own idx ci k) (hi : i < 68) (hc : cell (zg Z) i (w.1 i) (w.2 i) = .inr (ci, fs)) (hv : fs[k]? = some z) (kk : V Z (pc + 3) ls (z :: st) w) : V Z pc ls (.ref ((zg Z).1 i) :: st) w := fun H locs la h1 h2 h3 => by
  obtain ⟨C, T, N, e1, e2, e3, e4⟩ := fl
  exact va_get F.1 F.2.1 F.ts e3 F.ow F.K h2 i (by rw [ws_get (zg Z) w hi, hc]) e1 k e2 (F.ts _ e4) (fun _ h9 => h9) hv d (kk H locs la h1 h2 h3)
theorem row_I (w : Wd) (i k : Nat) (x : Int32) : (upI w i k x).1 i = upd (w.1 i) k x := by
  funext b; show (if i = i ∧ b = k then x else w.1 i b) = if b = k then x else w.1 i b
  by_cases hb : b = k
  · rw [if_pos ⟨rfl, hb⟩, if_pos hb]
  · rw [if_neg (fun q => hb q.2), if_neg hb]
theorem oth_I (w : Wd) (i k : Nat) (x : Int32) (j : Nat) (h : j ≠ i) : (upI w i k x).1 j = w.1 j ∧ (upI w i k x).2 j = w.2 j := ⟨by funext b; show (if j = i ∧ b = k then x else w.1 j b) = w.1 j b; rw [if_neg (fun q => h q.1)], rfl⟩
theorem row_J (w : Wd) (i k : Nat) (x : Int64) : (upJ w i k x).2 i = vp_updL (w.2 i) k x := by
  funext b; show (if i = i ∧ b = k then x else w.2 i b) = if b = k then x else w.2 i b
  by_cases hb : b = k
  · rw [if_pos ⟨rfl, hb⟩, if_pos hb]
  · rw [if_neg (fun q => hb q.2), if_neg hb]
theorem oth_J (w : Wd) (i k : Nat) (x : Int64) (j : Nat) (h : j ≠ i) : (upJ w i k x).1 j = w.1 j ∧ (upJ w i k x).2 j = w.2 j := ⟨rfl, by funext b; show (if j = i ∧ b = k then x else w.2 j b) = w.2 j b; rw [if_neg (fun q => h q.1)]⟩
theorem row_A (w : Wd) (i : Nat) (f : Nat → Int32) : (upA w i f).1 i = f := if_pos rfl
theorem oth_A (w : Wd) (i : Nat) (f : Nat → Int32) (j : Nat) (h : j ≠ i) : (upA w i f).1 j = w.1 j ∧ (upA w i f).2 j = w.2 j := ⟨if_neg h, rfl⟩
theorem row_B (w : Wd) (i : Nat) (f : Nat → Int64) : (upB w i f).2 i = f := if_pos rfl
theorem oth_B (w : Wd) (i : Nat) (f : Nat → Int64) (j : Nat) (h : j ≠ i) : (upB w i f).1 j = w.1 j ∧ (upB w i f).2 j = w.2 j := ⟨rfl, if_neg h⟩
theorem r_put (F : Fx Z own cc nL FR LO) {ty : FieldType} {fs : List Value} {z : Value} (d : decode cc pc = .ok (.putfield idx, 3)) (fl : FL own idx ci k) (fp : FP ci k ty) (hi : i < 68) (hc : cell (zg Z) i (w.1 i) (w.2 i) = .inr (ci, fs)) (hlen : k < fs.length) (hn : narrow ty z = z) (hf : fits ty z = true) (hs : cell (zg Z) i (w1.1 i) (w1.2 i) = .inr (ci, fs.set k z)) (ho : ∀ j, j ≠ i → w1.1 j = w.1 j ∧ w1.2 j = w.2 j) (kk : V Z (pc + 3) ls st w1) : V Z pc ls (z :: .ref ((zg Z).1 i) :: st) w := fun H locs la h1 h2 h3 => by
  obtain ⟨C, T, N, e1, e2, e3, e4⟩ := fl
  obtain ⟨C', T', N', ty0, f1, f2, f3, f4, f5⟩ := fp
  rw [e1] at f1
  cases f1
  refine va_put F.1 F.2.1 F.ts e3 ty0 f3 f4 F.ow F.K h2 (F.D w) h3 i (by rw [ws_get (zg Z) w hi, hc]) e1 k e2 (F.ts _ e4) (fun _ h9 => h9) f2 f5 hn hf hlen d (fun H1 locs1 hP hD hS => ?_)
  rw [ws_set (zg Z) w w1 hi hs ho] at hP
  exact kk H1 locs1 la h1 hP hS
theorem r_putI (F : Fx Z own cc nL FR LO) {ty : FieldType} {fs : (Nat → Int32) → (Nat → Int64) → List Value} (d : decode cc pc = .ok (.putfield idx, 3)) (fl : FL own idx ci k) (fp : FP ci k ty) (hi : i < 68) (hc : ∀ f h, cell (zg Z) i f h = .inr (ci, fs f h)) (hlen : k < (fs (w.1 i) (w.2 i)).length) (hs : fs (upd (w.1 i) k x) (w.2 i) = (fs (w.1 i) (w.2 i)).set k (.int x)) (hn : narrow ty (.int x) = .int x) (hf : fits ty (.int x) = true) (hw : w1 = upI w i k x) (kk : V Z (pc + 3) ls st w1) : V Z pc ls (.int x :: .ref ((zg Z).1 i) :: st) w := by
  subst hw
  exact r_put F d fl fp hi (hc _ _) hlen hn hf (by rw [row_I, hc]; exact congrArg _ (congrArg _ hs)) (oth_I w i k x) kk
theorem r_putJ (F : Fx Z own cc nL FR LO) {fs : (Nat → Int32) → (Nat → Int64) → List Value} (d : decode cc pc = .ok (.putfield idx, 3)) (fl : FL own idx ci k) (fp : FP ci k .long) (hi : i < 68) (hc : ∀ f h, cell (zg Z) i f h = .inr (ci, fs f h)) (hlen : k < (fs (w.1 i) (w.2 i)).length) (hs : fs (w.1 i) (vp_updL (w.2 i) k u) = (fs (w.1 i) (w.2 i)).set k (.long u)) (hw : w1 = upJ w i k u) (kk : V Z (pc + 3) ls st w1) : V Z pc ls (.long u :: .ref ((zg Z).1 i) :: st) w := by
  subst hw
  exact r_put F d fl fp hi (hc _ _) hlen rfl rfl (by rw [row_J, hc]; exact congrArg _ (congrArg _ hs)) (oth_J w i k u) kk
theorem r_iald (F : Fx Z own cc nL FR LO) (d : decode cc pc = .ok (.iaload, 1)) (hi : i < 68) (ca : ∀ f h, cell (zg Z) i f h = .inl ((zg Z).2.1.1, n, .inl f)) (hx : ib x n = true) (hj : x.toNatClampNeg = j) (kk : V Z (pc + 1) ls (.int (w.1 i j) :: st) w) : V Z pc ls (.int x :: .ref ((zg Z).1 i) :: st) w := fun H locs la h1 h2 h3 => by
  subst hj
  exact va_iald F.1 F.2.1 F.K h2 i 0 (f := w.1 i) (by rw [ws_get (zg Z) w hi, ca]) rfl (ib_in hx) d (kk H locs la h1 h2 h3)
theorem r_lald (F : Fx Z own cc nL FR LO) (d : decode cc pc = .ok (.laload, 1)) (hi : i < 68) (ca : ∀ f h, cell (zg Z) i f h = .inl ((zg Z).2.1.2, n, .inr (.inl h))) (hx : ib x n = true) (hj : x.toNatClampNeg = j) (kk : V Z (pc + 1) ls (.long (w.2 i j) :: st) w) : V Z pc ls (.int x :: .ref ((zg Z).1 i) :: st) w := fun H locs la h1 h2 h3 => by
  subst hj
  exact va_lald F.1 F.2.1 F.K h2 i 1 (f := w.2 i) (by rw [ws_get (zg Z) w hi, ca]) rfl (ib_in hx) d (kk H locs la h1 h2 h3)
theorem r_iast (F : Fx Z own cc nL FR LO) (d : decode cc pc = .ok (.iastore, 1)) (hi : i < 68) (ca : ∀ f h, cell (zg Z) i f h = .inl ((zg Z).2.1.1, n, .inl f)) (hx : ib x n = true) (hj : x.toNatClampNeg = j) (hw : w1 = upI w i j y) (kk : V Z (pc + 1) ls st w1) : V Z pc ls (.int y :: .int x :: .ref ((zg Z).1 i) :: st) w := fun H locs la h1 h2 h3 => by
  subst hj; subst hw
  refine va_iast F.1 F.2.1 F.K h2 (F.D w) h3 i 0 (f := w.1 i) (by rw [ws_get (zg Z) w hi, ca]) rfl (ib_in hx) d (fun H1 locs1 hP hD hS => ?_)
  rw [ws_set (zg Z) w (upI w i x.toNatClampNeg y) hi (by rw [row_I, ca]) (oth_I w i _ y)] at hP
  exact kk H1 locs1 la h1 hP hS
theorem r_last (F : Fx Z own cc nL FR LO) (d : decode cc pc = .ok (.lastore, 1)) (hi : i < 68) (ca : ∀ f h, cell (zg Z) i f h = .inl ((zg Z).2.1.2, n, .inr (.inl h))) (hx : ib x n = true) (hj : x.toNatClampNeg = j) (hw : w1 = upJ w i j u) (kk : V Z (pc + 1) ls st w1) : V Z pc ls (.long u :: .int x :: .ref ((zg Z).1 i) :: st) w := fun H locs la h1 h2 h3 => by
  subst hj; subst hw
  refine va_last F.1 F.2.1 F.K h2 (F.D w) h3 i 1 (f := w.2 i) (by rw [ws_get (zg Z) w hi, ca]) rfl (ib_in hx) d (fun H1 locs1 hP hD hS => ?_)
  rw [ws_set (zg Z) w (upJ w i x.toNatClampNeg u) hi (by rw [row_J, ca]) (oth_J w i _ u)] at hP
  exact kk H1 locs1 la h1 hP hS
theorem r_alen (F : Fx Z own cc nL FR LO) (d : decode cc pc = .ok (.arraylength, 1)) (hi : i < 68) (ca : ∀ f h, cell (zg Z) i f h = .inl ((zg Z).2.1.1, n, .inl f)) (hn : Int32.ofNat n = x) (kk : V Z (pc + 1) ls (.int x :: st) w) : V Z pc ls (.ref ((zg Z).1 i) :: st) w := fun H locs la h1 h2 h3 =>
  va_alen F.1 F.2.1 F.K h2 i 0 (x := (n, .inl (w.1 i))) (by rw [ws_get (zg Z) w hi, ca]) (ty := .int) rfl hn d (kk H locs la h1 h2 h3)
/-- the two static rows -/
theorem r_gcov (F : Fx Z "LitAgain$Company" cc nL FR LO) (d : decode cc pc = .ok (.getstatic 74, 3)) (kk : V Z (pc + 3) ls (.ref (zg Z).2.2.2.1 :: st) w) : V Z pc ls st w := fun H locs la h1 h2 h3 =>
  va_getsN F.1 F.2.1 F.S.1 h3 F.ow (va_Nw.use rfl (F.N.2 ("LitAgain$Company", 74, "LitAgain", "COVER", "[I", "LitAgain") List.mem_cons_self)) (fun _ h9 => h9) d (kk H locs la h1 h2 h3)
theorem r_ggiv (F : Fx Z "LitAgain$Company" cc nL FR LO) (d : decode cc pc = .ok (.getstatic 89, 3)) (kk : V Z (pc + 3) ls (.ref (zg Z).2.2.2.2 :: st) w) : V Z pc ls st w := fun H locs la h1 h2 h3 =>
  va_getsN F.1 F.2.1 F.S.2.1 h3 F.ow (va_Nw.use rfl (F.N.2 ("LitAgain$Company", 89, "LitAgain", "GIVES", "[I", "LitAgain") (List.mem_cons_of_mem _ List.mem_cons_self))) (fun _ h9 => h9) d (kk H locs la h1 h2 h3)
theorem st_at {A : Nat → Prop} {H0 H : Heap} {locs : List Loc} {a : Nat} {c : Cell} (h : va_S A H0 H locs) (h0 : H0[a]? = some c) (ha : ¬ A a) : H[a]? = some c := (h.2.1 a (Array.getElem?_eq_some_iff.mp h0).1 ha).trans h0
theorem r_scov (F : Fx Z own cc nL FR LO) (d : decode cc pc = .ok (.iaload, 1)) (hx : ib x 7 = true) (kk : V Z (pc + 1) ls (.int (covF x.toNatClampNeg) :: st) w) : V Z pc ls (.int x :: .ref (zg Z).2.2.2.1 :: st) w := fun H locs la h1 h2 h3 =>
  va_ti F.1 F.2.1 F.S.2.2.1 h3 (ib_in hx) rfl d (kk H locs la h1 h2 h3)
theorem r_sgiv (F : Fx Z own cc nL FR LO) (d : decode cc pc = .ok (.iaload, 1)) (hx : ib x 7 = true) (kk : V Z (pc + 1) ls (.int (givF x.toNatClampNeg) :: st) w) : V Z pc ls (.int x :: .ref (zg Z).2.2.2.2 :: st) w := fun H locs la h1 h2 h3 =>
  va_ti F.1 F.2.1 F.S.2.2.2 h3 (ib_in hx) rfl d (kk H locs la h1 h2 h3)
/-- Math.max, Math.min, System.arraycopy -/
def jmax (x y : Int32) : Int32 := if x < y then y else x
def jmin (x y : Int32) : Int32 := if y < x then y else x
def jmaxL (x y : Int64) : Int64 := if y < x then x else y
theorem r_max (F : Fx Z own cc nL FR LO) (d : decode cc pc = .ok (.invokestatic idx, 3)) (hl : Cond.methodLink own idx Lib.Math.max.name ∈ gtbl) (h2 : Cond.static Lib.Math.max.name ∈ gtbl) (h3 : Cond.initialized "java/lang/Math" ∈ gtbl) (h4 : Cond.code Lib.Math.max.name Lib.Math.max.code 2 (some .int) ∈ gtbl) (hf : 1 ≤ FR) (ho : (st.map fun v => v.category).sum + 13 ≤ LO) (kk : V Z (pc + 3) ls (.int (jmax x y) :: st) w) : V Z pc ls (.int y :: .int x :: st) w := fun H locs la g1 g2 g3 =>
  va_mmax F.1 F.2.1 (F.2.2.1.trans (g1.1.trans F.2.2.2.1).symm) F.ow (F.ts _ hl) (F.ts _ h2) (F.ts _ h3) (F.ts _ h4) (by rw [F.fr]; exact hf) (by rw [F.lo]; exact ho) F.rm.1 F.rm.2 d (kk H locs la g1 g2 g3)
theorem r_min (F : Fx Z own cc nL FR LO) (d : decode cc pc = .ok (.invokestatic idx, 3)) (hl : Cond.methodLink own idx Lib.Math.min.name ∈ gtbl) (h2 : Cond.static Lib.Math.min.name ∈ gtbl) (h3 : Cond.initialized "java/lang/Math" ∈ gtbl) (h4 : Cond.code Lib.Math.min.name Lib.Math.min.code 2 (some .int) ∈ gtbl) (hf : 1 ≤ FR) (ho : (st.map fun v => v.category).sum + 13 ≤ LO) (kk : V Z (pc + 3) ls (.int (jmin x y) :: st) w) : V Z pc ls (.int y :: .int x :: st) w := fun H locs la g1 g2 g3 =>
  va_mmin F.1 F.2.1 (F.2.2.1.trans (g1.1.trans F.2.2.2.1).symm) F.ow (F.ts _ hl) (F.ts _ h2) (F.ts _ h3) (F.ts _ h4) (by rw [F.fr]; exact hf) (by rw [F.lo]; exact ho) F.rm.1 F.rm.2 d (kk H locs la g1 g2 g3)
theorem r_maxL (F : Fx Z own cc nL FR LO) (d : decode cc pc = .ok (.invokestatic idx, 3)) (hl : Cond.methodLink own idx Lib.MathLoose.max_long.x ∈ gtbl) (h2 : Cond.static Lib.MathLoose.max_long.x ∈ gtbl) (h3 : Cond.initialized "java/lang/Math" ∈ gtbl) (h4 : Cond.code Lib.MathLoose.max_long.x Lib.MathLoose.max_long.code 4 (some .long) ∈ gtbl) (hf : 1 ≤ FR) (ho : (st.map fun v => v.category).sum + 15 ≤ LO) (kk : V Z (pc + 3) ls (.long (jmaxL u v) :: st) w) : V Z pc ls (.long v :: .long u :: st) w := fun H locs la g1 g2 g3 =>
  va_mmax_long F.1 F.2.1 (F.2.2.1.trans (g1.1.trans F.2.2.2.1).symm) F.ow (F.ts _ hl) (F.ts _ h2) (F.ts _ h3) (F.ts _ h4) (by rw [F.fr]; exact hf) (by rw [F.lo]; exact ho) F.rm.1 F.rm.2 d (kk H locs la g1 g2 g3)
theorem r_acpI (F : Fx Z own cc nL FR LO) (d : decode cc pc = .ok (.invokestatic idx, 3)) (hl : Cond.methodLink own idx arraycopyName ∈ gtbl) (h4 : Cond.native arraycopyName ∈ gtbl) (h2 : Cond.static arraycopyName ∈ gtbl) (h3 : Cond.initialized "java/lang/System" ∈ gtbl) {i2 n2 : Nat} {sp dp : Int32} {c : Nat} (hi : i < 68) (ca : ∀ f h, cell (zg Z) i f h = .inl ((zg Z).2.1.1, n, .inl f)) (hi2 : i2 < 68) (ca2 : ∀ f h, cell (zg Z) i2 f h = .inl ((zg Z).2.1.1, n2, .inl f)) (hsp : sp = 0) (hdp : dp = 0) (hx : ¬ x < 0) (hc : x.toNatClampNeg = c) (hn : c ≤ n) (hn2 : c ≤ n2) (hf : 1 ≤ FR) (ho : (st.map fun v => v.category).sum + (nativeFrameWords "java/lang/System" "arraycopy" 5 + 11) ≤ LO) (hw : w1 = upA w i2 (va_cpy (w.1 i) (w.1 i2) 0 0 c)) (kk : V Z (pc + 3) ls st w1) : V Z pc ls (.int x :: .int dp :: .ref ((zg Z).1 i2) :: .int sp :: .ref ((zg Z).1 i) :: st) w := fun H locs la g1 g2 g3 => by
  subst hc; subst hw; subst hsp; subst hdp
  refine va_copyi F.1 F.2.1 (F.2.2.1.trans (g1.1.trans F.2.2.2.1).symm) F.ow (F.ts _ hl) (F.ts _ h4) (F.ts _ h2) (F.ts _ h3) F.K g2 (F.D w) g3 i i2 0 0 (f := w.1 i) (g := w.1 i2) (by rw [ws_get (zg Z) w hi, ca]) (by rw [ws_get (zg Z) w hi2, ca2]) rfl rfl rfl (by decide) (by decide) hx (by rw [show (0 : Int32).toNatClampNeg = 0 from rfl, Nat.zero_add]; exact hn) (by rw [show (0 : Int32).toNatClampNeg = 0 from rfl, Nat.zero_add]; exact hn2) (fun _ _ => rfl) (by rw [F.fr]; exact hf) (by rw [F.lo]; exact ho) d (fun H1 locs1 hP hD hS => ?_)
  rw [show (0 : Int32).toNatClampNeg = 0 from rfl, ws_set (zg Z) w (upA w i2 (va_cpy (w.1 i) (w.1 i2) 0 0 x.toNatClampNeg)) hi2 (by rw [row_A, ca2]) (oth_A w i2 _)] at hP
  exact kk H1 locs1 la g1 hP hS
theorem r_acpJ (F : Fx Z own cc nL FR LO) (d : decode cc pc = .ok (.invokestatic idx, 3)) (hl : Cond.methodLink own idx arraycopyName ∈ gtbl) (h4 : Cond.native arraycopyName ∈ gtbl) (h2 : Cond.static arraycopyName ∈ gtbl) (h3 : Cond.initialized "java/lang/System" ∈ gtbl) {i2 n2 : Nat} {sp dp : Int32} {c : Nat} (hi : i < 68) (ca : ∀ f h, cell (zg Z) i f h = .inl ((zg Z).2.1.2, n, .inr (.inl h))) (hi2 : i2 < 68) (ca2 : ∀ f h, cell (zg Z) i2 f h = .inl ((zg Z).2.1.2, n2, .inr (.inl h))) (hsp : sp = 0) (hdp : dp = 0) (hx : ¬ x < 0) (hc : x.toNatClampNeg = c) (hn : c ≤ n) (hn2 : c ≤ n2) (hf : 1 ≤ FR) (ho : (st.map fun v => v.category).sum + (nativeFrameWords "java/lang/System" "arraycopy" 5 + 11) ≤ LO) (hw : w1 = upB w i2 (va_cpy (w.2 i) (w.2 i2) 0 0 c)) (kk : V Z (pc + 3) ls st w1) : V Z pc ls (.int x :: .int dp :: .ref ((zg Z).1 i2) :: .int sp :: .ref ((zg Z).1 i) :: st) w := fun H locs la g1 g2 g3 => by
  subst hc; subst hw; subst hsp; subst hdp
  refine va_copyl F.1 F.2.1 (F.2.2.1.trans (g1.1.trans F.2.2.2.1).symm) F.ow (F.ts _ hl) (F.ts _ h4) (F.ts _ h2) (F.ts _ h3) F.K g2 (F.D w) g3 i i2 1 1 (f := w.2 i) (g := w.2 i2) (by rw [ws_get (zg Z) w hi, ca]) (by rw [ws_get (zg Z) w hi2, ca2]) rfl rfl rfl (by decide) (by decide) hx (by rw [show (0 : Int32).toNatClampNeg = 0 from rfl, Nat.zero_add]; exact hn) (by rw [show (0 : Int32).toNatClampNeg = 0 from rfl, Nat.zero_add]; exact hn2) (fun _ _ => rfl) (by rw [F.fr]; exact hf) (by rw [F.lo]; exact ho) d (fun H1 locs1 hP hD hS => ?_)
  rw [show (0 : Int32).toNatClampNeg = 0 from rfl, ws_set (zg Z) w (upB w i2 (va_cpy (w.2 i) (w.2 i2) 0 0 x.toNatClampNeg)) hi2 (by rw [row_B, ca2]) (oth_B w i2 _)] at hP
  exact kk H1 locs1 la g1 hP hS
/-- what a call needs of the caller's side -/
theorem A1_A0 (F : Fx Z own cc nL FR LO) {H : Heap} {locs : List Loc} (h3 : va_S (zA Z) (zs Z).heap H locs) : ∀ q, va_A (ws (zg Z) w) H.size q → zA Z q := by
  intro q h
  rcases h with ⟨k, e, h⟩ | h
  · exact (F.D w).2 k (q, e) h
  · exact F.A q (Nat.le_trans h3.1 h)
theorem pre_call (F : Fx Z own cc nL FR LO) {H : Heap} {locs : List Loc} (h2 : va_P (zg Z).2.2.1 vwCl (ws (zg Z) w) H) (h3 : va_S (zA Z) (zs Z).heap H locs) {U : State} (hU : U.heap = H) (hW : (zs Z).WarmedH U.vm) : Pre (zg Z) w H.size U := by
  obtain ⟨z1, z2, z3, z4⟩ := F.S
  have hA := A1_A0 (w := w) F h3
  have kz : ∀ {C n d : String} {z : Value}, va_Z C n d z (zA Z) (zs Z) (zs Z).heap → va_Z C n d z (va_A (ws (zg Z) w) H.size) U U.heap := fun h => by
    rw [hU]
    exact va_Z.narrow (va_Z.kept (va_Z.moved hW.alike h) (fun a h1 h2 => h3.2.1 a h1 h2)) (fun q hq => hA q hq)
  have kt : ∀ {t N : Nat} {f : Nat → Value}, va_T .int t N f (zA Z) (zs Z) (zs Z).heap → va_T .int t N f (va_A (ws (zg Z) w) H.size) U U.heap := fun h => by
    rw [hU]
    exact va_T.narrow (va_T.kept (va_T.moved hW.alike h) (fun a h1 h2 => h3.2.1 a h1 h2)) (fun q hq => hA q hq)
  exact ⟨by rw [hU], by rw [hU]; exact h2, va_K.moved hW.alike F.K, (F.D w).weaken (fun _ _ _ _ => trivial), NW.warm hW F.N, kz z1, kz z2, kt z3, kt z4⟩
theorem cw_V (F : Fx Z own cc nL FR LO) {y : MethodName} {bs : ByteArray} {mL fr lo na cr : Nat} {ret : Option FieldType} (ml : MLV own idx y bs mL ret na cr) (hfr : fr + 1 ≤ FR) (hlo : 8 + (mL + 11) + lo ≤ LO) : CallW (zR Z) (zs Z) (za Z) own y.cls idx y bs mL ret (Cond.code y bs mL ret :: gtbl) { frames := fr, cells := 0, slots := 0, locals := lo } 0 0 na := by
  obtain ⟨-, m1, m2, m3, m4, m5, m6⟩ := ml
  refine cwV na F.ts (goodIn_g (fun w hw => ?_)) rfl rfl rfl m6 ⟨by rw [F.fr]; exact hfr, by rw [F.lo]; exact hlo⟩
  rcases List.mem_append.mp hw with h | h
  · rcases List.mem_cons.mp h with rfl | h
    · exact m1
    · rcases List.mem_cons.mp h with rfl | h
      · exact m2
      · rcases List.mem_cons.mp h with rfl | h
        · exact m3
        · rcases List.mem_cons.mp h with rfl | h
          · exact m4
          · cases h
  · rcases List.mem_cons.mp h with rfl | h
    · exact m5
    · exact h
theorem cw_S (F : Fx Z own cc nL FR LO) {y : MethodName} {bs : ByteArray} {mL fr lo na : Nat} {ret : Option FieldType} (ml : MLS own idx y bs mL ret na) (hfr : fr + 1 ≤ FR) (hlo : 8 + (mL + 11) + lo ≤ LO) : CallB (zR Z) (zs Z) (za Z) own idx y bs mL ret (Cond.code y bs mL ret :: gtbl) { frames := fr, cells := 0, slots := 0, locals := lo } 0 0 na ∧ (Cond.static y).before (za Z) (zs Z) = true := by
  obtain ⟨m1, m2, m3, m4, m5⟩ := ml
  exact ⟨callB_of na F.ts (goodIn_g (fun w hw => (List.mem_cons.mp hw).elim (fun e => by rw [e]; exact m4) id)) rfl rfl rfl (F.ts _ m3) (F.ts _ m1) m5 ⟨by rw [F.fr]; exact hfr, by rw [F.lo]; exact hlo⟩, F.ts _ m2⟩
theorem cw_N (F : Fx Z own cc nL FR LO) {y : MethodName} {bs : ByteArray} {mL fr lo na : Nat} {ret : Option FieldType} {host : String} (ml : MLN own idx y bs mL ret na host) (hfr : fr + 1 ≤ FR) (hlo : 8 + (mL + 11) + lo ≤ LO) : va_CN (zR Z) (zs Z) (za Z) own idx y host bs mL ret (Cond.code y bs mL ret :: gtbl) { frames := fr, cells := 0, slots := 0, locals := lo } 0 0 na ∧ (Cond.static y).before (za Z) (zs Z) = true ∧ True := by
  obtain ⟨m1, m2, m3, m4, m5⟩ := ml
  exact ⟨va_cnB na F.ts (goodIn_g (fun w hw => (List.mem_cons.mp hw).elim (fun e => by rw [e]; exact m4) id)) rfl rfl rfl (F.N.1 _ m1) (F.ts _ m3) m5 ⟨by rw [F.fr]; exact hfr, by rw [F.lo]; exact hlo⟩, F.ts _ m2, trivial⟩
theorem r_Vi (F : Fx Z own cc nL FR LO) {y : MethodName} {bs : ByteArray} {mL fr lo na : Nat} {ret : Option FieldType} {As : List Value} {φ : Int32 → Wd → Prop} {fs : List Value} (d : decode cc pc = .ok (.invokevirtual idx, 3)) (ml : MLV own idx y bs mL ret na ci) (hM : CtI (zg Z) y bs mL ret fr lo (.ref ((zg Z).1 i) :: As) w φ) (hi : i < 68) (hc : cell (zg Z) i (w.1 i) (w.2 i) = .inr (ci, fs)) (hn : As.length = na) (hfr : fr + 1 ≤ FR) (hlo : 8 + (mL + 11) + lo ≤ LO) (hcat : (st.map fun v => v.category).sum ≤ 8) (kk : ∀ (r : Int32) (w1 : Wd), φ r w1 → V Z (pc + 3) ls (.int r :: st) w1) : V Z pc ls (As.reverse ++ .ref ((zg Z).1 i) :: st) w := fun H locs la h1 h2 h3 => by
  obtain ⟨T, N, hcl⟩ := ml.1
  exact va_calli (va_runV (As := As) (rest := st) F.fix (hM (zl Z) H.size) (cw_V F ml hfr hlo) ⟨Pre.blind, va_recv F.K h2 hcl (q0 := i) (by rw [ws_get (zg Z) w hi, hc]), fun U hU hW => ⟨rfl, pre_call F h2 h3 hU hW⟩⟩ rfl hn (h1.1.trans F.2.2.2.1) rfl (lv_room hcat) d F.rm) h3 (fun q _ h => A1_A0 F h3 q h) (A1_A0 F h3) (fun r u t H1 locs1 ht hvm hw hB hz1 hk1 hS => by have hB2 : va_P (zg Z).2.2.1 vwCl (ws (zg Z) u) t.heap := hB; rw [ht] at hB2; exact kk r u hw H1 locs1 la h1 hB2 hS)
theorem r_Si (F : Fx Z own cc nL FR LO) {y : MethodName} {bs : ByteArray} {mL fr lo na : Nat} {ret : Option FieldType} {As : List Value} {φ : Int32 → Wd → Prop} (d : decode cc pc = .ok (.invokestatic idx, 3)) (ml : MLS own idx y bs mL ret na) (hM : CtI (zg Z) y bs mL ret fr lo As w φ) (hn : As.length = na) (hfr : fr + 1 ≤ FR) (hlo : 8 + (mL + 11) + lo ≤ LO) (hcat : (st.map fun v => v.category).sum ≤ 8) (kk : ∀ (r : Int32) (w1 : Wd), φ r w1 → V Z (pc + 3) ls (.int r :: st) w1) : V Z pc ls (As.reverse ++ st) w := fun H locs la h1 h2 h3 =>
  va_calli (va_runS (As := As) (rest := st) F.fix (hM (zl Z) H.size) (cw_S F ml hfr hlo) ⟨Pre.blind, fun U hU hW => ⟨rfl, pre_call F h2 h3 hU hW⟩⟩ rfl hn (h1.1.trans F.2.2.2.1) rfl (lv_room hcat) d F.rm) h3 (fun q _ h => A1_A0 F h3 q h) (A1_A0 F h3) (fun r u t H1 locs1 ht hvm hw hB hz1 hk1 hS => by have hB2 : va_P (zg Z).2.2.1 vwCl (ws (zg Z) u) t.heap := hB; rw [ht] at hB2; exact kk r u hw H1 locs1 la h1 hB2 hS)
theorem r_Ni (F : Fx Z own cc nL FR LO) {y : MethodName} {bs : ByteArray} {mL fr lo na : Nat} {ret : Option FieldType} {host : String} {As : List Value} {φ : Int32 → Wd → Prop} (d : decode cc pc = .ok (.invokestatic idx, 3)) (ml : MLN own idx y bs mL ret na host) (hM : CtI (zg Z) y bs mL ret fr lo As w φ) (hn : As.length = na) (hfr : fr + 1 ≤ FR) (hlo : 8 + (mL + 11) + lo ≤ LO) (hcat : (st.map fun v => v.category).sum ≤ 8) (kk : ∀ (r : Int32) (w1 : Wd), φ r w1 → V Z (pc + 3) ls (.int r :: st) w1) : V Z pc ls (As.reverse ++ st) w := fun H locs la h1 h2 h3 =>
  va_calli (va_runSN (As := As) (rest := st) F.fix (hM (zl Z) H.size) (cw_N F ml hfr hlo) ⟨Pre.blind, fun U hU hW => ⟨rfl, pre_call F h2 h3 hU hW⟩⟩ rfl hn (h1.1.trans F.2.2.2.1) rfl (lv_room hcat) d F.rm) h3 (fun q _ h => A1_A0 F h3 q h) (A1_A0 F h3) (fun r u t H1 locs1 ht hvm hw hB hz1 hk1 hS => by have hB2 : va_P (zg Z).2.2.1 vwCl (ws (zg Z) u) t.heap := hB; rw [ht] at hB2; exact kk r u hw H1 locs1 la h1 hB2 hS)
theorem r_Vl (F : Fx Z own cc nL FR LO) {y : MethodName} {bs : ByteArray} {mL fr lo na : Nat} {ret : Option FieldType} {As : List Value} {φ : Int64 → Wd → Prop} {fs : List Value} (d : decode cc pc = .ok (.invokevirtual idx, 3)) (ml : MLV own idx y bs mL ret na ci) (hM : CtL (zg Z) y bs mL ret fr lo (.ref ((zg Z).1 i) :: As) w φ) (hi : i < 68) (hc : cell (zg Z) i (w.1 i) (w.2 i) = .inr (ci, fs)) (hn : As.length = na) (hfr : fr + 1 ≤ FR) (hlo : 8 + (mL + 11) + lo ≤ LO) (hcat : (st.map fun v => v.category).sum ≤ 8) (kk : ∀ (r : Int64) (w1 : Wd), φ r w1 → V Z (pc + 3) ls (.long r :: st) w1) : V Z pc ls (As.reverse ++ .ref ((zg Z).1 i) :: st) w := fun H locs la h1 h2 h3 => by
  obtain ⟨T, N, hcl⟩ := ml.1
  exact va_calll (va_runV (As := As) (rest := st) F.fix (hM (zl Z) H.size) (cw_V F ml hfr hlo) ⟨Pre.blind, va_recv F.K h2 hcl (q0 := i) (by rw [ws_get (zg Z) w hi, hc]), fun U hU hW => ⟨rfl, pre_call F h2 h3 hU hW⟩⟩ rfl hn (h1.1.trans F.2.2.2.1) rfl (lv_room hcat) d F.rm) h3 (fun q _ h => A1_A0 F h3 q h) (A1_A0 F h3) (fun r u t H1 locs1 ht hvm hw hB hz1 hk1 hS => by have hB2 : va_P (zg Z).2.2.1 vwCl (ws (zg Z) u) t.heap := hB; rw [ht] at hB2; exact kk r u hw H1 locs1 la h1 hB2 hS)
theorem r_Sl (F : Fx Z own cc nL FR LO) {y : MethodName} {bs : ByteArray} {mL fr lo na : Nat} {ret : Option FieldType} {As : List Value} {φ : Int64 → Wd → Prop} (d : decode cc pc = .ok (.invokestatic idx, 3)) (ml : MLS own idx y bs mL ret na) (hM : CtL (zg Z) y bs mL ret fr lo As w φ) (hn : As.length = na) (hfr : fr + 1 ≤ FR) (hlo : 8 + (mL + 11) + lo ≤ LO) (hcat : (st.map fun v => v.category).sum ≤ 8) (kk : ∀ (r : Int64) (w1 : Wd), φ r w1 → V Z (pc + 3) ls (.long r :: st) w1) : V Z pc ls (As.reverse ++ st) w := fun H locs la h1 h2 h3 =>
  va_calll (va_runS (As := As) (rest := st) F.fix (hM (zl Z) H.size) (cw_S F ml hfr hlo) ⟨Pre.blind, fun U hU hW => ⟨rfl, pre_call F h2 h3 hU hW⟩⟩ rfl hn (h1.1.trans F.2.2.2.1) rfl (lv_room hcat) d F.rm) h3 (fun q _ h => A1_A0 F h3 q h) (A1_A0 F h3) (fun r u t H1 locs1 ht hvm hw hB hz1 hk1 hS => by have hB2 : va_P (zg Z).2.2.1 vwCl (ws (zg Z) u) t.heap := hB; rw [ht] at hB2; exact kk r u hw H1 locs1 la h1 hB2 hS)
theorem r_Nl (F : Fx Z own cc nL FR LO) {y : MethodName} {bs : ByteArray} {mL fr lo na : Nat} {ret : Option FieldType} {host : String} {As : List Value} {φ : Int64 → Wd → Prop} (d : decode cc pc = .ok (.invokestatic idx, 3)) (ml : MLN own idx y bs mL ret na host) (hM : CtL (zg Z) y bs mL ret fr lo As w φ) (hn : As.length = na) (hfr : fr + 1 ≤ FR) (hlo : 8 + (mL + 11) + lo ≤ LO) (hcat : (st.map fun v => v.category).sum ≤ 8) (kk : ∀ (r : Int64) (w1 : Wd), φ r w1 → V Z (pc + 3) ls (.long r :: st) w1) : V Z pc ls (As.reverse ++ st) w := fun H locs la h1 h2 h3 =>
  va_calll (va_runSN (As := As) (rest := st) F.fix (hM (zl Z) H.size) (cw_N F ml hfr hlo) ⟨Pre.blind, fun U hU hW => ⟨rfl, pre_call F h2 h3 hU hW⟩⟩ rfl hn (h1.1.trans F.2.2.2.1) rfl (lv_room hcat) d F.rm) h3 (fun q _ h => A1_A0 F h3 q h) (A1_A0 F h3) (fun r u t H1 locs1 ht hvm hw hB hz1 hk1 hS => by have hB2 : va_P (zg Z).2.2.1 vwCl (ws (zg Z) u) t.heap := hB; rw [ht] at hB2; exact kk r u hw H1 locs1 la h1 hB2 hS)
theorem r_Vv (F : Fx Z own cc nL FR LO) {y : MethodName} {bs : ByteArray} {mL fr lo na : Nat} {ret : Option FieldType} {As : List Value} {φ : Wd → Prop} {fs : List Value} (d : decode cc pc = .ok (.invokevirtual idx, 3)) (ml : MLV own idx y bs mL ret na ci) (hM : CtV (zg Z) y bs mL ret fr lo (.ref ((zg Z).1 i) :: As) w φ) (hi : i < 68) (hc : cell (zg Z) i (w.1 i) (w.2 i) = .inr (ci, fs)) (hn : As.length = na) (hfr : fr + 1 ≤ FR) (hlo : 8 + (mL + 11) + lo ≤ LO) (hcat : (st.map fun v => v.category).sum ≤ 8) (kk : ∀ (w1 : Wd), φ w1 → V Z (pc + 3) ls st w1) : V Z pc ls (As.reverse ++ .ref ((zg Z).1 i) :: st) w := fun H locs la h1 h2 h3 => by
  obtain ⟨T, N, hcl⟩ := ml.1
  exact va_callv (va_runV (As := As) (rest := st) F.fix (hM (zl Z) H.size) (cw_V F ml hfr hlo) ⟨Pre.blind, va_recv F.K h2 hcl (q0 := i) (by rw [ws_get (zg Z) w hi, hc]), fun U hU hW => ⟨rfl, pre_call F h2 h3 hU hW⟩⟩ rfl hn (h1.1.trans F.2.2.2.1) rfl (lv_room hcat) d F.rm) h3 (fun q _ h => A1_A0 F h3 q h) (A1_A0 F h3) (fun u t H1 locs1 ht hvm hw hB hz1 hk1 hS => by have hB2 : va_P (zg Z).2.2.1 vwCl (ws (zg Z) u) t.heap := hB; rw [ht] at hB2; exact kk u hw H1 locs1 la h1 hB2 hS)
theorem r_Sv (F : Fx Z own cc nL FR LO) {y : MethodName} {bs : ByteArray} {mL fr lo na : Nat} {ret : Option FieldType} {As : List Value} {φ : Wd → Prop} (d : decode cc pc = .ok (.invokestatic idx, 3)) (ml : MLS own idx y bs mL ret na) (hM : CtV (zg Z) y bs mL ret fr lo As w φ) (hn : As.length = na) (hfr : fr + 1 ≤ FR) (hlo : 8 + (mL + 11) + lo ≤ LO) (hcat : (st.map fun v => v.category).sum ≤ 8) (kk : ∀ (w1 : Wd), φ w1 → V Z (pc + 3) ls st w1) : V Z pc ls (As.reverse ++ st) w := fun H locs la h1 h2 h3 =>
  va_callv (va_runS (As := As) (rest := st) F.fix (hM (zl Z) H.size) (cw_S F ml hfr hlo) ⟨Pre.blind, fun U hU hW => ⟨rfl, pre_call F h2 h3 hU hW⟩⟩ rfl hn (h1.1.trans F.2.2.2.1) rfl (lv_room hcat) d F.rm) h3 (fun q _ h => A1_A0 F h3 q h) (A1_A0 F h3) (fun u t H1 locs1 ht hvm hw hB hz1 hk1 hS => by have hB2 : va_P (zg Z).2.2.1 vwCl (ws (zg Z) u) t.heap := hB; rw [ht] at hB2; exact kk u hw H1 locs1 la h1 hB2 hS)
theorem r_Nv (F : Fx Z own cc nL FR LO) {y : MethodName} {bs : ByteArray} {mL fr lo na : Nat} {ret : Option FieldType} {host : String} {As : List Value} {φ : Wd → Prop} (d : decode cc pc = .ok (.invokestatic idx, 3)) (ml : MLN own idx y bs mL ret na host) (hM : CtV (zg Z) y bs mL ret fr lo As w φ) (hn : As.length = na) (hfr : fr + 1 ≤ FR) (hlo : 8 + (mL + 11) + lo ≤ LO) (hcat : (st.map fun v => v.category).sum ≤ 8) (kk : ∀ (w1 : Wd), φ w1 → V Z (pc + 3) ls st w1) : V Z pc ls (As.reverse ++ st) w := fun H locs la h1 h2 h3 =>
  va_callv (va_runSN (As := As) (rest := st) F.fix (hM (zl Z) H.size) (cw_N F ml hfr hlo) ⟨Pre.blind, fun U hU hW => ⟨rfl, pre_call F h2 h3 hU hW⟩⟩ rfl hn (h1.1.trans F.2.2.2.1) rfl (lv_room hcat) d F.rm) h3 (fun q _ h => A1_A0 F h3 q h) (A1_A0 F h3) (fun u t H1 locs1 ht hvm hw hB hz1 hk1 hS => by have hB2 : va_P (zg Z).2.2.1 vwCl (ws (zg Z) u) t.heap := hB; rw [ht] at hB2; exact kk u hw H1 locs1 la h1 hB2 hS)
end
theorem CtI_of (ty : FieldType) {g : GT} {y : MethodName} {bs : ByteArray} {mL fr lo : Nat} {As : List Value} {w : Wd} {φ : Int32 → Wd → Prop} (hy : plainName y.cls = true) (hl : (lg_sl As).length ≤ mL) (body : ∀ Z : ZT, zg Z = g → Fx Z y.cls bs mL fr lo → (∀ (pc : Nat) (ls : List (Nat × Value)) (x : Int32) (w1 : Wd), decode bs pc = .ok (.ireturn, 1) → narrow ty (.int x) = .int x → φ x w1 → V Z pc ls [.int x] w1) → V Z 0 (lv_args 0 As) [] w) : CtI g y bs mL (some ty) fr lo As w φ := by
  intro l sz
  refine Met.ofW (cc := bs) (maxL := mL) (ret := some ty) hy rfl ?_
  intro p e s m args below meth c s₁ B hml hv
  obtain ⟨rfl, hsz, hP, hK, hD0, hN, hS0⟩ := hv
  have hx := B.exec
  have hb := B.bytes
  have hr := B.returns
  have hts := atoms_spec (ws := Cond.code y bs mL (some ty) :: gtbl) B.pre
  have hown : s.vm.findClass y.cls = some m.cls := findClass_of_methodNamed B.named
  have hlk := B.notSynchronized
  subst hsz
  have hD := hD0.self (sz := s.heap.size)
  have hlv := lv_entry As hl
  rw [lg_entry_eq]
  exact body (p, l, e, { frames := fr, cells := 0, slots := 0, locals := lo }, s, m, As.toArray, below, meth, c, g, va_A (ws g w) s.heap.size, (mL, 0, 0), MQ below (va_Qi φ (Bw g) (va_A (ws g w) s.heap.size)) As.toArray s 0 0 (va_A (ws g w) s.heap.size)) rfl
    ⟨hx, hb, hml, rfl, hown, fun w hw => hts w (List.mem_cons_of_mem _ hw), rfl, rfl, ⟨Nat.le_refl _, Nat.le_refl _⟩, hK, fun w1 => ws_D w1 hD, fun q h => Or.inr h, hN, hS0⟩
    (fun pc ls x w1 d hn hφ H locs la h1 h2 h3 => W.zret hx hb hr hn (fun t ht hW => ⟨⟨x, w1, rfl, hφ, by show va_P g.2.2.1 vwCl (ws g w1) t.heap; rw [ht]; exact h2⟩, h3.F ht⟩) h3.2.2 d hlk)
    s.heap [] _ hlv hP va_S.rf
theorem CtL_of {g : GT} {y : MethodName} {bs : ByteArray} {mL fr lo : Nat} {As : List Value} {w : Wd} {φ : Int64 → Wd → Prop} (hy : plainName y.cls = true) (hl : (lg_sl As).length ≤ mL) (body : ∀ Z : ZT, zg Z = g → Fx Z y.cls bs mL fr lo → (∀ (pc : Nat) (ls : List (Nat × Value)) (x : Int64) (w1 : Wd), decode bs pc = .ok (.lreturn, 1) → φ x w1 → V Z pc ls [.long x] w1) → V Z 0 (lv_args 0 As) [] w) : CtL g y bs mL (some .long) fr lo As w φ := by
  intro l sz
  refine Met.ofW (cc := bs) (maxL := mL) (ret := some .long) hy rfl ?_
  intro p e s m args below meth c s₁ B hml hv
  obtain ⟨rfl, hsz, hP, hK, hD0, hN, hS0⟩ := hv
  have hx := B.exec
  have hb := B.bytes
  have hr := B.returns
  have hts := atoms_spec (ws := Cond.code y bs mL (some .long) :: gtbl) B.pre
  have hown : s.vm.findClass y.cls = some m.cls := findClass_of_methodNamed B.named
  have hlk := B.notSynchronized
  subst hsz
  have hD := hD0.self (sz := s.heap.size)
  have hlv := lv_entry As hl
  rw [lg_entry_eq]
  exact body (p, l, e, { frames := fr, cells := 0, slots := 0, locals := lo }, s, m, As.toArray, below, meth, c, g, va_A (ws g w) s.heap.size, (mL, 0, 0), MQ below (va_Ql φ (Bw g) (va_A (ws g w) s.heap.size)) As.toArray s 0 0 (va_A (ws g w) s.heap.size)) rfl
    ⟨hx, hb, hml, rfl, hown, fun w hw => hts w (List.mem_cons_of_mem _ hw), rfl, rfl, ⟨Nat.le_refl _, Nat.le_refl _⟩, hK, fun w1 => ws_D w1 hD, fun q h => Or.inr h, hN, hS0⟩
    (fun pc ls x w1 d hφ H locs la h1 h2 h3 => W.lret hx hb hr (fun t ht hW => ⟨⟨x, w1, rfl, hφ, by show va_P g.2.2.1 vwCl (ws g w1) t.heap; rw [ht]; exact h2⟩, h3.F ht⟩) h3.2.2 d hlk)
    s.heap [] _ hlv hP va_S.rf
theorem CtV_of {g : GT} {y : MethodName} {bs : ByteArray} {mL fr lo : Nat} {As : List Value} {w : Wd} {φ : Wd → Prop} (hy : plainName y.cls = true) (hl : (lg_sl As).length ≤ mL) (body : ∀ Z : ZT, zg Z = g → Fx Z y.cls bs mL fr lo → (∀ (pc : Nat) (ls : List (Nat × Value)) (w1 : Wd), decode bs pc = .ok (.return_, 1) → φ w1 → V Z pc ls [] w1) → V Z 0 (lv_args 0 As) [] w) : CtV g y bs mL (none) fr lo As w φ := by
  intro l sz
  refine Met.ofW (cc := bs) (maxL := mL) (ret := none) hy rfl ?_
  intro p e s m args below meth c s₁ B hml hv
  obtain ⟨rfl, hsz, hP, hK, hD0, hN, hS0⟩ := hv
  have hx := B.exec
  have hb := B.bytes
  have hr := B.returns
  have hts := atoms_spec (ws := Cond.code y bs mL (none) :: gtbl) B.pre
  have hown : s.vm.findClass y.cls = some m.cls := findClass_of_methodNamed B.named
  have hlk := B.notSynchronized
  subst hsz
  have hD := hD0.self (sz := s.heap.size)
  have hlv := lv_entry As hl
  rw [lg_entry_eq]
  exact body (p, l, e, { frames := fr, cells := 0, slots := 0, locals := lo }, s, m, As.toArray, below, meth, c, g, va_A (ws g w) s.heap.size, (mL, 0, 0), MQ below (va_Qv φ (Bw g) (va_A (ws g w) s.heap.size)) As.toArray s 0 0 (va_A (ws g w) s.heap.size)) rfl
    ⟨hx, hb, hml, rfl, hown, fun w hw => hts w (List.mem_cons_of_mem _ hw), rfl, rfl, ⟨Nat.le_refl _, Nat.le_refl _⟩, hK, fun w1 => ws_D w1 hD, fun q h => Or.inr h, hN, hS0⟩
    (fun pc ls w1 d hφ H locs la h1 h2 h3 => W.vret hx hb hr (fun t ht hW => ⟨⟨w1, rfl, hφ, by show va_P g.2.2.1 vwCl (ws g w1) t.heap; rw [ht]; exact h2⟩, h3.F ht⟩) h3.2.2 d hlk)
    s.heap [] _ hlv hP va_S.rf

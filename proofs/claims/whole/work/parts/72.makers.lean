/-! makers: rows over a list of cells that grows -/
def zI : Nat → Int32 := fun _ => 0
def zJ : Nat → Int64 := fun _ => 0
def Bd (Z : ZT) (nc ns pc : Nat) (ls : List (Nat × Value)) (st : List Value) (X : va_W) : Prop := ∀ (H : Heap) (locs : List Loc) (la : Array Slot), lv_has la (zn Z).1 ls → va_P (zg Z).2.2.1 vwCl X H → va_D (zA Z) X → va_S (zA Z) (zs Z).heap H locs → W (zp Z) (zl Z) (ze Z) (zR Z) (zs Z) (zm Z) (za Z) (zb Z) (zh Z) (zc Z) H locs nc ns (zQ Z) (F0 (zm Z) pc la st)
def Fb (Z : ZT) (own : String) (cc : ByteArray) (nL FR CE SL LO : Nat) : Prop := (zp Z).tables.exec = Jvm.exec ∧ (zc Z).code = cc ∧ (zc Z).maxLocals = nL ∧ (zn Z).1 = nL ∧ (zs Z).vm.findClass own = some (zm Z).cls ∧ (∀ w ∈ gtbl, w.before (za Z) (zs Z) = true) ∧ (zR Z).frames = FR ∧ (zR Z).cells = CE ∧ (zR Z).slots = SL ∧ (zR Z).locals = LO ∧ va_K (zg Z).2.2.1 vwCl (tys (zg Z)) (zs Z) ∧ ∀ q, (zs Z).heap.size ≤ q → zA Z q
def FPf (own : String) (ci k : Nat) (ty : FieldType) : Prop := ∃ (C : String) (T : u_T) (N : Nat) (ty0 : Nat → FieldType), vwCl[ci]? = some (C, T, N) ∧ (T k).2.2.2 = true ∧ (T k).1 = own ∧ (∀ k, k < N → parseFieldDescriptor (T k).2.2.1 = some (ty0 k)) ∧ (∀ a, a < N → ∀ b, b < N → a ≠ b → (T a).2.1 ≠ (T b).2.1) ∧ parseFieldDescriptor (T k).2.2.1 = some ty
def MLI (own : String) (idx : Nat) (y : MethodName) (bs : ByteArray) (mL n : Nat) : Prop := Cond.methodLink own idx y ∈ gtbl ∧ Cond.instanceMethod y ∈ gtbl ∧ Cond.initialized y.cls ∈ gtbl ∧ Cond.code y bs mL none ∈ gtbl ∧ y.name = "<init>" ∧ (y.cls ≠ "java/lang/invoke/MethodHandle" ∧ y.cls ≠ "java/lang/invoke/VarHandle" ∧ (parseMethodDescriptor y.desc).map (fun d => d.parameters.length) = some n)
def PreB (g : GT) (X : va_W) (sz : Nat) (U : State) : Prop := U.heap.size = sz ∧ va_P g.2.2.1 vwCl X U.heap ∧ va_K g.2.2.1 vwCl (tys g) U ∧ va_D (fun _ => True) X
theorem PreB.blind {g : GT} {X : va_W} {sz : Nat} {As : List Value} : FrameBlind (va_Pc As (PreB g X sz)) := by
  intro a U gg mk q
  obtain ⟨q0, q1, qP, qK, qD⟩ := q
  exact ⟨q0, q1, qP, va_K.moved (u := U) (U := U.calling gg mk a) (Vm.Alike.refl U.vm) qK, qD⟩
def CtB (g : GT) (y : MethodName) (bs : ByteArray) (mL fr nc ns lo : Nat) (As : List Value) (X : va_W) (φ : (Nat → Nat) → va_W) : Prop := ∀ (l : Launch) (sz : Nat), Met l y (Cond.code y bs mL none :: gtbl) { frames := fr, cells := nc, slots := ns, locals := lo } (va_Pc As (PreB g X sz)) (va_Qv (fun _ : Nat → Nat => True) (fun u t => va_P g.2.2.1 vwCl (φ u) t.heap ∧ va_D (va_A X sz) (φ u)) (va_A X sz)) nc ns (va_A X sz)
section
variable {Z : ZT} {own : String} {cc : ByteArray} {nL FR CE SL LO : Nat}
theorem Fb.ow (F : Fb Z own cc nL FR CE SL LO) : (zs Z).vm.findClass own = some (zm Z).cls := F.2.2.2.2.1
theorem Fb.ts (F : Fb Z own cc nL FR CE SL LO) : ∀ w ∈ gtbl, w.before (za Z) (zs Z) = true := F.2.2.2.2.2.1
theorem Fb.fr (F : Fb Z own cc nL FR CE SL LO) : (zR Z).frames = FR := F.2.2.2.2.2.2.1
theorem Fb.ce (F : Fb Z own cc nL FR CE SL LO) : (zR Z).cells = CE := F.2.2.2.2.2.2.2.1
theorem Fb.sl (F : Fb Z own cc nL FR CE SL LO) : (zR Z).slots = SL := F.2.2.2.2.2.2.2.2.1
theorem Fb.lo (F : Fb Z own cc nL FR CE SL LO) : (zR Z).locals = LO := F.2.2.2.2.2.2.2.2.2.1
theorem Fb.K (F : Fb Z own cc nL FR CE SL LO) : va_K (zg Z).2.2.1 vwCl (tys (zg Z)) (zs Z) := F.2.2.2.2.2.2.2.2.2.2.1
theorem Fb.A (F : Fb Z own cc nL FR CE SL LO) : ∀ q, (zs Z).heap.size ≤ q → zA Z q := F.2.2.2.2.2.2.2.2.2.2.2
theorem Fb.fix (F : Fb Z own cc nL FR CE SL LO) : CallFix (zp Z) (zm Z) (zc Z) cc nL (zs Z) (za Z) gtbl own := ⟨F.1, F.2.1, F.2.2.1, F.2.2.2.2.1, F.2.2.2.2.2.1⟩
variable {nc ns pc : Nat} {ls ls' : List (Nat × Value)} {st : List Value} {X X1 : va_W} {x y : Int32} {idx ci k a q0 n : Nat}
theorem bd_aload_n (F : Fb Z own cc nL FR CE SL LO) {k : Fin 4} {z : Nat} (d : decode cc pc = .ok (.aload_n k, 1)) (hl : ls.lookup (k : Nat) = some (.ref z)) (kk : Bd Z nc ns (pc + 1) ls (.ref z :: st) X) : Bd Z nc ns pc ls st X := fun H locs la h1 h2 h3 h4 => lv_aload_n F.1 F.2.1 d rfl (lv_lk h1 hl) (kk H locs la h1 h2 h3 h4)
theorem bd_iconst (F : Fb Z own cc nL FR CE SL LO) {n : Int} (d : decode cc pc = .ok (.iconst n, 1)) (hv : Int32.ofInt n = x) (kk : Bd Z nc ns (pc + 1) ls (.int x :: st) X) : Bd Z nc ns pc ls st X := fun H locs la h1 h2 h3 h4 => lv_iconst F.1 F.2.1 d hv (kk H locs la h1 h2 h3 h4)
theorem bd_bipush (F : Fb Z own cc nL FR CE SL LO) {n : Int} (d : decode cc pc = .ok (.bipush n, 2)) (hv : (Int8.ofInt n).toInt32 = x) (kk : Bd Z nc ns (pc + 2) ls (.int x :: st) X) : Bd Z nc ns pc ls st X := fun H locs la h1 h2 h3 h4 => lv_bipush F.1 F.2.1 d hv (kk H locs la h1 h2 h3 h4)
theorem bd_sipush (F : Fb Z own cc nL FR CE SL LO) {n : Int} (d : decode cc pc = .ok (.sipush n, 3)) (hv : (Int16.ofInt n).toInt32 = x) (kk : Bd Z nc ns (pc + 3) ls (.int x :: st) X) : Bd Z nc ns pc ls st X := fun H locs la h1 h2 h3 h4 => lv_sipush F.1 F.2.1 d hv (kk H locs la h1 h2 h3 h4)
theorem bd_dup (F : Fb Z own cc nL FR CE SL LO) {z : Value} (d : decode cc pc = .ok (.dup, 1)) (hz : z.category = 1) (kk : Bd Z nc ns (pc + 1) ls (z :: z :: st) X) : Bd Z nc ns pc ls (z :: st) X := fun H locs la h1 h2 h3 h4 => lv_dup F.1 F.2.1 d hz (kk H locs la h1 h2 h3 h4)
theorem bd_astore_n (F : Fb Z own cc nL FR CE SL LO) {k : Fin 4} {z : Nat} (d : decode cc pc = .ok (.astore_n k, 1)) (hn : (k : Nat) < nL) (hl : st1 (k : Nat) (.ref z) ls = ls') (kk : Bd Z nc ns (pc + 1) ls' st X) : Bd Z nc ns pc ls (.ref z :: st) X := fun H locs la h1 h2 h3 h4 => lv_astore_n F.1 F.2.1 d rfl h1 (by rw [F.2.2.2.1]; exact hn) rfl (fun la2 hla => kk H locs la2 (lv_fewer hla (fun q hq => by rw [← hl] at hq; exact List.mem_cons.mpr (insL_mem hq))) h2 h3 h4)
theorem bd_istore_n (F : Fb Z own cc nL FR CE SL LO) {k : Fin 4} {z : Int32} (d : decode cc pc = .ok (.istore_n k, 1)) (hn : (k : Nat) < nL) (hl : st1 (k : Nat) (.int z) ls = ls') (kk : Bd Z nc ns (pc + 1) ls' st X) : Bd Z nc ns pc ls (.int z :: st) X := fun H locs la h1 h2 h3 h4 => lv_istore_n F.1 F.2.1 d rfl h1 (by rw [F.2.2.2.1]; exact hn) rfl (fun la2 hla => kk H locs la2 (lv_fewer hla (fun q hq => by rw [← hl] at hq; exact List.mem_cons.mpr (insL_mem hq))) h2 h3 h4)
theorem bd_objInit (F : Fb Z own cc nL FR CE SL LO) (d : decode cc pc = .ok (.invokespecial idx, 3)) (m1 : Cond.methodLink own idx Lib.objectInit ∈ gtbl) (m2 : Cond.instanceMethod Lib.objectInit ∈ gtbl) (m3 : Cond.code Lib.objectInit ⟨#[0xb1]⟩ 1 none ∈ gtbl) (hf : 1 ≤ FR) (ho : (st.map fun v => v.category).sum + 12 ≤ LO) (kk : Bd Z nc ns (pc + 3) ls st X) : Bd Z nc ns pc ls (.ref a :: st) X := fun H locs la h1 h2 h3 h4 =>
  W.objInit F.1 F.2.1 F.ow (F.ts _ m1) (F.ts _ m2) (F.ts _ m3) rfl (h1.1.trans (F.2.2.2.1.trans F.2.2.1.symm)) rfl d (by rw [F.fr]; exact hf) (by show 2 * 0 + _ + 12 ≤ _; rw [F.lo]; omega) (kk H locs la h1 h2 h3 h4)
theorem bd_newI (F : Fb Z own cc nL FR CE SL LO) {N : Nat} (d : decode cc pc = .ok (.newarray .int, 2)) (ha : Cond.arrayClass .int ∈ gtbl) (hn : ¬ x < 0) (hN : x.toNatClampNeg = N) (hb : N * componentBytes .int ≤ 536870912) (hc : nc + 1 ≤ CE) (hs : ns + N ≤ SL) (kk : ∀ q : Nat, Bd Z (nc + 1) (ns + N) (pc + 2) ls (.ref q :: st) (X ++ [(q, .inl ((zg Z).2.1.1, N, .inl zI))])) : Bd Z nc ns pc ls (.int x :: st) X := fun H locs la h1 h2 h3 h4 => by
  refine va_newa (atype := .int) (ty := .int) F.1 F.2.1 (F.ts _ ha) rfl F.K h2 h3 h4 F.A (a0 := (N, .inl zI)) (fun cA => rfl) hn hN hb (by rw [F.ce]; exact hc) (by rw [F.sl]; exact hs) d (fun q cA H1 k2 p2 d2 s2 => ?_)
  have e : cA = (zg Z).2.1.1 := by
    have a1 : (zs Z).vm.findClass ("[" ++ FieldType.int.toString) = some cA := (k2.2 2 (cA, .int) rfl).2
    have a2 : (zs Z).vm.findClass ("[" ++ FieldType.int.toString) = some (zg Z).2.1.1 := (F.K.2 0 ((zg Z).2.1.1, .int) rfl).2
    exact Option.some.inj (a1.symm.trans a2)
  rw [e] at p2 d2
  exact kk q H1 locs la h1 p2 d2 s2
theorem bd_newJ (F : Fb Z own cc nL FR CE SL LO) {N : Nat} (d : decode cc pc = .ok (.newarray .long, 2)) (ha : Cond.arrayClass .long ∈ gtbl) (hn : ¬ x < 0) (hN : x.toNatClampNeg = N) (hb : N * componentBytes .long ≤ 536870912) (hc : nc + 1 ≤ CE) (hs : ns + N ≤ SL) (kk : ∀ q : Nat, Bd Z (nc + 1) (ns + N) (pc + 2) ls (.ref q :: st) (X ++ [(q, .inl ((zg Z).2.1.2, N, .inr (.inl zJ)))])) : Bd Z nc ns pc ls (.int x :: st) X := fun H locs la h1 h2 h3 h4 => by
  refine va_newa (atype := .long) (ty := .long) F.1 F.2.1 (F.ts _ ha) rfl F.K h2 h3 h4 F.A (a0 := (N, .inr (.inl zJ))) (fun cA => rfl) hn hN hb (by rw [F.ce]; exact hc) (by rw [F.sl]; exact hs) d (fun q cA H1 k2 p2 d2 s2 => ?_)
  have e : cA = (zg Z).2.1.2 := by
    have a1 : (zs Z).vm.findClass ("[" ++ FieldType.long.toString) = some cA := (k2.2 2 (cA, .long) rfl).2
    have a2 : (zs Z).vm.findClass ("[" ++ FieldType.long.toString) = some (zg Z).2.1.2 := (F.K.2 1 ((zg Z).2.1.2, .long) rfl).2
    exact Option.some.inj (a1.symm.trans a2)
  rw [e] at p2 d2
  exact kk q H1 locs la h1 p2 d2 s2
theorem bd_put (F : Fb Z own cc nL FR CE SL LO) {ty : FieldType} {fs : List Value} {z : Value} (d : decode cc pc = .ok (.putfield idx, 3)) (fl : FL own idx ci k) (fp : FP ci k ty) (he : X[q0]? = some (a, .inr (ci, fs))) (hlen : k < fs.length) (hn : narrow ty z = z) (hf : fits ty z = true) (hX : X.set q0 (a, .inr (ci, fs.set k z)) = X1) (kk : Bd Z nc ns (pc + 3) ls st X1) : Bd Z nc ns pc ls (z :: .ref a :: st) X := fun H locs la h1 h2 h3 h4 => by
  obtain ⟨C, T, N, e1, e2, e3, e4⟩ := fl
  obtain ⟨C', T', N', ty0, f1, f2, f3, f4, f5⟩ := fp
  rw [e1] at f1
  cases f1
  refine va_put F.1 F.2.1 F.ts e3 ty0 f3 f4 F.ow F.K h2 h3 h4 q0 he e1 k e2 (F.ts _ e4) (fun _ h9 => h9) f2 f5 hn hf hlen d (fun H1 locs1 hP hD hS => ?_)
  rw [hX] at hP hD
  exact kk H1 locs1 la h1 hP hD hS
theorem bd_putF (F : Fb Z own cc nL FR CE SL LO) {ty : FieldType} {fs : List Value} {z : Value} (hi : (zh Z).name = "<init>") (d : decode cc pc = .ok (.putfield idx, 3)) (fl : FL own idx ci k) (fp : FPf own ci k ty) (he : X[q0]? = some (a, .inr (ci, fs))) (hlen : k < fs.length) (hn : narrow ty z = z) (hf : fits ty z = true) (hX : X.set q0 (a, .inr (ci, fs.set k z)) = X1) (kk : Bd Z nc ns (pc + 3) ls st X1) : Bd Z nc ns pc ls (z :: .ref a :: st) X := fun H locs la h1 h2 h3 h4 => by
  obtain ⟨C, T, N, e1, e2, e3, e4⟩ := fl
  obtain ⟨C', T', N', ty0, f1, f2, f0, f3, f4, f5⟩ := fp
  rw [e1] at f1
  cases f1
  refine va_putF F.1 F.2.1 F.ts e3 ty0 f3 f4 F.ow F.K h2 h3 h4 q0 he e1 k e2 (F.ts _ e4) (fun _ h9 => h9) f2 hi f0 f5 hn hf hlen d (fun H1 locs1 hP hD hS => ?_)
  rw [hX] at hP hD
  exact kk H1 locs1 la h1 hP hD hS
theorem bd_getf (F : Fb Z own cc nL FR CE SL LO) {fs : List Value} {z : Value} (d : decode cc pc = .ok (.getfield idx, 3)) (fl : FL own idx ci k) (he : X[q0]? = some (a, .inr (ci, fs))) (hv : fs[k]? = some z) (kk : Bd Z nc ns (pc + 3) ls (z :: st) X) : Bd Z nc ns pc ls (.ref a :: st) X := fun H locs la h1 h2 h3 h4 => by
  obtain ⟨C, T, N, e1, e2, e3, e4⟩ := fl
  exact va_get F.1 F.2.1 F.ts e3 F.ow F.K h2 q0 he e1 k e2 (F.ts _ e4) (fun _ h9 => h9) hv d (kk H locs la h1 h2 h3 h4)
theorem bd_iast (F : Fb Z own cc nL FR CE SL LO) {f : Nat → Int32} {j : Nat} (d : decode cc pc = .ok (.iastore, 1)) (he : X[q0]? = some (a, .inl ((zg Z).2.1.1, n, .inl f))) (hx : ib x n = true) (hj : x.toNatClampNeg = j) (hX : X.set q0 (a, .inl ((zg Z).2.1.1, n, .inl (upd f j y))) = X1) (kk : Bd Z nc ns (pc + 1) ls st X1) : Bd Z nc ns pc ls (.int y :: .int x :: .ref a :: st) X := fun H locs la h1 h2 h3 h4 => by
  subst hj
  refine va_iast F.1 F.2.1 F.K h2 h3 h4 q0 0 (f := f) he rfl (ib_in hx) d (fun H1 locs1 hP hD hS => ?_)
  rw [hX] at hP hD
  exact kk H1 locs1 la h1 hP hD hS
theorem bd_new (F : Fb Z own cc nL FR CE SL LO) {C : String} {T : u_T} {N : Nat} (ty : Nat → FieldType) {fs : List Value} (d : decode cc pc = .ok (.new idx, 3)) (hin : ∀ w ∈ u_ws C T N, w ∈ gtbl) (hty : ∀ k, k < N → parseFieldDescriptor (T k).2.2.1 = some (ty k)) (w1 : Cond.classLink own idx C ∈ gtbl) (w2 : Cond.instantiable C N ∈ gtbl) (w3 : Cond.initialized C ∈ gtbl) (hc : vwCl[ci]? = some (C, T, N)) (hfs : ∀ j, j < N → defaultValue (ty j) = vp_V fs j) (hcc : nc + 1 ≤ CE) (hs : ns + N ≤ SL) (kk : ∀ q : Nat, Bd Z (nc + 1) (ns + N) (pc + 3) ls (.ref q :: st) (X ++ [(q, .inr (ci, fs))])) : Bd Z nc ns pc ls st X := fun H locs la h1 h2 h3 h4 =>
  va_new F.1 F.2.1 F.ts hin ty hty F.ow (F.ts _ w1) (F.ts _ w2) (F.ts _ w3) F.K h2 h3 h4 F.A hc hfs (by rw [F.ce]; exact hcc) (by rw [F.sl]; exact hs) d (fun q H1 hP hD hS => kk q H1 locs la h1 hP hD hS)
theorem bd_init (F : Fb Z own cc nL FR CE SL LO) {y : MethodName} {bs : ByteArray} {mL fr mc ms lo na : Nat} {As : List Value} {e : va_E} {φ : (Nat → Nat) → va_W} {Xr : va_W} (isR : List Nat) (d : decode cc pc = .ok (.invokespecial idx, 3)) (ml : MLI own idx y bs mL na) (hM : CtB (zg Z) y bs mL fr mc ms lo (.ref a :: As) [(a, e)] φ) (he : X[q0]? = some (a, e)) (hR : isR.map (fun i => X[i]?) = Xr.map some) (hnd : va_nd isR = true) (hdis : ∀ i ∈ isR, i ∉ [q0]) (hn : As.length = na) (hfr : fr + 1 ≤ FR) (hlo : 8 + (mL + 11) + lo ≤ LO) (hcat : (st.map fun v => v.category).sum ≤ 8) (hc : nc + mc ≤ CE) (hs : ns + ms ≤ SL) (kk : ∀ u : Nat → Nat, Bd Z (nc + mc) (ns + ms) (pc + 3) ls st (Xr ++ φ u)) : Bd Z nc ns pc ls (As.reverse ++ .ref a :: st) X := fun H locs la h1 h2 h3 h4 => by
  obtain ⟨m1, m2, m3, m4, m5, m6⟩ := ml
  have hC : [q0].map (fun i => X[i]?) = [(a, e)].map some := by
    show [X[q0]?] = [some (a, e)]
    rw [he]
  have hPc : va_P (zg Z).2.2.1 vwCl [(a, e)] H := h2.sub [q0] (by show [q0].filterMap (fun i => X[i]?) = _; rw [List.filterMap_cons, he]; rfl)
  have hDc : va_D (zA Z) [(a, e)] := h3.sub [q0] rfl hC
  have hFc := va_free h3 h4 F.A [q0] hC
  refine va_callv (va_runI (As := As) (rest := st) F.fix (hM (zl Z) H.size) (cwI na F.ts (goodIn_g (fun w hw => (List.mem_cons.mp hw).elim (fun e => by rw [e]; exact m4) id)) rfl rfl rfl (F.ts _ m3) (F.ts _ m1) (F.ts _ m2) m5 m6 ⟨by rw [F.fr]; exact hfr, by rw [F.lo]; exact hlo⟩) ⟨PreB.blind, fun U hU hW => ⟨rfl, by rw [hU], by rw [hU]; exact hPc, va_K.moved hW.alike F.K, hDc.weaken (fun _ _ _ _ => trivial)⟩⟩ rfl hn (h1.1.trans F.2.2.2.1) rfl (lv_room hcat) d ⟨by rw [F.ce]; exact hc, by rw [F.sl]; exact hs⟩) h4 (fun q _ h => hFc q h) hFc (fun u t H1 locs1 ht hvm hw hB hz1 hk1 hS => ?_)
  obtain ⟨hP1, hD1⟩ := hB
  rw [ht] at hP1
  obtain ⟨hP, hD⟩ := va_join (wr := Xr) (w1 := φ u) h2 h3 [q0] isR hC hR hnd hdis hk1 hFc hP1 hD1
  exact kk u H1 locs1 la h1 hP hD hS
end
theorem CtB_of {g : GT} {y : MethodName} {bs : ByteArray} {mL fr nc ns lo : Nat} {As : List Value} {X : va_W} {φ : (Nat → Nat) → va_W} (hy : plainName y.cls = true) (hl : (lg_sl As).length ≤ mL) (body : ∀ Z : ZT, zg Z = g → Fb Z y.cls bs mL fr nc ns lo → (zh Z).name = y.name → (∀ (pc : Nat) (ls : List (Nat × Value)) (u : Nat → Nat), decode bs pc = .ok (.return_, 1) → Bd Z nc ns pc ls [] (φ u)) → Bd Z 0 0 0 (lv_args 0 As) [] X) : CtB g y bs mL fr nc ns lo As X φ := by
  intro l sz
  refine Met.ofW (cc := bs) (maxL := mL) (ret := none) hy rfl ?_
  intro p e s m args below meth c s₁ B hml hv
  obtain ⟨rfl, hsz, hP, hK, hD0⟩ := hv
  have hx := B.exec
  have hb := B.bytes
  have hr := B.returns
  have hts := atoms_spec (ws := Cond.code y bs mL (none) :: gtbl) B.pre
  have hown : s.vm.findClass y.cls = some m.cls := findClass_of_methodNamed B.named
  have hlk := B.notSynchronized
  have hin : meth.name = y.name := (name_of_methodNamed B.named B.method).1
  subst hsz
  have hD := hD0.self (sz := s.heap.size)
  have hlv := lv_entry As hl
  rw [lg_entry_eq]
  exact body (p, l, e, { frames := fr, cells := nc, slots := ns, locals := lo }, s, m, As.toArray, below, meth, c, g, va_A X s.heap.size, (mL, 0, 0), MQ below (va_Qv (fun _ : Nat → Nat => True) (fun u t => va_P g.2.2.1 vwCl (φ u) t.heap ∧ va_D (va_A X s.heap.size) (φ u)) (va_A X s.heap.size)) As.toArray s nc ns (va_A X s.heap.size)) rfl
    ⟨hx, hb, hml, rfl, hown, fun w hw => hts w (List.mem_cons_of_mem _ hw), rfl, rfl, rfl, rfl, hK, fun q h => Or.inr h⟩ hin
    (fun pc ls u d H locs la h1 h2 h3 h4 => W.vret hx hb hr (fun t ht hW => ⟨⟨u, rfl, trivial, by rw [ht]; exact h2, h3⟩, h4.F ht⟩) h4.2.2 d hlk)
    s.heap [] _ hlv hP hD va_S.rf

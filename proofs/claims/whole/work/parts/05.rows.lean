/-! rows over V: an instruction, a row -/
section
variable {Z : ZT} {own : String} {cc : ByteArray} {nL FR LO : Nat}
theorem Fx.fr (F : Fx Z own cc nL FR LO) : (zR Z).frames = FR := F.2.2.2.2.2.2.1
theorem Fx.lo (F : Fx Z own cc nL FR LO) : (zR Z).locals = LO := F.2.2.2.2.2.2.2.1
theorem Fx.rm (F : Fx Z own cc nL FR LO) : (zn Z).2.1 ≤ (zR Z).cells ∧ (zn Z).2.2 ≤ (zR Z).slots := F.2.2.2.2.2.2.2.2.1
theorem Fx.K (F : Fx Z own cc nL FR LO) : va_K (zg Z).2.2.1 vwCl (tys (zg Z)) (zs Z) := F.2.2.2.2.2.2.2.2.2.1
theorem Fx.D (F : Fx Z own cc nL FR LO) (w : Wd) : va_D (zA Z) (ws (zg Z) w) := F.2.2.2.2.2.2.2.2.2.2.1 w
theorem Fx.A (F : Fx Z own cc nL FR LO) : ∀ q, (zs Z).heap.size ≤ q → zA Z q := F.2.2.2.2.2.2.2.2.2.2.2.1
theorem Fx.N (F : Fx Z own cc nL FR LO) : NW (zs Z) := F.2.2.2.2.2.2.2.2.2.2.2.2.1
theorem Fx.S (F : Fx Z own cc nL FR LO) : SS (zg Z) (zA Z) (zs Z) := F.2.2.2.2.2.2.2.2.2.2.2.2.2
theorem Fx.ow (F : Fx Z own cc nL FR LO) : (zs Z).vm.findClass own = some (zm Z).cls := F.2.2.2.2.1
theorem Fx.ts (F : Fx Z own cc nL FR LO) : ∀ w ∈ gtbl, w.before (za Z) (zs Z) = true := F.2.2.2.2.2.1
theorem Fx.fix (F : Fx Z own cc nL FR LO) : CallFix (zp Z) (zm Z) (zc Z) cc nL (zs Z) (za Z) gtbl own := ⟨F.1, F.2.1, F.2.2.1, F.2.2.2.2.1, F.2.2.2.2.2.1⟩
theorem lk_mem : ∀ {ls : List (Nat × Value)} {k : Nat} {v : Value}, ls.lookup k = some v → (k, v) ∈ ls
  | [], _, _, h => by cases h
  | (a, b) :: l, k, v, h => by
    rw [List.lookup_cons] at h
    by_cases e : k = a
    · subst e
      rw [beq_self_eq_true] at h
      rw [← Option.some.inj h]
      exact List.mem_cons_self
    · rw [beq_false_of_ne e] at h
      exact List.mem_cons_of_mem _ (lk_mem h)
theorem lv_lk {la : Array Slot} {n k : Nat} {ls : List (Nat × Value)} {v : Value} (h : lv_has la n ls) (hl : ls.lookup k = some v) : la[k]? = some (.val v) := h.2.2 (k, v) (lk_mem hl)
theorem lv_fewer {la : Array Slot} {n : Nat} {ls ls' : List (Nat × Value)} (h : lv_has la n ls) (hl : ∀ q ∈ ls', q ∈ ls) : lv_has la n ls' := ⟨h.1, h.2.1, fun q hq => h.2.2 q (hl q hq)⟩
/-- a place of the locals, kept in the order of the places -/
def insL (q : Nat × Value) : List (Nat × Value) → List (Nat × Value)
  | [] => [q]
  | a :: l => if q.1 < a.1 then q :: a :: l else a :: insL q l
theorem insL_mem {q p : Nat × Value} : ∀ {l : List (Nat × Value)}, p ∈ insL q l → p = q ∨ p ∈ l
  | [], h => Or.inl (List.mem_singleton.mp h)
  | a :: l, h => by
    unfold insL at h
    by_cases c : q.1 < a.1
    · rw [if_pos c] at h
      exact List.mem_cons.mp h
    · rw [if_neg c] at h
      rcases List.mem_cons.mp h with e | e
      · exact Or.inr (by rw [e]; exact List.mem_cons_self)
      · rcases insL_mem e with e | e
        · exact Or.inl e
        · exact Or.inr (List.mem_cons_of_mem _ e)
def st1 (k : Nat) (v : Value) (ls : List (Nat × Value)) : List (Nat × Value) := insL (k, v) (ls.filter (fun q => !(q.1 == k) && !(q.1 + 1 == k && q.2.category == 2)))
def st2 (k : Nat) (v : Value) (ls : List (Nat × Value)) : List (Nat × Value) := insL (k, v) (ls.filter (fun q => !(q.1 == k) && (!(q.1 == k + 1) && !(q.1 + 1 == k && q.2.category == 2))))
variable {pc : Nat} {ls ls' : List (Nat × Value)} {st : List Value} {w w1 : Wd} {x y : Int32} {u v : Int64} {off : Int} {tgt : Nat}
theorem V_drop (h : ∀ q ∈ ls', q ∈ ls) (kk : V Z pc ls' st w) : V Z pc ls st w := fun H locs la h1 h2 h3 => kk H locs la (lv_fewer h1 h) h2 h3
theorem V_sub (ks : List Nat) (h : lv_pick ls ks = ls') (kk : V Z pc ls' st w) : V Z pc ls st w := fun H locs la h1 h2 h3 => kk H locs la (lv_sub h1 ks h) h2 h3
theorem V_nm (h : y = x) (kk : V Z pc ls (.int y :: st) w) : V Z pc ls (.int x :: st) w := h ▸ kk
theorem V_nmL (h : v = u) (kk : V Z pc ls (.long v :: st) w) : V Z pc ls (.long u :: st) w := h ▸ kk
theorem V_w (h : w1 = w) (kk : V Z pc ls st w1) : V Z pc ls st w := h ▸ kk

theorem r_iload (F : Fx Z own cc nL FR LO) {k : Nat} {z : Int32} (d : decode cc pc = .ok (.iload k, 2)) (hl : ls.lookup (k : Nat) = some (.int z)) (kk : V Z (pc + 2) ls (.int z :: st) w) : V Z pc ls st w := fun H locs la h1 h2 h3 => lv_iload F.1 F.2.1 d (lv_lk h1 hl) (kk H locs la h1 h2 h3)
theorem r_lload (F : Fx Z own cc nL FR LO) {k : Nat} {z : Int64} (d : decode cc pc = .ok (.lload k, 2)) (hl : ls.lookup (k : Nat) = some (.long z)) (kk : V Z (pc + 2) ls (.long z :: st) w) : V Z pc ls st w := fun H locs la h1 h2 h3 => lv_lload F.1 F.2.1 d (lv_lk h1 hl) (kk H locs la h1 h2 h3)
theorem r_aload (F : Fx Z own cc nL FR LO) {k : Nat} {z : Nat} (d : decode cc pc = .ok (.aload k, 2)) (hl : ls.lookup (k : Nat) = some (.ref z)) (kk : V Z (pc + 2) ls (.ref z :: st) w) : V Z pc ls st w := fun H locs la h1 h2 h3 => lv_aload F.1 F.2.1 d (lv_lk h1 hl) (kk H locs la h1 h2 h3)
theorem r_iload_n (F : Fx Z own cc nL FR LO) {k : Fin 4} {z : Int32} (d : decode cc pc = .ok (.iload_n k, 1)) (hl : ls.lookup (k : Nat) = some (.int z)) (kk : V Z (pc + 1) ls (.int z :: st) w) : V Z pc ls st w := fun H locs la h1 h2 h3 => lv_iload_n F.1 F.2.1 d rfl (lv_lk h1 hl) (kk H locs la h1 h2 h3)
theorem r_lload_n (F : Fx Z own cc nL FR LO) {k : Fin 4} {z : Int64} (d : decode cc pc = .ok (.lload_n k, 1)) (hl : ls.lookup (k : Nat) = some (.long z)) (kk : V Z (pc + 1) ls (.long z :: st) w) : V Z pc ls st w := fun H locs la h1 h2 h3 => lv_lload_n F.1 F.2.1 d rfl (lv_lk h1 hl) (kk H locs la h1 h2 h3)
theorem r_aload_n (F : Fx Z own cc nL FR LO) {k : Fin 4} {z : Nat} (d : decode cc pc = .ok (.aload_n k, 1)) (hl : ls.lookup (k : Nat) = some (.ref z)) (kk : V Z (pc + 1) ls (.ref z :: st) w) : V Z pc ls st w := fun H locs la h1 h2 h3 => lv_aload_n F.1 F.2.1 d rfl (lv_lk h1 hl) (kk H locs la h1 h2 h3)
theorem r_istore (F : Fx Z own cc nL FR LO) {k : Nat} {z : Int32} (d : decode cc pc = .ok (.istore k, 2)) (hn : k < nL) (hl : st1 k (.int z) ls = ls') (kk : V Z (pc + 2) ls' st w) : V Z pc ls (.int z :: st) w := fun H locs la h1 h2 h3 => lv_istore F.1 F.2.1 d h1 (by rw [F.2.2.2.1]; exact hn) rfl (fun la2 hla => kk H locs la2 (lv_fewer hla (fun q hq => by rw [← hl] at hq; exact List.mem_cons.mpr (insL_mem hq))) h2 h3)
theorem r_lstore (F : Fx Z own cc nL FR LO) {k : Nat} {z : Int64} (d : decode cc pc = .ok (.lstore k, 2)) (hn : k + 1 < nL) (hl : st2 k (.long z) ls = ls') (kk : V Z (pc + 2) ls' st w) : V Z pc ls (.long z :: st) w := fun H locs la h1 h2 h3 => lv_lstore F.1 F.2.1 d h1 (by rw [F.2.2.2.1]; exact hn) rfl (fun la2 hla => kk H locs la2 (lv_fewer hla (fun q hq => by rw [← hl] at hq; exact List.mem_cons.mpr (insL_mem hq))) h2 h3)
theorem r_istore_n (F : Fx Z own cc nL FR LO) {k : Fin 4} {z : Int32} (d : decode cc pc = .ok (.istore_n k, 1)) (hn : (k : Nat) < nL) (hl : st1 (k : Nat) (.int z) ls = ls') (kk : V Z (pc + 1) ls' st w) : V Z pc ls (.int z :: st) w := fun H locs la h1 h2 h3 => lv_istore_n F.1 F.2.1 d rfl h1 (by rw [F.2.2.2.1]; exact hn) rfl (fun la2 hla => kk H locs la2 (lv_fewer hla (fun q hq => by rw [← hl] at hq; exact List.mem_cons.mpr (insL_mem hq))) h2 h3)
theorem r_lstore_n (F : Fx Z own cc nL FR LO) {k : Fin 4} {z : Int64} (d : decode cc pc = .ok (.lstore_n k, 1)) (hn : (k : Nat) + 1 < nL) (hl : st2 (k : Nat) (.long z) ls = ls') (kk : V Z (pc + 1) ls' st w) : V Z pc ls (.long z :: st) w := fun H locs la h1 h2 h3 => lv_lstore_n F.1 F.2.1 d rfl h1 (by rw [F.2.2.2.1]; exact hn) rfl (fun la2 hla => kk H locs la2 (lv_fewer hla (fun q hq => by rw [← hl] at hq; exact List.mem_cons.mpr (insL_mem hq))) h2 h3)
theorem r_iinc (F : Fx Z own cc nL FR LO) {i : Nat} {n : Int} (d : decode cc pc = .ok (.iinc i n, 3)) (hk : ls.lookup i = some (.int x)) (hv : x + Int32.ofInt n = y) (hn : i < nL) (hl : st1 i (.int y) ls = ls') (kk : V Z (pc + 3) ls' st w) : V Z pc ls st w := fun H locs la h1 h2 h3 => by
  obtain ⟨k, hk⟩ := List.getElem?_of_mem (lk_mem hk)
  exact lv_iinc F.1 F.2.1 d h1 hk hv (by rw [F.2.2.2.1]; exact hn) rfl (fun la2 hla => kk H locs la2 (lv_fewer hla (fun q hq => by rw [← hl] at hq; exact List.mem_cons.mpr (insL_mem hq))) h2 h3)
theorem r_iconst (F : Fx Z own cc nL FR LO) {n : Int} (d : decode cc pc = .ok (.iconst n, 1)) (hv : Int32.ofInt n = x) (kk : V Z (pc + 1) ls (.int x :: st) w) : V Z pc ls st w := fun H locs la h1 h2 h3 => lv_iconst F.1 F.2.1 d hv (kk H locs la h1 h2 h3)
theorem r_bipush (F : Fx Z own cc nL FR LO) {n : Int} (d : decode cc pc = .ok (.bipush n, 2)) (hv : (Int8.ofInt n).toInt32 = x) (kk : V Z (pc + 2) ls (.int x :: st) w) : V Z pc ls st w := fun H locs la h1 h2 h3 => lv_bipush F.1 F.2.1 d hv (kk H locs la h1 h2 h3)
theorem r_sipush (F : Fx Z own cc nL FR LO) {n : Int} (d : decode cc pc = .ok (.sipush n, 3)) (hv : (Int16.ofInt n).toInt32 = x) (kk : V Z (pc + 3) ls (.int x :: st) w) : V Z pc ls st w := fun H locs la h1 h2 h3 => lv_sipush F.1 F.2.1 d hv (kk H locs la h1 h2 h3)
theorem r_lconst (F : Fx Z own cc nL FR LO) {n : Fin 2} (d : decode cc pc = .ok (.lconst n, 1)) (hv : Int64.ofNat (n : Nat) = u) (kk : V Z (pc + 1) ls (.long u :: st) w) : V Z pc ls st w := fun H locs la h1 h2 h3 => lv_lconst F.1 F.2.1 d hv (kk H locs la h1 h2 h3)
theorem r_ldc (F : Fx Z own cc nL FR LO) {n : Nat} (d : decode cc pc = .ok (.ldc n, 2)) (hc : Cond.constant own n x ∈ gtbl) (kk : V Z (pc + 2) ls (.int x :: st) w) : V Z pc ls st w := fun H locs la h1 h2 h3 => lv_ldc F.1 F.2.1 F.ow (F.ts _ hc) d (kk H locs la h1 h2 h3)
theorem r_ldc_w (F : Fx Z own cc nL FR LO) {n : Nat} (d : decode cc pc = .ok (.ldc_w n, 3)) (hc : Cond.constant own n x ∈ gtbl) (kk : V Z (pc + 3) ls (.int x :: st) w) : V Z pc ls st w := fun H locs la h1 h2 h3 => lv_ldcw F.1 F.2.1 F.ow (F.ts _ hc) d (kk H locs la h1 h2 h3)
theorem r_ldc2_w (F : Fx Z own cc nL FR LO) {n : Nat} (d : decode cc pc = .ok (.ldc2_w n, 3)) (hc : Cond.constantLong own n u ∈ gtbl) (kk : V Z (pc + 3) ls (.long u :: st) w) : V Z pc ls st w := fun H locs la h1 h2 h3 => lv_ldc2 F.1 F.2.1 F.ow (F.ts _ hc) d (kk H locs la h1 h2 h3)
theorem r_iadd (F : Fx Z own cc nL FR LO) (d : decode cc pc = .ok (.iadd, 1)) (kk : V Z (pc + 1) ls (.int (x + y) :: st) w) : V Z pc ls (.int y :: .int x :: st) w := fun H locs la h1 h2 h3 => lv_iadd F.1 F.2.1 d (kk H locs la h1 h2 h3)
theorem r_isub (F : Fx Z own cc nL FR LO) (d : decode cc pc = .ok (.isub, 1)) (kk : V Z (pc + 1) ls (.int (x - y) :: st) w) : V Z pc ls (.int y :: .int x :: st) w := fun H locs la h1 h2 h3 => lv_isub F.1 F.2.1 d (kk H locs la h1 h2 h3)
theorem r_imul (F : Fx Z own cc nL FR LO) (d : decode cc pc = .ok (.imul, 1)) (kk : V Z (pc + 1) ls (.int (x * y) :: st) w) : V Z pc ls (.int y :: .int x :: st) w := fun H locs la h1 h2 h3 => lv_imul F.1 F.2.1 d (kk H locs la h1 h2 h3)
theorem r_iand (F : Fx Z own cc nL FR LO) (d : decode cc pc = .ok (.iand, 1)) (kk : V Z (pc + 1) ls (.int (x &&& y) :: st) w) : V Z pc ls (.int y :: .int x :: st) w := fun H locs la h1 h2 h3 => lv_iand F.1 F.2.1 d (kk H locs la h1 h2 h3)
theorem r_ior (F : Fx Z own cc nL FR LO) (d : decode cc pc = .ok (.ior, 1)) (kk : V Z (pc + 1) ls (.int (x ||| y) :: st) w) : V Z pc ls (.int y :: .int x :: st) w := fun H locs la h1 h2 h3 => lv_ior F.1 F.2.1 d (kk H locs la h1 h2 h3)
theorem r_ixor (F : Fx Z own cc nL FR LO) (d : decode cc pc = .ok (.ixor, 1)) (kk : V Z (pc + 1) ls (.int (x ^^^ y) :: st) w) : V Z pc ls (.int y :: .int x :: st) w := fun H locs la h1 h2 h3 => lv_ixor F.1 F.2.1 d (kk H locs la h1 h2 h3)
theorem r_ishl (F : Fx Z own cc nL FR LO) (d : decode cc pc = .ok (.ishl, 1)) (kk : V Z (pc + 1) ls (.int (x <<< (y &&& 31)) :: st) w) : V Z pc ls (.int y :: .int x :: st) w := fun H locs la h1 h2 h3 => lv_ishl F.1 F.2.1 d (kk H locs la h1 h2 h3)
theorem r_ishr (F : Fx Z own cc nL FR LO) (d : decode cc pc = .ok (.ishr, 1)) (kk : V Z (pc + 1) ls (.int (x >>> (y &&& 31)) :: st) w) : V Z pc ls (.int y :: .int x :: st) w := fun H locs la h1 h2 h3 => lv_ishr F.1 F.2.1 d (kk H locs la h1 h2 h3)
theorem r_iushr (F : Fx Z own cc nL FR LO) (d : decode cc pc = .ok (.iushr, 1)) (kk : V Z (pc + 1) ls (.int (x.toUInt32 >>> (y.toUInt32 &&& Int32.toUInt32 31)).toInt32 :: st) w) : V Z pc ls (.int y :: .int x :: st) w := fun H locs la h1 h2 h3 => lv_iushr F.1 F.2.1 d rfl (kk H locs la h1 h2 h3)
theorem r_ineg (F : Fx Z own cc nL FR LO) (d : decode cc pc = .ok (.ineg, 1)) (kk : V Z (pc + 1) ls (.int (-x) :: st) w) : V Z pc ls (.int x :: st) w := fun H locs la h1 h2 h3 => lv_ineg F.1 F.2.1 d (kk H locs la h1 h2 h3)
def jrem (x y : Int32) : Int32 := x - x / y * y
def jremL (x y : Int64) : Int64 := x - x / y * y
theorem r_idiv (F : Fx Z own cc nL FR LO) (d : decode cc pc = .ok (.idiv, 1)) (hne : (y == 0) = false) (kk : V Z (pc + 1) ls (.int (x / y) :: st) w) : V Z pc ls (.int y :: .int x :: st) w := fun H locs la h1 h2 h3 => lv_idiv F.1 F.2.1 d (beq_eq_false_iff_ne.mp hne) (kk H locs la h1 h2 h3)
theorem r_irem (F : Fx Z own cc nL FR LO) (d : decode cc pc = .ok (.irem, 1)) (hne : (y == 0) = false) (kk : V Z (pc + 1) ls (.int (jrem x y) :: st) w) : V Z pc ls (.int y :: .int x :: st) w := fun H locs la h1 h2 h3 => lv_irem F.1 F.2.1 d (beq_eq_false_iff_ne.mp hne) (kk H locs la h1 h2 h3)
theorem r_ldiv (F : Fx Z own cc nL FR LO) (d : decode cc pc = .ok (.ldiv, 1)) (hne : (v == 0) = false) (kk : V Z (pc + 1) ls (.long (u / v) :: st) w) : V Z pc ls (.long v :: .long u :: st) w := fun H locs la h1 h2 h3 => lv_ldiv F.1 F.2.1 d (beq_eq_false_iff_ne.mp hne) (kk H locs la h1 h2 h3)
theorem r_lrem (F : Fx Z own cc nL FR LO) (d : decode cc pc = .ok (.lrem, 1)) (hne : (v == 0) = false) (kk : V Z (pc + 1) ls (.long (jremL u v) :: st) w) : V Z pc ls (.long v :: .long u :: st) w := fun H locs la h1 h2 h3 => lv_lrem F.1 F.2.1 d (beq_eq_false_iff_ne.mp hne) (kk H locs la h1 h2 h3)
theorem r_i2l (F : Fx Z own cc nL FR LO) (d : decode cc pc = .ok (.i2l, 1)) (kk : V Z (pc + 1) ls (.long x.toInt64 :: st) w) : V Z pc ls (.int x :: st) w := fun H locs la h1 h2 h3 => lv_i2l F.1 F.2.1 d rfl (kk H locs la h1 h2 h3)
theorem r_lcmp (F : Fx Z own cc nL FR LO) (d : decode cc pc = .ok (.lcmp, 1)) (kk : V Z (pc + 1) ls (.int (lg_cmp u v) :: st) w) : V Z pc ls (.long v :: .long u :: st) w := fun H locs la h1 h2 h3 => W.lcmp F.1 F.2.1 d (kk H locs la h1 h2 h3)
theorem r_dup (F : Fx Z own cc nL FR LO) {z : Value} (d : decode cc pc = .ok (.dup, 1)) (hz : z.category = 1) (kk : V Z (pc + 1) ls (z :: z :: st) w) : V Z pc ls (z :: st) w := fun H locs la h1 h2 h3 => lv_dup F.1 F.2.1 d hz (kk H locs la h1 h2 h3)
theorem r_dup2 (F : Fx Z own cc nL FR LO) {z z2 : Value} (d : decode cc pc = .ok (.dup2, 1)) (hz : z.category = 1) (hz2 : z2.category = 1) (kk : V Z (pc + 1) ls (z :: z2 :: z :: z2 :: st) w) : V Z pc ls (z :: z2 :: st) w := fun H locs la h1 h2 h3 => lv_dup2_11 F.1 F.2.1 d hz hz2 (kk H locs la h1 h2 h3)
theorem r_pop (F : Fx Z own cc nL FR LO) {z : Value} (d : decode cc pc = .ok (.pop, 1)) (hz : z.category = 1) (kk : V Z (pc + 1) ls st w) : V Z pc ls (z :: st) w := fun H locs la h1 h2 h3 => lv_pop F.1 F.2.1 d hz (kk H locs la h1 h2 h3)
theorem r_goto (F : Fx Z own cc nL FR LO) (d : decode cc pc = .ok (.goto off, 3)) (ht : (pc : Int) + off = (tgt : Int)) (kk : V Z tgt ls st w) : V Z pc ls st w := fun H locs la h1 h2 h3 => lv_goto F.1 F.2.1 d ht (kk H locs la h1 h2 h3)
theorem r_ladd (F : Fx Z own cc nL FR LO) (d : decode cc pc = .ok (.ladd, 1)) (kk : V Z (pc + 1) ls (.long (u + v) :: st) w) : V Z pc ls (.long v :: .long u :: st) w := fun H locs la h1 h2 h3 => lv_ladd F.1 F.2.1 d (kk H locs la h1 h2 h3)
theorem r_lsub (F : Fx Z own cc nL FR LO) (d : decode cc pc = .ok (.lsub, 1)) (kk : V Z (pc + 1) ls (.long (u - v) :: st) w) : V Z pc ls (.long v :: .long u :: st) w := fun H locs la h1 h2 h3 => lv_lsub F.1 F.2.1 d (kk H locs la h1 h2 h3)
theorem r_lmul (F : Fx Z own cc nL FR LO) (d : decode cc pc = .ok (.lmul, 1)) (kk : V Z (pc + 1) ls (.long (u * v) :: st) w) : V Z pc ls (.long v :: .long u :: st) w := fun H locs la h1 h2 h3 => lv_lmul F.1 F.2.1 d (kk H locs la h1 h2 h3)
theorem ip {c : Prop} {β : Type} {A B o : β} [Decidable c] (h : (if c then A else B) = o) (hc : c) : A = o := by rw [if_pos hc] at h; exact h
theorem iq {c : Prop} {β : Type} {A B o : β} [Decidable c] (h : (if c then A else B) = o) (hc : ¬ c) : B = o := by rw [if_neg hc] at h; exact h
theorem r_icmp_ge (F : Fx Z own cc nL FR LO) (d : decode cc pc = .ok (.if_icmp .ge off, 3)) (ht : (pc : Int) + off = (tgt : Int)) {β : Type} {A B o : β} (h : (if y ≤ x then A else B) = o) (k1 : A = o → V Z tgt ls st w) (k2 : B = o → V Z (pc + 3) ls st w) : V Z pc ls (.int y :: .int x :: st) w := fun H locs la h1 h2 h3 => lv_icmp_ge F.1 F.2.1 d ht (fun c => k1 (ip h c) H locs la h1 h2 h3) (fun c => k2 (iq h c) H locs la h1 h2 h3)
theorem r_icmp_gt (F : Fx Z own cc nL FR LO) (d : decode cc pc = .ok (.if_icmp .gt off, 3)) (ht : (pc : Int) + off = (tgt : Int)) {β : Type} {A B o : β} (h : (if y < x then A else B) = o) (k1 : A = o → V Z tgt ls st w) (k2 : B = o → V Z (pc + 3) ls st w) : V Z pc ls (.int y :: .int x :: st) w := fun H locs la h1 h2 h3 => lv_icmp_gt F.1 F.2.1 d ht (fun c => k1 (ip h c) H locs la h1 h2 h3) (fun c => k2 (iq h c) H locs la h1 h2 h3)
theorem r_icmp_le (F : Fx Z own cc nL FR LO) (d : decode cc pc = .ok (.if_icmp .le off, 3)) (ht : (pc : Int) + off = (tgt : Int)) {β : Type} {A B o : β} (h : (if x ≤ y then A else B) = o) (k1 : A = o → V Z tgt ls st w) (k2 : B = o → V Z (pc + 3) ls st w) : V Z pc ls (.int y :: .int x :: st) w := fun H locs la h1 h2 h3 => lv_icmp_le F.1 F.2.1 d ht (fun c => k1 (ip h c) H locs la h1 h2 h3) (fun c => k2 (iq h c) H locs la h1 h2 h3)
theorem r_icmp_lt (F : Fx Z own cc nL FR LO) (d : decode cc pc = .ok (.if_icmp .lt off, 3)) (ht : (pc : Int) + off = (tgt : Int)) {β : Type} {A B o : β} (h : (if x < y then A else B) = o) (k1 : A = o → V Z tgt ls st w) (k2 : B = o → V Z (pc + 3) ls st w) : V Z pc ls (.int y :: .int x :: st) w := fun H locs la h1 h2 h3 => lv_icmp_lt F.1 F.2.1 d ht (fun c => k1 (ip h c) H locs la h1 h2 h3) (fun c => k2 (iq h c) H locs la h1 h2 h3)
theorem r_icmp_eq (F : Fx Z own cc nL FR LO) (d : decode cc pc = .ok (.if_icmp .eq off, 3)) (ht : (pc : Int) + off = (tgt : Int)) {β : Type} {A B o : β} (h : (if x = y then A else B) = o) (k1 : A = o → V Z tgt ls st w) (k2 : B = o → V Z (pc + 3) ls st w) : V Z pc ls (.int y :: .int x :: st) w := fun H locs la h1 h2 h3 => lv_icmp_eq F.1 F.2.1 d ht (fun c => k1 (ip h c) H locs la h1 h2 h3) (fun c => k2 (iq h c) H locs la h1 h2 h3)
theorem r_icmp_ne (F : Fx Z own cc nL FR LO) (d : decode cc pc = .ok (.if_icmp .ne off, 3)) (ht : (pc : Int) + off = (tgt : Int)) {β : Type} {A B o : β} (h : (if x = y then A else B) = o) (k1 : A = o → V Z (pc + 3) ls st w) (k2 : B = o → V Z tgt ls st w) : V Z pc ls (.int y :: .int x :: st) w := fun H locs la h1 h2 h3 => lv_icmp_ne F.1 F.2.1 d ht (fun c => k2 (iq h c) H locs la h1 h2 h3) (fun c => k1 (ip h c) H locs la h1 h2 h3)
theorem r_if_ge (F : Fx Z own cc nL FR LO) (d : decode cc pc = .ok (.ifCond .ge off, 3)) (ht : (pc : Int) + off = (tgt : Int)) {β : Type} {A B o : β} (h : (if 0 ≤ x then A else B) = o) (k1 : A = o → V Z tgt ls st w) (k2 : B = o → V Z (pc + 3) ls st w) : V Z pc ls (.int x :: st) w := fun H locs la h1 h2 h3 => lv_if_ge F.1 F.2.1 d ht (fun c => k1 (ip h c) H locs la h1 h2 h3) (fun c => k2 (iq h c) H locs la h1 h2 h3)
theorem r_if_gt (F : Fx Z own cc nL FR LO) (d : decode cc pc = .ok (.ifCond .gt off, 3)) (ht : (pc : Int) + off = (tgt : Int)) {β : Type} {A B o : β} (h : (if 0 < x then A else B) = o) (k1 : A = o → V Z tgt ls st w) (k2 : B = o → V Z (pc + 3) ls st w) : V Z pc ls (.int x :: st) w := fun H locs la h1 h2 h3 => lv_if_gt F.1 F.2.1 d ht (fun c => k1 (ip h c) H locs la h1 h2 h3) (fun c => k2 (iq h c) H locs la h1 h2 h3)
theorem r_if_le (F : Fx Z own cc nL FR LO) (d : decode cc pc = .ok (.ifCond .le off, 3)) (ht : (pc : Int) + off = (tgt : Int)) {β : Type} {A B o : β} (h : (if x ≤ 0 then A else B) = o) (k1 : A = o → V Z tgt ls st w) (k2 : B = o → V Z (pc + 3) ls st w) : V Z pc ls (.int x :: st) w := fun H locs la h1 h2 h3 => lv_if_le F.1 F.2.1 d ht (fun c => k1 (ip h c) H locs la h1 h2 h3) (fun c => k2 (iq h c) H locs la h1 h2 h3)
theorem r_if_lt (F : Fx Z own cc nL FR LO) (d : decode cc pc = .ok (.ifCond .lt off, 3)) (ht : (pc : Int) + off = (tgt : Int)) {β : Type} {A B o : β} (h : (if x < 0 then A else B) = o) (k1 : A = o → V Z tgt ls st w) (k2 : B = o → V Z (pc + 3) ls st w) : V Z pc ls (.int x :: st) w := fun H locs la h1 h2 h3 => lv_if_lt F.1 F.2.1 d ht (fun c => k1 (ip h c) H locs la h1 h2 h3) (fun c => k2 (iq h c) H locs la h1 h2 h3)
theorem r_if_eq (F : Fx Z own cc nL FR LO) (d : decode cc pc = .ok (.ifCond .eq off, 3)) (ht : (pc : Int) + off = (tgt : Int)) {β : Type} {A B o : β} (h : (if x = 0 then A else B) = o) (k1 : A = o → V Z tgt ls st w) (k2 : B = o → V Z (pc + 3) ls st w) : V Z pc ls (.int x :: st) w := fun H locs la h1 h2 h3 => lv_if_eq F.1 F.2.1 d ht (fun c => k1 (ip h c) H locs la h1 h2 h3) (fun c => k2 (iq h c) H locs la h1 h2 h3)
theorem r_if_ne (F : Fx Z own cc nL FR LO) (d : decode cc pc = .ok (.ifCond .ne off, 3)) (ht : (pc : Int) + off = (tgt : Int)) {β : Type} {A B o : β} (h : (if x = 0 then A else B) = o) (k1 : A = o → V Z (pc + 3) ls st w) (k2 : B = o → V Z tgt ls st w) : V Z pc ls (.int x :: st) w := fun H locs la h1 h2 h3 => lv_if_ne F.1 F.2.1 d ht (fun c => k2 (iq h c) H locs la h1 h2 h3) (fun c => k1 (ip h c) H locs la h1 h2 h3)
def tswT (pc : Nat) (dflt lo hi : Int) (offs : List Int) (t : Int) : Int := if t < lo ∨ hi < t then (pc : Int) + dflt else (pc : Int) + (offs[(t - lo).toNat]?).getD 0
theorem r_tsw (F : Fx Z own cc nL FR LO) {dflt lo hi : Int} {offs : Array Int} {len : Nat} (d : decode cc pc = .ok (.tableswitch dflt lo hi offs, len)) (hlen : ((offs.size : Nat) : Int) = hi - lo + 1) (ht : tswT pc dflt lo hi offs.toList x.toInt = (tgt : Int)) (kk : V Z tgt ls st w) : V Z pc ls (.int x :: st) w := fun H locs la h1 h2 h3 => by
  unfold tswT at ht
  by_cases c : x.toInt < lo ∨ hi < x.toInt
  · rw [if_pos c] at ht
    exact lv_tableOut F.1 F.2.1 d c ht (kk H locs la h1 h2 h3)
  · rw [if_neg c] at ht
    have c1 : ¬ x.toInt < lo := fun q => c (Or.inl q)
    have c2 : ¬ hi < x.toInt := fun q => c (Or.inr q)
    have hlt : (x.toInt - lo).toNat < offs.size := by omega
    rw [Array.getElem?_toList, Array.getElem?_eq_getElem hlt] at ht
    exact lv_tableIn F.1 F.2.1 d c1 c2 (Array.getElem?_eq_getElem hlt) ht (kk H locs la h1 h2 h3)
theorem tsw_out {dflt lo hi : Int} {offs ks : List Int} {t : Int} (hd : (pc : Int) + dflt = (tgt : Int)) (hlen : ((offs.length : Nat) : Int) = hi - lo + 1) (hall : (List.range offs.length).all (fun j => decide (offs[j]? = some dflt) || decide (lo + (j : Int) ∈ ks)) = true) (hk : ∀ k ∈ ks, t ≠ k) : tswT pc dflt lo hi offs t = (tgt : Int) := by
  unfold tswT
  by_cases c : t < lo ∨ hi < t
  · rw [if_pos c]; exact hd
  · rw [if_neg c]
    have c1 : ¬ t < lo := fun q => c (Or.inl q)
    have c2 : ¬ hi < t := fun q => c (Or.inr q)
    have hlt : (t - lo).toNat < offs.length := by omega
    have h1 := List.all_eq_true.mp hall _ (List.mem_range.mpr hlt)
    rw [Bool.or_eq_true] at h1
    rcases h1 with h1 | h1
    · rw [of_decide_eq_true h1]; exact hd
    · exact absurd (by omega) (hk _ (of_decide_eq_true h1))
theorem r_lsw (F : Fx Z own cc nL FR LO) {dflt : Int} {ps : Array (Int × Int)} {len : Nat} {t : Int} (d : decode cc pc = .ok (.lookupswitch dflt ps, len)) (hp : (ps.toList.zip (ps.toList.drop 1)).all (fun (a, next) => a.1 < next.1) = true) (ho : Op.lookupswitch.offset ps.toList dflt x.toInt = t) (ht : (pc : Int) + t = (tgt : Int)) (kk : V Z tgt ls st w) : V Z pc ls (.int x :: st) w := fun H locs la h1 h2 h3 => lv_lookup F.1 F.2.1 d hp ho ht (kk H locs la h1 h2 h3)
end

/-! the law, from its entry (by program: wip/whole/tools/gen98.py) -/
def iniC : Nat → Int32 := fun k => if k = 3 then 1 else if k = 4 then 12 else 0
def iniS : Nat → Int32 := upd (upd zI 1 1) 2 12
def w00 : Wd := (fun i => if i = 1 ∨ i = 2 ∨ i = 3 then iniC else if i = 44 then iniS else zI, fun _ => zJ)
def σ00 : St := (fun k => if k = 3 then 1 else if k = 4 then 12 else 0, fun _ => 0, fun _ => 0, fun _ => 0, fun _ => 0)
theorem good00 : good σ00 := ⟨by decide, by decide, fun p hp => (by rw [show sL σ00 = 0 from rfl, Nat.zero_testBit] at hp; cases hp), by decide, by decide, by decide, by decide, by decide, fun _ => (by decide : 0 < 7), fun _ => (by decide : 0 < 10), fun _ => (by decide : 0 < 10), fun _ => (by decide : 0 < 3)⟩
theorem R00 : R w00 σ00 := by
  refine ⟨good00, by decide, ⟨by decide, fun _ _ => rfl, fun _ _ => rfl, fun _ _ => rfl, fun _ _ => rfl⟩, ⟨⟨rfl, by decide, by decide⟩, ⟨rfl, rfl, rfl, rfl⟩, fun _ _ => rfl, fun _ _ => rfl, fun _ _ => rfl, fun _ _ => rfl⟩, ⟨0, by decide, rfl, rfl, fun k hk => absurd hk (Nat.not_lt_zero _)⟩, ⟨0, by decide, rfl, rfl, fun k hk => absurd hk (Nat.not_lt_zero _)⟩, ⟨0, by decide, rfl, rfl, fun k hk => absurd hk (Nat.not_lt_zero _)⟩, ⟨rfl, Or.inl rfl⟩, fun k _ => rfl⟩
def ph9 (c : Nat × Nat) (a : Nat) (u1 : Nat → Nat) : va_W := [(a, .inr (9, [.ref (u1 0), .ref (u1 5), .int 0, .ref (u1 15), .ref (u1 21), .ref (u1 25), .ref (u1 27), .ref (u1 29), .ref (u1 31), .ref (u1 33), .ref (u1 36), .ref (u1 40)])), ((u1 0), .inr (2, [.int 0, .int 0, .int 0, .int 1, .int 12, .int 0, .int 0, .ref (u1 1), .ref (u1 2), .ref (u1 3), .ref (u1 4)])), ((u1 1), .inl (c.1, 8, .inl zI)), ((u1 2), .inl (c.1, 8, .inl zI)), ((u1 3), .inl (c.1, 25, .inl zI)), ((u1 4), .inl (c.1, 25, .inl zI)), ((u1 5), .inr (2, [.int 0, .int 0, .int 0, .int 1, .int 12, .int 0, .int 0, .ref (u1 6), .ref (u1 7), .ref (u1 8), .ref (u1 9)])), ((u1 6), .inl (c.1, 8, .inl zI)), ((u1 7), .inl (c.1, 8, .inl zI)), ((u1 8), .inl (c.1, 25, .inl zI)), ((u1 9), .inl (c.1, 25, .inl zI)), ((u1 10), .inr (2, [.int 0, .int 0, .int 0, .int 1, .int 12, .int 0, .int 0, .ref (u1 11), .ref (u1 12), .ref (u1 13), .ref (u1 14)])), ((u1 11), .inl (c.1, 8, .inl zI)), ((u1 12), .inl (c.1, 8, .inl zI)), ((u1 13), .inl (c.1, 25, .inl zI)), ((u1 14), .inl (c.1, 25, .inl zI)), ((u1 15), .inr (8, [.int 0, .int 0, .int 0, .int 0, .int 0, .int 0, .int 0, .ref (u1 16), .ref (u1 17), .ref (u1 18), .ref (u1 19), .ref (u1 20)])), ((u1 16), .inl (c.1, 8, .inl zI)), ((u1 17), .inl (c.1, 25, .inl zI)), ((u1 18), .inl (c.1, 25, .inl zI)), ((u1 19), .inl (c.1, 8, .inl zI)), ((u1 20), .inl (c.1, 24, .inl zI)), ((u1 21), .inr (5, [.int 0, .ref (u1 22), .ref (u1 23), .ref (u1 24)])), ((u1 22), .inl (c.1, 8, .inl zI)), ((u1 23), .inl (c.1, 8, .inl zI)), ((u1 24), .inl (c.1, 8, .inl zI)), ((u1 25), .inr (3, [.int 0, .ref (u1 26), .ref (u1 10), .ref (u1 15)])), ((u1 26), .inl (c.1, 96, .inl zI)), ((u1 27), .inr (7, [.int 0, .ref (u1 28)])), ((u1 28), .inl (c.1, 12, .inl zI)), ((u1 29), .inr (4, [.int 0, .int 0, .int 0, .int 0, .ref (u1 0), .ref (u1 15), .ref (u1 30)])), ((u1 30), .inl (c.1, 8, .inl zI)), ((u1 31), .inr (6, [.int 0, .int 0, .ref (u1 32), .ref (u1 0), .ref (u1 15)])), ((u1 32), .inl (c.1, 3, .inl zI)), ((u1 33), .inr (1, [.int 0, .int 0, .int 0, .int 0, .int 0, .ref (u1 0), .ref (u1 10), .ref (u1 15), .ref (u1 34), .ref (u1 35)])), ((u1 34), .inl (c.1, 6, .inl zI)), ((u1 35), .inl (c.1, 9, .inl zI)), ((u1 36), .inr (0, [.long 0, .ref (u1 37), .ref (u1 38), .ref (u1 39), .ref (u1 15)])), ((u1 37), .inl (c.2, 16, .inr (.inl zJ))), ((u1 38), .inl (c.2, 16, .inr (.inl zJ))), ((u1 39), .inl (c.1, 4, .inl zI)), ((u1 40), .inl (c.1, 7, .inl zI))]
def ph10 (c : Nat × Nat) (b2 : Nat) (u2 : Nat → Nat) : va_W := [(b2, .inr (10, [.ref (u2 0), .ref (u2 1), .ref (u2 2), .ref (u2 3), .ref (u2 4), .ref (u2 5), .int 0, .int 0, .int 0, .int 0, .ref (u2 6), .ref (u2 7), .ref (u2 8), .ref (u2 9), .int 0, .int 0, .int 0, .ref (u2 10), .int 0, .int 0, .int 0, .ref (u2 11), .ref (u2 12), .int 0, .ref (u2 13), .ref (u2 14), .ref (u2 15), .int 0, .ref (u2 16), .ref (u2 17), .ref (u2 18), .ref (u2 19), .int 0, .int 0, .int 0, .ref (u2 20), .ref (u2 21), .int 0, .ref (u2 22), .ref (u2 23), .ref (u2 24), .int 0, .int 0])), ((u2 0), .inl (c.1, 7, .inl zI)), ((u2 1), .inl (c.1, 3, .inl (upd (upd zI 1 1) 2 12))), ((u2 2), .inl (c.1, 8, .inl zI)), ((u2 3), .inl (c.1, 8, .inl zI)), ((u2 4), .inl (c.1, 25, .inl zI)), ((u2 5), .inl (c.1, 25, .inl zI)), ((u2 6), .inl (c.1, 96, .inl zI)), ((u2 7), .inl (c.1, 48, .inl zI)), ((u2 8), .inl (c.1, 48, .inl zI)), ((u2 9), .inl (c.1, 144, .inl zI)), ((u2 10), .inl (c.1, 240, .inl zI)), ((u2 11), .inl (c.1, 8, .inl zI)), ((u2 12), .inl (c.1, 8, .inl zI)), ((u2 13), .inl (c.1, 8, .inl zI)), ((u2 14), .inl (c.1, 8, .inl zI)), ((u2 15), .inl (c.1, 8, .inl zI)), ((u2 16), .inl (c.1, 6, .inl zI)), ((u2 17), .inl (c.1, 6, .inl zI)), ((u2 18), .inl (c.1, 8, .inl zI)), ((u2 19), .inl (c.1, 8, .inl zI)), ((u2 20), .inl (c.2, 16, .inr (.inl zJ))), ((u2 21), .inl (c.2, 16, .inr (.inl zJ))), ((u2 22), .inl (c.1, 9, .inl zI)), ((u2 23), .inl (c.1, 3, .inl zI)), ((u2 24), .inl (c.1, 12, .inl zI))]
def XW (c : Nat × Nat) (a b2 : Nat) (u1 u2 : Nat → Nat) : va_W := ph9 c a u1 ++ ph10 c b2 u2
def gA (a b2 : Nat) (u1 u2 : Nat → Nat) : Nat → Nat := fun i => ([a, (u1 0), (u1 5), (u1 10), (u1 15), (u1 21), (u1 25), (u1 27), (u1 29), (u1 31), (u1 33), (u1 36), (u1 40), (u1 1), (u1 2), (u1 3), (u1 4), (u1 6), (u1 7), (u1 8), (u1 9), (u1 11), (u1 12), (u1 13), (u1 14), (u1 16), (u1 17), (u1 18), (u1 19), (u1 20), (u1 22), (u1 23), (u1 24), (u1 26), (u1 28), (u1 30), (u1 32), (u1 34), (u1 35), (u1 37), (u1 38), (u1 39), b2, (u2 0), (u2 1), (u2 2), (u2 3), (u2 4), (u2 5), (u2 6), (u2 7), (u2 8), (u2 9), (u2 10), (u2 11), (u2 12), (u2 13), (u2 14), (u2 15), (u2 16), (u2 17), (u2 18), (u2 19), (u2 20), (u2 21), (u2 22), (u2 23), (u2 24)] : List Nat).getD i 0
def permL : List Nat := [0, 1, 6, 11, 16, 22, 26, 28, 30, 32, 34, 37, 41, 2, 3, 4, 5, 7, 8, 9, 10, 12, 13, 14, 15, 17, 18, 19, 20, 21, 23, 24, 25, 27, 29, 31, 33, 35, 36, 38, 39, 40, 42, 43, 44, 45, 46, 47, 48, 49, 50, 51, 52, 53, 54, 55, 56, 57, 58, 59, 60, 61, 62, 63, 64, 65, 66, 67]
set_option maxRecDepth 100000 in
set_option maxHeartbeats 4000000 in
theorem XW_at (q : (Nat × Nat) × va_G × (Nat × Nat)) (a b2 : Nat) (u1 u2 : Nat → Nat) : ∀ k, k < 68 → (XW q.1 a b2 u1 u2)[permL.getD k 0]? = some (gA a b2 u1 u2 k, cell (gA a b2 u1 u2, q) k (w00.1 k) (w00.2 k))
  | 0, _ => rfl
  | 1, _ => rfl
  | 2, _ => rfl
  | 3, _ => rfl
  | 4, _ => rfl
  | 5, _ => rfl
  | 6, _ => rfl
  | 7, _ => rfl
  | 8, _ => rfl
  | 9, _ => rfl
  | 10, _ => rfl
  | 11, _ => rfl
  | 12, _ => rfl
  | 13, _ => rfl
  | 14, _ => rfl
  | 15, _ => rfl
  | 16, _ => rfl
  | 17, _ => rfl
  | 18, _ => rfl
  | 19, _ => rfl
  | 20, _ => rfl
  | 21, _ => rfl
  | 22, _ => rfl
  | 23, _ => rfl
  | 24, _ => rfl
  | 25, _ => rfl
  | 26, _ => rfl
  | 27, _ => rfl
  | 28, _ => rfl
  | 29, _ => rfl
  | 30, _ => rfl
  | 31, _ => rfl
  | 32, _ => rfl
  | 33, _ => rfl
  | 34, _ => rfl
  | 35, _ => rfl
  | 36, _ => rfl
  | 37, _ => rfl
  | 38, _ => rfl
  | 39, _ => rfl
  | 40, _ => rfl
  | 41, _ => rfl
  | 42, _ => rfl
  | 43, _ => rfl
  | 44, _ => rfl
  | 45, _ => rfl
  | 46, _ => rfl
  | 47, _ => rfl
  | 48, _ => rfl
  | 49, _ => rfl
  | 50, _ => rfl
  | 51, _ => rfl
  | 52, _ => rfl
  | 53, _ => rfl
  | 54, _ => rfl
  | 55, _ => rfl
  | 56, _ => rfl
  | 57, _ => rfl
  | 58, _ => rfl
  | 59, _ => rfl
  | 60, _ => rfl
  | 61, _ => rfl
  | 62, _ => rfl
  | 63, _ => rfl
  | 64, _ => rfl
  | 65, _ => rfl
  | 66, _ => rfl
  | 67, _ => rfl
  | k + 68, h => absurd h (by omega)
theorem permI : ∀ i, i < 68 → ∀ j, j < 68 → permL.getD i 0 = permL.getD j 0 → i = j := by decide +kernel
theorem XW_P {q : (Nat × Nat) × va_G × (Nat × Nat)} {a b2 : Nat} {u1 u2 : Nat → Nat} {H : Heap} (h : va_P q.2.1 vwCl (XW q.1 a b2 u1 u2) H) : va_P q.2.1 vwCl (ws (gA a b2 u1 u2, q) w00) H := fun k p hp => by
  obtain ⟨hk, rfl⟩ := ws_at hp
  exact h _ _ (XW_at q a b2 u1 u2 k hk)
theorem XW_D {q : (Nat × Nat) × va_G × (Nat × Nat)} {a b2 : Nat} {u1 u2 : Nat → Nat} {A : Nat → Prop} (h : va_D A (XW q.1 a b2 u1 u2)) : va_D A (ws (gA a b2 u1 u2, q) w00) := by
  refine ⟨fun i j p r hp hr hpr => ?_, fun k p hp => ?_⟩
  · obtain ⟨hi, rfl⟩ := ws_at hp
    obtain ⟨hj, rfl⟩ := ws_at hr
    exact permI i hi j hj (h.1 _ _ _ _ (XW_at q a b2 u1 u2 i hi) (XW_at q a b2 u1 u2 j hj) hpr)
  · obtain ⟨hk, rfl⟩ := ws_at hp
    exact h.2 _ _ (XW_at q a b2 u1 u2 k hk)
set_option maxRecDepth 100000 in
set_option maxHeartbeats 4000000 in
theorem law_pro {Z : ZT} {b : Nat} (F : Fb Z RL cL_law 4 13 68 1402 494) (fin : ∀ (a b2 : Nat) (u1 u2 : Nat → Nat), Bd Z 68 1402 18 [(0, .ref b), (1, .ref a), (2, .ref b2), (3, .int 0)] [] (XW (zg Z).2.1 a b2 u1 u2)) : Bd Z 0 0 0 [(0, .ref b)] [] [] := by
  refine bd_new (pc := 0) (ci := 9) (C := RX9) (T := TX9) (N := 12) F tyX9 (fs := [.null, .null, .int 0, .null, .null, .null, .null, .null, .null, .null, .null, .null]) dL_law_0 inX9 tyX9_ok (in_gtbl (inT_1 (List.mem_of_getElem? (i := 15) rfl)) rfl) (in_gtbl (inT_1 (List.mem_of_getElem? (i := 16) rfl)) rfl) (in_gtbl (inT_1 (List.mem_of_getElem? (i := 1) rfl)) rfl) rfl df_9 (Nat.le_of_ble_eq_true rfl) (Nat.le_of_ble_eq_true rfl) (fun a => ?_)
  refine bd_dup (pc := 3) F dL_law_3 rfl ?_
  refine bd_init (pc := 4) (q0 := 0) (na := 0) (As := []) (Xr := []) (φ := ph9 (zg Z).2.1 a) F [] dL_law_4 ⟨(in_gtbl (inT_1 (List.mem_of_getElem? (i := 17) rfl)) rfl), (in_gtbl (inT_1 (List.mem_of_getElem? (i := 18) rfl)) rfl), (in_gtbl (inT_1 (List.mem_of_getElem? (i := 1) rfl)) rfl), (in_gtbl (inT_1 (List.mem_of_getElem? (i := 19) rfl)) rfl), rfl, by decide⟩ (kX9_init (zg Z) a) rfl rfl rfl (by decide) rfl (Nat.le_of_ble_eq_true rfl) (Nat.le_of_ble_eq_true rfl) (Nat.le_of_ble_eq_true rfl) (Nat.le_of_ble_eq_true rfl) (Nat.le_of_ble_eq_true rfl) (fun u1 => ?_)
  refine bd_astore_n (pc := 7) (ls' := [(0, .ref b), (1, .ref a)]) F dL_law_7 (Nat.le_of_ble_eq_true rfl) rfl ?_
  refine bd_new (pc := 8) (ci := 10) (C := RX10) (T := TX10) (N := 43) F tyX10 (fs := [.null, .null, .null, .null, .null, .null, .int 0, .int 0, .int 0, .int 0, .null, .null, .null, .null, .int 0, .int 0, .int 0, .null, .int 0, .int 0, .int 0, .null, .null, .int 0, .null, .null, .null, .int 0, .null, .null, .null, .null, .int 0, .int 0, .int 0, .null, .null, .int 0, .null, .null, .null, .int 0, .int 0]) dL_law_8 inX10 tyX10_ok (in_gtbl (inT_5 (List.mem_of_getElem? (i := 196) rfl)) rfl) (in_gtbl (inT_5 (List.mem_of_getElem? (i := 197) rfl)) rfl) (in_gtbl (inT_1 (List.mem_of_getElem? (i := 11) rfl)) rfl) rfl df_10 (Nat.le_of_ble_eq_true rfl) (Nat.le_of_ble_eq_true rfl) (fun b2 => ?_)
  refine bd_dup (pc := 11) F dL_law_11 rfl ?_
  refine bd_init (pc := 12) (q0 := 42) (na := 0) (As := []) (Xr := ph9 (zg Z).2.1 a u1) (φ := ph10 (zg Z).2.1 b2) F [0, 1, 2, 3, 4, 5, 6, 7, 8, 9, 10, 11, 12, 13, 14, 15, 16, 17, 18, 19, 20, 21, 22, 23, 24, 25, 26, 27, 28, 29, 30, 31, 32, 33, 34, 35, 36, 37, 38, 39, 40, 41] dL_law_12 ⟨(in_gtbl (inT_5 (List.mem_of_getElem? (i := 198) rfl)) rfl), (in_gtbl (inT_5 (List.mem_of_getElem? (i := 199) rfl)) rfl), (in_gtbl (inT_1 (List.mem_of_getElem? (i := 11) rfl)) rfl), (in_gtbl (inT_5 (List.mem_of_getElem? (i := 200) rfl)) rfl), rfl, by decide⟩ (kX10_init (zg Z) b2) rfl rfl rfl (by decide) rfl (Nat.le_of_ble_eq_true rfl) (Nat.le_of_ble_eq_true rfl) (Nat.le_of_ble_eq_true rfl) (Nat.le_of_ble_eq_true rfl) (Nat.le_of_ble_eq_true rfl) (fun u2 => ?_)
  refine bd_astore_n (pc := 15) (ls' := [(0, .ref b), (1, .ref a), (2, .ref b2)]) F dL_law_15 (Nat.le_of_ble_eq_true rfl) rfl ?_
  refine bd_iconst (pc := 16) F dL_law_16 ic_0 ?_
  refine bd_istore_n (pc := 17) (ls' := [(0, .ref b), (1, .ref a), (2, .ref b2), (3, .int 0)]) F dL_law_17 (Nat.le_of_ble_eq_true rfl) rfl ?_
  exact fin a b2 u1 u2
set_option maxRecDepth 100000 in
set_option maxHeartbeats 4000000 in
theorem st_cov {args : Array Value} {s : State} {A : Nat → Prop} (hs : ∀ c ∈ flatC (Jvm.Cond.and given_1 narrow_1), c.before args s = true) (hA : ∀ a : Nat, a < s.heap.size → ¬ A a) : ∃ t : Nat, (Term.static "LitAgain" "COVER" "[I").eval args s none [] s = some (.ref t) ∧ va_T .int t 7 (fun j => .int (covF j)) A s s.heap := by
  refine va_Tof (by decide) (hs (.arrayOf (.static "LitAgain" "COVER" "[I") .int) (by decide +kernel)) (va_eqt (z := 7) (hs (.eq (.length (.static "LitAgain" "COVER" "[I")) (.int 7)) (by decide +kernel))) (fun j hj => ?_) hA
  rcases (show j = 0 ∨ j = 1 ∨ j = 2 ∨ j = 3 ∨ j = 4 ∨ j = 5 ∨ j = 6 by omega) with rfl | rfl | rfl | rfl | rfl | rfl | rfl
  · exact va_eqt (z := 1) (hs (.eq (.elem (.static "LitAgain" "COVER" "[I") (.int 0)) (.int 1)) (by decide +kernel))
  · exact va_eqt (z := 1) (hs (.eq (.elem (.static "LitAgain" "COVER" "[I") (.int 1)) (.int 1)) (by decide +kernel))
  · exact va_eqt (z := 0) (hs (.eq (.elem (.static "LitAgain" "COVER" "[I") (.int 2)) (.int 0)) (by decide +kernel))
  · exact va_eqt (z := 1) (hs (.eq (.elem (.static "LitAgain" "COVER" "[I") (.int 3)) (.int 1)) (by decide +kernel))
  · exact va_eqt (z := 3) (hs (.eq (.elem (.static "LitAgain" "COVER" "[I") (.int 4)) (.int 3)) (by decide +kernel))
  · exact va_eqt (z := 1) (hs (.eq (.elem (.static "LitAgain" "COVER" "[I") (.int 5)) (.int 1)) (by decide +kernel))
  · exact va_eqt (z := 0) (hs (.eq (.elem (.static "LitAgain" "COVER" "[I") (.int 6)) (.int 0)) (by decide +kernel))
set_option maxRecDepth 100000 in
set_option maxHeartbeats 4000000 in
theorem st_giv {args : Array Value} {s : State} {A : Nat → Prop} (hs : ∀ c ∈ flatC (Jvm.Cond.and given_1 narrow_1), c.before args s = true) (hA : ∀ a : Nat, a < s.heap.size → ¬ A a) : ∃ t : Nat, (Term.static "LitAgain" "GIVES" "[I").eval args s none [] s = some (.ref t) ∧ va_T .int t 7 (fun j => .int (givF j)) A s s.heap := by
  refine va_Tof (by decide) (hs (.arrayOf (.static "LitAgain" "GIVES" "[I") .int) (by decide +kernel)) (va_eqt (z := 7) (hs (.eq (.length (.static "LitAgain" "GIVES" "[I")) (.int 7)) (by decide +kernel))) (fun j hj => ?_) hA
  rcases (show j = 0 ∨ j = 1 ∨ j = 2 ∨ j = 3 ∨ j = 4 ∨ j = 5 ∨ j = 6 by omega) with rfl | rfl | rfl | rfl | rfl | rfl | rfl
  · exact va_eqt (z := 2) (hs (.eq (.elem (.static "LitAgain" "GIVES" "[I") (.int 0)) (.int 2)) (by decide +kernel))
  · exact va_eqt (z := 1) (hs (.eq (.elem (.static "LitAgain" "GIVES" "[I") (.int 1)) (.int 1)) (by decide +kernel))
  · exact va_eqt (z := 1) (hs (.eq (.elem (.static "LitAgain" "GIVES" "[I") (.int 2)) (.int 1)) (by decide +kernel))
  · exact va_eqt (z := 3) (hs (.eq (.elem (.static "LitAgain" "GIVES" "[I") (.int 3)) (.int 3)) (by decide +kernel))
  · exact va_eqt (z := 3) (hs (.eq (.elem (.static "LitAgain" "GIVES" "[I") (.int 4)) (.int 3)) (by decide +kernel))
  · exact va_eqt (z := 1) (hs (.eq (.elem (.static "LitAgain" "GIVES" "[I") (.int 5)) (.int 1)) (by decide +kernel))
  · exact va_eqt (z := 1) (hs (.eq (.elem (.static "LitAgain" "GIVES" "[I") (.int 6)) (.int 1)) (by decide +kernel))
set_option maxRecDepth 100000 in
theorem NW_of {args : Array Value} {s : State} (hts : ∀ w ∈ lw_tbl, w.before args s = true) : NW s := ⟨List.forall_mem_cons.mpr ⟨va_Nw.of rfl (hts _ (inT_2 (List.mem_of_getElem? (i := 209) rfl))), List.forall_mem_cons.mpr ⟨va_Nw.of rfl (hts _ (inT_2 (List.mem_of_getElem? (i := 236) rfl))), List.forall_mem_cons.mpr ⟨va_Nw.of rfl (hts _ (inT_3 (List.mem_of_getElem? (i := 54) rfl))), List.forall_mem_cons.mpr ⟨va_Nw.of rfl (hts _ (inT_3 (List.mem_of_getElem? (i := 204) rfl))), List.forall_mem_cons.mpr ⟨va_Nw.of rfl (hts _ (inT_4 (List.mem_of_getElem? (i := 87) rfl))), List.forall_mem_cons.mpr ⟨va_Nw.of rfl (hts _ (inT_4 (List.mem_of_getElem? (i := 100) rfl))), List.forall_mem_cons.mpr ⟨va_Nw.of rfl (hts _ (inT_4 (List.mem_of_getElem? (i := 171) rfl))), fun _ h => absurd h List.not_mem_nil⟩⟩⟩⟩⟩⟩⟩, List.forall_mem_cons.mpr ⟨va_Nw.of rfl (hts _ (inT_3 (List.mem_of_getElem? (i := 40) rfl))), List.forall_mem_cons.mpr ⟨va_Nw.of rfl (hts _ (inT_3 (List.mem_of_getElem? (i := 77) rfl))), fun _ h => absurd h List.not_mem_nil⟩⟩⟩
set_option maxRecDepth 100000 in
set_option maxHeartbeats 4000000 in
theorem K_of {args : Array Value} {s : State} (htg : ∀ w ∈ gtbl, w.before args s = true) : ∃ (c : Nat × Nat) (D : va_G), va_K D vwCl [(c.1, .int), (c.2, .long)] s := by
  obtain ⟨c0, s0, k0⟩ := u_known (C := RX0) (T := TX0) (N := 5) (n := 5) htg inX0 (htg _ (in_gtbl (inT_2 (List.mem_of_getElem? (i := 83) rfl)) rfl))
  obtain ⟨c1, s1, k1⟩ := u_known (C := RX1) (T := TX1) (N := 10) (n := 10) htg inX1 (htg _ (in_gtbl (inT_2 (List.mem_of_getElem? (i := 42) rfl)) rfl))
  obtain ⟨c2, s2, k2⟩ := u_known (C := RX2) (T := TX2) (N := 11) (n := 11) htg inX2 (htg _ (in_gtbl (inT_1 (List.mem_of_getElem? (i := 24) rfl)) rfl))
  obtain ⟨c3, s3, k3⟩ := u_known (C := RX3) (T := TX3) (N := 4) (n := 4) htg inX3 (htg _ (in_gtbl (inT_1 (List.mem_of_getElem? (i := 189) rfl)) rfl))
  obtain ⟨c4, s4, k4⟩ := u_known (C := RX4) (T := TX4) (N := 7) (n := 7) htg inX4 (htg _ (in_gtbl (inT_1 (List.mem_of_getElem? (i := 225) rfl)) rfl))
  obtain ⟨c5, s5, k5⟩ := u_known (C := RX5) (T := TX5) (N := 4) (n := 4) htg inX5 (htg _ (in_gtbl (inT_1 (List.mem_of_getElem? (i := 169) rfl)) rfl))
  obtain ⟨c6, s6, k6⟩ := u_known (C := RX6) (T := TX6) (N := 5) (n := 5) htg inX6 (htg _ (in_gtbl (inT_2 (List.mem_of_getElem? (i := 17) rfl)) rfl))
  obtain ⟨c7, s7, k7⟩ := u_known (C := RX7) (T := TX7) (N := 2) (n := 2) htg inX7 (htg _ (in_gtbl (inT_1 (List.mem_of_getElem? (i := 209) rfl)) rfl))
  obtain ⟨c8, s8, k8⟩ := u_known (C := RX8) (T := TX8) (N := 12) (n := 12) htg inX8 (htg _ (in_gtbl (inT_1 (List.mem_of_getElem? (i := 111) rfl)) rfl))
  obtain ⟨c9, s9, k9⟩ := u_known (C := RX9) (T := TX9) (N := 12) (n := 12) htg inX9 (htg _ (in_gtbl (inT_1 (List.mem_of_getElem? (i := 16) rfl)) rfl))
  obtain ⟨c10, s10, k10⟩ := u_known (C := RX10) (T := TX10) (N := 43) (n := 43) htg inX10 (htg _ (in_gtbl (inT_5 (List.mem_of_getElem? (i := 197) rfl)) rfl))
  obtain ⟨cI, kI, mI, i1, i2, i3⟩ := Cond.arrayClass_spec (htg _ w_aI)
  obtain ⟨cJ, kJ, mJ, j1, j2, j3⟩ := Cond.arrayClass_spec (htg _ w_aJ)
  refine ⟨(cI, cJ), (fun k => ([c0, c1, c2, c3, c4, c5, c6, c7, c8, c9, c10] : List Nat).getD k 0, fun k => ([s0, s1, s2, s3, s4, s5, s6, s7, s8, s9, s10] : List (Nat → Nat)).getD k (fun _ => 0)), fun k q hq => ?_, fun k q hq => ?_⟩
  · match k, hq with
    | 0, hq => cases hq; exact k0
    | 1, hq => cases hq; exact k1
    | 2, hq => cases hq; exact k2
    | 3, hq => cases hq; exact k3
    | 4, hq => cases hq; exact k4
    | 5, hq => cases hq; exact k5
    | 6, hq => cases hq; exact k6
    | 7, hq => cases hq; exact k7
    | 8, hq => cases hq; exact k8
    | 9, hq => cases hq; exact k9
    | 10, hq => cases hq; exact k10
    | k + 11, hq => simp [vwCl] at hq
  · match k, hq with
    | 0, hq => cases hq; exact ⟨fun n z => ⟨fun k h => (by cases h), kI, i2, mI, i3⟩, i1⟩
    | 1, hq => cases hq; exact ⟨fun n z => ⟨fun k h => (by cases h), kJ, j2, mJ, j3⟩, j1⟩
    | k + 2, hq => simp at hq
/-! THE CLAIM OUT OF ONE WALK OF THE LAW'S BODY. Your part is whole_start (and what it stands on); all else here is the same for every law, but numbers. -/
def R_law : String := "LitAgainLaw"
def lw_P (b : Addr) (xs : List Int32) (args : Array Value) (s : State) : Prop := args = #[.ref b] ∧ s.IntsAt b xs ∧ xs.length ≤ 2048 ∧ (Jvm.Cond.and given_1 narrow_1).before args s = true
def lw_Q (_ : Array Value) (s : State) (o : Outcome) (t : State) : Prop := o = .returned (some (.int 1)) ∧ Framed s o t [] 68 1402
def lw_Z (below : List Frame) (a : Array Value) (s : State) : State → Prop := fun t => ∃ o, t.status = .running ∧ Ended t below o ∧ lw_Q a s o t
/-- the law's own end, with 1 on the stack, nothing written that was there before, its room as the claim has it -/
theorem lw_ret {p : Program} {l : Launch} {e : Env} {s : State} {m : MethodId} {below : List Frame} {meth : Method} {c : Code} {b : Nat} (hx : p.tables.exec = Jvm.exec) (hb : c.code = code) (hr : meth.sig.returnType = ret) (hlocks : meth.locks = false) {pc : Nat} {H : Heap} {ls : Array Slot} (hdg : decode code pc = .ok (.ireturn, 1)) : W p l e room_1 s m #[Value.ref b] below meth c H [] 68 1402 (lw_Z below #[Value.ref b] s) (F0 m pc ls [.int 1]) := by
  intro T hT X
  obtain ⟨fs, hret, hrun, hended, hW, hframe⟩ := X.leave (v := some (.int 1)) (hlocks := hlocks) (fun h => by rw [hr] at h; cases h)
  have hmeth' : T.vm.method? m = some meth := X.method'
  refine ⟨T.setFrames fs, ?_, .returned (some (.int 1)), hrun, hended, rfl, ⟨_, rfl⟩, hW, hframe⟩
  jvm_step X.here [X.here.top, hx, hb, hdg, hmeth', hr, ret, narrow_b1]
  (try refine ⟨rfl, ?_⟩); (try refine ⟨rfl, ?_⟩)
  first | (intro acts; rw [hret _ acts rfl rfl rfl]) | rw [hret _ _ rfl rfl rfl]
  exact Steps.refl _
/-- what holds at the law's entry: the machine, the code, the tables' words (any of lw_tbl by 'hts w (by decide +kernel)'), the script of L ints xs at the cell b, what the Statement gives of the start (any of its parts by flat_of_before) -/
def lw_At (p : Program) (s : State) (m : MethodId) (meth : Method) (c : Code) (b L : Nat) (xs : Nat → Int32) : Prop :=
  p.tables.exec = Jvm.exec ∧ c.code = code ∧ meth.sig.returnType = ret ∧ c.maxLocals = 4 ∧ s.vm.findClass R_law = some m.cls ∧ (∀ w ∈ lw_tbl, w.before #[Value.ref b] s = true) ∧ va_X b L xs s s.heap ∧ b < s.heap.size ∧ meth.locks = false ∧ (Jvm.Cond.and given_1 narrow_1).before #[Value.ref b] s = true
set_option maxRecDepth 100000 in
set_option maxHeartbeats 4000000 in
theorem whole_start {p : Program} {e : Env} {s : State} {m : MethodId} {below : List Frame} {meth : Method} {c : Code} (l : Launch) (hflags : l.flags = flags0) {b L : Nat} {xs : Nat → Int32} (hL : L ≤ 2048) (C0 : lw_At p s m meth c b L xs) : W p l e room_1 s m #[Value.ref b] below meth c s.heap [] 0 0 (lw_Z below #[Value.ref b] s) (entryFrame m ([Value.ref b] : List Value).toArray 4) := by
  obtain ⟨hx, hb, hr, hml, hown, hts, hX, hbl, hlocks, hgv⟩ := C0
  have htg : ∀ w ∈ gtbl, w.before #[Value.ref b] s = true := fun w hw => hts w (List.mem_filter.mp hw).1
  have hs := flat_of_before _ hgv
  obtain ⟨cc, D, hK⟩ := K_of htg
  have hA : ∀ a : Nat, a < s.heap.size → ¬ (fun q : Nat => s.heap.size ≤ q) a := fun a h => Nat.not_le.mpr h
  obtain ⟨t1, et1, T1⟩ := st_cov (A := fun q : Nat => s.heap.size ≤ q) hs hA
  obtain ⟨t2, et2, T2⟩ := st_giv (A := fun q : Nat => s.heap.size ≤ q) hs hA
  have hNW := NW_of hts
  have hZ1 : va_Z "LitAgain" "COVER" "[I" (.ref t1) (fun q : Nat => s.heap.size ≤ q) s s.heap := va_Zof (hts _ (inT_3 (List.mem_of_getElem? (i := 41) rfl))) (hts _ (inT_1 (List.mem_of_getElem? (i := 1) rfl))) et1 hA
  have hZ2 : va_Z "LitAgain" "GIVES" "[I" (.ref t2) (fun q : Nat => s.heap.size ≤ q) s s.heap := va_Zof (hts _ (inT_3 (List.mem_of_getElem? (i := 78) rfl))) (hts _ (inT_1 (List.mem_of_getElem? (i := 1) rfl))) et2 hA
  have hl := lv_entry ([.ref b]) (n := 4) (Nat.le_of_ble_eq_true rfl)
  rw [lg_entry_eq]
  have main : ∀ ga : Nat → Nat, va_D (fun q : Nat => s.heap.size ≤ q) (ws (ga, cc, D, (t1, t2)) w00) → V (p, l, e, room_1, s, m, #[Value.ref b], below, meth, c, (ga, cc, D, (t1, t2)), (fun q : Nat => s.heap.size ≤ q), (4, 68, 1402), lw_Z below #[Value.ref b] s) 18 [(0, .ref b), (1, .ref (ga 0)), (2, .ref (ga 42)), (3, .int (nI 0))] [] w00 := fun ga hD =>
    law_loop (Z := (p, l, e, room_1, s, m, #[Value.ref b], below, meth, c, (ga, cc, D, (t1, t2)), (fun q : Nat => s.heap.size ≤ q), (4, 68, 1402), lw_Z below #[Value.ref b] s)) ⟨hx, hb, hml, rfl, hown, htg, rfl, rfl, ⟨Nat.le_refl _, Nat.le_refl _⟩, hK, fun w => ws_D w hD, fun q h => h, hNW, ⟨hZ1, hZ2, T1, T2⟩⟩ ⟨hX, hbl, hA b hbl⟩ hL (fun ls w H locs la h1 h2 h3 => va_forget (fun q hq => h3.2.2 q hq) (lw_ret hx hb hr hlocks dL_law_1504)) (L + 1) 0 (by omega) (by decide) w00 σ00 R00
  have pro : Bd (p, l, e, room_1, s, m, #[Value.ref b], below, meth, c, (fun _ => 0, cc, D, (t1, t2)), (fun q : Nat => s.heap.size ≤ q), (4, 68, 1402), lw_Z below #[Value.ref b] s) 0 0 0 [(0, .ref b)] [] [] :=
    law_pro ⟨hx, hb, hml, rfl, hown, htg, rfl, rfl, rfl, rfl, hK, fun q h => h⟩ (fun a b2 u1 u2 H locs la h1 h2 h3 h4 => main (gA a b2 u1 u2) (XW_D (q := (cc, D, (t1, t2))) h3) H locs la h1 (XW_P (q := (cc, D, (t1, t2))) h2) h4)
  exact pro s.heap [] _ hl (fun k q h => by simp at h) ⟨fun i j p q h => (by simp at h), fun k q h => (by simp at h)⟩ va_S.rf

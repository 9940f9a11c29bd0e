/-! contracts: the code computes the functions (by program) -/
set_option maxRecDepth 100000 in
set_option maxHeartbeats 4000000 in
theorem kX10_smallBits (g : GT) (w : Wd) (out : Int32) (h0 : fX10_smallBits w = some out) : CtI g yX10_smallBits cX10_smallBits 3 (some .int) 0 0 [.ref (g.1 42)] w (fun r w1 => r = out ∧ w1 = w) := by
  refine CtI_of .int (by decide) (Nat.le_of_ble_eq_true rfl) (fun Z hg F hR => ?_)
  subst hg
  have F : Fx Z RX10 cX10_smallBits 3 0 0 := F
  refine V_sub (ls' := [(0, .ref ((zg Z).1 42))]) [0] rfl ?_
  unfold fX10_smallBits at h0
  refine r_iconst (pc := 0) F dX10_smallBits_0 ic_0 ?_
  refine r_istore_n (pc := 1) (ls' := [(0, .ref ((zg Z).1 42)), (1, .int 0)]) F dX10_smallBits_1 (Nat.le_of_ble_eq_true rfl) rfl ?_
  refine r_iconst (pc := 2) F dX10_smallBits_2 ic_0 ?_
  refine r_istore_n (pc := 3) (ls' := [(0, .ref ((zg Z).1 42)), (1, .int 0), (2, .int 0)]) F dX10_smallBits_3 (Nat.le_of_ble_eq_true rfl) rfl ?_
  obtain ⟨l10, il10, h0⟩ := bind_some h0
  suffices E4 : V Z 39 [(1, .int l10)] [] w by
    refine iter_rule (P := fun s : Int32 × Int32 => V Z 4 [(0, .ref ((zg Z).1 42)), (1, .int (s.1)), (2, .int (s.2))] [] w) (x := l10) ?_ FU (0, 0) il10
    intro s y1 h1 hP1 hX1
    obtain ⟨l1, l2⟩ := s
    have h1 : fX10_smallBits_b4 w l1 l2 = some y1 := h1
    unfold fX10_smallBits_b4 at h1
    refine r_iload_n (pc := 4) F dX10_smallBits_4 rfl ?_
    refine r_aload_n (pc := 5) F dX10_smallBits_5 rfl ?_
    refine r_getf (pc := 6) F dX10_smallBits_6 fl_10_88 i68_42 (ce_42 _ _ _) rfl ?_
    refine r_icmp_ge (pc := 9) (tgt := 39) F dX10_smallBits_9 rfl h1 (fun h1 => ?_) (fun h1 => ?_)
    · refine V_sub (ls' := [(1, .int l1)]) [1] rfl ?_
      have e3 := hX1 _ (Option.some.inj h1).symm
      cases e3
      exact E4
    · refine r_iload_n (pc := 12) F dX10_smallBits_12 rfl ?_
      refine r_aload_n (pc := 13) F dX10_smallBits_13 rfl ?_
      refine r_getf (pc := 14) F dX10_smallBits_14 fl_10_16 i68_42 (ce_42 _ _ _) rfl ?_
      refine r_iload_n (pc := 17) F dX10_smallBits_17 rfl ?_
      obtain ⟨g4, h1⟩ := gd_some h1
      refine r_iald (pc := 18) F dX10_smallBits_18 i68_45 (ca_45 _) g4 rfl ?_
      refine r_bipush (pc := 19) F dX10_smallBits_19 bp_6 ?_
      obtain ⟨v5, hv5, h1⟩ := lt_some h1
      have hv5 := hv5.symm
      suffices Jv5 : V Z 31 [(0, .ref ((zg Z).1 42)), (1, .int l1), (2, .int l2)] [.int v5, .int l1] w by
        refine r_icmp_ne (pc := 21) (tgt := 30) F dX10_smallBits_21 rfl hv5 (fun hv5 => ?_) (fun hv5 => ?_)
        · refine r_iconst (pc := 24) F dX10_smallBits_24 ic_1 ?_
          refine r_iload_n (pc := 25) F dX10_smallBits_25 rfl ?_
          refine r_ishl (pc := 26) F dX10_smallBits_26 ?_
          refine r_goto (pc := 27) (tgt := 31) F dX10_smallBits_27 rfl ?_
          exact V_nm hv5.symm Jv5
        · refine r_iconst (pc := 30) F dX10_smallBits_30 ic_0 ?_
          exact V_nm hv5.symm Jv5
      refine r_ior (pc := 31) F dX10_smallBits_31 ?_
      obtain ⟨v6, ev6, h1⟩ := lt_some h1
      refine V_nm ev6 ?_
      refine r_istore_n (pc := 32) (ls' := [(0, .ref ((zg Z).1 42)), (1, .int v6), (2, .int l2)]) F dX10_smallBits_32 (Nat.le_of_ble_eq_true rfl) rfl ?_
      obtain ⟨v7, ev7, h1⟩ := lt_some h1
      refine r_iinc (pc := 33) (ls' := [(0, .ref ((zg Z).1 42)), (1, .int v6), (2, .int v7)]) F dX10_smallBits_33 rfl (by rw [ev7]; rfl) (Nat.le_of_ble_eq_true rfl) rfl ?_
      refine r_goto (pc := 36) (tgt := 4) F dX10_smallBits_36 rfl ?_
      exact hP1 (v6, v7) (Option.some.inj h1).symm
  refine r_iload_n (pc := 39) F dX10_smallBits_39 rfl ?_
  exact hR _ _ _ _ dX10_smallBits_40 rfl ⟨(Option.some.inj h0), rfl⟩
set_option maxRecDepth 100000 in
set_option maxHeartbeats 4000000 in
theorem kX10_areAllLit (g : GT) (w : Wd) (a1 : Int32) (out : Int32) (h0 : fX10_areAllLit w a1 = some out) : CtI g yX10_areAllLit cX10_areAllLit 2 (some .boolean) 1 22 [.ref (g.1 42), .int a1] w (fun r w1 => r = out ∧ w1 = w) := by
  refine CtI_of .boolean (by decide) (Nat.le_of_ble_eq_true rfl) (fun Z hg F hR => ?_)
  subst hg
  have F : Fx Z RX10 cX10_areAllLit 2 1 22 := F
  refine V_sub (ls' := [(0, .ref ((zg Z).1 42)), (1, .int a1)]) [0, 1] rfl ?_
  unfold fX10_areAllLit at h0
  refine r_iconst (pc := 0) F dX10_areAllLit_0 ic_1 ?_
  refine r_aload_n (pc := 1) F dX10_areAllLit_1 rfl ?_
  refine r_getf (pc := 2) F dX10_areAllLit_2 fl_10_88 i68_42 (ce_42 _ _ _) rfl ?_
  refine r_ishl (pc := 5) F dX10_areAllLit_5 ?_
  refine r_iconst (pc := 6) F dX10_areAllLit_6 ic_1 ?_
  refine r_isub (pc := 7) F dX10_areAllLit_7 ?_
  refine r_iload_n (pc := 8) F dX10_areAllLit_8 rfl ?_
  refine r_aload_n (pc := 9) F dX10_areAllLit_9 rfl ?_
  obtain ⟨r1, er1, h0⟩ := bind_some h0
  refine r_Vi0 (pc := 10) F dX10_areAllLit_10 ml_10_306 (kX10_smallBits _ w r1 er1) i68_42 (ce_42 _ _ _) (Nat.le_of_ble_eq_true rfl) (Nat.le_of_ble_eq_true rfl) (Nat.le_of_ble_eq_true rfl) ?_
  refine r_ior (pc := 13) F dX10_areAllLit_13 ?_
  refine r_iconst (pc := 14) F dX10_areAllLit_14 ic_m1 ?_
  refine r_ixor (pc := 15) F dX10_areAllLit_15 ?_
  refine r_iand (pc := 16) F dX10_areAllLit_16 ?_
  refine r_if_ne (pc := 17) (tgt := 24) F dX10_areAllLit_17 rfl h0 (fun h0 => ?_) (fun h0 => ?_)
  · refine r_iconst (pc := 20) F dX10_areAllLit_20 ic_1 ?_
    refine r_goto (pc := 21) (tgt := 25) F dX10_areAllLit_21 rfl ?_
    exact hR _ _ _ _ dX10_areAllLit_25 rfl ⟨(Option.some.inj h0), rfl⟩
  · refine r_iconst (pc := 24) F dX10_areAllLit_24 ic_0 ?_
    exact hR _ _ _ _ dX10_areAllLit_25 rfl ⟨(Option.some.inj h0), rfl⟩
set_option maxRecDepth 100000 in
set_option maxHeartbeats 4000000 in
theorem kX10_all (g : GT) (w : Wd) (out : Int32 × Wd) (h0 : fX10_all w = some out) : CtI g yX10_all cX10_all 3 (some .int) 4 91 [.ref (g.1 42)] w (fun r w1 => (r, w1) = out) := by
  refine CtI_of .int (by decide) (Nat.le_of_ble_eq_true rfl) (fun Z hg F hR => ?_)
  subst hg
  have F : Fx Z RX10 cX10_all 3 4 91 := F
  refine V_sub (ls' := [(0, .ref ((zg Z).1 42))]) [0] rfl ?_
  unfold fX10_all at h0
  refine r_aload_n (pc := 0) F dX10_all_0 rfl ?_
  refine r_getf (pc := 1) F dX10_all_1 fl_10_124 i68_42 (ce_42 _ _ _) rfl ?_
  obtain ⟨v1, ev1, h0⟩ := lt_some h0
  refine V_nm ev1 ?_
  refine r_istore_n (pc := 4) (ls' := [(0, .ref ((zg Z).1 42)), (1, .int v1)]) F dX10_all_4 (Nat.le_of_ble_eq_true rfl) rfl ?_
  refine r_iconst (pc := 5) F dX10_all_5 ic_0 ?_
  refine r_istore_n (pc := 6) (ls' := [(0, .ref ((zg Z).1 42)), (1, .int v1), (2, .int 0)]) F dX10_all_6 (Nat.le_of_ble_eq_true rfl) rfl ?_
  refine iter_rule (P := fun s : Int32 × Int32 × Wd => V Z 7 [(0, .ref ((zg Z).1 42)), (1, .int (s.1)), (2, .int (s.2.1))] [] s.2.2) (x := out) ?_ FU (v1, 0, w) h0
  intro s y1 h1 hP1 hX1
  obtain ⟨l2, l3, w4⟩ := s
  have h1 : fX10_all_b7 l2 l3 w4 = some y1 := h1
  unfold fX10_all_b7 at h1
  refine r_iload_n (pc := 7) F dX10_all_7 rfl ?_
  refine r_bipush (pc := 8) F dX10_all_8 bp_61 ?_
  refine r_icmp_ge (pc := 10) (tgt := 35) F dX10_all_10 rfl h1 (fun h1 => ?_) (fun h1 => ?_)
  · refine r_bipush (pc := 35) F dX10_all_35 bp_m9 ?_
    have h0 := congrArg some (hX1 _ (Option.some.inj h1).symm)
    exact hR _ _ _ _ dX10_all_37 rfl (Option.some.inj h0)
  · refine r_aload_n (pc := 13) F dX10_all_13 rfl ?_
    refine r_iload_n (pc := 14) F dX10_all_14 rfl ?_
    obtain ⟨r5, er5, h1⟩ := bind_some h1
    refine r_Vi1 (pc := 15) F dX10_all_15 ml_10_309 (kX10_areAllLit _ w4 l2 r5 er5) i68_42 (ce_42 _ _ _) (Nat.le_of_ble_eq_true rfl) (Nat.le_of_ble_eq_true rfl) (Nat.le_of_ble_eq_true rfl) ?_
    refine r_if_eq (pc := 18) (tgt := 23) F dX10_all_18 rfl h1 (fun h1 => ?_) (fun h1 => ?_)
    · refine r_aload_n (pc := 23) F dX10_all_23 rfl ?_
      refine r_iload_n (pc := 24) F dX10_all_24 rfl ?_
      obtain ⟨q8, er7, h1⟩ := bind_some h1
      replace h1 := un2_eq h1
      obtain ⟨r7, w6, rfl, h1⟩ := h1
      refine r_Vj1 (pc := 25) F dX10_all_25 ml_10_215 (kX10_spread _ w4 l2 (r7, w6) er7) i68_42 (ce_42 _ _ _) (Nat.le_of_ble_eq_true rfl) (Nat.le_of_ble_eq_true rfl) (Nat.le_of_ble_eq_true rfl) ?_
      refine r_istore_n (pc := 28) (ls' := [(0, .ref ((zg Z).1 42)), (1, .int r7), (2, .int l3)]) F dX10_all_28 (Nat.le_of_ble_eq_true rfl) rfl ?_
      obtain ⟨v10, ev10, h1⟩ := lt_some h1
      refine r_iinc (pc := 29) (ls' := [(0, .ref ((zg Z).1 42)), (1, .int r7), (2, .int v10)]) F dX10_all_29 rfl (by rw [ev10]; rfl) (Nat.le_of_ble_eq_true rfl) rfl ?_
      refine r_goto (pc := 32) (tgt := 7) F dX10_all_32 rfl ?_
      exact hP1 (r7, v10, w6) (Option.some.inj h1).symm
    · refine r_iload_n (pc := 21) F dX10_all_21 rfl ?_
      have h0 := congrArg some (hX1 _ (Option.some.inj h1).symm)
      exact hR _ _ _ _ dX10_all_22 rfl (Option.some.inj h0)
set_option maxRecDepth 100000 in
set_option maxHeartbeats 4000000 in
theorem kX10_behind (g : GT) (w : Wd) (a1 : Int32) (out : Int32 × Wd) (h0 : fX10_behind w a1 = some out) : CtI g yX10_behind cX10_behind 5 (some .int) 4 91 [.ref (g.1 42), .int a1] w (fun r w1 => (r, w1) = out) := by
  refine CtI_of .int (by decide) (Nat.le_of_ble_eq_true rfl) (fun Z hg F hR => ?_)
  subst hg
  have F : Fx Z RX10 cX10_behind 5 4 91 := F
  refine V_sub (ls' := [(0, .ref ((zg Z).1 42)), (1, .int a1)]) [0, 1] rfl ?_
  unfold fX10_behind at h0
  refine r_iload_n (pc := 0) F dX10_behind_0 rfl ?_
  refine r_iconst (pc := 1) F dX10_behind_1 ic_0 ?_
  refine r_bipush (pc := 2) F dX10_behind_2 bp_60 ?_
  refine r_Si3 (pc := 4) F dX10_behind_4 ml_10_92 (kX10_bound _ w a1 0 60 _ rfl) (Nat.le_of_ble_eq_true rfl) (Nat.le_of_ble_eq_true rfl) (Nat.le_of_ble_eq_true rfl) ?_
  obtain ⟨v1, ev1, h0⟩ := lt_some h0
  refine V_nm ev1 ?_
  refine r_istore_n (pc := 7) (ls' := [(0, .ref ((zg Z).1 42)), (1, .int a1), (2, .int v1)]) F dX10_behind_7 (Nat.le_of_ble_eq_true rfl) rfl ?_
  refine r_iload_n (pc := 8) F dX10_behind_8 rfl ?_
  refine r_if_eq (pc := 9) (tgt := 18) F dX10_behind_9 rfl h0 (fun h0 => ?_) (fun h0 => ?_)
  · refine r_aload_n (pc := 18) F dX10_behind_18 rfl ?_
    refine r_getf (pc := 19) F dX10_behind_19 fl_10_124 i68_42 (ce_42 _ _ _) rfl ?_
    obtain ⟨v2, ev2, h0⟩ := lt_some h0
    refine V_nm ev2 ?_
    refine r_istore_n (pc := 22) (ls' := [(0, .ref ((zg Z).1 42)), (1, .int a1), (2, .int v1), (3, .int v2)]) F dX10_behind_22 (Nat.le_of_ble_eq_true rfl) rfl ?_
    refine r_iconst (pc := 23) F dX10_behind_23 ic_0 ?_
    refine r_istore (pc := 24) (ls' := [(0, .ref ((zg Z).1 42)), (1, .int a1), (2, .int v1), (3, .int v2), (4, .int 0)]) F dX10_behind_24 (Nat.le_of_ble_eq_true rfl) rfl ?_
    refine V_sub (ls' := [(0, .ref ((zg Z).1 42)), (1, .int a1), (3, .int v2), (4, .int 0)]) [0, 1, 3, 4] rfl ?_
    obtain ⟨x13, ix13, h0⟩ := bind_some h0
    replace h0 := un2_eq h0
    obtain ⟨l14, w15, rfl, h0⟩ := h0
    suffices E26 : V Z 44 [(3, .int l14)] [] w15 by
      refine iter_rule (P := fun s : Int32 × Int32 × Wd => V Z 26 [(0, .ref ((zg Z).1 42)), (1, .int a1), (3, .int (s.1)), (4, .int (s.2.1))] [] s.2.2) (x := (l14, w15)) ?_ FU (v2, 0, w) ix13
      intro s y1 h1 hP1 hX1
      obtain ⟨l3, l4, w5⟩ := s
      have h1 : fX10_behind_b26 a1 l3 l4 w5 = some y1 := h1
      unfold fX10_behind_b26 at h1
      refine r_iload (pc := 26) F dX10_behind_26 rfl ?_
      refine r_iload_n (pc := 28) F dX10_behind_28 rfl ?_
      refine r_icmp_ge (pc := 29) (tgt := 44) F dX10_behind_29 rfl h1 (fun h1 => ?_) (fun h1 => ?_)
      · refine V_sub (ls' := [(3, .int l3)]) [2] rfl ?_
        have e6 := hX1 _ (Option.some.inj h1).symm
        cases e6
        exact E26
      · refine r_aload_n (pc := 32) F dX10_behind_32 rfl ?_
        refine r_iload_n (pc := 33) F dX10_behind_33 rfl ?_
        obtain ⟨q9, er8, h1⟩ := bind_some h1
        replace h1 := un2_eq h1
        obtain ⟨r8, w7, rfl, h1⟩ := h1
        refine r_Vj1 (pc := 34) F dX10_behind_34 ml_10_215 (kX10_spread _ w5 l3 (r8, w7) er8) i68_42 (ce_42 _ _ _) (Nat.le_of_ble_eq_true rfl) (Nat.le_of_ble_eq_true rfl) (Nat.le_of_ble_eq_true rfl) ?_
        refine r_istore_n (pc := 37) (ls' := [(0, .ref ((zg Z).1 42)), (1, .int a1), (3, .int r8), (4, .int l4)]) F dX10_behind_37 (Nat.le_of_ble_eq_true rfl) rfl ?_
        obtain ⟨v11, ev11, h1⟩ := lt_some h1
        refine r_iinc (pc := 38) (ls' := [(0, .ref ((zg Z).1 42)), (1, .int a1), (3, .int r8), (4, .int v11)]) F dX10_behind_38 rfl (by rw [ev11]; rfl) (Nat.le_of_ble_eq_true rfl) rfl ?_
        refine r_goto (pc := 41) (tgt := 26) F dX10_behind_41 rfl ?_
        exact hP1 (r8, v11, w7) (Option.some.inj h1).symm
    refine r_iload_n (pc := 44) F dX10_behind_44 rfl ?_
    exact hR _ _ _ _ dX10_behind_45 rfl (Option.some.inj h0)
  · refine r_aload_n (pc := 12) F dX10_behind_12 rfl ?_
    refine r_iload_n (pc := 13) F dX10_behind_13 rfl ?_
    obtain ⟨q19, er18, h0⟩ := bind_some h0
    replace h0 := un2_eq h0
    obtain ⟨r18, w17, rfl, h0⟩ := h0
    refine r_Vj1 (pc := 14) F dX10_behind_14 ml_10_99 (kX10_no _ w v1 (r18, w17) er18) i68_42 (ce_42 _ _ _) (Nat.le_of_ble_eq_true rfl) (Nat.le_of_ble_eq_true rfl) (Nat.le_of_ble_eq_true rfl) ?_
    exact hR _ _ _ _ dX10_behind_17 rfl (Option.some.inj h0)
set_option maxRecDepth 100000 in
set_option maxHeartbeats 4000000 in
theorem kX10_atFirst (g : GT) (w : Wd) (a1 : Int32) (out : Int32 × Wd) (h0 : fX10_atFirst w a1 = some out) : CtI g yX10_atFirst cX10_atFirst 5 (some .int) 9 196 [.ref (g.1 42), .int a1] w (fun r w1 => (r, w1) = out) := by
  refine CtI_of .int (by decide) (Nat.le_of_ble_eq_true rfl) (fun Z hg F hR => ?_)
  subst hg
  have F : Fx Z RX10 cX10_atFirst 5 9 196 := F
  refine V_sub (ls' := [(0, .ref ((zg Z).1 42)), (1, .int a1)]) [0, 1] rfl ?_
  unfold fX10_atFirst at h0
  refine r_iload_n (pc := 0) F dX10_atFirst_0 rfl ?_
  refine r_iconst (pc := 1) F dX10_atFirst_1 ic_0 ?_
  refine r_iconst (pc := 2) F dX10_atFirst_2 ic_1 ?_
  refine r_Si3 (pc := 3) F dX10_atFirst_3 ml_10_110 (kX10_isIn _ w a1 0 1 _ rfl) (Nat.le_of_ble_eq_true rfl) (Nat.le_of_ble_eq_true rfl) (Nat.le_of_ble_eq_true rfl) ?_
  refine r_if_ne (pc := 6) (tgt := 16) F dX10_atFirst_6 rfl h0 (fun h0 => ?_) (fun h0 => ?_)
  · refine r_aload_n (pc := 9) F dX10_atFirst_9 rfl ?_
    refine r_bipush (pc := 10) F dX10_atFirst_10 bp_m2 ?_
    obtain ⟨q3, er2, h0⟩ := bind_some h0
    replace h0 := un2_eq h0
    obtain ⟨r2, w1, rfl, h0⟩ := h0
    refine r_Vj1 (pc := 12) F dX10_atFirst_12 ml_10_99 (kX10_no _ w (-2) (r2, w1) er2) i68_42 (ce_42 _ _ _) (Nat.le_of_ble_eq_true rfl) (Nat.le_of_ble_eq_true rfl) (Nat.le_of_ble_eq_true rfl) ?_
    exact hR _ _ _ _ dX10_atFirst_15 rfl (Option.some.inj h0)
  · refine r_aload_n (pc := 16) F dX10_atFirst_16 rfl ?_
    refine r_getf (pc := 17) F dX10_atFirst_17 fl_10_124 i68_42 (ce_42 _ _ _) rfl ?_
    obtain ⟨v5, ev5, h0⟩ := lt_some h0
    refine V_nm ev5 ?_
    refine r_istore_n (pc := 20) (ls' := [(0, .ref ((zg Z).1 42)), (1, .int a1), (2, .int v5)]) F dX10_atFirst_20 (Nat.le_of_ble_eq_true rfl) rfl ?_
    refine r_bipush (pc := 21) F dX10_atFirst_21 bp_m9 ?_
    refine r_istore_n (pc := 23) (ls' := [(0, .ref ((zg Z).1 42)), (1, .int a1), (2, .int v5), (3, .int (-9))]) F dX10_atFirst_23 (Nat.le_of_ble_eq_true rfl) rfl ?_
    refine r_iconst (pc := 24) F dX10_atFirst_24 ic_0 ?_
    refine r_istore (pc := 25) (ls' := [(0, .ref ((zg Z).1 42)), (1, .int a1), (2, .int v5), (3, .int (-9)), (4, .int 0)]) F dX10_atFirst_25 (Nat.le_of_ble_eq_true rfl) rfl ?_
    obtain ⟨x32, ix32, h0⟩ := bind_some h0
    replace h0 := un2_eq h0
    obtain ⟨l33, w34, rfl, h0⟩ := h0
    suffices E27 : V Z 93 [(0, .ref ((zg Z).1 42)), (1, .int a1), (2, .int v5), (3, .int l33)] [] w34 by
      refine iter_rule (P := fun s : Int32 × Int32 × Wd => V Z 27 [(0, .ref ((zg Z).1 42)), (1, .int a1), (2, .int v5), (3, .int (s.1)), (4, .int (s.2.1))] [] s.2.2) (x := (l33, w34)) ?_ FU ((-9), 0, w) ix32
      intro s y1 h1 hP1 hX1
      obtain ⟨l6, l7, w8⟩ := s
      have h1 : fX10_atFirst_b27 l6 l7 w8 = some y1 := h1
      unfold fX10_atFirst_b27 at h1
      have J67 : ∀ (w13 : Wd) (l11 : Int32) (l12 : Int32), fX10_atFirst_j67 w13 l11 l12 = some y1 → V Z 67 [(0, .ref ((zg Z).1 42)), (1, .int a1), (2, .int v5), (3, .int l11), (4, .int l12)] [] w13 := by
        intro w13 l11 l12 h1
        unfold fX10_atFirst_j67 at h1
        refine r_aload_n (pc := 67) F dX10_atFirst_67 rfl ?_
        refine r_iload (pc := 68) F dX10_atFirst_68 rfl ?_
        obtain ⟨w14, ew14, h1⟩ := lt_some h1
        refine r_putI (pc := 70) F dX10_atFirst_70 fl_10_124 fp_10_7 i68_42 (ce_42 _) (Nat.le_of_ble_eq_true rfl) rfl rfl rfl ew14 ?_
        refine r_aload_n (pc := 73) F dX10_atFirst_73 rfl ?_
        refine r_aload_n (pc := 74) F dX10_atFirst_74 rfl ?_
        obtain ⟨q18, er17, h1⟩ := bind_some h1
        replace h1 := un2_eq h1
        obtain ⟨r17, w16, rfl, h1⟩ := h1
        refine r_Vj0 (pc := 75) F dX10_atFirst_75 ml_10_241 (kX10_atDoor _ w14 (r17, w16) er17) i68_42 (ce_42 _ _ _) (Nat.le_of_ble_eq_true rfl) (Nat.le_of_ble_eq_true rfl) (Nat.le_of_ble_eq_true rfl) ?_
        obtain ⟨r20, er20, h1⟩ := bind_some h1
        refine r_Vi1 (pc := 78) F dX10_atFirst_78 ml_10_309 (kX10_areAllLit _ w16 r17 r20 er20) i68_42 (ce_42 _ _ _) (Nat.le_of_ble_eq_true rfl) (Nat.le_of_ble_eq_true rfl) (Nat.le_of_ble_eq_true rfl) ?_
        refine r_if_eq (pc := 81) (tgt := 87) F dX10_atFirst_81 rfl h1 (fun h1 => ?_) (fun h1 => ?_)
        · obtain ⟨v21, ev21, h1⟩ := lt_some h1
          refine r_iinc (pc := 87) (ls' := [(0, .ref ((zg Z).1 42)), (1, .int a1), (2, .int v5), (3, .int l11), (4, .int v21)]) F dX10_atFirst_87 rfl (by rw [ev21]; rfl) (Nat.le_of_ble_eq_true rfl) rfl ?_
          refine r_goto (pc := 90) (tgt := 27) F dX10_atFirst_90 rfl ?_
          exact hP1 (l11, v21, w16) (Option.some.inj h1).symm
        · refine r_iload (pc := 84) F dX10_atFirst_84 rfl ?_
          refine r_istore_n (pc := 86) (ls' := [(0, .ref ((zg Z).1 42)), (1, .int a1), (2, .int v5), (3, .int l12), (4, .int l12)]) F dX10_atFirst_86 (Nat.le_of_ble_eq_true rfl) rfl ?_
          obtain ⟨v22, ev22, h1⟩ := lt_some h1
          refine r_iinc (pc := 87) (ls' := [(0, .ref ((zg Z).1 42)), (1, .int a1), (2, .int v5), (3, .int l12), (4, .int v22)]) F dX10_atFirst_87 rfl (by rw [ev22]; rfl) (Nat.le_of_ble_eq_true rfl) rfl ?_
          refine r_goto (pc := 90) (tgt := 27) F dX10_atFirst_90 rfl ?_
          exact hP1 (l12, v22, w16) (Option.some.inj h1).symm
      refine r_iload (pc := 27) F dX10_atFirst_27 rfl ?_
      refine r_iconst (pc := 29) F dX10_atFirst_29 ic_1 ?_
      refine r_aload_n (pc := 30) F dX10_atFirst_30 rfl ?_
      refine r_getf (pc := 31) F dX10_atFirst_31 fl_10_88 i68_42 (ce_42 _ _ _) rfl ?_
      refine r_ishl (pc := 34) F dX10_atFirst_34 ?_
      refine r_icmp_ge (pc := 35) (tgt := 93) F dX10_atFirst_35 rfl h1 (fun h1 => ?_) (fun h1 => ?_)
      · refine V_sub (ls' := [(0, .ref ((zg Z).1 42)), (1, .int a1), (2, .int v5), (3, .int l6)]) [0, 1, 2, 3] rfl ?_
        have e9 := hX1 _ (Option.some.inj h1).symm
        cases e9
        exact E27
      · refine r_iload (pc := 38) F dX10_atFirst_38 rfl ?_
        refine r_aload_n (pc := 40) F dX10_atFirst_40 rfl ?_
        obtain ⟨r10, er10, h1⟩ := bind_some h1
        refine r_Vi0 (pc := 41) F dX10_atFirst_41 ml_10_306 (kX10_smallBits _ w8 r10 er10) i68_42 (ce_42 _ _ _) (Nat.le_of_ble_eq_true rfl) (Nat.le_of_ble_eq_true rfl) (Nat.le_of_ble_eq_true rfl) ?_
        refine r_iand (pc := 44) F dX10_atFirst_44 ?_
        refine r_if_ne (pc := 45) (tgt := 87) F dX10_atFirst_45 rfl h1 (fun h1 => ?_) (fun h1 => ?_)
        · refine r_iload_n (pc := 48) F dX10_atFirst_48 rfl ?_
          refine r_if_lt (pc := 49) (tgt := 67) F dX10_atFirst_49 rfl h1 (fun h1 => ?_) (fun h1 => ?_)
          · exact J67 w8 l6 l7 h1
          · refine r_iload (pc := 52) F dX10_atFirst_52 rfl ?_
            obtain ⟨r24, er24, h1⟩ := bind_some h1
            refine r_Si1 (pc := 54) F dX10_atFirst_54 ml_10_231 (kX10_bits _ w8 l7 r24 er24) (Nat.le_of_ble_eq_true rfl) (Nat.le_of_ble_eq_true rfl) (Nat.le_of_ble_eq_true rfl) ?_
            refine r_iload_n (pc := 57) F dX10_atFirst_57 rfl ?_
            obtain ⟨r25, er25, h1⟩ := bind_some h1
            refine r_Si1 (pc := 58) F dX10_atFirst_58 ml_10_231 (kX10_bits _ w8 l6 r25 er25) (Nat.le_of_ble_eq_true rfl) (Nat.le_of_ble_eq_true rfl) (Nat.le_of_ble_eq_true rfl) ?_
            refine r_icmp_lt (pc := 61) (tgt := 67) F dX10_atFirst_61 rfl h1 (fun h1 => ?_) (fun h1 => ?_)
            · exact J67 w8 l6 l7 h1
            · refine r_goto (pc := 64) (tgt := 87) F dX10_atFirst_64 rfl ?_
              obtain ⟨v26, ev26, h1⟩ := lt_some h1
              refine r_iinc (pc := 87) (ls' := [(0, .ref ((zg Z).1 42)), (1, .int a1), (2, .int v5), (3, .int l6), (4, .int v26)]) F dX10_atFirst_87 rfl (by rw [ev26]; rfl) (Nat.le_of_ble_eq_true rfl) rfl ?_
              refine r_goto (pc := 90) (tgt := 27) F dX10_atFirst_90 rfl ?_
              exact hP1 (l6, v26, w8) (Option.some.inj h1).symm
        · obtain ⟨v29, ev29, h1⟩ := lt_some h1
          refine r_iinc (pc := 87) (ls' := [(0, .ref ((zg Z).1 42)), (1, .int a1), (2, .int v5), (3, .int l6), (4, .int v29)]) F dX10_atFirst_87 rfl (by rw [ev29]; rfl) (Nat.le_of_ble_eq_true rfl) rfl ?_
          refine r_goto (pc := 90) (tgt := 27) F dX10_atFirst_90 rfl ?_
          exact hP1 (l6, v29, w8) (Option.some.inj h1).symm
    refine r_aload_n (pc := 93) F dX10_atFirst_93 rfl ?_
    refine r_iload_n (pc := 94) F dX10_atFirst_94 rfl ?_
    obtain ⟨w36, ew36, h0⟩ := lt_some h0
    refine r_putI (pc := 95) F dX10_atFirst_95 fl_10_124 fp_10_7 i68_42 (ce_42 _) (Nat.le_of_ble_eq_true rfl) rfl rfl rfl ew36 ?_
    refine r_iload_n (pc := 98) F dX10_atFirst_98 rfl ?_
    refine r_iconst (pc := 99) F dX10_atFirst_99 ic_1 ?_
    refine r_icmp_eq (pc := 100) (tgt := 107) F dX10_atFirst_100 rfl h0 (fun h0 => ?_) (fun h0 => ?_)
    · refine r_iload_n (pc := 107) F dX10_atFirst_107 rfl ?_
      refine r_goto (pc := 108) (tgt := 115) F dX10_atFirst_108 rfl ?_
      exact hR _ _ _ _ dX10_atFirst_115 rfl (Option.some.inj h0)
    · refine r_iload_n (pc := 103) F dX10_atFirst_103 rfl ?_
      refine r_if_ge (pc := 104) (tgt := 111) F dX10_atFirst_104 rfl h0 (fun h0 => ?_) (fun h0 => ?_)
      · refine r_iload_n (pc := 111) F dX10_atFirst_111 rfl ?_
        obtain ⟨r38, er38, h0⟩ := bind_some h0
        refine r_Si1 (pc := 112) F dX10_atFirst_112 ml_10_231 (kX10_bits _ w36 l33 r38 er38) (Nat.le_of_ble_eq_true rfl) (Nat.le_of_ble_eq_true rfl) (Nat.le_of_ble_eq_true rfl) ?_
        exact hR _ _ _ _ dX10_atFirst_115 rfl (Option.some.inj h0)
      · refine r_iload_n (pc := 107) F dX10_atFirst_107 rfl ?_
        refine r_goto (pc := 108) (tgt := 115) F dX10_atFirst_108 rfl ?_
        exact hR _ _ _ _ dX10_atFirst_115 rfl (Option.some.inj h0)
set_option maxRecDepth 100000 in
set_option maxHeartbeats 4000000 in
theorem kX10_forms (g : GT) (w : Wd) (a1 : Int32) (out : Int32 × Wd) (h0 : fX10_forms w a1 = some out) : CtI g yX10_forms cX10_forms 8 (some .int) 9 196 [.ref (g.1 42), .int a1] w (fun r w1 => (r, w1) = out) := by
  refine CtI_of .int (by decide) (Nat.le_of_ble_eq_true rfl) (fun Z hg F hR => ?_)
  subst hg
  have F : Fx Z RX10 cX10_forms 8 9 196 := F
  refine V_sub (ls' := [(0, .ref ((zg Z).1 42)), (1, .int a1)]) [0, 1] rfl ?_
  unfold fX10_forms at h0
  refine r_iload_n (pc := 0) F dX10_forms_0 rfl ?_
  refine r_iconst (pc := 1) F dX10_forms_1 ic_0 ?_
  refine r_iconst (pc := 2) F dX10_forms_2 ic_1 ?_
  refine r_Si3 (pc := 3) F dX10_forms_3 ml_10_110 (kX10_isIn _ w a1 0 1 _ rfl) (Nat.le_of_ble_eq_true rfl) (Nat.le_of_ble_eq_true rfl) (Nat.le_of_ble_eq_true rfl) ?_
  refine r_if_ne (pc := 6) (tgt := 16) F dX10_forms_6 rfl h0 (fun h0 => ?_) (fun h0 => ?_)
  · refine r_aload_n (pc := 9) F dX10_forms_9 rfl ?_
    refine r_bipush (pc := 10) F dX10_forms_10 bp_m2 ?_
    obtain ⟨q3, er2, h0⟩ := bind_some h0
    replace h0 := un2_eq h0
    obtain ⟨r2, w1, rfl, h0⟩ := h0
    refine r_Vj1 (pc := 12) F dX10_forms_12 ml_10_99 (kX10_no _ w (-2) (r2, w1) er2) i68_42 (ce_42 _ _ _) (Nat.le_of_ble_eq_true rfl) (Nat.le_of_ble_eq_true rfl) (Nat.le_of_ble_eq_true rfl) ?_
    exact hR _ _ _ _ dX10_forms_15 rfl (Option.some.inj h0)
  · refine r_aload_n (pc := 16) F dX10_forms_16 rfl ?_
    refine r_getf (pc := 17) F dX10_forms_17 fl_10_13 i68_42 (ce_42 _ _ _) rfl ?_
    refine r_iconst (pc := 20) F dX10_forms_20 ic_0 ?_
    refine r_iald (pc := 21) (j := 0) F dX10_forms_21 i68_44 (ca_44 _) rfl rfl ?_
    obtain ⟨v5, ev5, h0⟩ := lt_some h0
    refine V_nm ev5 ?_
    refine r_istore_n (pc := 22) (ls' := [(0, .ref ((zg Z).1 42)), (1, .int a1), (2, .int v5)]) F dX10_forms_22 (Nat.le_of_ble_eq_true rfl) rfl ?_
    refine r_aload_n (pc := 23) F dX10_forms_23 rfl ?_
    refine r_getf (pc := 24) F dX10_forms_24 fl_10_13 i68_42 (ce_42 _ _ _) rfl ?_
    refine r_iconst (pc := 27) F dX10_forms_27 ic_1 ?_
    refine r_iald (pc := 28) (j := 1) F dX10_forms_28 i68_44 (ca_44 _) rfl rfl ?_
    obtain ⟨v6, ev6, h0⟩ := lt_some h0
    refine V_nm ev6 ?_
    refine r_istore_n (pc := 29) (ls' := [(0, .ref ((zg Z).1 42)), (1, .int a1), (2, .int v5), (3, .int v6)]) F dX10_forms_29 (Nat.le_of_ble_eq_true rfl) rfl ?_
    refine r_iconst (pc := 30) F dX10_forms_30 ic_1 ?_
    refine r_istore (pc := 31) (ls' := [(0, .ref ((zg Z).1 42)), (1, .int a1), (2, .int v5), (3, .int v6), (4, .int 1)]) F dX10_forms_31 (Nat.le_of_ble_eq_true rfl) rfl ?_
    refine r_bipush (pc := 33) F dX10_forms_33 bp_m9 ?_
    refine r_istore (pc := 35) (ls' := [(0, .ref ((zg Z).1 42)), (1, .int a1), (2, .int v5), (3, .int v6), (4, .int 1), (5, .int (-9))]) F dX10_forms_35 (Nat.le_of_ble_eq_true rfl) rfl ?_
    refine r_iconst (pc := 37) F dX10_forms_37 ic_0 ?_
    refine r_istore (pc := 38) (ls' := [(0, .ref ((zg Z).1 42)), (1, .int a1), (2, .int v5), (3, .int v6), (4, .int 1), (5, .int (-9)), (6, .int 0)]) F dX10_forms_38 (Nat.le_of_ble_eq_true rfl) rfl ?_
    obtain ⟨x26, ix26, h0⟩ := bind_some h0
    replace h0 := un3_eq h0
    obtain ⟨l27, l28, w29, rfl, h0⟩ := h0
    suffices E40 : V Z 114 [(0, .ref ((zg Z).1 42)), (1, .int a1), (2, .int v5), (3, .int v6), (4, .int l27), (5, .int l28)] [] w29 by
      refine iter_rule (P := fun s : Int32 × Int32 × Int32 × Wd => V Z 40 [(0, .ref ((zg Z).1 42)), (1, .int a1), (2, .int v5), (3, .int v6), (4, .int (s.1)), (5, .int (s.2.1)), (6, .int (s.2.2.1))] [] s.2.2.2) (x := (l27, l28, w29)) ?_ FU (1, (-9), 0, w) ix26
      intro s y1 h1 hP1 hX1
      obtain ⟨l7, l8, l9, w10⟩ := s
      have h1 : fX10_forms_b40 l7 l8 l9 w10 = some y1 := h1
      unfold fX10_forms_b40 at h1
      refine r_iload (pc := 40) F dX10_forms_40 rfl ?_
      refine r_bipush (pc := 42) F dX10_forms_42 bp_6 ?_
      refine r_icmp_ge (pc := 44) (tgt := 114) F dX10_forms_44 rfl h1 (fun h1 => ?_) (fun h1 => ?_)
      · refine V_sub (ls' := [(0, .ref ((zg Z).1 42)), (1, .int a1), (2, .int v5), (3, .int v6), (4, .int l7), (5, .int l8)]) [0, 1, 2, 3, 4, 5] rfl ?_
        have e11 := hX1 _ (Option.some.inj h1).symm
        cases e11
        exact E40
      · refine r_aload_n (pc := 47) F dX10_forms_47 rfl ?_
        refine r_getf (pc := 48) F dX10_forms_48 fl_10_13 i68_42 (ce_42 _ _ _) rfl ?_
        refine r_iconst (pc := 51) F dX10_forms_51 ic_0 ?_
        refine r_iload (pc := 52) F dX10_forms_52 rfl ?_
        refine r_iconst (pc := 54) F dX10_forms_54 ic_2 ?_
        refine r_idiv (pc := 55) F dX10_forms_55 (by decide) ?_
        obtain ⟨w12, ew12, h1⟩ := lt_some h1
        refine r_iast (pc := 56) (j := 0) F dX10_forms_56 i68_44 (ca_44 _) rfl rfl ew12 ?_
        refine r_aload_n (pc := 57) F dX10_forms_57 rfl ?_
        refine r_getf (pc := 58) F dX10_forms_58 fl_10_13 i68_42 (ce_42 _ _ _) rfl ?_
        refine r_iconst (pc := 61) F dX10_forms_61 ic_1 ?_
        refine r_iload (pc := 62) F dX10_forms_62 rfl ?_
        refine r_iconst (pc := 64) F dX10_forms_64 ic_2 ?_
        refine r_irem (pc := 65) F dX10_forms_65 (by decide) ?_
        refine r_iconst (pc := 66) F dX10_forms_66 ic_1 ?_
        refine r_iadd (pc := 67) F dX10_forms_67 ?_
        obtain ⟨w14, ew14, h1⟩ := lt_some h1
        refine r_iast (pc := 68) (j := 1) F dX10_forms_68 i68_44 (ca_44 _) rfl rfl ew14 ?_
        refine r_aload_n (pc := 69) F dX10_forms_69 rfl ?_
        obtain ⟨q18, er17, h1⟩ := bind_some h1
        replace h1 := un2_eq h1
        obtain ⟨r17, w16, rfl, h1⟩ := h1
        refine r_Vj0 (pc := 70) F dX10_forms_70 ml_10_241 (kX10_atDoor _ w14 (r17, w16) er17) i68_42 (ce_42 _ _ _) (Nat.le_of_ble_eq_true rfl) (Nat.le_of_ble_eq_true rfl) (Nat.le_of_ble_eq_true rfl) ?_
        obtain ⟨r20, er20, h1⟩ := bind_some h1
        refine r_Si1 (pc := 73) F dX10_forms_73 ml_10_231 (kX10_bits _ w16 r17 r20 er20) (Nat.le_of_ble_eq_true rfl) (Nat.le_of_ble_eq_true rfl) (Nat.le_of_ble_eq_true rfl) ?_
        refine r_istore (pc := 76) (ls' := [(0, .ref ((zg Z).1 42)), (1, .int a1), (2, .int v5), (3, .int v6), (4, .int l7), (5, .int l8), (6, .int l9), (7, .int r20)]) F dX10_forms_76 (Nat.le_of_ble_eq_true rfl) rfl ?_
        refine r_iload (pc := 78) F dX10_forms_78 rfl ?_
        refine r_iload (pc := 80) F dX10_forms_80 rfl ?_
        refine r_icmp_gt (pc := 82) (tgt := 88) F dX10_forms_82 rfl h1 (fun h1 => ?_) (fun h1 => ?_)
        · refine r_bipush (pc := 88) F dX10_forms_88 bp_10 ?_
          refine r_iload (pc := 90) F dX10_forms_90 rfl ?_
          refine r_iconst (pc := 92) F dX10_forms_92 ic_2 ?_
          refine r_idiv (pc := 93) F dX10_forms_93 (by decide) ?_
          refine r_imul (pc := 94) F dX10_forms_94 ?_
          refine r_iload (pc := 95) F dX10_forms_95 rfl ?_
          refine r_iconst (pc := 97) F dX10_forms_97 ic_2 ?_
          refine r_irem (pc := 98) F dX10_forms_98 (by decide) ?_
          refine r_iadd (pc := 99) F dX10_forms_99 ?_
          refine r_iconst (pc := 100) F dX10_forms_100 ic_1 ?_
          refine r_iadd (pc := 101) F dX10_forms_101 ?_
          obtain ⟨v21, ev21, h1⟩ := lt_some h1
          refine V_nm ev21 ?_
          refine r_istore (pc := 102) (ls' := [(0, .ref ((zg Z).1 42)), (1, .int a1), (2, .int v5), (3, .int v6), (4, .int v21), (5, .int l8), (6, .int l9), (7, .int r20)]) F dX10_forms_102 (Nat.le_of_ble_eq_true rfl) rfl ?_
          refine r_iload (pc := 104) F dX10_forms_104 rfl ?_
          refine r_istore (pc := 106) (ls' := [(0, .ref ((zg Z).1 42)), (1, .int a1), (2, .int v5), (3, .int v6), (4, .int v21), (5, .int r20), (6, .int l9), (7, .int r20)]) F dX10_forms_106 (Nat.le_of_ble_eq_true rfl) rfl ?_
          obtain ⟨v22, ev22, h1⟩ := lt_some h1
          refine r_iinc (pc := 108) (ls' := [(0, .ref ((zg Z).1 42)), (1, .int a1), (2, .int v5), (3, .int v6), (4, .int v21), (5, .int r20), (6, .int v22), (7, .int r20)]) F dX10_forms_108 rfl (by rw [ev22]; rfl) (Nat.le_of_ble_eq_true rfl) rfl ?_
          refine r_goto (pc := 111) (tgt := 40) F dX10_forms_111 rfl ?_
          refine V_sub (ls' := [(0, .ref ((zg Z).1 42)), (1, .int a1), (2, .int v5), (3, .int v6), (4, .int v21), (5, .int r20), (6, .int v22)]) [0, 1, 2, 3, 4, 5, 6] rfl ?_
          exact hP1 (v21, r20, v22, w16) (Option.some.inj h1).symm
        · refine r_goto (pc := 85) (tgt := 108) F dX10_forms_85 rfl ?_
          obtain ⟨v23, ev23, h1⟩ := lt_some h1
          refine r_iinc (pc := 108) (ls' := [(0, .ref ((zg Z).1 42)), (1, .int a1), (2, .int v5), (3, .int v6), (4, .int l7), (5, .int l8), (6, .int v23), (7, .int r20)]) F dX10_forms_108 rfl (by rw [ev23]; rfl) (Nat.le_of_ble_eq_true rfl) rfl ?_
          refine r_goto (pc := 111) (tgt := 40) F dX10_forms_111 rfl ?_
          refine V_sub (ls' := [(0, .ref ((zg Z).1 42)), (1, .int a1), (2, .int v5), (3, .int v6), (4, .int l7), (5, .int l8), (6, .int v23)]) [0, 1, 2, 3, 4, 5, 6] rfl ?_
          exact hP1 (l7, l8, v23, w16) (Option.some.inj h1).symm
    refine r_aload_n (pc := 114) F dX10_forms_114 rfl ?_
    refine r_getf (pc := 115) F dX10_forms_115 fl_10_13 i68_42 (ce_42 _ _ _) rfl ?_
    refine r_iconst (pc := 118) F dX10_forms_118 ic_0 ?_
    refine r_iload_n (pc := 119) F dX10_forms_119 rfl ?_
    obtain ⟨w31, ew31, h0⟩ := lt_some h0
    refine r_iast (pc := 120) (j := 0) F dX10_forms_120 i68_44 (ca_44 _) rfl rfl ew31 ?_
    refine r_aload_n (pc := 121) F dX10_forms_121 rfl ?_
    refine r_getf (pc := 122) F dX10_forms_122 fl_10_13 i68_42 (ce_42 _ _ _) rfl ?_
    refine r_iconst (pc := 125) F dX10_forms_125 ic_1 ?_
    refine r_iload_n (pc := 126) F dX10_forms_126 rfl ?_
    obtain ⟨w33, ew33, h0⟩ := lt_some h0
    refine r_iast (pc := 127) (j := 1) F dX10_forms_127 i68_44 (ca_44 _) rfl rfl ew33 ?_
    refine r_iload_n (pc := 128) F dX10_forms_128 rfl ?_
    refine r_if_ne (pc := 129) (tgt := 137) F dX10_forms_129 rfl h0 (fun h0 => ?_) (fun h0 => ?_)
    · refine r_iload (pc := 132) F dX10_forms_132 rfl ?_
      refine r_goto (pc := 134) (tgt := 139) F dX10_forms_134 rfl ?_
      exact hR _ _ _ _ dX10_forms_139 rfl (Option.some.inj h0)
    · refine r_iload (pc := 137) F dX10_forms_137 rfl ?_
      exact hR _ _ _ _ dX10_forms_139 rfl (Option.some.inj h0)
set_option maxRecDepth 100000 in
set_option maxHeartbeats 4000000 in
theorem kX10_doorCalm (g : GT) (w : Wd) (a1 : Int32) (a2 : Int32) (out : Int32 × Wd) (h0 : fX10_doorCalm w a1 a2 = some out) : CtI g yX10_doorCalm cX10_doorCalm 6 (some .int) 9 196 [.ref (g.1 42), .int a1, .int a2] w (fun r w1 => (r, w1) = out) := by
  refine CtI_of .int (by decide) (Nat.le_of_ble_eq_true rfl) (fun Z hg F hR => ?_)
  subst hg
  have F : Fx Z RX10 cX10_doorCalm 6 9 196 := F
  refine V_sub (ls' := [(0, .ref ((zg Z).1 42)), (1, .int a1), (2, .int a2)]) [0, 1, 2] rfl ?_
  unfold fX10_doorCalm at h0
  refine r_aload_n (pc := 0) F dX10_doorCalm_0 rfl ?_
  refine r_getf (pc := 1) F dX10_doorCalm_1 fl_10_22 i68_42 (ce_42 _ _ _) rfl ?_
  refine r_iload_n (pc := 4) F dX10_doorCalm_4 rfl ?_
  obtain ⟨g1, h0⟩ := gd_some h0
  refine r_iald (pc := 5) F dX10_doorCalm_5 i68_47 (ca_47 _) g1 rfl ?_
  obtain ⟨v2, ev2, h0⟩ := lt_some h0
  refine V_nm ev2 ?_
  refine r_istore_n (pc := 6) (ls' := [(0, .ref ((zg Z).1 42)), (1, .int a1), (2, .int a2), (3, .int v2)]) F dX10_doorCalm_6 (Nat.le_of_ble_eq_true rfl) rfl ?_
  refine r_aload_n (pc := 7) F dX10_doorCalm_7 rfl ?_
  refine r_getf (pc := 8) F dX10_doorCalm_8 fl_10_22 i68_42 (ce_42 _ _ _) rfl ?_
  refine r_iload_n (pc := 11) F dX10_doorCalm_11 rfl ?_
  obtain ⟨g3, h0⟩ := gd_some h0
  refine r_iald (pc := 12) F dX10_doorCalm_12 i68_47 (ca_47 _) g3 rfl ?_
  obtain ⟨v4, ev4, h0⟩ := lt_some h0
  refine V_nm ev4 ?_
  refine r_istore (pc := 13) (ls' := [(0, .ref ((zg Z).1 42)), (1, .int a1), (2, .int a2), (3, .int v2), (4, .int v4)]) F dX10_doorCalm_13 (Nat.le_of_ble_eq_true rfl) rfl ?_
  refine r_aload_n (pc := 15) F dX10_doorCalm_15 rfl ?_
  refine r_getf (pc := 16) F dX10_doorCalm_16 fl_10_22 i68_42 (ce_42 _ _ _) rfl ?_
  refine r_iload_n (pc := 19) F dX10_doorCalm_19 rfl ?_
  refine r_iconst (pc := 20) F dX10_doorCalm_20 ic_0 ?_
  obtain ⟨w5, ew5, h0⟩ := lt_some h0
  refine r_iast (pc := 21) F dX10_doorCalm_21 i68_47 (ca_47 _) g1 rfl ew5 ?_
  refine r_aload_n (pc := 22) F dX10_doorCalm_22 rfl ?_
  refine r_getf (pc := 23) F dX10_doorCalm_23 fl_10_22 i68_42 (ce_42 _ _ _) rfl ?_
  refine r_iload_n (pc := 26) F dX10_doorCalm_26 rfl ?_
  refine r_iconst (pc := 27) F dX10_doorCalm_27 ic_0 ?_
  obtain ⟨w7, ew7, h0⟩ := lt_some h0
  refine r_iast (pc := 28) F dX10_doorCalm_28 i68_47 (ca_47 _) g3 rfl ew7 ?_
  refine r_aload_n (pc := 29) F dX10_doorCalm_29 rfl ?_
  obtain ⟨q11, er10, h0⟩ := bind_some h0
  replace h0 := un2_eq h0
  obtain ⟨r10, w9, rfl, h0⟩ := h0
  refine r_Vj0 (pc := 30) F dX10_doorCalm_30 ml_10_241 (kX10_atDoor _ w7 (r10, w9) er10) i68_42 (ce_42 _ _ _) (Nat.le_of_ble_eq_true rfl) (Nat.le_of_ble_eq_true rfl) (Nat.le_of_ble_eq_true rfl) ?_
  obtain ⟨r13, er13, h0⟩ := bind_some h0
  refine r_Si1 (pc := 33) F dX10_doorCalm_33 ml_10_231 (kX10_bits _ w9 r10 r13 er13) (Nat.le_of_ble_eq_true rfl) (Nat.le_of_ble_eq_true rfl) (Nat.le_of_ble_eq_true rfl) ?_
  refine r_istore (pc := 36) (ls' := [(0, .ref ((zg Z).1 42)), (1, .int a1), (2, .int a2), (3, .int v2), (4, .int v4), (5, .int r13)]) F dX10_doorCalm_36 (Nat.le_of_ble_eq_true rfl) rfl ?_
  refine r_aload_n (pc := 38) F dX10_doorCalm_38 rfl ?_
  refine r_getf (pc := 39) F dX10_doorCalm_39 fl_10_22 i68_42 (ce_42 _ _ _) rfl ?_
  refine r_iload_n (pc := 42) F dX10_doorCalm_42 rfl ?_
  refine r_iload (pc := 43) F dX10_doorCalm_43 rfl ?_
  obtain ⟨w14, ew14, h0⟩ := lt_some h0
  refine r_iast (pc := 45) F dX10_doorCalm_45 i68_47 (ca_47 _) g3 rfl ew14 ?_
  refine r_aload_n (pc := 46) F dX10_doorCalm_46 rfl ?_
  refine r_getf (pc := 47) F dX10_doorCalm_47 fl_10_22 i68_42 (ce_42 _ _ _) rfl ?_
  refine r_iload_n (pc := 50) F dX10_doorCalm_50 rfl ?_
  refine r_iload_n (pc := 51) F dX10_doorCalm_51 rfl ?_
  obtain ⟨w16, ew16, h0⟩ := lt_some h0
  refine r_iast (pc := 52) F dX10_doorCalm_52 i68_47 (ca_47 _) g1 rfl ew16 ?_
  refine r_iload (pc := 53) F dX10_doorCalm_53 rfl ?_
  exact hR _ _ _ _ dX10_doorCalm_55 rfl (Option.some.inj h0)
set_option maxRecDepth 100000 in
set_option maxHeartbeats 4000000 in
theorem kX10_calms (g : GT) (w : Wd) (a1 : Int32) (out : Int32 × Wd) (h0 : fX10_calms w a1 = some out) : CtI g yX10_calms cX10_calms 7 (some .int) 10 221 [.ref (g.1 42), .int a1] w (fun r w1 => (r, w1) = out) := by
  refine CtI_of .int (by decide) (Nat.le_of_ble_eq_true rfl) (fun Z hg F hR => ?_)
  subst hg
  have F : Fx Z RX10 cX10_calms 7 10 221 := F
  refine V_sub (ls' := [(0, .ref ((zg Z).1 42)), (1, .int a1)]) [0, 1] rfl ?_
  unfold fX10_calms at h0
  refine r_iload_n (pc := 0) F dX10_calms_0 rfl ?_
  refine r_iconst (pc := 1) F dX10_calms_1 ic_0 ?_
  refine r_iconst (pc := 2) F dX10_calms_2 ic_1 ?_
  refine r_Si3 (pc := 3) F dX10_calms_3 ml_10_110 (kX10_isIn _ w a1 0 1 _ rfl) (Nat.le_of_ble_eq_true rfl) (Nat.le_of_ble_eq_true rfl) (Nat.le_of_ble_eq_true rfl) ?_
  refine r_if_ne (pc := 6) (tgt := 16) F dX10_calms_6 rfl h0 (fun h0 => ?_) (fun h0 => ?_)
  · refine r_aload_n (pc := 9) F dX10_calms_9 rfl ?_
    refine r_bipush (pc := 10) F dX10_calms_10 bp_m2 ?_
    obtain ⟨q3, er2, h0⟩ := bind_some h0
    replace h0 := un2_eq h0
    obtain ⟨r2, w1, rfl, h0⟩ := h0
    refine r_Vj1 (pc := 12) F dX10_calms_12 ml_10_99 (kX10_no _ w (-2) (r2, w1) er2) i68_42 (ce_42 _ _ _) (Nat.le_of_ble_eq_true rfl) (Nat.le_of_ble_eq_true rfl) (Nat.le_of_ble_eq_true rfl) ?_
    exact hR _ _ _ _ dX10_calms_15 rfl (Option.some.inj h0)
  · refine r_aload_n (pc := 16) F dX10_calms_16 rfl ?_
    obtain ⟨q7, er6, h0⟩ := bind_some h0
    replace h0 := un2_eq h0
    obtain ⟨r6, w5, rfl, h0⟩ := h0
    refine r_Vj0 (pc := 17) F dX10_calms_17 ml_10_241 (kX10_atDoor _ w (r6, w5) er6) i68_42 (ce_42 _ _ _) (Nat.le_of_ble_eq_true rfl) (Nat.le_of_ble_eq_true rfl) (Nat.le_of_ble_eq_true rfl) ?_
    obtain ⟨r9, er9, h0⟩ := bind_some h0
    refine r_Si1 (pc := 20) F dX10_calms_20 ml_10_231 (kX10_bits _ w5 r6 r9 er9) (Nat.le_of_ble_eq_true rfl) (Nat.le_of_ble_eq_true rfl) (Nat.le_of_ble_eq_true rfl) ?_
    refine r_istore_n (pc := 23) (ls' := [(0, .ref ((zg Z).1 42)), (1, .int a1), (2, .int r9)]) F dX10_calms_23 (Nat.le_of_ble_eq_true rfl) rfl ?_
    refine r_bipush (pc := 24) F dX10_calms_24 bp_m9 ?_
    refine r_istore_n (pc := 26) (ls' := [(0, .ref ((zg Z).1 42)), (1, .int a1), (2, .int r9), (3, .int (-9))]) F dX10_calms_26 (Nat.le_of_ble_eq_true rfl) rfl ?_
    refine r_aload_n (pc := 27) F dX10_calms_27 rfl ?_
    refine r_getf (pc := 28) F dX10_calms_28 fl_10_127 i68_42 (ce_42 _ _ _) rfl ?_
    obtain ⟨v10, ev10, h0⟩ := lt_some h0
    refine V_nm ev10 ?_
    refine r_istore (pc := 31) (ls' := [(0, .ref ((zg Z).1 42)), (1, .int a1), (2, .int r9), (3, .int (-9)), (4, .int v10)]) F dX10_calms_31 (Nat.le_of_ble_eq_true rfl) rfl ?_
    obtain ⟨x39, ix39, h0⟩ := bind_some h0
    replace h0 := un2_eq h0
    obtain ⟨l40, w41, rfl, h0⟩ := h0
    suffices E33 : V Z 129 [(3, .int l40)] [] w41 by
      refine iter_rule (P := fun s : Int32 × Int32 × Int32 × Wd => V Z 33 [(0, .ref ((zg Z).1 42)), (1, .int a1), (2, .int (s.1)), (3, .int (s.2.1)), (4, .int (s.2.2.1))] [] s.2.2.2) (x := (l40, w41)) ?_ FU (r9, (-9), v10, w5) ix39
      intro s y1 h1 hP1 hX1
      obtain ⟨l11, l12, l13, w14⟩ := s
      have h1 : fX10_calms_b33 a1 l11 l12 l13 w14 = some y1 := h1
      unfold fX10_calms_b33 at h1
      refine r_iload (pc := 33) F dX10_calms_33 rfl ?_
      refine r_aload_n (pc := 35) F dX10_calms_35 rfl ?_
      refine r_Vi0 (pc := 36) F dX10_calms_36 ml_10_130 (kX10_doorAt _ w14 _ rfl) i68_42 (ce_42 _ _ _) (Nat.le_of_ble_eq_true rfl) (Nat.le_of_ble_eq_true rfl) (Nat.le_of_ble_eq_true rfl) ?_
      refine r_icmp_ge (pc := 39) (tgt := 129) F dX10_calms_39 rfl h1 (fun h1 => ?_) (fun h1 => ?_)
      · refine V_sub (ls' := [(3, .int l12)]) [3] rfl ?_
        have e15 := hX1 _ (Option.some.inj h1).symm
        cases e15
        exact E33
      · refine r_iload_n (pc := 42) F dX10_calms_42 rfl ?_
        obtain ⟨v16, hv16, h1⟩ := lt_some h1
        have hv16 := hv16.symm
        suffices Jv16 : V Z 55 [(0, .ref ((zg Z).1 42)), (1, .int a1), (2, .int l11), (3, .int l12), (4, .int l13)] [.int v16] w14 by
          refine r_if_ne (pc := 43) (tgt := 51) F dX10_calms_43 rfl hv16 (fun hv16 => ?_) (fun hv16 => ?_)
          · refine r_iload (pc := 46) F dX10_calms_46 rfl ?_
            refine r_goto (pc := 48) (tgt := 55) F dX10_calms_48 rfl ?_
            exact V_nm hv16.symm Jv16
          · refine r_iload (pc := 51) F dX10_calms_51 rfl ?_
            refine r_iconst (pc := 53) F dX10_calms_53 ic_1 ?_
            refine r_iadd (pc := 54) F dX10_calms_54 ?_
            exact V_nm hv16.symm Jv16
        refine r_istore (pc := 55) (ls' := [(0, .ref ((zg Z).1 42)), (1, .int a1), (2, .int l11), (3, .int l12), (4, .int l13), (5, .int v16)]) F dX10_calms_55 (Nat.le_of_ble_eq_true rfl) rfl ?_
        obtain ⟨x32, ix32, h1⟩ := bind_some h1
        replace h1 := un3_eq h1
        obtain ⟨l33, l34, w35, rfl, h1⟩ := h1
        suffices E57 : V Z 123 [(0, .ref ((zg Z).1 42)), (1, .int a1), (2, .int l33), (3, .int l34), (4, .int l13)] [] w35 by
          refine iter_rule (P := fun s : Int32 × Int32 × Int32 × Wd => V Z 57 [(0, .ref ((zg Z).1 42)), (1, .int a1), (2, .int (s.1)), (3, .int (s.2.1)), (4, .int l13), (5, .int (s.2.2.1))] [] s.2.2.2) (x := (l33, l34, w35)) ?_ FU (l11, l12, v16, w14) ix32
          intro s y2 h2 hP2 hX2
          obtain ⟨l17, l18, l19, w20⟩ := s
          have h2 : fX10_calms_b57 a1 l13 l17 l18 l19 w20 = some y2 := h2
          unfold fX10_calms_b57 at h2
          refine r_iload (pc := 57) F dX10_calms_57 rfl ?_
          refine r_iload_n (pc := 59) F dX10_calms_59 rfl ?_
          obtain ⟨v21, hv21, h2⟩ := lt_some h2
          have hv21 := hv21.symm
          suffices Jv21 : V Z 74 [(0, .ref ((zg Z).1 42)), (1, .int a1), (2, .int l17), (3, .int l18), (4, .int l13), (5, .int l19)] [.int v21, .int l19] w20 by
            refine r_if_ne (pc := 60) (tgt := 70) F dX10_calms_60 rfl hv21 (fun hv21 => ?_) (fun hv21 => ?_)
            · refine r_iload (pc := 63) F dX10_calms_63 rfl ?_
              refine r_iconst (pc := 65) F dX10_calms_65 ic_1 ?_
              refine r_iadd (pc := 66) F dX10_calms_66 ?_
              refine r_goto (pc := 67) (tgt := 74) F dX10_calms_67 rfl ?_
              exact V_nm hv21.symm Jv21
            · refine r_aload_n (pc := 70) F dX10_calms_70 rfl ?_
              refine r_Vi0 (pc := 71) F dX10_calms_71 ml_10_130 (kX10_doorAt _ w20 _ rfl) i68_42 (ce_42 _ _ _) (Nat.le_of_ble_eq_true rfl) (Nat.le_of_ble_eq_true rfl) (Nat.le_of_ble_eq_true rfl) ?_
              exact V_nm hv21.symm Jv21
          refine r_icmp_ge (pc := 74) (tgt := 123) F dX10_calms_74 rfl h2 (fun h2 => ?_) (fun h2 => ?_)
          · refine V_sub (ls' := [(0, .ref ((zg Z).1 42)), (1, .int a1), (2, .int l17), (3, .int l18), (4, .int l13)]) [0, 1, 2, 3, 4] rfl ?_
            have e22 := hX2 _ (Option.some.inj h2).symm
            cases e22
            exact E57
          · refine r_aload_n (pc := 77) F dX10_calms_77 rfl ?_
            refine r_iload (pc := 78) F dX10_calms_78 rfl ?_
            refine r_iload (pc := 80) F dX10_calms_80 rfl ?_
            obtain ⟨q25, er24, h2⟩ := bind_some h2
            replace h2 := un2_eq h2
            obtain ⟨r24, w23, rfl, h2⟩ := h2
            refine r_Vj2 (pc := 82) F dX10_calms_82 ml_10_312 (kX10_doorCalm _ w20 l13 l19 (r24, w23) er24) i68_42 (ce_42 _ _ _) (Nat.le_of_ble_eq_true rfl) (Nat.le_of_ble_eq_true rfl) (Nat.le_of_ble_eq_true rfl) ?_
            refine r_istore (pc := 85) (ls' := [(0, .ref ((zg Z).1 42)), (1, .int a1), (2, .int l17), (3, .int l18), (4, .int l13), (5, .int l19), (6, .int r24)]) F dX10_calms_85 (Nat.le_of_ble_eq_true rfl) rfl ?_
            refine r_iload (pc := 87) F dX10_calms_87 rfl ?_
            refine r_iload_n (pc := 89) F dX10_calms_89 rfl ?_
            refine r_icmp_gt (pc := 90) (tgt := 96) F dX10_calms_90 rfl h2 (fun h2 => ?_) (fun h2 => ?_)
            · refine r_iload (pc := 96) F dX10_calms_96 rfl ?_
              refine r_istore_n (pc := 98) (ls' := [(0, .ref ((zg Z).1 42)), (1, .int a1), (2, .int r24), (3, .int l18), (4, .int l13), (5, .int l19), (6, .int r24)]) F dX10_calms_98 (Nat.le_of_ble_eq_true rfl) rfl ?_
              refine r_iload_n (pc := 99) F dX10_calms_99 rfl ?_
              obtain ⟨v27, hv27, h2⟩ := lt_some h2
              have hv27 := hv27.symm
              suffices Jv27 : V Z 116 [(0, .ref ((zg Z).1 42)), (1, .int a1), (2, .int r24), (3, .int l18), (4, .int l13), (5, .int l19), (6, .int r24)] [.int v27] w23 by
                refine r_if_ne (pc := 100) (tgt := 108) F dX10_calms_100 rfl hv27 (fun hv27 => ?_) (fun hv27 => ?_)
                · refine r_iload (pc := 103) F dX10_calms_103 rfl ?_
                  refine r_goto (pc := 105) (tgt := 116) F dX10_calms_105 rfl ?_
                  exact V_nm hv27.symm Jv27
                · refine r_bipush (pc := 108) F dX10_calms_108 bp_100 ?_
                  refine r_iload (pc := 110) F dX10_calms_110 rfl ?_
                  refine r_imul (pc := 112) F dX10_calms_112 ?_
                  refine r_iload (pc := 113) F dX10_calms_113 rfl ?_
                  refine r_iadd (pc := 115) F dX10_calms_115 ?_
                  exact V_nm hv27.symm Jv27
              refine r_istore_n (pc := 116) (ls' := [(0, .ref ((zg Z).1 42)), (1, .int a1), (2, .int r24), (3, .int v27), (4, .int l13), (5, .int l19), (6, .int r24)]) F dX10_calms_116 (Nat.le_of_ble_eq_true rfl) rfl ?_
              obtain ⟨v28, ev28, h2⟩ := lt_some h2
              refine r_iinc (pc := 117) (ls' := [(0, .ref ((zg Z).1 42)), (1, .int a1), (2, .int r24), (3, .int v27), (4, .int l13), (5, .int v28), (6, .int r24)]) F dX10_calms_117 rfl (by rw [ev28]; rfl) (Nat.le_of_ble_eq_true rfl) rfl ?_
              refine r_goto (pc := 120) (tgt := 57) F dX10_calms_120 rfl ?_
              refine V_sub (ls' := [(0, .ref ((zg Z).1 42)), (1, .int a1), (2, .int r24), (3, .int v27), (4, .int l13), (5, .int v28)]) [0, 1, 2, 3, 4, 5] rfl ?_
              exact hP2 (r24, v27, v28, w23) (Option.some.inj h2).symm
            · refine r_goto (pc := 93) (tgt := 117) F dX10_calms_93 rfl ?_
              obtain ⟨v29, ev29, h2⟩ := lt_some h2
              refine r_iinc (pc := 117) (ls' := [(0, .ref ((zg Z).1 42)), (1, .int a1), (2, .int l17), (3, .int l18), (4, .int l13), (5, .int v29), (6, .int r24)]) F dX10_calms_117 rfl (by rw [ev29]; rfl) (Nat.le_of_ble_eq_true rfl) rfl ?_
              refine r_goto (pc := 120) (tgt := 57) F dX10_calms_120 rfl ?_
              refine V_sub (ls' := [(0, .ref ((zg Z).1 42)), (1, .int a1), (2, .int l17), (3, .int l18), (4, .int l13), (5, .int v29)]) [0, 1, 2, 3, 4, 5] rfl ?_
              exact hP2 (l17, l18, v29, w23) (Option.some.inj h2).symm
        obtain ⟨v37, ev37, h1⟩ := lt_some h1
        refine r_iinc (pc := 123) (ls' := [(0, .ref ((zg Z).1 42)), (1, .int a1), (2, .int l33), (3, .int l34), (4, .int v37)]) F dX10_calms_123 rfl (by rw [ev37]; rfl) (Nat.le_of_ble_eq_true rfl) rfl ?_
        refine r_goto (pc := 126) (tgt := 33) F dX10_calms_126 rfl ?_
        exact hP1 (l33, l34, v37, w35) (Option.some.inj h1).symm
    refine r_iload_n (pc := 129) F dX10_calms_129 rfl ?_
    exact hR _ _ _ _ dX10_calms_130 rfl (Option.some.inj h0)
set_option maxRecDepth 100000 in
set_option maxHeartbeats 4000000 in
theorem kX10_farthest (g : GT) (w : Wd) (out : Int32 × Wd) (h0 : fX10_farthest w = some out) : CtI g yX10_farthest cX10_farthest 4 (some .int) 9 196 [.ref (g.1 42)] w (fun r w1 => (r, w1) = out) := by
  refine CtI_of .int (by decide) (Nat.le_of_ble_eq_true rfl) (fun Z hg F hR => ?_)
  subst hg
  have F : Fx Z RX10 cX10_farthest 4 9 196 := F
  refine V_sub (ls' := [(0, .ref ((zg Z).1 42))]) [0] rfl ?_
  unfold fX10_farthest at h0
  have J56 : ∀ (w25 : Wd) (l23 : Int32) (l24 : Int32), fX10_farthest_j56 w25 l23 l24 = some out → V Z 56 [(0, .ref ((zg Z).1 42)), (1, .int l23), (2, .int l24)] [] w25 := by
    intro w25 l23 l24 h0
    unfold fX10_farthest_j56 at h0
    refine r_aload_n (pc := 56) F dX10_farthest_56 rfl ?_
    refine r_getf (pc := 57) F dX10_farthest_57 fl_10_13 i68_42 (ce_42 _ _ _) rfl ?_
    refine r_iconst (pc := 60) F dX10_farthest_60 ic_2 ?_
    refine r_iload_n (pc := 61) F dX10_farthest_61 rfl ?_
    obtain ⟨w26, ew26, h0⟩ := lt_some h0
    refine r_iast (pc := 62) (j := 2) F dX10_farthest_62 i68_44 (ca_44 _) rfl rfl ew26 ?_
    refine r_iload_n (pc := 63) F dX10_farthest_63 rfl ?_
    exact hR _ _ _ _ dX10_farthest_64 rfl (Option.some.inj h0)
  refine r_aload_n (pc := 0) F dX10_farthest_0 rfl ?_
  refine r_getf (pc := 1) F dX10_farthest_1 fl_10_13 i68_42 (ce_42 _ _ _) rfl ?_
  refine r_iconst (pc := 4) F dX10_farthest_4 ic_2 ?_
  refine r_iald (pc := 5) (j := 2) F dX10_farthest_5 i68_44 (ca_44 _) rfl rfl ?_
  obtain ⟨v1, ev1, h0⟩ := lt_some h0
  refine V_nm ev1 ?_
  refine r_istore_n (pc := 6) (ls' := [(0, .ref ((zg Z).1 42)), (1, .int v1)]) F dX10_farthest_6 (Nat.le_of_ble_eq_true rfl) rfl ?_
  refine r_bipush (pc := 7) F dX10_farthest_7 bp_m9 ?_
  refine r_istore_n (pc := 9) (ls' := [(0, .ref ((zg Z).1 42)), (1, .int v1), (2, .int (-9))]) F dX10_farthest_9 (Nat.le_of_ble_eq_true rfl) rfl ?_
  refine r_bipush (pc := 10) F dX10_farthest_10 bp_24 ?_
  refine r_istore_n (pc := 12) (ls' := [(0, .ref ((zg Z).1 42)), (1, .int v1), (2, .int (-9)), (3, .int 24)]) F dX10_farthest_12 (Nat.le_of_ble_eq_true rfl) rfl ?_
  obtain ⟨x19, ix19, h0⟩ := bind_some h0
  replace h0 := un2_eq h0
  obtain ⟨l20, w21, rfl, h0⟩ := h0
  suffices E13 : V Z 56 [(0, .ref ((zg Z).1 42)), (1, .int v1), (2, .int l20)] [] w21 by
    refine iter_rule (P := fun s : Int32 × Int32 × Wd => V Z 13 [(0, .ref ((zg Z).1 42)), (1, .int v1), (2, .int (s.1)), (3, .int (s.2.1))] [] s.2.2) (x := (l20, w21)) ?_ FU ((-9), 24, w) ix19
    intro s y1 h1 hP1 hX1
    obtain ⟨l2, l3, w4⟩ := s
    have h1 : fX10_farthest_b13 l2 l3 w4 = some y1 := h1
    unfold fX10_farthest_b13 at h1
    refine r_iload_n (pc := 13) F dX10_farthest_13 rfl ?_
    refine r_aload_n (pc := 14) F dX10_farthest_14 rfl ?_
    refine r_getf (pc := 15) F dX10_farthest_15 fl_10_127 i68_42 (ce_42 _ _ _) rfl ?_
    refine r_icmp_lt (pc := 18) (tgt := 56) F dX10_farthest_18 rfl h1 (fun h1 => ?_) (fun h1 => ?_)
    · refine V_sub (ls' := [(0, .ref ((zg Z).1 42)), (1, .int v1), (2, .int l2)]) [0, 1, 2] rfl ?_
      have e5 := hX1 _ (Option.some.inj h1).symm
      cases e5
      exact E13
    · refine r_iload_n (pc := 21) F dX10_farthest_21 rfl ?_
      refine r_if_le (pc := 22) (tgt := 56) F dX10_farthest_22 rfl h1 (fun h1 => ?_) (fun h1 => ?_)
      · refine V_sub (ls' := [(0, .ref ((zg Z).1 42)), (1, .int v1), (2, .int l2)]) [0, 1, 2] rfl ?_
        have e6 := hX1 _ (Option.some.inj h1).symm
        cases e6
        exact E13
      · refine r_iload_n (pc := 25) F dX10_farthest_25 rfl ?_
        refine r_if_ge (pc := 26) (tgt := 56) F dX10_farthest_26 rfl h1 (fun h1 => ?_) (fun h1 => ?_)
        · refine V_sub (ls' := [(0, .ref ((zg Z).1 42)), (1, .int v1), (2, .int l2)]) [0, 1, 2] rfl ?_
          have e7 := hX1 _ (Option.some.inj h1).symm
          cases e7
          exact E13
        · refine r_aload_n (pc := 29) F dX10_farthest_29 rfl ?_
          refine r_getf (pc := 30) F dX10_farthest_30 fl_10_13 i68_42 (ce_42 _ _ _) rfl ?_
          refine r_iconst (pc := 33) F dX10_farthest_33 ic_2 ?_
          refine r_iload_n (pc := 34) F dX10_farthest_34 rfl ?_
          obtain ⟨w8, ew8, h1⟩ := lt_some h1
          refine r_iast (pc := 35) (j := 2) F dX10_farthest_35 i68_44 (ca_44 _) rfl rfl ew8 ?_
          refine r_aload_n (pc := 36) F dX10_farthest_36 rfl ?_
          obtain ⟨q12, er11, h1⟩ := bind_some h1
          replace h1 := un2_eq h1
          obtain ⟨r11, w10, rfl, h1⟩ := h1
          refine r_Vj0 (pc := 37) F dX10_farthest_37 ml_10_241 (kX10_atDoor _ w8 (r11, w10) er11) i68_42 (ce_42 _ _ _) (Nat.le_of_ble_eq_true rfl) (Nat.le_of_ble_eq_true rfl) (Nat.le_of_ble_eq_true rfl) ?_
          obtain ⟨v14, hv14, h1⟩ := lt_some h1
          have hv14 := hv14.symm
          suffices Jv14 : V Z 49 [(0, .ref ((zg Z).1 42)), (1, .int v1), (2, .int l2), (3, .int l3)] [.int v14] w10 by
            refine r_if_eq (pc := 40) (tgt := 47) F dX10_farthest_40 rfl hv14 (fun hv14 => ?_) (fun hv14 => ?_)
            · refine r_bipush (pc := 47) F dX10_farthest_47 bp_m9 ?_
              exact V_nm hv14.symm Jv14
            · refine r_iload_n (pc := 43) F dX10_farthest_43 rfl ?_
              refine r_goto (pc := 44) (tgt := 49) F dX10_farthest_44 rfl ?_
              exact V_nm hv14.symm Jv14
          refine r_istore_n (pc := 49) (ls' := [(0, .ref ((zg Z).1 42)), (1, .int v1), (2, .int v14), (3, .int l3)]) F dX10_farthest_49 (Nat.le_of_ble_eq_true rfl) rfl ?_
          obtain ⟨v15, ev15, h1⟩ := lt_some h1
          refine r_iinc (pc := 50) (ls' := [(0, .ref ((zg Z).1 42)), (1, .int v1), (2, .int v14), (3, .int v15)]) F dX10_farthest_50 rfl (by rw [ev15]; rfl) (Nat.le_of_ble_eq_true rfl) rfl ?_
          refine r_goto (pc := 53) (tgt := 13) F dX10_farthest_53 rfl ?_
          exact hP1 (v14, v15, w10) (Option.some.inj h1).symm
  exact J56 w21 v1 l20 h0
set_option maxRecDepth 100000 in
set_option maxHeartbeats 4000000 in
theorem kX10_turned (g : GT) (w : Wd) (out : Int32 × Wd) (h0 : fX10_turned w = some out) : CtI g yX10_turned cX10_turned 2 (some .int) 9 196 [.ref (g.1 42)] w (fun r w1 => (r, w1) = out) := by
  refine CtI_of .int (by decide) (Nat.le_of_ble_eq_true rfl) (fun Z hg F hR => ?_)
  subst hg
  have F : Fx Z RX10 cX10_turned 2 9 196 := F
  refine V_sub (ls' := [(0, .ref ((zg Z).1 42))]) [0] rfl ?_
  unfold fX10_turned at h0
  refine r_aload_n (pc := 0) F dX10_turned_0 rfl ?_
  refine r_iconst (pc := 1) F dX10_turned_1 ic_1 ?_
  refine r_iconst (pc := 2) F dX10_turned_2 ic_1 ?_
  obtain ⟨w1, ew1, h0⟩ := bind_some h0
  refine r_Vv2 (pc := 3) F dX10_turned_3 ml_10_157 (kX10_passesAll _ w 1 1 w1 ew1) i68_42 (ce_42 _ _ _) (Nat.le_of_ble_eq_true rfl) (Nat.le_of_ble_eq_true rfl) (Nat.le_of_ble_eq_true rfl) ?_
  refine r_iconst (pc := 6) F dX10_turned_6 ic_0 ?_
  refine r_istore_n (pc := 7) (ls' := [(0, .ref ((zg Z).1 42)), (1, .int 0)]) F dX10_turned_7 (Nat.le_of_ble_eq_true rfl) rfl ?_
  obtain ⟨w11, iw11, h0⟩ := bind_some h0
  suffices E8 : V Z 37 [(0, .ref ((zg Z).1 42))] [] w11 by
    refine iter_rule (P := fun s : Int32 × Wd => V Z 8 [(0, .ref ((zg Z).1 42)), (1, .int (s.1))] [] s.2) (x := w11) ?_ FU (0, w1) iw11
    intro s y1 h1 hP1 hX1
    obtain ⟨l3, w4⟩ := s
    have h1 : fX10_turned_b8 l3 w4 = some y1 := h1
    unfold fX10_turned_b8 at h1
    refine r_iload_n (pc := 8) F dX10_turned_8 rfl ?_
    refine r_aload_n (pc := 9) F dX10_turned_9 rfl ?_
    refine r_getf (pc := 10) F dX10_turned_10 fl_10_88 i68_42 (ce_42 _ _ _) rfl ?_
    refine r_iconst (pc := 13) F dX10_turned_13 ic_2 ?_
    refine r_idiv (pc := 14) F dX10_turned_14 (by decide) ?_
    refine r_icmp_ge (pc := 15) (tgt := 37) F dX10_turned_15 rfl h1 (fun h1 => ?_) (fun h1 => ?_)
    · refine V_sub (ls' := [(0, .ref ((zg Z).1 42))]) [0] rfl ?_
      have e5 := hX1 _ (Option.some.inj h1).symm
      cases e5
      exact E8
    · refine r_aload_n (pc := 18) F dX10_turned_18 rfl ?_
      refine r_iload_n (pc := 19) F dX10_turned_19 rfl ?_
      refine r_aload_n (pc := 20) F dX10_turned_20 rfl ?_
      refine r_getf (pc := 21) F dX10_turned_21 fl_10_88 i68_42 (ce_42 _ _ _) rfl ?_
      refine r_iconst (pc := 24) F dX10_turned_24 ic_1 ?_
      refine r_isub (pc := 25) F dX10_turned_25 ?_
      refine r_iload_n (pc := 26) F dX10_turned_26 rfl ?_
      refine r_isub (pc := 27) F dX10_turned_27 ?_
      obtain ⟨w6, ew6, h1⟩ := bind_some h1
      refine r_Vv2 (pc := 28) F dX10_turned_28 ml_10_253 (kX10_exchanges _ w4 l3 (((w4.1 42 6) - 1) - l3) w6 ew6) i68_42 (ce_42 _ _ _) (Nat.le_of_ble_eq_true rfl) (Nat.le_of_ble_eq_true rfl) (Nat.le_of_ble_eq_true rfl) ?_
      obtain ⟨v8, ev8, h1⟩ := lt_some h1
      refine r_iinc (pc := 31) (ls' := [(0, .ref ((zg Z).1 42)), (1, .int v8)]) F dX10_turned_31 rfl (by rw [ev8]; rfl) (Nat.le_of_ble_eq_true rfl) rfl ?_
      refine r_goto (pc := 34) (tgt := 8) F dX10_turned_34 rfl ?_
      exact hP1 (v8, w6) (Option.some.inj h1).symm
  refine r_aload_n (pc := 37) F dX10_turned_37 rfl ?_
  obtain ⟨q15, er14, h0⟩ := bind_some h0
  replace h0 := un2_eq h0
  obtain ⟨r14, w13, rfl, h0⟩ := h0
  refine r_Vj0 (pc := 38) F dX10_turned_38 ml_10_241 (kX10_atDoor _ w11 (r14, w13) er14) i68_42 (ce_42 _ _ _) (Nat.le_of_ble_eq_true rfl) (Nat.le_of_ble_eq_true rfl) (Nat.le_of_ble_eq_true rfl) ?_
  obtain ⟨r17, er17, h0⟩ := bind_some h0
  refine r_Si1 (pc := 41) F dX10_turned_41 ml_10_231 (kX10_bits _ w13 r14 r17 er17) (Nat.le_of_ble_eq_true rfl) (Nat.le_of_ble_eq_true rfl) (Nat.le_of_ble_eq_true rfl) ?_
  refine r_istore_n (pc := 44) (ls' := [(0, .ref ((zg Z).1 42)), (1, .int r17)]) F dX10_turned_44 (Nat.le_of_ble_eq_true rfl) rfl ?_
  refine r_aload_n (pc := 45) F dX10_turned_45 rfl ?_
  refine r_iconst (pc := 46) F dX10_turned_46 ic_1 ?_
  refine r_iconst (pc := 47) F dX10_turned_47 ic_0 ?_
  obtain ⟨w18, ew18, h0⟩ := bind_some h0
  refine r_Vv2 (pc := 48) F dX10_turned_48 ml_10_157 (kX10_passesAll _ w13 1 0 w18 ew18) i68_42 (ce_42 _ _ _) (Nat.le_of_ble_eq_true rfl) (Nat.le_of_ble_eq_true rfl) (Nat.le_of_ble_eq_true rfl) ?_
  refine r_iload_n (pc := 51) F dX10_turned_51 rfl ?_
  exact hR _ _ _ _ dX10_turned_52 rfl (Option.some.inj h0)
set_option maxRecDepth 100000 in
set_option maxHeartbeats 4000000 in
theorem kX10_goesCounting (g : GT) (w : Wd) (a1 : Int32) (out : Wd) (h0 : fX10_goesCounting w a1 = some out) : CtV g yX10_goesCounting cX10_goesCounting 3 none 7 155 [.ref (g.1 42), .int a1] w (fun w1 => w1 = out) := by
  refine CtV_of (by decide) (Nat.le_of_ble_eq_true rfl) (fun Z hg F hR => ?_)
  subst hg
  have F : Fx Z RX10 cX10_goesCounting 3 7 155 := F
  refine V_sub (ls' := [(0, .ref ((zg Z).1 42)), (1, .int a1)]) [0, 1] rfl ?_
  unfold fX10_goesCounting at h0
  refine r_aload_n (pc := 0) F dX10_goesCounting_0 rfl ?_
  refine r_iconst (pc := 1) F dX10_goesCounting_1 ic_0 ?_
  obtain ⟨w1, ew1, h0⟩ := lt_some h0
  refine r_putI (pc := 2) F dX10_goesCounting_2 fl_10_315 fp_10_37 i68_42 (ce_42 _) (Nat.le_of_ble_eq_true rfl) rfl rfl rfl ew1 ?_
  refine r_aload_n (pc := 5) F dX10_goesCounting_5 rfl ?_
  refine r_iconst (pc := 6) F dX10_goesCounting_6 ic_0 ?_
  obtain ⟨w3, ew3, h0⟩ := lt_some h0
  refine r_putI (pc := 7) F dX10_goesCounting_7 fl_10_209 fp_10_23 i68_42 (ce_42 _) (Nat.le_of_ble_eq_true rfl) rfl rfl rfl ew3 ?_
  refine r_iconst (pc := 10) F dX10_goesCounting_10 ic_0 ?_
  refine r_istore_n (pc := 11) (ls' := [(0, .ref ((zg Z).1 42)), (1, .int a1), (2, .int 0)]) F dX10_goesCounting_11 (Nat.le_of_ble_eq_true rfl) rfl ?_
  obtain ⟨w14, iw14, h0⟩ := bind_some h0
  suffices E12 : V Z 31 [(0, .ref ((zg Z).1 42)), (1, .int a1)] [] w14 by
    refine iter_rule (P := fun s : Int32 × Wd => V Z 12 [(0, .ref ((zg Z).1 42)), (1, .int a1), (2, .int (s.1))] [] s.2) (x := w14) ?_ FU (0, w3) iw14
    intro s y1 h1 hP1 hX1
    obtain ⟨l5, w6⟩ := s
    have h1 : fX10_goesCounting_b12 l5 w6 = some y1 := h1
    unfold fX10_goesCounting_b12 at h1
    refine r_iload_n (pc := 12) F dX10_goesCounting_12 rfl ?_
    refine r_bipush (pc := 13) F dX10_goesCounting_13 bp_8 ?_
    refine r_icmp_ge (pc := 15) (tgt := 31) F dX10_goesCounting_15 rfl h1 (fun h1 => ?_) (fun h1 => ?_)
    · refine V_sub (ls' := [(0, .ref ((zg Z).1 42)), (1, .int a1)]) [0, 1] rfl ?_
      have e7 := hX1 _ (Option.some.inj h1).symm
      cases e7
      exact E12
    · refine r_aload_n (pc := 18) F dX10_goesCounting_18 rfl ?_
      refine r_getf (pc := 19) F dX10_goesCounting_19 fl_10_46 i68_42 (ce_42 _ _ _) rfl ?_
      refine r_iload_n (pc := 22) F dX10_goesCounting_22 rfl ?_
      refine r_iload_n (pc := 23) F dX10_goesCounting_23 rfl ?_
      obtain ⟨g9, h1⟩ := gd_some h1
      obtain ⟨w8, ew8, h1⟩ := lt_some h1
      refine r_iast (pc := 24) F dX10_goesCounting_24 i68_55 (ca_55 _) g9 rfl ew8 ?_
      obtain ⟨v11, ev11, h1⟩ := lt_some h1
      refine r_iinc (pc := 25) (ls' := [(0, .ref ((zg Z).1 42)), (1, .int a1), (2, .int v11)]) F dX10_goesCounting_25 rfl (by rw [ev11]; rfl) (Nat.le_of_ble_eq_true rfl) rfl ?_
      refine r_goto (pc := 28) (tgt := 12) F dX10_goesCounting_28 rfl ?_
      exact hP1 (v11, w8) (Option.some.inj h1).symm
  obtain ⟨w28, iw28, h0⟩ := bind_some h0
  suffices E31 : V Z 83 [] [] w28 by
    refine iter_rule (P := fun s : Wd => V Z 31 [(0, .ref ((zg Z).1 42)), (1, .int a1)] [] s) (x := w28) ?_ FU w14 iw28
    intro s y1 h1 hP1 hX1
    obtain ⟨w16, rfl⟩ : ∃ z, z = s := ⟨s, rfl⟩
    have h1 : fX10_goesCounting_b31 a1 w16 = some y1 := h1
    unfold fX10_goesCounting_b31 at h1
    refine r_aload_n (pc := 31) F dX10_goesCounting_31 rfl ?_
    refine r_getf (pc := 32) F dX10_goesCounting_32 fl_10_127 i68_42 (ce_42 _ _ _) rfl ?_
    refine r_aload_n (pc := 35) F dX10_goesCounting_35 rfl ?_
    refine r_Vi0 (pc := 36) F dX10_goesCounting_36 ml_10_130 (kX10_doorAt _ w16 _ rfl) i68_42 (ce_42 _ _ _) (Nat.le_of_ble_eq_true rfl) (Nat.le_of_ble_eq_true rfl) (Nat.le_of_ble_eq_true rfl) ?_
    refine r_icmp_ge (pc := 39) (tgt := 83) F dX10_goesCounting_39 rfl h1 (fun h1 => ?_) (fun h1 => ?_)
    · refine V_sub (ls' := []) [] rfl ?_
      have e17 := hX1 _ (Option.some.inj h1).symm
      cases e17
      exact E31
    · refine r_aload_n (pc := 42) F dX10_goesCounting_42 rfl ?_
      refine r_dup (pc := 43) F dX10_goesCounting_43 rfl ?_
      refine r_getf (pc := 44) F dX10_goesCounting_44 fl_10_315 i68_42 (ce_42 _ _ _) rfl ?_
      refine r_aload_n (pc := 47) F dX10_goesCounting_47 rfl ?_
      refine r_getf (pc := 48) F dX10_goesCounting_48 fl_10_124 i68_42 (ce_42 _ _ _) rfl ?_
      refine r_iload_n (pc := 51) F dX10_goesCounting_51 rfl ?_
      refine r_Si2 (pc := 52) F dX10_goesCounting_52 ml_10_147 (kX10_has _ w16 (w16.1 42 7) a1 _ rfl) (Nat.le_of_ble_eq_true rfl) (Nat.le_of_ble_eq_true rfl) (Nat.le_of_ble_eq_true rfl) ?_
      obtain ⟨v19, hv19, h1⟩ := bind_some h1
      suffices Jv19 : V Z 71 [(0, .ref ((zg Z).1 42)), (1, .int a1)] [.int v19, .int (w16.1 42 37), .ref ((zg Z).1 42)] w16 by
        refine r_if_eq (pc := 55) (tgt := 70) F dX10_goesCounting_55 rfl hv19 (fun hv19 => ?_) (fun hv19 => ?_)
        · refine r_iconst (pc := 70) F dX10_goesCounting_70 ic_0 ?_
          exact V_nm (Option.some.inj hv19).symm Jv19
        · refine r_aload_n (pc := 58) F dX10_goesCounting_58 rfl ?_
          refine r_iload_n (pc := 59) F dX10_goesCounting_59 rfl ?_
          obtain ⟨r20, er20, hv19⟩ := bind_some hv19
          refine r_Vi1 (pc := 60) F dX10_goesCounting_60 ml_10_203 (kX10_holds _ w16 a1 r20 er20) i68_42 (ce_42 _ _ _) (Nat.le_of_ble_eq_true rfl) (Nat.le_of_ble_eq_true rfl) (Nat.le_of_ble_eq_true rfl) ?_
          refine r_if_ne (pc := 63) (tgt := 70) F dX10_goesCounting_63 rfl hv19 (fun hv19 => ?_) (fun hv19 => ?_)
          · refine r_iconst (pc := 66) F dX10_goesCounting_66 ic_1 ?_
            refine r_goto (pc := 67) (tgt := 71) F dX10_goesCounting_67 rfl ?_
            exact V_nm (Option.some.inj hv19).symm Jv19
          · refine r_iconst (pc := 70) F dX10_goesCounting_70 ic_0 ?_
            exact V_nm (Option.some.inj hv19).symm Jv19
      refine r_iadd (pc := 71) F dX10_goesCounting_71 ?_
      obtain ⟨w22, ew22, h1⟩ := lt_some h1
      refine r_putI (pc := 72) F dX10_goesCounting_72 fl_10_315 fp_10_37 i68_42 (ce_42 _) (Nat.le_of_ble_eq_true rfl) rfl rfl rfl ew22 ?_
      refine r_aload_n (pc := 75) F dX10_goesCounting_75 rfl ?_
      refine r_iconst (pc := 76) F dX10_goesCounting_76 ic_0 ?_
      obtain ⟨w24, ew24, h1⟩ := bind_some h1
      refine r_Vv1 (pc := 77) F dX10_goesCounting_77 ml_10_136 (kX10_goes _ w22 0 w24 ew24) i68_42 (ce_42 _ _ _) (Nat.le_of_ble_eq_true rfl) (Nat.le_of_ble_eq_true rfl) (Nat.le_of_ble_eq_true rfl) ?_
      refine r_goto (pc := 80) (tgt := 31) F dX10_goesCounting_80 rfl ?_
      exact hP1 w24 (Option.some.inj h1).symm
  exact hR _ _ _ dX10_goesCounting_83 (Option.some.inj h0)
set_option maxRecDepth 100000 in
set_option maxHeartbeats 4000000 in
theorem kX10_flame (g : GT) (w : Wd) (a1 : Int32) (out : Int32 × Wd) (h0 : fX10_flame w a1 = some out) : CtI g yX10_flame cX10_flame 3 (some .int) 8 177 [.ref (g.1 42), .int a1] w (fun r w1 => (r, w1) = out) := by
  refine CtI_of .int (by decide) (Nat.le_of_ble_eq_true rfl) (fun Z hg F hR => ?_)
  subst hg
  have F : Fx Z RX10 cX10_flame 3 8 177 := F
  refine V_sub (ls' := [(0, .ref ((zg Z).1 42)), (1, .int a1)]) [0, 1] rfl ?_
  unfold fX10_flame at h0
  refine r_aload_n (pc := 0) F dX10_flame_0 rfl ?_
  refine r_iload_n (pc := 1) F dX10_flame_1 rfl ?_
  refine r_Vi1 (pc := 2) F dX10_flame_2 ml_10_144 (kX10_isPerson _ w a1 _ rfl) i68_42 (ce_42 _ _ _) (Nat.le_of_ble_eq_true rfl) (Nat.le_of_ble_eq_true rfl) (Nat.le_of_ble_eq_true rfl) ?_
  refine r_if_ne (pc := 5) (tgt := 14) F dX10_flame_5 rfl h0 (fun h0 => ?_) (fun h0 => ?_)
  · refine r_aload_n (pc := 8) F dX10_flame_8 rfl ?_
    refine r_iconst (pc := 9) F dX10_flame_9 ic_m1 ?_
    obtain ⟨q3, er2, h0⟩ := bind_some h0
    replace h0 := un2_eq h0
    obtain ⟨r2, w1, rfl, h0⟩ := h0
    refine r_Vj1 (pc := 10) F dX10_flame_10 ml_10_99 (kX10_no _ w (-1) (r2, w1) er2) i68_42 (ce_42 _ _ _) (Nat.le_of_ble_eq_true rfl) (Nat.le_of_ble_eq_true rfl) (Nat.le_of_ble_eq_true rfl) ?_
    exact hR _ _ _ _ dX10_flame_13 rfl (Option.some.inj h0)
  · refine r_aload_n (pc := 14) F dX10_flame_14 rfl ?_
    refine r_iconst (pc := 15) F dX10_flame_15 ic_1 ?_
    refine r_iconst (pc := 16) F dX10_flame_16 ic_1 ?_
    obtain ⟨w5, ew5, h0⟩ := bind_some h0
    refine r_Vv2 (pc := 17) F dX10_flame_17 ml_10_157 (kX10_passesAll _ w 1 1 w5 ew5) i68_42 (ce_42 _ _ _) (Nat.le_of_ble_eq_true rfl) (Nat.le_of_ble_eq_true rfl) (Nat.le_of_ble_eq_true rfl) ?_
    refine r_aload_n (pc := 20) F dX10_flame_20 rfl ?_
    refine r_iload_n (pc := 21) F dX10_flame_21 rfl ?_
    obtain ⟨w7, ew7, h0⟩ := bind_some h0
    refine r_Vv1 (pc := 22) F dX10_flame_22 ml_10_318 (kX10_goesCounting _ w5 a1 w7 ew7) i68_42 (ce_42 _ _ _) (Nat.le_of_ble_eq_true rfl) (Nat.le_of_ble_eq_true rfl) (Nat.le_of_ble_eq_true rfl) ?_
    refine r_aload_n (pc := 25) F dX10_flame_25 rfl ?_
    refine r_getf (pc := 26) F dX10_flame_26 fl_10_124 i68_42 (ce_42 _ _ _) rfl ?_
    refine r_iload_n (pc := 29) F dX10_flame_29 rfl ?_
    refine r_Si2 (pc := 30) F dX10_flame_30 ml_10_147 (kX10_has _ w7 (w7.1 42 7) a1 _ rfl) (Nat.le_of_ble_eq_true rfl) (Nat.le_of_ble_eq_true rfl) (Nat.le_of_ble_eq_true rfl) ?_
    obtain ⟨v10, hv10, h0⟩ := bind_some h0
    suffices Jv10 : V Z 47 [(0, .ref ((zg Z).1 42)), (1, .int a1)] [.int v10] w7 by
      refine r_if_eq (pc := 33) (tgt := 45) F dX10_flame_33 rfl hv10 (fun hv10 => ?_) (fun hv10 => ?_)
      · refine r_bipush (pc := 45) F dX10_flame_45 bp_m9 ?_
        exact V_nm (Option.some.inj hv10).symm Jv10
      · refine r_aload_n (pc := 36) F dX10_flame_36 rfl ?_
        refine r_getf (pc := 37) F dX10_flame_37 fl_10_46 i68_42 (ce_42 _ _ _) rfl ?_
        refine r_iload_n (pc := 40) F dX10_flame_40 rfl ?_
        obtain ⟨g11, hv10⟩ := gd_some hv10
        refine r_iald (pc := 41) F dX10_flame_41 i68_55 (ca_55 _) g11 rfl ?_
        refine r_goto (pc := 42) (tgt := 47) F dX10_flame_42 rfl ?_
        exact V_nm (Option.some.inj hv10).symm Jv10
    refine r_istore_n (pc := 47) (ls' := [(0, .ref ((zg Z).1 42)), (1, .int a1), (2, .int v10)]) F dX10_flame_47 (Nat.le_of_ble_eq_true rfl) rfl ?_
    refine r_aload_n (pc := 48) F dX10_flame_48 rfl ?_
    refine r_iconst (pc := 49) F dX10_flame_49 ic_1 ?_
    refine r_iconst (pc := 50) F dX10_flame_50 ic_0 ?_
    obtain ⟨w12, ew12, h0⟩ := bind_some h0
    refine r_Vv2 (pc := 51) F dX10_flame_51 ml_10_157 (kX10_passesAll _ w7 1 0 w12 ew12) i68_42 (ce_42 _ _ _) (Nat.le_of_ble_eq_true rfl) (Nat.le_of_ble_eq_true rfl) (Nat.le_of_ble_eq_true rfl) ?_
    refine r_iload_n (pc := 54) F dX10_flame_54 rfl ?_
    exact hR _ _ _ _ dX10_flame_55 rfl (Option.some.inj h0)
set_option maxRecDepth 100000 in
set_option maxHeartbeats 4000000 in
theorem kX10_out (g : GT) (w : Wd) (a1 : Int32) (out : Int32 × Wd) (h0 : fX10_out w a1 = some out) : CtI g yX10_out cX10_out 2 (some .int) 8 177 [.ref (g.1 42), .int a1] w (fun r w1 => (r, w1) = out) := by
  refine CtI_of .int (by decide) (Nat.le_of_ble_eq_true rfl) (fun Z hg F hR => ?_)
  subst hg
  have F : Fx Z RX10 cX10_out 2 8 177 := F
  refine V_sub (ls' := [(0, .ref ((zg Z).1 42)), (1, .int a1)]) [0, 1] rfl ?_
  unfold fX10_out at h0
  refine r_aload_n (pc := 0) F dX10_out_0 rfl ?_
  refine r_iload_n (pc := 1) F dX10_out_1 rfl ?_
  refine r_Vi1 (pc := 2) F dX10_out_2 ml_10_144 (kX10_isPerson _ w a1 _ rfl) i68_42 (ce_42 _ _ _) (Nat.le_of_ble_eq_true rfl) (Nat.le_of_ble_eq_true rfl) (Nat.le_of_ble_eq_true rfl) ?_
  refine r_if_ne (pc := 5) (tgt := 14) F dX10_out_5 rfl h0 (fun h0 => ?_) (fun h0 => ?_)
  · refine r_aload_n (pc := 8) F dX10_out_8 rfl ?_
    refine r_iconst (pc := 9) F dX10_out_9 ic_m1 ?_
    obtain ⟨q3, er2, h0⟩ := bind_some h0
    replace h0 := un2_eq h0
    obtain ⟨r2, w1, rfl, h0⟩ := h0
    refine r_Vj1 (pc := 10) F dX10_out_10 ml_10_99 (kX10_no _ w (-1) (r2, w1) er2) i68_42 (ce_42 _ _ _) (Nat.le_of_ble_eq_true rfl) (Nat.le_of_ble_eq_true rfl) (Nat.le_of_ble_eq_true rfl) ?_
    exact hR _ _ _ _ dX10_out_13 rfl (Option.some.inj h0)
  · refine r_aload_n (pc := 14) F dX10_out_14 rfl ?_
    refine r_iconst (pc := 15) F dX10_out_15 ic_1 ?_
    refine r_iconst (pc := 16) F dX10_out_16 ic_1 ?_
    obtain ⟨w5, ew5, h0⟩ := bind_some h0
    refine r_Vv2 (pc := 17) F dX10_out_17 ml_10_157 (kX10_passesAll _ w 1 1 w5 ew5) i68_42 (ce_42 _ _ _) (Nat.le_of_ble_eq_true rfl) (Nat.le_of_ble_eq_true rfl) (Nat.le_of_ble_eq_true rfl) ?_
    refine r_aload_n (pc := 20) F dX10_out_20 rfl ?_
    refine r_iload_n (pc := 21) F dX10_out_21 rfl ?_
    obtain ⟨w7, ew7, h0⟩ := bind_some h0
    refine r_Vv1 (pc := 22) F dX10_out_22 ml_10_318 (kX10_goesCounting _ w5 a1 w7 ew7) i68_42 (ce_42 _ _ _) (Nat.le_of_ble_eq_true rfl) (Nat.le_of_ble_eq_true rfl) (Nat.le_of_ble_eq_true rfl) ?_
    refine r_aload_n (pc := 25) F dX10_out_25 rfl ?_
    refine r_iconst (pc := 26) F dX10_out_26 ic_1 ?_
    refine r_iconst (pc := 27) F dX10_out_27 ic_0 ?_
    obtain ⟨w9, ew9, h0⟩ := bind_some h0
    refine r_Vv2 (pc := 28) F dX10_out_28 ml_10_157 (kX10_passesAll _ w7 1 0 w9 ew9) i68_42 (ce_42 _ _ _) (Nat.le_of_ble_eq_true rfl) (Nat.le_of_ble_eq_true rfl) (Nat.le_of_ble_eq_true rfl) ?_
    refine r_aload_n (pc := 31) F dX10_out_31 rfl ?_
    refine r_getf (pc := 32) F dX10_out_32 fl_10_315 i68_42 (ce_42 _ _ _) rfl ?_
    exact hR _ _ _ _ dX10_out_35 rfl (Option.some.inj h0)
set_option maxRecDepth 100000 in
set_option maxHeartbeats 4000000 in
theorem kX10_again (g : GT) (w : Wd) (out : Int32 × Wd) (h0 : fX10_again w = some out) : CtI g yX10_again cX10_again 1 (some .int) 8 177 [.ref (g.1 42)] w (fun r w1 => (r, w1) = out) := by
  refine CtI_of .int (by decide) (Nat.le_of_ble_eq_true rfl) (fun Z hg F hR => ?_)
  subst hg
  have F : Fx Z RX10 cX10_again 1 8 177 := F
  refine V_sub (ls' := [(0, .ref ((zg Z).1 42))]) [0] rfl ?_
  unfold fX10_again at h0
  refine r_aload_n (pc := 0) F dX10_again_0 rfl ?_
  refine r_iconst (pc := 1) F dX10_again_1 ic_1 ?_
  refine r_iconst (pc := 2) F dX10_again_2 ic_1 ?_
  obtain ⟨w1, ew1, h0⟩ := bind_some h0
  refine r_Vv2 (pc := 3) F dX10_again_3 ml_10_157 (kX10_passesAll _ w 1 1 w1 ew1) i68_42 (ce_42 _ _ _) (Nat.le_of_ble_eq_true rfl) (Nat.le_of_ble_eq_true rfl) (Nat.le_of_ble_eq_true rfl) ?_
  refine r_aload_n (pc := 6) F dX10_again_6 rfl ?_
  refine r_iconst (pc := 7) F dX10_again_7 ic_0 ?_
  obtain ⟨w3, ew3, h0⟩ := bind_some h0
  refine r_Vv1 (pc := 8) F dX10_again_8 ml_10_318 (kX10_goesCounting _ w1 0 w3 ew3) i68_42 (ce_42 _ _ _) (Nat.le_of_ble_eq_true rfl) (Nat.le_of_ble_eq_true rfl) (Nat.le_of_ble_eq_true rfl) ?_
  refine r_aload_n (pc := 11) F dX10_again_11 rfl ?_
  refine r_iconst (pc := 12) F dX10_again_12 ic_1 ?_
  refine r_iconst (pc := 13) F dX10_again_13 ic_0 ?_
  obtain ⟨w5, ew5, h0⟩ := bind_some h0
  refine r_Vv2 (pc := 14) F dX10_again_14 ml_10_157 (kX10_passesAll _ w3 1 0 w5 ew5) i68_42 (ce_42 _ _ _) (Nat.le_of_ble_eq_true rfl) (Nat.le_of_ble_eq_true rfl) (Nat.le_of_ble_eq_true rfl) ?_
  refine r_aload_n (pc := 17) F dX10_again_17 rfl ?_
  refine r_getf (pc := 18) F dX10_again_18 fl_10_209 i68_42 (ce_42 _ _ _) rfl ?_
  exact hR _ _ _ _ dX10_again_21 rfl (Option.some.inj h0)
set_option maxRecDepth 100000 in
set_option maxHeartbeats 4000000 in
theorem kX10_findGame (g : GT) (w : Wd) (out : Wd) (h0 : fX10_findGame w = some out) : CtV g yX10_findGame cX10_findGame 3 none 9 196 [.ref (g.1 42)] w (fun w1 => w1 = out) := by
  refine CtV_of (by decide) (Nat.le_of_ble_eq_true rfl) (fun Z hg F hR => ?_)
  subst hg
  have F : Fx Z RX10 cX10_findGame 3 9 196 := F
  refine V_sub (ls' := [(0, .ref ((zg Z).1 42))]) [0] rfl ?_
  unfold fX10_findGame at h0
  refine r_aload_n (pc := 0) F dX10_findGame_0 rfl ?_
  refine r_iconst (pc := 1) F dX10_findGame_1 ic_1 ?_
  refine r_iconst (pc := 2) F dX10_findGame_2 ic_1 ?_
  obtain ⟨w1, ew1, h0⟩ := bind_some h0
  refine r_Vv2 (pc := 3) F dX10_findGame_3 ml_10_157 (kX10_passesAll _ w 1 1 w1 ew1) i68_42 (ce_42 _ _ _) (Nat.le_of_ble_eq_true rfl) (Nat.le_of_ble_eq_true rfl) (Nat.le_of_ble_eq_true rfl) ?_
  refine r_iconst (pc := 6) F dX10_findGame_6 ic_0 ?_
  refine r_istore_n (pc := 7) (ls' := [(0, .ref ((zg Z).1 42)), (1, .int 0)]) F dX10_findGame_7 (Nat.le_of_ble_eq_true rfl) rfl ?_
  obtain ⟨w30, iw30, h0⟩ := bind_some h0
  suffices E8 : V Z 65 [(0, .ref ((zg Z).1 42))] [] w30 by
    refine iter_rule (P := fun s : Int32 × Wd => V Z 8 [(0, .ref ((zg Z).1 42)), (1, .int (s.1))] [] s.2) (x := w30) ?_ FU (0, w1) iw30
    intro s y1 h1 hP1 hX1
    obtain ⟨l3, w4⟩ := s
    have h1 : fX10_findGame_b8 l3 w4 = some y1 := h1
    unfold fX10_findGame_b8 at h1
    refine r_iload_n (pc := 8) F dX10_findGame_8 rfl ?_
    refine r_bipush (pc := 9) F dX10_findGame_9 bp_9 ?_
    refine r_icmp_ge (pc := 11) (tgt := 65) F dX10_findGame_11 rfl h1 (fun h1 => ?_) (fun h1 => ?_)
    · refine V_sub (ls' := [(0, .ref ((zg Z).1 42))]) [0] rfl ?_
      have e5 := hX1 _ (Option.some.inj h1).symm
      cases e5
      exact E8
    · refine r_aload_n (pc := 14) F dX10_findGame_14 rfl ?_
      refine r_getf (pc := 15) F dX10_findGame_15 fl_10_13 i68_42 (ce_42 _ _ _) rfl ?_
      refine r_iconst (pc := 18) F dX10_findGame_18 ic_0 ?_
      refine r_iload_n (pc := 19) F dX10_findGame_19 rfl ?_
      refine r_iconst (pc := 20) F dX10_findGame_20 ic_3 ?_
      refine r_idiv (pc := 21) F dX10_findGame_21 (by decide) ?_
      obtain ⟨w6, ew6, h1⟩ := lt_some h1
      refine r_iast (pc := 22) (j := 0) F dX10_findGame_22 i68_44 (ca_44 _) rfl rfl ew6 ?_
      refine r_iconst (pc := 23) F dX10_findGame_23 ic_0 ?_
      refine r_istore_n (pc := 24) (ls' := [(0, .ref ((zg Z).1 42)), (1, .int l3), (2, .int 0)]) F dX10_findGame_24 (Nat.le_of_ble_eq_true rfl) rfl ?_
      obtain ⟨w17, iw17, h1⟩ := bind_some h1
      suffices E25 : V Z 46 [(0, .ref ((zg Z).1 42)), (1, .int l3)] [] w17 by
        refine iter_rule (P := fun s : Int32 × Wd => V Z 25 [(0, .ref ((zg Z).1 42)), (1, .int l3), (2, .int (s.1))] [] s.2) (x := w17) ?_ FU (0, w6) iw17
        intro s y2 h2 hP2 hX2
        obtain ⟨l8, w9⟩ := s
        have h2 : fX10_findGame_b25 l3 l8 w9 = some y2 := h2
        unfold fX10_findGame_b25 at h2
        refine r_iload_n (pc := 25) F dX10_findGame_25 rfl ?_
        refine r_bipush (pc := 26) F dX10_findGame_26 bp_25 ?_
        refine r_icmp_ge (pc := 28) (tgt := 46) F dX10_findGame_28 rfl h2 (fun h2 => ?_) (fun h2 => ?_)
        · refine V_sub (ls' := [(0, .ref ((zg Z).1 42)), (1, .int l3)]) [0, 1] rfl ?_
          have e10 := hX2 _ (Option.some.inj h2).symm
          cases e10
          exact E25
        · refine r_aload_n (pc := 31) F dX10_findGame_31 rfl ?_
          refine r_getf (pc := 32) F dX10_findGame_32 fl_10_25 i68_42 (ce_42 _ _ _) rfl ?_
          refine r_iload_n (pc := 35) F dX10_findGame_35 rfl ?_
          refine r_iload_n (pc := 36) F dX10_findGame_36 rfl ?_
          refine r_iconst (pc := 37) F dX10_findGame_37 ic_3 ?_
          refine r_irem (pc := 38) F dX10_findGame_38 (by decide) ?_
          obtain ⟨g12, h2⟩ := gd_some h2
          obtain ⟨w11, ew11, h2⟩ := lt_some h2
          refine r_iast (pc := 39) F dX10_findGame_39 i68_48 (ca_48 _) g12 rfl ew11 ?_
          obtain ⟨v14, ev14, h2⟩ := lt_some h2
          refine r_iinc (pc := 40) (ls' := [(0, .ref ((zg Z).1 42)), (1, .int l3), (2, .int v14)]) F dX10_findGame_40 rfl (by rw [ev14]; rfl) (Nat.le_of_ble_eq_true rfl) rfl ?_
          refine r_goto (pc := 43) (tgt := 25) F dX10_findGame_43 rfl ?_
          exact hP2 (v14, w11) (Option.some.inj h2).symm
      refine r_aload_n (pc := 46) F dX10_findGame_46 rfl ?_
      refine r_getf (pc := 47) F dX10_findGame_47 fl_10_77 i68_42 (ce_42 _ _ _) rfl ?_
      refine r_iload_n (pc := 50) F dX10_findGame_50 rfl ?_
      refine r_aload_n (pc := 51) F dX10_findGame_51 rfl ?_
      obtain ⟨q21, er20, h1⟩ := bind_some h1
      replace h1 := un2_eq h1
      obtain ⟨r20, w19, rfl, h1⟩ := h1
      refine r_Vj0 (pc := 52) F dX10_findGame_52 ml_10_241 (kX10_atDoor _ w17 (r20, w19) er20) i68_42 (ce_42 _ _ _) (Nat.le_of_ble_eq_true rfl) (Nat.le_of_ble_eq_true rfl) (Nat.le_of_ble_eq_true rfl) ?_
      obtain ⟨r23, er23, h1⟩ := bind_some h1
      refine r_Si1 (pc := 55) F dX10_findGame_55 ml_10_231 (kX10_bits _ w19 r20 r23 er23) (Nat.le_of_ble_eq_true rfl) (Nat.le_of_ble_eq_true rfl) (Nat.le_of_ble_eq_true rfl) ?_
      obtain ⟨g25, h1⟩ := gd_some h1
      obtain ⟨w24, ew24, h1⟩ := lt_some h1
      refine r_iast (pc := 58) F dX10_findGame_58 i68_65 (ca_65 _) g25 rfl ew24 ?_
      obtain ⟨v27, ev27, h1⟩ := lt_some h1
      refine r_iinc (pc := 59) (ls' := [(0, .ref ((zg Z).1 42)), (1, .int v27)]) F dX10_findGame_59 rfl (by rw [ev27]; rfl) (Nat.le_of_ble_eq_true rfl) rfl ?_
      refine r_goto (pc := 62) (tgt := 8) F dX10_findGame_62 rfl ?_
      exact hP1 (v27, w24) (Option.some.inj h1).symm
  refine r_aload_n (pc := 65) F dX10_findGame_65 rfl ?_
  refine r_iconst (pc := 66) F dX10_findGame_66 ic_1 ?_
  refine r_iconst (pc := 67) F dX10_findGame_67 ic_0 ?_
  obtain ⟨w32, ew32, h0⟩ := bind_some h0
  refine r_Vv2 (pc := 68) F dX10_findGame_68 ml_10_157 (kX10_passesAll _ w30 1 0 w32 ew32) i68_42 (ce_42 _ _ _) (Nat.le_of_ble_eq_true rfl) (Nat.le_of_ble_eq_true rfl) (Nat.le_of_ble_eq_true rfl) ?_
  exact hR _ _ _ dX10_findGame_71 (Option.some.inj h0)
set_option maxRecDepth 100000 in
set_option maxHeartbeats 4000000 in
theorem kX10_sureBy (g : GT) (w : Wd) (a1 : Int32) (out : Int32) (h0 : fX10_sureBy w a1 = some out) : CtI g yX10_sureBy cX10_sureBy 7 (some .int) 0 0 [.ref (g.1 42), .int a1] w (fun r w1 => r = out ∧ w1 = w) := by
  refine CtI_of .int (by decide) (Nat.le_of_ble_eq_true rfl) (fun Z hg F hR => ?_)
  subst hg
  have F : Fx Z RX10 cX10_sureBy 7 0 0 := F
  refine V_sub (ls' := [(0, .ref ((zg Z).1 42)), (1, .int a1)]) [0, 1] rfl ?_
  unfold fX10_sureBy at h0
  refine r_bipush (pc := 0) F dX10_sureBy_0 bp_m9 ?_
  refine r_istore_n (pc := 2) (ls' := [(0, .ref ((zg Z).1 42)), (1, .int a1), (2, .int (-9))]) F dX10_sureBy_2 (Nat.le_of_ble_eq_true rfl) rfl ?_
  refine r_iconst (pc := 3) F dX10_sureBy_3 ic_0 ?_
  refine r_istore_n (pc := 4) (ls' := [(0, .ref ((zg Z).1 42)), (1, .int a1), (2, .int (-9)), (3, .int 0)]) F dX10_sureBy_4 (Nat.le_of_ble_eq_true rfl) rfl ?_
  obtain ⟨l25, il25, h0⟩ := bind_some h0
  suffices E5 : V Z 126 [(2, .int l25)] [] w by
    refine iter_rule (P := fun s : Int32 × Int32 => V Z 5 [(0, .ref ((zg Z).1 42)), (1, .int a1), (2, .int (s.1)), (3, .int (s.2))] [] w) (x := l25) ?_ FU ((-9), 0) il25
    intro s y1 h1 hP1 hX1
    obtain ⟨l1, l2⟩ := s
    have h1 : fX10_sureBy_b5 a1 w l1 l2 = some y1 := h1
    unfold fX10_sureBy_b5 at h1
    refine r_iload_n (pc := 5) F dX10_sureBy_5 rfl ?_
    refine r_iconst (pc := 6) F dX10_sureBy_6 ic_3 ?_
    refine r_icmp_ge (pc := 7) (tgt := 126) F dX10_sureBy_7 rfl h1 (fun h1 => ?_) (fun h1 => ?_)
    · refine V_sub (ls' := [(2, .int l1)]) [2] rfl ?_
      have e3 := hX1 _ (Option.some.inj h1).symm
      cases e3
      exact E5
    · refine r_bipush (pc := 10) F dX10_sureBy_10 bp_m9 ?_
      refine r_istore (pc := 12) (ls' := [(0, .ref ((zg Z).1 42)), (1, .int a1), (2, .int l1), (3, .int l2), (4, .int (-9))]) F dX10_sureBy_12 (Nat.le_of_ble_eq_true rfl) rfl ?_
      refine r_iconst (pc := 14) F dX10_sureBy_14 ic_0 ?_
      refine r_istore (pc := 15) (ls' := [(0, .ref ((zg Z).1 42)), (1, .int a1), (2, .int l1), (3, .int l2), (4, .int (-9)), (5, .int 0)]) F dX10_sureBy_15 (Nat.le_of_ble_eq_true rfl) rfl ?_
      obtain ⟨l17, il17, h1⟩ := bind_some h1
      suffices E17 : V Z 90 [(0, .ref ((zg Z).1 42)), (1, .int a1), (2, .int l1), (3, .int l2), (4, .int l17)] [] w by
        refine iter_rule (P := fun s : Int32 × Int32 => V Z 17 [(0, .ref ((zg Z).1 42)), (1, .int a1), (2, .int l1), (3, .int l2), (4, .int (s.1)), (5, .int (s.2))] [] w) (x := l17) ?_ FU ((-9), 0) il17
        intro s y2 h2 hP2 hX2
        obtain ⟨l4, l5⟩ := s
        have h2 : fX10_sureBy_b17 a1 l2 w l4 l5 = some y2 := h2
        unfold fX10_sureBy_b17 at h2
        refine r_iload (pc := 17) F dX10_sureBy_17 rfl ?_
        refine r_iconst (pc := 19) F dX10_sureBy_19 ic_3 ?_
        refine r_icmp_ge (pc := 20) (tgt := 90) F dX10_sureBy_20 rfl h2 (fun h2 => ?_) (fun h2 => ?_)
        · refine V_sub (ls' := [(0, .ref ((zg Z).1 42)), (1, .int a1), (2, .int l1), (3, .int l2), (4, .int l4)]) [0, 1, 2, 3, 4] rfl ?_
          have e6 := hX2 _ (Option.some.inj h2).symm
          cases e6
          exact E17
        · refine r_aload_n (pc := 23) F dX10_sureBy_23 rfl ?_
          refine r_getf (pc := 24) F dX10_sureBy_24 fl_10_77 i68_42 (ce_42 _ _ _) rfl ?_
          refine r_iload_n (pc := 27) F dX10_sureBy_27 rfl ?_
          obtain ⟨v7, hv7, h2⟩ := lt_some h2
          have hv7 := hv7.symm
          suffices Jv7 : V Z 46 [(0, .ref ((zg Z).1 42)), (1, .int a1), (2, .int l1), (3, .int l2), (4, .int l4), (5, .int l5)] [.int v7, .ref ((zg Z).1 65)] w by
            refine r_if_eq (pc := 28) (tgt := 40) F dX10_sureBy_28 rfl hv7 (fun hv7 => ?_) (fun hv7 => ?_)
            · refine r_iconst (pc := 40) F dX10_sureBy_40 ic_3 ?_
              refine r_iload (pc := 41) F dX10_sureBy_41 rfl ?_
              refine r_imul (pc := 43) F dX10_sureBy_43 ?_
              refine r_iload_n (pc := 44) F dX10_sureBy_44 rfl ?_
              refine r_iadd (pc := 45) F dX10_sureBy_45 ?_
              exact V_nm hv7.symm Jv7
            · refine r_iconst (pc := 31) F dX10_sureBy_31 ic_3 ?_
              refine r_iload_n (pc := 32) F dX10_sureBy_32 rfl ?_
              refine r_imul (pc := 33) F dX10_sureBy_33 ?_
              refine r_iload (pc := 34) F dX10_sureBy_34 rfl ?_
              refine r_iadd (pc := 36) F dX10_sureBy_36 ?_
              refine r_goto (pc := 37) (tgt := 46) F dX10_sureBy_37 rfl ?_
              exact V_nm hv7.symm Jv7
          obtain ⟨g8, h2⟩ := gd_some h2
          refine r_iald (pc := 46) F dX10_sureBy_46 i68_65 (ca_65 _) g8 rfl ?_
          obtain ⟨v9, ev9, h2⟩ := lt_some h2
          refine V_nm ev9 ?_
          refine r_istore (pc := 47) (ls' := [(0, .ref ((zg Z).1 42)), (1, .int a1), (2, .int l1), (3, .int l2), (4, .int l4), (5, .int l5), (6, .int v9)]) F dX10_sureBy_47 (Nat.le_of_ble_eq_true rfl) rfl ?_
          refine r_iload (pc := 49) F dX10_sureBy_49 rfl ?_
          obtain ⟨v10, hv10, h2⟩ := lt_some h2
          have hv10 := hv10.symm
          suffices Jv10 : V Z 82 [(0, .ref ((zg Z).1 42)), (1, .int a1), (2, .int l1), (3, .int l2), (4, .int l4), (5, .int l5), (6, .int v9)] [.int v10] w by
            refine r_if_lt (pc := 51) (tgt := 75) F dX10_sureBy_51 rfl hv10 (fun hv10 => ?_) (fun hv10 => ?_)
            · refine r_iload (pc := 75) F dX10_sureBy_75 rfl ?_
              refine r_goto (pc := 77) (tgt := 82) F dX10_sureBy_77 rfl ?_
              exact V_nm hv10.symm Jv10
            · refine r_iload_n (pc := 54) F dX10_sureBy_54 rfl ?_
              refine r_if_eq (pc := 55) (tgt := 68) F dX10_sureBy_55 rfl hv10 (fun hv10 => ?_) (fun hv10 => ?_)
              · refine r_iload (pc := 68) F dX10_sureBy_68 rfl ?_
                refine r_iload (pc := 70) F dX10_sureBy_70 rfl ?_
                refine r_icmp_le (pc := 72) (tgt := 80) F dX10_sureBy_72 rfl hv10 (fun hv10 => ?_) (fun hv10 => ?_)
                · refine r_iload (pc := 80) F dX10_sureBy_80 rfl ?_
                  exact V_nm hv10.symm Jv10
                · refine r_iload (pc := 75) F dX10_sureBy_75 rfl ?_
                  refine r_goto (pc := 77) (tgt := 82) F dX10_sureBy_77 rfl ?_
                  exact V_nm hv10.symm Jv10
              · refine r_iload (pc := 58) F dX10_sureBy_58 rfl ?_
                refine r_iload (pc := 60) F dX10_sureBy_60 rfl ?_
                refine r_icmp_ge (pc := 62) (tgt := 80) F dX10_sureBy_62 rfl hv10 (fun hv10 => ?_) (fun hv10 => ?_)
                · refine r_iload (pc := 80) F dX10_sureBy_80 rfl ?_
                  exact V_nm hv10.symm Jv10
                · refine r_goto (pc := 65) (tgt := 75) F dX10_sureBy_65 rfl ?_
                  refine r_iload (pc := 75) F dX10_sureBy_75 rfl ?_
                  refine r_goto (pc := 77) (tgt := 82) F dX10_sureBy_77 rfl ?_
                  exact V_nm hv10.symm Jv10
          refine r_istore (pc := 82) (ls' := [(0, .ref ((zg Z).1 42)), (1, .int a1), (2, .int l1), (3, .int l2), (4, .int v10), (5, .int l5), (6, .int v9)]) F dX10_sureBy_82 (Nat.le_of_ble_eq_true rfl) rfl ?_
          obtain ⟨v14, ev14, h2⟩ := lt_some h2
          refine r_iinc (pc := 84) (ls' := [(0, .ref ((zg Z).1 42)), (1, .int a1), (2, .int l1), (3, .int l2), (4, .int v10), (5, .int v14), (6, .int v9)]) F dX10_sureBy_84 rfl (by rw [ev14]; rfl) (Nat.le_of_ble_eq_true rfl) rfl ?_
          refine r_goto (pc := 87) (tgt := 17) F dX10_sureBy_87 rfl ?_
          refine V_sub (ls' := [(0, .ref ((zg Z).1 42)), (1, .int a1), (2, .int l1), (3, .int l2), (4, .int v10), (5, .int v14)]) [0, 1, 2, 3, 4, 5] rfl ?_
          exact hP2 (v10, v14) (Option.some.inj h2).symm
      refine r_iload_n (pc := 90) F dX10_sureBy_90 rfl ?_
      obtain ⟨v18, hv18, h1⟩ := lt_some h1
      have hv18 := hv18.symm
      suffices Jv18 : V Z 119 [(0, .ref ((zg Z).1 42)), (1, .int a1), (2, .int l1), (3, .int l2), (4, .int l17)] [.int v18] w by
        refine r_if_lt (pc := 91) (tgt := 113) F dX10_sureBy_91 rfl hv18 (fun hv18 => ?_) (fun hv18 => ?_)
        · refine r_iload (pc := 113) F dX10_sureBy_113 rfl ?_
          refine r_goto (pc := 115) (tgt := 119) F dX10_sureBy_115 rfl ?_
          exact V_nm hv18.symm Jv18
        · refine r_iload_n (pc := 94) F dX10_sureBy_94 rfl ?_
          refine r_if_eq (pc := 95) (tgt := 107) F dX10_sureBy_95 rfl hv18 (fun hv18 => ?_) (fun hv18 => ?_)
          · refine r_iload (pc := 107) F dX10_sureBy_107 rfl ?_
            refine r_iload_n (pc := 109) F dX10_sureBy_109 rfl ?_
            refine r_icmp_ge (pc := 110) (tgt := 118) F dX10_sureBy_110 rfl hv18 (fun hv18 => ?_) (fun hv18 => ?_)
            · refine r_iload_n (pc := 118) F dX10_sureBy_118 rfl ?_
              exact V_nm hv18.symm Jv18
            · refine r_iload (pc := 113) F dX10_sureBy_113 rfl ?_
              refine r_goto (pc := 115) (tgt := 119) F dX10_sureBy_115 rfl ?_
              exact V_nm hv18.symm Jv18
          · refine r_iload (pc := 98) F dX10_sureBy_98 rfl ?_
            refine r_iload_n (pc := 100) F dX10_sureBy_100 rfl ?_
            refine r_icmp_le (pc := 101) (tgt := 118) F dX10_sureBy_101 rfl hv18 (fun hv18 => ?_) (fun hv18 => ?_)
            · refine r_iload_n (pc := 118) F dX10_sureBy_118 rfl ?_
              exact V_nm hv18.symm Jv18
            · refine r_goto (pc := 104) (tgt := 113) F dX10_sureBy_104 rfl ?_
              refine r_iload (pc := 113) F dX10_sureBy_113 rfl ?_
              refine r_goto (pc := 115) (tgt := 119) F dX10_sureBy_115 rfl ?_
              exact V_nm hv18.symm Jv18
      refine r_istore_n (pc := 119) (ls' := [(0, .ref ((zg Z).1 42)), (1, .int a1), (2, .int v18), (3, .int l2), (4, .int l17)]) F dX10_sureBy_119 (Nat.le_of_ble_eq_true rfl) rfl ?_
      obtain ⟨v22, ev22, h1⟩ := lt_some h1
      refine r_iinc (pc := 120) (ls' := [(0, .ref ((zg Z).1 42)), (1, .int a1), (2, .int v18), (3, .int v22), (4, .int l17)]) F dX10_sureBy_120 rfl (by rw [ev22]; rfl) (Nat.le_of_ble_eq_true rfl) rfl ?_
      refine r_goto (pc := 123) (tgt := 5) F dX10_sureBy_123 rfl ?_
      refine V_sub (ls' := [(0, .ref ((zg Z).1 42)), (1, .int a1), (2, .int v18), (3, .int v22)]) [0, 1, 2, 3] rfl ?_
      exact hP1 (v18, v22) (Option.some.inj h1).symm
  refine r_iload_n (pc := 126) F dX10_sureBy_126 rfl ?_
  exact hR _ _ _ _ dX10_sureBy_127 rfl ⟨(Option.some.inj h0), rfl⟩
set_option maxRecDepth 100000 in
set_option maxHeartbeats 4000000 in
theorem kX10_rests (g : GT) (w : Wd) (a1 : Int32) (out : Int32) (h0 : fX10_rests w a1 = some out) : CtI g yX10_rests cX10_rests 3 (some .boolean) 0 0 [.ref (g.1 42), .int a1] w (fun r w1 => r = out ∧ w1 = w) := by
  refine CtI_of .boolean (by decide) (Nat.le_of_ble_eq_true rfl) (fun Z hg F hR => ?_)
  subst hg
  have F : Fx Z RX10 cX10_rests 3 0 0 := F
  refine V_sub (ls' := [(0, .ref ((zg Z).1 42)), (1, .int a1)]) [0, 1] rfl ?_
  unfold fX10_rests at h0
  refine r_iconst (pc := 0) F dX10_rests_0 ic_0 ?_
  refine r_istore_n (pc := 1) (ls' := [(0, .ref ((zg Z).1 42)), (1, .int a1), (2, .int 0)]) F dX10_rests_1 (Nat.le_of_ble_eq_true rfl) rfl ?_
  refine iter_rule (P := fun s : Int32 => V Z 2 [(0, .ref ((zg Z).1 42)), (1, .int a1), (2, .int s)] [] w) (x := out) ?_ FU 0 h0
  intro s y1 h1 hP1 hX1
  obtain ⟨l1, rfl⟩ : ∃ z, z = s := ⟨s, rfl⟩
  have h1 : fX10_rests_b2 a1 w l1 = some y1 := h1
  unfold fX10_rests_b2 at h1
  refine r_iload_n (pc := 2) F dX10_rests_2 rfl ?_
  refine r_iconst (pc := 3) F dX10_rests_3 ic_3 ?_
  refine r_icmp_ge (pc := 4) (tgt := 57) F dX10_rests_4 rfl h1 (fun h1 => ?_) (fun h1 => ?_)
  · refine r_iconst (pc := 57) F dX10_rests_57 ic_1 ?_
    have h0 := congrArg some (hX1 _ (Option.some.inj h1).symm)
    exact hR _ _ _ _ dX10_rests_58 rfl ⟨(Option.some.inj h0), rfl⟩
  · refine r_aload_n (pc := 7) F dX10_rests_7 rfl ?_
    refine r_getf (pc := 8) F dX10_rests_8 fl_10_77 i68_42 (ce_42 _ _ _) rfl ?_
    refine r_iconst (pc := 11) F dX10_rests_11 ic_3 ?_
    refine r_iload_n (pc := 12) F dX10_rests_12 rfl ?_
    refine r_imul (pc := 13) F dX10_rests_13 ?_
    refine r_iload_n (pc := 14) F dX10_rests_14 rfl ?_
    refine r_iconst (pc := 15) F dX10_rests_15 ic_3 ?_
    refine r_irem (pc := 16) F dX10_rests_16 (by decide) ?_
    refine r_iadd (pc := 17) F dX10_rests_17 ?_
    obtain ⟨g2, h1⟩ := gd_some h1
    refine r_iald (pc := 18) F dX10_rests_18 i68_65 (ca_65 _) g2 rfl ?_
    refine r_aload_n (pc := 19) F dX10_rests_19 rfl ?_
    refine r_getf (pc := 20) F dX10_rests_20 fl_10_77 i68_42 (ce_42 _ _ _) rfl ?_
    refine r_iload_n (pc := 23) F dX10_rests_23 rfl ?_
    obtain ⟨g3, h1⟩ := gd_some h1
    refine r_iald (pc := 24) F dX10_rests_24 i68_65 (ca_65 _) g3 rfl ?_
    refine r_icmp_gt (pc := 25) (tgt := 49) F dX10_rests_25 rfl h1 (fun h1 => ?_) (fun h1 => ?_)
    · refine r_iconst (pc := 49) F dX10_rests_49 ic_0 ?_
      have h0 := congrArg some (hX1 _ (Option.some.inj h1).symm)
      exact hR _ _ _ _ dX10_rests_50 rfl ⟨(Option.some.inj h0), rfl⟩
    · refine r_aload_n (pc := 28) F dX10_rests_28 rfl ?_
      refine r_getf (pc := 29) F dX10_rests_29 fl_10_77 i68_42 (ce_42 _ _ _) rfl ?_
      refine r_iload_n (pc := 32) F dX10_rests_32 rfl ?_
      refine r_iconst (pc := 33) F dX10_rests_33 ic_3 ?_
      refine r_idiv (pc := 34) F dX10_rests_34 (by decide) ?_
      refine r_iconst (pc := 35) F dX10_rests_35 ic_3 ?_
      refine r_imul (pc := 36) F dX10_rests_36 ?_
      refine r_iload_n (pc := 37) F dX10_rests_37 rfl ?_
      refine r_iadd (pc := 38) F dX10_rests_38 ?_
      obtain ⟨g4, h1⟩ := gd_some h1
      refine r_iald (pc := 39) F dX10_rests_39 i68_65 (ca_65 _) g4 rfl ?_
      refine r_aload_n (pc := 40) F dX10_rests_40 rfl ?_
      refine r_getf (pc := 41) F dX10_rests_41 fl_10_77 i68_42 (ce_42 _ _ _) rfl ?_
      refine r_iload_n (pc := 44) F dX10_rests_44 rfl ?_
      refine r_iald (pc := 45) F dX10_rests_45 i68_65 (ca_65 _) g3 rfl ?_
      refine r_icmp_ge (pc := 46) (tgt := 51) F dX10_rests_46 rfl h1 (fun h1 => ?_) (fun h1 => ?_)
      · obtain ⟨v5, ev5, h1⟩ := lt_some h1
        refine r_iinc (pc := 51) (ls' := [(0, .ref ((zg Z).1 42)), (1, .int a1), (2, .int v5)]) F dX10_rests_51 rfl (by rw [ev5]; rfl) (Nat.le_of_ble_eq_true rfl) rfl ?_
        refine r_goto (pc := 54) (tgt := 2) F dX10_rests_54 rfl ?_
        exact hP1 v5 (Option.some.inj h1).symm
      · refine r_iconst (pc := 49) F dX10_rests_49 ic_0 ?_
        have h0 := congrArg some (hX1 _ (Option.some.inj h1).symm)
        exact hR _ _ _ _ dX10_rests_50 rfl ⟨(Option.some.inj h0), rfl⟩
set_option maxRecDepth 100000 in
set_option maxHeartbeats 4000000 in
theorem kX10_game (g : GT) (w : Wd) (a1 : Int32) (out : Int32 × Wd) (h0 : fX10_game w a1 = some out) : CtI g yX10_game cX10_game 3 (some .int) 10 218 [.ref (g.1 42), .int a1] w (fun r w1 => (r, w1) = out) := by
  refine CtI_of .int (by decide) (Nat.le_of_ble_eq_true rfl) (fun Z hg F hR => ?_)
  subst hg
  have F : Fx Z RX10 cX10_game 3 10 218 := F
  refine V_sub (ls' := [(0, .ref ((zg Z).1 42)), (1, .int a1)]) [0, 1] rfl ?_
  unfold fX10_game at h0
  have J35 : ∀ (w13 : Wd) (l12 : Int32), fX10_game_j35 w13 l12 = some out → V Z 35 [] [.int l12, .ref ((zg Z).1 42)] w13 := by
    intro w13 l12 h0
    unfold fX10_game_j35 at h0
    obtain ⟨r14, er14, h0⟩ := bind_some h0
    refine r_Vi1 (pc := 35) F dX10_game_35 ml_10_324 (kX10_sureBy _ w13 l12 r14 er14) i68_42 (ce_42 _ _ _) (Nat.le_of_ble_eq_true rfl) (Nat.le_of_ble_eq_true rfl) (Nat.le_of_ble_eq_true rfl) ?_
    exact hR _ _ _ _ dX10_game_38 rfl (Option.some.inj h0)
  refine r_iload_n (pc := 0) F dX10_game_0 rfl ?_
  refine r_iconst (pc := 1) F dX10_game_1 ic_0 ?_
  refine r_iconst (pc := 2) F dX10_game_2 ic_2 ?_
  refine r_Si3 (pc := 3) F dX10_game_3 ml_10_110 (kX10_isIn _ w a1 0 2 _ rfl) (Nat.le_of_ble_eq_true rfl) (Nat.le_of_ble_eq_true rfl) (Nat.le_of_ble_eq_true rfl) ?_
  refine r_if_ne (pc := 6) (tgt := 16) F dX10_game_6 rfl h0 (fun h0 => ?_) (fun h0 => ?_)
  · refine r_aload_n (pc := 9) F dX10_game_9 rfl ?_
    refine r_bipush (pc := 10) F dX10_game_10 bp_m2 ?_
    obtain ⟨q3, er2, h0⟩ := bind_some h0
    replace h0 := un2_eq h0
    obtain ⟨r2, w1, rfl, h0⟩ := h0
    refine r_Vj1 (pc := 12) F dX10_game_12 ml_10_99 (kX10_no _ w (-2) (r2, w1) er2) i68_42 (ce_42 _ _ _) (Nat.le_of_ble_eq_true rfl) (Nat.le_of_ble_eq_true rfl) (Nat.le_of_ble_eq_true rfl) ?_
    exact hR _ _ _ _ dX10_game_15 rfl (Option.some.inj h0)
  · refine r_aload_n (pc := 16) F dX10_game_16 rfl ?_
    obtain ⟨w5, ew5, h0⟩ := bind_some h0
    refine r_Vv0 (pc := 17) F dX10_game_17 ml_10_321 (kX10_findGame _ w w5 ew5) i68_42 (ce_42 _ _ _) (Nat.le_of_ble_eq_true rfl) (Nat.le_of_ble_eq_true rfl) (Nat.le_of_ble_eq_true rfl) ?_
    refine r_iload_n (pc := 20) F dX10_game_20 rfl ?_
    refine r_if_le (pc := 21) (tgt := 39) F dX10_game_21 rfl h0 (fun h0 => ?_) (fun h0 => ?_)
    · refine r_iconst (pc := 39) F dX10_game_39 ic_0 ?_
      refine r_istore_n (pc := 40) (ls' := [(0, .ref ((zg Z).1 42)), (1, .int a1), (2, .int 0)]) F dX10_game_40 (Nat.le_of_ble_eq_true rfl) rfl ?_
      refine V_sub (ls' := [(0, .ref ((zg Z).1 42)), (2, .int 0)]) [0, 2] rfl ?_
      refine iter_rule (P := fun s : Int32 => V Z 41 [(0, .ref ((zg Z).1 42)), (2, .int s)] [] w5) (x := out) ?_ FU 0 h0
      intro s y1 h1 hP1 hX1
      obtain ⟨l7, rfl⟩ : ∃ z, z = s := ⟨s, rfl⟩
      have h1 : fX10_game_b41 w5 l7 = some y1 := h1
      unfold fX10_game_b41 at h1
      refine r_iload_n (pc := 41) F dX10_game_41 rfl ?_
      refine r_bipush (pc := 42) F dX10_game_42 bp_9 ?_
      refine r_icmp_ge (pc := 44) (tgt := 72) F dX10_game_44 rfl h1 (fun h1 => ?_) (fun h1 => ?_)
      · refine r_bipush (pc := 72) F dX10_game_72 bp_m9 ?_
        have h0 := congrArg some (hX1 _ (Option.some.inj h1).symm)
        exact hR _ _ _ _ dX10_game_74 rfl (Option.some.inj h0)
      · refine r_aload_n (pc := 47) F dX10_game_47 rfl ?_
        refine r_iload_n (pc := 48) F dX10_game_48 rfl ?_
        obtain ⟨r8, er8, h1⟩ := bind_some h1
        refine r_Vi1 (pc := 49) F dX10_game_49 ml_10_328 (kX10_rests _ w5 l7 r8 er8) i68_42 (ce_42 _ _ _) (Nat.le_of_ble_eq_true rfl) (Nat.le_of_ble_eq_true rfl) (Nat.le_of_ble_eq_true rfl) ?_
        refine r_if_eq (pc := 52) (tgt := 66) F dX10_game_52 rfl h1 (fun h1 => ?_) (fun h1 => ?_)
        · obtain ⟨v9, ev9, h1⟩ := lt_some h1
          refine r_iinc (pc := 66) (ls' := [(0, .ref ((zg Z).1 42)), (2, .int v9)]) F dX10_game_66 rfl (by rw [ev9]; rfl) (Nat.le_of_ble_eq_true rfl) rfl ?_
          refine r_goto (pc := 69) (tgt := 41) F dX10_game_69 rfl ?_
          exact hP1 v9 (Option.some.inj h1).symm
        · refine r_bipush (pc := 55) F dX10_game_55 bp_10 ?_
          refine r_iload_n (pc := 57) F dX10_game_57 rfl ?_
          refine r_iconst (pc := 58) F dX10_game_58 ic_3 ?_
          refine r_idiv (pc := 59) F dX10_game_59 (by decide) ?_
          refine r_imul (pc := 60) F dX10_game_60 ?_
          refine r_iload_n (pc := 61) F dX10_game_61 rfl ?_
          refine r_iconst (pc := 62) F dX10_game_62 ic_3 ?_
          refine r_irem (pc := 63) F dX10_game_63 (by decide) ?_
          refine r_iadd (pc := 64) F dX10_game_64 ?_
          have h0 := congrArg some (hX1 _ (Option.some.inj h1).symm)
          exact hR _ _ _ _ dX10_game_65 rfl (Option.some.inj h0)
    · refine r_aload_n (pc := 24) F dX10_game_24 rfl ?_
      refine r_iload_n (pc := 25) F dX10_game_25 rfl ?_
      refine r_iconst (pc := 26) F dX10_game_26 ic_1 ?_
      refine r_icmp_ne (pc := 27) (tgt := 34) F dX10_game_27 rfl h0 (fun h0 => ?_) (fun h0 => ?_)
      · refine r_iconst (pc := 30) F dX10_game_30 ic_1 ?_
        refine r_goto (pc := 31) (tgt := 35) F dX10_game_31 rfl ?_
        refine V_sub (ls' := []) [] rfl ?_
        exact J35 w5 1 h0
      · refine r_iconst (pc := 34) F dX10_game_34 ic_0 ?_
        refine V_sub (ls' := []) [] rfl ?_
        exact J35 w5 0 h0
set_option maxRecDepth 100000 in
set_option maxHeartbeats 4000000 in
theorem kX10_heirs (g : GT) (w : Wd) (a1 : Int32) (out : Int32 × Wd) (h0 : fX10_heirs w a1 = some out) : CtI g yX10_heirs cX10_heirs 4 (some .int) 9 196 [.ref (g.1 42), .int a1] w (fun r w1 => (r, w1) = out) := by
  refine CtI_of .int (by decide) (Nat.le_of_ble_eq_true rfl) (fun Z hg F hR => ?_)
  subst hg
  have F : Fx Z RX10 cX10_heirs 4 9 196 := F
  refine V_sub (ls' := [(0, .ref ((zg Z).1 42)), (1, .int a1)]) [0, 1] rfl ?_
  unfold fX10_heirs at h0
  refine r_aload_n (pc := 0) F dX10_heirs_0 rfl ?_
  refine r_iload_n (pc := 1) F dX10_heirs_1 rfl ?_
  refine r_Vi1 (pc := 2) F dX10_heirs_2 ml_10_144 (kX10_isPerson _ w a1 _ rfl) i68_42 (ce_42 _ _ _) (Nat.le_of_ble_eq_true rfl) (Nat.le_of_ble_eq_true rfl) (Nat.le_of_ble_eq_true rfl) ?_
  refine r_if_ne (pc := 5) (tgt := 14) F dX10_heirs_5 rfl h0 (fun h0 => ?_) (fun h0 => ?_)
  · refine r_aload_n (pc := 8) F dX10_heirs_8 rfl ?_
    refine r_iconst (pc := 9) F dX10_heirs_9 ic_m1 ?_
    obtain ⟨q3, er2, h0⟩ := bind_some h0
    replace h0 := un2_eq h0
    obtain ⟨r2, w1, rfl, h0⟩ := h0
    refine r_Vj1 (pc := 10) F dX10_heirs_10 ml_10_99 (kX10_no _ w (-1) (r2, w1) er2) i68_42 (ce_42 _ _ _) (Nat.le_of_ble_eq_true rfl) (Nat.le_of_ble_eq_true rfl) (Nat.le_of_ble_eq_true rfl) ?_
    exact hR _ _ _ _ dX10_heirs_13 rfl (Option.some.inj h0)
  · refine r_iconst (pc := 14) F dX10_heirs_14 ic_0 ?_
    refine r_istore_n (pc := 15) (ls' := [(0, .ref ((zg Z).1 42)), (1, .int a1), (2, .int 0)]) F dX10_heirs_15 (Nat.le_of_ble_eq_true rfl) rfl ?_
    refine r_iconst (pc := 16) F dX10_heirs_16 ic_0 ?_
    refine r_istore_n (pc := 17) (ls' := [(0, .ref ((zg Z).1 42)), (1, .int a1), (2, .int 0), (3, .int 0)]) F dX10_heirs_17 (Nat.le_of_ble_eq_true rfl) rfl ?_
    obtain ⟨x23, ix23, h0⟩ := bind_some h0
    replace h0 := un2_eq h0
    obtain ⟨l24, w25, rfl, h0⟩ := h0
    suffices E18 : V Z 69 [(2, .int l24)] [] w25 by
      refine iter_rule (P := fun s : Int32 × Int32 × Wd => V Z 18 [(0, .ref ((zg Z).1 42)), (1, .int a1), (2, .int (s.1)), (3, .int (s.2.1))] [] s.2.2) (x := (l24, w25)) ?_ FU (0, 0, w) ix23
      intro s y1 h1 hP1 hX1
      obtain ⟨l5, l6, w7⟩ := s
      have h1 : fX10_heirs_b18 a1 l5 l6 w7 = some y1 := h1
      unfold fX10_heirs_b18 at h1
      refine r_iload_n (pc := 18) F dX10_heirs_18 rfl ?_
      refine r_bipush (pc := 19) F dX10_heirs_19 bp_6 ?_
      refine r_icmp_gt (pc := 21) (tgt := 69) F dX10_heirs_21 rfl h1 (fun h1 => ?_) (fun h1 => ?_)
      · refine V_sub (ls' := [(2, .int l5)]) [2] rfl ?_
        have e8 := hX1 _ (Option.some.inj h1).symm
        cases e8
        exact E18
      · refine r_aload_n (pc := 24) F dX10_heirs_24 rfl ?_
        refine r_iconst (pc := 25) F dX10_heirs_25 ic_1 ?_
        refine r_iconst (pc := 26) F dX10_heirs_26 ic_1 ?_
        obtain ⟨w9, ew9, h1⟩ := bind_some h1
        refine r_Vv2 (pc := 27) F dX10_heirs_27 ml_10_157 (kX10_passesAll _ w7 1 1 w9 ew9) i68_42 (ce_42 _ _ _) (Nat.le_of_ble_eq_true rfl) (Nat.le_of_ble_eq_true rfl) (Nat.le_of_ble_eq_true rfl) ?_
        refine r_aload_n (pc := 30) F dX10_heirs_30 rfl ?_
        refine r_iload_n (pc := 31) F dX10_heirs_31 rfl ?_
        refine r_iload_n (pc := 32) F dX10_heirs_32 rfl ?_
        obtain ⟨w11, ew11, h1⟩ := bind_some h1
        refine r_Vv2 (pc := 33) F dX10_heirs_33 ml_10_221 (kX10_becomes _ w9 a1 l6 w11 ew11) i68_42 (ce_42 _ _ _) (Nat.le_of_ble_eq_true rfl) (Nat.le_of_ble_eq_true rfl) (Nat.le_of_ble_eq_true rfl) ?_
        refine r_iload_n (pc := 36) F dX10_heirs_36 rfl ?_
        refine r_aload_n (pc := 37) F dX10_heirs_37 rfl ?_
        obtain ⟨q15, er14, h1⟩ := bind_some h1
        replace h1 := un2_eq h1
        obtain ⟨r14, w13, rfl, h1⟩ := h1
        refine r_Vj0 (pc := 38) F dX10_heirs_38 ml_10_241 (kX10_atDoor _ w11 (r14, w13) er14) i68_42 (ce_42 _ _ _) (Nat.le_of_ble_eq_true rfl) (Nat.le_of_ble_eq_true rfl) (Nat.le_of_ble_eq_true rfl) ?_
        refine r_iload_n (pc := 41) F dX10_heirs_41 rfl ?_
        refine r_Si2 (pc := 42) F dX10_heirs_42 ml_10_147 (kX10_has _ w13 r14 a1 _ rfl) (Nat.le_of_ble_eq_true rfl) (Nat.le_of_ble_eq_true rfl) (Nat.le_of_ble_eq_true rfl) ?_
        obtain ⟨v17, hv17, h1⟩ := lt_some h1
        have hv17 := hv17.symm
        suffices Jv17 : V Z 55 [(0, .ref ((zg Z).1 42)), (1, .int a1), (2, .int l5), (3, .int l6)] [.int v17, .int l5] w13 by
          refine r_if_eq (pc := 45) (tgt := 54) F dX10_heirs_45 rfl hv17 (fun hv17 => ?_) (fun hv17 => ?_)
          · refine r_iconst (pc := 54) F dX10_heirs_54 ic_0 ?_
            exact V_nm hv17.symm Jv17
          · refine r_iconst (pc := 48) F dX10_heirs_48 ic_1 ?_
            refine r_iload_n (pc := 49) F dX10_heirs_49 rfl ?_
            refine r_ishl (pc := 50) F dX10_heirs_50 ?_
            refine r_goto (pc := 51) (tgt := 55) F dX10_heirs_51 rfl ?_
            exact V_nm hv17.symm Jv17
        refine r_ior (pc := 55) F dX10_heirs_55 ?_
        obtain ⟨v18, ev18, h1⟩ := lt_some h1
        refine V_nm ev18 ?_
        refine r_istore_n (pc := 56) (ls' := [(0, .ref ((zg Z).1 42)), (1, .int a1), (2, .int v18), (3, .int l6)]) F dX10_heirs_56 (Nat.le_of_ble_eq_true rfl) rfl ?_
        refine r_aload_n (pc := 57) F dX10_heirs_57 rfl ?_
        refine r_iconst (pc := 58) F dX10_heirs_58 ic_1 ?_
        refine r_iconst (pc := 59) F dX10_heirs_59 ic_0 ?_
        obtain ⟨w19, ew19, h1⟩ := bind_some h1
        refine r_Vv2 (pc := 60) F dX10_heirs_60 ml_10_157 (kX10_passesAll _ w13 1 0 w19 ew19) i68_42 (ce_42 _ _ _) (Nat.le_of_ble_eq_true rfl) (Nat.le_of_ble_eq_true rfl) (Nat.le_of_ble_eq_true rfl) ?_
        obtain ⟨v21, ev21, h1⟩ := lt_some h1
        refine r_iinc (pc := 63) (ls' := [(0, .ref ((zg Z).1 42)), (1, .int a1), (2, .int v18), (3, .int v21)]) F dX10_heirs_63 rfl (by rw [ev21]; rfl) (Nat.le_of_ble_eq_true rfl) rfl ?_
        refine r_goto (pc := 66) (tgt := 18) F dX10_heirs_66 rfl ?_
        exact hP1 (v18, v21, w19) (Option.some.inj h1).symm
    refine r_iload_n (pc := 69) F dX10_heirs_69 rfl ?_
    exact hR _ _ _ _ dX10_heirs_70 rfl (Option.some.inj h0)
set_option maxRecDepth 100000 in
set_option maxHeartbeats 4000000 in
theorem kX10_longestDark (g : GT) (w : Wd) (out : Int32) (h0 : fX10_longestDark w = some out) : CtI g yX10_longestDark cX10_longestDark 4 (some .int) 1 21 [.ref (g.1 42)] w (fun r w1 => r = out ∧ w1 = w) := by
  refine CtI_of .int (by decide) (Nat.le_of_ble_eq_true rfl) (fun Z hg F hR => ?_)
  subst hg
  have F : Fx Z RX10 cX10_longestDark 4 1 21 := F
  refine V_sub (ls' := [(0, .ref ((zg Z).1 42))]) [0] rfl ?_
  unfold fX10_longestDark at h0
  refine r_iconst (pc := 0) F dX10_longestDark_0 ic_0 ?_
  refine r_istore_n (pc := 1) (ls' := [(0, .ref ((zg Z).1 42)), (1, .int 0)]) F dX10_longestDark_1 (Nat.le_of_ble_eq_true rfl) rfl ?_
  refine r_iconst (pc := 2) F dX10_longestDark_2 ic_0 ?_
  refine r_istore_n (pc := 3) (ls' := [(0, .ref ((zg Z).1 42)), (1, .int 0), (2, .int 0)]) F dX10_longestDark_3 (Nat.le_of_ble_eq_true rfl) rfl ?_
  refine r_iconst (pc := 4) F dX10_longestDark_4 ic_0 ?_
  refine r_istore_n (pc := 5) (ls' := [(0, .ref ((zg Z).1 42)), (1, .int 0), (2, .int 0), (3, .int 0)]) F dX10_longestDark_5 (Nat.le_of_ble_eq_true rfl) rfl ?_
  obtain ⟨l10, il10, h0⟩ := bind_some h0
  suffices E6 : V Z 50 [(2, .int l10)] [] w by
    refine iter_rule (P := fun s : Int32 × Int32 × Int32 => V Z 6 [(0, .ref ((zg Z).1 42)), (1, .int (s.1)), (2, .int (s.2.1)), (3, .int (s.2.2))] [] w) (x := l10) ?_ FU (0, 0, 0) il10
    intro s y1 h1 hP1 hX1
    obtain ⟨l1, l2, l3⟩ := s
    have h1 : fX10_longestDark_b6 w l1 l2 l3 = some y1 := h1
    unfold fX10_longestDark_b6 at h1
    refine r_iload_n (pc := 6) F dX10_longestDark_6 rfl ?_
    refine r_aload_n (pc := 7) F dX10_longestDark_7 rfl ?_
    refine r_getf (pc := 8) F dX10_longestDark_8 fl_10_88 i68_42 (ce_42 _ _ _) rfl ?_
    refine r_icmp_ge (pc := 11) (tgt := 50) F dX10_longestDark_11 rfl h1 (fun h1 => ?_) (fun h1 => ?_)
    · refine V_sub (ls' := [(2, .int l2)]) [2] rfl ?_
      have e4 := hX1 _ (Option.some.inj h1).symm
      cases e4
      exact E6
    · refine r_aload_n (pc := 14) F dX10_longestDark_14 rfl ?_
      refine r_getf (pc := 15) F dX10_longestDark_15 fl_10_124 i68_42 (ce_42 _ _ _) rfl ?_
      refine r_iload_n (pc := 18) F dX10_longestDark_18 rfl ?_
      refine r_Si2 (pc := 19) F dX10_longestDark_19 ml_10_147 (kX10_has _ w (w.1 42 7) l3 _ rfl) (Nat.le_of_ble_eq_true rfl) (Nat.le_of_ble_eq_true rfl) (Nat.le_of_ble_eq_true rfl) ?_
      obtain ⟨v5, hv5, h1⟩ := lt_some h1
      have hv5 := hv5.symm
      suffices Jv5 : V Z 32 [(0, .ref ((zg Z).1 42)), (1, .int l1), (2, .int l2), (3, .int l3)] [.int v5] w by
        refine r_if_eq (pc := 22) (tgt := 29) F dX10_longestDark_22 rfl hv5 (fun hv5 => ?_) (fun hv5 => ?_)
        · refine r_iload_n (pc := 29) F dX10_longestDark_29 rfl ?_
          refine r_iconst (pc := 30) F dX10_longestDark_30 ic_1 ?_
          refine r_iadd (pc := 31) F dX10_longestDark_31 ?_
          exact V_nm hv5.symm Jv5
        · refine r_iconst (pc := 25) F dX10_longestDark_25 ic_0 ?_
          refine r_goto (pc := 26) (tgt := 32) F dX10_longestDark_26 rfl ?_
          exact V_nm hv5.symm Jv5
      refine r_istore_n (pc := 32) (ls' := [(0, .ref ((zg Z).1 42)), (1, .int v5), (2, .int l2), (3, .int l3)]) F dX10_longestDark_32 (Nat.le_of_ble_eq_true rfl) rfl ?_
      refine r_iload_n (pc := 33) F dX10_longestDark_33 rfl ?_
      refine r_iload_n (pc := 34) F dX10_longestDark_34 rfl ?_
      obtain ⟨v6, hv6, h1⟩ := lt_some h1
      have hv6 := hv6.symm
      suffices Jv6 : V Z 43 [(0, .ref ((zg Z).1 42)), (1, .int v5), (2, .int l2), (3, .int l3)] [.int v6] w by
        refine r_icmp_le (pc := 35) (tgt := 42) F dX10_longestDark_35 rfl hv6 (fun hv6 => ?_) (fun hv6 => ?_)
        · refine r_iload_n (pc := 42) F dX10_longestDark_42 rfl ?_
          exact V_nm hv6.symm Jv6
        · refine r_iload_n (pc := 38) F dX10_longestDark_38 rfl ?_
          refine r_goto (pc := 39) (tgt := 43) F dX10_longestDark_39 rfl ?_
          exact V_nm hv6.symm Jv6
      refine r_istore_n (pc := 43) (ls' := [(0, .ref ((zg Z).1 42)), (1, .int v5), (2, .int v6), (3, .int l3)]) F dX10_longestDark_43 (Nat.le_of_ble_eq_true rfl) rfl ?_
      obtain ⟨v7, ev7, h1⟩ := lt_some h1
      refine r_iinc (pc := 44) (ls' := [(0, .ref ((zg Z).1 42)), (1, .int v5), (2, .int v6), (3, .int v7)]) F dX10_longestDark_44 rfl (by rw [ev7]; rfl) (Nat.le_of_ble_eq_true rfl) rfl ?_
      refine r_goto (pc := 47) (tgt := 6) F dX10_longestDark_47 rfl ?_
      exact hP1 (v5, v6, v7) (Option.some.inj h1).symm
  refine r_iload_n (pc := 50) F dX10_longestDark_50 rfl ?_
  exact hR _ _ _ _ dX10_longestDark_51 rfl ⟨(Option.some.inj h0), rfl⟩
set_option maxRecDepth 100000 in
set_option maxHeartbeats 4000000 in
theorem kX10_gaps (g : GT) (w : Wd) (a1 : Int32) (out : Int32 × Wd) (h0 : fX10_gaps w a1 = some out) : CtI g yX10_gaps cX10_gaps 6 (some .int) 7 155 [.ref (g.1 42), .int a1] w (fun r w1 => (r, w1) = out) := by
  refine CtI_of .int (by decide) (Nat.le_of_ble_eq_true rfl) (fun Z hg F hR => ?_)
  subst hg
  have F : Fx Z RX10 cX10_gaps 6 7 155 := F
  refine V_sub (ls' := [(0, .ref ((zg Z).1 42)), (1, .int a1)]) [0, 1] rfl ?_
  unfold fX10_gaps at h0
  refine r_iload_n (pc := 0) F dX10_gaps_0 rfl ?_
  refine r_iconst (pc := 1) F dX10_gaps_1 ic_0 ?_
  refine r_iconst (pc := 2) F dX10_gaps_2 ic_1 ?_
  refine r_Si3 (pc := 3) F dX10_gaps_3 ml_10_110 (kX10_isIn _ w a1 0 1 _ rfl) (Nat.le_of_ble_eq_true rfl) (Nat.le_of_ble_eq_true rfl) (Nat.le_of_ble_eq_true rfl) ?_
  refine r_if_ne (pc := 6) (tgt := 16) F dX10_gaps_6 rfl h0 (fun h0 => ?_) (fun h0 => ?_)
  · refine r_aload_n (pc := 9) F dX10_gaps_9 rfl ?_
    refine r_bipush (pc := 10) F dX10_gaps_10 bp_m2 ?_
    obtain ⟨q3, er2, h0⟩ := bind_some h0
    replace h0 := un2_eq h0
    obtain ⟨r2, w1, rfl, h0⟩ := h0
    refine r_Vj1 (pc := 12) F dX10_gaps_12 ml_10_99 (kX10_no _ w (-2) (r2, w1) er2) i68_42 (ce_42 _ _ _) (Nat.le_of_ble_eq_true rfl) (Nat.le_of_ble_eq_true rfl) (Nat.le_of_ble_eq_true rfl) ?_
    exact hR _ _ _ _ dX10_gaps_15 rfl (Option.some.inj h0)
  · refine r_aload_n (pc := 16) F dX10_gaps_16 rfl ?_
    refine r_iconst (pc := 17) F dX10_gaps_17 ic_1 ?_
    refine r_iconst (pc := 18) F dX10_gaps_18 ic_1 ?_
    obtain ⟨w5, ew5, h0⟩ := bind_some h0
    refine r_Vv2 (pc := 19) F dX10_gaps_19 ml_10_157 (kX10_passesAll _ w 1 1 w5 ew5) i68_42 (ce_42 _ _ _) (Nat.le_of_ble_eq_true rfl) (Nat.le_of_ble_eq_true rfl) (Nat.le_of_ble_eq_true rfl) ?_
    refine r_iconst (pc := 22) F dX10_gaps_22 ic_0 ?_
    refine r_istore_n (pc := 23) (ls' := [(0, .ref ((zg Z).1 42)), (1, .int a1), (2, .int 0)]) F dX10_gaps_23 (Nat.le_of_ble_eq_true rfl) rfl ?_
    refine r_bipush (pc := 24) F dX10_gaps_24 bp_m9 ?_
    refine r_istore_n (pc := 26) (ls' := [(0, .ref ((zg Z).1 42)), (1, .int a1), (2, .int 0), (3, .int (-9))]) F dX10_gaps_26 (Nat.le_of_ble_eq_true rfl) rfl ?_
    refine r_iconst (pc := 27) F dX10_gaps_27 ic_1 ?_
    refine r_istore (pc := 28) (ls' := [(0, .ref ((zg Z).1 42)), (1, .int a1), (2, .int 0), (3, .int (-9)), (4, .int 1)]) F dX10_gaps_28 (Nat.le_of_ble_eq_true rfl) rfl ?_
    obtain ⟨x19, ix19, h0⟩ := bind_some h0
    replace h0 := un3_eq h0
    obtain ⟨l20, l21, w22, rfl, h0⟩ := h0
    suffices E30 : V Z 84 [(0, .ref ((zg Z).1 42)), (1, .int a1), (2, .int l20), (3, .int l21)] [] w22 by
      refine iter_rule (P := fun s : Int32 × Int32 × Int32 × Wd => V Z 30 [(0, .ref ((zg Z).1 42)), (1, .int a1), (2, .int (s.1)), (3, .int (s.2.1)), (4, .int (s.2.2.1))] [] s.2.2.2) (x := (l20, l21, w22)) ?_ FU (0, (-9), 1, w5) ix19
      intro s y1 h1 hP1 hX1
      obtain ⟨l7, l8, l9, w10⟩ := s
      have h1 : fX10_gaps_b30 l7 l8 l9 w10 = some y1 := h1
      unfold fX10_gaps_b30 at h1
      refine r_aload_n (pc := 30) F dX10_gaps_30 rfl ?_
      refine r_getf (pc := 31) F dX10_gaps_31 fl_10_127 i68_42 (ce_42 _ _ _) rfl ?_
      refine r_aload_n (pc := 34) F dX10_gaps_34 rfl ?_
      refine r_Vi0 (pc := 35) F dX10_gaps_35 ml_10_130 (kX10_doorAt _ w10 _ rfl) i68_42 (ce_42 _ _ _) (Nat.le_of_ble_eq_true rfl) (Nat.le_of_ble_eq_true rfl) (Nat.le_of_ble_eq_true rfl) ?_
      refine r_icmp_ge (pc := 38) (tgt := 84) F dX10_gaps_38 rfl h1 (fun h1 => ?_) (fun h1 => ?_)
      · refine V_sub (ls' := [(0, .ref ((zg Z).1 42)), (1, .int a1), (2, .int l7), (3, .int l8)]) [0, 1, 2, 3] rfl ?_
        have e11 := hX1 _ (Option.some.inj h1).symm
        cases e11
        exact E30
      · refine r_aload_n (pc := 41) F dX10_gaps_41 rfl ?_
        refine r_iconst (pc := 42) F dX10_gaps_42 ic_0 ?_
        obtain ⟨w12, ew12, h1⟩ := bind_some h1
        refine r_Vv1 (pc := 43) F dX10_gaps_43 ml_10_136 (kX10_goes _ w10 0 w12 ew12) i68_42 (ce_42 _ _ _) (Nat.le_of_ble_eq_true rfl) (Nat.le_of_ble_eq_true rfl) (Nat.le_of_ble_eq_true rfl) ?_
        refine r_aload_n (pc := 46) F dX10_gaps_46 rfl ?_
        obtain ⟨r14, er14, h1⟩ := bind_some h1
        refine r_Vi0 (pc := 47) F dX10_gaps_47 ml_10_331 (kX10_longestDark _ w12 r14 er14) i68_42 (ce_42 _ _ _) (Nat.le_of_ble_eq_true rfl) (Nat.le_of_ble_eq_true rfl) (Nat.le_of_ble_eq_true rfl) ?_
        refine r_istore (pc := 50) (ls' := [(0, .ref ((zg Z).1 42)), (1, .int a1), (2, .int l7), (3, .int l8), (4, .int l9), (5, .int r14)]) F dX10_gaps_50 (Nat.le_of_ble_eq_true rfl) rfl ?_
        refine r_iload (pc := 52) F dX10_gaps_52 rfl ?_
        refine r_iload_n (pc := 54) F dX10_gaps_54 rfl ?_
        obtain ⟨v15, hv15, h1⟩ := lt_some h1
        have hv15 := hv15.symm
        suffices Jv15 : V Z 64 [(0, .ref ((zg Z).1 42)), (1, .int a1), (2, .int l7), (3, .int l8), (4, .int l9), (5, .int r14)] [.int v15] w12 by
          refine r_icmp_le (pc := 55) (tgt := 63) F dX10_gaps_55 rfl hv15 (fun hv15 => ?_) (fun hv15 => ?_)
          · refine r_iload_n (pc := 63) F dX10_gaps_63 rfl ?_
            exact V_nm hv15.symm Jv15
          · refine r_iload (pc := 58) F dX10_gaps_58 rfl ?_
            refine r_goto (pc := 60) (tgt := 64) F dX10_gaps_60 rfl ?_
            exact V_nm hv15.symm Jv15
        refine r_istore_n (pc := 64) (ls' := [(0, .ref ((zg Z).1 42)), (1, .int a1), (2, .int l7), (3, .int v15), (4, .int l9), (5, .int r14)]) F dX10_gaps_64 (Nat.le_of_ble_eq_true rfl) rfl ?_
        refine r_iload (pc := 65) F dX10_gaps_65 rfl ?_
        refine r_iload_n (pc := 67) F dX10_gaps_67 rfl ?_
        obtain ⟨v16, hv16, h1⟩ := lt_some h1
        have hv16 := hv16.symm
        suffices Jv16 : V Z 77 [(0, .ref ((zg Z).1 42)), (1, .int a1), (2, .int l7), (3, .int v15), (4, .int l9), (5, .int r14)] [.int v16] w12 by
          refine r_icmp_le (pc := 68) (tgt := 76) F dX10_gaps_68 rfl hv16 (fun hv16 => ?_) (fun hv16 => ?_)
          · refine r_iload_n (pc := 76) F dX10_gaps_76 rfl ?_
            exact V_nm hv16.symm Jv16
          · refine r_iload (pc := 71) F dX10_gaps_71 rfl ?_
            refine r_goto (pc := 73) (tgt := 77) F dX10_gaps_73 rfl ?_
            exact V_nm hv16.symm Jv16
        refine r_istore_n (pc := 77) (ls' := [(0, .ref ((zg Z).1 42)), (1, .int a1), (2, .int v16), (3, .int v15), (4, .int l9), (5, .int r14)]) F dX10_gaps_77 (Nat.le_of_ble_eq_true rfl) rfl ?_
        obtain ⟨v17, ev17, h1⟩ := lt_some h1
        refine r_iinc (pc := 78) (ls' := [(0, .ref ((zg Z).1 42)), (1, .int a1), (2, .int v16), (3, .int v15), (4, .int v17), (5, .int r14)]) F dX10_gaps_78 rfl (by rw [ev17]; rfl) (Nat.le_of_ble_eq_true rfl) rfl ?_
        refine r_goto (pc := 81) (tgt := 30) F dX10_gaps_81 rfl ?_
        refine V_sub (ls' := [(0, .ref ((zg Z).1 42)), (1, .int a1), (2, .int v16), (3, .int v15), (4, .int v17)]) [0, 1, 2, 3, 4] rfl ?_
        exact hP1 (v16, v15, v17, w12) (Option.some.inj h1).symm
    refine r_aload_n (pc := 84) F dX10_gaps_84 rfl ?_
    refine r_iconst (pc := 85) F dX10_gaps_85 ic_1 ?_
    refine r_iconst (pc := 86) F dX10_gaps_86 ic_0 ?_
    obtain ⟨w24, ew24, h0⟩ := bind_some h0
    refine r_Vv2 (pc := 87) F dX10_gaps_87 ml_10_157 (kX10_passesAll _ w22 1 0 w24 ew24) i68_42 (ce_42 _ _ _) (Nat.le_of_ble_eq_true rfl) (Nat.le_of_ble_eq_true rfl) (Nat.le_of_ble_eq_true rfl) ?_
    refine r_iload_n (pc := 90) F dX10_gaps_90 rfl ?_
    refine r_if_ne (pc := 91) (tgt := 98) F dX10_gaps_91 rfl h0 (fun h0 => ?_) (fun h0 => ?_)
    · refine r_iload_n (pc := 94) F dX10_gaps_94 rfl ?_
      refine r_goto (pc := 95) (tgt := 99) F dX10_gaps_95 rfl ?_
      exact hR _ _ _ _ dX10_gaps_99 rfl (Option.some.inj h0)
    · refine r_iload_n (pc := 98) F dX10_gaps_98 rfl ?_
      exact hR _ _ _ _ dX10_gaps_99 rfl (Option.some.inj h0)
set_option maxRecDepth 100000 in
set_option maxHeartbeats 4000000 in
theorem kX10_lightsOne (g : GT) (w : Wd) (out : Wd) (h0 : fX10_lightsOne w = some out) : CtV g yX10_lightsOne cX10_lightsOne 2 none 1 21 [.ref (g.1 42)] w (fun w1 => w1 = out) := by
  refine CtV_of (by decide) (Nat.le_of_ble_eq_true rfl) (fun Z hg F hR => ?_)
  subst hg
  have F : Fx Z RX10 cX10_lightsOne 2 1 21 := F
  refine V_sub (ls' := [(0, .ref ((zg Z).1 42))]) [0] rfl ?_
  unfold fX10_lightsOne at h0
  refine r_iconst (pc := 0) F dX10_lightsOne_0 ic_0 ?_
  refine r_istore_n (pc := 1) (ls' := [(0, .ref ((zg Z).1 42)), (1, .int 0)]) F dX10_lightsOne_1 (Nat.le_of_ble_eq_true rfl) rfl ?_
  refine iter_rule (P := fun s : Int32 => V Z 2 [(0, .ref ((zg Z).1 42)), (1, .int s)] [] w) (x := out) ?_ FU 0 h0
  intro s y1 h1 hP1 hX1
  obtain ⟨l1, rfl⟩ : ∃ z, z = s := ⟨s, rfl⟩
  have h1 : fX10_lightsOne_b2 w l1 = some y1 := h1
  unfold fX10_lightsOne_b2 at h1
  refine r_iload_n (pc := 2) F dX10_lightsOne_2 rfl ?_
  refine r_aload_n (pc := 3) F dX10_lightsOne_3 rfl ?_
  refine r_getf (pc := 4) F dX10_lightsOne_4 fl_10_88 i68_42 (ce_42 _ _ _) rfl ?_
  refine r_icmp_ge (pc := 7) (tgt := 54) F dX10_lightsOne_7 rfl h1 (fun h1 => ?_) (fun h1 => ?_)
  · have h0 := congrArg some (hX1 _ (Option.some.inj h1).symm)
    exact hR _ _ _ dX10_lightsOne_54 (Option.some.inj h0)
  · refine r_aload_n (pc := 10) F dX10_lightsOne_10 rfl ?_
    refine r_getf (pc := 11) F dX10_lightsOne_11 fl_10_16 i68_42 (ce_42 _ _ _) rfl ?_
    refine r_iload_n (pc := 14) F dX10_lightsOne_14 rfl ?_
    obtain ⟨g2, h1⟩ := gd_some h1
    refine r_iald (pc := 15) F dX10_lightsOne_15 i68_45 (ca_45 _) g2 rfl ?_
    refine r_bipush (pc := 16) F dX10_lightsOne_16 bp_6 ?_
    refine r_icmp_eq (pc := 18) (tgt := 48) F dX10_lightsOne_18 rfl h1 (fun h1 => ?_) (fun h1 => ?_)
    · obtain ⟨v3, ev3, h1⟩ := lt_some h1
      refine r_iinc (pc := 48) (ls' := [(0, .ref ((zg Z).1 42)), (1, .int v3)]) F dX10_lightsOne_48 rfl (by rw [ev3]; rfl) (Nat.le_of_ble_eq_true rfl) rfl ?_
      refine r_goto (pc := 51) (tgt := 2) F dX10_lightsOne_51 rfl ?_
      exact hP1 v3 (Option.some.inj h1).symm
    · refine r_aload_n (pc := 21) F dX10_lightsOne_21 rfl ?_
      refine r_getf (pc := 22) F dX10_lightsOne_22 fl_10_124 i68_42 (ce_42 _ _ _) rfl ?_
      refine r_iload_n (pc := 25) F dX10_lightsOne_25 rfl ?_
      refine r_Si2 (pc := 26) F dX10_lightsOne_26 ml_10_147 (kX10_has _ w (w.1 42 7) l1 _ rfl) (Nat.le_of_ble_eq_true rfl) (Nat.le_of_ble_eq_true rfl) (Nat.le_of_ble_eq_true rfl) ?_
      refine r_if_eq (pc := 29) (tgt := 35) F dX10_lightsOne_29 rfl h1 (fun h1 => ?_) (fun h1 => ?_)
      · refine r_aload_n (pc := 35) F dX10_lightsOne_35 rfl ?_
        refine r_dup (pc := 36) F dX10_lightsOne_36 rfl ?_
        refine r_getf (pc := 37) F dX10_lightsOne_37 fl_10_124 i68_42 (ce_42 _ _ _) rfl ?_
        refine r_iconst (pc := 40) F dX10_lightsOne_40 ic_1 ?_
        refine r_iload_n (pc := 41) F dX10_lightsOne_41 rfl ?_
        refine r_ishl (pc := 42) F dX10_lightsOne_42 ?_
        refine r_ior (pc := 43) F dX10_lightsOne_43 ?_
        obtain ⟨w4, ew4, h1⟩ := lt_some h1
        refine r_putI (pc := 44) F dX10_lightsOne_44 fl_10_124 fp_10_7 i68_42 (ce_42 _) (Nat.le_of_ble_eq_true rfl) rfl rfl rfl ew4 ?_
        have h0 := congrArg some (hX1 _ (Option.some.inj h1).symm)
        exact hR _ _ _ dX10_lightsOne_47 (Option.some.inj h0)
      · refine r_goto (pc := 32) (tgt := 48) F dX10_lightsOne_32 rfl ?_
        obtain ⟨v6, ev6, h1⟩ := lt_some h1
        refine r_iinc (pc := 48) (ls' := [(0, .ref ((zg Z).1 42)), (1, .int v6)]) F dX10_lightsOne_48 rfl (by rw [ev6]; rfl) (Nat.le_of_ble_eq_true rfl) rfl ?_
        refine r_goto (pc := 51) (tgt := 2) F dX10_lightsOne_51 rfl ?_
        exact hP1 v6 (Option.some.inj h1).symm
set_option maxRecDepth 100000 in
set_option maxHeartbeats 4000000 in
theorem kX10_doesLight (g : GT) (w : Wd) (a1 : Int32) (out : Int32 × Wd) (h0 : fX10_doesLight w a1 = some out) : CtI g yX10_doesLight cX10_doesLight 4 (some .boolean) 7 155 [.ref (g.1 42), .int a1] w (fun r w1 => (r, w1) = out) := by
  refine CtI_of .boolean (by decide) (Nat.le_of_ble_eq_true rfl) (fun Z hg F hR => ?_)
  subst hg
  have F : Fx Z RX10 cX10_doesLight 4 7 155 := F
  refine V_sub (ls' := [(0, .ref ((zg Z).1 42)), (1, .int a1)]) [0, 1] rfl ?_
  unfold fX10_doesLight at h0
  refine r_aload_n (pc := 0) F dX10_doesLight_0 rfl ?_
  refine r_iconst (pc := 1) F dX10_doesLight_1 ic_1 ?_
  refine r_iconst (pc := 2) F dX10_doesLight_2 ic_1 ?_
  obtain ⟨w1, ew1, h0⟩ := bind_some h0
  refine r_Vv2 (pc := 3) F dX10_doesLight_3 ml_10_157 (kX10_passesAll _ w 1 1 w1 ew1) i68_42 (ce_42 _ _ _) (Nat.le_of_ble_eq_true rfl) (Nat.le_of_ble_eq_true rfl) (Nat.le_of_ble_eq_true rfl) ?_
  refine r_iconst (pc := 6) F dX10_doesLight_6 ic_0 ?_
  refine r_istore_n (pc := 7) (ls' := [(0, .ref ((zg Z).1 42)), (1, .int a1), (2, .int 0)]) F dX10_doesLight_7 (Nat.le_of_ble_eq_true rfl) rfl ?_
  obtain ⟨w24, iw24, h0⟩ := bind_some h0
  suffices E8 : V Z 57 [(0, .ref ((zg Z).1 42))] [] w24 by
    refine iter_rule (P := fun s : Int32 × Wd => V Z 8 [(0, .ref ((zg Z).1 42)), (1, .int a1), (2, .int (s.1))] [] s.2) (x := w24) ?_ FU (0, w1) iw24
    intro s y1 h1 hP1 hX1
    obtain ⟨l3, w4⟩ := s
    have h1 : fX10_doesLight_b8 a1 l3 w4 = some y1 := h1
    unfold fX10_doesLight_b8 at h1
    refine r_aload_n (pc := 8) F dX10_doesLight_8 rfl ?_
    refine r_getf (pc := 9) F dX10_doesLight_9 fl_10_127 i68_42 (ce_42 _ _ _) rfl ?_
    refine r_aload_n (pc := 12) F dX10_doesLight_12 rfl ?_
    refine r_Vi0 (pc := 13) F dX10_doesLight_13 ml_10_130 (kX10_doorAt _ w4 _ rfl) i68_42 (ce_42 _ _ _) (Nat.le_of_ble_eq_true rfl) (Nat.le_of_ble_eq_true rfl) (Nat.le_of_ble_eq_true rfl) ?_
    refine r_icmp_ge (pc := 16) (tgt := 57) F dX10_doesLight_16 rfl h1 (fun h1 => ?_) (fun h1 => ?_)
    · refine V_sub (ls' := [(0, .ref ((zg Z).1 42))]) [0] rfl ?_
      have e5 := hX1 _ (Option.some.inj h1).symm
      cases e5
      exact E8
    · refine r_iconst (pc := 19) F dX10_doesLight_19 ic_0 ?_
      refine r_istore_n (pc := 20) (ls' := [(0, .ref ((zg Z).1 42)), (1, .int a1), (2, .int l3), (3, .int 0)]) F dX10_doesLight_20 (Nat.le_of_ble_eq_true rfl) rfl ?_
      obtain ⟨w17, iw17, h1⟩ := bind_some h1
      suffices E21 : V Z 46 [(0, .ref ((zg Z).1 42)), (1, .int a1), (2, .int l3)] [] w17 by
        refine iter_rule (P := fun s : Int32 × Wd => V Z 21 [(0, .ref ((zg Z).1 42)), (1, .int a1), (2, .int l3), (3, .int (s.1))] [] s.2) (x := w17) ?_ FU (0, w4) iw17
        intro s y2 h2 hP2 hX2
        obtain ⟨l6, w7⟩ := s
        have h2 : fX10_doesLight_b21 a1 l3 l6 w7 = some y2 := h2
        unfold fX10_doesLight_b21 at h2
        refine r_iload_n (pc := 21) F dX10_doesLight_21 rfl ?_
        refine r_iload_n (pc := 22) F dX10_doesLight_22 rfl ?_
        refine r_icmp_ge (pc := 23) (tgt := 46) F dX10_doesLight_23 rfl h2 (fun h2 => ?_) (fun h2 => ?_)
        · refine V_sub (ls' := [(0, .ref ((zg Z).1 42)), (1, .int a1), (2, .int l3)]) [0, 1, 2] rfl ?_
          have e8 := hX2 _ (Option.some.inj h2).symm
          cases e8
          exact E21
        · refine r_aload_n (pc := 26) F dX10_doesLight_26 rfl ?_
          refine r_getf (pc := 27) F dX10_doesLight_27 fl_10_80 i68_42 (ce_42 _ _ _) rfl ?_
          refine r_iload_n (pc := 30) F dX10_doesLight_30 rfl ?_
          obtain ⟨g9, h2⟩ := gd_some h2
          refine r_iald (pc := 31) F dX10_doesLight_31 i68_66 (ca_66 _) g9 rfl ?_
          refine r_iload_n (pc := 32) F dX10_doesLight_32 rfl ?_
          refine r_icmp_ne (pc := 33) (tgt := 40) F dX10_doesLight_33 rfl h2 (fun h2 => ?_) (fun h2 => ?_)
          · refine r_aload_n (pc := 36) F dX10_doesLight_36 rfl ?_
            obtain ⟨w10, ew10, h2⟩ := bind_some h2
            refine r_Vv0 (pc := 37) F dX10_doesLight_37 ml_10_334 (kX10_lightsOne _ w7 w10 ew10) i68_42 (ce_42 _ _ _) (Nat.le_of_ble_eq_true rfl) (Nat.le_of_ble_eq_true rfl) (Nat.le_of_ble_eq_true rfl) ?_
            obtain ⟨v12, ev12, h2⟩ := lt_some h2
            refine r_iinc (pc := 40) (ls' := [(0, .ref ((zg Z).1 42)), (1, .int a1), (2, .int l3), (3, .int v12)]) F dX10_doesLight_40 rfl (by rw [ev12]; rfl) (Nat.le_of_ble_eq_true rfl) rfl ?_
            refine r_goto (pc := 43) (tgt := 21) F dX10_doesLight_43 rfl ?_
            exact hP2 (v12, w10) (Option.some.inj h2).symm
          · obtain ⟨v13, ev13, h2⟩ := lt_some h2
            refine r_iinc (pc := 40) (ls' := [(0, .ref ((zg Z).1 42)), (1, .int a1), (2, .int l3), (3, .int v13)]) F dX10_doesLight_40 rfl (by rw [ev13]; rfl) (Nat.le_of_ble_eq_true rfl) rfl ?_
            refine r_goto (pc := 43) (tgt := 21) F dX10_doesLight_43 rfl ?_
            exact hP2 (v13, w7) (Option.some.inj h2).symm
      refine r_aload_n (pc := 46) F dX10_doesLight_46 rfl ?_
      refine r_iconst (pc := 47) F dX10_doesLight_47 ic_0 ?_
      obtain ⟨w19, ew19, h1⟩ := bind_some h1
      refine r_Vv1 (pc := 48) F dX10_doesLight_48 ml_10_136 (kX10_goes _ w17 0 w19 ew19) i68_42 (ce_42 _ _ _) (Nat.le_of_ble_eq_true rfl) (Nat.le_of_ble_eq_true rfl) (Nat.le_of_ble_eq_true rfl) ?_
      obtain ⟨v21, ev21, h1⟩ := lt_some h1
      refine r_iinc (pc := 51) (ls' := [(0, .ref ((zg Z).1 42)), (1, .int a1), (2, .int v21)]) F dX10_doesLight_51 rfl (by rw [ev21]; rfl) (Nat.le_of_ble_eq_true rfl) rfl ?_
      refine r_goto (pc := 54) (tgt := 8) F dX10_doesLight_54 rfl ?_
      exact hP1 (v21, w19) (Option.some.inj h1).symm
  refine r_aload_n (pc := 57) F dX10_doesLight_57 rfl ?_
  refine r_getf (pc := 58) F dX10_doesLight_58 fl_10_124 i68_42 (ce_42 _ _ _) rfl ?_
  obtain ⟨v26, hv26, h0⟩ := lt_some h0
  have hv26 := hv26.symm
  suffices Jv26 : V Z 69 [(0, .ref ((zg Z).1 42))] [.int v26] w24 by
    refine r_if_eq (pc := 61) (tgt := 68) F dX10_doesLight_61 rfl hv26 (fun hv26 => ?_) (fun hv26 => ?_)
    · refine r_iconst (pc := 68) F dX10_doesLight_68 ic_0 ?_
      exact V_nm hv26.symm Jv26
    · refine r_iconst (pc := 64) F dX10_doesLight_64 ic_1 ?_
      refine r_goto (pc := 65) (tgt := 69) F dX10_doesLight_65 rfl ?_
      exact V_nm hv26.symm Jv26
  refine r_istore_n (pc := 69) (ls' := [(0, .ref ((zg Z).1 42)), (2, .int v26)]) F dX10_doesLight_69 (Nat.le_of_ble_eq_true rfl) rfl ?_
  refine r_aload_n (pc := 70) F dX10_doesLight_70 rfl ?_
  refine r_iconst (pc := 71) F dX10_doesLight_71 ic_1 ?_
  refine r_iconst (pc := 72) F dX10_doesLight_72 ic_0 ?_
  obtain ⟨w27, ew27, h0⟩ := bind_some h0
  refine r_Vv2 (pc := 73) F dX10_doesLight_73 ml_10_157 (kX10_passesAll _ w24 1 0 w27 ew27) i68_42 (ce_42 _ _ _) (Nat.le_of_ble_eq_true rfl) (Nat.le_of_ble_eq_true rfl) (Nat.le_of_ble_eq_true rfl) ?_
  refine r_iload_n (pc := 76) F dX10_doesLight_76 rfl ?_
  obtain ⟨g29, h0⟩ := gd_some h0
  exact hR _ _ _ _ dX10_doesLight_77 (bz_n g29) (Option.some.inj h0)
set_option maxRecDepth 100000 in
set_option maxHeartbeats 4000000 in
theorem kX10_findMatches (g : GT) (w : Wd) (a1 : Int32) (out : Int32 × Wd) (h0 : fX10_findMatches w a1 = some out) : CtI g yX10_findMatches cX10_findMatches 8 (some .boolean) 8 178 [.ref (g.1 42), .int a1] w (fun r w1 => (r, w1) = out) := by
  refine CtI_of .boolean (by decide) (Nat.le_of_ble_eq_true rfl) (fun Z hg F hR => ?_)
  subst hg
  have F : Fx Z RX10 cX10_findMatches 8 8 178 := F
  refine V_sub (ls' := [(0, .ref ((zg Z).1 42)), (1, .int a1)]) [0, 1] rfl ?_
  unfold fX10_findMatches at h0
  refine r_aload_n (pc := 0) F dX10_findMatches_0 rfl ?_
  refine r_Vi0 (pc := 1) F dX10_findMatches_1 ml_10_130 (kX10_doorAt _ w _ rfl) i68_42 (ce_42 _ _ _) (Nat.le_of_ble_eq_true rfl) (Nat.le_of_ble_eq_true rfl) (Nat.le_of_ble_eq_true rfl) ?_
  refine r_aload_n (pc := 4) F dX10_findMatches_4 rfl ?_
  refine r_getf (pc := 5) F dX10_findMatches_5 fl_10_127 i68_42 (ce_42 _ _ _) rfl ?_
  refine r_isub (pc := 8) F dX10_findMatches_8 ?_
  obtain ⟨v1, ev1, h0⟩ := lt_some h0
  refine V_nm ev1 ?_
  refine r_istore_n (pc := 9) (ls' := [(0, .ref ((zg Z).1 42)), (1, .int a1), (2, .int v1)]) F dX10_findMatches_9 (Nat.le_of_ble_eq_true rfl) rfl ?_
  refine r_iconst (pc := 10) F dX10_findMatches_10 ic_1 ?_
  refine r_istore_n (pc := 11) (ls' := [(0, .ref ((zg Z).1 42)), (1, .int a1), (2, .int v1), (3, .int 1)]) F dX10_findMatches_11 (Nat.le_of_ble_eq_true rfl) rfl ?_
  refine r_iconst (pc := 12) F dX10_findMatches_12 ic_0 ?_
  refine r_istore (pc := 13) (ls' := [(0, .ref ((zg Z).1 42)), (1, .int a1), (2, .int v1), (3, .int 1), (4, .int 0)]) F dX10_findMatches_13 (Nat.le_of_ble_eq_true rfl) rfl ?_
  obtain ⟨l9, il9, h0⟩ := bind_some h0
  suffices E15 : V Z 31 [(0, .ref ((zg Z).1 42)), (1, .int a1), (2, .int v1), (3, .int l9)] [] w by
    refine iter_rule (P := fun s : Int32 × Int32 => V Z 15 [(0, .ref ((zg Z).1 42)), (1, .int a1), (2, .int v1), (3, .int (s.1)), (4, .int (s.2))] [] w) (x := l9) ?_ FU (1, 0) il9
    intro s y1 h1 hP1 hX1
    obtain ⟨l2, l3⟩ := s
    have h1 : fX10_findMatches_b15 a1 v1 l2 l3 = some y1 := h1
    unfold fX10_findMatches_b15 at h1
    refine r_iload (pc := 15) F dX10_findMatches_15 rfl ?_
    refine r_iload_n (pc := 17) F dX10_findMatches_17 rfl ?_
    refine r_icmp_ge (pc := 18) (tgt := 31) F dX10_findMatches_18 rfl h1 (fun h1 => ?_) (fun h1 => ?_)
    · refine V_sub (ls' := [(0, .ref ((zg Z).1 42)), (1, .int a1), (2, .int v1), (3, .int l2)]) [0, 1, 2, 3] rfl ?_
      have e4 := hX1 _ (Option.some.inj h1).symm
      cases e4
      exact E15
    · refine r_iload_n (pc := 21) F dX10_findMatches_21 rfl ?_
      refine r_iload_n (pc := 22) F dX10_findMatches_22 rfl ?_
      refine r_imul (pc := 23) F dX10_findMatches_23 ?_
      obtain ⟨v5, ev5, h1⟩ := lt_some h1
      refine V_nm ev5 ?_
      refine r_istore_n (pc := 24) (ls' := [(0, .ref ((zg Z).1 42)), (1, .int a1), (2, .int v1), (3, .int v5), (4, .int l3)]) F dX10_findMatches_24 (Nat.le_of_ble_eq_true rfl) rfl ?_
      obtain ⟨v6, ev6, h1⟩ := lt_some h1
      refine r_iinc (pc := 25) (ls' := [(0, .ref ((zg Z).1 42)), (1, .int a1), (2, .int v1), (3, .int v5), (4, .int v6)]) F dX10_findMatches_25 rfl (by rw [ev6]; rfl) (Nat.le_of_ble_eq_true rfl) rfl ?_
      refine r_goto (pc := 28) (tgt := 15) F dX10_findMatches_28 rfl ?_
      exact hP1 (v5, v6) (Option.some.inj h1).symm
  refine r_iconst (pc := 31) F dX10_findMatches_31 ic_0 ?_
  refine r_istore (pc := 32) (ls' := [(0, .ref ((zg Z).1 42)), (1, .int a1), (2, .int v1), (3, .int l9), (4, .int 0)]) F dX10_findMatches_32 (Nat.le_of_ble_eq_true rfl) rfl ?_
  refine iter_rule (P := fun s : Int32 × Wd => V Z 34 [(0, .ref ((zg Z).1 42)), (1, .int a1), (2, .int v1), (3, .int l9), (4, .int (s.1))] [] s.2) (x := out) ?_ FU (0, w) h0
  intro s y1 h1 hP1 hX1
  obtain ⟨l10, w11⟩ := s
  have h1 : fX10_findMatches_b34 l9 a1 v1 l10 w11 = some y1 := h1
  unfold fX10_findMatches_b34 at h1
  refine r_iload (pc := 34) F dX10_findMatches_34 rfl ?_
  refine r_iload_n (pc := 36) F dX10_findMatches_36 rfl ?_
  refine r_icmp_ge (pc := 37) (tgt := 138) F dX10_findMatches_37 rfl h1 (fun h1 => ?_) (fun h1 => ?_)
  · refine r_iconst (pc := 138) F dX10_findMatches_138 ic_0 ?_
    have h0 := congrArg some (hX1 _ (Option.some.inj h1).symm)
    exact hR _ _ _ _ dX10_findMatches_139 rfl (Option.some.inj h0)
  · refine r_iload (pc := 40) F dX10_findMatches_40 rfl ?_
    refine r_istore (pc := 42) (ls' := [(0, .ref ((zg Z).1 42)), (1, .int a1), (2, .int v1), (3, .int l9), (4, .int l10), (5, .int l10)]) F dX10_findMatches_42 (Nat.le_of_ble_eq_true rfl) rfl ?_
    refine r_iconst (pc := 44) F dX10_findMatches_44 ic_1 ?_
    refine r_istore (pc := 45) (ls' := [(0, .ref ((zg Z).1 42)), (1, .int a1), (2, .int v1), (3, .int l9), (4, .int l10), (5, .int l10), (6, .int 1)]) F dX10_findMatches_45 (Nat.le_of_ble_eq_true rfl) rfl ?_
    refine r_iload_n (pc := 47) F dX10_findMatches_47 rfl ?_
    refine r_iconst (pc := 48) F dX10_findMatches_48 ic_1 ?_
    refine r_isub (pc := 49) F dX10_findMatches_49 ?_
    obtain ⟨v12, ev12, h1⟩ := lt_some h1
    refine V_nm ev12 ?_
    refine r_istore (pc := 50) (ls' := [(0, .ref ((zg Z).1 42)), (1, .int a1), (2, .int v1), (3, .int l9), (4, .int l10), (5, .int l10), (6, .int 1), (7, .int v12)]) F dX10_findMatches_50 (Nat.le_of_ble_eq_true rfl) rfl ?_
    obtain ⟨x30, ix30, h1⟩ := bind_some h1
    replace h1 := un2_eq h1
    obtain ⟨l31, w32, rfl, h1⟩ := h1
    suffices E52 : V Z 117 [(0, .ref ((zg Z).1 42)), (1, .int a1), (2, .int v1), (3, .int l9), (4, .int l10), (6, .int l31)] [] w32 by
      refine iter_rule (P := fun s : Int32 × Int32 × Int32 × Wd => V Z 52 [(0, .ref ((zg Z).1 42)), (1, .int a1), (2, .int v1), (3, .int l9), (4, .int l10), (5, .int (s.1)), (6, .int (s.2.1)), (7, .int (s.2.2.1))] [] s.2.2.2) (x := (l31, w32)) ?_ FU (l10, 1, v12, w11) ix30
      intro s y2 h2 hP2 hX2
      obtain ⟨l13, l14, l15, w16⟩ := s
      have h2 : fX10_findMatches_b52 v1 a1 l13 l14 l15 w16 = some y2 := h2
      unfold fX10_findMatches_b52 at h2
      refine r_iload (pc := 52) F dX10_findMatches_52 rfl ?_
      refine r_if_lt (pc := 54) (tgt := 117) F dX10_findMatches_54 rfl h2 (fun h2 => ?_) (fun h2 => ?_)
      · refine V_sub (ls' := [(0, .ref ((zg Z).1 42)), (1, .int a1), (2, .int v1), (3, .int l9), (4, .int l10), (6, .int l14)]) [0, 1, 2, 3, 4, 6] rfl ?_
        have e17 := hX2 _ (Option.some.inj h2).symm
        cases e17
        exact E52
      · refine r_aload_n (pc := 57) F dX10_findMatches_57 rfl ?_
        refine r_getf (pc := 58) F dX10_findMatches_58 fl_10_80 i68_42 (ce_42 _ _ _) rfl ?_
        refine r_iload (pc := 61) F dX10_findMatches_61 rfl ?_
        refine r_iload (pc := 63) F dX10_findMatches_63 rfl ?_
        refine r_iload_n (pc := 65) F dX10_findMatches_65 rfl ?_
        obtain ⟨g18, h2⟩ := gd_some h2
        refine r_irem (pc := 66) F dX10_findMatches_66 (by simpa using g18) ?_
        obtain ⟨g20, h2⟩ := gd_some h2
        obtain ⟨w19, ew19, h2⟩ := lt_some h2
        refine r_iast (pc := 67) F dX10_findMatches_67 i68_66 (ca_66 _) g20 rfl ew19 ?_
        refine r_iload (pc := 68) F dX10_findMatches_68 rfl ?_
        refine r_iload_n (pc := 70) F dX10_findMatches_70 rfl ?_
        refine r_idiv (pc := 71) F dX10_findMatches_71 (by simpa using g18) ?_
        obtain ⟨v22, ev22, h2⟩ := lt_some h2
        refine V_nm ev22 ?_
        refine r_istore (pc := 72) (ls' := [(0, .ref ((zg Z).1 42)), (1, .int a1), (2, .int v1), (3, .int l9), (4, .int l10), (5, .int v22), (6, .int l14), (7, .int l15)]) F dX10_findMatches_72 (Nat.le_of_ble_eq_true rfl) rfl ?_
        refine r_iload (pc := 74) F dX10_findMatches_74 rfl ?_
        refine r_iload (pc := 76) F dX10_findMatches_76 rfl ?_
        refine r_iload_n (pc := 78) F dX10_findMatches_78 rfl ?_
        refine r_iconst (pc := 79) F dX10_findMatches_79 ic_1 ?_
        refine r_isub (pc := 80) F dX10_findMatches_80 ?_
        obtain ⟨v24, hv24, h2⟩ := bind_some h2
        suffices Jv24 : V Z 108 [(0, .ref ((zg Z).1 42)), (1, .int a1), (2, .int v1), (3, .int l9), (4, .int l10), (5, .int v22), (6, .int l14), (7, .int l15)] [.int v24, .int l14] w19 by
          refine r_icmp_eq (pc := 81) (tgt := 103) F dX10_findMatches_81 rfl hv24 (fun hv24 => ?_) (fun hv24 => ?_)
          · refine r_iconst (pc := 103) F dX10_findMatches_103 ic_1 ?_
            refine r_goto (pc := 104) (tgt := 108) F dX10_findMatches_104 rfl ?_
            exact V_nm (Option.some.inj hv24).symm Jv24
          · refine r_aload_n (pc := 84) F dX10_findMatches_84 rfl ?_
            refine r_getf (pc := 85) F dX10_findMatches_85 fl_10_80 i68_42 (ce_42 _ _ _) rfl ?_
            refine r_iload (pc := 88) F dX10_findMatches_88 rfl ?_
            refine r_iald (pc := 90) F dX10_findMatches_90 i68_66 (ca_66 _) g20 rfl ?_
            refine r_aload_n (pc := 91) F dX10_findMatches_91 rfl ?_
            refine r_getf (pc := 92) F dX10_findMatches_92 fl_10_80 i68_42 (ce_42 _ _ _) rfl ?_
            refine r_iload (pc := 95) F dX10_findMatches_95 rfl ?_
            refine r_iconst (pc := 97) F dX10_findMatches_97 ic_1 ?_
            refine r_iadd (pc := 98) F dX10_findMatches_98 ?_
            obtain ⟨g25, hv24⟩ := gd_some hv24
            refine r_iald (pc := 99) F dX10_findMatches_99 i68_66 (ca_66 _) g25 rfl ?_
            refine r_icmp_ge (pc := 100) (tgt := 107) F dX10_findMatches_100 rfl hv24 (fun hv24 => ?_) (fun hv24 => ?_)
            · refine r_iconst (pc := 107) F dX10_findMatches_107 ic_0 ?_
              exact V_nm (Option.some.inj hv24).symm Jv24
            · refine r_iconst (pc := 103) F dX10_findMatches_103 ic_1 ?_
              refine r_goto (pc := 104) (tgt := 108) F dX10_findMatches_104 rfl ?_
              exact V_nm (Option.some.inj hv24).symm Jv24
        refine r_iand (pc := 108) F dX10_findMatches_108 ?_
        obtain ⟨v27, ev27, h2⟩ := lt_some h2
        refine V_nm ev27 ?_
        refine r_istore (pc := 109) (ls' := [(0, .ref ((zg Z).1 42)), (1, .int a1), (2, .int v1), (3, .int l9), (4, .int l10), (5, .int v22), (6, .int v27), (7, .int l15)]) F dX10_findMatches_109 (Nat.le_of_ble_eq_true rfl) rfl ?_
        obtain ⟨v28, ev28, h2⟩ := lt_some h2
        refine r_iinc (pc := 111) (ls' := [(0, .ref ((zg Z).1 42)), (1, .int a1), (2, .int v1), (3, .int l9), (4, .int l10), (5, .int v22), (6, .int v27), (7, .int v28)]) F dX10_findMatches_111 rfl (by rw [ev28]; rfl) (Nat.le_of_ble_eq_true rfl) rfl ?_
        refine r_goto (pc := 114) (tgt := 52) F dX10_findMatches_114 rfl ?_
        exact hP2 (v22, v27, v28, w19) (Option.some.inj h2).symm
    refine r_iload (pc := 117) F dX10_findMatches_117 rfl ?_
    refine r_if_eq (pc := 119) (tgt := 132) F dX10_findMatches_119 rfl h1 (fun h1 => ?_) (fun h1 => ?_)
    · obtain ⟨v34, ev34, h1⟩ := lt_some h1
      refine r_iinc (pc := 132) (ls' := [(0, .ref ((zg Z).1 42)), (1, .int a1), (2, .int v1), (3, .int l9), (4, .int v34), (6, .int l31)]) F dX10_findMatches_132 rfl (by rw [ev34]; rfl) (Nat.le_of_ble_eq_true rfl) rfl ?_
      refine r_goto (pc := 135) (tgt := 34) F dX10_findMatches_135 rfl ?_
      refine V_sub (ls' := [(0, .ref ((zg Z).1 42)), (1, .int a1), (2, .int v1), (3, .int l9), (4, .int v34)]) [0, 1, 2, 3, 4] rfl ?_
      exact hP1 (v34, w32) (Option.some.inj h1).symm
    · refine r_aload_n (pc := 122) F dX10_findMatches_122 rfl ?_
      refine r_iload_n (pc := 123) F dX10_findMatches_123 rfl ?_
      obtain ⟨q37, er36, h1⟩ := bind_some h1
      replace h1 := un2_eq h1
      obtain ⟨r36, w35, rfl, h1⟩ := h1
      refine r_Vj1 (pc := 124) F dX10_findMatches_124 ml_10_337 (kX10_doesLight _ w32 a1 (r36, w35) er36) i68_42 (ce_42 _ _ _) (Nat.le_of_ble_eq_true rfl) (Nat.le_of_ble_eq_true rfl) (Nat.le_of_ble_eq_true rfl) ?_
      refine r_if_eq (pc := 127) (tgt := 132) F dX10_findMatches_127 rfl h1 (fun h1 => ?_) (fun h1 => ?_)
      · obtain ⟨v39, ev39, h1⟩ := lt_some h1
        refine r_iinc (pc := 132) (ls' := [(0, .ref ((zg Z).1 42)), (1, .int a1), (2, .int v1), (3, .int l9), (4, .int v39), (6, .int l31)]) F dX10_findMatches_132 rfl (by rw [ev39]; rfl) (Nat.le_of_ble_eq_true rfl) rfl ?_
        refine r_goto (pc := 135) (tgt := 34) F dX10_findMatches_135 rfl ?_
        refine V_sub (ls' := [(0, .ref ((zg Z).1 42)), (1, .int a1), (2, .int v1), (3, .int l9), (4, .int v39)]) [0, 1, 2, 3, 4] rfl ?_
        exact hP1 (v39, w35) (Option.some.inj h1).symm
      · refine r_iconst (pc := 130) F dX10_findMatches_130 ic_1 ?_
        have h0 := congrArg some (hX1 _ (Option.some.inj h1).symm)
        exact hR _ _ _ _ dX10_findMatches_131 rfl (Option.some.inj h0)
set_option maxRecDepth 100000 in
set_option maxHeartbeats 4000000 in
theorem kX10_matches (g : GT) (w : Wd) (a1 : Int32) (out : Int32 × Wd) (h0 : fX10_matches w a1 = some out) : CtI g yX10_matches cX10_matches 3 (some .int) 9 205 [.ref (g.1 42), .int a1] w (fun r w1 => (r, w1) = out) := by
  refine CtI_of .int (by decide) (Nat.le_of_ble_eq_true rfl) (fun Z hg F hR => ?_)
  subst hg
  have F : Fx Z RX10 cX10_matches 3 9 205 := F
  refine V_sub (ls' := [(0, .ref ((zg Z).1 42)), (1, .int a1)]) [0, 1] rfl ?_
  unfold fX10_matches at h0
  refine r_iload_n (pc := 0) F dX10_matches_0 rfl ?_
  refine r_iconst (pc := 1) F dX10_matches_1 ic_m1 ?_
  refine r_icmp_ge (pc := 2) (tgt := 12) F dX10_matches_2 rfl h0 (fun h0 => ?_) (fun h0 => ?_)
  · refine r_iconst (pc := 12) F dX10_matches_12 ic_0 ?_
    refine r_istore_n (pc := 13) (ls' := [(0, .ref ((zg Z).1 42)), (1, .int a1), (2, .int 0)]) F dX10_matches_13 (Nat.le_of_ble_eq_true rfl) rfl ?_
    refine iter_rule (P := fun s : Int32 × Wd => V Z 14 [(0, .ref ((zg Z).1 42)), (1, .int a1), (2, .int (s.1))] [] s.2) (x := out) ?_ FU (0, w) h0
    intro s y1 h1 hP1 hX1
    obtain ⟨l1, w2⟩ := s
    have h1 : fX10_matches_b14 a1 l1 w2 = some y1 := h1
    unfold fX10_matches_b14 at h1
    refine r_iload_n (pc := 14) F dX10_matches_14 rfl ?_
    refine r_iconst (pc := 15) F dX10_matches_15 ic_4 ?_
    refine r_icmp_ge (pc := 16) (tgt := 58) F dX10_matches_16 rfl h1 (fun h1 => ?_) (fun h1 => ?_)
    · refine r_bipush (pc := 58) F dX10_matches_58 bp_m9 ?_
      have h0 := congrArg some (hX1 _ (Option.some.inj h1).symm)
      exact hR _ _ _ _ dX10_matches_60 rfl (Option.some.inj h0)
    · refine r_aload_n (pc := 19) F dX10_matches_19 rfl ?_
      refine r_iload_n (pc := 20) F dX10_matches_20 rfl ?_
      obtain ⟨q5, er4, h1⟩ := bind_some h1
      replace h1 := un2_eq h1
      obtain ⟨r4, w3, rfl, h1⟩ := h1
      refine r_Vj1 (pc := 21) F dX10_matches_21 ml_10_340 (kX10_findMatches _ w2 l1 (r4, w3) er4) i68_42 (ce_42 _ _ _) (Nat.le_of_ble_eq_true rfl) (Nat.le_of_ble_eq_true rfl) (Nat.le_of_ble_eq_true rfl) ?_
      refine r_if_eq (pc := 24) (tgt := 52) F dX10_matches_24 rfl h1 (fun h1 => ?_) (fun h1 => ?_)
      · obtain ⟨v7, ev7, h1⟩ := lt_some h1
        refine r_iinc (pc := 52) (ls' := [(0, .ref ((zg Z).1 42)), (1, .int a1), (2, .int v7)]) F dX10_matches_52 rfl (by rw [ev7]; rfl) (Nat.le_of_ble_eq_true rfl) rfl ?_
        refine r_goto (pc := 55) (tgt := 14) F dX10_matches_55 rfl ?_
        exact hP1 (v7, w3) (Option.some.inj h1).symm
      · refine r_iload_n (pc := 27) F dX10_matches_27 rfl ?_
        refine r_if_ge (pc := 28) (tgt := 35) F dX10_matches_28 rfl h1 (fun h1 => ?_) (fun h1 => ?_)
        · refine r_iload_n (pc := 35) F dX10_matches_35 rfl ?_
          refine r_iload_n (pc := 36) F dX10_matches_36 rfl ?_
          refine r_icmp_ge (pc := 37) (tgt := 49) F dX10_matches_37 rfl h1 (fun h1 => ?_) (fun h1 => ?_)
          · refine r_bipush (pc := 49) F dX10_matches_49 bp_m9 ?_
            have h0 := congrArg some (hX1 _ (Option.some.inj h1).symm)
            exact hR _ _ _ _ dX10_matches_51 rfl (Option.some.inj h0)
          · refine r_aload_n (pc := 40) F dX10_matches_40 rfl ?_
            refine r_getf (pc := 41) F dX10_matches_41 fl_10_80 i68_42 (ce_42 _ _ _) rfl ?_
            refine r_iload_n (pc := 44) F dX10_matches_44 rfl ?_
            obtain ⟨g8, h1⟩ := gd_some h1
            refine r_iald (pc := 45) F dX10_matches_45 i68_66 (ca_66 _) g8 rfl ?_
            refine r_goto (pc := 46) (tgt := 51) F dX10_matches_46 rfl ?_
            have h0 := congrArg some (hX1 _ (Option.some.inj h1).symm)
            exact hR _ _ _ _ dX10_matches_51 rfl (Option.some.inj h0)
        · refine r_iload_n (pc := 31) F dX10_matches_31 rfl ?_
          refine r_goto (pc := 32) (tgt := 51) F dX10_matches_32 rfl ?_
          have h0 := congrArg some (hX1 _ (Option.some.inj h1).symm)
          exact hR _ _ _ _ dX10_matches_51 rfl (Option.some.inj h0)
  · refine r_aload_n (pc := 5) F dX10_matches_5 rfl ?_
    refine r_bipush (pc := 6) F dX10_matches_6 bp_m4 ?_
    obtain ⟨q15, er14, h0⟩ := bind_some h0
    replace h0 := un2_eq h0
    obtain ⟨r14, w13, rfl, h0⟩ := h0
    refine r_Vj1 (pc := 8) F dX10_matches_8 ml_10_99 (kX10_no _ w (-4) (r14, w13) er14) i68_42 (ce_42 _ _ _) (Nat.le_of_ble_eq_true rfl) (Nat.le_of_ble_eq_true rfl) (Nat.le_of_ble_eq_true rfl) ?_
    exact hR _ _ _ _ dX10_matches_11 rfl (Option.some.inj h0)
set_option maxRecDepth 100000 in
set_option maxHeartbeats 4000000 in
theorem kX10_isWax (g : GT) (w : Wd) (a1 : Int32) (out : Int32 × Wd) (h0 : fX10_isWax w a1 = some out) : CtI g yX10_isWax cX10_isWax 4 (some .boolean) 8 177 [.ref (g.1 42), .int a1] w (fun r w1 => (r, w1) = out) := by
  refine CtI_of .boolean (by decide) (Nat.le_of_ble_eq_true rfl) (fun Z hg F hR => ?_)
  subst hg
  have F : Fx Z RX10 cX10_isWax 4 8 177 := F
  refine V_sub (ls' := [(0, .ref ((zg Z).1 42)), (1, .int a1)]) [0, 1] rfl ?_
  unfold fX10_isWax at h0
  have J53 : ∀ (w24 : Wd) (l23 : Int32), fX10_isWax_j53 w24 l23 = some out → V Z 53 [(0, .ref ((zg Z).1 42)), (2, .int l23)] [] w24 := by
    intro w24 l23 h0
    unfold fX10_isWax_j53 at h0
    refine r_aload_n (pc := 53) F dX10_isWax_53 rfl ?_
    refine r_iconst (pc := 54) F dX10_isWax_54 ic_1 ?_
    refine r_iconst (pc := 55) F dX10_isWax_55 ic_0 ?_
    obtain ⟨w25, ew25, h0⟩ := bind_some h0
    refine r_Vv2 (pc := 56) F dX10_isWax_56 ml_10_157 (kX10_passesAll _ w24 1 0 w25 ew25) i68_42 (ce_42 _ _ _) (Nat.le_of_ble_eq_true rfl) (Nat.le_of_ble_eq_true rfl) (Nat.le_of_ble_eq_true rfl) ?_
    refine r_iload_n (pc := 59) F dX10_isWax_59 rfl ?_
    obtain ⟨g27, h0⟩ := gd_some h0
    exact hR _ _ _ _ dX10_isWax_60 (bz_n g27) (Option.some.inj h0)
  refine r_aload_n (pc := 0) F dX10_isWax_0 rfl ?_
  refine r_iconst (pc := 1) F dX10_isWax_1 ic_1 ?_
  refine r_iconst (pc := 2) F dX10_isWax_2 ic_1 ?_
  obtain ⟨w1, ew1, h0⟩ := bind_some h0
  refine r_Vv2 (pc := 3) F dX10_isWax_3 ml_10_157 (kX10_passesAll _ w 1 1 w1 ew1) i68_42 (ce_42 _ _ _) (Nat.le_of_ble_eq_true rfl) (Nat.le_of_ble_eq_true rfl) (Nat.le_of_ble_eq_true rfl) ?_
  refine r_aload_n (pc := 6) F dX10_isWax_6 rfl ?_
  refine r_iload_n (pc := 7) F dX10_isWax_7 rfl ?_
  obtain ⟨w3, ew3, h0⟩ := lt_some h0
  refine r_putI (pc := 8) F dX10_isWax_8 fl_10_124 fp_10_7 i68_42 (ce_42 _) (Nat.le_of_ble_eq_true rfl) rfl rfl rfl ew3 ?_
  refine r_iconst (pc := 11) F dX10_isWax_11 ic_1 ?_
  refine r_istore_n (pc := 12) (ls' := [(0, .ref ((zg Z).1 42)), (1, .int a1), (2, .int 1)]) F dX10_isWax_12 (Nat.le_of_ble_eq_true rfl) rfl ?_
  refine r_iconst (pc := 13) F dX10_isWax_13 ic_0 ?_
  refine r_istore_n (pc := 14) (ls' := [(0, .ref ((zg Z).1 42)), (1, .int a1), (2, .int 1), (3, .int 0)]) F dX10_isWax_14 (Nat.le_of_ble_eq_true rfl) rfl ?_
  refine V_sub (ls' := [(0, .ref ((zg Z).1 42)), (2, .int 1), (3, .int 0)]) [0, 2, 3] rfl ?_
  obtain ⟨x19, ix19, h0⟩ := bind_some h0
  replace h0 := un2_eq h0
  obtain ⟨l20, w21, rfl, h0⟩ := h0
  suffices E15 : V Z 53 [(0, .ref ((zg Z).1 42)), (2, .int l20)] [] w21 by
    refine iter_rule (P := fun s : Int32 × Int32 × Wd => V Z 15 [(0, .ref ((zg Z).1 42)), (2, .int (s.1)), (3, .int (s.2.1))] [] s.2.2) (x := (l20, w21)) ?_ FU (1, 0, w3) ix19
    intro s y1 h1 hP1 hX1
    obtain ⟨l5, l6, w7⟩ := s
    have h1 : fX10_isWax_b15 l5 l6 w7 = some y1 := h1
    unfold fX10_isWax_b15 at h1
    refine r_iload_n (pc := 15) F dX10_isWax_15 rfl ?_
    refine r_aload_n (pc := 16) F dX10_isWax_16 rfl ?_
    refine r_getf (pc := 17) F dX10_isWax_17 fl_10_88 i68_42 (ce_42 _ _ _) rfl ?_
    refine r_icmp_ge (pc := 20) (tgt := 53) F dX10_isWax_20 rfl h1 (fun h1 => ?_) (fun h1 => ?_)
    · refine V_sub (ls' := [(0, .ref ((zg Z).1 42)), (2, .int l5)]) [0, 1] rfl ?_
      have e8 := hX1 _ (Option.some.inj h1).symm
      cases e8
      exact E15
    · refine r_iload_n (pc := 23) F dX10_isWax_23 rfl ?_
      refine r_if_eq (pc := 24) (tgt := 53) F dX10_isWax_24 rfl h1 (fun h1 => ?_) (fun h1 => ?_)
      · refine V_sub (ls' := [(0, .ref ((zg Z).1 42)), (2, .int l5)]) [0, 1] rfl ?_
        have e9 := hX1 _ (Option.some.inj h1).symm
        cases e9
        exact E15
      · refine r_aload_n (pc := 27) F dX10_isWax_27 rfl ?_
        refine r_iload_n (pc := 28) F dX10_isWax_28 rfl ?_
        obtain ⟨q12, er11, h1⟩ := bind_some h1
        replace h1 := un2_eq h1
        obtain ⟨r11, w10, rfl, h1⟩ := h1
        refine r_Vj1 (pc := 29) F dX10_isWax_29 ml_10_247 (kX10_darkEnds _ w7 l6 (r11, w10) er11) i68_42 (ce_42 _ _ _) (Nat.le_of_ble_eq_true rfl) (Nat.le_of_ble_eq_true rfl) (Nat.le_of_ble_eq_true rfl) ?_
        refine r_aload_n (pc := 32) F dX10_isWax_32 rfl ?_
        refine r_getf (pc := 33) F dX10_isWax_33 fl_10_83 i68_42 (ce_42 _ _ _) rfl ?_
        refine r_iload_n (pc := 36) F dX10_isWax_36 rfl ?_
        obtain ⟨g14, h1⟩ := gd_some h1
        refine r_iald (pc := 37) F dX10_isWax_37 i68_67 (ca_67 _) g14 rfl ?_
        obtain ⟨v15, hv15, h1⟩ := lt_some h1
        have hv15 := hv15.symm
        suffices Jv15 : V Z 46 [(0, .ref ((zg Z).1 42)), (2, .int l5), (3, .int l6)] [.int v15] w10 by
          refine r_icmp_ne (pc := 38) (tgt := 45) F dX10_isWax_38 rfl hv15 (fun hv15 => ?_) (fun hv15 => ?_)
          · refine r_iconst (pc := 41) F dX10_isWax_41 ic_1 ?_
            refine r_goto (pc := 42) (tgt := 46) F dX10_isWax_42 rfl ?_
            exact V_nm hv15.symm Jv15
          · refine r_iconst (pc := 45) F dX10_isWax_45 ic_0 ?_
            exact V_nm hv15.symm Jv15
        refine r_istore_n (pc := 46) (ls' := [(0, .ref ((zg Z).1 42)), (2, .int v15), (3, .int l6)]) F dX10_isWax_46 (Nat.le_of_ble_eq_true rfl) rfl ?_
        obtain ⟨v16, ev16, h1⟩ := lt_some h1
        refine r_iinc (pc := 47) (ls' := [(0, .ref ((zg Z).1 42)), (2, .int v15), (3, .int v16)]) F dX10_isWax_47 rfl (by rw [ev16]; rfl) (Nat.le_of_ble_eq_true rfl) rfl ?_
        refine r_goto (pc := 50) (tgt := 15) F dX10_isWax_50 rfl ?_
        exact hP1 (v15, v16, w10) (Option.some.inj h1).symm
  exact J53 w21 l20 h0
set_option maxRecDepth 100000 in
set_option maxHeartbeats 4000000 in
theorem kX10_wax (g : GT) (w : Wd) (a1 : Int32) (out : Int32 × Wd) (h0 : fX10_wax w a1 = some out) : CtI g yX10_wax cX10_wax 7 (some .int) 9 200 [.ref (g.1 42), .int a1] w (fun r w1 => (r, w1) = out) := by
  refine CtI_of .int (by decide) (Nat.le_of_ble_eq_true rfl) (fun Z hg F hR => ?_)
  subst hg
  have F : Fx Z RX10 cX10_wax 7 9 200 := F
  refine V_sub (ls' := [(0, .ref ((zg Z).1 42)), (1, .int a1)]) [0, 1] rfl ?_
  unfold fX10_wax at h0
  refine r_iload_n (pc := 0) F dX10_wax_0 rfl ?_
  refine r_iconst (pc := 1) F dX10_wax_1 ic_0 ?_
  refine r_iconst (pc := 2) F dX10_wax_2 ic_1 ?_
  refine r_Si3 (pc := 3) F dX10_wax_3 ml_10_110 (kX10_isIn _ w a1 0 1 _ rfl) (Nat.le_of_ble_eq_true rfl) (Nat.le_of_ble_eq_true rfl) (Nat.le_of_ble_eq_true rfl) ?_
  obtain ⟨v1, hv1, h0⟩ := lt_some h0
  have hv1 := hv1.symm
  suffices Jv1 : V Z 31 [(0, .ref ((zg Z).1 42)), (1, .int a1)] [.int v1] w by
    refine r_if_ne (pc := 6) (tgt := 14) F dX10_wax_6 rfl hv1 (fun hv1 => ?_) (fun hv1 => ?_)
    · refine r_bipush (pc := 9) F dX10_wax_9 bp_m2 ?_
      refine r_goto (pc := 11) (tgt := 31) F dX10_wax_11 rfl ?_
      exact V_nm hv1.symm Jv1
    · refine r_aload_n (pc := 14) F dX10_wax_14 rfl ?_
      refine r_getf (pc := 15) F dX10_wax_15 fl_10_343 i68_42 (ce_42 _ _ _) rfl ?_
      refine r_aload_n (pc := 18) F dX10_wax_18 rfl ?_
      refine r_getf (pc := 19) F dX10_wax_19 fl_10_88 i68_42 (ce_42 _ _ _) rfl ?_
      refine r_icmp_eq (pc := 22) (tgt := 30) F dX10_wax_22 rfl hv1 (fun hv1 => ?_) (fun hv1 => ?_)
      · refine r_iconst (pc := 30) F dX10_wax_30 ic_0 ?_
        exact V_nm hv1.symm Jv1
      · refine r_bipush (pc := 25) F dX10_wax_25 bp_m3 ?_
        refine r_goto (pc := 27) (tgt := 31) F dX10_wax_27 rfl ?_
        exact V_nm hv1.symm Jv1
  refine r_istore_n (pc := 31) (ls' := [(0, .ref ((zg Z).1 42)), (1, .int a1), (2, .int v1)]) F dX10_wax_31 (Nat.le_of_ble_eq_true rfl) rfl ?_
  refine r_iload_n (pc := 32) F dX10_wax_32 rfl ?_
  refine r_if_eq (pc := 33) (tgt := 42) F dX10_wax_33 rfl h0 (fun h0 => ?_) (fun h0 => ?_)
  · refine r_iconst (pc := 42) F dX10_wax_42 ic_0 ?_
    refine r_istore_n (pc := 43) (ls' := [(0, .ref ((zg Z).1 42)), (1, .int a1), (2, .int v1), (3, .int 0)]) F dX10_wax_43 (Nat.le_of_ble_eq_true rfl) rfl ?_
    refine r_iconst (pc := 44) F dX10_wax_44 ic_0 ?_
    refine r_istore (pc := 45) (ls' := [(0, .ref ((zg Z).1 42)), (1, .int a1), (2, .int v1), (3, .int 0), (4, .int 0)]) F dX10_wax_45 (Nat.le_of_ble_eq_true rfl) rfl ?_
    refine V_sub (ls' := [(0, .ref ((zg Z).1 42)), (1, .int a1), (3, .int 0), (4, .int 0)]) [0, 1, 3, 4] rfl ?_
    obtain ⟨l12, il12, h0⟩ := bind_some h0
    suffices E47 : V Z 85 [(0, .ref ((zg Z).1 42)), (1, .int a1), (3, .int l12)] [] w by
      refine iter_rule (P := fun s : Int32 × Int32 => V Z 47 [(0, .ref ((zg Z).1 42)), (1, .int a1), (3, .int (s.1)), (4, .int (s.2))] [] w) (x := l12) ?_ FU (0, 0) il12
      intro s y1 h1 hP1 hX1
      obtain ⟨l3, l4⟩ := s
      have h1 : fX10_wax_b47 w l3 l4 = some y1 := h1
      unfold fX10_wax_b47 at h1
      refine r_iload (pc := 47) F dX10_wax_47 rfl ?_
      refine r_aload_n (pc := 49) F dX10_wax_49 rfl ?_
      refine r_getf (pc := 50) F dX10_wax_50 fl_10_88 i68_42 (ce_42 _ _ _) rfl ?_
      refine r_icmp_ge (pc := 53) (tgt := 85) F dX10_wax_53 rfl h1 (fun h1 => ?_) (fun h1 => ?_)
      · refine V_sub (ls' := [(0, .ref ((zg Z).1 42)), (1, .int a1), (3, .int l3)]) [0, 1, 2] rfl ?_
        have e5 := hX1 _ (Option.some.inj h1).symm
        cases e5
        exact E47
      · refine r_iload_n (pc := 56) F dX10_wax_56 rfl ?_
        refine r_aload_n (pc := 57) F dX10_wax_57 rfl ?_
        refine r_getf (pc := 58) F dX10_wax_58 fl_10_16 i68_42 (ce_42 _ _ _) rfl ?_
        refine r_iload (pc := 61) F dX10_wax_61 rfl ?_
        obtain ⟨g6, h1⟩ := gd_some h1
        refine r_iald (pc := 63) F dX10_wax_63 i68_45 (ca_45 _) g6 rfl ?_
        refine r_bipush (pc := 64) F dX10_wax_64 bp_6 ?_
        obtain ⟨v7, hv7, h1⟩ := lt_some h1
        have hv7 := hv7.symm
        suffices Jv7 : V Z 77 [(0, .ref ((zg Z).1 42)), (1, .int a1), (3, .int l3), (4, .int l4)] [.int v7, .int l3] w by
          refine r_icmp_ne (pc := 66) (tgt := 76) F dX10_wax_66 rfl hv7 (fun hv7 => ?_) (fun hv7 => ?_)
          · refine r_iconst (pc := 69) F dX10_wax_69 ic_1 ?_
            refine r_iload (pc := 70) F dX10_wax_70 rfl ?_
            refine r_ishl (pc := 72) F dX10_wax_72 ?_
            refine r_goto (pc := 73) (tgt := 77) F dX10_wax_73 rfl ?_
            exact V_nm hv7.symm Jv7
          · refine r_iconst (pc := 76) F dX10_wax_76 ic_0 ?_
            exact V_nm hv7.symm Jv7
        refine r_ior (pc := 77) F dX10_wax_77 ?_
        obtain ⟨v8, ev8, h1⟩ := lt_some h1
        refine V_nm ev8 ?_
        refine r_istore_n (pc := 78) (ls' := [(0, .ref ((zg Z).1 42)), (1, .int a1), (3, .int v8), (4, .int l4)]) F dX10_wax_78 (Nat.le_of_ble_eq_true rfl) rfl ?_
        obtain ⟨v9, ev9, h1⟩ := lt_some h1
        refine r_iinc (pc := 79) (ls' := [(0, .ref ((zg Z).1 42)), (1, .int a1), (3, .int v8), (4, .int v9)]) F dX10_wax_79 rfl (by rw [ev9]; rfl) (Nat.le_of_ble_eq_true rfl) rfl ?_
        refine r_goto (pc := 82) (tgt := 47) F dX10_wax_82 rfl ?_
        exact hP1 (v8, v9) (Option.some.inj h1).symm
    refine r_iconst (pc := 85) F dX10_wax_85 ic_0 ?_
    refine r_istore (pc := 86) (ls' := [(0, .ref ((zg Z).1 42)), (1, .int a1), (3, .int l12), (4, .int 0)]) F dX10_wax_86 (Nat.le_of_ble_eq_true rfl) rfl ?_
    refine r_bipush (pc := 88) F dX10_wax_88 bp_m9 ?_
    refine r_istore (pc := 90) (ls' := [(0, .ref ((zg Z).1 42)), (1, .int a1), (3, .int l12), (4, .int 0), (5, .int (-9))]) F dX10_wax_90 (Nat.le_of_ble_eq_true rfl) rfl ?_
    refine r_iconst (pc := 92) F dX10_wax_92 ic_0 ?_
    refine r_istore (pc := 93) (ls' := [(0, .ref ((zg Z).1 42)), (1, .int a1), (3, .int l12), (4, .int 0), (5, .int (-9)), (6, .int 0)]) F dX10_wax_93 (Nat.le_of_ble_eq_true rfl) rfl ?_
    obtain ⟨x30, ix30, h0⟩ := bind_some h0
    replace h0 := un3_eq h0
    obtain ⟨l31, l32, w33, rfl, h0⟩ := h0
    suffices E95 : V Z 148 [(1, .int a1), (4, .int l31), (5, .int l32)] [] w33 by
      refine iter_rule (P := fun s : Int32 × Int32 × Int32 × Wd => V Z 95 [(0, .ref ((zg Z).1 42)), (1, .int a1), (3, .int l12), (4, .int (s.1)), (5, .int (s.2.1)), (6, .int (s.2.2.1))] [] s.2.2.2) (x := (l31, l32, w33)) ?_ FU (0, (-9), 0, w) ix30
      intro s y1 h1 hP1 hX1
      obtain ⟨l13, l14, l15, w16⟩ := s
      have h1 : fX10_wax_b95 l12 l13 l14 l15 w16 = some y1 := h1
      unfold fX10_wax_b95 at h1
      refine r_iload (pc := 95) F dX10_wax_95 rfl ?_
      refine r_iconst (pc := 97) F dX10_wax_97 ic_1 ?_
      refine r_aload_n (pc := 98) F dX10_wax_98 rfl ?_
      refine r_getf (pc := 99) F dX10_wax_99 fl_10_88 i68_42 (ce_42 _ _ _) rfl ?_
      refine r_ishl (pc := 102) F dX10_wax_102 ?_
      refine r_icmp_ge (pc := 103) (tgt := 148) F dX10_wax_103 rfl h1 (fun h1 => ?_) (fun h1 => ?_)
      · refine V_sub (ls' := [(1, .int a1), (4, .int l13), (5, .int l14)]) [1, 3, 4] rfl ?_
        have e17 := hX1 _ (Option.some.inj h1).symm
        cases e17
        exact E95
      · refine r_iload (pc := 106) F dX10_wax_106 rfl ?_
        refine r_iload_n (pc := 108) F dX10_wax_108 rfl ?_
        refine r_iand (pc := 109) F dX10_wax_109 ?_
        refine r_if_ne (pc := 110) (tgt := 142) F dX10_wax_110 rfl h1 (fun h1 => ?_) (fun h1 => ?_)
        · refine r_aload_n (pc := 113) F dX10_wax_113 rfl ?_
          refine r_iload (pc := 114) F dX10_wax_114 rfl ?_
          obtain ⟨q20, er19, h1⟩ := bind_some h1
          replace h1 := un2_eq h1
          obtain ⟨r19, w18, rfl, h1⟩ := h1
          refine r_Vj1 (pc := 116) F dX10_wax_116 ml_10_346 (kX10_isWax _ w16 l15 (r19, w18) er19) i68_42 (ce_42 _ _ _) (Nat.le_of_ble_eq_true rfl) (Nat.le_of_ble_eq_true rfl) (Nat.le_of_ble_eq_true rfl) ?_
          refine r_if_ne (pc := 119) (tgt := 125) F dX10_wax_119 rfl h1 (fun h1 => ?_) (fun h1 => ?_)
          · refine r_goto (pc := 122) (tgt := 142) F dX10_wax_122 rfl ?_
            obtain ⟨v22, ev22, h1⟩ := lt_some h1
            refine r_iinc (pc := 142) (ls' := [(0, .ref ((zg Z).1 42)), (1, .int a1), (3, .int l12), (4, .int l13), (5, .int l14), (6, .int v22)]) F dX10_wax_142 rfl (by rw [ev22]; rfl) (Nat.le_of_ble_eq_true rfl) rfl ?_
            refine r_goto (pc := 145) (tgt := 95) F dX10_wax_145 rfl ?_
            exact hP1 (l13, l14, v22, w18) (Option.some.inj h1).symm
          · refine r_iload (pc := 125) F dX10_wax_125 rfl ?_
            obtain ⟨v23, hv23, h1⟩ := lt_some h1
            have hv23 := hv23.symm
            suffices Jv23 : V Z 137 [(0, .ref ((zg Z).1 42)), (1, .int a1), (3, .int l12), (4, .int l13), (5, .int l14), (6, .int l15)] [.int v23] w18 by
              refine r_if_ne (pc := 127) (tgt := 135) F dX10_wax_127 rfl hv23 (fun hv23 => ?_) (fun hv23 => ?_)
              · refine r_iload (pc := 130) F dX10_wax_130 rfl ?_
                refine r_goto (pc := 132) (tgt := 137) F dX10_wax_132 rfl ?_
                exact V_nm hv23.symm Jv23
              · refine r_iload (pc := 135) F dX10_wax_135 rfl ?_
                exact V_nm hv23.symm Jv23
            refine r_istore (pc := 137) (ls' := [(0, .ref ((zg Z).1 42)), (1, .int a1), (3, .int l12), (4, .int l13), (5, .int v23), (6, .int l15)]) F dX10_wax_137 (Nat.le_of_ble_eq_true rfl) rfl ?_
            obtain ⟨v24, ev24, h1⟩ := lt_some h1
            refine r_iinc (pc := 139) (ls' := [(0, .ref ((zg Z).1 42)), (1, .int a1), (3, .int l12), (4, .int v24), (5, .int v23), (6, .int l15)]) F dX10_wax_139 rfl (by rw [ev24]; rfl) (Nat.le_of_ble_eq_true rfl) rfl ?_
            obtain ⟨v25, ev25, h1⟩ := lt_some h1
            refine r_iinc (pc := 142) (ls' := [(0, .ref ((zg Z).1 42)), (1, .int a1), (3, .int l12), (4, .int v24), (5, .int v23), (6, .int v25)]) F dX10_wax_142 rfl (by rw [ev25]; rfl) (Nat.le_of_ble_eq_true rfl) rfl ?_
            refine r_goto (pc := 145) (tgt := 95) F dX10_wax_145 rfl ?_
            exact hP1 (v24, v23, v25, w18) (Option.some.inj h1).symm
        · obtain ⟨v27, ev27, h1⟩ := lt_some h1
          refine r_iinc (pc := 142) (ls' := [(0, .ref ((zg Z).1 42)), (1, .int a1), (3, .int l12), (4, .int l13), (5, .int l14), (6, .int v27)]) F dX10_wax_142 rfl (by rw [ev27]; rfl) (Nat.le_of_ble_eq_true rfl) rfl ?_
          refine r_goto (pc := 145) (tgt := 95) F dX10_wax_145 rfl ?_
          exact hP1 (l13, l14, v27, w16) (Option.some.inj h1).symm
    refine r_iload_n (pc := 148) F dX10_wax_148 rfl ?_
    refine r_if_ne (pc := 149) (tgt := 157) F dX10_wax_149 rfl h0 (fun h0 => ?_) (fun h0 => ?_)
    · refine r_iload (pc := 152) F dX10_wax_152 rfl ?_
      refine r_goto (pc := 154) (tgt := 159) F dX10_wax_154 rfl ?_
      exact hR _ _ _ _ dX10_wax_159 rfl (Option.some.inj h0)
    · refine r_iload (pc := 157) F dX10_wax_157 rfl ?_
      exact hR _ _ _ _ dX10_wax_159 rfl (Option.some.inj h0)
  · refine r_aload_n (pc := 36) F dX10_wax_36 rfl ?_
    refine r_iload_n (pc := 37) F dX10_wax_37 rfl ?_
    obtain ⟨q38, er37, h0⟩ := bind_some h0
    replace h0 := un2_eq h0
    obtain ⟨r37, w36, rfl, h0⟩ := h0
    refine r_Vj1 (pc := 38) F dX10_wax_38 ml_10_99 (kX10_no _ w v1 (r37, w36) er37) i68_42 (ce_42 _ _ _) (Nat.le_of_ble_eq_true rfl) (Nat.le_of_ble_eq_true rfl) (Nat.le_of_ble_eq_true rfl) ?_
    exact hR _ _ _ _ dX10_wax_41 rfl (Option.some.inj h0)
set_option maxRecDepth 100000 in
set_option maxHeartbeats 4000000 in
theorem kX10_sides (g : GT) (w : Wd) (out : Int32 × Wd) (h0 : fX10_sides w = some out) : CtI g yX10_sides cX10_sides 5 (some .int) 9 196 [.ref (g.1 42)] w (fun r w1 => (r, w1) = out) := by
  refine CtI_of .int (by decide) (Nat.le_of_ble_eq_true rfl) (fun Z hg F hR => ?_)
  subst hg
  have F : Fx Z RX10 cX10_sides 5 9 196 := F
  refine V_sub (ls' := [(0, .ref ((zg Z).1 42))]) [0] rfl ?_
  unfold fX10_sides at h0
  refine r_aload_n (pc := 0) F dX10_sides_0 rfl ?_
  refine r_iconst (pc := 1) F dX10_sides_1 ic_1 ?_
  refine r_iconst (pc := 2) F dX10_sides_2 ic_1 ?_
  obtain ⟨w1, ew1, h0⟩ := bind_some h0
  refine r_Vv2 (pc := 3) F dX10_sides_3 ml_10_157 (kX10_passesAll _ w 1 1 w1 ew1) i68_42 (ce_42 _ _ _) (Nat.le_of_ble_eq_true rfl) (Nat.le_of_ble_eq_true rfl) (Nat.le_of_ble_eq_true rfl) ?_
  refine r_iconst (pc := 6) F dX10_sides_6 ic_0 ?_
  refine r_istore_n (pc := 7) (ls' := [(0, .ref ((zg Z).1 42)), (1, .int 0)]) F dX10_sides_7 (Nat.le_of_ble_eq_true rfl) rfl ?_
  refine r_bipush (pc := 8) F dX10_sides_8 bp_m9 ?_
  refine r_istore_n (pc := 10) (ls' := [(0, .ref ((zg Z).1 42)), (1, .int 0), (2, .int (-9))]) F dX10_sides_10 (Nat.le_of_ble_eq_true rfl) rfl ?_
  refine r_iconst (pc := 11) F dX10_sides_11 ic_0 ?_
  refine r_istore_n (pc := 12) (ls' := [(0, .ref ((zg Z).1 42)), (1, .int 0), (2, .int (-9)), (3, .int 0)]) F dX10_sides_12 (Nat.le_of_ble_eq_true rfl) rfl ?_
  obtain ⟨x28, ix28, h0⟩ := bind_some h0
  replace h0 := un2_eq h0
  obtain ⟨l29, w30, rfl, h0⟩ := h0
  suffices E13 : V Z 71 [(0, .ref ((zg Z).1 42)), (1, .int l29)] [] w30 by
    refine iter_rule (P := fun s : Int32 × Int32 × Int32 × Wd => V Z 13 [(0, .ref ((zg Z).1 42)), (1, .int (s.1)), (2, .int (s.2.1)), (3, .int (s.2.2.1))] [] s.2.2.2) (x := (l29, w30)) ?_ FU (0, (-9), 0, w1) ix28
    intro s y1 h1 hP1 hX1
    obtain ⟨l3, l4, l5, w6⟩ := s
    have h1 : fX10_sides_b13 l3 l4 l5 w6 = some y1 := h1
    unfold fX10_sides_b13 at h1
    refine r_iload_n (pc := 13) F dX10_sides_13 rfl ?_
    refine r_iconst (pc := 14) F dX10_sides_14 ic_3 ?_
    refine r_icmp_ge (pc := 15) (tgt := 71) F dX10_sides_15 rfl h1 (fun h1 => ?_) (fun h1 => ?_)
    · refine V_sub (ls' := [(0, .ref ((zg Z).1 42)), (1, .int l3)]) [0, 1] rfl ?_
      have e7 := hX1 _ (Option.some.inj h1).symm
      cases e7
      exact E13
    · refine r_iconst (pc := 18) F dX10_sides_18 ic_0 ?_
      refine r_istore (pc := 19) (ls' := [(0, .ref ((zg Z).1 42)), (1, .int l3), (2, .int l4), (3, .int l5), (4, .int 0)]) F dX10_sides_19 (Nat.le_of_ble_eq_true rfl) rfl ?_
      obtain ⟨w17, iw17, h1⟩ := bind_some h1
      suffices E21 : V Z 42 [(0, .ref ((zg Z).1 42)), (1, .int l3), (2, .int l4), (3, .int l5)] [] w17 by
        refine iter_rule (P := fun s : Int32 × Wd => V Z 21 [(0, .ref ((zg Z).1 42)), (1, .int l3), (2, .int l4), (3, .int l5), (4, .int (s.1))] [] s.2) (x := w17) ?_ FU (0, w6) iw17
        intro s y2 h2 hP2 hX2
        obtain ⟨l8, w9⟩ := s
        have h2 : fX10_sides_b21 l5 l8 w9 = some y2 := h2
        unfold fX10_sides_b21 at h2
        refine r_iload (pc := 21) F dX10_sides_21 rfl ?_
        refine r_bipush (pc := 23) F dX10_sides_23 bp_25 ?_
        refine r_icmp_ge (pc := 25) (tgt := 42) F dX10_sides_25 rfl h2 (fun h2 => ?_) (fun h2 => ?_)
        · refine V_sub (ls' := [(0, .ref ((zg Z).1 42)), (1, .int l3), (2, .int l4), (3, .int l5)]) [0, 1, 2, 3] rfl ?_
          have e10 := hX2 _ (Option.some.inj h2).symm
          cases e10
          exact E21
        · refine r_aload_n (pc := 28) F dX10_sides_28 rfl ?_
          refine r_getf (pc := 29) F dX10_sides_29 fl_10_25 i68_42 (ce_42 _ _ _) rfl ?_
          refine r_iload (pc := 32) F dX10_sides_32 rfl ?_
          refine r_iload_n (pc := 34) F dX10_sides_34 rfl ?_
          obtain ⟨g12, h2⟩ := gd_some h2
          obtain ⟨w11, ew11, h2⟩ := lt_some h2
          refine r_iast (pc := 35) F dX10_sides_35 i68_48 (ca_48 _) g12 rfl ew11 ?_
          obtain ⟨v14, ev14, h2⟩ := lt_some h2
          refine r_iinc (pc := 36) (ls' := [(0, .ref ((zg Z).1 42)), (1, .int l3), (2, .int l4), (3, .int l5), (4, .int v14)]) F dX10_sides_36 rfl (by rw [ev14]; rfl) (Nat.le_of_ble_eq_true rfl) rfl ?_
          refine r_goto (pc := 39) (tgt := 21) F dX10_sides_39 rfl ?_
          exact hP2 (v14, w11) (Option.some.inj h2).symm
      refine r_aload_n (pc := 42) F dX10_sides_42 rfl ?_
      obtain ⟨q21, er20, h1⟩ := bind_some h1
      replace h1 := un2_eq h1
      obtain ⟨r20, w19, rfl, h1⟩ := h1
      refine r_Vj0 (pc := 43) F dX10_sides_43 ml_10_241 (kX10_atDoor _ w17 (r20, w19) er20) i68_42 (ce_42 _ _ _) (Nat.le_of_ble_eq_true rfl) (Nat.le_of_ble_eq_true rfl) (Nat.le_of_ble_eq_true rfl) ?_
      obtain ⟨r23, er23, h1⟩ := bind_some h1
      refine r_Si1 (pc := 46) F dX10_sides_46 ml_10_231 (kX10_bits _ w19 r20 r23 er23) (Nat.le_of_ble_eq_true rfl) (Nat.le_of_ble_eq_true rfl) (Nat.le_of_ble_eq_true rfl) ?_
      refine r_istore (pc := 49) (ls' := [(0, .ref ((zg Z).1 42)), (1, .int l3), (2, .int l4), (3, .int l5), (4, .int r23)]) F dX10_sides_49 (Nat.le_of_ble_eq_true rfl) rfl ?_
      refine r_iload (pc := 51) F dX10_sides_51 rfl ?_
      refine r_iload_n (pc := 53) F dX10_sides_53 rfl ?_
      refine r_icmp_gt (pc := 54) (tgt := 60) F dX10_sides_54 rfl h1 (fun h1 => ?_) (fun h1 => ?_)
      · refine r_iload_n (pc := 60) F dX10_sides_60 rfl ?_
        refine r_istore_n (pc := 61) (ls' := [(0, .ref ((zg Z).1 42)), (1, .int l5), (2, .int l4), (3, .int l5), (4, .int r23)]) F dX10_sides_61 (Nat.le_of_ble_eq_true rfl) rfl ?_
        refine r_iload (pc := 62) F dX10_sides_62 rfl ?_
        refine r_istore_n (pc := 64) (ls' := [(0, .ref ((zg Z).1 42)), (1, .int l5), (2, .int r23), (3, .int l5), (4, .int r23)]) F dX10_sides_64 (Nat.le_of_ble_eq_true rfl) rfl ?_
        obtain ⟨v24, ev24, h1⟩ := lt_some h1
        refine r_iinc (pc := 65) (ls' := [(0, .ref ((zg Z).1 42)), (1, .int l5), (2, .int r23), (3, .int v24), (4, .int r23)]) F dX10_sides_65 rfl (by rw [ev24]; rfl) (Nat.le_of_ble_eq_true rfl) rfl ?_
        refine r_goto (pc := 68) (tgt := 13) F dX10_sides_68 rfl ?_
        refine V_sub (ls' := [(0, .ref ((zg Z).1 42)), (1, .int l5), (2, .int r23), (3, .int v24)]) [0, 1, 2, 3] rfl ?_
        exact hP1 (l5, r23, v24, w19) (Option.some.inj h1).symm
      · refine r_goto (pc := 57) (tgt := 65) F dX10_sides_57 rfl ?_
        obtain ⟨v25, ev25, h1⟩ := lt_some h1
        refine r_iinc (pc := 65) (ls' := [(0, .ref ((zg Z).1 42)), (1, .int l3), (2, .int l4), (3, .int v25), (4, .int r23)]) F dX10_sides_65 rfl (by rw [ev25]; rfl) (Nat.le_of_ble_eq_true rfl) rfl ?_
        refine r_goto (pc := 68) (tgt := 13) F dX10_sides_68 rfl ?_
        refine V_sub (ls' := [(0, .ref ((zg Z).1 42)), (1, .int l3), (2, .int l4), (3, .int v25)]) [0, 1, 2, 3] rfl ?_
        exact hP1 (l3, l4, v25, w19) (Option.some.inj h1).symm
  refine r_aload_n (pc := 71) F dX10_sides_71 rfl ?_
  refine r_iconst (pc := 72) F dX10_sides_72 ic_1 ?_
  refine r_iconst (pc := 73) F dX10_sides_73 ic_0 ?_
  obtain ⟨w32, ew32, h0⟩ := bind_some h0
  refine r_Vv2 (pc := 74) F dX10_sides_74 ml_10_157 (kX10_passesAll _ w30 1 0 w32 ew32) i68_42 (ce_42 _ _ _) (Nat.le_of_ble_eq_true rfl) (Nat.le_of_ble_eq_true rfl) (Nat.le_of_ble_eq_true rfl) ?_
  refine r_iload_n (pc := 77) F dX10_sides_77 rfl ?_
  exact hR _ _ _ _ dX10_sides_78 rfl (Option.some.inj h0)
set_option maxRecDepth 100000 in
set_option maxHeartbeats 4000000 in
theorem kX10_row (g : GT) (w : Wd) (a1 : Int32) (out : Int32 × Wd) (h0 : fX10_row w a1 = some out) : CtI g yX10_row cX10_row 3 (some .int) 1 22 [.ref (g.1 42), .int a1] w (fun r w1 => (r, w1) = out) := by
  refine CtI_of .int (by decide) (Nat.le_of_ble_eq_true rfl) (fun Z hg F hR => ?_)
  subst hg
  have F : Fx Z RX10 cX10_row 3 1 22 := F
  refine V_sub (ls' := [(0, .ref ((zg Z).1 42)), (1, .int a1)]) [0, 1] rfl ?_
  unfold fX10_row at h0
  have J24 : ∀ (w3 : Wd) (l2 : Int32), fX10_row_j24 a1 w3 l2 = some out → V Z 24 [(0, .ref ((zg Z).1 42)), (1, .int a1), (2, .int l2)] [] w3 := by
    intro w3 l2 h0
    unfold fX10_row_j24 at h0
    refine r_iload_n (pc := 24) F dX10_row_24 rfl ?_
    refine r_if_eq (pc := 25) (tgt := 34) F dX10_row_25 rfl h0 (fun h0 => ?_) (fun h0 => ?_)
    · refine r_aload_n (pc := 34) F dX10_row_34 rfl ?_
      refine r_getf (pc := 35) F dX10_row_35 fl_10_83 i68_42 (ce_42 _ _ _) rfl ?_
      refine r_aload_n (pc := 38) F dX10_row_38 rfl ?_
      refine r_getf (pc := 39) F dX10_row_39 fl_10_343 i68_42 (ce_42 _ _ _) rfl ?_
      refine r_iload_n (pc := 42) F dX10_row_42 rfl ?_
      obtain ⟨g5, h0⟩ := gd_some h0
      obtain ⟨w4, ew4, h0⟩ := lt_some h0
      refine r_iast (pc := 43) F dX10_row_43 i68_67 (ca_67 _) g5 rfl ew4 ?_
      refine r_aload_n (pc := 44) F dX10_row_44 rfl ?_
      refine r_dup (pc := 45) F dX10_row_45 rfl ?_
      refine r_getf (pc := 46) F dX10_row_46 fl_10_343 i68_42 (ce_42 _ _ _) rfl ?_
      refine r_iconst (pc := 49) F dX10_row_49 ic_1 ?_
      refine r_iadd (pc := 50) F dX10_row_50 ?_
      obtain ⟨w7, ew7, h0⟩ := lt_some h0
      refine r_putI (pc := 51) F dX10_row_51 fl_10_343 fp_10_41 i68_42 (ce_42 _) (Nat.le_of_ble_eq_true rfl) rfl rfl rfl ew7 ?_
      refine r_aload_n (pc := 54) F dX10_row_54 rfl ?_
      refine r_getf (pc := 55) F dX10_row_55 fl_10_343 i68_42 (ce_42 _ _ _) rfl ?_
      exact hR _ _ _ _ dX10_row_58 rfl (Option.some.inj h0)
    · refine r_aload_n (pc := 28) F dX10_row_28 rfl ?_
      refine r_iload_n (pc := 29) F dX10_row_29 rfl ?_
      obtain ⟨q11, er10, h0⟩ := bind_some h0
      replace h0 := un2_eq h0
      obtain ⟨r10, w9, rfl, h0⟩ := h0
      refine r_Vj1 (pc := 30) F dX10_row_30 ml_10_99 (kX10_no _ w3 l2 (r10, w9) er10) i68_42 (ce_42 _ _ _) (Nat.le_of_ble_eq_true rfl) (Nat.le_of_ble_eq_true rfl) (Nat.le_of_ble_eq_true rfl) ?_
      exact hR _ _ _ _ dX10_row_33 rfl (Option.some.inj h0)
  refine r_iload_n (pc := 0) F dX10_row_0 rfl ?_
  refine r_iconst (pc := 1) F dX10_row_1 ic_0 ?_
  refine r_bipush (pc := 2) F dX10_row_2 bp_99 ?_
  refine r_Si3 (pc := 4) F dX10_row_4 ml_10_92 (kX10_bound _ w a1 0 99 _ rfl) (Nat.le_of_ble_eq_true rfl) (Nat.le_of_ble_eq_true rfl) (Nat.le_of_ble_eq_true rfl) ?_
  obtain ⟨v1, ev1, h0⟩ := lt_some h0
  refine V_nm ev1 ?_
  refine r_istore_n (pc := 7) (ls' := [(0, .ref ((zg Z).1 42)), (1, .int a1), (2, .int v1)]) F dX10_row_7 (Nat.le_of_ble_eq_true rfl) rfl ?_
  refine r_iload_n (pc := 8) F dX10_row_8 rfl ?_
  refine r_if_ne (pc := 9) (tgt := 24) F dX10_row_9 rfl h0 (fun h0 => ?_) (fun h0 => ?_)
  · refine r_aload_n (pc := 12) F dX10_row_12 rfl ?_
    refine r_getf (pc := 13) F dX10_row_13 fl_10_343 i68_42 (ce_42 _ _ _) rfl ?_
    refine r_bipush (pc := 16) F dX10_row_16 bp_12 ?_
    refine r_icmp_ne (pc := 18) (tgt := 24) F dX10_row_18 rfl h0 (fun h0 => ?_) (fun h0 => ?_)
    · refine r_bipush (pc := 21) F dX10_row_21 bp_m6 ?_
      refine r_istore_n (pc := 23) (ls' := [(0, .ref ((zg Z).1 42)), (1, .int a1), (2, .int (-6))]) F dX10_row_23 (Nat.le_of_ble_eq_true rfl) rfl ?_
      exact J24 w (-6) h0
    · exact J24 w v1 h0
  · exact J24 w v1 h0
set_option maxRecDepth 100000 in
set_option maxHeartbeats 4000000 in
theorem kX10_judge (g : GT) (w : Wd) (out : Int32 × Wd) (h0 : fX10_judge w = some out) : CtI g yX10_judge cX10_judge 5 (some .int) 7 155 [.ref (g.1 42)] w (fun r w1 => (r, w1) = out) := by
  refine CtI_of .int (by decide) (Nat.le_of_ble_eq_true rfl) (fun Z hg F hR => ?_)
  subst hg
  have F : Fx Z RX10 cX10_judge 5 7 155 := F
  refine V_sub (ls' := [(0, .ref ((zg Z).1 42))]) [0] rfl ?_
  unfold fX10_judge at h0
  have J92 : ∀ (w31 : Wd) (l30 : Int32), fX10_judge_j92 w31 l30 = some out → V Z 92 [(0, .ref ((zg Z).1 42)), (2, .int l30)] [] w31 := by
    intro w31 l30 h0
    unfold fX10_judge_j92 at h0
    refine r_aload_n (pc := 92) F dX10_judge_92 rfl ?_
    refine r_iconst (pc := 93) F dX10_judge_93 ic_1 ?_
    refine r_iconst (pc := 94) F dX10_judge_94 ic_0 ?_
    obtain ⟨w32, ew32, h0⟩ := bind_some h0
    refine r_Vv2 (pc := 95) F dX10_judge_95 ml_10_157 (kX10_passesAll _ w31 1 0 w32 ew32) i68_42 (ce_42 _ _ _) (Nat.le_of_ble_eq_true rfl) (Nat.le_of_ble_eq_true rfl) (Nat.le_of_ble_eq_true rfl) ?_
    refine r_iload_n (pc := 98) F dX10_judge_98 rfl ?_
    exact hR _ _ _ _ dX10_judge_99 rfl (Option.some.inj h0)
  refine r_aload_n (pc := 0) F dX10_judge_0 rfl ?_
  refine r_getf (pc := 1) F dX10_judge_1 fl_10_343 i68_42 (ce_42 _ _ _) rfl ?_
  obtain ⟨v1, ev1, h0⟩ := lt_some h0
  refine V_nm ev1 ?_
  refine r_istore_n (pc := 4) (ls' := [(0, .ref ((zg Z).1 42)), (1, .int v1)]) F dX10_judge_4 (Nat.le_of_ble_eq_true rfl) rfl ?_
  refine r_aload_n (pc := 5) F dX10_judge_5 rfl ?_
  refine r_iconst (pc := 6) F dX10_judge_6 ic_0 ?_
  obtain ⟨w2, ew2, h0⟩ := lt_some h0
  refine r_putI (pc := 7) F dX10_judge_7 fl_10_343 fp_10_41 i68_42 (ce_42 _) (Nat.le_of_ble_eq_true rfl) rfl rfl rfl ew2 ?_
  refine r_aload_n (pc := 10) F dX10_judge_10 rfl ?_
  refine r_iconst (pc := 11) F dX10_judge_11 ic_1 ?_
  refine r_iconst (pc := 12) F dX10_judge_12 ic_1 ?_
  obtain ⟨w4, ew4, h0⟩ := bind_some h0
  refine r_Vv2 (pc := 13) F dX10_judge_13 ml_10_157 (kX10_passesAll _ w2 1 1 w4 ew4) i68_42 (ce_42 _ _ _) (Nat.le_of_ble_eq_true rfl) (Nat.le_of_ble_eq_true rfl) (Nat.le_of_ble_eq_true rfl) ?_
  refine r_bipush (pc := 16) F dX10_judge_16 bp_m9 ?_
  refine r_istore_n (pc := 18) (ls' := [(0, .ref ((zg Z).1 42)), (1, .int v1), (2, .int (-9))]) F dX10_judge_18 (Nat.le_of_ble_eq_true rfl) rfl ?_
  refine r_iconst (pc := 19) F dX10_judge_19 ic_0 ?_
  refine r_istore_n (pc := 20) (ls' := [(0, .ref ((zg Z).1 42)), (1, .int v1), (2, .int (-9)), (3, .int 0)]) F dX10_judge_20 (Nat.le_of_ble_eq_true rfl) rfl ?_
  obtain ⟨x26, ix26, h0⟩ := bind_some h0
  replace h0 := un2_eq h0
  obtain ⟨l27, w28, rfl, h0⟩ := h0
  suffices E21 : V Z 92 [(0, .ref ((zg Z).1 42)), (2, .int l27)] [] w28 by
    refine iter_rule (P := fun s : Int32 × Int32 × Wd => V Z 21 [(0, .ref ((zg Z).1 42)), (1, .int v1), (2, .int (s.1)), (3, .int (s.2.1))] [] s.2.2) (x := (l27, w28)) ?_ FU ((-9), 0, w4) ix26
    intro s y1 h1 hP1 hX1
    obtain ⟨l6, l7, w8⟩ := s
    have h1 : fX10_judge_b21 v1 l6 l7 w8 = some y1 := h1
    unfold fX10_judge_b21 at h1
    have J58 : ∀ (w14 : Wd) (l12 : Int32) (l13 : Int32), fX10_judge_j58 w14 l12 l13 = some y1 → V Z 58 [(0, .ref ((zg Z).1 42)), (1, .int v1), (3, .int l12), (4, .int l13)] [] w14 := by
      intro w14 l12 l13 h1
      unfold fX10_judge_j58 at h1
      refine r_iload (pc := 58) F dX10_judge_58 rfl ?_
      obtain ⟨v16, hv16, h1⟩ := bind_some h1
      suffices Jv16 : V Z 85 [(0, .ref ((zg Z).1 42)), (1, .int v1), (3, .int l12), (4, .int l13)] [.int v16] w14 by
        refine r_if_eq (pc := 60) (tgt := 84) F dX10_judge_60 rfl hv16 (fun hv16 => ?_) (fun hv16 => ?_)
        · refine r_iload_n (pc := 84) F dX10_judge_84 rfl ?_
          exact V_nm (Option.some.inj hv16).symm Jv16
        · refine r_aload_n (pc := 63) F dX10_judge_63 rfl ?_
          refine r_getf (pc := 64) F dX10_judge_64 fl_10_124 i68_42 (ce_42 _ _ _) rfl ?_
          obtain ⟨r17, er17, hv16⟩ := bind_some hv16
          refine r_Si1 (pc := 67) F dX10_judge_67 ml_10_231 (kX10_bits _ w14 (w14.1 42 7) r17 er17) (Nat.le_of_ble_eq_true rfl) (Nat.le_of_ble_eq_true rfl) (Nat.le_of_ble_eq_true rfl) ?_
          refine r_aload_n (pc := 70) F dX10_judge_70 rfl ?_
          refine r_getf (pc := 71) F dX10_judge_71 fl_10_83 i68_42 (ce_42 _ _ _) rfl ?_
          refine r_iload_n (pc := 74) F dX10_judge_74 rfl ?_
          obtain ⟨g18, hv16⟩ := gd_some hv16
          refine r_iald (pc := 75) F dX10_judge_75 i68_67 (ca_67 _) g18 rfl ?_
          refine r_icmp_ne (pc := 76) (tgt := 84) F dX10_judge_76 rfl hv16 (fun hv16 => ?_) (fun hv16 => ?_)
          · refine r_bipush (pc := 79) F dX10_judge_79 bp_m9 ?_
            refine r_goto (pc := 81) (tgt := 85) F dX10_judge_81 rfl ?_
            exact V_nm (Option.some.inj hv16).symm Jv16
          · refine r_iload_n (pc := 84) F dX10_judge_84 rfl ?_
            exact V_nm (Option.some.inj hv16).symm Jv16
      refine r_istore_n (pc := 85) (ls' := [(0, .ref ((zg Z).1 42)), (1, .int v1), (2, .int v16), (3, .int l12), (4, .int l13)]) F dX10_judge_85 (Nat.le_of_ble_eq_true rfl) rfl ?_
      obtain ⟨v20, ev20, h1⟩ := lt_some h1
      refine r_iinc (pc := 86) (ls' := [(0, .ref ((zg Z).1 42)), (1, .int v1), (2, .int v16), (3, .int v20), (4, .int l13)]) F dX10_judge_86 rfl (by rw [ev20]; rfl) (Nat.le_of_ble_eq_true rfl) rfl ?_
      refine r_goto (pc := 89) (tgt := 21) F dX10_judge_89 rfl ?_
      refine V_sub (ls' := [(0, .ref ((zg Z).1 42)), (1, .int v1), (2, .int v16), (3, .int v20)]) [0, 1, 2, 3] rfl ?_
      exact hP1 (v16, v20, w14) (Option.some.inj h1).symm
    refine r_iload_n (pc := 21) F dX10_judge_21 rfl ?_
    refine r_iload_n (pc := 22) F dX10_judge_22 rfl ?_
    refine r_icmp_ge (pc := 23) (tgt := 92) F dX10_judge_23 rfl h1 (fun h1 => ?_) (fun h1 => ?_)
    · refine V_sub (ls' := [(0, .ref ((zg Z).1 42)), (2, .int l6)]) [0, 2] rfl ?_
      have e9 := hX1 _ (Option.some.inj h1).symm
      cases e9
      exact E21
    · refine r_iload_n (pc := 26) F dX10_judge_26 rfl ?_
      refine r_if_ge (pc := 27) (tgt := 92) F dX10_judge_27 rfl h1 (fun h1 => ?_) (fun h1 => ?_)
      · refine V_sub (ls' := [(0, .ref ((zg Z).1 42)), (2, .int l6)]) [0, 2] rfl ?_
        have e10 := hX1 _ (Option.some.inj h1).symm
        cases e10
        exact E21
      · refine r_aload_n (pc := 30) F dX10_judge_30 rfl ?_
        refine r_getf (pc := 31) F dX10_judge_31 fl_10_127 i68_42 (ce_42 _ _ _) rfl ?_
        refine r_aload_n (pc := 34) F dX10_judge_34 rfl ?_
        refine r_Vi0 (pc := 35) F dX10_judge_35 ml_10_130 (kX10_doorAt _ w8 _ rfl) i68_42 (ce_42 _ _ _) (Nat.le_of_ble_eq_true rfl) (Nat.le_of_ble_eq_true rfl) (Nat.le_of_ble_eq_true rfl) ?_
        obtain ⟨v11, hv11, h1⟩ := lt_some h1
        have hv11 := hv11.symm
        suffices Jv11 : V Z 46 [(0, .ref ((zg Z).1 42)), (1, .int v1), (2, .int l6), (3, .int l7)] [.int v11] w8 by
          refine r_icmp_ge (pc := 38) (tgt := 45) F dX10_judge_38 rfl hv11 (fun hv11 => ?_) (fun hv11 => ?_)
          · refine r_iconst (pc := 45) F dX10_judge_45 ic_0 ?_
            exact V_nm hv11.symm Jv11
          · refine r_iconst (pc := 41) F dX10_judge_41 ic_1 ?_
            refine r_goto (pc := 42) (tgt := 46) F dX10_judge_42 rfl ?_
            exact V_nm hv11.symm Jv11
        refine r_istore (pc := 46) (ls' := [(0, .ref ((zg Z).1 42)), (1, .int v1), (2, .int l6), (3, .int l7), (4, .int v11)]) F dX10_judge_46 (Nat.le_of_ble_eq_true rfl) rfl ?_
        refine r_iload (pc := 48) F dX10_judge_48 rfl ?_
        refine r_if_eq (pc := 50) (tgt := 58) F dX10_judge_50 rfl h1 (fun h1 => ?_) (fun h1 => ?_)
        · refine V_sub (ls' := [(0, .ref ((zg Z).1 42)), (1, .int v1), (3, .int l7), (4, .int v11)]) [0, 1, 3, 4] rfl ?_
          exact J58 w8 l7 v11 h1
        · refine r_aload_n (pc := 53) F dX10_judge_53 rfl ?_
          refine r_iconst (pc := 54) F dX10_judge_54 ic_0 ?_
          obtain ⟨w21, ew21, h1⟩ := bind_some h1
          refine r_Vv1 (pc := 55) F dX10_judge_55 ml_10_136 (kX10_goes _ w8 0 w21 ew21) i68_42 (ce_42 _ _ _) (Nat.le_of_ble_eq_true rfl) (Nat.le_of_ble_eq_true rfl) (Nat.le_of_ble_eq_true rfl) ?_
          refine V_sub (ls' := [(0, .ref ((zg Z).1 42)), (1, .int v1), (3, .int l7), (4, .int v11)]) [0, 1, 3, 4] rfl ?_
          exact J58 w21 l7 v11 h1
  exact J92 w28 l27 h0
set_option maxRecDepth 100000 in
set_option maxHeartbeats 4000000 in
theorem kX10_clear (g : GT) (w : Wd) (out : Int32 × Wd) (h0 : fX10_clear w = out) : CtI g yX10_clear cX10_clear 2 (some .int) 0 0 [.ref (g.1 42)] w (fun r w1 => (r, w1) = out) := by
  refine CtI_of .int (by decide) (Nat.le_of_ble_eq_true rfl) (fun Z hg F hR => ?_)
  subst hg
  have F : Fx Z RX10 cX10_clear 2 0 0 := F
  refine V_sub (ls' := [(0, .ref ((zg Z).1 42))]) [0] rfl ?_
  unfold fX10_clear at h0
  refine r_aload_n (pc := 0) F dX10_clear_0 rfl ?_
  refine r_getf (pc := 1) F dX10_clear_1 fl_10_343 i68_42 (ce_42 _ _ _) rfl ?_
  obtain ⟨v1, ev1, h0⟩ := lt_some h0
  refine V_nm ev1 ?_
  refine r_istore_n (pc := 4) (ls' := [(0, .ref ((zg Z).1 42)), (1, .int v1)]) F dX10_clear_4 (Nat.le_of_ble_eq_true rfl) rfl ?_
  refine r_aload_n (pc := 5) F dX10_clear_5 rfl ?_
  refine r_iconst (pc := 6) F dX10_clear_6 ic_0 ?_
  obtain ⟨w2, ew2, h0⟩ := lt_some h0
  refine r_putI (pc := 7) F dX10_clear_7 fl_10_343 fp_10_41 i68_42 (ce_42 _) (Nat.le_of_ble_eq_true rfl) rfl rfl rfl ew2 ?_
  refine r_iload_n (pc := 10) F dX10_clear_10 rfl ?_
  exact hR _ _ _ _ dX10_clear_11 rfl h0
set_option maxRecDepth 100000 in
set_option maxHeartbeats 4000000 in
theorem kX10_draw (g : GT) (w : Wd) (a1 : Int32) (out : Int32 × Wd) (h0 : fX10_draw w a1 = some out) : CtI g yX10_draw cX10_draw 2 (some .int) 0 0 [.ref (g.1 42), .int a1] w (fun r w1 => (r, w1) = out) := by
  refine CtI_of .int (by decide) (Nat.le_of_ble_eq_true rfl) (fun Z hg F hR => ?_)
  subst hg
  have F : Fx Z RX10 cX10_draw 2 0 0 := F
  refine V_sub (ls' := [(0, .ref ((zg Z).1 42)), (1, .int a1)]) [0, 1] rfl ?_
  unfold fX10_draw at h0
  refine r_aload_n (pc := 0) F dX10_draw_0 rfl ?_
  refine r_aload_n (pc := 1) F dX10_draw_1 rfl ?_
  refine r_getf (pc := 2) F dX10_draw_2 fl_10_349 i68_42 (ce_42 _ _ _) rfl ?_
  refine r_ldc_w (pc := 5) F dX10_draw_5 kc_10_352 ?_
  refine r_imul (pc := 8) F dX10_draw_8 ?_
  refine r_sipush (pc := 9) F dX10_draw_9 sp_12345 ?_
  refine r_iadd (pc := 12) F dX10_draw_12 ?_
  obtain ⟨w1, ew1, h0⟩ := lt_some h0
  refine r_putI (pc := 13) F dX10_draw_13 fl_10_349 fp_10_42 i68_42 (ce_42 _) (Nat.le_of_ble_eq_true rfl) rfl rfl rfl ew1 ?_
  refine r_aload_n (pc := 16) F dX10_draw_16 rfl ?_
  refine r_getf (pc := 17) F dX10_draw_17 fl_10_349 i68_42 (ce_42 _ _ _) rfl ?_
  refine r_ldc_w (pc := 20) F dX10_draw_20 kc_10_353 ?_
  refine r_iand (pc := 23) F dX10_draw_23 ?_
  refine r_ldc_w (pc := 24) F dX10_draw_24 kc_10_354 ?_
  refine r_idiv (pc := 27) F dX10_draw_27 (by decide) ?_
  refine r_iload_n (pc := 28) F dX10_draw_28 rfl ?_
  obtain ⟨g3, h0⟩ := gd_some h0
  refine r_irem (pc := 29) F dX10_draw_29 (by simpa using g3) ?_
  exact hR _ _ _ _ dX10_draw_30 rfl (Option.some.inj h0)
set_option maxRecDepth 100000 in
set_option maxHeartbeats 4000000 in
theorem kX10_seeds (g : GT) (w : Wd) (a1 : Int32) (a2 : Int32) (a3 : Int32) (out : Int32 × Wd) (h0 : fX10_seeds w a1 a2 a3 = some out) : CtI g yX10_seeds cX10_seeds 9 (some .int) 9 196 [.ref (g.1 42), .int a1, .int a2, .int a3] w (fun r w1 => (r, w1) = out) := by
  refine CtI_of .int (by decide) (Nat.le_of_ble_eq_true rfl) (fun Z hg F hR => ?_)
  subst hg
  have F : Fx Z RX10 cX10_seeds 9 9 196 := F
  refine V_sub (ls' := [(0, .ref ((zg Z).1 42)), (1, .int a1), (2, .int a2), (3, .int a3)]) [0, 1, 2, 3] rfl ?_
  unfold fX10_seeds at h0
  have J27 : ∀ (w3 : Wd) (l2 : Int32), fX10_seeds_j27 a2 a1 a3 w3 l2 = some out → V Z 27 [(0, .ref ((zg Z).1 42)), (1, .int a1), (2, .int a2), (3, .int a3), (4, .int l2)] [] w3 := by
    intro w3 l2 h0
    unfold fX10_seeds_j27 at h0
    refine r_iload (pc := 27) F dX10_seeds_27 rfl ?_
    refine r_if_eq (pc := 29) (tgt := 39) F dX10_seeds_29 rfl h0 (fun h0 => ?_) (fun h0 => ?_)
    · refine r_aload_n (pc := 39) F dX10_seeds_39 rfl ?_
      refine r_iconst (pc := 40) F dX10_seeds_40 ic_1 ?_
      refine r_iconst (pc := 41) F dX10_seeds_41 ic_1 ?_
      obtain ⟨w4, ew4, h0⟩ := bind_some h0
      refine r_Vv2 (pc := 42) F dX10_seeds_42 ml_10_157 (kX10_passesAll _ w3 1 1 w4 ew4) i68_42 (ce_42 _ _ _) (Nat.le_of_ble_eq_true rfl) (Nat.le_of_ble_eq_true rfl) (Nat.le_of_ble_eq_true rfl) ?_
      refine r_aload_n (pc := 45) F dX10_seeds_45 rfl ?_
      refine r_iload_n (pc := 46) F dX10_seeds_46 rfl ?_
      obtain ⟨w6, ew6, h0⟩ := lt_some h0
      refine r_putI (pc := 47) F dX10_seeds_47 fl_10_349 fp_10_42 i68_42 (ce_42 _) (Nat.le_of_ble_eq_true rfl) rfl rfl rfl ew6 ?_
      refine r_iconst (pc := 50) F dX10_seeds_50 ic_0 ?_
      refine r_istore (pc := 51) (ls' := [(0, .ref ((zg Z).1 42)), (1, .int a1), (2, .int a2), (3, .int a3), (4, .int l2), (5, .int 0)]) F dX10_seeds_51 (Nat.le_of_ble_eq_true rfl) rfl ?_
      refine r_iconst (pc := 53) F dX10_seeds_53 ic_0 ?_
      refine r_istore (pc := 54) (ls' := [(0, .ref ((zg Z).1 42)), (1, .int a1), (2, .int a2), (3, .int a3), (4, .int l2), (5, .int 0), (6, .int 0)]) F dX10_seeds_54 (Nat.le_of_ble_eq_true rfl) rfl ?_
      refine r_iconst (pc := 56) F dX10_seeds_56 ic_0 ?_
      refine r_istore (pc := 57) (ls' := [(0, .ref ((zg Z).1 42)), (1, .int a1), (2, .int a2), (3, .int a3), (4, .int l2), (5, .int 0), (6, .int 0), (7, .int 0)]) F dX10_seeds_57 (Nat.le_of_ble_eq_true rfl) rfl ?_
      refine V_sub (ls' := [(0, .ref ((zg Z).1 42)), (1, .int a1), (3, .int a3), (5, .int 0), (6, .int 0), (7, .int 0)]) [0, 1, 3, 5, 6, 7] rfl ?_
      obtain ⟨x45, ix45, h0⟩ := bind_some h0
      replace h0 := un3_eq h0
      obtain ⟨l46, l47, w48, rfl, h0⟩ := h0
      suffices E59 : V Z 146 [(0, .ref ((zg Z).1 42)), (3, .int a3), (5, .int l46), (6, .int l47)] [] w48 by
        refine iter_rule (P := fun s : Int32 × Int32 × Int32 × Wd => V Z 59 [(0, .ref ((zg Z).1 42)), (1, .int a1), (3, .int a3), (5, .int (s.1)), (6, .int (s.2.1)), (7, .int (s.2.2.1))] [] s.2.2.2) (x := (l46, l47, w48)) ?_ FU (0, 0, 0, w6) ix45
        intro s y1 h1 hP1 hX1
        obtain ⟨l8, l9, l10, w11⟩ := s
        have h1 : fX10_seeds_b59 a1 l8 l9 l10 w11 = some y1 := h1
        unfold fX10_seeds_b59 at h1
        refine r_iload (pc := 59) F dX10_seeds_59 rfl ?_
        refine r_iload_n (pc := 61) F dX10_seeds_61 rfl ?_
        refine r_icmp_ge (pc := 62) (tgt := 146) F dX10_seeds_62 rfl h1 (fun h1 => ?_) (fun h1 => ?_)
        · refine V_sub (ls' := [(0, .ref ((zg Z).1 42)), (3, .int a3), (5, .int l8), (6, .int l9)]) [0, 2, 3, 4] rfl ?_
          have e12 := hX1 _ (Option.some.inj h1).symm
          cases e12
          exact E59
        · refine r_aload_n (pc := 65) F dX10_seeds_65 rfl ?_
          refine r_getf (pc := 66) F dX10_seeds_66 fl_10_127 i68_42 (ce_42 _ _ _) rfl ?_
          obtain ⟨v13, ev13, h1⟩ := lt_some h1
          refine V_nm ev13 ?_
          refine r_istore (pc := 69) (ls' := [(0, .ref ((zg Z).1 42)), (1, .int a1), (3, .int a3), (5, .int l8), (6, .int l9), (7, .int l10), (8, .int v13)]) F dX10_seeds_69 (Nat.le_of_ble_eq_true rfl) rfl ?_
          obtain ⟨w33, iw33, h1⟩ := bind_some h1
          suffices E71 : V Z 109 [(0, .ref ((zg Z).1 42)), (1, .int a1), (3, .int a3), (5, .int l8), (6, .int l9), (7, .int l10)] [] w33 by
            refine iter_rule (P := fun s : Int32 × Wd => V Z 71 [(0, .ref ((zg Z).1 42)), (1, .int a1), (3, .int a3), (5, .int l8), (6, .int l9), (7, .int l10), (8, .int (s.1))] [] s.2) (x := w33) ?_ FU (v13, w11) iw33
            intro s y2 h2 hP2 hX2
            obtain ⟨l14, w15⟩ := s
            have h2 : fX10_seeds_b71 l14 w15 = some y2 := h2
            unfold fX10_seeds_b71 at h2
            refine r_iload (pc := 71) F dX10_seeds_71 rfl ?_
            refine r_bipush (pc := 73) F dX10_seeds_73 bp_25 ?_
            refine r_icmp_ge (pc := 75) (tgt := 109) F dX10_seeds_75 rfl h2 (fun h2 => ?_) (fun h2 => ?_)
            · refine V_sub (ls' := [(0, .ref ((zg Z).1 42)), (1, .int a1), (3, .int a3), (5, .int l8), (6, .int l9), (7, .int l10)]) [0, 1, 2, 3, 4, 5] rfl ?_
              have e16 := hX2 _ (Option.some.inj h2).symm
              cases e16
              exact E71
            · refine r_aload_n (pc := 78) F dX10_seeds_78 rfl ?_
              refine r_getf (pc := 79) F dX10_seeds_79 fl_10_22 i68_42 (ce_42 _ _ _) rfl ?_
              refine r_iload (pc := 82) F dX10_seeds_82 rfl ?_
              refine r_aload_n (pc := 84) F dX10_seeds_84 rfl ?_
              refine r_bipush (pc := 85) F dX10_seeds_85 bp_10 ?_
              obtain ⟨q19, er18, h2⟩ := bind_some h2
              replace h2 := un2_eq h2
              obtain ⟨r18, w17, rfl, h2⟩ := h2
              refine r_Vj1 (pc := 87) F dX10_seeds_87 ml_10_355 (kX10_draw _ w15 10 (r18, w17) er18) i68_42 (ce_42 _ _ _) (Nat.le_of_ble_eq_true rfl) (Nat.le_of_ble_eq_true rfl) (Nat.le_of_ble_eq_true rfl) ?_
              obtain ⟨g22, h2⟩ := gd_some h2
              obtain ⟨w21, ew21, h2⟩ := lt_some h2
              refine r_iast (pc := 90) F dX10_seeds_90 i68_47 (ca_47 _) g22 rfl ew21 ?_
              refine r_aload_n (pc := 91) F dX10_seeds_91 rfl ?_
              refine r_getf (pc := 92) F dX10_seeds_92 fl_10_25 i68_42 (ce_42 _ _ _) rfl ?_
              refine r_iload (pc := 95) F dX10_seeds_95 rfl ?_
              refine r_aload_n (pc := 97) F dX10_seeds_97 rfl ?_
              refine r_iconst (pc := 98) F dX10_seeds_98 ic_3 ?_
              obtain ⟨q26, er25, h2⟩ := bind_some h2
              replace h2 := un2_eq h2
              obtain ⟨r25, w24, rfl, h2⟩ := h2
              refine r_Vj1 (pc := 99) F dX10_seeds_99 ml_10_355 (kX10_draw _ w21 3 (r25, w24) er25) i68_42 (ce_42 _ _ _) (Nat.le_of_ble_eq_true rfl) (Nat.le_of_ble_eq_true rfl) (Nat.le_of_ble_eq_true rfl) ?_
              obtain ⟨w28, ew28, h2⟩ := lt_some h2
              refine r_iast (pc := 102) F dX10_seeds_102 i68_48 (ca_48 _) g22 rfl ew28 ?_
              obtain ⟨v30, ev30, h2⟩ := lt_some h2
              refine r_iinc (pc := 103) (ls' := [(0, .ref ((zg Z).1 42)), (1, .int a1), (3, .int a3), (5, .int l8), (6, .int l9), (7, .int l10), (8, .int v30)]) F dX10_seeds_103 rfl (by rw [ev30]; rfl) (Nat.le_of_ble_eq_true rfl) rfl ?_
              refine r_goto (pc := 106) (tgt := 71) F dX10_seeds_106 rfl ?_
              exact hP2 (v30, w28) (Option.some.inj h2).symm
          refine r_aload_n (pc := 109) F dX10_seeds_109 rfl ?_
          obtain ⟨q37, er36, h1⟩ := bind_some h1
          replace h1 := un2_eq h1
          obtain ⟨r36, w35, rfl, h1⟩ := h1
          refine r_Vj0 (pc := 110) F dX10_seeds_110 ml_10_241 (kX10_atDoor _ w33 (r36, w35) er36) i68_42 (ce_42 _ _ _) (Nat.le_of_ble_eq_true rfl) (Nat.le_of_ble_eq_true rfl) (Nat.le_of_ble_eq_true rfl) ?_
          obtain ⟨r39, er39, h1⟩ := bind_some h1
          refine r_Si1 (pc := 113) F dX10_seeds_113 ml_10_231 (kX10_bits _ w35 r36 r39 er39) (Nat.le_of_ble_eq_true rfl) (Nat.le_of_ble_eq_true rfl) (Nat.le_of_ble_eq_true rfl) ?_
          refine r_istore (pc := 116) (ls' := [(0, .ref ((zg Z).1 42)), (1, .int a1), (3, .int a3), (5, .int l8), (6, .int l9), (7, .int l10), (8, .int r39)]) F dX10_seeds_116 (Nat.le_of_ble_eq_true rfl) rfl ?_
          refine r_iload (pc := 118) F dX10_seeds_118 rfl ?_
          refine r_iload (pc := 120) F dX10_seeds_120 rfl ?_
          refine r_iadd (pc := 122) F dX10_seeds_122 ?_
          obtain ⟨v40, ev40, h1⟩ := lt_some h1
          refine V_nm ev40 ?_
          refine r_istore (pc := 123) (ls' := [(0, .ref ((zg Z).1 42)), (1, .int a1), (3, .int a3), (5, .int v40), (6, .int l9), (7, .int l10), (8, .int r39)]) F dX10_seeds_123 (Nat.le_of_ble_eq_true rfl) rfl ?_
          refine r_iload (pc := 125) F dX10_seeds_125 rfl ?_
          refine r_iload (pc := 127) F dX10_seeds_127 rfl ?_
          obtain ⟨v41, hv41, h1⟩ := lt_some h1
          have hv41 := hv41.symm
          suffices Jv41 : V Z 137 [(0, .ref ((zg Z).1 42)), (1, .int a1), (3, .int a3), (5, .int v40), (6, .int l9), (7, .int l10), (8, .int r39)] [.int v41, .int l9] w35 by
            refine r_if_ne (pc := 129) (tgt := 136) F dX10_seeds_129 rfl hv41 (fun hv41 => ?_) (fun hv41 => ?_)
            · refine r_iconst (pc := 132) F dX10_seeds_132 ic_1 ?_
              refine r_goto (pc := 133) (tgt := 137) F dX10_seeds_133 rfl ?_
              exact V_nm hv41.symm Jv41
            · refine r_iconst (pc := 136) F dX10_seeds_136 ic_0 ?_
              exact V_nm hv41.symm Jv41
          refine r_iadd (pc := 137) F dX10_seeds_137 ?_
          obtain ⟨v42, ev42, h1⟩ := lt_some h1
          refine V_nm ev42 ?_
          refine r_istore (pc := 138) (ls' := [(0, .ref ((zg Z).1 42)), (1, .int a1), (3, .int a3), (5, .int v40), (6, .int v42), (7, .int l10), (8, .int r39)]) F dX10_seeds_138 (Nat.le_of_ble_eq_true rfl) rfl ?_
          obtain ⟨v43, ev43, h1⟩ := lt_some h1
          refine r_iinc (pc := 140) (ls' := [(0, .ref ((zg Z).1 42)), (1, .int a1), (3, .int a3), (5, .int v40), (6, .int v42), (7, .int v43), (8, .int r39)]) F dX10_seeds_140 rfl (by rw [ev43]; rfl) (Nat.le_of_ble_eq_true rfl) rfl ?_
          refine r_goto (pc := 143) (tgt := 59) F dX10_seeds_143 rfl ?_
          refine V_sub (ls' := [(0, .ref ((zg Z).1 42)), (1, .int a1), (3, .int a3), (5, .int v40), (6, .int v42), (7, .int v43)]) [0, 1, 2, 3, 4, 5] rfl ?_
          exact hP1 (v40, v42, v43, w35) (Option.some.inj h1).symm
      refine r_aload_n (pc := 146) F dX10_seeds_146 rfl ?_
      refine r_iconst (pc := 147) F dX10_seeds_147 ic_1 ?_
      refine r_iconst (pc := 148) F dX10_seeds_148 ic_0 ?_
      obtain ⟨w50, ew50, h0⟩ := bind_some h0
      refine r_Vv2 (pc := 149) F dX10_seeds_149 ml_10_157 (kX10_passesAll _ w48 1 0 w50 ew50) i68_42 (ce_42 _ _ _) (Nat.le_of_ble_eq_true rfl) (Nat.le_of_ble_eq_true rfl) (Nat.le_of_ble_eq_true rfl) ?_
      refine r_iload_n (pc := 152) F dX10_seeds_152 rfl ?_
      refine r_if_ne (pc := 153) (tgt := 161) F dX10_seeds_153 rfl h0 (fun h0 => ?_) (fun h0 => ?_)
      · refine r_iload (pc := 156) F dX10_seeds_156 rfl ?_
        refine r_goto (pc := 158) (tgt := 163) F dX10_seeds_158 rfl ?_
        exact hR _ _ _ _ dX10_seeds_163 rfl (Option.some.inj h0)
      · refine r_iload (pc := 161) F dX10_seeds_161 rfl ?_
        exact hR _ _ _ _ dX10_seeds_163 rfl (Option.some.inj h0)
    · refine r_aload_n (pc := 32) F dX10_seeds_32 rfl ?_
      refine r_iload (pc := 33) F dX10_seeds_33 rfl ?_
      obtain ⟨q55, er54, h0⟩ := bind_some h0
      replace h0 := un2_eq h0
      obtain ⟨r54, w53, rfl, h0⟩ := h0
      refine r_Vj1 (pc := 35) F dX10_seeds_35 ml_10_99 (kX10_no _ w3 l2 (r54, w53) er54) i68_42 (ce_42 _ _ _) (Nat.le_of_ble_eq_true rfl) (Nat.le_of_ble_eq_true rfl) (Nat.le_of_ble_eq_true rfl) ?_
      exact hR _ _ _ _ dX10_seeds_38 rfl (Option.some.inj h0)
  refine r_iload_n (pc := 0) F dX10_seeds_0 rfl ?_
  refine r_iconst (pc := 1) F dX10_seeds_1 ic_1 ?_
  refine r_bipush (pc := 2) F dX10_seeds_2 bp_20 ?_
  refine r_Si3 (pc := 4) F dX10_seeds_4 ml_10_92 (kX10_bound _ w a1 1 20 _ rfl) (Nat.le_of_ble_eq_true rfl) (Nat.le_of_ble_eq_true rfl) (Nat.le_of_ble_eq_true rfl) ?_
  obtain ⟨v1, ev1, h0⟩ := lt_some h0
  refine V_nm ev1 ?_
  refine r_istore (pc := 7) (ls' := [(0, .ref ((zg Z).1 42)), (1, .int a1), (2, .int a2), (3, .int a3), (4, .int v1)]) F dX10_seeds_7 (Nat.le_of_ble_eq_true rfl) rfl ?_
  refine r_iload (pc := 9) F dX10_seeds_9 rfl ?_
  refine r_if_ne (pc := 11) (tgt := 27) F dX10_seeds_11 rfl h0 (fun h0 => ?_) (fun h0 => ?_)
  · refine r_iload_n (pc := 14) F dX10_seeds_14 rfl ?_
    refine r_iconst (pc := 15) F dX10_seeds_15 ic_0 ?_
    refine r_iconst (pc := 16) F dX10_seeds_16 ic_1 ?_
    refine r_Si3 (pc := 17) F dX10_seeds_17 ml_10_110 (kX10_isIn _ w a3 0 1 _ rfl) (Nat.le_of_ble_eq_true rfl) (Nat.le_of_ble_eq_true rfl) (Nat.le_of_ble_eq_true rfl) ?_
    refine r_if_ne (pc := 20) (tgt := 27) F dX10_seeds_20 rfl h0 (fun h0 => ?_) (fun h0 => ?_)
    · refine r_bipush (pc := 23) F dX10_seeds_23 bp_m2 ?_
      refine r_istore (pc := 25) (ls' := [(0, .ref ((zg Z).1 42)), (1, .int a1), (2, .int a2), (3, .int a3), (4, .int (-2))]) F dX10_seeds_25 (Nat.le_of_ble_eq_true rfl) rfl ?_
      exact J27 w (-2) h0
    · exact J27 w v1 h0
  · exact J27 w v1 h0
set_option maxRecDepth 100000 in
set_option maxHeartbeats 4000000 in
theorem kX10_count (g : GT) (w : Wd) (a1 : Int32) (out : Int32) (h0 : fX10_count w a1 = some out) : CtI g yX10_count cX10_count 2 (some .int) 2 44 [.ref (g.1 42), .int a1] w (fun r w1 => r = out ∧ w1 = w) := by
  refine CtI_of .int (by decide) (Nat.le_of_ble_eq_true rfl) (fun Z hg F hR => ?_)
  subst hg
  have F : Fx Z RX10 cX10_count 2 2 44 := F
  refine V_sub (ls' := [(0, .ref ((zg Z).1 42)), (1, .int a1)]) [0, 1] rfl ?_
  unfold fX10_count at h0
  refine r_iload_n (pc := 0) F dX10_count_0 rfl ?_
  refine r_bipush (pc := 1) F dX10_count_1 bp_11 ?_
  refine r_bipush (pc := 3) F dX10_count_3 bp_16 ?_
  refine r_Si3 (pc := 5) F dX10_count_5 ml_10_110 (kX10_isIn _ w a1 11 16 _ rfl) (Nat.le_of_ble_eq_true rfl) (Nat.le_of_ble_eq_true rfl) (Nat.le_of_ble_eq_true rfl) ?_
  refine r_if_eq (pc := 8) (tgt := 21) F dX10_count_8 rfl h0 (fun h0 => ?_) (fun h0 => ?_)
  · refine r_iload_n (pc := 21) F dX10_count_21 rfl ?_
    by_cases c1 : a1 = 0
    · rw [if_pos c1] at h0
      refine r_tsw (pc := 22) (tgt := 80) F dX10_count_22 rfl (by rw [c1]; decide +kernel) ?_
      refine r_aload_n (pc := 80) F dX10_count_80 rfl ?_
      refine r_getf (pc := 81) F dX10_count_81 fl_10_88 i68_42 (ce_42 _ _ _) rfl ?_
      exact hR _ _ _ _ dX10_count_84 rfl ⟨(Option.some.inj h0), rfl⟩
    rw [if_neg c1] at h0
    by_cases c2 : a1 = 1
    · rw [if_pos c2] at h0
      refine r_tsw (pc := 22) (tgt := 85) F dX10_count_22 rfl (by rw [c2]; decide +kernel) ?_
      refine r_aload_n (pc := 85) F dX10_count_85 rfl ?_
      refine r_getf (pc := 86) F dX10_count_86 fl_10_124 i68_42 (ce_42 _ _ _) rfl ?_
      obtain ⟨r3, er3, h0⟩ := bind_some h0
      refine r_Si1 (pc := 89) F dX10_count_89 ml_10_231 (kX10_bits _ w (w.1 42 7) r3 er3) (Nat.le_of_ble_eq_true rfl) (Nat.le_of_ble_eq_true rfl) (Nat.le_of_ble_eq_true rfl) ?_
      exact hR _ _ _ _ dX10_count_92 rfl ⟨(Option.some.inj h0), rfl⟩
    rw [if_neg c2] at h0
    by_cases c4 : a1 = 2
    · rw [if_pos c4] at h0
      refine r_tsw (pc := 22) (tgt := 93) F dX10_count_22 rfl (by rw [c4]; decide +kernel) ?_
      refine r_aload_n (pc := 93) F dX10_count_93 rfl ?_
      refine r_getf (pc := 94) F dX10_count_94 fl_10_127 i68_42 (ce_42 _ _ _) rfl ?_
      exact hR _ _ _ _ dX10_count_97 rfl ⟨(Option.some.inj h0), rfl⟩
    rw [if_neg c4] at h0
    by_cases c5 : a1 = 3
    · rw [if_pos c5] at h0
      refine r_tsw (pc := 22) (tgt := 98) F dX10_count_22 rfl (by rw [c5]; decide +kernel) ?_
      refine r_aload_n (pc := 98) F dX10_count_98 rfl ?_
      refine r_getf (pc := 99) F dX10_count_99 fl_10_133 i68_42 (ce_42 _ _ _) rfl ?_
      exact hR _ _ _ _ dX10_count_102 rfl ⟨(Option.some.inj h0), rfl⟩
    rw [if_neg c5] at h0
    by_cases c6 : a1 = 4
    · rw [if_pos c6] at h0
      refine r_tsw (pc := 22) (tgt := 103) F dX10_count_22 rfl (by rw [c6]; decide +kernel) ?_
      refine r_aload_n (pc := 103) F dX10_count_103 rfl ?_
      refine r_getf (pc := 104) F dX10_count_104 fl_10_13 i68_42 (ce_42 _ _ _) rfl ?_
      refine r_iload_n (pc := 107) F dX10_count_107 rfl ?_
      refine r_iconst (pc := 108) F dX10_count_108 ic_4 ?_
      refine r_isub (pc := 109) F dX10_count_109 ?_
      obtain ⟨g7, h0⟩ := gd_some h0
      refine r_iald (pc := 110) F dX10_count_110 i68_44 (ca_44 _) g7 rfl ?_
      exact hR _ _ _ _ dX10_count_111 rfl ⟨(Option.some.inj h0), rfl⟩
    rw [if_neg c6] at h0
    by_cases c8 : a1 = 5
    · rw [if_pos c8] at h0
      refine r_tsw (pc := 22) (tgt := 103) F dX10_count_22 rfl (by rw [c8]; decide +kernel) ?_
      refine r_aload_n (pc := 103) F dX10_count_103 rfl ?_
      refine r_getf (pc := 104) F dX10_count_104 fl_10_13 i68_42 (ce_42 _ _ _) rfl ?_
      refine r_iload_n (pc := 107) F dX10_count_107 rfl ?_
      refine r_iconst (pc := 108) F dX10_count_108 ic_4 ?_
      refine r_isub (pc := 109) F dX10_count_109 ?_
      obtain ⟨g9, h0⟩ := gd_some h0
      refine r_iald (pc := 110) F dX10_count_110 i68_44 (ca_44 _) g9 rfl ?_
      exact hR _ _ _ _ dX10_count_111 rfl ⟨(Option.some.inj h0), rfl⟩
    rw [if_neg c8] at h0
    by_cases c10 : a1 = 6
    · rw [if_pos c10] at h0
      refine r_tsw (pc := 22) (tgt := 103) F dX10_count_22 rfl (by rw [c10]; decide +kernel) ?_
      refine r_aload_n (pc := 103) F dX10_count_103 rfl ?_
      refine r_getf (pc := 104) F dX10_count_104 fl_10_13 i68_42 (ce_42 _ _ _) rfl ?_
      refine r_iload_n (pc := 107) F dX10_count_107 rfl ?_
      refine r_iconst (pc := 108) F dX10_count_108 ic_4 ?_
      refine r_isub (pc := 109) F dX10_count_109 ?_
      obtain ⟨g11, h0⟩ := gd_some h0
      refine r_iald (pc := 110) F dX10_count_110 i68_44 (ca_44 _) g11 rfl ?_
      exact hR _ _ _ _ dX10_count_111 rfl ⟨(Option.some.inj h0), rfl⟩
    rw [if_neg c10] at h0
    by_cases c12 : a1 = 7
    · rw [if_pos c12] at h0
      refine r_tsw (pc := 22) (tgt := 112) F dX10_count_22 rfl (by rw [c12]; decide +kernel) ?_
      refine r_aload_n (pc := 112) F dX10_count_112 rfl ?_
      refine r_getf (pc := 113) F dX10_count_113 fl_10_96 i68_42 (ce_42 _ _ _) rfl ?_
      exact hR _ _ _ _ dX10_count_116 rfl ⟨(Option.some.inj h0), rfl⟩
    rw [if_neg c12] at h0
    by_cases c13 : a1 = 8
    · rw [if_pos c13] at h0
      refine r_tsw (pc := 22) (tgt := 117) F dX10_count_22 rfl (by rw [c13]; decide +kernel) ?_
      refine r_aload_n (pc := 117) F dX10_count_117 rfl ?_
      refine r_getf (pc := 118) F dX10_count_118 fl_10_343 i68_42 (ce_42 _ _ _) rfl ?_
      exact hR _ _ _ _ dX10_count_121 rfl ⟨(Option.some.inj h0), rfl⟩
    rw [if_neg c13] at h0
    by_cases c14 : a1 = 9
    · rw [if_pos c14] at h0
      refine r_tsw (pc := 22) (tgt := 122) F dX10_count_22 rfl (by rw [c14]; decide +kernel) ?_
      refine r_aload_n (pc := 122) F dX10_count_122 rfl ?_
      refine r_aload_n (pc := 123) F dX10_count_123 rfl ?_
      refine r_getf (pc := 124) F dX10_count_124 fl_10_124 i68_42 (ce_42 _ _ _) rfl ?_
      obtain ⟨r15, er15, h0⟩ := bind_some h0
      refine r_Vi1 (pc := 127) F dX10_count_127 ml_10_244 (kX10_lightOf _ w (w.1 42 7) r15 er15) i68_42 (ce_42 _ _ _) (Nat.le_of_ble_eq_true rfl) (Nat.le_of_ble_eq_true rfl) (Nat.le_of_ble_eq_true rfl) ?_
      exact hR _ _ _ _ dX10_count_130 rfl ⟨(Option.some.inj h0), rfl⟩
    rw [if_neg c14] at h0
    by_cases c16 : a1 = 10
    · rw [if_pos c16] at h0
      refine r_tsw (pc := 22) (tgt := 131) F dX10_count_22 rfl (by rw [c16]; decide +kernel) ?_
      refine r_aload_n (pc := 131) F dX10_count_131 rfl ?_
      refine r_getf (pc := 132) F dX10_count_132 fl_10_164 i68_42 (ce_42 _ _ _) rfl ?_
      exact hR _ _ _ _ dX10_count_135 rfl ⟨(Option.some.inj h0), rfl⟩
    rw [if_neg c16] at h0
    refine r_tsw (pc := 22) (tgt := 136) F dX10_count_22 rfl (tsw_out (ks := [0, 1, 2, 3, 4, 5, 6, 7, 8, 9, 10]) rfl rfl (by decide +kernel) (List.forall_mem_cons.mpr ⟨sw_ne rfl c1, List.forall_mem_cons.mpr ⟨sw_ne rfl c2, List.forall_mem_cons.mpr ⟨sw_ne rfl c4, List.forall_mem_cons.mpr ⟨sw_ne rfl c5, List.forall_mem_cons.mpr ⟨sw_ne rfl c6, List.forall_mem_cons.mpr ⟨sw_ne rfl c8, List.forall_mem_cons.mpr ⟨sw_ne rfl c10, List.forall_mem_cons.mpr ⟨sw_ne rfl c12, List.forall_mem_cons.mpr ⟨sw_ne rfl c13, List.forall_mem_cons.mpr ⟨sw_ne rfl c14, List.forall_mem_cons.mpr ⟨sw_ne rfl c16, fun _ h => absurd h List.not_mem_nil⟩⟩⟩⟩⟩⟩⟩⟩⟩⟩⟩)) ?_
    refine r_bipush (pc := 136) F dX10_count_136 bp_m9 ?_
    exact hR _ _ _ _ dX10_count_138 rfl ⟨(Option.some.inj h0), rfl⟩
  · refine r_aload_n (pc := 11) F dX10_count_11 rfl ?_
    refine r_getf (pc := 12) F dX10_count_12 fl_10_7 i68_42 (ce_42 _ _ _) rfl ?_
    refine r_iload_n (pc := 15) F dX10_count_15 rfl ?_
    refine r_bipush (pc := 16) F dX10_count_16 bp_10 ?_
    refine r_isub (pc := 18) F dX10_count_18 ?_
    obtain ⟨g17, h0⟩ := gd_some h0
    refine r_iald (pc := 19) F dX10_count_19 i68_43 (ca_43 _) g17 rfl ?_
    exact hR _ _ _ _ dX10_count_20 rfl ⟨(Option.some.inj h0), rfl⟩

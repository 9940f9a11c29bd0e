/-! contracts: the code computes the functions (by program) -/
set_option maxRecDepth 100000 in
set_option maxHeartbeats 4000000 in
theorem kX4_firstDark (g : GT) (w : Wd) (out : Int32 × Wd) (h0 : fX4_firstDark w = some out) : CtI g yX4_firstDark cX4_firstDark 2 (some .int) 5 110 [.ref (g.1 8)] w (fun r w1 => (r, w1) = out) := by
  refine CtI_of .int (by decide) (Nat.le_of_ble_eq_true rfl) (fun Z hg F hR => ?_)
  subst hg
  have F : Fx Z RX4 cX4_firstDark 2 5 110 := F
  refine V_sub (ls' := [(0, .ref ((zg Z).1 8))]) [0] rfl ?_
  unfold fX4_firstDark at h0
  refine r_aload_n (pc := 0) F dX4_firstDark_0 rfl ?_
  obtain ⟨w1, ew1, h0⟩ := bind_some h0
  refine r_Vv0 (pc := 1) F dX4_firstDark_1 ml_4_23 (kX4_walkFromNow _ w w1 ew1) i68_8 (ce_8 _ _ _) (Nat.le_of_ble_eq_true rfl) (Nat.le_of_ble_eq_true rfl) (Nat.le_of_ble_eq_true rfl) ?_
  refine r_iconst (pc := 4) F dX4_firstDark_4 ic_0 ?_
  refine r_istore_n (pc := 5) (ls' := [(0, .ref ((zg Z).1 8)), (1, .int 0)]) F dX4_firstDark_5 (Nat.le_of_ble_eq_true rfl) rfl ?_
  refine iter_rule (P := fun s : Int32 => V Z 6 [(0, .ref ((zg Z).1 8)), (1, .int s)] [] w1) (x := out) ?_ FU 0 h0
  intro s y1 h1 hP1 hX1
  obtain ⟨l3, rfl⟩ : ∃ z, z = s := ⟨s, rfl⟩
  have h1 : fX4_firstDark_b6 w1 l3 = some y1 := h1
  unfold fX4_firstDark_b6 at h1
  refine r_iload_n (pc := 6) F dX4_firstDark_6 rfl ?_
  refine r_aload_n (pc := 7) F dX4_firstDark_7 rfl ?_
  refine r_getf (pc := 8) F dX4_firstDark_8 fl_4_15 i68_8 (ce_8 _ _ _) rfl ?_
  refine r_getf (pc := 11) F dX4_firstDark_11 fl_4_31 i68_4 (ce_4 _ _ _) rfl ?_
  refine r_icmp_gt (pc := 14) (tgt := 37) F dX4_firstDark_14 rfl h1 (fun h1 => ?_) (fun h1 => ?_)
  · refine r_bipush (pc := 37) F dX4_firstDark_37 bp_m9 ?_
    have h0 := congrArg some (hX1 _ (Option.some.inj h1).symm)
    exact hR _ _ _ _ dX4_firstDark_39 rfl (Option.some.inj h0)
  · refine r_aload_n (pc := 17) F dX4_firstDark_17 rfl ?_
    refine r_getf (pc := 18) F dX4_firstDark_18 fl_4_15 i68_8 (ce_8 _ _ _) rfl ?_
    refine r_getf (pc := 21) F dX4_firstDark_21 fl_4_26 i68_4 (ce_4 _ _ _) rfl ?_
    refine r_iload_n (pc := 24) F dX4_firstDark_24 rfl ?_
    obtain ⟨g4, h1⟩ := gd_some h1
    refine r_iald (pc := 25) F dX4_firstDark_25 i68_26 (ca_26 _) g4 rfl ?_
    refine r_if_ne (pc := 26) (tgt := 31) F dX4_firstDark_26 rfl h1 (fun h1 => ?_) (fun h1 => ?_)
    · refine r_iload_n (pc := 29) F dX4_firstDark_29 rfl ?_
      have h0 := congrArg some (hX1 _ (Option.some.inj h1).symm)
      exact hR _ _ _ _ dX4_firstDark_30 rfl (Option.some.inj h0)
    · obtain ⟨v5, ev5, h1⟩ := lt_some h1
      refine r_iinc (pc := 31) (ls' := [(0, .ref ((zg Z).1 8)), (1, .int v5)]) F dX4_firstDark_31 rfl (by rw [ev5]; rfl) (Nat.le_of_ble_eq_true rfl) rfl ?_
      refine r_goto (pc := 34) (tgt := 6) F dX4_firstDark_34 rfl ?_
      exact hP1 v5 (Option.some.inj h1).symm
set_option maxRecDepth 100000 in
set_option maxHeartbeats 4000000 in
theorem kX4_longestDark (g : GT) (w : Wd) (out : Int32 × Wd) (h0 : fX4_longestDark w = some out) : CtI g yX4_longestDark cX4_longestDark 4 (some .int) 5 110 [.ref (g.1 8)] w (fun r w1 => (r, w1) = out) := by
  refine CtI_of .int (by decide) (Nat.le_of_ble_eq_true rfl) (fun Z hg F hR => ?_)
  subst hg
  have F : Fx Z RX4 cX4_longestDark 4 5 110 := F
  refine V_sub (ls' := [(0, .ref ((zg Z).1 8))]) [0] rfl ?_
  unfold fX4_longestDark at h0
  refine r_aload_n (pc := 0) F dX4_longestDark_0 rfl ?_
  obtain ⟨w1, ew1, h0⟩ := bind_some h0
  refine r_Vv0 (pc := 1) F dX4_longestDark_1 ml_4_23 (kX4_walkFromNow _ w w1 ew1) i68_8 (ce_8 _ _ _) (Nat.le_of_ble_eq_true rfl) (Nat.le_of_ble_eq_true rfl) (Nat.le_of_ble_eq_true rfl) ?_
  refine r_iconst (pc := 4) F dX4_longestDark_4 ic_0 ?_
  refine r_istore_n (pc := 5) (ls' := [(0, .ref ((zg Z).1 8)), (1, .int 0)]) F dX4_longestDark_5 (Nat.le_of_ble_eq_true rfl) rfl ?_
  refine r_iconst (pc := 6) F dX4_longestDark_6 ic_0 ?_
  refine r_istore_n (pc := 7) (ls' := [(0, .ref ((zg Z).1 8)), (1, .int 0), (2, .int 0)]) F dX4_longestDark_7 (Nat.le_of_ble_eq_true rfl) rfl ?_
  refine r_iconst (pc := 8) F dX4_longestDark_8 ic_1 ?_
  refine r_istore_n (pc := 9) (ls' := [(0, .ref ((zg Z).1 8)), (1, .int 0), (2, .int 0), (3, .int 1)]) F dX4_longestDark_9 (Nat.le_of_ble_eq_true rfl) rfl ?_
  obtain ⟨l13, il13, h0⟩ := bind_some h0
  suffices E10 : V Z 53 [(1, .int l13)] [] w1 by
    refine iter_rule (P := fun s : Int32 × Int32 × Int32 => V Z 10 [(0, .ref ((zg Z).1 8)), (1, .int (s.1)), (2, .int (s.2.1)), (3, .int (s.2.2))] [] w1) (x := l13) ?_ FU (0, 0, 1) il13
    intro s y1 h1 hP1 hX1
    obtain ⟨l3, l4, l5⟩ := s
    have h1 : fX4_longestDark_b10 w1 l3 l4 l5 = some y1 := h1
    unfold fX4_longestDark_b10 at h1
    refine r_iload_n (pc := 10) F dX4_longestDark_10 rfl ?_
    refine r_aload_n (pc := 11) F dX4_longestDark_11 rfl ?_
    refine r_getf (pc := 12) F dX4_longestDark_12 fl_4_15 i68_8 (ce_8 _ _ _) rfl ?_
    refine r_getf (pc := 15) F dX4_longestDark_15 fl_4_31 i68_4 (ce_4 _ _ _) rfl ?_
    refine r_icmp_gt (pc := 18) (tgt := 53) F dX4_longestDark_18 rfl h1 (fun h1 => ?_) (fun h1 => ?_)
    · refine V_sub (ls' := [(1, .int l3)]) [1] rfl ?_
      have e6 := hX1 _ (Option.some.inj h1).symm
      cases e6
      exact E10
    · refine r_aload_n (pc := 21) F dX4_longestDark_21 rfl ?_
      refine r_getf (pc := 22) F dX4_longestDark_22 fl_4_15 i68_8 (ce_8 _ _ _) rfl ?_
      refine r_getf (pc := 25) F dX4_longestDark_25 fl_4_26 i68_4 (ce_4 _ _ _) rfl ?_
      refine r_iload_n (pc := 28) F dX4_longestDark_28 rfl ?_
      obtain ⟨g7, h1⟩ := gd_some h1
      refine r_iald (pc := 29) F dX4_longestDark_29 i68_26 (ca_26 _) g7 rfl ?_
      obtain ⟨v8, hv8, h1⟩ := lt_some h1
      have hv8 := hv8.symm
      suffices Jv8 : V Z 40 [(0, .ref ((zg Z).1 8)), (1, .int l3), (2, .int l4), (3, .int l5)] [.int v8] w1 by
        refine r_if_ne (pc := 30) (tgt := 39) F dX4_longestDark_30 rfl hv8 (fun hv8 => ?_) (fun hv8 => ?_)
        · refine r_iload_n (pc := 33) F dX4_longestDark_33 rfl ?_
          refine r_iconst (pc := 34) F dX4_longestDark_34 ic_1 ?_
          refine r_iadd (pc := 35) F dX4_longestDark_35 ?_
          refine r_goto (pc := 36) (tgt := 40) F dX4_longestDark_36 rfl ?_
          exact V_nm hv8.symm Jv8
        · refine r_iconst (pc := 39) F dX4_longestDark_39 ic_0 ?_
          exact V_nm hv8.symm Jv8
      refine r_istore_n (pc := 40) (ls' := [(0, .ref ((zg Z).1 8)), (1, .int l3), (2, .int v8), (3, .int l5)]) F dX4_longestDark_40 (Nat.le_of_ble_eq_true rfl) rfl ?_
      refine r_iload_n (pc := 41) F dX4_longestDark_41 rfl ?_
      refine r_iload_n (pc := 42) F dX4_longestDark_42 rfl ?_
      refine r_max (pc := 43) F dX4_longestDark_43 mk_4_41 ms_max mi_Math mc_max (Nat.le_of_ble_eq_true rfl) (Nat.le_of_ble_eq_true rfl) ?_
      obtain ⟨v9, ev9, h1⟩ := lt_some h1
      refine V_nm ev9 ?_
      refine r_istore_n (pc := 46) (ls' := [(0, .ref ((zg Z).1 8)), (1, .int v9), (2, .int v8), (3, .int l5)]) F dX4_longestDark_46 (Nat.le_of_ble_eq_true rfl) rfl ?_
      obtain ⟨v10, ev10, h1⟩ := lt_some h1
      refine r_iinc (pc := 47) (ls' := [(0, .ref ((zg Z).1 8)), (1, .int v9), (2, .int v8), (3, .int v10)]) F dX4_longestDark_47 rfl (by rw [ev10]; rfl) (Nat.le_of_ble_eq_true rfl) rfl ?_
      refine r_goto (pc := 50) (tgt := 10) F dX4_longestDark_50 rfl ?_
      exact hP1 (v9, v8, v10) (Option.some.inj h1).symm
  refine r_iload_n (pc := 53) F dX4_longestDark_53 rfl ?_
  exact hR _ _ _ _ dX4_longestDark_54 rfl (Option.some.inj h0)
set_option maxRecDepth 100000 in
set_option maxHeartbeats 4000000 in
theorem kX9_dark (g : GT) (w : Wd) (a1 : Int32) (out : Int32 × Wd) (h0 : fX9_dark w a1 = some out) : CtI g yX9_dark cX9_dark 2 (some .int) 6 133 [.ref (g.1 0), .int a1] w (fun r w1 => (r, w1) = out) := by
  refine CtI_of .int (by decide) (Nat.le_of_ble_eq_true rfl) (fun Z hg F hR => ?_)
  subst hg
  have F : Fx Z RX9 cX9_dark 2 6 133 := F
  refine V_sub (ls' := [(0, .ref ((zg Z).1 0)), (1, .int a1)]) [0, 1] rfl ?_
  unfold fX9_dark at h0
  refine r_iload_n (pc := 0) F dX9_dark_0 rfl ?_
  refine r_iconst (pc := 1) F dX9_dark_1 ic_1 ?_
  refine r_Si2 (pc := 2) F dX9_dark_2 ml_9_115 (kX9_isOutside _ w a1 1 _ rfl) (Nat.le_of_ble_eq_true rfl) (Nat.le_of_ble_eq_true rfl) (Nat.le_of_ble_eq_true rfl) ?_
  refine r_if_eq (pc := 5) (tgt := 15) F dX9_dark_5 rfl h0 (fun h0 => ?_) (fun h0 => ?_)
  · refine r_iload_n (pc := 15) F dX9_dark_15 rfl ?_
    refine r_if_ne (pc := 16) (tgt := 29) F dX9_dark_16 rfl h0 (fun h0 => ?_) (fun h0 => ?_)
    · refine r_aload_n (pc := 19) F dX9_dark_19 rfl ?_
      refine r_getf (pc := 20) F dX9_dark_20 fl_9_52 i68_0 (ce_0 _ _ _) rfl ?_
      obtain ⟨q3, er2, h0⟩ := bind_some h0
      replace h0 := un2_eq h0
      obtain ⟨r2, w1, rfl, h0⟩ := h0
      refine r_Vj0 (pc := 23) F dX9_dark_23 ml_9_195 (kX4_firstDark _ w (r2, w1) er2) i68_8 (ce_8 _ _ _) (Nat.le_of_ble_eq_true rfl) (Nat.le_of_ble_eq_true rfl) (Nat.le_of_ble_eq_true rfl) ?_
      refine r_goto (pc := 26) (tgt := 36) F dX9_dark_26 rfl ?_
      exact hR _ _ _ _ dX9_dark_36 rfl (Option.some.inj h0)
    · refine r_aload_n (pc := 29) F dX9_dark_29 rfl ?_
      refine r_getf (pc := 30) F dX9_dark_30 fl_9_52 i68_0 (ce_0 _ _ _) rfl ?_
      obtain ⟨q7, er6, h0⟩ := bind_some h0
      replace h0 := un2_eq h0
      obtain ⟨r6, w5, rfl, h0⟩ := h0
      refine r_Vj0 (pc := 33) F dX9_dark_33 ml_9_198 (kX4_longestDark _ w (r6, w5) er6) i68_8 (ce_8 _ _ _) (Nat.le_of_ble_eq_true rfl) (Nat.le_of_ble_eq_true rfl) (Nat.le_of_ble_eq_true rfl) ?_
      exact hR _ _ _ _ dX9_dark_36 rfl (Option.some.inj h0)
  · refine r_aload_n (pc := 8) F dX9_dark_8 rfl ?_
    refine r_bipush (pc := 9) F dX9_dark_9 bp_m2 ?_
    obtain ⟨q12, er11, h0⟩ := bind_some h0
    replace h0 := un2_eq h0
    obtain ⟨r11, w10, rfl, h0⟩ := h0
    refine r_Vj1 (pc := 11) F dX9_dark_11 ml_9_85 (kX9_refuse _ w (-2) (r11, w10) er11) i68_0 (ce_0 _ _ _) (Nat.le_of_ble_eq_true rfl) (Nat.le_of_ble_eq_true rfl) (Nat.le_of_ble_eq_true rfl) ?_
    exact hR _ _ _ _ dX9_dark_14 rfl (Option.some.inj h0)
set_option maxRecDepth 100000 in
set_option maxHeartbeats 4000000 in
theorem kX4_darkEnds (g : GT) (w : Wd) (a1 : Int32) (out : Int32) (h0 : fX4_darkEnds w a1 = some out) : CtI g yX4_darkEnds cX4_darkEnds 4 (some .int) 1 21 [.ref (g.1 8), .int a1] w (fun r w1 => r = out ∧ w1 = w) := by
  refine CtI_of .int (by decide) (Nat.le_of_ble_eq_true rfl) (fun Z hg F hR => ?_)
  subst hg
  have F : Fx Z RX4 cX4_darkEnds 4 1 21 := F
  refine V_sub (ls' := [(0, .ref ((zg Z).1 8)), (1, .int a1)]) [0, 1] rfl ?_
  unfold fX4_darkEnds at h0
  refine r_iconst (pc := 0) F dX4_darkEnds_0 ic_0 ?_
  refine r_istore_n (pc := 1) (ls' := [(0, .ref ((zg Z).1 8)), (1, .int a1), (2, .int 0)]) F dX4_darkEnds_1 (Nat.le_of_ble_eq_true rfl) rfl ?_
  refine r_iconst (pc := 2) F dX4_darkEnds_2 ic_1 ?_
  refine r_istore_n (pc := 3) (ls' := [(0, .ref ((zg Z).1 8)), (1, .int a1), (2, .int 0), (3, .int 1)]) F dX4_darkEnds_3 (Nat.le_of_ble_eq_true rfl) rfl ?_
  obtain ⟨l11, il11, h0⟩ := bind_some h0
  suffices E4 : V Z 40 [(2, .int l11)] [] w by
    refine iter_rule (P := fun s : Int32 × Int32 => V Z 4 [(0, .ref ((zg Z).1 8)), (1, .int a1), (2, .int (s.1)), (3, .int (s.2))] [] w) (x := l11) ?_ FU (0, 1) il11
    intro s y1 h1 hP1 hX1
    obtain ⟨l1, l2⟩ := s
    have h1 : fX4_darkEnds_b4 w a1 l1 l2 = some y1 := h1
    unfold fX4_darkEnds_b4 at h1
    refine r_iload_n (pc := 4) F dX4_darkEnds_4 rfl ?_
    refine r_aload_n (pc := 5) F dX4_darkEnds_5 rfl ?_
    refine r_getf (pc := 6) F dX4_darkEnds_6 fl_4_15 i68_8 (ce_8 _ _ _) rfl ?_
    refine r_getf (pc := 9) F dX4_darkEnds_9 fl_4_31 i68_4 (ce_4 _ _ _) rfl ?_
    refine r_icmp_gt (pc := 12) (tgt := 40) F dX4_darkEnds_12 rfl h1 (fun h1 => ?_) (fun h1 => ?_)
    · refine V_sub (ls' := [(2, .int l1)]) [2] rfl ?_
      have e3 := hX1 _ (Option.some.inj h1).symm
      cases e3
      exact E4
    · refine r_aload_n (pc := 15) F dX4_darkEnds_15 rfl ?_
      refine r_getf (pc := 16) F dX4_darkEnds_16 fl_4_15 i68_8 (ce_8 _ _ _) rfl ?_
      refine r_getf (pc := 19) F dX4_darkEnds_19 fl_4_26 i68_4 (ce_4 _ _ _) rfl ?_
      refine r_iload_n (pc := 22) F dX4_darkEnds_22 rfl ?_
      obtain ⟨g4, h1⟩ := gd_some h1
      refine r_iald (pc := 23) F dX4_darkEnds_23 i68_26 (ca_26 _) g4 rfl ?_
      refine r_iload_n (pc := 24) F dX4_darkEnds_24 rfl ?_
      refine r_Ni2 (pc := 25) F dX4_darkEnds_25 ml_4_66 (kX9_hasBit _ w (w.1 26 l2.toNatClampNeg) a1 _ rfl) (Nat.le_of_ble_eq_true rfl) (Nat.le_of_ble_eq_true rfl) (Nat.le_of_ble_eq_true rfl) ?_
      refine r_if_ne (pc := 28) (tgt := 34) F dX4_darkEnds_28 rfl h1 (fun h1 => ?_) (fun h1 => ?_)
      · obtain ⟨v5, ev5, h1⟩ := lt_some h1
        refine r_iinc (pc := 31) (ls' := [(0, .ref ((zg Z).1 8)), (1, .int a1), (2, .int v5), (3, .int l2)]) F dX4_darkEnds_31 rfl (by rw [ev5]; rfl) (Nat.le_of_ble_eq_true rfl) rfl ?_
        obtain ⟨v6, ev6, h1⟩ := lt_some h1
        refine r_iinc (pc := 34) (ls' := [(0, .ref ((zg Z).1 8)), (1, .int a1), (2, .int v5), (3, .int v6)]) F dX4_darkEnds_34 rfl (by rw [ev6]; rfl) (Nat.le_of_ble_eq_true rfl) rfl ?_
        refine r_goto (pc := 37) (tgt := 4) F dX4_darkEnds_37 rfl ?_
        exact hP1 (v5, v6) (Option.some.inj h1).symm
      · obtain ⟨v7, ev7, h1⟩ := lt_some h1
        refine r_iinc (pc := 34) (ls' := [(0, .ref ((zg Z).1 8)), (1, .int a1), (2, .int l1), (3, .int v7)]) F dX4_darkEnds_34 rfl (by rw [ev7]; rfl) (Nat.le_of_ble_eq_true rfl) rfl ?_
        refine r_goto (pc := 37) (tgt := 4) F dX4_darkEnds_37 rfl ?_
        exact hP1 (l1, v7) (Option.some.inj h1).symm
  refine r_iload_n (pc := 40) F dX4_darkEnds_40 rfl ?_
  exact hR _ _ _ _ dX4_darkEnds_41 rfl ⟨(Option.some.inj h0), rfl⟩
set_option maxRecDepth 100000 in
set_option maxHeartbeats 4000000 in
theorem kX4_darkMinutes (g : GT) (w : Wd) (a1 : Int32) (out : Int32 × Wd) (h0 : fX4_darkMinutes w a1 = some out) : CtI g yX4_darkMinutes cX4_darkMinutes 2 (some .int) 5 110 [.ref (g.1 8), .int a1] w (fun r w1 => (r, w1) = out) := by
  refine CtI_of .int (by decide) (Nat.le_of_ble_eq_true rfl) (fun Z hg F hR => ?_)
  subst hg
  have F : Fx Z RX4 cX4_darkMinutes 2 5 110 := F
  refine V_sub (ls' := [(0, .ref ((zg Z).1 8)), (1, .int a1)]) [0, 1] rfl ?_
  unfold fX4_darkMinutes at h0
  refine r_aload_n (pc := 0) F dX4_darkMinutes_0 rfl ?_
  obtain ⟨w1, ew1, h0⟩ := bind_some h0
  refine r_Vv0 (pc := 1) F dX4_darkMinutes_1 ml_4_23 (kX4_walkFromNow _ w w1 ew1) i68_8 (ce_8 _ _ _) (Nat.le_of_ble_eq_true rfl) (Nat.le_of_ble_eq_true rfl) (Nat.le_of_ble_eq_true rfl) ?_
  refine r_aload_n (pc := 4) F dX4_darkMinutes_4 rfl ?_
  refine r_iload_n (pc := 5) F dX4_darkMinutes_5 rfl ?_
  obtain ⟨r3, er3, h0⟩ := bind_some h0
  refine r_Vi1 (pc := 6) F dX4_darkMinutes_6 ml_4_44 (kX4_darkEnds _ w1 a1 r3 er3) i68_8 (ce_8 _ _ _) (Nat.le_of_ble_eq_true rfl) (Nat.le_of_ble_eq_true rfl) (Nat.le_of_ble_eq_true rfl) ?_
  exact hR _ _ _ _ dX4_darkMinutes_9 rfl (Option.some.inj h0)
set_option maxRecDepth 100000 in
set_option maxHeartbeats 4000000 in
theorem kX9_darkFor (g : GT) (w : Wd) (a1 : Int32) (out : Int32 × Wd) (h0 : fX9_darkFor w a1 = some out) : CtI g yX9_darkFor cX9_darkFor 2 (some .int) 6 131 [.ref (g.1 0), .int a1] w (fun r w1 => (r, w1) = out) := by
  refine CtI_of .int (by decide) (Nat.le_of_ble_eq_true rfl) (fun Z hg F hR => ?_)
  subst hg
  have F : Fx Z RX9 cX9_darkFor 2 6 131 := F
  refine V_sub (ls' := [(0, .ref ((zg Z).1 0)), (1, .int a1)]) [0, 1] rfl ?_
  unfold fX9_darkFor at h0
  refine r_aload_n (pc := 0) F dX9_darkFor_0 rfl ?_
  refine r_getf (pc := 1) F dX9_darkFor_1 fl_9_10 i68_0 (ce_0 _ _ _) rfl ?_
  refine r_iload_n (pc := 4) F dX9_darkFor_4 rfl ?_
  refine r_Vi1 (pc := 5) F dX9_darkFor_5 ml_9_111 (kX2_hasOne _ 1 co1 w a1 _ rfl) i68_1 (ce_1 _ _ _) (Nat.le_of_ble_eq_true rfl) (Nat.le_of_ble_eq_true rfl) (Nat.le_of_ble_eq_true rfl) ?_
  refine r_if_eq (pc := 8) (tgt := 22) F dX9_darkFor_8 rfl h0 (fun h0 => ?_) (fun h0 => ?_)
  · refine r_aload_n (pc := 22) F dX9_darkFor_22 rfl ?_
    refine r_iconst (pc := 23) F dX9_darkFor_23 ic_m1 ?_
    obtain ⟨q3, er2, h0⟩ := bind_some h0
    replace h0 := un2_eq h0
    obtain ⟨r2, w1, rfl, h0⟩ := h0
    refine r_Vj1 (pc := 24) F dX9_darkFor_24 ml_9_85 (kX9_refuse _ w (-1) (r2, w1) er2) i68_0 (ce_0 _ _ _) (Nat.le_of_ble_eq_true rfl) (Nat.le_of_ble_eq_true rfl) (Nat.le_of_ble_eq_true rfl) ?_
    exact hR _ _ _ _ dX9_darkFor_27 rfl (Option.some.inj h0)
  · refine r_aload_n (pc := 11) F dX9_darkFor_11 rfl ?_
    refine r_getf (pc := 12) F dX9_darkFor_12 fl_9_52 i68_0 (ce_0 _ _ _) rfl ?_
    refine r_iload_n (pc := 15) F dX9_darkFor_15 rfl ?_
    obtain ⟨q7, er6, h0⟩ := bind_some h0
    replace h0 := un2_eq h0
    obtain ⟨r6, w5, rfl, h0⟩ := h0
    refine r_Vj1 (pc := 16) F dX9_darkFor_16 ml_9_201 (kX4_darkMinutes _ w a1 (r6, w5) er6) i68_8 (ce_8 _ _ _) (Nat.le_of_ble_eq_true rfl) (Nat.le_of_ble_eq_true rfl) (Nat.le_of_ble_eq_true rfl) ?_
    refine r_goto (pc := 19) (tgt := 27) F dX9_darkFor_19 rfl ?_
    exact hR _ _ _ _ dX9_darkFor_27 rfl (Option.some.inj h0)
set_option maxRecDepth 100000 in
set_option maxHeartbeats 4000000 in
theorem kX4_lastLighter (g : GT) (w : Wd) (a1 : Int32) (a2 : Int32) (out : Int32 × Wd) (h0 : fX4_lastLighter w a1 a2 = some out) : CtI g yX4_lastLighter cX4_lastLighter 7 (some .int) 3 71 [.ref (g.1 8), .int a1, .int a2] w (fun r w1 => (r, w1) = out) := by
  refine CtI_of .int (by decide) (Nat.le_of_ble_eq_true rfl) (fun Z hg F hR => ?_)
  subst hg
  have F : Fx Z RX4 cX4_lastLighter 7 3 71 := F
  refine V_sub (ls' := [(0, .ref ((zg Z).1 8)), (1, .int a1), (2, .int a2)]) [0, 1, 2] rfl ?_
  unfold fX4_lastLighter at h0
  refine r_aload_n (pc := 0) F dX4_lastLighter_0 rfl ?_
  refine r_getf (pc := 1) F dX4_lastLighter_1 fl_4_15 i68_8 (ce_8 _ _ _) rfl ?_
  refine r_aload_n (pc := 4) F dX4_lastLighter_4 rfl ?_
  refine r_getf (pc := 5) F dX4_lastLighter_5 fl_4_9 i68_8 (ce_8 _ _ _) rfl ?_
  obtain ⟨w1, ew1, h0⟩ := bind_some h0
  refine r_Vv1 (pc := 8) F dX4_lastLighter_8 ml_4_48 (kX8_setOut _ 1 co1 w w1 ew1) i68_4 (ce_4 _ _ _) (Nat.le_of_ble_eq_true rfl) (Nat.le_of_ble_eq_true rfl) (Nat.le_of_ble_eq_true rfl) ?_
  refine r_bipush (pc := 11) F dX4_lastLighter_11 bp_m9 ?_
  refine r_istore_n (pc := 13) (ls' := [(0, .ref ((zg Z).1 8)), (1, .int a1), (2, .int a2), (3, .int (-9))]) F dX4_lastLighter_13 (Nat.le_of_ble_eq_true rfl) rfl ?_
  refine r_aload_n (pc := 14) F dX4_lastLighter_14 rfl ?_
  refine r_getf (pc := 15) F dX4_lastLighter_15 fl_4_9 i68_8 (ce_8 _ _ _) rfl ?_
  refine r_getf (pc := 18) F dX4_lastLighter_18 fl_4_52 i68_1 (ce_1 _ _ _) rfl ?_
  obtain ⟨v3, ev3, h0⟩ := lt_some h0
  refine V_nm ev3 ?_
  refine r_istore (pc := 21) (ls' := [(0, .ref ((zg Z).1 8)), (1, .int a1), (2, .int a2), (3, .int (-9)), (4, .int v3)]) F dX4_lastLighter_21 (Nat.le_of_ble_eq_true rfl) rfl ?_
  refine r_iload_n (pc := 23) F dX4_lastLighter_23 rfl ?_
  refine r_aload_n (pc := 24) F dX4_lastLighter_24 rfl ?_
  refine r_getf (pc := 25) F dX4_lastLighter_25 fl_4_15 i68_8 (ce_8 _ _ _) rfl ?_
  refine r_getf (pc := 28) F dX4_lastLighter_28 fl_4_31 i68_4 (ce_4 _ _ _) rfl ?_
  refine r_min (pc := 31) F dX4_lastLighter_31 mk_4_35 ms_min mi_Math mc_min (Nat.le_of_ble_eq_true rfl) (Nat.le_of_ble_eq_true rfl) ?_
  obtain ⟨v4, ev4, h0⟩ := lt_some h0
  refine V_nm ev4 ?_
  refine r_istore (pc := 34) (ls' := [(0, .ref ((zg Z).1 8)), (1, .int a1), (2, .int a2), (3, .int (-9)), (4, .int v3), (5, .int v4)]) F dX4_lastLighter_34 (Nat.le_of_ble_eq_true rfl) rfl ?_
  refine r_iconst (pc := 36) F dX4_lastLighter_36 ic_0 ?_
  refine r_istore (pc := 37) (ls' := [(0, .ref ((zg Z).1 8)), (1, .int a1), (2, .int a2), (3, .int (-9)), (4, .int v3), (5, .int v4), (6, .int 0)]) F dX4_lastLighter_37 (Nat.le_of_ble_eq_true rfl) rfl ?_
  refine V_sub (ls' := [(0, .ref ((zg Z).1 8)), (1, .int a1), (3, .int (-9)), (4, .int v3), (5, .int v4), (6, .int 0)]) [0, 1, 3, 4, 5, 6] rfl ?_
  obtain ⟨x20, ix20, h0⟩ := bind_some h0
  replace h0 := un2_eq h0
  obtain ⟨l21, w22, rfl, h0⟩ := h0
  suffices E39 : V Z 97 [(3, .int l21)] [] w22 by
    refine iter_rule (P := fun s : Int32 × Int32 × Int32 × Wd => V Z 39 [(0, .ref ((zg Z).1 8)), (1, .int a1), (3, .int (s.1)), (4, .int (s.2.1)), (5, .int v4), (6, .int (s.2.2.1))] [] s.2.2.2) (x := (l21, w22)) ?_ FU ((-9), v3, 0, w1) ix20
    intro s y1 h1 hP1 hX1
    obtain ⟨l5, l6, l7, w8⟩ := s
    have h1 : fX4_lastLighter_b39 v4 a1 l5 l6 l7 w8 = some y1 := h1
    unfold fX4_lastLighter_b39 at h1
    refine r_iload (pc := 39) F dX4_lastLighter_39 rfl ?_
    refine r_iload (pc := 41) F dX4_lastLighter_41 rfl ?_
    refine r_icmp_ge (pc := 43) (tgt := 97) F dX4_lastLighter_43 rfl h1 (fun h1 => ?_) (fun h1 => ?_)
    · refine V_sub (ls' := [(3, .int l5)]) [2] rfl ?_
      have e9 := hX1 _ (Option.some.inj h1).symm
      cases e9
      exact E39
    · refine r_aload_n (pc := 46) F dX4_lastLighter_46 rfl ?_
      refine r_getf (pc := 47) F dX4_lastLighter_47 fl_4_15 i68_8 (ce_8 _ _ _) rfl ?_
      refine r_aload_n (pc := 50) F dX4_lastLighter_50 rfl ?_
      refine r_getf (pc := 51) F dX4_lastLighter_51 fl_4_15 i68_8 (ce_8 _ _ _) rfl ?_
      refine r_getf (pc := 54) F dX4_lastLighter_54 fl_4_57 i68_4 (ce_4 _ _ _) rfl ?_
      refine r_iload (pc := 57) F dX4_lastLighter_57 rfl ?_
      refine r_iadd (pc := 59) F dX4_lastLighter_59 ?_
      refine r_iload (pc := 60) F dX4_lastLighter_60 rfl ?_
      obtain ⟨q12, er11, h1⟩ := bind_some h1
      replace h1 := un2_eq h1
      obtain ⟨r11, w10, rfl, h1⟩ := h1
      refine r_Vj2 (pc := 62) F dX4_lastLighter_62 ml_4_60 (kX8_minuteAt _ w8 ((w8.1 4 3) + l7) l6 (r11, w10) er11) i68_4 (ce_4 _ _ _) (Nat.le_of_ble_eq_true rfl) (Nat.le_of_ble_eq_true rfl) (Nat.le_of_ble_eq_true rfl) ?_
      refine r_istore (pc := 65) (ls' := [(0, .ref ((zg Z).1 8)), (1, .int a1), (3, .int l5), (4, .int r11), (5, .int v4), (6, .int l7)]) F dX4_lastLighter_65 (Nat.le_of_ble_eq_true rfl) rfl ?_
      refine r_aload_n (pc := 67) F dX4_lastLighter_67 rfl ?_
      refine r_getf (pc := 68) F dX4_lastLighter_68 fl_4_15 i68_8 (ce_8 _ _ _) rfl ?_
      refine r_getf (pc := 71) F dX4_lastLighter_71 fl_4_63 i68_4 (ce_4 _ _ _) rfl ?_
      refine r_iload_n (pc := 74) F dX4_lastLighter_74 rfl ?_
      refine r_Ni2 (pc := 75) F dX4_lastLighter_75 ml_4_66 (kX9_hasBit _ w10 (w10.1 4 6) a1 _ rfl) (Nat.le_of_ble_eq_true rfl) (Nat.le_of_ble_eq_true rfl) (Nat.le_of_ble_eq_true rfl) ?_
      refine r_if_eq (pc := 78) (tgt := 91) F dX4_lastLighter_78 rfl h1 (fun h1 => ?_) (fun h1 => ?_)
      · obtain ⟨v14, ev14, h1⟩ := lt_some h1
        refine r_iinc (pc := 91) (ls' := [(0, .ref ((zg Z).1 8)), (1, .int a1), (3, .int l5), (4, .int r11), (5, .int v4), (6, .int v14)]) F dX4_lastLighter_91 rfl (by rw [ev14]; rfl) (Nat.le_of_ble_eq_true rfl) rfl ?_
        refine r_goto (pc := 94) (tgt := 39) F dX4_lastLighter_94 rfl ?_
        exact hP1 (l5, r11, v14, w10) (Option.some.inj h1).symm
      · refine r_aload_n (pc := 81) F dX4_lastLighter_81 rfl ?_
        refine r_getf (pc := 82) F dX4_lastLighter_82 fl_4_15 i68_8 (ce_8 _ _ _) rfl ?_
        refine r_getf (pc := 85) F dX4_lastLighter_85 fl_4_70 i68_4 (ce_4 _ _ _) rfl ?_
        refine r_iload_n (pc := 88) F dX4_lastLighter_88 rfl ?_
        obtain ⟨g15, h1⟩ := gd_some h1
        refine r_iald (pc := 89) F dX4_lastLighter_89 i68_25 (ca_25 _) g15 rfl ?_
        obtain ⟨v16, ev16, h1⟩ := lt_some h1
        refine V_nm ev16 ?_
        refine r_istore_n (pc := 90) (ls' := [(0, .ref ((zg Z).1 8)), (1, .int a1), (3, .int v16), (4, .int r11), (5, .int v4), (6, .int l7)]) F dX4_lastLighter_90 (Nat.le_of_ble_eq_true rfl) rfl ?_
        obtain ⟨v17, ev17, h1⟩ := lt_some h1
        refine r_iinc (pc := 91) (ls' := [(0, .ref ((zg Z).1 8)), (1, .int a1), (3, .int v16), (4, .int r11), (5, .int v4), (6, .int v17)]) F dX4_lastLighter_91 rfl (by rw [ev17]; rfl) (Nat.le_of_ble_eq_true rfl) rfl ?_
        refine r_goto (pc := 94) (tgt := 39) F dX4_lastLighter_94 rfl ?_
        exact hP1 (v16, r11, v17, w10) (Option.some.inj h1).symm
  refine r_iload_n (pc := 97) F dX4_lastLighter_97 rfl ?_
  exact hR _ _ _ _ dX4_lastLighter_98 rfl (Option.some.inj h0)
set_option maxRecDepth 100000 in
set_option maxHeartbeats 4000000 in
theorem kX9_litBy (g : GT) (w : Wd) (a1 : Int32) (a2 : Int32) (out : Int32 × Wd) (h0 : fX9_litBy w a1 a2 = some out) : CtI g yX9_litBy cX9_litBy 3 (some .int) 4 97 [.ref (g.1 0), .int a1, .int a2] w (fun r w1 => (r, w1) = out) := by
  refine CtI_of .int (by decide) (Nat.le_of_ble_eq_true rfl) (fun Z hg F hR => ?_)
  subst hg
  have F : Fx Z RX9 cX9_litBy 3 4 97 := F
  refine V_sub (ls' := [(0, .ref ((zg Z).1 0)), (1, .int a1), (2, .int a2)]) [0, 1, 2] rfl ?_
  unfold fX9_litBy at h0
  refine r_aload_n (pc := 0) F dX9_litBy_0 rfl ?_
  refine r_getf (pc := 1) F dX9_litBy_1 fl_9_10 i68_0 (ce_0 _ _ _) rfl ?_
  refine r_iload_n (pc := 4) F dX9_litBy_4 rfl ?_
  refine r_Vi1 (pc := 5) F dX9_litBy_5 ml_9_111 (kX2_hasOne _ 1 co1 w a1 _ rfl) i68_1 (ce_1 _ _ _) (Nat.le_of_ble_eq_true rfl) (Nat.le_of_ble_eq_true rfl) (Nat.le_of_ble_eq_true rfl) ?_
  refine r_if_ne (pc := 8) (tgt := 17) F dX9_litBy_8 rfl h0 (fun h0 => ?_) (fun h0 => ?_)
  · refine r_aload_n (pc := 11) F dX9_litBy_11 rfl ?_
    refine r_iconst (pc := 12) F dX9_litBy_12 ic_m1 ?_
    obtain ⟨q3, er2, h0⟩ := bind_some h0
    replace h0 := un2_eq h0
    obtain ⟨r2, w1, rfl, h0⟩ := h0
    refine r_Vj1 (pc := 13) F dX9_litBy_13 ml_9_85 (kX9_refuse _ w (-1) (r2, w1) er2) i68_0 (ce_0 _ _ _) (Nat.le_of_ble_eq_true rfl) (Nat.le_of_ble_eq_true rfl) (Nat.le_of_ble_eq_true rfl) ?_
    exact hR _ _ _ _ dX9_litBy_16 rfl (Option.some.inj h0)
  · refine r_iload_n (pc := 17) F dX9_litBy_17 rfl ?_
    refine r_if_ge (pc := 18) (tgt := 28) F dX9_litBy_18 rfl h0 (fun h0 => ?_) (fun h0 => ?_)
    · refine r_iload_n (pc := 28) F dX9_litBy_28 rfl ?_
      refine r_bipush (pc := 29) F dX9_litBy_29 bp_24 ?_
      refine r_icmp_le (pc := 31) (tgt := 41) F dX9_litBy_31 rfl h0 (fun h0 => ?_) (fun h0 => ?_)
      · refine r_aload_n (pc := 41) F dX9_litBy_41 rfl ?_
        refine r_getf (pc := 42) F dX9_litBy_42 fl_9_52 i68_0 (ce_0 _ _ _) rfl ?_
        refine r_iload_n (pc := 45) F dX9_litBy_45 rfl ?_
        refine r_iload_n (pc := 46) F dX9_litBy_46 rfl ?_
        obtain ⟨q7, er6, h0⟩ := bind_some h0
        replace h0 := un2_eq h0
        obtain ⟨r6, w5, rfl, h0⟩ := h0
        refine r_Vj2 (pc := 47) F dX9_litBy_47 ml_9_204 (kX4_lastLighter _ w a1 a2 (r6, w5) er6) i68_8 (ce_8 _ _ _) (Nat.le_of_ble_eq_true rfl) (Nat.le_of_ble_eq_true rfl) (Nat.le_of_ble_eq_true rfl) ?_
        exact hR _ _ _ _ dX9_litBy_50 rfl (Option.some.inj h0)
      · refine r_aload_n (pc := 34) F dX9_litBy_34 rfl ?_
        refine r_bipush (pc := 35) F dX9_litBy_35 bp_m6 ?_
        obtain ⟨q11, er10, h0⟩ := bind_some h0
        replace h0 := un2_eq h0
        obtain ⟨r10, w9, rfl, h0⟩ := h0
        refine r_Vj1 (pc := 37) F dX9_litBy_37 ml_9_85 (kX9_refuse _ w (-6) (r10, w9) er10) i68_0 (ce_0 _ _ _) (Nat.le_of_ble_eq_true rfl) (Nat.le_of_ble_eq_true rfl) (Nat.le_of_ble_eq_true rfl) ?_
        exact hR _ _ _ _ dX9_litBy_40 rfl (Option.some.inj h0)
    · refine r_aload_n (pc := 21) F dX9_litBy_21 rfl ?_
      refine r_bipush (pc := 22) F dX9_litBy_22 bp_m4 ?_
      obtain ⟨q16, er15, h0⟩ := bind_some h0
      replace h0 := un2_eq h0
      obtain ⟨r15, w14, rfl, h0⟩ := h0
      refine r_Vj1 (pc := 24) F dX9_litBy_24 ml_9_85 (kX9_refuse _ w (-4) (r15, w14) er15) i68_0 (ce_0 _ _ _) (Nat.le_of_ble_eq_true rfl) (Nat.le_of_ble_eq_true rfl) (Nat.le_of_ble_eq_true rfl) ?_
      exact hR _ _ _ _ dX9_litBy_27 rfl (Option.some.inj h0)
set_option maxRecDepth 100000 in
set_option maxHeartbeats 4000000 in
theorem kX6_startFromNow (g : GT) (w : Wd) (out : Int32 × Wd) (h0 : fX6_startFromNow w = some out) : CtI g yX6_startFromNow cX6_startFromNow 1 (some .int) 4 90 [.ref (g.1 9)] w (fun r w1 => (r, w1) = out) := by
  refine CtI_of .int (by decide) (Nat.le_of_ble_eq_true rfl) (fun Z hg F hR => ?_)
  subst hg
  have F : Fx Z RX6 cX6_startFromNow 1 4 90 := F
  refine V_sub (ls' := [(0, .ref ((zg Z).1 9))]) [0] rfl ?_
  unfold fX6_startFromNow at h0
  refine r_aload_n (pc := 0) F dX6_startFromNow_0 rfl ?_
  refine r_getf (pc := 1) F dX6_startFromNow_1 fl_6_15 i68_9 (ce_9 _ _ _) rfl ?_
  refine r_aload_n (pc := 4) F dX6_startFromNow_4 rfl ?_
  refine r_getf (pc := 5) F dX6_startFromNow_5 fl_6_11 i68_9 (ce_9 _ _ _) rfl ?_
  obtain ⟨w1, ew1, h0⟩ := bind_some h0
  refine r_Vv1 (pc := 8) F dX6_startFromNow_8 ml_6_62 (kX8_setOut _ 1 co1 w w1 ew1) i68_4 (ce_4 _ _ _) (Nat.le_of_ble_eq_true rfl) (Nat.le_of_ble_eq_true rfl) (Nat.le_of_ble_eq_true rfl) ?_
  refine r_aload_n (pc := 11) F dX6_startFromNow_11 rfl ?_
  refine r_getf (pc := 12) F dX6_startFromNow_12 fl_6_15 i68_9 (ce_9 _ _ _) rfl ?_
  refine r_aload_n (pc := 15) F dX6_startFromNow_15 rfl ?_
  refine r_getf (pc := 16) F dX6_startFromNow_16 fl_6_11 i68_9 (ce_9 _ _ _) rfl ?_
  refine r_getf (pc := 19) F dX6_startFromNow_19 fl_6_66 i68_1 (ce_1 _ _ _) rfl ?_
  obtain ⟨w3, ew3, h0⟩ := bind_some h0
  refine r_Vv1 (pc := 22) F dX6_startFromNow_22 ml_6_109 (kX8_walkOn _ w1 (w1.1 1 1) w3 ew3) i68_4 (ce_4 _ _ _) (Nat.le_of_ble_eq_true rfl) (Nat.le_of_ble_eq_true rfl) (Nat.le_of_ble_eq_true rfl) ?_
  refine r_aload_n (pc := 25) F dX6_startFromNow_25 rfl ?_
  refine r_getf (pc := 26) F dX6_startFromNow_26 fl_6_15 i68_9 (ce_9 _ _ _) rfl ?_
  refine r_getf (pc := 29) F dX6_startFromNow_29 fl_6_56 i68_4 (ce_4 _ _ _) rfl ?_
  refine r_aload_n (pc := 32) F dX6_startFromNow_32 rfl ?_
  refine r_getf (pc := 33) F dX6_startFromNow_33 fl_6_15 i68_9 (ce_9 _ _ _) rfl ?_
  refine r_getf (pc := 36) F dX6_startFromNow_36 fl_6_27 i68_4 (ce_4 _ _ _) rfl ?_
  obtain ⟨g5, h0⟩ := gd_some h0
  refine r_iald (pc := 39) F dX6_startFromNow_39 i68_26 (ca_26 _) g5 rfl ?_
  refine r_Si1 (pc := 40) F dX6_startFromNow_40 ml_6_37 (kJ6_bitCount_0f7a4 _ w3 (w3.1 26 (w3.1 4 4).toNatClampNeg) _ rfl) (Nat.le_of_ble_eq_true rfl) (Nat.le_of_ble_eq_true rfl) (Nat.le_of_ble_eq_true rfl) ?_
  exact hR _ _ _ _ dX6_startFromNow_43 rfl (Option.some.inj h0)
set_option maxRecDepth 100000 in
set_option maxHeartbeats 4000000 in
theorem kX8_atDoorFrom (g : GT) (w : Wd) (a1 : Int32) (a2 : Int32) (out : Int32 × Wd) (h0 : fX8_atDoorFrom w a1 a2 = some out) : CtI g yX8_atDoorFrom cX8_atDoorFrom 5 (some .int) 2 46 [.ref (g.1 4), .int a1, .int a2] w (fun r w1 => (r, w1) = out) := by
  refine CtI_of .int (by decide) (Nat.le_of_ble_eq_true rfl) (fun Z hg F hR => ?_)
  subst hg
  have F : Fx Z RX8 cX8_atDoorFrom 5 2 46 := F
  refine V_sub (ls' := [(0, .ref ((zg Z).1 4)), (1, .int a1), (2, .int a2)]) [0, 1, 2] rfl ?_
  unfold fX8_atDoorFrom at h0
  refine r_iload_n (pc := 0) F dX8_atDoorFrom_0 rfl ?_
  refine r_istore_n (pc := 1) (ls' := [(0, .ref ((zg Z).1 4)), (1, .int a1), (2, .int a2), (3, .int a2)]) F dX8_atDoorFrom_1 (Nat.le_of_ble_eq_true rfl) rfl ?_
  refine r_iload_n (pc := 2) F dX8_atDoorFrom_2 rfl ?_
  refine r_istore (pc := 3) (ls' := [(0, .ref ((zg Z).1 4)), (1, .int a1), (2, .int a2), (3, .int a2), (4, .int a1)]) F dX8_atDoorFrom_3 (Nat.le_of_ble_eq_true rfl) rfl ?_
  refine V_sub (ls' := [(0, .ref ((zg Z).1 4)), (3, .int a2), (4, .int a1)]) [0, 3, 4] rfl ?_
  obtain ⟨x14, ix14, h0⟩ := bind_some h0
  replace h0 := un2_eq h0
  obtain ⟨l15, w16, rfl, h0⟩ := h0
  suffices E5 : V Z 45 [(3, .int l15)] [] w16 by
    refine iter_rule (P := fun s : Int32 × Int32 × Wd => V Z 5 [(0, .ref ((zg Z).1 4)), (3, .int (s.1)), (4, .int (s.2.1))] [] s.2.2) (x := (l15, w16)) ?_ FU (a2, a1, w) ix14
    intro s y1 h1 hP1 hX1
    obtain ⟨l1, l2, w3⟩ := s
    have h1 : fX8_atDoorFrom_b5 l1 l2 w3 = some y1 := h1
    unfold fX8_atDoorFrom_b5 at h1
    refine r_iload (pc := 5) F dX8_atDoorFrom_5 rfl ?_
    refine r_aload_n (pc := 7) F dX8_atDoorFrom_7 rfl ?_
    refine r_getf (pc := 8) F dX8_atDoorFrom_8 fl_8_60 i68_4 (ce_4 _ _ _) rfl ?_
    refine r_icmp_ge (pc := 11) (tgt := 45) F dX8_atDoorFrom_11 rfl h1 (fun h1 => ?_) (fun h1 => ?_)
    · refine V_sub (ls' := [(3, .int l1)]) [1] rfl ?_
      have e4 := hX1 _ (Option.some.inj h1).symm
      cases e4
      exact E5
    · refine r_iload_n (pc := 14) F dX8_atDoorFrom_14 rfl ?_
      refine r_if_eq (pc := 15) (tgt := 45) F dX8_atDoorFrom_15 rfl h1 (fun h1 => ?_) (fun h1 => ?_)
      · refine V_sub (ls' := [(3, .int l1)]) [1] rfl ?_
        have e5 := hX1 _ (Option.some.inj h1).symm
        cases e5
        exact E5
      · refine r_aload_n (pc := 18) F dX8_atDoorFrom_18 rfl ?_
        refine r_iload_n (pc := 19) F dX8_atDoorFrom_19 rfl ?_
        refine r_aload_n (pc := 20) F dX8_atDoorFrom_20 rfl ?_
        refine r_getf (pc := 21) F dX8_atDoorFrom_21 fl_8_18 i68_4 (ce_4 _ _ _) rfl ?_
        refine r_aload_n (pc := 24) F dX8_atDoorFrom_24 rfl ?_
        refine r_getf (pc := 25) F dX8_atDoorFrom_25 fl_8_48 i68_4 (ce_4 _ _ _) rfl ?_
        refine r_iload (pc := 28) F dX8_atDoorFrom_28 rfl ?_
        refine r_iadd (pc := 30) F dX8_atDoorFrom_30 ?_
        obtain ⟨g6, h1⟩ := gd_some h1
        refine r_iald (pc := 31) F dX8_atDoorFrom_31 i68_27 (ca_27 _) g6 rfl ?_
        refine r_iconst (pc := 32) F dX8_atDoorFrom_32 ic_m1 ?_
        refine r_ixor (pc := 33) F dX8_atDoorFrom_33 ?_
        refine r_iand (pc := 34) F dX8_atDoorFrom_34 ?_
        obtain ⟨q9, er8, h1⟩ := bind_some h1
        replace h1 := un2_eq h1
        obtain ⟨r8, w7, rfl, h1⟩ := h1
        refine r_Vj1 (pc := 35) F dX8_atDoorFrom_35 ml_8_85 (kX8_relight _ w3 (l1 &&& ((w3.1 27 ((w3.1 4 3) + l2).toNatClampNeg) ^^^ (-1))) (r8, w7) er8) i68_4 (ce_4 _ _ _) (Nat.le_of_ble_eq_true rfl) (Nat.le_of_ble_eq_true rfl) (Nat.le_of_ble_eq_true rfl) ?_
        refine r_istore_n (pc := 38) (ls' := [(0, .ref ((zg Z).1 4)), (3, .int r8), (4, .int l2)]) F dX8_atDoorFrom_38 (Nat.le_of_ble_eq_true rfl) rfl ?_
        obtain ⟨v11, ev11, h1⟩ := lt_some h1
        refine r_iinc (pc := 39) (ls' := [(0, .ref ((zg Z).1 4)), (3, .int r8), (4, .int v11)]) F dX8_atDoorFrom_39 rfl (by rw [ev11]; rfl) (Nat.le_of_ble_eq_true rfl) rfl ?_
        refine r_goto (pc := 42) (tgt := 5) F dX8_atDoorFrom_42 rfl ?_
        exact hP1 (r8, v11, w7) (Option.some.inj h1).symm
  refine r_iload_n (pc := 45) F dX8_atDoorFrom_45 rfl ?_
  exact hR _ _ _ _ dX8_atDoorFrom_46 rfl (Option.some.inj h0)
set_option maxRecDepth 100000 in
set_option maxHeartbeats 4000000 in
theorem kX6_withStop (g : GT) (w : Wd) (a1 : Int32) (a2 : Int32) (out : Int32 × Wd) (h0 : fX6_withStop w a1 a2 = some out) : CtI g yX6_withStop cX6_withStop 5 (some .int) 3 70 [.ref (g.1 9), .int a1, .int a2] w (fun r w1 => (r, w1) = out) := by
  refine CtI_of .int (by decide) (Nat.le_of_ble_eq_true rfl) (fun Z hg F hR => ?_)
  subst hg
  have F : Fx Z RX6 cX6_withStop 5 3 70 := F
  refine V_sub (ls' := [(0, .ref ((zg Z).1 9)), (1, .int a1), (2, .int a2)]) [0, 1, 2] rfl ?_
  unfold fX6_withStop at h0
  refine r_aload_n (pc := 0) F dX6_withStop_0 rfl ?_
  refine r_getf (pc := 1) F dX6_withStop_1 fl_6_15 i68_9 (ce_9 _ _ _) rfl ?_
  refine r_getf (pc := 4) F dX6_withStop_4 fl_6_56 i68_4 (ce_4 _ _ _) rfl ?_
  refine r_iload_n (pc := 7) F dX6_withStop_7 rfl ?_
  obtain ⟨g1, h0⟩ := gd_some h0
  refine r_iald (pc := 8) F dX6_withStop_8 i68_26 (ca_26 _) g1 rfl ?_
  obtain ⟨v2, ev2, h0⟩ := lt_some h0
  refine V_nm ev2 ?_
  refine r_istore_n (pc := 9) (ls' := [(0, .ref ((zg Z).1 9)), (1, .int a1), (2, .int a2), (3, .int v2)]) F dX6_withStop_9 (Nat.le_of_ble_eq_true rfl) rfl ?_
  refine r_iconst (pc := 10) F dX6_withStop_10 ic_0 ?_
  refine r_istore (pc := 11) (ls' := [(0, .ref ((zg Z).1 9)), (1, .int a1), (2, .int a2), (3, .int v2), (4, .int 0)]) F dX6_withStop_11 (Nat.le_of_ble_eq_true rfl) rfl ?_
  obtain ⟨x13, ix13, h0⟩ := bind_some h0
  replace h0 := un2_eq h0
  obtain ⟨l14, w15, rfl, h0⟩ := h0
  suffices E13 : V Z 43 [(0, .ref ((zg Z).1 9)), (1, .int a1), (3, .int l14)] [] w15 by
    refine iter_rule (P := fun s : Int32 × Int32 × Wd => V Z 13 [(0, .ref ((zg Z).1 9)), (1, .int a1), (2, .int a2), (3, .int (s.1)), (4, .int (s.2.1))] [] s.2.2) (x := (l14, w15)) ?_ FU (v2, 0, w) ix13
    intro s y1 h1 hP1 hX1
    obtain ⟨l3, l4, w5⟩ := s
    have h1 : fX6_withStop_b13 a2 a1 l3 l4 w5 = some y1 := h1
    unfold fX6_withStop_b13 at h1
    refine r_iload (pc := 13) F dX6_withStop_13 rfl ?_
    refine r_iload_n (pc := 15) F dX6_withStop_15 rfl ?_
    refine r_icmp_ge (pc := 16) (tgt := 43) F dX6_withStop_16 rfl h1 (fun h1 => ?_) (fun h1 => ?_)
    · refine V_sub (ls' := [(0, .ref ((zg Z).1 9)), (1, .int a1), (3, .int l3)]) [0, 1, 3] rfl ?_
      have e6 := hX1 _ (Option.some.inj h1).symm
      cases e6
      exact E13
    · refine r_aload_n (pc := 19) F dX6_withStop_19 rfl ?_
      refine r_getf (pc := 20) F dX6_withStop_20 fl_6_15 i68_9 (ce_9 _ _ _) rfl ?_
      refine r_aload_n (pc := 23) F dX6_withStop_23 rfl ?_
      refine r_getf (pc := 24) F dX6_withStop_24 fl_6_15 i68_9 (ce_9 _ _ _) rfl ?_
      refine r_getf (pc := 27) F dX6_withStop_27 fl_6_43 i68_4 (ce_4 _ _ _) rfl ?_
      refine r_iload_n (pc := 30) F dX6_withStop_30 rfl ?_
      refine r_iadd (pc := 31) F dX6_withStop_31 ?_
      refine r_iload_n (pc := 32) F dX6_withStop_32 rfl ?_
      obtain ⟨q9, er8, h1⟩ := bind_some h1
      replace h1 := un2_eq h1
      obtain ⟨r8, w7, rfl, h1⟩ := h1
      refine r_Vj2 (pc := 33) F dX6_withStop_33 ml_6_81 (kX8_minuteAt _ w5 ((w5.1 4 3) + a1) l3 (r8, w7) er8) i68_4 (ce_4 _ _ _) (Nat.le_of_ble_eq_true rfl) (Nat.le_of_ble_eq_true rfl) (Nat.le_of_ble_eq_true rfl) ?_
      refine r_istore_n (pc := 36) (ls' := [(0, .ref ((zg Z).1 9)), (1, .int a1), (2, .int a2), (3, .int r8), (4, .int l4)]) F dX6_withStop_36 (Nat.le_of_ble_eq_true rfl) rfl ?_
      obtain ⟨v11, ev11, h1⟩ := lt_some h1
      refine r_iinc (pc := 37) (ls' := [(0, .ref ((zg Z).1 9)), (1, .int a1), (2, .int a2), (3, .int r8), (4, .int v11)]) F dX6_withStop_37 rfl (by rw [ev11]; rfl) (Nat.le_of_ble_eq_true rfl) rfl ?_
      refine r_goto (pc := 40) (tgt := 13) F dX6_withStop_40 rfl ?_
      exact hP1 (r8, v11, w7) (Option.some.inj h1).symm
  refine r_aload_n (pc := 43) F dX6_withStop_43 rfl ?_
  refine r_getf (pc := 44) F dX6_withStop_44 fl_6_15 i68_9 (ce_9 _ _ _) rfl ?_
  refine r_iload_n (pc := 47) F dX6_withStop_47 rfl ?_
  refine r_iload_n (pc := 48) F dX6_withStop_48 rfl ?_
  obtain ⟨q19, er18, h0⟩ := bind_some h0
  replace h0 := un2_eq h0
  obtain ⟨r18, w17, rfl, h0⟩ := h0
  refine r_Vj2 (pc := 49) F dX6_withStop_49 ml_6_59 (kX8_atDoorFrom _ w15 a1 l14 (r18, w17) er18) i68_4 (ce_4 _ _ _) (Nat.le_of_ble_eq_true rfl) (Nat.le_of_ble_eq_true rfl) (Nat.le_of_ble_eq_true rfl) ?_
  exact hR _ _ _ _ dX6_withStop_52 rfl (Option.some.inj h0)
set_option maxRecDepth 100000 in
set_option maxHeartbeats 4000000 in
theorem kX6_bestStop (g : GT) (w : Wd) (out : Int32 × Wd) (h0 : fX6_bestStop w = some out) : CtI g yX6_bestStop cX6_bestStop 6 (some .int) 5 110 [.ref (g.1 9)] w (fun r w1 => (r, w1) = out) := by
  refine CtI_of .int (by decide) (Nat.le_of_ble_eq_true rfl) (fun Z hg F hR => ?_)
  subst hg
  have F : Fx Z RX6 cX6_bestStop 6 5 110 := F
  refine V_sub (ls' := [(0, .ref ((zg Z).1 9))]) [0] rfl ?_
  unfold fX6_bestStop at h0
  refine r_aload_n (pc := 0) F dX6_bestStop_0 rfl ?_
  obtain ⟨q3, er2, h0⟩ := bind_some h0
  replace h0 := un2_eq h0
  obtain ⟨r2, w1, rfl, h0⟩ := h0
  refine r_Vj0 (pc := 1) F dX6_bestStop_1 ml_6_23 (kX6_startFromNow _ w (r2, w1) er2) i68_9 (ce_9 _ _ _) (Nat.le_of_ble_eq_true rfl) (Nat.le_of_ble_eq_true rfl) (Nat.le_of_ble_eq_true rfl) ?_
  refine r_istore_n (pc := 4) (ls' := [(0, .ref ((zg Z).1 9)), (1, .int r2)]) F dX6_bestStop_4 (Nat.le_of_ble_eq_true rfl) rfl ?_
  refine r_bipush (pc := 5) F dX6_bestStop_5 bp_m9 ?_
  refine r_istore_n (pc := 7) (ls' := [(0, .ref ((zg Z).1 9)), (1, .int r2), (2, .int (-9))]) F dX6_bestStop_7 (Nat.le_of_ble_eq_true rfl) rfl ?_
  refine r_iconst (pc := 8) F dX6_bestStop_8 ic_1 ?_
  refine r_istore_n (pc := 9) (ls' := [(0, .ref ((zg Z).1 9)), (1, .int r2), (2, .int (-9)), (3, .int 1)]) F dX6_bestStop_9 (Nat.le_of_ble_eq_true rfl) rfl ?_
  obtain ⟨x32, ix32, h0⟩ := bind_some h0
  replace h0 := un2_eq h0
  obtain ⟨l33, w34, rfl, h0⟩ := h0
  suffices E10 : V Z 79 [(2, .int l33)] [] w34 by
    refine iter_rule (P := fun s : Int32 × Int32 × Int32 × Wd => V Z 10 [(0, .ref ((zg Z).1 9)), (1, .int (s.1)), (2, .int (s.2.1)), (3, .int (s.2.2.1))] [] s.2.2.2) (x := (l33, w34)) ?_ FU (r2, (-9), 1, w1) ix32
    intro s y1 h1 hP1 hX1
    obtain ⟨l5, l6, l7, w8⟩ := s
    have h1 : fX6_bestStop_b10 l5 l6 l7 w8 = some y1 := h1
    unfold fX6_bestStop_b10 at h1
    refine r_iload_n (pc := 10) F dX6_bestStop_10 rfl ?_
    refine r_iconst (pc := 11) F dX6_bestStop_11 ic_5 ?_
    refine r_icmp_gt (pc := 12) (tgt := 79) F dX6_bestStop_12 rfl h1 (fun h1 => ?_) (fun h1 => ?_)
    · refine V_sub (ls' := [(2, .int l6)]) [2] rfl ?_
      have e9 := hX1 _ (Option.some.inj h1).symm
      cases e9
      exact E10
    · refine r_iconst (pc := 15) F dX6_bestStop_15 ic_0 ?_
      refine r_istore (pc := 16) (ls' := [(0, .ref ((zg Z).1 9)), (1, .int l5), (2, .int l6), (3, .int l7), (4, .int 0)]) F dX6_bestStop_16 (Nat.le_of_ble_eq_true rfl) rfl ?_
      obtain ⟨x25, ix25, h1⟩ := bind_some h1
      replace h1 := un3_eq h1
      obtain ⟨l26, l27, w28, rfl, h1⟩ := h1
      suffices E18 : V Z 73 [(0, .ref ((zg Z).1 9)), (1, .int l26), (2, .int l27), (3, .int l7)] [] w28 by
        refine iter_rule (P := fun s : Int32 × Int32 × Int32 × Wd => V Z 18 [(0, .ref ((zg Z).1 9)), (1, .int (s.1)), (2, .int (s.2.1)), (3, .int l7), (4, .int (s.2.2.1))] [] s.2.2.2) (x := (l26, l27, w28)) ?_ FU (l5, l6, 0, w8) ix25
        intro s y2 h2 hP2 hX2
        obtain ⟨l10, l11, l12, w13⟩ := s
        have h2 : fX6_bestStop_b18 l7 l10 l11 l12 w13 = some y2 := h2
        unfold fX6_bestStop_b18 at h2
        refine r_iload (pc := 18) F dX6_bestStop_18 rfl ?_
        refine r_aload_n (pc := 20) F dX6_bestStop_20 rfl ?_
        refine r_getf (pc := 21) F dX6_bestStop_21 fl_6_15 i68_9 (ce_9 _ _ _) rfl ?_
        refine r_getf (pc := 24) F dX6_bestStop_24 fl_6_27 i68_4 (ce_4 _ _ _) rfl ?_
        refine r_icmp_ge (pc := 27) (tgt := 73) F dX6_bestStop_27 rfl h2 (fun h2 => ?_) (fun h2 => ?_)
        · refine V_sub (ls' := [(0, .ref ((zg Z).1 9)), (1, .int l10), (2, .int l11), (3, .int l7)]) [0, 1, 2, 3] rfl ?_
          have e14 := hX2 _ (Option.some.inj h2).symm
          cases e14
          exact E18
        · refine r_aload_n (pc := 30) F dX6_bestStop_30 rfl ?_
          refine r_iload (pc := 31) F dX6_bestStop_31 rfl ?_
          refine r_iload_n (pc := 33) F dX6_bestStop_33 rfl ?_
          obtain ⟨q17, er16, h2⟩ := bind_some h2
          replace h2 := un2_eq h2
          obtain ⟨r16, w15, rfl, h2⟩ := h2
          refine r_Vj2 (pc := 34) F dX6_bestStop_34 ml_6_33 (kX6_withStop _ w13 l12 l7 (r16, w15) er16) i68_9 (ce_9 _ _ _) (Nat.le_of_ble_eq_true rfl) (Nat.le_of_ble_eq_true rfl) (Nat.le_of_ble_eq_true rfl) ?_
          refine r_Si1 (pc := 37) F dX6_bestStop_37 ml_6_37 (kJ6_bitCount_0f7a4 _ w15 r16 _ rfl) (Nat.le_of_ble_eq_true rfl) (Nat.le_of_ble_eq_true rfl) (Nat.le_of_ble_eq_true rfl) ?_
          obtain ⟨v19, ev19, h2⟩ := lt_some h2
          refine V_nm ev19 ?_
          refine r_istore (pc := 40) (ls' := [(0, .ref ((zg Z).1 9)), (1, .int l10), (2, .int l11), (3, .int l7), (4, .int l12), (5, .int v19)]) F dX6_bestStop_40 (Nat.le_of_ble_eq_true rfl) rfl ?_
          refine r_iload (pc := 42) F dX6_bestStop_42 rfl ?_
          refine r_iload_n (pc := 44) F dX6_bestStop_44 rfl ?_
          refine r_icmp_le (pc := 45) (tgt := 67) F dX6_bestStop_45 rfl h2 (fun h2 => ?_) (fun h2 => ?_)
          · obtain ⟨v20, ev20, h2⟩ := lt_some h2
            refine r_iinc (pc := 67) (ls' := [(0, .ref ((zg Z).1 9)), (1, .int l10), (2, .int l11), (3, .int l7), (4, .int v20), (5, .int v19)]) F dX6_bestStop_67 rfl (by rw [ev20]; rfl) (Nat.le_of_ble_eq_true rfl) rfl ?_
            refine r_goto (pc := 70) (tgt := 18) F dX6_bestStop_70 rfl ?_
            refine V_sub (ls' := [(0, .ref ((zg Z).1 9)), (1, .int l10), (2, .int l11), (3, .int l7), (4, .int v20)]) [0, 1, 2, 3, 4] rfl ?_
            exact hP2 (l10, l11, v20, w15) (Option.some.inj h2).symm
          · refine r_iload (pc := 48) F dX6_bestStop_48 rfl ?_
            refine r_istore_n (pc := 50) (ls' := [(0, .ref ((zg Z).1 9)), (1, .int v19), (2, .int l11), (3, .int l7), (4, .int l12), (5, .int v19)]) F dX6_bestStop_50 (Nat.le_of_ble_eq_true rfl) rfl ?_
            refine r_bipush (pc := 51) F dX6_bestStop_51 bp_10 ?_
            refine r_aload_n (pc := 53) F dX6_bestStop_53 rfl ?_
            refine r_getf (pc := 54) F dX6_bestStop_54 fl_6_15 i68_9 (ce_9 _ _ _) rfl ?_
            refine r_getf (pc := 57) F dX6_bestStop_57 fl_6_43 i68_4 (ce_4 _ _ _) rfl ?_
            refine r_iload (pc := 60) F dX6_bestStop_60 rfl ?_
            refine r_iadd (pc := 62) F dX6_bestStop_62 ?_
            refine r_imul (pc := 63) F dX6_bestStop_63 ?_
            refine r_iload_n (pc := 64) F dX6_bestStop_64 rfl ?_
            refine r_iadd (pc := 65) F dX6_bestStop_65 ?_
            obtain ⟨v21, ev21, h2⟩ := lt_some h2
            refine V_nm ev21 ?_
            refine r_istore_n (pc := 66) (ls' := [(0, .ref ((zg Z).1 9)), (1, .int v19), (2, .int v21), (3, .int l7), (4, .int l12), (5, .int v19)]) F dX6_bestStop_66 (Nat.le_of_ble_eq_true rfl) rfl ?_
            obtain ⟨v22, ev22, h2⟩ := lt_some h2
            refine r_iinc (pc := 67) (ls' := [(0, .ref ((zg Z).1 9)), (1, .int v19), (2, .int v21), (3, .int l7), (4, .int v22), (5, .int v19)]) F dX6_bestStop_67 rfl (by rw [ev22]; rfl) (Nat.le_of_ble_eq_true rfl) rfl ?_
            refine r_goto (pc := 70) (tgt := 18) F dX6_bestStop_70 rfl ?_
            refine V_sub (ls' := [(0, .ref ((zg Z).1 9)), (1, .int v19), (2, .int v21), (3, .int l7), (4, .int v22)]) [0, 1, 2, 3, 4] rfl ?_
            exact hP2 (v19, v21, v22, w15) (Option.some.inj h2).symm
      obtain ⟨v30, ev30, h1⟩ := lt_some h1
      refine r_iinc (pc := 73) (ls' := [(0, .ref ((zg Z).1 9)), (1, .int l26), (2, .int l27), (3, .int v30)]) F dX6_bestStop_73 rfl (by rw [ev30]; rfl) (Nat.le_of_ble_eq_true rfl) rfl ?_
      refine r_goto (pc := 76) (tgt := 10) F dX6_bestStop_76 rfl ?_
      exact hP1 (l26, l27, v30, w28) (Option.some.inj h1).symm
  refine r_iload_n (pc := 79) F dX6_bestStop_79 rfl ?_
  exact hR _ _ _ _ dX6_bestStop_80 rfl (Option.some.inj h0)
set_option maxRecDepth 100000 in
set_option maxHeartbeats 4000000 in
theorem kX9_stop (g : GT) (w : Wd) (out : Int32 × Wd) (h0 : fX9_stop w = some out) : CtI g yX9_stop cX9_stop 1 (some .int) 6 135 [.ref (g.1 0)] w (fun r w1 => (r, w1) = out) := by
  refine CtI_of .int (by decide) (Nat.le_of_ble_eq_true rfl) (fun Z hg F hR => ?_)
  subst hg
  have F : Fx Z RX9 cX9_stop 1 6 135 := F
  refine V_sub (ls' := [(0, .ref ((zg Z).1 0))]) [0] rfl ?_
  unfold fX9_stop at h0
  refine r_aload_n (pc := 0) F dX9_stop_0 rfl ?_
  refine r_getf (pc := 1) F dX9_stop_1 fl_9_59 i68_0 (ce_0 _ _ _) rfl ?_
  obtain ⟨q3, er2, h0⟩ := bind_some h0
  replace h0 := un2_eq h0
  obtain ⟨r2, w1, rfl, h0⟩ := h0
  refine r_Vj0 (pc := 4) F dX9_stop_4 ml_9_207 (kX6_bestStop _ w (r2, w1) er2) i68_9 (ce_9 _ _ _) (Nat.le_of_ble_eq_true rfl) (Nat.le_of_ble_eq_true rfl) (Nat.le_of_ble_eq_true rfl) ?_
  exact hR _ _ _ _ dX9_stop_7 rfl (Option.some.inj h0)
set_option maxRecDepth 100000 in
set_option maxHeartbeats 4000000 in
theorem kX1_doorOf (g : GT) (b1 : Nat) (hb1 : isCo b1) (w : Wd) (out : Int32 × Wd) (h0 : fX1_doorOf b1 w = some out) : CtI g yX1_doorOf cX1_doorOf 2 (some .int) 3 71 [.ref (g.1 10), .ref (g.1 b1)] w (fun r w1 => (r, w1) = out) := by
  refine CtI_of .int (by decide) (Nat.le_of_ble_eq_true rfl) (fun Z hg F hR => ?_)
  subst hg
  have F : Fx Z RX1 cX1_doorOf 2 3 71 := F
  refine V_sub (ls' := [(0, .ref ((zg Z).1 10)), (1, .ref ((zg Z).1 b1))]) [0, 1] rfl ?_
  unfold fX1_doorOf at h0
  refine r_aload_n (pc := 0) F dX1_doorOf_0 rfl ?_
  refine r_getf (pc := 1) F dX1_doorOf_1 fl_1_18 i68_10 (ce_10 _ _ _) rfl ?_
  refine r_aload_n (pc := 4) F dX1_doorOf_4 rfl ?_
  obtain ⟨w1, ew1, h0⟩ := bind_some h0
  refine r_Vv1 (pc := 5) F dX1_doorOf_5 ml_1_132 (kX8_setOut _ b1 hb1 w w1 ew1) i68_4 (ce_4 _ _ _) (Nat.le_of_ble_eq_true rfl) (Nat.le_of_ble_eq_true rfl) (Nat.le_of_ble_eq_true rfl) ?_
  refine r_aload_n (pc := 8) F dX1_doorOf_8 rfl ?_
  refine r_getf (pc := 9) F dX1_doorOf_9 fl_1_18 i68_10 (ce_10 _ _ _) rfl ?_
  refine r_iconst (pc := 12) F dX1_doorOf_12 ic_0 ?_
  refine r_aload_n (pc := 13) F dX1_doorOf_13 rfl ?_
  refine r_getf (pc := 14) F dX1_doorOf_14 fl_1_96 (lt_Co hb1) (ce_Co hb1 _ _ _) rfl ?_
  obtain ⟨q5, er4, h0⟩ := bind_some h0
  replace h0 := un2_eq h0
  obtain ⟨r4, w3, rfl, h0⟩ := h0
  refine r_Vj2 (pc := 17) F dX1_doorOf_17 ml_1_156 (kX8_atDoorFrom _ w1 0 (w1.1 b1 1) (r4, w3) er4) i68_4 (ce_4 _ _ _) (Nat.le_of_ble_eq_true rfl) (Nat.le_of_ble_eq_true rfl) (Nat.le_of_ble_eq_true rfl) ?_
  exact hR _ _ _ _ dX1_doorOf_20 rfl (Option.some.inj h0)
set_option maxRecDepth 100000 in
set_option maxHeartbeats 4000000 in
theorem kX1_startSearch (g : GT) (w : Wd) (a1 : Int32) (out : Wd) (h0 : fX1_startSearch w a1 = out) : CtV g yX1_startSearch cX1_startSearch 2 none 0 0 [.ref (g.1 10), .int a1] w (fun w1 => w1 = out) := by
  refine CtV_of (by decide) (Nat.le_of_ble_eq_true rfl) (fun Z hg F hR => ?_)
  subst hg
  have F : Fx Z RX1 cX1_startSearch 2 0 0 := F
  refine V_sub (ls' := [(0, .ref ((zg Z).1 10)), (1, .int a1)]) [0, 1] rfl ?_
  unfold fX1_startSearch at h0
  refine r_aload_n (pc := 0) F dX1_startSearch_0 rfl ?_
  refine r_bipush (pc := 1) F dX1_startSearch_1 bp_m9 ?_
  obtain ⟨w1, ew1, h0⟩ := lt_some h0
  refine r_putI (pc := 3) F dX1_startSearch_3 fl_1_58 fp_1_0 i68_10 (ce_10 _) (Nat.le_of_ble_eq_true rfl) rfl rfl rfl ew1 ?_
  refine r_aload_n (pc := 6) F dX1_startSearch_6 rfl ?_
  refine r_iload_n (pc := 7) F dX1_startSearch_7 rfl ?_
  obtain ⟨w3, ew3, h0⟩ := lt_some h0
  refine r_putI (pc := 8) F dX1_startSearch_8 fl_1_159 fp_1_1 i68_10 (ce_10 _) (Nat.le_of_ble_eq_true rfl) rfl rfl rfl ew3 ?_
  exact hR _ _ _ dX1_startSearch_11 h0
set_option maxRecDepth 100000 in
set_option maxHeartbeats 4000000 in
theorem kX1_consider (g : GT) (w : Wd) (a1 : Int32) (a2 : Int32) (out : Wd) (h0 : fX1_consider w a1 a2 = out) : CtV g yX1_consider cX1_consider 3 none 0 0 [.ref (g.1 10), .int a1, .int a2] w (fun w1 => w1 = out) := by
  refine CtV_of (by decide) (Nat.le_of_ble_eq_true rfl) (fun Z hg F hR => ?_)
  subst hg
  have F : Fx Z RX1 cX1_consider 3 0 0 := F
  refine V_sub (ls' := [(0, .ref ((zg Z).1 10)), (1, .int a1), (2, .int a2)]) [0, 1, 2] rfl ?_
  unfold fX1_consider at h0
  refine r_iload_n (pc := 0) F dX1_consider_0 rfl ?_
  refine r_aload_n (pc := 1) F dX1_consider_1 rfl ?_
  refine r_getf (pc := 2) F dX1_consider_2 fl_1_159 i68_10 (ce_10 _ _ _) rfl ?_
  refine r_icmp_le (pc := 5) (tgt := 18) F dX1_consider_5 rfl h0 (fun h0 => ?_) (fun h0 => ?_)
  · exact hR _ _ _ dX1_consider_18 h0
  · refine r_aload_n (pc := 8) F dX1_consider_8 rfl ?_
    refine r_iload_n (pc := 9) F dX1_consider_9 rfl ?_
    obtain ⟨w1, ew1, h0⟩ := lt_some h0
    refine r_putI (pc := 10) F dX1_consider_10 fl_1_159 fp_1_1 i68_10 (ce_10 _) (Nat.le_of_ble_eq_true rfl) rfl rfl rfl ew1 ?_
    refine r_aload_n (pc := 13) F dX1_consider_13 rfl ?_
    refine r_iload_n (pc := 14) F dX1_consider_14 rfl ?_
    obtain ⟨w3, ew3, h0⟩ := lt_some h0
    refine r_putI (pc := 15) F dX1_consider_15 fl_1_58 fp_1_0 i68_10 (ce_10 _) (Nat.le_of_ble_eq_true rfl) rfl rfl rfl ew3 ?_
    exact hR _ _ _ dX1_consider_18 h0
set_option maxRecDepth 100000 in
set_option maxHeartbeats 4000000 in
theorem kX1_lowered (g : GT) (w : Wd) (out : Int32 × Wd) (h0 : fX1_lowered w = some out) : CtI g yX1_lowered cX1_lowered 2 (some .int) 4 92 [.ref (g.1 10)] w (fun r w1 => (r, w1) = out) := by
  refine CtI_of .int (by decide) (Nat.le_of_ble_eq_true rfl) (fun Z hg F hR => ?_)
  subst hg
  have F : Fx Z RX1 cX1_lowered 2 4 92 := F
  refine V_sub (ls' := [(0, .ref ((zg Z).1 10))]) [0] rfl ?_
  unfold fX1_lowered at h0
  refine r_aload_n (pc := 0) F dX1_lowered_0 rfl ?_
  refine r_aload_n (pc := 1) F dX1_lowered_1 rfl ?_
  refine r_getf (pc := 2) F dX1_lowered_2 fl_1_9 i68_10 (ce_10 _ _ _) rfl ?_
  refine r_aload_n (pc := 5) F dX1_lowered_5 rfl ?_
  refine r_aload_n (pc := 6) F dX1_lowered_6 rfl ?_
  refine r_getf (pc := 7) F dX1_lowered_7 fl_1_9 i68_10 (ce_10 _ _ _) rfl ?_
  obtain ⟨q3, er2, h0⟩ := bind_some h0
  replace h0 := un2_eq h0
  obtain ⟨r2, w1, rfl, h0⟩ := h0
  refine r_Vj1 (pc := 10) F dX1_lowered_10 ml_1_29 (kX1_doorOf _ 1 co1 w (r2, w1) er2) i68_10 (ce_10 _ _ _) (Nat.le_of_ble_eq_true rfl) (Nat.le_of_ble_eq_true rfl) (Nat.le_of_ble_eq_true rfl) ?_
  obtain ⟨r5, er5, h0⟩ := bind_some h0
  refine r_Vi1 (pc := 13) F dX1_lowered_13 ml_1_33 (kX2_lightOf _ 1 co1 w1 r2 r5 er5) i68_1 (ce_1 _ _ _) (Nat.le_of_ble_eq_true rfl) (Nat.le_of_ble_eq_true rfl) (Nat.le_of_ble_eq_true rfl) ?_
  obtain ⟨w6, ew6, h0⟩ := lt_some h0
  refine r_Vv1 (pc := 16) F dX1_lowered_16 ml_1_39 (kX1_startSearch _ w1 r5 w6 ew6.symm) i68_10 (ce_10 _ _ _) (Nat.le_of_ble_eq_true rfl) (Nat.le_of_ble_eq_true rfl) (Nat.le_of_ble_eq_true rfl) ?_
  refine r_iconst (pc := 19) F dX1_lowered_19 ic_0 ?_
  refine r_istore_n (pc := 20) (ls' := [(0, .ref ((zg Z).1 10)), (1, .int 0)]) F dX1_lowered_20 (Nat.le_of_ble_eq_true rfl) rfl ?_
  obtain ⟨w25, iw25, h0⟩ := bind_some h0
  suffices E21 : V Z 78 [(0, .ref ((zg Z).1 10))] [] w25 by
    refine iter_rule (P := fun s : Int32 × Wd => V Z 21 [(0, .ref ((zg Z).1 10)), (1, .int (s.1))] [] s.2) (x := w25) ?_ FU (0, w6) iw25
    intro s y1 h1 hP1 hX1
    obtain ⟨l8, w9⟩ := s
    have h1 : fX1_lowered_b21 l8 w9 = some y1 := h1
    unfold fX1_lowered_b21 at h1
    refine r_iload_n (pc := 21) F dX1_lowered_21 rfl ?_
    refine r_aload_n (pc := 22) F dX1_lowered_22 rfl ?_
    refine r_getf (pc := 23) F dX1_lowered_23 fl_1_9 i68_10 (ce_10 _ _ _) rfl ?_
    refine r_getf (pc := 26) F dX1_lowered_26 fl_1_43 i68_1 (ce_1 _ _ _) rfl ?_
    refine r_icmp_ge (pc := 29) (tgt := 78) F dX1_lowered_29 rfl h1 (fun h1 => ?_) (fun h1 => ?_)
    · refine V_sub (ls' := [(0, .ref ((zg Z).1 10))]) [0] rfl ?_
      have e10 := hX1 _ (Option.some.inj h1).symm
      cases e10
      exact E21
    · refine r_aload_n (pc := 32) F dX1_lowered_32 rfl ?_
      refine r_getf (pc := 33) F dX1_lowered_33 fl_1_15 i68_10 (ce_10 _ _ _) rfl ?_
      refine r_aload_n (pc := 36) F dX1_lowered_36 rfl ?_
      refine r_getf (pc := 37) F dX1_lowered_37 fl_1_9 i68_10 (ce_10 _ _ _) rfl ?_
      obtain ⟨w11, ew11, h1⟩ := lt_some h1
      refine r_Vv1 (pc := 40) F dX1_lowered_40 ml_1_47 (kX2_takeFrom _ 3 co3 1 co1 w9 w11 ew11.symm) i68_3 (ce_3 _ _ _) (Nat.le_of_ble_eq_true rfl) (Nat.le_of_ble_eq_true rfl) (Nat.le_of_ble_eq_true rfl) ?_
      refine r_aload_n (pc := 43) F dX1_lowered_43 rfl ?_
      refine r_getf (pc := 44) F dX1_lowered_44 fl_1_15 i68_10 (ce_10 _ _ _) rfl ?_
      refine r_iload_n (pc := 47) F dX1_lowered_47 rfl ?_
      refine r_iconst (pc := 48) F dX1_lowered_48 ic_2 ?_
      obtain ⟨w13, ew13, h1⟩ := bind_some h1
      refine r_Vv2 (pc := 49) F dX1_lowered_49 ml_1_51 (kX2_become _ 3 co3 w11 l8 2 w13 ew13) i68_3 (ce_3 _ _ _) (Nat.le_of_ble_eq_true rfl) (Nat.le_of_ble_eq_true rfl) (Nat.le_of_ble_eq_true rfl) ?_
      refine r_aload_n (pc := 52) F dX1_lowered_52 rfl ?_
      refine r_iload_n (pc := 53) F dX1_lowered_53 rfl ?_
      refine r_aload_n (pc := 54) F dX1_lowered_54 rfl ?_
      refine r_getf (pc := 55) F dX1_lowered_55 fl_1_15 i68_10 (ce_10 _ _ _) rfl ?_
      refine r_aload_n (pc := 58) F dX1_lowered_58 rfl ?_
      refine r_aload_n (pc := 59) F dX1_lowered_59 rfl ?_
      refine r_getf (pc := 60) F dX1_lowered_60 fl_1_15 i68_10 (ce_10 _ _ _) rfl ?_
      obtain ⟨q17, er16, h1⟩ := bind_some h1
      replace h1 := un2_eq h1
      obtain ⟨r16, w15, rfl, h1⟩ := h1
      refine r_Vj1 (pc := 63) F dX1_lowered_63 ml_1_29 (kX1_doorOf _ 3 co3 w13 (r16, w15) er16) i68_10 (ce_10 _ _ _) (Nat.le_of_ble_eq_true rfl) (Nat.le_of_ble_eq_true rfl) (Nat.le_of_ble_eq_true rfl) ?_
      obtain ⟨r19, er19, h1⟩ := bind_some h1
      refine r_Vi1 (pc := 66) F dX1_lowered_66 ml_1_33 (kX2_lightOf _ 3 co3 w15 r16 r19 er19) i68_3 (ce_3 _ _ _) (Nat.le_of_ble_eq_true rfl) (Nat.le_of_ble_eq_true rfl) (Nat.le_of_ble_eq_true rfl) ?_
      obtain ⟨w20, ew20, h1⟩ := lt_some h1
      refine r_Vv2 (pc := 69) F dX1_lowered_69 ml_1_55 (kX1_consider _ w15 l8 r19 w20 ew20.symm) i68_10 (ce_10 _ _ _) (Nat.le_of_ble_eq_true rfl) (Nat.le_of_ble_eq_true rfl) (Nat.le_of_ble_eq_true rfl) ?_
      obtain ⟨v22, ev22, h1⟩ := lt_some h1
      refine r_iinc (pc := 72) (ls' := [(0, .ref ((zg Z).1 10)), (1, .int v22)]) F dX1_lowered_72 rfl (by rw [ev22]; rfl) (Nat.le_of_ble_eq_true rfl) rfl ?_
      refine r_goto (pc := 75) (tgt := 21) F dX1_lowered_75 rfl ?_
      exact hP1 (v22, w20) (Option.some.inj h1).symm
  refine r_aload_n (pc := 78) F dX1_lowered_78 rfl ?_
  refine r_getf (pc := 79) F dX1_lowered_79 fl_1_58 i68_10 (ce_10 _ _ _) rfl ?_
  exact hR _ _ _ _ dX1_lowered_82 rfl (Option.some.inj h0)
set_option maxRecDepth 100000 in
set_option maxHeartbeats 4000000 in
theorem kX9_lower (g : GT) (w : Wd) (out : Int32 × Wd) (h0 : fX9_lower w = some out) : CtI g yX9_lower cX9_lower 1 (some .int) 5 113 [.ref (g.1 0)] w (fun r w1 => (r, w1) = out) := by
  refine CtI_of .int (by decide) (Nat.le_of_ble_eq_true rfl) (fun Z hg F hR => ?_)
  subst hg
  have F : Fx Z RX9 cX9_lower 1 5 113 := F
  refine V_sub (ls' := [(0, .ref ((zg Z).1 0))]) [0] rfl ?_
  unfold fX9_lower at h0
  refine r_aload_n (pc := 0) F dX9_lower_0 rfl ?_
  refine r_getf (pc := 1) F dX9_lower_1 fl_9_68 i68_0 (ce_0 _ _ _) rfl ?_
  obtain ⟨q3, er2, h0⟩ := bind_some h0
  replace h0 := un2_eq h0
  obtain ⟨r2, w1, rfl, h0⟩ := h0
  refine r_Vj0 (pc := 4) F dX9_lower_4 ml_9_210 (kX1_lowered _ w (r2, w1) er2) i68_10 (ce_10 _ _ _) (Nat.le_of_ble_eq_true rfl) (Nat.le_of_ble_eq_true rfl) (Nat.le_of_ble_eq_true rfl) ?_
  exact hR _ _ _ _ dX9_lower_7 rfl (Option.some.inj h0)
set_option maxRecDepth 100000 in
set_option maxHeartbeats 4000000 in
theorem kX1_countOf (g : GT) (b1 : Nat) (hb1 : isCo b1) (w : Wd) (out : Int32 × Wd) (h0 : fX1_countOf b1 w = some out) : CtI g yX1_countOf cX1_countOf 2 (some .int) 3 71 [.ref (g.1 10), .ref (g.1 b1)] w (fun r w1 => (r, w1) = out) := by
  refine CtI_of .int (by decide) (Nat.le_of_ble_eq_true rfl) (fun Z hg F hR => ?_)
  subst hg
  have F : Fx Z RX1 cX1_countOf 2 3 71 := F
  refine V_sub (ls' := [(0, .ref ((zg Z).1 10)), (1, .ref ((zg Z).1 b1))]) [0, 1] rfl ?_
  unfold fX1_countOf at h0
  refine r_aload_n (pc := 0) F dX1_countOf_0 rfl ?_
  refine r_getf (pc := 1) F dX1_countOf_1 fl_1_18 i68_10 (ce_10 _ _ _) rfl ?_
  refine r_aload_n (pc := 4) F dX1_countOf_4 rfl ?_
  obtain ⟨w1, ew1, h0⟩ := bind_some h0
  refine r_Vv1 (pc := 5) F dX1_countOf_5 ml_1_132 (kX8_setOut _ b1 hb1 w w1 ew1) i68_4 (ce_4 _ _ _) (Nat.le_of_ble_eq_true rfl) (Nat.le_of_ble_eq_true rfl) (Nat.le_of_ble_eq_true rfl) ?_
  refine r_aload_n (pc := 8) F dX1_countOf_8 rfl ?_
  refine r_getf (pc := 9) F dX1_countOf_9 fl_1_18 i68_10 (ce_10 _ _ _) rfl ?_
  refine r_iconst (pc := 12) F dX1_countOf_12 ic_0 ?_
  refine r_aload_n (pc := 13) F dX1_countOf_13 rfl ?_
  refine r_getf (pc := 14) F dX1_countOf_14 fl_1_96 (lt_Co hb1) (ce_Co hb1 _ _ _) rfl ?_
  obtain ⟨q5, er4, h0⟩ := bind_some h0
  replace h0 := un2_eq h0
  obtain ⟨r4, w3, rfl, h0⟩ := h0
  refine r_Vj2 (pc := 17) F dX1_countOf_17 ml_1_156 (kX8_atDoorFrom _ w1 0 (w1.1 b1 1) (r4, w3) er4) i68_4 (ce_4 _ _ _) (Nat.le_of_ble_eq_true rfl) (Nat.le_of_ble_eq_true rfl) (Nat.le_of_ble_eq_true rfl) ?_
  refine r_Si1 (pc := 20) F dX1_countOf_20 ml_1_87 (kJ6_bitCount_0f7a4 _ w3 r4 _ rfl) (Nat.le_of_ble_eq_true rfl) (Nat.le_of_ble_eq_true rfl) (Nat.le_of_ble_eq_true rfl) ?_
  exact hR _ _ _ _ dX1_countOf_23 rfl (Option.some.inj h0)
set_option maxRecDepth 100000 in
set_option maxHeartbeats 4000000 in
theorem kX2_copyOne (g : GT) (b : Nat) (hb : isCo b) (b2 : Nat) (hb2 : isCo b2) (w : Wd) (a1 : Int32) (a3 : Int32) (out : Wd) (h0 : fX2_copyOne b b2 w a1 a3 = some out) : CtV g yX2_copyOne cX2_copyOne 4 none 2 42 [.ref (g.1 b), .int a1, .ref (g.1 b2), .int a3] w (fun w1 => w1 = out) := by
  refine CtV_of (by decide) (Nat.le_of_ble_eq_true rfl) (fun Z hg F hR => ?_)
  subst hg
  have F : Fx Z RX2 cX2_copyOne 4 2 42 := F
  refine V_sub (ls' := [(0, .ref ((zg Z).1 b)), (1, .int a1), (2, .ref ((zg Z).1 b2)), (3, .int a3)]) [0, 1, 2, 3] rfl ?_
  unfold fX2_copyOne at h0
  refine r_aload_n (pc := 0) F dX2_copyOne_0 rfl ?_
  refine r_iload_n (pc := 1) F dX2_copyOne_1 rfl ?_
  refine r_Vi1 (pc := 2) F dX2_copyOne_2 ml_2_60 (kX2_hasOne _ b hb w a1 _ rfl) (lt_Co hb) (ce_Co hb _ _ _) (Nat.le_of_ble_eq_true rfl) (Nat.le_of_ble_eq_true rfl) (Nat.le_of_ble_eq_true rfl) ?_
  refine r_if_eq (pc := 5) (tgt := 50) F dX2_copyOne_5 rfl h0 (fun h0 => ?_) (fun h0 => ?_)
  · exact hR _ _ _ dX2_copyOne_50 (Option.some.inj h0)
  · refine r_aload_n (pc := 8) F dX2_copyOne_8 rfl ?_
    refine r_iload_n (pc := 9) F dX2_copyOne_9 rfl ?_
    refine r_Vi1 (pc := 10) F dX2_copyOne_10 ml_2_60 (kX2_hasOne _ b2 hb2 w a3 _ rfl) (lt_Co hb2) (ce_Co hb2 _ _ _) (Nat.le_of_ble_eq_true rfl) (Nat.le_of_ble_eq_true rfl) (Nat.le_of_ble_eq_true rfl) ?_
    refine r_if_eq (pc := 13) (tgt := 50) F dX2_copyOne_13 rfl h0 (fun h0 => ?_) (fun h0 => ?_)
    · exact hR _ _ _ dX2_copyOne_50 (Option.some.inj h0)
    · refine r_aload_n (pc := 16) F dX2_copyOne_16 rfl ?_
      refine r_getf (pc := 17) F dX2_copyOne_17 fl_2_18 (lt_Co hb) (ce_Co hb _ _ _) rfl ?_
      refine r_iload_n (pc := 20) F dX2_copyOne_20 rfl ?_
      refine r_aload_n (pc := 21) F dX2_copyOne_21 rfl ?_
      refine r_getf (pc := 22) F dX2_copyOne_22 fl_2_18 (lt_Co hb2) (ce_Co hb2 _ _ _) rfl ?_
      refine r_iload_n (pc := 25) F dX2_copyOne_25 rfl ?_
      obtain ⟨g1, h0⟩ := gd_some h0
      refine r_iald (pc := 26) F dX2_copyOne_26 (lt_Co9 hb2) (ca_Co9 hb2 _) g1 rfl ?_
      obtain ⟨g3, h0⟩ := gd_some h0
      obtain ⟨w2, ew2, h0⟩ := lt_some h0
      refine r_iast (pc := 27) F dX2_copyOne_27 (lt_Co9 hb) (ca_Co9 hb _) g3 rfl ew2 ?_
      refine r_aload_n (pc := 28) F dX2_copyOne_28 rfl ?_
      refine r_getf (pc := 29) F dX2_copyOne_29 fl_2_22 (lt_Co hb) (ce_Co hb _ _ _) rfl ?_
      refine r_iload_n (pc := 32) F dX2_copyOne_32 rfl ?_
      refine r_aload_n (pc := 33) F dX2_copyOne_33 rfl ?_
      refine r_getf (pc := 34) F dX2_copyOne_34 fl_2_22 (lt_Co hb2) (ce_Co hb2 _ _ _) rfl ?_
      refine r_iload_n (pc := 37) F dX2_copyOne_37 rfl ?_
      refine r_iald (pc := 38) F dX2_copyOne_38 (lt_Co10 hb2) (ca_Co10 hb2 _) g1 rfl ?_
      obtain ⟨w5, ew5, h0⟩ := lt_some h0
      refine r_iast (pc := 39) F dX2_copyOne_39 (lt_Co10 hb) (ca_Co10 hb _) g3 rfl ew5 ?_
      refine r_aload_n (pc := 40) F dX2_copyOne_40 rfl ?_
      refine r_iload_n (pc := 41) F dX2_copyOne_41 rfl ?_
      refine r_aload_n (pc := 42) F dX2_copyOne_42 rfl ?_
      refine r_iload_n (pc := 43) F dX2_copyOne_43 rfl ?_
      obtain ⟨r7, er7, h0⟩ := bind_some h0
      refine r_Vi1 (pc := 44) F dX2_copyOne_44 ml_2_64 (kX2_isLit _ b2 hb2 w5 a3 r7 er7) (lt_Co hb2) (ce_Co hb2 _ _ _) (Nat.le_of_ble_eq_true rfl) (Nat.le_of_ble_eq_true rfl) (Nat.le_of_ble_eq_true rfl) ?_
      obtain ⟨w8, ew8, h0⟩ := lt_some h0
      refine r_Vv2 (pc := 47) F dX2_copyOne_47 ml_2_52 (kX2_putLit _ b hb w5 a1 r7 w8 ew8.symm) (lt_Co hb) (ce_Co hb _ _ _) (Nat.le_of_ble_eq_true rfl) (Nat.le_of_ble_eq_true rfl) (Nat.le_of_ble_eq_true rfl) ?_
      exact hR _ _ _ dX2_copyOne_50 (Option.some.inj h0)
set_option maxRecDepth 100000 in
set_option maxHeartbeats 4000000 in
theorem kX1_exchanged (g : GT) (w : Wd) (out : Int32 × Wd) (h0 : fX1_exchanged w = some out) : CtI g yX1_exchanged cX1_exchanged 3 (some .int) 4 92 [.ref (g.1 10)] w (fun r w1 => (r, w1) = out) := by
  refine CtI_of .int (by decide) (Nat.le_of_ble_eq_true rfl) (fun Z hg F hR => ?_)
  subst hg
  have F : Fx Z RX1 cX1_exchanged 3 4 92 := F
  refine V_sub (ls' := [(0, .ref ((zg Z).1 10))]) [0] rfl ?_
  unfold fX1_exchanged at h0
  refine r_aload_n (pc := 0) F dX1_exchanged_0 rfl ?_
  refine r_aload_n (pc := 1) F dX1_exchanged_1 rfl ?_
  refine r_aload_n (pc := 2) F dX1_exchanged_2 rfl ?_
  refine r_getf (pc := 3) F dX1_exchanged_3 fl_1_9 i68_10 (ce_10 _ _ _) rfl ?_
  obtain ⟨q3, er2, h0⟩ := bind_some h0
  replace h0 := un2_eq h0
  obtain ⟨r2, w1, rfl, h0⟩ := h0
  refine r_Vj1 (pc := 6) F dX1_exchanged_6 ml_1_61 (kX1_countOf _ 1 co1 w (r2, w1) er2) i68_10 (ce_10 _ _ _) (Nat.le_of_ble_eq_true rfl) (Nat.le_of_ble_eq_true rfl) (Nat.le_of_ble_eq_true rfl) ?_
  obtain ⟨w5, ew5, h0⟩ := lt_some h0
  refine r_Vv1 (pc := 9) F dX1_exchanged_9 ml_1_39 (kX1_startSearch _ w1 r2 w5 ew5.symm) i68_10 (ce_10 _ _ _) (Nat.le_of_ble_eq_true rfl) (Nat.le_of_ble_eq_true rfl) (Nat.le_of_ble_eq_true rfl) ?_
  refine r_iconst (pc := 12) F dX1_exchanged_12 ic_0 ?_
  refine r_istore_n (pc := 13) (ls' := [(0, .ref ((zg Z).1 10)), (1, .int 0)]) F dX1_exchanged_13 (Nat.le_of_ble_eq_true rfl) rfl ?_
  obtain ⟨w34, iw34, h0⟩ := bind_some h0
  suffices E14 : V Z 107 [(0, .ref ((zg Z).1 10))] [] w34 by
    refine iter_rule (P := fun s : Int32 × Wd => V Z 14 [(0, .ref ((zg Z).1 10)), (1, .int (s.1))] [] s.2) (x := w34) ?_ FU (0, w5) iw34
    intro s y1 h1 hP1 hX1
    obtain ⟨l7, w8⟩ := s
    have h1 : fX1_exchanged_b14 l7 w8 = some y1 := h1
    unfold fX1_exchanged_b14 at h1
    refine r_iload_n (pc := 14) F dX1_exchanged_14 rfl ?_
    refine r_aload_n (pc := 15) F dX1_exchanged_15 rfl ?_
    refine r_getf (pc := 16) F dX1_exchanged_16 fl_1_9 i68_10 (ce_10 _ _ _) rfl ?_
    refine r_getf (pc := 19) F dX1_exchanged_19 fl_1_43 i68_1 (ce_1 _ _ _) rfl ?_
    refine r_icmp_ge (pc := 22) (tgt := 107) F dX1_exchanged_22 rfl h1 (fun h1 => ?_) (fun h1 => ?_)
    · refine V_sub (ls' := [(0, .ref ((zg Z).1 10))]) [0] rfl ?_
      have e9 := hX1 _ (Option.some.inj h1).symm
      cases e9
      exact E14
    · refine r_iload_n (pc := 25) F dX1_exchanged_25 rfl ?_
      refine r_iconst (pc := 26) F dX1_exchanged_26 ic_1 ?_
      refine r_iadd (pc := 27) F dX1_exchanged_27 ?_
      obtain ⟨v10, ev10, h1⟩ := lt_some h1
      refine V_nm ev10 ?_
      refine r_istore_n (pc := 28) (ls' := [(0, .ref ((zg Z).1 10)), (1, .int l7), (2, .int v10)]) F dX1_exchanged_28 (Nat.le_of_ble_eq_true rfl) rfl ?_
      obtain ⟨w29, iw29, h1⟩ := bind_some h1
      suffices E29 : V Z 101 [(0, .ref ((zg Z).1 10)), (1, .int l7)] [] w29 by
        refine iter_rule (P := fun s : Int32 × Wd => V Z 29 [(0, .ref ((zg Z).1 10)), (1, .int l7), (2, .int (s.1))] [] s.2) (x := w29) ?_ FU (v10, w8) iw29
        intro s y2 h2 hP2 hX2
        obtain ⟨l11, w12⟩ := s
        have h2 : fX1_exchanged_b29 l7 l11 w12 = some y2 := h2
        unfold fX1_exchanged_b29 at h2
        refine r_iload_n (pc := 29) F dX1_exchanged_29 rfl ?_
        refine r_aload_n (pc := 30) F dX1_exchanged_30 rfl ?_
        refine r_getf (pc := 31) F dX1_exchanged_31 fl_1_9 i68_10 (ce_10 _ _ _) rfl ?_
        refine r_getf (pc := 34) F dX1_exchanged_34 fl_1_43 i68_1 (ce_1 _ _ _) rfl ?_
        refine r_icmp_ge (pc := 37) (tgt := 101) F dX1_exchanged_37 rfl h2 (fun h2 => ?_) (fun h2 => ?_)
        · refine V_sub (ls' := [(0, .ref ((zg Z).1 10)), (1, .int l7)]) [0, 1] rfl ?_
          have e13 := hX2 _ (Option.some.inj h2).symm
          cases e13
          exact E29
        · refine r_aload_n (pc := 40) F dX1_exchanged_40 rfl ?_
          refine r_getf (pc := 41) F dX1_exchanged_41 fl_1_15 i68_10 (ce_10 _ _ _) rfl ?_
          refine r_aload_n (pc := 44) F dX1_exchanged_44 rfl ?_
          refine r_getf (pc := 45) F dX1_exchanged_45 fl_1_9 i68_10 (ce_10 _ _ _) rfl ?_
          obtain ⟨w14, ew14, h2⟩ := lt_some h2
          refine r_Vv1 (pc := 48) F dX1_exchanged_48 ml_1_47 (kX2_takeFrom _ 3 co3 1 co1 w12 w14 ew14.symm) i68_3 (ce_3 _ _ _) (Nat.le_of_ble_eq_true rfl) (Nat.le_of_ble_eq_true rfl) (Nat.le_of_ble_eq_true rfl) ?_
          refine r_aload_n (pc := 51) F dX1_exchanged_51 rfl ?_
          refine r_getf (pc := 52) F dX1_exchanged_52 fl_1_15 i68_10 (ce_10 _ _ _) rfl ?_
          refine r_iload_n (pc := 55) F dX1_exchanged_55 rfl ?_
          refine r_aload_n (pc := 56) F dX1_exchanged_56 rfl ?_
          refine r_getf (pc := 57) F dX1_exchanged_57 fl_1_9 i68_10 (ce_10 _ _ _) rfl ?_
          refine r_iload_n (pc := 60) F dX1_exchanged_60 rfl ?_
          obtain ⟨w16, ew16, h2⟩ := bind_some h2
          refine r_Vv3 (pc := 61) F dX1_exchanged_61 ml_1_64 (kX2_copyOne _ 3 co3 1 co1 w14 l7 l11 w16 ew16) i68_3 (ce_3 _ _ _) (Nat.le_of_ble_eq_true rfl) (Nat.le_of_ble_eq_true rfl) (Nat.le_of_ble_eq_true rfl) ?_
          refine r_aload_n (pc := 64) F dX1_exchanged_64 rfl ?_
          refine r_getf (pc := 65) F dX1_exchanged_65 fl_1_15 i68_10 (ce_10 _ _ _) rfl ?_
          refine r_iload_n (pc := 68) F dX1_exchanged_68 rfl ?_
          refine r_aload_n (pc := 69) F dX1_exchanged_69 rfl ?_
          refine r_getf (pc := 70) F dX1_exchanged_70 fl_1_9 i68_10 (ce_10 _ _ _) rfl ?_
          refine r_iload_n (pc := 73) F dX1_exchanged_73 rfl ?_
          obtain ⟨w18, ew18, h2⟩ := bind_some h2
          refine r_Vv3 (pc := 74) F dX1_exchanged_74 ml_1_64 (kX2_copyOne _ 3 co3 1 co1 w16 l11 l7 w18 ew18) i68_3 (ce_3 _ _ _) (Nat.le_of_ble_eq_true rfl) (Nat.le_of_ble_eq_true rfl) (Nat.le_of_ble_eq_true rfl) ?_
          refine r_aload_n (pc := 77) F dX1_exchanged_77 rfl ?_
          refine r_bipush (pc := 78) F dX1_exchanged_78 bp_10 ?_
          refine r_iload_n (pc := 80) F dX1_exchanged_80 rfl ?_
          refine r_imul (pc := 81) F dX1_exchanged_81 ?_
          refine r_iload_n (pc := 82) F dX1_exchanged_82 rfl ?_
          refine r_iadd (pc := 83) F dX1_exchanged_83 ?_
          refine r_aload_n (pc := 84) F dX1_exchanged_84 rfl ?_
          refine r_aload_n (pc := 85) F dX1_exchanged_85 rfl ?_
          refine r_getf (pc := 86) F dX1_exchanged_86 fl_1_15 i68_10 (ce_10 _ _ _) rfl ?_
          obtain ⟨q22, er21, h2⟩ := bind_some h2
          replace h2 := un2_eq h2
          obtain ⟨r21, w20, rfl, h2⟩ := h2
          refine r_Vj1 (pc := 89) F dX1_exchanged_89 ml_1_61 (kX1_countOf _ 3 co3 w18 (r21, w20) er21) i68_10 (ce_10 _ _ _) (Nat.le_of_ble_eq_true rfl) (Nat.le_of_ble_eq_true rfl) (Nat.le_of_ble_eq_true rfl) ?_
          obtain ⟨w24, ew24, h2⟩ := lt_some h2
          refine r_Vv2 (pc := 92) F dX1_exchanged_92 ml_1_55 (kX1_consider _ w20 ((10 * l7) + l11) r21 w24 ew24.symm) i68_10 (ce_10 _ _ _) (Nat.le_of_ble_eq_true rfl) (Nat.le_of_ble_eq_true rfl) (Nat.le_of_ble_eq_true rfl) ?_
          obtain ⟨v26, ev26, h2⟩ := lt_some h2
          refine r_iinc (pc := 95) (ls' := [(0, .ref ((zg Z).1 10)), (1, .int l7), (2, .int v26)]) F dX1_exchanged_95 rfl (by rw [ev26]; rfl) (Nat.le_of_ble_eq_true rfl) rfl ?_
          refine r_goto (pc := 98) (tgt := 29) F dX1_exchanged_98 rfl ?_
          exact hP2 (v26, w24) (Option.some.inj h2).symm
      obtain ⟨v31, ev31, h1⟩ := lt_some h1
      refine r_iinc (pc := 101) (ls' := [(0, .ref ((zg Z).1 10)), (1, .int v31)]) F dX1_exchanged_101 rfl (by rw [ev31]; rfl) (Nat.le_of_ble_eq_true rfl) rfl ?_
      refine r_goto (pc := 104) (tgt := 14) F dX1_exchanged_104 rfl ?_
      exact hP1 (v31, w29) (Option.some.inj h1).symm
  refine r_aload_n (pc := 107) F dX1_exchanged_107 rfl ?_
  refine r_getf (pc := 108) F dX1_exchanged_108 fl_1_58 i68_10 (ce_10 _ _ _) rfl ?_
  exact hR _ _ _ _ dX1_exchanged_111 rfl (Option.some.inj h0)
set_option maxRecDepth 100000 in
set_option maxHeartbeats 4000000 in
theorem kX9_changed (g : GT) (w : Wd) (out : Int32 × Wd) (h0 : fX9_changed w = some out) : CtI g yX9_changed cX9_changed 1 (some .int) 5 114 [.ref (g.1 0)] w (fun r w1 => (r, w1) = out) := by
  refine CtI_of .int (by decide) (Nat.le_of_ble_eq_true rfl) (fun Z hg F hR => ?_)
  subst hg
  have F : Fx Z RX9 cX9_changed 1 5 114 := F
  refine V_sub (ls' := [(0, .ref ((zg Z).1 0))]) [0] rfl ?_
  unfold fX9_changed at h0
  refine r_aload_n (pc := 0) F dX9_changed_0 rfl ?_
  refine r_getf (pc := 1) F dX9_changed_1 fl_9_68 i68_0 (ce_0 _ _ _) rfl ?_
  obtain ⟨q3, er2, h0⟩ := bind_some h0
  replace h0 := un2_eq h0
  obtain ⟨r2, w1, rfl, h0⟩ := h0
  refine r_Vj0 (pc := 4) F dX9_changed_4 ml_9_213 (kX1_exchanged _ w (r2, w1) er2) i68_10 (ce_10 _ _ _) (Nat.le_of_ble_eq_true rfl) (Nat.le_of_ble_eq_true rfl) (Nat.le_of_ble_eq_true rfl) ?_
  exact hR _ _ _ _ dX9_changed_7 rfl (Option.some.inj h0)
set_option maxRecDepth 100000 in
set_option maxHeartbeats 4000000 in
theorem kX1_orderAsDigits (g : GT) (w : Wd) (a1 : Int32) (out : Int32) (h0 : fX1_orderAsDigits w a1 = some out) : CtI g yX1_orderAsDigits cX1_orderAsDigits 4 (some .int) 0 0 [.ref (g.1 10), .int a1] w (fun r w1 => r = out ∧ w1 = w) := by
  refine CtI_of .int (by decide) (Nat.le_of_ble_eq_true rfl) (fun Z hg F hR => ?_)
  subst hg
  have F : Fx Z RX1 cX1_orderAsDigits 4 0 0 := F
  refine V_sub (ls' := [(0, .ref ((zg Z).1 10)), (1, .int a1)]) [0, 1] rfl ?_
  unfold fX1_orderAsDigits at h0
  refine r_iconst (pc := 0) F dX1_orderAsDigits_0 ic_0 ?_
  refine r_istore_n (pc := 1) (ls' := [(0, .ref ((zg Z).1 10)), (1, .int a1), (2, .int 0)]) F dX1_orderAsDigits_1 (Nat.le_of_ble_eq_true rfl) rfl ?_
  refine r_iload_n (pc := 2) F dX1_orderAsDigits_2 rfl ?_
  refine r_iconst (pc := 3) F dX1_orderAsDigits_3 ic_1 ?_
  refine r_isub (pc := 4) F dX1_orderAsDigits_4 ?_
  obtain ⟨v1, ev1, h0⟩ := lt_some h0
  refine V_nm ev1 ?_
  refine r_istore_n (pc := 5) (ls' := [(0, .ref ((zg Z).1 10)), (1, .int a1), (2, .int 0), (3, .int v1)]) F dX1_orderAsDigits_5 (Nat.le_of_ble_eq_true rfl) rfl ?_
  refine V_sub (ls' := [(0, .ref ((zg Z).1 10)), (2, .int 0), (3, .int v1)]) [0, 2, 3] rfl ?_
  obtain ⟨l10, il10, h0⟩ := bind_some h0
  suffices E6 : V Z 28 [(2, .int l10)] [] w by
    refine iter_rule (P := fun s : Int32 × Int32 => V Z 6 [(0, .ref ((zg Z).1 10)), (2, .int (s.1)), (3, .int (s.2))] [] w) (x := l10) ?_ FU (0, v1) il10
    intro s y1 h1 hP1 hX1
    obtain ⟨l2, l3⟩ := s
    have h1 : fX1_orderAsDigits_b6 w l2 l3 = some y1 := h1
    unfold fX1_orderAsDigits_b6 at h1
    refine r_iload_n (pc := 6) F dX1_orderAsDigits_6 rfl ?_
    refine r_if_lt (pc := 7) (tgt := 28) F dX1_orderAsDigits_7 rfl h1 (fun h1 => ?_) (fun h1 => ?_)
    · refine V_sub (ls' := [(2, .int l2)]) [1] rfl ?_
      have e4 := hX1 _ (Option.some.inj h1).symm
      cases e4
      exact E6
    · refine r_bipush (pc := 10) F dX1_orderAsDigits_10 bp_10 ?_
      refine r_iload_n (pc := 12) F dX1_orderAsDigits_12 rfl ?_
      refine r_imul (pc := 13) F dX1_orderAsDigits_13 ?_
      refine r_aload_n (pc := 14) F dX1_orderAsDigits_14 rfl ?_
      refine r_getf (pc := 15) F dX1_orderAsDigits_15 fl_1_22 i68_10 (ce_10 _ _ _) rfl ?_
      refine r_iload_n (pc := 18) F dX1_orderAsDigits_18 rfl ?_
      obtain ⟨g5, h1⟩ := gd_some h1
      refine r_iald (pc := 19) F dX1_orderAsDigits_19 i68_37 (ca_37 _) g5 rfl ?_
      refine r_iadd (pc := 20) F dX1_orderAsDigits_20 ?_
      obtain ⟨v6, ev6, h1⟩ := lt_some h1
      refine V_nm ev6 ?_
      refine r_istore_n (pc := 21) (ls' := [(0, .ref ((zg Z).1 10)), (2, .int v6), (3, .int l3)]) F dX1_orderAsDigits_21 (Nat.le_of_ble_eq_true rfl) rfl ?_
      obtain ⟨v7, ev7, h1⟩ := lt_some h1
      refine r_iinc (pc := 22) (ls' := [(0, .ref ((zg Z).1 10)), (2, .int v6), (3, .int v7)]) F dX1_orderAsDigits_22 rfl (by rw [ev7]; rfl) (Nat.le_of_ble_eq_true rfl) rfl ?_
      refine r_goto (pc := 25) (tgt := 6) F dX1_orderAsDigits_25 rfl ?_
      exact hP1 (v6, v7) (Option.some.inj h1).symm
  refine r_iload_n (pc := 28) F dX1_orderAsDigits_28 rfl ?_
  exact hR _ _ _ _ dX1_orderAsDigits_29 rfl ⟨(Option.some.inj h0), rfl⟩
set_option maxRecDepth 100000 in
set_option maxHeartbeats 4000000 in
theorem kX1_exchangePlaces (g : GT) (w : Wd) (a1 : Int32) (a2 : Int32) (out : Wd) (h0 : fX1_exchangePlaces w a1 a2 = some out) : CtV g yX1_exchangePlaces cX1_exchangePlaces 4 none 0 0 [.ref (g.1 10), .int a1, .int a2] w (fun w1 => w1 = out) := by
  refine CtV_of (by decide) (Nat.le_of_ble_eq_true rfl) (fun Z hg F hR => ?_)
  subst hg
  have F : Fx Z RX1 cX1_exchangePlaces 4 0 0 := F
  refine V_sub (ls' := [(0, .ref ((zg Z).1 10)), (1, .int a1), (2, .int a2)]) [0, 1, 2] rfl ?_
  unfold fX1_exchangePlaces at h0
  refine r_aload_n (pc := 0) F dX1_exchangePlaces_0 rfl ?_
  refine r_getf (pc := 1) F dX1_exchangePlaces_1 fl_1_22 i68_10 (ce_10 _ _ _) rfl ?_
  refine r_iload_n (pc := 4) F dX1_exchangePlaces_4 rfl ?_
  obtain ⟨g1, h0⟩ := gd_some h0
  refine r_iald (pc := 5) F dX1_exchangePlaces_5 i68_37 (ca_37 _) g1 rfl ?_
  obtain ⟨v2, ev2, h0⟩ := lt_some h0
  refine V_nm ev2 ?_
  refine r_istore_n (pc := 6) (ls' := [(0, .ref ((zg Z).1 10)), (1, .int a1), (2, .int a2), (3, .int v2)]) F dX1_exchangePlaces_6 (Nat.le_of_ble_eq_true rfl) rfl ?_
  refine r_aload_n (pc := 7) F dX1_exchangePlaces_7 rfl ?_
  refine r_getf (pc := 8) F dX1_exchangePlaces_8 fl_1_22 i68_10 (ce_10 _ _ _) rfl ?_
  refine r_iload_n (pc := 11) F dX1_exchangePlaces_11 rfl ?_
  refine r_aload_n (pc := 12) F dX1_exchangePlaces_12 rfl ?_
  refine r_getf (pc := 13) F dX1_exchangePlaces_13 fl_1_22 i68_10 (ce_10 _ _ _) rfl ?_
  refine r_iload_n (pc := 16) F dX1_exchangePlaces_16 rfl ?_
  obtain ⟨g3, h0⟩ := gd_some h0
  refine r_iald (pc := 17) F dX1_exchangePlaces_17 i68_37 (ca_37 _) g3 rfl ?_
  obtain ⟨w4, ew4, h0⟩ := lt_some h0
  refine r_iast (pc := 18) F dX1_exchangePlaces_18 i68_37 (ca_37 _) g1 rfl ew4 ?_
  refine r_aload_n (pc := 19) F dX1_exchangePlaces_19 rfl ?_
  refine r_getf (pc := 20) F dX1_exchangePlaces_20 fl_1_22 i68_10 (ce_10 _ _ _) rfl ?_
  refine r_iload_n (pc := 23) F dX1_exchangePlaces_23 rfl ?_
  refine r_iload_n (pc := 24) F dX1_exchangePlaces_24 rfl ?_
  obtain ⟨w6, ew6, h0⟩ := lt_some h0
  refine r_iast (pc := 25) F dX1_exchangePlaces_25 i68_37 (ca_37 _) g3 rfl ew6 ?_
  exact hR _ _ _ dX1_exchangePlaces_26 (Option.some.inj h0)
set_option maxRecDepth 100000 in
set_option maxHeartbeats 4000000 in
theorem kX1_nextOrder (g : GT) (w : Wd) (a1 : Int32) (out : Wd) (h0 : fX1_nextOrder w a1 = some out) : CtV g yX1_nextOrder cX1_nextOrder 6 none 1 23 [.ref (g.1 10), .int a1] w (fun w1 => w1 = out) := by
  refine CtV_of (by decide) (Nat.le_of_ble_eq_true rfl) (fun Z hg F hR => ?_)
  subst hg
  have F : Fx Z RX1 cX1_nextOrder 6 1 23 := F
  refine V_sub (ls' := [(0, .ref ((zg Z).1 10)), (1, .int a1)]) [0, 1] rfl ?_
  unfold fX1_nextOrder at h0
  have J66 : ∀ (w27 : Wd) (l25 : Int32) (l26 : Int32), fX1_nextOrder_j66 a1 w27 l25 l26 = some out → V Z 66 [(0, .ref ((zg Z).1 10)), (1, .int a1), (2, .int l25), (3, .int l26)] [] w27 := by
    intro w27 l25 l26 h0
    unfold fX1_nextOrder_j66 at h0
    refine r_aload_n (pc := 66) F dX1_nextOrder_66 rfl ?_
    refine r_iload_n (pc := 67) F dX1_nextOrder_67 rfl ?_
    refine r_iload_n (pc := 68) F dX1_nextOrder_68 rfl ?_
    obtain ⟨w28, ew28, h0⟩ := bind_some h0
    refine r_Vv2 (pc := 69) F dX1_nextOrder_69 ml_1_165 (kX1_exchangePlaces _ w27 l25 l26 w28 ew28) i68_10 (ce_10 _ _ _) (Nat.le_of_ble_eq_true rfl) (Nat.le_of_ble_eq_true rfl) (Nat.le_of_ble_eq_true rfl) ?_
    refine r_iload_n (pc := 72) F dX1_nextOrder_72 rfl ?_
    refine r_iconst (pc := 73) F dX1_nextOrder_73 ic_1 ?_
    refine r_iadd (pc := 74) F dX1_nextOrder_74 ?_
    obtain ⟨v30, ev30, h0⟩ := lt_some h0
    refine V_nm ev30 ?_
    refine r_istore (pc := 75) (ls' := [(0, .ref ((zg Z).1 10)), (1, .int a1), (2, .int l25), (3, .int l26), (4, .int v30)]) F dX1_nextOrder_75 (Nat.le_of_ble_eq_true rfl) rfl ?_
    refine r_iload_n (pc := 77) F dX1_nextOrder_77 rfl ?_
    refine r_iconst (pc := 78) F dX1_nextOrder_78 ic_1 ?_
    refine r_isub (pc := 79) F dX1_nextOrder_79 ?_
    obtain ⟨v31, ev31, h0⟩ := lt_some h0
    refine V_nm ev31 ?_
    refine r_istore (pc := 80) (ls' := [(0, .ref ((zg Z).1 10)), (1, .int a1), (2, .int l25), (3, .int l26), (4, .int v30), (5, .int v31)]) F dX1_nextOrder_80 (Nat.le_of_ble_eq_true rfl) rfl ?_
    refine V_sub (ls' := [(0, .ref ((zg Z).1 10)), (4, .int v30), (5, .int v31)]) [0, 4, 5] rfl ?_
    obtain ⟨w42, iw42, h0⟩ := bind_some h0
    suffices E82 : V Z 106 [] [] w42 by
      refine iter_rule (P := fun s : Int32 × Int32 × Wd => V Z 82 [(0, .ref ((zg Z).1 10)), (4, .int (s.1)), (5, .int (s.2.1))] [] s.2.2) (x := w42) ?_ FU (v30, v31, w28) iw42
      intro s y1 h1 hP1 hX1
      obtain ⟨l32, l33, w34⟩ := s
      have h1 : fX1_nextOrder_b82 l32 l33 w34 = some y1 := h1
      unfold fX1_nextOrder_b82 at h1
      refine r_iload (pc := 82) F dX1_nextOrder_82 rfl ?_
      refine r_iload (pc := 84) F dX1_nextOrder_84 rfl ?_
      refine r_icmp_le (pc := 86) (tgt := 106) F dX1_nextOrder_86 rfl h1 (fun h1 => ?_) (fun h1 => ?_)
      · refine V_sub (ls' := []) [] rfl ?_
        have e35 := hX1 _ (Option.some.inj h1).symm
        cases e35
        exact E82
      · refine r_aload_n (pc := 89) F dX1_nextOrder_89 rfl ?_
        refine r_iload (pc := 90) F dX1_nextOrder_90 rfl ?_
        refine r_iload (pc := 92) F dX1_nextOrder_92 rfl ?_
        obtain ⟨w36, ew36, h1⟩ := bind_some h1
        refine r_Vv2 (pc := 94) F dX1_nextOrder_94 ml_1_165 (kX1_exchangePlaces _ w34 l32 l33 w36 ew36) i68_10 (ce_10 _ _ _) (Nat.le_of_ble_eq_true rfl) (Nat.le_of_ble_eq_true rfl) (Nat.le_of_ble_eq_true rfl) ?_
        obtain ⟨v38, ev38, h1⟩ := lt_some h1
        refine r_iinc (pc := 97) (ls' := [(0, .ref ((zg Z).1 10)), (4, .int v38), (5, .int l33)]) F dX1_nextOrder_97 rfl (by rw [ev38]; rfl) (Nat.le_of_ble_eq_true rfl) rfl ?_
        obtain ⟨v39, ev39, h1⟩ := lt_some h1
        refine r_iinc (pc := 100) (ls' := [(0, .ref ((zg Z).1 10)), (4, .int v38), (5, .int v39)]) F dX1_nextOrder_100 rfl (by rw [ev39]; rfl) (Nat.le_of_ble_eq_true rfl) rfl ?_
        refine r_goto (pc := 103) (tgt := 82) F dX1_nextOrder_103 rfl ?_
        exact hP1 (v38, v39, w36) (Option.some.inj h1).symm
    exact hR _ _ _ dX1_nextOrder_106 (Option.some.inj h0)
  have J31 : ∀ (w13 : Wd) (l12 : Int32), fX1_nextOrder_j31 a1 w13 l12 = some out → V Z 31 [(0, .ref ((zg Z).1 10)), (1, .int a1), (2, .int l12)] [] w13 := by
    intro w13 l12 h0
    unfold fX1_nextOrder_j31 at h0
    refine r_iload_n (pc := 31) F dX1_nextOrder_31 rfl ?_
    refine r_if_ge (pc := 32) (tgt := 36) F dX1_nextOrder_32 rfl h0 (fun h0 => ?_) (fun h0 => ?_)
    · refine r_iload_n (pc := 36) F dX1_nextOrder_36 rfl ?_
      refine r_iconst (pc := 37) F dX1_nextOrder_37 ic_1 ?_
      refine r_isub (pc := 38) F dX1_nextOrder_38 ?_
      obtain ⟨v14, ev14, h0⟩ := lt_some h0
      refine V_nm ev14 ?_
      refine r_istore_n (pc := 39) (ls' := [(0, .ref ((zg Z).1 10)), (1, .int a1), (2, .int l12), (3, .int v14)]) F dX1_nextOrder_39 (Nat.le_of_ble_eq_true rfl) rfl ?_
      obtain ⟨l24, il24, h0⟩ := bind_some h0
      suffices E40 : V Z 66 [(0, .ref ((zg Z).1 10)), (1, .int a1), (2, .int l12), (3, .int l24)] [] w13 by
        refine iter_rule (P := fun s : Int32 => V Z 40 [(0, .ref ((zg Z).1 10)), (1, .int a1), (2, .int l12), (3, .int s)] [] w13) (x := l24) ?_ FU v14 il24
        intro s y1 h1 hP1 hX1
        obtain ⟨l15, rfl⟩ : ∃ z, z = s := ⟨s, rfl⟩
        have h1 : fX1_nextOrder_b40 l12 w13 l15 = some y1 := h1
        unfold fX1_nextOrder_b40 at h1
        refine r_iload_n (pc := 40) F dX1_nextOrder_40 rfl ?_
        refine r_iload_n (pc := 41) F dX1_nextOrder_41 rfl ?_
        refine r_icmp_le (pc := 42) (tgt := 66) F dX1_nextOrder_42 rfl h1 (fun h1 => ?_) (fun h1 => ?_)
        · have e16 := hX1 _ (Option.some.inj h1).symm
          cases e16
          exact E40
        · refine r_aload_n (pc := 45) F dX1_nextOrder_45 rfl ?_
          refine r_getf (pc := 46) F dX1_nextOrder_46 fl_1_22 i68_10 (ce_10 _ _ _) rfl ?_
          refine r_iload_n (pc := 49) F dX1_nextOrder_49 rfl ?_
          obtain ⟨g17, h1⟩ := gd_some h1
          refine r_iald (pc := 50) F dX1_nextOrder_50 i68_37 (ca_37 _) g17 rfl ?_
          refine r_aload_n (pc := 51) F dX1_nextOrder_51 rfl ?_
          refine r_getf (pc := 52) F dX1_nextOrder_52 fl_1_22 i68_10 (ce_10 _ _ _) rfl ?_
          refine r_iload_n (pc := 55) F dX1_nextOrder_55 rfl ?_
          obtain ⟨g18, h1⟩ := gd_some h1
          refine r_iald (pc := 56) F dX1_nextOrder_56 i68_37 (ca_37 _) g18 rfl ?_
          refine r_icmp_ge (pc := 57) (tgt := 66) F dX1_nextOrder_57 rfl h1 (fun h1 => ?_) (fun h1 => ?_)
          · have e19 := hX1 _ (Option.some.inj h1).symm
            cases e19
            exact E40
          · obtain ⟨v20, ev20, h1⟩ := lt_some h1
            refine r_iinc (pc := 60) (ls' := [(0, .ref ((zg Z).1 10)), (1, .int a1), (2, .int l12), (3, .int v20)]) F dX1_nextOrder_60 rfl (by rw [ev20]; rfl) (Nat.le_of_ble_eq_true rfl) rfl ?_
            refine r_goto (pc := 63) (tgt := 40) F dX1_nextOrder_63 rfl ?_
            exact hP1 v20 (Option.some.inj h1).symm
      exact J66 w13 l12 l24 h0
    · exact hR _ _ _ dX1_nextOrder_35 (Option.some.inj h0)
  refine r_iload_n (pc := 0) F dX1_nextOrder_0 rfl ?_
  refine r_iconst (pc := 1) F dX1_nextOrder_1 ic_2 ?_
  refine r_isub (pc := 2) F dX1_nextOrder_2 ?_
  obtain ⟨v1, ev1, h0⟩ := lt_some h0
  refine V_nm ev1 ?_
  refine r_istore_n (pc := 3) (ls' := [(0, .ref ((zg Z).1 10)), (1, .int a1), (2, .int v1)]) F dX1_nextOrder_3 (Nat.le_of_ble_eq_true rfl) rfl ?_
  obtain ⟨l11, il11, h0⟩ := bind_some h0
  suffices E4 : V Z 31 [(0, .ref ((zg Z).1 10)), (1, .int a1), (2, .int l11)] [] w by
    refine iter_rule (P := fun s : Int32 => V Z 4 [(0, .ref ((zg Z).1 10)), (1, .int a1), (2, .int s)] [] w) (x := l11) ?_ FU v1 il11
    intro s y1 h1 hP1 hX1
    obtain ⟨l2, rfl⟩ : ∃ z, z = s := ⟨s, rfl⟩
    have h1 : fX1_nextOrder_b4 w l2 = some y1 := h1
    unfold fX1_nextOrder_b4 at h1
    refine r_iload_n (pc := 4) F dX1_nextOrder_4 rfl ?_
    refine r_if_lt (pc := 5) (tgt := 31) F dX1_nextOrder_5 rfl h1 (fun h1 => ?_) (fun h1 => ?_)
    · have e3 := hX1 _ (Option.some.inj h1).symm
      cases e3
      exact E4
    · refine r_aload_n (pc := 8) F dX1_nextOrder_8 rfl ?_
      refine r_getf (pc := 9) F dX1_nextOrder_9 fl_1_22 i68_10 (ce_10 _ _ _) rfl ?_
      refine r_iload_n (pc := 12) F dX1_nextOrder_12 rfl ?_
      obtain ⟨g4, h1⟩ := gd_some h1
      refine r_iald (pc := 13) F dX1_nextOrder_13 i68_37 (ca_37 _) g4 rfl ?_
      refine r_aload_n (pc := 14) F dX1_nextOrder_14 rfl ?_
      refine r_getf (pc := 15) F dX1_nextOrder_15 fl_1_22 i68_10 (ce_10 _ _ _) rfl ?_
      refine r_iload_n (pc := 18) F dX1_nextOrder_18 rfl ?_
      refine r_iconst (pc := 19) F dX1_nextOrder_19 ic_1 ?_
      refine r_iadd (pc := 20) F dX1_nextOrder_20 ?_
      obtain ⟨g5, h1⟩ := gd_some h1
      refine r_iald (pc := 21) F dX1_nextOrder_21 i68_37 (ca_37 _) g5 rfl ?_
      refine r_icmp_le (pc := 22) (tgt := 31) F dX1_nextOrder_22 rfl h1 (fun h1 => ?_) (fun h1 => ?_)
      · have e6 := hX1 _ (Option.some.inj h1).symm
        cases e6
        exact E4
      · obtain ⟨v7, ev7, h1⟩ := lt_some h1
        refine r_iinc (pc := 25) (ls' := [(0, .ref ((zg Z).1 10)), (1, .int a1), (2, .int v7)]) F dX1_nextOrder_25 rfl (by rw [ev7]; rfl) (Nat.le_of_ble_eq_true rfl) rfl ?_
        refine r_goto (pc := 28) (tgt := 4) F dX1_nextOrder_28 rfl ?_
        exact hP1 v7 (Option.some.inj h1).symm
  exact J31 w l11 h0
set_option maxRecDepth 100000 in
set_option maxHeartbeats 4000000 in
theorem kX1_findOrder (g : GT) (w : Wd) (out : Wd) (h0 : fX1_findOrder w = some out) : CtV g yX1_findOrder cX1_findOrder 5 none 4 92 [.ref (g.1 10)] w (fun w1 => w1 = out) := by
  refine CtV_of (by decide) (Nat.le_of_ble_eq_true rfl) (fun Z hg F hR => ?_)
  subst hg
  have F : Fx Z RX1 cX1_findOrder 5 4 92 := F
  refine V_sub (ls' := [(0, .ref ((zg Z).1 10))]) [0] rfl ?_
  unfold fX1_findOrder at h0
  refine r_aload_n (pc := 0) F dX1_findOrder_0 rfl ?_
  refine r_iconst (pc := 1) F dX1_findOrder_1 ic_m1 ?_
  obtain ⟨w1, ew1, h0⟩ := lt_some h0
  refine r_Vv1 (pc := 2) F dX1_findOrder_2 ml_1_39 (kX1_startSearch _ w (-1) w1 ew1.symm) i68_10 (ce_10 _ _ _) (Nat.le_of_ble_eq_true rfl) (Nat.le_of_ble_eq_true rfl) (Nat.le_of_ble_eq_true rfl) ?_
  refine r_aload_n (pc := 5) F dX1_findOrder_5 rfl ?_
  refine r_getf (pc := 6) F dX1_findOrder_6 fl_1_15 i68_10 (ce_10 _ _ _) rfl ?_
  refine r_aload_n (pc := 9) F dX1_findOrder_9 rfl ?_
  refine r_getf (pc := 10) F dX1_findOrder_10 fl_1_9 i68_10 (ce_10 _ _ _) rfl ?_
  obtain ⟨w3, ew3, h0⟩ := lt_some h0
  refine r_Vv1 (pc := 13) F dX1_findOrder_13 ml_1_47 (kX2_takeFrom _ 3 co3 1 co1 w1 w3 ew3.symm) i68_3 (ce_3 _ _ _) (Nat.le_of_ble_eq_true rfl) (Nat.le_of_ble_eq_true rfl) (Nat.le_of_ble_eq_true rfl) ?_
  refine r_aload_n (pc := 16) F dX1_findOrder_16 rfl ?_
  refine r_getf (pc := 17) F dX1_findOrder_17 fl_1_9 i68_10 (ce_10 _ _ _) rfl ?_
  refine r_getf (pc := 20) F dX1_findOrder_20 fl_1_43 i68_1 (ce_1 _ _ _) rfl ?_
  refine r_bipush (pc := 23) F dX1_findOrder_23 bp_6 ?_
  refine r_min (pc := 25) F dX1_findOrder_25 mk_1_68 ms_min mi_Math mc_min (Nat.le_of_ble_eq_true rfl) (Nat.le_of_ble_eq_true rfl) ?_
  obtain ⟨v5, ev5, h0⟩ := lt_some h0
  refine V_nm ev5 ?_
  refine r_istore_n (pc := 28) (ls' := [(0, .ref ((zg Z).1 10)), (1, .int v5)]) F dX1_findOrder_28 (Nat.le_of_ble_eq_true rfl) rfl ?_
  refine r_iconst (pc := 29) F dX1_findOrder_29 ic_1 ?_
  refine r_istore_n (pc := 30) (ls' := [(0, .ref ((zg Z).1 10)), (1, .int v5), (2, .int 1)]) F dX1_findOrder_30 (Nat.le_of_ble_eq_true rfl) rfl ?_
  refine r_iconst (pc := 31) F dX1_findOrder_31 ic_0 ?_
  refine r_istore_n (pc := 32) (ls' := [(0, .ref ((zg Z).1 10)), (1, .int v5), (2, .int 1), (3, .int 0)]) F dX1_findOrder_32 (Nat.le_of_ble_eq_true rfl) rfl ?_
  obtain ⟨x16, ix16, h0⟩ := bind_some h0
  replace h0 := un2_eq h0
  obtain ⟨l17, w18, rfl, h0⟩ := h0
  suffices E33 : V Z 57 [(0, .ref ((zg Z).1 10)), (1, .int v5), (2, .int l17)] [] w18 by
    refine iter_rule (P := fun s : Int32 × Int32 × Wd => V Z 33 [(0, .ref ((zg Z).1 10)), (1, .int v5), (2, .int (s.1)), (3, .int (s.2.1))] [] s.2.2) (x := (l17, w18)) ?_ FU (1, 0, w3) ix16
    intro s y1 h1 hP1 hX1
    obtain ⟨l6, l7, w8⟩ := s
    have h1 : fX1_findOrder_b33 v5 l6 l7 w8 = some y1 := h1
    unfold fX1_findOrder_b33 at h1
    refine r_iload_n (pc := 33) F dX1_findOrder_33 rfl ?_
    refine r_iload_n (pc := 34) F dX1_findOrder_34 rfl ?_
    refine r_icmp_ge (pc := 35) (tgt := 57) F dX1_findOrder_35 rfl h1 (fun h1 => ?_) (fun h1 => ?_)
    · refine V_sub (ls' := [(0, .ref ((zg Z).1 10)), (1, .int v5), (2, .int l6)]) [0, 1, 2] rfl ?_
      have e9 := hX1 _ (Option.some.inj h1).symm
      cases e9
      exact E33
    · refine r_aload_n (pc := 38) F dX1_findOrder_38 rfl ?_
      refine r_getf (pc := 39) F dX1_findOrder_39 fl_1_22 i68_10 (ce_10 _ _ _) rfl ?_
      refine r_iload_n (pc := 42) F dX1_findOrder_42 rfl ?_
      refine r_iload_n (pc := 43) F dX1_findOrder_43 rfl ?_
      obtain ⟨g11, h1⟩ := gd_some h1
      obtain ⟨w10, ew10, h1⟩ := lt_some h1
      refine r_iast (pc := 44) F dX1_findOrder_44 i68_37 (ca_37 _) g11 rfl ew10 ?_
      refine r_iload_n (pc := 45) F dX1_findOrder_45 rfl ?_
      refine r_iload_n (pc := 46) F dX1_findOrder_46 rfl ?_
      refine r_iconst (pc := 47) F dX1_findOrder_47 ic_1 ?_
      refine r_iadd (pc := 48) F dX1_findOrder_48 ?_
      refine r_imul (pc := 49) F dX1_findOrder_49 ?_
      obtain ⟨v13, ev13, h1⟩ := lt_some h1
      refine V_nm ev13 ?_
      refine r_istore_n (pc := 50) (ls' := [(0, .ref ((zg Z).1 10)), (1, .int v5), (2, .int v13), (3, .int l7)]) F dX1_findOrder_50 (Nat.le_of_ble_eq_true rfl) rfl ?_
      obtain ⟨v14, ev14, h1⟩ := lt_some h1
      refine r_iinc (pc := 51) (ls' := [(0, .ref ((zg Z).1 10)), (1, .int v5), (2, .int v13), (3, .int v14)]) F dX1_findOrder_51 rfl (by rw [ev14]; rfl) (Nat.le_of_ble_eq_true rfl) rfl ?_
      refine r_goto (pc := 54) (tgt := 33) F dX1_findOrder_54 rfl ?_
      exact hP1 (v13, v14, w10) (Option.some.inj h1).symm
  refine r_iconst (pc := 57) F dX1_findOrder_57 ic_0 ?_
  refine r_istore_n (pc := 58) (ls' := [(0, .ref ((zg Z).1 10)), (1, .int v5), (2, .int l17), (3, .int 0)]) F dX1_findOrder_58 (Nat.le_of_ble_eq_true rfl) rfl ?_
  obtain ⟨w46, iw46, h0⟩ := bind_some h0
  suffices E59 : V Z 127 [] [] w46 by
    refine iter_rule (P := fun s : Int32 × Wd => V Z 59 [(0, .ref ((zg Z).1 10)), (1, .int v5), (2, .int l17), (3, .int (s.1))] [] s.2) (x := w46) ?_ FU (0, w18) iw46
    intro s y1 h1 hP1 hX1
    obtain ⟨l20, w21⟩ := s
    have h1 : fX1_findOrder_b59 l17 v5 l20 w21 = some y1 := h1
    unfold fX1_findOrder_b59 at h1
    refine r_iload_n (pc := 59) F dX1_findOrder_59 rfl ?_
    refine r_iload_n (pc := 60) F dX1_findOrder_60 rfl ?_
    refine r_icmp_ge (pc := 61) (tgt := 127) F dX1_findOrder_61 rfl h1 (fun h1 => ?_) (fun h1 => ?_)
    · refine V_sub (ls' := []) [] rfl ?_
      have e22 := hX1 _ (Option.some.inj h1).symm
      cases e22
      exact E59
    · refine r_iconst (pc := 64) F dX1_findOrder_64 ic_0 ?_
      refine r_istore (pc := 65) (ls' := [(0, .ref ((zg Z).1 10)), (1, .int v5), (2, .int l17), (3, .int l20), (4, .int 0)]) F dX1_findOrder_65 (Nat.le_of_ble_eq_true rfl) rfl ?_
      obtain ⟨w32, iw32, h1⟩ := bind_some h1
      suffices E67 : V Z 99 [(0, .ref ((zg Z).1 10)), (1, .int v5), (2, .int l17), (3, .int l20)] [] w32 by
        refine iter_rule (P := fun s : Int32 × Wd => V Z 67 [(0, .ref ((zg Z).1 10)), (1, .int v5), (2, .int l17), (3, .int l20), (4, .int (s.1))] [] s.2) (x := w32) ?_ FU (0, w21) iw32
        intro s y2 h2 hP2 hX2
        obtain ⟨l23, w24⟩ := s
        have h2 : fX1_findOrder_b67 v5 l23 w24 = some y2 := h2
        unfold fX1_findOrder_b67 at h2
        refine r_iload (pc := 67) F dX1_findOrder_67 rfl ?_
        refine r_iload_n (pc := 69) F dX1_findOrder_69 rfl ?_
        refine r_icmp_ge (pc := 70) (tgt := 99) F dX1_findOrder_70 rfl h2 (fun h2 => ?_) (fun h2 => ?_)
        · refine V_sub (ls' := [(0, .ref ((zg Z).1 10)), (1, .int v5), (2, .int l17), (3, .int l20)]) [0, 1, 2, 3] rfl ?_
          have e25 := hX2 _ (Option.some.inj h2).symm
          cases e25
          exact E67
        · refine r_aload_n (pc := 73) F dX1_findOrder_73 rfl ?_
          refine r_getf (pc := 74) F dX1_findOrder_74 fl_1_15 i68_10 (ce_10 _ _ _) rfl ?_
          refine r_iload (pc := 77) F dX1_findOrder_77 rfl ?_
          refine r_aload_n (pc := 79) F dX1_findOrder_79 rfl ?_
          refine r_getf (pc := 80) F dX1_findOrder_80 fl_1_9 i68_10 (ce_10 _ _ _) rfl ?_
          refine r_aload_n (pc := 83) F dX1_findOrder_83 rfl ?_
          refine r_getf (pc := 84) F dX1_findOrder_84 fl_1_22 i68_10 (ce_10 _ _ _) rfl ?_
          refine r_iload (pc := 87) F dX1_findOrder_87 rfl ?_
          obtain ⟨g26, h2⟩ := gd_some h2
          refine r_iald (pc := 89) F dX1_findOrder_89 i68_37 (ca_37 _) g26 rfl ?_
          obtain ⟨w27, ew27, h2⟩ := bind_some h2
          refine r_Vv3 (pc := 90) F dX1_findOrder_90 ml_1_64 (kX2_copyOne _ 3 co3 1 co1 w24 l23 (w24.1 37 l23.toNatClampNeg) w27 ew27) i68_3 (ce_3 _ _ _) (Nat.le_of_ble_eq_true rfl) (Nat.le_of_ble_eq_true rfl) (Nat.le_of_ble_eq_true rfl) ?_
          obtain ⟨v29, ev29, h2⟩ := lt_some h2
          refine r_iinc (pc := 93) (ls' := [(0, .ref ((zg Z).1 10)), (1, .int v5), (2, .int l17), (3, .int l20), (4, .int v29)]) F dX1_findOrder_93 rfl (by rw [ev29]; rfl) (Nat.le_of_ble_eq_true rfl) rfl ?_
          refine r_goto (pc := 96) (tgt := 67) F dX1_findOrder_96 rfl ?_
          exact hP2 (v29, w27) (Option.some.inj h2).symm
      refine r_aload_n (pc := 99) F dX1_findOrder_99 rfl ?_
      refine r_aload_n (pc := 100) F dX1_findOrder_100 rfl ?_
      refine r_iload_n (pc := 101) F dX1_findOrder_101 rfl ?_
      obtain ⟨r34, er34, h1⟩ := bind_some h1
      refine r_Vi1 (pc := 102) F dX1_findOrder_102 ml_1_74 (kX1_orderAsDigits _ w32 v5 r34 er34) i68_10 (ce_10 _ _ _) (Nat.le_of_ble_eq_true rfl) (Nat.le_of_ble_eq_true rfl) (Nat.le_of_ble_eq_true rfl) ?_
      refine r_aload_n (pc := 105) F dX1_findOrder_105 rfl ?_
      refine r_aload_n (pc := 106) F dX1_findOrder_106 rfl ?_
      refine r_getf (pc := 107) F dX1_findOrder_107 fl_1_15 i68_10 (ce_10 _ _ _) rfl ?_
      obtain ⟨q37, er36, h1⟩ := bind_some h1
      replace h1 := un2_eq h1
      obtain ⟨r36, w35, rfl, h1⟩ := h1
      refine r_Vj1 (pc := 110) F dX1_findOrder_110 ml_1_61 (kX1_countOf _ 3 co3 w32 (r36, w35) er36) i68_10 (ce_10 _ _ _) (Nat.le_of_ble_eq_true rfl) (Nat.le_of_ble_eq_true rfl) (Nat.le_of_ble_eq_true rfl) ?_
      obtain ⟨w39, ew39, h1⟩ := lt_some h1
      refine r_Vv2 (pc := 113) F dX1_findOrder_113 ml_1_55 (kX1_consider _ w35 r34 r36 w39 ew39.symm) i68_10 (ce_10 _ _ _) (Nat.le_of_ble_eq_true rfl) (Nat.le_of_ble_eq_true rfl) (Nat.le_of_ble_eq_true rfl) ?_
      refine r_aload_n (pc := 116) F dX1_findOrder_116 rfl ?_
      refine r_iload_n (pc := 117) F dX1_findOrder_117 rfl ?_
      obtain ⟨w41, ew41, h1⟩ := bind_some h1
      refine r_Vv1 (pc := 118) F dX1_findOrder_118 ml_1_77 (kX1_nextOrder _ w39 v5 w41 ew41) i68_10 (ce_10 _ _ _) (Nat.le_of_ble_eq_true rfl) (Nat.le_of_ble_eq_true rfl) (Nat.le_of_ble_eq_true rfl) ?_
      obtain ⟨v43, ev43, h1⟩ := lt_some h1
      refine r_iinc (pc := 121) (ls' := [(0, .ref ((zg Z).1 10)), (1, .int v5), (2, .int l17), (3, .int v43)]) F dX1_findOrder_121 rfl (by rw [ev43]; rfl) (Nat.le_of_ble_eq_true rfl) rfl ?_
      refine r_goto (pc := 124) (tgt := 59) F dX1_findOrder_124 rfl ?_
      exact hP1 (v43, w41) (Option.some.inj h1).symm
  exact hR _ _ _ dX1_findOrder_127 (Option.some.inj h0)
set_option maxRecDepth 100000 in
set_option maxHeartbeats 4000000 in
theorem kX9_order (g : GT) (w : Wd) (a1 : Int32) (out : Int32 × Wd) (h0 : fX9_order w a1 = some out) : CtI g yX9_order cX9_order 2 (some .int) 5 116 [.ref (g.1 0), .int a1] w (fun r w1 => (r, w1) = out) := by
  refine CtI_of .int (by decide) (Nat.le_of_ble_eq_true rfl) (fun Z hg F hR => ?_)
  subst hg
  have F : Fx Z RX9 cX9_order 2 5 116 := F
  refine V_sub (ls' := [(0, .ref ((zg Z).1 0)), (1, .int a1)]) [0, 1] rfl ?_
  unfold fX9_order at h0
  have J37 : ∀ (w1 : Wd), fX9_order_j37 w1 = some out → V Z 37 [(0, .ref ((zg Z).1 0))] [] w1 := by
    intro w1 h0
    unfold fX9_order_j37 at h0
    refine r_aload_n (pc := 37) F dX9_order_37 rfl ?_
    refine r_bipush (pc := 38) F dX9_order_38 bp_m3 ?_
    obtain ⟨q4, er3, h0⟩ := bind_some h0
    replace h0 := un2_eq h0
    obtain ⟨r3, w2, rfl, h0⟩ := h0
    refine r_Vj1 (pc := 40) F dX9_order_40 ml_9_85 (kX9_refuse _ w1 (-3) (r3, w2) er3) i68_0 (ce_0 _ _ _) (Nat.le_of_ble_eq_true rfl) (Nat.le_of_ble_eq_true rfl) (Nat.le_of_ble_eq_true rfl) ?_
    exact hR _ _ _ _ dX9_order_43 rfl (Option.some.inj h0)
  refine r_iload_n (pc := 0) F dX9_order_0 rfl ?_
  refine r_iconst (pc := 1) F dX9_order_1 ic_1 ?_
  refine r_Si2 (pc := 2) F dX9_order_2 ml_9_115 (kX9_isOutside _ w a1 1 _ rfl) (Nat.le_of_ble_eq_true rfl) (Nat.le_of_ble_eq_true rfl) (Nat.le_of_ble_eq_true rfl) ?_
  refine r_if_eq (pc := 5) (tgt := 15) F dX9_order_5 rfl h0 (fun h0 => ?_) (fun h0 => ?_)
  · refine r_aload_n (pc := 15) F dX9_order_15 rfl ?_
    refine r_getf (pc := 16) F dX9_order_16 fl_9_10 i68_0 (ce_0 _ _ _) rfl ?_
    refine r_getf (pc := 19) F dX9_order_19 fl_9_216 i68_1 (ce_1 _ _ _) rfl ?_
    refine r_if_eq (pc := 22) (tgt := 37) F dX9_order_22 rfl h0 (fun h0 => ?_) (fun h0 => ?_)
    · refine V_sub (ls' := [(0, .ref ((zg Z).1 0))]) [0] rfl ?_
      exact J37 w h0
    · refine r_aload_n (pc := 25) F dX9_order_25 rfl ?_
      refine r_getf (pc := 26) F dX9_order_26 fl_9_10 i68_0 (ce_0 _ _ _) rfl ?_
      refine r_getf (pc := 29) F dX9_order_29 fl_9_216 i68_1 (ce_1 _ _ _) rfl ?_
      refine r_bipush (pc := 32) F dX9_order_32 bp_6 ?_
      refine r_icmp_le (pc := 34) (tgt := 44) F dX9_order_34 rfl h0 (fun h0 => ?_) (fun h0 => ?_)
      · refine r_aload_n (pc := 44) F dX9_order_44 rfl ?_
        refine r_getf (pc := 45) F dX9_order_45 fl_9_68 i68_0 (ce_0 _ _ _) rfl ?_
        obtain ⟨w6, ew6, h0⟩ := bind_some h0
        refine r_Vv0 (pc := 48) F dX9_order_48 ml_9_219 (kX1_findOrder _ w w6 ew6) i68_10 (ce_10 _ _ _) (Nat.le_of_ble_eq_true rfl) (Nat.le_of_ble_eq_true rfl) (Nat.le_of_ble_eq_true rfl) ?_
        refine r_iload_n (pc := 51) F dX9_order_51 rfl ?_
        refine r_if_ne (pc := 52) (tgt := 65) F dX9_order_52 rfl h0 (fun h0 => ?_) (fun h0 => ?_)
        · refine r_aload_n (pc := 55) F dX9_order_55 rfl ?_
          refine r_getf (pc := 56) F dX9_order_56 fl_9_68 i68_0 (ce_0 _ _ _) rfl ?_
          refine r_getf (pc := 59) F dX9_order_59 fl_9_222 i68_10 (ce_10 _ _ _) rfl ?_
          refine r_goto (pc := 62) (tgt := 72) F dX9_order_62 rfl ?_
          exact hR _ _ _ _ dX9_order_72 rfl (Option.some.inj h0)
        · refine r_aload_n (pc := 65) F dX9_order_65 rfl ?_
          refine r_getf (pc := 66) F dX9_order_66 fl_9_68 i68_0 (ce_0 _ _ _) rfl ?_
          refine r_getf (pc := 69) F dX9_order_69 fl_9_225 i68_10 (ce_10 _ _ _) rfl ?_
          exact hR _ _ _ _ dX9_order_72 rfl (Option.some.inj h0)
      · refine V_sub (ls' := [(0, .ref ((zg Z).1 0))]) [0] rfl ?_
        exact J37 w h0
  · refine r_aload_n (pc := 8) F dX9_order_8 rfl ?_
    refine r_bipush (pc := 9) F dX9_order_9 bp_m2 ?_
    obtain ⟨q13, er12, h0⟩ := bind_some h0
    replace h0 := un2_eq h0
    obtain ⟨r12, w11, rfl, h0⟩ := h0
    refine r_Vj1 (pc := 11) F dX9_order_11 ml_9_85 (kX9_refuse _ w (-2) (r12, w11) er12) i68_0 (ce_0 _ _ _) (Nat.le_of_ble_eq_true rfl) (Nat.le_of_ble_eq_true rfl) (Nat.le_of_ble_eq_true rfl) ?_
    exact hR _ _ _ _ dX9_order_14 rfl (Option.some.inj h0)
set_option maxRecDepth 100000 in
set_option maxHeartbeats 4000000 in
theorem kX2_becomeLantern (g : GT) (b : Nat) (hb : isCo b) (w : Wd) (a1 : Int32) (out : Wd) (h0 : fX2_becomeLantern b w a1 = some out) : CtV g yX2_becomeLantern cX2_becomeLantern 2 none 1 22 [.ref (g.1 b), .int a1] w (fun w1 => w1 = out) := by
  refine CtV_of (by decide) (Nat.le_of_ble_eq_true rfl) (fun Z hg F hR => ?_)
  subst hg
  have F : Fx Z RX2 cX2_becomeLantern 2 1 22 := F
  refine V_sub (ls' := [(0, .ref ((zg Z).1 b)), (1, .int a1)]) [0, 1] rfl ?_
  unfold fX2_becomeLantern at h0
  refine r_aload_n (pc := 0) F dX2_becomeLantern_0 rfl ?_
  refine r_getf (pc := 1) F dX2_becomeLantern_1 fl_2_18 (lt_Co hb) (ce_Co hb _ _ _) rfl ?_
  refine r_iload_n (pc := 4) F dX2_becomeLantern_4 rfl ?_
  refine r_iconst (pc := 5) F dX2_becomeLantern_5 ic_3 ?_
  obtain ⟨g2, h0⟩ := gd_some h0
  obtain ⟨w1, ew1, h0⟩ := lt_some h0
  refine r_iast (pc := 6) F dX2_becomeLantern_6 (lt_Co9 hb) (ca_Co9 hb _) g2 rfl ew1 ?_
  refine r_aload_n (pc := 7) F dX2_becomeLantern_7 rfl ?_
  refine r_iload_n (pc := 8) F dX2_becomeLantern_8 rfl ?_
  refine r_iconst (pc := 9) F dX2_becomeLantern_9 ic_1 ?_
  obtain ⟨w4, ew4, h0⟩ := lt_some h0
  refine r_Vv2 (pc := 10) F dX2_becomeLantern_10 ml_2_52 (kX2_putLit _ b hb w1 a1 1 w4 ew4.symm) (lt_Co hb) (ce_Co hb _ _ _) (Nat.le_of_ble_eq_true rfl) (Nat.le_of_ble_eq_true rfl) (Nat.le_of_ble_eq_true rfl) ?_
  exact hR _ _ _ dX2_becomeLantern_13 (Option.some.inj h0)
set_option maxRecDepth 100000 in
set_option maxHeartbeats 4000000 in
theorem kX1_findLantern (g : GT) (w : Wd) (out : Wd) (h0 : fX1_findLantern w = some out) : CtV g yX1_findLantern cX1_findLantern 2 none 4 92 [.ref (g.1 10)] w (fun w1 => w1 = out) := by
  refine CtV_of (by decide) (Nat.le_of_ble_eq_true rfl) (fun Z hg F hR => ?_)
  subst hg
  have F : Fx Z RX1 cX1_findLantern 2 4 92 := F
  refine V_sub (ls' := [(0, .ref ((zg Z).1 10))]) [0] rfl ?_
  unfold fX1_findLantern at h0
  refine r_aload_n (pc := 0) F dX1_findLantern_0 rfl ?_
  refine r_iconst (pc := 1) F dX1_findLantern_1 ic_m1 ?_
  obtain ⟨w1, ew1, h0⟩ := lt_some h0
  refine r_Vv1 (pc := 2) F dX1_findLantern_2 ml_1_39 (kX1_startSearch _ w (-1) w1 ew1.symm) i68_10 (ce_10 _ _ _) (Nat.le_of_ble_eq_true rfl) (Nat.le_of_ble_eq_true rfl) (Nat.le_of_ble_eq_true rfl) ?_
  refine r_iconst (pc := 5) F dX1_findLantern_5 ic_0 ?_
  refine r_istore_n (pc := 6) (ls' := [(0, .ref ((zg Z).1 10)), (1, .int 0)]) F dX1_findLantern_6 (Nat.le_of_ble_eq_true rfl) rfl ?_
  obtain ⟨w19, iw19, h0⟩ := bind_some h0
  suffices E7 : V Z 56 [] [] w19 by
    refine iter_rule (P := fun s : Int32 × Wd => V Z 7 [(0, .ref ((zg Z).1 10)), (1, .int (s.1))] [] s.2) (x := w19) ?_ FU (0, w1) iw19
    intro s y1 h1 hP1 hX1
    obtain ⟨l3, w4⟩ := s
    have h1 : fX1_findLantern_b7 l3 w4 = some y1 := h1
    unfold fX1_findLantern_b7 at h1
    refine r_iload_n (pc := 7) F dX1_findLantern_7 rfl ?_
    refine r_aload_n (pc := 8) F dX1_findLantern_8 rfl ?_
    refine r_getf (pc := 9) F dX1_findLantern_9 fl_1_9 i68_10 (ce_10 _ _ _) rfl ?_
    refine r_getf (pc := 12) F dX1_findLantern_12 fl_1_43 i68_1 (ce_1 _ _ _) rfl ?_
    refine r_icmp_ge (pc := 15) (tgt := 56) F dX1_findLantern_15 rfl h1 (fun h1 => ?_) (fun h1 => ?_)
    · refine V_sub (ls' := []) [] rfl ?_
      have e5 := hX1 _ (Option.some.inj h1).symm
      cases e5
      exact E7
    · refine r_aload_n (pc := 18) F dX1_findLantern_18 rfl ?_
      refine r_getf (pc := 19) F dX1_findLantern_19 fl_1_15 i68_10 (ce_10 _ _ _) rfl ?_
      refine r_aload_n (pc := 22) F dX1_findLantern_22 rfl ?_
      refine r_getf (pc := 23) F dX1_findLantern_23 fl_1_9 i68_10 (ce_10 _ _ _) rfl ?_
      obtain ⟨w6, ew6, h1⟩ := lt_some h1
      refine r_Vv1 (pc := 26) F dX1_findLantern_26 ml_1_47 (kX2_takeFrom _ 3 co3 1 co1 w4 w6 ew6.symm) i68_3 (ce_3 _ _ _) (Nat.le_of_ble_eq_true rfl) (Nat.le_of_ble_eq_true rfl) (Nat.le_of_ble_eq_true rfl) ?_
      refine r_aload_n (pc := 29) F dX1_findLantern_29 rfl ?_
      refine r_getf (pc := 30) F dX1_findLantern_30 fl_1_15 i68_10 (ce_10 _ _ _) rfl ?_
      refine r_iload_n (pc := 33) F dX1_findLantern_33 rfl ?_
      obtain ⟨w8, ew8, h1⟩ := bind_some h1
      refine r_Vv1 (pc := 34) F dX1_findLantern_34 ml_1_80 (kX2_becomeLantern _ 3 co3 w6 l3 w8 ew8) i68_3 (ce_3 _ _ _) (Nat.le_of_ble_eq_true rfl) (Nat.le_of_ble_eq_true rfl) (Nat.le_of_ble_eq_true rfl) ?_
      refine r_aload_n (pc := 37) F dX1_findLantern_37 rfl ?_
      refine r_iload_n (pc := 38) F dX1_findLantern_38 rfl ?_
      refine r_aload_n (pc := 39) F dX1_findLantern_39 rfl ?_
      refine r_aload_n (pc := 40) F dX1_findLantern_40 rfl ?_
      refine r_getf (pc := 41) F dX1_findLantern_41 fl_1_15 i68_10 (ce_10 _ _ _) rfl ?_
      obtain ⟨q12, er11, h1⟩ := bind_some h1
      replace h1 := un2_eq h1
      obtain ⟨r11, w10, rfl, h1⟩ := h1
      refine r_Vj1 (pc := 44) F dX1_findLantern_44 ml_1_61 (kX1_countOf _ 3 co3 w8 (r11, w10) er11) i68_10 (ce_10 _ _ _) (Nat.le_of_ble_eq_true rfl) (Nat.le_of_ble_eq_true rfl) (Nat.le_of_ble_eq_true rfl) ?_
      obtain ⟨w14, ew14, h1⟩ := lt_some h1
      refine r_Vv2 (pc := 47) F dX1_findLantern_47 ml_1_55 (kX1_consider _ w10 l3 r11 w14 ew14.symm) i68_10 (ce_10 _ _ _) (Nat.le_of_ble_eq_true rfl) (Nat.le_of_ble_eq_true rfl) (Nat.le_of_ble_eq_true rfl) ?_
      obtain ⟨v16, ev16, h1⟩ := lt_some h1
      refine r_iinc (pc := 50) (ls' := [(0, .ref ((zg Z).1 10)), (1, .int v16)]) F dX1_findLantern_50 rfl (by rw [ev16]; rfl) (Nat.le_of_ble_eq_true rfl) rfl ?_
      refine r_goto (pc := 53) (tgt := 7) F dX1_findLantern_53 rfl ?_
      exact hP1 (v16, w14) (Option.some.inj h1).symm
  exact hR _ _ _ dX1_findLantern_56 (Option.some.inj h0)
set_option maxRecDepth 100000 in
set_option maxHeartbeats 4000000 in
theorem kX9_lantern (g : GT) (w : Wd) (a1 : Int32) (out : Int32 × Wd) (h0 : fX9_lantern w a1 = some out) : CtI g yX9_lantern cX9_lantern 2 (some .int) 5 113 [.ref (g.1 0), .int a1] w (fun r w1 => (r, w1) = out) := by
  refine CtI_of .int (by decide) (Nat.le_of_ble_eq_true rfl) (fun Z hg F hR => ?_)
  subst hg
  have F : Fx Z RX9 cX9_lantern 2 5 113 := F
  refine V_sub (ls' := [(0, .ref ((zg Z).1 0)), (1, .int a1)]) [0, 1] rfl ?_
  unfold fX9_lantern at h0
  refine r_iload_n (pc := 0) F dX9_lantern_0 rfl ?_
  refine r_iconst (pc := 1) F dX9_lantern_1 ic_1 ?_
  refine r_Si2 (pc := 2) F dX9_lantern_2 ml_9_115 (kX9_isOutside _ w a1 1 _ rfl) (Nat.le_of_ble_eq_true rfl) (Nat.le_of_ble_eq_true rfl) (Nat.le_of_ble_eq_true rfl) ?_
  refine r_if_eq (pc := 5) (tgt := 15) F dX9_lantern_5 rfl h0 (fun h0 => ?_) (fun h0 => ?_)
  · refine r_aload_n (pc := 15) F dX9_lantern_15 rfl ?_
    refine r_getf (pc := 16) F dX9_lantern_16 fl_9_10 i68_0 (ce_0 _ _ _) rfl ?_
    refine r_getf (pc := 19) F dX9_lantern_19 fl_9_216 i68_1 (ce_1 _ _ _) rfl ?_
    refine r_if_ne (pc := 22) (tgt := 32) F dX9_lantern_22 rfl h0 (fun h0 => ?_) (fun h0 => ?_)
    · refine r_aload_n (pc := 25) F dX9_lantern_25 rfl ?_
      refine r_bipush (pc := 26) F dX9_lantern_26 bp_m3 ?_
      obtain ⟨q3, er2, h0⟩ := bind_some h0
      replace h0 := un2_eq h0
      obtain ⟨r2, w1, rfl, h0⟩ := h0
      refine r_Vj1 (pc := 28) F dX9_lantern_28 ml_9_85 (kX9_refuse _ w (-3) (r2, w1) er2) i68_0 (ce_0 _ _ _) (Nat.le_of_ble_eq_true rfl) (Nat.le_of_ble_eq_true rfl) (Nat.le_of_ble_eq_true rfl) ?_
      exact hR _ _ _ _ dX9_lantern_31 rfl (Option.some.inj h0)
    · refine r_aload_n (pc := 32) F dX9_lantern_32 rfl ?_
      refine r_getf (pc := 33) F dX9_lantern_33 fl_9_68 i68_0 (ce_0 _ _ _) rfl ?_
      obtain ⟨w5, ew5, h0⟩ := bind_some h0
      refine r_Vv0 (pc := 36) F dX9_lantern_36 ml_9_228 (kX1_findLantern _ w w5 ew5) i68_10 (ce_10 _ _ _) (Nat.le_of_ble_eq_true rfl) (Nat.le_of_ble_eq_true rfl) (Nat.le_of_ble_eq_true rfl) ?_
      refine r_iload_n (pc := 39) F dX9_lantern_39 rfl ?_
      refine r_if_ne (pc := 40) (tgt := 53) F dX9_lantern_40 rfl h0 (fun h0 => ?_) (fun h0 => ?_)
      · refine r_aload_n (pc := 43) F dX9_lantern_43 rfl ?_
        refine r_getf (pc := 44) F dX9_lantern_44 fl_9_68 i68_0 (ce_0 _ _ _) rfl ?_
        refine r_getf (pc := 47) F dX9_lantern_47 fl_9_222 i68_10 (ce_10 _ _ _) rfl ?_
        refine r_goto (pc := 50) (tgt := 60) F dX9_lantern_50 rfl ?_
        exact hR _ _ _ _ dX9_lantern_60 rfl (Option.some.inj h0)
      · refine r_aload_n (pc := 53) F dX9_lantern_53 rfl ?_
        refine r_getf (pc := 54) F dX9_lantern_54 fl_9_68 i68_0 (ce_0 _ _ _) rfl ?_
        refine r_getf (pc := 57) F dX9_lantern_57 fl_9_225 i68_10 (ce_10 _ _ _) rfl ?_
        exact hR _ _ _ _ dX9_lantern_60 rfl (Option.some.inj h0)
  · refine r_aload_n (pc := 8) F dX9_lantern_8 rfl ?_
    refine r_bipush (pc := 9) F dX9_lantern_9 bp_m2 ?_
    obtain ⟨q11, er10, h0⟩ := bind_some h0
    replace h0 := un2_eq h0
    obtain ⟨r10, w9, rfl, h0⟩ := h0
    refine r_Vj1 (pc := 11) F dX9_lantern_11 ml_9_85 (kX9_refuse _ w (-2) (r10, w9) er10) i68_0 (ce_0 _ _ _) (Nat.le_of_ble_eq_true rfl) (Nat.le_of_ble_eq_true rfl) (Nat.le_of_ble_eq_true rfl) ?_
    exact hR _ _ _ _ dX9_lantern_14 rfl (Option.some.inj h0)
set_option maxRecDepth 100000 in
set_option maxHeartbeats 4000000 in
theorem kX1_lanternsDo (g : GT) (w : Wd) (a1 : Int32) (out : Int32 × Wd) (h0 : fX1_lanternsDo w a1 = some out) : CtI g yX1_lanternsDo cX1_lanternsDo 3 (some .boolean) 4 92 [.ref (g.1 10), .int a1] w (fun r w1 => (r, w1) = out) := by
  refine CtI_of .boolean (by decide) (Nat.le_of_ble_eq_true rfl) (fun Z hg F hR => ?_)
  subst hg
  have F : Fx Z RX1 cX1_lanternsDo 3 4 92 := F
  refine V_sub (ls' := [(0, .ref ((zg Z).1 10)), (1, .int a1)]) [0, 1] rfl ?_
  unfold fX1_lanternsDo at h0
  refine r_aload_n (pc := 0) F dX1_lanternsDo_0 rfl ?_
  refine r_getf (pc := 1) F dX1_lanternsDo_1 fl_1_15 i68_10 (ce_10 _ _ _) rfl ?_
  refine r_aload_n (pc := 4) F dX1_lanternsDo_4 rfl ?_
  refine r_getf (pc := 5) F dX1_lanternsDo_5 fl_1_9 i68_10 (ce_10 _ _ _) rfl ?_
  obtain ⟨w1, ew1, h0⟩ := lt_some h0
  refine r_Vv1 (pc := 8) F dX1_lanternsDo_8 ml_1_47 (kX2_takeFrom _ 3 co3 1 co1 w w1 ew1.symm) i68_3 (ce_3 _ _ _) (Nat.le_of_ble_eq_true rfl) (Nat.le_of_ble_eq_true rfl) (Nat.le_of_ble_eq_true rfl) ?_
  refine r_iconst (pc := 11) F dX1_lanternsDo_11 ic_0 ?_
  refine r_istore_n (pc := 12) (ls' := [(0, .ref ((zg Z).1 10)), (1, .int a1), (2, .int 0)]) F dX1_lanternsDo_12 (Nat.le_of_ble_eq_true rfl) rfl ?_
  obtain ⟨w13, iw13, h0⟩ := bind_some h0
  suffices E13 : V Z 46 [(0, .ref ((zg Z).1 10))] [] w13 by
    refine iter_rule (P := fun s : Int32 × Wd => V Z 13 [(0, .ref ((zg Z).1 10)), (1, .int a1), (2, .int (s.1))] [] s.2) (x := w13) ?_ FU (0, w1) iw13
    intro s y1 h1 hP1 hX1
    obtain ⟨l3, w4⟩ := s
    have h1 : fX1_lanternsDo_b13 a1 l3 w4 = some y1 := h1
    unfold fX1_lanternsDo_b13 at h1
    refine r_iload_n (pc := 13) F dX1_lanternsDo_13 rfl ?_
    refine r_aload_n (pc := 14) F dX1_lanternsDo_14 rfl ?_
    refine r_getf (pc := 15) F dX1_lanternsDo_15 fl_1_9 i68_10 (ce_10 _ _ _) rfl ?_
    refine r_getf (pc := 18) F dX1_lanternsDo_18 fl_1_43 i68_1 (ce_1 _ _ _) rfl ?_
    refine r_icmp_ge (pc := 21) (tgt := 46) F dX1_lanternsDo_21 rfl h1 (fun h1 => ?_) (fun h1 => ?_)
    · refine V_sub (ls' := [(0, .ref ((zg Z).1 10))]) [0] rfl ?_
      have e5 := hX1 _ (Option.some.inj h1).symm
      cases e5
      exact E13
    · refine r_iload_n (pc := 24) F dX1_lanternsDo_24 rfl ?_
      refine r_iload_n (pc := 25) F dX1_lanternsDo_25 rfl ?_
      refine r_Ni2 (pc := 26) F dX1_lanternsDo_26 ml_1_146 (kX9_hasBit _ w4 a1 l3 _ rfl) (Nat.le_of_ble_eq_true rfl) (Nat.le_of_ble_eq_true rfl) (Nat.le_of_ble_eq_true rfl) ?_
      refine r_if_eq (pc := 29) (tgt := 40) F dX1_lanternsDo_29 rfl h1 (fun h1 => ?_) (fun h1 => ?_)
      · obtain ⟨v6, ev6, h1⟩ := lt_some h1
        refine r_iinc (pc := 40) (ls' := [(0, .ref ((zg Z).1 10)), (1, .int a1), (2, .int v6)]) F dX1_lanternsDo_40 rfl (by rw [ev6]; rfl) (Nat.le_of_ble_eq_true rfl) rfl ?_
        refine r_goto (pc := 43) (tgt := 13) F dX1_lanternsDo_43 rfl ?_
        exact hP1 (v6, w4) (Option.some.inj h1).symm
      · refine r_aload_n (pc := 32) F dX1_lanternsDo_32 rfl ?_
        refine r_getf (pc := 33) F dX1_lanternsDo_33 fl_1_15 i68_10 (ce_10 _ _ _) rfl ?_
        refine r_iload_n (pc := 36) F dX1_lanternsDo_36 rfl ?_
        obtain ⟨w7, ew7, h1⟩ := bind_some h1
        refine r_Vv1 (pc := 37) F dX1_lanternsDo_37 ml_1_80 (kX2_becomeLantern _ 3 co3 w4 l3 w7 ew7) i68_3 (ce_3 _ _ _) (Nat.le_of_ble_eq_true rfl) (Nat.le_of_ble_eq_true rfl) (Nat.le_of_ble_eq_true rfl) ?_
        obtain ⟨v9, ev9, h1⟩ := lt_some h1
        refine r_iinc (pc := 40) (ls' := [(0, .ref ((zg Z).1 10)), (1, .int a1), (2, .int v9)]) F dX1_lanternsDo_40 rfl (by rw [ev9]; rfl) (Nat.le_of_ble_eq_true rfl) rfl ?_
        refine r_goto (pc := 43) (tgt := 13) F dX1_lanternsDo_43 rfl ?_
        exact hP1 (v9, w7) (Option.some.inj h1).symm
  refine r_aload_n (pc := 46) F dX1_lanternsDo_46 rfl ?_
  refine r_aload_n (pc := 47) F dX1_lanternsDo_47 rfl ?_
  refine r_getf (pc := 48) F dX1_lanternsDo_48 fl_1_15 i68_10 (ce_10 _ _ _) rfl ?_
  obtain ⟨q17, er16, h0⟩ := bind_some h0
  replace h0 := un2_eq h0
  obtain ⟨r16, w15, rfl, h0⟩ := h0
  refine r_Vj1 (pc := 51) F dX1_lanternsDo_51 ml_1_29 (kX1_doorOf _ 3 co3 w13 (r16, w15) er16) i68_10 (ce_10 _ _ _) (Nat.le_of_ble_eq_true rfl) (Nat.le_of_ble_eq_true rfl) (Nat.le_of_ble_eq_true rfl) ?_
  refine r_aload_n (pc := 54) F dX1_lanternsDo_54 rfl ?_
  refine r_getf (pc := 55) F dX1_lanternsDo_55 fl_1_15 i68_10 (ce_10 _ _ _) rfl ?_
  obtain ⟨r19, er19, h0⟩ := bind_some h0
  refine r_Vi0 (pc := 58) F dX1_lanternsDo_58 ml_1_162 (kX2_grownOnes _ 3 co3 w15 r19 er19) i68_3 (ce_3 _ _ _) (Nat.le_of_ble_eq_true rfl) (Nat.le_of_ble_eq_true rfl) (Nat.le_of_ble_eq_true rfl) ?_
  refine r_icmp_ne (pc := 61) (tgt := 68) F dX1_lanternsDo_61 rfl h0 (fun h0 => ?_) (fun h0 => ?_)
  · refine r_iconst (pc := 64) F dX1_lanternsDo_64 ic_1 ?_
    refine r_goto (pc := 65) (tgt := 69) F dX1_lanternsDo_65 rfl ?_
    exact hR _ _ _ _ dX1_lanternsDo_69 rfl (Option.some.inj h0)
  · refine r_iconst (pc := 68) F dX1_lanternsDo_68 ic_0 ?_
    exact hR _ _ _ _ dX1_lanternsDo_69 rfl (Option.some.inj h0)
set_option maxRecDepth 100000 in
set_option maxHeartbeats 4000000 in
theorem kX1_fewestLanterns (g : GT) (w : Wd) (out : Int32 × Wd) (h0 : fX1_fewestLanterns w = some out) : CtI g yX1_fewestLanterns cX1_fewestLanterns 6 (some .int) 5 114 [.ref (g.1 10)] w (fun r w1 => (r, w1) = out) := by
  refine CtI_of .int (by decide) (Nat.le_of_ble_eq_true rfl) (fun Z hg F hR => ?_)
  subst hg
  have F : Fx Z RX1 cX1_fewestLanterns 6 5 114 := F
  refine V_sub (ls' := [(0, .ref ((zg Z).1 10))]) [0] rfl ?_
  unfold fX1_fewestLanterns at h0
  refine r_aload_n (pc := 0) F dX1_fewestLanterns_0 rfl ?_
  refine r_getf (pc := 1) F dX1_fewestLanterns_1 fl_1_9 i68_10 (ce_10 _ _ _) rfl ?_
  refine r_Vi0 (pc := 4) F dX1_fewestLanterns_4 ml_1_83 (kX2_everybody _ 1 co1 w _ rfl) i68_1 (ce_1 _ _ _) (Nat.le_of_ble_eq_true rfl) (Nat.le_of_ble_eq_true rfl) (Nat.le_of_ble_eq_true rfl) ?_
  obtain ⟨v1, ev1, h0⟩ := lt_some h0
  refine V_nm ev1 ?_
  refine r_istore_n (pc := 7) (ls' := [(0, .ref ((zg Z).1 10)), (1, .int v1)]) F dX1_fewestLanterns_7 (Nat.le_of_ble_eq_true rfl) rfl ?_
  refine r_bipush (pc := 8) F dX1_fewestLanterns_8 bp_m9 ?_
  refine r_istore_n (pc := 10) (ls' := [(0, .ref ((zg Z).1 10)), (1, .int v1), (2, .int (-9))]) F dX1_fewestLanterns_10 (Nat.le_of_ble_eq_true rfl) rfl ?_
  refine r_bipush (pc := 11) F dX1_fewestLanterns_11 bp_9 ?_
  refine r_istore_n (pc := 13) (ls' := [(0, .ref ((zg Z).1 10)), (1, .int v1), (2, .int (-9)), (3, .int 9)]) F dX1_fewestLanterns_13 (Nat.le_of_ble_eq_true rfl) rfl ?_
  refine r_iconst (pc := 14) F dX1_fewestLanterns_14 ic_0 ?_
  refine r_istore (pc := 15) (ls' := [(0, .ref ((zg Z).1 10)), (1, .int v1), (2, .int (-9)), (3, .int 9), (4, .int 0)]) F dX1_fewestLanterns_15 (Nat.le_of_ble_eq_true rfl) rfl ?_
  obtain ⟨x18, ix18, h0⟩ := bind_some h0
  replace h0 := un2_eq h0
  obtain ⟨l19, w20, rfl, h0⟩ := h0
  suffices E17 : V Z 57 [(2, .int l19)] [] w20 by
    refine iter_rule (P := fun s : Int32 × Int32 × Int32 × Wd => V Z 17 [(0, .ref ((zg Z).1 10)), (1, .int v1), (2, .int (s.1)), (3, .int (s.2.1)), (4, .int (s.2.2.1))] [] s.2.2.2) (x := (l19, w20)) ?_ FU ((-9), 9, 0, w) ix18
    intro s y1 h1 hP1 hX1
    obtain ⟨l2, l3, l4, w5⟩ := s
    have h1 : fX1_fewestLanterns_b17 v1 l2 l3 l4 w5 = some y1 := h1
    unfold fX1_fewestLanterns_b17 at h1
    refine r_iload (pc := 17) F dX1_fewestLanterns_17 rfl ?_
    refine r_iload_n (pc := 19) F dX1_fewestLanterns_19 rfl ?_
    refine r_icmp_gt (pc := 20) (tgt := 57) F dX1_fewestLanterns_20 rfl h1 (fun h1 => ?_) (fun h1 => ?_)
    · refine V_sub (ls' := [(2, .int l2)]) [2] rfl ?_
      have e6 := hX1 _ (Option.some.inj h1).symm
      cases e6
      exact E17
    · refine r_iload (pc := 23) F dX1_fewestLanterns_23 rfl ?_
      refine r_Si1 (pc := 25) F dX1_fewestLanterns_25 ml_1_87 (kJ6_bitCount_0f7a4 _ w5 l4 _ rfl) (Nat.le_of_ble_eq_true rfl) (Nat.le_of_ble_eq_true rfl) (Nat.le_of_ble_eq_true rfl) ?_
      obtain ⟨v7, ev7, h1⟩ := lt_some h1
      refine V_nm ev7 ?_
      refine r_istore (pc := 28) (ls' := [(0, .ref ((zg Z).1 10)), (1, .int v1), (2, .int l2), (3, .int l3), (4, .int l4), (5, .int v7)]) F dX1_fewestLanterns_28 (Nat.le_of_ble_eq_true rfl) rfl ?_
      refine r_iload (pc := 30) F dX1_fewestLanterns_30 rfl ?_
      refine r_iload_n (pc := 32) F dX1_fewestLanterns_32 rfl ?_
      refine r_icmp_ge (pc := 33) (tgt := 51) F dX1_fewestLanterns_33 rfl h1 (fun h1 => ?_) (fun h1 => ?_)
      · obtain ⟨v8, ev8, h1⟩ := lt_some h1
        refine r_iinc (pc := 51) (ls' := [(0, .ref ((zg Z).1 10)), (1, .int v1), (2, .int l2), (3, .int l3), (4, .int v8), (5, .int v7)]) F dX1_fewestLanterns_51 rfl (by rw [ev8]; rfl) (Nat.le_of_ble_eq_true rfl) rfl ?_
        refine r_goto (pc := 54) (tgt := 17) F dX1_fewestLanterns_54 rfl ?_
        refine V_sub (ls' := [(0, .ref ((zg Z).1 10)), (1, .int v1), (2, .int l2), (3, .int l3), (4, .int v8)]) [0, 1, 2, 3, 4] rfl ?_
        exact hP1 (l2, l3, v8, w5) (Option.some.inj h1).symm
      · refine r_aload_n (pc := 36) F dX1_fewestLanterns_36 rfl ?_
        refine r_iload (pc := 37) F dX1_fewestLanterns_37 rfl ?_
        obtain ⟨q11, er10, h1⟩ := bind_some h1
        replace h1 := un2_eq h1
        obtain ⟨r10, w9, rfl, h1⟩ := h1
        refine r_Vj1 (pc := 39) F dX1_fewestLanterns_39 ml_1_92 (kX1_lanternsDo _ w5 l4 (r10, w9) er10) i68_10 (ce_10 _ _ _) (Nat.le_of_ble_eq_true rfl) (Nat.le_of_ble_eq_true rfl) (Nat.le_of_ble_eq_true rfl) ?_
        refine r_if_eq (pc := 42) (tgt := 51) F dX1_fewestLanterns_42 rfl h1 (fun h1 => ?_) (fun h1 => ?_)
        · obtain ⟨v13, ev13, h1⟩ := lt_some h1
          refine r_iinc (pc := 51) (ls' := [(0, .ref ((zg Z).1 10)), (1, .int v1), (2, .int l2), (3, .int l3), (4, .int v13), (5, .int v7)]) F dX1_fewestLanterns_51 rfl (by rw [ev13]; rfl) (Nat.le_of_ble_eq_true rfl) rfl ?_
          refine r_goto (pc := 54) (tgt := 17) F dX1_fewestLanterns_54 rfl ?_
          refine V_sub (ls' := [(0, .ref ((zg Z).1 10)), (1, .int v1), (2, .int l2), (3, .int l3), (4, .int v13)]) [0, 1, 2, 3, 4] rfl ?_
          exact hP1 (l2, l3, v13, w9) (Option.some.inj h1).symm
        · refine r_iload (pc := 45) F dX1_fewestLanterns_45 rfl ?_
          refine r_istore_n (pc := 47) (ls' := [(0, .ref ((zg Z).1 10)), (1, .int v1), (2, .int l4), (3, .int l3), (4, .int l4), (5, .int v7)]) F dX1_fewestLanterns_47 (Nat.le_of_ble_eq_true rfl) rfl ?_
          refine r_iload (pc := 48) F dX1_fewestLanterns_48 rfl ?_
          refine r_istore_n (pc := 50) (ls' := [(0, .ref ((zg Z).1 10)), (1, .int v1), (2, .int l4), (3, .int v7), (4, .int l4), (5, .int v7)]) F dX1_fewestLanterns_50 (Nat.le_of_ble_eq_true rfl) rfl ?_
          obtain ⟨v14, ev14, h1⟩ := lt_some h1
          refine r_iinc (pc := 51) (ls' := [(0, .ref ((zg Z).1 10)), (1, .int v1), (2, .int l4), (3, .int v7), (4, .int v14), (5, .int v7)]) F dX1_fewestLanterns_51 rfl (by rw [ev14]; rfl) (Nat.le_of_ble_eq_true rfl) rfl ?_
          refine r_goto (pc := 54) (tgt := 17) F dX1_fewestLanterns_54 rfl ?_
          refine V_sub (ls' := [(0, .ref ((zg Z).1 10)), (1, .int v1), (2, .int l4), (3, .int v7), (4, .int v14)]) [0, 1, 2, 3, 4] rfl ?_
          exact hP1 (l4, v7, v14, w9) (Option.some.inj h1).symm
  refine r_iload_n (pc := 57) F dX1_fewestLanterns_57 rfl ?_
  exact hR _ _ _ _ dX1_fewestLanterns_58 rfl (Option.some.inj h0)
set_option maxRecDepth 100000 in
set_option maxHeartbeats 4000000 in
theorem kX9_numberOrSet (g : GT) (w : Wd) (a0 : Int32) (a1 : Int32) (out : Int32) (h0 : fX9_numberOrSet a0 a1 = out) : CtI g yX9_numberOrSet cX9_numberOrSet 2 (some .int) 1 20 [.int a0, .int a1] w (fun r w1 => r = out ∧ w1 = w) := by
  refine CtI_of .int (by decide) (Nat.le_of_ble_eq_true rfl) (fun Z hg F hR => ?_)
  subst hg
  have F : Fx Z RX9 cX9_numberOrSet 2 1 20 := F
  refine V_sub (ls' := [(0, .int a0), (1, .int a1)]) [0, 1] rfl ?_
  unfold fX9_numberOrSet at h0
  refine r_iload_n (pc := 0) F dX9_numberOrSet_0 rfl ?_
  refine r_if_ge (pc := 1) (tgt := 7) F dX9_numberOrSet_1 rfl h0 (fun h0 => ?_) (fun h0 => ?_)
  · refine r_iload_n (pc := 7) F dX9_numberOrSet_7 rfl ?_
    refine r_if_ne (pc := 8) (tgt := 18) F dX9_numberOrSet_8 rfl h0 (fun h0 => ?_) (fun h0 => ?_)
    · refine r_iload_n (pc := 11) F dX9_numberOrSet_11 rfl ?_
      refine r_Si1 (pc := 12) F dX9_numberOrSet_12 ml_9_184 (kJ6_bitCount_0f7a4 _ w a1 _ rfl) (Nat.le_of_ble_eq_true rfl) (Nat.le_of_ble_eq_true rfl) (Nat.le_of_ble_eq_true rfl) ?_
      refine r_goto (pc := 15) (tgt := 19) F dX9_numberOrSet_15 rfl ?_
      exact hR _ _ _ _ dX9_numberOrSet_19 rfl ⟨h0, rfl⟩
    · refine r_iload_n (pc := 18) F dX9_numberOrSet_18 rfl ?_
      exact hR _ _ _ _ dX9_numberOrSet_19 rfl ⟨h0, rfl⟩
  · refine r_bipush (pc := 4) F dX9_numberOrSet_4 bp_m9 ?_
    exact hR _ _ _ _ dX9_numberOrSet_6 rfl ⟨h0, rfl⟩
set_option maxRecDepth 100000 in
set_option maxHeartbeats 4000000 in
theorem kX9_fewest (g : GT) (w : Wd) (a1 : Int32) (out : Int32 × Wd) (h0 : fX9_fewest w a1 = some out) : CtI g yX9_fewest cX9_fewest 2 (some .int) 6 139 [.ref (g.1 0), .int a1] w (fun r w1 => (r, w1) = out) := by
  refine CtI_of .int (by decide) (Nat.le_of_ble_eq_true rfl) (fun Z hg F hR => ?_)
  subst hg
  have F : Fx Z RX9 cX9_fewest 2 6 139 := F
  refine V_sub (ls' := [(0, .ref ((zg Z).1 0)), (1, .int a1)]) [0, 1] rfl ?_
  unfold fX9_fewest at h0
  refine r_iload_n (pc := 0) F dX9_fewest_0 rfl ?_
  refine r_iconst (pc := 1) F dX9_fewest_1 ic_1 ?_
  refine r_Si2 (pc := 2) F dX9_fewest_2 ml_9_115 (kX9_isOutside _ w a1 1 _ rfl) (Nat.le_of_ble_eq_true rfl) (Nat.le_of_ble_eq_true rfl) (Nat.le_of_ble_eq_true rfl) ?_
  refine r_if_eq (pc := 5) (tgt := 15) F dX9_fewest_5 rfl h0 (fun h0 => ?_) (fun h0 => ?_)
  · refine r_iload_n (pc := 15) F dX9_fewest_15 rfl ?_
    refine r_aload_n (pc := 16) F dX9_fewest_16 rfl ?_
    refine r_getf (pc := 17) F dX9_fewest_17 fl_9_68 i68_0 (ce_0 _ _ _) rfl ?_
    obtain ⟨q3, er2, h0⟩ := bind_some h0
    replace h0 := un2_eq h0
    obtain ⟨r2, w1, rfl, h0⟩ := h0
    refine r_Vj0 (pc := 20) F dX9_fewest_20 ml_9_231 (kX1_fewestLanterns _ w (r2, w1) er2) i68_10 (ce_10 _ _ _) (Nat.le_of_ble_eq_true rfl) (Nat.le_of_ble_eq_true rfl) (Nat.le_of_ble_eq_true rfl) ?_
    refine r_Si2 (pc := 23) F dX9_fewest_23 ml_9_234 (kX9_numberOrSet _ w1 a1 r2 _ rfl) (Nat.le_of_ble_eq_true rfl) (Nat.le_of_ble_eq_true rfl) (Nat.le_of_ble_eq_true rfl) ?_
    exact hR _ _ _ _ dX9_fewest_26 rfl (Option.some.inj h0)
  · refine r_aload_n (pc := 8) F dX9_fewest_8 rfl ?_
    refine r_bipush (pc := 9) F dX9_fewest_9 bp_m2 ?_
    obtain ⟨q7, er6, h0⟩ := bind_some h0
    replace h0 := un2_eq h0
    obtain ⟨r6, w5, rfl, h0⟩ := h0
    refine r_Vj1 (pc := 11) F dX9_fewest_11 ml_9_85 (kX9_refuse _ w (-2) (r6, w5) er6) i68_0 (ce_0 _ _ _) (Nat.le_of_ble_eq_true rfl) (Nat.le_of_ble_eq_true rfl) (Nat.le_of_ble_eq_true rfl) ?_
    exact hR _ _ _ _ dX9_fewest_14 rfl (Option.some.inj h0)
set_option maxRecDepth 100000 in
set_option maxHeartbeats 4000000 in
theorem kX6_bestMatch (g : GT) (w : Wd) (out : Int32 × Wd) (h0 : fX6_bestMatch w = some out) : CtI g yX6_bestMatch cX6_bestMatch 6 (some .int) 5 110 [.ref (g.1 9)] w (fun r w1 => (r, w1) = out) := by
  refine CtI_of .int (by decide) (Nat.le_of_ble_eq_true rfl) (fun Z hg F hR => ?_)
  subst hg
  have F : Fx Z RX6 cX6_bestMatch 6 5 110 := F
  refine V_sub (ls' := [(0, .ref ((zg Z).1 9))]) [0] rfl ?_
  unfold fX6_bestMatch at h0
  refine r_aload_n (pc := 0) F dX6_bestMatch_0 rfl ?_
  obtain ⟨q3, er2, h0⟩ := bind_some h0
  replace h0 := un2_eq h0
  obtain ⟨r2, w1, rfl, h0⟩ := h0
  refine r_Vj0 (pc := 1) F dX6_bestMatch_1 ml_6_23 (kX6_startFromNow _ w (r2, w1) er2) i68_9 (ce_9 _ _ _) (Nat.le_of_ble_eq_true rfl) (Nat.le_of_ble_eq_true rfl) (Nat.le_of_ble_eq_true rfl) ?_
  refine r_istore_n (pc := 4) (ls' := [(0, .ref ((zg Z).1 9)), (1, .int r2)]) F dX6_bestMatch_4 (Nat.le_of_ble_eq_true rfl) rfl ?_
  refine r_bipush (pc := 5) F dX6_bestMatch_5 bp_m9 ?_
  refine r_istore_n (pc := 7) (ls' := [(0, .ref ((zg Z).1 9)), (1, .int r2), (2, .int (-9))]) F dX6_bestMatch_7 (Nat.le_of_ble_eq_true rfl) rfl ?_
  refine r_aload_n (pc := 8) F dX6_bestMatch_8 rfl ?_
  refine r_getf (pc := 9) F dX6_bestMatch_9 fl_6_15 i68_9 (ce_9 _ _ _) rfl ?_
  refine r_getf (pc := 12) F dX6_bestMatch_12 fl_6_27 i68_4 (ce_4 _ _ _) rfl ?_
  refine r_iconst (pc := 15) F dX6_bestMatch_15 ic_1 ?_
  refine r_isub (pc := 16) F dX6_bestMatch_16 ?_
  obtain ⟨v5, ev5, h0⟩ := lt_some h0
  refine V_nm ev5 ?_
  refine r_istore_n (pc := 17) (ls' := [(0, .ref ((zg Z).1 9)), (1, .int r2), (2, .int (-9)), (3, .int v5)]) F dX6_bestMatch_17 (Nat.le_of_ble_eq_true rfl) rfl ?_
  obtain ⟨x36, ix36, h0⟩ := bind_some h0
  replace h0 := un2_eq h0
  obtain ⟨l37, w38, rfl, h0⟩ := h0
  suffices E18 : V Z 108 [(2, .int l37)] [] w38 by
    refine iter_rule (P := fun s : Int32 × Int32 × Int32 × Wd => V Z 18 [(0, .ref ((zg Z).1 9)), (1, .int (s.1)), (2, .int (s.2.1)), (3, .int (s.2.2.1))] [] s.2.2.2) (x := (l37, w38)) ?_ FU (r2, (-9), v5, w1) ix36
    intro s y1 h1 hP1 hX1
    obtain ⟨l6, l7, l8, w9⟩ := s
    have h1 : fX6_bestMatch_b18 l6 l7 l8 w9 = some y1 := h1
    unfold fX6_bestMatch_b18 at h1
    refine r_iload_n (pc := 18) F dX6_bestMatch_18 rfl ?_
    refine r_if_lt (pc := 19) (tgt := 108) F dX6_bestMatch_19 rfl h1 (fun h1 => ?_) (fun h1 => ?_)
    · refine V_sub (ls' := [(2, .int l7)]) [2] rfl ?_
      have e10 := hX1 _ (Option.some.inj h1).symm
      cases e10
      exact E18
    · refine r_iconst (pc := 22) F dX6_bestMatch_22 ic_0 ?_
      refine r_istore (pc := 23) (ls' := [(0, .ref ((zg Z).1 9)), (1, .int l6), (2, .int l7), (3, .int l8), (4, .int 0)]) F dX6_bestMatch_23 (Nat.le_of_ble_eq_true rfl) rfl ?_
      obtain ⟨x29, ix29, h1⟩ := bind_some h1
      replace h1 := un3_eq h1
      obtain ⟨l30, l31, w32, rfl, h1⟩ := h1
      suffices E25 : V Z 102 [(0, .ref ((zg Z).1 9)), (1, .int l30), (2, .int l31), (3, .int l8)] [] w32 by
        refine iter_rule (P := fun s : Int32 × Int32 × Int32 × Wd => V Z 25 [(0, .ref ((zg Z).1 9)), (1, .int (s.1)), (2, .int (s.2.1)), (3, .int l8), (4, .int (s.2.2.1))] [] s.2.2.2) (x := (l30, l31, w32)) ?_ FU (l6, l7, 0, w9) ix29
        intro s y2 h2 hP2 hX2
        obtain ⟨l11, l12, l13, w14⟩ := s
        have h2 : fX6_bestMatch_b25 l8 l11 l12 l13 w14 = some y2 := h2
        unfold fX6_bestMatch_b25 at h2
        refine r_iload (pc := 25) F dX6_bestMatch_25 rfl ?_
        refine r_aload_n (pc := 27) F dX6_bestMatch_27 rfl ?_
        refine r_getf (pc := 28) F dX6_bestMatch_28 fl_6_15 i68_9 (ce_9 _ _ _) rfl ?_
        refine r_getf (pc := 31) F dX6_bestMatch_31 fl_6_46 i68_4 (ce_4 _ _ _) rfl ?_
        refine r_icmp_ge (pc := 34) (tgt := 102) F dX6_bestMatch_34 rfl h2 (fun h2 => ?_) (fun h2 => ?_)
        · refine V_sub (ls' := [(0, .ref ((zg Z).1 9)), (1, .int l11), (2, .int l12), (3, .int l8)]) [0, 1, 2, 3] rfl ?_
          have e15 := hX2 _ (Option.some.inj h2).symm
          cases e15
          exact E25
        · refine r_aload_n (pc := 37) F dX6_bestMatch_37 rfl ?_
          refine r_getf (pc := 38) F dX6_bestMatch_38 fl_6_15 i68_9 (ce_9 _ _ _) rfl ?_
          refine r_getf (pc := 41) F dX6_bestMatch_41 fl_6_49 i68_4 (ce_4 _ _ _) rfl ?_
          refine r_iload (pc := 44) F dX6_bestMatch_44 rfl ?_
          refine r_Ni2 (pc := 46) F dX6_bestMatch_46 ml_6_52 (kX9_hasBit _ w14 (w14.1 4 1) l13 _ rfl) (Nat.le_of_ble_eq_true rfl) (Nat.le_of_ble_eq_true rfl) (Nat.le_of_ble_eq_true rfl) ?_
          refine r_if_eq (pc := 49) (tgt := 96) F dX6_bestMatch_49 rfl h2 (fun h2 => ?_) (fun h2 => ?_)
          · obtain ⟨v16, ev16, h2⟩ := lt_some h2
            refine r_iinc (pc := 96) (ls' := [(0, .ref ((zg Z).1 9)), (1, .int l11), (2, .int l12), (3, .int l8), (4, .int v16)]) F dX6_bestMatch_96 rfl (by rw [ev16]; rfl) (Nat.le_of_ble_eq_true rfl) rfl ?_
            refine r_goto (pc := 99) (tgt := 25) F dX6_bestMatch_99 rfl ?_
            exact hP2 (l11, l12, v16, w14) (Option.some.inj h2).symm
          · refine r_aload_n (pc := 52) F dX6_bestMatch_52 rfl ?_
            refine r_getf (pc := 53) F dX6_bestMatch_53 fl_6_15 i68_9 (ce_9 _ _ _) rfl ?_
            refine r_iload_n (pc := 56) F dX6_bestMatch_56 rfl ?_
            refine r_aload_n (pc := 57) F dX6_bestMatch_57 rfl ?_
            refine r_getf (pc := 58) F dX6_bestMatch_58 fl_6_15 i68_9 (ce_9 _ _ _) rfl ?_
            refine r_getf (pc := 61) F dX6_bestMatch_61 fl_6_56 i68_4 (ce_4 _ _ _) rfl ?_
            refine r_iload_n (pc := 64) F dX6_bestMatch_64 rfl ?_
            obtain ⟨g17, h2⟩ := gd_some h2
            refine r_iald (pc := 65) F dX6_bestMatch_65 i68_26 (ca_26 _) g17 rfl ?_
            refine r_iconst (pc := 66) F dX6_bestMatch_66 ic_1 ?_
            refine r_iload (pc := 67) F dX6_bestMatch_67 rfl ?_
            refine r_ishl (pc := 69) F dX6_bestMatch_69 ?_
            refine r_ior (pc := 70) F dX6_bestMatch_70 ?_
            obtain ⟨q20, er19, h2⟩ := bind_some h2
            replace h2 := un2_eq h2
            obtain ⟨r19, w18, rfl, h2⟩ := h2
            refine r_Vj2 (pc := 71) F dX6_bestMatch_71 ml_6_59 (kX8_atDoorFrom _ w14 l8 ((w14.1 26 l8.toNatClampNeg) ||| ((1 : Int32) <<< (l13 &&& 31))) (r19, w18) er19) i68_4 (ce_4 _ _ _) (Nat.le_of_ble_eq_true rfl) (Nat.le_of_ble_eq_true rfl) (Nat.le_of_ble_eq_true rfl) ?_
            refine r_Si1 (pc := 74) F dX6_bestMatch_74 ml_6_37 (kJ6_bitCount_0f7a4 _ w18 r19 _ rfl) (Nat.le_of_ble_eq_true rfl) (Nat.le_of_ble_eq_true rfl) (Nat.le_of_ble_eq_true rfl) ?_
            obtain ⟨v22, ev22, h2⟩ := lt_some h2
            refine V_nm ev22 ?_
            refine r_istore (pc := 77) (ls' := [(0, .ref ((zg Z).1 9)), (1, .int l11), (2, .int l12), (3, .int l8), (4, .int l13), (5, .int v22)]) F dX6_bestMatch_77 (Nat.le_of_ble_eq_true rfl) rfl ?_
            refine r_iload (pc := 79) F dX6_bestMatch_79 rfl ?_
            refine r_iload_n (pc := 81) F dX6_bestMatch_81 rfl ?_
            refine r_icmp_le (pc := 82) (tgt := 96) F dX6_bestMatch_82 rfl h2 (fun h2 => ?_) (fun h2 => ?_)
            · obtain ⟨v23, ev23, h2⟩ := lt_some h2
              refine r_iinc (pc := 96) (ls' := [(0, .ref ((zg Z).1 9)), (1, .int l11), (2, .int l12), (3, .int l8), (4, .int v23), (5, .int v22)]) F dX6_bestMatch_96 rfl (by rw [ev23]; rfl) (Nat.le_of_ble_eq_true rfl) rfl ?_
              refine r_goto (pc := 99) (tgt := 25) F dX6_bestMatch_99 rfl ?_
              refine V_sub (ls' := [(0, .ref ((zg Z).1 9)), (1, .int l11), (2, .int l12), (3, .int l8), (4, .int v23)]) [0, 1, 2, 3, 4] rfl ?_
              exact hP2 (l11, l12, v23, w18) (Option.some.inj h2).symm
            · refine r_iload (pc := 85) F dX6_bestMatch_85 rfl ?_
              refine r_istore_n (pc := 87) (ls' := [(0, .ref ((zg Z).1 9)), (1, .int v22), (2, .int l12), (3, .int l8), (4, .int l13), (5, .int v22)]) F dX6_bestMatch_87 (Nat.le_of_ble_eq_true rfl) rfl ?_
              refine r_bipush (pc := 88) F dX6_bestMatch_88 bp_10 ?_
              refine r_iload_n (pc := 90) F dX6_bestMatch_90 rfl ?_
              refine r_imul (pc := 91) F dX6_bestMatch_91 ?_
              refine r_iload (pc := 92) F dX6_bestMatch_92 rfl ?_
              refine r_iadd (pc := 94) F dX6_bestMatch_94 ?_
              obtain ⟨v24, ev24, h2⟩ := lt_some h2
              refine V_nm ev24 ?_
              refine r_istore_n (pc := 95) (ls' := [(0, .ref ((zg Z).1 9)), (1, .int v22), (2, .int v24), (3, .int l8), (4, .int l13), (5, .int v22)]) F dX6_bestMatch_95 (Nat.le_of_ble_eq_true rfl) rfl ?_
              obtain ⟨v25, ev25, h2⟩ := lt_some h2
              refine r_iinc (pc := 96) (ls' := [(0, .ref ((zg Z).1 9)), (1, .int v22), (2, .int v24), (3, .int l8), (4, .int v25), (5, .int v22)]) F dX6_bestMatch_96 rfl (by rw [ev25]; rfl) (Nat.le_of_ble_eq_true rfl) rfl ?_
              refine r_goto (pc := 99) (tgt := 25) F dX6_bestMatch_99 rfl ?_
              refine V_sub (ls' := [(0, .ref ((zg Z).1 9)), (1, .int v22), (2, .int v24), (3, .int l8), (4, .int v25)]) [0, 1, 2, 3, 4] rfl ?_
              exact hP2 (v22, v24, v25, w18) (Option.some.inj h2).symm
      obtain ⟨v34, ev34, h1⟩ := lt_some h1
      refine r_iinc (pc := 102) (ls' := [(0, .ref ((zg Z).1 9)), (1, .int l30), (2, .int l31), (3, .int v34)]) F dX6_bestMatch_102 rfl (by rw [ev34]; rfl) (Nat.le_of_ble_eq_true rfl) rfl ?_
      refine r_goto (pc := 105) (tgt := 18) F dX6_bestMatch_105 rfl ?_
      exact hP1 (l30, l31, v34, w32) (Option.some.inj h1).symm
  refine r_iload_n (pc := 108) F dX6_bestMatch_108 rfl ?_
  exact hR _ _ _ _ dX6_bestMatch_109 rfl (Option.some.inj h0)
set_option maxRecDepth 100000 in
set_option maxHeartbeats 4000000 in
theorem kX9_match (g : GT) (w : Wd) (out : Int32 × Wd) (h0 : fX9_match w = some out) : CtI g yX9_match cX9_match 1 (some .int) 6 135 [.ref (g.1 0)] w (fun r w1 => (r, w1) = out) := by
  refine CtI_of .int (by decide) (Nat.le_of_ble_eq_true rfl) (fun Z hg F hR => ?_)
  subst hg
  have F : Fx Z RX9 cX9_match 1 6 135 := F
  refine V_sub (ls' := [(0, .ref ((zg Z).1 0))]) [0] rfl ?_
  unfold fX9_match at h0
  refine r_aload_n (pc := 0) F dX9_match_0 rfl ?_
  refine r_getf (pc := 1) F dX9_match_1 fl_9_59 i68_0 (ce_0 _ _ _) rfl ?_
  obtain ⟨q3, er2, h0⟩ := bind_some h0
  replace h0 := un2_eq h0
  obtain ⟨r2, w1, rfl, h0⟩ := h0
  refine r_Vj0 (pc := 4) F dX9_match_4 ml_9_237 (kX6_bestMatch _ w (r2, w1) er2) i68_9 (ce_9 _ _ _) (Nat.le_of_ble_eq_true rfl) (Nat.le_of_ble_eq_true rfl) (Nat.le_of_ble_eq_true rfl) ?_
  exact hR _ _ _ _ dX9_match_7 rfl (Option.some.inj h0)
set_option maxRecDepth 100000 in
set_option maxHeartbeats 4000000 in
theorem kX1_leftBehind (g : GT) (w : Wd) (out : Int32 × Wd) (h0 : fX1_leftBehind w = some out) : CtI g yX1_leftBehind cX1_leftBehind 6 (some .int) 4 92 [.ref (g.1 10)] w (fun r w1 => (r, w1) = out) := by
  refine CtI_of .int (by decide) (Nat.le_of_ble_eq_true rfl) (fun Z hg F hR => ?_)
  subst hg
  have F : Fx Z RX1 cX1_leftBehind 6 4 92 := F
  refine V_sub (ls' := [(0, .ref ((zg Z).1 10))]) [0] rfl ?_
  unfold fX1_leftBehind at h0
  refine r_iconst (pc := 0) F dX1_leftBehind_0 ic_0 ?_
  refine r_istore_n (pc := 1) (ls' := [(0, .ref ((zg Z).1 10)), (1, .int 0)]) F dX1_leftBehind_1 (Nat.le_of_ble_eq_true rfl) rfl ?_
  refine r_iconst (pc := 2) F dX1_leftBehind_2 ic_0 ?_
  refine r_istore_n (pc := 3) (ls' := [(0, .ref ((zg Z).1 10)), (1, .int 0), (2, .int 0)]) F dX1_leftBehind_3 (Nat.le_of_ble_eq_true rfl) rfl ?_
  refine r_iconst (pc := 4) F dX1_leftBehind_4 ic_1 ?_
  refine r_istore_n (pc := 5) (ls' := [(0, .ref ((zg Z).1 10)), (1, .int 0), (2, .int 0), (3, .int 1)]) F dX1_leftBehind_5 (Nat.le_of_ble_eq_true rfl) rfl ?_
  refine r_iconst (pc := 6) F dX1_leftBehind_6 ic_0 ?_
  refine r_istore (pc := 7) (ls' := [(0, .ref ((zg Z).1 10)), (1, .int 0), (2, .int 0), (3, .int 1), (4, .int 0)]) F dX1_leftBehind_7 (Nat.le_of_ble_eq_true rfl) rfl ?_
  obtain ⟨x26, ix26, h0⟩ := bind_some h0
  replace h0 := un2_eq h0
  obtain ⟨l27, w28, rfl, h0⟩ := h0
  suffices E9 : V Z 119 [(1, .int l27)] [] w28 by
    refine iter_rule (P := fun s : Int32 × Int32 × Int32 × Int32 × Wd => V Z 9 [(0, .ref ((zg Z).1 10)), (1, .int (s.1)), (2, .int (s.2.1)), (3, .int (s.2.2.1)), (4, .int (s.2.2.2.1))] [] s.2.2.2.2) (x := (l27, w28)) ?_ FU (0, 0, 1, 0, w) ix26
    intro s y1 h1 hP1 hX1
    obtain ⟨l1, l2, l3, l4, w5⟩ := s
    have h1 : fX1_leftBehind_b9 l1 l2 l3 l4 w5 = some y1 := h1
    unfold fX1_leftBehind_b9 at h1
    have J99 : ∀ (w19 : Wd) (l17 : Int32) (l18 : Int32), fX1_leftBehind_j99 w19 l17 l18 = some y1 → V Z 99 [(0, .ref ((zg Z).1 10)), (4, .int l17), (5, .int l18)] [] w19 := by
      intro w19 l17 l18 h1
      unfold fX1_leftBehind_j99 at h1
      refine r_iload (pc := 99) F dX1_leftBehind_99 rfl ?_
      refine r_istore_n (pc := 101) (ls' := [(0, .ref ((zg Z).1 10)), (1, .int l17), (4, .int l17), (5, .int l18)]) F dX1_leftBehind_101 (Nat.le_of_ble_eq_true rfl) rfl ?_
      refine r_iload (pc := 102) F dX1_leftBehind_102 rfl ?_
      refine r_istore_n (pc := 104) (ls' := [(0, .ref ((zg Z).1 10)), (1, .int l17), (2, .int l18), (4, .int l17), (5, .int l18)]) F dX1_leftBehind_104 (Nat.le_of_ble_eq_true rfl) rfl ?_
      refine r_aload_n (pc := 105) F dX1_leftBehind_105 rfl ?_
      refine r_getf (pc := 106) F dX1_leftBehind_106 fl_1_15 i68_10 (ce_10 _ _ _) rfl ?_
      refine r_getf (pc := 109) F dX1_leftBehind_109 fl_1_43 i68_3 (ce_3 _ _ _) rfl ?_
      obtain ⟨v20, ev20, h1⟩ := lt_some h1
      refine V_nm ev20 ?_
      refine r_istore_n (pc := 112) (ls' := [(0, .ref ((zg Z).1 10)), (1, .int l17), (2, .int l18), (3, .int v20), (4, .int l17), (5, .int l18)]) F dX1_leftBehind_112 (Nat.le_of_ble_eq_true rfl) rfl ?_
      obtain ⟨v21, ev21, h1⟩ := lt_some h1
      refine r_iinc (pc := 113) (ls' := [(0, .ref ((zg Z).1 10)), (1, .int l17), (2, .int l18), (3, .int v20), (4, .int v21), (5, .int l18)]) F dX1_leftBehind_113 rfl (by rw [ev21]; rfl) (Nat.le_of_ble_eq_true rfl) rfl ?_
      refine r_goto (pc := 116) (tgt := 9) F dX1_leftBehind_116 rfl ?_
      refine V_sub (ls' := [(0, .ref ((zg Z).1 10)), (1, .int l17), (2, .int l18), (3, .int v20), (4, .int v21)]) [0, 1, 2, 3, 4] rfl ?_
      exact hP1 (l17, l18, v20, v21, w19) (Option.some.inj h1).symm
    refine r_iload (pc := 9) F dX1_leftBehind_9 rfl ?_
    refine r_aload_n (pc := 11) F dX1_leftBehind_11 rfl ?_
    refine r_getf (pc := 12) F dX1_leftBehind_12 fl_1_9 i68_10 (ce_10 _ _ _) rfl ?_
    refine r_getf (pc := 15) F dX1_leftBehind_15 fl_1_43 i68_1 (ce_1 _ _ _) rfl ?_
    refine r_icmp_ge (pc := 18) (tgt := 119) F dX1_leftBehind_18 rfl h1 (fun h1 => ?_) (fun h1 => ?_)
    · refine V_sub (ls' := [(1, .int l1)]) [1] rfl ?_
      have e6 := hX1 _ (Option.some.inj h1).symm
      cases e6
      exact E9
    · refine r_aload_n (pc := 21) F dX1_leftBehind_21 rfl ?_
      refine r_getf (pc := 22) F dX1_leftBehind_22 fl_1_15 i68_10 (ce_10 _ _ _) rfl ?_
      refine r_aload_n (pc := 25) F dX1_leftBehind_25 rfl ?_
      refine r_getf (pc := 26) F dX1_leftBehind_26 fl_1_9 i68_10 (ce_10 _ _ _) rfl ?_
      obtain ⟨w7, ew7, h1⟩ := lt_some h1
      refine r_Vv1 (pc := 29) F dX1_leftBehind_29 ml_1_47 (kX2_takeFrom _ 3 co3 1 co1 w5 w7 ew7.symm) i68_3 (ce_3 _ _ _) (Nat.le_of_ble_eq_true rfl) (Nat.le_of_ble_eq_true rfl) (Nat.le_of_ble_eq_true rfl) ?_
      refine r_aload_n (pc := 32) F dX1_leftBehind_32 rfl ?_
      refine r_getf (pc := 33) F dX1_leftBehind_33 fl_1_15 i68_10 (ce_10 _ _ _) rfl ?_
      refine r_aload_n (pc := 36) F dX1_leftBehind_36 rfl ?_
      refine r_getf (pc := 37) F dX1_leftBehind_37 fl_1_9 i68_10 (ce_10 _ _ _) rfl ?_
      refine r_getf (pc := 40) F dX1_leftBehind_40 fl_1_43 i68_1 (ce_1 _ _ _) rfl ?_
      refine r_iload (pc := 43) F dX1_leftBehind_43 rfl ?_
      refine r_isub (pc := 45) F dX1_leftBehind_45 ?_
      obtain ⟨w9, ew9, h1⟩ := lt_some h1
      refine r_putI (pc := 46) F dX1_leftBehind_46 fl_1_43 fp_2_0 i68_3 (ce_3 _) (Nat.le_of_ble_eq_true rfl) rfl rfl rfl ew9 ?_
      refine r_aload_n (pc := 49) F dX1_leftBehind_49 rfl ?_
      refine r_getf (pc := 50) F dX1_leftBehind_50 fl_1_15 i68_10 (ce_10 _ _ _) rfl ?_
      refine r_dup (pc := 53) F dX1_leftBehind_53 rfl ?_
      refine r_getf (pc := 54) F dX1_leftBehind_54 fl_1_96 i68_3 (ce_3 _ _ _) rfl ?_
      refine r_aload_n (pc := 57) F dX1_leftBehind_57 rfl ?_
      refine r_getf (pc := 58) F dX1_leftBehind_58 fl_1_15 i68_10 (ce_10 _ _ _) rfl ?_
      refine r_Vi0 (pc := 61) F dX1_leftBehind_61 ml_1_83 (kX2_everybody _ 3 co3 w9 _ rfl) i68_3 (ce_3 _ _ _) (Nat.le_of_ble_eq_true rfl) (Nat.le_of_ble_eq_true rfl) (Nat.le_of_ble_eq_true rfl) ?_
      refine r_iand (pc := 64) F dX1_leftBehind_64 ?_
      obtain ⟨w11, ew11, h1⟩ := lt_some h1
      refine r_putI (pc := 65) F dX1_leftBehind_65 fl_1_96 fp_2_1 i68_3 (ce_3 _) (Nat.le_of_ble_eq_true rfl) rfl rfl rfl ew11 ?_
      refine r_aload_n (pc := 68) F dX1_leftBehind_68 rfl ?_
      refine r_aload_n (pc := 69) F dX1_leftBehind_69 rfl ?_
      refine r_getf (pc := 70) F dX1_leftBehind_70 fl_1_15 i68_10 (ce_10 _ _ _) rfl ?_
      obtain ⟨q15, er14, h1⟩ := bind_some h1
      replace h1 := un2_eq h1
      obtain ⟨r14, w13, rfl, h1⟩ := h1
      refine r_Vj1 (pc := 73) F dX1_leftBehind_73 ml_1_61 (kX1_countOf _ 3 co3 w11 (r14, w13) er14) i68_10 (ce_10 _ _ _) (Nat.le_of_ble_eq_true rfl) (Nat.le_of_ble_eq_true rfl) (Nat.le_of_ble_eq_true rfl) ?_
      refine r_istore (pc := 76) (ls' := [(0, .ref ((zg Z).1 10)), (1, .int l1), (2, .int l2), (3, .int l3), (4, .int l4), (5, .int r14)]) F dX1_leftBehind_76 (Nat.le_of_ble_eq_true rfl) rfl ?_
      refine r_iload (pc := 78) F dX1_leftBehind_78 rfl ?_
      refine r_if_eq (pc := 80) (tgt := 99) F dX1_leftBehind_80 rfl h1 (fun h1 => ?_) (fun h1 => ?_)
      · refine V_sub (ls' := [(0, .ref ((zg Z).1 10)), (4, .int l4), (5, .int r14)]) [0, 4, 5] rfl ?_
        exact J99 w13 l4 r14 h1
      · refine r_iload (pc := 83) F dX1_leftBehind_83 rfl ?_
        refine r_iload_n (pc := 85) F dX1_leftBehind_85 rfl ?_
        refine r_imul (pc := 86) F dX1_leftBehind_86 ?_
        refine r_iload_n (pc := 87) F dX1_leftBehind_87 rfl ?_
        refine r_aload_n (pc := 88) F dX1_leftBehind_88 rfl ?_
        refine r_getf (pc := 89) F dX1_leftBehind_89 fl_1_15 i68_10 (ce_10 _ _ _) rfl ?_
        refine r_getf (pc := 92) F dX1_leftBehind_92 fl_1_43 i68_3 (ce_3 _ _ _) rfl ?_
        refine r_imul (pc := 95) F dX1_leftBehind_95 ?_
        refine r_icmp_le (pc := 96) (tgt := 113) F dX1_leftBehind_96 rfl h1 (fun h1 => ?_) (fun h1 => ?_)
        · obtain ⟨v22, ev22, h1⟩ := lt_some h1
          refine r_iinc (pc := 113) (ls' := [(0, .ref ((zg Z).1 10)), (1, .int l1), (2, .int l2), (3, .int l3), (4, .int v22), (5, .int r14)]) F dX1_leftBehind_113 rfl (by rw [ev22]; rfl) (Nat.le_of_ble_eq_true rfl) rfl ?_
          refine r_goto (pc := 116) (tgt := 9) F dX1_leftBehind_116 rfl ?_
          refine V_sub (ls' := [(0, .ref ((zg Z).1 10)), (1, .int l1), (2, .int l2), (3, .int l3), (4, .int v22)]) [0, 1, 2, 3, 4] rfl ?_
          exact hP1 (l1, l2, l3, v22, w13) (Option.some.inj h1).symm
        · refine V_sub (ls' := [(0, .ref ((zg Z).1 10)), (4, .int l4), (5, .int r14)]) [0, 4, 5] rfl ?_
          exact J99 w13 l4 r14 h1
  refine r_iload_n (pc := 119) F dX1_leftBehind_119 rfl ?_
  exact hR _ _ _ _ dX1_leftBehind_120 rfl (Option.some.inj h0)
set_option maxRecDepth 100000 in
set_option maxHeartbeats 4000000 in
theorem kX9_tail (g : GT) (w : Wd) (out : Int32 × Wd) (h0 : fX9_tail w = some out) : CtI g yX9_tail cX9_tail 1 (some .int) 5 117 [.ref (g.1 0)] w (fun r w1 => (r, w1) = out) := by
  refine CtI_of .int (by decide) (Nat.le_of_ble_eq_true rfl) (fun Z hg F hR => ?_)
  subst hg
  have F : Fx Z RX9 cX9_tail 1 5 117 := F
  refine V_sub (ls' := [(0, .ref ((zg Z).1 0))]) [0] rfl ?_
  unfold fX9_tail at h0
  refine r_aload_n (pc := 0) F dX9_tail_0 rfl ?_
  refine r_getf (pc := 1) F dX9_tail_1 fl_9_10 i68_0 (ce_0 _ _ _) rfl ?_
  refine r_getf (pc := 4) F dX9_tail_4 fl_9_216 i68_1 (ce_1 _ _ _) rfl ?_
  refine r_if_ne (pc := 7) (tgt := 19) F dX9_tail_7 rfl h0 (fun h0 => ?_) (fun h0 => ?_)
  · refine r_aload_n (pc := 10) F dX9_tail_10 rfl ?_
    refine r_bipush (pc := 11) F dX9_tail_11 bp_m3 ?_
    obtain ⟨q3, er2, h0⟩ := bind_some h0
    replace h0 := un2_eq h0
    obtain ⟨r2, w1, rfl, h0⟩ := h0
    refine r_Vj1 (pc := 13) F dX9_tail_13 ml_9_85 (kX9_refuse _ w (-3) (r2, w1) er2) i68_0 (ce_0 _ _ _) (Nat.le_of_ble_eq_true rfl) (Nat.le_of_ble_eq_true rfl) (Nat.le_of_ble_eq_true rfl) ?_
    refine r_goto (pc := 16) (tgt := 26) F dX9_tail_16 rfl ?_
    exact hR _ _ _ _ dX9_tail_26 rfl (Option.some.inj h0)
  · refine r_aload_n (pc := 19) F dX9_tail_19 rfl ?_
    refine r_getf (pc := 20) F dX9_tail_20 fl_9_68 i68_0 (ce_0 _ _ _) rfl ?_
    obtain ⟨q7, er6, h0⟩ := bind_some h0
    replace h0 := un2_eq h0
    obtain ⟨r6, w5, rfl, h0⟩ := h0
    refine r_Vj0 (pc := 23) F dX9_tail_23 ml_9_240 (kX1_leftBehind _ w (r6, w5) er6) i68_10 (ce_10 _ _ _) (Nat.le_of_ble_eq_true rfl) (Nat.le_of_ble_eq_true rfl) (Nat.le_of_ble_eq_true rfl) ?_
    exact hR _ _ _ _ dX9_tail_26 rfl (Option.some.inj h0)
set_option maxRecDepth 100000 in
set_option maxHeartbeats 4000000 in
theorem kX6_tellsToStop (g : GT) (w : Wd) (a1 : Int32) (a2 : Int32) (a3 : Int32) (out : Int32) (h0 : fX6_tellsToStop w a1 a2 a3 = some out) : CtI g yX6_tellsToStop cX6_tellsToStop 4 (some .boolean) 1 20 [.ref (g.1 9), .int a1, .int a2, .int a3] w (fun r w1 => r = out ∧ w1 = w) := by
  refine CtI_of .boolean (by decide) (Nat.le_of_ble_eq_true rfl) (fun Z hg F hR => ?_)
  subst hg
  have F : Fx Z RX6 cX6_tellsToStop 4 1 20 := F
  refine V_sub (ls' := [(0, .ref ((zg Z).1 9)), (1, .int a1), (2, .int a2), (3, .int a3)]) [0, 1, 2, 3] rfl ?_
  unfold fX6_tellsToStop at h0
  have J85 : fX6_tellsToStop_j85 a2 w = some out → V Z 85 [(0, .ref ((zg Z).1 9)), (2, .int a2)] [] w := by
    intro h0
    unfold fX6_tellsToStop_j85 at h0
    refine r_iload_n (pc := 85) F dX6_tellsToStop_85 rfl ?_
    refine r_aload_n (pc := 86) F dX6_tellsToStop_86 rfl ?_
    refine r_getf (pc := 87) F dX6_tellsToStop_87 fl_6_15 i68_9 (ce_9 _ _ _) rfl ?_
    refine r_getf (pc := 90) F dX6_tellsToStop_90 fl_6_49 i68_4 (ce_4 _ _ _) rfl ?_
    refine r_icmp_eq (pc := 93) (tgt := 100) F dX6_tellsToStop_93 rfl h0 (fun h0 => ?_) (fun h0 => ?_)
    · refine r_iconst (pc := 100) F dX6_tellsToStop_100 ic_0 ?_
      exact hR _ _ _ _ dX6_tellsToStop_101 rfl ⟨(Option.some.inj h0), rfl⟩
    · refine r_iconst (pc := 96) F dX6_tellsToStop_96 ic_1 ?_
      refine r_goto (pc := 97) (tgt := 101) F dX6_tellsToStop_97 rfl ?_
      exact hR _ _ _ _ dX6_tellsToStop_101 rfl ⟨(Option.some.inj h0), rfl⟩
  have J57 : fX6_tellsToStop_j57 a1 a3 a2 w = some out → V Z 57 [(0, .ref ((zg Z).1 9)), (1, .int a1), (2, .int a2), (3, .int a3)] [] w := by
    intro h0
    unfold fX6_tellsToStop_j57 at h0
    refine r_iload_n (pc := 57) F dX6_tellsToStop_57 rfl ?_
    refine r_iconst (pc := 58) F dX6_tellsToStop_58 ic_4 ?_
    refine r_icmp_ne (pc := 59) (tgt := 85) F dX6_tellsToStop_59 rfl h0 (fun h0 => ?_) (fun h0 => ?_)
    · refine r_iload_n (pc := 62) F dX6_tellsToStop_62 rfl ?_
      refine r_bipush (pc := 63) F dX6_tellsToStop_63 bp_24 ?_
      refine r_icmp_ge (pc := 65) (tgt := 83) F dX6_tellsToStop_65 rfl h0 (fun h0 => ?_) (fun h0 => ?_)
      · refine r_iconst (pc := 83) F dX6_tellsToStop_83 ic_0 ?_
        exact hR _ _ _ _ dX6_tellsToStop_84 rfl ⟨(Option.some.inj h0), rfl⟩
      · refine r_aload_n (pc := 68) F dX6_tellsToStop_68 rfl ?_
        refine r_getf (pc := 69) F dX6_tellsToStop_69 fl_6_11 i68_9 (ce_9 _ _ _) rfl ?_
        refine r_getf (pc := 72) F dX6_tellsToStop_72 fl_6_112 i68_1 (ce_1 _ _ _) rfl ?_
        refine r_iload_n (pc := 75) F dX6_tellsToStop_75 rfl ?_
        refine r_iconst (pc := 76) F dX6_tellsToStop_76 ic_1 ?_
        refine r_iadd (pc := 77) F dX6_tellsToStop_77 ?_
        obtain ⟨g3, h0⟩ := gd_some h0
        refine r_iald (pc := 78) F dX6_tellsToStop_78 i68_15 (ca_15 _) g3 rfl ?_
        refine r_iconst (pc := 79) F dX6_tellsToStop_79 ic_5 ?_
        refine r_icmp_gt (pc := 80) (tgt := 85) F dX6_tellsToStop_80 rfl h0 (fun h0 => ?_) (fun h0 => ?_)
        · refine V_sub (ls' := [(0, .ref ((zg Z).1 9)), (2, .int a2)]) [0, 2] rfl ?_
          exact J85 h0
        · refine r_iconst (pc := 83) F dX6_tellsToStop_83 ic_0 ?_
          exact hR _ _ _ _ dX6_tellsToStop_84 rfl ⟨(Option.some.inj h0), rfl⟩
    · refine V_sub (ls' := [(0, .ref ((zg Z).1 9)), (2, .int a2)]) [0, 2] rfl ?_
      exact J85 h0
  refine r_iload_n (pc := 0) F dX6_tellsToStop_0 rfl ?_
  refine r_if_eq (pc := 1) (tgt := 8) F dX6_tellsToStop_1 rfl h0 (fun h0 => ?_) (fun h0 => ?_)
  · refine r_iconst (pc := 8) F dX6_tellsToStop_8 ic_0 ?_
    exact hR _ _ _ _ dX6_tellsToStop_9 rfl ⟨(Option.some.inj h0), rfl⟩
  · refine r_iload_n (pc := 4) F dX6_tellsToStop_4 rfl ?_
    refine r_if_ne (pc := 5) (tgt := 10) F dX6_tellsToStop_5 rfl h0 (fun h0 => ?_) (fun h0 => ?_)
    · refine r_iconst (pc := 8) F dX6_tellsToStop_8 ic_0 ?_
      exact hR _ _ _ _ dX6_tellsToStop_9 rfl ⟨(Option.some.inj h0), rfl⟩
    · refine r_iload_n (pc := 10) F dX6_tellsToStop_10 rfl ?_
      refine r_iconst (pc := 11) F dX6_tellsToStop_11 ic_1 ?_
      refine r_icmp_ne (pc := 12) (tgt := 37) F dX6_tellsToStop_12 rfl h0 (fun h0 => ?_) (fun h0 => ?_)
      · refine r_iconst (pc := 15) F dX6_tellsToStop_15 ic_2 ?_
        refine r_iload_n (pc := 16) F dX6_tellsToStop_16 rfl ?_
        refine r_Si1 (pc := 17) F dX6_tellsToStop_17 ml_6_37 (kJ6_bitCount_0f7a4 _ w a2 _ rfl) (Nat.le_of_ble_eq_true rfl) (Nat.le_of_ble_eq_true rfl) (Nat.le_of_ble_eq_true rfl) ?_
        refine r_imul (pc := 20) F dX6_tellsToStop_20 ?_
        refine r_aload_n (pc := 21) F dX6_tellsToStop_21 rfl ?_
        refine r_getf (pc := 22) F dX6_tellsToStop_22 fl_6_15 i68_9 (ce_9 _ _ _) rfl ?_
        refine r_getf (pc := 25) F dX6_tellsToStop_25 fl_6_46 i68_4 (ce_4 _ _ _) rfl ?_
        refine r_icmp_ge (pc := 28) (tgt := 35) F dX6_tellsToStop_28 rfl h0 (fun h0 => ?_) (fun h0 => ?_)
        · refine r_iconst (pc := 35) F dX6_tellsToStop_35 ic_0 ?_
          exact hR _ _ _ _ dX6_tellsToStop_36 rfl ⟨(Option.some.inj h0), rfl⟩
        · refine r_iconst (pc := 31) F dX6_tellsToStop_31 ic_1 ?_
          refine r_goto (pc := 32) (tgt := 36) F dX6_tellsToStop_32 rfl ?_
          exact hR _ _ _ _ dX6_tellsToStop_36 rfl ⟨(Option.some.inj h0), rfl⟩
      · refine r_iload_n (pc := 37) F dX6_tellsToStop_37 rfl ?_
        refine r_iconst (pc := 38) F dX6_tellsToStop_38 ic_3 ?_
        refine r_icmp_ne (pc := 39) (tgt := 57) F dX6_tellsToStop_39 rfl h0 (fun h0 => ?_) (fun h0 => ?_)
        · refine r_aload_n (pc := 42) F dX6_tellsToStop_42 rfl ?_
          refine r_getf (pc := 43) F dX6_tellsToStop_43 fl_6_11 i68_9 (ce_9 _ _ _) rfl ?_
          refine r_getf (pc := 46) F dX6_tellsToStop_46 fl_6_112 i68_1 (ce_1 _ _ _) rfl ?_
          refine r_iload_n (pc := 49) F dX6_tellsToStop_49 rfl ?_
          obtain ⟨g2, h0⟩ := gd_some h0
          refine r_iald (pc := 50) F dX6_tellsToStop_50 i68_15 (ca_15 _) g2 rfl ?_
          refine r_iconst (pc := 51) F dX6_tellsToStop_51 ic_2 ?_
          refine r_icmp_le (pc := 52) (tgt := 57) F dX6_tellsToStop_52 rfl h0 (fun h0 => ?_) (fun h0 => ?_)
          · exact J57 h0
          · refine r_iconst (pc := 55) F dX6_tellsToStop_55 ic_0 ?_
            exact hR _ _ _ _ dX6_tellsToStop_56 rfl ⟨(Option.some.inj h0), rfl⟩
        · exact J57 h0
set_option maxRecDepth 100000 in
set_option maxHeartbeats 4000000 in
theorem kX6_follow (g : GT) (w : Wd) (a1 : Int32) (out : Wd) (h0 : fX6_follow w a1 = some out) : CtV g yX6_follow cX6_follow 8 none 3 71 [.ref (g.1 9), .int a1] w (fun w1 => w1 = out) := by
  refine CtV_of (by decide) (Nat.le_of_ble_eq_true rfl) (fun Z hg F hR => ?_)
  subst hg
  have F : Fx Z RX6 cX6_follow 8 3 71 := F
  refine V_sub (ls' := [(0, .ref ((zg Z).1 9)), (1, .int a1)]) [0, 1] rfl ?_
  unfold fX6_follow at h0
  have J125 : ∀ (w34 : Wd) (l32 : Int32) (l33 : Int32), fX6_follow_j125 w34 l32 l33 = some out → V Z 125 [(0, .ref ((zg Z).1 9)), (2, .int l32), (5, .int l33)] [] w34 := by
    intro w34 l32 l33 h0
    unfold fX6_follow_j125 at h0
    refine r_aload_n (pc := 125) F dX6_follow_125 rfl ?_
    refine r_iload_n (pc := 126) F dX6_follow_126 rfl ?_
    refine r_Si1 (pc := 127) F dX6_follow_127 ml_6_37 (kJ6_bitCount_0f7a4 _ w34 l32 _ rfl) (Nat.le_of_ble_eq_true rfl) (Nat.le_of_ble_eq_true rfl) (Nat.le_of_ble_eq_true rfl) ?_
    obtain ⟨w35, ew35, h0⟩ := lt_some h0
    refine r_putI (pc := 130) F dX6_follow_130 fl_6_84 fp_6_0 i68_9 (ce_9 _) (Nat.le_of_ble_eq_true rfl) rfl rfl rfl ew35 ?_
    refine r_aload_n (pc := 133) F dX6_follow_133 rfl ?_
    refine r_iload (pc := 134) F dX6_follow_134 rfl ?_
    obtain ⟨w37, ew37, h0⟩ := lt_some h0
    refine r_putI (pc := 136) F dX6_follow_136 fl_6_87 fp_6_1 i68_9 (ce_9 _) (Nat.le_of_ble_eq_true rfl) rfl rfl rfl ew37 ?_
    exact hR _ _ _ dX6_follow_139 (Option.some.inj h0)
  refine r_aload_n (pc := 0) F dX6_follow_0 rfl ?_
  refine r_getf (pc := 1) F dX6_follow_1 fl_6_15 i68_9 (ce_9 _ _ _) rfl ?_
  refine r_aload_n (pc := 4) F dX6_follow_4 rfl ?_
  refine r_getf (pc := 5) F dX6_follow_5 fl_6_11 i68_9 (ce_9 _ _ _) rfl ?_
  obtain ⟨w1, ew1, h0⟩ := bind_some h0
  refine r_Vv1 (pc := 8) F dX6_follow_8 ml_6_62 (kX8_setOut _ 1 co1 w w1 ew1) i68_4 (ce_4 _ _ _) (Nat.le_of_ble_eq_true rfl) (Nat.le_of_ble_eq_true rfl) (Nat.le_of_ble_eq_true rfl) ?_
  refine r_aload_n (pc := 11) F dX6_follow_11 rfl ?_
  refine r_getf (pc := 12) F dX6_follow_12 fl_6_11 i68_9 (ce_9 _ _ _) rfl ?_
  refine r_getf (pc := 15) F dX6_follow_15 fl_6_66 i68_1 (ce_1 _ _ _) rfl ?_
  obtain ⟨v3, ev3, h0⟩ := lt_some h0
  refine V_nm ev3 ?_
  refine r_istore_n (pc := 18) (ls' := [(0, .ref ((zg Z).1 9)), (1, .int a1), (2, .int v3)]) F dX6_follow_18 (Nat.le_of_ble_eq_true rfl) rfl ?_
  refine r_aload_n (pc := 19) F dX6_follow_19 rfl ?_
  refine r_getf (pc := 20) F dX6_follow_20 fl_6_11 i68_9 (ce_9 _ _ _) rfl ?_
  refine r_getf (pc := 23) F dX6_follow_23 fl_6_71 i68_1 (ce_1 _ _ _) rfl ?_
  obtain ⟨v4, ev4, h0⟩ := lt_some h0
  refine V_nm ev4 ?_
  refine r_istore_n (pc := 26) (ls' := [(0, .ref ((zg Z).1 9)), (1, .int a1), (2, .int v3), (3, .int v4)]) F dX6_follow_26 (Nat.le_of_ble_eq_true rfl) rfl ?_
  refine r_iconst (pc := 27) F dX6_follow_27 ic_0 ?_
  refine r_istore (pc := 28) (ls' := [(0, .ref ((zg Z).1 9)), (1, .int a1), (2, .int v3), (3, .int v4), (4, .int 0)]) F dX6_follow_28 (Nat.le_of_ble_eq_true rfl) rfl ?_
  refine r_iconst (pc := 30) F dX6_follow_30 ic_0 ?_
  refine r_istore (pc := 31) (ls' := [(0, .ref ((zg Z).1 9)), (1, .int a1), (2, .int v3), (3, .int v4), (4, .int 0), (5, .int 0)]) F dX6_follow_31 (Nat.le_of_ble_eq_true rfl) rfl ?_
  refine r_iconst (pc := 33) F dX6_follow_33 ic_0 ?_
  refine r_istore (pc := 34) (ls' := [(0, .ref ((zg Z).1 9)), (1, .int a1), (2, .int v3), (3, .int v4), (4, .int 0), (5, .int 0), (6, .int 0)]) F dX6_follow_34 (Nat.le_of_ble_eq_true rfl) rfl ?_
  obtain ⟨x27, ix27, h0⟩ := bind_some h0
  replace h0 := un3_eq h0
  obtain ⟨l28, l29, w30, rfl, h0⟩ := h0
  suffices E36 : V Z 125 [(0, .ref ((zg Z).1 9)), (2, .int l28), (5, .int l29)] [] w30 by
    refine iter_rule (P := fun s : Int32 × Int32 × Int32 × Int32 × Int32 × Wd => V Z 36 [(0, .ref ((zg Z).1 9)), (1, .int a1), (2, .int (s.1)), (3, .int (s.2.1)), (4, .int (s.2.2.1)), (5, .int (s.2.2.2.1)), (6, .int (s.2.2.2.2.1))] [] s.2.2.2.2.2) (x := (l28, l29, w30)) ?_ FU (v3, v4, 0, 0, 0, w1) ix27
    intro s y1 h1 hP1 hX1
    obtain ⟨l5, l6, l7, l8, l9, w10⟩ := s
    have h1 : fX6_follow_b36 a1 l5 l6 l7 l8 l9 w10 = some y1 := h1
    unfold fX6_follow_b36 at h1
    refine r_iload (pc := 36) F dX6_follow_36 rfl ?_
    refine r_sipush (pc := 38) F dX6_follow_38 sp_144 ?_
    refine r_icmp_ge (pc := 41) (tgt := 125) F dX6_follow_41 rfl h1 (fun h1 => ?_) (fun h1 => ?_)
    · refine V_sub (ls' := [(0, .ref ((zg Z).1 9)), (2, .int l5), (5, .int l8)]) [0, 2, 5] rfl ?_
      have e11 := hX1 _ (Option.some.inj h1).symm
      cases e11
      exact E36
    · refine r_iload_n (pc := 44) F dX6_follow_44 rfl ?_
      refine r_aload_n (pc := 45) F dX6_follow_45 rfl ?_
      refine r_getf (pc := 46) F dX6_follow_46 fl_6_11 i68_9 (ce_9 _ _ _) rfl ?_
      refine r_getf (pc := 49) F dX6_follow_49 fl_6_74 i68_1 (ce_1 _ _ _) rfl ?_
      refine r_icmp_ge (pc := 52) (tgt := 125) F dX6_follow_52 rfl h1 (fun h1 => ?_) (fun h1 => ?_)
      · refine V_sub (ls' := [(0, .ref ((zg Z).1 9)), (2, .int l5), (5, .int l8)]) [0, 2, 5] rfl ?_
        have e12 := hX1 _ (Option.some.inj h1).symm
        cases e12
        exact E36
      · refine r_iload (pc := 55) F dX6_follow_55 rfl ?_
        refine r_iconst (pc := 57) F dX6_follow_57 ic_5 ?_
        obtain ⟨v14, hv14, h1⟩ := bind_some h1
        suffices Jv14 : V Z 76 [(0, .ref ((zg Z).1 9)), (1, .int a1), (2, .int l5), (3, .int l6), (4, .int l7), (5, .int l8), (6, .int l9)] [.int v14] w10 by
          refine r_icmp_ge (pc := 58) (tgt := 75) F dX6_follow_58 rfl hv14 (fun hv14 => ?_) (fun hv14 => ?_)
          · refine r_iconst (pc := 75) F dX6_follow_75 ic_0 ?_
            exact V_nm (Option.some.inj hv14).symm Jv14
          · refine r_aload_n (pc := 61) F dX6_follow_61 rfl ?_
            refine r_iload_n (pc := 62) F dX6_follow_62 rfl ?_
            refine r_iload_n (pc := 63) F dX6_follow_63 rfl ?_
            refine r_iload_n (pc := 64) F dX6_follow_64 rfl ?_
            obtain ⟨r15, er15, hv14⟩ := bind_some hv14
            refine r_Vi3 (pc := 65) F dX6_follow_65 ml_6_77 (kX6_tellsToStop _ w10 a1 l5 l6 r15 er15) i68_9 (ce_9 _ _ _) (Nat.le_of_ble_eq_true rfl) (Nat.le_of_ble_eq_true rfl) (Nat.le_of_ble_eq_true rfl) ?_
            refine r_if_eq (pc := 68) (tgt := 75) F dX6_follow_68 rfl hv14 (fun hv14 => ?_) (fun hv14 => ?_)
            · refine r_iconst (pc := 75) F dX6_follow_75 ic_0 ?_
              exact V_nm (Option.some.inj hv14).symm Jv14
            · refine r_iconst (pc := 71) F dX6_follow_71 ic_1 ?_
              refine r_goto (pc := 72) (tgt := 76) F dX6_follow_72 rfl ?_
              exact V_nm (Option.some.inj hv14).symm Jv14
        refine r_istore (pc := 76) (ls' := [(0, .ref ((zg Z).1 9)), (1, .int a1), (2, .int l5), (3, .int l6), (4, .int l7), (5, .int l8), (6, .int l9), (7, .int v14)]) F dX6_follow_76 (Nat.le_of_ble_eq_true rfl) rfl ?_
        refine r_aload_n (pc := 78) F dX6_follow_78 rfl ?_
        refine r_getf (pc := 79) F dX6_follow_79 fl_6_15 i68_9 (ce_9 _ _ _) rfl ?_
        refine r_iload_n (pc := 82) F dX6_follow_82 rfl ?_
        refine r_iload_n (pc := 83) F dX6_follow_83 rfl ?_
        obtain ⟨q19, er18, h1⟩ := bind_some h1
        replace h1 := un2_eq h1
        obtain ⟨r18, w17, rfl, h1⟩ := h1
        refine r_Vj2 (pc := 84) F dX6_follow_84 ml_6_81 (kX8_minuteAt _ w10 l6 l5 (r18, w17) er18) i68_4 (ce_4 _ _ _) (Nat.le_of_ble_eq_true rfl) (Nat.le_of_ble_eq_true rfl) (Nat.le_of_ble_eq_true rfl) ?_
        refine r_istore_n (pc := 87) (ls' := [(0, .ref ((zg Z).1 9)), (1, .int a1), (2, .int r18), (3, .int l6), (4, .int l7), (5, .int l8), (6, .int l9), (7, .int v14)]) F dX6_follow_87 (Nat.le_of_ble_eq_true rfl) rfl ?_
        obtain ⟨v21, ev21, h1⟩ := lt_some h1
        refine r_iinc (pc := 88) (ls' := [(0, .ref ((zg Z).1 9)), (1, .int a1), (2, .int r18), (3, .int l6), (4, .int l7), (5, .int v21), (6, .int l9), (7, .int v14)]) F dX6_follow_88 rfl (by rw [ev21]; rfl) (Nat.le_of_ble_eq_true rfl) rfl ?_
        refine r_iload (pc := 91) F dX6_follow_91 rfl ?_
        obtain ⟨v22, hv22, h1⟩ := lt_some h1
        have hv22 := hv22.symm
        suffices Jv22 : V Z 104 [(0, .ref ((zg Z).1 9)), (1, .int a1), (2, .int r18), (3, .int l6), (4, .int l7), (5, .int v21), (6, .int l9), (7, .int v14)] [.int v22] w17 by
          refine r_if_eq (pc := 93) (tgt := 103) F dX6_follow_93 rfl hv22 (fun hv22 => ?_) (fun hv22 => ?_)
          · refine r_iconst (pc := 103) F dX6_follow_103 ic_0 ?_
            exact V_nm hv22.symm Jv22
          · refine r_iload (pc := 96) F dX6_follow_96 rfl ?_
            refine r_iconst (pc := 98) F dX6_follow_98 ic_1 ?_
            refine r_iadd (pc := 99) F dX6_follow_99 ?_
            refine r_goto (pc := 100) (tgt := 104) F dX6_follow_100 rfl ?_
            exact V_nm hv22.symm Jv22
        refine r_istore (pc := 104) (ls' := [(0, .ref ((zg Z).1 9)), (1, .int a1), (2, .int r18), (3, .int l6), (4, .int v22), (5, .int v21), (6, .int l9), (7, .int v14)]) F dX6_follow_104 (Nat.le_of_ble_eq_true rfl) rfl ?_
        refine r_iload (pc := 106) F dX6_follow_106 rfl ?_
        obtain ⟨v23, hv23, h1⟩ := lt_some h1
        have hv23 := hv23.symm
        suffices Jv23 : V Z 118 [(0, .ref ((zg Z).1 9)), (1, .int a1), (2, .int r18), (3, .int l6), (4, .int v22), (5, .int v21), (6, .int l9), (7, .int v14)] [.int v23] w17 by
          refine r_if_eq (pc := 108) (tgt := 115) F dX6_follow_108 rfl hv23 (fun hv23 => ?_) (fun hv23 => ?_)
          · refine r_iload_n (pc := 115) F dX6_follow_115 rfl ?_
            refine r_iconst (pc := 116) F dX6_follow_116 ic_1 ?_
            refine r_iadd (pc := 117) F dX6_follow_117 ?_
            exact V_nm hv23.symm Jv23
          · refine r_iload_n (pc := 111) F dX6_follow_111 rfl ?_
            refine r_goto (pc := 112) (tgt := 118) F dX6_follow_112 rfl ?_
            exact V_nm hv23.symm Jv23
        refine r_istore_n (pc := 118) (ls' := [(0, .ref ((zg Z).1 9)), (1, .int a1), (2, .int r18), (3, .int v23), (4, .int v22), (5, .int v21), (6, .int l9), (7, .int v14)]) F dX6_follow_118 (Nat.le_of_ble_eq_true rfl) rfl ?_
        obtain ⟨v24, ev24, h1⟩ := lt_some h1
        refine r_iinc (pc := 119) (ls' := [(0, .ref ((zg Z).1 9)), (1, .int a1), (2, .int r18), (3, .int v23), (4, .int v22), (5, .int v21), (6, .int v24), (7, .int v14)]) F dX6_follow_119 rfl (by rw [ev24]; rfl) (Nat.le_of_ble_eq_true rfl) rfl ?_
        refine r_goto (pc := 122) (tgt := 36) F dX6_follow_122 rfl ?_
        refine V_sub (ls' := [(0, .ref ((zg Z).1 9)), (1, .int a1), (2, .int r18), (3, .int v23), (4, .int v22), (5, .int v21), (6, .int v24)]) [0, 1, 2, 3, 4, 5, 6] rfl ?_
        exact hP1 (r18, v23, v22, v21, v24, w17) (Option.some.inj h1).symm
  exact J125 w30 l28 l29 h0
set_option maxRecDepth 100000 in
set_option maxHeartbeats 4000000 in
theorem kX9_rule (g : GT) (w : Wd) (a1 : Int32) (a2 : Int32) (out : Int32 × Wd) (h0 : fX9_rule w a1 a2 = some out) : CtI g yX9_rule cX9_rule 3 (some .int) 4 98 [.ref (g.1 0), .int a1, .int a2] w (fun r w1 => (r, w1) = out) := by
  refine CtI_of .int (by decide) (Nat.le_of_ble_eq_true rfl) (fun Z hg F hR => ?_)
  subst hg
  have F : Fx Z RX9 cX9_rule 3 4 98 := F
  refine V_sub (ls' := [(0, .ref ((zg Z).1 0)), (1, .int a1), (2, .int a2)]) [0, 1, 2] rfl ?_
  unfold fX9_rule at h0
  have J16 : ∀ (w4 : Wd), fX9_rule_j16 w4 = some out → V Z 16 [(0, .ref ((zg Z).1 0))] [] w4 := by
    intro w4 h0
    unfold fX9_rule_j16 at h0
    refine r_aload_n (pc := 16) F dX9_rule_16 rfl ?_
    refine r_bipush (pc := 17) F dX9_rule_17 bp_m2 ?_
    obtain ⟨q7, er6, h0⟩ := bind_some h0
    replace h0 := un2_eq h0
    obtain ⟨r6, w5, rfl, h0⟩ := h0
    refine r_Vj1 (pc := 19) F dX9_rule_19 ml_9_85 (kX9_refuse _ w4 (-2) (r6, w5) er6) i68_0 (ce_0 _ _ _) (Nat.le_of_ble_eq_true rfl) (Nat.le_of_ble_eq_true rfl) (Nat.le_of_ble_eq_true rfl) ?_
    exact hR _ _ _ _ dX9_rule_22 rfl (Option.some.inj h0)
  refine r_iload_n (pc := 0) F dX9_rule_0 rfl ?_
  refine r_iconst (pc := 1) F dX9_rule_1 ic_4 ?_
  refine r_Si2 (pc := 2) F dX9_rule_2 ml_9_115 (kX9_isOutside _ w a1 4 _ rfl) (Nat.le_of_ble_eq_true rfl) (Nat.le_of_ble_eq_true rfl) (Nat.le_of_ble_eq_true rfl) ?_
  refine r_if_ne (pc := 5) (tgt := 16) F dX9_rule_5 rfl h0 (fun h0 => ?_) (fun h0 => ?_)
  · refine r_iload_n (pc := 8) F dX9_rule_8 rfl ?_
    refine r_iconst (pc := 9) F dX9_rule_9 ic_1 ?_
    refine r_Si2 (pc := 10) F dX9_rule_10 ml_9_115 (kX9_isOutside _ w a2 1 _ rfl) (Nat.le_of_ble_eq_true rfl) (Nat.le_of_ble_eq_true rfl) (Nat.le_of_ble_eq_true rfl) ?_
    refine r_if_eq (pc := 13) (tgt := 23) F dX9_rule_13 rfl h0 (fun h0 => ?_) (fun h0 => ?_)
    · refine r_aload_n (pc := 23) F dX9_rule_23 rfl ?_
      refine r_getf (pc := 24) F dX9_rule_24 fl_9_59 i68_0 (ce_0 _ _ _) rfl ?_
      refine r_iload_n (pc := 27) F dX9_rule_27 rfl ?_
      obtain ⟨w1, ew1, h0⟩ := bind_some h0
      refine r_Vv1 (pc := 28) F dX9_rule_28 ml_9_243 (kX6_follow _ w a1 w1 ew1) i68_9 (ce_9 _ _ _) (Nat.le_of_ble_eq_true rfl) (Nat.le_of_ble_eq_true rfl) (Nat.le_of_ble_eq_true rfl) ?_
      refine r_iload_n (pc := 31) F dX9_rule_31 rfl ?_
      refine r_if_ne (pc := 32) (tgt := 45) F dX9_rule_32 rfl h0 (fun h0 => ?_) (fun h0 => ?_)
      · refine r_aload_n (pc := 35) F dX9_rule_35 rfl ?_
        refine r_getf (pc := 36) F dX9_rule_36 fl_9_59 i68_0 (ce_0 _ _ _) rfl ?_
        refine r_getf (pc := 39) F dX9_rule_39 fl_9_247 i68_9 (ce_9 _ _ _) rfl ?_
        refine r_goto (pc := 42) (tgt := 52) F dX9_rule_42 rfl ?_
        exact hR _ _ _ _ dX9_rule_52 rfl (Option.some.inj h0)
      · refine r_aload_n (pc := 45) F dX9_rule_45 rfl ?_
        refine r_getf (pc := 46) F dX9_rule_46 fl_9_59 i68_0 (ce_0 _ _ _) rfl ?_
        refine r_getf (pc := 49) F dX9_rule_49 fl_9_250 i68_9 (ce_9 _ _ _) rfl ?_
        exact hR _ _ _ _ dX9_rule_52 rfl (Option.some.inj h0)
    · refine V_sub (ls' := [(0, .ref ((zg Z).1 0))]) [0] rfl ?_
      exact J16 w h0
  · refine V_sub (ls' := [(0, .ref ((zg Z).1 0))]) [0] rfl ?_
    exact J16 w h0
set_option maxRecDepth 100000 in
set_option maxHeartbeats 4000000 in
theorem kX6_bestRule (g : GT) (w : Wd) (out : Int32 × Wd) (h0 : fX6_bestRule w = some out) : CtI g yX6_bestRule cX6_bestRule 5 (some .int) 4 98 [.ref (g.1 9)] w (fun r w1 => (r, w1) = out) := by
  refine CtI_of .int (by decide) (Nat.le_of_ble_eq_true rfl) (fun Z hg F hR => ?_)
  subst hg
  have F : Fx Z RX6 cX6_bestRule 5 4 98 := F
  refine V_sub (ls' := [(0, .ref ((zg Z).1 9))]) [0] rfl ?_
  unfold fX6_bestRule at h0
  refine r_iconst (pc := 0) F dX6_bestRule_0 ic_0 ?_
  refine r_istore_n (pc := 1) (ls' := [(0, .ref ((zg Z).1 9)), (1, .int 0)]) F dX6_bestRule_1 (Nat.le_of_ble_eq_true rfl) rfl ?_
  refine r_iconst (pc := 2) F dX6_bestRule_2 ic_m1 ?_
  refine r_istore_n (pc := 3) (ls' := [(0, .ref ((zg Z).1 9)), (1, .int 0), (2, .int (-1))]) F dX6_bestRule_3 (Nat.le_of_ble_eq_true rfl) rfl ?_
  refine r_iconst (pc := 4) F dX6_bestRule_4 ic_0 ?_
  refine r_istore_n (pc := 5) (ls' := [(0, .ref ((zg Z).1 9)), (1, .int 0), (2, .int (-1)), (3, .int 0)]) F dX6_bestRule_5 (Nat.le_of_ble_eq_true rfl) rfl ?_
  refine r_iconst (pc := 6) F dX6_bestRule_6 ic_0 ?_
  refine r_istore (pc := 7) (ls' := [(0, .ref ((zg Z).1 9)), (1, .int 0), (2, .int (-1)), (3, .int 0), (4, .int 0)]) F dX6_bestRule_7 (Nat.le_of_ble_eq_true rfl) rfl ?_
  obtain ⟨x20, ix20, h0⟩ := bind_some h0
  replace h0 := un2_eq h0
  obtain ⟨l21, w22, rfl, h0⟩ := h0
  suffices E9 : V Z 64 [(1, .int l21)] [] w22 by
    refine iter_rule (P := fun s : Int32 × Int32 × Int32 × Int32 × Wd => V Z 9 [(0, .ref ((zg Z).1 9)), (1, .int (s.1)), (2, .int (s.2.1)), (3, .int (s.2.2.1)), (4, .int (s.2.2.2.1))] [] s.2.2.2.2) (x := (l21, w22)) ?_ FU (0, (-1), 0, 0, w) ix20
    intro s y1 h1 hP1 hX1
    obtain ⟨l1, l2, l3, l4, w5⟩ := s
    have h1 : fX6_bestRule_b9 l1 l2 l3 l4 w5 = some y1 := h1
    unfold fX6_bestRule_b9 at h1
    have J45 : ∀ (w10 : Wd) (l9 : Int32), fX6_bestRule_j45 w10 l9 = some y1 → V Z 45 [(0, .ref ((zg Z).1 9)), (4, .int l9)] [] w10 := by
      intro w10 l9 h1
      unfold fX6_bestRule_j45 at h1
      refine r_iload (pc := 45) F dX6_bestRule_45 rfl ?_
      refine r_istore_n (pc := 47) (ls' := [(0, .ref ((zg Z).1 9)), (1, .int l9), (4, .int l9)]) F dX6_bestRule_47 (Nat.le_of_ble_eq_true rfl) rfl ?_
      refine r_aload_n (pc := 48) F dX6_bestRule_48 rfl ?_
      refine r_getf (pc := 49) F dX6_bestRule_49 fl_6_84 i68_9 (ce_9 _ _ _) rfl ?_
      obtain ⟨v11, ev11, h1⟩ := lt_some h1
      refine V_nm ev11 ?_
      refine r_istore_n (pc := 52) (ls' := [(0, .ref ((zg Z).1 9)), (1, .int l9), (2, .int v11), (4, .int l9)]) F dX6_bestRule_52 (Nat.le_of_ble_eq_true rfl) rfl ?_
      refine r_aload_n (pc := 53) F dX6_bestRule_53 rfl ?_
      refine r_getf (pc := 54) F dX6_bestRule_54 fl_6_87 i68_9 (ce_9 _ _ _) rfl ?_
      obtain ⟨v12, ev12, h1⟩ := lt_some h1
      refine V_nm ev12 ?_
      refine r_istore_n (pc := 57) (ls' := [(0, .ref ((zg Z).1 9)), (1, .int l9), (2, .int v11), (3, .int v12), (4, .int l9)]) F dX6_bestRule_57 (Nat.le_of_ble_eq_true rfl) rfl ?_
      obtain ⟨v13, ev13, h1⟩ := lt_some h1
      refine r_iinc (pc := 58) (ls' := [(0, .ref ((zg Z).1 9)), (1, .int l9), (2, .int v11), (3, .int v12), (4, .int v13)]) F dX6_bestRule_58 rfl (by rw [ev13]; rfl) (Nat.le_of_ble_eq_true rfl) rfl ?_
      refine r_goto (pc := 61) (tgt := 9) F dX6_bestRule_61 rfl ?_
      exact hP1 (l9, v11, v12, v13, w10) (Option.some.inj h1).symm
    refine r_iload (pc := 9) F dX6_bestRule_9 rfl ?_
    refine r_iconst (pc := 11) F dX6_bestRule_11 ic_4 ?_
    refine r_icmp_gt (pc := 12) (tgt := 64) F dX6_bestRule_12 rfl h1 (fun h1 => ?_) (fun h1 => ?_)
    · refine V_sub (ls' := [(1, .int l1)]) [1] rfl ?_
      have e6 := hX1 _ (Option.some.inj h1).symm
      cases e6
      exact E9
    · refine r_aload_n (pc := 15) F dX6_bestRule_15 rfl ?_
      refine r_iload (pc := 16) F dX6_bestRule_16 rfl ?_
      obtain ⟨w7, ew7, h1⟩ := bind_some h1
      refine r_Vv1 (pc := 18) F dX6_bestRule_18 ml_6_90 (kX6_follow _ w5 l4 w7 ew7) i68_9 (ce_9 _ _ _) (Nat.le_of_ble_eq_true rfl) (Nat.le_of_ble_eq_true rfl) (Nat.le_of_ble_eq_true rfl) ?_
      refine r_aload_n (pc := 21) F dX6_bestRule_21 rfl ?_
      refine r_getf (pc := 22) F dX6_bestRule_22 fl_6_84 i68_9 (ce_9 _ _ _) rfl ?_
      refine r_iload_n (pc := 25) F dX6_bestRule_25 rfl ?_
      refine r_icmp_gt (pc := 26) (tgt := 45) F dX6_bestRule_26 rfl h1 (fun h1 => ?_) (fun h1 => ?_)
      · refine V_sub (ls' := [(0, .ref ((zg Z).1 9)), (4, .int l4)]) [0, 4] rfl ?_
        exact J45 w7 l4 h1
      · refine r_aload_n (pc := 29) F dX6_bestRule_29 rfl ?_
        refine r_getf (pc := 30) F dX6_bestRule_30 fl_6_84 i68_9 (ce_9 _ _ _) rfl ?_
        refine r_iload_n (pc := 33) F dX6_bestRule_33 rfl ?_
        refine r_icmp_ne (pc := 34) (tgt := 58) F dX6_bestRule_34 rfl h1 (fun h1 => ?_) (fun h1 => ?_)
        · refine r_aload_n (pc := 37) F dX6_bestRule_37 rfl ?_
          refine r_getf (pc := 38) F dX6_bestRule_38 fl_6_87 i68_9 (ce_9 _ _ _) rfl ?_
          refine r_iload_n (pc := 41) F dX6_bestRule_41 rfl ?_
          refine r_icmp_ge (pc := 42) (tgt := 58) F dX6_bestRule_42 rfl h1 (fun h1 => ?_) (fun h1 => ?_)
          · obtain ⟨v14, ev14, h1⟩ := lt_some h1
            refine r_iinc (pc := 58) (ls' := [(0, .ref ((zg Z).1 9)), (1, .int l1), (2, .int l2), (3, .int l3), (4, .int v14)]) F dX6_bestRule_58 rfl (by rw [ev14]; rfl) (Nat.le_of_ble_eq_true rfl) rfl ?_
            refine r_goto (pc := 61) (tgt := 9) F dX6_bestRule_61 rfl ?_
            exact hP1 (l1, l2, l3, v14, w7) (Option.some.inj h1).symm
          · refine V_sub (ls' := [(0, .ref ((zg Z).1 9)), (4, .int l4)]) [0, 4] rfl ?_
            exact J45 w7 l4 h1
        · obtain ⟨v16, ev16, h1⟩ := lt_some h1
          refine r_iinc (pc := 58) (ls' := [(0, .ref ((zg Z).1 9)), (1, .int l1), (2, .int l2), (3, .int l3), (4, .int v16)]) F dX6_bestRule_58 rfl (by rw [ev16]; rfl) (Nat.le_of_ble_eq_true rfl) rfl ?_
          refine r_goto (pc := 61) (tgt := 9) F dX6_bestRule_61 rfl ?_
          exact hP1 (l1, l2, l3, v16, w7) (Option.some.inj h1).symm
  refine r_iload_n (pc := 64) F dX6_bestRule_64 rfl ?_
  exact hR _ _ _ _ dX6_bestRule_65 rfl (Option.some.inj h0)
set_option maxRecDepth 100000 in
set_option maxHeartbeats 4000000 in
theorem kX9_best (g : GT) (w : Wd) (out : Int32 × Wd) (h0 : fX9_best w = some out) : CtI g yX9_best cX9_best 1 (some .int) 5 122 [.ref (g.1 0)] w (fun r w1 => (r, w1) = out) := by
  refine CtI_of .int (by decide) (Nat.le_of_ble_eq_true rfl) (fun Z hg F hR => ?_)
  subst hg
  have F : Fx Z RX9 cX9_best 1 5 122 := F
  refine V_sub (ls' := [(0, .ref ((zg Z).1 0))]) [0] rfl ?_
  unfold fX9_best at h0
  refine r_aload_n (pc := 0) F dX9_best_0 rfl ?_
  refine r_getf (pc := 1) F dX9_best_1 fl_9_59 i68_0 (ce_0 _ _ _) rfl ?_
  obtain ⟨q3, er2, h0⟩ := bind_some h0
  replace h0 := un2_eq h0
  obtain ⟨r2, w1, rfl, h0⟩ := h0
  refine r_Vj0 (pc := 4) F dX9_best_4 ml_9_253 (kX6_bestRule _ w (r2, w1) er2) i68_9 (ce_9 _ _ _) (Nat.le_of_ble_eq_true rfl) (Nat.le_of_ble_eq_true rfl) (Nat.le_of_ble_eq_true rfl) ?_
  exact hR _ _ _ _ dX9_best_7 rfl (Option.some.inj h0)
set_option maxRecDepth 100000 in
set_option maxHeartbeats 4000000 in
theorem kX9_calm (g : GT) (w : Wd) (a1 : Int32) (a2 : Int32) (out : Int32 × Wd) (h0 : fX9_calm w a1 a2 = some out) : CtI g yX9_calm cX9_calm 4 (some .int) 1 22 [.ref (g.1 0), .int a1, .int a2] w (fun r w1 => (r, w1) = out) := by
  refine CtI_of .int (by decide) (Nat.le_of_ble_eq_true rfl) (fun Z hg F hR => ?_)
  subst hg
  have F : Fx Z RX9 cX9_calm 4 1 22 := F
  refine V_sub (ls' := [(0, .ref ((zg Z).1 0)), (1, .int a1), (2, .int a2)]) [0, 1, 2] rfl ?_
  unfold fX9_calm at h0
  have J9 : ∀ (w1 : Wd), fX9_calm_j9 w1 = some out → V Z 9 [(0, .ref ((zg Z).1 0))] [] w1 := by
    intro w1 h0
    unfold fX9_calm_j9 at h0
    refine r_aload_n (pc := 9) F dX9_calm_9 rfl ?_
    refine r_bipush (pc := 10) F dX9_calm_10 bp_m4 ?_
    obtain ⟨q4, er3, h0⟩ := bind_some h0
    replace h0 := un2_eq h0
    obtain ⟨r3, w2, rfl, h0⟩ := h0
    refine r_Vj1 (pc := 12) F dX9_calm_12 ml_9_85 (kX9_refuse _ w1 (-4) (r3, w2) er3) i68_0 (ce_0 _ _ _) (Nat.le_of_ble_eq_true rfl) (Nat.le_of_ble_eq_true rfl) (Nat.le_of_ble_eq_true rfl) ?_
    exact hR _ _ _ _ dX9_calm_15 rfl (Option.some.inj h0)
  have J28 : ∀ (w6 : Wd), fX9_calm_j28 w6 = some out → V Z 28 [(0, .ref ((zg Z).1 0))] [] w6 := by
    intro w6 h0
    unfold fX9_calm_j28 at h0
    refine r_aload_n (pc := 28) F dX9_calm_28 rfl ?_
    refine r_bipush (pc := 29) F dX9_calm_29 bp_m6 ?_
    obtain ⟨q9, er8, h0⟩ := bind_some h0
    replace h0 := un2_eq h0
    obtain ⟨r8, w7, rfl, h0⟩ := h0
    refine r_Vj1 (pc := 31) F dX9_calm_31 ml_9_85 (kX9_refuse _ w6 (-6) (r8, w7) er8) i68_0 (ce_0 _ _ _) (Nat.le_of_ble_eq_true rfl) (Nat.le_of_ble_eq_true rfl) (Nat.le_of_ble_eq_true rfl) ?_
    exact hR _ _ _ _ dX9_calm_34 rfl (Option.some.inj h0)
  refine r_iload_n (pc := 0) F dX9_calm_0 rfl ?_
  refine r_iconst (pc := 1) F dX9_calm_1 ic_1 ?_
  refine r_icmp_lt (pc := 2) (tgt := 9) F dX9_calm_2 rfl h0 (fun h0 => ?_) (fun h0 => ?_)
  · refine V_sub (ls' := [(0, .ref ((zg Z).1 0))]) [0] rfl ?_
    exact J9 w h0
  · refine r_iload_n (pc := 5) F dX9_calm_5 rfl ?_
    refine r_if_ge (pc := 6) (tgt := 16) F dX9_calm_6 rfl h0 (fun h0 => ?_) (fun h0 => ?_)
    · refine r_iload_n (pc := 16) F dX9_calm_16 rfl ?_
      refine r_bipush (pc := 17) F dX9_calm_17 bp_99 ?_
      refine r_icmp_gt (pc := 19) (tgt := 28) F dX9_calm_19 rfl h0 (fun h0 => ?_) (fun h0 => ?_)
      · refine V_sub (ls' := [(0, .ref ((zg Z).1 0))]) [0] rfl ?_
        exact J28 w h0
      · refine r_iload_n (pc := 22) F dX9_calm_22 rfl ?_
        refine r_bipush (pc := 23) F dX9_calm_23 bp_99 ?_
        refine r_icmp_le (pc := 25) (tgt := 35) F dX9_calm_25 rfl h0 (fun h0 => ?_) (fun h0 => ?_)
        · refine r_iconst (pc := 35) F dX9_calm_35 ic_2 ?_
          refine r_iload_n (pc := 36) F dX9_calm_36 rfl ?_
          refine r_imul (pc := 37) F dX9_calm_37 ?_
          refine r_iconst (pc := 38) F dX9_calm_38 ic_1 ?_
          refine r_iadd (pc := 39) F dX9_calm_39 ?_
          obtain ⟨v11, ev11, h0⟩ := lt_some h0
          refine V_nm ev11 ?_
          refine r_istore_n (pc := 40) (ls' := [(0, .ref ((zg Z).1 0)), (1, .int a1), (2, .int a2), (3, .int v11)]) F dX9_calm_40 (Nat.le_of_ble_eq_true rfl) rfl ?_
          refine r_iload_n (pc := 41) F dX9_calm_41 rfl ?_
          refine r_iload_n (pc := 42) F dX9_calm_42 rfl ?_
          refine r_iadd (pc := 43) F dX9_calm_43 ?_
          refine r_iconst (pc := 44) F dX9_calm_44 ic_1 ?_
          refine r_isub (pc := 45) F dX9_calm_45 ?_
          refine r_iload_n (pc := 46) F dX9_calm_46 rfl ?_
          obtain ⟨g12, h0⟩ := gd_some h0
          refine r_idiv (pc := 47) F dX9_calm_47 (by simpa using g12) ?_
          exact hR _ _ _ _ dX9_calm_48 rfl (Option.some.inj h0)
        · refine V_sub (ls' := [(0, .ref ((zg Z).1 0))]) [0] rfl ?_
          exact J28 w h0
    · refine V_sub (ls' := [(0, .ref ((zg Z).1 0))]) [0] rfl ?_
      exact J9 w h0
set_option maxRecDepth 100000 in
set_option maxHeartbeats 4000000 in
theorem kX9_spreads (g : GT) (w : Wd) (a1 : Int32) (a2 : Int32) (out : Int32 × Wd) (h0 : fX9_spreads w a1 a2 = some out) : CtI g yX9_spreads cX9_spreads 3 (some .int) 1 22 [.ref (g.1 0), .int a1, .int a2] w (fun r w1 => (r, w1) = out) := by
  refine CtI_of .int (by decide) (Nat.le_of_ble_eq_true rfl) (fun Z hg F hR => ?_)
  subst hg
  have F : Fx Z RX9 cX9_spreads 3 1 22 := F
  refine V_sub (ls' := [(0, .ref ((zg Z).1 0)), (1, .int a1), (2, .int a2)]) [0, 1, 2] rfl ?_
  unfold fX9_spreads at h0
  have J9 : ∀ (w1 : Wd), fX9_spreads_j9 w1 = some out → V Z 9 [(0, .ref ((zg Z).1 0))] [] w1 := by
    intro w1 h0
    unfold fX9_spreads_j9 at h0
    refine r_aload_n (pc := 9) F dX9_spreads_9 rfl ?_
    refine r_bipush (pc := 10) F dX9_spreads_10 bp_m4 ?_
    obtain ⟨q4, er3, h0⟩ := bind_some h0
    replace h0 := un2_eq h0
    obtain ⟨r3, w2, rfl, h0⟩ := h0
    refine r_Vj1 (pc := 12) F dX9_spreads_12 ml_9_85 (kX9_refuse _ w1 (-4) (r3, w2) er3) i68_0 (ce_0 _ _ _) (Nat.le_of_ble_eq_true rfl) (Nat.le_of_ble_eq_true rfl) (Nat.le_of_ble_eq_true rfl) ?_
    exact hR _ _ _ _ dX9_spreads_15 rfl (Option.some.inj h0)
  have J28 : ∀ (w6 : Wd), fX9_spreads_j28 w6 = some out → V Z 28 [(0, .ref ((zg Z).1 0))] [] w6 := by
    intro w6 h0
    unfold fX9_spreads_j28 at h0
    refine r_aload_n (pc := 28) F dX9_spreads_28 rfl ?_
    refine r_bipush (pc := 29) F dX9_spreads_29 bp_m6 ?_
    obtain ⟨q9, er8, h0⟩ := bind_some h0
    replace h0 := un2_eq h0
    obtain ⟨r8, w7, rfl, h0⟩ := h0
    refine r_Vj1 (pc := 31) F dX9_spreads_31 ml_9_85 (kX9_refuse _ w6 (-6) (r8, w7) er8) i68_0 (ce_0 _ _ _) (Nat.le_of_ble_eq_true rfl) (Nat.le_of_ble_eq_true rfl) (Nat.le_of_ble_eq_true rfl) ?_
    exact hR _ _ _ _ dX9_spreads_34 rfl (Option.some.inj h0)
  refine r_iload_n (pc := 0) F dX9_spreads_0 rfl ?_
  refine r_iconst (pc := 1) F dX9_spreads_1 ic_1 ?_
  refine r_icmp_lt (pc := 2) (tgt := 9) F dX9_spreads_2 rfl h0 (fun h0 => ?_) (fun h0 => ?_)
  · refine V_sub (ls' := [(0, .ref ((zg Z).1 0))]) [0] rfl ?_
    exact J9 w h0
  · refine r_iload_n (pc := 5) F dX9_spreads_5 rfl ?_
    refine r_if_ge (pc := 6) (tgt := 16) F dX9_spreads_6 rfl h0 (fun h0 => ?_) (fun h0 => ?_)
    · refine r_iload_n (pc := 16) F dX9_spreads_16 rfl ?_
      refine r_bipush (pc := 17) F dX9_spreads_17 bp_99 ?_
      refine r_icmp_gt (pc := 19) (tgt := 28) F dX9_spreads_19 rfl h0 (fun h0 => ?_) (fun h0 => ?_)
      · refine V_sub (ls' := [(0, .ref ((zg Z).1 0))]) [0] rfl ?_
        exact J28 w h0
      · refine r_iload_n (pc := 22) F dX9_spreads_22 rfl ?_
        refine r_bipush (pc := 23) F dX9_spreads_23 bp_99 ?_
        refine r_icmp_le (pc := 25) (tgt := 35) F dX9_spreads_25 rfl h0 (fun h0 => ?_) (fun h0 => ?_)
        · refine r_iload_n (pc := 35) F dX9_spreads_35 rfl ?_
          refine r_iload_n (pc := 36) F dX9_spreads_36 rfl ?_
          refine r_icmp_lt (pc := 37) (tgt := 46) F dX9_spreads_37 rfl h0 (fun h0 => ?_) (fun h0 => ?_)
          · refine r_iload_n (pc := 46) F dX9_spreads_46 rfl ?_
            refine r_iload_n (pc := 47) F dX9_spreads_47 rfl ?_
            refine r_iconst (pc := 48) F dX9_spreads_48 ic_1 ?_
            refine r_isub (pc := 49) F dX9_spreads_49 ?_
            refine r_iload_n (pc := 50) F dX9_spreads_50 rfl ?_
            refine r_isub (pc := 51) F dX9_spreads_51 ?_
            refine r_max (pc := 52) F dX9_spreads_52 mk_9_256 ms_max mi_Math mc_max (Nat.le_of_ble_eq_true rfl) (Nat.le_of_ble_eq_true rfl) ?_
            exact hR _ _ _ _ dX9_spreads_55 rfl (Option.some.inj h0)
          · refine r_aload_n (pc := 40) F dX9_spreads_40 rfl ?_
            refine r_iconst (pc := 41) F dX9_spreads_41 ic_m1 ?_
            obtain ⟨q13, er12, h0⟩ := bind_some h0
            replace h0 := un2_eq h0
            obtain ⟨r12, w11, rfl, h0⟩ := h0
            refine r_Vj1 (pc := 42) F dX9_spreads_42 ml_9_85 (kX9_refuse _ w (-1) (r12, w11) er12) i68_0 (ce_0 _ _ _) (Nat.le_of_ble_eq_true rfl) (Nat.le_of_ble_eq_true rfl) (Nat.le_of_ble_eq_true rfl) ?_
            exact hR _ _ _ _ dX9_spreads_45 rfl (Option.some.inj h0)
        · refine V_sub (ls' := [(0, .ref ((zg Z).1 0))]) [0] rfl ?_
          exact J28 w h0
    · refine V_sub (ls' := [(0, .ref ((zg Z).1 0))]) [0] rfl ?_
      exact J9 w h0
set_option maxRecDepth 100000 in
set_option maxHeartbeats 4000000 in
theorem kX9_refuseLong (g : GT) (w : Wd) (a1 : Int32) (out : Int64 × Wd) (h0 : fX9_refuseLong w a1 = some out) : CtL g yX9_refuseLong cX9_refuseLong 2 (some .long) 1 22 [.ref (g.1 0), .int a1] w (fun r w1 => (r, w1) = out) := by
  refine CtL_of (by decide) (Nat.le_of_ble_eq_true rfl) (fun Z hg F hR => ?_)
  subst hg
  have F : Fx Z RX9 cX9_refuseLong 2 1 22 := F
  refine V_sub (ls' := [(0, .ref ((zg Z).1 0)), (1, .int a1)]) [0, 1] rfl ?_
  unfold fX9_refuseLong at h0
  refine r_ldc2_w (pc := 0) F dX9_refuseLong_0 kc_9_385 ?_
  refine r_aload_n (pc := 3) F dX9_refuseLong_3 rfl ?_
  refine r_iload_n (pc := 4) F dX9_refuseLong_4 rfl ?_
  obtain ⟨q3, er2, h0⟩ := bind_some h0
  replace h0 := un2_eq h0
  obtain ⟨r2, w1, rfl, h0⟩ := h0
  refine r_Vj1 (pc := 5) F dX9_refuseLong_5 ml_9_85 (kX9_refuse _ w a1 (r2, w1) er2) i68_0 (ce_0 _ _ _) (Nat.le_of_ble_eq_true rfl) (Nat.le_of_ble_eq_true rfl) (Nat.le_of_ble_eq_true rfl) ?_
  refine r_i2l (pc := 8) F dX9_refuseLong_8 ?_
  refine r_lsub (pc := 9) F dX9_refuseLong_9 ?_
  exact hR _ _ _ _ dX9_refuseLong_10 (Option.some.inj h0)
set_option maxRecDepth 100000 in
set_option maxHeartbeats 4000000 in
theorem kX0_fillTenths (g : GT) (b1 : Nat) (hb1 : isCo b1) (w : Wd) (a2 : Int32) (out : Wd) (h0 : fX0_fillTenths b1 w a2 = some out) : CtV g yX0_fillTenths cX0_fillTenths 5 none 3 69 [.ref (g.1 11), .ref (g.1 b1), .int a2] w (fun w1 => w1 = out) := by
  refine CtV_of (by decide) (Nat.le_of_ble_eq_true rfl) (fun Z hg F hR => ?_)
  subst hg
  have F : Fx Z RX0 cX0_fillTenths 5 3 69 := F
  refine V_sub (ls' := [(0, .ref ((zg Z).1 11)), (1, .ref ((zg Z).1 b1)), (2, .int a2)]) [0, 1, 2] rfl ?_
  unfold fX0_fillTenths at h0
  refine r_iconst (pc := 0) F dX0_fillTenths_0 ic_0 ?_
  refine r_istore_n (pc := 1) (ls' := [(0, .ref ((zg Z).1 11)), (1, .ref ((zg Z).1 b1)), (2, .int a2), (3, .int 0)]) F dX0_fillTenths_1 (Nat.le_of_ble_eq_true rfl) rfl ?_
  obtain ⟨w19, iw19, h0⟩ := bind_some h0
  suffices E2 : V Z 67 [] [] w19 by
    refine iter_rule (P := fun s : Int32 × Wd => V Z 2 [(0, .ref ((zg Z).1 11)), (1, .ref ((zg Z).1 b1)), (2, .int a2), (3, .int (s.1))] [] s.2) (x := w19) ?_ FU (0, w) iw19
    intro s y1 h1 hP1 hX1
    obtain ⟨l1, w2⟩ := s
    have h1 : fX0_fillTenths_b2 b1 a2 l1 w2 = some y1 := h1
    unfold fX0_fillTenths_b2 at h1
    have J44 : ∀ (w6 : Wd) (l4 : Int32) (l5 : Int32), fX0_fillTenths_j44 w6 l4 l5 = some y1 → V Z 44 [(0, .ref ((zg Z).1 11)), (1, .ref ((zg Z).1 b1)), (2, .int a2), (3, .int l4), (4, .int l5)] [] w6 := by
      intro w6 l4 l5 h1
      unfold fX0_fillTenths_j44 at h1
      refine r_aload_n (pc := 44) F dX0_fillTenths_44 rfl ?_
      refine r_getf (pc := 45) F dX0_fillTenths_45 fl_0_18 i68_11 (ce_11 _ _ _) rfl ?_
      refine r_iload_n (pc := 48) F dX0_fillTenths_48 rfl ?_
      refine r_iconst (pc := 49) F dX0_fillTenths_49 ic_0 ?_
      refine r_bipush (pc := 50) F dX0_fillTenths_50 bp_9 ?_
      refine r_iload (pc := 52) F dX0_fillTenths_52 rfl ?_
      refine r_min (pc := 54) F dX0_fillTenths_54 mk_0_83 ms_min mi_Math mc_min (Nat.le_of_ble_eq_true rfl) (Nat.le_of_ble_eq_true rfl) ?_
      refine r_max (pc := 57) F dX0_fillTenths_57 mk_0_86 ms_max mi_Math mc_max (Nat.le_of_ble_eq_true rfl) (Nat.le_of_ble_eq_true rfl) ?_
      obtain ⟨g8, h1⟩ := gd_some h1
      obtain ⟨w7, ew7, h1⟩ := lt_some h1
      refine r_iast (pc := 60) F dX0_fillTenths_60 i68_41 (ca_41 _) g8 rfl ew7 ?_
      obtain ⟨v10, ev10, h1⟩ := lt_some h1
      refine r_iinc (pc := 61) (ls' := [(0, .ref ((zg Z).1 11)), (1, .ref ((zg Z).1 b1)), (2, .int a2), (3, .int v10), (4, .int l5)]) F dX0_fillTenths_61 rfl (by rw [ev10]; rfl) (Nat.le_of_ble_eq_true rfl) rfl ?_
      refine r_goto (pc := 64) (tgt := 2) F dX0_fillTenths_64 rfl ?_
      refine V_sub (ls' := [(0, .ref ((zg Z).1 11)), (1, .ref ((zg Z).1 b1)), (2, .int a2), (3, .int v10)]) [0, 1, 2, 3] rfl ?_
      exact hP1 (v10, w7) (Option.some.inj h1).symm
    refine r_iload_n (pc := 2) F dX0_fillTenths_2 rfl ?_
    refine r_iconst (pc := 3) F dX0_fillTenths_3 ic_4 ?_
    refine r_icmp_ge (pc := 4) (tgt := 67) F dX0_fillTenths_4 rfl h1 (fun h1 => ?_) (fun h1 => ?_)
    · refine V_sub (ls' := []) [] rfl ?_
      have e3 := hX1 _ (Option.some.inj h1).symm
      cases e3
      exact E2
    · refine r_iconst (pc := 7) F dX0_fillTenths_7 ic_0 ?_
      refine r_istore (pc := 8) (ls' := [(0, .ref ((zg Z).1 11)), (1, .ref ((zg Z).1 b1)), (2, .int a2), (3, .int l1), (4, .int 0)]) F dX0_fillTenths_8 (Nat.le_of_ble_eq_true rfl) rfl ?_
      refine r_aload_n (pc := 10) F dX0_fillTenths_10 rfl ?_
      refine r_iload_n (pc := 11) F dX0_fillTenths_11 rfl ?_
      refine r_Vi1 (pc := 12) F dX0_fillTenths_12 ml_0_69 (kX2_hasOne _ b1 hb1 w2 l1 _ rfl) (lt_Co hb1) (ce_Co hb1 _ _ _) (Nat.le_of_ble_eq_true rfl) (Nat.le_of_ble_eq_true rfl) (Nat.le_of_ble_eq_true rfl) ?_
      refine r_if_eq (pc := 15) (tgt := 44) F dX0_fillTenths_15 rfl h1 (fun h1 => ?_) (fun h1 => ?_)
      · exact J44 w2 l1 0 h1
      · refine r_aload_n (pc := 18) F dX0_fillTenths_18 rfl ?_
        refine r_getf (pc := 19) F dX0_fillTenths_19 fl_0_73 (lt_Co hb1) (ce_Co hb1 _ _ _) rfl ?_
        refine r_iload_n (pc := 22) F dX0_fillTenths_22 rfl ?_
        obtain ⟨g11, h1⟩ := gd_some h1
        refine r_iald (pc := 23) F dX0_fillTenths_23 (lt_Co9 hb1) (ca_Co9 hb1 _) g11 rfl ?_
        refine r_iconst (pc := 24) F dX0_fillTenths_24 ic_3 ?_
        refine r_icmp_eq (pc := 25) (tgt := 44) F dX0_fillTenths_25 rfl h1 (fun h1 => ?_) (fun h1 => ?_)
        · exact J44 w2 l1 0 h1
        · refine r_aload_n (pc := 28) F dX0_fillTenths_28 rfl ?_
          refine r_iload_n (pc := 29) F dX0_fillTenths_29 rfl ?_
          refine r_iload_n (pc := 30) F dX0_fillTenths_30 rfl ?_
          obtain ⟨r12, er12, h1⟩ := bind_some h1
          refine r_Vi2 (pc := 31) F dX0_fillTenths_31 ml_0_76 (kX2_feltBy _ b1 hb1 w2 l1 a2 r12 er12) (lt_Co hb1) (ce_Co hb1 _ _ _) (Nat.le_of_ble_eq_true rfl) (Nat.le_of_ble_eq_true rfl) (Nat.le_of_ble_eq_true rfl) ?_
          refine r_aload_n (pc := 34) F dX0_fillTenths_34 rfl ?_
          refine r_iload_n (pc := 35) F dX0_fillTenths_35 rfl ?_
          obtain ⟨r13, er13, h1⟩ := bind_some h1
          refine r_Vi1 (pc := 36) F dX0_fillTenths_36 ml_0_80 (kX2_holdsOf _ b1 hb1 w2 l1 r13 er13) (lt_Co hb1) (ce_Co hb1 _ _ _) (Nat.le_of_ble_eq_true rfl) (Nat.le_of_ble_eq_true rfl) (Nat.le_of_ble_eq_true rfl) ?_
          refine r_iconst (pc := 39) F dX0_fillTenths_39 ic_2 ?_
          refine r_isub (pc := 40) F dX0_fillTenths_40 ?_
          refine r_isub (pc := 41) F dX0_fillTenths_41 ?_
          obtain ⟨v14, ev14, h1⟩ := lt_some h1
          refine V_nm ev14 ?_
          refine r_istore (pc := 42) (ls' := [(0, .ref ((zg Z).1 11)), (1, .ref ((zg Z).1 b1)), (2, .int a2), (3, .int l1), (4, .int v14)]) F dX0_fillTenths_42 (Nat.le_of_ble_eq_true rfl) rfl ?_
          exact J44 w2 l1 v14 h1
  exact hR _ _ _ dX0_fillTenths_67 (Option.some.inj h0)
set_option maxRecDepth 100000 in
set_option maxHeartbeats 4000000 in
theorem kX0_partsOf (g : GT) (w : Wd) (a1 : Int32) (a2 : Int32) (out : Int64) (h0 : fX0_partsOf w a1 a2 = some out) : CtL g yX0_partsOf cX0_partsOf 6 (some .long) 1 21 [.ref (g.1 11), .int a1, .int a2] w (fun r w1 => r = out ∧ w1 = w) := by
  refine CtL_of (by decide) (Nat.le_of_ble_eq_true rfl) (fun Z hg F hR => ?_)
  subst hg
  have F : Fx Z RX0 cX0_partsOf 6 1 21 := F
  refine V_sub (ls' := [(0, .ref ((zg Z).1 11)), (1, .int a1), (2, .int a2)]) [0, 1, 2] rfl ?_
  unfold fX0_partsOf at h0
  refine r_lconst (pc := 0) F dX0_partsOf_0 (rfl : Int64.ofNat _ = 1) ?_
  refine r_lstore_n (pc := 1) (ls' := [(0, .ref ((zg Z).1 11)), (1, .int a1), (2, .int a2), (3, .long 1)]) F dX0_partsOf_1 (Nat.le_of_ble_eq_true rfl) rfl ?_
  refine r_iconst (pc := 2) F dX0_partsOf_2 ic_0 ?_
  refine r_istore (pc := 3) (ls' := [(0, .ref ((zg Z).1 11)), (1, .int a1), (2, .int a2), (3, .long 1), (5, .int 0)]) F dX0_partsOf_3 (Nat.le_of_ble_eq_true rfl) rfl ?_
  obtain ⟨l15, il15, h0⟩ := bind_some h0
  suffices E5 : V Z 69 [(3, .long l15)] [] w by
    refine iter_rule (P := fun s : Int64 × Int32 => V Z 5 [(0, .ref ((zg Z).1 11)), (1, .int a1), (2, .int a2), (3, .long (s.1)), (5, .int (s.2))] [] w) (x := l15) ?_ FU (1, 0) il15
    intro s y1 h1 hP1 hX1
    obtain ⟨l1, l2⟩ := s
    have h1 : fX0_partsOf_b5 a2 a1 w l1 l2 = some y1 := h1
    unfold fX0_partsOf_b5 at h1
    refine r_iload (pc := 5) F dX0_partsOf_5 rfl ?_
    refine r_iconst (pc := 7) F dX0_partsOf_7 ic_4 ?_
    refine r_icmp_ge (pc := 8) (tgt := 69) F dX0_partsOf_8 rfl h1 (fun h1 => ?_) (fun h1 => ?_)
    · refine V_sub (ls' := [(3, .long l1)]) [3] rfl ?_
      have e3 := hX1 _ (Option.some.inj h1).symm
      cases e3
      exact E5
    · refine r_iload_n (pc := 11) F dX0_partsOf_11 rfl ?_
      refine r_iload (pc := 12) F dX0_partsOf_12 rfl ?_
      refine r_Ni2 (pc := 14) F dX0_partsOf_14 ml_0_101 (kX9_hasBit _ w a2 l2 _ rfl) (Nat.le_of_ble_eq_true rfl) (Nat.le_of_ble_eq_true rfl) (Nat.le_of_ble_eq_true rfl) ?_
      refine r_if_eq (pc := 17) (tgt := 34) F dX0_partsOf_17 rfl h1 (fun h1 => ?_) (fun h1 => ?_)
      · refine r_lload_n (pc := 34) F dX0_partsOf_34 rfl ?_
        refine r_iload_n (pc := 35) F dX0_partsOf_35 rfl ?_
        refine r_iload (pc := 36) F dX0_partsOf_36 rfl ?_
        refine r_Ni2 (pc := 38) F dX0_partsOf_38 ml_0_101 (kX9_hasBit _ w a1 l2 _ rfl) (Nat.le_of_ble_eq_true rfl) (Nat.le_of_ble_eq_true rfl) (Nat.le_of_ble_eq_true rfl) ?_
        obtain ⟨v5, hv5, h1⟩ := bind_some h1
        suffices Jv5 : V Z 61 [(0, .ref ((zg Z).1 11)), (1, .int a1), (2, .int a2), (3, .long l1), (5, .int l2)] [.long v5, .long l1] w by
          refine r_if_eq (pc := 41) (tgt := 58) F dX0_partsOf_41 rfl hv5 (fun hv5 => ?_) (fun hv5 => ?_)
          · refine r_ldc2_w (pc := 58) F dX0_partsOf_58 kc_0_105 ?_
            exact V_nmL (Option.some.inj hv5).symm Jv5
          · refine r_bipush (pc := 44) F dX0_partsOf_44 bp_10 ?_
            refine r_aload_n (pc := 46) F dX0_partsOf_46 rfl ?_
            refine r_getf (pc := 47) F dX0_partsOf_47 fl_0_18 i68_11 (ce_11 _ _ _) rfl ?_
            refine r_iload (pc := 50) F dX0_partsOf_50 rfl ?_
            obtain ⟨g6, hv5⟩ := gd_some hv5
            refine r_iald (pc := 52) F dX0_partsOf_52 i68_41 (ca_41 _) g6 rfl ?_
            refine r_isub (pc := 53) F dX0_partsOf_53 ?_
            refine r_i2l (pc := 54) F dX0_partsOf_54 ?_
            refine r_goto (pc := 55) (tgt := 61) F dX0_partsOf_55 rfl ?_
            exact V_nmL (Option.some.inj hv5).symm Jv5
        refine r_lmul (pc := 61) F dX0_partsOf_61 ?_
        obtain ⟨v7, ev7, h1⟩ := lt_some h1
        refine V_nmL ev7 ?_
        refine r_lstore_n (pc := 62) (ls' := [(0, .ref ((zg Z).1 11)), (1, .int a1), (2, .int a2), (3, .long v7), (5, .int l2)]) F dX0_partsOf_62 (Nat.le_of_ble_eq_true rfl) rfl ?_
        obtain ⟨v8, ev8, h1⟩ := lt_some h1
        refine r_iinc (pc := 63) (ls' := [(0, .ref ((zg Z).1 11)), (1, .int a1), (2, .int a2), (3, .long v7), (5, .int v8)]) F dX0_partsOf_63 rfl (by rw [ev8]; rfl) (Nat.le_of_ble_eq_true rfl) rfl ?_
        refine r_goto (pc := 66) (tgt := 5) F dX0_partsOf_66 rfl ?_
        exact hP1 (v7, v8) (Option.some.inj h1).symm
      · refine r_lload_n (pc := 20) F dX0_partsOf_20 rfl ?_
        refine r_aload_n (pc := 21) F dX0_partsOf_21 rfl ?_
        refine r_getf (pc := 22) F dX0_partsOf_22 fl_0_18 i68_11 (ce_11 _ _ _) rfl ?_
        refine r_iload (pc := 25) F dX0_partsOf_25 rfl ?_
        obtain ⟨g9, h1⟩ := gd_some h1
        refine r_iald (pc := 27) F dX0_partsOf_27 i68_41 (ca_41 _) g9 rfl ?_
        refine r_i2l (pc := 28) F dX0_partsOf_28 ?_
        refine r_lmul (pc := 29) F dX0_partsOf_29 ?_
        obtain ⟨v10, ev10, h1⟩ := lt_some h1
        refine V_nmL ev10 ?_
        refine r_lstore_n (pc := 30) (ls' := [(0, .ref ((zg Z).1 11)), (1, .int a1), (2, .int a2), (3, .long v10), (5, .int l2)]) F dX0_partsOf_30 (Nat.le_of_ble_eq_true rfl) rfl ?_
        refine r_goto (pc := 31) (tgt := 63) F dX0_partsOf_31 rfl ?_
        obtain ⟨v11, ev11, h1⟩ := lt_some h1
        refine r_iinc (pc := 63) (ls' := [(0, .ref ((zg Z).1 11)), (1, .int a1), (2, .int a2), (3, .long v10), (5, .int v11)]) F dX0_partsOf_63 rfl (by rw [ev11]; rfl) (Nat.le_of_ble_eq_true rfl) rfl ?_
        refine r_goto (pc := 66) (tgt := 5) F dX0_partsOf_66 rfl ?_
        exact hP1 (v10, v11) (Option.some.inj h1).symm
  refine r_lload_n (pc := 69) F dX0_partsOf_69 rfl ?_
  exact hR _ _ _ _ dX0_partsOf_70 ⟨(Option.some.inj h0), rfl⟩
set_option maxRecDepth 100000 in
set_option maxHeartbeats 4000000 in
theorem kX0_passChances (g : GT) (w : Wd) (out : Wd) (h0 : fX0_passChances w = some out) : CtV g yX0_passChances cX0_passChances 4 none 2 46 [.ref (g.1 11)] w (fun w1 => w1 = out) := by
  refine CtV_of (by decide) (Nat.le_of_ble_eq_true rfl) (fun Z hg F hR => ?_)
  subst hg
  have F : Fx Z RX0 cX0_passChances 4 2 46 := F
  refine V_sub (ls' := [(0, .ref ((zg Z).1 11))]) [0] rfl ?_
  unfold fX0_passChances at h0
  refine r_iconst (pc := 0) F dX0_passChances_0 ic_0 ?_
  refine r_istore_n (pc := 1) (ls' := [(0, .ref ((zg Z).1 11)), (1, .int 0)]) F dX0_passChances_1 (Nat.le_of_ble_eq_true rfl) rfl ?_
  obtain ⟨w10, iw10, h0⟩ := bind_some h0
  suffices E2 : V Z 21 [(0, .ref ((zg Z).1 11))] [] w10 by
    refine iter_rule (P := fun s : Int32 × Wd => V Z 2 [(0, .ref ((zg Z).1 11)), (1, .int (s.1))] [] s.2) (x := w10) ?_ FU (0, w) iw10
    intro s y1 h1 hP1 hX1
    obtain ⟨l1, w2⟩ := s
    have h1 : fX0_passChances_b2 l1 w2 = some y1 := h1
    unfold fX0_passChances_b2 at h1
    refine r_iload_n (pc := 2) F dX0_passChances_2 rfl ?_
    refine r_bipush (pc := 3) F dX0_passChances_3 bp_16 ?_
    refine r_icmp_ge (pc := 5) (tgt := 21) F dX0_passChances_5 rfl h1 (fun h1 => ?_) (fun h1 => ?_)
    · refine V_sub (ls' := [(0, .ref ((zg Z).1 11))]) [0] rfl ?_
      have e3 := hX1 _ (Option.some.inj h1).symm
      cases e3
      exact E2
    · refine r_aload_n (pc := 8) F dX0_passChances_8 rfl ?_
      refine r_getf (pc := 9) F dX0_passChances_9 fl_0_15 i68_11 (ce_11 _ _ _) rfl ?_
      refine r_iload_n (pc := 12) F dX0_passChances_12 rfl ?_
      refine r_lconst (pc := 13) F dX0_passChances_13 (rfl : Int64.ofNat _ = 0) ?_
      obtain ⟨g5, h1⟩ := gd_some h1
      obtain ⟨w4, ew4, h1⟩ := lt_some h1
      refine r_last (pc := 14) F dX0_passChances_14 i68_40 (ca_40 _) g5 rfl ew4 ?_
      obtain ⟨v7, ev7, h1⟩ := lt_some h1
      refine r_iinc (pc := 15) (ls' := [(0, .ref ((zg Z).1 11)), (1, .int v7)]) F dX0_passChances_15 rfl (by rw [ev7]; rfl) (Nat.le_of_ble_eq_true rfl) rfl ?_
      refine r_goto (pc := 18) (tgt := 2) F dX0_passChances_18 rfl ?_
      exact hP1 (v7, w4) (Option.some.inj h1).symm
  refine r_iconst (pc := 21) F dX0_passChances_21 ic_0 ?_
  refine r_istore_n (pc := 22) (ls' := [(0, .ref ((zg Z).1 11)), (1, .int 0)]) F dX0_passChances_22 (Nat.le_of_ble_eq_true rfl) rfl ?_
  obtain ⟨w40, iw40, h0⟩ := bind_some h0
  suffices E23 : V Z 105 [(0, .ref ((zg Z).1 11))] [] w40 by
    refine iter_rule (P := fun s : Int32 × Wd => V Z 23 [(0, .ref ((zg Z).1 11)), (1, .int (s.1))] [] s.2) (x := w40) ?_ FU (0, w10) iw40
    intro s y1 h1 hP1 hX1
    obtain ⟨l12, w13⟩ := s
    have h1 : fX0_passChances_b23 l12 w13 = some y1 := h1
    unfold fX0_passChances_b23 at h1
    refine r_iload_n (pc := 23) F dX0_passChances_23 rfl ?_
    refine r_bipush (pc := 24) F dX0_passChances_24 bp_16 ?_
    refine r_icmp_ge (pc := 26) (tgt := 105) F dX0_passChances_26 rfl h1 (fun h1 => ?_) (fun h1 => ?_)
    · refine V_sub (ls' := [(0, .ref ((zg Z).1 11))]) [0] rfl ?_
      have e14 := hX1 _ (Option.some.inj h1).symm
      cases e14
      exact E23
    · refine r_iconst (pc := 29) F dX0_passChances_29 ic_0 ?_
      refine r_istore_n (pc := 30) (ls' := [(0, .ref ((zg Z).1 11)), (1, .int l12), (2, .int 0)]) F dX0_passChances_30 (Nat.le_of_ble_eq_true rfl) rfl ?_
      obtain ⟨w35, iw35, h1⟩ := bind_some h1
      suffices E31 : V Z 99 [(0, .ref ((zg Z).1 11)), (1, .int l12)] [] w35 by
        refine iter_rule (P := fun s : Int32 × Wd => V Z 31 [(0, .ref ((zg Z).1 11)), (1, .int l12), (2, .int (s.1))] [] s.2) (x := w35) ?_ FU (0, w13) iw35
        intro s y2 h2 hP2 hX2
        obtain ⟨l15, w16⟩ := s
        have h2 : fX0_passChances_b31 l12 l15 w16 = some y2 := h2
        unfold fX0_passChances_b31 at h2
        refine r_iload_n (pc := 31) F dX0_passChances_31 rfl ?_
        refine r_iload_n (pc := 32) F dX0_passChances_32 rfl ?_
        refine r_icmp_gt (pc := 33) (tgt := 99) F dX0_passChances_33 rfl h2 (fun h2 => ?_) (fun h2 => ?_)
        · refine V_sub (ls' := [(0, .ref ((zg Z).1 11)), (1, .int l12)]) [0, 1] rfl ?_
          have e17 := hX2 _ (Option.some.inj h2).symm
          cases e17
          exact E31
        · refine r_aload_n (pc := 36) F dX0_passChances_36 rfl ?_
          refine r_getf (pc := 37) F dX0_passChances_37 fl_0_11 i68_11 (ce_11 _ _ _) rfl ?_
          refine r_iload_n (pc := 40) F dX0_passChances_40 rfl ?_
          obtain ⟨g18, h2⟩ := gd_some h2
          refine r_lald (pc := 41) F dX0_passChances_41 i68_39 (ca_39 _) g18 rfl ?_
          refine r_lconst (pc := 42) F dX0_passChances_42 (rfl : Int64.ofNat _ = 0) ?_
          refine r_lcmp (pc := 43) F dX0_passChances_43 ?_
          refine r_if_eq (pc := 44) (tgt := 93) F dX0_passChances_44 rfl h2 (fun h2 => ?_) (fun h2 => ?_)
          · obtain ⟨v19, ev19, h2⟩ := lt_some h2
            refine r_iinc (pc := 93) (ls' := [(0, .ref ((zg Z).1 11)), (1, .int l12), (2, .int v19)]) F dX0_passChances_93 rfl (by rw [ev19]; rfl) (Nat.le_of_ble_eq_true rfl) rfl ?_
            refine r_goto (pc := 96) (tgt := 31) F dX0_passChances_96 rfl ?_
            exact hP2 (v19, w16) (Option.some.inj h2).symm
          · refine r_iload_n (pc := 47) F dX0_passChances_47 rfl ?_
            refine r_iload_n (pc := 48) F dX0_passChances_48 rfl ?_
            refine r_iconst (pc := 49) F dX0_passChances_49 ic_m1 ?_
            refine r_ixor (pc := 50) F dX0_passChances_50 ?_
            refine r_iand (pc := 51) F dX0_passChances_51 ?_
            refine r_if_ne (pc := 52) (tgt := 93) F dX0_passChances_52 rfl h2 (fun h2 => ?_) (fun h2 => ?_)
            · refine r_aload_n (pc := 55) F dX0_passChances_55 rfl ?_
              refine r_getf (pc := 56) F dX0_passChances_56 fl_0_22 i68_11 (ce_11 _ _ _) rfl ?_
              refine r_iload_n (pc := 59) F dX0_passChances_59 rfl ?_
              refine r_iload_n (pc := 60) F dX0_passChances_60 rfl ?_
              refine r_iconst (pc := 61) F dX0_passChances_61 ic_m1 ?_
              refine r_ixor (pc := 62) F dX0_passChances_62 ?_
              refine r_iand (pc := 63) F dX0_passChances_63 ?_
              obtain ⟨q22, er21, h2⟩ := bind_some h2
              replace h2 := un2_eq h2
              obtain ⟨r21, w20, rfl, h2⟩ := h2
              refine r_Vj1 (pc := 64) F dX0_passChances_64 ml_0_88 (kX8_relight _ w16 (l12 &&& (l15 ^^^ (-1))) (r21, w20) er21) i68_4 (ce_4 _ _ _) (Nat.le_of_ble_eq_true rfl) (Nat.le_of_ble_eq_true rfl) (Nat.le_of_ble_eq_true rfl) ?_
              refine r_bipush (pc := 67) F dX0_passChances_67 bp_15 ?_
              refine r_iand (pc := 69) F dX0_passChances_69 ?_
              obtain ⟨v24, ev24, h2⟩ := lt_some h2
              refine V_nm ev24 ?_
              refine r_istore_n (pc := 70) (ls' := [(0, .ref ((zg Z).1 11)), (1, .int l12), (2, .int l15), (3, .int v24)]) F dX0_passChances_70 (Nat.le_of_ble_eq_true rfl) rfl ?_
              refine r_aload_n (pc := 71) F dX0_passChances_71 rfl ?_
              refine r_getf (pc := 72) F dX0_passChances_72 fl_0_15 i68_11 (ce_11 _ _ _) rfl ?_
              refine r_iload_n (pc := 75) F dX0_passChances_75 rfl ?_
              refine r_dup2 (pc := 76) F dX0_passChances_76 rfl rfl ?_
              obtain ⟨g25, h2⟩ := gd_some h2
              refine r_lald (pc := 77) F dX0_passChances_77 i68_40 (ca_40 _) g25 rfl ?_
              refine r_aload_n (pc := 78) F dX0_passChances_78 rfl ?_
              refine r_getf (pc := 79) F dX0_passChances_79 fl_0_11 i68_11 (ce_11 _ _ _) rfl ?_
              refine r_iload_n (pc := 82) F dX0_passChances_82 rfl ?_
              refine r_lald (pc := 83) F dX0_passChances_83 i68_39 (ca_39 _) g18 rfl ?_
              refine r_aload_n (pc := 84) F dX0_passChances_84 rfl ?_
              refine r_iload_n (pc := 85) F dX0_passChances_85 rfl ?_
              refine r_iload_n (pc := 86) F dX0_passChances_86 rfl ?_
              obtain ⟨r26, er26, h2⟩ := bind_some h2
              refine r_Vl2 (pc := 87) F dX0_passChances_87 ml_0_91 (kX0_partsOf _ w20 l12 l15 r26 er26) i68_11 (ce_11 _ _ _) (Nat.le_of_ble_eq_true rfl) (Nat.le_of_ble_eq_true rfl) (Nat.le_of_ble_eq_true rfl) ?_
              refine r_lmul (pc := 90) F dX0_passChances_90 ?_
              refine r_ladd (pc := 91) F dX0_passChances_91 ?_
              obtain ⟨w27, ew27, h2⟩ := lt_some h2
              refine r_last (pc := 92) F dX0_passChances_92 i68_40 (ca_40 _) g25 rfl ew27 ?_
              obtain ⟨v29, ev29, h2⟩ := lt_some h2
              refine r_iinc (pc := 93) (ls' := [(0, .ref ((zg Z).1 11)), (1, .int l12), (2, .int v29), (3, .int v24)]) F dX0_passChances_93 rfl (by rw [ev29]; rfl) (Nat.le_of_ble_eq_true rfl) rfl ?_
              refine r_goto (pc := 96) (tgt := 31) F dX0_passChances_96 rfl ?_
              refine V_sub (ls' := [(0, .ref ((zg Z).1 11)), (1, .int l12), (2, .int v29)]) [0, 1, 2] rfl ?_
              exact hP2 (v29, w27) (Option.some.inj h2).symm
            · obtain ⟨v30, ev30, h2⟩ := lt_some h2
              refine r_iinc (pc := 93) (ls' := [(0, .ref ((zg Z).1 11)), (1, .int l12), (2, .int v30)]) F dX0_passChances_93 rfl (by rw [ev30]; rfl) (Nat.le_of_ble_eq_true rfl) rfl ?_
              refine r_goto (pc := 96) (tgt := 31) F dX0_passChances_96 rfl ?_
              exact hP2 (v30, w16) (Option.some.inj h2).symm
      obtain ⟨v37, ev37, h1⟩ := lt_some h1
      refine r_iinc (pc := 99) (ls' := [(0, .ref ((zg Z).1 11)), (1, .int v37)]) F dX0_passChances_99 rfl (by rw [ev37]; rfl) (Nat.le_of_ble_eq_true rfl) rfl ?_
      refine r_goto (pc := 102) (tgt := 23) F dX0_passChances_102 rfl ?_
      exact hP1 (v37, w35) (Option.some.inj h1).symm
  refine r_aload_n (pc := 105) F dX0_passChances_105 rfl ?_
  refine r_getf (pc := 106) F dX0_passChances_106 fl_0_15 i68_11 (ce_11 _ _ _) rfl ?_
  refine r_iconst (pc := 109) F dX0_passChances_109 ic_0 ?_
  refine r_aload_n (pc := 110) F dX0_passChances_110 rfl ?_
  refine r_getf (pc := 111) F dX0_passChances_111 fl_0_11 i68_11 (ce_11 _ _ _) rfl ?_
  refine r_iconst (pc := 114) F dX0_passChances_114 ic_0 ?_
  refine r_bipush (pc := 115) F dX0_passChances_115 bp_16 ?_
  obtain ⟨w42, ew42, h0⟩ := lt_some h0
  refine r_acpJ (pc := 117) (c := 16) F dX0_passChances_117 mk_0_95 mn_acp ms_acp mi_System i68_40 (ca_40 _) i68_39 (ca_39 _) rfl rfl (by decide) rfl (Nat.le_of_ble_eq_true rfl) (Nat.le_of_ble_eq_true rfl) (Nat.le_of_ble_eq_true rfl) (Nat.le_of_ble_eq_true rfl) ew42 ?_
  exact hR _ _ _ dX0_passChances_120 (Option.some.inj h0)
set_option maxRecDepth 100000 in
set_option maxHeartbeats 4000000 in
theorem kX0_weigh (g : GT) (b1 : Nat) (hb1 : isCo b1) (w : Wd) (a2 : Int32) (out : Wd) (h0 : fX0_weigh b1 w a2 = some out) : CtV g yX0_weigh cX0_weigh 4 none 4 93 [.ref (g.1 11), .ref (g.1 b1), .int a2] w (fun w1 => w1 = out) := by
  refine CtV_of (by decide) (Nat.le_of_ble_eq_true rfl) (fun Z hg F hR => ?_)
  subst hg
  have F : Fx Z RX0 cX0_weigh 4 4 93 := F
  refine V_sub (ls' := [(0, .ref ((zg Z).1 11)), (1, .ref ((zg Z).1 b1)), (2, .int a2)]) [0, 1, 2] rfl ?_
  unfold fX0_weigh at h0
  refine r_aload_n (pc := 0) F dX0_weigh_0 rfl ?_
  refine r_getf (pc := 1) F dX0_weigh_1 fl_0_22 i68_11 (ce_11 _ _ _) rfl ?_
  refine r_aload_n (pc := 4) F dX0_weigh_4 rfl ?_
  obtain ⟨w1, ew1, h0⟩ := bind_some h0
  refine r_Vv1 (pc := 5) F dX0_weigh_5 ml_0_26 (kX8_setOut _ b1 hb1 w w1 ew1) i68_4 (ce_4 _ _ _) (Nat.le_of_ble_eq_true rfl) (Nat.le_of_ble_eq_true rfl) (Nat.le_of_ble_eq_true rfl) ?_
  refine r_iconst (pc := 8) F dX0_weigh_8 ic_0 ?_
  refine r_istore_n (pc := 9) (ls' := [(0, .ref ((zg Z).1 11)), (1, .ref ((zg Z).1 b1)), (2, .int a2), (3, .int 0)]) F dX0_weigh_9 (Nat.le_of_ble_eq_true rfl) rfl ?_
  obtain ⟨w13, iw13, h0⟩ := bind_some h0
  suffices E10 : V Z 41 [(0, .ref ((zg Z).1 11)), (1, .ref ((zg Z).1 b1)), (2, .int a2)] [] w13 by
    refine iter_rule (P := fun s : Int32 × Wd => V Z 10 [(0, .ref ((zg Z).1 11)), (1, .ref ((zg Z).1 b1)), (2, .int a2), (3, .int (s.1))] [] s.2) (x := w13) ?_ FU (0, w1) iw13
    intro s y1 h1 hP1 hX1
    obtain ⟨l3, w4⟩ := s
    have h1 : fX0_weigh_b10 b1 l3 w4 = some y1 := h1
    unfold fX0_weigh_b10 at h1
    refine r_iload_n (pc := 10) F dX0_weigh_10 rfl ?_
    refine r_bipush (pc := 11) F dX0_weigh_11 bp_16 ?_
    refine r_icmp_ge (pc := 13) (tgt := 41) F dX0_weigh_13 rfl h1 (fun h1 => ?_) (fun h1 => ?_)
    · refine V_sub (ls' := [(0, .ref ((zg Z).1 11)), (1, .ref ((zg Z).1 b1)), (2, .int a2)]) [0, 1, 2] rfl ?_
      have e5 := hX1 _ (Option.some.inj h1).symm
      cases e5
      exact E10
    · refine r_aload_n (pc := 16) F dX0_weigh_16 rfl ?_
      refine r_getf (pc := 17) F dX0_weigh_17 fl_0_11 i68_11 (ce_11 _ _ _) rfl ?_
      refine r_iload_n (pc := 20) F dX0_weigh_20 rfl ?_
      refine r_iload_n (pc := 21) F dX0_weigh_21 rfl ?_
      refine r_aload_n (pc := 22) F dX0_weigh_22 rfl ?_
      refine r_getf (pc := 23) F dX0_weigh_23 fl_0_32 (lt_Co hb1) (ce_Co hb1 _ _ _) rfl ?_
      obtain ⟨v6, hv6, h1⟩ := lt_some h1
      have hv6 := hv6.symm
      suffices Jv6 : V Z 34 [(0, .ref ((zg Z).1 11)), (1, .ref ((zg Z).1 b1)), (2, .int a2), (3, .int l3)] [.long v6, .int l3, .ref ((zg Z).1 39)] w4 by
        refine r_icmp_ne (pc := 26) (tgt := 33) F dX0_weigh_26 rfl hv6 (fun hv6 => ?_) (fun hv6 => ?_)
        · refine r_lconst (pc := 29) F dX0_weigh_29 (rfl : Int64.ofNat _ = 1) ?_
          refine r_goto (pc := 30) (tgt := 34) F dX0_weigh_30 rfl ?_
          exact V_nmL hv6.symm Jv6
        · refine r_lconst (pc := 33) F dX0_weigh_33 (rfl : Int64.ofNat _ = 0) ?_
          exact V_nmL hv6.symm Jv6
      obtain ⟨g8, h1⟩ := gd_some h1
      obtain ⟨w7, ew7, h1⟩ := lt_some h1
      refine r_last (pc := 34) F dX0_weigh_34 i68_39 (ca_39 _) g8 rfl ew7 ?_
      obtain ⟨v10, ev10, h1⟩ := lt_some h1
      refine r_iinc (pc := 35) (ls' := [(0, .ref ((zg Z).1 11)), (1, .ref ((zg Z).1 b1)), (2, .int a2), (3, .int v10)]) F dX0_weigh_35 rfl (by rw [ev10]; rfl) (Nat.le_of_ble_eq_true rfl) rfl ?_
      refine r_goto (pc := 38) (tgt := 10) F dX0_weigh_38 rfl ?_
      exact hP1 (v10, w7) (Option.some.inj h1).symm
  refine r_aload_n (pc := 41) F dX0_weigh_41 rfl ?_
  refine r_lconst (pc := 42) F dX0_weigh_42 (rfl : Int64.ofNat _ = 1) ?_
  obtain ⟨w15, ew15, h0⟩ := lt_some h0
  refine r_putJ (pc := 43) F dX0_weigh_43 fl_0_38 fp_0_0 i68_11 (ce_11 _) (Nat.le_of_ble_eq_true rfl) rfl ew15 ?_
  refine r_iconst (pc := 46) F dX0_weigh_46 ic_0 ?_
  refine r_istore_n (pc := 47) (ls' := [(0, .ref ((zg Z).1 11)), (1, .ref ((zg Z).1 b1)), (2, .int a2), (3, .int 0)]) F dX0_weigh_47 (Nat.le_of_ble_eq_true rfl) rfl ?_
  obtain ⟨w29, iw29, h0⟩ := bind_some h0
  suffices E48 : V Z 86 [] [] w29 by
    refine iter_rule (P := fun s : Int32 × Wd => V Z 48 [(0, .ref ((zg Z).1 11)), (1, .ref ((zg Z).1 b1)), (2, .int a2), (3, .int (s.1))] [] s.2) (x := w29) ?_ FU (0, w15) iw29
    intro s y1 h1 hP1 hX1
    obtain ⟨l17, w18⟩ := s
    have h1 : fX0_weigh_b48 a2 b1 l17 w18 = some y1 := h1
    unfold fX0_weigh_b48 at h1
    refine r_iload_n (pc := 48) F dX0_weigh_48 rfl ?_
    refine r_iload_n (pc := 49) F dX0_weigh_49 rfl ?_
    refine r_icmp_ge (pc := 50) (tgt := 86) F dX0_weigh_50 rfl h1 (fun h1 => ?_) (fun h1 => ?_)
    · refine V_sub (ls' := []) [] rfl ?_
      have e19 := hX1 _ (Option.some.inj h1).symm
      cases e19
      exact E48
    · refine r_aload_n (pc := 53) F dX0_weigh_53 rfl ?_
      refine r_aload_n (pc := 54) F dX0_weigh_54 rfl ?_
      refine r_aload_n (pc := 55) F dX0_weigh_55 rfl ?_
      refine r_getf (pc := 56) F dX0_weigh_56 fl_0_42 (lt_Co hb1) (ce_Co hb1 _ _ _) rfl ?_
      refine r_iload_n (pc := 59) F dX0_weigh_59 rfl ?_
      refine r_iadd (pc := 60) F dX0_weigh_60 ?_
      obtain ⟨w20, ew20, h1⟩ := bind_some h1
      refine r_Vv2 (pc := 61) F dX0_weigh_61 ml_0_45 (kX0_fillTenths _ b1 hb1 w18 ((w18.1 b1 5) + l17) w20 ew20) i68_11 (ce_11 _ _ _) (Nat.le_of_ble_eq_true rfl) (Nat.le_of_ble_eq_true rfl) (Nat.le_of_ble_eq_true rfl) ?_
      refine r_aload_n (pc := 64) F dX0_weigh_64 rfl ?_
      obtain ⟨w22, ew22, h1⟩ := bind_some h1
      refine r_Vv0 (pc := 65) F dX0_weigh_65 ml_0_49 (kX0_passChances _ w20 w22 ew22) i68_11 (ce_11 _ _ _) (Nat.le_of_ble_eq_true rfl) (Nat.le_of_ble_eq_true rfl) (Nat.le_of_ble_eq_true rfl) ?_
      refine r_aload_n (pc := 68) F dX0_weigh_68 rfl ?_
      refine r_dup (pc := 69) F dX0_weigh_69 rfl ?_
      refine r_getf (pc := 70) F dX0_weigh_70 fl_0_38 i68_11 (ce_11 _ _ _) rfl ?_
      refine r_ldc2_w (pc := 73) F dX0_weigh_73 kc_0_52 ?_
      refine r_lmul (pc := 76) F dX0_weigh_76 ?_
      obtain ⟨w24, ew24, h1⟩ := lt_some h1
      refine r_putJ (pc := 77) F dX0_weigh_77 fl_0_38 fp_0_0 i68_11 (ce_11 _) (Nat.le_of_ble_eq_true rfl) rfl ew24 ?_
      obtain ⟨v26, ev26, h1⟩ := lt_some h1
      refine r_iinc (pc := 80) (ls' := [(0, .ref ((zg Z).1 11)), (1, .ref ((zg Z).1 b1)), (2, .int a2), (3, .int v26)]) F dX0_weigh_80 rfl (by rw [ev26]; rfl) (Nat.le_of_ble_eq_true rfl) rfl ?_
      refine r_goto (pc := 83) (tgt := 48) F dX0_weigh_83 rfl ?_
      exact hP1 (v26, w24) (Option.some.inj h1).symm
  exact hR _ _ _ dX0_weigh_86 (Option.some.inj h0)
set_option maxRecDepth 100000 in
set_option maxHeartbeats 4000000 in
theorem kX0_greatestCommon (g : GT) (w : Wd) (a0 : Int64) (a2 : Int64) (out : Int64) (h0 : fX0_greatestCommon a0 a2 = some out) : CtL g yX0_greatestCommon cX0_greatestCommon 11 (some .long) 0 0 [.long a0, .long a2] w (fun r w1 => r = out ∧ w1 = w) := by
  refine CtL_of (by decide) (Nat.le_of_ble_eq_true rfl) (fun Z hg F hR => ?_)
  subst hg
  have F : Fx Z RX0 cX0_greatestCommon 11 0 0 := F
  refine V_sub (ls' := [(0, .long a0), (2, .long a2)]) [0, 1] rfl ?_
  unfold fX0_greatestCommon at h0
  refine r_lload_n (pc := 0) F dX0_greatestCommon_0 rfl ?_
  refine r_lstore (pc := 1) (ls' := [(0, .long a0), (2, .long a2), (4, .long a0)]) F dX0_greatestCommon_1 (Nat.le_of_ble_eq_true rfl) rfl ?_
  refine r_lload_n (pc := 3) F dX0_greatestCommon_3 rfl ?_
  refine r_lstore (pc := 4) (ls' := [(0, .long a0), (2, .long a2), (4, .long a0), (6, .long a2)]) F dX0_greatestCommon_4 (Nat.le_of_ble_eq_true rfl) rfl ?_
  refine r_iconst (pc := 6) F dX0_greatestCommon_6 ic_0 ?_
  refine r_istore (pc := 7) (ls' := [(0, .long a0), (2, .long a2), (4, .long a0), (6, .long a2), (8, .int 0)]) F dX0_greatestCommon_7 (Nat.le_of_ble_eq_true rfl) rfl ?_
  refine V_sub (ls' := [(4, .long a0), (6, .long a2), (8, .int 0)]) [2, 3, 4] rfl ?_
  obtain ⟨l12, il12, h0⟩ := bind_some h0
  suffices E9 : V Z 45 [(4, .long l12)] [] w by
    refine iter_rule (P := fun s : Int64 × Int64 × Int32 => V Z 9 [(4, .long (s.1)), (6, .long (s.2.1)), (8, .int (s.2.2))] [] w) (x := l12) ?_ FU (a0, a2, 0) il12
    intro s y1 h1 hP1 hX1
    obtain ⟨l1, l2, l3⟩ := s
    have h1 : fX0_greatestCommon_b9 l1 l2 l3 = some y1 := h1
    unfold fX0_greatestCommon_b9 at h1
    refine r_iload (pc := 9) F dX0_greatestCommon_9 rfl ?_
    refine r_sipush (pc := 11) F dX0_greatestCommon_11 sp_200 ?_
    refine r_icmp_ge (pc := 14) (tgt := 45) F dX0_greatestCommon_14 rfl h1 (fun h1 => ?_) (fun h1 => ?_)
    · refine V_sub (ls' := [(4, .long l1)]) [0] rfl ?_
      have e4 := hX1 _ (Option.some.inj h1).symm
      cases e4
      exact E9
    · refine r_lload (pc := 17) F dX0_greatestCommon_17 rfl ?_
      refine r_lconst (pc := 19) F dX0_greatestCommon_19 (rfl : Int64.ofNat _ = 0) ?_
      refine r_lcmp (pc := 20) F dX0_greatestCommon_20 ?_
      refine r_if_eq (pc := 21) (tgt := 45) F dX0_greatestCommon_21 rfl h1 (fun h1 => ?_) (fun h1 => ?_)
      · refine V_sub (ls' := [(4, .long l1)]) [0] rfl ?_
        have e5 := hX1 _ (Option.some.inj h1).symm
        cases e5
        exact E9
      · refine r_lload (pc := 24) F dX0_greatestCommon_24 rfl ?_
        refine r_lload (pc := 26) F dX0_greatestCommon_26 rfl ?_
        obtain ⟨g6, h1⟩ := gd_some h1
        refine r_lrem (pc := 28) F dX0_greatestCommon_28 (by simpa using g6) ?_
        obtain ⟨v7, ev7, h1⟩ := lt_some h1
        refine V_nmL ev7 ?_
        refine r_lstore (pc := 29) (ls' := [(4, .long l1), (6, .long l2), (8, .int l3), (9, .long v7)]) F dX0_greatestCommon_29 (Nat.le_of_ble_eq_true rfl) rfl ?_
        refine r_lload (pc := 31) F dX0_greatestCommon_31 rfl ?_
        refine r_lstore (pc := 33) (ls' := [(4, .long l2), (6, .long l2), (8, .int l3), (9, .long v7)]) F dX0_greatestCommon_33 (Nat.le_of_ble_eq_true rfl) rfl ?_
        refine r_lload (pc := 35) F dX0_greatestCommon_35 rfl ?_
        refine r_lstore (pc := 37) (ls' := [(4, .long l2), (6, .long v7), (8, .int l3), (9, .long v7)]) F dX0_greatestCommon_37 (Nat.le_of_ble_eq_true rfl) rfl ?_
        obtain ⟨v8, ev8, h1⟩ := lt_some h1
        refine r_iinc (pc := 39) (ls' := [(4, .long l2), (6, .long v7), (8, .int v8), (9, .long v7)]) F dX0_greatestCommon_39 rfl (by rw [ev8]; rfl) (Nat.le_of_ble_eq_true rfl) rfl ?_
        refine r_goto (pc := 42) (tgt := 9) F dX0_greatestCommon_42 rfl ?_
        refine V_sub (ls' := [(4, .long l2), (6, .long v7), (8, .int v8)]) [0, 1, 2] rfl ?_
        exact hP1 (l2, v7, v8) (Option.some.inj h1).symm
  refine r_lload (pc := 45) F dX0_greatestCommon_45 rfl ?_
  exact hR _ _ _ _ dX0_greatestCommon_47 ⟨(Option.some.inj h0), rfl⟩
set_option maxRecDepth 100000 in
set_option maxHeartbeats 4000000 in
theorem kX0_inLeastTerms (g : GT) (w : Wd) (a1 : Int32) (a2 : Int32) (out : Int64) (h0 : fX0_inLeastTerms w a1 a2 = some out) : CtL g yX0_inLeastTerms cX0_inLeastTerms 7 (some .long) 1 30 [.ref (g.1 11), .int a1, .int a2] w (fun r w1 => r = out ∧ w1 = w) := by
  refine CtL_of (by decide) (Nat.le_of_ble_eq_true rfl) (fun Z hg F hR => ?_)
  subst hg
  have F : Fx Z RX0 cX0_inLeastTerms 7 1 30 := F
  refine V_sub (ls' := [(0, .ref ((zg Z).1 11)), (1, .int a1), (2, .int a2)]) [0, 1, 2] rfl ?_
  unfold fX0_inLeastTerms at h0
  refine r_lconst (pc := 0) F dX0_inLeastTerms_0 (rfl : Int64.ofNat _ = 0) ?_
  refine r_lstore_n (pc := 1) (ls' := [(0, .ref ((zg Z).1 11)), (1, .int a1), (2, .int a2), (3, .long 0)]) F dX0_inLeastTerms_1 (Nat.le_of_ble_eq_true rfl) rfl ?_
  refine r_iconst (pc := 2) F dX0_inLeastTerms_2 ic_1 ?_
  refine r_istore (pc := 3) (ls' := [(0, .ref ((zg Z).1 11)), (1, .int a1), (2, .int a2), (3, .long 0), (5, .int 1)]) F dX0_inLeastTerms_3 (Nat.le_of_ble_eq_true rfl) rfl ?_
  obtain ⟨l12, il12, h0⟩ := bind_some h0
  suffices E5 : V Z 49 [(0, .ref ((zg Z).1 11)), (2, .int a2), (3, .long l12)] [] w by
    refine iter_rule (P := fun s : Int64 × Int32 => V Z 5 [(0, .ref ((zg Z).1 11)), (1, .int a1), (2, .int a2), (3, .long (s.1)), (5, .int (s.2))] [] w) (x := l12) ?_ FU (0, 1) il12
    intro s y1 h1 hP1 hX1
    obtain ⟨l1, l2⟩ := s
    have h1 : fX0_inLeastTerms_b5 a1 w l1 l2 = some y1 := h1
    unfold fX0_inLeastTerms_b5 at h1
    refine r_iload (pc := 5) F dX0_inLeastTerms_5 rfl ?_
    refine r_bipush (pc := 7) F dX0_inLeastTerms_7 bp_16 ?_
    refine r_icmp_ge (pc := 9) (tgt := 49) F dX0_inLeastTerms_9 rfl h1 (fun h1 => ?_) (fun h1 => ?_)
    · refine V_sub (ls' := [(0, .ref ((zg Z).1 11)), (2, .int a2), (3, .long l1)]) [0, 2, 3] rfl ?_
      have e3 := hX1 _ (Option.some.inj h1).symm
      cases e3
      exact E5
    · refine r_lload_n (pc := 12) F dX0_inLeastTerms_12 rfl ?_
      refine r_iload_n (pc := 13) F dX0_inLeastTerms_13 rfl ?_
      obtain ⟨v5, hv5, h1⟩ := bind_some h1
      suffices Jv5 : V Z 41 [(0, .ref ((zg Z).1 11)), (1, .int a1), (2, .int a2), (3, .long l1), (5, .int l2)] [.long v5, .long l1] w by
        refine r_if_eq (pc := 14) (tgt := 34) F dX0_inLeastTerms_14 rfl hv5 (fun hv5 => ?_) (fun hv5 => ?_)
        · refine r_aload_n (pc := 34) F dX0_inLeastTerms_34 rfl ?_
          refine r_getf (pc := 35) F dX0_inLeastTerms_35 fl_0_11 i68_11 (ce_11 _ _ _) rfl ?_
          refine r_iload (pc := 38) F dX0_inLeastTerms_38 rfl ?_
          obtain ⟨g6, hv5⟩ := gd_some hv5
          refine r_lald (pc := 40) F dX0_inLeastTerms_40 i68_39 (ca_39 _) g6 rfl ?_
          exact V_nmL (Option.some.inj hv5).symm Jv5
        · refine r_aload_n (pc := 17) F dX0_inLeastTerms_17 rfl ?_
          refine r_getf (pc := 18) F dX0_inLeastTerms_18 fl_0_11 i68_11 (ce_11 _ _ _) rfl ?_
          refine r_iload (pc := 21) F dX0_inLeastTerms_21 rfl ?_
          obtain ⟨g7, hv5⟩ := gd_some hv5
          refine r_lald (pc := 23) F dX0_inLeastTerms_23 i68_39 (ca_39 _) g7 rfl ?_
          refine r_iload (pc := 24) F dX0_inLeastTerms_24 rfl ?_
          refine r_Si1 (pc := 26) F dX0_inLeastTerms_26 ml_0_54 (kJ6_bitCount_0f7a4 _ w l2 _ rfl) (Nat.le_of_ble_eq_true rfl) (Nat.le_of_ble_eq_true rfl) (Nat.le_of_ble_eq_true rfl) ?_
          refine r_i2l (pc := 29) F dX0_inLeastTerms_29 ?_
          refine r_lmul (pc := 30) F dX0_inLeastTerms_30 ?_
          refine r_goto (pc := 31) (tgt := 41) F dX0_inLeastTerms_31 rfl ?_
          exact V_nmL (Option.some.inj hv5).symm Jv5
      refine r_ladd (pc := 41) F dX0_inLeastTerms_41 ?_
      obtain ⟨v8, ev8, h1⟩ := lt_some h1
      refine V_nmL ev8 ?_
      refine r_lstore_n (pc := 42) (ls' := [(0, .ref ((zg Z).1 11)), (1, .int a1), (2, .int a2), (3, .long v8), (5, .int l2)]) F dX0_inLeastTerms_42 (Nat.le_of_ble_eq_true rfl) rfl ?_
      obtain ⟨v9, ev9, h1⟩ := lt_some h1
      refine r_iinc (pc := 43) (ls' := [(0, .ref ((zg Z).1 11)), (1, .int a1), (2, .int a2), (3, .long v8), (5, .int v9)]) F dX0_inLeastTerms_43 rfl (by rw [ev9]; rfl) (Nat.le_of_ble_eq_true rfl) rfl ?_
      refine r_goto (pc := 46) (tgt := 5) F dX0_inLeastTerms_46 rfl ?_
      exact hP1 (v8, v9) (Option.some.inj h1).symm
  refine r_aload_n (pc := 49) F dX0_inLeastTerms_49 rfl ?_
  refine r_getf (pc := 50) F dX0_inLeastTerms_50 fl_0_38 i68_11 (ce_11 _ _ _) rfl ?_
  refine r_lload_n (pc := 53) F dX0_inLeastTerms_53 rfl ?_
  obtain ⟨r13, er13, h0⟩ := bind_some h0
  refine r_Sl2 (pc := 54) F dX0_inLeastTerms_54 ml_0_60 (kX0_greatestCommon _ w (w.2 11 0) l12 r13 er13) (Nat.le_of_ble_eq_true rfl) (Nat.le_of_ble_eq_true rfl) (Nat.le_of_ble_eq_true rfl) ?_
  refine r_lstore (pc := 57) (ls' := [(0, .ref ((zg Z).1 11)), (2, .int a2), (3, .long l12), (5, .long r13)]) F dX0_inLeastTerms_57 (Nat.le_of_ble_eq_true rfl) rfl ?_
  refine r_iload_n (pc := 59) F dX0_inLeastTerms_59 rfl ?_
  obtain ⟨v14, hv14, h0⟩ := lt_some h0
  have hv14 := hv14.symm
  suffices Jv14 : V Z 71 [(0, .ref ((zg Z).1 11)), (2, .int a2), (3, .long l12), (5, .long r13)] [.long v14] w by
    refine r_if_eq (pc := 60) (tgt := 70) F dX0_inLeastTerms_60 rfl hv14 (fun hv14 => ?_) (fun hv14 => ?_)
    · refine r_lload_n (pc := 70) F dX0_inLeastTerms_70 rfl ?_
      exact V_nmL hv14.symm Jv14
    · refine r_aload_n (pc := 63) F dX0_inLeastTerms_63 rfl ?_
      refine r_getf (pc := 64) F dX0_inLeastTerms_64 fl_0_38 i68_11 (ce_11 _ _ _) rfl ?_
      refine r_goto (pc := 67) (tgt := 71) F dX0_inLeastTerms_67 rfl ?_
      exact V_nmL hv14.symm Jv14
  refine r_lconst (pc := 71) F dX0_inLeastTerms_71 (rfl : Int64.ofNat _ = 1) ?_
  refine r_lload (pc := 72) F dX0_inLeastTerms_72 rfl ?_
  refine r_maxL (pc := 74) F dX0_inLeastTerms_74 mk_0_64 ms_maxL mi_Math mc_maxL (Nat.le_of_ble_eq_true rfl) (Nat.le_of_ble_eq_true rfl) ?_
  obtain ⟨g15, h0⟩ := gd_some h0
  refine r_ldiv (pc := 77) F dX0_inLeastTerms_77 (by simpa using g15) ?_
  exact hR _ _ _ _ dX0_inLeastTerms_78 ⟨(Option.some.inj h0), rfl⟩
set_option maxRecDepth 100000 in
set_option maxHeartbeats 4000000 in
theorem kX9_chances (g : GT) (w : Wd) (a1 : Int32) (a2 : Int32) (a3 : Int32) (out : Int64 × Wd) (h0 : fX9_chances w a1 a2 a3 = some out) : CtL g yX9_chances cX9_chances 4 (some .long) 5 116 [.ref (g.1 0), .int a1, .int a2, .int a3] w (fun r w1 => (r, w1) = out) := by
  refine CtL_of (by decide) (Nat.le_of_ble_eq_true rfl) (fun Z hg F hR => ?_)
  subst hg
  have F : Fx Z RX9 cX9_chances 4 5 116 := F
  refine V_sub (ls' := [(0, .ref ((zg Z).1 0)), (1, .int a1), (2, .int a2), (3, .int a3)]) [0, 1, 2, 3] rfl ?_
  unfold fX9_chances at h0
  have J76 : ∀ (w1 : Wd), fX9_chances_j76 w1 = some out → V Z 76 [(0, .ref ((zg Z).1 0))] [] w1 := by
    intro w1 h0
    unfold fX9_chances_j76 at h0
    refine r_aload_n (pc := 76) F dX9_chances_76 rfl ?_
    refine r_bipush (pc := 77) F dX9_chances_77 bp_m3 ?_
    obtain ⟨q4, er3, h0⟩ := bind_some h0
    replace h0 := un2_eq h0
    obtain ⟨r3, w2, rfl, h0⟩ := h0
    refine r_Vm1 (pc := 79) F dX9_chances_79 ml_9_261 (kX9_refuseLong _ w1 (-3) (r3, w2) er3) i68_0 (ce_0 _ _ _) (Nat.le_of_ble_eq_true rfl) (Nat.le_of_ble_eq_true rfl) (Nat.le_of_ble_eq_true rfl) ?_
    exact hR _ _ _ _ dX9_chances_82 (Option.some.inj h0)
  have J119 : ∀ (w11 : Wd) (l9 : Int32) (l10 : Int32), fX9_chances_j119 w11 l9 l10 = some out → V Z 119 [] [.int l10, .int l9, .ref ((zg Z).1 11)] w11 := by
    intro w11 l9 l10 h0
    unfold fX9_chances_j119 at h0
    obtain ⟨r12, er12, h0⟩ := bind_some h0
    refine r_Vl2 (pc := 119) F dX9_chances_119 ml_9_272 (kX0_inLeastTerms _ w11 l9 l10 r12 er12) i68_11 (ce_11 _ _ _) (Nat.le_of_ble_eq_true rfl) (Nat.le_of_ble_eq_true rfl) (Nat.le_of_ble_eq_true rfl) ?_
    exact hR _ _ _ _ dX9_chances_122 (Option.some.inj h0)
  have J39 : ∀ (w16 : Wd), fX9_chances_j39 w16 = some out → V Z 39 [(0, .ref ((zg Z).1 0))] [] w16 := by
    intro w16 h0
    unfold fX9_chances_j39 at h0
    refine r_aload_n (pc := 39) F dX9_chances_39 rfl ?_
    refine r_bipush (pc := 40) F dX9_chances_40 bp_m2 ?_
    obtain ⟨q19, er18, h0⟩ := bind_some h0
    replace h0 := un2_eq h0
    obtain ⟨r18, w17, rfl, h0⟩ := h0
    refine r_Vm1 (pc := 42) F dX9_chances_42 ml_9_261 (kX9_refuseLong _ w16 (-2) (r18, w17) er18) i68_0 (ce_0 _ _ _) (Nat.le_of_ble_eq_true rfl) (Nat.le_of_ble_eq_true rfl) (Nat.le_of_ble_eq_true rfl) ?_
    exact hR _ _ _ _ dX9_chances_45 (Option.some.inj h0)
  refine r_iload_n (pc := 0) F dX9_chances_0 rfl ?_
  refine r_if_ge (pc := 1) (tgt := 11) F dX9_chances_1 rfl h0 (fun h0 => ?_) (fun h0 => ?_)
  · refine r_iload_n (pc := 11) F dX9_chances_11 rfl ?_
    refine r_iconst (pc := 12) F dX9_chances_12 ic_3 ?_
    refine r_icmp_le (pc := 13) (tgt := 23) F dX9_chances_13 rfl h0 (fun h0 => ?_) (fun h0 => ?_)
    · refine r_iload_n (pc := 23) F dX9_chances_23 rfl ?_
      refine r_iconst (pc := 24) F dX9_chances_24 ic_1 ?_
      refine r_Si2 (pc := 25) F dX9_chances_25 ml_9_115 (kX9_isOutside _ w a2 1 _ rfl) (Nat.le_of_ble_eq_true rfl) (Nat.le_of_ble_eq_true rfl) (Nat.le_of_ble_eq_true rfl) ?_
      refine r_if_ne (pc := 28) (tgt := 39) F dX9_chances_28 rfl h0 (fun h0 => ?_) (fun h0 => ?_)
      · refine r_iload_n (pc := 31) F dX9_chances_31 rfl ?_
        refine r_iconst (pc := 32) F dX9_chances_32 ic_1 ?_
        refine r_Si2 (pc := 33) F dX9_chances_33 ml_9_115 (kX9_isOutside _ w a3 1 _ rfl) (Nat.le_of_ble_eq_true rfl) (Nat.le_of_ble_eq_true rfl) (Nat.le_of_ble_eq_true rfl) ?_
        refine r_if_eq (pc := 36) (tgt := 46) F dX9_chances_36 rfl h0 (fun h0 => ?_) (fun h0 => ?_)
        · refine r_aload_n (pc := 46) F dX9_chances_46 rfl ?_
          refine r_getf (pc := 47) F dX9_chances_47 fl_9_10 i68_0 (ce_0 _ _ _) rfl ?_
          refine r_getf (pc := 50) F dX9_chances_50 fl_9_216 i68_1 (ce_1 _ _ _) rfl ?_
          refine r_iconst (pc := 53) F dX9_chances_53 ic_4 ?_
          refine r_icmp_gt (pc := 54) (tgt := 76) F dX9_chances_54 rfl h0 (fun h0 => ?_) (fun h0 => ?_)
          · refine V_sub (ls' := [(0, .ref ((zg Z).1 0))]) [0] rfl ?_
            exact J76 w h0
          · refine r_aload_n (pc := 57) F dX9_chances_57 rfl ?_
            refine r_getf (pc := 58) F dX9_chances_58 fl_9_10 i68_0 (ce_0 _ _ _) rfl ?_
            refine r_getf (pc := 61) F dX9_chances_61 fl_9_265 i68_1 (ce_1 _ _ _) rfl ?_
            refine r_aload_n (pc := 64) F dX9_chances_64 rfl ?_
            refine r_getf (pc := 65) F dX9_chances_65 fl_9_10 i68_0 (ce_0 _ _ _) rfl ?_
            refine r_getf (pc := 68) F dX9_chances_68 fl_9_155 i68_1 (ce_1 _ _ _) rfl ?_
            refine r_isub (pc := 71) F dX9_chances_71 ?_
            refine r_iload_n (pc := 72) F dX9_chances_72 rfl ?_
            refine r_icmp_ge (pc := 73) (tgt := 83) F dX9_chances_73 rfl h0 (fun h0 => ?_) (fun h0 => ?_)
            · refine r_aload_n (pc := 83) F dX9_chances_83 rfl ?_
              refine r_getf (pc := 84) F dX9_chances_84 fl_9_77 i68_0 (ce_0 _ _ _) rfl ?_
              refine r_aload_n (pc := 87) F dX9_chances_87 rfl ?_
              refine r_getf (pc := 88) F dX9_chances_88 fl_9_10 i68_0 (ce_0 _ _ _) rfl ?_
              refine r_iload_n (pc := 91) F dX9_chances_91 rfl ?_
              obtain ⟨w6, ew6, h0⟩ := bind_some h0
              refine r_Vv2 (pc := 92) F dX9_chances_92 ml_9_268 (kX0_weigh _ 1 co1 w a1 w6 ew6) i68_11 (ce_11 _ _ _) (Nat.le_of_ble_eq_true rfl) (Nat.le_of_ble_eq_true rfl) (Nat.le_of_ble_eq_true rfl) ?_
              refine r_aload_n (pc := 95) F dX9_chances_95 rfl ?_
              refine r_getf (pc := 96) F dX9_chances_96 fl_9_77 i68_0 (ce_0 _ _ _) rfl ?_
              refine r_iload_n (pc := 99) F dX9_chances_99 rfl ?_
              refine r_iconst (pc := 100) F dX9_chances_100 ic_1 ?_
              obtain ⟨v8, hv8, h0⟩ := lt_some h0
              have hv8 := hv8.symm
              suffices Jv8 : V Z 109 [(0, .ref ((zg Z).1 0)), (1, .int a1), (2, .int a2), (3, .int a3)] [.int v8, .ref ((zg Z).1 11)] w6 by
                refine r_icmp_ne (pc := 101) (tgt := 108) F dX9_chances_101 rfl hv8 (fun hv8 => ?_) (fun hv8 => ?_)
                · refine r_iconst (pc := 104) F dX9_chances_104 ic_1 ?_
                  refine r_goto (pc := 105) (tgt := 109) F dX9_chances_105 rfl ?_
                  exact V_nm hv8.symm Jv8
                · refine r_iconst (pc := 108) F dX9_chances_108 ic_0 ?_
                  exact V_nm hv8.symm Jv8
              refine r_iload_n (pc := 109) F dX9_chances_109 rfl ?_
              refine r_iconst (pc := 110) F dX9_chances_110 ic_1 ?_
              refine r_icmp_ne (pc := 111) (tgt := 118) F dX9_chances_111 rfl h0 (fun h0 => ?_) (fun h0 => ?_)
              · refine r_iconst (pc := 114) F dX9_chances_114 ic_1 ?_
                refine r_goto (pc := 115) (tgt := 119) F dX9_chances_115 rfl ?_
                refine V_sub (ls' := []) [] rfl ?_
                exact J119 w6 v8 1 h0
              · refine r_iconst (pc := 118) F dX9_chances_118 ic_0 ?_
                refine V_sub (ls' := []) [] rfl ?_
                exact J119 w6 v8 0 h0
            · refine V_sub (ls' := [(0, .ref ((zg Z).1 0))]) [0] rfl ?_
              exact J76 w h0
        · refine V_sub (ls' := [(0, .ref ((zg Z).1 0))]) [0] rfl ?_
          exact J39 w h0
      · refine V_sub (ls' := [(0, .ref ((zg Z).1 0))]) [0] rfl ?_
        exact J39 w h0
    · refine r_aload_n (pc := 16) F dX9_chances_16 rfl ?_
      refine r_bipush (pc := 17) F dX9_chances_17 bp_m6 ?_
      obtain ⟨q25, er24, h0⟩ := bind_some h0
      replace h0 := un2_eq h0
      obtain ⟨r24, w23, rfl, h0⟩ := h0
      refine r_Vm1 (pc := 19) F dX9_chances_19 ml_9_261 (kX9_refuseLong _ w (-6) (r24, w23) er24) i68_0 (ce_0 _ _ _) (Nat.le_of_ble_eq_true rfl) (Nat.le_of_ble_eq_true rfl) (Nat.le_of_ble_eq_true rfl) ?_
      exact hR _ _ _ _ dX9_chances_22 (Option.some.inj h0)
  · refine r_aload_n (pc := 4) F dX9_chances_4 rfl ?_
    refine r_bipush (pc := 5) F dX9_chances_5 bp_m4 ?_
    obtain ⟨q30, er29, h0⟩ := bind_some h0
    replace h0 := un2_eq h0
    obtain ⟨r29, w28, rfl, h0⟩ := h0
    refine r_Vm1 (pc := 7) F dX9_chances_7 ml_9_261 (kX9_refuseLong _ w (-4) (r29, w28) er29) i68_0 (ce_0 _ _ _) (Nat.le_of_ble_eq_true rfl) (Nat.le_of_ble_eq_true rfl) (Nat.le_of_ble_eq_true rfl) ?_
    exact hR _ _ _ _ dX9_chances_10 (Option.some.inj h0)

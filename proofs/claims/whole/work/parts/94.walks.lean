/-! contracts: the code computes the functions (by program) -/
set_option maxRecDepth 100000 in
set_option maxHeartbeats 4000000 in
theorem kX10_bound (g : GT) (w : Wd) (a0 : Int32) (a1 : Int32) (a2 : Int32) (out : Int32) (h0 : fX10_bound a0 a1 a2 = out) : CtI g yX10_bound cX10_bound 3 (some .int) 0 0 [.int a0, .int a1, .int a2] w (fun r w1 => r = out ∧ w1 = w) := by
  refine CtI_of .int (by decide) (Nat.le_of_ble_eq_true rfl) (fun Z hg F hR => ?_)
  subst hg
  have F : Fx Z RX10 cX10_bound 3 0 0 := F
  refine V_sub (ls' := [(0, .int a0), (1, .int a1), (2, .int a2)]) [0, 1, 2] rfl ?_
  unfold fX10_bound at h0
  refine r_iload_n (pc := 0) F dX10_bound_0 rfl ?_
  refine r_iload_n (pc := 1) F dX10_bound_1 rfl ?_
  refine r_icmp_ge (pc := 2) (tgt := 10) F dX10_bound_2 rfl h0 (fun h0 => ?_) (fun h0 => ?_)
  · refine r_iload_n (pc := 10) F dX10_bound_10 rfl ?_
    refine r_iload_n (pc := 11) F dX10_bound_11 rfl ?_
    refine r_icmp_le (pc := 12) (tgt := 20) F dX10_bound_12 rfl h0 (fun h0 => ?_) (fun h0 => ?_)
    · refine r_iconst (pc := 20) F dX10_bound_20 ic_0 ?_
      exact hR _ _ _ _ dX10_bound_21 rfl ⟨h0, rfl⟩
    · refine r_bipush (pc := 15) F dX10_bound_15 bp_m6 ?_
      refine r_goto (pc := 17) (tgt := 21) F dX10_bound_17 rfl ?_
      exact hR _ _ _ _ dX10_bound_21 rfl ⟨h0, rfl⟩
  · refine r_bipush (pc := 5) F dX10_bound_5 bp_m4 ?_
    refine r_goto (pc := 7) (tgt := 21) F dX10_bound_7 rfl ?_
    exact hR _ _ _ _ dX10_bound_21 rfl ⟨h0, rfl⟩
set_option maxRecDepth 100000 in
set_option maxHeartbeats 4000000 in
theorem kX10_no (g : GT) (w : Wd) (a1 : Int32) (out : Int32 × Wd) (h0 : fX10_no w a1 = some out) : CtI g yX10_no cX10_no 2 (some .int) 0 0 [.ref (g.1 42), .int a1] w (fun r w1 => (r, w1) = out) := by
  refine CtI_of .int (by decide) (Nat.le_of_ble_eq_true rfl) (fun Z hg F hR => ?_)
  subst hg
  have F : Fx Z RX10 cX10_no 2 0 0 := F
  refine V_sub (ls' := [(0, .ref ((zg Z).1 42)), (1, .int a1)]) [0, 1] rfl ?_
  unfold fX10_no at h0
  refine r_aload_n (pc := 0) F dX10_no_0 rfl ?_
  refine r_getf (pc := 1) F dX10_no_1 fl_10_7 i68_42 (ce_42 _ _ _) rfl ?_
  refine r_iload_n (pc := 4) F dX10_no_4 rfl ?_
  refine r_ineg (pc := 5) F dX10_no_5 ?_
  refine r_dup2 (pc := 6) F dX10_no_6 rfl rfl ?_
  obtain ⟨g1, h0⟩ := gd_some h0
  refine r_iald (pc := 7) F dX10_no_7 i68_43 (ca_43 _) g1 rfl ?_
  refine r_iconst (pc := 8) F dX10_no_8 ic_1 ?_
  refine r_iadd (pc := 9) F dX10_no_9 ?_
  obtain ⟨w2, ew2, h0⟩ := lt_some h0
  refine r_iast (pc := 10) F dX10_no_10 i68_43 (ca_43 _) g1 rfl ew2 ?_
  refine r_iload_n (pc := 11) F dX10_no_11 rfl ?_
  exact hR _ _ _ _ dX10_no_12 rfl (Option.some.inj h0)
set_option maxRecDepth 100000 in
set_option maxHeartbeats 4000000 in
theorem kX10_feed (g : GT) (w : Wd) (a1 : Int32) (out : Int32 × Wd) (h0 : fX10_feed w a1 = some out) : CtI g yX10_feed cX10_feed 3 (some .int) 1 22 [.ref (g.1 42), .int a1] w (fun r w1 => (r, w1) = out) := by
  refine CtI_of .int (by decide) (Nat.le_of_ble_eq_true rfl) (fun Z hg F hR => ?_)
  subst hg
  have F : Fx Z RX10 cX10_feed 3 1 22 := F
  refine V_sub (ls' := [(0, .ref ((zg Z).1 42)), (1, .int a1)]) [0, 1] rfl ?_
  unfold fX10_feed at h0
  have J25 : ∀ (w3 : Wd) (l2 : Int32), fX10_feed_j25 a1 w3 l2 = some out → V Z 25 [(0, .ref ((zg Z).1 42)), (1, .int a1), (2, .int l2)] [] w3 := by
    intro w3 l2 h0
    unfold fX10_feed_j25 at h0
    refine r_iload_n (pc := 25) F dX10_feed_25 rfl ?_
    refine r_if_eq (pc := 26) (tgt := 35) F dX10_feed_26 rfl h0 (fun h0 => ?_) (fun h0 => ?_)
    · refine r_aload_n (pc := 35) F dX10_feed_35 rfl ?_
      refine r_getf (pc := 36) F dX10_feed_36 fl_10_28 i68_42 (ce_42 _ _ _) rfl ?_
      refine r_aload_n (pc := 39) F dX10_feed_39 rfl ?_
      refine r_getf (pc := 40) F dX10_feed_40 fl_10_96 i68_42 (ce_42 _ _ _) rfl ?_
      refine r_iload_n (pc := 43) F dX10_feed_43 rfl ?_
      obtain ⟨g5, h0⟩ := gd_some h0
      obtain ⟨w4, ew4, h0⟩ := lt_some h0
      refine r_iast (pc := 44) F dX10_feed_44 i68_49 (ca_49 _) g5 rfl ew4 ?_
      refine r_aload_n (pc := 45) F dX10_feed_45 rfl ?_
      refine r_dup (pc := 46) F dX10_feed_46 rfl ?_
      refine r_getf (pc := 47) F dX10_feed_47 fl_10_96 i68_42 (ce_42 _ _ _) rfl ?_
      refine r_iconst (pc := 50) F dX10_feed_50 ic_1 ?_
      refine r_iadd (pc := 51) F dX10_feed_51 ?_
      obtain ⟨w7, ew7, h0⟩ := lt_some h0
      refine r_putI (pc := 52) F dX10_feed_52 fl_10_96 fp_10_14 i68_42 (ce_42 _) (Nat.le_of_ble_eq_true rfl) rfl rfl rfl ew7 ?_
      refine r_aload_n (pc := 55) F dX10_feed_55 rfl ?_
      refine r_getf (pc := 56) F dX10_feed_56 fl_10_96 i68_42 (ce_42 _ _ _) rfl ?_
      exact hR _ _ _ _ dX10_feed_59 rfl (Option.some.inj h0)
    · refine r_aload_n (pc := 29) F dX10_feed_29 rfl ?_
      refine r_iload_n (pc := 30) F dX10_feed_30 rfl ?_
      obtain ⟨q11, er10, h0⟩ := bind_some h0
      replace h0 := un2_eq h0
      obtain ⟨r10, w9, rfl, h0⟩ := h0
      refine r_Vj1 (pc := 31) F dX10_feed_31 ml_10_99 (kX10_no _ w3 l2 (r10, w9) er10) i68_42 (ce_42 _ _ _) (Nat.le_of_ble_eq_true rfl) (Nat.le_of_ble_eq_true rfl) (Nat.le_of_ble_eq_true rfl) ?_
      exact hR _ _ _ _ dX10_feed_34 rfl (Option.some.inj h0)
  refine r_iload_n (pc := 0) F dX10_feed_0 rfl ?_
  refine r_iconst (pc := 1) F dX10_feed_1 ic_0 ?_
  refine r_sipush (pc := 2) F dX10_feed_2 sp_255 ?_
  refine r_Si3 (pc := 5) F dX10_feed_5 ml_10_92 (kX10_bound _ w a1 0 255 _ rfl) (Nat.le_of_ble_eq_true rfl) (Nat.le_of_ble_eq_true rfl) (Nat.le_of_ble_eq_true rfl) ?_
  obtain ⟨v1, ev1, h0⟩ := lt_some h0
  refine V_nm ev1 ?_
  refine r_istore_n (pc := 8) (ls' := [(0, .ref ((zg Z).1 42)), (1, .int a1), (2, .int v1)]) F dX10_feed_8 (Nat.le_of_ble_eq_true rfl) rfl ?_
  refine r_iload_n (pc := 9) F dX10_feed_9 rfl ?_
  refine r_if_ne (pc := 10) (tgt := 25) F dX10_feed_10 rfl h0 (fun h0 => ?_) (fun h0 => ?_)
  · refine r_aload_n (pc := 13) F dX10_feed_13 rfl ?_
    refine r_getf (pc := 14) F dX10_feed_14 fl_10_96 i68_42 (ce_42 _ _ _) rfl ?_
    refine r_bipush (pc := 17) F dX10_feed_17 bp_96 ?_
    refine r_icmp_ne (pc := 19) (tgt := 25) F dX10_feed_19 rfl h0 (fun h0 => ?_) (fun h0 => ?_)
    · refine r_bipush (pc := 22) F dX10_feed_22 bp_m6 ?_
      refine r_istore_n (pc := 24) (ls' := [(0, .ref ((zg Z).1 42)), (1, .int a1), (2, .int (-6))]) F dX10_feed_24 (Nat.le_of_ble_eq_true rfl) rfl ?_
      exact J25 w (-6) h0
    · exact J25 w v1 h0
  · exact J25 w v1 h0
set_option maxRecDepth 100000 in
set_option maxHeartbeats 4000000 in
theorem kX10_next (g : GT) (w : Wd) (out : Int32) (h0 : fX10_next w = some out) : CtI g yX10_next cX10_next 1 (some .int) 0 0 [.ref (g.1 42)] w (fun r w1 => r = out ∧ w1 = w) := by
  refine CtI_of .int (by decide) (Nat.le_of_ble_eq_true rfl) (fun Z hg F hR => ?_)
  subst hg
  have F : Fx Z RX10 cX10_next 1 0 0 := F
  refine V_sub (ls' := [(0, .ref ((zg Z).1 42))]) [0] rfl ?_
  unfold fX10_next at h0
  refine r_aload_n (pc := 0) F dX10_next_0 rfl ?_
  refine r_getf (pc := 1) F dX10_next_1 fl_10_103 i68_42 (ce_42 _ _ _) rfl ?_
  refine r_aload_n (pc := 4) F dX10_next_4 rfl ?_
  refine r_getf (pc := 5) F dX10_next_5 fl_10_96 i68_42 (ce_42 _ _ _) rfl ?_
  refine r_icmp_ge (pc := 8) (tgt := 23) F dX10_next_8 rfl h0 (fun h0 => ?_) (fun h0 => ?_)
  · refine r_iconst (pc := 23) F dX10_next_23 ic_m1 ?_
    exact hR _ _ _ _ dX10_next_24 rfl ⟨(Option.some.inj h0), rfl⟩
  · refine r_aload_n (pc := 11) F dX10_next_11 rfl ?_
    refine r_getf (pc := 12) F dX10_next_12 fl_10_28 i68_42 (ce_42 _ _ _) rfl ?_
    refine r_aload_n (pc := 15) F dX10_next_15 rfl ?_
    refine r_getf (pc := 16) F dX10_next_16 fl_10_103 i68_42 (ce_42 _ _ _) rfl ?_
    obtain ⟨g1, h0⟩ := gd_some h0
    refine r_iald (pc := 19) F dX10_next_19 i68_49 (ca_49 _) g1 rfl ?_
    refine r_goto (pc := 20) (tgt := 24) F dX10_next_20 rfl ?_
    exact hR _ _ _ _ dX10_next_24 rfl ⟨(Option.some.inj h0), rfl⟩
set_option maxRecDepth 100000 in
set_option maxHeartbeats 4000000 in
theorem kX10_isIn (g : GT) (w : Wd) (a0 : Int32) (a1 : Int32) (a2 : Int32) (out : Int32) (h0 : fX10_isIn a0 a1 a2 = out) : CtI g yX10_isIn cX10_isIn 3 (some .boolean) 0 0 [.int a0, .int a1, .int a2] w (fun r w1 => r = out ∧ w1 = w) := by
  refine CtI_of .boolean (by decide) (Nat.le_of_ble_eq_true rfl) (fun Z hg F hR => ?_)
  subst hg
  have F : Fx Z RX10 cX10_isIn 3 0 0 := F
  refine V_sub (ls' := [(0, .int a0), (1, .int a1), (2, .int a2)]) [0, 1, 2] rfl ?_
  unfold fX10_isIn at h0
  refine r_iload_n (pc := 0) F dX10_isIn_0 rfl ?_
  refine r_iload_n (pc := 1) F dX10_isIn_1 rfl ?_
  refine r_icmp_lt (pc := 2) (tgt := 14) F dX10_isIn_2 rfl h0 (fun h0 => ?_) (fun h0 => ?_)
  · refine r_iconst (pc := 14) F dX10_isIn_14 ic_0 ?_
    exact hR _ _ _ _ dX10_isIn_15 rfl ⟨h0, rfl⟩
  · refine r_iload_n (pc := 5) F dX10_isIn_5 rfl ?_
    refine r_iload_n (pc := 6) F dX10_isIn_6 rfl ?_
    refine r_icmp_gt (pc := 7) (tgt := 14) F dX10_isIn_7 rfl h0 (fun h0 => ?_) (fun h0 => ?_)
    · refine r_iconst (pc := 14) F dX10_isIn_14 ic_0 ?_
      exact hR _ _ _ _ dX10_isIn_15 rfl ⟨h0, rfl⟩
    · refine r_iconst (pc := 10) F dX10_isIn_10 ic_1 ?_
      refine r_goto (pc := 11) (tgt := 15) F dX10_isIn_11 rfl ?_
      exact hR _ _ _ _ dX10_isIn_15 rfl ⟨h0, rfl⟩
set_option maxRecDepth 100000 in
set_option maxHeartbeats 4000000 in
theorem kX10_readsDigits (g : GT) (w : Wd) (a1 : Int32) (a2 : Int32) (out : Int32 × Wd) (h0 : fX10_readsDigits w a1 a2 = some out) : CtI g yX10_readsDigits cX10_readsDigits 5 (some .boolean) 1 22 [.ref (g.1 42), .int a1, .int a2] w (fun r w1 => (r, w1) = out) := by
  refine CtI_of .boolean (by decide) (Nat.le_of_ble_eq_true rfl) (fun Z hg F hR => ?_)
  subst hg
  have F : Fx Z RX10 cX10_readsDigits 5 1 22 := F
  refine V_sub (ls' := [(0, .ref ((zg Z).1 42)), (1, .int a1), (2, .int a2)]) [0, 1, 2] rfl ?_
  unfold fX10_readsDigits at h0
  refine r_iconst (pc := 0) F dX10_readsDigits_0 ic_0 ?_
  refine r_istore_n (pc := 1) (ls' := [(0, .ref ((zg Z).1 42)), (1, .int a1), (2, .int a2), (3, .int 0)]) F dX10_readsDigits_1 (Nat.le_of_ble_eq_true rfl) rfl ?_
  refine r_iconst (pc := 2) F dX10_readsDigits_2 ic_0 ?_
  refine r_istore (pc := 3) (ls' := [(0, .ref ((zg Z).1 42)), (1, .int a1), (2, .int a2), (3, .int 0), (4, .int 0)]) F dX10_readsDigits_3 (Nat.le_of_ble_eq_true rfl) rfl ?_
  refine iter_rule (P := fun s : Int32 × Int32 × Wd => V Z 5 [(0, .ref ((zg Z).1 42)), (1, .int a1), (2, .int a2), (3, .int (s.1)), (4, .int (s.2.1))] [] s.2.2) (x := out) ?_ FU (0, 0, w) h0
  intro s y1 h1 hP1 hX1
  obtain ⟨l1, l2, w3⟩ := s
  have h1 : fX10_readsDigits_b5 a2 a1 l1 l2 w3 = some y1 := h1
  unfold fX10_readsDigits_b5 at h1
  refine r_iload (pc := 5) F dX10_readsDigits_5 rfl ?_
  refine r_iload_n (pc := 7) F dX10_readsDigits_7 rfl ?_
  refine r_icmp_ge (pc := 8) (tgt := 56) F dX10_readsDigits_8 rfl h1 (fun h1 => ?_) (fun h1 => ?_)
  · refine r_aload_n (pc := 56) F dX10_readsDigits_56 rfl ?_
    refine r_getf (pc := 57) F dX10_readsDigits_57 fl_10_37 i68_42 (ce_42 _ _ _) rfl ?_
    refine r_iload_n (pc := 60) F dX10_readsDigits_60 rfl ?_
    refine r_iload_n (pc := 61) F dX10_readsDigits_61 rfl ?_
    obtain ⟨g5, h1⟩ := gd_some h1
    obtain ⟨w4, ew4, h1⟩ := lt_some h1
    refine r_iast (pc := 62) F dX10_readsDigits_62 i68_52 (ca_52 _) g5 rfl ew4 ?_
    refine r_iconst (pc := 63) F dX10_readsDigits_63 ic_1 ?_
    have h0 := congrArg some (hX1 _ (Option.some.inj h1).symm)
    exact hR _ _ _ _ dX10_readsDigits_64 rfl (Option.some.inj h0)
  · refine r_aload_n (pc := 11) F dX10_readsDigits_11 rfl ?_
    obtain ⟨r7, er7, h1⟩ := bind_some h1
    refine r_Vi0 (pc := 12) F dX10_readsDigits_12 ml_10_106 (kX10_next _ w3 r7 er7) i68_42 (ce_42 _ _ _) (Nat.le_of_ble_eq_true rfl) (Nat.le_of_ble_eq_true rfl) (Nat.le_of_ble_eq_true rfl) ?_
    refine r_bipush (pc := 15) F dX10_readsDigits_15 bp_48 ?_
    refine r_bipush (pc := 17) F dX10_readsDigits_17 bp_57 ?_
    refine r_Si3 (pc := 19) F dX10_readsDigits_19 ml_10_110 (kX10_isIn _ w3 r7 48 57 _ rfl) (Nat.le_of_ble_eq_true rfl) (Nat.le_of_ble_eq_true rfl) (Nat.le_of_ble_eq_true rfl) ?_
    refine r_if_ne (pc := 22) (tgt := 27) F dX10_readsDigits_22 rfl h1 (fun h1 => ?_) (fun h1 => ?_)
    · refine r_iconst (pc := 25) F dX10_readsDigits_25 ic_0 ?_
      have h0 := congrArg some (hX1 _ (Option.some.inj h1).symm)
      exact hR _ _ _ _ dX10_readsDigits_26 rfl (Option.some.inj h0)
    · refine r_bipush (pc := 27) F dX10_readsDigits_27 bp_10 ?_
      refine r_iload_n (pc := 29) F dX10_readsDigits_29 rfl ?_
      refine r_imul (pc := 30) F dX10_readsDigits_30 ?_
      refine r_aload_n (pc := 31) F dX10_readsDigits_31 rfl ?_
      obtain ⟨r8, er8, h1⟩ := bind_some h1
      refine r_Vi0 (pc := 32) F dX10_readsDigits_32 ml_10_106 (kX10_next _ w3 r8 er8) i68_42 (ce_42 _ _ _) (Nat.le_of_ble_eq_true rfl) (Nat.le_of_ble_eq_true rfl) (Nat.le_of_ble_eq_true rfl) ?_
      refine r_iadd (pc := 35) F dX10_readsDigits_35 ?_
      refine r_bipush (pc := 36) F dX10_readsDigits_36 bp_48 ?_
      refine r_isub (pc := 38) F dX10_readsDigits_38 ?_
      obtain ⟨v9, ev9, h1⟩ := lt_some h1
      refine V_nm ev9 ?_
      refine r_istore_n (pc := 39) (ls' := [(0, .ref ((zg Z).1 42)), (1, .int a1), (2, .int a2), (3, .int v9), (4, .int l2)]) F dX10_readsDigits_39 (Nat.le_of_ble_eq_true rfl) rfl ?_
      refine r_aload_n (pc := 40) F dX10_readsDigits_40 rfl ?_
      refine r_dup (pc := 41) F dX10_readsDigits_41 rfl ?_
      refine r_getf (pc := 42) F dX10_readsDigits_42 fl_10_103 i68_42 (ce_42 _ _ _) rfl ?_
      refine r_iconst (pc := 45) F dX10_readsDigits_45 ic_1 ?_
      refine r_iadd (pc := 46) F dX10_readsDigits_46 ?_
      obtain ⟨w10, ew10, h1⟩ := lt_some h1
      refine r_putI (pc := 47) F dX10_readsDigits_47 fl_10_103 fp_10_15 i68_42 (ce_42 _) (Nat.le_of_ble_eq_true rfl) rfl rfl rfl ew10 ?_
      obtain ⟨v12, ev12, h1⟩ := lt_some h1
      refine r_iinc (pc := 50) (ls' := [(0, .ref ((zg Z).1 42)), (1, .int a1), (2, .int a2), (3, .int v9), (4, .int v12)]) F dX10_readsDigits_50 rfl (by rw [ev12]; rfl) (Nat.le_of_ble_eq_true rfl) rfl ?_
      refine r_goto (pc := 53) (tgt := 5) F dX10_readsDigits_53 rfl ?_
      exact hP1 (v9, v12, w10) (Option.some.inj h1).symm
set_option maxRecDepth 100000 in
set_option maxHeartbeats 4000000 in
theorem kX10_readsAll (g : GT) (w : Wd) (a1 : Int32) (a2 : Int32) (out : Int32 × Wd) (h0 : fX10_readsAll w a1 a2 = some out) : CtI g yX10_readsAll cX10_readsAll 3 (some .boolean) 2 46 [.ref (g.1 42), .int a1, .int a2] w (fun r w1 => (r, w1) = out) := by
  refine CtI_of .boolean (by decide) (Nat.le_of_ble_eq_true rfl) (fun Z hg F hR => ?_)
  subst hg
  have F : Fx Z RX10 cX10_readsAll 3 2 46 := F
  refine V_sub (ls' := [(0, .ref ((zg Z).1 42)), (1, .int a1), (2, .int a2)]) [0, 1, 2] rfl ?_
  unfold fX10_readsAll at h0
  refine r_iload_n (pc := 0) F dX10_readsAll_0 rfl ?_
  by_cases c1 : a1 = 100
  · rw [if_pos c1] at h0
    refine r_lsw (pc := 1) (tgt := 144) (t := 143) F dX10_readsAll_1 (by decide +kernel) (by rw [c1]; decide +kernel) rfl ?_
    refine r_aload_n (pc := 144) F dX10_readsAll_144 rfl ?_
    refine r_iload_n (pc := 145) F dX10_readsAll_145 rfl ?_
    refine r_iconst (pc := 146) F dX10_readsAll_146 ic_2 ?_
    obtain ⟨q4, er3, h0⟩ := bind_some h0
    replace h0 := un2_eq h0
    obtain ⟨r3, w2, rfl, h0⟩ := h0
    refine r_Vj2 (pc := 147) F dX10_readsAll_147 ml_10_114 (kX10_readsDigits _ w a2 2 (r3, w2) er3) i68_42 (ce_42 _ _ _) (Nat.le_of_ble_eq_true rfl) (Nat.le_of_ble_eq_true rfl) (Nat.le_of_ble_eq_true rfl) ?_
    obtain ⟨g6, h0⟩ := gd_some h0
    exact hR _ _ _ _ dX10_readsAll_150 (bz_n g6) (Option.some.inj h0)
  rw [if_neg c1] at h0
  by_cases c7 : a1 = 102
  · rw [if_pos c7] at h0
    refine r_lsw (pc := 1) (tgt := 118) (t := 117) F dX10_readsAll_1 (by decide +kernel) (by rw [c7]; decide +kernel) rfl ?_
    refine r_aload_n (pc := 118) F dX10_readsAll_118 rfl ?_
    refine r_iload_n (pc := 119) F dX10_readsAll_119 rfl ?_
    refine r_iconst (pc := 120) F dX10_readsAll_120 ic_1 ?_
    obtain ⟨q10, er9, h0⟩ := bind_some h0
    replace h0 := un2_eq h0
    obtain ⟨r9, w8, rfl, h0⟩ := h0
    refine r_Vj2 (pc := 121) F dX10_readsAll_121 ml_10_114 (kX10_readsDigits _ w a2 1 (r9, w8) er9) i68_42 (ce_42 _ _ _) (Nat.le_of_ble_eq_true rfl) (Nat.le_of_ble_eq_true rfl) (Nat.le_of_ble_eq_true rfl) ?_
    refine r_if_eq (pc := 124) (tgt := 142) F dX10_readsAll_124 rfl h0 (fun h0 => ?_) (fun h0 => ?_)
    · refine r_iconst (pc := 142) F dX10_readsAll_142 ic_0 ?_
      exact hR _ _ _ _ dX10_readsAll_143 rfl (Option.some.inj h0)
    · refine r_aload_n (pc := 127) F dX10_readsAll_127 rfl ?_
      refine r_iload_n (pc := 128) F dX10_readsAll_128 rfl ?_
      refine r_iconst (pc := 129) F dX10_readsAll_129 ic_1 ?_
      refine r_iadd (pc := 130) F dX10_readsAll_130 ?_
      refine r_iconst (pc := 131) F dX10_readsAll_131 ic_1 ?_
      obtain ⟨q14, er13, h0⟩ := bind_some h0
      replace h0 := un2_eq h0
      obtain ⟨r13, w12, rfl, h0⟩ := h0
      refine r_Vj2 (pc := 132) F dX10_readsAll_132 ml_10_114 (kX10_readsDigits _ w8 (a2 + 1) 1 (r13, w12) er13) i68_42 (ce_42 _ _ _) (Nat.le_of_ble_eq_true rfl) (Nat.le_of_ble_eq_true rfl) (Nat.le_of_ble_eq_true rfl) ?_
      refine r_if_eq (pc := 135) (tgt := 142) F dX10_readsAll_135 rfl h0 (fun h0 => ?_) (fun h0 => ?_)
      · refine r_iconst (pc := 142) F dX10_readsAll_142 ic_0 ?_
        exact hR _ _ _ _ dX10_readsAll_143 rfl (Option.some.inj h0)
      · refine r_iconst (pc := 138) F dX10_readsAll_138 ic_1 ?_
        refine r_goto (pc := 139) (tgt := 143) F dX10_readsAll_139 rfl ?_
        exact hR _ _ _ _ dX10_readsAll_143 rfl (Option.some.inj h0)
  rw [if_neg c7] at h0
  by_cases c18 : a1 = 112
  · rw [if_pos c18] at h0
    refine r_lsw (pc := 1) (tgt := 44) (t := 43) F dX10_readsAll_1 (by decide +kernel) (by rw [c18]; decide +kernel) rfl ?_
    refine r_aload_n (pc := 44) F dX10_readsAll_44 rfl ?_
    refine r_iload_n (pc := 45) F dX10_readsAll_45 rfl ?_
    refine r_iconst (pc := 46) F dX10_readsAll_46 ic_1 ?_
    obtain ⟨q21, er20, h0⟩ := bind_some h0
    replace h0 := un2_eq h0
    obtain ⟨r20, w19, rfl, h0⟩ := h0
    refine r_Vj2 (pc := 47) F dX10_readsAll_47 ml_10_114 (kX10_readsDigits _ w a2 1 (r20, w19) er20) i68_42 (ce_42 _ _ _) (Nat.le_of_ble_eq_true rfl) (Nat.le_of_ble_eq_true rfl) (Nat.le_of_ble_eq_true rfl) ?_
    refine r_if_eq (pc := 50) (tgt := 79) F dX10_readsAll_50 rfl h0 (fun h0 => ?_) (fun h0 => ?_)
    · refine r_iconst (pc := 79) F dX10_readsAll_79 ic_0 ?_
      exact hR _ _ _ _ dX10_readsAll_80 rfl (Option.some.inj h0)
    · refine r_aload_n (pc := 53) F dX10_readsAll_53 rfl ?_
      refine r_iload_n (pc := 54) F dX10_readsAll_54 rfl ?_
      refine r_iconst (pc := 55) F dX10_readsAll_55 ic_1 ?_
      refine r_iadd (pc := 56) F dX10_readsAll_56 ?_
      refine r_iconst (pc := 57) F dX10_readsAll_57 ic_1 ?_
      obtain ⟨q25, er24, h0⟩ := bind_some h0
      replace h0 := un2_eq h0
      obtain ⟨r24, w23, rfl, h0⟩ := h0
      refine r_Vj2 (pc := 58) F dX10_readsAll_58 ml_10_114 (kX10_readsDigits _ w19 (a2 + 1) 1 (r24, w23) er24) i68_42 (ce_42 _ _ _) (Nat.le_of_ble_eq_true rfl) (Nat.le_of_ble_eq_true rfl) (Nat.le_of_ble_eq_true rfl) ?_
      refine r_if_eq (pc := 61) (tgt := 79) F dX10_readsAll_61 rfl h0 (fun h0 => ?_) (fun h0 => ?_)
      · refine r_iconst (pc := 79) F dX10_readsAll_79 ic_0 ?_
        exact hR _ _ _ _ dX10_readsAll_80 rfl (Option.some.inj h0)
      · refine r_aload_n (pc := 64) F dX10_readsAll_64 rfl ?_
        refine r_iload_n (pc := 65) F dX10_readsAll_65 rfl ?_
        refine r_iconst (pc := 66) F dX10_readsAll_66 ic_2 ?_
        refine r_iadd (pc := 67) F dX10_readsAll_67 ?_
        refine r_iconst (pc := 68) F dX10_readsAll_68 ic_1 ?_
        obtain ⟨q29, er28, h0⟩ := bind_some h0
        replace h0 := un2_eq h0
        obtain ⟨r28, w27, rfl, h0⟩ := h0
        refine r_Vj2 (pc := 69) F dX10_readsAll_69 ml_10_114 (kX10_readsDigits _ w23 (a2 + 2) 1 (r28, w27) er28) i68_42 (ce_42 _ _ _) (Nat.le_of_ble_eq_true rfl) (Nat.le_of_ble_eq_true rfl) (Nat.le_of_ble_eq_true rfl) ?_
        refine r_if_eq (pc := 72) (tgt := 79) F dX10_readsAll_72 rfl h0 (fun h0 => ?_) (fun h0 => ?_)
        · refine r_iconst (pc := 79) F dX10_readsAll_79 ic_0 ?_
          exact hR _ _ _ _ dX10_readsAll_80 rfl (Option.some.inj h0)
        · refine r_iconst (pc := 75) F dX10_readsAll_75 ic_1 ?_
          refine r_goto (pc := 76) (tgt := 80) F dX10_readsAll_76 rfl ?_
          exact hR _ _ _ _ dX10_readsAll_80 rfl (Option.some.inj h0)
  rw [if_neg c18] at h0
  by_cases c34 : a1 = 119
  · rw [if_pos c34] at h0
    refine r_lsw (pc := 1) (tgt := 81) (t := 80) F dX10_readsAll_1 (by decide +kernel) (by rw [c34]; decide +kernel) rfl ?_
    refine r_aload_n (pc := 81) F dX10_readsAll_81 rfl ?_
    refine r_iload_n (pc := 82) F dX10_readsAll_82 rfl ?_
    refine r_iconst (pc := 83) F dX10_readsAll_83 ic_2 ?_
    obtain ⟨q37, er36, h0⟩ := bind_some h0
    replace h0 := un2_eq h0
    obtain ⟨r36, w35, rfl, h0⟩ := h0
    refine r_Vj2 (pc := 84) F dX10_readsAll_84 ml_10_114 (kX10_readsDigits _ w a2 2 (r36, w35) er36) i68_42 (ce_42 _ _ _) (Nat.le_of_ble_eq_true rfl) (Nat.le_of_ble_eq_true rfl) (Nat.le_of_ble_eq_true rfl) ?_
    refine r_if_eq (pc := 87) (tgt := 116) F dX10_readsAll_87 rfl h0 (fun h0 => ?_) (fun h0 => ?_)
    · refine r_iconst (pc := 116) F dX10_readsAll_116 ic_0 ?_
      exact hR _ _ _ _ dX10_readsAll_117 rfl (Option.some.inj h0)
    · refine r_aload_n (pc := 90) F dX10_readsAll_90 rfl ?_
      refine r_iload_n (pc := 91) F dX10_readsAll_91 rfl ?_
      refine r_iconst (pc := 92) F dX10_readsAll_92 ic_1 ?_
      refine r_iadd (pc := 93) F dX10_readsAll_93 ?_
      refine r_iconst (pc := 94) F dX10_readsAll_94 ic_1 ?_
      obtain ⟨q41, er40, h0⟩ := bind_some h0
      replace h0 := un2_eq h0
      obtain ⟨r40, w39, rfl, h0⟩ := h0
      refine r_Vj2 (pc := 95) F dX10_readsAll_95 ml_10_114 (kX10_readsDigits _ w35 (a2 + 1) 1 (r40, w39) er40) i68_42 (ce_42 _ _ _) (Nat.le_of_ble_eq_true rfl) (Nat.le_of_ble_eq_true rfl) (Nat.le_of_ble_eq_true rfl) ?_
      refine r_if_eq (pc := 98) (tgt := 116) F dX10_readsAll_98 rfl h0 (fun h0 => ?_) (fun h0 => ?_)
      · refine r_iconst (pc := 116) F dX10_readsAll_116 ic_0 ?_
        exact hR _ _ _ _ dX10_readsAll_117 rfl (Option.some.inj h0)
      · refine r_aload_n (pc := 101) F dX10_readsAll_101 rfl ?_
        refine r_iload_n (pc := 102) F dX10_readsAll_102 rfl ?_
        refine r_iconst (pc := 103) F dX10_readsAll_103 ic_2 ?_
        refine r_iadd (pc := 104) F dX10_readsAll_104 ?_
        refine r_iconst (pc := 105) F dX10_readsAll_105 ic_1 ?_
        obtain ⟨q45, er44, h0⟩ := bind_some h0
        replace h0 := un2_eq h0
        obtain ⟨r44, w43, rfl, h0⟩ := h0
        refine r_Vj2 (pc := 106) F dX10_readsAll_106 ml_10_114 (kX10_readsDigits _ w39 (a2 + 2) 1 (r44, w43) er44) i68_42 (ce_42 _ _ _) (Nat.le_of_ble_eq_true rfl) (Nat.le_of_ble_eq_true rfl) (Nat.le_of_ble_eq_true rfl) ?_
        refine r_if_eq (pc := 109) (tgt := 116) F dX10_readsAll_109 rfl h0 (fun h0 => ?_) (fun h0 => ?_)
        · refine r_iconst (pc := 116) F dX10_readsAll_116 ic_0 ?_
          exact hR _ _ _ _ dX10_readsAll_117 rfl (Option.some.inj h0)
        · refine r_iconst (pc := 112) F dX10_readsAll_112 ic_1 ?_
          refine r_goto (pc := 113) (tgt := 117) F dX10_readsAll_113 rfl ?_
          exact hR _ _ _ _ dX10_readsAll_117 rfl (Option.some.inj h0)
  rw [if_neg c34] at h0
  refine r_lsw (pc := 1) (tgt := 151) (t := 150) F dX10_readsAll_1 (by decide +kernel) (lsw_out (ks := [100, 102, 112, 119]) rfl (List.forall_mem_cons.mpr ⟨sw_ne rfl c1, List.forall_mem_cons.mpr ⟨sw_ne rfl c7, List.forall_mem_cons.mpr ⟨sw_ne rfl c18, List.forall_mem_cons.mpr ⟨sw_ne rfl c34, fun _ h => absurd h List.not_mem_nil⟩⟩⟩⟩)) rfl ?_
  refine r_aload_n (pc := 151) F dX10_readsAll_151 rfl ?_
  refine r_iload_n (pc := 152) F dX10_readsAll_152 rfl ?_
  refine r_iconst (pc := 153) F dX10_readsAll_153 ic_1 ?_
  obtain ⟨q52, er51, h0⟩ := bind_some h0
  replace h0 := un2_eq h0
  obtain ⟨r51, w50, rfl, h0⟩ := h0
  refine r_Vj2 (pc := 154) F dX10_readsAll_154 ml_10_114 (kX10_readsDigits _ w a2 1 (r51, w50) er51) i68_42 (ce_42 _ _ _) (Nat.le_of_ble_eq_true rfl) (Nat.le_of_ble_eq_true rfl) (Nat.le_of_ble_eq_true rfl) ?_
  obtain ⟨g54, h0⟩ := gd_some h0
  exact hR _ _ _ _ dX10_readsAll_157 (bz_n g54) (Option.some.inj h0)
set_option maxRecDepth 100000 in
set_option maxHeartbeats 4000000 in
theorem kX10_statement (g : GT) (w : Wd) (out : Int32 × Wd) (h0 : fX10_statement w = some out) : CtI g yX10_statement cX10_statement 2 (some .boolean) 3 68 [.ref (g.1 42)] w (fun r w1 => (r, w1) = out) := by
  refine CtI_of .boolean (by decide) (Nat.le_of_ble_eq_true rfl) (fun Z hg F hR => ?_)
  subst hg
  have F : Fx Z RX10 cX10_statement 2 3 68 := F
  refine V_sub (ls' := [(0, .ref ((zg Z).1 42))]) [0] rfl ?_
  unfold fX10_statement at h0
  have J43 : ∀ (w3 : Wd) (l2 : Int32), fX10_statement_j43 w3 l2 = some out → V Z 43 [(0, .ref ((zg Z).1 42)), (1, .int l2)] [] w3 := by
    intro w3 l2 h0
    unfold fX10_statement_j43 at h0
    refine r_aload_n (pc := 43) F dX10_statement_43 rfl ?_
    refine r_getf (pc := 44) F dX10_statement_44 fl_10_31 i68_42 (ce_42 _ _ _) rfl ?_
    refine r_aload_n (pc := 47) F dX10_statement_47 rfl ?_
    refine r_getf (pc := 48) F dX10_statement_48 fl_10_118 i68_42 (ce_42 _ _ _) rfl ?_
    refine r_iload_n (pc := 51) F dX10_statement_51 rfl ?_
    obtain ⟨g5, h0⟩ := gd_some h0
    obtain ⟨w4, ew4, h0⟩ := lt_some h0
    refine r_iast (pc := 52) F dX10_statement_52 i68_50 (ca_50 _) g5 rfl ew4 ?_
    refine r_aload_n (pc := 53) F dX10_statement_53 rfl ?_
    refine r_getf (pc := 54) F dX10_statement_54 fl_10_34 i68_42 (ce_42 _ _ _) rfl ?_
    refine r_aload_n (pc := 57) F dX10_statement_57 rfl ?_
    refine r_getf (pc := 58) F dX10_statement_58 fl_10_118 i68_42 (ce_42 _ _ _) rfl ?_
    refine r_aload_n (pc := 61) F dX10_statement_61 rfl ?_
    refine r_getf (pc := 62) F dX10_statement_62 fl_10_103 i68_42 (ce_42 _ _ _) rfl ?_
    obtain ⟨g8, h0⟩ := gd_some h0
    obtain ⟨w7, ew7, h0⟩ := lt_some h0
    refine r_iast (pc := 65) F dX10_statement_65 i68_51 (ca_51 _) g8 rfl ew7 ?_
    refine r_aload_n (pc := 66) F dX10_statement_66 rfl ?_
    refine r_dup (pc := 67) F dX10_statement_67 rfl ?_
    refine r_getf (pc := 68) F dX10_statement_68 fl_10_103 i68_42 (ce_42 _ _ _) rfl ?_
    refine r_iconst (pc := 71) F dX10_statement_71 ic_1 ?_
    refine r_iadd (pc := 72) F dX10_statement_72 ?_
    obtain ⟨w10, ew10, h0⟩ := lt_some h0
    refine r_putI (pc := 73) F dX10_statement_73 fl_10_103 fp_10_15 i68_42 (ce_42 _) (Nat.le_of_ble_eq_true rfl) rfl rfl rfl ew10 ?_
    refine r_aload_n (pc := 76) F dX10_statement_76 rfl ?_
    refine r_iload_n (pc := 77) F dX10_statement_77 rfl ?_
    refine r_iconst (pc := 78) F dX10_statement_78 ic_3 ?_
    refine r_aload_n (pc := 79) F dX10_statement_79 rfl ?_
    refine r_getf (pc := 80) F dX10_statement_80 fl_10_118 i68_42 (ce_42 _ _ _) rfl ?_
    refine r_imul (pc := 83) F dX10_statement_83 ?_
    obtain ⟨q14, er13, h0⟩ := bind_some h0
    replace h0 := un2_eq h0
    obtain ⟨r13, w12, rfl, h0⟩ := h0
    refine r_Vj2 (pc := 84) F dX10_statement_84 ml_10_121 (kX10_readsAll _ w10 l2 (3 * (w10.1 42 16)) (r13, w12) er13) i68_42 (ce_42 _ _ _) (Nat.le_of_ble_eq_true rfl) (Nat.le_of_ble_eq_true rfl) (Nat.le_of_ble_eq_true rfl) ?_
    refine r_if_eq (pc := 87) (tgt := 99) F dX10_statement_87 rfl h0 (fun h0 => ?_) (fun h0 => ?_)
    · refine r_iconst (pc := 99) F dX10_statement_99 ic_0 ?_
      exact hR _ _ _ _ dX10_statement_100 rfl (Option.some.inj h0)
    · refine r_aload_n (pc := 90) F dX10_statement_90 rfl ?_
      obtain ⟨r16, er16, h0⟩ := bind_some h0
      refine r_Vi0 (pc := 91) F dX10_statement_91 ml_10_106 (kX10_next _ w12 r16 er16) i68_42 (ce_42 _ _ _) (Nat.le_of_ble_eq_true rfl) (Nat.le_of_ble_eq_true rfl) (Nat.le_of_ble_eq_true rfl) ?_
      refine r_bipush (pc := 94) F dX10_statement_94 bp_59 ?_
      refine r_icmp_eq (pc := 96) (tgt := 101) F dX10_statement_96 rfl h0 (fun h0 => ?_) (fun h0 => ?_)
      · refine r_aload_n (pc := 101) F dX10_statement_101 rfl ?_
        refine r_dup (pc := 102) F dX10_statement_102 rfl ?_
        refine r_getf (pc := 103) F dX10_statement_103 fl_10_103 i68_42 (ce_42 _ _ _) rfl ?_
        refine r_iconst (pc := 106) F dX10_statement_106 ic_1 ?_
        refine r_iadd (pc := 107) F dX10_statement_107 ?_
        obtain ⟨w17, ew17, h0⟩ := lt_some h0
        refine r_putI (pc := 108) F dX10_statement_108 fl_10_103 fp_10_15 i68_42 (ce_42 _) (Nat.le_of_ble_eq_true rfl) rfl rfl rfl ew17 ?_
        refine r_iconst (pc := 111) F dX10_statement_111 ic_1 ?_
        exact hR _ _ _ _ dX10_statement_112 rfl (Option.some.inj h0)
      · refine r_iconst (pc := 99) F dX10_statement_99 ic_0 ?_
        exact hR _ _ _ _ dX10_statement_100 rfl (Option.some.inj h0)
  refine r_aload_n (pc := 0) F dX10_statement_0 rfl ?_
  obtain ⟨r1, er1, h0⟩ := bind_some h0
  refine r_Vi0 (pc := 1) F dX10_statement_1 ml_10_106 (kX10_next _ w r1 er1) i68_42 (ce_42 _ _ _) (Nat.le_of_ble_eq_true rfl) (Nat.le_of_ble_eq_true rfl) (Nat.le_of_ble_eq_true rfl) ?_
  refine r_istore_n (pc := 4) (ls' := [(0, .ref ((zg Z).1 42)), (1, .int r1)]) F dX10_statement_4 (Nat.le_of_ble_eq_true rfl) rfl ?_
  refine r_iload_n (pc := 5) F dX10_statement_5 rfl ?_
  refine r_bipush (pc := 6) F dX10_statement_6 bp_112 ?_
  refine r_icmp_eq (pc := 8) (tgt := 43) F dX10_statement_8 rfl h0 (fun h0 => ?_) (fun h0 => ?_)
  · exact J43 w r1 h0
  · refine r_iload_n (pc := 11) F dX10_statement_11 rfl ?_
    refine r_bipush (pc := 12) F dX10_statement_12 bp_119 ?_
    refine r_icmp_eq (pc := 14) (tgt := 43) F dX10_statement_14 rfl h0 (fun h0 => ?_) (fun h0 => ?_)
    · exact J43 w r1 h0
    · refine r_iload_n (pc := 17) F dX10_statement_17 rfl ?_
      refine r_bipush (pc := 18) F dX10_statement_18 bp_102 ?_
      refine r_icmp_eq (pc := 20) (tgt := 43) F dX10_statement_20 rfl h0 (fun h0 => ?_) (fun h0 => ?_)
      · exact J43 w r1 h0
      · refine r_iload_n (pc := 23) F dX10_statement_23 rfl ?_
        refine r_bipush (pc := 24) F dX10_statement_24 bp_100 ?_
        refine r_icmp_eq (pc := 26) (tgt := 43) F dX10_statement_26 rfl h0 (fun h0 => ?_) (fun h0 => ?_)
        · exact J43 w r1 h0
        · refine r_iload_n (pc := 29) F dX10_statement_29 rfl ?_
          refine r_bipush (pc := 30) F dX10_statement_30 bp_108 ?_
          refine r_icmp_eq (pc := 32) (tgt := 43) F dX10_statement_32 rfl h0 (fun h0 => ?_) (fun h0 => ?_)
          · exact J43 w r1 h0
          · refine r_iload_n (pc := 35) F dX10_statement_35 rfl ?_
            refine r_bipush (pc := 36) F dX10_statement_36 bp_109 ?_
            refine r_icmp_eq (pc := 38) (tgt := 43) F dX10_statement_38 rfl h0 (fun h0 => ?_) (fun h0 => ?_)
            · exact J43 w r1 h0
            · refine r_iconst (pc := 41) F dX10_statement_41 ic_0 ?_
              exact hR _ _ _ _ dX10_statement_42 rfl (Option.some.inj h0)
set_option maxRecDepth 100000 in
set_option maxHeartbeats 4000000 in
theorem kX10_passes (g : GT) (i1 n1 : Nat) (hi1 : IAr i1 n1) (w : Wd) (out : Wd) (h0 : fX10_passes i1 n1 w = some out) : CtV g yX10_passes cX10_passes 3 none 0 0 [.ref (g.1 42), .ref (g.1 i1)] w (fun w1 => w1 = out) := by
  refine CtV_of (by decide) (Nat.le_of_ble_eq_true rfl) (fun Z hg F hR => ?_)
  subst hg
  have F : Fx Z RX10 cX10_passes 3 0 0 := F
  refine V_sub (ls' := [(0, .ref ((zg Z).1 42)), (1, .ref ((zg Z).1 i1))]) [0, 1] rfl ?_
  unfold fX10_passes at h0
  refine r_iconst (pc := 0) F dX10_passes_0 ic_0 ?_
  refine r_istore_n (pc := 1) (ls' := [(0, .ref ((zg Z).1 42)), (1, .ref ((zg Z).1 i1)), (2, .int 0)]) F dX10_passes_1 (Nat.le_of_ble_eq_true rfl) rfl ?_
  obtain ⟨w20, iw20, h0⟩ := bind_some h0
  suffices E2 : V Z 58 [] [] w20 by
    refine iter_rule (P := fun s : Int32 × Wd => V Z 2 [(0, .ref ((zg Z).1 42)), (1, .ref ((zg Z).1 i1)), (2, .int (s.1))] [] s.2) (x := w20) ?_ FU (0, w) iw20
    intro s y1 h1 hP1 hX1
    obtain ⟨l1, w2⟩ := s
    have h1 : fX10_passes_b2 n1 i1 l1 w2 = some y1 := h1
    unfold fX10_passes_b2 at h1
    have J42 : ∀ (w9 : Wd) (l8 : Int32), fX10_passes_j42 w9 l8 = some y1 → V Z 42 [(0, .ref ((zg Z).1 42)), (1, .ref ((zg Z).1 i1)), (2, .int l8)] [] w9 := by
      intro w9 l8 h1
      unfold fX10_passes_j42 at h1
      refine r_aload_n (pc := 42) F dX10_passes_42 rfl ?_
      refine r_dup (pc := 43) F dX10_passes_43 rfl ?_
      refine r_getf (pc := 44) F dX10_passes_44 fl_10_171 i68_42 (ce_42 _ _ _) rfl ?_
      refine r_iconst (pc := 47) F dX10_passes_47 ic_1 ?_
      refine r_iadd (pc := 48) F dX10_passes_48 ?_
      obtain ⟨w10, ew10, h1⟩ := lt_some h1
      refine r_putI (pc := 49) F dX10_passes_49 fl_10_171 fp_10_20 i68_42 (ce_42 _) (Nat.le_of_ble_eq_true rfl) rfl rfl rfl ew10 ?_
      obtain ⟨v12, ev12, h1⟩ := lt_some h1
      refine r_iinc (pc := 52) (ls' := [(0, .ref ((zg Z).1 42)), (1, .ref ((zg Z).1 i1)), (2, .int v12)]) F dX10_passes_52 rfl (by rw [ev12]; rfl) (Nat.le_of_ble_eq_true rfl) rfl ?_
      refine r_goto (pc := 55) (tgt := 2) F dX10_passes_55 rfl ?_
      exact hP1 (v12, w10) (Option.some.inj h1).symm
    refine r_iload_n (pc := 2) F dX10_passes_2 rfl ?_
    refine r_aload_n (pc := 3) F dX10_passes_3 rfl ?_
    refine r_alen (pc := 4) F dX10_passes_4 hi1.1 (hi1.2 _) rfl ?_
    refine r_icmp_ge (pc := 5) (tgt := 58) F dX10_passes_5 rfl h1 (fun h1 => ?_) (fun h1 => ?_)
    · refine V_sub (ls' := []) [] rfl ?_
      have e3 := hX1 _ (Option.some.inj h1).symm
      cases e3
      exact E2
    · refine r_aload_n (pc := 8) F dX10_passes_8 rfl ?_
      refine r_getf (pc := 9) F dX10_passes_9 fl_10_167 i68_42 (ce_42 _ _ _) rfl ?_
      refine r_if_eq (pc := 12) (tgt := 30) F dX10_passes_12 rfl h1 (fun h1 => ?_) (fun h1 => ?_)
      · refine r_aload_n (pc := 30) F dX10_passes_30 rfl ?_
        refine r_iload_n (pc := 31) F dX10_passes_31 rfl ?_
        refine r_aload_n (pc := 32) F dX10_passes_32 rfl ?_
        refine r_getf (pc := 33) F dX10_passes_33 fl_10_40 i68_42 (ce_42 _ _ _) rfl ?_
        refine r_aload_n (pc := 36) F dX10_passes_36 rfl ?_
        refine r_getf (pc := 37) F dX10_passes_37 fl_10_171 i68_42 (ce_42 _ _ _) rfl ?_
        obtain ⟨g4, h1⟩ := gd_some h1
        refine r_iald (pc := 40) F dX10_passes_40 i68_53 (ca_53 _) g4 rfl ?_
        obtain ⟨g6, h1⟩ := gd_some h1
        obtain ⟨w5, ew5, h1⟩ := lt_some h1
        refine r_iast (pc := 41) F dX10_passes_41 hi1.1 (hi1.2 _) g6 rfl ew5 ?_
        exact J42 w5 l1 h1
      · refine r_aload_n (pc := 15) F dX10_passes_15 rfl ?_
        refine r_getf (pc := 16) F dX10_passes_16 fl_10_40 i68_42 (ce_42 _ _ _) rfl ?_
        refine r_aload_n (pc := 19) F dX10_passes_19 rfl ?_
        refine r_getf (pc := 20) F dX10_passes_20 fl_10_171 i68_42 (ce_42 _ _ _) rfl ?_
        refine r_aload_n (pc := 23) F dX10_passes_23 rfl ?_
        refine r_iload_n (pc := 24) F dX10_passes_24 rfl ?_
        obtain ⟨g13, h1⟩ := gd_some h1
        refine r_iald (pc := 25) F dX10_passes_25 hi1.1 (hi1.2 _) g13 rfl ?_
        obtain ⟨g15, h1⟩ := gd_some h1
        obtain ⟨w14, ew14, h1⟩ := lt_some h1
        refine r_iast (pc := 26) F dX10_passes_26 i68_53 (ca_53 _) g15 rfl ew14 ?_
        refine r_goto (pc := 27) (tgt := 42) F dX10_passes_27 rfl ?_
        exact J42 w14 l1 h1
  exact hR _ _ _ dX10_passes_58 (Option.some.inj h0)
set_option maxRecDepth 100000 in
set_option maxHeartbeats 4000000 in
theorem kX10_passOne (g : GT) (w : Wd) (a1 : Int32) (out : Int32 × Wd) (h0 : fX10_passOne w a1 = some out) : CtI g yX10_passOne cX10_passOne 3 (some .int) 0 0 [.ref (g.1 42), .int a1] w (fun r w1 => (r, w1) = out) := by
  refine CtI_of .int (by decide) (Nat.le_of_ble_eq_true rfl) (fun Z hg F hR => ?_)
  subst hg
  have F : Fx Z RX10 cX10_passOne 3 0 0 := F
  refine V_sub (ls' := [(0, .ref ((zg Z).1 42)), (1, .int a1)]) [0, 1] rfl ?_
  unfold fX10_passOne at h0
  have J38 : ∀ (w5 : Wd) (l4 : Int32), fX10_passOne_j38 w5 l4 = some out → V Z 38 [(0, .ref ((zg Z).1 42)), (2, .int l4)] [] w5 := by
    intro w5 l4 h0
    unfold fX10_passOne_j38 at h0
    refine r_aload_n (pc := 38) F dX10_passOne_38 rfl ?_
    refine r_dup (pc := 39) F dX10_passOne_39 rfl ?_
    refine r_getf (pc := 40) F dX10_passOne_40 fl_10_171 i68_42 (ce_42 _ _ _) rfl ?_
    refine r_iconst (pc := 43) F dX10_passOne_43 ic_1 ?_
    refine r_iadd (pc := 44) F dX10_passOne_44 ?_
    obtain ⟨w6, ew6, h0⟩ := lt_some h0
    refine r_putI (pc := 45) F dX10_passOne_45 fl_10_171 fp_10_20 i68_42 (ce_42 _) (Nat.le_of_ble_eq_true rfl) rfl rfl rfl ew6 ?_
    refine r_iload_n (pc := 48) F dX10_passOne_48 rfl ?_
    exact hR _ _ _ _ dX10_passOne_49 rfl (Option.some.inj h0)
  refine r_aload_n (pc := 0) F dX10_passOne_0 rfl ?_
  refine r_getf (pc := 1) F dX10_passOne_1 fl_10_167 i68_42 (ce_42 _ _ _) rfl ?_
  obtain ⟨v2, hv2, h0⟩ := bind_some h0
  suffices Jv2 : V Z 20 [(0, .ref ((zg Z).1 42)), (1, .int a1)] [.int v2] w by
    refine r_if_eq (pc := 4) (tgt := 11) F dX10_passOne_4 rfl hv2 (fun hv2 => ?_) (fun hv2 => ?_)
    · refine r_aload_n (pc := 11) F dX10_passOne_11 rfl ?_
      refine r_getf (pc := 12) F dX10_passOne_12 fl_10_40 i68_42 (ce_42 _ _ _) rfl ?_
      refine r_aload_n (pc := 15) F dX10_passOne_15 rfl ?_
      refine r_getf (pc := 16) F dX10_passOne_16 fl_10_171 i68_42 (ce_42 _ _ _) rfl ?_
      obtain ⟨g3, hv2⟩ := gd_some hv2
      refine r_iald (pc := 19) F dX10_passOne_19 i68_53 (ca_53 _) g3 rfl ?_
      exact V_nm (Option.some.inj hv2).symm Jv2
    · refine r_iload_n (pc := 7) F dX10_passOne_7 rfl ?_
      refine r_goto (pc := 8) (tgt := 20) F dX10_passOne_8 rfl ?_
      exact V_nm (Option.some.inj hv2).symm Jv2
  refine r_istore_n (pc := 20) (ls' := [(0, .ref ((zg Z).1 42)), (1, .int a1), (2, .int v2)]) F dX10_passOne_20 (Nat.le_of_ble_eq_true rfl) rfl ?_
  refine r_aload_n (pc := 21) F dX10_passOne_21 rfl ?_
  refine r_getf (pc := 22) F dX10_passOne_22 fl_10_167 i68_42 (ce_42 _ _ _) rfl ?_
  refine r_if_eq (pc := 25) (tgt := 38) F dX10_passOne_25 rfl h0 (fun h0 => ?_) (fun h0 => ?_)
  · refine V_sub (ls' := [(0, .ref ((zg Z).1 42)), (2, .int v2)]) [0, 2] rfl ?_
    exact J38 w v2 h0
  · refine r_aload_n (pc := 28) F dX10_passOne_28 rfl ?_
    refine r_getf (pc := 29) F dX10_passOne_29 fl_10_40 i68_42 (ce_42 _ _ _) rfl ?_
    refine r_aload_n (pc := 32) F dX10_passOne_32 rfl ?_
    refine r_getf (pc := 33) F dX10_passOne_33 fl_10_171 i68_42 (ce_42 _ _ _) rfl ?_
    refine r_iload_n (pc := 36) F dX10_passOne_36 rfl ?_
    obtain ⟨g9, h0⟩ := gd_some h0
    obtain ⟨w8, ew8, h0⟩ := lt_some h0
    refine r_iast (pc := 37) F dX10_passOne_37 i68_53 (ca_53 _) g9 rfl ew8 ?_
    refine V_sub (ls' := [(0, .ref ((zg Z).1 42)), (2, .int v2)]) [0, 2] rfl ?_
    exact J38 w8 v2 h0
set_option maxRecDepth 100000 in
set_option maxHeartbeats 4000000 in
theorem kX10_passesAll (g : GT) (w : Wd) (a1 : Int32) (a2 : Int32) (out : Wd) (h0 : fX10_passesAll w a1 a2 = some out) : CtV g yX10_passesAll cX10_passesAll 3 none 1 22 [.ref (g.1 42), .int a1, .int a2] w (fun w1 => w1 = out) := by
  refine CtV_of (by decide) (Nat.le_of_ble_eq_true rfl) (fun Z hg F hR => ?_)
  subst hg
  have F : Fx Z RX10 cX10_passesAll 3 1 22 := F
  refine V_sub (ls' := [(0, .ref ((zg Z).1 42)), (1, .int a1), (2, .int a2)]) [0, 1, 2] rfl ?_
  unfold fX10_passesAll at h0
  refine r_aload_n (pc := 0) F dX10_passesAll_0 rfl ?_
  refine r_bipush (pc := 1) F dX10_passesAll_1 bp_80 ?_
  refine r_iload_n (pc := 3) F dX10_passesAll_3 rfl ?_
  refine r_imul (pc := 4) F dX10_passesAll_4 ?_
  obtain ⟨w1, ew1, h0⟩ := lt_some h0
  refine r_putI (pc := 5) F dX10_passesAll_5 fl_10_171 fp_10_20 i68_42 (ce_42 _) (Nat.le_of_ble_eq_true rfl) rfl rfl rfl ew1 ?_
  refine r_aload_n (pc := 8) F dX10_passesAll_8 rfl ?_
  refine r_iload_n (pc := 9) F dX10_passesAll_9 rfl ?_
  obtain ⟨g4, h0⟩ := gd_some h0
  obtain ⟨w3, ew3, h0⟩ := lt_some h0
  refine r_putI (pc := 10) F dX10_passesAll_10 fl_10_167 fp_10_19 i68_42 (ce_42 _) (Nat.le_of_ble_eq_true rfl) rfl (bz_n g4) (bz_f g4) ew3 ?_
  refine r_aload_n (pc := 13) F dX10_passesAll_13 rfl ?_
  refine r_aload_n (pc := 14) F dX10_passesAll_14 rfl ?_
  refine r_getf (pc := 15) F dX10_passesAll_15 fl_10_13 i68_42 (ce_42 _ _ _) rfl ?_
  obtain ⟨w6, ew6, h0⟩ := bind_some h0
  refine r_Vv1 (pc := 18) F dX10_passesAll_18 ml_10_174 (kX10_passes _ 44 3 ⟨i68_44, ca_44⟩ w3 w6 ew6) i68_42 (ce_42 _ _ _) (Nat.le_of_ble_eq_true rfl) (Nat.le_of_ble_eq_true rfl) (Nat.le_of_ble_eq_true rfl) ?_
  refine r_aload_n (pc := 21) F dX10_passesAll_21 rfl ?_
  refine r_aload_n (pc := 22) F dX10_passesAll_22 rfl ?_
  refine r_getf (pc := 23) F dX10_passesAll_23 fl_10_16 i68_42 (ce_42 _ _ _) rfl ?_
  obtain ⟨w8, ew8, h0⟩ := bind_some h0
  refine r_Vv1 (pc := 26) F dX10_passesAll_26 ml_10_174 (kX10_passes _ 45 8 ⟨i68_45, ca_45⟩ w6 w8 ew8) i68_42 (ce_42 _ _ _) (Nat.le_of_ble_eq_true rfl) (Nat.le_of_ble_eq_true rfl) (Nat.le_of_ble_eq_true rfl) ?_
  refine r_aload_n (pc := 29) F dX10_passesAll_29 rfl ?_
  refine r_aload_n (pc := 30) F dX10_passesAll_30 rfl ?_
  refine r_getf (pc := 31) F dX10_passesAll_31 fl_10_19 i68_42 (ce_42 _ _ _) rfl ?_
  obtain ⟨w10, ew10, h0⟩ := bind_some h0
  refine r_Vv1 (pc := 34) F dX10_passesAll_34 ml_10_174 (kX10_passes _ 46 8 ⟨i68_46, ca_46⟩ w8 w10 ew10) i68_42 (ce_42 _ _ _) (Nat.le_of_ble_eq_true rfl) (Nat.le_of_ble_eq_true rfl) (Nat.le_of_ble_eq_true rfl) ?_
  refine r_aload_n (pc := 37) F dX10_passesAll_37 rfl ?_
  refine r_aload_n (pc := 38) F dX10_passesAll_38 rfl ?_
  refine r_getf (pc := 39) F dX10_passesAll_39 fl_10_22 i68_42 (ce_42 _ _ _) rfl ?_
  obtain ⟨w12, ew12, h0⟩ := bind_some h0
  refine r_Vv1 (pc := 42) F dX10_passesAll_42 ml_10_174 (kX10_passes _ 47 25 ⟨i68_47, ca_47⟩ w10 w12 ew12) i68_42 (ce_42 _ _ _) (Nat.le_of_ble_eq_true rfl) (Nat.le_of_ble_eq_true rfl) (Nat.le_of_ble_eq_true rfl) ?_
  refine r_aload_n (pc := 45) F dX10_passesAll_45 rfl ?_
  refine r_aload_n (pc := 46) F dX10_passesAll_46 rfl ?_
  refine r_getf (pc := 47) F dX10_passesAll_47 fl_10_25 i68_42 (ce_42 _ _ _) rfl ?_
  obtain ⟨w14, ew14, h0⟩ := bind_some h0
  refine r_Vv1 (pc := 50) F dX10_passesAll_50 ml_10_174 (kX10_passes _ 48 25 ⟨i68_48, ca_48⟩ w12 w14 ew14) i68_42 (ce_42 _ _ _) (Nat.le_of_ble_eq_true rfl) (Nat.le_of_ble_eq_true rfl) (Nat.le_of_ble_eq_true rfl) ?_
  refine r_aload_n (pc := 53) F dX10_passesAll_53 rfl ?_
  refine r_aload_n (pc := 54) F dX10_passesAll_54 rfl ?_
  refine r_aload_n (pc := 55) F dX10_passesAll_55 rfl ?_
  refine r_getf (pc := 56) F dX10_passesAll_56 fl_10_88 i68_42 (ce_42 _ _ _) rfl ?_
  obtain ⟨q18, er17, h0⟩ := bind_some h0
  replace h0 := un2_eq h0
  obtain ⟨r17, w16, rfl, h0⟩ := h0
  refine r_Vj1 (pc := 59) F dX10_passesAll_59 ml_10_178 (kX10_passOne _ w14 (w14.1 42 6) (r17, w16) er17) i68_42 (ce_42 _ _ _) (Nat.le_of_ble_eq_true rfl) (Nat.le_of_ble_eq_true rfl) (Nat.le_of_ble_eq_true rfl) ?_
  obtain ⟨w20, ew20, h0⟩ := lt_some h0
  refine r_putI (pc := 62) F dX10_passesAll_62 fl_10_88 fp_10_6 i68_42 (ce_42 _) (Nat.le_of_ble_eq_true rfl) rfl rfl rfl ew20 ?_
  refine r_aload_n (pc := 65) F dX10_passesAll_65 rfl ?_
  refine r_aload_n (pc := 66) F dX10_passesAll_66 rfl ?_
  refine r_aload_n (pc := 67) F dX10_passesAll_67 rfl ?_
  refine r_getf (pc := 68) F dX10_passesAll_68 fl_10_124 i68_42 (ce_42 _ _ _) rfl ?_
  obtain ⟨q24, er23, h0⟩ := bind_some h0
  replace h0 := un2_eq h0
  obtain ⟨r23, w22, rfl, h0⟩ := h0
  refine r_Vj1 (pc := 71) F dX10_passesAll_71 ml_10_178 (kX10_passOne _ w20 (w20.1 42 7) (r23, w22) er23) i68_42 (ce_42 _ _ _) (Nat.le_of_ble_eq_true rfl) (Nat.le_of_ble_eq_true rfl) (Nat.le_of_ble_eq_true rfl) ?_
  obtain ⟨w26, ew26, h0⟩ := lt_some h0
  refine r_putI (pc := 74) F dX10_passesAll_74 fl_10_124 fp_10_7 i68_42 (ce_42 _) (Nat.le_of_ble_eq_true rfl) rfl rfl rfl ew26 ?_
  refine r_aload_n (pc := 77) F dX10_passesAll_77 rfl ?_
  refine r_aload_n (pc := 78) F dX10_passesAll_78 rfl ?_
  refine r_aload_n (pc := 79) F dX10_passesAll_79 rfl ?_
  refine r_getf (pc := 80) F dX10_passesAll_80 fl_10_127 i68_42 (ce_42 _ _ _) rfl ?_
  obtain ⟨q30, er29, h0⟩ := bind_some h0
  replace h0 := un2_eq h0
  obtain ⟨r29, w28, rfl, h0⟩ := h0
  refine r_Vj1 (pc := 83) F dX10_passesAll_83 ml_10_178 (kX10_passOne _ w26 (w26.1 42 8) (r29, w28) er29) i68_42 (ce_42 _ _ _) (Nat.le_of_ble_eq_true rfl) (Nat.le_of_ble_eq_true rfl) (Nat.le_of_ble_eq_true rfl) ?_
  obtain ⟨w32, ew32, h0⟩ := lt_some h0
  refine r_putI (pc := 86) F dX10_passesAll_86 fl_10_127 fp_10_8 i68_42 (ce_42 _) (Nat.le_of_ble_eq_true rfl) rfl rfl rfl ew32 ?_
  refine r_aload_n (pc := 89) F dX10_passesAll_89 rfl ?_
  refine r_aload_n (pc := 90) F dX10_passesAll_90 rfl ?_
  refine r_aload_n (pc := 91) F dX10_passesAll_91 rfl ?_
  refine r_getf (pc := 92) F dX10_passesAll_92 fl_10_133 i68_42 (ce_42 _ _ _) rfl ?_
  obtain ⟨q36, er35, h0⟩ := bind_some h0
  replace h0 := un2_eq h0
  obtain ⟨r35, w34, rfl, h0⟩ := h0
  refine r_Vj1 (pc := 95) F dX10_passesAll_95 ml_10_178 (kX10_passOne _ w32 (w32.1 42 9) (r35, w34) er35) i68_42 (ce_42 _ _ _) (Nat.le_of_ble_eq_true rfl) (Nat.le_of_ble_eq_true rfl) (Nat.le_of_ble_eq_true rfl) ?_
  obtain ⟨w38, ew38, h0⟩ := lt_some h0
  refine r_putI (pc := 98) F dX10_passesAll_98 fl_10_133 fp_10_9 i68_42 (ce_42 _) (Nat.le_of_ble_eq_true rfl) rfl rfl rfl ew38 ?_
  exact hR _ _ _ dX10_passesAll_101 (Option.some.inj h0)
set_option maxRecDepth 100000 in
set_option maxHeartbeats 4000000 in
theorem kX10_comesOne (g : GT) (w : Wd) (a1 : Int32) (out : Int32 × Wd) (h0 : fX10_comesOne w a1 = some out) : CtI g yX10_comesOne cX10_comesOne 2 (some .boolean) 0 0 [.ref (g.1 42), .int a1] w (fun r w1 => (r, w1) = out) := by
  refine CtI_of .boolean (by decide) (Nat.le_of_ble_eq_true rfl) (fun Z hg F hR => ?_)
  subst hg
  have F : Fx Z RX10 cX10_comesOne 2 0 0 := F
  refine V_sub (ls' := [(0, .ref ((zg Z).1 42)), (1, .int a1)]) [0, 1] rfl ?_
  unfold fX10_comesOne at h0
  have J46 : ∀ (w3 : Wd), fX10_comesOne_j46 a1 w3 = some out → V Z 46 [(0, .ref ((zg Z).1 42)), (1, .int a1)] [] w3 := by
    intro w3 h0
    unfold fX10_comesOne_j46 at h0
    refine r_aload_n (pc := 46) F dX10_comesOne_46 rfl ?_
    refine r_getf (pc := 47) F dX10_comesOne_47 fl_10_88 i68_42 (ce_42 _ _ _) rfl ?_
    refine r_bipush (pc := 50) F dX10_comesOne_50 bp_8 ?_
    refine r_icmp_ne (pc := 52) (tgt := 57) F dX10_comesOne_52 rfl h0 (fun h0 => ?_) (fun h0 => ?_)
    · refine r_iconst (pc := 55) F dX10_comesOne_55 ic_0 ?_
      exact hR _ _ _ _ dX10_comesOne_56 rfl (Option.some.inj h0)
    · refine r_aload_n (pc := 57) F dX10_comesOne_57 rfl ?_
      refine r_getf (pc := 58) F dX10_comesOne_58 fl_10_16 i68_42 (ce_42 _ _ _) rfl ?_
      refine r_aload_n (pc := 61) F dX10_comesOne_61 rfl ?_
      refine r_getf (pc := 62) F dX10_comesOne_62 fl_10_88 i68_42 (ce_42 _ _ _) rfl ?_
      refine r_aload_n (pc := 65) F dX10_comesOne_65 rfl ?_
      refine r_getf (pc := 66) F dX10_comesOne_66 fl_10_37 i68_42 (ce_42 _ _ _) rfl ?_
      refine r_iload_n (pc := 69) F dX10_comesOne_69 rfl ?_
      obtain ⟨g4, h0⟩ := gd_some h0
      refine r_iald (pc := 70) F dX10_comesOne_70 i68_52 (ca_52 _) g4 rfl ?_
      obtain ⟨g6, h0⟩ := gd_some h0
      obtain ⟨w5, ew5, h0⟩ := lt_some h0
      refine r_iast (pc := 71) F dX10_comesOne_71 i68_45 (ca_45 _) g6 rfl ew5 ?_
      refine r_aload_n (pc := 72) F dX10_comesOne_72 rfl ?_
      refine r_getf (pc := 73) F dX10_comesOne_73 fl_10_19 i68_42 (ce_42 _ _ _) rfl ?_
      refine r_aload_n (pc := 76) F dX10_comesOne_76 rfl ?_
      refine r_getf (pc := 77) F dX10_comesOne_77 fl_10_88 i68_42 (ce_42 _ _ _) rfl ?_
      refine r_aload_n (pc := 80) F dX10_comesOne_80 rfl ?_
      refine r_getf (pc := 81) F dX10_comesOne_81 fl_10_37 i68_42 (ce_42 _ _ _) rfl ?_
      refine r_iload_n (pc := 84) F dX10_comesOne_84 rfl ?_
      refine r_iconst (pc := 85) F dX10_comesOne_85 ic_1 ?_
      refine r_iadd (pc := 86) F dX10_comesOne_86 ?_
      obtain ⟨g8, h0⟩ := gd_some h0
      refine r_iald (pc := 87) F dX10_comesOne_87 i68_52 (ca_52 _) g8 rfl ?_
      obtain ⟨g10, h0⟩ := gd_some h0
      obtain ⟨w9, ew9, h0⟩ := lt_some h0
      refine r_iast (pc := 88) F dX10_comesOne_88 i68_46 (ca_46 _) g10 rfl ew9 ?_
      refine r_aload_n (pc := 89) F dX10_comesOne_89 rfl ?_
      refine r_dup (pc := 90) F dX10_comesOne_90 rfl ?_
      refine r_getf (pc := 91) F dX10_comesOne_91 fl_10_124 i68_42 (ce_42 _ _ _) rfl ?_
      refine r_aload_n (pc := 94) F dX10_comesOne_94 rfl ?_
      refine r_getf (pc := 95) F dX10_comesOne_95 fl_10_37 i68_42 (ce_42 _ _ _) rfl ?_
      refine r_iload_n (pc := 98) F dX10_comesOne_98 rfl ?_
      refine r_iconst (pc := 99) F dX10_comesOne_99 ic_2 ?_
      refine r_iadd (pc := 100) F dX10_comesOne_100 ?_
      obtain ⟨g12, h0⟩ := gd_some h0
      refine r_iald (pc := 101) F dX10_comesOne_101 i68_52 (ca_52 _) g12 rfl ?_
      refine r_aload_n (pc := 102) F dX10_comesOne_102 rfl ?_
      refine r_getf (pc := 103) F dX10_comesOne_103 fl_10_88 i68_42 (ce_42 _ _ _) rfl ?_
      refine r_ishl (pc := 106) F dX10_comesOne_106 ?_
      refine r_ior (pc := 107) F dX10_comesOne_107 ?_
      obtain ⟨w13, ew13, h0⟩ := lt_some h0
      refine r_putI (pc := 108) F dX10_comesOne_108 fl_10_124 fp_10_7 i68_42 (ce_42 _) (Nat.le_of_ble_eq_true rfl) rfl rfl rfl ew13 ?_
      refine r_aload_n (pc := 111) F dX10_comesOne_111 rfl ?_
      refine r_dup (pc := 112) F dX10_comesOne_112 rfl ?_
      refine r_getf (pc := 113) F dX10_comesOne_113 fl_10_88 i68_42 (ce_42 _ _ _) rfl ?_
      refine r_iconst (pc := 116) F dX10_comesOne_116 ic_1 ?_
      refine r_iadd (pc := 117) F dX10_comesOne_117 ?_
      obtain ⟨w15, ew15, h0⟩ := lt_some h0
      refine r_putI (pc := 118) F dX10_comesOne_118 fl_10_88 fp_10_6 i68_42 (ce_42 _) (Nat.le_of_ble_eq_true rfl) rfl rfl rfl ew15 ?_
      refine r_iconst (pc := 121) F dX10_comesOne_121 ic_1 ?_
      exact hR _ _ _ _ dX10_comesOne_122 rfl (Option.some.inj h0)
  refine r_aload_n (pc := 0) F dX10_comesOne_0 rfl ?_
  refine r_getf (pc := 1) F dX10_comesOne_1 fl_10_37 i68_42 (ce_42 _ _ _) rfl ?_
  refine r_iload_n (pc := 4) F dX10_comesOne_4 rfl ?_
  obtain ⟨g1, h0⟩ := gd_some h0
  refine r_iald (pc := 5) F dX10_comesOne_5 i68_52 (ca_52 _) g1 rfl ?_
  refine r_bipush (pc := 6) F dX10_comesOne_6 bp_6 ?_
  refine r_icmp_gt (pc := 8) (tgt := 55) F dX10_comesOne_8 rfl h0 (fun h0 => ?_) (fun h0 => ?_)
  · refine r_iconst (pc := 55) F dX10_comesOne_55 ic_0 ?_
    exact hR _ _ _ _ dX10_comesOne_56 rfl (Option.some.inj h0)
  · refine r_aload_n (pc := 11) F dX10_comesOne_11 rfl ?_
    refine r_getf (pc := 12) F dX10_comesOne_12 fl_10_37 i68_42 (ce_42 _ _ _) rfl ?_
    refine r_iload_n (pc := 15) F dX10_comesOne_15 rfl ?_
    refine r_iconst (pc := 16) F dX10_comesOne_16 ic_2 ?_
    refine r_iadd (pc := 17) F dX10_comesOne_17 ?_
    obtain ⟨g2, h0⟩ := gd_some h0
    refine r_iald (pc := 18) F dX10_comesOne_18 i68_52 (ca_52 _) g2 rfl ?_
    refine r_iconst (pc := 19) F dX10_comesOne_19 ic_1 ?_
    refine r_icmp_gt (pc := 20) (tgt := 55) F dX10_comesOne_20 rfl h0 (fun h0 => ?_) (fun h0 => ?_)
    · refine r_iconst (pc := 55) F dX10_comesOne_55 ic_0 ?_
      exact hR _ _ _ _ dX10_comesOne_56 rfl (Option.some.inj h0)
    · refine r_aload_n (pc := 23) F dX10_comesOne_23 rfl ?_
      refine r_getf (pc := 24) F dX10_comesOne_24 fl_10_37 i68_42 (ce_42 _ _ _) rfl ?_
      refine r_iload_n (pc := 27) F dX10_comesOne_27 rfl ?_
      refine r_iald (pc := 28) F dX10_comesOne_28 i68_52 (ca_52 _) g1 rfl ?_
      refine r_bipush (pc := 29) F dX10_comesOne_29 bp_6 ?_
      refine r_icmp_ne (pc := 31) (tgt := 46) F dX10_comesOne_31 rfl h0 (fun h0 => ?_) (fun h0 => ?_)
      · refine r_aload_n (pc := 34) F dX10_comesOne_34 rfl ?_
        refine r_getf (pc := 35) F dX10_comesOne_35 fl_10_37 i68_42 (ce_42 _ _ _) rfl ?_
        refine r_iload_n (pc := 38) F dX10_comesOne_38 rfl ?_
        refine r_iconst (pc := 39) F dX10_comesOne_39 ic_2 ?_
        refine r_iadd (pc := 40) F dX10_comesOne_40 ?_
        refine r_iald (pc := 41) F dX10_comesOne_41 i68_52 (ca_52 _) g2 rfl ?_
        refine r_iconst (pc := 42) F dX10_comesOne_42 ic_1 ?_
        refine r_icmp_eq (pc := 43) (tgt := 55) F dX10_comesOne_43 rfl h0 (fun h0 => ?_) (fun h0 => ?_)
        · refine r_iconst (pc := 55) F dX10_comesOne_55 ic_0 ?_
          exact hR _ _ _ _ dX10_comesOne_56 rfl (Option.some.inj h0)
        · exact J46 w h0
      · exact J46 w h0
set_option maxRecDepth 100000 in
set_option maxHeartbeats 4000000 in
theorem kX10_isPerson (g : GT) (w : Wd) (a1 : Int32) (out : Int32) (h0 : fX10_isPerson w a1 = out) : CtI g yX10_isPerson cX10_isPerson 2 (some .boolean) 0 0 [.ref (g.1 42), .int a1] w (fun r w1 => r = out ∧ w1 = w) := by
  refine CtI_of .boolean (by decide) (Nat.le_of_ble_eq_true rfl) (fun Z hg F hR => ?_)
  subst hg
  have F : Fx Z RX10 cX10_isPerson 2 0 0 := F
  refine V_sub (ls' := [(0, .ref ((zg Z).1 42)), (1, .int a1)]) [0, 1] rfl ?_
  unfold fX10_isPerson at h0
  refine r_iload_n (pc := 0) F dX10_isPerson_0 rfl ?_
  refine r_if_lt (pc := 1) (tgt := 16) F dX10_isPerson_1 rfl h0 (fun h0 => ?_) (fun h0 => ?_)
  · refine r_iconst (pc := 16) F dX10_isPerson_16 ic_0 ?_
    exact hR _ _ _ _ dX10_isPerson_17 rfl ⟨h0, rfl⟩
  · refine r_iload_n (pc := 4) F dX10_isPerson_4 rfl ?_
    refine r_aload_n (pc := 5) F dX10_isPerson_5 rfl ?_
    refine r_getf (pc := 6) F dX10_isPerson_6 fl_10_88 i68_42 (ce_42 _ _ _) rfl ?_
    refine r_icmp_ge (pc := 9) (tgt := 16) F dX10_isPerson_9 rfl h0 (fun h0 => ?_) (fun h0 => ?_)
    · refine r_iconst (pc := 16) F dX10_isPerson_16 ic_0 ?_
      exact hR _ _ _ _ dX10_isPerson_17 rfl ⟨h0, rfl⟩
    · refine r_iconst (pc := 12) F dX10_isPerson_12 ic_1 ?_
      refine r_goto (pc := 13) (tgt := 17) F dX10_isPerson_13 rfl ?_
      exact hR _ _ _ _ dX10_isPerson_17 rfl ⟨h0, rfl⟩
set_option maxRecDepth 100000 in
set_option maxHeartbeats 4000000 in
theorem kX10_has (g : GT) (w : Wd) (a0 : Int32) (a1 : Int32) (out : Int32) (h0 : fX10_has a0 a1 = out) : CtI g yX10_has cX10_has 2 (some .boolean) 0 0 [.int a0, .int a1] w (fun r w1 => r = out ∧ w1 = w) := by
  refine CtI_of .boolean (by decide) (Nat.le_of_ble_eq_true rfl) (fun Z hg F hR => ?_)
  subst hg
  have F : Fx Z RX10 cX10_has 2 0 0 := F
  refine V_sub (ls' := [(0, .int a0), (1, .int a1)]) [0, 1] rfl ?_
  unfold fX10_has at h0
  refine r_iload_n (pc := 0) F dX10_has_0 rfl ?_
  refine r_iload_n (pc := 1) F dX10_has_1 rfl ?_
  refine r_ishr (pc := 2) F dX10_has_2 ?_
  refine r_iconst (pc := 3) F dX10_has_3 ic_1 ?_
  refine r_iand (pc := 4) F dX10_has_4 ?_
  refine r_iconst (pc := 5) F dX10_has_5 ic_1 ?_
  refine r_icmp_ne (pc := 6) (tgt := 13) F dX10_has_6 rfl h0 (fun h0 => ?_) (fun h0 => ?_)
  · refine r_iconst (pc := 9) F dX10_has_9 ic_1 ?_
    refine r_goto (pc := 10) (tgt := 14) F dX10_has_10 rfl ?_
    exact hR _ _ _ _ dX10_has_14 rfl ⟨h0, rfl⟩
  · refine r_iconst (pc := 13) F dX10_has_13 ic_0 ?_
    exact hR _ _ _ _ dX10_has_14 rfl ⟨h0, rfl⟩
set_option maxRecDepth 100000 in
set_option maxHeartbeats 4000000 in
theorem kX10_doorAt (g : GT) (w : Wd) (out : Int32) (h0 : fX10_doorAt w = out) : CtI g yX10_doorAt cX10_doorAt 1 (some .int) 0 0 [.ref (g.1 42)] w (fun r w1 => r = out ∧ w1 = w) := by
  refine CtI_of .int (by decide) (Nat.le_of_ble_eq_true rfl) (fun Z hg F hR => ?_)
  subst hg
  have F : Fx Z RX10 cX10_doorAt 1 0 0 := F
  refine V_sub (ls' := [(0, .ref ((zg Z).1 42))]) [0] rfl ?_
  unfold fX10_doorAt at h0
  refine r_aload_n (pc := 0) F dX10_doorAt_0 rfl ?_
  refine r_getf (pc := 1) F dX10_doorAt_1 fl_10_13 i68_42 (ce_42 _ _ _) rfl ?_
  refine r_iconst (pc := 4) F dX10_doorAt_4 ic_2 ?_
  refine r_iald (pc := 5) (j := 2) F dX10_doorAt_5 i68_44 (ca_44 _) rfl rfl ?_
  exact hR _ _ _ _ dX10_doorAt_6 rfl ⟨h0, rfl⟩
set_option maxRecDepth 100000 in
set_option maxHeartbeats 4000000 in
theorem kX10_along (g : GT) (w : Wd) (a1 : Int32) (a2 : Int32) (out : Int32) (h0 : fX10_along w a1 a2 = out) : CtI g yX10_along cX10_along 4 (some .int) 1 21 [.ref (g.1 42), .int a1, .int a2] w (fun r w1 => r = out ∧ w1 = w) := by
  refine CtI_of .int (by decide) (Nat.le_of_ble_eq_true rfl) (fun Z hg F hR => ?_)
  subst hg
  have F : Fx Z RX10 cX10_along 4 1 21 := F
  refine V_sub (ls' := [(0, .ref ((zg Z).1 42)), (1, .int a1), (2, .int a2)]) [0, 1, 2] rfl ?_
  unfold fX10_along at h0
  have J46 : ∀ (l4 : Int32), fX10_along_j46 a1 w l4 = out → V Z 46 [(0, .ref ((zg Z).1 42)), (1, .int a1), (3, .int l4)] [] w := by
    intro l4 h0
    unfold fX10_along_j46 at h0
    refine r_aload_n (pc := 46) F dX10_along_46 rfl ?_
    refine r_iload_n (pc := 47) F dX10_along_47 rfl ?_
    refine r_Vi1 (pc := 48) F dX10_along_48 ml_10_144 (kX10_isPerson _ w l4 _ rfl) i68_42 (ce_42 _ _ _) (Nat.le_of_ble_eq_true rfl) (Nat.le_of_ble_eq_true rfl) (Nat.le_of_ble_eq_true rfl) ?_
    refine r_if_eq (pc := 51) (tgt := 63) F dX10_along_51 rfl h0 (fun h0 => ?_) (fun h0 => ?_)
    · refine r_bipush (pc := 63) F dX10_along_63 bp_m9 ?_
      exact hR _ _ _ _ dX10_along_65 rfl ⟨h0, rfl⟩
    · refine r_iload_n (pc := 54) F dX10_along_54 rfl ?_
      refine r_iload_n (pc := 55) F dX10_along_55 rfl ?_
      refine r_icmp_eq (pc := 56) (tgt := 63) F dX10_along_56 rfl h0 (fun h0 => ?_) (fun h0 => ?_)
      · refine r_bipush (pc := 63) F dX10_along_63 bp_m9 ?_
        exact hR _ _ _ _ dX10_along_65 rfl ⟨h0, rfl⟩
      · refine r_iload_n (pc := 59) F dX10_along_59 rfl ?_
        refine r_goto (pc := 60) (tgt := 65) F dX10_along_60 rfl ?_
        exact hR _ _ _ _ dX10_along_65 rfl ⟨h0, rfl⟩
  refine r_iload_n (pc := 0) F dX10_along_0 rfl ?_
  refine r_iload_n (pc := 1) F dX10_along_1 rfl ?_
  refine r_iadd (pc := 2) F dX10_along_2 ?_
  obtain ⟨v1, ev1, h0⟩ := lt_some h0
  refine V_nm ev1 ?_
  refine r_istore_n (pc := 3) (ls' := [(0, .ref ((zg Z).1 42)), (1, .int a1), (2, .int a2), (3, .int v1)]) F dX10_along_3 (Nat.le_of_ble_eq_true rfl) rfl ?_
  refine r_aload_n (pc := 4) F dX10_along_4 rfl ?_
  refine r_getf (pc := 5) F dX10_along_5 fl_10_13 i68_42 (ce_42 _ _ _) rfl ?_
  refine r_iconst (pc := 8) F dX10_along_8 ic_0 ?_
  refine r_iald (pc := 9) (j := 0) F dX10_along_9 i68_44 (ca_44 _) rfl rfl ?_
  refine r_iconst (pc := 10) F dX10_along_10 ic_1 ?_
  refine r_icmp_ne (pc := 11) (tgt := 46) F dX10_along_11 rfl h0 (fun h0 => ?_) (fun h0 => ?_)
  · refine r_iload_n (pc := 14) F dX10_along_14 rfl ?_
    obtain ⟨v2, hv2, h0⟩ := lt_some h0
    have hv2 := hv2.symm
    suffices Jv2 : V Z 45 [(0, .ref ((zg Z).1 42)), (1, .int a1), (2, .int a2), (3, .int v1)] [.int v2] w by
      refine r_if_ge (pc := 15) (tgt := 27) F dX10_along_15 rfl hv2 (fun hv2 => ?_) (fun hv2 => ?_)
      · refine r_iload_n (pc := 27) F dX10_along_27 rfl ?_
        refine r_aload_n (pc := 28) F dX10_along_28 rfl ?_
        refine r_getf (pc := 29) F dX10_along_29 fl_10_88 i68_42 (ce_42 _ _ _) rfl ?_
        refine r_icmp_lt (pc := 32) (tgt := 44) F dX10_along_32 rfl hv2 (fun hv2 => ?_) (fun hv2 => ?_)
        · refine r_iload_n (pc := 44) F dX10_along_44 rfl ?_
          exact V_nm hv2.symm Jv2
        · refine r_iload_n (pc := 35) F dX10_along_35 rfl ?_
          refine r_aload_n (pc := 36) F dX10_along_36 rfl ?_
          refine r_getf (pc := 37) F dX10_along_37 fl_10_88 i68_42 (ce_42 _ _ _) rfl ?_
          refine r_isub (pc := 40) F dX10_along_40 ?_
          refine r_goto (pc := 41) (tgt := 45) F dX10_along_41 rfl ?_
          exact V_nm hv2.symm Jv2
      · refine r_iload_n (pc := 18) F dX10_along_18 rfl ?_
        refine r_aload_n (pc := 19) F dX10_along_19 rfl ?_
        refine r_getf (pc := 20) F dX10_along_20 fl_10_88 i68_42 (ce_42 _ _ _) rfl ?_
        refine r_iadd (pc := 23) F dX10_along_23 ?_
        refine r_goto (pc := 24) (tgt := 45) F dX10_along_24 rfl ?_
        exact V_nm hv2.symm Jv2
    refine r_istore_n (pc := 45) (ls' := [(0, .ref ((zg Z).1 42)), (1, .int a1), (2, .int a2), (3, .int v2)]) F dX10_along_45 (Nat.le_of_ble_eq_true rfl) rfl ?_
    refine V_sub (ls' := [(0, .ref ((zg Z).1 42)), (1, .int a1), (3, .int v2)]) [0, 1, 3] rfl ?_
    exact J46 v2 h0
  · refine V_sub (ls' := [(0, .ref ((zg Z).1 42)), (1, .int a1), (3, .int v1)]) [0, 1, 3] rfl ?_
    exact J46 v1 h0
set_option maxRecDepth 100000 in
set_option maxHeartbeats 4000000 in
theorem kX10_coverer (g : GT) (w : Wd) (a1 : Int32) (a2 : Int32) (out : Int32) (h0 : fX10_coverer w a1 a2 = some out) : CtI g yX10_coverer cX10_coverer 4 (some .int) 2 44 [.ref (g.1 42), .int a1, .int a2] w (fun r w1 => r = out ∧ w1 = w) := by
  refine CtI_of .int (by decide) (Nat.le_of_ble_eq_true rfl) (fun Z hg F hR => ?_)
  subst hg
  have F : Fx Z RX10 cX10_coverer 4 2 44 := F
  refine V_sub (ls' := [(0, .ref ((zg Z).1 42)), (1, .int a1), (2, .int a2)]) [0, 1, 2] rfl ?_
  unfold fX10_coverer at h0
  refine r_aload_n (pc := 0) F dX10_coverer_0 rfl ?_
  refine r_getf (pc := 1) F dX10_coverer_1 fl_10_13 i68_42 (ce_42 _ _ _) rfl ?_
  refine r_iconst (pc := 4) F dX10_coverer_4 ic_0 ?_
  refine r_iald (pc := 5) (j := 0) F dX10_coverer_5 i68_44 (ca_44 _) rfl rfl ?_
  refine r_iconst (pc := 6) F dX10_coverer_6 ic_2 ?_
  obtain ⟨v1, hv1, h0⟩ := lt_some h0
  have hv1 := hv1.symm
  suffices Jv1 : V Z 15 [(0, .ref ((zg Z).1 42)), (1, .int a1), (2, .int a2)] [.int v1] w by
    refine r_icmp_ne (pc := 7) (tgt := 14) F dX10_coverer_7 rfl hv1 (fun hv1 => ?_) (fun hv1 => ?_)
    · refine r_iconst (pc := 10) F dX10_coverer_10 ic_2 ?_
      refine r_goto (pc := 11) (tgt := 15) F dX10_coverer_11 rfl ?_
      exact V_nm hv1.symm Jv1
    · refine r_iconst (pc := 14) F dX10_coverer_14 ic_1 ?_
      exact V_nm hv1.symm Jv1
  refine r_istore_n (pc := 15) (ls' := [(0, .ref ((zg Z).1 42)), (1, .int a1), (2, .int a2), (3, .int v1)]) F dX10_coverer_15 (Nat.le_of_ble_eq_true rfl) rfl ?_
  refine r_aload_n (pc := 16) F dX10_coverer_16 rfl ?_
  refine r_getf (pc := 17) F dX10_coverer_17 fl_10_25 i68_42 (ce_42 _ _ _) rfl ?_
  refine r_iload_n (pc := 20) F dX10_coverer_20 rfl ?_
  obtain ⟨g2, h0⟩ := gd_some h0
  refine r_iald (pc := 21) F dX10_coverer_21 i68_48 (ca_48 _) g2 rfl ?_
  refine r_iconst (pc := 22) F dX10_coverer_22 ic_2 ?_
  refine r_icmp_ne (pc := 23) (tgt := 31) F dX10_coverer_23 rfl h0 (fun h0 => ?_) (fun h0 => ?_)
  · refine r_bipush (pc := 26) F dX10_coverer_26 bp_m9 ?_
    refine r_goto (pc := 28) (tgt := 51) F dX10_coverer_28 rfl ?_
    exact hR _ _ _ _ dX10_coverer_51 rfl ⟨(Option.some.inj h0), rfl⟩
  · refine r_aload_n (pc := 31) F dX10_coverer_31 rfl ?_
    refine r_iload_n (pc := 32) F dX10_coverer_32 rfl ?_
    refine r_aload_n (pc := 33) F dX10_coverer_33 rfl ?_
    refine r_getf (pc := 34) F dX10_coverer_34 fl_10_25 i68_42 (ce_42 _ _ _) rfl ?_
    refine r_iload_n (pc := 37) F dX10_coverer_37 rfl ?_
    refine r_iald (pc := 38) F dX10_coverer_38 i68_48 (ca_48 _) g2 rfl ?_
    obtain ⟨v3, hv3, h0⟩ := lt_some h0
    have hv3 := hv3.symm
    suffices Jv3 : V Z 48 [(0, .ref ((zg Z).1 42)), (1, .int a1), (2, .int a2), (3, .int v1)] [.int v3, .int a1, .ref ((zg Z).1 42)] w by
      refine r_if_ne (pc := 39) (tgt := 47) F dX10_coverer_39 rfl hv3 (fun hv3 => ?_) (fun hv3 => ?_)
      · refine r_iload_n (pc := 42) F dX10_coverer_42 rfl ?_
        refine r_ineg (pc := 43) F dX10_coverer_43 ?_
        refine r_goto (pc := 44) (tgt := 48) F dX10_coverer_44 rfl ?_
        exact V_nm hv3.symm Jv3
      · refine r_iload_n (pc := 47) F dX10_coverer_47 rfl ?_
        exact V_nm hv3.symm Jv3
    refine r_Vi2 (pc := 48) F dX10_coverer_48 ml_10_187 (kX10_along _ w a1 v3 _ rfl) i68_42 (ce_42 _ _ _) (Nat.le_of_ble_eq_true rfl) (Nat.le_of_ble_eq_true rfl) (Nat.le_of_ble_eq_true rfl) ?_
    exact hR _ _ _ _ dX10_coverer_51 rfl ⟨(Option.some.inj h0), rfl⟩
set_option maxRecDepth 100000 in
set_option maxHeartbeats 4000000 in
theorem kX10_coverOf (g : GT) (w : Wd) (a0 : Int32) (out : Int32) (h0 : fX10_coverOf a0 = out) : CtI g yX10_coverOf cX10_coverOf 1 (some .int) 0 0 [.int a0] w (fun r w1 => r = out ∧ w1 = w) := by
  refine CtI_of .int (by decide) (Nat.le_of_ble_eq_true rfl) (fun Z hg F hR => ?_)
  subst hg
  have F : Fx Z RX10 cX10_coverOf 1 0 0 := F
  refine V_sub (ls' := [(0, .int a0)]) [0] rfl ?_
  unfold fX10_coverOf at h0
  refine r_iload_n (pc := 0) F dX10_coverOf_0 rfl ?_
  by_cases c1 : a0 = 2
  · rw [if_pos c1] at h0
    refine r_tsw (pc := 1) (tgt := 36) F dX10_coverOf_1 rfl (by rw [c1]; decide +kernel) ?_
    refine r_iconst (pc := 36) F dX10_coverOf_36 ic_0 ?_
    exact hR _ _ _ _ dX10_coverOf_37 rfl ⟨h0, rfl⟩
  rw [if_neg c1] at h0
  by_cases c2 : a0 = 4
  · rw [if_pos c2] at h0
    refine r_tsw (pc := 1) (tgt := 38) F dX10_coverOf_1 rfl (by rw [c2]; decide +kernel) ?_
    refine r_iconst (pc := 38) F dX10_coverOf_38 ic_3 ?_
    exact hR _ _ _ _ dX10_coverOf_39 rfl ⟨h0, rfl⟩
  rw [if_neg c2] at h0
  by_cases c3 : a0 = 6
  · rw [if_pos c3] at h0
    refine r_tsw (pc := 1) (tgt := 36) F dX10_coverOf_1 rfl (by rw [c3]; decide +kernel) ?_
    refine r_iconst (pc := 36) F dX10_coverOf_36 ic_0 ?_
    exact hR _ _ _ _ dX10_coverOf_37 rfl ⟨h0, rfl⟩
  rw [if_neg c3] at h0
  refine r_tsw (pc := 1) (tgt := 40) F dX10_coverOf_1 rfl (tsw_out (ks := [2, 4, 6]) rfl rfl (by decide +kernel) (List.forall_mem_cons.mpr ⟨sw_ne rfl c1, List.forall_mem_cons.mpr ⟨sw_ne rfl c2, List.forall_mem_cons.mpr ⟨sw_ne rfl c3, fun _ h => absurd h List.not_mem_nil⟩⟩⟩)) ?_
  refine r_iconst (pc := 40) F dX10_coverOf_40 ic_1 ?_
  exact hR _ _ _ _ dX10_coverOf_41 rfl ⟨h0, rfl⟩
set_option maxRecDepth 100000 in
set_option maxHeartbeats 4000000 in
theorem kX10_feltBy (g : GT) (w : Wd) (a1 : Int32) (a2 : Int32) (out : Int32) (h0 : fX10_feltBy w a1 a2 = some out) : CtI g yX10_feltBy cX10_feltBy 5 (some .int) 3 67 [.ref (g.1 42), .int a1, .int a2] w (fun r w1 => r = out ∧ w1 = w) := by
  refine CtI_of .int (by decide) (Nat.le_of_ble_eq_true rfl) (fun Z hg F hR => ?_)
  subst hg
  have F : Fx Z RX10 cX10_feltBy 5 3 67 := F
  refine V_sub (ls' := [(0, .ref ((zg Z).1 42)), (1, .int a1), (2, .int a2)]) [0, 1, 2] rfl ?_
  unfold fX10_feltBy at h0
  refine r_aload_n (pc := 0) F dX10_feltBy_0 rfl ?_
  refine r_iload_n (pc := 1) F dX10_feltBy_1 rfl ?_
  refine r_iload_n (pc := 2) F dX10_feltBy_2 rfl ?_
  obtain ⟨r1, er1, h0⟩ := bind_some h0
  refine r_Vi2 (pc := 3) F dX10_feltBy_3 ml_10_191 (kX10_coverer _ w a1 a2 r1 er1) i68_42 (ce_42 _ _ _) (Nat.le_of_ble_eq_true rfl) (Nat.le_of_ble_eq_true rfl) (Nat.le_of_ble_eq_true rfl) ?_
  refine r_istore_n (pc := 6) (ls' := [(0, .ref ((zg Z).1 42)), (1, .int a1), (2, .int a2), (3, .int r1)]) F dX10_feltBy_6 (Nat.le_of_ble_eq_true rfl) rfl ?_
  refine r_aload_n (pc := 7) F dX10_feltBy_7 rfl ?_
  refine r_getf (pc := 8) F dX10_feltBy_8 fl_10_22 i68_42 (ce_42 _ _ _) rfl ?_
  refine r_iload_n (pc := 11) F dX10_feltBy_11 rfl ?_
  obtain ⟨g2, h0⟩ := gd_some h0
  refine r_iald (pc := 12) F dX10_feltBy_12 i68_47 (ca_47 _) g2 rfl ?_
  refine r_iload_n (pc := 13) F dX10_feltBy_13 rfl ?_
  obtain ⟨v4, hv4, h0⟩ := bind_some h0
  suffices Jv4 : V Z 30 [(0, .ref ((zg Z).1 42)), (1, .int a1), (2, .int a2), (3, .int r1)] [.int v4, .int (w.1 47 a2.toNatClampNeg)] w by
    refine r_if_ge (pc := 14) (tgt := 21) F dX10_feltBy_14 rfl hv4 (fun hv4 => ?_) (fun hv4 => ?_)
    · refine r_aload_n (pc := 21) F dX10_feltBy_21 rfl ?_
      refine r_getf (pc := 22) F dX10_feltBy_22 fl_10_16 i68_42 (ce_42 _ _ _) rfl ?_
      refine r_iload_n (pc := 25) F dX10_feltBy_25 rfl ?_
      obtain ⟨g5, hv4⟩ := gd_some hv4
      refine r_iald (pc := 26) F dX10_feltBy_26 i68_45 (ca_45 _) g5 rfl ?_
      refine r_Si1 (pc := 27) F dX10_feltBy_27 ml_10_194 (kX10_coverOf _ w (w.1 45 r1.toNatClampNeg) _ rfl) (Nat.le_of_ble_eq_true rfl) (Nat.le_of_ble_eq_true rfl) (Nat.le_of_ble_eq_true rfl) ?_
      exact V_nm (Option.some.inj hv4).symm Jv4
    · refine r_iconst (pc := 17) F dX10_feltBy_17 ic_0 ?_
      refine r_goto (pc := 18) (tgt := 30) F dX10_feltBy_18 rfl ?_
      exact V_nm (Option.some.inj hv4).symm Jv4
  refine r_isub (pc := 30) F dX10_feltBy_30 ?_
  obtain ⟨v6, ev6, h0⟩ := lt_some h0
  refine V_nm ev6 ?_
  refine r_istore (pc := 31) (ls' := [(0, .ref ((zg Z).1 42)), (1, .int a1), (2, .int a2), (3, .int r1), (4, .int v6)]) F dX10_feltBy_31 (Nat.le_of_ble_eq_true rfl) rfl ?_
  refine r_iload (pc := 33) F dX10_feltBy_33 rfl ?_
  refine r_if_ge (pc := 35) (tgt := 42) F dX10_feltBy_35 rfl h0 (fun h0 => ?_) (fun h0 => ?_)
  · refine r_iload (pc := 42) F dX10_feltBy_42 rfl ?_
    exact hR _ _ _ _ dX10_feltBy_44 rfl ⟨(Option.some.inj h0), rfl⟩
  · refine r_iconst (pc := 38) F dX10_feltBy_38 ic_0 ?_
    refine r_goto (pc := 39) (tgt := 44) F dX10_feltBy_39 rfl ?_
    exact hR _ _ _ _ dX10_feltBy_44 rfl ⟨(Option.some.inj h0), rfl⟩
set_option maxRecDepth 100000 in
set_option maxHeartbeats 4000000 in
theorem kX10_holdsOf (g : GT) (w : Wd) (a0 : Int32) (a1 : Int32) (out : Int32) (h0 : fX10_holdsOf a0 a1 = out) : CtI g yX10_holdsOf cX10_holdsOf 3 (some .int) 0 0 [.int a0, .int a1] w (fun r w1 => r = out ∧ w1 = w) := by
  refine CtI_of .int (by decide) (Nat.le_of_ble_eq_true rfl) (fun Z hg F hR => ?_)
  subst hg
  have F : Fx Z RX10 cX10_holdsOf 3 0 0 := F
  refine V_sub (ls' := [(0, .int a0), (1, .int a1)]) [0, 1] rfl ?_
  unfold fX10_holdsOf at h0
  refine r_iconst (pc := 0) F dX10_holdsOf_0 ic_3 ?_
  refine r_iload_n (pc := 1) F dX10_holdsOf_1 rfl ?_
  refine r_iconst (pc := 2) F dX10_holdsOf_2 ic_3 ?_
  refine r_idiv (pc := 3) F dX10_holdsOf_3 (by decide) ?_
  refine r_iadd (pc := 4) F dX10_holdsOf_4 ?_
  obtain ⟨v1, ev1, h0⟩ := lt_some h0
  refine V_nm ev1 ?_
  refine r_istore_n (pc := 5) (ls' := [(0, .int a0), (1, .int a1), (2, .int v1)]) F dX10_holdsOf_5 (Nat.le_of_ble_eq_true rfl) rfl ?_
  refine r_iload_n (pc := 6) F dX10_holdsOf_6 rfl ?_
  by_cases c2 : a0 = 1
  · rw [if_pos c2] at h0
    refine r_tsw (pc := 7) (tgt := 44) F dX10_holdsOf_7 rfl (by rw [c2]; decide +kernel) ?_
    refine r_iload_n (pc := 44) F dX10_holdsOf_44 rfl ?_
    refine r_iconst (pc := 45) F dX10_holdsOf_45 ic_2 ?_
    refine r_iadd (pc := 46) F dX10_holdsOf_46 ?_
    exact hR _ _ _ _ dX10_holdsOf_47 rfl ⟨h0, rfl⟩
  rw [if_neg c2] at h0
  by_cases c3 : a0 = 2
  · rw [if_pos c3] at h0
    refine r_tsw (pc := 7) (tgt := 48) F dX10_holdsOf_7 rfl (by rw [c3]; decide +kernel) ?_
    refine r_iload_n (pc := 48) F dX10_holdsOf_48 rfl ?_
    refine r_iconst (pc := 49) F dX10_holdsOf_49 ic_1 ?_
    refine r_iadd (pc := 50) F dX10_holdsOf_50 ?_
    exact hR _ _ _ _ dX10_holdsOf_51 rfl ⟨h0, rfl⟩
  rw [if_neg c3] at h0
  by_cases c4 : a0 = 3
  · rw [if_pos c4] at h0
    refine r_tsw (pc := 7) (tgt := 52) F dX10_holdsOf_7 rfl (by rw [c4]; decide +kernel) ?_
    refine r_bipush (pc := 52) F dX10_holdsOf_52 bp_99 ?_
    exact hR _ _ _ _ dX10_holdsOf_54 rfl ⟨h0, rfl⟩
  rw [if_neg c4] at h0
  by_cases c5 : a0 = 4
  · rw [if_pos c5] at h0
    refine r_tsw (pc := 7) (tgt := 55) F dX10_holdsOf_7 rfl (by rw [c5]; decide +kernel) ?_
    refine r_iload_n (pc := 55) F dX10_holdsOf_55 rfl ?_
    refine r_iconst (pc := 56) F dX10_holdsOf_56 ic_1 ?_
    refine r_isub (pc := 57) F dX10_holdsOf_57 ?_
    exact hR _ _ _ _ dX10_holdsOf_58 rfl ⟨h0, rfl⟩
  rw [if_neg c5] at h0
  by_cases c6 : a0 = 5
  · rw [if_pos c6] at h0
    refine r_tsw (pc := 7) (tgt := 59) F dX10_holdsOf_7 rfl (by rw [c6]; decide +kernel) ?_
    refine r_iload_n (pc := 59) F dX10_holdsOf_59 rfl ?_
    refine r_iconst (pc := 60) F dX10_holdsOf_60 ic_1 ?_
    refine r_iadd (pc := 61) F dX10_holdsOf_61 ?_
    refine r_iload_n (pc := 62) F dX10_holdsOf_62 rfl ?_
    refine r_iconst (pc := 63) F dX10_holdsOf_63 ic_2 ?_
    refine r_idiv (pc := 64) F dX10_holdsOf_64 (by decide) ?_
    refine r_iadd (pc := 65) F dX10_holdsOf_65 ?_
    exact hR _ _ _ _ dX10_holdsOf_66 rfl ⟨h0, rfl⟩
  rw [if_neg c6] at h0
  by_cases c7 : a0 = 6
  · rw [if_pos c7] at h0
    refine r_tsw (pc := 7) (tgt := 48) F dX10_holdsOf_7 rfl (by rw [c7]; decide +kernel) ?_
    refine r_iload_n (pc := 48) F dX10_holdsOf_48 rfl ?_
    refine r_iconst (pc := 49) F dX10_holdsOf_49 ic_1 ?_
    refine r_iadd (pc := 50) F dX10_holdsOf_50 ?_
    exact hR _ _ _ _ dX10_holdsOf_51 rfl ⟨h0, rfl⟩
  rw [if_neg c7] at h0
  refine r_tsw (pc := 7) (tgt := 67) F dX10_holdsOf_7 rfl (tsw_out (ks := [1, 2, 3, 4, 5, 6]) rfl rfl (by decide +kernel) (List.forall_mem_cons.mpr ⟨sw_ne rfl c2, List.forall_mem_cons.mpr ⟨sw_ne rfl c3, List.forall_mem_cons.mpr ⟨sw_ne rfl c4, List.forall_mem_cons.mpr ⟨sw_ne rfl c5, List.forall_mem_cons.mpr ⟨sw_ne rfl c6, List.forall_mem_cons.mpr ⟨sw_ne rfl c7, fun _ h => absurd h List.not_mem_nil⟩⟩⟩⟩⟩⟩)) ?_
  refine r_iload_n (pc := 67) F dX10_holdsOf_67 rfl ?_
  exact hR _ _ _ _ dX10_holdsOf_68 rfl ⟨h0, rfl⟩
set_option maxRecDepth 100000 in
set_option maxHeartbeats 4000000 in
theorem kX10_holds (g : GT) (w : Wd) (a1 : Int32) (out : Int32) (h0 : fX10_holds w a1 = some out) : CtI g yX10_holds cX10_holds 2 (some .boolean) 4 91 [.ref (g.1 42), .int a1] w (fun r w1 => r = out ∧ w1 = w) := by
  refine CtI_of .boolean (by decide) (Nat.le_of_ble_eq_true rfl) (fun Z hg F hR => ?_)
  subst hg
  have F : Fx Z RX10 cX10_holds 2 4 91 := F
  refine V_sub (ls' := [(0, .ref ((zg Z).1 42)), (1, .int a1)]) [0, 1] rfl ?_
  unfold fX10_holds at h0
  refine r_aload_n (pc := 0) F dX10_holds_0 rfl ?_
  refine r_iload_n (pc := 1) F dX10_holds_1 rfl ?_
  refine r_aload_n (pc := 2) F dX10_holds_2 rfl ?_
  refine r_getf (pc := 3) F dX10_holds_3 fl_10_127 i68_42 (ce_42 _ _ _) rfl ?_
  obtain ⟨r1, er1, h0⟩ := bind_some h0
  refine r_Vi2 (pc := 6) F dX10_holds_6 ml_10_197 (kX10_feltBy _ w a1 (w.1 42 8) r1 er1) i68_42 (ce_42 _ _ _) (Nat.le_of_ble_eq_true rfl) (Nat.le_of_ble_eq_true rfl) (Nat.le_of_ble_eq_true rfl) ?_
  refine r_aload_n (pc := 9) F dX10_holds_9 rfl ?_
  refine r_getf (pc := 10) F dX10_holds_10 fl_10_16 i68_42 (ce_42 _ _ _) rfl ?_
  refine r_iload_n (pc := 13) F dX10_holds_13 rfl ?_
  obtain ⟨g2, h0⟩ := gd_some h0
  refine r_iald (pc := 14) F dX10_holds_14 i68_45 (ca_45 _) g2 rfl ?_
  refine r_aload_n (pc := 15) F dX10_holds_15 rfl ?_
  refine r_getf (pc := 16) F dX10_holds_16 fl_10_19 i68_42 (ce_42 _ _ _) rfl ?_
  refine r_iload_n (pc := 19) F dX10_holds_19 rfl ?_
  refine r_iald (pc := 20) F dX10_holds_20 i68_46 (ca_46 _) g2 rfl ?_
  refine r_Si2 (pc := 21) F dX10_holds_21 ml_10_200 (kX10_holdsOf _ w (w.1 45 a1.toNatClampNeg) (w.1 46 a1.toNatClampNeg) _ rfl) (Nat.le_of_ble_eq_true rfl) (Nat.le_of_ble_eq_true rfl) (Nat.le_of_ble_eq_true rfl) ?_
  refine r_icmp_gt (pc := 24) (tgt := 31) F dX10_holds_24 rfl h0 (fun h0 => ?_) (fun h0 => ?_)
  · refine r_iconst (pc := 31) F dX10_holds_31 ic_0 ?_
    exact hR _ _ _ _ dX10_holds_32 rfl ⟨(Option.some.inj h0), rfl⟩
  · refine r_iconst (pc := 27) F dX10_holds_27 ic_1 ?_
    refine r_goto (pc := 28) (tgt := 32) F dX10_holds_28 rfl ?_
    exact hR _ _ _ _ dX10_holds_32 rfl ⟨(Option.some.inj h0), rfl⟩
set_option maxRecDepth 100000 in
set_option maxHeartbeats 4000000 in
theorem kX10_holding (g : GT) (w : Wd) (out : Int32) (h0 : fX10_holding w = some out) : CtI g yX10_holding cX10_holding 3 (some .int) 5 112 [.ref (g.1 42)] w (fun r w1 => r = out ∧ w1 = w) := by
  refine CtI_of .int (by decide) (Nat.le_of_ble_eq_true rfl) (fun Z hg F hR => ?_)
  subst hg
  have F : Fx Z RX10 cX10_holding 3 5 112 := F
  refine V_sub (ls' := [(0, .ref ((zg Z).1 42))]) [0] rfl ?_
  unfold fX10_holding at h0
  refine r_iconst (pc := 0) F dX10_holding_0 ic_0 ?_
  refine r_istore_n (pc := 1) (ls' := [(0, .ref ((zg Z).1 42)), (1, .int 0)]) F dX10_holding_1 (Nat.le_of_ble_eq_true rfl) rfl ?_
  refine r_iconst (pc := 2) F dX10_holding_2 ic_0 ?_
  refine r_istore_n (pc := 3) (ls' := [(0, .ref ((zg Z).1 42)), (1, .int 0), (2, .int 0)]) F dX10_holding_3 (Nat.le_of_ble_eq_true rfl) rfl ?_
  obtain ⟨l12, il12, h0⟩ := bind_some h0
  suffices E4 : V Z 47 [(1, .int l12)] [] w by
    refine iter_rule (P := fun s : Int32 × Int32 => V Z 4 [(0, .ref ((zg Z).1 42)), (1, .int (s.1)), (2, .int (s.2))] [] w) (x := l12) ?_ FU (0, 0) il12
    intro s y1 h1 hP1 hX1
    obtain ⟨l1, l2⟩ := s
    have h1 : fX10_holding_b4 w l1 l2 = some y1 := h1
    unfold fX10_holding_b4 at h1
    refine r_iload_n (pc := 4) F dX10_holding_4 rfl ?_
    refine r_aload_n (pc := 5) F dX10_holding_5 rfl ?_
    refine r_getf (pc := 6) F dX10_holding_6 fl_10_88 i68_42 (ce_42 _ _ _) rfl ?_
    refine r_icmp_ge (pc := 9) (tgt := 47) F dX10_holding_9 rfl h1 (fun h1 => ?_) (fun h1 => ?_)
    · refine V_sub (ls' := [(1, .int l1)]) [1] rfl ?_
      have e3 := hX1 _ (Option.some.inj h1).symm
      cases e3
      exact E4
    · refine r_iload_n (pc := 12) F dX10_holding_12 rfl ?_
      refine r_aload_n (pc := 13) F dX10_holding_13 rfl ?_
      refine r_getf (pc := 14) F dX10_holding_14 fl_10_124 i68_42 (ce_42 _ _ _) rfl ?_
      refine r_iload_n (pc := 17) F dX10_holding_17 rfl ?_
      refine r_Si2 (pc := 18) F dX10_holding_18 ml_10_147 (kX10_has _ w (w.1 42 7) l2 _ rfl) (Nat.le_of_ble_eq_true rfl) (Nat.le_of_ble_eq_true rfl) (Nat.le_of_ble_eq_true rfl) ?_
      obtain ⟨v5, hv5, h1⟩ := bind_some h1
      suffices Jv5 : V Z 39 [(0, .ref ((zg Z).1 42)), (1, .int l1), (2, .int l2)] [.int v5, .int l1] w by
        refine r_if_eq (pc := 21) (tgt := 38) F dX10_holding_21 rfl hv5 (fun hv5 => ?_) (fun hv5 => ?_)
        · refine r_iconst (pc := 38) F dX10_holding_38 ic_0 ?_
          exact V_nm (Option.some.inj hv5).symm Jv5
        · refine r_aload_n (pc := 24) F dX10_holding_24 rfl ?_
          refine r_iload_n (pc := 25) F dX10_holding_25 rfl ?_
          obtain ⟨r6, er6, hv5⟩ := bind_some hv5
          refine r_Vi1 (pc := 26) F dX10_holding_26 ml_10_203 (kX10_holds _ w l2 r6 er6) i68_42 (ce_42 _ _ _) (Nat.le_of_ble_eq_true rfl) (Nat.le_of_ble_eq_true rfl) (Nat.le_of_ble_eq_true rfl) ?_
          refine r_if_eq (pc := 29) (tgt := 38) F dX10_holding_29 rfl hv5 (fun hv5 => ?_) (fun hv5 => ?_)
          · refine r_iconst (pc := 38) F dX10_holding_38 ic_0 ?_
            exact V_nm (Option.some.inj hv5).symm Jv5
          · refine r_iconst (pc := 32) F dX10_holding_32 ic_1 ?_
            refine r_iload_n (pc := 33) F dX10_holding_33 rfl ?_
            refine r_ishl (pc := 34) F dX10_holding_34 ?_
            refine r_goto (pc := 35) (tgt := 39) F dX10_holding_35 rfl ?_
            exact V_nm (Option.some.inj hv5).symm Jv5
      refine r_ior (pc := 39) F dX10_holding_39 ?_
      obtain ⟨v8, ev8, h1⟩ := lt_some h1
      refine V_nm ev8 ?_
      refine r_istore_n (pc := 40) (ls' := [(0, .ref ((zg Z).1 42)), (1, .int v8), (2, .int l2)]) F dX10_holding_40 (Nat.le_of_ble_eq_true rfl) rfl ?_
      obtain ⟨v9, ev9, h1⟩ := lt_some h1
      refine r_iinc (pc := 41) (ls' := [(0, .ref ((zg Z).1 42)), (1, .int v8), (2, .int v9)]) F dX10_holding_41 rfl (by rw [ev9]; rfl) (Nat.le_of_ble_eq_true rfl) rfl ?_
      refine r_goto (pc := 44) (tgt := 4) F dX10_holding_44 rfl ?_
      exact hP1 (v8, v9) (Option.some.inj h1).symm
  refine r_iload_n (pc := 47) F dX10_holding_47 rfl ?_
  exact hR _ _ _ _ dX10_holding_48 rfl ⟨(Option.some.inj h0), rfl⟩
set_option maxRecDepth 100000 in
set_option maxHeartbeats 4000000 in
theorem kX10_bit (g : GT) (w : Wd) (a0 : Int32) (out : Int32) (h0 : fX10_bit a0 = out) : CtI g yX10_bit cX10_bit 1 (some .int) 0 0 [.int a0] w (fun r w1 => r = out ∧ w1 = w) := by
  refine CtI_of .int (by decide) (Nat.le_of_ble_eq_true rfl) (fun Z hg F hR => ?_)
  subst hg
  have F : Fx Z RX10 cX10_bit 1 0 0 := F
  refine V_sub (ls' := [(0, .int a0)]) [0] rfl ?_
  unfold fX10_bit at h0
  refine r_iload_n (pc := 0) F dX10_bit_0 rfl ?_
  refine r_if_ge (pc := 1) (tgt := 8) F dX10_bit_1 rfl h0 (fun h0 => ?_) (fun h0 => ?_)
  · refine r_iconst (pc := 8) F dX10_bit_8 ic_1 ?_
    refine r_iload_n (pc := 9) F dX10_bit_9 rfl ?_
    refine r_ishl (pc := 10) F dX10_bit_10 ?_
    exact hR _ _ _ _ dX10_bit_11 rfl ⟨h0, rfl⟩
  · refine r_iconst (pc := 4) F dX10_bit_4 ic_0 ?_
    refine r_goto (pc := 5) (tgt := 11) F dX10_bit_5 rfl ?_
    exact hR _ _ _ _ dX10_bit_11 rfl ⟨h0, rfl⟩
set_option maxRecDepth 100000 in
set_option maxHeartbeats 4000000 in
theorem kX10_besideBits (g : GT) (w : Wd) (a1 : Int32) (out : Int32) (h0 : fX10_besideBits w a1 = out) : CtI g yX10_besideBits cX10_besideBits 2 (some .int) 2 44 [.ref (g.1 42), .int a1] w (fun r w1 => r = out ∧ w1 = w) := by
  refine CtI_of .int (by decide) (Nat.le_of_ble_eq_true rfl) (fun Z hg F hR => ?_)
  subst hg
  have F : Fx Z RX10 cX10_besideBits 2 2 44 := F
  refine V_sub (ls' := [(0, .ref ((zg Z).1 42)), (1, .int a1)]) [0, 1] rfl ?_
  unfold fX10_besideBits at h0
  refine r_aload_n (pc := 0) F dX10_besideBits_0 rfl ?_
  refine r_getf (pc := 1) F dX10_besideBits_1 fl_10_13 i68_42 (ce_42 _ _ _) rfl ?_
  refine r_iconst (pc := 4) F dX10_besideBits_4 ic_0 ?_
  refine r_iald (pc := 5) (j := 0) F dX10_besideBits_5 i68_44 (ca_44 _) rfl rfl ?_
  refine r_iconst (pc := 6) F dX10_besideBits_6 ic_2 ?_
  refine r_icmp_ne (pc := 7) (tgt := 53) F dX10_besideBits_7 rfl h0 (fun h0 => ?_) (fun h0 => ?_)
  · refine r_aload_n (pc := 10) F dX10_besideBits_10 rfl ?_
    refine r_iload_n (pc := 11) F dX10_besideBits_11 rfl ?_
    refine r_iconst (pc := 12) F dX10_besideBits_12 ic_1 ?_
    refine r_ixor (pc := 13) F dX10_besideBits_13 ?_
    refine r_Vi1 (pc := 14) F dX10_besideBits_14 ml_10_144 (kX10_isPerson _ w (a1 ^^^ 1) _ rfl) i68_42 (ce_42 _ _ _) (Nat.le_of_ble_eq_true rfl) (Nat.le_of_ble_eq_true rfl) (Nat.le_of_ble_eq_true rfl) ?_
    obtain ⟨v1, hv1, h0⟩ := lt_some h0
    have hv1 := hv1.symm
    suffices Jv1 : V Z 28 [(0, .ref ((zg Z).1 42)), (1, .int a1)] [.int v1] w by
      refine r_if_eq (pc := 17) (tgt := 26) F dX10_besideBits_17 rfl hv1 (fun hv1 => ?_) (fun hv1 => ?_)
      · refine r_bipush (pc := 26) F dX10_besideBits_26 bp_m9 ?_
        exact V_nm hv1.symm Jv1
      · refine r_iload_n (pc := 20) F dX10_besideBits_20 rfl ?_
        refine r_iconst (pc := 21) F dX10_besideBits_21 ic_1 ?_
        refine r_ixor (pc := 22) F dX10_besideBits_22 ?_
        refine r_goto (pc := 23) (tgt := 28) F dX10_besideBits_23 rfl ?_
        exact V_nm hv1.symm Jv1
    refine r_Si1 (pc := 28) F dX10_besideBits_28 ml_10_184 (kX10_bit _ w v1 _ rfl) (Nat.le_of_ble_eq_true rfl) (Nat.le_of_ble_eq_true rfl) (Nat.le_of_ble_eq_true rfl) ?_
    refine r_aload_n (pc := 31) F dX10_besideBits_31 rfl ?_
    refine r_iload_n (pc := 32) F dX10_besideBits_32 rfl ?_
    refine r_bipush (pc := 33) F dX10_besideBits_33 bp_m2 ?_
    refine r_Vi2 (pc := 35) F dX10_besideBits_35 ml_10_187 (kX10_along _ w a1 (-2) _ rfl) i68_42 (ce_42 _ _ _) (Nat.le_of_ble_eq_true rfl) (Nat.le_of_ble_eq_true rfl) (Nat.le_of_ble_eq_true rfl) ?_
    refine r_Si1 (pc := 38) F dX10_besideBits_38 ml_10_184 (kX10_bit _ w (fX10_along w a1 (-2)) _ rfl) (Nat.le_of_ble_eq_true rfl) (Nat.le_of_ble_eq_true rfl) (Nat.le_of_ble_eq_true rfl) ?_
    refine r_ior (pc := 41) F dX10_besideBits_41 ?_
    refine r_aload_n (pc := 42) F dX10_besideBits_42 rfl ?_
    refine r_iload_n (pc := 43) F dX10_besideBits_43 rfl ?_
    refine r_iconst (pc := 44) F dX10_besideBits_44 ic_2 ?_
    refine r_Vi2 (pc := 45) F dX10_besideBits_45 ml_10_187 (kX10_along _ w a1 2 _ rfl) i68_42 (ce_42 _ _ _) (Nat.le_of_ble_eq_true rfl) (Nat.le_of_ble_eq_true rfl) (Nat.le_of_ble_eq_true rfl) ?_
    refine r_Si1 (pc := 48) F dX10_besideBits_48 ml_10_184 (kX10_bit _ w (fX10_along w a1 2) _ rfl) (Nat.le_of_ble_eq_true rfl) (Nat.le_of_ble_eq_true rfl) (Nat.le_of_ble_eq_true rfl) ?_
    refine r_ior (pc := 51) F dX10_besideBits_51 ?_
    exact hR _ _ _ _ dX10_besideBits_52 rfl ⟨h0, rfl⟩
  · refine r_aload_n (pc := 53) F dX10_besideBits_53 rfl ?_
    refine r_iload_n (pc := 54) F dX10_besideBits_54 rfl ?_
    refine r_iconst (pc := 55) F dX10_besideBits_55 ic_m1 ?_
    refine r_Vi2 (pc := 56) F dX10_besideBits_56 ml_10_187 (kX10_along _ w a1 (-1) _ rfl) i68_42 (ce_42 _ _ _) (Nat.le_of_ble_eq_true rfl) (Nat.le_of_ble_eq_true rfl) (Nat.le_of_ble_eq_true rfl) ?_
    refine r_Si1 (pc := 59) F dX10_besideBits_59 ml_10_184 (kX10_bit _ w (fX10_along w a1 (-1)) _ rfl) (Nat.le_of_ble_eq_true rfl) (Nat.le_of_ble_eq_true rfl) (Nat.le_of_ble_eq_true rfl) ?_
    refine r_aload_n (pc := 62) F dX10_besideBits_62 rfl ?_
    refine r_iload_n (pc := 63) F dX10_besideBits_63 rfl ?_
    refine r_iconst (pc := 64) F dX10_besideBits_64 ic_1 ?_
    refine r_Vi2 (pc := 65) F dX10_besideBits_65 ml_10_187 (kX10_along _ w a1 1 _ rfl) i68_42 (ce_42 _ _ _) (Nat.le_of_ble_eq_true rfl) (Nat.le_of_ble_eq_true rfl) (Nat.le_of_ble_eq_true rfl) ?_
    refine r_Si1 (pc := 68) F dX10_besideBits_68 ml_10_184 (kX10_bit _ w (fX10_along w a1 1) _ rfl) (Nat.le_of_ble_eq_true rfl) (Nat.le_of_ble_eq_true rfl) (Nat.le_of_ble_eq_true rfl) ?_
    refine r_ior (pc := 71) F dX10_besideBits_71 ?_
    exact hR _ _ _ _ dX10_besideBits_72 rfl ⟨h0, rfl⟩
set_option maxRecDepth 100000 in
set_option maxHeartbeats 4000000 in
theorem kX10_spread (g : GT) (w : Wd) (a1 : Int32) (out : Int32 × Wd) (h0 : fX10_spread w a1 = some out) : CtI g yX10_spread cX10_spread 7 (some .int) 3 65 [.ref (g.1 42), .int a1] w (fun r w1 => (r, w1) = out) := by
  refine CtI_of .int (by decide) (Nat.le_of_ble_eq_true rfl) (fun Z hg F hR => ?_)
  subst hg
  have F : Fx Z RX10 cX10_spread 7 3 65 := F
  refine V_sub (ls' := [(0, .ref ((zg Z).1 42)), (1, .int a1)]) [0, 1] rfl ?_
  unfold fX10_spread at h0
  refine r_iload_n (pc := 0) F dX10_spread_0 rfl ?_
  refine r_istore_n (pc := 1) (ls' := [(0, .ref ((zg Z).1 42)), (1, .int a1), (2, .int a1)]) F dX10_spread_1 (Nat.le_of_ble_eq_true rfl) rfl ?_
  refine r_iconst (pc := 2) F dX10_spread_2 ic_0 ?_
  refine r_istore_n (pc := 3) (ls' := [(0, .ref ((zg Z).1 42)), (1, .int a1), (2, .int a1), (3, .int 0)]) F dX10_spread_3 (Nat.le_of_ble_eq_true rfl) rfl ?_
  obtain ⟨x38, ix38, h0⟩ := bind_some h0
  replace h0 := un2_eq h0
  obtain ⟨l39, w40, rfl, h0⟩ := h0
  suffices E4 : V Z 143 [(2, .int l39)] [] w40 by
    refine iter_rule (P := fun s : Int32 × Int32 × Wd => V Z 4 [(0, .ref ((zg Z).1 42)), (1, .int a1), (2, .int (s.1)), (3, .int (s.2.1))] [] s.2.2) (x := (l39, w40)) ?_ FU (a1, 0, w) ix38
    intro s y1 h1 hP1 hX1
    obtain ⟨l1, l2, w3⟩ := s
    have h1 : fX10_spread_b4 a1 l1 l2 w3 = some y1 := h1
    unfold fX10_spread_b4 at h1
    refine r_iload_n (pc := 4) F dX10_spread_4 rfl ?_
    refine r_aload_n (pc := 5) F dX10_spread_5 rfl ?_
    refine r_getf (pc := 6) F dX10_spread_6 fl_10_88 i68_42 (ce_42 _ _ _) rfl ?_
    refine r_icmp_ge (pc := 9) (tgt := 143) F dX10_spread_9 rfl h1 (fun h1 => ?_) (fun h1 => ?_)
    · refine V_sub (ls' := [(2, .int l1)]) [2] rfl ?_
      have e4 := hX1 _ (Option.some.inj h1).symm
      cases e4
      exact E4
    · refine r_iload_n (pc := 12) F dX10_spread_12 rfl ?_
      refine r_iload_n (pc := 13) F dX10_spread_13 rfl ?_
      refine r_Si2 (pc := 14) F dX10_spread_14 ml_10_147 (kX10_has _ w3 a1 l2 _ rfl) (Nat.le_of_ble_eq_true rfl) (Nat.le_of_ble_eq_true rfl) (Nat.le_of_ble_eq_true rfl) ?_
      obtain ⟨v5, hv5, h1⟩ := lt_some h1
      have hv5 := hv5.symm
      suffices Jv5 : V Z 30 [(0, .ref ((zg Z).1 42)), (1, .int a1), (2, .int l1), (3, .int l2)] [.int v5] w3 by
        refine r_if_eq (pc := 17) (tgt := 29) F dX10_spread_17 rfl hv5 (fun hv5 => ?_) (fun hv5 => ?_)
        · refine r_iconst (pc := 29) F dX10_spread_29 ic_0 ?_
          exact V_nm hv5.symm Jv5
        · refine r_aload_n (pc := 20) F dX10_spread_20 rfl ?_
          refine r_getf (pc := 21) F dX10_spread_21 fl_10_13 i68_42 (ce_42 _ _ _) rfl ?_
          refine r_iconst (pc := 24) F dX10_spread_24 ic_1 ?_
          refine r_iald (pc := 25) (j := 1) F dX10_spread_25 i68_44 (ca_44 _) rfl rfl ?_
          refine r_goto (pc := 26) (tgt := 30) F dX10_spread_26 rfl ?_
          exact V_nm hv5.symm Jv5
      refine r_istore (pc := 30) (ls' := [(0, .ref ((zg Z).1 42)), (1, .int a1), (2, .int l1), (3, .int l2), (4, .int v5)]) F dX10_spread_30 (Nat.le_of_ble_eq_true rfl) rfl ?_
      refine r_aload_n (pc := 32) F dX10_spread_32 rfl ?_
      refine r_iload_n (pc := 33) F dX10_spread_33 rfl ?_
      refine r_Vi1 (pc := 34) F dX10_spread_34 ml_10_206 (kX10_besideBits _ w3 l2 _ rfl) i68_42 (ce_42 _ _ _) (Nat.le_of_ble_eq_true rfl) (Nat.le_of_ble_eq_true rfl) (Nat.le_of_ble_eq_true rfl) ?_
      obtain ⟨v6, ev6, h1⟩ := lt_some h1
      refine V_nm ev6 ?_
      refine r_istore (pc := 37) (ls' := [(0, .ref ((zg Z).1 42)), (1, .int a1), (2, .int l1), (3, .int l2), (4, .int v5), (5, .int v6)]) F dX10_spread_37 (Nat.le_of_ble_eq_true rfl) rfl ?_
      refine r_iconst (pc := 39) F dX10_spread_39 ic_0 ?_
      refine r_istore (pc := 40) (ls' := [(0, .ref ((zg Z).1 42)), (1, .int a1), (2, .int l1), (3, .int l2), (4, .int v5), (5, .int v6), (6, .int 0)]) F dX10_spread_40 (Nat.le_of_ble_eq_true rfl) rfl ?_
      obtain ⟨x32, ix32, h1⟩ := bind_some h1
      replace h1 := un2_eq h1
      obtain ⟨l33, w34, rfl, h1⟩ := h1
      suffices E42 : V Z 137 [(0, .ref ((zg Z).1 42)), (1, .int a1), (2, .int l33), (3, .int l2)] [] w34 by
        refine iter_rule (P := fun s : Int32 × Int32 × Int32 × Wd => V Z 42 [(0, .ref ((zg Z).1 42)), (1, .int a1), (2, .int (s.1)), (3, .int l2), (4, .int (s.2.1)), (5, .int v6), (6, .int (s.2.2.1))] [] s.2.2.2) (x := (l33, w34)) ?_ FU (l1, v5, 0, w3) ix32
        intro s y2 h2 hP2 hX2
        obtain ⟨l7, l8, l9, w10⟩ := s
        have h2 : fX10_spread_b42 v6 l2 l7 l8 l9 w10 = some y2 := h2
        unfold fX10_spread_b42 at h2
        refine r_iload (pc := 42) F dX10_spread_42 rfl ?_
        refine r_aload_n (pc := 44) F dX10_spread_44 rfl ?_
        refine r_getf (pc := 45) F dX10_spread_45 fl_10_88 i68_42 (ce_42 _ _ _) rfl ?_
        refine r_icmp_ge (pc := 48) (tgt := 137) F dX10_spread_48 rfl h2 (fun h2 => ?_) (fun h2 => ?_)
        · refine V_sub (ls' := [(0, .ref ((zg Z).1 42)), (1, .int a1), (2, .int l7), (3, .int l2)]) [0, 1, 2, 3] rfl ?_
          have e11 := hX2 _ (Option.some.inj h2).symm
          cases e11
          exact E42
        · refine r_iload (pc := 51) F dX10_spread_51 rfl ?_
          refine r_if_le (pc := 53) (tgt := 137) F dX10_spread_53 rfl h2 (fun h2 => ?_) (fun h2 => ?_)
          · refine V_sub (ls' := [(0, .ref ((zg Z).1 42)), (1, .int a1), (2, .int l7), (3, .int l2)]) [0, 1, 2, 3] rfl ?_
            have e12 := hX2 _ (Option.some.inj h2).symm
            cases e12
            exact E42
          · refine r_iload (pc := 56) F dX10_spread_56 rfl ?_
            refine r_iload (pc := 58) F dX10_spread_58 rfl ?_
            refine r_Si2 (pc := 60) F dX10_spread_60 ml_10_147 (kX10_has _ w10 v6 l9 _ rfl) (Nat.le_of_ble_eq_true rfl) (Nat.le_of_ble_eq_true rfl) (Nat.le_of_ble_eq_true rfl) ?_
            refine r_if_eq (pc := 63) (tgt := 131) F dX10_spread_63 rfl h2 (fun h2 => ?_) (fun h2 => ?_)
            · obtain ⟨v13, ev13, h2⟩ := lt_some h2
              refine r_iinc (pc := 131) (ls' := [(0, .ref ((zg Z).1 42)), (1, .int a1), (2, .int l7), (3, .int l2), (4, .int l8), (5, .int v6), (6, .int v13)]) F dX10_spread_131 rfl (by rw [ev13]; rfl) (Nat.le_of_ble_eq_true rfl) rfl ?_
              refine r_goto (pc := 134) (tgt := 42) F dX10_spread_134 rfl ?_
              exact hP2 (l7, l8, v13, w10) (Option.some.inj h2).symm
            · refine r_iload_n (pc := 66) F dX10_spread_66 rfl ?_
              refine r_iload (pc := 67) F dX10_spread_67 rfl ?_
              refine r_Si2 (pc := 69) F dX10_spread_69 ml_10_147 (kX10_has _ w10 l7 l9 _ rfl) (Nat.le_of_ble_eq_true rfl) (Nat.le_of_ble_eq_true rfl) (Nat.le_of_ble_eq_true rfl) ?_
              refine r_if_ne (pc := 72) (tgt := 131) F dX10_spread_72 rfl h2 (fun h2 => ?_) (fun h2 => ?_)
              · refine r_aload_n (pc := 75) F dX10_spread_75 rfl ?_
                refine r_getf (pc := 76) F dX10_spread_76 fl_10_16 i68_42 (ce_42 _ _ _) rfl ?_
                refine r_iload (pc := 79) F dX10_spread_79 rfl ?_
                obtain ⟨g14, h2⟩ := gd_some h2
                refine r_iald (pc := 81) F dX10_spread_81 i68_45 (ca_45 _) g14 rfl ?_
                refine r_bipush (pc := 82) F dX10_spread_82 bp_6 ?_
                refine r_icmp_ne (pc := 84) (tgt := 90) F dX10_spread_84 rfl h2 (fun h2 => ?_) (fun h2 => ?_)
                · refine r_goto (pc := 87) (tgt := 131) F dX10_spread_87 rfl ?_
                  obtain ⟨v15, ev15, h2⟩ := lt_some h2
                  refine r_iinc (pc := 131) (ls' := [(0, .ref ((zg Z).1 42)), (1, .int a1), (2, .int l7), (3, .int l2), (4, .int l8), (5, .int v6), (6, .int v15)]) F dX10_spread_131 rfl (by rw [ev15]; rfl) (Nat.le_of_ble_eq_true rfl) rfl ?_
                  refine r_goto (pc := 134) (tgt := 42) F dX10_spread_134 rfl ?_
                  exact hP2 (l7, l8, v15, w10) (Option.some.inj h2).symm
                · refine r_iload_n (pc := 90) F dX10_spread_90 rfl ?_
                  refine r_iconst (pc := 91) F dX10_spread_91 ic_1 ?_
                  refine r_iload (pc := 92) F dX10_spread_92 rfl ?_
                  refine r_ishl (pc := 94) F dX10_spread_94 ?_
                  refine r_ior (pc := 95) F dX10_spread_95 ?_
                  obtain ⟨v16, ev16, h2⟩ := lt_some h2
                  refine V_nm ev16 ?_
                  refine r_istore_n (pc := 96) (ls' := [(0, .ref ((zg Z).1 42)), (1, .int a1), (2, .int v16), (3, .int l2), (4, .int l8), (5, .int v6), (6, .int l9)]) F dX10_spread_96 (Nat.le_of_ble_eq_true rfl) rfl ?_
                  refine r_aload_n (pc := 97) F dX10_spread_97 rfl ?_
                  refine r_getf (pc := 98) F dX10_spread_98 fl_10_43 i68_42 (ce_42 _ _ _) rfl ?_
                  refine r_iload (pc := 101) F dX10_spread_101 rfl ?_
                  refine r_iload_n (pc := 103) F dX10_spread_103 rfl ?_
                  obtain ⟨w17, ew17, h2⟩ := lt_some h2
                  refine r_iast (pc := 104) F dX10_spread_104 i68_54 (ca_54 _) g14 rfl ew17 ?_
                  refine r_aload_n (pc := 105) F dX10_spread_105 rfl ?_
                  refine r_getf (pc := 106) F dX10_spread_106 fl_10_46 i68_42 (ce_42 _ _ _) rfl ?_
                  refine r_iload (pc := 109) F dX10_spread_109 rfl ?_
                  refine r_aload_n (pc := 111) F dX10_spread_111 rfl ?_
                  refine r_getf (pc := 112) F dX10_spread_112 fl_10_46 i68_42 (ce_42 _ _ _) rfl ?_
                  refine r_iload_n (pc := 115) F dX10_spread_115 rfl ?_
                  obtain ⟨g19, h2⟩ := gd_some h2
                  refine r_iald (pc := 116) F dX10_spread_116 i68_55 (ca_55 _) g19 rfl ?_
                  obtain ⟨w20, ew20, h2⟩ := lt_some h2
                  refine r_iast (pc := 117) F dX10_spread_117 i68_55 (ca_55 _) g14 rfl ew20 ?_
                  refine r_aload_n (pc := 118) F dX10_spread_118 rfl ?_
                  refine r_dup (pc := 119) F dX10_spread_119 rfl ?_
                  refine r_getf (pc := 120) F dX10_spread_120 fl_10_209 i68_42 (ce_42 _ _ _) rfl ?_
                  refine r_iconst (pc := 123) F dX10_spread_123 ic_1 ?_
                  refine r_iadd (pc := 124) F dX10_spread_124 ?_
                  obtain ⟨w22, ew22, h2⟩ := lt_some h2
                  refine r_putI (pc := 125) F dX10_spread_125 fl_10_209 fp_10_23 i68_42 (ce_42 _) (Nat.le_of_ble_eq_true rfl) rfl rfl rfl ew22 ?_
                  obtain ⟨v24, ev24, h2⟩ := lt_some h2
                  refine r_iinc (pc := 128) (ls' := [(0, .ref ((zg Z).1 42)), (1, .int a1), (2, .int v16), (3, .int l2), (4, .int v24), (5, .int v6), (6, .int l9)]) F dX10_spread_128 rfl (by rw [ev24]; rfl) (Nat.le_of_ble_eq_true rfl) rfl ?_
                  obtain ⟨v25, ev25, h2⟩ := lt_some h2
                  refine r_iinc (pc := 131) (ls' := [(0, .ref ((zg Z).1 42)), (1, .int a1), (2, .int v16), (3, .int l2), (4, .int v24), (5, .int v6), (6, .int v25)]) F dX10_spread_131 rfl (by rw [ev25]; rfl) (Nat.le_of_ble_eq_true rfl) rfl ?_
                  refine r_goto (pc := 134) (tgt := 42) F dX10_spread_134 rfl ?_
                  exact hP2 (v16, v24, v25, w22) (Option.some.inj h2).symm
              · obtain ⟨v27, ev27, h2⟩ := lt_some h2
                refine r_iinc (pc := 131) (ls' := [(0, .ref ((zg Z).1 42)), (1, .int a1), (2, .int l7), (3, .int l2), (4, .int l8), (5, .int v6), (6, .int v27)]) F dX10_spread_131 rfl (by rw [ev27]; rfl) (Nat.le_of_ble_eq_true rfl) rfl ?_
                refine r_goto (pc := 134) (tgt := 42) F dX10_spread_134 rfl ?_
                exact hP2 (l7, l8, v27, w10) (Option.some.inj h2).symm
      obtain ⟨v36, ev36, h1⟩ := lt_some h1
      refine r_iinc (pc := 137) (ls' := [(0, .ref ((zg Z).1 42)), (1, .int a1), (2, .int l33), (3, .int v36)]) F dX10_spread_137 rfl (by rw [ev36]; rfl) (Nat.le_of_ble_eq_true rfl) rfl ?_
      refine r_goto (pc := 140) (tgt := 4) F dX10_spread_140 rfl ?_
      exact hP1 (l33, v36, w34) (Option.some.inj h1).symm
  refine r_iload_n (pc := 143) F dX10_spread_143 rfl ?_
  exact hR _ _ _ _ dX10_spread_144 rfl (Option.some.inj h0)
set_option maxRecDepth 100000 in
set_option maxHeartbeats 4000000 in
theorem kX10_goes (g : GT) (w : Wd) (a1 : Int32) (out : Wd) (h0 : fX10_goes w a1 = some out) : CtV g yX10_goes cX10_goes 2 none 6 134 [.ref (g.1 42), .int a1] w (fun w1 => w1 = out) := by
  refine CtV_of (by decide) (Nat.le_of_ble_eq_true rfl) (fun Z hg F hR => ?_)
  subst hg
  have F : Fx Z RX10 cX10_goes 2 6 134 := F
  refine V_sub (ls' := [(0, .ref ((zg Z).1 42)), (1, .int a1)]) [0, 1] rfl ?_
  unfold fX10_goes at h0
  refine r_aload_n (pc := 0) F dX10_goes_0 rfl ?_
  refine r_aload_n (pc := 1) F dX10_goes_1 rfl ?_
  refine r_aload_n (pc := 2) F dX10_goes_2 rfl ?_
  obtain ⟨r1, er1, h0⟩ := bind_some h0
  refine r_Vi0 (pc := 3) F dX10_goes_3 ml_10_212 (kX10_holding _ w r1 er1) i68_42 (ce_42 _ _ _) (Nat.le_of_ble_eq_true rfl) (Nat.le_of_ble_eq_true rfl) (Nat.le_of_ble_eq_true rfl) ?_
  obtain ⟨q4, er3, h0⟩ := bind_some h0
  replace h0 := un2_eq h0
  obtain ⟨r3, w2, rfl, h0⟩ := h0
  refine r_Vj1 (pc := 6) F dX10_goes_6 ml_10_215 (kX10_spread _ w r1 (r3, w2) er3) i68_42 (ce_42 _ _ _) (Nat.le_of_ble_eq_true rfl) (Nat.le_of_ble_eq_true rfl) (Nat.le_of_ble_eq_true rfl) ?_
  obtain ⟨w6, ew6, h0⟩ := lt_some h0
  refine r_putI (pc := 9) F dX10_goes_9 fl_10_124 fp_10_7 i68_42 (ce_42 _) (Nat.le_of_ble_eq_true rfl) rfl rfl rfl ew6 ?_
  refine r_aload_n (pc := 12) F dX10_goes_12 rfl ?_
  refine r_dup (pc := 13) F dX10_goes_13 rfl ?_
  refine r_getf (pc := 14) F dX10_goes_14 fl_10_133 i68_42 (ce_42 _ _ _) rfl ?_
  refine r_iconst (pc := 17) F dX10_goes_17 ic_1 ?_
  refine r_iadd (pc := 18) F dX10_goes_18 ?_
  obtain ⟨w8, ew8, h0⟩ := lt_some h0
  refine r_putI (pc := 19) F dX10_goes_19 fl_10_133 fp_10_9 i68_42 (ce_42 _) (Nat.le_of_ble_eq_true rfl) rfl rfl rfl ew8 ?_
  refine r_aload_n (pc := 22) F dX10_goes_22 rfl ?_
  refine r_dup (pc := 23) F dX10_goes_23 rfl ?_
  refine r_getf (pc := 24) F dX10_goes_24 fl_10_127 i68_42 (ce_42 _ _ _) rfl ?_
  refine r_iload_n (pc := 27) F dX10_goes_27 rfl ?_
  obtain ⟨v10, hv10, h0⟩ := lt_some h0
  have hv10 := hv10.symm
  suffices Jv10 : V Z 36 [(0, .ref ((zg Z).1 42)), (1, .int a1)] [.int v10, .int (w8.1 42 8), .ref ((zg Z).1 42)] w8 by
    refine r_if_eq (pc := 28) (tgt := 35) F dX10_goes_28 rfl hv10 (fun hv10 => ?_) (fun hv10 => ?_)
    · refine r_iconst (pc := 35) F dX10_goes_35 ic_1 ?_
      exact V_nm hv10.symm Jv10
    · refine r_iconst (pc := 31) F dX10_goes_31 ic_0 ?_
      refine r_goto (pc := 32) (tgt := 36) F dX10_goes_32 rfl ?_
      exact V_nm hv10.symm Jv10
  refine r_iadd (pc := 36) F dX10_goes_36 ?_
  obtain ⟨w11, ew11, h0⟩ := lt_some h0
  refine r_putI (pc := 37) F dX10_goes_37 fl_10_127 fp_10_8 i68_42 (ce_42 _) (Nat.le_of_ble_eq_true rfl) rfl rfl rfl ew11 ?_
  exact hR _ _ _ dX10_goes_40 (Option.some.inj h0)
set_option maxRecDepth 100000 in
set_option maxHeartbeats 4000000 in
theorem kX10_comesMinute (g : GT) (w : Wd) (a1 : Int32) (out : Int32 × Wd) (h0 : fX10_comesMinute w a1 = some out) : CtI g yX10_comesMinute cX10_comesMinute 2 (some .boolean) 7 155 [.ref (g.1 42), .int a1] w (fun r w1 => (r, w1) = out) := by
  refine CtI_of .boolean (by decide) (Nat.le_of_ble_eq_true rfl) (fun Z hg F hR => ?_)
  subst hg
  have F : Fx Z RX10 cX10_comesMinute 2 7 155 := F
  refine V_sub (ls' := [(0, .ref ((zg Z).1 42)), (1, .int a1)]) [0, 1] rfl ?_
  unfold fX10_comesMinute at h0
  refine r_iload_n (pc := 0) F dX10_comesMinute_0 rfl ?_
  refine r_iconst (pc := 1) F dX10_comesMinute_1 ic_1 ?_
  refine r_icmp_gt (pc := 2) (tgt := 26) F dX10_comesMinute_2 rfl h0 (fun h0 => ?_) (fun h0 => ?_)
  · refine r_iconst (pc := 26) F dX10_comesMinute_26 ic_0 ?_
    exact hR _ _ _ _ dX10_comesMinute_27 rfl (Option.some.inj h0)
  · refine r_aload_n (pc := 5) F dX10_comesMinute_5 rfl ?_
    refine r_getf (pc := 6) F dX10_comesMinute_6 fl_10_127 i68_42 (ce_42 _ _ _) rfl ?_
    refine r_aload_n (pc := 9) F dX10_comesMinute_9 rfl ?_
    refine r_Vi0 (pc := 10) F dX10_comesMinute_10 ml_10_130 (kX10_doorAt _ w _ rfl) i68_42 (ce_42 _ _ _) (Nat.le_of_ble_eq_true rfl) (Nat.le_of_ble_eq_true rfl) (Nat.le_of_ble_eq_true rfl) ?_
    refine r_icmp_eq (pc := 13) (tgt := 26) F dX10_comesMinute_13 rfl h0 (fun h0 => ?_) (fun h0 => ?_)
    · refine r_iconst (pc := 26) F dX10_comesMinute_26 ic_0 ?_
      exact hR _ _ _ _ dX10_comesMinute_27 rfl (Option.some.inj h0)
    · refine r_aload_n (pc := 16) F dX10_comesMinute_16 rfl ?_
      refine r_getf (pc := 17) F dX10_comesMinute_17 fl_10_133 i68_42 (ce_42 _ _ _) rfl ?_
      refine r_sipush (pc := 20) F dX10_comesMinute_20 sp_999 ?_
      refine r_icmp_ne (pc := 23) (tgt := 28) F dX10_comesMinute_23 rfl h0 (fun h0 => ?_) (fun h0 => ?_)
      · refine r_iconst (pc := 26) F dX10_comesMinute_26 ic_0 ?_
        exact hR _ _ _ _ dX10_comesMinute_27 rfl (Option.some.inj h0)
      · refine r_aload_n (pc := 28) F dX10_comesMinute_28 rfl ?_
        refine r_iload_n (pc := 29) F dX10_comesMinute_29 rfl ?_
        refine r_iconst (pc := 30) F dX10_comesMinute_30 ic_1 ?_
        obtain ⟨v1, hv1, h0⟩ := lt_some h0
        have hv1 := hv1.symm
        suffices Jv1 : V Z 39 [(0, .ref ((zg Z).1 42)), (1, .int a1)] [.int v1, .ref ((zg Z).1 42)] w by
          refine r_icmp_ne (pc := 31) (tgt := 38) F dX10_comesMinute_31 rfl hv1 (fun hv1 => ?_) (fun hv1 => ?_)
          · refine r_iconst (pc := 34) F dX10_comesMinute_34 ic_1 ?_
            refine r_goto (pc := 35) (tgt := 39) F dX10_comesMinute_35 rfl ?_
            exact V_nm hv1.symm Jv1
          · refine r_iconst (pc := 38) F dX10_comesMinute_38 ic_0 ?_
            exact V_nm hv1.symm Jv1
        obtain ⟨w2, ew2, h0⟩ := bind_some h0
        refine r_Vv1 (pc := 39) F dX10_comesMinute_39 ml_10_136 (kX10_goes _ w v1 w2 ew2) i68_42 (ce_42 _ _ _) (Nat.le_of_ble_eq_true rfl) (Nat.le_of_ble_eq_true rfl) (Nat.le_of_ble_eq_true rfl) ?_
        refine r_iconst (pc := 42) F dX10_comesMinute_42 ic_1 ?_
        exact hR _ _ _ _ dX10_comesMinute_43 rfl (Option.some.inj h0)
set_option maxRecDepth 100000 in
set_option maxHeartbeats 4000000 in
theorem kX10_comes (g : GT) (w : Wd) (a1 : Int32) (out : Int32 × Wd) (h0 : fX10_comes w a1 = some out) : CtI g yX10_comes cX10_comes 5 (some .boolean) 8 176 [.ref (g.1 42), .int a1] w (fun r w1 => (r, w1) = out) := by
  refine CtI_of .boolean (by decide) (Nat.le_of_ble_eq_true rfl) (fun Z hg F hR => ?_)
  subst hg
  have F : Fx Z RX10 cX10_comes 5 8 176 := F
  refine V_sub (ls' := [(0, .ref ((zg Z).1 42)), (1, .int a1)]) [0, 1] rfl ?_
  unfold fX10_comes at h0
  have J225 : ∀ (w23 : Wd) (l22 : Int32), fX10_comes_j225 w23 l22 = some out → V Z 225 [(0, .ref ((zg Z).1 42)), (3, .int l22)] [] w23 := by
    intro w23 l22 h0
    unfold fX10_comes_j225 at h0
    refine r_aload_n (pc := 225) F dX10_comes_225 rfl ?_
    refine r_dup (pc := 226) F dX10_comes_226 rfl ?_
    refine r_getf (pc := 227) F dX10_comes_227 fl_10_124 i68_42 (ce_42 _ _ _) rfl ?_
    refine r_iconst (pc := 230) F dX10_comes_230 ic_1 ?_
    refine r_iload_n (pc := 231) F dX10_comes_231 rfl ?_
    refine r_ishl (pc := 232) F dX10_comes_232 ?_
    refine r_ixor (pc := 233) F dX10_comes_233 ?_
    obtain ⟨w24, ew24, h0⟩ := lt_some h0
    refine r_putI (pc := 234) F dX10_comes_234 fl_10_124 fp_10_7 i68_42 (ce_42 _) (Nat.le_of_ble_eq_true rfl) rfl rfl rfl ew24 ?_
    refine r_iconst (pc := 237) F dX10_comes_237 ic_1 ?_
    exact hR _ _ _ _ dX10_comes_238 rfl (Option.some.inj h0)
  refine r_iconst (pc := 0) F dX10_comes_0 ic_3 ?_
  refine r_iload_n (pc := 1) F dX10_comes_1 rfl ?_
  refine r_imul (pc := 2) F dX10_comes_2 ?_
  obtain ⟨v1, ev1, h0⟩ := lt_some h0
  refine V_nm ev1 ?_
  refine r_istore_n (pc := 3) (ls' := [(0, .ref ((zg Z).1 42)), (1, .int a1), (2, .int v1)]) F dX10_comes_3 (Nat.le_of_ble_eq_true rfl) rfl ?_
  refine r_aload_n (pc := 4) F dX10_comes_4 rfl ?_
  refine r_getf (pc := 5) F dX10_comes_5 fl_10_37 i68_42 (ce_42 _ _ _) rfl ?_
  refine r_iload_n (pc := 8) F dX10_comes_8 rfl ?_
  obtain ⟨g2, h0⟩ := gd_some h0
  refine r_iald (pc := 9) F dX10_comes_9 i68_52 (ca_52 _) g2 rfl ?_
  obtain ⟨v3, ev3, h0⟩ := lt_some h0
  refine V_nm ev3 ?_
  refine r_istore_n (pc := 10) (ls' := [(0, .ref ((zg Z).1 42)), (1, .int a1), (2, .int v1), (3, .int v3)]) F dX10_comes_10 (Nat.le_of_ble_eq_true rfl) rfl ?_
  refine r_aload_n (pc := 11) F dX10_comes_11 rfl ?_
  refine r_getf (pc := 12) F dX10_comes_12 fl_10_37 i68_42 (ce_42 _ _ _) rfl ?_
  refine r_iload_n (pc := 15) F dX10_comes_15 rfl ?_
  refine r_iconst (pc := 16) F dX10_comes_16 ic_1 ?_
  refine r_iadd (pc := 17) F dX10_comes_17 ?_
  obtain ⟨g4, h0⟩ := gd_some h0
  refine r_iald (pc := 18) F dX10_comes_18 i68_52 (ca_52 _) g4 rfl ?_
  obtain ⟨v5, ev5, h0⟩ := lt_some h0
  refine V_nm ev5 ?_
  refine r_istore (pc := 19) (ls' := [(0, .ref ((zg Z).1 42)), (1, .int a1), (2, .int v1), (3, .int v3), (4, .int v5)]) F dX10_comes_19 (Nat.le_of_ble_eq_true rfl) rfl ?_
  refine r_aload_n (pc := 21) F dX10_comes_21 rfl ?_
  refine r_getf (pc := 22) F dX10_comes_22 fl_10_31 i68_42 (ce_42 _ _ _) rfl ?_
  refine r_iload_n (pc := 25) F dX10_comes_25 rfl ?_
  obtain ⟨g6, h0⟩ := gd_some h0
  refine r_iald (pc := 26) F dX10_comes_26 i68_50 (ca_50 _) g6 rfl ?_
  obtain ⟨v7, ev7, h0⟩ := lt_some h0
  refine V_nm ev7 ?_
  by_cases c8 : v7 = 100
  · rw [if_pos c8] at h0
    refine r_lsw (pc := 27) (tgt := 162) (t := 135) F dX10_comes_27 (by decide +kernel) (by rw [c8]; decide +kernel) rfl ?_
    refine r_aload_n (pc := 162) F dX10_comes_162 rfl ?_
    refine r_getf (pc := 163) F dX10_comes_163 fl_10_13 i68_42 (ce_42 _ _ _) rfl ?_
    refine r_iconst (pc := 166) F dX10_comes_166 ic_2 ?_
    refine r_iload_n (pc := 167) F dX10_comes_167 rfl ?_
    obtain ⟨w9, ew9, h0⟩ := lt_some h0
    refine r_iast (pc := 168) (j := 2) F dX10_comes_168 i68_44 (ca_44 _) rfl rfl ew9 ?_
    refine r_iload_n (pc := 169) F dX10_comes_169 rfl ?_
    refine r_iconst (pc := 170) F dX10_comes_170 ic_1 ?_
    refine r_bipush (pc := 171) F dX10_comes_171 bp_24 ?_
    refine r_Si3 (pc := 173) F dX10_comes_173 ml_10_110 (kX10_isIn _ w9 v3 1 24 _ rfl) (Nat.le_of_ble_eq_true rfl) (Nat.le_of_ble_eq_true rfl) (Nat.le_of_ble_eq_true rfl) ?_
    refine r_if_eq (pc := 176) (tgt := 191) F dX10_comes_176 rfl h0 (fun h0 => ?_) (fun h0 => ?_)
    · refine r_iconst (pc := 191) F dX10_comes_191 ic_0 ?_
      exact hR _ _ _ _ dX10_comes_192 rfl (Option.some.inj h0)
    · refine r_iload_n (pc := 179) F dX10_comes_179 rfl ?_
      refine r_aload_n (pc := 180) F dX10_comes_180 rfl ?_
      refine r_getf (pc := 181) F dX10_comes_181 fl_10_127 i68_42 (ce_42 _ _ _) rfl ?_
      refine r_icmp_lt (pc := 184) (tgt := 191) F dX10_comes_184 rfl h0 (fun h0 => ?_) (fun h0 => ?_)
      · refine r_iconst (pc := 191) F dX10_comes_191 ic_0 ?_
        exact hR _ _ _ _ dX10_comes_192 rfl (Option.some.inj h0)
      · refine r_iconst (pc := 187) F dX10_comes_187 ic_1 ?_
        refine r_goto (pc := 188) (tgt := 192) F dX10_comes_188 rfl ?_
        exact hR _ _ _ _ dX10_comes_192 rfl (Option.some.inj h0)
  rw [if_neg c8] at h0
  by_cases c13 : v7 = 102
  · rw [if_pos c13] at h0
    refine r_lsw (pc := 27) (tgt := 126) (t := 99) F dX10_comes_27 (by decide +kernel) (by rw [c13]; decide +kernel) rfl ?_
    refine r_aload_n (pc := 126) F dX10_comes_126 rfl ?_
    refine r_getf (pc := 127) F dX10_comes_127 fl_10_13 i68_42 (ce_42 _ _ _) rfl ?_
    refine r_iconst (pc := 130) F dX10_comes_130 ic_0 ?_
    refine r_iload_n (pc := 131) F dX10_comes_131 rfl ?_
    obtain ⟨w14, ew14, h0⟩ := lt_some h0
    refine r_iast (pc := 132) (j := 0) F dX10_comes_132 i68_44 (ca_44 _) rfl rfl ew14 ?_
    refine r_aload_n (pc := 133) F dX10_comes_133 rfl ?_
    refine r_getf (pc := 134) F dX10_comes_134 fl_10_13 i68_42 (ce_42 _ _ _) rfl ?_
    refine r_iconst (pc := 137) F dX10_comes_137 ic_1 ?_
    refine r_iload (pc := 138) F dX10_comes_138 rfl ?_
    obtain ⟨w16, ew16, h0⟩ := lt_some h0
    refine r_iast (pc := 140) (j := 1) F dX10_comes_140 i68_44 (ca_44 _) rfl rfl ew16 ?_
    refine r_iload_n (pc := 141) F dX10_comes_141 rfl ?_
    refine r_iconst (pc := 142) F dX10_comes_142 ic_3 ?_
    refine r_icmp_ge (pc := 143) (tgt := 160) F dX10_comes_143 rfl h0 (fun h0 => ?_) (fun h0 => ?_)
    · refine r_iconst (pc := 160) F dX10_comes_160 ic_0 ?_
      exact hR _ _ _ _ dX10_comes_161 rfl (Option.some.inj h0)
    · refine r_iload (pc := 146) F dX10_comes_146 rfl ?_
      refine r_iconst (pc := 148) F dX10_comes_148 ic_1 ?_
      refine r_iconst (pc := 149) F dX10_comes_149 ic_2 ?_
      refine r_Si3 (pc := 150) F dX10_comes_150 ml_10_110 (kX10_isIn _ w16 v5 1 2 _ rfl) (Nat.le_of_ble_eq_true rfl) (Nat.le_of_ble_eq_true rfl) (Nat.le_of_ble_eq_true rfl) ?_
      refine r_if_eq (pc := 153) (tgt := 160) F dX10_comes_153 rfl h0 (fun h0 => ?_) (fun h0 => ?_)
      · refine r_iconst (pc := 160) F dX10_comes_160 ic_0 ?_
        exact hR _ _ _ _ dX10_comes_161 rfl (Option.some.inj h0)
      · refine r_iconst (pc := 156) F dX10_comes_156 ic_1 ?_
        refine r_goto (pc := 157) (tgt := 161) F dX10_comes_157 rfl ?_
        exact hR _ _ _ _ dX10_comes_161 rfl (Option.some.inj h0)
  rw [if_neg c13] at h0
  by_cases c20 : v7 = 108
  · rw [if_pos c20] at h0
    refine r_lsw (pc := 27) (tgt := 193) (t := 166) F dX10_comes_27 (by decide +kernel) (by rw [c20]; decide +kernel) rfl ?_
    refine r_aload_n (pc := 193) F dX10_comes_193 rfl ?_
    refine r_iload_n (pc := 194) F dX10_comes_194 rfl ?_
    refine r_Vi1 (pc := 195) F dX10_comes_195 ml_10_144 (kX10_isPerson _ w v3 _ rfl) i68_42 (ce_42 _ _ _) (Nat.le_of_ble_eq_true rfl) (Nat.le_of_ble_eq_true rfl) (Nat.le_of_ble_eq_true rfl) ?_
    refine r_if_eq (pc := 198) (tgt := 223) F dX10_comes_198 rfl h0 (fun h0 => ?_) (fun h0 => ?_)
    · refine r_iconst (pc := 223) F dX10_comes_223 ic_0 ?_
      exact hR _ _ _ _ dX10_comes_224 rfl (Option.some.inj h0)
    · refine r_aload_n (pc := 201) F dX10_comes_201 rfl ?_
      refine r_getf (pc := 202) F dX10_comes_202 fl_10_16 i68_42 (ce_42 _ _ _) rfl ?_
      refine r_iload_n (pc := 205) F dX10_comes_205 rfl ?_
      obtain ⟨g21, h0⟩ := gd_some h0
      refine r_iald (pc := 206) F dX10_comes_206 i68_45 (ca_45 _) g21 rfl ?_
      refine r_bipush (pc := 207) F dX10_comes_207 bp_6 ?_
      refine r_icmp_ne (pc := 209) (tgt := 225) F dX10_comes_209 rfl h0 (fun h0 => ?_) (fun h0 => ?_)
      · refine r_aload_n (pc := 212) F dX10_comes_212 rfl ?_
        refine r_getf (pc := 213) F dX10_comes_213 fl_10_124 i68_42 (ce_42 _ _ _) rfl ?_
        refine r_iload_n (pc := 216) F dX10_comes_216 rfl ?_
        refine r_Si2 (pc := 217) F dX10_comes_217 ml_10_147 (kX10_has _ w (w.1 42 7) v3 _ rfl) (Nat.le_of_ble_eq_true rfl) (Nat.le_of_ble_eq_true rfl) (Nat.le_of_ble_eq_true rfl) ?_
        refine r_if_ne (pc := 220) (tgt := 225) F dX10_comes_220 rfl h0 (fun h0 => ?_) (fun h0 => ?_)
        · refine r_iconst (pc := 223) F dX10_comes_223 ic_0 ?_
          exact hR _ _ _ _ dX10_comes_224 rfl (Option.some.inj h0)
        · refine V_sub (ls' := [(0, .ref ((zg Z).1 42)), (3, .int v3)]) [0, 3] rfl ?_
          exact J225 w v3 h0
      · refine V_sub (ls' := [(0, .ref ((zg Z).1 42)), (3, .int v3)]) [0, 3] rfl ?_
        exact J225 w v3 h0
  rw [if_neg c20] at h0
  by_cases c29 : v7 = 112
  · rw [if_pos c29] at h0
    refine r_lsw (pc := 27) (tgt := 76) (t := 49) F dX10_comes_27 (by decide +kernel) (by rw [c29]; decide +kernel) rfl ?_
    refine r_aload_n (pc := 76) F dX10_comes_76 rfl ?_
    refine r_iload_n (pc := 77) F dX10_comes_77 rfl ?_
    obtain ⟨q32, er31, h0⟩ := bind_some h0
    replace h0 := un2_eq h0
    obtain ⟨r31, w30, rfl, h0⟩ := h0
    refine r_Vj1 (pc := 78) F dX10_comes_78 ml_10_140 (kX10_comesOne _ w v1 (r31, w30) er31) i68_42 (ce_42 _ _ _) (Nat.le_of_ble_eq_true rfl) (Nat.le_of_ble_eq_true rfl) (Nat.le_of_ble_eq_true rfl) ?_
    obtain ⟨g34, h0⟩ := gd_some h0
    exact hR _ _ _ _ dX10_comes_81 (bz_n g34) (Option.some.inj h0)
  rw [if_neg c29] at h0
  by_cases c35 : v7 = 119
  · rw [if_pos c35] at h0
    refine r_lsw (pc := 27) (tgt := 82) (t := 55) F dX10_comes_27 (by decide +kernel) (by rw [c35]; decide +kernel) rfl ?_
    refine r_iload_n (pc := 82) F dX10_comes_82 rfl ?_
    refine r_bipush (pc := 83) F dX10_comes_83 bp_24 ?_
    refine r_icmp_gt (pc := 85) (tgt := 100) F dX10_comes_85 rfl h0 (fun h0 => ?_) (fun h0 => ?_)
    · refine r_iconst (pc := 100) F dX10_comes_100 ic_0 ?_
      exact hR _ _ _ _ dX10_comes_101 rfl (Option.some.inj h0)
    · refine r_aload_n (pc := 88) F dX10_comes_88 rfl ?_
      refine r_getf (pc := 89) F dX10_comes_89 fl_10_37 i68_42 (ce_42 _ _ _) rfl ?_
      refine r_iload_n (pc := 92) F dX10_comes_92 rfl ?_
      refine r_iconst (pc := 93) F dX10_comes_93 ic_2 ?_
      refine r_iadd (pc := 94) F dX10_comes_94 ?_
      obtain ⟨g36, h0⟩ := gd_some h0
      refine r_iald (pc := 95) F dX10_comes_95 i68_52 (ca_52 _) g36 rfl ?_
      refine r_iconst (pc := 96) F dX10_comes_96 ic_2 ?_
      refine r_icmp_le (pc := 97) (tgt := 102) F dX10_comes_97 rfl h0 (fun h0 => ?_) (fun h0 => ?_)
      · refine r_aload_n (pc := 102) F dX10_comes_102 rfl ?_
        refine r_getf (pc := 103) F dX10_comes_103 fl_10_22 i68_42 (ce_42 _ _ _) rfl ?_
        refine r_iload_n (pc := 106) F dX10_comes_106 rfl ?_
        refine r_iload (pc := 107) F dX10_comes_107 rfl ?_
        obtain ⟨g38, h0⟩ := gd_some h0
        obtain ⟨w37, ew37, h0⟩ := lt_some h0
        refine r_iast (pc := 109) F dX10_comes_109 i68_47 (ca_47 _) g38 rfl ew37 ?_
        refine r_aload_n (pc := 110) F dX10_comes_110 rfl ?_
        refine r_getf (pc := 111) F dX10_comes_111 fl_10_25 i68_42 (ce_42 _ _ _) rfl ?_
        refine r_iload_n (pc := 114) F dX10_comes_114 rfl ?_
        refine r_aload_n (pc := 115) F dX10_comes_115 rfl ?_
        refine r_getf (pc := 116) F dX10_comes_116 fl_10_37 i68_42 (ce_42 _ _ _) rfl ?_
        refine r_iload_n (pc := 119) F dX10_comes_119 rfl ?_
        refine r_iconst (pc := 120) F dX10_comes_120 ic_2 ?_
        refine r_iadd (pc := 121) F dX10_comes_121 ?_
        refine r_iald (pc := 122) F dX10_comes_122 i68_52 (ca_52 _) g36 rfl ?_
        obtain ⟨w40, ew40, h0⟩ := lt_some h0
        refine r_iast (pc := 123) F dX10_comes_123 i68_48 (ca_48 _) g38 rfl ew40 ?_
        refine r_iconst (pc := 124) F dX10_comes_124 ic_1 ?_
        exact hR _ _ _ _ dX10_comes_125 rfl (Option.some.inj h0)
      · refine r_iconst (pc := 100) F dX10_comes_100 ic_0 ?_
        exact hR _ _ _ _ dX10_comes_101 rfl (Option.some.inj h0)
  rw [if_neg c35] at h0
  refine r_lsw (pc := 27) (tgt := 239) (t := 212) F dX10_comes_27 (by decide +kernel) (lsw_out (ks := [100, 102, 108, 112, 119]) rfl (List.forall_mem_cons.mpr ⟨sw_ne rfl c8, List.forall_mem_cons.mpr ⟨sw_ne rfl c13, List.forall_mem_cons.mpr ⟨sw_ne rfl c20, List.forall_mem_cons.mpr ⟨sw_ne rfl c29, List.forall_mem_cons.mpr ⟨sw_ne rfl c35, fun _ h => absurd h List.not_mem_nil⟩⟩⟩⟩⟩)) rfl ?_
  refine r_aload_n (pc := 239) F dX10_comes_239 rfl ?_
  refine r_iload_n (pc := 240) F dX10_comes_240 rfl ?_
  obtain ⟨q46, er45, h0⟩ := bind_some h0
  replace h0 := un2_eq h0
  obtain ⟨r45, w44, rfl, h0⟩ := h0
  refine r_Vj1 (pc := 241) F dX10_comes_241 ml_10_150 (kX10_comesMinute _ w v3 (r45, w44) er45) i68_42 (ce_42 _ _ _) (Nat.le_of_ble_eq_true rfl) (Nat.le_of_ble_eq_true rfl) (Nat.le_of_ble_eq_true rfl) ?_
  obtain ⟨g48, h0⟩ := gd_some h0
  exact hR _ _ _ _ dX10_comes_244 (bz_n g48) (Option.some.inj h0)
set_option maxRecDepth 100000 in
set_option maxHeartbeats 4000000 in
theorem kX10_road (g : GT) (w : Wd) (out : Int32 × Wd) (h0 : fX10_road w = some out) : CtI g yX10_road cX10_road 3 (some .int) 9 200 [.ref (g.1 42)] w (fun r w1 => (r, w1) = out) := by
  refine CtI_of .int (by decide) (Nat.le_of_ble_eq_true rfl) (fun Z hg F hR => ?_)
  subst hg
  have F : Fx Z RX10 cX10_road 3 9 200 := F
  refine V_sub (ls' := [(0, .ref ((zg Z).1 42))]) [0] rfl ?_
  unfold fX10_road at h0
  have J60 : ∀ (w25 : Wd) (l24 : Int32), fX10_road_j60 w25 l24 = some out → V Z 60 [(0, .ref ((zg Z).1 42)), (1, .int l24)] [] w25 := by
    intro w25 l24 h0
    unfold fX10_road_j60 at h0
    refine r_aload_n (pc := 60) F dX10_road_60 rfl ?_
    refine r_iconst (pc := 61) F dX10_road_61 ic_0 ?_
    obtain ⟨w26, ew26, h0⟩ := lt_some h0
    refine r_putI (pc := 62) F dX10_road_62 fl_10_96 fp_10_14 i68_42 (ce_42 _) (Nat.le_of_ble_eq_true rfl) rfl rfl rfl ew26 ?_
    refine r_iload_n (pc := 65) F dX10_road_65 rfl ?_
    refine r_if_ne (pc := 66) (tgt := 78) F dX10_road_66 rfl h0 (fun h0 => ?_) (fun h0 => ?_)
    · refine r_sipush (pc := 69) F dX10_road_69 sp_m1000 ?_
      refine r_aload_n (pc := 72) F dX10_road_72 rfl ?_
      refine r_getf (pc := 73) F dX10_road_73 fl_10_103 i68_42 (ce_42 _ _ _) rfl ?_
      refine r_isub (pc := 76) F dX10_road_76 ?_
      exact hR _ _ _ _ dX10_road_77 rfl (Option.some.inj h0)
    · refine r_aload_n (pc := 78) F dX10_road_78 rfl ?_
      refine r_iconst (pc := 79) F dX10_road_79 ic_1 ?_
      refine r_iconst (pc := 80) F dX10_road_80 ic_1 ?_
      obtain ⟨w28, ew28, h0⟩ := bind_some h0
      refine r_Vv2 (pc := 81) F dX10_road_81 ml_10_157 (kX10_passesAll _ w26 1 1 w28 ew28) i68_42 (ce_42 _ _ _) (Nat.le_of_ble_eq_true rfl) (Nat.le_of_ble_eq_true rfl) (Nat.le_of_ble_eq_true rfl) ?_
      refine r_iconst (pc := 84) F dX10_road_84 ic_0 ?_
      refine r_istore_n (pc := 85) (ls' := [(0, .ref ((zg Z).1 42)), (1, .int l24), (2, .int 0)]) F dX10_road_85 (Nat.le_of_ble_eq_true rfl) rfl ?_
      refine V_sub (ls' := [(0, .ref ((zg Z).1 42)), (2, .int 0)]) [0, 2] rfl ?_
      refine iter_rule (P := fun s : Int32 × Wd => V Z 86 [(0, .ref ((zg Z).1 42)), (2, .int (s.1))] [] s.2) (x := out) ?_ FU (0, w28) h0
      intro s y1 h1 hP1 hX1
      obtain ⟨l30, w31⟩ := s
      have h1 : fX10_road_b86 l30 w31 = some y1 := h1
      unfold fX10_road_b86 at h1
      refine r_iload_n (pc := 86) F dX10_road_86 rfl ?_
      refine r_aload_n (pc := 87) F dX10_road_87 rfl ?_
      refine r_getf (pc := 88) F dX10_road_88 fl_10_118 i68_42 (ce_42 _ _ _) rfl ?_
      refine r_icmp_ge (pc := 91) (tgt := 128) F dX10_road_91 rfl h1 (fun h1 => ?_) (fun h1 => ?_)
      · refine r_aload_n (pc := 128) F dX10_road_128 rfl ?_
        refine r_iconst (pc := 129) F dX10_road_129 ic_0 ?_
        obtain ⟨w32, ew32, h1⟩ := lt_some h1
        refine r_putI (pc := 130) F dX10_road_130 fl_10_164 fp_10_27 i68_42 (ce_42 _) (Nat.le_of_ble_eq_true rfl) rfl rfl rfl ew32 ?_
        refine r_aload_n (pc := 133) F dX10_road_133 rfl ?_
        refine r_getf (pc := 134) F dX10_road_134 fl_10_118 i68_42 (ce_42 _ _ _) rfl ?_
        have h0 := congrArg some (hX1 _ (Option.some.inj h1).symm)
        exact hR _ _ _ _ dX10_road_137 rfl (Option.some.inj h0)
      · refine r_aload_n (pc := 94) F dX10_road_94 rfl ?_
        refine r_iload_n (pc := 95) F dX10_road_95 rfl ?_
        obtain ⟨q36, er35, h1⟩ := bind_some h1
        replace h1 := un2_eq h1
        obtain ⟨r35, w34, rfl, h1⟩ := h1
        refine r_Vj1 (pc := 96) F dX10_road_96 ml_10_161 (kX10_comes _ w31 l30 (r35, w34) er35) i68_42 (ce_42 _ _ _) (Nat.le_of_ble_eq_true rfl) (Nat.le_of_ble_eq_true rfl) (Nat.le_of_ble_eq_true rfl) ?_
        refine r_if_eq (pc := 99) (tgt := 105) F dX10_road_99 rfl h1 (fun h1 => ?_) (fun h1 => ?_)
        · refine r_aload_n (pc := 105) F dX10_road_105 rfl ?_
          refine r_iconst (pc := 106) F dX10_road_106 ic_1 ?_
          refine r_iconst (pc := 107) F dX10_road_107 ic_0 ?_
          obtain ⟨w38, ew38, h1⟩ := bind_some h1
          refine r_Vv2 (pc := 108) F dX10_road_108 ml_10_157 (kX10_passesAll _ w34 1 0 w38 ew38) i68_42 (ce_42 _ _ _) (Nat.le_of_ble_eq_true rfl) (Nat.le_of_ble_eq_true rfl) (Nat.le_of_ble_eq_true rfl) ?_
          refine r_sipush (pc := 111) F dX10_road_111 sp_m2000 ?_
          refine r_aload_n (pc := 114) F dX10_road_114 rfl ?_
          refine r_getf (pc := 115) F dX10_road_115 fl_10_34 i68_42 (ce_42 _ _ _) rfl ?_
          refine r_iload_n (pc := 118) F dX10_road_118 rfl ?_
          obtain ⟨g40, h1⟩ := gd_some h1
          refine r_iald (pc := 119) F dX10_road_119 i68_51 (ca_51 _) g40 rfl ?_
          refine r_isub (pc := 120) F dX10_road_120 ?_
          have h0 := congrArg some (hX1 _ (Option.some.inj h1).symm)
          exact hR _ _ _ _ dX10_road_121 rfl (Option.some.inj h0)
        · refine r_goto (pc := 102) (tgt := 122) F dX10_road_102 rfl ?_
          obtain ⟨v41, ev41, h1⟩ := lt_some h1
          refine r_iinc (pc := 122) (ls' := [(0, .ref ((zg Z).1 42)), (2, .int v41)]) F dX10_road_122 rfl (by rw [ev41]; rfl) (Nat.le_of_ble_eq_true rfl) rfl ?_
          refine r_goto (pc := 125) (tgt := 86) F dX10_road_125 rfl ?_
          exact hP1 (v41, w34) (Option.some.inj h1).symm
  refine r_aload_n (pc := 0) F dX10_road_0 rfl ?_
  refine r_iconst (pc := 1) F dX10_road_1 ic_0 ?_
  obtain ⟨w1, ew1, h0⟩ := lt_some h0
  refine r_putI (pc := 2) F dX10_road_2 fl_10_103 fp_10_15 i68_42 (ce_42 _) (Nat.le_of_ble_eq_true rfl) rfl rfl rfl ew1 ?_
  refine r_aload_n (pc := 5) F dX10_road_5 rfl ?_
  refine r_iconst (pc := 6) F dX10_road_6 ic_0 ?_
  obtain ⟨w3, ew3, h0⟩ := lt_some h0
  refine r_putI (pc := 7) F dX10_road_7 fl_10_118 fp_10_16 i68_42 (ce_42 _) (Nat.le_of_ble_eq_true rfl) rfl rfl rfl ew3 ?_
  refine r_iconst (pc := 10) F dX10_road_10 ic_1 ?_
  refine r_istore_n (pc := 11) (ls' := [(0, .ref ((zg Z).1 42)), (1, .int 1)]) F dX10_road_11 (Nat.le_of_ble_eq_true rfl) rfl ?_
  obtain ⟨x20, ix20, h0⟩ := bind_some h0
  replace h0 := un2_eq h0
  obtain ⟨l21, w22, rfl, h0⟩ := h0
  suffices E12 : V Z 60 [(0, .ref ((zg Z).1 42)), (1, .int l21)] [] w22 by
    refine iter_rule (P := fun s : Int32 × Wd => V Z 12 [(0, .ref ((zg Z).1 42)), (1, .int (s.1))] [] s.2) (x := (l21, w22)) ?_ FU (1, w3) ix20
    intro s y1 h1 hP1 hX1
    obtain ⟨l5, w6⟩ := s
    have h1 : fX10_road_b12 l5 w6 = some y1 := h1
    unfold fX10_road_b12 at h1
    have J34 : ∀ (w8 : Wd), fX10_road_j34 w8 = some y1 → V Z 34 [(0, .ref ((zg Z).1 42))] [] w8 := by
      intro w8 h1
      unfold fX10_road_j34 at h1
      refine r_aload_n (pc := 34) F dX10_road_34 rfl ?_
      obtain ⟨q11, er10, h1⟩ := bind_some h1
      replace h1 := un2_eq h1
      obtain ⟨r10, w9, rfl, h1⟩ := h1
      refine r_Vj0 (pc := 35) F dX10_road_35 ml_10_153 (kX10_statement _ w8 (r10, w9) er10) i68_42 (ce_42 _ _ _) (Nat.le_of_ble_eq_true rfl) (Nat.le_of_ble_eq_true rfl) (Nat.le_of_ble_eq_true rfl) ?_
      refine r_istore_n (pc := 38) (ls' := [(0, .ref ((zg Z).1 42)), (1, .int r10)]) F dX10_road_38 (Nat.le_of_ble_eq_true rfl) rfl ?_
      refine r_aload_n (pc := 39) F dX10_road_39 rfl ?_
      refine r_dup (pc := 40) F dX10_road_40 rfl ?_
      refine r_getf (pc := 41) F dX10_road_41 fl_10_118 i68_42 (ce_42 _ _ _) rfl ?_
      refine r_iload_n (pc := 44) F dX10_road_44 rfl ?_
      obtain ⟨v13, hv13, h1⟩ := lt_some h1
      have hv13 := hv13.symm
      suffices Jv13 : V Z 53 [(0, .ref ((zg Z).1 42)), (1, .int r10)] [.int v13, .int (w9.1 42 16), .ref ((zg Z).1 42)] w9 by
        refine r_if_eq (pc := 45) (tgt := 52) F dX10_road_45 rfl hv13 (fun hv13 => ?_) (fun hv13 => ?_)
        · refine r_iconst (pc := 52) F dX10_road_52 ic_0 ?_
          exact V_nm hv13.symm Jv13
        · refine r_iconst (pc := 48) F dX10_road_48 ic_1 ?_
          refine r_goto (pc := 49) (tgt := 53) F dX10_road_49 rfl ?_
          exact V_nm hv13.symm Jv13
      refine r_iadd (pc := 53) F dX10_road_53 ?_
      obtain ⟨w14, ew14, h1⟩ := lt_some h1
      refine r_putI (pc := 54) F dX10_road_54 fl_10_118 fp_10_16 i68_42 (ce_42 _) (Nat.le_of_ble_eq_true rfl) rfl rfl rfl ew14 ?_
      refine r_goto (pc := 57) (tgt := 12) F dX10_road_57 rfl ?_
      exact hP1 (r10, w14) (Option.some.inj h1).symm
    refine r_iload_n (pc := 12) F dX10_road_12 rfl ?_
    refine r_if_eq (pc := 13) (tgt := 60) F dX10_road_13 rfl h1 (fun h1 => ?_) (fun h1 => ?_)
    · have e7 := hX1 _ (Option.some.inj h1).symm
      cases e7
      exact E12
    · refine r_aload_n (pc := 16) F dX10_road_16 rfl ?_
      refine r_getf (pc := 17) F dX10_road_17 fl_10_103 i68_42 (ce_42 _ _ _) rfl ?_
      refine r_aload_n (pc := 20) F dX10_road_20 rfl ?_
      refine r_getf (pc := 21) F dX10_road_21 fl_10_96 i68_42 (ce_42 _ _ _) rfl ?_
      refine r_icmp_lt (pc := 24) (tgt := 34) F dX10_road_24 rfl h1 (fun h1 => ?_) (fun h1 => ?_)
      · refine V_sub (ls' := [(0, .ref ((zg Z).1 42))]) [0] rfl ?_
        exact J34 w6 h1
      · refine r_aload_n (pc := 27) F dX10_road_27 rfl ?_
        refine r_getf (pc := 28) F dX10_road_28 fl_10_118 i68_42 (ce_42 _ _ _) rfl ?_
        refine r_if_ne (pc := 31) (tgt := 60) F dX10_road_31 rfl h1 (fun h1 => ?_) (fun h1 => ?_)
        · refine V_sub (ls' := [(0, .ref ((zg Z).1 42))]) [0] rfl ?_
          exact J34 w6 h1
        · have e16 := hX1 _ (Option.some.inj h1).symm
          cases e16
          exact E12
  exact J60 w22 l21 h0
set_option maxRecDepth 100000 in
set_option maxHeartbeats 4000000 in
theorem kX10_image (g : GT) (w : Wd) (out : Int32 × Wd) (h0 : fX10_image w = some out) : CtI g yX10_image cX10_image 1 (some .int) 2 44 [.ref (g.1 42)] w (fun r w1 => (r, w1) = out) := by
  refine CtI_of .int (by decide) (Nat.le_of_ble_eq_true rfl) (fun Z hg F hR => ?_)
  subst hg
  have F : Fx Z RX10 cX10_image 1 2 44 := F
  refine V_sub (ls' := [(0, .ref ((zg Z).1 42))]) [0] rfl ?_
  unfold fX10_image at h0
  refine r_aload_n (pc := 0) F dX10_image_0 rfl ?_
  refine r_iconst (pc := 1) F dX10_image_1 ic_1 ?_
  obtain ⟨w1, ew1, h0⟩ := lt_some h0
  refine r_putI (pc := 2) F dX10_image_2 fl_10_181 fp_10_18 i68_42 (ce_42 _) (Nat.le_of_ble_eq_true rfl) rfl rfl rfl ew1 ?_
  refine r_aload_n (pc := 5) F dX10_image_5 rfl ?_
  refine r_iconst (pc := 6) F dX10_image_6 ic_0 ?_
  refine r_iconst (pc := 7) F dX10_image_7 ic_1 ?_
  obtain ⟨w3, ew3, h0⟩ := bind_some h0
  refine r_Vv2 (pc := 8) F dX10_image_8 ml_10_157 (kX10_passesAll _ w1 0 1 w3 ew3) i68_42 (ce_42 _ _ _) (Nat.le_of_ble_eq_true rfl) (Nat.le_of_ble_eq_true rfl) (Nat.le_of_ble_eq_true rfl) ?_
  refine r_aload_n (pc := 11) F dX10_image_11 rfl ?_
  refine r_getf (pc := 12) F dX10_image_12 fl_10_127 i68_42 (ce_42 _ _ _) rfl ?_
  exact hR _ _ _ _ dX10_image_15 rfl (Option.some.inj h0)
set_option maxRecDepth 100000 in
set_option maxHeartbeats 4000000 in
theorem kX10_restore (g : GT) (w : Wd) (out : Int32 × Wd) (h0 : fX10_restore w = some out) : CtI g yX10_restore cX10_restore 1 (some .int) 2 44 [.ref (g.1 42)] w (fun r w1 => (r, w1) = out) := by
  refine CtI_of .int (by decide) (Nat.le_of_ble_eq_true rfl) (fun Z hg F hR => ?_)
  subst hg
  have F : Fx Z RX10 cX10_restore 1 2 44 := F
  refine V_sub (ls' := [(0, .ref ((zg Z).1 42))]) [0] rfl ?_
  unfold fX10_restore at h0
  refine r_aload_n (pc := 0) F dX10_restore_0 rfl ?_
  refine r_getf (pc := 1) F dX10_restore_1 fl_10_181 i68_42 (ce_42 _ _ _) rfl ?_
  refine r_if_ne (pc := 4) (tgt := 14) F dX10_restore_4 rfl h0 (fun h0 => ?_) (fun h0 => ?_)
  · refine r_aload_n (pc := 7) F dX10_restore_7 rfl ?_
    refine r_bipush (pc := 8) F dX10_restore_8 bp_m3 ?_
    obtain ⟨q3, er2, h0⟩ := bind_some h0
    replace h0 := un2_eq h0
    obtain ⟨r2, w1, rfl, h0⟩ := h0
    refine r_Vj1 (pc := 10) F dX10_restore_10 ml_10_99 (kX10_no _ w (-3) (r2, w1) er2) i68_42 (ce_42 _ _ _) (Nat.le_of_ble_eq_true rfl) (Nat.le_of_ble_eq_true rfl) (Nat.le_of_ble_eq_true rfl) ?_
    exact hR _ _ _ _ dX10_restore_13 rfl (Option.some.inj h0)
  · refine r_aload_n (pc := 14) F dX10_restore_14 rfl ?_
    refine r_iconst (pc := 15) F dX10_restore_15 ic_0 ?_
    refine r_iconst (pc := 16) F dX10_restore_16 ic_0 ?_
    obtain ⟨w5, ew5, h0⟩ := bind_some h0
    refine r_Vv2 (pc := 17) F dX10_restore_17 ml_10_157 (kX10_passesAll _ w 0 0 w5 ew5) i68_42 (ce_42 _ _ _) (Nat.le_of_ble_eq_true rfl) (Nat.le_of_ble_eq_true rfl) (Nat.le_of_ble_eq_true rfl) ?_
    refine r_aload_n (pc := 20) F dX10_restore_20 rfl ?_
    refine r_iconst (pc := 21) F dX10_restore_21 ic_0 ?_
    obtain ⟨w7, ew7, h0⟩ := lt_some h0
    refine r_putI (pc := 22) F dX10_restore_22 fl_10_164 fp_10_27 i68_42 (ce_42 _) (Nat.le_of_ble_eq_true rfl) rfl rfl rfl ew7 ?_
    refine r_aload_n (pc := 25) F dX10_restore_25 rfl ?_
    refine r_getf (pc := 26) F dX10_restore_26 fl_10_127 i68_42 (ce_42 _ _ _) rfl ?_
    exact hR _ _ _ _ dX10_restore_29 rfl (Option.some.inj h0)
set_option maxRecDepth 100000 in
set_option maxHeartbeats 4000000 in
theorem kX10_givesOf (g : GT) (w : Wd) (a0 : Int32) (out : Int32) (h0 : fX10_givesOf a0 = out) : CtI g yX10_givesOf cX10_givesOf 1 (some .int) 0 0 [.int a0] w (fun r w1 => r = out ∧ w1 = w) := by
  refine CtI_of .int (by decide) (Nat.le_of_ble_eq_true rfl) (fun Z hg F hR => ?_)
  subst hg
  have F : Fx Z RX10 cX10_givesOf 1 0 0 := F
  refine V_sub (ls' := [(0, .int a0)]) [0] rfl ?_
  unfold fX10_givesOf at h0
  refine r_iload_n (pc := 0) F dX10_givesOf_0 rfl ?_
  by_cases c1 : a0 = 0
  · rw [if_pos c1] at h0
    refine r_tsw (pc := 1) (tgt := 36) F dX10_givesOf_1 rfl (by rw [c1]; decide +kernel) ?_
    refine r_iconst (pc := 36) F dX10_givesOf_36 ic_2 ?_
    exact hR _ _ _ _ dX10_givesOf_37 rfl ⟨h0, rfl⟩
  rw [if_neg c1] at h0
  by_cases c2 : a0 = 3
  · rw [if_pos c2] at h0
    refine r_tsw (pc := 1) (tgt := 38) F dX10_givesOf_1 rfl (by rw [c2]; decide +kernel) ?_
    refine r_iconst (pc := 38) F dX10_givesOf_38 ic_3 ?_
    exact hR _ _ _ _ dX10_givesOf_39 rfl ⟨h0, rfl⟩
  rw [if_neg c2] at h0
  by_cases c3 : a0 = 4
  · rw [if_pos c3] at h0
    refine r_tsw (pc := 1) (tgt := 38) F dX10_givesOf_1 rfl (by rw [c3]; decide +kernel) ?_
    refine r_iconst (pc := 38) F dX10_givesOf_38 ic_3 ?_
    exact hR _ _ _ _ dX10_givesOf_39 rfl ⟨h0, rfl⟩
  rw [if_neg c3] at h0
  refine r_tsw (pc := 1) (tgt := 40) F dX10_givesOf_1 rfl (tsw_out (ks := [0, 3, 4]) rfl rfl (by decide +kernel) (List.forall_mem_cons.mpr ⟨sw_ne rfl c1, List.forall_mem_cons.mpr ⟨sw_ne rfl c2, List.forall_mem_cons.mpr ⟨sw_ne rfl c3, fun _ h => absurd h List.not_mem_nil⟩⟩⟩)) ?_
  refine r_iconst (pc := 40) F dX10_givesOf_40 ic_1 ?_
  exact hR _ _ _ _ dX10_givesOf_41 rfl ⟨h0, rfl⟩
set_option maxRecDepth 100000 in
set_option maxHeartbeats 4000000 in
theorem kX10_person (g : GT) (w : Wd) (a1 : Int32) (a2 : Int32) (out : Int32 × Wd) (h0 : fX10_person w a1 a2 = some out) : CtI g yX10_person cX10_person 3 (some .int) 4 91 [.ref (g.1 42), .int a1, .int a2] w (fun r w1 => (r, w1) = out) := by
  refine CtI_of .int (by decide) (Nat.le_of_ble_eq_true rfl) (fun Z hg F hR => ?_)
  subst hg
  have F : Fx Z RX10 cX10_person 3 4 91 := F
  refine V_sub (ls' := [(0, .ref ((zg Z).1 42)), (1, .int a1), (2, .int a2)]) [0, 1, 2] rfl ?_
  unfold fX10_person at h0
  refine r_aload_n (pc := 0) F dX10_person_0 rfl ?_
  refine r_iload_n (pc := 1) F dX10_person_1 rfl ?_
  refine r_Vi1 (pc := 2) F dX10_person_2 ml_10_144 (kX10_isPerson _ w a1 _ rfl) i68_42 (ce_42 _ _ _) (Nat.le_of_ble_eq_true rfl) (Nat.le_of_ble_eq_true rfl) (Nat.le_of_ble_eq_true rfl) ?_
  refine r_if_ne (pc := 5) (tgt := 14) F dX10_person_5 rfl h0 (fun h0 => ?_) (fun h0 => ?_)
  · refine r_aload_n (pc := 8) F dX10_person_8 rfl ?_
    refine r_iconst (pc := 9) F dX10_person_9 ic_m1 ?_
    obtain ⟨q3, er2, h0⟩ := bind_some h0
    replace h0 := un2_eq h0
    obtain ⟨r2, w1, rfl, h0⟩ := h0
    refine r_Vj1 (pc := 10) F dX10_person_10 ml_10_99 (kX10_no _ w (-1) (r2, w1) er2) i68_42 (ce_42 _ _ _) (Nat.le_of_ble_eq_true rfl) (Nat.le_of_ble_eq_true rfl) (Nat.le_of_ble_eq_true rfl) ?_
    exact hR _ _ _ _ dX10_person_13 rfl (Option.some.inj h0)
  · refine r_iload_n (pc := 14) F dX10_person_14 rfl ?_
    by_cases c5 : a2 = 0
    · rw [if_pos c5] at h0
      refine r_tsw (pc := 15) (tgt := 56) F dX10_person_15 rfl (by rw [c5]; decide +kernel) ?_
      refine r_aload_n (pc := 56) F dX10_person_56 rfl ?_
      refine r_getf (pc := 57) F dX10_person_57 fl_10_16 i68_42 (ce_42 _ _ _) rfl ?_
      refine r_iload_n (pc := 60) F dX10_person_60 rfl ?_
      obtain ⟨g6, h0⟩ := gd_some h0
      refine r_iald (pc := 61) F dX10_person_61 i68_45 (ca_45 _) g6 rfl ?_
      exact hR _ _ _ _ dX10_person_62 rfl (Option.some.inj h0)
    rw [if_neg c5] at h0
    by_cases c7 : a2 = 1
    · rw [if_pos c7] at h0
      refine r_tsw (pc := 15) (tgt := 63) F dX10_person_15 rfl (by rw [c7]; decide +kernel) ?_
      refine r_aload_n (pc := 63) F dX10_person_63 rfl ?_
      refine r_getf (pc := 64) F dX10_person_64 fl_10_19 i68_42 (ce_42 _ _ _) rfl ?_
      refine r_iload_n (pc := 67) F dX10_person_67 rfl ?_
      obtain ⟨g8, h0⟩ := gd_some h0
      refine r_iald (pc := 68) F dX10_person_68 i68_46 (ca_46 _) g8 rfl ?_
      exact hR _ _ _ _ dX10_person_69 rfl (Option.some.inj h0)
    rw [if_neg c7] at h0
    by_cases c9 : a2 = 2
    · rw [if_pos c9] at h0
      refine r_tsw (pc := 15) (tgt := 70) F dX10_person_15 rfl (by rw [c9]; decide +kernel) ?_
      refine r_aload_n (pc := 70) F dX10_person_70 rfl ?_
      refine r_getf (pc := 71) F dX10_person_71 fl_10_124 i68_42 (ce_42 _ _ _) rfl ?_
      refine r_iload_n (pc := 74) F dX10_person_74 rfl ?_
      refine r_ishr (pc := 75) F dX10_person_75 ?_
      refine r_iconst (pc := 76) F dX10_person_76 ic_1 ?_
      refine r_iand (pc := 77) F dX10_person_77 ?_
      exact hR _ _ _ _ dX10_person_78 rfl (Option.some.inj h0)
    rw [if_neg c9] at h0
    by_cases c10 : a2 = 3
    · rw [if_pos c10] at h0
      refine r_tsw (pc := 15) (tgt := 79) F dX10_person_15 rfl (by rw [c10]; decide +kernel) ?_
      refine r_aload_n (pc := 79) F dX10_person_79 rfl ?_
      refine r_getf (pc := 80) F dX10_person_80 fl_10_16 i68_42 (ce_42 _ _ _) rfl ?_
      refine r_iload_n (pc := 83) F dX10_person_83 rfl ?_
      obtain ⟨g11, h0⟩ := gd_some h0
      refine r_iald (pc := 84) F dX10_person_84 i68_45 (ca_45 _) g11 rfl ?_
      refine r_Si1 (pc := 85) F dX10_person_85 ml_10_194 (kX10_coverOf _ w (w.1 45 a1.toNatClampNeg) _ rfl) (Nat.le_of_ble_eq_true rfl) (Nat.le_of_ble_eq_true rfl) (Nat.le_of_ble_eq_true rfl) ?_
      exact hR _ _ _ _ dX10_person_88 rfl (Option.some.inj h0)
    rw [if_neg c10] at h0
    by_cases c12 : a2 = 4
    · rw [if_pos c12] at h0
      refine r_tsw (pc := 15) (tgt := 89) F dX10_person_15 rfl (by rw [c12]; decide +kernel) ?_
      refine r_aload_n (pc := 89) F dX10_person_89 rfl ?_
      refine r_getf (pc := 90) F dX10_person_90 fl_10_16 i68_42 (ce_42 _ _ _) rfl ?_
      refine r_iload_n (pc := 93) F dX10_person_93 rfl ?_
      obtain ⟨g13, h0⟩ := gd_some h0
      refine r_iald (pc := 94) F dX10_person_94 i68_45 (ca_45 _) g13 rfl ?_
      refine r_aload_n (pc := 95) F dX10_person_95 rfl ?_
      refine r_getf (pc := 96) F dX10_person_96 fl_10_19 i68_42 (ce_42 _ _ _) rfl ?_
      refine r_iload_n (pc := 99) F dX10_person_99 rfl ?_
      refine r_iald (pc := 100) F dX10_person_100 i68_46 (ca_46 _) g13 rfl ?_
      refine r_Si2 (pc := 101) F dX10_person_101 ml_10_200 (kX10_holdsOf _ w (w.1 45 a1.toNatClampNeg) (w.1 46 a1.toNatClampNeg) _ rfl) (Nat.le_of_ble_eq_true rfl) (Nat.le_of_ble_eq_true rfl) (Nat.le_of_ble_eq_true rfl) ?_
      exact hR _ _ _ _ dX10_person_104 rfl (Option.some.inj h0)
    rw [if_neg c12] at h0
    by_cases c14 : a2 = 5
    · rw [if_pos c14] at h0
      refine r_tsw (pc := 15) (tgt := 105) F dX10_person_15 rfl (by rw [c14]; decide +kernel) ?_
      refine r_aload_n (pc := 105) F dX10_person_105 rfl ?_
      refine r_getf (pc := 106) F dX10_person_106 fl_10_16 i68_42 (ce_42 _ _ _) rfl ?_
      refine r_iload_n (pc := 109) F dX10_person_109 rfl ?_
      obtain ⟨g15, h0⟩ := gd_some h0
      refine r_iald (pc := 110) F dX10_person_110 i68_45 (ca_45 _) g15 rfl ?_
      refine r_Si1 (pc := 111) F dX10_person_111 ml_10_218 (kX10_givesOf _ w (w.1 45 a1.toNatClampNeg) _ rfl) (Nat.le_of_ble_eq_true rfl) (Nat.le_of_ble_eq_true rfl) (Nat.le_of_ble_eq_true rfl) ?_
      exact hR _ _ _ _ dX10_person_114 rfl (Option.some.inj h0)
    rw [if_neg c14] at h0
    by_cases c16 : a2 = 6
    · rw [if_pos c16] at h0
      refine r_tsw (pc := 15) (tgt := 115) F dX10_person_15 rfl (by rw [c16]; decide +kernel) ?_
      refine r_aload_n (pc := 115) F dX10_person_115 rfl ?_
      refine r_iload_n (pc := 116) F dX10_person_116 rfl ?_
      refine r_aload_n (pc := 117) F dX10_person_117 rfl ?_
      refine r_getf (pc := 118) F dX10_person_118 fl_10_127 i68_42 (ce_42 _ _ _) rfl ?_
      obtain ⟨r17, er17, h0⟩ := bind_some h0
      refine r_Vi2 (pc := 121) F dX10_person_121 ml_10_197 (kX10_feltBy _ w a1 (w.1 42 8) r17 er17) i68_42 (ce_42 _ _ _) (Nat.le_of_ble_eq_true rfl) (Nat.le_of_ble_eq_true rfl) (Nat.le_of_ble_eq_true rfl) ?_
      exact hR _ _ _ _ dX10_person_124 rfl (Option.some.inj h0)
    rw [if_neg c16] at h0
    refine r_tsw (pc := 15) (tgt := 125) F dX10_person_15 rfl (tsw_out (ks := [0, 1, 2, 3, 4, 5, 6]) rfl rfl (by decide +kernel) (List.forall_mem_cons.mpr ⟨sw_ne rfl c5, List.forall_mem_cons.mpr ⟨sw_ne rfl c7, List.forall_mem_cons.mpr ⟨sw_ne rfl c9, List.forall_mem_cons.mpr ⟨sw_ne rfl c10, List.forall_mem_cons.mpr ⟨sw_ne rfl c12, List.forall_mem_cons.mpr ⟨sw_ne rfl c14, List.forall_mem_cons.mpr ⟨sw_ne rfl c16, fun _ h => absurd h List.not_mem_nil⟩⟩⟩⟩⟩⟩⟩)) ?_
    refine r_aload_n (pc := 125) F dX10_person_125 rfl ?_
    refine r_bipush (pc := 126) F dX10_person_126 bp_m2 ?_
    obtain ⟨q20, er19, h0⟩ := bind_some h0
    replace h0 := un2_eq h0
    obtain ⟨r19, w18, rfl, h0⟩ := h0
    refine r_Vj1 (pc := 128) F dX10_person_128 ml_10_99 (kX10_no _ w (-2) (r19, w18) er19) i68_42 (ce_42 _ _ _) (Nat.le_of_ble_eq_true rfl) (Nat.le_of_ble_eq_true rfl) (Nat.le_of_ble_eq_true rfl) ?_
    exact hR _ _ _ _ dX10_person_131 rfl (Option.some.inj h0)
set_option maxRecDepth 100000 in
set_option maxHeartbeats 4000000 in
theorem kX10_light (g : GT) (w : Wd) (a1 : Int32) (a2 : Int32) (out : Int32 × Wd) (h0 : fX10_light w a1 a2 = some out) : CtI g yX10_light cX10_light 5 (some .int) 1 22 [.ref (g.1 42), .int a1, .int a2] w (fun r w1 => (r, w1) = out) := by
  refine CtI_of .int (by decide) (Nat.le_of_ble_eq_true rfl) (fun Z hg F hR => ?_)
  subst hg
  have F : Fx Z RX10 cX10_light 5 1 22 := F
  refine V_sub (ls' := [(0, .ref ((zg Z).1 42)), (1, .int a1), (2, .int a2)]) [0, 1, 2] rfl ?_
  unfold fX10_light at h0
  refine r_aload_n (pc := 0) F dX10_light_0 rfl ?_
  refine r_iload_n (pc := 1) F dX10_light_1 rfl ?_
  refine r_Vi1 (pc := 2) F dX10_light_2 ml_10_144 (kX10_isPerson _ w a1 _ rfl) i68_42 (ce_42 _ _ _) (Nat.le_of_ble_eq_true rfl) (Nat.le_of_ble_eq_true rfl) (Nat.le_of_ble_eq_true rfl) ?_
  obtain ⟨v2, hv2, h0⟩ := bind_some h0
  suffices Jv2 : V Z 48 [(0, .ref ((zg Z).1 42)), (1, .int a1), (2, .int a2)] [.int v2] w by
    refine r_if_ne (pc := 5) (tgt := 12) F dX10_light_5 rfl hv2 (fun hv2 => ?_) (fun hv2 => ?_)
    · refine r_iconst (pc := 8) F dX10_light_8 ic_m1 ?_
      refine r_goto (pc := 9) (tgt := 48) F dX10_light_9 rfl ?_
      exact V_nm (Option.some.inj hv2).symm Jv2
    · refine r_iload_n (pc := 12) F dX10_light_12 rfl ?_
      refine r_iconst (pc := 13) F dX10_light_13 ic_0 ?_
      refine r_iconst (pc := 14) F dX10_light_14 ic_1 ?_
      refine r_Si3 (pc := 15) F dX10_light_15 ml_10_110 (kX10_isIn _ w a2 0 1 _ rfl) (Nat.le_of_ble_eq_true rfl) (Nat.le_of_ble_eq_true rfl) (Nat.le_of_ble_eq_true rfl) ?_
      refine r_if_ne (pc := 18) (tgt := 26) F dX10_light_18 rfl hv2 (fun hv2 => ?_) (fun hv2 => ?_)
      · refine r_bipush (pc := 21) F dX10_light_21 bp_m2 ?_
        refine r_goto (pc := 23) (tgt := 48) F dX10_light_23 rfl ?_
        exact V_nm (Option.some.inj hv2).symm Jv2
      · refine r_aload_n (pc := 26) F dX10_light_26 rfl ?_
        refine r_getf (pc := 27) F dX10_light_27 fl_10_16 i68_42 (ce_42 _ _ _) rfl ?_
        refine r_iload_n (pc := 30) F dX10_light_30 rfl ?_
        obtain ⟨g3, hv2⟩ := gd_some hv2
        refine r_iald (pc := 31) F dX10_light_31 i68_45 (ca_45 _) g3 rfl ?_
        refine r_bipush (pc := 32) F dX10_light_32 bp_6 ?_
        refine r_icmp_ne (pc := 34) (tgt := 47) F dX10_light_34 rfl hv2 (fun hv2 => ?_) (fun hv2 => ?_)
        · refine r_iload_n (pc := 37) F dX10_light_37 rfl ?_
          refine r_iconst (pc := 38) F dX10_light_38 ic_1 ?_
          refine r_icmp_ne (pc := 39) (tgt := 47) F dX10_light_39 rfl hv2 (fun hv2 => ?_) (fun hv2 => ?_)
          · refine r_bipush (pc := 42) F dX10_light_42 bp_m3 ?_
            refine r_goto (pc := 44) (tgt := 48) F dX10_light_44 rfl ?_
            exact V_nm (Option.some.inj hv2).symm Jv2
          · refine r_iconst (pc := 47) F dX10_light_47 ic_0 ?_
            exact V_nm (Option.some.inj hv2).symm Jv2
        · refine r_iconst (pc := 47) F dX10_light_47 ic_0 ?_
          exact V_nm (Option.some.inj hv2).symm Jv2
  refine r_istore_n (pc := 48) (ls' := [(0, .ref ((zg Z).1 42)), (1, .int a1), (2, .int a2), (3, .int v2)]) F dX10_light_48 (Nat.le_of_ble_eq_true rfl) rfl ?_
  refine r_iload_n (pc := 49) F dX10_light_49 rfl ?_
  refine r_if_eq (pc := 50) (tgt := 59) F dX10_light_50 rfl h0 (fun h0 => ?_) (fun h0 => ?_)
  · refine r_aload_n (pc := 59) F dX10_light_59 rfl ?_
    refine r_getf (pc := 60) F dX10_light_60 fl_10_124 i68_42 (ce_42 _ _ _) rfl ?_
    refine r_iload_n (pc := 63) F dX10_light_63 rfl ?_
    refine r_ishr (pc := 64) F dX10_light_64 ?_
    refine r_iconst (pc := 65) F dX10_light_65 ic_1 ?_
    refine r_iand (pc := 66) F dX10_light_66 ?_
    obtain ⟨v7, ev7, h0⟩ := lt_some h0
    refine V_nm ev7 ?_
    refine r_istore (pc := 67) (ls' := [(0, .ref ((zg Z).1 42)), (1, .int a1), (2, .int a2), (3, .int v2), (4, .int v7)]) F dX10_light_67 (Nat.le_of_ble_eq_true rfl) rfl ?_
    refine r_aload_n (pc := 69) F dX10_light_69 rfl ?_
    refine r_aload_n (pc := 70) F dX10_light_70 rfl ?_
    refine r_getf (pc := 71) F dX10_light_71 fl_10_124 i68_42 (ce_42 _ _ _) rfl ?_
    refine r_iconst (pc := 74) F dX10_light_74 ic_1 ?_
    refine r_iload_n (pc := 75) F dX10_light_75 rfl ?_
    refine r_ishl (pc := 76) F dX10_light_76 ?_
    refine r_iconst (pc := 77) F dX10_light_77 ic_m1 ?_
    refine r_ixor (pc := 78) F dX10_light_78 ?_
    refine r_iand (pc := 79) F dX10_light_79 ?_
    refine r_iload_n (pc := 80) F dX10_light_80 rfl ?_
    refine r_iload_n (pc := 81) F dX10_light_81 rfl ?_
    refine r_ishl (pc := 82) F dX10_light_82 ?_
    refine r_ior (pc := 83) F dX10_light_83 ?_
    obtain ⟨w8, ew8, h0⟩ := lt_some h0
    refine r_putI (pc := 84) F dX10_light_84 fl_10_124 fp_10_7 i68_42 (ce_42 _) (Nat.le_of_ble_eq_true rfl) rfl rfl rfl ew8 ?_
    refine r_aload_n (pc := 87) F dX10_light_87 rfl ?_
    refine r_iconst (pc := 88) F dX10_light_88 ic_0 ?_
    obtain ⟨w10, ew10, h0⟩ := lt_some h0
    refine r_putI (pc := 89) F dX10_light_89 fl_10_164 fp_10_27 i68_42 (ce_42 _) (Nat.le_of_ble_eq_true rfl) rfl rfl rfl ew10 ?_
    refine r_iload (pc := 92) F dX10_light_92 rfl ?_
    exact hR _ _ _ _ dX10_light_94 rfl (Option.some.inj h0)
  · refine r_aload_n (pc := 53) F dX10_light_53 rfl ?_
    refine r_iload_n (pc := 54) F dX10_light_54 rfl ?_
    obtain ⟨q14, er13, h0⟩ := bind_some h0
    replace h0 := un2_eq h0
    obtain ⟨r13, w12, rfl, h0⟩ := h0
    refine r_Vj1 (pc := 55) F dX10_light_55 ml_10_99 (kX10_no _ w v2 (r13, w12) er13) i68_42 (ce_42 _ _ _) (Nat.le_of_ble_eq_true rfl) (Nat.le_of_ble_eq_true rfl) (Nat.le_of_ble_eq_true rfl) ?_
    exact hR _ _ _ _ dX10_light_58 rfl (Option.some.inj h0)
set_option maxRecDepth 100000 in
set_option maxHeartbeats 4000000 in
theorem kX10_becomes (g : GT) (w : Wd) (a1 : Int32) (a2 : Int32) (out : Wd) (h0 : fX10_becomes w a1 a2 = some out) : CtV g yX10_becomes cX10_becomes 3 none 0 0 [.ref (g.1 42), .int a1, .int a2] w (fun w1 => w1 = out) := by
  refine CtV_of (by decide) (Nat.le_of_ble_eq_true rfl) (fun Z hg F hR => ?_)
  subst hg
  have F : Fx Z RX10 cX10_becomes 3 0 0 := F
  refine V_sub (ls' := [(0, .ref ((zg Z).1 42)), (1, .int a1), (2, .int a2)]) [0, 1, 2] rfl ?_
  unfold fX10_becomes at h0
  refine r_aload_n (pc := 0) F dX10_becomes_0 rfl ?_
  refine r_getf (pc := 1) F dX10_becomes_1 fl_10_16 i68_42 (ce_42 _ _ _) rfl ?_
  refine r_iload_n (pc := 4) F dX10_becomes_4 rfl ?_
  refine r_iload_n (pc := 5) F dX10_becomes_5 rfl ?_
  obtain ⟨g2, h0⟩ := gd_some h0
  obtain ⟨w1, ew1, h0⟩ := lt_some h0
  refine r_iast (pc := 6) F dX10_becomes_6 i68_45 (ca_45 _) g2 rfl ew1 ?_
  refine r_iload_n (pc := 7) F dX10_becomes_7 rfl ?_
  refine r_bipush (pc := 8) F dX10_becomes_8 bp_6 ?_
  refine r_icmp_ne (pc := 10) (tgt := 27) F dX10_becomes_10 rfl h0 (fun h0 => ?_) (fun h0 => ?_)
  · refine r_aload_n (pc := 13) F dX10_becomes_13 rfl ?_
    refine r_dup (pc := 14) F dX10_becomes_14 rfl ?_
    refine r_getf (pc := 15) F dX10_becomes_15 fl_10_124 i68_42 (ce_42 _ _ _) rfl ?_
    refine r_iconst (pc := 18) F dX10_becomes_18 ic_1 ?_
    refine r_iload_n (pc := 19) F dX10_becomes_19 rfl ?_
    refine r_ishl (pc := 20) F dX10_becomes_20 ?_
    refine r_iconst (pc := 21) F dX10_becomes_21 ic_m1 ?_
    refine r_ixor (pc := 22) F dX10_becomes_22 ?_
    refine r_iand (pc := 23) F dX10_becomes_23 ?_
    obtain ⟨w4, ew4, h0⟩ := lt_some h0
    refine r_putI (pc := 24) F dX10_becomes_24 fl_10_124 fp_10_7 i68_42 (ce_42 _) (Nat.le_of_ble_eq_true rfl) rfl rfl rfl ew4 ?_
    exact hR _ _ _ dX10_becomes_27 (Option.some.inj h0)
  · exact hR _ _ _ dX10_becomes_27 (Option.some.inj h0)
set_option maxRecDepth 100000 in
set_option maxHeartbeats 4000000 in
theorem kX10_kind (g : GT) (w : Wd) (a1 : Int32) (a2 : Int32) (a3 : Int32) (out : Int32 × Wd) (h0 : fX10_kind w a1 a2 a3 = some out) : CtI g yX10_kind cX10_kind 6 (some .int) 1 22 [.ref (g.1 42), .int a1, .int a2, .int a3] w (fun r w1 => (r, w1) = out) := by
  refine CtI_of .int (by decide) (Nat.le_of_ble_eq_true rfl) (fun Z hg F hR => ?_)
  subst hg
  have F : Fx Z RX10 cX10_kind 6 1 22 := F
  refine V_sub (ls' := [(0, .ref ((zg Z).1 42)), (1, .int a1), (2, .int a2), (3, .int a3)]) [0, 1, 2, 3] rfl ?_
  unfold fX10_kind at h0
  refine r_aload_n (pc := 0) F dX10_kind_0 rfl ?_
  refine r_iload_n (pc := 1) F dX10_kind_1 rfl ?_
  refine r_Vi1 (pc := 2) F dX10_kind_2 ml_10_144 (kX10_isPerson _ w a1 _ rfl) i68_42 (ce_42 _ _ _) (Nat.le_of_ble_eq_true rfl) (Nat.le_of_ble_eq_true rfl) (Nat.le_of_ble_eq_true rfl) ?_
  obtain ⟨v1, hv1, h0⟩ := lt_some h0
  have hv1 := hv1.symm
  suffices Jv1 : V Z 34 [(0, .ref ((zg Z).1 42)), (1, .int a1), (2, .int a2), (3, .int a3)] [.int v1] w by
    refine r_if_ne (pc := 5) (tgt := 12) F dX10_kind_5 rfl hv1 (fun hv1 => ?_) (fun hv1 => ?_)
    · refine r_iconst (pc := 8) F dX10_kind_8 ic_m1 ?_
      refine r_goto (pc := 9) (tgt := 34) F dX10_kind_9 rfl ?_
      exact V_nm hv1.symm Jv1
    · refine r_iload_n (pc := 12) F dX10_kind_12 rfl ?_
      refine r_iconst (pc := 13) F dX10_kind_13 ic_0 ?_
      refine r_bipush (pc := 14) F dX10_kind_14 bp_6 ?_
      refine r_Si3 (pc := 16) F dX10_kind_16 ml_10_110 (kX10_isIn _ w a2 0 6 _ rfl) (Nat.le_of_ble_eq_true rfl) (Nat.le_of_ble_eq_true rfl) (Nat.le_of_ble_eq_true rfl) ?_
      refine r_if_ne (pc := 19) (tgt := 27) F dX10_kind_19 rfl hv1 (fun hv1 => ?_) (fun hv1 => ?_)
      · refine r_bipush (pc := 22) F dX10_kind_22 bp_m2 ?_
        refine r_goto (pc := 24) (tgt := 34) F dX10_kind_24 rfl ?_
        exact V_nm hv1.symm Jv1
      · refine r_iload_n (pc := 27) F dX10_kind_27 rfl ?_
        refine r_iconst (pc := 28) F dX10_kind_28 ic_0 ?_
        refine r_bipush (pc := 29) F dX10_kind_29 bp_9 ?_
        refine r_Si3 (pc := 31) F dX10_kind_31 ml_10_92 (kX10_bound _ w a3 0 9 _ rfl) (Nat.le_of_ble_eq_true rfl) (Nat.le_of_ble_eq_true rfl) (Nat.le_of_ble_eq_true rfl) ?_
        exact V_nm hv1.symm Jv1
  refine r_istore (pc := 34) (ls' := [(0, .ref ((zg Z).1 42)), (1, .int a1), (2, .int a2), (3, .int a3), (4, .int v1)]) F dX10_kind_34 (Nat.le_of_ble_eq_true rfl) rfl ?_
  refine r_iload (pc := 36) F dX10_kind_36 rfl ?_
  refine r_if_eq (pc := 38) (tgt := 48) F dX10_kind_38 rfl h0 (fun h0 => ?_) (fun h0 => ?_)
  · refine r_bipush (pc := 48) F dX10_kind_48 bp_10 ?_
    refine r_aload_n (pc := 50) F dX10_kind_50 rfl ?_
    refine r_getf (pc := 51) F dX10_kind_51 fl_10_16 i68_42 (ce_42 _ _ _) rfl ?_
    refine r_iload_n (pc := 54) F dX10_kind_54 rfl ?_
    obtain ⟨g3, h0⟩ := gd_some h0
    refine r_iald (pc := 55) F dX10_kind_55 i68_45 (ca_45 _) g3 rfl ?_
    refine r_imul (pc := 56) F dX10_kind_56 ?_
    refine r_aload_n (pc := 57) F dX10_kind_57 rfl ?_
    refine r_getf (pc := 58) F dX10_kind_58 fl_10_19 i68_42 (ce_42 _ _ _) rfl ?_
    refine r_iload_n (pc := 61) F dX10_kind_61 rfl ?_
    refine r_iald (pc := 62) F dX10_kind_62 i68_46 (ca_46 _) g3 rfl ?_
    refine r_iadd (pc := 63) F dX10_kind_63 ?_
    obtain ⟨v4, ev4, h0⟩ := lt_some h0
    refine V_nm ev4 ?_
    refine r_istore (pc := 64) (ls' := [(0, .ref ((zg Z).1 42)), (1, .int a1), (2, .int a2), (3, .int a3), (4, .int v1), (5, .int v4)]) F dX10_kind_64 (Nat.le_of_ble_eq_true rfl) rfl ?_
    refine r_aload_n (pc := 66) F dX10_kind_66 rfl ?_
    refine r_iload_n (pc := 67) F dX10_kind_67 rfl ?_
    refine r_iload_n (pc := 68) F dX10_kind_68 rfl ?_
    obtain ⟨w5, ew5, h0⟩ := bind_some h0
    refine r_Vv2 (pc := 69) F dX10_kind_69 ml_10_221 (kX10_becomes _ w a1 a2 w5 ew5) i68_42 (ce_42 _ _ _) (Nat.le_of_ble_eq_true rfl) (Nat.le_of_ble_eq_true rfl) (Nat.le_of_ble_eq_true rfl) ?_
    refine r_aload_n (pc := 72) F dX10_kind_72 rfl ?_
    refine r_getf (pc := 73) F dX10_kind_73 fl_10_19 i68_42 (ce_42 _ _ _) rfl ?_
    refine r_iload_n (pc := 76) F dX10_kind_76 rfl ?_
    refine r_iload_n (pc := 77) F dX10_kind_77 rfl ?_
    obtain ⟨w7, ew7, h0⟩ := lt_some h0
    refine r_iast (pc := 78) F dX10_kind_78 i68_46 (ca_46 _) g3 rfl ew7 ?_
    refine r_aload_n (pc := 79) F dX10_kind_79 rfl ?_
    refine r_iconst (pc := 80) F dX10_kind_80 ic_0 ?_
    obtain ⟨w9, ew9, h0⟩ := lt_some h0
    refine r_putI (pc := 81) F dX10_kind_81 fl_10_164 fp_10_27 i68_42 (ce_42 _) (Nat.le_of_ble_eq_true rfl) rfl rfl rfl ew9 ?_
    refine r_iload (pc := 84) F dX10_kind_84 rfl ?_
    exact hR _ _ _ _ dX10_kind_86 rfl (Option.some.inj h0)
  · refine r_aload_n (pc := 41) F dX10_kind_41 rfl ?_
    refine r_iload (pc := 42) F dX10_kind_42 rfl ?_
    obtain ⟨q13, er12, h0⟩ := bind_some h0
    replace h0 := un2_eq h0
    obtain ⟨r12, w11, rfl, h0⟩ := h0
    refine r_Vj1 (pc := 44) F dX10_kind_44 ml_10_99 (kX10_no _ w v1 (r12, w11) er12) i68_42 (ce_42 _ _ _) (Nat.le_of_ble_eq_true rfl) (Nat.le_of_ble_eq_true rfl) (Nat.le_of_ble_eq_true rfl) ?_
    exact hR _ _ _ _ dX10_kind_47 rfl (Option.some.inj h0)
set_option maxRecDepth 100000 in
set_option maxHeartbeats 4000000 in
theorem kX10_isPlace (g : GT) (w : Wd) (a0 : Int32) (out : Int32) (h0 : fX10_isPlace a0 = out) : CtI g yX10_isPlace cX10_isPlace 1 (some .boolean) 0 0 [.int a0] w (fun r w1 => r = out ∧ w1 = w) := by
  refine CtI_of .boolean (by decide) (Nat.le_of_ble_eq_true rfl) (fun Z hg F hR => ?_)
  subst hg
  have F : Fx Z RX10 cX10_isPlace 1 0 0 := F
  refine V_sub (ls' := [(0, .int a0)]) [0] rfl ?_
  unfold fX10_isPlace at h0
  refine r_iload_n (pc := 0) F dX10_isPlace_0 rfl ?_
  refine r_if_lt (pc := 1) (tgt := 14) F dX10_isPlace_1 rfl h0 (fun h0 => ?_) (fun h0 => ?_)
  · refine r_iconst (pc := 14) F dX10_isPlace_14 ic_0 ?_
    exact hR _ _ _ _ dX10_isPlace_15 rfl ⟨h0, rfl⟩
  · refine r_iload_n (pc := 4) F dX10_isPlace_4 rfl ?_
    refine r_bipush (pc := 5) F dX10_isPlace_5 bp_24 ?_
    refine r_icmp_gt (pc := 7) (tgt := 14) F dX10_isPlace_7 rfl h0 (fun h0 => ?_) (fun h0 => ?_)
    · refine r_iconst (pc := 14) F dX10_isPlace_14 ic_0 ?_
      exact hR _ _ _ _ dX10_isPlace_15 rfl ⟨h0, rfl⟩
    · refine r_iconst (pc := 10) F dX10_isPlace_10 ic_1 ?_
      refine r_goto (pc := 11) (tgt := 15) F dX10_isPlace_11 rfl ?_
      exact hR _ _ _ _ dX10_isPlace_15 rfl ⟨h0, rfl⟩
set_option maxRecDepth 100000 in
set_option maxHeartbeats 4000000 in
theorem kX10_wind (g : GT) (w : Wd) (a1 : Int32) (a2 : Int32) (out : Int32 × Wd) (h0 : fX10_wind w a1 a2 = some out) : CtI g yX10_wind cX10_wind 3 (some .int) 1 22 [.ref (g.1 42), .int a1, .int a2] w (fun r w1 => (r, w1) = out) := by
  refine CtI_of .int (by decide) (Nat.le_of_ble_eq_true rfl) (fun Z hg F hR => ?_)
  subst hg
  have F : Fx Z RX10 cX10_wind 3 1 22 := F
  refine V_sub (ls' := [(0, .ref ((zg Z).1 42)), (1, .int a1), (2, .int a2)]) [0, 1, 2] rfl ?_
  unfold fX10_wind at h0
  refine r_iload_n (pc := 0) F dX10_wind_0 rfl ?_
  refine r_Si1 (pc := 1) F dX10_wind_1 ml_10_225 (kX10_isPlace _ w a1 _ rfl) (Nat.le_of_ble_eq_true rfl) (Nat.le_of_ble_eq_true rfl) (Nat.le_of_ble_eq_true rfl) ?_
  refine r_if_ne (pc := 4) (tgt := 13) F dX10_wind_4 rfl h0 (fun h0 => ?_) (fun h0 => ?_)
  · refine r_aload_n (pc := 7) F dX10_wind_7 rfl ?_
    refine r_iconst (pc := 8) F dX10_wind_8 ic_m1 ?_
    obtain ⟨q3, er2, h0⟩ := bind_some h0
    replace h0 := un2_eq h0
    obtain ⟨r2, w1, rfl, h0⟩ := h0
    refine r_Vj1 (pc := 9) F dX10_wind_9 ml_10_99 (kX10_no _ w (-1) (r2, w1) er2) i68_42 (ce_42 _ _ _) (Nat.le_of_ble_eq_true rfl) (Nat.le_of_ble_eq_true rfl) (Nat.le_of_ble_eq_true rfl) ?_
    exact hR _ _ _ _ dX10_wind_12 rfl (Option.some.inj h0)
  · refine r_iload_n (pc := 13) F dX10_wind_13 rfl ?_
    refine r_iconst (pc := 14) F dX10_wind_14 ic_0 ?_
    refine r_iconst (pc := 15) F dX10_wind_15 ic_1 ?_
    refine r_Si3 (pc := 16) F dX10_wind_16 ml_10_110 (kX10_isIn _ w a2 0 1 _ rfl) (Nat.le_of_ble_eq_true rfl) (Nat.le_of_ble_eq_true rfl) (Nat.le_of_ble_eq_true rfl) ?_
    refine r_if_ne (pc := 19) (tgt := 29) F dX10_wind_19 rfl h0 (fun h0 => ?_) (fun h0 => ?_)
    · refine r_aload_n (pc := 22) F dX10_wind_22 rfl ?_
      refine r_bipush (pc := 23) F dX10_wind_23 bp_m2 ?_
      obtain ⟨q7, er6, h0⟩ := bind_some h0
      replace h0 := un2_eq h0
      obtain ⟨r6, w5, rfl, h0⟩ := h0
      refine r_Vj1 (pc := 25) F dX10_wind_25 ml_10_99 (kX10_no _ w (-2) (r6, w5) er6) i68_42 (ce_42 _ _ _) (Nat.le_of_ble_eq_true rfl) (Nat.le_of_ble_eq_true rfl) (Nat.le_of_ble_eq_true rfl) ?_
      exact hR _ _ _ _ dX10_wind_28 rfl (Option.some.inj h0)
    · refine r_iload_n (pc := 29) F dX10_wind_29 rfl ?_
      refine r_if_ne (pc := 30) (tgt := 42) F dX10_wind_30 rfl h0 (fun h0 => ?_) (fun h0 => ?_)
      · refine r_aload_n (pc := 33) F dX10_wind_33 rfl ?_
        refine r_getf (pc := 34) F dX10_wind_34 fl_10_22 i68_42 (ce_42 _ _ _) rfl ?_
        refine r_iload_n (pc := 37) F dX10_wind_37 rfl ?_
        obtain ⟨g9, h0⟩ := gd_some h0
        refine r_iald (pc := 38) F dX10_wind_38 i68_47 (ca_47 _) g9 rfl ?_
        refine r_goto (pc := 39) (tgt := 48) F dX10_wind_39 rfl ?_
        exact hR _ _ _ _ dX10_wind_48 rfl (Option.some.inj h0)
      · refine r_aload_n (pc := 42) F dX10_wind_42 rfl ?_
        refine r_getf (pc := 43) F dX10_wind_43 fl_10_25 i68_42 (ce_42 _ _ _) rfl ?_
        refine r_iload_n (pc := 46) F dX10_wind_46 rfl ?_
        obtain ⟨g10, h0⟩ := gd_some h0
        refine r_iald (pc := 47) F dX10_wind_47 i68_48 (ca_48 _) g10 rfl ?_
        exact hR _ _ _ _ dX10_wind_48 rfl (Option.some.inj h0)
set_option maxRecDepth 100000 in
set_option maxHeartbeats 4000000 in
theorem kX10_blows (g : GT) (w : Wd) (a1 : Int32) (a2 : Int32) (a3 : Int32) (out : Int32 × Wd) (h0 : fX10_blows w a1 a2 a3 = some out) : CtI g yX10_blows cX10_blows 6 (some .int) 1 21 [.ref (g.1 42), .int a1, .int a2, .int a3] w (fun r w1 => (r, w1) = out) := by
  refine CtI_of .int (by decide) (Nat.le_of_ble_eq_true rfl) (fun Z hg F hR => ?_)
  subst hg
  have F : Fx Z RX10 cX10_blows 6 1 21 := F
  refine V_sub (ls' := [(0, .ref ((zg Z).1 42)), (1, .int a1), (2, .int a2), (3, .int a3)]) [0, 1, 2, 3] rfl ?_
  unfold fX10_blows at h0
  refine r_iload_n (pc := 0) F dX10_blows_0 rfl ?_
  refine r_Si1 (pc := 1) F dX10_blows_1 ml_10_225 (kX10_isPlace _ w a1 _ rfl) (Nat.le_of_ble_eq_true rfl) (Nat.le_of_ble_eq_true rfl) (Nat.le_of_ble_eq_true rfl) ?_
  obtain ⟨v1, hv1, h0⟩ := lt_some h0
  have hv1 := hv1.symm
  suffices Jv1 : V Z 41 [(0, .ref ((zg Z).1 42)), (1, .int a1), (2, .int a2), (3, .int a3)] [.int v1] w by
    refine r_if_ne (pc := 4) (tgt := 11) F dX10_blows_4 rfl hv1 (fun hv1 => ?_) (fun hv1 => ?_)
    · refine r_iconst (pc := 7) F dX10_blows_7 ic_m1 ?_
      refine r_goto (pc := 8) (tgt := 41) F dX10_blows_8 rfl ?_
      exact V_nm hv1.symm Jv1
    · refine r_iload_n (pc := 11) F dX10_blows_11 rfl ?_
      refine r_if_lt (pc := 12) (tgt := 19) F dX10_blows_12 rfl hv1 (fun hv1 => ?_) (fun hv1 => ?_)
      · refine r_bipush (pc := 19) F dX10_blows_19 bp_m4 ?_
        refine r_goto (pc := 21) (tgt := 41) F dX10_blows_21 rfl ?_
        exact V_nm hv1.symm Jv1
      · refine r_iload_n (pc := 15) F dX10_blows_15 rfl ?_
        refine r_if_ge (pc := 16) (tgt := 24) F dX10_blows_16 rfl hv1 (fun hv1 => ?_) (fun hv1 => ?_)
        · refine r_iload_n (pc := 24) F dX10_blows_24 rfl ?_
          refine r_bipush (pc := 25) F dX10_blows_25 bp_9 ?_
          refine r_icmp_gt (pc := 27) (tgt := 35) F dX10_blows_27 rfl hv1 (fun hv1 => ?_) (fun hv1 => ?_)
          · refine r_bipush (pc := 35) F dX10_blows_35 bp_m6 ?_
            refine r_goto (pc := 37) (tgt := 41) F dX10_blows_37 rfl ?_
            exact V_nm hv1.symm Jv1
          · refine r_iload_n (pc := 30) F dX10_blows_30 rfl ?_
            refine r_iconst (pc := 31) F dX10_blows_31 ic_2 ?_
            refine r_icmp_le (pc := 32) (tgt := 40) F dX10_blows_32 rfl hv1 (fun hv1 => ?_) (fun hv1 => ?_)
            · refine r_iconst (pc := 40) F dX10_blows_40 ic_0 ?_
              exact V_nm hv1.symm Jv1
            · refine r_bipush (pc := 35) F dX10_blows_35 bp_m6 ?_
              refine r_goto (pc := 37) (tgt := 41) F dX10_blows_37 rfl ?_
              exact V_nm hv1.symm Jv1
        · refine r_bipush (pc := 19) F dX10_blows_19 bp_m4 ?_
          refine r_goto (pc := 21) (tgt := 41) F dX10_blows_21 rfl ?_
          exact V_nm hv1.symm Jv1
  refine r_istore (pc := 41) (ls' := [(0, .ref ((zg Z).1 42)), (1, .int a1), (2, .int a2), (3, .int a3), (4, .int v1)]) F dX10_blows_41 (Nat.le_of_ble_eq_true rfl) rfl ?_
  refine r_iload (pc := 43) F dX10_blows_43 rfl ?_
  refine r_if_eq (pc := 45) (tgt := 55) F dX10_blows_45 rfl h0 (fun h0 => ?_) (fun h0 => ?_)
  · refine r_bipush (pc := 55) F dX10_blows_55 bp_10 ?_
    refine r_aload_n (pc := 57) F dX10_blows_57 rfl ?_
    refine r_getf (pc := 58) F dX10_blows_58 fl_10_22 i68_42 (ce_42 _ _ _) rfl ?_
    refine r_iload_n (pc := 61) F dX10_blows_61 rfl ?_
    obtain ⟨g6, h0⟩ := gd_some h0
    refine r_iald (pc := 62) F dX10_blows_62 i68_47 (ca_47 _) g6 rfl ?_
    refine r_imul (pc := 63) F dX10_blows_63 ?_
    refine r_aload_n (pc := 64) F dX10_blows_64 rfl ?_
    refine r_getf (pc := 65) F dX10_blows_65 fl_10_25 i68_42 (ce_42 _ _ _) rfl ?_
    refine r_iload_n (pc := 68) F dX10_blows_68 rfl ?_
    refine r_iald (pc := 69) F dX10_blows_69 i68_48 (ca_48 _) g6 rfl ?_
    refine r_iadd (pc := 70) F dX10_blows_70 ?_
    obtain ⟨v7, ev7, h0⟩ := lt_some h0
    refine V_nm ev7 ?_
    refine r_istore (pc := 71) (ls' := [(0, .ref ((zg Z).1 42)), (1, .int a1), (2, .int a2), (3, .int a3), (4, .int v1), (5, .int v7)]) F dX10_blows_71 (Nat.le_of_ble_eq_true rfl) rfl ?_
    refine r_aload_n (pc := 73) F dX10_blows_73 rfl ?_
    refine r_getf (pc := 74) F dX10_blows_74 fl_10_22 i68_42 (ce_42 _ _ _) rfl ?_
    refine r_iload_n (pc := 77) F dX10_blows_77 rfl ?_
    refine r_iload_n (pc := 78) F dX10_blows_78 rfl ?_
    obtain ⟨w8, ew8, h0⟩ := lt_some h0
    refine r_iast (pc := 79) F dX10_blows_79 i68_47 (ca_47 _) g6 rfl ew8 ?_
    refine r_aload_n (pc := 80) F dX10_blows_80 rfl ?_
    refine r_getf (pc := 81) F dX10_blows_81 fl_10_25 i68_42 (ce_42 _ _ _) rfl ?_
    refine r_iload_n (pc := 84) F dX10_blows_84 rfl ?_
    refine r_iload_n (pc := 85) F dX10_blows_85 rfl ?_
    obtain ⟨w10, ew10, h0⟩ := lt_some h0
    refine r_iast (pc := 86) F dX10_blows_86 i68_48 (ca_48 _) g6 rfl ew10 ?_
    refine r_aload_n (pc := 87) F dX10_blows_87 rfl ?_
    refine r_iconst (pc := 88) F dX10_blows_88 ic_0 ?_
    obtain ⟨w12, ew12, h0⟩ := lt_some h0
    refine r_putI (pc := 89) F dX10_blows_89 fl_10_164 fp_10_27 i68_42 (ce_42 _) (Nat.le_of_ble_eq_true rfl) rfl rfl rfl ew12 ?_
    refine r_iload (pc := 92) F dX10_blows_92 rfl ?_
    exact hR _ _ _ _ dX10_blows_94 rfl (Option.some.inj h0)
  · refine r_aload_n (pc := 48) F dX10_blows_48 rfl ?_
    refine r_iload (pc := 49) F dX10_blows_49 rfl ?_
    obtain ⟨q16, er15, h0⟩ := bind_some h0
    replace h0 := un2_eq h0
    obtain ⟨r15, w14, rfl, h0⟩ := h0
    refine r_Vj1 (pc := 51) F dX10_blows_51 ml_10_99 (kX10_no _ w v1 (r15, w14) er15) i68_42 (ce_42 _ _ _) (Nat.le_of_ble_eq_true rfl) (Nat.le_of_ble_eq_true rfl) (Nat.le_of_ble_eq_true rfl) ?_
    exact hR _ _ _ _ dX10_blows_54 rfl (Option.some.inj h0)
set_option maxRecDepth 100000 in
set_option maxHeartbeats 4000000 in
theorem kX10_set (g : GT) (w : Wd) (a1 : Int32) (a2 : Int32) (out : Int32 × Wd) (h0 : fX10_set w a1 a2 = some out) : CtI g yX10_set cX10_set 5 (some .int) 1 22 [.ref (g.1 42), .int a1, .int a2] w (fun r w1 => (r, w1) = out) := by
  refine CtI_of .int (by decide) (Nat.le_of_ble_eq_true rfl) (fun Z hg F hR => ?_)
  subst hg
  have F : Fx Z RX10 cX10_set 5 1 22 := F
  refine V_sub (ls' := [(0, .ref ((zg Z).1 42)), (1, .int a1), (2, .int a2)]) [0, 1, 2] rfl ?_
  unfold fX10_set at h0
  have J59 : ∀ (w6 : Wd) (l5 : Int32), fX10_set_j59 a1 a2 w6 l5 = some out → V Z 59 [(0, .ref ((zg Z).1 42)), (1, .int a1), (2, .int a2), (3, .int l5)] [] w6 := by
    intro w6 l5 h0
    unfold fX10_set_j59 at h0
    refine r_iload_n (pc := 59) F dX10_set_59 rfl ?_
    refine r_if_eq (pc := 60) (tgt := 69) F dX10_set_60 rfl h0 (fun h0 => ?_) (fun h0 => ?_)
    · refine r_aload_n (pc := 69) F dX10_set_69 rfl ?_
      refine r_getf (pc := 70) F dX10_set_70 fl_10_13 i68_42 (ce_42 _ _ _) rfl ?_
      refine r_iload_n (pc := 73) F dX10_set_73 rfl ?_
      obtain ⟨g7, h0⟩ := gd_some h0
      refine r_iald (pc := 74) F dX10_set_74 i68_44 (ca_44 _) g7 rfl ?_
      obtain ⟨v8, ev8, h0⟩ := lt_some h0
      refine V_nm ev8 ?_
      refine r_istore (pc := 75) (ls' := [(0, .ref ((zg Z).1 42)), (1, .int a1), (2, .int a2), (3, .int l5), (4, .int v8)]) F dX10_set_75 (Nat.le_of_ble_eq_true rfl) rfl ?_
      refine r_aload_n (pc := 77) F dX10_set_77 rfl ?_
      refine r_getf (pc := 78) F dX10_set_78 fl_10_13 i68_42 (ce_42 _ _ _) rfl ?_
      refine r_iload_n (pc := 81) F dX10_set_81 rfl ?_
      refine r_iload_n (pc := 82) F dX10_set_82 rfl ?_
      obtain ⟨w9, ew9, h0⟩ := lt_some h0
      refine r_iast (pc := 83) F dX10_set_83 i68_44 (ca_44 _) g7 rfl ew9 ?_
      refine r_aload_n (pc := 84) F dX10_set_84 rfl ?_
      refine r_iconst (pc := 85) F dX10_set_85 ic_0 ?_
      obtain ⟨w11, ew11, h0⟩ := lt_some h0
      refine r_putI (pc := 86) F dX10_set_86 fl_10_164 fp_10_27 i68_42 (ce_42 _) (Nat.le_of_ble_eq_true rfl) rfl rfl rfl ew11 ?_
      refine r_iload (pc := 89) F dX10_set_89 rfl ?_
      exact hR _ _ _ _ dX10_set_91 rfl (Option.some.inj h0)
    · refine r_aload_n (pc := 63) F dX10_set_63 rfl ?_
      refine r_iload_n (pc := 64) F dX10_set_64 rfl ?_
      obtain ⟨q15, er14, h0⟩ := bind_some h0
      replace h0 := un2_eq h0
      obtain ⟨r14, w13, rfl, h0⟩ := h0
      refine r_Vj1 (pc := 65) F dX10_set_65 ml_10_99 (kX10_no _ w6 l5 (r14, w13) er14) i68_42 (ce_42 _ _ _) (Nat.le_of_ble_eq_true rfl) (Nat.le_of_ble_eq_true rfl) (Nat.le_of_ble_eq_true rfl) ?_
      exact hR _ _ _ _ dX10_set_68 rfl (Option.some.inj h0)
  refine r_iload_n (pc := 0) F dX10_set_0 rfl ?_
  refine r_iconst (pc := 1) F dX10_set_1 ic_0 ?_
  refine r_iconst (pc := 2) F dX10_set_2 ic_2 ?_
  refine r_Si3 (pc := 3) F dX10_set_3 ml_10_110 (kX10_isIn _ w a1 0 2 _ rfl) (Nat.le_of_ble_eq_true rfl) (Nat.le_of_ble_eq_true rfl) (Nat.le_of_ble_eq_true rfl) ?_
  obtain ⟨v1, hv1, h0⟩ := lt_some h0
  have hv1 := hv1.symm
  suffices Jv1 : V Z 38 [(0, .ref ((zg Z).1 42)), (1, .int a1), (2, .int a2)] [.int v1] w by
    refine r_if_ne (pc := 6) (tgt := 14) F dX10_set_6 rfl hv1 (fun hv1 => ?_) (fun hv1 => ?_)
    · refine r_bipush (pc := 9) F dX10_set_9 bp_m2 ?_
      refine r_goto (pc := 11) (tgt := 38) F dX10_set_11 rfl ?_
      exact V_nm hv1.symm Jv1
    · refine r_iload_n (pc := 14) F dX10_set_14 rfl ?_
      refine r_iload_n (pc := 15) F dX10_set_15 rfl ?_
      refine r_if_ne (pc := 16) (tgt := 23) F dX10_set_16 rfl hv1 (fun hv1 => ?_) (fun hv1 => ?_)
      · refine r_iconst (pc := 19) F dX10_set_19 ic_0 ?_
        refine r_goto (pc := 20) (tgt := 24) F dX10_set_20 rfl ?_
        refine r_iload_n (pc := 24) F dX10_set_24 rfl ?_
        refine r_iconst (pc := 25) F dX10_set_25 ic_2 ?_
        refine r_icmp_ne (pc := 26) (tgt := 34) F dX10_set_26 rfl hv1 (fun hv1 => ?_) (fun hv1 => ?_)
        · refine r_bipush (pc := 29) F dX10_set_29 bp_24 ?_
          refine r_goto (pc := 31) (tgt := 35) F dX10_set_31 rfl ?_
          refine r_Si3 (pc := 35) F dX10_set_35 ml_10_92 (kX10_bound _ w a2 0 24 _ rfl) (Nat.le_of_ble_eq_true rfl) (Nat.le_of_ble_eq_true rfl) (Nat.le_of_ble_eq_true rfl) ?_
          exact V_nm hv1.symm Jv1
        · refine r_iconst (pc := 34) F dX10_set_34 ic_2 ?_
          refine r_Si3 (pc := 35) F dX10_set_35 ml_10_92 (kX10_bound _ w a2 0 2 _ rfl) (Nat.le_of_ble_eq_true rfl) (Nat.le_of_ble_eq_true rfl) (Nat.le_of_ble_eq_true rfl) ?_
          exact V_nm hv1.symm Jv1
      · refine r_iconst (pc := 23) F dX10_set_23 ic_1 ?_
        refine r_iload_n (pc := 24) F dX10_set_24 rfl ?_
        refine r_iconst (pc := 25) F dX10_set_25 ic_2 ?_
        refine r_icmp_ne (pc := 26) (tgt := 34) F dX10_set_26 rfl hv1 (fun hv1 => ?_) (fun hv1 => ?_)
        · refine r_bipush (pc := 29) F dX10_set_29 bp_24 ?_
          refine r_goto (pc := 31) (tgt := 35) F dX10_set_31 rfl ?_
          refine r_Si3 (pc := 35) F dX10_set_35 ml_10_92 (kX10_bound _ w a2 1 24 _ rfl) (Nat.le_of_ble_eq_true rfl) (Nat.le_of_ble_eq_true rfl) (Nat.le_of_ble_eq_true rfl) ?_
          exact V_nm hv1.symm Jv1
        · refine r_iconst (pc := 34) F dX10_set_34 ic_2 ?_
          refine r_Si3 (pc := 35) F dX10_set_35 ml_10_92 (kX10_bound _ w a2 1 2 _ rfl) (Nat.le_of_ble_eq_true rfl) (Nat.le_of_ble_eq_true rfl) (Nat.le_of_ble_eq_true rfl) ?_
          exact V_nm hv1.symm Jv1
  refine r_istore_n (pc := 38) (ls' := [(0, .ref ((zg Z).1 42)), (1, .int a1), (2, .int a2), (3, .int v1)]) F dX10_set_38 (Nat.le_of_ble_eq_true rfl) rfl ?_
  refine r_iload_n (pc := 39) F dX10_set_39 rfl ?_
  refine r_if_ne (pc := 40) (tgt := 59) F dX10_set_40 rfl h0 (fun h0 => ?_) (fun h0 => ?_)
  · refine r_iload_n (pc := 43) F dX10_set_43 rfl ?_
    refine r_iconst (pc := 44) F dX10_set_44 ic_2 ?_
    refine r_icmp_ne (pc := 45) (tgt := 59) F dX10_set_45 rfl h0 (fun h0 => ?_) (fun h0 => ?_)
    · refine r_iload_n (pc := 48) F dX10_set_48 rfl ?_
      refine r_aload_n (pc := 49) F dX10_set_49 rfl ?_
      refine r_getf (pc := 50) F dX10_set_50 fl_10_127 i68_42 (ce_42 _ _ _) rfl ?_
      refine r_icmp_ge (pc := 53) (tgt := 59) F dX10_set_53 rfl h0 (fun h0 => ?_) (fun h0 => ?_)
      · exact J59 w v1 h0
      · refine r_bipush (pc := 56) F dX10_set_56 bp_m3 ?_
        refine r_istore_n (pc := 58) (ls' := [(0, .ref ((zg Z).1 42)), (1, .int a1), (2, .int a2), (3, .int (-3))]) F dX10_set_58 (Nat.le_of_ble_eq_true rfl) rfl ?_
        exact J59 w (-3) h0
    · exact J59 w v1 h0
  · exact J59 w v1 h0
set_option maxRecDepth 100000 in
set_option maxHeartbeats 4000000 in
theorem kX10_beside (g : GT) (w : Wd) (a1 : Int32) (out : Int32 × Wd) (h0 : fX10_beside w a1 = some out) : CtI g yX10_beside cX10_beside 2 (some .int) 3 65 [.ref (g.1 42), .int a1] w (fun r w1 => (r, w1) = out) := by
  refine CtI_of .int (by decide) (Nat.le_of_ble_eq_true rfl) (fun Z hg F hR => ?_)
  subst hg
  have F : Fx Z RX10 cX10_beside 2 3 65 := F
  refine V_sub (ls' := [(0, .ref ((zg Z).1 42)), (1, .int a1)]) [0, 1] rfl ?_
  unfold fX10_beside at h0
  refine r_aload_n (pc := 0) F dX10_beside_0 rfl ?_
  refine r_iload_n (pc := 1) F dX10_beside_1 rfl ?_
  refine r_Vi1 (pc := 2) F dX10_beside_2 ml_10_144 (kX10_isPerson _ w a1 _ rfl) i68_42 (ce_42 _ _ _) (Nat.le_of_ble_eq_true rfl) (Nat.le_of_ble_eq_true rfl) (Nat.le_of_ble_eq_true rfl) ?_
  refine r_if_eq (pc := 5) (tgt := 16) F dX10_beside_5 rfl h0 (fun h0 => ?_) (fun h0 => ?_)
  · refine r_aload_n (pc := 16) F dX10_beside_16 rfl ?_
    refine r_iconst (pc := 17) F dX10_beside_17 ic_m1 ?_
    obtain ⟨q3, er2, h0⟩ := bind_some h0
    replace h0 := un2_eq h0
    obtain ⟨r2, w1, rfl, h0⟩ := h0
    refine r_Vj1 (pc := 18) F dX10_beside_18 ml_10_99 (kX10_no _ w (-1) (r2, w1) er2) i68_42 (ce_42 _ _ _) (Nat.le_of_ble_eq_true rfl) (Nat.le_of_ble_eq_true rfl) (Nat.le_of_ble_eq_true rfl) ?_
    exact hR _ _ _ _ dX10_beside_21 rfl (Option.some.inj h0)
  · refine r_aload_n (pc := 8) F dX10_beside_8 rfl ?_
    refine r_iload_n (pc := 9) F dX10_beside_9 rfl ?_
    refine r_Vi1 (pc := 10) F dX10_beside_10 ml_10_206 (kX10_besideBits _ w a1 _ rfl) i68_42 (ce_42 _ _ _) (Nat.le_of_ble_eq_true rfl) (Nat.le_of_ble_eq_true rfl) (Nat.le_of_ble_eq_true rfl) ?_
    refine r_goto (pc := 13) (tgt := 21) F dX10_beside_13 rfl ?_
    exact hR _ _ _ _ dX10_beside_21 rfl (Option.some.inj h0)
set_option maxRecDepth 100000 in
set_option maxHeartbeats 4000000 in
theorem kX10_covers (g : GT) (w : Wd) (a1 : Int32) (a2 : Int32) (out : Int32 × Wd) (h0 : fX10_covers w a1 a2 = some out) : CtI g yX10_covers cX10_covers 3 (some .int) 3 67 [.ref (g.1 42), .int a1, .int a2] w (fun r w1 => (r, w1) = out) := by
  refine CtI_of .int (by decide) (Nat.le_of_ble_eq_true rfl) (fun Z hg F hR => ?_)
  subst hg
  have F : Fx Z RX10 cX10_covers 3 3 67 := F
  refine V_sub (ls' := [(0, .ref ((zg Z).1 42)), (1, .int a1), (2, .int a2)]) [0, 1, 2] rfl ?_
  unfold fX10_covers at h0
  have J24 : ∀ (w1 : Wd), fX10_covers_j24 w1 = some out → V Z 24 [(0, .ref ((zg Z).1 42))] [] w1 := by
    intro w1 h0
    unfold fX10_covers_j24 at h0
    refine r_aload_n (pc := 24) F dX10_covers_24 rfl ?_
    refine r_iconst (pc := 25) F dX10_covers_25 ic_m1 ?_
    obtain ⟨q4, er3, h0⟩ := bind_some h0
    replace h0 := un2_eq h0
    obtain ⟨r3, w2, rfl, h0⟩ := h0
    refine r_Vj1 (pc := 26) F dX10_covers_26 ml_10_99 (kX10_no _ w1 (-1) (r3, w2) er3) i68_42 (ce_42 _ _ _) (Nat.le_of_ble_eq_true rfl) (Nat.le_of_ble_eq_true rfl) (Nat.le_of_ble_eq_true rfl) ?_
    exact hR _ _ _ _ dX10_covers_29 rfl (Option.some.inj h0)
  refine r_aload_n (pc := 0) F dX10_covers_0 rfl ?_
  refine r_iload_n (pc := 1) F dX10_covers_1 rfl ?_
  refine r_Vi1 (pc := 2) F dX10_covers_2 ml_10_144 (kX10_isPerson _ w a1 _ rfl) i68_42 (ce_42 _ _ _) (Nat.le_of_ble_eq_true rfl) (Nat.le_of_ble_eq_true rfl) (Nat.le_of_ble_eq_true rfl) ?_
  refine r_if_eq (pc := 5) (tgt := 24) F dX10_covers_5 rfl h0 (fun h0 => ?_) (fun h0 => ?_)
  · refine V_sub (ls' := [(0, .ref ((zg Z).1 42))]) [0] rfl ?_
    exact J24 w h0
  · refine r_iload_n (pc := 8) F dX10_covers_8 rfl ?_
    refine r_Si1 (pc := 9) F dX10_covers_9 ml_10_225 (kX10_isPlace _ w a2 _ rfl) (Nat.le_of_ble_eq_true rfl) (Nat.le_of_ble_eq_true rfl) (Nat.le_of_ble_eq_true rfl) ?_
    refine r_if_eq (pc := 12) (tgt := 24) F dX10_covers_12 rfl h0 (fun h0 => ?_) (fun h0 => ?_)
    · refine V_sub (ls' := [(0, .ref ((zg Z).1 42))]) [0] rfl ?_
      exact J24 w h0
    · refine r_aload_n (pc := 15) F dX10_covers_15 rfl ?_
      refine r_iload_n (pc := 16) F dX10_covers_16 rfl ?_
      refine r_iload_n (pc := 17) F dX10_covers_17 rfl ?_
      obtain ⟨r6, er6, h0⟩ := bind_some h0
      refine r_Vi2 (pc := 18) F dX10_covers_18 ml_10_191 (kX10_coverer _ w a1 a2 r6 er6) i68_42 (ce_42 _ _ _) (Nat.le_of_ble_eq_true rfl) (Nat.le_of_ble_eq_true rfl) (Nat.le_of_ble_eq_true rfl) ?_
      refine r_goto (pc := 21) (tgt := 29) F dX10_covers_21 rfl ?_
      exact hR _ _ _ _ dX10_covers_29 rfl (Option.some.inj h0)
set_option maxRecDepth 100000 in
set_option maxHeartbeats 4000000 in
theorem kX10_back (g : GT) (w : Wd) (out : Int32 × Wd) (h0 : fX10_back w = some out) : CtI g yX10_back cX10_back 2 (some .int) 1 21 [.ref (g.1 42)] w (fun r w1 => (r, w1) = out) := by
  refine CtI_of .int (by decide) (Nat.le_of_ble_eq_true rfl) (fun Z hg F hR => ?_)
  subst hg
  have F : Fx Z RX10 cX10_back 2 1 21 := F
  refine V_sub (ls' := [(0, .ref ((zg Z).1 42))]) [0] rfl ?_
  unfold fX10_back at h0
  refine r_aload_n (pc := 0) F dX10_back_0 rfl ?_
  refine r_getf (pc := 1) F dX10_back_1 fl_10_164 i68_42 (ce_42 _ _ _) rfl ?_
  refine r_if_ne (pc := 4) (tgt := 14) F dX10_back_4 rfl h0 (fun h0 => ?_) (fun h0 => ?_)
  · refine r_aload_n (pc := 7) F dX10_back_7 rfl ?_
    refine r_bipush (pc := 8) F dX10_back_8 bp_m3 ?_
    obtain ⟨q3, er2, h0⟩ := bind_some h0
    replace h0 := un2_eq h0
    obtain ⟨r2, w1, rfl, h0⟩ := h0
    refine r_Vj1 (pc := 10) F dX10_back_10 ml_10_99 (kX10_no _ w (-3) (r2, w1) er2) i68_42 (ce_42 _ _ _) (Nat.le_of_ble_eq_true rfl) (Nat.le_of_ble_eq_true rfl) (Nat.le_of_ble_eq_true rfl) ?_
    exact hR _ _ _ _ dX10_back_13 rfl (Option.some.inj h0)
  · refine r_aload_n (pc := 14) F dX10_back_14 rfl ?_
    refine r_aload_n (pc := 15) F dX10_back_15 rfl ?_
    refine r_getf (pc := 16) F dX10_back_16 fl_10_49 i68_42 (ce_42 _ _ _) rfl ?_
    refine r_iconst (pc := 19) F dX10_back_19 ic_0 ?_
    refine r_iald (pc := 20) (j := 0) F dX10_back_20 i68_56 (ca_56 _) rfl rfl ?_
    obtain ⟨w5, ew5, h0⟩ := lt_some h0
    refine r_putI (pc := 21) F dX10_back_21 fl_10_124 fp_10_7 i68_42 (ce_42 _) (Nat.le_of_ble_eq_true rfl) rfl rfl rfl ew5 ?_
    refine r_aload_n (pc := 24) F dX10_back_24 rfl ?_
    refine r_aload_n (pc := 25) F dX10_back_25 rfl ?_
    refine r_getf (pc := 26) F dX10_back_26 fl_10_52 i68_42 (ce_42 _ _ _) rfl ?_
    refine r_iconst (pc := 29) F dX10_back_29 ic_0 ?_
    refine r_iald (pc := 30) (j := 0) F dX10_back_30 i68_57 (ca_57 _) rfl rfl ?_
    obtain ⟨w7, ew7, h0⟩ := lt_some h0
    refine r_putI (pc := 31) F dX10_back_31 fl_10_127 fp_10_8 i68_42 (ce_42 _) (Nat.le_of_ble_eq_true rfl) rfl rfl rfl ew7 ?_
    refine r_aload_n (pc := 34) F dX10_back_34 rfl ?_
    refine r_aload_n (pc := 35) F dX10_back_35 rfl ?_
    refine r_getf (pc := 36) F dX10_back_36 fl_10_55 i68_42 (ce_42 _ _ _) rfl ?_
    refine r_iconst (pc := 39) F dX10_back_39 ic_0 ?_
    refine r_iald (pc := 40) (j := 0) F dX10_back_40 i68_58 (ca_58 _) rfl rfl ?_
    obtain ⟨w9, ew9, h0⟩ := lt_some h0
    refine r_putI (pc := 41) F dX10_back_41 fl_10_133 fp_10_9 i68_42 (ce_42 _) (Nat.le_of_ble_eq_true rfl) rfl rfl rfl ew9 ?_
    refine r_iconst (pc := 44) F dX10_back_44 ic_0 ?_
    refine r_istore_n (pc := 45) (ls' := [(0, .ref ((zg Z).1 42)), (1, .int 0)]) F dX10_back_45 (Nat.le_of_ble_eq_true rfl) rfl ?_
    obtain ⟨w25, iw25, h0⟩ := bind_some h0
    suffices E46 : V Z 100 [(0, .ref ((zg Z).1 42))] [] w25 by
      refine iter_rule (P := fun s : Int32 × Wd => V Z 46 [(0, .ref ((zg Z).1 42)), (1, .int (s.1))] [] s.2) (x := w25) ?_ FU (0, w9) iw25
      intro s y1 h1 hP1 hX1
      obtain ⟨l11, w12⟩ := s
      have h1 : fX10_back_b46 l11 w12 = some y1 := h1
      unfold fX10_back_b46 at h1
      refine r_iload_n (pc := 46) F dX10_back_46 rfl ?_
      refine r_bipush (pc := 47) F dX10_back_47 bp_7 ?_
      refine r_icmp_ge (pc := 49) (tgt := 100) F dX10_back_49 rfl h1 (fun h1 => ?_) (fun h1 => ?_)
      · refine V_sub (ls' := [(0, .ref ((zg Z).1 42))]) [0] rfl ?_
        have e13 := hX1 _ (Option.some.inj h1).symm
        cases e13
        exact E46
      · refine r_aload_n (pc := 52) F dX10_back_52 rfl ?_
        refine r_getf (pc := 53) F dX10_back_53 fl_10_49 i68_42 (ce_42 _ _ _) rfl ?_
        refine r_iload_n (pc := 56) F dX10_back_56 rfl ?_
        refine r_aload_n (pc := 57) F dX10_back_57 rfl ?_
        refine r_getf (pc := 58) F dX10_back_58 fl_10_49 i68_42 (ce_42 _ _ _) rfl ?_
        refine r_iload_n (pc := 61) F dX10_back_61 rfl ?_
        refine r_iconst (pc := 62) F dX10_back_62 ic_1 ?_
        refine r_iadd (pc := 63) F dX10_back_63 ?_
        obtain ⟨g14, h1⟩ := gd_some h1
        refine r_iald (pc := 64) F dX10_back_64 i68_56 (ca_56 _) g14 rfl ?_
        obtain ⟨g16, h1⟩ := gd_some h1
        obtain ⟨w15, ew15, h1⟩ := lt_some h1
        refine r_iast (pc := 65) F dX10_back_65 i68_56 (ca_56 _) g16 rfl ew15 ?_
        refine r_aload_n (pc := 66) F dX10_back_66 rfl ?_
        refine r_getf (pc := 67) F dX10_back_67 fl_10_52 i68_42 (ce_42 _ _ _) rfl ?_
        refine r_iload_n (pc := 70) F dX10_back_70 rfl ?_
        refine r_aload_n (pc := 71) F dX10_back_71 rfl ?_
        refine r_getf (pc := 72) F dX10_back_72 fl_10_52 i68_42 (ce_42 _ _ _) rfl ?_
        refine r_iload_n (pc := 75) F dX10_back_75 rfl ?_
        refine r_iconst (pc := 76) F dX10_back_76 ic_1 ?_
        refine r_iadd (pc := 77) F dX10_back_77 ?_
        refine r_iald (pc := 78) F dX10_back_78 i68_57 (ca_57 _) g14 rfl ?_
        obtain ⟨w18, ew18, h1⟩ := lt_some h1
        refine r_iast (pc := 79) F dX10_back_79 i68_57 (ca_57 _) g16 rfl ew18 ?_
        refine r_aload_n (pc := 80) F dX10_back_80 rfl ?_
        refine r_getf (pc := 81) F dX10_back_81 fl_10_55 i68_42 (ce_42 _ _ _) rfl ?_
        refine r_iload_n (pc := 84) F dX10_back_84 rfl ?_
        refine r_aload_n (pc := 85) F dX10_back_85 rfl ?_
        refine r_getf (pc := 86) F dX10_back_86 fl_10_55 i68_42 (ce_42 _ _ _) rfl ?_
        refine r_iload_n (pc := 89) F dX10_back_89 rfl ?_
        refine r_iconst (pc := 90) F dX10_back_90 ic_1 ?_
        refine r_iadd (pc := 91) F dX10_back_91 ?_
        refine r_iald (pc := 92) F dX10_back_92 i68_58 (ca_58 _) g14 rfl ?_
        obtain ⟨w20, ew20, h1⟩ := lt_some h1
        refine r_iast (pc := 93) F dX10_back_93 i68_58 (ca_58 _) g16 rfl ew20 ?_
        obtain ⟨v22, ev22, h1⟩ := lt_some h1
        refine r_iinc (pc := 94) (ls' := [(0, .ref ((zg Z).1 42)), (1, .int v22)]) F dX10_back_94 rfl (by rw [ev22]; rfl) (Nat.le_of_ble_eq_true rfl) rfl ?_
        refine r_goto (pc := 97) (tgt := 46) F dX10_back_97 rfl ?_
        exact hP1 (v22, w20) (Option.some.inj h1).symm
    refine r_aload_n (pc := 100) F dX10_back_100 rfl ?_
    refine r_dup (pc := 101) F dX10_back_101 rfl ?_
    refine r_getf (pc := 102) F dX10_back_102 fl_10_164 i68_42 (ce_42 _ _ _) rfl ?_
    refine r_iconst (pc := 105) F dX10_back_105 ic_1 ?_
    refine r_isub (pc := 106) F dX10_back_106 ?_
    obtain ⟨w27, ew27, h0⟩ := lt_some h0
    refine r_putI (pc := 107) F dX10_back_107 fl_10_164 fp_10_27 i68_42 (ce_42 _) (Nat.le_of_ble_eq_true rfl) rfl rfl rfl ew27 ?_
    refine r_aload_n (pc := 110) F dX10_back_110 rfl ?_
    refine r_getf (pc := 111) F dX10_back_111 fl_10_127 i68_42 (ce_42 _ _ _) rfl ?_
    exact hR _ _ _ _ dX10_back_114 rfl (Option.some.inj h0)
set_option maxRecDepth 100000 in
set_option maxHeartbeats 4000000 in
theorem kX10_keepsMinute (g : GT) (w : Wd) (out : Wd) (h0 : fX10_keepsMinute w = some out) : CtV g yX10_keepsMinute cX10_keepsMinute 2 none 0 0 [.ref (g.1 42)] w (fun w1 => w1 = out) := by
  refine CtV_of (by decide) (Nat.le_of_ble_eq_true rfl) (fun Z hg F hR => ?_)
  subst hg
  have F : Fx Z RX10 cX10_keepsMinute 2 0 0 := F
  refine V_sub (ls' := [(0, .ref ((zg Z).1 42))]) [0] rfl ?_
  unfold fX10_keepsMinute at h0
  have J106 : ∀ (w24 : Wd) (l23 : Int32), fX10_keepsMinute_j106 w24 l23 = some out → V Z 106 [] [.int l23, .ref ((zg Z).1 42)] w24 := by
    intro w24 l23 h0
    unfold fX10_keepsMinute_j106 at h0
    obtain ⟨w25, ew25, h0⟩ := lt_some h0
    refine r_putI (pc := 106) F dX10_keepsMinute_106 fl_10_164 fp_10_27 i68_42 (ce_42 _) (Nat.le_of_ble_eq_true rfl) rfl rfl rfl ew25 ?_
    exact hR _ _ _ dX10_keepsMinute_109 (Option.some.inj h0)
  refine r_bipush (pc := 0) F dX10_keepsMinute_0 bp_7 ?_
  refine r_istore_n (pc := 2) (ls' := [(0, .ref ((zg Z).1 42)), (1, .int 7)]) F dX10_keepsMinute_2 (Nat.le_of_ble_eq_true rfl) rfl ?_
  obtain ⟨w15, iw15, h0⟩ := bind_some h0
  suffices E3 : V Z 55 [(0, .ref ((zg Z).1 42))] [] w15 by
    refine iter_rule (P := fun s : Int32 × Wd => V Z 3 [(0, .ref ((zg Z).1 42)), (1, .int (s.1))] [] s.2) (x := w15) ?_ FU (7, w) iw15
    intro s y1 h1 hP1 hX1
    obtain ⟨l1, w2⟩ := s
    have h1 : fX10_keepsMinute_b3 l1 w2 = some y1 := h1
    unfold fX10_keepsMinute_b3 at h1
    refine r_iload_n (pc := 3) F dX10_keepsMinute_3 rfl ?_
    refine r_if_le (pc := 4) (tgt := 55) F dX10_keepsMinute_4 rfl h1 (fun h1 => ?_) (fun h1 => ?_)
    · refine V_sub (ls' := [(0, .ref ((zg Z).1 42))]) [0] rfl ?_
      have e3 := hX1 _ (Option.some.inj h1).symm
      cases e3
      exact E3
    · refine r_aload_n (pc := 7) F dX10_keepsMinute_7 rfl ?_
      refine r_getf (pc := 8) F dX10_keepsMinute_8 fl_10_49 i68_42 (ce_42 _ _ _) rfl ?_
      refine r_iload_n (pc := 11) F dX10_keepsMinute_11 rfl ?_
      refine r_aload_n (pc := 12) F dX10_keepsMinute_12 rfl ?_
      refine r_getf (pc := 13) F dX10_keepsMinute_13 fl_10_49 i68_42 (ce_42 _ _ _) rfl ?_
      refine r_iload_n (pc := 16) F dX10_keepsMinute_16 rfl ?_
      refine r_iconst (pc := 17) F dX10_keepsMinute_17 ic_1 ?_
      refine r_isub (pc := 18) F dX10_keepsMinute_18 ?_
      obtain ⟨g4, h1⟩ := gd_some h1
      refine r_iald (pc := 19) F dX10_keepsMinute_19 i68_56 (ca_56 _) g4 rfl ?_
      obtain ⟨g6, h1⟩ := gd_some h1
      obtain ⟨w5, ew5, h1⟩ := lt_some h1
      refine r_iast (pc := 20) F dX10_keepsMinute_20 i68_56 (ca_56 _) g6 rfl ew5 ?_
      refine r_aload_n (pc := 21) F dX10_keepsMinute_21 rfl ?_
      refine r_getf (pc := 22) F dX10_keepsMinute_22 fl_10_52 i68_42 (ce_42 _ _ _) rfl ?_
      refine r_iload_n (pc := 25) F dX10_keepsMinute_25 rfl ?_
      refine r_aload_n (pc := 26) F dX10_keepsMinute_26 rfl ?_
      refine r_getf (pc := 27) F dX10_keepsMinute_27 fl_10_52 i68_42 (ce_42 _ _ _) rfl ?_
      refine r_iload_n (pc := 30) F dX10_keepsMinute_30 rfl ?_
      refine r_iconst (pc := 31) F dX10_keepsMinute_31 ic_1 ?_
      refine r_isub (pc := 32) F dX10_keepsMinute_32 ?_
      refine r_iald (pc := 33) F dX10_keepsMinute_33 i68_57 (ca_57 _) g4 rfl ?_
      obtain ⟨w8, ew8, h1⟩ := lt_some h1
      refine r_iast (pc := 34) F dX10_keepsMinute_34 i68_57 (ca_57 _) g6 rfl ew8 ?_
      refine r_aload_n (pc := 35) F dX10_keepsMinute_35 rfl ?_
      refine r_getf (pc := 36) F dX10_keepsMinute_36 fl_10_55 i68_42 (ce_42 _ _ _) rfl ?_
      refine r_iload_n (pc := 39) F dX10_keepsMinute_39 rfl ?_
      refine r_aload_n (pc := 40) F dX10_keepsMinute_40 rfl ?_
      refine r_getf (pc := 41) F dX10_keepsMinute_41 fl_10_55 i68_42 (ce_42 _ _ _) rfl ?_
      refine r_iload_n (pc := 44) F dX10_keepsMinute_44 rfl ?_
      refine r_iconst (pc := 45) F dX10_keepsMinute_45 ic_1 ?_
      refine r_isub (pc := 46) F dX10_keepsMinute_46 ?_
      refine r_iald (pc := 47) F dX10_keepsMinute_47 i68_58 (ca_58 _) g4 rfl ?_
      obtain ⟨w10, ew10, h1⟩ := lt_some h1
      refine r_iast (pc := 48) F dX10_keepsMinute_48 i68_58 (ca_58 _) g6 rfl ew10 ?_
      obtain ⟨v12, ev12, h1⟩ := lt_some h1
      refine r_iinc (pc := 49) (ls' := [(0, .ref ((zg Z).1 42)), (1, .int v12)]) F dX10_keepsMinute_49 rfl (by rw [ev12]; rfl) (Nat.le_of_ble_eq_true rfl) rfl ?_
      refine r_goto (pc := 52) (tgt := 3) F dX10_keepsMinute_52 rfl ?_
      exact hP1 (v12, w10) (Option.some.inj h1).symm
  refine r_aload_n (pc := 55) F dX10_keepsMinute_55 rfl ?_
  refine r_getf (pc := 56) F dX10_keepsMinute_56 fl_10_49 i68_42 (ce_42 _ _ _) rfl ?_
  refine r_iconst (pc := 59) F dX10_keepsMinute_59 ic_0 ?_
  refine r_aload_n (pc := 60) F dX10_keepsMinute_60 rfl ?_
  refine r_getf (pc := 61) F dX10_keepsMinute_61 fl_10_124 i68_42 (ce_42 _ _ _) rfl ?_
  obtain ⟨w17, ew17, h0⟩ := lt_some h0
  refine r_iast (pc := 64) (j := 0) F dX10_keepsMinute_64 i68_56 (ca_56 _) rfl rfl ew17 ?_
  refine r_aload_n (pc := 65) F dX10_keepsMinute_65 rfl ?_
  refine r_getf (pc := 66) F dX10_keepsMinute_66 fl_10_52 i68_42 (ce_42 _ _ _) rfl ?_
  refine r_iconst (pc := 69) F dX10_keepsMinute_69 ic_0 ?_
  refine r_aload_n (pc := 70) F dX10_keepsMinute_70 rfl ?_
  refine r_getf (pc := 71) F dX10_keepsMinute_71 fl_10_127 i68_42 (ce_42 _ _ _) rfl ?_
  obtain ⟨w19, ew19, h0⟩ := lt_some h0
  refine r_iast (pc := 74) (j := 0) F dX10_keepsMinute_74 i68_57 (ca_57 _) rfl rfl ew19 ?_
  refine r_aload_n (pc := 75) F dX10_keepsMinute_75 rfl ?_
  refine r_getf (pc := 76) F dX10_keepsMinute_76 fl_10_55 i68_42 (ce_42 _ _ _) rfl ?_
  refine r_iconst (pc := 79) F dX10_keepsMinute_79 ic_0 ?_
  refine r_aload_n (pc := 80) F dX10_keepsMinute_80 rfl ?_
  refine r_getf (pc := 81) F dX10_keepsMinute_81 fl_10_133 i68_42 (ce_42 _ _ _) rfl ?_
  obtain ⟨w21, ew21, h0⟩ := lt_some h0
  refine r_iast (pc := 84) (j := 0) F dX10_keepsMinute_84 i68_58 (ca_58 _) rfl rfl ew21 ?_
  refine r_aload_n (pc := 85) F dX10_keepsMinute_85 rfl ?_
  refine r_aload_n (pc := 86) F dX10_keepsMinute_86 rfl ?_
  refine r_getf (pc := 87) F dX10_keepsMinute_87 fl_10_164 i68_42 (ce_42 _ _ _) rfl ?_
  refine r_bipush (pc := 90) F dX10_keepsMinute_90 bp_8 ?_
  refine r_icmp_ge (pc := 92) (tgt := 104) F dX10_keepsMinute_92 rfl h0 (fun h0 => ?_) (fun h0 => ?_)
  · refine r_bipush (pc := 104) F dX10_keepsMinute_104 bp_8 ?_
    refine V_sub (ls' := []) [] rfl ?_
    exact J106 w21 8 h0
  · refine r_aload_n (pc := 95) F dX10_keepsMinute_95 rfl ?_
    refine r_getf (pc := 96) F dX10_keepsMinute_96 fl_10_164 i68_42 (ce_42 _ _ _) rfl ?_
    refine r_iconst (pc := 99) F dX10_keepsMinute_99 ic_1 ?_
    refine r_iadd (pc := 100) F dX10_keepsMinute_100 ?_
    refine r_goto (pc := 101) (tgt := 106) F dX10_keepsMinute_101 rfl ?_
    refine V_sub (ls' := []) [] rfl ?_
    exact J106 w21 ((w21.1 42 27) + 1) h0
set_option maxRecDepth 100000 in
set_option maxHeartbeats 4000000 in
theorem kX10_bits (g : GT) (w : Wd) (a0 : Int32) (out : Int32) (h0 : fX10_bits a0 = some out) : CtI g yX10_bits cX10_bits 3 (some .int) 0 0 [.int a0] w (fun r w1 => r = out ∧ w1 = w) := by
  refine CtI_of .int (by decide) (Nat.le_of_ble_eq_true rfl) (fun Z hg F hR => ?_)
  subst hg
  have F : Fx Z RX10 cX10_bits 3 0 0 := F
  refine V_sub (ls' := [(0, .int a0)]) [0] rfl ?_
  unfold fX10_bits at h0
  refine r_iconst (pc := 0) F dX10_bits_0 ic_0 ?_
  refine r_istore_n (pc := 1) (ls' := [(0, .int a0), (1, .int 0)]) F dX10_bits_1 (Nat.le_of_ble_eq_true rfl) rfl ?_
  refine r_iconst (pc := 2) F dX10_bits_2 ic_0 ?_
  refine r_istore_n (pc := 3) (ls' := [(0, .int a0), (1, .int 0), (2, .int 0)]) F dX10_bits_3 (Nat.le_of_ble_eq_true rfl) rfl ?_
  obtain ⟨l8, il8, h0⟩ := bind_some h0
  suffices E4 : V Z 24 [(1, .int l8)] [] w by
    refine iter_rule (P := fun s : Int32 × Int32 => V Z 4 [(0, .int a0), (1, .int (s.1)), (2, .int (s.2))] [] w) (x := l8) ?_ FU (0, 0) il8
    intro s y1 h1 hP1 hX1
    obtain ⟨l1, l2⟩ := s
    have h1 : fX10_bits_b4 a0 l1 l2 = some y1 := h1
    unfold fX10_bits_b4 at h1
    refine r_iload_n (pc := 4) F dX10_bits_4 rfl ?_
    refine r_bipush (pc := 5) F dX10_bits_5 bp_31 ?_
    refine r_icmp_ge (pc := 7) (tgt := 24) F dX10_bits_7 rfl h1 (fun h1 => ?_) (fun h1 => ?_)
    · refine V_sub (ls' := [(1, .int l1)]) [1] rfl ?_
      have e3 := hX1 _ (Option.some.inj h1).symm
      cases e3
      exact E4
    · refine r_iload_n (pc := 10) F dX10_bits_10 rfl ?_
      refine r_iload_n (pc := 11) F dX10_bits_11 rfl ?_
      refine r_iload_n (pc := 12) F dX10_bits_12 rfl ?_
      refine r_ishr (pc := 13) F dX10_bits_13 ?_
      refine r_iconst (pc := 14) F dX10_bits_14 ic_1 ?_
      refine r_iand (pc := 15) F dX10_bits_15 ?_
      refine r_iadd (pc := 16) F dX10_bits_16 ?_
      obtain ⟨v4, ev4, h1⟩ := lt_some h1
      refine V_nm ev4 ?_
      refine r_istore_n (pc := 17) (ls' := [(0, .int a0), (1, .int v4), (2, .int l2)]) F dX10_bits_17 (Nat.le_of_ble_eq_true rfl) rfl ?_
      obtain ⟨v5, ev5, h1⟩ := lt_some h1
      refine r_iinc (pc := 18) (ls' := [(0, .int a0), (1, .int v4), (2, .int v5)]) F dX10_bits_18 rfl (by rw [ev5]; rfl) (Nat.le_of_ble_eq_true rfl) rfl ?_
      refine r_goto (pc := 21) (tgt := 4) F dX10_bits_21 rfl ?_
      exact hP1 (v4, v5) (Option.some.inj h1).symm
  refine r_iload_n (pc := 24) F dX10_bits_24 rfl ?_
  exact hR _ _ _ _ dX10_bits_25 rfl ⟨(Option.some.inj h0), rfl⟩
set_option maxRecDepth 100000 in
set_option maxHeartbeats 4000000 in
theorem kX10_go (g : GT) (w : Wd) (a1 : Int32) (out : Int32 × Wd) (h0 : fX10_go w a1 = some out) : CtI g yX10_go cX10_go 3 (some .int) 7 155 [.ref (g.1 42), .int a1] w (fun r w1 => (r, w1) = out) := by
  refine CtI_of .int (by decide) (Nat.le_of_ble_eq_true rfl) (fun Z hg F hR => ?_)
  subst hg
  have F : Fx Z RX10 cX10_go 3 7 155 := F
  refine V_sub (ls' := [(0, .ref ((zg Z).1 42)), (1, .int a1)]) [0, 1] rfl ?_
  unfold fX10_go at h0
  refine r_iload_n (pc := 0) F dX10_go_0 rfl ?_
  refine r_iconst (pc := 1) F dX10_go_1 ic_0 ?_
  refine r_iconst (pc := 2) F dX10_go_2 ic_1 ?_
  refine r_Si3 (pc := 3) F dX10_go_3 ml_10_110 (kX10_isIn _ w a1 0 1 _ rfl) (Nat.le_of_ble_eq_true rfl) (Nat.le_of_ble_eq_true rfl) (Nat.le_of_ble_eq_true rfl) ?_
  obtain ⟨v1, hv1, h0⟩ := lt_some h0
  have hv1 := hv1.symm
  suffices Jv1 : V Z 46 [(0, .ref ((zg Z).1 42)), (1, .int a1)] [.int v1] w by
    refine r_if_ne (pc := 6) (tgt := 14) F dX10_go_6 rfl hv1 (fun hv1 => ?_) (fun hv1 => ?_)
    · refine r_bipush (pc := 9) F dX10_go_9 bp_m2 ?_
      refine r_goto (pc := 11) (tgt := 46) F dX10_go_11 rfl ?_
      exact V_nm hv1.symm Jv1
    · refine r_aload_n (pc := 14) F dX10_go_14 rfl ?_
      refine r_getf (pc := 15) F dX10_go_15 fl_10_127 i68_42 (ce_42 _ _ _) rfl ?_
      refine r_aload_n (pc := 18) F dX10_go_18 rfl ?_
      refine r_Vi0 (pc := 19) F dX10_go_19 ml_10_130 (kX10_doorAt _ w _ rfl) i68_42 (ce_42 _ _ _) (Nat.le_of_ble_eq_true rfl) (Nat.le_of_ble_eq_true rfl) (Nat.le_of_ble_eq_true rfl) ?_
      refine r_icmp_ne (pc := 22) (tgt := 30) F dX10_go_22 rfl hv1 (fun hv1 => ?_) (fun hv1 => ?_)
      · refine r_bipush (pc := 25) F dX10_go_25 bp_m3 ?_
        refine r_goto (pc := 27) (tgt := 46) F dX10_go_27 rfl ?_
        exact V_nm hv1.symm Jv1
      · refine r_aload_n (pc := 30) F dX10_go_30 rfl ?_
        refine r_getf (pc := 31) F dX10_go_31 fl_10_133 i68_42 (ce_42 _ _ _) rfl ?_
        refine r_sipush (pc := 34) F dX10_go_34 sp_999 ?_
        refine r_icmp_ne (pc := 37) (tgt := 45) F dX10_go_37 rfl hv1 (fun hv1 => ?_) (fun hv1 => ?_)
        · refine r_bipush (pc := 40) F dX10_go_40 bp_m6 ?_
          refine r_goto (pc := 42) (tgt := 46) F dX10_go_42 rfl ?_
          exact V_nm hv1.symm Jv1
        · refine r_iconst (pc := 45) F dX10_go_45 ic_0 ?_
          exact V_nm hv1.symm Jv1
  refine r_istore_n (pc := 46) (ls' := [(0, .ref ((zg Z).1 42)), (1, .int a1), (2, .int v1)]) F dX10_go_46 (Nat.le_of_ble_eq_true rfl) rfl ?_
  refine r_iload_n (pc := 47) F dX10_go_47 rfl ?_
  refine r_if_eq (pc := 48) (tgt := 57) F dX10_go_48 rfl h0 (fun h0 => ?_) (fun h0 => ?_)
  · refine r_aload_n (pc := 57) F dX10_go_57 rfl ?_
    obtain ⟨w4, ew4, h0⟩ := bind_some h0
    refine r_Vv0 (pc := 58) F dX10_go_58 ml_10_228 (kX10_keepsMinute _ w w4 ew4) i68_42 (ce_42 _ _ _) (Nat.le_of_ble_eq_true rfl) (Nat.le_of_ble_eq_true rfl) (Nat.le_of_ble_eq_true rfl) ?_
    refine r_aload_n (pc := 61) F dX10_go_61 rfl ?_
    refine r_iload_n (pc := 62) F dX10_go_62 rfl ?_
    refine r_iconst (pc := 63) F dX10_go_63 ic_1 ?_
    obtain ⟨v6, hv6, h0⟩ := lt_some h0
    have hv6 := hv6.symm
    suffices Jv6 : V Z 72 [(0, .ref ((zg Z).1 42)), (1, .int a1), (2, .int v1)] [.int v6, .ref ((zg Z).1 42)] w4 by
      refine r_icmp_ne (pc := 64) (tgt := 71) F dX10_go_64 rfl hv6 (fun hv6 => ?_) (fun hv6 => ?_)
      · refine r_iconst (pc := 67) F dX10_go_67 ic_1 ?_
        refine r_goto (pc := 68) (tgt := 72) F dX10_go_68 rfl ?_
        exact V_nm hv6.symm Jv6
      · refine r_iconst (pc := 71) F dX10_go_71 ic_0 ?_
        exact V_nm hv6.symm Jv6
    obtain ⟨w7, ew7, h0⟩ := bind_some h0
    refine r_Vv1 (pc := 72) F dX10_go_72 ml_10_136 (kX10_goes _ w4 v6 w7 ew7) i68_42 (ce_42 _ _ _) (Nat.le_of_ble_eq_true rfl) (Nat.le_of_ble_eq_true rfl) (Nat.le_of_ble_eq_true rfl) ?_
    refine r_aload_n (pc := 75) F dX10_go_75 rfl ?_
    refine r_getf (pc := 76) F dX10_go_76 fl_10_124 i68_42 (ce_42 _ _ _) rfl ?_
    obtain ⟨r9, er9, h0⟩ := bind_some h0
    refine r_Si1 (pc := 79) F dX10_go_79 ml_10_231 (kX10_bits _ w7 (w7.1 42 7) r9 er9) (Nat.le_of_ble_eq_true rfl) (Nat.le_of_ble_eq_true rfl) (Nat.le_of_ble_eq_true rfl) ?_
    exact hR _ _ _ _ dX10_go_82 rfl (Option.some.inj h0)
  · refine r_aload_n (pc := 51) F dX10_go_51 rfl ?_
    refine r_iload_n (pc := 52) F dX10_go_52 rfl ?_
    obtain ⟨q12, er11, h0⟩ := bind_some h0
    replace h0 := un2_eq h0
    obtain ⟨r11, w10, rfl, h0⟩ := h0
    refine r_Vj1 (pc := 53) F dX10_go_53 ml_10_99 (kX10_no _ w v1 (r11, w10) er11) i68_42 (ce_42 _ _ _) (Nat.le_of_ble_eq_true rfl) (Nat.le_of_ble_eq_true rfl) (Nat.le_of_ble_eq_true rfl) ?_
    exact hR _ _ _ _ dX10_go_56 rfl (Option.some.inj h0)
set_option maxRecDepth 100000 in
set_option maxHeartbeats 4000000 in
theorem kX10_lit (g : GT) (w : Wd) (out : Int32) (h0 : fX10_lit w = out) : CtI g yX10_lit cX10_lit 1 (some .int) 0 0 [.ref (g.1 42)] w (fun r w1 => r = out ∧ w1 = w) := by
  refine CtI_of .int (by decide) (Nat.le_of_ble_eq_true rfl) (fun Z hg F hR => ?_)
  subst hg
  have F : Fx Z RX10 cX10_lit 1 0 0 := F
  refine V_sub (ls' := [(0, .ref ((zg Z).1 42))]) [0] rfl ?_
  unfold fX10_lit at h0
  refine r_aload_n (pc := 0) F dX10_lit_0 rfl ?_
  refine r_getf (pc := 1) F dX10_lit_1 fl_10_124 i68_42 (ce_42 _ _ _) rfl ?_
  exact hR _ _ _ _ dX10_lit_4 rfl ⟨h0, rfl⟩
set_option maxRecDepth 100000 in
set_option maxHeartbeats 4000000 in
theorem kX10_goesAhead (g : GT) (w : Wd) (a1 : Int32) (out : Wd) (h0 : fX10_goesAhead w a1 = some out) : CtV g yX10_goesAhead cX10_goesAhead 3 none 7 155 [.ref (g.1 42), .int a1] w (fun w1 => w1 = out) := by
  refine CtV_of (by decide) (Nat.le_of_ble_eq_true rfl) (fun Z hg F hR => ?_)
  subst hg
  have F : Fx Z RX10 cX10_goesAhead 3 7 155 := F
  refine V_sub (ls' := [(0, .ref ((zg Z).1 42)), (1, .int a1)]) [0, 1] rfl ?_
  unfold fX10_goesAhead at h0
  refine r_iconst (pc := 0) F dX10_goesAhead_0 ic_0 ?_
  refine r_istore_n (pc := 1) (ls' := [(0, .ref ((zg Z).1 42)), (1, .int a1), (2, .int 0)]) F dX10_goesAhead_1 (Nat.le_of_ble_eq_true rfl) rfl ?_
  obtain ⟨w11, iw11, h0⟩ := bind_some h0
  suffices E2 : V Z 29 [] [] w11 by
    refine iter_rule (P := fun s : Int32 × Wd => V Z 2 [(0, .ref ((zg Z).1 42)), (1, .int a1), (2, .int (s.1))] [] s.2) (x := w11) ?_ FU (0, w) iw11
    intro s y1 h1 hP1 hX1
    obtain ⟨l1, w2⟩ := s
    have h1 : fX10_goesAhead_b2 a1 l1 w2 = some y1 := h1
    unfold fX10_goesAhead_b2 at h1
    refine r_iload_n (pc := 2) F dX10_goesAhead_2 rfl ?_
    refine r_iload_n (pc := 3) F dX10_goesAhead_3 rfl ?_
    refine r_icmp_ge (pc := 4) (tgt := 29) F dX10_goesAhead_4 rfl h1 (fun h1 => ?_) (fun h1 => ?_)
    · refine V_sub (ls' := []) [] rfl ?_
      have e3 := hX1 _ (Option.some.inj h1).symm
      cases e3
      exact E2
    · refine r_aload_n (pc := 7) F dX10_goesAhead_7 rfl ?_
      refine r_getf (pc := 8) F dX10_goesAhead_8 fl_10_127 i68_42 (ce_42 _ _ _) rfl ?_
      refine r_aload_n (pc := 11) F dX10_goesAhead_11 rfl ?_
      refine r_Vi0 (pc := 12) F dX10_goesAhead_12 ml_10_130 (kX10_doorAt _ w2 _ rfl) i68_42 (ce_42 _ _ _) (Nat.le_of_ble_eq_true rfl) (Nat.le_of_ble_eq_true rfl) (Nat.le_of_ble_eq_true rfl) ?_
      refine r_icmp_ge (pc := 15) (tgt := 29) F dX10_goesAhead_15 rfl h1 (fun h1 => ?_) (fun h1 => ?_)
      · refine V_sub (ls' := []) [] rfl ?_
        have e4 := hX1 _ (Option.some.inj h1).symm
        cases e4
        exact E2
      · refine r_aload_n (pc := 18) F dX10_goesAhead_18 rfl ?_
        refine r_iconst (pc := 19) F dX10_goesAhead_19 ic_0 ?_
        obtain ⟨w5, ew5, h1⟩ := bind_some h1
        refine r_Vv1 (pc := 20) F dX10_goesAhead_20 ml_10_136 (kX10_goes _ w2 0 w5 ew5) i68_42 (ce_42 _ _ _) (Nat.le_of_ble_eq_true rfl) (Nat.le_of_ble_eq_true rfl) (Nat.le_of_ble_eq_true rfl) ?_
        obtain ⟨v7, ev7, h1⟩ := lt_some h1
        refine r_iinc (pc := 23) (ls' := [(0, .ref ((zg Z).1 42)), (1, .int a1), (2, .int v7)]) F dX10_goesAhead_23 rfl (by rw [ev7]; rfl) (Nat.le_of_ble_eq_true rfl) rfl ?_
        refine r_goto (pc := 26) (tgt := 2) F dX10_goesAhead_26 rfl ?_
        exact hP1 (v7, w5) (Option.some.inj h1).symm
  exact hR _ _ _ dX10_goesAhead_29 (Option.some.inj h0)
set_option maxRecDepth 100000 in
set_option maxHeartbeats 4000000 in
theorem kX10_then (g : GT) (w : Wd) (a1 : Int32) (out : Int32 × Wd) (h0 : fX10_then w a1 = some out) : CtI g yX10_then cX10_then 4 (some .int) 8 177 [.ref (g.1 42), .int a1] w (fun r w1 => (r, w1) = out) := by
  refine CtI_of .int (by decide) (Nat.le_of_ble_eq_true rfl) (fun Z hg F hR => ?_)
  subst hg
  have F : Fx Z RX10 cX10_then 4 8 177 := F
  refine V_sub (ls' := [(0, .ref ((zg Z).1 42)), (1, .int a1)]) [0, 1] rfl ?_
  unfold fX10_then at h0
  refine r_iload_n (pc := 0) F dX10_then_0 rfl ?_
  refine r_iconst (pc := 1) F dX10_then_1 ic_0 ?_
  refine r_bipush (pc := 2) F dX10_then_2 bp_24 ?_
  refine r_Si3 (pc := 4) F dX10_then_4 ml_10_92 (kX10_bound _ w a1 0 24 _ rfl) (Nat.le_of_ble_eq_true rfl) (Nat.le_of_ble_eq_true rfl) (Nat.le_of_ble_eq_true rfl) ?_
  obtain ⟨v1, ev1, h0⟩ := lt_some h0
  refine V_nm ev1 ?_
  refine r_istore_n (pc := 7) (ls' := [(0, .ref ((zg Z).1 42)), (1, .int a1), (2, .int v1)]) F dX10_then_7 (Nat.le_of_ble_eq_true rfl) rfl ?_
  refine r_iload_n (pc := 8) F dX10_then_8 rfl ?_
  refine r_if_eq (pc := 9) (tgt := 18) F dX10_then_9 rfl h0 (fun h0 => ?_) (fun h0 => ?_)
  · refine r_aload_n (pc := 18) F dX10_then_18 rfl ?_
    refine r_iconst (pc := 19) F dX10_then_19 ic_1 ?_
    refine r_iconst (pc := 20) F dX10_then_20 ic_1 ?_
    obtain ⟨w2, ew2, h0⟩ := bind_some h0
    refine r_Vv2 (pc := 21) F dX10_then_21 ml_10_157 (kX10_passesAll _ w 1 1 w2 ew2) i68_42 (ce_42 _ _ _) (Nat.le_of_ble_eq_true rfl) (Nat.le_of_ble_eq_true rfl) (Nat.le_of_ble_eq_true rfl) ?_
    refine r_aload_n (pc := 24) F dX10_then_24 rfl ?_
    refine r_iload_n (pc := 25) F dX10_then_25 rfl ?_
    obtain ⟨w4, ew4, h0⟩ := bind_some h0
    refine r_Vv1 (pc := 26) F dX10_then_26 ml_10_234 (kX10_goesAhead _ w2 a1 w4 ew4) i68_42 (ce_42 _ _ _) (Nat.le_of_ble_eq_true rfl) (Nat.le_of_ble_eq_true rfl) (Nat.le_of_ble_eq_true rfl) ?_
    refine r_aload_n (pc := 29) F dX10_then_29 rfl ?_
    refine r_getf (pc := 30) F dX10_then_30 fl_10_124 i68_42 (ce_42 _ _ _) rfl ?_
    obtain ⟨v6, ev6, h0⟩ := lt_some h0
    refine V_nm ev6 ?_
    refine r_istore_n (pc := 33) (ls' := [(0, .ref ((zg Z).1 42)), (1, .int a1), (2, .int v1), (3, .int v6)]) F dX10_then_33 (Nat.le_of_ble_eq_true rfl) rfl ?_
    refine r_aload_n (pc := 34) F dX10_then_34 rfl ?_
    refine r_iconst (pc := 35) F dX10_then_35 ic_1 ?_
    refine r_iconst (pc := 36) F dX10_then_36 ic_0 ?_
    obtain ⟨w7, ew7, h0⟩ := bind_some h0
    refine r_Vv2 (pc := 37) F dX10_then_37 ml_10_157 (kX10_passesAll _ w4 1 0 w7 ew7) i68_42 (ce_42 _ _ _) (Nat.le_of_ble_eq_true rfl) (Nat.le_of_ble_eq_true rfl) (Nat.le_of_ble_eq_true rfl) ?_
    refine r_iload_n (pc := 40) F dX10_then_40 rfl ?_
    exact hR _ _ _ _ dX10_then_41 rfl (Option.some.inj h0)
  · refine r_aload_n (pc := 12) F dX10_then_12 rfl ?_
    refine r_iload_n (pc := 13) F dX10_then_13 rfl ?_
    obtain ⟨q11, er10, h0⟩ := bind_some h0
    replace h0 := un2_eq h0
    obtain ⟨r10, w9, rfl, h0⟩ := h0
    refine r_Vj1 (pc := 14) F dX10_then_14 ml_10_99 (kX10_no _ w v1 (r10, w9) er10) i68_42 (ce_42 _ _ _) (Nat.le_of_ble_eq_true rfl) (Nat.le_of_ble_eq_true rfl) (Nat.le_of_ble_eq_true rfl) ?_
    exact hR _ _ _ _ dX10_then_17 rfl (Option.some.inj h0)
set_option maxRecDepth 100000 in
set_option maxHeartbeats 4000000 in
theorem kX10_goesToDoor (g : GT) (w : Wd) (out : Wd) (h0 : fX10_goesToDoor w = some out) : CtV g yX10_goesToDoor cX10_goesToDoor 1 none 7 155 [.ref (g.1 42)] w (fun w1 => w1 = out) := by
  refine CtV_of (by decide) (Nat.le_of_ble_eq_true rfl) (fun Z hg F hR => ?_)
  subst hg
  have F : Fx Z RX10 cX10_goesToDoor 1 7 155 := F
  refine V_sub (ls' := [(0, .ref ((zg Z).1 42))]) [0] rfl ?_
  unfold fX10_goesToDoor at h0
  obtain ⟨w7, iw7, h0⟩ := bind_some h0
  suffices E0 : V Z 19 [] [] w7 by
    refine iter_rule (P := fun s : Wd => V Z 0 [(0, .ref ((zg Z).1 42))] [] s) (x := w7) ?_ FU w iw7
    intro s y1 h1 hP1 hX1
    obtain ⟨w1, rfl⟩ : ∃ z, z = s := ⟨s, rfl⟩
    have h1 : fX10_goesToDoor_b0 w1 = some y1 := h1
    unfold fX10_goesToDoor_b0 at h1
    refine r_aload_n (pc := 0) F dX10_goesToDoor_0 rfl ?_
    refine r_getf (pc := 1) F dX10_goesToDoor_1 fl_10_127 i68_42 (ce_42 _ _ _) rfl ?_
    refine r_aload_n (pc := 4) F dX10_goesToDoor_4 rfl ?_
    refine r_Vi0 (pc := 5) F dX10_goesToDoor_5 ml_10_130 (kX10_doorAt _ w1 _ rfl) i68_42 (ce_42 _ _ _) (Nat.le_of_ble_eq_true rfl) (Nat.le_of_ble_eq_true rfl) (Nat.le_of_ble_eq_true rfl) ?_
    refine r_icmp_ge (pc := 8) (tgt := 19) F dX10_goesToDoor_8 rfl h1 (fun h1 => ?_) (fun h1 => ?_)
    · refine V_sub (ls' := []) [] rfl ?_
      have e2 := hX1 _ (Option.some.inj h1).symm
      cases e2
      exact E0
    · refine r_aload_n (pc := 11) F dX10_goesToDoor_11 rfl ?_
      refine r_iconst (pc := 12) F dX10_goesToDoor_12 ic_0 ?_
      obtain ⟨w3, ew3, h1⟩ := bind_some h1
      refine r_Vv1 (pc := 13) F dX10_goesToDoor_13 ml_10_136 (kX10_goes _ w1 0 w3 ew3) i68_42 (ce_42 _ _ _) (Nat.le_of_ble_eq_true rfl) (Nat.le_of_ble_eq_true rfl) (Nat.le_of_ble_eq_true rfl) ?_
      refine r_goto (pc := 16) (tgt := 0) F dX10_goesToDoor_16 rfl ?_
      exact hP1 w3 (Option.some.inj h1).symm
  exact hR _ _ _ dX10_goesToDoor_19 (Option.some.inj h0)
set_option maxRecDepth 100000 in
set_option maxHeartbeats 4000000 in
theorem kX10_atDoor (g : GT) (w : Wd) (out : Int32 × Wd) (h0 : fX10_atDoor w = some out) : CtI g yX10_atDoor cX10_atDoor 2 (some .int) 8 175 [.ref (g.1 42)] w (fun r w1 => (r, w1) = out) := by
  refine CtI_of .int (by decide) (Nat.le_of_ble_eq_true rfl) (fun Z hg F hR => ?_)
  subst hg
  have F : Fx Z RX10 cX10_atDoor 2 8 175 := F
  refine V_sub (ls' := [(0, .ref ((zg Z).1 42))]) [0] rfl ?_
  unfold fX10_atDoor at h0
  refine r_aload_n (pc := 0) F dX10_atDoor_0 rfl ?_
  refine r_iconst (pc := 1) F dX10_atDoor_1 ic_2 ?_
  refine r_iconst (pc := 2) F dX10_atDoor_2 ic_1 ?_
  obtain ⟨w1, ew1, h0⟩ := bind_some h0
  refine r_Vv2 (pc := 3) F dX10_atDoor_3 ml_10_157 (kX10_passesAll _ w 2 1 w1 ew1) i68_42 (ce_42 _ _ _) (Nat.le_of_ble_eq_true rfl) (Nat.le_of_ble_eq_true rfl) (Nat.le_of_ble_eq_true rfl) ?_
  refine r_aload_n (pc := 6) F dX10_atDoor_6 rfl ?_
  obtain ⟨w3, ew3, h0⟩ := bind_some h0
  refine r_Vv0 (pc := 7) F dX10_atDoor_7 ml_10_238 (kX10_goesToDoor _ w1 w3 ew3) i68_42 (ce_42 _ _ _) (Nat.le_of_ble_eq_true rfl) (Nat.le_of_ble_eq_true rfl) (Nat.le_of_ble_eq_true rfl) ?_
  refine r_aload_n (pc := 10) F dX10_atDoor_10 rfl ?_
  refine r_getf (pc := 11) F dX10_atDoor_11 fl_10_124 i68_42 (ce_42 _ _ _) rfl ?_
  obtain ⟨v5, ev5, h0⟩ := lt_some h0
  refine V_nm ev5 ?_
  refine r_istore_n (pc := 14) (ls' := [(0, .ref ((zg Z).1 42)), (1, .int v5)]) F dX10_atDoor_14 (Nat.le_of_ble_eq_true rfl) rfl ?_
  refine r_aload_n (pc := 15) F dX10_atDoor_15 rfl ?_
  refine r_iconst (pc := 16) F dX10_atDoor_16 ic_2 ?_
  refine r_iconst (pc := 17) F dX10_atDoor_17 ic_0 ?_
  obtain ⟨w6, ew6, h0⟩ := bind_some h0
  refine r_Vv2 (pc := 18) F dX10_atDoor_18 ml_10_157 (kX10_passesAll _ w3 2 0 w6 ew6) i68_42 (ce_42 _ _ _) (Nat.le_of_ble_eq_true rfl) (Nat.le_of_ble_eq_true rfl) (Nat.le_of_ble_eq_true rfl) ?_
  refine r_iload_n (pc := 21) F dX10_atDoor_21 rfl ?_
  exact hR _ _ _ _ dX10_atDoor_22 rfl (Option.some.inj h0)

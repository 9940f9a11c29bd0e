/-! contracts: the code computes the functions (by program) -/
theorem sw_ne {x y : Int32} {k : Int} (h : y.toInt = k) (c : ¬ x = y) : x.toInt ≠ k := fun e => c (Int32.toInt_inj.mp (e.trans h.symm))
theorem lsw_out {ps : List (Int × Int)} {ks : List Int} {dflt t : Int} (hks : ps.map Prod.fst = ks) (hk : ∀ k ∈ ks, t ≠ k) : Op.lookupswitch.offset ps dflt t = dflt := Op.lookupswitch.offset_none (List.find?_eq_none.mpr (fun q hq => by
  have h1 : q.1 ∈ ks := by rw [← hks]; exact List.mem_map_of_mem hq
  have h2 := hk _ h1
  simp only [beq_iff_eq]
  exact fun e => h2 e.symm))
set_option maxRecDepth 100000 in
set_option maxHeartbeats 4000000 in
theorem kX9_refuse (g : GT) (w : Wd) (a1 : Int32) (out : Int32 × Wd) (h0 : fX9_refuse w a1 = some out) : CtI g yX9_refuse cX9_refuse 3 (some .int) 0 0 [.ref (g.1 0), .int a1] w (fun r w1 => (r, w1) = out) := by
  refine CtI_of .int (by decide) (Nat.le_of_ble_eq_true rfl) (fun Z hg F hR => ?_)
  subst hg
  have F : Fx Z RX9 cX9_refuse 3 0 0 := F
  refine V_sub (ls' := [(0, .ref ((zg Z).1 0)), (1, .int a1)]) [0, 1] rfl ?_
  unfold fX9_refuse at h0
  refine r_iload_n (pc := 0) F dX9_refuse_0 rfl ?_
  refine r_ineg (pc := 1) F dX9_refuse_1 ?_
  obtain ⟨v1, ev1, h0⟩ := lt_some h0
  refine V_nm ev1 ?_
  refine r_istore_n (pc := 2) (ls' := [(0, .ref ((zg Z).1 0)), (1, .int a1), (2, .int v1)]) F dX9_refuse_2 (Nat.le_of_ble_eq_true rfl) rfl ?_
  refine r_iload_n (pc := 3) F dX9_refuse_3 rfl ?_
  refine r_if_le (pc := 4) (tgt := 26) F dX9_refuse_4 rfl h0 (fun h0 => ?_) (fun h0 => ?_)
  · refine r_iload_n (pc := 26) F dX9_refuse_26 rfl ?_
    exact hR _ _ _ _ dX9_refuse_27 rfl (Option.some.inj h0)
  · refine r_iload_n (pc := 7) F dX9_refuse_7 rfl ?_
    refine r_aload_n (pc := 8) F dX9_refuse_8 rfl ?_
    refine r_getf (pc := 9) F dX9_refuse_9 fl_9_81 i68_0 (ce_0 _ _ _) rfl ?_
    refine r_alen (pc := 12) F dX9_refuse_12 i68_12 (ca_12 _) rfl ?_
    refine r_icmp_ge (pc := 13) (tgt := 26) F dX9_refuse_13 rfl h0 (fun h0 => ?_) (fun h0 => ?_)
    · refine r_iload_n (pc := 26) F dX9_refuse_26 rfl ?_
      exact hR _ _ _ _ dX9_refuse_27 rfl (Option.some.inj h0)
    · refine r_aload_n (pc := 16) F dX9_refuse_16 rfl ?_
      refine r_getf (pc := 17) F dX9_refuse_17 fl_9_81 i68_0 (ce_0 _ _ _) rfl ?_
      refine r_iload_n (pc := 20) F dX9_refuse_20 rfl ?_
      refine r_dup2 (pc := 21) F dX9_refuse_21 rfl rfl ?_
      obtain ⟨g2, h0⟩ := gd_some h0
      refine r_iald (pc := 22) F dX9_refuse_22 i68_12 (ca_12 _) g2 rfl ?_
      refine r_iconst (pc := 23) F dX9_refuse_23 ic_1 ?_
      refine r_iadd (pc := 24) F dX9_refuse_24 ?_
      obtain ⟨w3, ew3, h0⟩ := lt_some h0
      refine r_iast (pc := 25) F dX9_refuse_25 i68_12 (ca_12 _) g2 rfl ew3 ?_
      refine r_iload_n (pc := 26) F dX9_refuse_26 rfl ?_
      exact hR _ _ _ _ dX9_refuse_27 rfl (Option.some.inj h0)
set_option maxRecDepth 100000 in
set_option maxHeartbeats 4000000 in
theorem kX3_isFull (g : GT) (w : Wd) (out : Int32) (h0 : fX3_isFull w = out) : CtI g yX3_isFull cX3_isFull 1 (some .boolean) 0 0 [.ref (g.1 6)] w (fun r w1 => r = out ∧ w1 = w) := by
  refine CtI_of .boolean (by decide) (Nat.le_of_ble_eq_true rfl) (fun Z hg F hR => ?_)
  subst hg
  have F : Fx Z RX3 cX3_isFull 1 0 0 := F
  refine V_sub (ls' := [(0, .ref ((zg Z).1 6))]) [0] rfl ?_
  unfold fX3_isFull at h0
  refine r_aload_n (pc := 0) F dX3_isFull_0 rfl ?_
  refine r_getf (pc := 1) F dX3_isFull_1 fl_3_23 i68_6 (ce_6 _ _ _) rfl ?_
  refine r_bipush (pc := 4) F dX3_isFull_4 bp_96 ?_
  refine r_icmp_lt (pc := 6) (tgt := 13) F dX3_isFull_6 rfl h0 (fun h0 => ?_) (fun h0 => ?_)
  · refine r_iconst (pc := 13) F dX3_isFull_13 ic_0 ?_
    exact hR _ _ _ _ dX3_isFull_14 rfl ⟨h0, rfl⟩
  · refine r_iconst (pc := 9) F dX3_isFull_9 ic_1 ?_
    refine r_goto (pc := 10) (tgt := 14) F dX3_isFull_10 rfl ?_
    exact hR _ _ _ _ dX3_isFull_14 rfl ⟨h0, rfl⟩
set_option maxRecDepth 100000 in
set_option maxHeartbeats 4000000 in
theorem kX3_append (g : GT) (w : Wd) (a1 : Int32) (out : Int32 × Wd) (h0 : fX3_append w a1 = some out) : CtI g yX3_append cX3_append 2 (some .int) 1 20 [.ref (g.1 6), .int a1] w (fun r w1 => (r, w1) = out) := by
  refine CtI_of .int (by decide) (Nat.le_of_ble_eq_true rfl) (fun Z hg F hR => ?_)
  subst hg
  have F : Fx Z RX3 cX3_append 2 1 20 := F
  refine V_sub (ls' := [(0, .ref ((zg Z).1 6)), (1, .int a1)]) [0, 1] rfl ?_
  unfold fX3_append at h0
  refine r_aload_n (pc := 0) F dX3_append_0 rfl ?_
  refine r_Vi0 (pc := 1) F dX3_append_1 ml_3_27 (kX3_isFull _ w _ rfl) i68_6 (ce_6 _ _ _) (Nat.le_of_ble_eq_true rfl) (Nat.le_of_ble_eq_true rfl) (Nat.le_of_ble_eq_true rfl) ?_
  refine r_if_ne (pc := 4) (tgt := 27) F dX3_append_4 rfl h0 (fun h0 => ?_) (fun h0 => ?_)
  · refine r_aload_n (pc := 7) F dX3_append_7 rfl ?_
    refine r_getf (pc := 8) F dX3_append_8 fl_3_9 i68_6 (ce_6 _ _ _) rfl ?_
    refine r_aload_n (pc := 11) F dX3_append_11 rfl ?_
    refine r_getf (pc := 12) F dX3_append_12 fl_3_23 i68_6 (ce_6 _ _ _) rfl ?_
    refine r_iload_n (pc := 15) F dX3_append_15 rfl ?_
    obtain ⟨g2, h0⟩ := gd_some h0
    obtain ⟨w1, ew1, h0⟩ := lt_some h0
    refine r_iast (pc := 16) F dX3_append_16 i68_33 (ca_33 _) g2 rfl ew1 ?_
    refine r_aload_n (pc := 17) F dX3_append_17 rfl ?_
    refine r_dup (pc := 18) F dX3_append_18 rfl ?_
    refine r_getf (pc := 19) F dX3_append_19 fl_3_23 i68_6 (ce_6 _ _ _) rfl ?_
    refine r_iconst (pc := 22) F dX3_append_22 ic_1 ?_
    refine r_iadd (pc := 23) F dX3_append_23 ?_
    obtain ⟨w4, ew4, h0⟩ := lt_some h0
    refine r_putI (pc := 24) F dX3_append_24 fl_3_23 fp_3_0 i68_6 (ce_6 _) (Nat.le_of_ble_eq_true rfl) rfl rfl rfl ew4 ?_
    refine r_aload_n (pc := 27) F dX3_append_27 rfl ?_
    refine r_getf (pc := 28) F dX3_append_28 fl_3_23 i68_6 (ce_6 _ _ _) rfl ?_
    exact hR _ _ _ _ dX3_append_31 rfl (Option.some.inj h0)
  · refine r_aload_n (pc := 27) F dX3_append_27 rfl ?_
    refine r_getf (pc := 28) F dX3_append_28 fl_3_23 i68_6 (ce_6 _ _ _) rfl ?_
    exact hR _ _ _ _ dX3_append_31 rfl (Option.some.inj h0)
set_option maxRecDepth 100000 in
set_option maxHeartbeats 4000000 in
theorem kX9_feed (g : GT) (w : Wd) (a1 : Int32) (out : Int32 × Wd) (h0 : fX9_feed w a1 = some out) : CtI g yX9_feed cX9_feed 2 (some .int) 2 41 [.ref (g.1 0), .int a1] w (fun r w1 => (r, w1) = out) := by
  refine CtI_of .int (by decide) (Nat.le_of_ble_eq_true rfl) (fun Z hg F hR => ?_)
  subst hg
  have F : Fx Z RX9 cX9_feed 2 2 41 := F
  refine V_sub (ls' := [(0, .ref ((zg Z).1 0)), (1, .int a1)]) [0, 1] rfl ?_
  unfold fX9_feed at h0
  have J28 : ∀ (w1 : Wd), fX9_feed_j28 w1 = some out → V Z 28 [(0, .ref ((zg Z).1 0))] [] w1 := by
    intro w1 h0
    unfold fX9_feed_j28 at h0
    refine r_aload_n (pc := 28) F dX9_feed_28 rfl ?_
    refine r_bipush (pc := 29) F dX9_feed_29 bp_m6 ?_
    obtain ⟨q4, er3, h0⟩ := bind_some h0
    replace h0 := un2_eq h0
    obtain ⟨r3, w2, rfl, h0⟩ := h0
    refine r_Vj1 (pc := 31) F dX9_feed_31 ml_9_85 (kX9_refuse _ w1 (-6) (r3, w2) er3) i68_0 (ce_0 _ _ _) (Nat.le_of_ble_eq_true rfl) (Nat.le_of_ble_eq_true rfl) (Nat.le_of_ble_eq_true rfl) ?_
    exact hR _ _ _ _ dX9_feed_34 rfl (Option.some.inj h0)
  refine r_iload_n (pc := 0) F dX9_feed_0 rfl ?_
  refine r_if_ge (pc := 1) (tgt := 11) F dX9_feed_1 rfl h0 (fun h0 => ?_) (fun h0 => ?_)
  · refine r_iload_n (pc := 11) F dX9_feed_11 rfl ?_
    refine r_sipush (pc := 12) F dX9_feed_12 sp_255 ?_
    refine r_icmp_gt (pc := 15) (tgt := 28) F dX9_feed_15 rfl h0 (fun h0 => ?_) (fun h0 => ?_)
    · refine V_sub (ls' := [(0, .ref ((zg Z).1 0))]) [0] rfl ?_
      exact J28 w h0
    · refine r_aload_n (pc := 18) F dX9_feed_18 rfl ?_
      refine r_getf (pc := 19) F dX9_feed_19 fl_9_38 i68_0 (ce_0 _ _ _) rfl ?_
      refine r_Vi0 (pc := 22) F dX9_feed_22 ml_9_89 (kX3_isFull _ w _ rfl) i68_6 (ce_6 _ _ _) (Nat.le_of_ble_eq_true rfl) (Nat.le_of_ble_eq_true rfl) (Nat.le_of_ble_eq_true rfl) ?_
      refine r_if_eq (pc := 25) (tgt := 35) F dX9_feed_25 rfl h0 (fun h0 => ?_) (fun h0 => ?_)
      · refine r_aload_n (pc := 35) F dX9_feed_35 rfl ?_
        refine r_getf (pc := 36) F dX9_feed_36 fl_9_38 i68_0 (ce_0 _ _ _) rfl ?_
        refine r_iload_n (pc := 39) F dX9_feed_39 rfl ?_
        obtain ⟨q8, er7, h0⟩ := bind_some h0
        replace h0 := un2_eq h0
        obtain ⟨r7, w6, rfl, h0⟩ := h0
        refine r_Vj1 (pc := 40) F dX9_feed_40 ml_9_93 (kX3_append _ w a1 (r7, w6) er7) i68_6 (ce_6 _ _ _) (Nat.le_of_ble_eq_true rfl) (Nat.le_of_ble_eq_true rfl) (Nat.le_of_ble_eq_true rfl) ?_
        exact hR _ _ _ _ dX9_feed_43 rfl (Option.some.inj h0)
      · refine V_sub (ls' := [(0, .ref ((zg Z).1 0))]) [0] rfl ?_
        exact J28 w h0
  · refine r_aload_n (pc := 4) F dX9_feed_4 rfl ?_
    refine r_bipush (pc := 5) F dX9_feed_5 bp_m4 ?_
    obtain ⟨q14, er13, h0⟩ := bind_some h0
    replace h0 := un2_eq h0
    obtain ⟨r13, w12, rfl, h0⟩ := h0
    refine r_Vj1 (pc := 7) F dX9_feed_7 ml_9_85 (kX9_refuse _ w (-4) (r13, w12) er13) i68_0 (ce_0 _ _ _) (Nat.le_of_ble_eq_true rfl) (Nat.le_of_ble_eq_true rfl) (Nat.le_of_ble_eq_true rfl) ?_
    exact hR _ _ _ _ dX9_feed_10 rfl (Option.some.inj h0)
set_option maxRecDepth 100000 in
set_option maxHeartbeats 4000000 in
theorem kX3_digitsBehind (g : GT) (w : Wd) (a0 : Int32) (out : Int32) (h0 : fX3_digitsBehind a0 = out) : CtI g yX3_digitsBehind cX3_digitsBehind 1 (some .int) 0 0 [.int a0] w (fun r w1 => r = out ∧ w1 = w) := by
  refine CtI_of .int (by decide) (Nat.le_of_ble_eq_true rfl) (fun Z hg F hR => ?_)
  subst hg
  have F : Fx Z RX3 cX3_digitsBehind 1 0 0 := F
  refine V_sub (ls' := [(0, .int a0)]) [0] rfl ?_
  unfold fX3_digitsBehind at h0
  refine r_iload_n (pc := 0) F dX3_digitsBehind_0 rfl ?_
  by_cases c1 : a0 = 100
  · rw [if_pos c1] at h0
    refine r_tsw (pc := 1) (tgt := 102) F dX3_digitsBehind_1 rfl (by rw [c1]; decide +kernel) ?_
    refine r_iconst (pc := 102) F dX3_digitsBehind_102 ic_2 ?_
    exact hR _ _ _ _ dX3_digitsBehind_103 rfl ⟨h0, rfl⟩
  rw [if_neg c1] at h0
  by_cases c2 : a0 = 102
  · rw [if_pos c2] at h0
    refine r_tsw (pc := 1) (tgt := 100) F dX3_digitsBehind_1 rfl (by rw [c2]; decide +kernel) ?_
    refine r_iconst (pc := 100) F dX3_digitsBehind_100 ic_2 ?_
    exact hR _ _ _ _ dX3_digitsBehind_101 rfl ⟨h0, rfl⟩
  rw [if_neg c2] at h0
  by_cases c3 : a0 = 108
  · rw [if_pos c3] at h0
    refine r_tsw (pc := 1) (tgt := 104) F dX3_digitsBehind_1 rfl (by rw [c3]; decide +kernel) ?_
    refine r_iconst (pc := 104) F dX3_digitsBehind_104 ic_1 ?_
    exact hR _ _ _ _ dX3_digitsBehind_105 rfl ⟨h0, rfl⟩
  rw [if_neg c3] at h0
  by_cases c4 : a0 = 109
  · rw [if_pos c4] at h0
    refine r_tsw (pc := 1) (tgt := 106) F dX3_digitsBehind_1 rfl (by rw [c4]; decide +kernel) ?_
    refine r_iconst (pc := 106) F dX3_digitsBehind_106 ic_1 ?_
    exact hR _ _ _ _ dX3_digitsBehind_107 rfl ⟨h0, rfl⟩
  rw [if_neg c4] at h0
  by_cases c5 : a0 = 112
  · rw [if_pos c5] at h0
    refine r_tsw (pc := 1) (tgt := 96) F dX3_digitsBehind_1 rfl (by rw [c5]; decide +kernel) ?_
    refine r_iconst (pc := 96) F dX3_digitsBehind_96 ic_3 ?_
    exact hR _ _ _ _ dX3_digitsBehind_97 rfl ⟨h0, rfl⟩
  rw [if_neg c5] at h0
  by_cases c6 : a0 = 119
  · rw [if_pos c6] at h0
    refine r_tsw (pc := 1) (tgt := 98) F dX3_digitsBehind_1 rfl (by rw [c6]; decide +kernel) ?_
    refine r_iconst (pc := 98) F dX3_digitsBehind_98 ic_4 ?_
    exact hR _ _ _ _ dX3_digitsBehind_99 rfl ⟨h0, rfl⟩
  rw [if_neg c6] at h0
  refine r_tsw (pc := 1) (tgt := 108) F dX3_digitsBehind_1 rfl (tsw_out (ks := [100, 102, 108, 109, 112, 119]) rfl rfl (by decide +kernel) (List.forall_mem_cons.mpr ⟨sw_ne rfl c1, List.forall_mem_cons.mpr ⟨sw_ne rfl c2, List.forall_mem_cons.mpr ⟨sw_ne rfl c3, List.forall_mem_cons.mpr ⟨sw_ne rfl c4, List.forall_mem_cons.mpr ⟨sw_ne rfl c5, List.forall_mem_cons.mpr ⟨sw_ne rfl c6, fun _ h => absurd h List.not_mem_nil⟩⟩⟩⟩⟩⟩)) ?_
  refine r_iconst (pc := 108) F dX3_digitsBehind_108 ic_m1 ?_
  exact hR _ _ _ _ dX3_digitsBehind_109 rfl ⟨h0, rfl⟩
set_option maxRecDepth 100000 in
set_option maxHeartbeats 4000000 in
theorem kX3_textFault (g : GT) (w : Wd) (out : Int32) (h0 : fX3_textFault w = some out) : CtI g yX3_textFault cX3_textFault 4 (some .int) 1 20 [.ref (g.1 6)] w (fun r w1 => r = out ∧ w1 = w) := by
  refine CtI_of .int (by decide) (Nat.le_of_ble_eq_true rfl) (fun Z hg F hR => ?_)
  subst hg
  have F : Fx Z RX3 cX3_textFault 4 1 20 := F
  refine V_sub (ls' := [(0, .ref ((zg Z).1 6))]) [0] rfl ?_
  unfold fX3_textFault at h0
  refine r_iconst (pc := 0) F dX3_textFault_0 ic_m1 ?_
  refine r_istore_n (pc := 1) (ls' := [(0, .ref ((zg Z).1 6)), (1, .int (-1))]) F dX3_textFault_1 (Nat.le_of_ble_eq_true rfl) rfl ?_
  refine r_iconst (pc := 2) F dX3_textFault_2 ic_0 ?_
  refine r_istore_n (pc := 3) (ls' := [(0, .ref ((zg Z).1 6)), (1, .int (-1)), (2, .int 0)]) F dX3_textFault_3 (Nat.le_of_ble_eq_true rfl) rfl ?_
  refine iter_rule (P := fun s : Int32 × Int32 => V Z 4 [(0, .ref ((zg Z).1 6)), (1, .int (s.1)), (2, .int (s.2))] [] w) (x := out) ?_ FU ((-1), 0) h0
  intro s y1 h1 hP1 hX1
  obtain ⟨l1, l2⟩ := s
  have h1 : fX3_textFault_b4 w l1 l2 = some y1 := h1
  unfold fX3_textFault_b4 at h1
  refine r_iload_n (pc := 4) F dX3_textFault_4 rfl ?_
  refine r_aload_n (pc := 5) F dX3_textFault_5 rfl ?_
  refine r_getf (pc := 6) F dX3_textFault_6 fl_3_23 i68_6 (ce_6 _ _ _) rfl ?_
  refine r_icmp_ge (pc := 9) (tgt := 87) F dX3_textFault_9 rfl h1 (fun h1 => ?_) (fun h1 => ?_)
  · refine r_aload_n (pc := 87) F dX3_textFault_87 rfl ?_
    refine r_getf (pc := 88) F dX3_textFault_88 fl_3_23 i68_6 (ce_6 _ _ _) rfl ?_
    refine r_if_le (pc := 91) (tgt := 103) F dX3_textFault_91 rfl h1 (fun h1 => ?_) (fun h1 => ?_)
    · refine r_sipush (pc := 103) F dX3_textFault_103 sp_m1000 ?_
      refine r_aload_n (pc := 106) F dX3_textFault_106 rfl ?_
      refine r_getf (pc := 107) F dX3_textFault_107 fl_3_23 i68_6 (ce_6 _ _ _) rfl ?_
      refine r_isub (pc := 110) F dX3_textFault_110 ?_
      have h0 := congrArg some (hX1 _ (Option.some.inj h1).symm)
      exact hR _ _ _ _ dX3_textFault_111 rfl ⟨(Option.some.inj h0), rfl⟩
    · refine r_iload_n (pc := 94) F dX3_textFault_94 rfl ?_
      refine r_iconst (pc := 95) F dX3_textFault_95 ic_m1 ?_
      refine r_icmp_ne (pc := 96) (tgt := 103) F dX3_textFault_96 rfl h1 (fun h1 => ?_) (fun h1 => ?_)
      · refine r_iconst (pc := 99) F dX3_textFault_99 ic_0 ?_
        refine r_goto (pc := 100) (tgt := 111) F dX3_textFault_100 rfl ?_
        have h0 := congrArg some (hX1 _ (Option.some.inj h1).symm)
        exact hR _ _ _ _ dX3_textFault_111 rfl ⟨(Option.some.inj h0), rfl⟩
      · refine r_sipush (pc := 103) F dX3_textFault_103 sp_m1000 ?_
        refine r_aload_n (pc := 106) F dX3_textFault_106 rfl ?_
        refine r_getf (pc := 107) F dX3_textFault_107 fl_3_23 i68_6 (ce_6 _ _ _) rfl ?_
        refine r_isub (pc := 110) F dX3_textFault_110 ?_
        have h0 := congrArg some (hX1 _ (Option.some.inj h1).symm)
        exact hR _ _ _ _ dX3_textFault_111 rfl ⟨(Option.some.inj h0), rfl⟩
  · refine r_aload_n (pc := 12) F dX3_textFault_12 rfl ?_
    refine r_getf (pc := 13) F dX3_textFault_13 fl_3_9 i68_6 (ce_6 _ _ _) rfl ?_
    refine r_iload_n (pc := 16) F dX3_textFault_16 rfl ?_
    obtain ⟨g5, h1⟩ := gd_some h1
    refine r_iald (pc := 17) F dX3_textFault_17 i68_33 (ca_33 _) g5 rfl ?_
    obtain ⟨v6, ev6, h1⟩ := lt_some h1
    refine V_nm ev6 ?_
    refine r_istore_n (pc := 18) (ls' := [(0, .ref ((zg Z).1 6)), (1, .int l1), (2, .int l2), (3, .int v6)]) F dX3_textFault_18 (Nat.le_of_ble_eq_true rfl) rfl ?_
    refine r_iload_n (pc := 19) F dX3_textFault_19 rfl ?_
    refine r_iconst (pc := 20) F dX3_textFault_20 ic_m1 ?_
    refine r_icmp_ne (pc := 21) (tgt := 39) F dX3_textFault_21 rfl h1 (fun h1 => ?_) (fun h1 => ?_)
    · refine r_iload_n (pc := 24) F dX3_textFault_24 rfl ?_
      refine r_Si1 (pc := 25) F dX3_textFault_25 ml_3_31 (kX3_digitsBehind _ w v6 _ rfl) (Nat.le_of_ble_eq_true rfl) (Nat.le_of_ble_eq_true rfl) (Nat.le_of_ble_eq_true rfl) ?_
      obtain ⟨v7, ev7, h1⟩ := lt_some h1
      refine V_nm ev7 ?_
      refine r_istore_n (pc := 28) (ls' := [(0, .ref ((zg Z).1 6)), (1, .int v7), (2, .int l2), (3, .int v6)]) F dX3_textFault_28 (Nat.le_of_ble_eq_true rfl) rfl ?_
      refine r_iload_n (pc := 29) F dX3_textFault_29 rfl ?_
      refine r_if_ge (pc := 30) (tgt := 81) F dX3_textFault_30 rfl h1 (fun h1 => ?_) (fun h1 => ?_)
      · obtain ⟨v8, ev8, h1⟩ := lt_some h1
        refine r_iinc (pc := 81) (ls' := [(0, .ref ((zg Z).1 6)), (1, .int v7), (2, .int v8), (3, .int v6)]) F dX3_textFault_81 rfl (by rw [ev8]; rfl) (Nat.le_of_ble_eq_true rfl) rfl ?_
        refine r_goto (pc := 84) (tgt := 4) F dX3_textFault_84 rfl ?_
        refine V_sub (ls' := [(0, .ref ((zg Z).1 6)), (1, .int v7), (2, .int v8)]) [0, 1, 2] rfl ?_
        exact hP1 (v7, v8) (Option.some.inj h1).symm
      · refine r_sipush (pc := 33) F dX3_textFault_33 sp_m1000 ?_
        refine r_iload_n (pc := 36) F dX3_textFault_36 rfl ?_
        refine r_isub (pc := 37) F dX3_textFault_37 ?_
        have h0 := congrArg some (hX1 _ (Option.some.inj h1).symm)
        exact hR _ _ _ _ dX3_textFault_38 rfl ⟨(Option.some.inj h0), rfl⟩
    · refine r_iload_n (pc := 39) F dX3_textFault_39 rfl ?_
      refine r_if_le (pc := 40) (tgt := 67) F dX3_textFault_40 rfl h1 (fun h1 => ?_) (fun h1 => ?_)
      · refine r_iload_n (pc := 67) F dX3_textFault_67 rfl ?_
        refine r_bipush (pc := 68) F dX3_textFault_68 bp_59 ?_
        refine r_icmp_eq (pc := 70) (tgt := 79) F dX3_textFault_70 rfl h1 (fun h1 => ?_) (fun h1 => ?_)
        · refine r_iconst (pc := 79) F dX3_textFault_79 ic_m1 ?_
          refine r_istore_n (pc := 80) (ls' := [(0, .ref ((zg Z).1 6)), (1, .int (-1)), (2, .int l2), (3, .int v6)]) F dX3_textFault_80 (Nat.le_of_ble_eq_true rfl) rfl ?_
          obtain ⟨v10, ev10, h1⟩ := lt_some h1
          refine r_iinc (pc := 81) (ls' := [(0, .ref ((zg Z).1 6)), (1, .int (-1)), (2, .int v10), (3, .int v6)]) F dX3_textFault_81 rfl (by rw [ev10]; rfl) (Nat.le_of_ble_eq_true rfl) rfl ?_
          refine r_goto (pc := 84) (tgt := 4) F dX3_textFault_84 rfl ?_
          refine V_sub (ls' := [(0, .ref ((zg Z).1 6)), (1, .int (-1)), (2, .int v10)]) [0, 1, 2] rfl ?_
          exact hP1 ((-1), v10) (Option.some.inj h1).symm
        · refine r_sipush (pc := 73) F dX3_textFault_73 sp_m1000 ?_
          refine r_iload_n (pc := 76) F dX3_textFault_76 rfl ?_
          refine r_isub (pc := 77) F dX3_textFault_77 ?_
          have h0 := congrArg some (hX1 _ (Option.some.inj h1).symm)
          exact hR _ _ _ _ dX3_textFault_78 rfl ⟨(Option.some.inj h0), rfl⟩
      · refine r_iload_n (pc := 43) F dX3_textFault_43 rfl ?_
        refine r_bipush (pc := 44) F dX3_textFault_44 bp_48 ?_
        refine r_icmp_lt (pc := 46) (tgt := 55) F dX3_textFault_46 rfl h1 (fun h1 => ?_) (fun h1 => ?_)
        · refine r_sipush (pc := 55) F dX3_textFault_55 sp_m1000 ?_
          refine r_iload_n (pc := 58) F dX3_textFault_58 rfl ?_
          refine r_isub (pc := 59) F dX3_textFault_59 ?_
          have h0 := congrArg some (hX1 _ (Option.some.inj h1).symm)
          exact hR _ _ _ _ dX3_textFault_60 rfl ⟨(Option.some.inj h0), rfl⟩
        · refine r_iload_n (pc := 49) F dX3_textFault_49 rfl ?_
          refine r_bipush (pc := 50) F dX3_textFault_50 bp_57 ?_
          refine r_icmp_le (pc := 52) (tgt := 61) F dX3_textFault_52 rfl h1 (fun h1 => ?_) (fun h1 => ?_)
          · obtain ⟨v12, ev12, h1⟩ := lt_some h1
            refine r_iinc (pc := 61) (ls' := [(0, .ref ((zg Z).1 6)), (1, .int v12), (2, .int l2), (3, .int v6)]) F dX3_textFault_61 rfl (by rw [ev12]; rfl) (Nat.le_of_ble_eq_true rfl) rfl ?_
            refine r_goto (pc := 64) (tgt := 81) F dX3_textFault_64 rfl ?_
            obtain ⟨v13, ev13, h1⟩ := lt_some h1
            refine r_iinc (pc := 81) (ls' := [(0, .ref ((zg Z).1 6)), (1, .int v12), (2, .int v13), (3, .int v6)]) F dX3_textFault_81 rfl (by rw [ev13]; rfl) (Nat.le_of_ble_eq_true rfl) rfl ?_
            refine r_goto (pc := 84) (tgt := 4) F dX3_textFault_84 rfl ?_
            refine V_sub (ls' := [(0, .ref ((zg Z).1 6)), (1, .int v12), (2, .int v13)]) [0, 1, 2] rfl ?_
            exact hP1 (v12, v13) (Option.some.inj h1).symm
          · refine r_sipush (pc := 55) F dX3_textFault_55 sp_m1000 ?_
            refine r_iload_n (pc := 58) F dX3_textFault_58 rfl ?_
            refine r_isub (pc := 59) F dX3_textFault_59 ?_
            have h0 := congrArg some (hX1 _ (Option.some.inj h1).symm)
            exact hR _ _ _ _ dX3_textFault_60 rfl ⟨(Option.some.inj h0), rfl⟩
set_option maxRecDepth 100000 in
set_option maxHeartbeats 4000000 in
theorem kX2_takeFrom (g : GT) (b : Nat) (hb : isCo b) (b1 : Nat) (hb1 : isCo b1) (w : Wd) (out : Wd) (h0 : fX2_takeFrom b b1 w = out) : CtV g yX2_takeFrom cX2_takeFrom 2 none 1 22 [.ref (g.1 b), .ref (g.1 b1)] w (fun w1 => w1 = out) := by
  refine CtV_of (by decide) (Nat.le_of_ble_eq_true rfl) (fun Z hg F hR => ?_)
  subst hg
  have F : Fx Z RX2 cX2_takeFrom 2 1 22 := F
  refine V_sub (ls' := [(0, .ref ((zg Z).1 b)), (1, .ref ((zg Z).1 b1))]) [0, 1] rfl ?_
  unfold fX2_takeFrom at h0
  refine r_aload_n (pc := 0) F dX2_takeFrom_0 rfl ?_
  refine r_aload_n (pc := 1) F dX2_takeFrom_1 rfl ?_
  refine r_getf (pc := 2) F dX2_takeFrom_2 fl_2_31 (lt_Co hb1) (ce_Co hb1 _ _ _) rfl ?_
  obtain ⟨w1, ew1, h0⟩ := lt_some h0
  refine r_putI (pc := 5) F dX2_takeFrom_5 fl_2_31 fp_2_0 (lt_Co hb) (ce_Co hb _) (Nat.le_of_ble_eq_true rfl) rfl rfl rfl ew1 ?_
  refine r_aload_n (pc := 8) F dX2_takeFrom_8 rfl ?_
  refine r_aload_n (pc := 9) F dX2_takeFrom_9 rfl ?_
  refine r_getf (pc := 10) F dX2_takeFrom_10 fl_2_34 (lt_Co hb1) (ce_Co hb1 _ _ _) rfl ?_
  obtain ⟨w3, ew3, h0⟩ := lt_some h0
  refine r_putI (pc := 13) F dX2_takeFrom_13 fl_2_34 fp_2_1 (lt_Co hb) (ce_Co hb _) (Nat.le_of_ble_eq_true rfl) rfl rfl rfl ew3 ?_
  refine r_aload_n (pc := 16) F dX2_takeFrom_16 rfl ?_
  refine r_aload_n (pc := 17) F dX2_takeFrom_17 rfl ?_
  refine r_getf (pc := 18) F dX2_takeFrom_18 fl_2_37 (lt_Co hb1) (ce_Co hb1 _ _ _) rfl ?_
  obtain ⟨w5, ew5, h0⟩ := lt_some h0
  refine r_putI (pc := 21) F dX2_takeFrom_21 fl_2_37 fp_2_2 (lt_Co hb) (ce_Co hb _) (Nat.le_of_ble_eq_true rfl) rfl rfl rfl ew5 ?_
  refine r_aload_n (pc := 24) F dX2_takeFrom_24 rfl ?_
  refine r_aload_n (pc := 25) F dX2_takeFrom_25 rfl ?_
  refine r_getf (pc := 26) F dX2_takeFrom_26 fl_2_9 (lt_Co hb1) (ce_Co hb1 _ _ _) rfl ?_
  obtain ⟨w7, ew7, h0⟩ := lt_some h0
  refine r_putI (pc := 29) F dX2_takeFrom_29 fl_2_9 fp_2_3 (lt_Co hb) (ce_Co hb _) (Nat.le_of_ble_eq_true rfl) rfl rfl rfl ew7 ?_
  refine r_aload_n (pc := 32) F dX2_takeFrom_32 rfl ?_
  refine r_aload_n (pc := 33) F dX2_takeFrom_33 rfl ?_
  refine r_getf (pc := 34) F dX2_takeFrom_34 fl_2_15 (lt_Co hb1) (ce_Co hb1 _ _ _) rfl ?_
  obtain ⟨w9, ew9, h0⟩ := lt_some h0
  refine r_putI (pc := 37) F dX2_takeFrom_37 fl_2_15 fp_2_4 (lt_Co hb) (ce_Co hb _) (Nat.le_of_ble_eq_true rfl) rfl rfl rfl ew9 ?_
  refine r_aload_n (pc := 40) F dX2_takeFrom_40 rfl ?_
  refine r_aload_n (pc := 41) F dX2_takeFrom_41 rfl ?_
  refine r_getf (pc := 42) F dX2_takeFrom_42 fl_2_40 (lt_Co hb1) (ce_Co hb1 _ _ _) rfl ?_
  obtain ⟨w11, ew11, h0⟩ := lt_some h0
  refine r_putI (pc := 45) F dX2_takeFrom_45 fl_2_40 fp_2_5 (lt_Co hb) (ce_Co hb _) (Nat.le_of_ble_eq_true rfl) rfl rfl rfl ew11 ?_
  refine r_aload_n (pc := 48) F dX2_takeFrom_48 rfl ?_
  refine r_aload_n (pc := 49) F dX2_takeFrom_49 rfl ?_
  refine r_getf (pc := 50) F dX2_takeFrom_50 fl_2_43 (lt_Co hb1) (ce_Co hb1 _ _ _) rfl ?_
  obtain ⟨w13, ew13, h0⟩ := lt_some h0
  refine r_putI (pc := 53) F dX2_takeFrom_53 fl_2_43 fp_2_6 (lt_Co hb) (ce_Co hb _) (Nat.le_of_ble_eq_true rfl) rfl rfl rfl ew13 ?_
  refine r_aload_n (pc := 56) F dX2_takeFrom_56 rfl ?_
  refine r_getf (pc := 57) F dX2_takeFrom_57 fl_2_18 (lt_Co hb1) (ce_Co hb1 _ _ _) rfl ?_
  refine r_iconst (pc := 60) F dX2_takeFrom_60 ic_0 ?_
  refine r_aload_n (pc := 61) F dX2_takeFrom_61 rfl ?_
  refine r_getf (pc := 62) F dX2_takeFrom_62 fl_2_18 (lt_Co hb) (ce_Co hb _ _ _) rfl ?_
  refine r_iconst (pc := 65) F dX2_takeFrom_65 ic_0 ?_
  refine r_bipush (pc := 66) F dX2_takeFrom_66 bp_8 ?_
  obtain ⟨w15, ew15, h0⟩ := lt_some h0
  refine r_acpI (pc := 68) (c := 8) F dX2_takeFrom_68 mk_2_46 mn_acp ms_acp mi_System (lt_Co9 hb1) (ca_Co9 hb1 _) (lt_Co9 hb) (ca_Co9 hb _) rfl rfl (by decide) rfl (Nat.le_of_ble_eq_true rfl) (Nat.le_of_ble_eq_true rfl) (Nat.le_of_ble_eq_true rfl) (Nat.le_of_ble_eq_true rfl) ew15 ?_
  refine r_aload_n (pc := 71) F dX2_takeFrom_71 rfl ?_
  refine r_getf (pc := 72) F dX2_takeFrom_72 fl_2_22 (lt_Co hb1) (ce_Co hb1 _ _ _) rfl ?_
  refine r_iconst (pc := 75) F dX2_takeFrom_75 ic_0 ?_
  refine r_aload_n (pc := 76) F dX2_takeFrom_76 rfl ?_
  refine r_getf (pc := 77) F dX2_takeFrom_77 fl_2_22 (lt_Co hb) (ce_Co hb _ _ _) rfl ?_
  refine r_iconst (pc := 80) F dX2_takeFrom_80 ic_0 ?_
  refine r_bipush (pc := 81) F dX2_takeFrom_81 bp_8 ?_
  obtain ⟨w17, ew17, h0⟩ := lt_some h0
  refine r_acpI (pc := 83) (c := 8) F dX2_takeFrom_83 mk_2_46 mn_acp ms_acp mi_System (lt_Co10 hb1) (ca_Co10 hb1 _) (lt_Co10 hb) (ca_Co10 hb _) rfl rfl (by decide) rfl (Nat.le_of_ble_eq_true rfl) (Nat.le_of_ble_eq_true rfl) (Nat.le_of_ble_eq_true rfl) (Nat.le_of_ble_eq_true rfl) ew17 ?_
  refine r_aload_n (pc := 86) F dX2_takeFrom_86 rfl ?_
  refine r_getf (pc := 87) F dX2_takeFrom_87 fl_2_25 (lt_Co hb1) (ce_Co hb1 _ _ _) rfl ?_
  refine r_iconst (pc := 90) F dX2_takeFrom_90 ic_0 ?_
  refine r_aload_n (pc := 91) F dX2_takeFrom_91 rfl ?_
  refine r_getf (pc := 92) F dX2_takeFrom_92 fl_2_25 (lt_Co hb) (ce_Co hb _ _ _) rfl ?_
  refine r_iconst (pc := 95) F dX2_takeFrom_95 ic_0 ?_
  refine r_bipush (pc := 96) F dX2_takeFrom_96 bp_25 ?_
  obtain ⟨w19, ew19, h0⟩ := lt_some h0
  refine r_acpI (pc := 98) (c := 25) F dX2_takeFrom_98 mk_2_46 mn_acp ms_acp mi_System (lt_Co11 hb1) (ca_Co11 hb1 _) (lt_Co11 hb) (ca_Co11 hb _) rfl rfl (by decide) rfl (Nat.le_of_ble_eq_true rfl) (Nat.le_of_ble_eq_true rfl) (Nat.le_of_ble_eq_true rfl) (Nat.le_of_ble_eq_true rfl) ew19 ?_
  refine r_aload_n (pc := 101) F dX2_takeFrom_101 rfl ?_
  refine r_getf (pc := 102) F dX2_takeFrom_102 fl_2_28 (lt_Co hb1) (ce_Co hb1 _ _ _) rfl ?_
  refine r_iconst (pc := 105) F dX2_takeFrom_105 ic_0 ?_
  refine r_aload_n (pc := 106) F dX2_takeFrom_106 rfl ?_
  refine r_getf (pc := 107) F dX2_takeFrom_107 fl_2_28 (lt_Co hb) (ce_Co hb _ _ _) rfl ?_
  refine r_iconst (pc := 110) F dX2_takeFrom_110 ic_0 ?_
  refine r_bipush (pc := 111) F dX2_takeFrom_111 bp_25 ?_
  obtain ⟨w21, ew21, h0⟩ := lt_some h0
  refine r_acpI (pc := 113) (c := 25) F dX2_takeFrom_113 mk_2_46 mn_acp ms_acp mi_System (lt_Co12 hb1) (ca_Co12 hb1 _) (lt_Co12 hb) (ca_Co12 hb _) rfl rfl (by decide) rfl (Nat.le_of_ble_eq_true rfl) (Nat.le_of_ble_eq_true rfl) (Nat.le_of_ble_eq_true rfl) (Nat.le_of_ble_eq_true rfl) ew21 ?_
  exact hR _ _ _ dX2_takeFrom_116 h0
set_option maxRecDepth 100000 in
set_option maxHeartbeats 4000000 in
theorem kX3_digitAt (g : GT) (w : Wd) (a1 : Int32) (out : Int32) (h0 : fX3_digitAt w a1 = some out) : CtI g yX3_digitAt cX3_digitAt 2 (some .int) 0 0 [.ref (g.1 6), .int a1] w (fun r w1 => r = out ∧ w1 = w) := by
  refine CtI_of .int (by decide) (Nat.le_of_ble_eq_true rfl) (fun Z hg F hR => ?_)
  subst hg
  have F : Fx Z RX3 cX3_digitAt 2 0 0 := F
  refine V_sub (ls' := [(0, .ref ((zg Z).1 6)), (1, .int a1)]) [0, 1] rfl ?_
  unfold fX3_digitAt at h0
  refine r_iload_n (pc := 0) F dX3_digitAt_0 rfl ?_
  refine r_if_lt (pc := 1) (tgt := 24) F dX3_digitAt_1 rfl h0 (fun h0 => ?_) (fun h0 => ?_)
  · refine r_iconst (pc := 24) F dX3_digitAt_24 ic_0 ?_
    exact hR _ _ _ _ dX3_digitAt_25 rfl ⟨(Option.some.inj h0), rfl⟩
  · refine r_iload_n (pc := 4) F dX3_digitAt_4 rfl ?_
    refine r_aload_n (pc := 5) F dX3_digitAt_5 rfl ?_
    refine r_getf (pc := 6) F dX3_digitAt_6 fl_3_23 i68_6 (ce_6 _ _ _) rfl ?_
    refine r_icmp_ge (pc := 9) (tgt := 24) F dX3_digitAt_9 rfl h0 (fun h0 => ?_) (fun h0 => ?_)
    · refine r_iconst (pc := 24) F dX3_digitAt_24 ic_0 ?_
      exact hR _ _ _ _ dX3_digitAt_25 rfl ⟨(Option.some.inj h0), rfl⟩
    · refine r_aload_n (pc := 12) F dX3_digitAt_12 rfl ?_
      refine r_getf (pc := 13) F dX3_digitAt_13 fl_3_9 i68_6 (ce_6 _ _ _) rfl ?_
      refine r_iload_n (pc := 16) F dX3_digitAt_16 rfl ?_
      obtain ⟨g1, h0⟩ := gd_some h0
      refine r_iald (pc := 17) F dX3_digitAt_17 i68_33 (ca_33 _) g1 rfl ?_
      refine r_bipush (pc := 18) F dX3_digitAt_18 bp_48 ?_
      refine r_isub (pc := 20) F dX3_digitAt_20 ?_
      refine r_goto (pc := 21) (tgt := 25) F dX3_digitAt_21 rfl ?_
      exact hR _ _ _ _ dX3_digitAt_25 rfl ⟨(Option.some.inj h0), rfl⟩
set_option maxRecDepth 100000 in
set_option maxHeartbeats 4000000 in
theorem kX2_putLit (g : GT) (b : Nat) (hb : isCo b) (w : Wd) (a1 : Int32) (a2 : Int32) (out : Wd) (h0 : fX2_putLit b w a1 a2 = out) : CtV g yX2_putLit cX2_putLit 3 none 0 0 [.ref (g.1 b), .int a1, .int a2] w (fun w1 => w1 = out) := by
  refine CtV_of (by decide) (Nat.le_of_ble_eq_true rfl) (fun Z hg F hR => ?_)
  subst hg
  have F : Fx Z RX2 cX2_putLit 3 0 0 := F
  refine V_sub (ls' := [(0, .ref ((zg Z).1 b)), (1, .int a1), (2, .int a2)]) [0, 1, 2] rfl ?_
  unfold fX2_putLit at h0
  have J26 : ∀ (w2 : Wd) (l1 : Int32), fX2_putLit_j26 b w2 l1 = out → V Z 26 [] [.int l1, .ref ((zg Z).1 b)] w2 := by
    intro w2 l1 h0
    unfold fX2_putLit_j26 at h0
    obtain ⟨w3, ew3, h0⟩ := lt_some h0
    refine r_putI (pc := 26) F dX2_putLit_26 fl_2_34 fp_2_1 (lt_Co hb) (ce_Co hb _) (Nat.le_of_ble_eq_true rfl) rfl rfl rfl ew3 ?_
    exact hR _ _ _ dX2_putLit_29 h0
  refine r_aload_n (pc := 0) F dX2_putLit_0 rfl ?_
  refine r_iload_n (pc := 1) F dX2_putLit_1 rfl ?_
  refine r_if_eq (pc := 2) (tgt := 16) F dX2_putLit_2 rfl h0 (fun h0 => ?_) (fun h0 => ?_)
  · refine r_aload_n (pc := 16) F dX2_putLit_16 rfl ?_
    refine r_getf (pc := 17) F dX2_putLit_17 fl_2_34 (lt_Co hb) (ce_Co hb _ _ _) rfl ?_
    refine r_iconst (pc := 20) F dX2_putLit_20 ic_1 ?_
    refine r_iload_n (pc := 21) F dX2_putLit_21 rfl ?_
    refine r_ishl (pc := 22) F dX2_putLit_22 ?_
    refine r_iconst (pc := 23) F dX2_putLit_23 ic_m1 ?_
    refine r_ixor (pc := 24) F dX2_putLit_24 ?_
    refine r_iand (pc := 25) F dX2_putLit_25 ?_
    refine V_sub (ls' := []) [] rfl ?_
    exact J26 w ((w.1 b 1) &&& (((1 : Int32) <<< (a1 &&& 31)) ^^^ (-1))) h0
  · refine r_aload_n (pc := 5) F dX2_putLit_5 rfl ?_
    refine r_getf (pc := 6) F dX2_putLit_6 fl_2_34 (lt_Co hb) (ce_Co hb _ _ _) rfl ?_
    refine r_iconst (pc := 9) F dX2_putLit_9 ic_1 ?_
    refine r_iload_n (pc := 10) F dX2_putLit_10 rfl ?_
    refine r_ishl (pc := 11) F dX2_putLit_11 ?_
    refine r_ior (pc := 12) F dX2_putLit_12 ?_
    refine r_goto (pc := 13) (tgt := 26) F dX2_putLit_13 rfl ?_
    refine V_sub (ls' := []) [] rfl ?_
    exact J26 w ((w.1 b 1) ||| ((1 : Int32) <<< (a1 &&& 31))) h0
set_option maxRecDepth 100000 in
set_option maxHeartbeats 4000000 in
theorem kX2_append (g : GT) (b : Nat) (hb : isCo b) (w : Wd) (a1 : Int32) (a2 : Int32) (a3 : Int32) (out : Wd) (h0 : fX2_append b w a1 a2 a3 = some out) : CtV g yX2_append cX2_append 4 none 1 22 [.ref (g.1 b), .int a1, .int a2, .int a3] w (fun w1 => w1 = out) := by
  refine CtV_of (by decide) (Nat.le_of_ble_eq_true rfl) (fun Z hg F hR => ?_)
  subst hg
  have F : Fx Z RX2 cX2_append 4 1 22 := F
  refine V_sub (ls' := [(0, .ref ((zg Z).1 b)), (1, .int a1), (2, .int a2), (3, .int a3)]) [0, 1, 2, 3] rfl ?_
  unfold fX2_append at h0
  refine r_aload_n (pc := 0) F dX2_append_0 rfl ?_
  refine r_getf (pc := 1) F dX2_append_1 fl_2_31 (lt_Co hb) (ce_Co hb _ _ _) rfl ?_
  refine r_bipush (pc := 4) F dX2_append_4 bp_8 ?_
  refine r_icmp_ge (pc := 6) (tgt := 50) F dX2_append_6 rfl h0 (fun h0 => ?_) (fun h0 => ?_)
  · exact hR _ _ _ dX2_append_50 (Option.some.inj h0)
  · refine r_aload_n (pc := 9) F dX2_append_9 rfl ?_
    refine r_getf (pc := 10) F dX2_append_10 fl_2_18 (lt_Co hb) (ce_Co hb _ _ _) rfl ?_
    refine r_aload_n (pc := 13) F dX2_append_13 rfl ?_
    refine r_getf (pc := 14) F dX2_append_14 fl_2_31 (lt_Co hb) (ce_Co hb _ _ _) rfl ?_
    refine r_iload_n (pc := 17) F dX2_append_17 rfl ?_
    obtain ⟨g2, h0⟩ := gd_some h0
    obtain ⟨w1, ew1, h0⟩ := lt_some h0
    refine r_iast (pc := 18) F dX2_append_18 (lt_Co9 hb) (ca_Co9 hb _) g2 rfl ew1 ?_
    refine r_aload_n (pc := 19) F dX2_append_19 rfl ?_
    refine r_getf (pc := 20) F dX2_append_20 fl_2_22 (lt_Co hb) (ce_Co hb _ _ _) rfl ?_
    refine r_aload_n (pc := 23) F dX2_append_23 rfl ?_
    refine r_getf (pc := 24) F dX2_append_24 fl_2_31 (lt_Co hb) (ce_Co hb _ _ _) rfl ?_
    refine r_iload_n (pc := 27) F dX2_append_27 rfl ?_
    obtain ⟨g5, h0⟩ := gd_some h0
    obtain ⟨w4, ew4, h0⟩ := lt_some h0
    refine r_iast (pc := 28) F dX2_append_28 (lt_Co10 hb) (ca_Co10 hb _) g5 rfl ew4 ?_
    refine r_aload_n (pc := 29) F dX2_append_29 rfl ?_
    refine r_dup (pc := 30) F dX2_append_30 rfl ?_
    refine r_getf (pc := 31) F dX2_append_31 fl_2_31 (lt_Co hb) (ce_Co hb _ _ _) rfl ?_
    refine r_iconst (pc := 34) F dX2_append_34 ic_1 ?_
    refine r_iadd (pc := 35) F dX2_append_35 ?_
    obtain ⟨w7, ew7, h0⟩ := lt_some h0
    refine r_putI (pc := 36) F dX2_append_36 fl_2_31 fp_2_0 (lt_Co hb) (ce_Co hb _) (Nat.le_of_ble_eq_true rfl) rfl rfl rfl ew7 ?_
    refine r_aload_n (pc := 39) F dX2_append_39 rfl ?_
    refine r_aload_n (pc := 40) F dX2_append_40 rfl ?_
    refine r_getf (pc := 41) F dX2_append_41 fl_2_31 (lt_Co hb) (ce_Co hb _ _ _) rfl ?_
    refine r_iconst (pc := 44) F dX2_append_44 ic_1 ?_
    refine r_isub (pc := 45) F dX2_append_45 ?_
    refine r_iload_n (pc := 46) F dX2_append_46 rfl ?_
    obtain ⟨w9, ew9, h0⟩ := lt_some h0
    refine r_Vv2 (pc := 47) F dX2_append_47 ml_2_52 (kX2_putLit _ b hb w7 ((w7.1 b 0) - 1) a3 w9 ew9.symm) (lt_Co hb) (ce_Co hb _ _ _) (Nat.le_of_ble_eq_true rfl) (Nat.le_of_ble_eq_true rfl) (Nat.le_of_ble_eq_true rfl) ?_
    exact hR _ _ _ dX2_append_50 (Option.some.inj h0)
set_option maxRecDepth 100000 in
set_option maxHeartbeats 4000000 in
theorem kX3_personComes (g : GT) (w : Wd) (a1 : Int32) (a2 : Int32) (a3 : Int32) (out : Int32 × Wd) (h0 : fX3_personComes w a1 a2 a3 = some out) : CtI g yX3_personComes cX3_personComes 5 (some .boolean) 2 45 [.ref (g.1 6), .int a1, .int a2, .int a3] w (fun r w1 => (r, w1) = out) := by
  refine CtI_of .boolean (by decide) (Nat.le_of_ble_eq_true rfl) (fun Z hg F hR => ?_)
  subst hg
  have F : Fx Z RX3 cX3_personComes 5 2 45 := F
  refine V_sub (ls' := [(0, .ref ((zg Z).1 6)), (1, .int a1), (2, .int a2), (3, .int a3)]) [0, 1, 2, 3] rfl ?_
  unfold fX3_personComes at h0
  refine r_iload_n (pc := 0) F dX3_personComes_0 rfl ?_
  refine r_bipush (pc := 1) F dX3_personComes_1 bp_6 ?_
  obtain ⟨v1, hv1, h0⟩ := lt_some h0
  have hv1 := hv1.symm
  suffices Jv1 : V Z 16 [(0, .ref ((zg Z).1 6)), (1, .int a1), (2, .int a2), (3, .int a3)] [.int v1] w by
    refine r_icmp_ne (pc := 3) (tgt := 15) F dX3_personComes_3 rfl hv1 (fun hv1 => ?_) (fun hv1 => ?_)
    · refine r_iload_n (pc := 6) F dX3_personComes_6 rfl ?_
      refine r_iconst (pc := 7) F dX3_personComes_7 ic_1 ?_
      refine r_icmp_ne (pc := 8) (tgt := 15) F dX3_personComes_8 rfl hv1 (fun hv1 => ?_) (fun hv1 => ?_)
      · refine r_iconst (pc := 11) F dX3_personComes_11 ic_1 ?_
        refine r_goto (pc := 12) (tgt := 16) F dX3_personComes_12 rfl ?_
        exact V_nm hv1.symm Jv1
      · refine r_iconst (pc := 15) F dX3_personComes_15 ic_0 ?_
        exact V_nm hv1.symm Jv1
    · refine r_iconst (pc := 15) F dX3_personComes_15 ic_0 ?_
      exact V_nm hv1.symm Jv1
  refine r_istore (pc := 16) (ls' := [(0, .ref ((zg Z).1 6)), (1, .int a1), (2, .int a2), (3, .int a3), (4, .int v1)]) F dX3_personComes_16 (Nat.le_of_ble_eq_true rfl) rfl ?_
  refine r_iload_n (pc := 18) F dX3_personComes_18 rfl ?_
  refine r_bipush (pc := 19) F dX3_personComes_19 bp_6 ?_
  refine r_icmp_gt (pc := 21) (tgt := 46) F dX3_personComes_21 rfl h0 (fun h0 => ?_) (fun h0 => ?_)
  · refine r_iconst (pc := 46) F dX3_personComes_46 ic_0 ?_
    exact hR _ _ _ _ dX3_personComes_47 rfl (Option.some.inj h0)
  · refine r_iload_n (pc := 24) F dX3_personComes_24 rfl ?_
    refine r_iconst (pc := 25) F dX3_personComes_25 ic_1 ?_
    refine r_icmp_gt (pc := 26) (tgt := 46) F dX3_personComes_26 rfl h0 (fun h0 => ?_) (fun h0 => ?_)
    · refine r_iconst (pc := 46) F dX3_personComes_46 ic_0 ?_
      exact hR _ _ _ _ dX3_personComes_47 rfl (Option.some.inj h0)
    · refine r_iload (pc := 29) F dX3_personComes_29 rfl ?_
      refine r_if_ne (pc := 31) (tgt := 46) F dX3_personComes_31 rfl h0 (fun h0 => ?_) (fun h0 => ?_)
      · refine r_aload_n (pc := 34) F dX3_personComes_34 rfl ?_
        refine r_getf (pc := 35) F dX3_personComes_35 fl_3_15 i68_6 (ce_6 _ _ _) rfl ?_
        refine r_getf (pc := 38) F dX3_personComes_38 fl_3_80 i68_3 (ce_3 _ _ _) rfl ?_
        refine r_bipush (pc := 41) F dX3_personComes_41 bp_8 ?_
        refine r_icmp_lt (pc := 43) (tgt := 48) F dX3_personComes_43 rfl h0 (fun h0 => ?_) (fun h0 => ?_)
        · refine r_aload_n (pc := 48) F dX3_personComes_48 rfl ?_
          refine r_getf (pc := 49) F dX3_personComes_49 fl_3_15 i68_6 (ce_6 _ _ _) rfl ?_
          refine r_iload_n (pc := 52) F dX3_personComes_52 rfl ?_
          refine r_iload_n (pc := 53) F dX3_personComes_53 rfl ?_
          refine r_iload_n (pc := 54) F dX3_personComes_54 rfl ?_
          refine r_iconst (pc := 55) F dX3_personComes_55 ic_1 ?_
          obtain ⟨v3, hv3, h0⟩ := lt_some h0
          have hv3 := hv3.symm
          suffices Jv3 : V Z 64 [(0, .ref ((zg Z).1 6)), (1, .int a1), (2, .int a2), (3, .int a3), (4, .int v1)] [.int v3, .int a2, .int a1, .ref ((zg Z).1 3)] w by
            refine r_icmp_ne (pc := 56) (tgt := 63) F dX3_personComes_56 rfl hv3 (fun hv3 => ?_) (fun hv3 => ?_)
            · refine r_iconst (pc := 59) F dX3_personComes_59 ic_1 ?_
              refine r_goto (pc := 60) (tgt := 64) F dX3_personComes_60 rfl ?_
              exact V_nm hv3.symm Jv3
            · refine r_iconst (pc := 63) F dX3_personComes_63 ic_0 ?_
              exact V_nm hv3.symm Jv3
          obtain ⟨w4, ew4, h0⟩ := bind_some h0
          refine r_Vv3 (pc := 64) F dX3_personComes_64 ml_3_83 (kX2_append _ 3 co3 w a1 a2 v3 w4 ew4) i68_3 (ce_3 _ _ _) (Nat.le_of_ble_eq_true rfl) (Nat.le_of_ble_eq_true rfl) (Nat.le_of_ble_eq_true rfl) ?_
          refine r_iconst (pc := 67) F dX3_personComes_67 ic_1 ?_
          exact hR _ _ _ _ dX3_personComes_68 rfl (Option.some.inj h0)
        · refine r_iconst (pc := 46) F dX3_personComes_46 ic_0 ?_
          exact hR _ _ _ _ dX3_personComes_47 rfl (Option.some.inj h0)
      · refine r_iconst (pc := 46) F dX3_personComes_46 ic_0 ?_
        exact hR _ _ _ _ dX3_personComes_47 rfl (Option.some.inj h0)
set_option maxRecDepth 100000 in
set_option maxHeartbeats 4000000 in
theorem kX3_twoDigitsAt (g : GT) (w : Wd) (a1 : Int32) (out : Int32) (h0 : fX3_twoDigitsAt w a1 = some out) : CtI g yX3_twoDigitsAt cX3_twoDigitsAt 2 (some .int) 1 21 [.ref (g.1 6), .int a1] w (fun r w1 => r = out ∧ w1 = w) := by
  refine CtI_of .int (by decide) (Nat.le_of_ble_eq_true rfl) (fun Z hg F hR => ?_)
  subst hg
  have F : Fx Z RX3 cX3_twoDigitsAt 2 1 21 := F
  refine V_sub (ls' := [(0, .ref ((zg Z).1 6)), (1, .int a1)]) [0, 1] rfl ?_
  unfold fX3_twoDigitsAt at h0
  refine r_bipush (pc := 0) F dX3_twoDigitsAt_0 bp_10 ?_
  refine r_aload_n (pc := 2) F dX3_twoDigitsAt_2 rfl ?_
  refine r_iload_n (pc := 3) F dX3_twoDigitsAt_3 rfl ?_
  obtain ⟨r1, er1, h0⟩ := bind_some h0
  refine r_Vi1 (pc := 4) F dX3_twoDigitsAt_4 ml_3_45 (kX3_digitAt _ w a1 r1 er1) i68_6 (ce_6 _ _ _) (Nat.le_of_ble_eq_true rfl) (Nat.le_of_ble_eq_true rfl) (Nat.le_of_ble_eq_true rfl) ?_
  refine r_imul (pc := 7) F dX3_twoDigitsAt_7 ?_
  refine r_aload_n (pc := 8) F dX3_twoDigitsAt_8 rfl ?_
  refine r_iload_n (pc := 9) F dX3_twoDigitsAt_9 rfl ?_
  refine r_iconst (pc := 10) F dX3_twoDigitsAt_10 ic_1 ?_
  refine r_iadd (pc := 11) F dX3_twoDigitsAt_11 ?_
  obtain ⟨r2, er2, h0⟩ := bind_some h0
  refine r_Vi1 (pc := 12) F dX3_twoDigitsAt_12 ml_3_45 (kX3_digitAt _ w (a1 + 1) r2 er2) i68_6 (ce_6 _ _ _) (Nat.le_of_ble_eq_true rfl) (Nat.le_of_ble_eq_true rfl) (Nat.le_of_ble_eq_true rfl) ?_
  refine r_iadd (pc := 15) F dX3_twoDigitsAt_15 ?_
  exact hR _ _ _ _ dX3_twoDigitsAt_16 rfl ⟨(Option.some.inj h0), rfl⟩
set_option maxRecDepth 100000 in
set_option maxHeartbeats 4000000 in
theorem kX9_isOutside (g : GT) (w : Wd) (a0 : Int32) (a1 : Int32) (out : Int32) (h0 : fX9_isOutside a0 a1 = out) : CtI g yX9_isOutside cX9_isOutside 2 (some .boolean) 0 0 [.int a0, .int a1] w (fun r w1 => r = out ∧ w1 = w) := by
  refine CtI_of .boolean (by decide) (Nat.le_of_ble_eq_true rfl) (fun Z hg F hR => ?_)
  subst hg
  have F : Fx Z RX9 cX9_isOutside 2 0 0 := F
  refine V_sub (ls' := [(0, .int a0), (1, .int a1)]) [0, 1] rfl ?_
  unfold fX9_isOutside at h0
  refine r_iload_n (pc := 0) F dX9_isOutside_0 rfl ?_
  refine r_if_lt (pc := 1) (tgt := 9) F dX9_isOutside_1 rfl h0 (fun h0 => ?_) (fun h0 => ?_)
  · refine r_iconst (pc := 9) F dX9_isOutside_9 ic_1 ?_
    refine r_goto (pc := 10) (tgt := 14) F dX9_isOutside_10 rfl ?_
    exact hR _ _ _ _ dX9_isOutside_14 rfl ⟨h0, rfl⟩
  · refine r_iload_n (pc := 4) F dX9_isOutside_4 rfl ?_
    refine r_iload_n (pc := 5) F dX9_isOutside_5 rfl ?_
    refine r_icmp_le (pc := 6) (tgt := 13) F dX9_isOutside_6 rfl h0 (fun h0 => ?_) (fun h0 => ?_)
    · refine r_iconst (pc := 13) F dX9_isOutside_13 ic_0 ?_
      exact hR _ _ _ _ dX9_isOutside_14 rfl ⟨h0, rfl⟩
    · refine r_iconst (pc := 9) F dX9_isOutside_9 ic_1 ?_
      refine r_goto (pc := 10) (tgt := 14) F dX9_isOutside_10 rfl ?_
      exact hR _ _ _ _ dX9_isOutside_14 rfl ⟨h0, rfl⟩
set_option maxRecDepth 100000 in
set_option maxHeartbeats 4000000 in
theorem kX3_windComes (g : GT) (w : Wd) (a1 : Int32) (a2 : Int32) (a3 : Int32) (out : Int32 × Wd) (h0 : fX3_windComes w a1 a2 a3 = some out) : CtI g yX3_windComes cX3_windComes 4 (some .boolean) 1 21 [.ref (g.1 6), .int a1, .int a2, .int a3] w (fun r w1 => (r, w1) = out) := by
  refine CtI_of .boolean (by decide) (Nat.le_of_ble_eq_true rfl) (fun Z hg F hR => ?_)
  subst hg
  have F : Fx Z RX3 cX3_windComes 4 1 21 := F
  refine V_sub (ls' := [(0, .ref ((zg Z).1 6)), (1, .int a1), (2, .int a2), (3, .int a3)]) [0, 1, 2, 3] rfl ?_
  unfold fX3_windComes at h0
  refine r_iload_n (pc := 0) F dX3_windComes_0 rfl ?_
  refine r_bipush (pc := 1) F dX3_windComes_1 bp_24 ?_
  refine r_Ni2 (pc := 3) F dX3_windComes_3 ml_3_87 (kX9_isOutside _ w a1 24 _ rfl) (Nat.le_of_ble_eq_true rfl) (Nat.le_of_ble_eq_true rfl) (Nat.le_of_ble_eq_true rfl) ?_
  refine r_if_ne (pc := 6) (tgt := 14) F dX3_windComes_6 rfl h0 (fun h0 => ?_) (fun h0 => ?_)
  · refine r_iload_n (pc := 9) F dX3_windComes_9 rfl ?_
    refine r_iconst (pc := 10) F dX3_windComes_10 ic_2 ?_
    refine r_icmp_le (pc := 11) (tgt := 16) F dX3_windComes_11 rfl h0 (fun h0 => ?_) (fun h0 => ?_)
    · refine r_aload_n (pc := 16) F dX3_windComes_16 rfl ?_
      refine r_getf (pc := 17) F dX3_windComes_17 fl_3_15 i68_6 (ce_6 _ _ _) rfl ?_
      refine r_getf (pc := 20) F dX3_windComes_20 fl_3_90 i68_3 (ce_3 _ _ _) rfl ?_
      refine r_iload_n (pc := 23) F dX3_windComes_23 rfl ?_
      refine r_iload_n (pc := 24) F dX3_windComes_24 rfl ?_
      obtain ⟨g2, h0⟩ := gd_some h0
      obtain ⟨w1, ew1, h0⟩ := lt_some h0
      refine r_iast (pc := 25) F dX3_windComes_25 i68_23 (ca_23 _) g2 rfl ew1 ?_
      refine r_aload_n (pc := 26) F dX3_windComes_26 rfl ?_
      refine r_getf (pc := 27) F dX3_windComes_27 fl_3_15 i68_6 (ce_6 _ _ _) rfl ?_
      refine r_getf (pc := 30) F dX3_windComes_30 fl_3_93 i68_3 (ce_3 _ _ _) rfl ?_
      refine r_iload_n (pc := 33) F dX3_windComes_33 rfl ?_
      refine r_iload_n (pc := 34) F dX3_windComes_34 rfl ?_
      obtain ⟨w4, ew4, h0⟩ := lt_some h0
      refine r_iast (pc := 35) F dX3_windComes_35 i68_24 (ca_24 _) g2 rfl ew4 ?_
      refine r_iconst (pc := 36) F dX3_windComes_36 ic_1 ?_
      exact hR _ _ _ _ dX3_windComes_37 rfl (Option.some.inj h0)
    · refine r_iconst (pc := 14) F dX3_windComes_14 ic_0 ?_
      exact hR _ _ _ _ dX3_windComes_15 rfl (Option.some.inj h0)
  · refine r_iconst (pc := 14) F dX3_windComes_14 ic_0 ?_
    exact hR _ _ _ _ dX3_windComes_15 rfl (Option.some.inj h0)
set_option maxRecDepth 100000 in
set_option maxHeartbeats 4000000 in
theorem kX3_formComes (g : GT) (w : Wd) (a1 : Int32) (a2 : Int32) (out : Int32 × Wd) (h0 : fX3_formComes w a1 a2 = out) : CtI g yX3_formComes cX3_formComes 3 (some .boolean) 0 0 [.ref (g.1 6), .int a1, .int a2] w (fun r w1 => (r, w1) = out) := by
  refine CtI_of .boolean (by decide) (Nat.le_of_ble_eq_true rfl) (fun Z hg F hR => ?_)
  subst hg
  have F : Fx Z RX3 cX3_formComes 3 0 0 := F
  refine V_sub (ls' := [(0, .ref ((zg Z).1 6)), (1, .int a1), (2, .int a2)]) [0, 1, 2] rfl ?_
  unfold fX3_formComes at h0
  refine r_iload_n (pc := 0) F dX3_formComes_0 rfl ?_
  refine r_iconst (pc := 1) F dX3_formComes_1 ic_2 ?_
  refine r_icmp_gt (pc := 2) (tgt := 15) F dX3_formComes_2 rfl h0 (fun h0 => ?_) (fun h0 => ?_)
  · refine r_iconst (pc := 15) F dX3_formComes_15 ic_0 ?_
    exact hR _ _ _ _ dX3_formComes_16 rfl h0
  · refine r_iload_n (pc := 5) F dX3_formComes_5 rfl ?_
    refine r_iconst (pc := 6) F dX3_formComes_6 ic_1 ?_
    refine r_icmp_lt (pc := 7) (tgt := 15) F dX3_formComes_7 rfl h0 (fun h0 => ?_) (fun h0 => ?_)
    · refine r_iconst (pc := 15) F dX3_formComes_15 ic_0 ?_
      exact hR _ _ _ _ dX3_formComes_16 rfl h0
    · refine r_iload_n (pc := 10) F dX3_formComes_10 rfl ?_
      refine r_iconst (pc := 11) F dX3_formComes_11 ic_2 ?_
      refine r_icmp_le (pc := 12) (tgt := 17) F dX3_formComes_12 rfl h0 (fun h0 => ?_) (fun h0 => ?_)
      · refine r_aload_n (pc := 17) F dX3_formComes_17 rfl ?_
        refine r_getf (pc := 18) F dX3_formComes_18 fl_3_15 i68_6 (ce_6 _ _ _) rfl ?_
        refine r_iload_n (pc := 21) F dX3_formComes_21 rfl ?_
        obtain ⟨w1, ew1, h0⟩ := lt_some h0
        refine r_putI (pc := 22) F dX3_formComes_22 fl_3_96 fp_2_2 i68_3 (ce_3 _) (Nat.le_of_ble_eq_true rfl) rfl rfl rfl ew1 ?_
        refine r_aload_n (pc := 25) F dX3_formComes_25 rfl ?_
        refine r_getf (pc := 26) F dX3_formComes_26 fl_3_15 i68_6 (ce_6 _ _ _) rfl ?_
        refine r_iload_n (pc := 29) F dX3_formComes_29 rfl ?_
        obtain ⟨w3, ew3, h0⟩ := lt_some h0
        refine r_putI (pc := 30) F dX3_formComes_30 fl_3_99 fp_2_3 i68_3 (ce_3 _) (Nat.le_of_ble_eq_true rfl) rfl rfl rfl ew3 ?_
        refine r_iconst (pc := 33) F dX3_formComes_33 ic_1 ?_
        exact hR _ _ _ _ dX3_formComes_34 rfl h0
      · refine r_iconst (pc := 15) F dX3_formComes_15 ic_0 ?_
        exact hR _ _ _ _ dX3_formComes_16 rfl h0
set_option maxRecDepth 100000 in
set_option maxHeartbeats 4000000 in
theorem kX3_doorComes (g : GT) (w : Wd) (a1 : Int32) (out : Int32 × Wd) (h0 : fX3_doorComes w a1 = out) : CtI g yX3_doorComes cX3_doorComes 2 (some .boolean) 0 0 [.ref (g.1 6), .int a1] w (fun r w1 => (r, w1) = out) := by
  refine CtI_of .boolean (by decide) (Nat.le_of_ble_eq_true rfl) (fun Z hg F hR => ?_)
  subst hg
  have F : Fx Z RX3 cX3_doorComes 2 0 0 := F
  refine V_sub (ls' := [(0, .ref ((zg Z).1 6)), (1, .int a1)]) [0, 1] rfl ?_
  unfold fX3_doorComes at h0
  refine r_iload_n (pc := 0) F dX3_doorComes_0 rfl ?_
  refine r_iconst (pc := 1) F dX3_doorComes_1 ic_1 ?_
  refine r_icmp_lt (pc := 2) (tgt := 22) F dX3_doorComes_2 rfl h0 (fun h0 => ?_) (fun h0 => ?_)
  · refine r_iconst (pc := 22) F dX3_doorComes_22 ic_0 ?_
    exact hR _ _ _ _ dX3_doorComes_23 rfl h0
  · refine r_iload_n (pc := 5) F dX3_doorComes_5 rfl ?_
    refine r_bipush (pc := 6) F dX3_doorComes_6 bp_24 ?_
    refine r_icmp_gt (pc := 8) (tgt := 22) F dX3_doorComes_8 rfl h0 (fun h0 => ?_) (fun h0 => ?_)
    · refine r_iconst (pc := 22) F dX3_doorComes_22 ic_0 ?_
      exact hR _ _ _ _ dX3_doorComes_23 rfl h0
    · refine r_iload_n (pc := 11) F dX3_doorComes_11 rfl ?_
      refine r_aload_n (pc := 12) F dX3_doorComes_12 rfl ?_
      refine r_getf (pc := 13) F dX3_doorComes_13 fl_3_15 i68_6 (ce_6 _ _ _) rfl ?_
      refine r_getf (pc := 16) F dX3_doorComes_16 fl_3_102 i68_3 (ce_3 _ _ _) rfl ?_
      refine r_icmp_ge (pc := 19) (tgt := 24) F dX3_doorComes_19 rfl h0 (fun h0 => ?_) (fun h0 => ?_)
      · refine r_aload_n (pc := 24) F dX3_doorComes_24 rfl ?_
        refine r_getf (pc := 25) F dX3_doorComes_25 fl_3_15 i68_6 (ce_6 _ _ _) rfl ?_
        refine r_iload_n (pc := 28) F dX3_doorComes_28 rfl ?_
        obtain ⟨w1, ew1, h0⟩ := lt_some h0
        refine r_putI (pc := 29) F dX3_doorComes_29 fl_3_105 fp_2_4 i68_3 (ce_3 _) (Nat.le_of_ble_eq_true rfl) rfl rfl rfl ew1 ?_
        refine r_iconst (pc := 32) F dX3_doorComes_32 ic_1 ?_
        exact hR _ _ _ _ dX3_doorComes_33 rfl h0
      · refine r_iconst (pc := 22) F dX3_doorComes_22 ic_0 ?_
        exact hR _ _ _ _ dX3_doorComes_23 rfl h0
set_option maxRecDepth 100000 in
set_option maxHeartbeats 4000000 in
theorem kX2_hasOne (g : GT) (b : Nat) (hb : isCo b) (w : Wd) (a1 : Int32) (out : Int32) (h0 : fX2_hasOne b w a1 = out) : CtI g yX2_hasOne cX2_hasOne 2 (some .boolean) 0 0 [.ref (g.1 b), .int a1] w (fun r w1 => r = out ∧ w1 = w) := by
  refine CtI_of .boolean (by decide) (Nat.le_of_ble_eq_true rfl) (fun Z hg F hR => ?_)
  subst hg
  have F : Fx Z RX2 cX2_hasOne 2 0 0 := F
  refine V_sub (ls' := [(0, .ref ((zg Z).1 b)), (1, .int a1)]) [0, 1] rfl ?_
  unfold fX2_hasOne at h0
  refine r_iload_n (pc := 0) F dX2_hasOne_0 rfl ?_
  refine r_if_lt (pc := 1) (tgt := 16) F dX2_hasOne_1 rfl h0 (fun h0 => ?_) (fun h0 => ?_)
  · refine r_iconst (pc := 16) F dX2_hasOne_16 ic_0 ?_
    exact hR _ _ _ _ dX2_hasOne_17 rfl ⟨h0, rfl⟩
  · refine r_iload_n (pc := 4) F dX2_hasOne_4 rfl ?_
    refine r_aload_n (pc := 5) F dX2_hasOne_5 rfl ?_
    refine r_getf (pc := 6) F dX2_hasOne_6 fl_2_31 (lt_Co hb) (ce_Co hb _ _ _) rfl ?_
    refine r_icmp_ge (pc := 9) (tgt := 16) F dX2_hasOne_9 rfl h0 (fun h0 => ?_) (fun h0 => ?_)
    · refine r_iconst (pc := 16) F dX2_hasOne_16 ic_0 ?_
      exact hR _ _ _ _ dX2_hasOne_17 rfl ⟨h0, rfl⟩
    · refine r_iconst (pc := 12) F dX2_hasOne_12 ic_1 ?_
      refine r_goto (pc := 13) (tgt := 17) F dX2_hasOne_13 rfl ?_
      exact hR _ _ _ _ dX2_hasOne_17 rfl ⟨h0, rfl⟩
set_option maxRecDepth 100000 in
set_option maxHeartbeats 4000000 in
theorem kX2_isSmall (g : GT) (b : Nat) (hb : isCo b) (w : Wd) (a1 : Int32) (out : Int32) (h0 : fX2_isSmall b w a1 = some out) : CtI g yX2_isSmall cX2_isSmall 2 (some .boolean) 0 0 [.ref (g.1 b), .int a1] w (fun r w1 => r = out ∧ w1 = w) := by
  refine CtI_of .boolean (by decide) (Nat.le_of_ble_eq_true rfl) (fun Z hg F hR => ?_)
  subst hg
  have F : Fx Z RX2 cX2_isSmall 2 0 0 := F
  refine V_sub (ls' := [(0, .ref ((zg Z).1 b)), (1, .int a1)]) [0, 1] rfl ?_
  unfold fX2_isSmall at h0
  refine r_aload_n (pc := 0) F dX2_isSmall_0 rfl ?_
  refine r_getf (pc := 1) F dX2_isSmall_1 fl_2_18 (lt_Co hb) (ce_Co hb _ _ _) rfl ?_
  refine r_iload_n (pc := 4) F dX2_isSmall_4 rfl ?_
  obtain ⟨g1, h0⟩ := gd_some h0
  refine r_iald (pc := 5) F dX2_isSmall_5 (lt_Co9 hb) (ca_Co9 hb _) g1 rfl ?_
  refine r_bipush (pc := 6) F dX2_isSmall_6 bp_6 ?_
  refine r_icmp_ne (pc := 8) (tgt := 15) F dX2_isSmall_8 rfl h0 (fun h0 => ?_) (fun h0 => ?_)
  · refine r_iconst (pc := 11) F dX2_isSmall_11 ic_1 ?_
    refine r_goto (pc := 12) (tgt := 16) F dX2_isSmall_12 rfl ?_
    exact hR _ _ _ _ dX2_isSmall_16 rfl ⟨(Option.some.inj h0), rfl⟩
  · refine r_iconst (pc := 15) F dX2_isSmall_15 ic_0 ?_
    exact hR _ _ _ _ dX2_isSmall_16 rfl ⟨(Option.some.inj h0), rfl⟩
set_option maxRecDepth 100000 in
set_option maxHeartbeats 4000000 in
theorem kX9_hasBit (g : GT) (w : Wd) (a0 : Int32) (a1 : Int32) (out : Int32) (h0 : fX9_hasBit a0 a1 = out) : CtI g yX9_hasBit cX9_hasBit 2 (some .boolean) 0 0 [.int a0, .int a1] w (fun r w1 => r = out ∧ w1 = w) := by
  refine CtI_of .boolean (by decide) (Nat.le_of_ble_eq_true rfl) (fun Z hg F hR => ?_)
  subst hg
  have F : Fx Z RX9 cX9_hasBit 2 0 0 := F
  refine V_sub (ls' := [(0, .int a0), (1, .int a1)]) [0, 1] rfl ?_
  unfold fX9_hasBit at h0
  refine r_iload_n (pc := 0) F dX9_hasBit_0 rfl ?_
  refine r_iload_n (pc := 1) F dX9_hasBit_1 rfl ?_
  refine r_ishr (pc := 2) F dX9_hasBit_2 ?_
  refine r_iconst (pc := 3) F dX9_hasBit_3 ic_1 ?_
  refine r_iand (pc := 4) F dX9_hasBit_4 ?_
  refine r_if_eq (pc := 5) (tgt := 12) F dX9_hasBit_5 rfl h0 (fun h0 => ?_) (fun h0 => ?_)
  · refine r_iconst (pc := 12) F dX9_hasBit_12 ic_0 ?_
    exact hR _ _ _ _ dX9_hasBit_13 rfl ⟨h0, rfl⟩
  · refine r_iconst (pc := 8) F dX9_hasBit_8 ic_1 ?_
    refine r_goto (pc := 9) (tgt := 13) F dX9_hasBit_9 rfl ?_
    exact hR _ _ _ _ dX9_hasBit_13 rfl ⟨h0, rfl⟩
set_option maxRecDepth 100000 in
set_option maxHeartbeats 4000000 in
theorem kX2_isLit (g : GT) (b : Nat) (hb : isCo b) (w : Wd) (a1 : Int32) (out : Int32) (h0 : fX2_isLit b w a1 = some out) : CtI g yX2_isLit cX2_isLit 2 (some .boolean) 1 21 [.ref (g.1 b), .int a1] w (fun r w1 => r = out ∧ w1 = w) := by
  refine CtI_of .boolean (by decide) (Nat.le_of_ble_eq_true rfl) (fun Z hg F hR => ?_)
  subst hg
  have F : Fx Z RX2 cX2_isLit 2 1 21 := F
  refine V_sub (ls' := [(0, .ref ((zg Z).1 b)), (1, .int a1)]) [0, 1] rfl ?_
  unfold fX2_isLit at h0
  refine r_aload_n (pc := 0) F dX2_isLit_0 rfl ?_
  refine r_getf (pc := 1) F dX2_isLit_1 fl_2_34 (lt_Co hb) (ce_Co hb _ _ _) rfl ?_
  refine r_iload_n (pc := 4) F dX2_isLit_4 rfl ?_
  refine r_Ni2 (pc := 5) F dX2_isLit_5 ml_2_56 (kX9_hasBit _ w (w.1 b 1) a1 _ rfl) (Nat.le_of_ble_eq_true rfl) (Nat.le_of_ble_eq_true rfl) (Nat.le_of_ble_eq_true rfl) ?_
  obtain ⟨g1, h0⟩ := gd_some h0
  exact hR _ _ _ _ dX2_isLit_8 (bz_n g1) ⟨(Option.some.inj h0), rfl⟩
set_option maxRecDepth 100000 in
set_option maxHeartbeats 4000000 in
theorem kX3_lightComes (g : GT) (w : Wd) (a1 : Int32) (out : Int32 × Wd) (h0 : fX3_lightComes w a1 = some out) : CtI g yX3_lightComes cX3_lightComes 2 (some .boolean) 2 42 [.ref (g.1 6), .int a1] w (fun r w1 => (r, w1) = out) := by
  refine CtI_of .boolean (by decide) (Nat.le_of_ble_eq_true rfl) (fun Z hg F hR => ?_)
  subst hg
  have F : Fx Z RX3 cX3_lightComes 2 2 42 := F
  refine V_sub (ls' := [(0, .ref ((zg Z).1 6)), (1, .int a1)]) [0, 1] rfl ?_
  unfold fX3_lightComes at h0
  refine r_aload_n (pc := 0) F dX3_lightComes_0 rfl ?_
  refine r_getf (pc := 1) F dX3_lightComes_1 fl_3_15 i68_6 (ce_6 _ _ _) rfl ?_
  refine r_iload_n (pc := 4) F dX3_lightComes_4 rfl ?_
  refine r_Vi1 (pc := 5) F dX3_lightComes_5 ml_3_108 (kX2_hasOne _ 3 co3 w a1 _ rfl) i68_3 (ce_3 _ _ _) (Nat.le_of_ble_eq_true rfl) (Nat.le_of_ble_eq_true rfl) (Nat.le_of_ble_eq_true rfl) ?_
  refine r_if_eq (pc := 8) (tgt := 22) F dX3_lightComes_8 rfl h0 (fun h0 => ?_) (fun h0 => ?_)
  · refine r_iconst (pc := 22) F dX3_lightComes_22 ic_0 ?_
    exact hR _ _ _ _ dX3_lightComes_23 rfl (Option.some.inj h0)
  · refine r_aload_n (pc := 11) F dX3_lightComes_11 rfl ?_
    refine r_getf (pc := 12) F dX3_lightComes_12 fl_3_15 i68_6 (ce_6 _ _ _) rfl ?_
    refine r_iload_n (pc := 15) F dX3_lightComes_15 rfl ?_
    obtain ⟨r1, er1, h0⟩ := bind_some h0
    refine r_Vi1 (pc := 16) F dX3_lightComes_16 ml_3_111 (kX2_isSmall _ 3 co3 w a1 r1 er1) i68_3 (ce_3 _ _ _) (Nat.le_of_ble_eq_true rfl) (Nat.le_of_ble_eq_true rfl) (Nat.le_of_ble_eq_true rfl) ?_
    refine r_if_eq (pc := 19) (tgt := 24) F dX3_lightComes_19 rfl h0 (fun h0 => ?_) (fun h0 => ?_)
    · refine r_aload_n (pc := 24) F dX3_lightComes_24 rfl ?_
      refine r_getf (pc := 25) F dX3_lightComes_25 fl_3_15 i68_6 (ce_6 _ _ _) rfl ?_
      refine r_iload_n (pc := 28) F dX3_lightComes_28 rfl ?_
      refine r_aload_n (pc := 29) F dX3_lightComes_29 rfl ?_
      refine r_getf (pc := 30) F dX3_lightComes_30 fl_3_15 i68_6 (ce_6 _ _ _) rfl ?_
      refine r_iload_n (pc := 33) F dX3_lightComes_33 rfl ?_
      obtain ⟨r2, er2, h0⟩ := bind_some h0
      refine r_Vi1 (pc := 34) F dX3_lightComes_34 ml_3_114 (kX2_isLit _ 3 co3 w a1 r2 er2) i68_3 (ce_3 _ _ _) (Nat.le_of_ble_eq_true rfl) (Nat.le_of_ble_eq_true rfl) (Nat.le_of_ble_eq_true rfl) ?_
      obtain ⟨v3, hv3, h0⟩ := lt_some h0
      have hv3 := hv3.symm
      suffices Jv3 : V Z 45 [(0, .ref ((zg Z).1 6)), (1, .int a1)] [.int v3, .int a1, .ref ((zg Z).1 3)] w by
        refine r_if_ne (pc := 37) (tgt := 44) F dX3_lightComes_37 rfl hv3 (fun hv3 => ?_) (fun hv3 => ?_)
        · refine r_iconst (pc := 40) F dX3_lightComes_40 ic_1 ?_
          refine r_goto (pc := 41) (tgt := 45) F dX3_lightComes_41 rfl ?_
          exact V_nm hv3.symm Jv3
        · refine r_iconst (pc := 44) F dX3_lightComes_44 ic_0 ?_
          exact V_nm hv3.symm Jv3
      obtain ⟨w4, ew4, h0⟩ := lt_some h0
      refine r_Vv2 (pc := 45) F dX3_lightComes_45 ml_3_117 (kX2_putLit _ 3 co3 w a1 v3 w4 ew4.symm) i68_3 (ce_3 _ _ _) (Nat.le_of_ble_eq_true rfl) (Nat.le_of_ble_eq_true rfl) (Nat.le_of_ble_eq_true rfl) ?_
      refine r_iconst (pc := 48) F dX3_lightComes_48 ic_1 ?_
      exact hR _ _ _ _ dX3_lightComes_49 rfl (Option.some.inj h0)
    · refine r_iconst (pc := 22) F dX3_lightComes_22 ic_0 ?_
      exact hR _ _ _ _ dX3_lightComes_23 rfl (Option.some.inj h0)
set_option maxRecDepth 100000 in
set_option maxHeartbeats 4000000 in
theorem kX2_isAtDoor (g : GT) (b : Nat) (hb : isCo b) (w : Wd) (out : Int32) (h0 : fX2_isAtDoor b w = out) : CtI g yX2_isAtDoor cX2_isAtDoor 1 (some .boolean) 0 0 [.ref (g.1 b)] w (fun r w1 => r = out ∧ w1 = w) := by
  refine CtI_of .boolean (by decide) (Nat.le_of_ble_eq_true rfl) (fun Z hg F hR => ?_)
  subst hg
  have F : Fx Z RX2 cX2_isAtDoor 1 0 0 := F
  refine V_sub (ls' := [(0, .ref ((zg Z).1 b))]) [0] rfl ?_
  unfold fX2_isAtDoor at h0
  refine r_aload_n (pc := 0) F dX2_isAtDoor_0 rfl ?_
  refine r_getf (pc := 1) F dX2_isAtDoor_1 fl_2_40 (lt_Co hb) (ce_Co hb _ _ _) rfl ?_
  refine r_aload_n (pc := 4) F dX2_isAtDoor_4 rfl ?_
  refine r_getf (pc := 5) F dX2_isAtDoor_5 fl_2_15 (lt_Co hb) (ce_Co hb _ _ _) rfl ?_
  refine r_icmp_lt (pc := 8) (tgt := 15) F dX2_isAtDoor_8 rfl h0 (fun h0 => ?_) (fun h0 => ?_)
  · refine r_iconst (pc := 15) F dX2_isAtDoor_15 ic_0 ?_
    exact hR _ _ _ _ dX2_isAtDoor_16 rfl ⟨h0, rfl⟩
  · refine r_iconst (pc := 11) F dX2_isAtDoor_11 ic_1 ?_
    refine r_goto (pc := 12) (tgt := 16) F dX2_isAtDoor_12 rfl ?_
    exact hR _ _ _ _ dX2_isAtDoor_16 rfl ⟨h0, rfl⟩
set_option maxRecDepth 100000 in
set_option maxHeartbeats 4000000 in
theorem kX2_grownOnes (g : GT) (b : Nat) (hb : isCo b) (w : Wd) (out : Int32) (h0 : fX2_grownOnes b w = some out) : CtI g yX2_grownOnes cX2_grownOnes 3 (some .int) 1 21 [.ref (g.1 b)] w (fun r w1 => r = out ∧ w1 = w) := by
  refine CtI_of .int (by decide) (Nat.le_of_ble_eq_true rfl) (fun Z hg F hR => ?_)
  subst hg
  have F : Fx Z RX2 cX2_grownOnes 3 1 21 := F
  refine V_sub (ls' := [(0, .ref ((zg Z).1 b))]) [0] rfl ?_
  unfold fX2_grownOnes at h0
  refine r_iconst (pc := 0) F dX2_grownOnes_0 ic_0 ?_
  refine r_istore_n (pc := 1) (ls' := [(0, .ref ((zg Z).1 b)), (1, .int 0)]) F dX2_grownOnes_1 (Nat.le_of_ble_eq_true rfl) rfl ?_
  refine r_iconst (pc := 2) F dX2_grownOnes_2 ic_0 ?_
  refine r_istore_n (pc := 3) (ls' := [(0, .ref ((zg Z).1 b)), (1, .int 0), (2, .int 0)]) F dX2_grownOnes_3 (Nat.le_of_ble_eq_true rfl) rfl ?_
  obtain ⟨l11, il11, h0⟩ := bind_some h0
  suffices E4 : V Z 32 [(1, .int l11)] [] w by
    refine iter_rule (P := fun s : Int32 × Int32 => V Z 4 [(0, .ref ((zg Z).1 b)), (1, .int (s.1)), (2, .int (s.2))] [] w) (x := l11) ?_ FU (0, 0) il11
    intro s y1 h1 hP1 hX1
    obtain ⟨l1, l2⟩ := s
    have h1 : fX2_grownOnes_b4 w b l1 l2 = some y1 := h1
    unfold fX2_grownOnes_b4 at h1
    refine r_iload_n (pc := 4) F dX2_grownOnes_4 rfl ?_
    refine r_aload_n (pc := 5) F dX2_grownOnes_5 rfl ?_
    refine r_getf (pc := 6) F dX2_grownOnes_6 fl_2_31 (lt_Co hb) (ce_Co hb _ _ _) rfl ?_
    refine r_icmp_ge (pc := 9) (tgt := 32) F dX2_grownOnes_9 rfl h1 (fun h1 => ?_) (fun h1 => ?_)
    · refine V_sub (ls' := [(1, .int l1)]) [1] rfl ?_
      have e3 := hX1 _ (Option.some.inj h1).symm
      cases e3
      exact E4
    · refine r_aload_n (pc := 12) F dX2_grownOnes_12 rfl ?_
      refine r_iload_n (pc := 13) F dX2_grownOnes_13 rfl ?_
      obtain ⟨r4, er4, h1⟩ := bind_some h1
      refine r_Vi1 (pc := 14) F dX2_grownOnes_14 ml_2_67 (kX2_isSmall _ b hb w l2 r4 er4) (lt_Co hb) (ce_Co hb _ _ _) (Nat.le_of_ble_eq_true rfl) (Nat.le_of_ble_eq_true rfl) (Nat.le_of_ble_eq_true rfl) ?_
      refine r_if_ne (pc := 17) (tgt := 26) F dX2_grownOnes_17 rfl h1 (fun h1 => ?_) (fun h1 => ?_)
      · refine r_iload_n (pc := 20) F dX2_grownOnes_20 rfl ?_
        refine r_iconst (pc := 21) F dX2_grownOnes_21 ic_1 ?_
        refine r_iload_n (pc := 22) F dX2_grownOnes_22 rfl ?_
        refine r_ishl (pc := 23) F dX2_grownOnes_23 ?_
        refine r_ior (pc := 24) F dX2_grownOnes_24 ?_
        obtain ⟨v5, ev5, h1⟩ := lt_some h1
        refine V_nm ev5 ?_
        refine r_istore_n (pc := 25) (ls' := [(0, .ref ((zg Z).1 b)), (1, .int v5), (2, .int l2)]) F dX2_grownOnes_25 (Nat.le_of_ble_eq_true rfl) rfl ?_
        obtain ⟨v6, ev6, h1⟩ := lt_some h1
        refine r_iinc (pc := 26) (ls' := [(0, .ref ((zg Z).1 b)), (1, .int v5), (2, .int v6)]) F dX2_grownOnes_26 rfl (by rw [ev6]; rfl) (Nat.le_of_ble_eq_true rfl) rfl ?_
        refine r_goto (pc := 29) (tgt := 4) F dX2_grownOnes_29 rfl ?_
        exact hP1 (v5, v6) (Option.some.inj h1).symm
      · obtain ⟨v7, ev7, h1⟩ := lt_some h1
        refine r_iinc (pc := 26) (ls' := [(0, .ref ((zg Z).1 b)), (1, .int l1), (2, .int v7)]) F dX2_grownOnes_26 rfl (by rw [ev7]; rfl) (Nat.le_of_ble_eq_true rfl) rfl ?_
        refine r_goto (pc := 29) (tgt := 4) F dX2_grownOnes_29 rfl ?_
        exact hP1 (l1, v7) (Option.some.inj h1).symm
  refine r_iload_n (pc := 32) F dX2_grownOnes_32 rfl ?_
  exact hR _ _ _ _ dX2_grownOnes_33 rfl ⟨(Option.some.inj h0), rfl⟩
set_option maxRecDepth 100000 in
set_option maxHeartbeats 4000000 in
theorem kX2_everybody (g : GT) (b : Nat) (hb : isCo b) (w : Wd) (out : Int32) (h0 : fX2_everybody b w = out) : CtI g yX2_everybody cX2_everybody 1 (some .int) 0 0 [.ref (g.1 b)] w (fun r w1 => r = out ∧ w1 = w) := by
  refine CtI_of .int (by decide) (Nat.le_of_ble_eq_true rfl) (fun Z hg F hR => ?_)
  subst hg
  have F : Fx Z RX2 cX2_everybody 1 0 0 := F
  refine V_sub (ls' := [(0, .ref ((zg Z).1 b))]) [0] rfl ?_
  unfold fX2_everybody at h0
  refine r_iconst (pc := 0) F dX2_everybody_0 ic_1 ?_
  refine r_aload_n (pc := 1) F dX2_everybody_1 rfl ?_
  refine r_getf (pc := 2) F dX2_everybody_2 fl_2_31 (lt_Co hb) (ce_Co hb _ _ _) rfl ?_
  refine r_ishl (pc := 5) F dX2_everybody_5 ?_
  refine r_iconst (pc := 6) F dX2_everybody_6 ic_1 ?_
  refine r_isub (pc := 7) F dX2_everybody_7 ?_
  exact hR _ _ _ _ dX2_everybody_8 rfl ⟨h0, rfl⟩
set_option maxRecDepth 100000 in
set_option maxHeartbeats 4000000 in
theorem kX2_nearOnes (g : GT) (b : Nat) (hb : isCo b) (w : Wd) (a1 : Int32) (out : Int32) (h0 : fX2_nearOnes b w a1 = some out) : CtI g yX2_nearOnes cX2_nearOnes 4 (some .int) 1 20 [.ref (g.1 b), .int a1] w (fun r w1 => r = out ∧ w1 = w) := by
  refine CtI_of .int (by decide) (Nat.le_of_ble_eq_true rfl) (fun Z hg F hR => ?_)
  subst hg
  have F : Fx Z RX2 cX2_nearOnes 4 1 20 := F
  refine V_sub (ls' := [(0, .ref ((zg Z).1 b)), (1, .int a1)]) [0, 1] rfl ?_
  unfold fX2_nearOnes at h0
  have J77 : ∀ (l5 : Int32), fX2_nearOnes_j77 b w l5 = some out → V Z 77 [(0, .ref ((zg Z).1 b)), (3, .int l5)] [] w := by
    intro l5 h0
    unfold fX2_nearOnes_j77 at h0
    refine r_iload_n (pc := 77) F dX2_nearOnes_77 rfl ?_
    refine r_aload_n (pc := 78) F dX2_nearOnes_78 rfl ?_
    refine r_Vi0 (pc := 79) F dX2_nearOnes_79 ml_2_85 (kX2_everybody _ b hb w _ rfl) (lt_Co hb) (ce_Co hb _ _ _) (Nat.le_of_ble_eq_true rfl) (Nat.le_of_ble_eq_true rfl) (Nat.le_of_ble_eq_true rfl) ?_
    refine r_iand (pc := 82) F dX2_nearOnes_82 ?_
    exact hR _ _ _ _ dX2_nearOnes_83 rfl ⟨(Option.some.inj h0), rfl⟩
  have J47 : ∀ (l2 : Int32), fX2_nearOnes_j47 b a1 w l2 = some out → V Z 47 [(0, .ref ((zg Z).1 b)), (1, .int a1), (2, .int l2)] [] w := by
    intro l2 h0
    unfold fX2_nearOnes_j47 at h0
    refine r_iload_n (pc := 47) F dX2_nearOnes_47 rfl ?_
    refine r_iconst (pc := 48) F dX2_nearOnes_48 ic_1 ?_
    refine r_ishl (pc := 49) F dX2_nearOnes_49 ?_
    refine r_iload_n (pc := 50) F dX2_nearOnes_50 rfl ?_
    refine r_iconst (pc := 51) F dX2_nearOnes_51 ic_1 ?_
    refine r_ishr (pc := 52) F dX2_nearOnes_52 ?_
    refine r_ior (pc := 53) F dX2_nearOnes_53 ?_
    obtain ⟨v3, ev3, h0⟩ := lt_some h0
    refine V_nm ev3 ?_
    refine r_istore_n (pc := 54) (ls' := [(0, .ref ((zg Z).1 b)), (1, .int a1), (2, .int l2), (3, .int v3)]) F dX2_nearOnes_54 (Nat.le_of_ble_eq_true rfl) rfl ?_
    refine r_aload_n (pc := 55) F dX2_nearOnes_55 rfl ?_
    refine r_getf (pc := 56) F dX2_nearOnes_56 fl_2_37 (lt_Co hb) (ce_Co hb _ _ _) rfl ?_
    refine r_iconst (pc := 59) F dX2_nearOnes_59 ic_2 ?_
    refine r_icmp_ne (pc := 60) (tgt := 77) F dX2_nearOnes_60 rfl h0 (fun h0 => ?_) (fun h0 => ?_)
    · refine r_iconst (pc := 63) F dX2_nearOnes_63 ic_1 ?_
      refine r_iload_n (pc := 64) F dX2_nearOnes_64 rfl ?_
      refine r_iconst (pc := 65) F dX2_nearOnes_65 ic_1 ?_
      refine r_ixor (pc := 66) F dX2_nearOnes_66 ?_
      refine r_ishl (pc := 67) F dX2_nearOnes_67 ?_
      refine r_iload_n (pc := 68) F dX2_nearOnes_68 rfl ?_
      refine r_iconst (pc := 69) F dX2_nearOnes_69 ic_2 ?_
      refine r_ishl (pc := 70) F dX2_nearOnes_70 ?_
      refine r_ior (pc := 71) F dX2_nearOnes_71 ?_
      refine r_iload_n (pc := 72) F dX2_nearOnes_72 rfl ?_
      refine r_iconst (pc := 73) F dX2_nearOnes_73 ic_2 ?_
      refine r_ishr (pc := 74) F dX2_nearOnes_74 ?_
      refine r_ior (pc := 75) F dX2_nearOnes_75 ?_
      obtain ⟨v4, ev4, h0⟩ := lt_some h0
      refine V_nm ev4 ?_
      refine r_istore_n (pc := 76) (ls' := [(0, .ref ((zg Z).1 b)), (1, .int a1), (2, .int l2), (3, .int v4)]) F dX2_nearOnes_76 (Nat.le_of_ble_eq_true rfl) rfl ?_
      refine V_sub (ls' := [(0, .ref ((zg Z).1 b)), (3, .int v4)]) [0, 3] rfl ?_
      exact J77 v4 h0
    · refine V_sub (ls' := [(0, .ref ((zg Z).1 b)), (3, .int v3)]) [0, 3] rfl ?_
      exact J77 v3 h0
  refine r_iconst (pc := 0) F dX2_nearOnes_0 ic_1 ?_
  refine r_iload_n (pc := 1) F dX2_nearOnes_1 rfl ?_
  refine r_ishl (pc := 2) F dX2_nearOnes_2 ?_
  obtain ⟨v1, ev1, h0⟩ := lt_some h0
  refine V_nm ev1 ?_
  refine r_istore_n (pc := 3) (ls' := [(0, .ref ((zg Z).1 b)), (1, .int a1), (2, .int v1)]) F dX2_nearOnes_3 (Nat.le_of_ble_eq_true rfl) rfl ?_
  refine r_aload_n (pc := 4) F dX2_nearOnes_4 rfl ?_
  refine r_getf (pc := 5) F dX2_nearOnes_5 fl_2_37 (lt_Co hb) (ce_Co hb _ _ _) rfl ?_
  refine r_iconst (pc := 8) F dX2_nearOnes_8 ic_1 ?_
  refine r_icmp_ne (pc := 9) (tgt := 47) F dX2_nearOnes_9 rfl h0 (fun h0 => ?_) (fun h0 => ?_)
  · refine r_aload_n (pc := 12) F dX2_nearOnes_12 rfl ?_
    refine r_getf (pc := 13) F dX2_nearOnes_13 fl_2_31 (lt_Co hb) (ce_Co hb _ _ _) rfl ?_
    refine r_iconst (pc := 16) F dX2_nearOnes_16 ic_1 ?_
    refine r_icmp_le (pc := 17) (tgt := 47) F dX2_nearOnes_17 rfl h0 (fun h0 => ?_) (fun h0 => ?_)
    · exact J47 v1 h0
    · refine r_iconst (pc := 20) F dX2_nearOnes_20 ic_1 ?_
      refine r_iload_n (pc := 21) F dX2_nearOnes_21 rfl ?_
      refine r_aload_n (pc := 22) F dX2_nearOnes_22 rfl ?_
      refine r_getf (pc := 23) F dX2_nearOnes_23 fl_2_31 (lt_Co hb) (ce_Co hb _ _ _) rfl ?_
      refine r_iadd (pc := 26) F dX2_nearOnes_26 ?_
      refine r_iconst (pc := 27) F dX2_nearOnes_27 ic_1 ?_
      refine r_isub (pc := 28) F dX2_nearOnes_28 ?_
      refine r_aload_n (pc := 29) F dX2_nearOnes_29 rfl ?_
      refine r_getf (pc := 30) F dX2_nearOnes_30 fl_2_31 (lt_Co hb) (ce_Co hb _ _ _) rfl ?_
      obtain ⟨g7, h0⟩ := gd_some h0
      refine r_irem (pc := 33) F dX2_nearOnes_33 (by simpa using g7) ?_
      refine r_ishl (pc := 34) F dX2_nearOnes_34 ?_
      refine r_iconst (pc := 35) F dX2_nearOnes_35 ic_1 ?_
      refine r_iload_n (pc := 36) F dX2_nearOnes_36 rfl ?_
      refine r_iconst (pc := 37) F dX2_nearOnes_37 ic_1 ?_
      refine r_iadd (pc := 38) F dX2_nearOnes_38 ?_
      refine r_aload_n (pc := 39) F dX2_nearOnes_39 rfl ?_
      refine r_getf (pc := 40) F dX2_nearOnes_40 fl_2_31 (lt_Co hb) (ce_Co hb _ _ _) rfl ?_
      refine r_irem (pc := 43) F dX2_nearOnes_43 (by simpa using g7) ?_
      refine r_ishl (pc := 44) F dX2_nearOnes_44 ?_
      refine r_ior (pc := 45) F dX2_nearOnes_45 ?_
      exact hR _ _ _ _ dX2_nearOnes_46 rfl ⟨(Option.some.inj h0), rfl⟩
  · exact J47 v1 h0
set_option maxRecDepth 100000 in
set_option maxHeartbeats 4000000 in
theorem kX2_holdsOf (g : GT) (b : Nat) (hb : isCo b) (w : Wd) (a1 : Int32) (out : Int32) (h0 : fX2_holdsOf b w a1 = some out) : CtI g yX2_holdsOf cX2_holdsOf 3 (some .int) 0 0 [.ref (g.1 b), .int a1] w (fun r w1 => r = out ∧ w1 = w) := by
  refine CtI_of .int (by decide) (Nat.le_of_ble_eq_true rfl) (fun Z hg F hR => ?_)
  subst hg
  have F : Fx Z RX2 cX2_holdsOf 3 0 0 := F
  refine V_sub (ls' := [(0, .ref ((zg Z).1 b)), (1, .int a1)]) [0, 1] rfl ?_
  unfold fX2_holdsOf at h0
  refine r_aload_n (pc := 0) F dX2_holdsOf_0 rfl ?_
  refine r_getf (pc := 1) F dX2_holdsOf_1 fl_2_22 (lt_Co hb) (ce_Co hb _ _ _) rfl ?_
  refine r_iload_n (pc := 4) F dX2_holdsOf_4 rfl ?_
  obtain ⟨g1, h0⟩ := gd_some h0
  refine r_iald (pc := 5) F dX2_holdsOf_5 (lt_Co10 hb) (ca_Co10 hb _) g1 rfl ?_
  refine r_iconst (pc := 6) F dX2_holdsOf_6 ic_3 ?_
  refine r_idiv (pc := 7) F dX2_holdsOf_7 (by decide) ?_
  obtain ⟨v2, ev2, h0⟩ := lt_some h0
  refine V_nm ev2 ?_
  refine r_istore_n (pc := 8) (ls' := [(0, .ref ((zg Z).1 b)), (1, .int a1), (2, .int v2)]) F dX2_holdsOf_8 (Nat.le_of_ble_eq_true rfl) rfl ?_
  refine r_aload_n (pc := 9) F dX2_holdsOf_9 rfl ?_
  refine r_getf (pc := 10) F dX2_holdsOf_10 fl_2_18 (lt_Co hb) (ce_Co hb _ _ _) rfl ?_
  refine r_iload_n (pc := 13) F dX2_holdsOf_13 rfl ?_
  refine r_iald (pc := 14) F dX2_holdsOf_14 (lt_Co9 hb) (ca_Co9 hb _) g1 rfl ?_
  obtain ⟨v3, ev3, h0⟩ := lt_some h0
  refine V_nm ev3 ?_
  by_cases c4 : v3 = 0
  · rw [if_pos c4] at h0
    refine r_tsw (pc := 15) (tgt := 52) F dX2_holdsOf_15 rfl (by rw [c4]; decide +kernel) ?_
    refine r_iconst (pc := 52) F dX2_holdsOf_52 ic_3 ?_
    refine r_iload_n (pc := 53) F dX2_holdsOf_53 rfl ?_
    refine r_iadd (pc := 54) F dX2_holdsOf_54 ?_
    exact hR _ _ _ _ dX2_holdsOf_55 rfl ⟨(Option.some.inj h0), rfl⟩
  rw [if_neg c4] at h0
  by_cases c5 : v3 = 1
  · rw [if_pos c5] at h0
    refine r_tsw (pc := 15) (tgt := 56) F dX2_holdsOf_15 rfl (by rw [c5]; decide +kernel) ?_
    refine r_iconst (pc := 56) F dX2_holdsOf_56 ic_5 ?_
    refine r_iload_n (pc := 57) F dX2_holdsOf_57 rfl ?_
    refine r_iadd (pc := 58) F dX2_holdsOf_58 ?_
    exact hR _ _ _ _ dX2_holdsOf_59 rfl ⟨(Option.some.inj h0), rfl⟩
  rw [if_neg c5] at h0
  by_cases c6 : v3 = 3
  · rw [if_pos c6] at h0
    refine r_tsw (pc := 15) (tgt := 60) F dX2_holdsOf_15 rfl (by rw [c6]; decide +kernel) ?_
    refine r_bipush (pc := 60) F dX2_holdsOf_60 bp_99 ?_
    exact hR _ _ _ _ dX2_holdsOf_62 rfl ⟨(Option.some.inj h0), rfl⟩
  rw [if_neg c6] at h0
  by_cases c7 : v3 = 4
  · rw [if_pos c7] at h0
    refine r_tsw (pc := 15) (tgt := 63) F dX2_holdsOf_15 rfl (by rw [c7]; decide +kernel) ?_
    refine r_iconst (pc := 63) F dX2_holdsOf_63 ic_2 ?_
    refine r_iload_n (pc := 64) F dX2_holdsOf_64 rfl ?_
    refine r_iadd (pc := 65) F dX2_holdsOf_65 ?_
    exact hR _ _ _ _ dX2_holdsOf_66 rfl ⟨(Option.some.inj h0), rfl⟩
  rw [if_neg c7] at h0
  by_cases c8 : v3 = 5
  · rw [if_pos c8] at h0
    refine r_tsw (pc := 15) (tgt := 67) F dX2_holdsOf_15 rfl (by rw [c8]; decide +kernel) ?_
    refine r_iconst (pc := 67) F dX2_holdsOf_67 ic_4 ?_
    refine r_iload_n (pc := 68) F dX2_holdsOf_68 rfl ?_
    refine r_iadd (pc := 69) F dX2_holdsOf_69 ?_
    refine r_aload_n (pc := 70) F dX2_holdsOf_70 rfl ?_
    refine r_getf (pc := 71) F dX2_holdsOf_71 fl_2_22 (lt_Co hb) (ce_Co hb _ _ _) rfl ?_
    refine r_iload_n (pc := 74) F dX2_holdsOf_74 rfl ?_
    refine r_iald (pc := 75) F dX2_holdsOf_75 (lt_Co10 hb) (ca_Co10 hb _) g1 rfl ?_
    refine r_iconst (pc := 76) F dX2_holdsOf_76 ic_2 ?_
    refine r_idiv (pc := 77) F dX2_holdsOf_77 (by decide) ?_
    refine r_iadd (pc := 78) F dX2_holdsOf_78 ?_
    exact hR _ _ _ _ dX2_holdsOf_79 rfl ⟨(Option.some.inj h0), rfl⟩
  rw [if_neg c8] at h0
  refine r_tsw (pc := 15) (tgt := 80) F dX2_holdsOf_15 rfl (tsw_out (ks := [0, 1, 3, 4, 5]) rfl rfl (by decide +kernel) (List.forall_mem_cons.mpr ⟨sw_ne rfl c4, List.forall_mem_cons.mpr ⟨sw_ne rfl c5, List.forall_mem_cons.mpr ⟨sw_ne rfl c6, List.forall_mem_cons.mpr ⟨sw_ne rfl c7, List.forall_mem_cons.mpr ⟨sw_ne rfl c8, fun _ h => absurd h List.not_mem_nil⟩⟩⟩⟩⟩)) ?_
  refine r_iconst (pc := 80) F dX2_holdsOf_80 ic_4 ?_
  refine r_iload_n (pc := 81) F dX2_holdsOf_81 rfl ?_
  refine r_iadd (pc := 82) F dX2_holdsOf_82 ?_
  exact hR _ _ _ _ dX2_holdsOf_83 rfl ⟨(Option.some.inj h0), rfl⟩
set_option maxRecDepth 100000 in
set_option maxHeartbeats 4000000 in
theorem kX2_coverer (g : GT) (b : Nat) (hb : isCo b) (w : Wd) (a1 : Int32) (a2 : Int32) (out : Int32) (h0 : fX2_coverer b w a1 a2 = some out) : CtI g yX2_coverer cX2_coverer 5 (some .int) 0 0 [.ref (g.1 b), .int a1, .int a2] w (fun r w1 => r = out ∧ w1 = w) := by
  refine CtI_of .int (by decide) (Nat.le_of_ble_eq_true rfl) (fun Z hg F hR => ?_)
  subst hg
  have F : Fx Z RX2 cX2_coverer 5 0 0 := F
  refine V_sub (ls' := [(0, .ref ((zg Z).1 b)), (1, .int a1), (2, .int a2)]) [0, 1, 2] rfl ?_
  unfold fX2_coverer at h0
  have J66 : ∀ (l3 : Int32), fX2_coverer_j66 b w l3 = some out → V Z 66 [(0, .ref ((zg Z).1 b)), (4, .int l3)] [] w := by
    intro l3 h0
    unfold fX2_coverer_j66 at h0
    refine r_iload (pc := 66) F dX2_coverer_66 rfl ?_
    refine r_if_lt (pc := 68) (tgt := 85) F dX2_coverer_68 rfl h0 (fun h0 => ?_) (fun h0 => ?_)
    · refine r_bipush (pc := 85) F dX2_coverer_85 bp_m9 ?_
      exact hR _ _ _ _ dX2_coverer_87 rfl ⟨(Option.some.inj h0), rfl⟩
    · refine r_iload (pc := 71) F dX2_coverer_71 rfl ?_
      refine r_aload_n (pc := 73) F dX2_coverer_73 rfl ?_
      refine r_getf (pc := 74) F dX2_coverer_74 fl_2_31 (lt_Co hb) (ce_Co hb _ _ _) rfl ?_
      refine r_icmp_ge (pc := 77) (tgt := 85) F dX2_coverer_77 rfl h0 (fun h0 => ?_) (fun h0 => ?_)
      · refine r_bipush (pc := 85) F dX2_coverer_85 bp_m9 ?_
        exact hR _ _ _ _ dX2_coverer_87 rfl ⟨(Option.some.inj h0), rfl⟩
      · refine r_iload (pc := 80) F dX2_coverer_80 rfl ?_
        refine r_goto (pc := 82) (tgt := 87) F dX2_coverer_82 rfl ?_
        exact hR _ _ _ _ dX2_coverer_87 rfl ⟨(Option.some.inj h0), rfl⟩
  refine r_iload_n (pc := 0) F dX2_coverer_0 rfl ?_
  refine r_iconst (pc := 1) F dX2_coverer_1 ic_2 ?_
  refine r_icmp_ne (pc := 2) (tgt := 8) F dX2_coverer_2 rfl h0 (fun h0 => ?_) (fun h0 => ?_)
  · refine r_bipush (pc := 5) F dX2_coverer_5 bp_m9 ?_
    exact hR _ _ _ _ dX2_coverer_7 rfl ⟨(Option.some.inj h0), rfl⟩
  · refine r_aload_n (pc := 8) F dX2_coverer_8 rfl ?_
    refine r_getf (pc := 9) F dX2_coverer_9 fl_2_37 (lt_Co hb) (ce_Co hb _ _ _) rfl ?_
    refine r_iconst (pc := 12) F dX2_coverer_12 ic_2 ?_
    obtain ⟨v1, hv1, h0⟩ := lt_some h0
    have hv1 := hv1.symm
    suffices Jv1 : V Z 21 [(0, .ref ((zg Z).1 b)), (1, .int a1), (2, .int a2)] [.int v1] w by
      refine r_icmp_ne (pc := 13) (tgt := 20) F dX2_coverer_13 rfl hv1 (fun hv1 => ?_) (fun hv1 => ?_)
      · refine r_iconst (pc := 16) F dX2_coverer_16 ic_2 ?_
        refine r_goto (pc := 17) (tgt := 21) F dX2_coverer_17 rfl ?_
        exact V_nm hv1.symm Jv1
      · refine r_iconst (pc := 20) F dX2_coverer_20 ic_1 ?_
        exact V_nm hv1.symm Jv1
    refine r_istore_n (pc := 21) (ls' := [(0, .ref ((zg Z).1 b)), (1, .int a1), (2, .int a2), (3, .int v1)]) F dX2_coverer_21 (Nat.le_of_ble_eq_true rfl) rfl ?_
    refine r_iload_n (pc := 22) F dX2_coverer_22 rfl ?_
    obtain ⟨v2, hv2, h0⟩ := lt_some h0
    have hv2 := hv2.symm
    suffices Jv2 : V Z 35 [(0, .ref ((zg Z).1 b)), (1, .int a1), (2, .int a2), (3, .int v1)] [.int v2] w by
      refine r_if_ne (pc := 23) (tgt := 32) F dX2_coverer_23 rfl hv2 (fun hv2 => ?_) (fun hv2 => ?_)
      · refine r_iload_n (pc := 26) F dX2_coverer_26 rfl ?_
        refine r_iload_n (pc := 27) F dX2_coverer_27 rfl ?_
        refine r_isub (pc := 28) F dX2_coverer_28 ?_
        refine r_goto (pc := 29) (tgt := 35) F dX2_coverer_29 rfl ?_
        exact V_nm hv2.symm Jv2
      · refine r_iload_n (pc := 32) F dX2_coverer_32 rfl ?_
        refine r_iload_n (pc := 33) F dX2_coverer_33 rfl ?_
        refine r_iadd (pc := 34) F dX2_coverer_34 ?_
        exact V_nm hv2.symm Jv2
    refine r_istore (pc := 35) (ls' := [(0, .ref ((zg Z).1 b)), (1, .int a1), (2, .int a2), (3, .int v1), (4, .int v2)]) F dX2_coverer_35 (Nat.le_of_ble_eq_true rfl) rfl ?_
    refine r_aload_n (pc := 37) F dX2_coverer_37 rfl ?_
    refine r_getf (pc := 38) F dX2_coverer_38 fl_2_37 (lt_Co hb) (ce_Co hb _ _ _) rfl ?_
    refine r_iconst (pc := 41) F dX2_coverer_41 ic_1 ?_
    refine r_icmp_ne (pc := 42) (tgt := 66) F dX2_coverer_42 rfl h0 (fun h0 => ?_) (fun h0 => ?_)
    · refine r_aload_n (pc := 45) F dX2_coverer_45 rfl ?_
      refine r_getf (pc := 46) F dX2_coverer_46 fl_2_31 (lt_Co hb) (ce_Co hb _ _ _) rfl ?_
      refine r_iconst (pc := 49) F dX2_coverer_49 ic_1 ?_
      refine r_icmp_le (pc := 50) (tgt := 66) F dX2_coverer_50 rfl h0 (fun h0 => ?_) (fun h0 => ?_)
      · refine V_sub (ls' := [(0, .ref ((zg Z).1 b)), (4, .int v2)]) [0, 4] rfl ?_
        exact J66 v2 h0
      · refine r_iload (pc := 53) F dX2_coverer_53 rfl ?_
        refine r_aload_n (pc := 55) F dX2_coverer_55 rfl ?_
        refine r_getf (pc := 56) F dX2_coverer_56 fl_2_31 (lt_Co hb) (ce_Co hb _ _ _) rfl ?_
        refine r_iadd (pc := 59) F dX2_coverer_59 ?_
        refine r_aload_n (pc := 60) F dX2_coverer_60 rfl ?_
        refine r_getf (pc := 61) F dX2_coverer_61 fl_2_31 (lt_Co hb) (ce_Co hb _ _ _) rfl ?_
        obtain ⟨g6, h0⟩ := gd_some h0
        refine r_irem (pc := 64) F dX2_coverer_64 (by simpa using g6) ?_
        exact hR _ _ _ _ dX2_coverer_65 rfl ⟨(Option.some.inj h0), rfl⟩
    · refine V_sub (ls' := [(0, .ref ((zg Z).1 b)), (4, .int v2)]) [0, 4] rfl ?_
      exact J66 v2 h0
set_option maxRecDepth 100000 in
set_option maxHeartbeats 4000000 in
theorem kX2_coverFor (g : GT) (b : Nat) (hb : isCo b) (w : Wd) (a1 : Int32) (a2 : Int32) (out : Int32) (h0 : fX2_coverFor b w a1 a2 = some out) : CtI g yX2_coverFor cX2_coverFor 4 (some .int) 1 24 [.ref (g.1 b), .int a1, .int a2] w (fun r w1 => r = out ∧ w1 = w) := by
  refine CtI_of .int (by decide) (Nat.le_of_ble_eq_true rfl) (fun Z hg F hR => ?_)
  subst hg
  have F : Fx Z RX2 cX2_coverFor 4 1 24 := F
  refine V_sub (ls' := [(0, .ref ((zg Z).1 b)), (1, .int a1), (2, .int a2)]) [0, 1, 2] rfl ?_
  unfold fX2_coverFor at h0
  refine r_aload_n (pc := 0) F dX2_coverFor_0 rfl ?_
  refine r_iload_n (pc := 1) F dX2_coverFor_1 rfl ?_
  refine r_iload_n (pc := 2) F dX2_coverFor_2 rfl ?_
  obtain ⟨r1, er1, h0⟩ := bind_some h0
  refine r_Vi2 (pc := 3) F dX2_coverFor_3 ml_2_70 (kX2_coverer _ b hb w a1 a2 r1 er1) (lt_Co hb) (ce_Co hb _ _ _) (Nat.le_of_ble_eq_true rfl) (Nat.le_of_ble_eq_true rfl) (Nat.le_of_ble_eq_true rfl) ?_
  refine r_istore_n (pc := 6) (ls' := [(0, .ref ((zg Z).1 b)), (1, .int a1), (2, .int a2), (3, .int r1)]) F dX2_coverFor_6 (Nat.le_of_ble_eq_true rfl) rfl ?_
  refine r_iload_n (pc := 7) F dX2_coverFor_7 rfl ?_
  refine r_if_ge (pc := 8) (tgt := 15) F dX2_coverFor_8 rfl h0 (fun h0 => ?_) (fun h0 => ?_)
  · refine r_gcov (pc := 15) F dX2_coverFor_15 ?_
    refine r_aload_n (pc := 18) F dX2_coverFor_18 rfl ?_
    refine r_getf (pc := 19) F dX2_coverFor_19 fl_2_18 (lt_Co hb) (ce_Co hb _ _ _) rfl ?_
    refine r_iload_n (pc := 22) F dX2_coverFor_22 rfl ?_
    obtain ⟨g2, h0⟩ := gd_some h0
    refine r_iald (pc := 23) F dX2_coverFor_23 (lt_Co9 hb) (ca_Co9 hb _) g2 rfl ?_
    obtain ⟨g3, h0⟩ := gd_some h0
    refine r_scov (pc := 24) F dX2_coverFor_24 g3 ?_
    exact hR _ _ _ _ dX2_coverFor_25 rfl ⟨(Option.some.inj h0), rfl⟩
  · refine r_iconst (pc := 11) F dX2_coverFor_11 ic_0 ?_
    refine r_goto (pc := 12) (tgt := 25) F dX2_coverFor_12 rfl ?_
    exact hR _ _ _ _ dX2_coverFor_25 rfl ⟨(Option.some.inj h0), rfl⟩
set_option maxRecDepth 100000 in
set_option maxHeartbeats 4000000 in
theorem kX8_unsteadyIn (g : GT) (w : Wd) (a1 : Int32) (a2 : Int32) (out : Int32) (h0 : fX8_unsteadyIn w a1 a2 = some out) : CtI g yX8_unsteadyIn cX8_unsteadyIn 5 (some .int) 0 0 [.ref (g.1 4), .int a1, .int a2] w (fun r w1 => r = out ∧ w1 = w) := by
  refine CtI_of .int (by decide) (Nat.le_of_ble_eq_true rfl) (fun Z hg F hR => ?_)
  subst hg
  have F : Fx Z RX8 cX8_unsteadyIn 5 0 0 := F
  refine V_sub (ls' := [(0, .ref ((zg Z).1 4)), (1, .int a1), (2, .int a2)]) [0, 1, 2] rfl ?_
  unfold fX8_unsteadyIn at h0
  refine r_iconst (pc := 0) F dX8_unsteadyIn_0 ic_0 ?_
  refine r_istore_n (pc := 1) (ls' := [(0, .ref ((zg Z).1 4)), (1, .int a1), (2, .int a2), (3, .int 0)]) F dX8_unsteadyIn_1 (Nat.le_of_ble_eq_true rfl) rfl ?_
  refine r_iconst (pc := 2) F dX8_unsteadyIn_2 ic_0 ?_
  refine r_istore (pc := 3) (ls' := [(0, .ref ((zg Z).1 4)), (1, .int a1), (2, .int a2), (3, .int 0), (4, .int 0)]) F dX8_unsteadyIn_3 (Nat.le_of_ble_eq_true rfl) rfl ?_
  obtain ⟨l11, il11, h0⟩ := bind_some h0
  suffices E5 : V Z 43 [(3, .int l11)] [] w by
    refine iter_rule (P := fun s : Int32 × Int32 => V Z 5 [(0, .ref ((zg Z).1 4)), (1, .int a1), (2, .int a2), (3, .int (s.1)), (4, .int (s.2))] [] w) (x := l11) ?_ FU (0, 0) il11
    intro s y1 h1 hP1 hX1
    obtain ⟨l1, l2⟩ := s
    have h1 : fX8_unsteadyIn_b5 w a2 a1 l1 l2 = some y1 := h1
    unfold fX8_unsteadyIn_b5 at h1
    refine r_iload (pc := 5) F dX8_unsteadyIn_5 rfl ?_
    refine r_aload_n (pc := 7) F dX8_unsteadyIn_7 rfl ?_
    refine r_getf (pc := 8) F dX8_unsteadyIn_8 fl_8_33 i68_4 (ce_4 _ _ _) rfl ?_
    refine r_icmp_ge (pc := 11) (tgt := 43) F dX8_unsteadyIn_11 rfl h1 (fun h1 => ?_) (fun h1 => ?_)
    · refine V_sub (ls' := [(3, .int l1)]) [3] rfl ?_
      have e3 := hX1 _ (Option.some.inj h1).symm
      cases e3
      exact E5
    · refine r_iload_n (pc := 14) F dX8_unsteadyIn_14 rfl ?_
      refine r_aload_n (pc := 15) F dX8_unsteadyIn_15 rfl ?_
      refine r_getf (pc := 16) F dX8_unsteadyIn_16 fl_8_24 i68_4 (ce_4 _ _ _) rfl ?_
      refine r_bipush (pc := 19) F dX8_unsteadyIn_19 bp_8 ?_
      refine r_iload_n (pc := 21) F dX8_unsteadyIn_21 rfl ?_
      refine r_imul (pc := 22) F dX8_unsteadyIn_22 ?_
      refine r_iload (pc := 23) F dX8_unsteadyIn_23 rfl ?_
      refine r_iadd (pc := 25) F dX8_unsteadyIn_25 ?_
      obtain ⟨g4, h1⟩ := gd_some h1
      refine r_iald (pc := 26) F dX8_unsteadyIn_26 i68_29 (ca_29 _) g4 rfl ?_
      refine r_icmp_le (pc := 27) (tgt := 37) F dX8_unsteadyIn_27 rfl h1 (fun h1 => ?_) (fun h1 => ?_)
      · obtain ⟨v5, ev5, h1⟩ := lt_some h1
        refine r_iinc (pc := 37) (ls' := [(0, .ref ((zg Z).1 4)), (1, .int a1), (2, .int a2), (3, .int l1), (4, .int v5)]) F dX8_unsteadyIn_37 rfl (by rw [ev5]; rfl) (Nat.le_of_ble_eq_true rfl) rfl ?_
        refine r_goto (pc := 40) (tgt := 5) F dX8_unsteadyIn_40 rfl ?_
        exact hP1 (l1, v5) (Option.some.inj h1).symm
      · refine r_iload_n (pc := 30) F dX8_unsteadyIn_30 rfl ?_
        refine r_iconst (pc := 31) F dX8_unsteadyIn_31 ic_1 ?_
        refine r_iload (pc := 32) F dX8_unsteadyIn_32 rfl ?_
        refine r_ishl (pc := 34) F dX8_unsteadyIn_34 ?_
        refine r_ior (pc := 35) F dX8_unsteadyIn_35 ?_
        obtain ⟨v6, ev6, h1⟩ := lt_some h1
        refine V_nm ev6 ?_
        refine r_istore_n (pc := 36) (ls' := [(0, .ref ((zg Z).1 4)), (1, .int a1), (2, .int a2), (3, .int v6), (4, .int l2)]) F dX8_unsteadyIn_36 (Nat.le_of_ble_eq_true rfl) rfl ?_
        obtain ⟨v7, ev7, h1⟩ := lt_some h1
        refine r_iinc (pc := 37) (ls' := [(0, .ref ((zg Z).1 4)), (1, .int a1), (2, .int a2), (3, .int v6), (4, .int v7)]) F dX8_unsteadyIn_37 rfl (by rw [ev7]; rfl) (Nat.le_of_ble_eq_true rfl) rfl ?_
        refine r_goto (pc := 40) (tgt := 5) F dX8_unsteadyIn_40 rfl ?_
        exact hP1 (v6, v7) (Option.some.inj h1).symm
  refine r_iload_n (pc := 43) F dX8_unsteadyIn_43 rfl ?_
  exact hR _ _ _ _ dX8_unsteadyIn_44 rfl ⟨(Option.some.inj h0), rfl⟩
set_option maxRecDepth 100000 in
set_option maxHeartbeats 4000000 in
theorem kX8_setOut (g : GT) (b1 : Nat) (hb1 : isCo b1) (w : Wd) (out : Wd) (h0 : fX8_setOut b1 w = some out) : CtV g yX8_setOut cX8_setOut 5 none 2 47 [.ref (g.1 4), .ref (g.1 b1)] w (fun w1 => w1 = out) := by
  refine CtV_of (by decide) (Nat.le_of_ble_eq_true rfl) (fun Z hg F hR => ?_)
  subst hg
  have F : Fx Z RX8 cX8_setOut 5 2 47 := F
  refine V_sub (ls' := [(0, .ref ((zg Z).1 4)), (1, .ref ((zg Z).1 b1))]) [0, 1] rfl ?_
  unfold fX8_setOut at h0
  refine r_aload_n (pc := 0) F dX8_setOut_0 rfl ?_
  refine r_aload_n (pc := 1) F dX8_setOut_1 rfl ?_
  refine r_getf (pc := 2) F dX8_setOut_2 fl_8_27 (lt_Co hb1) (ce_Co hb1 _ _ _) rfl ?_
  obtain ⟨w1, ew1, h0⟩ := lt_some h0
  refine r_putI (pc := 5) F dX8_setOut_5 fl_8_33 fp_8_0 i68_4 (ce_4 _) (Nat.le_of_ble_eq_true rfl) rfl rfl rfl ew1 ?_
  refine r_aload_n (pc := 8) F dX8_setOut_8 rfl ?_
  refine r_aload_n (pc := 9) F dX8_setOut_9 rfl ?_
  obtain ⟨r3, er3, h0⟩ := bind_some h0
  refine r_Vi0 (pc := 10) F dX8_setOut_10 ml_8_34 (kX2_grownOnes _ b1 hb1 w1 r3 er3) (lt_Co hb1) (ce_Co hb1 _ _ _) (Nat.le_of_ble_eq_true rfl) (Nat.le_of_ble_eq_true rfl) (Nat.le_of_ble_eq_true rfl) ?_
  obtain ⟨w4, ew4, h0⟩ := lt_some h0
  refine r_putI (pc := 13) F dX8_setOut_13 fl_8_38 fp_8_1 i68_4 (ce_4 _) (Nat.le_of_ble_eq_true rfl) rfl rfl rfl ew4 ?_
  refine r_aload_n (pc := 16) F dX8_setOut_16 rfl ?_
  refine r_aload_n (pc := 17) F dX8_setOut_17 rfl ?_
  refine r_getf (pc := 18) F dX8_setOut_18 fl_8_41 (lt_Co hb1) (ce_Co hb1 _ _ _) rfl ?_
  obtain ⟨w6, ew6, h0⟩ := lt_some h0
  refine r_putI (pc := 21) F dX8_setOut_21 fl_8_44 fp_8_2 i68_4 (ce_4 _) (Nat.le_of_ble_eq_true rfl) rfl rfl rfl ew6 ?_
  refine r_aload_n (pc := 24) F dX8_setOut_24 rfl ?_
  refine r_aload_n (pc := 25) F dX8_setOut_25 rfl ?_
  refine r_getf (pc := 26) F dX8_setOut_26 fl_8_45 (lt_Co hb1) (ce_Co hb1 _ _ _) rfl ?_
  obtain ⟨w8, ew8, h0⟩ := lt_some h0
  refine r_putI (pc := 29) F dX8_setOut_29 fl_8_48 fp_8_3 i68_4 (ce_4 _) (Nat.le_of_ble_eq_true rfl) rfl rfl rfl ew8 ?_
  refine r_aload_n (pc := 32) F dX8_setOut_32 rfl ?_
  refine r_iconst (pc := 33) F dX8_setOut_33 ic_0 ?_
  refine r_aload_n (pc := 34) F dX8_setOut_34 rfl ?_
  refine r_getf (pc := 35) F dX8_setOut_35 fl_8_51 (lt_Co hb1) (ce_Co hb1 _ _ _) rfl ?_
  refine r_aload_n (pc := 38) F dX8_setOut_38 rfl ?_
  refine r_getf (pc := 39) F dX8_setOut_39 fl_8_45 (lt_Co hb1) (ce_Co hb1 _ _ _) rfl ?_
  refine r_isub (pc := 42) F dX8_setOut_42 ?_
  refine r_max (pc := 43) F dX8_setOut_43 mk_8_54 ms_max mi_Math mc_max (Nat.le_of_ble_eq_true rfl) (Nat.le_of_ble_eq_true rfl) ?_
  obtain ⟨w10, ew10, h0⟩ := lt_some h0
  refine r_putI (pc := 46) F dX8_setOut_46 fl_8_60 fp_8_4 i68_4 (ce_4 _) (Nat.le_of_ble_eq_true rfl) rfl rfl rfl ew10 ?_
  refine r_iconst (pc := 49) F dX8_setOut_49 ic_0 ?_
  refine r_istore_n (pc := 50) (ls' := [(0, .ref ((zg Z).1 4)), (1, .ref ((zg Z).1 b1)), (2, .int 0)]) F dX8_setOut_50 (Nat.le_of_ble_eq_true rfl) rfl ?_
  obtain ⟨w35, iw35, h0⟩ := bind_some h0
  suffices E51 : V Z 118 [(0, .ref ((zg Z).1 4)), (1, .ref ((zg Z).1 b1))] [] w35 by
    refine iter_rule (P := fun s : Int32 × Wd => V Z 51 [(0, .ref ((zg Z).1 4)), (1, .ref ((zg Z).1 b1)), (2, .int (s.1))] [] s.2) (x := w35) ?_ FU (0, w10) iw35
    intro s y1 h1 hP1 hX1
    obtain ⟨l12, w13⟩ := s
    have h1 : fX8_setOut_b51 b1 l12 w13 = some y1 := h1
    unfold fX8_setOut_b51 at h1
    refine r_iload_n (pc := 51) F dX8_setOut_51 rfl ?_
    refine r_aload_n (pc := 52) F dX8_setOut_52 rfl ?_
    refine r_getf (pc := 53) F dX8_setOut_53 fl_8_33 i68_4 (ce_4 _ _ _) rfl ?_
    refine r_icmp_ge (pc := 56) (tgt := 118) F dX8_setOut_56 rfl h1 (fun h1 => ?_) (fun h1 => ?_)
    · refine V_sub (ls' := [(0, .ref ((zg Z).1 4)), (1, .ref ((zg Z).1 b1))]) [0, 1] rfl ?_
      have e14 := hX1 _ (Option.some.inj h1).symm
      cases e14
      exact E51
    · refine r_aload_n (pc := 59) F dX8_setOut_59 rfl ?_
      refine r_getf (pc := 60) F dX8_setOut_60 fl_8_21 i68_4 (ce_4 _ _ _) rfl ?_
      refine r_iload_n (pc := 63) F dX8_setOut_63 rfl ?_
      refine r_aload_n (pc := 64) F dX8_setOut_64 rfl ?_
      refine r_iload_n (pc := 65) F dX8_setOut_65 rfl ?_
      obtain ⟨r15, er15, h1⟩ := bind_some h1
      refine r_Vi1 (pc := 66) F dX8_setOut_66 ml_8_63 (kX2_nearOnes _ b1 hb1 w13 l12 r15 er15) (lt_Co hb1) (ce_Co hb1 _ _ _) (Nat.le_of_ble_eq_true rfl) (Nat.le_of_ble_eq_true rfl) (Nat.le_of_ble_eq_true rfl) ?_
      obtain ⟨g17, h1⟩ := gd_some h1
      obtain ⟨w16, ew16, h1⟩ := lt_some h1
      refine r_iast (pc := 69) F dX8_setOut_69 i68_28 (ca_28 _) g17 rfl ew16 ?_
      refine r_aload_n (pc := 70) F dX8_setOut_70 rfl ?_
      refine r_iload_n (pc := 71) F dX8_setOut_71 rfl ?_
      obtain ⟨r19, er19, h1⟩ := bind_some h1
      refine r_Vi1 (pc := 72) F dX8_setOut_72 ml_8_67 (kX2_holdsOf _ b1 hb1 w16 l12 r19 er19) (lt_Co hb1) (ce_Co hb1 _ _ _) (Nat.le_of_ble_eq_true rfl) (Nat.le_of_ble_eq_true rfl) (Nat.le_of_ble_eq_true rfl) ?_
      refine r_istore_n (pc := 75) (ls' := [(0, .ref ((zg Z).1 4)), (1, .ref ((zg Z).1 b1)), (2, .int l12), (3, .int r19)]) F dX8_setOut_75 (Nat.le_of_ble_eq_true rfl) rfl ?_
      refine r_iconst (pc := 76) F dX8_setOut_76 ic_0 ?_
      refine r_istore (pc := 77) (ls' := [(0, .ref ((zg Z).1 4)), (1, .ref ((zg Z).1 b1)), (2, .int l12), (3, .int r19), (4, .int 0)]) F dX8_setOut_77 (Nat.le_of_ble_eq_true rfl) rfl ?_
      obtain ⟨w30, iw30, h1⟩ := bind_some h1
      suffices E79 : V Z 112 [(0, .ref ((zg Z).1 4)), (1, .ref ((zg Z).1 b1)), (2, .int l12)] [] w30 by
        refine iter_rule (P := fun s : Int32 × Wd => V Z 79 [(0, .ref ((zg Z).1 4)), (1, .ref ((zg Z).1 b1)), (2, .int l12), (3, .int r19), (4, .int (s.1))] [] s.2) (x := w30) ?_ FU (0, w16) iw30
        intro s y2 h2 hP2 hX2
        obtain ⟨l20, w21⟩ := s
        have h2 : fX8_setOut_b79 b1 l12 r19 l20 w21 = some y2 := h2
        unfold fX8_setOut_b79 at h2
        refine r_iload (pc := 79) F dX8_setOut_79 rfl ?_
        refine r_iconst (pc := 81) F dX8_setOut_81 ic_2 ?_
        refine r_icmp_gt (pc := 82) (tgt := 112) F dX8_setOut_82 rfl h2 (fun h2 => ?_) (fun h2 => ?_)
        · refine V_sub (ls' := [(0, .ref ((zg Z).1 4)), (1, .ref ((zg Z).1 b1)), (2, .int l12)]) [0, 1, 2] rfl ?_
          have e22 := hX2 _ (Option.some.inj h2).symm
          cases e22
          exact E79
        · refine r_aload_n (pc := 85) F dX8_setOut_85 rfl ?_
          refine r_getf (pc := 86) F dX8_setOut_86 fl_8_24 i68_4 (ce_4 _ _ _) rfl ?_
          refine r_bipush (pc := 89) F dX8_setOut_89 bp_8 ?_
          refine r_iload (pc := 91) F dX8_setOut_91 rfl ?_
          refine r_imul (pc := 93) F dX8_setOut_93 ?_
          refine r_iload_n (pc := 94) F dX8_setOut_94 rfl ?_
          refine r_iadd (pc := 95) F dX8_setOut_95 ?_
          refine r_iload_n (pc := 96) F dX8_setOut_96 rfl ?_
          refine r_aload_n (pc := 97) F dX8_setOut_97 rfl ?_
          refine r_iload_n (pc := 98) F dX8_setOut_98 rfl ?_
          refine r_iload (pc := 99) F dX8_setOut_99 rfl ?_
          obtain ⟨r23, er23, h2⟩ := bind_some h2
          refine r_Vi2 (pc := 101) F dX8_setOut_101 ml_8_70 (kX2_coverFor _ b1 hb1 w21 l12 l20 r23 er23) (lt_Co hb1) (ce_Co hb1 _ _ _) (Nat.le_of_ble_eq_true rfl) (Nat.le_of_ble_eq_true rfl) (Nat.le_of_ble_eq_true rfl) ?_
          refine r_iadd (pc := 104) F dX8_setOut_104 ?_
          obtain ⟨g25, h2⟩ := gd_some h2
          obtain ⟨w24, ew24, h2⟩ := lt_some h2
          refine r_iast (pc := 105) F dX8_setOut_105 i68_29 (ca_29 _) g25 rfl ew24 ?_
          obtain ⟨v27, ev27, h2⟩ := lt_some h2
          refine r_iinc (pc := 106) (ls' := [(0, .ref ((zg Z).1 4)), (1, .ref ((zg Z).1 b1)), (2, .int l12), (3, .int r19), (4, .int v27)]) F dX8_setOut_106 rfl (by rw [ev27]; rfl) (Nat.le_of_ble_eq_true rfl) rfl ?_
          refine r_goto (pc := 109) (tgt := 79) F dX8_setOut_109 rfl ?_
          exact hP2 (v27, w24) (Option.some.inj h2).symm
      obtain ⟨v32, ev32, h1⟩ := lt_some h1
      refine r_iinc (pc := 112) (ls' := [(0, .ref ((zg Z).1 4)), (1, .ref ((zg Z).1 b1)), (2, .int v32)]) F dX8_setOut_112 rfl (by rw [ev32]; rfl) (Nat.le_of_ble_eq_true rfl) rfl ?_
      refine r_goto (pc := 115) (tgt := 51) F dX8_setOut_115 rfl ?_
      exact hP1 (v32, w30) (Option.some.inj h1).symm
  refine r_aload_n (pc := 118) F dX8_setOut_118 rfl ?_
  refine r_getf (pc := 119) F dX8_setOut_119 fl_8_45 (lt_Co hb1) (ce_Co hb1 _ _ _) rfl ?_
  obtain ⟨v37, ev37, h0⟩ := lt_some h0
  refine V_nm ev37 ?_
  refine r_istore_n (pc := 122) (ls' := [(0, .ref ((zg Z).1 4)), (1, .ref ((zg Z).1 b1)), (2, .int v37)]) F dX8_setOut_122 (Nat.le_of_ble_eq_true rfl) rfl ?_
  obtain ⟨w48, iw48, h0⟩ := bind_some h0
  suffices E123 : V Z 159 [] [] w48 by
    refine iter_rule (P := fun s : Int32 × Wd => V Z 123 [(0, .ref ((zg Z).1 4)), (1, .ref ((zg Z).1 b1)), (2, .int (s.1))] [] s.2) (x := w48) ?_ FU (v37, w35) iw48
    intro s y1 h1 hP1 hX1
    obtain ⟨l38, w39⟩ := s
    have h1 : fX8_setOut_b123 b1 l38 w39 = some y1 := h1
    unfold fX8_setOut_b123 at h1
    refine r_iload_n (pc := 123) F dX8_setOut_123 rfl ?_
    refine r_aload_n (pc := 124) F dX8_setOut_124 rfl ?_
    refine r_getf (pc := 125) F dX8_setOut_125 fl_8_51 (lt_Co hb1) (ce_Co hb1 _ _ _) rfl ?_
    refine r_icmp_ge (pc := 128) (tgt := 159) F dX8_setOut_128 rfl h1 (fun h1 => ?_) (fun h1 => ?_)
    · refine V_sub (ls' := []) [] rfl ?_
      have e40 := hX1 _ (Option.some.inj h1).symm
      cases e40
      exact E123
    · refine r_aload_n (pc := 131) F dX8_setOut_131 rfl ?_
      refine r_getf (pc := 132) F dX8_setOut_132 fl_8_18 i68_4 (ce_4 _ _ _) rfl ?_
      refine r_iload_n (pc := 135) F dX8_setOut_135 rfl ?_
      refine r_aload_n (pc := 136) F dX8_setOut_136 rfl ?_
      refine r_aload_n (pc := 137) F dX8_setOut_137 rfl ?_
      refine r_getf (pc := 138) F dX8_setOut_138 fl_8_73 (lt_Co hb1) (ce_Co hb1 _ _ _) rfl ?_
      refine r_iload_n (pc := 141) F dX8_setOut_141 rfl ?_
      obtain ⟨g41, h1⟩ := gd_some h1
      refine r_iald (pc := 142) F dX8_setOut_142 (lt_Co11 hb1) (ca_Co11 hb1 _) g41 rfl ?_
      refine r_aload_n (pc := 143) F dX8_setOut_143 rfl ?_
      refine r_getf (pc := 144) F dX8_setOut_144 fl_8_76 (lt_Co hb1) (ce_Co hb1 _ _ _) rfl ?_
      refine r_iload_n (pc := 147) F dX8_setOut_147 rfl ?_
      refine r_iald (pc := 148) F dX8_setOut_148 (lt_Co12 hb1) (ca_Co12 hb1 _) g41 rfl ?_
      obtain ⟨r42, er42, h1⟩ := bind_some h1
      refine r_Vi2 (pc := 149) F dX8_setOut_149 ml_8_79 (kX8_unsteadyIn _ w39 (w39.1 (11 + 4 * b1) l38.toNatClampNeg) (w39.1 (12 + 4 * b1) l38.toNatClampNeg) r42 er42) i68_4 (ce_4 _ _ _) (Nat.le_of_ble_eq_true rfl) (Nat.le_of_ble_eq_true rfl) (Nat.le_of_ble_eq_true rfl) ?_
      obtain ⟨w43, ew43, h1⟩ := lt_some h1
      refine r_iast (pc := 152) F dX8_setOut_152 i68_27 (ca_27 _) g41 rfl ew43 ?_
      obtain ⟨v45, ev45, h1⟩ := lt_some h1
      refine r_iinc (pc := 153) (ls' := [(0, .ref ((zg Z).1 4)), (1, .ref ((zg Z).1 b1)), (2, .int v45)]) F dX8_setOut_153 rfl (by rw [ev45]; rfl) (Nat.le_of_ble_eq_true rfl) rfl ?_
      refine r_goto (pc := 156) (tgt := 123) F dX8_setOut_156 rfl ?_
      exact hP1 (v45, w43) (Option.some.inj h1).symm
  exact hR _ _ _ dX8_setOut_159 (Option.some.inj h0)
set_option maxRecDepth 100000 in
set_option maxHeartbeats 4000000 in
theorem kJ6_bitCount_0f7a4 (g : GT) (w : Wd) (a0 : Int32) (out : Int32) (h0 : fJ6_bitCount_0f7a4 a0 = out) : CtI g yJ6_bitCount_0f7a4 cJ6_bitCount_0f7a4 1 (some .int) 0 0 [.int a0] w (fun r w1 => r = out ∧ w1 = w) := by
  refine CtI_of .int (by decide) (Nat.le_of_ble_eq_true rfl) (fun Z hg F hR => ?_)
  subst hg
  have F : Fx Z RJ6 cJ6_bitCount_0f7a4 1 0 0 := F
  refine V_sub (ls' := [(0, .int a0)]) [0] rfl ?_
  unfold fJ6_bitCount_0f7a4 at h0
  refine r_iload_n (pc := 0) F dJ6_bitCount_0f7a4_0 rfl ?_
  refine r_iload_n (pc := 1) F dJ6_bitCount_0f7a4_1 rfl ?_
  refine r_iconst (pc := 2) F dJ6_bitCount_0f7a4_2 ic_1 ?_
  refine r_iushr (pc := 3) F dJ6_bitCount_0f7a4_3 ?_
  refine r_ldc_w (pc := 4) F dJ6_bitCount_0f7a4_4 kc_J6_265 ?_
  refine r_iand (pc := 7) F dJ6_bitCount_0f7a4_7 ?_
  refine r_isub (pc := 8) F dJ6_bitCount_0f7a4_8 ?_
  obtain ⟨v1, ev1, h0⟩ := lt_some h0
  refine V_nm ev1 ?_
  refine r_istore_n (pc := 9) (ls' := [(0, .int v1)]) F dJ6_bitCount_0f7a4_9 (Nat.le_of_ble_eq_true rfl) rfl ?_
  refine r_iload_n (pc := 10) F dJ6_bitCount_0f7a4_10 rfl ?_
  refine r_ldc_w (pc := 11) F dJ6_bitCount_0f7a4_11 kc_J6_266 ?_
  refine r_iand (pc := 14) F dJ6_bitCount_0f7a4_14 ?_
  refine r_iload_n (pc := 15) F dJ6_bitCount_0f7a4_15 rfl ?_
  refine r_iconst (pc := 16) F dJ6_bitCount_0f7a4_16 ic_2 ?_
  refine r_iushr (pc := 17) F dJ6_bitCount_0f7a4_17 ?_
  refine r_ldc_w (pc := 18) F dJ6_bitCount_0f7a4_18 kc_J6_266 ?_
  refine r_iand (pc := 21) F dJ6_bitCount_0f7a4_21 ?_
  refine r_iadd (pc := 22) F dJ6_bitCount_0f7a4_22 ?_
  obtain ⟨v2, ev2, h0⟩ := lt_some h0
  refine V_nm ev2 ?_
  refine r_istore_n (pc := 23) (ls' := [(0, .int v2)]) F dJ6_bitCount_0f7a4_23 (Nat.le_of_ble_eq_true rfl) rfl ?_
  refine r_iload_n (pc := 24) F dJ6_bitCount_0f7a4_24 rfl ?_
  refine r_iload_n (pc := 25) F dJ6_bitCount_0f7a4_25 rfl ?_
  refine r_iconst (pc := 26) F dJ6_bitCount_0f7a4_26 ic_4 ?_
  refine r_iushr (pc := 27) F dJ6_bitCount_0f7a4_27 ?_
  refine r_iadd (pc := 28) F dJ6_bitCount_0f7a4_28 ?_
  refine r_ldc_w (pc := 29) F dJ6_bitCount_0f7a4_29 kc_J6_267 ?_
  refine r_iand (pc := 32) F dJ6_bitCount_0f7a4_32 ?_
  obtain ⟨v3, ev3, h0⟩ := lt_some h0
  refine V_nm ev3 ?_
  refine r_istore_n (pc := 33) (ls' := [(0, .int v3)]) F dJ6_bitCount_0f7a4_33 (Nat.le_of_ble_eq_true rfl) rfl ?_
  refine r_iload_n (pc := 34) F dJ6_bitCount_0f7a4_34 rfl ?_
  refine r_iload_n (pc := 35) F dJ6_bitCount_0f7a4_35 rfl ?_
  refine r_bipush (pc := 36) F dJ6_bitCount_0f7a4_36 bp_8 ?_
  refine r_iushr (pc := 38) F dJ6_bitCount_0f7a4_38 ?_
  refine r_iadd (pc := 39) F dJ6_bitCount_0f7a4_39 ?_
  obtain ⟨v4, ev4, h0⟩ := lt_some h0
  refine V_nm ev4 ?_
  refine r_istore_n (pc := 40) (ls' := [(0, .int v4)]) F dJ6_bitCount_0f7a4_40 (Nat.le_of_ble_eq_true rfl) rfl ?_
  refine r_iload_n (pc := 41) F dJ6_bitCount_0f7a4_41 rfl ?_
  refine r_iload_n (pc := 42) F dJ6_bitCount_0f7a4_42 rfl ?_
  refine r_bipush (pc := 43) F dJ6_bitCount_0f7a4_43 bp_16 ?_
  refine r_iushr (pc := 45) F dJ6_bitCount_0f7a4_45 ?_
  refine r_iadd (pc := 46) F dJ6_bitCount_0f7a4_46 ?_
  obtain ⟨v5, ev5, h0⟩ := lt_some h0
  refine V_nm ev5 ?_
  refine r_istore_n (pc := 47) (ls' := [(0, .int v5)]) F dJ6_bitCount_0f7a4_47 (Nat.le_of_ble_eq_true rfl) rfl ?_
  refine r_iload_n (pc := 48) F dJ6_bitCount_0f7a4_48 rfl ?_
  refine r_bipush (pc := 49) F dJ6_bitCount_0f7a4_49 bp_63 ?_
  refine r_iand (pc := 51) F dJ6_bitCount_0f7a4_51 ?_
  exact hR _ _ _ _ dJ6_bitCount_0f7a4_52 rfl ⟨h0, rfl⟩
set_option maxRecDepth 100000 in
set_option maxHeartbeats 4000000 in
theorem kX8_relight (g : GT) (w : Wd) (a1 : Int32) (out : Int32 × Wd) (h0 : fX8_relight w a1 = some out) : CtI g yX8_relight cX8_relight 6 (some .int) 1 21 [.ref (g.1 4), .int a1] w (fun r w1 => (r, w1) = out) := by
  refine CtI_of .int (by decide) (Nat.le_of_ble_eq_true rfl) (fun Z hg F hR => ?_)
  subst hg
  have F : Fx Z RX8 cX8_relight 6 1 21 := F
  refine V_sub (ls' := [(0, .ref ((zg Z).1 4)), (1, .int a1)]) [0, 1] rfl ?_
  unfold fX8_relight at h0
  refine r_aload_n (pc := 0) F dX8_relight_0 rfl ?_
  refine r_iconst (pc := 1) F dX8_relight_1 ic_0 ?_
  obtain ⟨w1, ew1, h0⟩ := lt_some h0
  refine r_putI (pc := 2) F dX8_relight_2 fl_8_88 fp_8_6 i68_4 (ce_4 _) (Nat.le_of_ble_eq_true rfl) rfl rfl rfl ew1 ?_
  refine r_iconst (pc := 5) F dX8_relight_5 ic_0 ?_
  refine r_istore_n (pc := 6) (ls' := [(0, .ref ((zg Z).1 4)), (1, .int a1), (2, .int 0)]) F dX8_relight_6 (Nat.le_of_ble_eq_true rfl) rfl ?_
  obtain ⟨w30, iw30, h0⟩ := bind_some h0
  suffices E7 : V Z 113 [(0, .ref ((zg Z).1 4)), (1, .int a1)] [] w30 by
    refine iter_rule (P := fun s : Int32 × Wd => V Z 7 [(0, .ref ((zg Z).1 4)), (1, .int a1), (2, .int (s.1))] [] s.2) (x := w30) ?_ FU (0, w1) iw30
    intro s y1 h1 hP1 hX1
    obtain ⟨l3, w4⟩ := s
    have h1 : fX8_relight_b7 a1 l3 w4 = some y1 := h1
    unfold fX8_relight_b7 at h1
    refine r_iload_n (pc := 7) F dX8_relight_7 rfl ?_
    refine r_aload_n (pc := 8) F dX8_relight_8 rfl ?_
    refine r_getf (pc := 9) F dX8_relight_9 fl_8_33 i68_4 (ce_4 _ _ _) rfl ?_
    refine r_icmp_ge (pc := 12) (tgt := 113) F dX8_relight_12 rfl h1 (fun h1 => ?_) (fun h1 => ?_)
    · refine V_sub (ls' := [(0, .ref ((zg Z).1 4)), (1, .int a1)]) [0, 1] rfl ?_
      have e5 := hX1 _ (Option.some.inj h1).symm
      cases e5
      exact E7
    · refine r_iload_n (pc := 15) F dX8_relight_15 rfl ?_
      refine r_iload_n (pc := 16) F dX8_relight_16 rfl ?_
      refine r_Ni2 (pc := 17) F dX8_relight_17 ml_8_91 (kX9_hasBit _ w4 a1 l3 _ rfl) (Nat.le_of_ble_eq_true rfl) (Nat.le_of_ble_eq_true rfl) (Nat.le_of_ble_eq_true rfl) ?_
      obtain ⟨v7, hv7, h1⟩ := bind_some h1
      suffices Jv7 : V Z 47 [(0, .ref ((zg Z).1 4)), (1, .int a1), (2, .int l3)] [.int v7] w4 by
        refine r_if_eq (pc := 20) (tgt := 46) F dX8_relight_20 rfl hv7 (fun hv7 => ?_) (fun hv7 => ?_)
        · refine r_iconst (pc := 46) F dX8_relight_46 ic_0 ?_
          exact V_nm (Option.some.inj hv7).symm Jv7
        · refine r_aload_n (pc := 23) F dX8_relight_23 rfl ?_
          refine r_getf (pc := 24) F dX8_relight_24 fl_8_21 i68_4 (ce_4 _ _ _) rfl ?_
          refine r_iload_n (pc := 27) F dX8_relight_27 rfl ?_
          obtain ⟨g8, hv7⟩ := gd_some hv7
          refine r_iald (pc := 28) F dX8_relight_28 i68_28 (ca_28 _) g8 rfl ?_
          refine r_aload_n (pc := 29) F dX8_relight_29 rfl ?_
          refine r_getf (pc := 30) F dX8_relight_30 fl_8_38 i68_4 (ce_4 _ _ _) rfl ?_
          refine r_iand (pc := 33) F dX8_relight_33 ?_
          refine r_iload_n (pc := 34) F dX8_relight_34 rfl ?_
          refine r_aload_n (pc := 35) F dX8_relight_35 rfl ?_
          refine r_getf (pc := 36) F dX8_relight_36 fl_8_88 i68_4 (ce_4 _ _ _) rfl ?_
          refine r_ior (pc := 39) F dX8_relight_39 ?_
          refine r_iconst (pc := 40) F dX8_relight_40 ic_m1 ?_
          refine r_ixor (pc := 41) F dX8_relight_41 ?_
          refine r_iand (pc := 42) F dX8_relight_42 ?_
          refine r_goto (pc := 43) (tgt := 47) F dX8_relight_43 rfl ?_
          exact V_nm (Option.some.inj hv7).symm Jv7
      refine r_istore_n (pc := 47) (ls' := [(0, .ref ((zg Z).1 4)), (1, .int a1), (2, .int l3), (3, .int v7)]) F dX8_relight_47 (Nat.le_of_ble_eq_true rfl) rfl ?_
      refine r_iconst (pc := 48) F dX8_relight_48 ic_0 ?_
      refine r_istore (pc := 49) (ls' := [(0, .ref ((zg Z).1 4)), (1, .int a1), (2, .int l3), (3, .int v7), (4, .int 0)]) F dX8_relight_49 (Nat.le_of_ble_eq_true rfl) rfl ?_
      obtain ⟨w25, iw25, h1⟩ := bind_some h1
      suffices E51 : V Z 107 [(0, .ref ((zg Z).1 4)), (1, .int a1), (2, .int l3)] [] w25 by
        refine iter_rule (P := fun s : Int32 × Int32 × Wd => V Z 51 [(0, .ref ((zg Z).1 4)), (1, .int a1), (2, .int l3), (3, .int (s.1)), (4, .int (s.2.1))] [] s.2.2) (x := w25) ?_ FU (v7, 0, w4) iw25
        intro s y2 h2 hP2 hX2
        obtain ⟨l9, l10, w11⟩ := s
        have h2 : fX8_relight_b51 l3 l9 l10 w11 = some y2 := h2
        unfold fX8_relight_b51 at h2
        refine r_iload (pc := 51) F dX8_relight_51 rfl ?_
        refine r_aload_n (pc := 53) F dX8_relight_53 rfl ?_
        refine r_getf (pc := 54) F dX8_relight_54 fl_8_44 i68_4 (ce_4 _ _ _) rfl ?_
        refine r_icmp_ge (pc := 57) (tgt := 107) F dX8_relight_57 rfl h2 (fun h2 => ?_) (fun h2 => ?_)
        · refine V_sub (ls' := [(0, .ref ((zg Z).1 4)), (1, .int a1), (2, .int l3)]) [0, 1, 2] rfl ?_
          have e12 := hX2 _ (Option.some.inj h2).symm
          cases e12
          exact E51
        · refine r_iload_n (pc := 60) F dX8_relight_60 rfl ?_
          refine r_if_eq (pc := 61) (tgt := 107) F dX8_relight_61 rfl h2 (fun h2 => ?_) (fun h2 => ?_)
          · refine V_sub (ls' := [(0, .ref ((zg Z).1 4)), (1, .int a1), (2, .int l3)]) [0, 1, 2] rfl ?_
            have e13 := hX2 _ (Option.some.inj h2).symm
            cases e13
            exact E51
          · refine r_iload_n (pc := 64) F dX8_relight_64 rfl ?_
            refine r_iload_n (pc := 65) F dX8_relight_65 rfl ?_
            refine r_ineg (pc := 66) F dX8_relight_66 ?_
            refine r_iand (pc := 67) F dX8_relight_67 ?_
            obtain ⟨v14, ev14, h2⟩ := lt_some h2
            refine V_nm ev14 ?_
            refine r_istore (pc := 68) (ls' := [(0, .ref ((zg Z).1 4)), (1, .int a1), (2, .int l3), (3, .int l9), (4, .int l10), (5, .int v14)]) F dX8_relight_68 (Nat.le_of_ble_eq_true rfl) rfl ?_
            refine r_aload_n (pc := 70) F dX8_relight_70 rfl ?_
            refine r_getf (pc := 71) F dX8_relight_71 fl_8_9 i68_4 (ce_4 _ _ _) rfl ?_
            refine r_iload (pc := 74) F dX8_relight_74 rfl ?_
            refine r_iconst (pc := 76) F dX8_relight_76 ic_1 ?_
            refine r_isub (pc := 77) F dX8_relight_77 ?_
            refine r_Si1 (pc := 78) F dX8_relight_78 ml_8_95 (kJ6_bitCount_0f7a4 _ w11 (v14 - 1) _ rfl) (Nat.le_of_ble_eq_true rfl) (Nat.le_of_ble_eq_true rfl) (Nat.le_of_ble_eq_true rfl) ?_
            refine r_iload_n (pc := 81) F dX8_relight_81 rfl ?_
            obtain ⟨g16, h2⟩ := gd_some h2
            obtain ⟨w15, ew15, h2⟩ := lt_some h2
            refine r_iast (pc := 82) F dX8_relight_82 i68_25 (ca_25 _) g16 rfl ew15 ?_
            refine r_aload_n (pc := 83) F dX8_relight_83 rfl ?_
            refine r_dup (pc := 84) F dX8_relight_84 rfl ?_
            refine r_getf (pc := 85) F dX8_relight_85 fl_8_88 i68_4 (ce_4 _ _ _) rfl ?_
            refine r_iload (pc := 88) F dX8_relight_88 rfl ?_
            refine r_ior (pc := 90) F dX8_relight_90 ?_
            obtain ⟨w18, ew18, h2⟩ := lt_some h2
            refine r_putI (pc := 91) F dX8_relight_91 fl_8_88 fp_8_6 i68_4 (ce_4 _) (Nat.le_of_ble_eq_true rfl) rfl rfl rfl ew18 ?_
            refine r_iload_n (pc := 94) F dX8_relight_94 rfl ?_
            refine r_iload (pc := 95) F dX8_relight_95 rfl ?_
            refine r_iconst (pc := 97) F dX8_relight_97 ic_m1 ?_
            refine r_ixor (pc := 98) F dX8_relight_98 ?_
            refine r_iand (pc := 99) F dX8_relight_99 ?_
            obtain ⟨v20, ev20, h2⟩ := lt_some h2
            refine V_nm ev20 ?_
            refine r_istore_n (pc := 100) (ls' := [(0, .ref ((zg Z).1 4)), (1, .int a1), (2, .int l3), (3, .int v20), (4, .int l10), (5, .int v14)]) F dX8_relight_100 (Nat.le_of_ble_eq_true rfl) rfl ?_
            obtain ⟨v21, ev21, h2⟩ := lt_some h2
            refine r_iinc (pc := 101) (ls' := [(0, .ref ((zg Z).1 4)), (1, .int a1), (2, .int l3), (3, .int v20), (4, .int v21), (5, .int v14)]) F dX8_relight_101 rfl (by rw [ev21]; rfl) (Nat.le_of_ble_eq_true rfl) rfl ?_
            refine r_goto (pc := 104) (tgt := 51) F dX8_relight_104 rfl ?_
            refine V_sub (ls' := [(0, .ref ((zg Z).1 4)), (1, .int a1), (2, .int l3), (3, .int v20), (4, .int v21)]) [0, 1, 2, 3, 4] rfl ?_
            exact hP2 (v20, v21, w18) (Option.some.inj h2).symm
      obtain ⟨v27, ev27, h1⟩ := lt_some h1
      refine r_iinc (pc := 107) (ls' := [(0, .ref ((zg Z).1 4)), (1, .int a1), (2, .int v27)]) F dX8_relight_107 rfl (by rw [ev27]; rfl) (Nat.le_of_ble_eq_true rfl) rfl ?_
      refine r_goto (pc := 110) (tgt := 7) F dX8_relight_110 rfl ?_
      exact hP1 (v27, w25) (Option.some.inj h1).symm
  refine r_iload_n (pc := 113) F dX8_relight_113 rfl ?_
  refine r_aload_n (pc := 114) F dX8_relight_114 rfl ?_
  refine r_getf (pc := 115) F dX8_relight_115 fl_8_88 i68_4 (ce_4 _ _ _) rfl ?_
  refine r_ior (pc := 118) F dX8_relight_118 ?_
  exact hR _ _ _ _ dX8_relight_119 rfl (Option.some.inj h0)
set_option maxRecDepth 100000 in
set_option maxHeartbeats 4000000 in
theorem kX8_minuteAt (g : GT) (w : Wd) (a1 : Int32) (a2 : Int32) (out : Int32 × Wd) (h0 : fX8_minuteAt w a1 a2 = some out) : CtI g yX8_minuteAt cX8_minuteAt 3 (some .int) 2 46 [.ref (g.1 4), .int a1, .int a2] w (fun r w1 => (r, w1) = out) := by
  refine CtI_of .int (by decide) (Nat.le_of_ble_eq_true rfl) (fun Z hg F hR => ?_)
  subst hg
  have F : Fx Z RX8 cX8_minuteAt 3 2 46 := F
  refine V_sub (ls' := [(0, .ref ((zg Z).1 4)), (1, .int a1), (2, .int a2)]) [0, 1, 2] rfl ?_
  unfold fX8_minuteAt at h0
  refine r_aload_n (pc := 0) F dX8_minuteAt_0 rfl ?_
  refine r_iload_n (pc := 1) F dX8_minuteAt_1 rfl ?_
  refine r_aload_n (pc := 2) F dX8_minuteAt_2 rfl ?_
  refine r_getf (pc := 3) F dX8_minuteAt_3 fl_8_18 i68_4 (ce_4 _ _ _) rfl ?_
  refine r_iload_n (pc := 6) F dX8_minuteAt_6 rfl ?_
  obtain ⟨g1, h0⟩ := gd_some h0
  refine r_iald (pc := 7) F dX8_minuteAt_7 i68_27 (ca_27 _) g1 rfl ?_
  refine r_iand (pc := 8) F dX8_minuteAt_8 ?_
  obtain ⟨w2, ew2, h0⟩ := lt_some h0
  refine r_putI (pc := 9) F dX8_minuteAt_9 fl_8_82 fp_8_5 i68_4 (ce_4 _) (Nat.le_of_ble_eq_true rfl) rfl rfl rfl ew2 ?_
  refine r_aload_n (pc := 12) F dX8_minuteAt_12 rfl ?_
  refine r_iload_n (pc := 13) F dX8_minuteAt_13 rfl ?_
  refine r_aload_n (pc := 14) F dX8_minuteAt_14 rfl ?_
  refine r_getf (pc := 15) F dX8_minuteAt_15 fl_8_82 i68_4 (ce_4 _ _ _) rfl ?_
  refine r_iconst (pc := 18) F dX8_minuteAt_18 ic_m1 ?_
  refine r_ixor (pc := 19) F dX8_minuteAt_19 ?_
  refine r_iand (pc := 20) F dX8_minuteAt_20 ?_
  obtain ⟨q6, er5, h0⟩ := bind_some h0
  replace h0 := un2_eq h0
  obtain ⟨r5, w4, rfl, h0⟩ := h0
  refine r_Vj1 (pc := 21) F dX8_minuteAt_21 ml_8_85 (kX8_relight _ w2 (a2 &&& ((w2.1 4 5) ^^^ (-1))) (r5, w4) er5) i68_4 (ce_4 _ _ _) (Nat.le_of_ble_eq_true rfl) (Nat.le_of_ble_eq_true rfl) (Nat.le_of_ble_eq_true rfl) ?_
  exact hR _ _ _ _ dX8_minuteAt_24 rfl (Option.some.inj h0)
set_option maxRecDepth 100000 in
set_option maxHeartbeats 4000000 in
theorem kX8_passMinute (g : GT) (b1 : Nat) (hb1 : isCo b1) (w : Wd) (a2 : Int32) (out : Wd) (h0 : fX8_passMinute b1 w a2 = some out) : CtV g yX8_passMinute cX8_passMinute 3 none 3 71 [.ref (g.1 4), .ref (g.1 b1), .int a2] w (fun w1 => w1 = out) := by
  refine CtV_of (by decide) (Nat.le_of_ble_eq_true rfl) (fun Z hg F hR => ?_)
  subst hg
  have F : Fx Z RX8 cX8_passMinute 3 3 71 := F
  refine V_sub (ls' := [(0, .ref ((zg Z).1 4)), (1, .ref ((zg Z).1 b1)), (2, .int a2)]) [0, 1, 2] rfl ?_
  unfold fX8_passMinute at h0
  refine r_aload_n (pc := 0) F dX8_passMinute_0 rfl ?_
  refine r_aload_n (pc := 1) F dX8_passMinute_1 rfl ?_
  obtain ⟨w1, ew1, h0⟩ := bind_some h0
  refine r_Vv1 (pc := 2) F dX8_passMinute_2 ml_8_103 (kX8_setOut _ b1 hb1 w w1 ew1) i68_4 (ce_4 _ _ _) (Nat.le_of_ble_eq_true rfl) (Nat.le_of_ble_eq_true rfl) (Nat.le_of_ble_eq_true rfl) ?_
  refine r_aload_n (pc := 5) F dX8_passMinute_5 rfl ?_
  refine r_aload_n (pc := 6) F dX8_passMinute_6 rfl ?_
  refine r_aload_n (pc := 7) F dX8_passMinute_7 rfl ?_
  refine r_getf (pc := 8) F dX8_passMinute_8 fl_8_45 (lt_Co hb1) (ce_Co hb1 _ _ _) rfl ?_
  refine r_aload_n (pc := 11) F dX8_passMinute_11 rfl ?_
  refine r_getf (pc := 12) F dX8_passMinute_12 fl_8_107 (lt_Co hb1) (ce_Co hb1 _ _ _) rfl ?_
  obtain ⟨q5, er4, h0⟩ := bind_some h0
  replace h0 := un2_eq h0
  obtain ⟨r4, w3, rfl, h0⟩ := h0
  refine r_Vj2 (pc := 15) F dX8_passMinute_15 ml_8_100 (kX8_minuteAt _ w1 (w1.1 b1 5) (w1.1 b1 1) (r4, w3) er4) i68_4 (ce_4 _ _ _) (Nat.le_of_ble_eq_true rfl) (Nat.le_of_ble_eq_true rfl) (Nat.le_of_ble_eq_true rfl) ?_
  obtain ⟨w7, ew7, h0⟩ := lt_some h0
  refine r_putI (pc := 18) F dX8_passMinute_18 fl_8_107 fp_2_1 (lt_Co hb1) (ce_Co hb1 _) (Nat.le_of_ble_eq_true rfl) rfl rfl rfl ew7 ?_
  refine r_aload_n (pc := 21) F dX8_passMinute_21 rfl ?_
  refine r_dup (pc := 22) F dX8_passMinute_22 rfl ?_
  refine r_getf (pc := 23) F dX8_passMinute_23 fl_8_110 (lt_Co hb1) (ce_Co hb1 _ _ _) rfl ?_
  refine r_iconst (pc := 26) F dX8_passMinute_26 ic_1 ?_
  refine r_iadd (pc := 27) F dX8_passMinute_27 ?_
  obtain ⟨w9, ew9, h0⟩ := lt_some h0
  refine r_putI (pc := 28) F dX8_passMinute_28 fl_8_110 fp_2_6 (lt_Co hb1) (ce_Co hb1 _) (Nat.le_of_ble_eq_true rfl) rfl rfl rfl ew9 ?_
  refine r_iload_n (pc := 31) F dX8_passMinute_31 rfl ?_
  refine r_if_ne (pc := 32) (tgt := 45) F dX8_passMinute_32 rfl h0 (fun h0 => ?_) (fun h0 => ?_)
  · refine r_aload_n (pc := 35) F dX8_passMinute_35 rfl ?_
    refine r_dup (pc := 36) F dX8_passMinute_36 rfl ?_
    refine r_getf (pc := 37) F dX8_passMinute_37 fl_8_45 (lt_Co hb1) (ce_Co hb1 _ _ _) rfl ?_
    refine r_iconst (pc := 40) F dX8_passMinute_40 ic_1 ?_
    refine r_iadd (pc := 41) F dX8_passMinute_41 ?_
    obtain ⟨w11, ew11, h0⟩ := lt_some h0
    refine r_putI (pc := 42) F dX8_passMinute_42 fl_8_45 fp_2_5 (lt_Co hb1) (ce_Co hb1 _) (Nat.le_of_ble_eq_true rfl) rfl rfl rfl ew11 ?_
    exact hR _ _ _ dX8_passMinute_45 (Option.some.inj h0)
  · exact hR _ _ _ dX8_passMinute_45 (Option.some.inj h0)
set_option maxRecDepth 100000 in
set_option maxHeartbeats 4000000 in
theorem kX3_comes (g : GT) (w : Wd) (a1 : Int32) (out : Int32 × Wd) (h0 : fX3_comes w a1 = some out) : CtI g yX3_comes cX3_comes 3 (some .boolean) 4 93 [.ref (g.1 6), .int a1] w (fun r w1 => (r, w1) = out) := by
  refine CtI_of .boolean (by decide) (Nat.le_of_ble_eq_true rfl) (fun Z hg F hR => ?_)
  subst hg
  have F : Fx Z RX3 cX3_comes 3 4 93 := F
  refine V_sub (ls' := [(0, .ref ((zg Z).1 6)), (1, .int a1)]) [0, 1] rfl ?_
  unfold fX3_comes at h0
  refine r_aload_n (pc := 0) F dX3_comes_0 rfl ?_
  refine r_getf (pc := 1) F dX3_comes_1 fl_3_9 i68_6 (ce_6 _ _ _) rfl ?_
  refine r_iload_n (pc := 4) F dX3_comes_4 rfl ?_
  obtain ⟨g1, h0⟩ := gd_some h0
  refine r_iald (pc := 5) F dX3_comes_5 i68_33 (ca_33 _) g1 rfl ?_
  obtain ⟨v2, ev2, h0⟩ := lt_some h0
  refine V_nm ev2 ?_
  by_cases c3 : v2 = 100
  · rw [if_pos c3] at h0
    refine r_lsw (pc := 6) (tgt := 127) (t := 121) F dX3_comes_6 (by decide +kernel) (by rw [c3]; decide +kernel) rfl ?_
    refine r_aload_n (pc := 127) F dX3_comes_127 rfl ?_
    refine r_aload_n (pc := 128) F dX3_comes_128 rfl ?_
    refine r_iload_n (pc := 129) F dX3_comes_129 rfl ?_
    refine r_iconst (pc := 130) F dX3_comes_130 ic_1 ?_
    refine r_iadd (pc := 131) F dX3_comes_131 ?_
    obtain ⟨r4, er4, h0⟩ := bind_some h0
    refine r_Vi1 (pc := 132) F dX3_comes_132 ml_3_52 (kX3_twoDigitsAt _ w (a1 + 1) r4 er4) i68_6 (ce_6 _ _ _) (Nat.le_of_ble_eq_true rfl) (Nat.le_of_ble_eq_true rfl) (Nat.le_of_ble_eq_true rfl) ?_
    replace h0 := un2_eq h0
    obtain ⟨r6, w5, er6, h0⟩ := h0
    refine r_Vj1 (pc := 135) F dX3_comes_135 ml_3_62 (kX3_doorComes _ w r4 (r6, w5) er6) i68_6 (ce_6 _ _ _) (Nat.le_of_ble_eq_true rfl) (Nat.le_of_ble_eq_true rfl) (Nat.le_of_ble_eq_true rfl) ?_
    obtain ⟨g8, h0⟩ := gd_some h0
    exact hR _ _ _ _ dX3_comes_138 (bz_n g8) (Option.some.inj h0)
  rw [if_neg c3] at h0
  by_cases c9 : v2 = 102
  · rw [if_pos c9] at h0
    refine r_lsw (pc := 6) (tgt := 108) (t := 102) F dX3_comes_6 (by decide +kernel) (by rw [c9]; decide +kernel) rfl ?_
    refine r_aload_n (pc := 108) F dX3_comes_108 rfl ?_
    refine r_aload_n (pc := 109) F dX3_comes_109 rfl ?_
    refine r_iload_n (pc := 110) F dX3_comes_110 rfl ?_
    refine r_iconst (pc := 111) F dX3_comes_111 ic_1 ?_
    refine r_iadd (pc := 112) F dX3_comes_112 ?_
    obtain ⟨r10, er10, h0⟩ := bind_some h0
    refine r_Vi1 (pc := 113) F dX3_comes_113 ml_3_45 (kX3_digitAt _ w (a1 + 1) r10 er10) i68_6 (ce_6 _ _ _) (Nat.le_of_ble_eq_true rfl) (Nat.le_of_ble_eq_true rfl) (Nat.le_of_ble_eq_true rfl) ?_
    refine r_aload_n (pc := 116) F dX3_comes_116 rfl ?_
    refine r_iload_n (pc := 117) F dX3_comes_117 rfl ?_
    refine r_iconst (pc := 118) F dX3_comes_118 ic_2 ?_
    refine r_iadd (pc := 119) F dX3_comes_119 ?_
    obtain ⟨r11, er11, h0⟩ := bind_some h0
    refine r_Vi1 (pc := 120) F dX3_comes_120 ml_3_45 (kX3_digitAt _ w (a1 + 2) r11 er11) i68_6 (ce_6 _ _ _) (Nat.le_of_ble_eq_true rfl) (Nat.le_of_ble_eq_true rfl) (Nat.le_of_ble_eq_true rfl) ?_
    replace h0 := un2_eq h0
    obtain ⟨r13, w12, er13, h0⟩ := h0
    refine r_Vj2 (pc := 123) F dX3_comes_123 ml_3_58 (kX3_formComes _ w r10 r11 (r13, w12) er13) i68_6 (ce_6 _ _ _) (Nat.le_of_ble_eq_true rfl) (Nat.le_of_ble_eq_true rfl) (Nat.le_of_ble_eq_true rfl) ?_
    obtain ⟨g15, h0⟩ := gd_some h0
    exact hR _ _ _ _ dX3_comes_126 (bz_n g15) (Option.some.inj h0)
  rw [if_neg c9] at h0
  by_cases c16 : v2 = 108
  · rw [if_pos c16] at h0
    refine r_lsw (pc := 6) (tgt := 139) (t := 133) F dX3_comes_6 (by decide +kernel) (by rw [c16]; decide +kernel) rfl ?_
    refine r_aload_n (pc := 139) F dX3_comes_139 rfl ?_
    refine r_aload_n (pc := 140) F dX3_comes_140 rfl ?_
    refine r_iload_n (pc := 141) F dX3_comes_141 rfl ?_
    refine r_iconst (pc := 142) F dX3_comes_142 ic_1 ?_
    refine r_iadd (pc := 143) F dX3_comes_143 ?_
    obtain ⟨r17, er17, h0⟩ := bind_some h0
    refine r_Vi1 (pc := 144) F dX3_comes_144 ml_3_45 (kX3_digitAt _ w (a1 + 1) r17 er17) i68_6 (ce_6 _ _ _) (Nat.le_of_ble_eq_true rfl) (Nat.le_of_ble_eq_true rfl) (Nat.le_of_ble_eq_true rfl) ?_
    obtain ⟨q20, er19, h0⟩ := bind_some h0
    replace h0 := un2_eq h0
    obtain ⟨r19, w18, rfl, h0⟩ := h0
    refine r_Vj1 (pc := 147) F dX3_comes_147 ml_3_65 (kX3_lightComes _ w r17 (r19, w18) er19) i68_6 (ce_6 _ _ _) (Nat.le_of_ble_eq_true rfl) (Nat.le_of_ble_eq_true rfl) (Nat.le_of_ble_eq_true rfl) ?_
    obtain ⟨g22, h0⟩ := gd_some h0
    exact hR _ _ _ _ dX3_comes_150 (bz_n g22) (Option.some.inj h0)
  rw [if_neg c16] at h0
  by_cases c23 : v2 = 112
  · rw [if_pos c23] at h0
    refine r_lsw (pc := 6) (tgt := 56) (t := 50) F dX3_comes_6 (by decide +kernel) (by rw [c23]; decide +kernel) rfl ?_
    refine r_aload_n (pc := 56) F dX3_comes_56 rfl ?_
    refine r_aload_n (pc := 57) F dX3_comes_57 rfl ?_
    refine r_iload_n (pc := 58) F dX3_comes_58 rfl ?_
    refine r_iconst (pc := 59) F dX3_comes_59 ic_1 ?_
    refine r_iadd (pc := 60) F dX3_comes_60 ?_
    obtain ⟨r24, er24, h0⟩ := bind_some h0
    refine r_Vi1 (pc := 61) F dX3_comes_61 ml_3_45 (kX3_digitAt _ w (a1 + 1) r24 er24) i68_6 (ce_6 _ _ _) (Nat.le_of_ble_eq_true rfl) (Nat.le_of_ble_eq_true rfl) (Nat.le_of_ble_eq_true rfl) ?_
    refine r_aload_n (pc := 64) F dX3_comes_64 rfl ?_
    refine r_iload_n (pc := 65) F dX3_comes_65 rfl ?_
    refine r_iconst (pc := 66) F dX3_comes_66 ic_2 ?_
    refine r_iadd (pc := 67) F dX3_comes_67 ?_
    obtain ⟨r25, er25, h0⟩ := bind_some h0
    refine r_Vi1 (pc := 68) F dX3_comes_68 ml_3_45 (kX3_digitAt _ w (a1 + 2) r25 er25) i68_6 (ce_6 _ _ _) (Nat.le_of_ble_eq_true rfl) (Nat.le_of_ble_eq_true rfl) (Nat.le_of_ble_eq_true rfl) ?_
    refine r_aload_n (pc := 71) F dX3_comes_71 rfl ?_
    refine r_iload_n (pc := 72) F dX3_comes_72 rfl ?_
    refine r_iconst (pc := 73) F dX3_comes_73 ic_3 ?_
    refine r_iadd (pc := 74) F dX3_comes_74 ?_
    obtain ⟨r26, er26, h0⟩ := bind_some h0
    refine r_Vi1 (pc := 75) F dX3_comes_75 ml_3_45 (kX3_digitAt _ w (a1 + 3) r26 er26) i68_6 (ce_6 _ _ _) (Nat.le_of_ble_eq_true rfl) (Nat.le_of_ble_eq_true rfl) (Nat.le_of_ble_eq_true rfl) ?_
    obtain ⟨q29, er28, h0⟩ := bind_some h0
    replace h0 := un2_eq h0
    obtain ⟨r28, w27, rfl, h0⟩ := h0
    refine r_Vj3 (pc := 78) F dX3_comes_78 ml_3_48 (kX3_personComes _ w r24 r25 r26 (r28, w27) er28) i68_6 (ce_6 _ _ _) (Nat.le_of_ble_eq_true rfl) (Nat.le_of_ble_eq_true rfl) (Nat.le_of_ble_eq_true rfl) ?_
    obtain ⟨g31, h0⟩ := gd_some h0
    exact hR _ _ _ _ dX3_comes_81 (bz_n g31) (Option.some.inj h0)
  rw [if_neg c23] at h0
  by_cases c32 : v2 = 119
  · rw [if_pos c32] at h0
    refine r_lsw (pc := 6) (tgt := 82) (t := 76) F dX3_comes_6 (by decide +kernel) (by rw [c32]; decide +kernel) rfl ?_
    refine r_aload_n (pc := 82) F dX3_comes_82 rfl ?_
    refine r_aload_n (pc := 83) F dX3_comes_83 rfl ?_
    refine r_iload_n (pc := 84) F dX3_comes_84 rfl ?_
    refine r_iconst (pc := 85) F dX3_comes_85 ic_1 ?_
    refine r_iadd (pc := 86) F dX3_comes_86 ?_
    obtain ⟨r33, er33, h0⟩ := bind_some h0
    refine r_Vi1 (pc := 87) F dX3_comes_87 ml_3_52 (kX3_twoDigitsAt _ w (a1 + 1) r33 er33) i68_6 (ce_6 _ _ _) (Nat.le_of_ble_eq_true rfl) (Nat.le_of_ble_eq_true rfl) (Nat.le_of_ble_eq_true rfl) ?_
    refine r_aload_n (pc := 90) F dX3_comes_90 rfl ?_
    refine r_iload_n (pc := 91) F dX3_comes_91 rfl ?_
    refine r_iconst (pc := 92) F dX3_comes_92 ic_3 ?_
    refine r_iadd (pc := 93) F dX3_comes_93 ?_
    obtain ⟨r34, er34, h0⟩ := bind_some h0
    refine r_Vi1 (pc := 94) F dX3_comes_94 ml_3_45 (kX3_digitAt _ w (a1 + 3) r34 er34) i68_6 (ce_6 _ _ _) (Nat.le_of_ble_eq_true rfl) (Nat.le_of_ble_eq_true rfl) (Nat.le_of_ble_eq_true rfl) ?_
    refine r_aload_n (pc := 97) F dX3_comes_97 rfl ?_
    refine r_iload_n (pc := 98) F dX3_comes_98 rfl ?_
    refine r_iconst (pc := 99) F dX3_comes_99 ic_4 ?_
    refine r_iadd (pc := 100) F dX3_comes_100 ?_
    obtain ⟨r35, er35, h0⟩ := bind_some h0
    refine r_Vi1 (pc := 101) F dX3_comes_101 ml_3_45 (kX3_digitAt _ w (a1 + 4) r35 er35) i68_6 (ce_6 _ _ _) (Nat.le_of_ble_eq_true rfl) (Nat.le_of_ble_eq_true rfl) (Nat.le_of_ble_eq_true rfl) ?_
    obtain ⟨q38, er37, h0⟩ := bind_some h0
    replace h0 := un2_eq h0
    obtain ⟨r37, w36, rfl, h0⟩ := h0
    refine r_Vj3 (pc := 104) F dX3_comes_104 ml_3_55 (kX3_windComes _ w r33 r34 r35 (r37, w36) er37) i68_6 (ce_6 _ _ _) (Nat.le_of_ble_eq_true rfl) (Nat.le_of_ble_eq_true rfl) (Nat.le_of_ble_eq_true rfl) ?_
    obtain ⟨g40, h0⟩ := gd_some h0
    exact hR _ _ _ _ dX3_comes_107 (bz_n g40) (Option.some.inj h0)
  rw [if_neg c32] at h0
  refine r_lsw (pc := 6) (tgt := 151) (t := 145) F dX3_comes_6 (by decide +kernel) (lsw_out (ks := [100, 102, 108, 112, 119]) rfl (List.forall_mem_cons.mpr ⟨sw_ne rfl c3, List.forall_mem_cons.mpr ⟨sw_ne rfl c9, List.forall_mem_cons.mpr ⟨sw_ne rfl c16, List.forall_mem_cons.mpr ⟨sw_ne rfl c23, List.forall_mem_cons.mpr ⟨sw_ne rfl c32, fun _ h => absurd h List.not_mem_nil⟩⟩⟩⟩⟩)) rfl ?_
  refine r_aload_n (pc := 151) F dX3_comes_151 rfl ?_
  refine r_iload_n (pc := 152) F dX3_comes_152 rfl ?_
  refine r_iconst (pc := 153) F dX3_comes_153 ic_1 ?_
  refine r_iadd (pc := 154) F dX3_comes_154 ?_
  obtain ⟨r41, er41, h0⟩ := bind_some h0
  refine r_Vi1 (pc := 155) F dX3_comes_155 ml_3_45 (kX3_digitAt _ w (a1 + 1) r41 er41) i68_6 (ce_6 _ _ _) (Nat.le_of_ble_eq_true rfl) (Nat.le_of_ble_eq_true rfl) (Nat.le_of_ble_eq_true rfl) ?_
  refine r_istore_n (pc := 158) (ls' := [(0, .ref ((zg Z).1 6)), (1, .int a1), (2, .int r41)]) F dX3_comes_158 (Nat.le_of_ble_eq_true rfl) rfl ?_
  refine r_iload_n (pc := 159) F dX3_comes_159 rfl ?_
  refine r_iconst (pc := 160) F dX3_comes_160 ic_1 ?_
  refine r_icmp_gt (pc := 161) (tgt := 187) F dX3_comes_161 rfl h0 (fun h0 => ?_) (fun h0 => ?_)
  · refine r_iconst (pc := 187) F dX3_comes_187 ic_0 ?_
    exact hR _ _ _ _ dX3_comes_188 rfl (Option.some.inj h0)
  · refine r_aload_n (pc := 164) F dX3_comes_164 rfl ?_
    refine r_getf (pc := 165) F dX3_comes_165 fl_3_15 i68_6 (ce_6 _ _ _) rfl ?_
    refine r_Vi0 (pc := 168) F dX3_comes_168 ml_3_68 (kX2_isAtDoor _ 3 co3 w _ rfl) i68_3 (ce_3 _ _ _) (Nat.le_of_ble_eq_true rfl) (Nat.le_of_ble_eq_true rfl) (Nat.le_of_ble_eq_true rfl) ?_
    refine r_if_ne (pc := 171) (tgt := 187) F dX3_comes_171 rfl h0 (fun h0 => ?_) (fun h0 => ?_)
    · refine r_aload_n (pc := 174) F dX3_comes_174 rfl ?_
      refine r_getf (pc := 175) F dX3_comes_175 fl_3_15 i68_6 (ce_6 _ _ _) rfl ?_
      refine r_getf (pc := 178) F dX3_comes_178 fl_3_71 i68_3 (ce_3 _ _ _) rfl ?_
      refine r_sipush (pc := 181) F dX3_comes_181 sp_999 ?_
      refine r_icmp_lt (pc := 184) (tgt := 189) F dX3_comes_184 rfl h0 (fun h0 => ?_) (fun h0 => ?_)
      · refine r_aload_n (pc := 189) F dX3_comes_189 rfl ?_
        refine r_getf (pc := 190) F dX3_comes_190 fl_3_19 i68_6 (ce_6 _ _ _) rfl ?_
        refine r_aload_n (pc := 193) F dX3_comes_193 rfl ?_
        refine r_getf (pc := 194) F dX3_comes_194 fl_3_15 i68_6 (ce_6 _ _ _) rfl ?_
        refine r_iload_n (pc := 197) F dX3_comes_197 rfl ?_
        refine r_iconst (pc := 198) F dX3_comes_198 ic_1 ?_
        obtain ⟨v42, hv42, h0⟩ := lt_some h0
        have hv42 := hv42.symm
        suffices Jv42 : V Z 207 [(0, .ref ((zg Z).1 6)), (1, .int a1), (2, .int r41)] [.int v42, .ref ((zg Z).1 3), .ref ((zg Z).1 4)] w by
          refine r_icmp_ne (pc := 199) (tgt := 206) F dX3_comes_199 rfl hv42 (fun hv42 => ?_) (fun hv42 => ?_)
          · refine r_iconst (pc := 202) F dX3_comes_202 ic_1 ?_
            refine r_goto (pc := 203) (tgt := 207) F dX3_comes_203 rfl ?_
            exact V_nm hv42.symm Jv42
          · refine r_iconst (pc := 206) F dX3_comes_206 ic_0 ?_
            exact V_nm hv42.symm Jv42
        obtain ⟨w43, ew43, h0⟩ := bind_some h0
        refine r_Vv2 (pc := 207) F dX3_comes_207 ml_3_74 (kX8_passMinute _ 3 co3 w v42 w43 ew43) i68_4 (ce_4 _ _ _) (Nat.le_of_ble_eq_true rfl) (Nat.le_of_ble_eq_true rfl) (Nat.le_of_ble_eq_true rfl) ?_
        refine r_iconst (pc := 210) F dX3_comes_210 ic_1 ?_
        exact hR _ _ _ _ dX3_comes_211 rfl (Option.some.inj h0)
      · refine r_iconst (pc := 187) F dX3_comes_187 ic_0 ?_
        exact hR _ _ _ _ dX3_comes_188 rfl (Option.some.inj h0)
    · refine r_iconst (pc := 187) F dX3_comes_187 ic_0 ?_
      exact hR _ _ _ _ dX3_comes_188 rfl (Option.some.inj h0)
set_option maxRecDepth 100000 in
set_option maxHeartbeats 4000000 in
theorem kX3_comeTo (g : GT) (b1 : Nat) (hb1 : isCo b1) (w : Wd) (out : Int32 × Wd) (h0 : fX3_comeTo b1 w = some out) : CtI g yX3_comeTo cX3_comeTo 5 (some .int) 5 115 [.ref (g.1 6), .ref (g.1 b1)] w (fun r w1 => (r, w1) = out) := by
  refine CtI_of .int (by decide) (Nat.le_of_ble_eq_true rfl) (fun Z hg F hR => ?_)
  subst hg
  have F : Fx Z RX3 cX3_comeTo 5 5 115 := F
  refine V_sub (ls' := [(0, .ref ((zg Z).1 6)), (1, .ref ((zg Z).1 b1))]) [0, 1] rfl ?_
  unfold fX3_comeTo at h0
  have J67 : ∀ (w8 : Wd) (l7 : Int32), fX3_comeTo_j67 b1 w8 l7 = some out → V Z 67 [(0, .ref ((zg Z).1 6)), (1, .ref ((zg Z).1 b1)), (2, .int l7)] [] w8 := by
    intro w8 l7 h0
    unfold fX3_comeTo_j67 at h0
    refine r_aload_n (pc := 67) F dX3_comeTo_67 rfl ?_
    refine r_aload_n (pc := 68) F dX3_comeTo_68 rfl ?_
    refine r_getf (pc := 69) F dX3_comeTo_69 fl_3_15 i68_6 (ce_6 _ _ _) rfl ?_
    obtain ⟨w9, ew9, h0⟩ := lt_some h0
    refine r_Vv1 (pc := 72) F dX3_comeTo_72 ml_3_35 (kX2_takeFrom _ b1 hb1 3 co3 w8 w9 ew9.symm) (lt_Co hb1) (ce_Co hb1 _ _ _) (Nat.le_of_ble_eq_true rfl) (Nat.le_of_ble_eq_true rfl) (Nat.le_of_ble_eq_true rfl) ?_
    refine r_iload_n (pc := 75) F dX3_comeTo_75 rfl ?_
    exact hR _ _ _ _ dX3_comeTo_76 rfl (Option.some.inj h0)
  refine r_aload_n (pc := 0) F dX3_comeTo_0 rfl ?_
  refine r_getf (pc := 1) F dX3_comeTo_1 fl_3_15 i68_6 (ce_6 _ _ _) rfl ?_
  refine r_aload_n (pc := 4) F dX3_comeTo_4 rfl ?_
  obtain ⟨w1, ew1, h0⟩ := lt_some h0
  refine r_Vv1 (pc := 5) F dX3_comeTo_5 ml_3_35 (kX2_takeFrom _ 3 co3 b1 hb1 w w1 ew1.symm) i68_3 (ce_3 _ _ _) (Nat.le_of_ble_eq_true rfl) (Nat.le_of_ble_eq_true rfl) (Nat.le_of_ble_eq_true rfl) ?_
  refine r_iconst (pc := 8) F dX3_comeTo_8 ic_0 ?_
  refine r_istore_n (pc := 9) (ls' := [(0, .ref ((zg Z).1 6)), (1, .ref ((zg Z).1 b1)), (2, .int 0)]) F dX3_comeTo_9 (Nat.le_of_ble_eq_true rfl) rfl ?_
  refine r_iconst (pc := 10) F dX3_comeTo_10 ic_0 ?_
  refine r_istore_n (pc := 11) (ls' := [(0, .ref ((zg Z).1 6)), (1, .ref ((zg Z).1 b1)), (2, .int 0), (3, .int 0)]) F dX3_comeTo_11 (Nat.le_of_ble_eq_true rfl) rfl ?_
  refine r_iconst (pc := 12) F dX3_comeTo_12 ic_0 ?_
  refine r_istore (pc := 13) (ls' := [(0, .ref ((zg Z).1 6)), (1, .ref ((zg Z).1 b1)), (2, .int 0), (3, .int 0), (4, .int 0)]) F dX3_comeTo_13 (Nat.le_of_ble_eq_true rfl) rfl ?_
  refine iter_rule (P := fun s : Int32 × Int32 × Int32 × Wd => V Z 15 [(0, .ref ((zg Z).1 6)), (1, .ref ((zg Z).1 b1)), (2, .int (s.1)), (3, .int (s.2.1)), (4, .int (s.2.2.1))] [] s.2.2.2) (x := out) ?_ FU (0, 0, 0, w1) h0
  intro s y1 h1 hP1 hX1
  obtain ⟨l3, l4, l5, w6⟩ := s
  have h1 : fX3_comeTo_b15 b1 l3 l4 l5 w6 = some y1 := h1
  unfold fX3_comeTo_b15 at h1
  refine r_iload (pc := 15) F dX3_comeTo_15 rfl ?_
  refine r_bipush (pc := 17) F dX3_comeTo_17 bp_96 ?_
  refine r_icmp_ge (pc := 19) (tgt := 67) F dX3_comeTo_19 rfl h1 (fun h1 => ?_) (fun h1 => ?_)
  · refine V_sub (ls' := [(0, .ref ((zg Z).1 6)), (1, .ref ((zg Z).1 b1)), (2, .int l3)]) [0, 1, 2] rfl ?_
    obtain ⟨m11, hjm11, em11⟩ := map_inr h1
    have em11 := hX1 _ em11.symm
    rw [em11] at hjm11
    exact J67 w6 l3 hjm11
  · refine r_iload_n (pc := 22) F dX3_comeTo_22 rfl ?_
    refine r_aload_n (pc := 23) F dX3_comeTo_23 rfl ?_
    refine r_getf (pc := 24) F dX3_comeTo_24 fl_3_23 i68_6 (ce_6 _ _ _) rfl ?_
    refine r_icmp_ge (pc := 27) (tgt := 67) F dX3_comeTo_27 rfl h1 (fun h1 => ?_) (fun h1 => ?_)
    · refine V_sub (ls' := [(0, .ref ((zg Z).1 6)), (1, .ref ((zg Z).1 b1)), (2, .int l3)]) [0, 1, 2] rfl ?_
      obtain ⟨m12, hjm12, em12⟩ := map_inr h1
      have em12 := hX1 _ em12.symm
      rw [em12] at hjm12
      exact J67 w6 l3 hjm12
    · refine r_aload_n (pc := 30) F dX3_comeTo_30 rfl ?_
      refine r_iload_n (pc := 31) F dX3_comeTo_31 rfl ?_
      obtain ⟨q15, er14, h1⟩ := bind_some h1
      replace h1 := un2_eq h1
      obtain ⟨r14, w13, rfl, h1⟩ := h1
      refine r_Vj1 (pc := 32) F dX3_comeTo_32 ml_3_41 (kX3_comes _ w6 l4 (r14, w13) er14) i68_6 (ce_6 _ _ _) (Nat.le_of_ble_eq_true rfl) (Nat.le_of_ble_eq_true rfl) (Nat.le_of_ble_eq_true rfl) ?_
      refine r_if_ne (pc := 35) (tgt := 44) F dX3_comeTo_35 rfl h1 (fun h1 => ?_) (fun h1 => ?_)
      · refine r_sipush (pc := 38) F dX3_comeTo_38 sp_m2000 ?_
        refine r_iload_n (pc := 41) F dX3_comeTo_41 rfl ?_
        refine r_isub (pc := 42) F dX3_comeTo_42 ?_
        have h0 := congrArg some (hX1 _ (Option.some.inj h1).symm)
        exact hR _ _ _ _ dX3_comeTo_43 rfl (Option.some.inj h0)
      · obtain ⟨v17, ev17, h1⟩ := lt_some h1
        refine r_iinc (pc := 44) (ls' := [(0, .ref ((zg Z).1 6)), (1, .ref ((zg Z).1 b1)), (2, .int v17), (3, .int l4), (4, .int l5)]) F dX3_comeTo_44 rfl (by rw [ev17]; rfl) (Nat.le_of_ble_eq_true rfl) rfl ?_
        refine r_iload_n (pc := 47) F dX3_comeTo_47 rfl ?_
        refine r_aload_n (pc := 48) F dX3_comeTo_48 rfl ?_
        refine r_getf (pc := 49) F dX3_comeTo_49 fl_3_9 i68_6 (ce_6 _ _ _) rfl ?_
        refine r_iload_n (pc := 52) F dX3_comeTo_52 rfl ?_
        obtain ⟨g18, h1⟩ := gd_some h1
        refine r_iald (pc := 53) F dX3_comeTo_53 i68_33 (ca_33 _) g18 rfl ?_
        refine r_Si1 (pc := 54) F dX3_comeTo_54 ml_3_31 (kX3_digitsBehind _ w13 (w13.1 33 l4.toNatClampNeg) _ rfl) (Nat.le_of_ble_eq_true rfl) (Nat.le_of_ble_eq_true rfl) (Nat.le_of_ble_eq_true rfl) ?_
        refine r_iconst (pc := 57) F dX3_comeTo_57 ic_2 ?_
        refine r_iadd (pc := 58) F dX3_comeTo_58 ?_
        refine r_iadd (pc := 59) F dX3_comeTo_59 ?_
        obtain ⟨v19, ev19, h1⟩ := lt_some h1
        refine V_nm ev19 ?_
        refine r_istore_n (pc := 60) (ls' := [(0, .ref ((zg Z).1 6)), (1, .ref ((zg Z).1 b1)), (2, .int v17), (3, .int v19), (4, .int l5)]) F dX3_comeTo_60 (Nat.le_of_ble_eq_true rfl) rfl ?_
        obtain ⟨v20, ev20, h1⟩ := lt_some h1
        refine r_iinc (pc := 61) (ls' := [(0, .ref ((zg Z).1 6)), (1, .ref ((zg Z).1 b1)), (2, .int v17), (3, .int v19), (4, .int v20)]) F dX3_comeTo_61 rfl (by rw [ev20]; rfl) (Nat.le_of_ble_eq_true rfl) rfl ?_
        refine r_goto (pc := 64) (tgt := 15) F dX3_comeTo_64 rfl ?_
        exact hP1 (v17, v19, v20, w13) (Option.some.inj h1).symm
set_option maxRecDepth 100000 in
set_option maxHeartbeats 4000000 in
theorem kX5_forget (g : GT) (w : Wd) (out : Wd) (h0 : fX5_forget w = out) : CtV g yX5_forget cX5_forget 1 none 0 0 [.ref (g.1 5)] w (fun w1 => w1 = out) := by
  refine CtV_of (by decide) (Nat.le_of_ble_eq_true rfl) (fun Z hg F hR => ?_)
  subst hg
  have F : Fx Z RX5 cX5_forget 1 0 0 := F
  refine V_sub (ls' := [(0, .ref ((zg Z).1 5))]) [0] rfl ?_
  unfold fX5_forget at h0
  refine r_aload_n (pc := 0) F dX5_forget_0 rfl ?_
  refine r_iconst (pc := 1) F dX5_forget_1 ic_0 ?_
  obtain ⟨w1, ew1, h0⟩ := lt_some h0
  refine r_putI (pc := 2) F dX5_forget_2 fl_5_19 fp_5_0 i68_5 (ce_5 _) (Nat.le_of_ble_eq_true rfl) rfl rfl rfl ew1 ?_
  exact hR _ _ _ dX5_forget_5 h0
set_option maxRecDepth 100000 in
set_option maxHeartbeats 4000000 in
theorem kX9_road (g : GT) (w : Wd) (out : Int32 × Wd) (h0 : fX9_road w = some out) : CtI g yX9_road cX9_road 2 (some .int) 6 139 [.ref (g.1 0)] w (fun r w1 => (r, w1) = out) := by
  refine CtI_of .int (by decide) (Nat.le_of_ble_eq_true rfl) (fun Z hg F hR => ?_)
  subst hg
  have F : Fx Z RX9 cX9_road 2 6 139 := F
  refine V_sub (ls' := [(0, .ref ((zg Z).1 0))]) [0] rfl ?_
  unfold fX9_road at h0
  have J35 : ∀ (w9 : Wd) (l8 : Int32), fX9_road_j35 w9 l8 = some out → V Z 35 [(0, .ref ((zg Z).1 0)), (1, .int l8)] [] w9 := by
    intro w9 l8 h0
    unfold fX9_road_j35 at h0
    refine r_aload_n (pc := 35) F dX9_road_35 rfl ?_
    refine r_getf (pc := 36) F dX9_road_36 fl_9_38 i68_0 (ce_0 _ _ _) rfl ?_
    refine r_iconst (pc := 39) F dX9_road_39 ic_0 ?_
    obtain ⟨w10, ew10, h0⟩ := lt_some h0
    refine r_putI (pc := 40) F dX9_road_40 fl_9_107 fp_3_0 i68_6 (ce_6 _) (Nat.le_of_ble_eq_true rfl) rfl rfl rfl ew10 ?_
    refine r_iload_n (pc := 43) F dX9_road_43 rfl ?_
    exact hR _ _ _ _ dX9_road_44 rfl (Option.some.inj h0)
  have J24 : ∀ (w7 : Wd) (l6 : Int32), fX9_road_j24 w7 l6 = some out → V Z 24 [(0, .ref ((zg Z).1 0)), (1, .int l6)] [] w7 := by
    intro w7 l6 h0
    unfold fX9_road_j24 at h0
    refine r_iload_n (pc := 24) F dX9_road_24 rfl ?_
    refine r_if_lt (pc := 25) (tgt := 35) F dX9_road_25 rfl h0 (fun h0 => ?_) (fun h0 => ?_)
    · exact J35 w7 l6 h0
    · refine r_aload_n (pc := 28) F dX9_road_28 rfl ?_
      refine r_getf (pc := 29) F dX9_road_29 fl_9_29 i68_0 (ce_0 _ _ _) rfl ?_
      obtain ⟨w12, ew12, h0⟩ := lt_some h0
      refine r_Vv0 (pc := 32) F dX9_road_32 ml_9_104 (kX5_forget _ w7 w12 ew12.symm) i68_5 (ce_5 _ _ _) (Nat.le_of_ble_eq_true rfl) (Nat.le_of_ble_eq_true rfl) (Nat.le_of_ble_eq_true rfl) ?_
      exact J35 w12 l6 h0
  refine r_aload_n (pc := 0) F dX9_road_0 rfl ?_
  refine r_getf (pc := 1) F dX9_road_1 fl_9_38 i68_0 (ce_0 _ _ _) rfl ?_
  obtain ⟨r1, er1, h0⟩ := bind_some h0
  refine r_Vi0 (pc := 4) F dX9_road_4 ml_9_96 (kX3_textFault _ w r1 er1) i68_6 (ce_6 _ _ _) (Nat.le_of_ble_eq_true rfl) (Nat.le_of_ble_eq_true rfl) (Nat.le_of_ble_eq_true rfl) ?_
  refine r_istore_n (pc := 7) (ls' := [(0, .ref ((zg Z).1 0)), (1, .int r1)]) F dX9_road_7 (Nat.le_of_ble_eq_true rfl) rfl ?_
  refine r_iload_n (pc := 8) F dX9_road_8 rfl ?_
  refine r_if_ne (pc := 9) (tgt := 24) F dX9_road_9 rfl h0 (fun h0 => ?_) (fun h0 => ?_)
  · refine r_aload_n (pc := 12) F dX9_road_12 rfl ?_
    refine r_getf (pc := 13) F dX9_road_13 fl_9_38 i68_0 (ce_0 _ _ _) rfl ?_
    refine r_aload_n (pc := 16) F dX9_road_16 rfl ?_
    refine r_getf (pc := 17) F dX9_road_17 fl_9_10 i68_0 (ce_0 _ _ _) rfl ?_
    obtain ⟨q4, er3, h0⟩ := bind_some h0
    replace h0 := un2_eq h0
    obtain ⟨r3, w2, rfl, h0⟩ := h0
    refine r_Vj1 (pc := 20) F dX9_road_20 ml_9_100 (kX3_comeTo _ 1 co1 w (r3, w2) er3) i68_6 (ce_6 _ _ _) (Nat.le_of_ble_eq_true rfl) (Nat.le_of_ble_eq_true rfl) (Nat.le_of_ble_eq_true rfl) ?_
    refine r_istore_n (pc := 23) (ls' := [(0, .ref ((zg Z).1 0)), (1, .int r3)]) F dX9_road_23 (Nat.le_of_ble_eq_true rfl) rfl ?_
    exact J24 w2 r3 h0
  · exact J24 w r1 h0
set_option maxRecDepth 100000 in
set_option maxHeartbeats 4000000 in
theorem kX2_feltBy (g : GT) (b : Nat) (hb : isCo b) (w : Wd) (a1 : Int32) (a2 : Int32) (out : Int32) (h0 : fX2_feltBy b w a1 a2 = some out) : CtI g yX2_feltBy cX2_feltBy 3 (some .int) 2 47 [.ref (g.1 b), .int a1, .int a2] w (fun r w1 => r = out ∧ w1 = w) := by
  refine CtI_of .int (by decide) (Nat.le_of_ble_eq_true rfl) (fun Z hg F hR => ?_)
  subst hg
  have F : Fx Z RX2 cX2_feltBy 3 2 47 := F
  refine V_sub (ls' := [(0, .ref ((zg Z).1 b)), (1, .int a1), (2, .int a2)]) [0, 1, 2] rfl ?_
  unfold fX2_feltBy at h0
  refine r_iconst (pc := 0) F dX2_feltBy_0 ic_0 ?_
  refine r_aload_n (pc := 1) F dX2_feltBy_1 rfl ?_
  refine r_getf (pc := 2) F dX2_feltBy_2 fl_2_25 (lt_Co hb) (ce_Co hb _ _ _) rfl ?_
  refine r_iload_n (pc := 5) F dX2_feltBy_5 rfl ?_
  obtain ⟨g1, h0⟩ := gd_some h0
  refine r_iald (pc := 6) F dX2_feltBy_6 (lt_Co11 hb) (ca_Co11 hb _) g1 rfl ?_
  refine r_aload_n (pc := 7) F dX2_feltBy_7 rfl ?_
  refine r_iload_n (pc := 8) F dX2_feltBy_8 rfl ?_
  refine r_aload_n (pc := 9) F dX2_feltBy_9 rfl ?_
  refine r_getf (pc := 10) F dX2_feltBy_10 fl_2_28 (lt_Co hb) (ce_Co hb _ _ _) rfl ?_
  refine r_iload_n (pc := 13) F dX2_feltBy_13 rfl ?_
  refine r_iald (pc := 14) F dX2_feltBy_14 (lt_Co12 hb) (ca_Co12 hb _) g1 rfl ?_
  obtain ⟨r2, er2, h0⟩ := bind_some h0
  refine r_Vi2 (pc := 15) F dX2_feltBy_15 ml_2_77 (kX2_coverFor _ b hb w a1 (w.1 (12 + 4 * b) a2.toNatClampNeg) r2 er2) (lt_Co hb) (ce_Co hb _ _ _) (Nat.le_of_ble_eq_true rfl) (Nat.le_of_ble_eq_true rfl) (Nat.le_of_ble_eq_true rfl) ?_
  refine r_isub (pc := 18) F dX2_feltBy_18 ?_
  refine r_max (pc := 19) F dX2_feltBy_19 mk_2_80 ms_max mi_Math mc_max (Nat.le_of_ble_eq_true rfl) (Nat.le_of_ble_eq_true rfl) ?_
  exact hR _ _ _ _ dX2_feltBy_22 rfl ⟨(Option.some.inj h0), rfl⟩
set_option maxRecDepth 100000 in
set_option maxHeartbeats 4000000 in
theorem kX2_tellOf (g : GT) (b : Nat) (hb : isCo b) (w : Wd) (a1 : Int32) (a2 : Int32) (out : Int32) (h0 : fX2_tellOf b w a1 a2 = some out) : CtI g yX2_tellOf cX2_tellOf 3 (some .int) 3 69 [.ref (g.1 b), .int a1, .int a2] w (fun r w1 => r = out ∧ w1 = w) := by
  refine CtI_of .int (by decide) (Nat.le_of_ble_eq_true rfl) (fun Z hg F hR => ?_)
  subst hg
  have F : Fx Z RX2 cX2_tellOf 3 3 69 := F
  refine V_sub (ls' := [(0, .ref ((zg Z).1 b)), (1, .int a1), (2, .int a2)]) [0, 1, 2] rfl ?_
  unfold fX2_tellOf at h0
  refine r_iload_n (pc := 0) F dX2_tellOf_0 rfl ?_
  by_cases c1 : a2 = 0
  · rw [if_pos c1] at h0
    refine r_tsw (pc := 1) (tgt := 40) F dX2_tellOf_1 rfl (by rw [c1]; decide +kernel) ?_
    refine r_aload_n (pc := 40) F dX2_tellOf_40 rfl ?_
    refine r_getf (pc := 41) F dX2_tellOf_41 fl_2_18 (lt_Co hb) (ce_Co hb _ _ _) rfl ?_
    refine r_iload_n (pc := 44) F dX2_tellOf_44 rfl ?_
    obtain ⟨g2, h0⟩ := gd_some h0
    refine r_iald (pc := 45) F dX2_tellOf_45 (lt_Co9 hb) (ca_Co9 hb _) g2 rfl ?_
    exact hR _ _ _ _ dX2_tellOf_46 rfl ⟨(Option.some.inj h0), rfl⟩
  rw [if_neg c1] at h0
  by_cases c3 : a2 = 1
  · rw [if_pos c3] at h0
    refine r_tsw (pc := 1) (tgt := 47) F dX2_tellOf_1 rfl (by rw [c3]; decide +kernel) ?_
    refine r_aload_n (pc := 47) F dX2_tellOf_47 rfl ?_
    refine r_getf (pc := 48) F dX2_tellOf_48 fl_2_22 (lt_Co hb) (ce_Co hb _ _ _) rfl ?_
    refine r_iload_n (pc := 51) F dX2_tellOf_51 rfl ?_
    obtain ⟨g4, h0⟩ := gd_some h0
    refine r_iald (pc := 52) F dX2_tellOf_52 (lt_Co10 hb) (ca_Co10 hb _) g4 rfl ?_
    exact hR _ _ _ _ dX2_tellOf_53 rfl ⟨(Option.some.inj h0), rfl⟩
  rw [if_neg c3] at h0
  by_cases c5 : a2 = 2
  · rw [if_pos c5] at h0
    refine r_tsw (pc := 1) (tgt := 54) F dX2_tellOf_1 rfl (by rw [c5]; decide +kernel) ?_
    refine r_aload_n (pc := 54) F dX2_tellOf_54 rfl ?_
    refine r_iload_n (pc := 55) F dX2_tellOf_55 rfl ?_
    obtain ⟨r6, er6, h0⟩ := bind_some h0
    refine r_Vi1 (pc := 56) F dX2_tellOf_56 ml_2_64 (kX2_isLit _ b hb w a1 r6 er6) (lt_Co hb) (ce_Co hb _ _ _) (Nat.le_of_ble_eq_true rfl) (Nat.le_of_ble_eq_true rfl) (Nat.le_of_ble_eq_true rfl) ?_
    refine r_if_eq (pc := 59) (tgt := 66) F dX2_tellOf_59 rfl h0 (fun h0 => ?_) (fun h0 => ?_)
    · refine r_iconst (pc := 66) F dX2_tellOf_66 ic_0 ?_
      exact hR _ _ _ _ dX2_tellOf_67 rfl ⟨(Option.some.inj h0), rfl⟩
    · refine r_iconst (pc := 62) F dX2_tellOf_62 ic_1 ?_
      refine r_goto (pc := 63) (tgt := 67) F dX2_tellOf_63 rfl ?_
      exact hR _ _ _ _ dX2_tellOf_67 rfl ⟨(Option.some.inj h0), rfl⟩
  rw [if_neg c5] at h0
  by_cases c8 : a2 = 3
  · rw [if_pos c8] at h0
    refine r_tsw (pc := 1) (tgt := 68) F dX2_tellOf_1 rfl (by rw [c8]; decide +kernel) ?_
    refine r_gcov (pc := 68) F dX2_tellOf_68 ?_
    refine r_aload_n (pc := 71) F dX2_tellOf_71 rfl ?_
    refine r_getf (pc := 72) F dX2_tellOf_72 fl_2_18 (lt_Co hb) (ce_Co hb _ _ _) rfl ?_
    refine r_iload_n (pc := 75) F dX2_tellOf_75 rfl ?_
    obtain ⟨g9, h0⟩ := gd_some h0
    refine r_iald (pc := 76) F dX2_tellOf_76 (lt_Co9 hb) (ca_Co9 hb _) g9 rfl ?_
    obtain ⟨g10, h0⟩ := gd_some h0
    refine r_scov (pc := 77) F dX2_tellOf_77 g10 ?_
    exact hR _ _ _ _ dX2_tellOf_78 rfl ⟨(Option.some.inj h0), rfl⟩
  rw [if_neg c8] at h0
  by_cases c11 : a2 = 4
  · rw [if_pos c11] at h0
    refine r_tsw (pc := 1) (tgt := 79) F dX2_tellOf_1 rfl (by rw [c11]; decide +kernel) ?_
    refine r_aload_n (pc := 79) F dX2_tellOf_79 rfl ?_
    refine r_iload_n (pc := 80) F dX2_tellOf_80 rfl ?_
    obtain ⟨r12, er12, h0⟩ := bind_some h0
    refine r_Vi1 (pc := 81) F dX2_tellOf_81 ml_2_92 (kX2_holdsOf _ b hb w a1 r12 er12) (lt_Co hb) (ce_Co hb _ _ _) (Nat.le_of_ble_eq_true rfl) (Nat.le_of_ble_eq_true rfl) (Nat.le_of_ble_eq_true rfl) ?_
    exact hR _ _ _ _ dX2_tellOf_84 rfl ⟨(Option.some.inj h0), rfl⟩
  rw [if_neg c11] at h0
  by_cases c13 : a2 = 5
  · rw [if_pos c13] at h0
    refine r_tsw (pc := 1) (tgt := 85) F dX2_tellOf_1 rfl (by rw [c13]; decide +kernel) ?_
    refine r_ggiv (pc := 85) F dX2_tellOf_85 ?_
    refine r_aload_n (pc := 88) F dX2_tellOf_88 rfl ?_
    refine r_getf (pc := 89) F dX2_tellOf_89 fl_2_18 (lt_Co hb) (ce_Co hb _ _ _) rfl ?_
    refine r_iload_n (pc := 92) F dX2_tellOf_92 rfl ?_
    obtain ⟨g14, h0⟩ := gd_some h0
    refine r_iald (pc := 93) F dX2_tellOf_93 (lt_Co9 hb) (ca_Co9 hb _) g14 rfl ?_
    obtain ⟨g15, h0⟩ := gd_some h0
    refine r_sgiv (pc := 94) F dX2_tellOf_94 g15 ?_
    exact hR _ _ _ _ dX2_tellOf_95 rfl ⟨(Option.some.inj h0), rfl⟩
  rw [if_neg c13] at h0
  refine r_tsw (pc := 1) (tgt := 96) F dX2_tellOf_1 rfl (tsw_out (ks := [0, 1, 2, 3, 4, 5]) rfl rfl (by decide +kernel) (List.forall_mem_cons.mpr ⟨sw_ne rfl c1, List.forall_mem_cons.mpr ⟨sw_ne rfl c3, List.forall_mem_cons.mpr ⟨sw_ne rfl c5, List.forall_mem_cons.mpr ⟨sw_ne rfl c8, List.forall_mem_cons.mpr ⟨sw_ne rfl c11, List.forall_mem_cons.mpr ⟨sw_ne rfl c13, fun _ h => absurd h List.not_mem_nil⟩⟩⟩⟩⟩⟩)) ?_
  refine r_aload_n (pc := 96) F dX2_tellOf_96 rfl ?_
  refine r_iload_n (pc := 97) F dX2_tellOf_97 rfl ?_
  refine r_aload_n (pc := 98) F dX2_tellOf_98 rfl ?_
  refine r_getf (pc := 99) F dX2_tellOf_99 fl_2_40 (lt_Co hb) (ce_Co hb _ _ _) rfl ?_
  obtain ⟨r16, er16, h0⟩ := bind_some h0
  refine r_Vi2 (pc := 102) F dX2_tellOf_102 ml_2_96 (kX2_feltBy _ b hb w a1 (w.1 b 5) r16 er16) (lt_Co hb) (ce_Co hb _ _ _) (Nat.le_of_ble_eq_true rfl) (Nat.le_of_ble_eq_true rfl) (Nat.le_of_ble_eq_true rfl) ?_
  exact hR _ _ _ _ dX2_tellOf_105 rfl ⟨(Option.some.inj h0), rfl⟩
set_option maxRecDepth 100000 in
set_option maxHeartbeats 4000000 in
theorem kX9_person (g : GT) (w : Wd) (a1 : Int32) (a2 : Int32) (out : Int32 × Wd) (h0 : fX9_person w a1 a2 = some out) : CtI g yX9_person cX9_person 3 (some .int) 4 91 [.ref (g.1 0), .int a1, .int a2] w (fun r w1 => (r, w1) = out) := by
  refine CtI_of .int (by decide) (Nat.le_of_ble_eq_true rfl) (fun Z hg F hR => ?_)
  subst hg
  have F : Fx Z RX9 cX9_person 3 4 91 := F
  refine V_sub (ls' := [(0, .ref ((zg Z).1 0)), (1, .int a1), (2, .int a2)]) [0, 1, 2] rfl ?_
  unfold fX9_person at h0
  refine r_aload_n (pc := 0) F dX9_person_0 rfl ?_
  refine r_getf (pc := 1) F dX9_person_1 fl_9_10 i68_0 (ce_0 _ _ _) rfl ?_
  refine r_iload_n (pc := 4) F dX9_person_4 rfl ?_
  refine r_Vi1 (pc := 5) F dX9_person_5 ml_9_111 (kX2_hasOne _ 1 co1 w a1 _ rfl) i68_1 (ce_1 _ _ _) (Nat.le_of_ble_eq_true rfl) (Nat.le_of_ble_eq_true rfl) (Nat.le_of_ble_eq_true rfl) ?_
  refine r_if_ne (pc := 8) (tgt := 17) F dX9_person_8 rfl h0 (fun h0 => ?_) (fun h0 => ?_)
  · refine r_aload_n (pc := 11) F dX9_person_11 rfl ?_
    refine r_iconst (pc := 12) F dX9_person_12 ic_m1 ?_
    obtain ⟨q3, er2, h0⟩ := bind_some h0
    replace h0 := un2_eq h0
    obtain ⟨r2, w1, rfl, h0⟩ := h0
    refine r_Vj1 (pc := 13) F dX9_person_13 ml_9_85 (kX9_refuse _ w (-1) (r2, w1) er2) i68_0 (ce_0 _ _ _) (Nat.le_of_ble_eq_true rfl) (Nat.le_of_ble_eq_true rfl) (Nat.le_of_ble_eq_true rfl) ?_
    exact hR _ _ _ _ dX9_person_16 rfl (Option.some.inj h0)
  · refine r_iload_n (pc := 17) F dX9_person_17 rfl ?_
    refine r_bipush (pc := 18) F dX9_person_18 bp_6 ?_
    refine r_Si2 (pc := 20) F dX9_person_20 ml_9_115 (kX9_isOutside _ w a2 6 _ rfl) (Nat.le_of_ble_eq_true rfl) (Nat.le_of_ble_eq_true rfl) (Nat.le_of_ble_eq_true rfl) ?_
    refine r_if_eq (pc := 23) (tgt := 33) F dX9_person_23 rfl h0 (fun h0 => ?_) (fun h0 => ?_)
    · refine r_aload_n (pc := 33) F dX9_person_33 rfl ?_
      refine r_getf (pc := 34) F dX9_person_34 fl_9_10 i68_0 (ce_0 _ _ _) rfl ?_
      refine r_iload_n (pc := 37) F dX9_person_37 rfl ?_
      refine r_iload_n (pc := 38) F dX9_person_38 rfl ?_
      obtain ⟨r5, er5, h0⟩ := bind_some h0
      refine r_Vi2 (pc := 39) F dX9_person_39 ml_9_119 (kX2_tellOf _ 1 co1 w a1 a2 r5 er5) i68_1 (ce_1 _ _ _) (Nat.le_of_ble_eq_true rfl) (Nat.le_of_ble_eq_true rfl) (Nat.le_of_ble_eq_true rfl) ?_
      exact hR _ _ _ _ dX9_person_42 rfl (Option.some.inj h0)
    · refine r_aload_n (pc := 26) F dX9_person_26 rfl ?_
      refine r_bipush (pc := 27) F dX9_person_27 bp_m2 ?_
      obtain ⟨q8, er7, h0⟩ := bind_some h0
      replace h0 := un2_eq h0
      obtain ⟨r7, w6, rfl, h0⟩ := h0
      refine r_Vj1 (pc := 29) F dX9_person_29 ml_9_85 (kX9_refuse _ w (-2) (r7, w6) er7) i68_0 (ce_0 _ _ _) (Nat.le_of_ble_eq_true rfl) (Nat.le_of_ble_eq_true rfl) (Nat.le_of_ble_eq_true rfl) ?_
      exact hR _ _ _ _ dX9_person_32 rfl (Option.some.inj h0)
set_option maxRecDepth 100000 in
set_option maxHeartbeats 4000000 in
theorem kX9_light (g : GT) (w : Wd) (a1 : Int32) (a2 : Int32) (out : Int32 × Wd) (h0 : fX9_light w a1 a2 = some out) : CtI g yX9_light cX9_light 4 (some .int) 2 42 [.ref (g.1 0), .int a1, .int a2] w (fun r w1 => (r, w1) = out) := by
  refine CtI_of .int (by decide) (Nat.le_of_ble_eq_true rfl) (fun Z hg F hR => ?_)
  subst hg
  have F : Fx Z RX9 cX9_light 4 2 42 := F
  refine V_sub (ls' := [(0, .ref ((zg Z).1 0)), (1, .int a1), (2, .int a2)]) [0, 1, 2] rfl ?_
  unfold fX9_light at h0
  have J55 : ∀ (w6 : Wd), fX9_light_j55 a1 a2 w6 = some out → V Z 55 [(0, .ref ((zg Z).1 0)), (1, .int a1), (2, .int a2)] [] w6 := by
    intro w6 h0
    unfold fX9_light_j55 at h0
    refine r_aload_n (pc := 55) F dX9_light_55 rfl ?_
    refine r_getf (pc := 56) F dX9_light_56 fl_9_10 i68_0 (ce_0 _ _ _) rfl ?_
    refine r_iload_n (pc := 59) F dX9_light_59 rfl ?_
    obtain ⟨r7, er7, h0⟩ := bind_some h0
    refine r_Vi1 (pc := 60) F dX9_light_60 ml_9_126 (kX2_isLit _ 1 co1 w6 a1 r7 er7) i68_1 (ce_1 _ _ _) (Nat.le_of_ble_eq_true rfl) (Nat.le_of_ble_eq_true rfl) (Nat.le_of_ble_eq_true rfl) ?_
    obtain ⟨v8, hv8, h0⟩ := lt_some h0
    have hv8 := hv8.symm
    suffices Jv8 : V Z 71 [(0, .ref ((zg Z).1 0)), (1, .int a1), (2, .int a2)] [.int v8] w6 by
      refine r_if_eq (pc := 63) (tgt := 70) F dX9_light_63 rfl hv8 (fun hv8 => ?_) (fun hv8 => ?_)
      · refine r_iconst (pc := 70) F dX9_light_70 ic_0 ?_
        exact V_nm hv8.symm Jv8
      · refine r_iconst (pc := 66) F dX9_light_66 ic_1 ?_
        refine r_goto (pc := 67) (tgt := 71) F dX9_light_67 rfl ?_
        exact V_nm hv8.symm Jv8
    refine r_istore_n (pc := 71) (ls' := [(0, .ref ((zg Z).1 0)), (1, .int a1), (2, .int a2), (3, .int v8)]) F dX9_light_71 (Nat.le_of_ble_eq_true rfl) rfl ?_
    refine r_aload_n (pc := 72) F dX9_light_72 rfl ?_
    refine r_getf (pc := 73) F dX9_light_73 fl_9_10 i68_0 (ce_0 _ _ _) rfl ?_
    refine r_iload_n (pc := 76) F dX9_light_76 rfl ?_
    refine r_iload_n (pc := 77) F dX9_light_77 rfl ?_
    refine r_iconst (pc := 78) F dX9_light_78 ic_1 ?_
    obtain ⟨v9, hv9, h0⟩ := lt_some h0
    have hv9 := hv9.symm
    suffices Jv9 : V Z 87 [(0, .ref ((zg Z).1 0)), (1, .int a1), (2, .int a2), (3, .int v8)] [.int v9, .int a1, .ref ((zg Z).1 1)] w6 by
      refine r_icmp_ne (pc := 79) (tgt := 86) F dX9_light_79 rfl hv9 (fun hv9 => ?_) (fun hv9 => ?_)
      · refine r_iconst (pc := 82) F dX9_light_82 ic_1 ?_
        refine r_goto (pc := 83) (tgt := 87) F dX9_light_83 rfl ?_
        exact V_nm hv9.symm Jv9
      · refine r_iconst (pc := 86) F dX9_light_86 ic_0 ?_
        exact V_nm hv9.symm Jv9
    obtain ⟨w10, ew10, h0⟩ := lt_some h0
    refine r_Vv2 (pc := 87) F dX9_light_87 ml_9_129 (kX2_putLit _ 1 co1 w6 a1 v9 w10 ew10.symm) i68_1 (ce_1 _ _ _) (Nat.le_of_ble_eq_true rfl) (Nat.le_of_ble_eq_true rfl) (Nat.le_of_ble_eq_true rfl) ?_
    refine r_aload_n (pc := 90) F dX9_light_90 rfl ?_
    refine r_getf (pc := 91) F dX9_light_91 fl_9_29 i68_0 (ce_0 _ _ _) rfl ?_
    obtain ⟨w12, ew12, h0⟩ := lt_some h0
    refine r_Vv0 (pc := 94) F dX9_light_94 ml_9_104 (kX5_forget _ w10 w12 ew12.symm) i68_5 (ce_5 _ _ _) (Nat.le_of_ble_eq_true rfl) (Nat.le_of_ble_eq_true rfl) (Nat.le_of_ble_eq_true rfl) ?_
    refine r_iload_n (pc := 97) F dX9_light_97 rfl ?_
    exact hR _ _ _ _ dX9_light_98 rfl (Option.some.inj h0)
  refine r_aload_n (pc := 0) F dX9_light_0 rfl ?_
  refine r_getf (pc := 1) F dX9_light_1 fl_9_10 i68_0 (ce_0 _ _ _) rfl ?_
  refine r_iload_n (pc := 4) F dX9_light_4 rfl ?_
  refine r_Vi1 (pc := 5) F dX9_light_5 ml_9_111 (kX2_hasOne _ 1 co1 w a1 _ rfl) i68_1 (ce_1 _ _ _) (Nat.le_of_ble_eq_true rfl) (Nat.le_of_ble_eq_true rfl) (Nat.le_of_ble_eq_true rfl) ?_
  refine r_if_ne (pc := 8) (tgt := 17) F dX9_light_8 rfl h0 (fun h0 => ?_) (fun h0 => ?_)
  · refine r_aload_n (pc := 11) F dX9_light_11 rfl ?_
    refine r_iconst (pc := 12) F dX9_light_12 ic_m1 ?_
    obtain ⟨q3, er2, h0⟩ := bind_some h0
    replace h0 := un2_eq h0
    obtain ⟨r2, w1, rfl, h0⟩ := h0
    refine r_Vj1 (pc := 13) F dX9_light_13 ml_9_85 (kX9_refuse _ w (-1) (r2, w1) er2) i68_0 (ce_0 _ _ _) (Nat.le_of_ble_eq_true rfl) (Nat.le_of_ble_eq_true rfl) (Nat.le_of_ble_eq_true rfl) ?_
    exact hR _ _ _ _ dX9_light_16 rfl (Option.some.inj h0)
  · refine r_iload_n (pc := 17) F dX9_light_17 rfl ?_
    refine r_iconst (pc := 18) F dX9_light_18 ic_1 ?_
    refine r_Si2 (pc := 19) F dX9_light_19 ml_9_115 (kX9_isOutside _ w a2 1 _ rfl) (Nat.le_of_ble_eq_true rfl) (Nat.le_of_ble_eq_true rfl) (Nat.le_of_ble_eq_true rfl) ?_
    refine r_if_eq (pc := 22) (tgt := 32) F dX9_light_22 rfl h0 (fun h0 => ?_) (fun h0 => ?_)
    · refine r_iload_n (pc := 32) F dX9_light_32 rfl ?_
      refine r_iconst (pc := 33) F dX9_light_33 ic_1 ?_
      refine r_icmp_ne (pc := 34) (tgt := 55) F dX9_light_34 rfl h0 (fun h0 => ?_) (fun h0 => ?_)
      · refine r_aload_n (pc := 37) F dX9_light_37 rfl ?_
        refine r_getf (pc := 38) F dX9_light_38 fl_9_10 i68_0 (ce_0 _ _ _) rfl ?_
        refine r_iload_n (pc := 41) F dX9_light_41 rfl ?_
        obtain ⟨r5, er5, h0⟩ := bind_some h0
        refine r_Vi1 (pc := 42) F dX9_light_42 ml_9_123 (kX2_isSmall _ 1 co1 w a1 r5 er5) i68_1 (ce_1 _ _ _) (Nat.le_of_ble_eq_true rfl) (Nat.le_of_ble_eq_true rfl) (Nat.le_of_ble_eq_true rfl) ?_
        refine r_if_eq (pc := 45) (tgt := 55) F dX9_light_45 rfl h0 (fun h0 => ?_) (fun h0 => ?_)
        · exact J55 w h0
        · refine r_aload_n (pc := 48) F dX9_light_48 rfl ?_
          refine r_bipush (pc := 49) F dX9_light_49 bp_m3 ?_
          obtain ⟨q16, er15, h0⟩ := bind_some h0
          replace h0 := un2_eq h0
          obtain ⟨r15, w14, rfl, h0⟩ := h0
          refine r_Vj1 (pc := 51) F dX9_light_51 ml_9_85 (kX9_refuse _ w (-3) (r15, w14) er15) i68_0 (ce_0 _ _ _) (Nat.le_of_ble_eq_true rfl) (Nat.le_of_ble_eq_true rfl) (Nat.le_of_ble_eq_true rfl) ?_
          exact hR _ _ _ _ dX9_light_54 rfl (Option.some.inj h0)
      · exact J55 w h0
    · refine r_aload_n (pc := 25) F dX9_light_25 rfl ?_
      refine r_bipush (pc := 26) F dX9_light_26 bp_m2 ?_
      obtain ⟨q22, er21, h0⟩ := bind_some h0
      replace h0 := un2_eq h0
      obtain ⟨r21, w20, rfl, h0⟩ := h0
      refine r_Vj1 (pc := 28) F dX9_light_28 ml_9_85 (kX9_refuse _ w (-2) (r21, w20) er21) i68_0 (ce_0 _ _ _) (Nat.le_of_ble_eq_true rfl) (Nat.le_of_ble_eq_true rfl) (Nat.le_of_ble_eq_true rfl) ?_
      exact hR _ _ _ _ dX9_light_31 rfl (Option.some.inj h0)
set_option maxRecDepth 100000 in
set_option maxHeartbeats 4000000 in
theorem kX2_become (g : GT) (b : Nat) (hb : isCo b) (w : Wd) (a1 : Int32) (a2 : Int32) (out : Wd) (h0 : fX2_become b w a1 a2 = some out) : CtV g yX2_become cX2_become 3 none 1 22 [.ref (g.1 b), .int a1, .int a2] w (fun w1 => w1 = out) := by
  refine CtV_of (by decide) (Nat.le_of_ble_eq_true rfl) (fun Z hg F hR => ?_)
  subst hg
  have F : Fx Z RX2 cX2_become 3 1 22 := F
  refine V_sub (ls' := [(0, .ref ((zg Z).1 b)), (1, .int a1), (2, .int a2)]) [0, 1, 2] rfl ?_
  unfold fX2_become at h0
  refine r_aload_n (pc := 0) F dX2_become_0 rfl ?_
  refine r_getf (pc := 1) F dX2_become_1 fl_2_18 (lt_Co hb) (ce_Co hb _ _ _) rfl ?_
  refine r_iload_n (pc := 4) F dX2_become_4 rfl ?_
  refine r_iload_n (pc := 5) F dX2_become_5 rfl ?_
  obtain ⟨g2, h0⟩ := gd_some h0
  obtain ⟨w1, ew1, h0⟩ := lt_some h0
  refine r_iast (pc := 6) F dX2_become_6 (lt_Co9 hb) (ca_Co9 hb _) g2 rfl ew1 ?_
  refine r_iload_n (pc := 7) F dX2_become_7 rfl ?_
  refine r_bipush (pc := 8) F dX2_become_8 bp_6 ?_
  refine r_icmp_ne (pc := 10) (tgt := 19) F dX2_become_10 rfl h0 (fun h0 => ?_) (fun h0 => ?_)
  · refine r_aload_n (pc := 13) F dX2_become_13 rfl ?_
    refine r_iload_n (pc := 14) F dX2_become_14 rfl ?_
    refine r_iconst (pc := 15) F dX2_become_15 ic_0 ?_
    obtain ⟨w4, ew4, h0⟩ := lt_some h0
    refine r_Vv2 (pc := 16) F dX2_become_16 ml_2_52 (kX2_putLit _ b hb w1 a1 0 w4 ew4.symm) (lt_Co hb) (ce_Co hb _ _ _) (Nat.le_of_ble_eq_true rfl) (Nat.le_of_ble_eq_true rfl) (Nat.le_of_ble_eq_true rfl) ?_
    exact hR _ _ _ dX2_become_19 (Option.some.inj h0)
  · exact hR _ _ _ dX2_become_19 (Option.some.inj h0)
set_option maxRecDepth 100000 in
set_option maxHeartbeats 4000000 in
theorem kX9_kind (g : GT) (w : Wd) (a1 : Int32) (a2 : Int32) (a3 : Int32) (out : Int32 × Wd) (h0 : fX9_kind w a1 a2 a3 = some out) : CtI g yX9_kind cX9_kind 5 (some .int) 2 44 [.ref (g.1 0), .int a1, .int a2, .int a3] w (fun r w1 => (r, w1) = out) := by
  refine CtI_of .int (by decide) (Nat.le_of_ble_eq_true rfl) (fun Z hg F hR => ?_)
  subst hg
  have F : Fx Z RX9 cX9_kind 5 2 44 := F
  refine V_sub (ls' := [(0, .ref ((zg Z).1 0)), (1, .int a1), (2, .int a2), (3, .int a3)]) [0, 1, 2, 3] rfl ?_
  unfold fX9_kind at h0
  refine r_aload_n (pc := 0) F dX9_kind_0 rfl ?_
  refine r_getf (pc := 1) F dX9_kind_1 fl_9_10 i68_0 (ce_0 _ _ _) rfl ?_
  refine r_iload_n (pc := 4) F dX9_kind_4 rfl ?_
  refine r_Vi1 (pc := 5) F dX9_kind_5 ml_9_111 (kX2_hasOne _ 1 co1 w a1 _ rfl) i68_1 (ce_1 _ _ _) (Nat.le_of_ble_eq_true rfl) (Nat.le_of_ble_eq_true rfl) (Nat.le_of_ble_eq_true rfl) ?_
  refine r_if_ne (pc := 8) (tgt := 17) F dX9_kind_8 rfl h0 (fun h0 => ?_) (fun h0 => ?_)
  · refine r_aload_n (pc := 11) F dX9_kind_11 rfl ?_
    refine r_iconst (pc := 12) F dX9_kind_12 ic_m1 ?_
    obtain ⟨q3, er2, h0⟩ := bind_some h0
    replace h0 := un2_eq h0
    obtain ⟨r2, w1, rfl, h0⟩ := h0
    refine r_Vj1 (pc := 13) F dX9_kind_13 ml_9_85 (kX9_refuse _ w (-1) (r2, w1) er2) i68_0 (ce_0 _ _ _) (Nat.le_of_ble_eq_true rfl) (Nat.le_of_ble_eq_true rfl) (Nat.le_of_ble_eq_true rfl) ?_
    exact hR _ _ _ _ dX9_kind_16 rfl (Option.some.inj h0)
  · refine r_iload_n (pc := 17) F dX9_kind_17 rfl ?_
    refine r_bipush (pc := 18) F dX9_kind_18 bp_6 ?_
    refine r_Si2 (pc := 20) F dX9_kind_20 ml_9_115 (kX9_isOutside _ w a2 6 _ rfl) (Nat.le_of_ble_eq_true rfl) (Nat.le_of_ble_eq_true rfl) (Nat.le_of_ble_eq_true rfl) ?_
    refine r_if_eq (pc := 23) (tgt := 33) F dX9_kind_23 rfl h0 (fun h0 => ?_) (fun h0 => ?_)
    · refine r_iload_n (pc := 33) F dX9_kind_33 rfl ?_
      refine r_if_ge (pc := 34) (tgt := 44) F dX9_kind_34 rfl h0 (fun h0 => ?_) (fun h0 => ?_)
      · refine r_iload_n (pc := 44) F dX9_kind_44 rfl ?_
        refine r_bipush (pc := 45) F dX9_kind_45 bp_9 ?_
        refine r_icmp_le (pc := 47) (tgt := 57) F dX9_kind_47 rfl h0 (fun h0 => ?_) (fun h0 => ?_)
        · refine r_bipush (pc := 57) F dX9_kind_57 bp_10 ?_
          refine r_aload_n (pc := 59) F dX9_kind_59 rfl ?_
          refine r_getf (pc := 60) F dX9_kind_60 fl_9_10 i68_0 (ce_0 _ _ _) rfl ?_
          refine r_getf (pc := 63) F dX9_kind_63 fl_9_133 i68_1 (ce_1 _ _ _) rfl ?_
          refine r_iload_n (pc := 66) F dX9_kind_66 rfl ?_
          obtain ⟨g5, h0⟩ := gd_some h0
          refine r_iald (pc := 67) F dX9_kind_67 i68_13 (ca_13 _) g5 rfl ?_
          refine r_imul (pc := 68) F dX9_kind_68 ?_
          refine r_aload_n (pc := 69) F dX9_kind_69 rfl ?_
          refine r_getf (pc := 70) F dX9_kind_70 fl_9_10 i68_0 (ce_0 _ _ _) rfl ?_
          refine r_getf (pc := 73) F dX9_kind_73 fl_9_136 i68_1 (ce_1 _ _ _) rfl ?_
          refine r_iload_n (pc := 76) F dX9_kind_76 rfl ?_
          refine r_iald (pc := 77) F dX9_kind_77 i68_14 (ca_14 _) g5 rfl ?_
          refine r_iadd (pc := 78) F dX9_kind_78 ?_
          obtain ⟨v6, ev6, h0⟩ := lt_some h0
          refine V_nm ev6 ?_
          refine r_istore (pc := 79) (ls' := [(0, .ref ((zg Z).1 0)), (1, .int a1), (2, .int a2), (3, .int a3), (4, .int v6)]) F dX9_kind_79 (Nat.le_of_ble_eq_true rfl) rfl ?_
          refine r_aload_n (pc := 81) F dX9_kind_81 rfl ?_
          refine r_getf (pc := 82) F dX9_kind_82 fl_9_10 i68_0 (ce_0 _ _ _) rfl ?_
          refine r_getf (pc := 85) F dX9_kind_85 fl_9_136 i68_1 (ce_1 _ _ _) rfl ?_
          refine r_iload_n (pc := 88) F dX9_kind_88 rfl ?_
          refine r_iload_n (pc := 89) F dX9_kind_89 rfl ?_
          obtain ⟨w7, ew7, h0⟩ := lt_some h0
          refine r_iast (pc := 90) F dX9_kind_90 i68_14 (ca_14 _) g5 rfl ew7 ?_
          refine r_aload_n (pc := 91) F dX9_kind_91 rfl ?_
          refine r_getf (pc := 92) F dX9_kind_92 fl_9_10 i68_0 (ce_0 _ _ _) rfl ?_
          refine r_iload_n (pc := 95) F dX9_kind_95 rfl ?_
          refine r_iload_n (pc := 96) F dX9_kind_96 rfl ?_
          obtain ⟨w9, ew9, h0⟩ := bind_some h0
          refine r_Vv2 (pc := 97) F dX9_kind_97 ml_9_139 (kX2_become _ 1 co1 w7 a1 a2 w9 ew9) i68_1 (ce_1 _ _ _) (Nat.le_of_ble_eq_true rfl) (Nat.le_of_ble_eq_true rfl) (Nat.le_of_ble_eq_true rfl) ?_
          refine r_aload_n (pc := 100) F dX9_kind_100 rfl ?_
          refine r_getf (pc := 101) F dX9_kind_101 fl_9_29 i68_0 (ce_0 _ _ _) rfl ?_
          obtain ⟨w11, ew11, h0⟩ := lt_some h0
          refine r_Vv0 (pc := 104) F dX9_kind_104 ml_9_104 (kX5_forget _ w9 w11 ew11.symm) i68_5 (ce_5 _ _ _) (Nat.le_of_ble_eq_true rfl) (Nat.le_of_ble_eq_true rfl) (Nat.le_of_ble_eq_true rfl) ?_
          refine r_iload (pc := 107) F dX9_kind_107 rfl ?_
          exact hR _ _ _ _ dX9_kind_109 rfl (Option.some.inj h0)
        · refine r_aload_n (pc := 50) F dX9_kind_50 rfl ?_
          refine r_bipush (pc := 51) F dX9_kind_51 bp_m6 ?_
          obtain ⟨q15, er14, h0⟩ := bind_some h0
          replace h0 := un2_eq h0
          obtain ⟨r14, w13, rfl, h0⟩ := h0
          refine r_Vj1 (pc := 53) F dX9_kind_53 ml_9_85 (kX9_refuse _ w (-6) (r14, w13) er14) i68_0 (ce_0 _ _ _) (Nat.le_of_ble_eq_true rfl) (Nat.le_of_ble_eq_true rfl) (Nat.le_of_ble_eq_true rfl) ?_
          exact hR _ _ _ _ dX9_kind_56 rfl (Option.some.inj h0)
      · refine r_aload_n (pc := 37) F dX9_kind_37 rfl ?_
        refine r_bipush (pc := 38) F dX9_kind_38 bp_m4 ?_
        obtain ⟨q20, er19, h0⟩ := bind_some h0
        replace h0 := un2_eq h0
        obtain ⟨r19, w18, rfl, h0⟩ := h0
        refine r_Vj1 (pc := 40) F dX9_kind_40 ml_9_85 (kX9_refuse _ w (-4) (r19, w18) er19) i68_0 (ce_0 _ _ _) (Nat.le_of_ble_eq_true rfl) (Nat.le_of_ble_eq_true rfl) (Nat.le_of_ble_eq_true rfl) ?_
        exact hR _ _ _ _ dX9_kind_43 rfl (Option.some.inj h0)
    · refine r_aload_n (pc := 26) F dX9_kind_26 rfl ?_
      refine r_bipush (pc := 27) F dX9_kind_27 bp_m2 ?_
      obtain ⟨q25, er24, h0⟩ := bind_some h0
      replace h0 := un2_eq h0
      obtain ⟨r24, w23, rfl, h0⟩ := h0
      refine r_Vj1 (pc := 29) F dX9_kind_29 ml_9_85 (kX9_refuse _ w (-2) (r24, w23) er24) i68_0 (ce_0 _ _ _) (Nat.le_of_ble_eq_true rfl) (Nat.le_of_ble_eq_true rfl) (Nat.le_of_ble_eq_true rfl) ?_
      exact hR _ _ _ _ dX9_kind_32 rfl (Option.some.inj h0)
set_option maxRecDepth 100000 in
set_option maxHeartbeats 4000000 in
theorem kX9_wind (g : GT) (w : Wd) (a1 : Int32) (a2 : Int32) (out : Int32 × Wd) (h0 : fX9_wind w a1 a2 = some out) : CtI g yX9_wind cX9_wind 3 (some .int) 1 22 [.ref (g.1 0), .int a1, .int a2] w (fun r w1 => (r, w1) = out) := by
  refine CtI_of .int (by decide) (Nat.le_of_ble_eq_true rfl) (fun Z hg F hR => ?_)
  subst hg
  have F : Fx Z RX9 cX9_wind 3 1 22 := F
  refine V_sub (ls' := [(0, .ref ((zg Z).1 0)), (1, .int a1), (2, .int a2)]) [0, 1, 2] rfl ?_
  unfold fX9_wind at h0
  refine r_iload_n (pc := 0) F dX9_wind_0 rfl ?_
  refine r_bipush (pc := 1) F dX9_wind_1 bp_24 ?_
  refine r_Si2 (pc := 3) F dX9_wind_3 ml_9_115 (kX9_isOutside _ w a1 24 _ rfl) (Nat.le_of_ble_eq_true rfl) (Nat.le_of_ble_eq_true rfl) (Nat.le_of_ble_eq_true rfl) ?_
  refine r_if_eq (pc := 6) (tgt := 15) F dX9_wind_6 rfl h0 (fun h0 => ?_) (fun h0 => ?_)
  · refine r_iload_n (pc := 15) F dX9_wind_15 rfl ?_
    refine r_iconst (pc := 16) F dX9_wind_16 ic_1 ?_
    refine r_Si2 (pc := 17) F dX9_wind_17 ml_9_115 (kX9_isOutside _ w a2 1 _ rfl) (Nat.le_of_ble_eq_true rfl) (Nat.le_of_ble_eq_true rfl) (Nat.le_of_ble_eq_true rfl) ?_
    refine r_if_eq (pc := 20) (tgt := 30) F dX9_wind_20 rfl h0 (fun h0 => ?_) (fun h0 => ?_)
    · refine r_iload_n (pc := 30) F dX9_wind_30 rfl ?_
      refine r_if_ne (pc := 31) (tgt := 46) F dX9_wind_31 rfl h0 (fun h0 => ?_) (fun h0 => ?_)
      · refine r_aload_n (pc := 34) F dX9_wind_34 rfl ?_
        refine r_getf (pc := 35) F dX9_wind_35 fl_9_10 i68_0 (ce_0 _ _ _) rfl ?_
        refine r_getf (pc := 38) F dX9_wind_38 fl_9_143 i68_1 (ce_1 _ _ _) rfl ?_
        refine r_iload_n (pc := 41) F dX9_wind_41 rfl ?_
        obtain ⟨g1, h0⟩ := gd_some h0
        refine r_iald (pc := 42) F dX9_wind_42 i68_15 (ca_15 _) g1 rfl ?_
        refine r_goto (pc := 43) (tgt := 55) F dX9_wind_43 rfl ?_
        exact hR _ _ _ _ dX9_wind_55 rfl (Option.some.inj h0)
      · refine r_aload_n (pc := 46) F dX9_wind_46 rfl ?_
        refine r_getf (pc := 47) F dX9_wind_47 fl_9_10 i68_0 (ce_0 _ _ _) rfl ?_
        refine r_getf (pc := 50) F dX9_wind_50 fl_9_146 i68_1 (ce_1 _ _ _) rfl ?_
        refine r_iload_n (pc := 53) F dX9_wind_53 rfl ?_
        obtain ⟨g2, h0⟩ := gd_some h0
        refine r_iald (pc := 54) F dX9_wind_54 i68_16 (ca_16 _) g2 rfl ?_
        exact hR _ _ _ _ dX9_wind_55 rfl (Option.some.inj h0)
    · refine r_aload_n (pc := 23) F dX9_wind_23 rfl ?_
      refine r_bipush (pc := 24) F dX9_wind_24 bp_m2 ?_
      obtain ⟨q6, er5, h0⟩ := bind_some h0
      replace h0 := un2_eq h0
      obtain ⟨r5, w4, rfl, h0⟩ := h0
      refine r_Vj1 (pc := 26) F dX9_wind_26 ml_9_85 (kX9_refuse _ w (-2) (r5, w4) er5) i68_0 (ce_0 _ _ _) (Nat.le_of_ble_eq_true rfl) (Nat.le_of_ble_eq_true rfl) (Nat.le_of_ble_eq_true rfl) ?_
      exact hR _ _ _ _ dX9_wind_29 rfl (Option.some.inj h0)
  · refine r_aload_n (pc := 9) F dX9_wind_9 rfl ?_
    refine r_iconst (pc := 10) F dX9_wind_10 ic_m1 ?_
    obtain ⟨q11, er10, h0⟩ := bind_some h0
    replace h0 := un2_eq h0
    obtain ⟨r10, w9, rfl, h0⟩ := h0
    refine r_Vj1 (pc := 11) F dX9_wind_11 ml_9_85 (kX9_refuse _ w (-1) (r10, w9) er10) i68_0 (ce_0 _ _ _) (Nat.le_of_ble_eq_true rfl) (Nat.le_of_ble_eq_true rfl) (Nat.le_of_ble_eq_true rfl) ?_
    exact hR _ _ _ _ dX9_wind_14 rfl (Option.some.inj h0)
set_option maxRecDepth 100000 in
set_option maxHeartbeats 4000000 in
theorem kX9_blows (g : GT) (w : Wd) (a1 : Int32) (a2 : Int32) (a3 : Int32) (out : Int32 × Wd) (h0 : fX9_blows w a1 a2 a3 = some out) : CtI g yX9_blows cX9_blows 5 (some .int) 1 22 [.ref (g.1 0), .int a1, .int a2, .int a3] w (fun r w1 => (r, w1) = out) := by
  refine CtI_of .int (by decide) (Nat.le_of_ble_eq_true rfl) (fun Z hg F hR => ?_)
  subst hg
  have F : Fx Z RX9 cX9_blows 5 1 22 := F
  refine V_sub (ls' := [(0, .ref ((zg Z).1 0)), (1, .int a1), (2, .int a2), (3, .int a3)]) [0, 1, 2, 3] rfl ?_
  unfold fX9_blows at h0
  have J23 : ∀ (w1 : Wd), fX9_blows_j23 w1 = some out → V Z 23 [(0, .ref ((zg Z).1 0))] [] w1 := by
    intro w1 h0
    unfold fX9_blows_j23 at h0
    refine r_aload_n (pc := 23) F dX9_blows_23 rfl ?_
    refine r_bipush (pc := 24) F dX9_blows_24 bp_m4 ?_
    obtain ⟨q4, er3, h0⟩ := bind_some h0
    replace h0 := un2_eq h0
    obtain ⟨r3, w2, rfl, h0⟩ := h0
    refine r_Vj1 (pc := 26) F dX9_blows_26 ml_9_85 (kX9_refuse _ w1 (-4) (r3, w2) er3) i68_0 (ce_0 _ _ _) (Nat.le_of_ble_eq_true rfl) (Nat.le_of_ble_eq_true rfl) (Nat.le_of_ble_eq_true rfl) ?_
    exact hR _ _ _ _ dX9_blows_29 rfl (Option.some.inj h0)
  have J41 : ∀ (w6 : Wd), fX9_blows_j41 w6 = some out → V Z 41 [(0, .ref ((zg Z).1 0))] [] w6 := by
    intro w6 h0
    unfold fX9_blows_j41 at h0
    refine r_aload_n (pc := 41) F dX9_blows_41 rfl ?_
    refine r_bipush (pc := 42) F dX9_blows_42 bp_m6 ?_
    obtain ⟨q9, er8, h0⟩ := bind_some h0
    replace h0 := un2_eq h0
    obtain ⟨r8, w7, rfl, h0⟩ := h0
    refine r_Vj1 (pc := 44) F dX9_blows_44 ml_9_85 (kX9_refuse _ w6 (-6) (r8, w7) er8) i68_0 (ce_0 _ _ _) (Nat.le_of_ble_eq_true rfl) (Nat.le_of_ble_eq_true rfl) (Nat.le_of_ble_eq_true rfl) ?_
    exact hR _ _ _ _ dX9_blows_47 rfl (Option.some.inj h0)
  refine r_iload_n (pc := 0) F dX9_blows_0 rfl ?_
  refine r_bipush (pc := 1) F dX9_blows_1 bp_24 ?_
  refine r_Si2 (pc := 3) F dX9_blows_3 ml_9_115 (kX9_isOutside _ w a1 24 _ rfl) (Nat.le_of_ble_eq_true rfl) (Nat.le_of_ble_eq_true rfl) (Nat.le_of_ble_eq_true rfl) ?_
  refine r_if_eq (pc := 6) (tgt := 15) F dX9_blows_6 rfl h0 (fun h0 => ?_) (fun h0 => ?_)
  · refine r_iload_n (pc := 15) F dX9_blows_15 rfl ?_
    refine r_if_lt (pc := 16) (tgt := 23) F dX9_blows_16 rfl h0 (fun h0 => ?_) (fun h0 => ?_)
    · refine V_sub (ls' := [(0, .ref ((zg Z).1 0))]) [0] rfl ?_
      exact J23 w h0
    · refine r_iload_n (pc := 19) F dX9_blows_19 rfl ?_
      refine r_if_ge (pc := 20) (tgt := 30) F dX9_blows_20 rfl h0 (fun h0 => ?_) (fun h0 => ?_)
      · refine r_iload_n (pc := 30) F dX9_blows_30 rfl ?_
        refine r_bipush (pc := 31) F dX9_blows_31 bp_9 ?_
        refine r_icmp_gt (pc := 33) (tgt := 41) F dX9_blows_33 rfl h0 (fun h0 => ?_) (fun h0 => ?_)
        · refine V_sub (ls' := [(0, .ref ((zg Z).1 0))]) [0] rfl ?_
          exact J41 w h0
        · refine r_iload_n (pc := 36) F dX9_blows_36 rfl ?_
          refine r_iconst (pc := 37) F dX9_blows_37 ic_2 ?_
          refine r_icmp_le (pc := 38) (tgt := 48) F dX9_blows_38 rfl h0 (fun h0 => ?_) (fun h0 => ?_)
          · refine r_bipush (pc := 48) F dX9_blows_48 bp_10 ?_
            refine r_aload_n (pc := 50) F dX9_blows_50 rfl ?_
            refine r_getf (pc := 51) F dX9_blows_51 fl_9_10 i68_0 (ce_0 _ _ _) rfl ?_
            refine r_getf (pc := 54) F dX9_blows_54 fl_9_143 i68_1 (ce_1 _ _ _) rfl ?_
            refine r_iload_n (pc := 57) F dX9_blows_57 rfl ?_
            obtain ⟨g11, h0⟩ := gd_some h0
            refine r_iald (pc := 58) F dX9_blows_58 i68_15 (ca_15 _) g11 rfl ?_
            refine r_imul (pc := 59) F dX9_blows_59 ?_
            refine r_aload_n (pc := 60) F dX9_blows_60 rfl ?_
            refine r_getf (pc := 61) F dX9_blows_61 fl_9_10 i68_0 (ce_0 _ _ _) rfl ?_
            refine r_getf (pc := 64) F dX9_blows_64 fl_9_146 i68_1 (ce_1 _ _ _) rfl ?_
            refine r_iload_n (pc := 67) F dX9_blows_67 rfl ?_
            refine r_iald (pc := 68) F dX9_blows_68 i68_16 (ca_16 _) g11 rfl ?_
            refine r_iadd (pc := 69) F dX9_blows_69 ?_
            obtain ⟨v12, ev12, h0⟩ := lt_some h0
            refine V_nm ev12 ?_
            refine r_istore (pc := 70) (ls' := [(0, .ref ((zg Z).1 0)), (1, .int a1), (2, .int a2), (3, .int a3), (4, .int v12)]) F dX9_blows_70 (Nat.le_of_ble_eq_true rfl) rfl ?_
            refine r_aload_n (pc := 72) F dX9_blows_72 rfl ?_
            refine r_getf (pc := 73) F dX9_blows_73 fl_9_10 i68_0 (ce_0 _ _ _) rfl ?_
            refine r_getf (pc := 76) F dX9_blows_76 fl_9_143 i68_1 (ce_1 _ _ _) rfl ?_
            refine r_iload_n (pc := 79) F dX9_blows_79 rfl ?_
            refine r_iload_n (pc := 80) F dX9_blows_80 rfl ?_
            obtain ⟨w13, ew13, h0⟩ := lt_some h0
            refine r_iast (pc := 81) F dX9_blows_81 i68_15 (ca_15 _) g11 rfl ew13 ?_
            refine r_aload_n (pc := 82) F dX9_blows_82 rfl ?_
            refine r_getf (pc := 83) F dX9_blows_83 fl_9_10 i68_0 (ce_0 _ _ _) rfl ?_
            refine r_getf (pc := 86) F dX9_blows_86 fl_9_146 i68_1 (ce_1 _ _ _) rfl ?_
            refine r_iload_n (pc := 89) F dX9_blows_89 rfl ?_
            refine r_iload_n (pc := 90) F dX9_blows_90 rfl ?_
            obtain ⟨w15, ew15, h0⟩ := lt_some h0
            refine r_iast (pc := 91) F dX9_blows_91 i68_16 (ca_16 _) g11 rfl ew15 ?_
            refine r_aload_n (pc := 92) F dX9_blows_92 rfl ?_
            refine r_getf (pc := 93) F dX9_blows_93 fl_9_29 i68_0 (ce_0 _ _ _) rfl ?_
            obtain ⟨w17, ew17, h0⟩ := lt_some h0
            refine r_Vv0 (pc := 96) F dX9_blows_96 ml_9_104 (kX5_forget _ w15 w17 ew17.symm) i68_5 (ce_5 _ _ _) (Nat.le_of_ble_eq_true rfl) (Nat.le_of_ble_eq_true rfl) (Nat.le_of_ble_eq_true rfl) ?_
            refine r_iload (pc := 99) F dX9_blows_99 rfl ?_
            exact hR _ _ _ _ dX9_blows_101 rfl (Option.some.inj h0)
          · refine V_sub (ls' := [(0, .ref ((zg Z).1 0))]) [0] rfl ?_
            exact J41 w h0
      · refine V_sub (ls' := [(0, .ref ((zg Z).1 0))]) [0] rfl ?_
        exact J23 w h0
  · refine r_aload_n (pc := 9) F dX9_blows_9 rfl ?_
    refine r_iconst (pc := 10) F dX9_blows_10 ic_m1 ?_
    obtain ⟨q25, er24, h0⟩ := bind_some h0
    replace h0 := un2_eq h0
    obtain ⟨r24, w23, rfl, h0⟩ := h0
    refine r_Vj1 (pc := 11) F dX9_blows_11 ml_9_85 (kX9_refuse _ w (-1) (r24, w23) er24) i68_0 (ce_0 _ _ _) (Nat.le_of_ble_eq_true rfl) (Nat.le_of_ble_eq_true rfl) (Nat.le_of_ble_eq_true rfl) ?_
    exact hR _ _ _ _ dX9_blows_14 rfl (Option.some.inj h0)
set_option maxRecDepth 100000 in
set_option maxHeartbeats 4000000 in
theorem kX9_leastOf (g : GT) (w : Wd) (a0 : Int32) (out : Int32) (h0 : fX9_leastOf a0 = out) : CtI g yX9_leastOf cX9_leastOf 1 (some .int) 0 0 [.int a0] w (fun r w1 => r = out ∧ w1 = w) := by
  refine CtI_of .int (by decide) (Nat.le_of_ble_eq_true rfl) (fun Z hg F hR => ?_)
  subst hg
  have F : Fx Z RX9 cX9_leastOf 1 0 0 := F
  refine V_sub (ls' := [(0, .int a0)]) [0] rfl ?_
  unfold fX9_leastOf at h0
  refine r_iload_n (pc := 0) F dX9_leastOf_0 rfl ?_
  refine r_if_ne (pc := 1) (tgt := 8) F dX9_leastOf_1 rfl h0 (fun h0 => ?_) (fun h0 => ?_)
  · refine r_iconst (pc := 4) F dX9_leastOf_4 ic_0 ?_
    refine r_goto (pc := 5) (tgt := 9) F dX9_leastOf_5 rfl ?_
    exact hR _ _ _ _ dX9_leastOf_9 rfl ⟨h0, rfl⟩
  · refine r_iconst (pc := 8) F dX9_leastOf_8 ic_1 ?_
    exact hR _ _ _ _ dX9_leastOf_9 rfl ⟨h0, rfl⟩
set_option maxRecDepth 100000 in
set_option maxHeartbeats 4000000 in
theorem kX9_mostOf (g : GT) (w : Wd) (a0 : Int32) (out : Int32) (h0 : fX9_mostOf a0 = out) : CtI g yX9_mostOf cX9_mostOf 1 (some .int) 0 0 [.int a0] w (fun r w1 => r = out ∧ w1 = w) := by
  refine CtI_of .int (by decide) (Nat.le_of_ble_eq_true rfl) (fun Z hg F hR => ?_)
  subst hg
  have F : Fx Z RX9 cX9_mostOf 1 0 0 := F
  refine V_sub (ls' := [(0, .int a0)]) [0] rfl ?_
  unfold fX9_mostOf at h0
  refine r_iload_n (pc := 0) F dX9_mostOf_0 rfl ?_
  refine r_if_ne (pc := 1) (tgt := 6) F dX9_mostOf_1 rfl h0 (fun h0 => ?_) (fun h0 => ?_)
  · refine r_iconst (pc := 4) F dX9_mostOf_4 ic_2 ?_
    exact hR _ _ _ _ dX9_mostOf_5 rfl ⟨h0, rfl⟩
  · refine r_iload_n (pc := 6) F dX9_mostOf_6 rfl ?_
    refine r_iconst (pc := 7) F dX9_mostOf_7 ic_1 ?_
    refine r_icmp_ne (pc := 8) (tgt := 15) F dX9_mostOf_8 rfl h0 (fun h0 => ?_) (fun h0 => ?_)
    · refine r_iconst (pc := 11) F dX9_mostOf_11 ic_2 ?_
      refine r_goto (pc := 12) (tgt := 17) F dX9_mostOf_12 rfl ?_
      exact hR _ _ _ _ dX9_mostOf_17 rfl ⟨h0, rfl⟩
    · refine r_bipush (pc := 15) F dX9_mostOf_15 bp_24 ?_
      exact hR _ _ _ _ dX9_mostOf_17 rfl ⟨h0, rfl⟩
set_option maxRecDepth 100000 in
set_option maxHeartbeats 4000000 in
theorem kX9_change (g : GT) (w : Wd) (a1 : Int32) (a2 : Int32) (out : Int32 × Wd) (h0 : fX9_change w a1 a2 = out) : CtI g yX9_change cX9_change 4 (some .int) 0 0 [.ref (g.1 0), .int a1, .int a2] w (fun r w1 => (r, w1) = out) := by
  refine CtI_of .int (by decide) (Nat.le_of_ble_eq_true rfl) (fun Z hg F hR => ?_)
  subst hg
  have F : Fx Z RX9 cX9_change 4 0 0 := F
  refine V_sub (ls' := [(0, .ref ((zg Z).1 0)), (1, .int a1), (2, .int a2)]) [0, 1, 2] rfl ?_
  unfold fX9_change at h0
  refine r_iload_n (pc := 0) F dX9_change_0 rfl ?_
  refine r_if_ne (pc := 1) (tgt := 23) F dX9_change_1 rfl h0 (fun h0 => ?_) (fun h0 => ?_)
  · refine r_aload_n (pc := 4) F dX9_change_4 rfl ?_
    refine r_getf (pc := 5) F dX9_change_5 fl_9_10 i68_0 (ce_0 _ _ _) rfl ?_
    refine r_getf (pc := 8) F dX9_change_8 fl_9_379 i68_1 (ce_1 _ _ _) rfl ?_
    obtain ⟨v1, ev1, h0⟩ := lt_some h0
    refine V_nm ev1 ?_
    refine r_istore_n (pc := 11) (ls' := [(0, .ref ((zg Z).1 0)), (1, .int a1), (2, .int a2), (3, .int v1)]) F dX9_change_11 (Nat.le_of_ble_eq_true rfl) rfl ?_
    refine r_aload_n (pc := 12) F dX9_change_12 rfl ?_
    refine r_getf (pc := 13) F dX9_change_13 fl_9_10 i68_0 (ce_0 _ _ _) rfl ?_
    refine r_iload_n (pc := 16) F dX9_change_16 rfl ?_
    obtain ⟨w2, ew2, h0⟩ := lt_some h0
    refine r_putI (pc := 17) F dX9_change_17 fl_9_379 fp_2_2 i68_1 (ce_1 _) (Nat.le_of_ble_eq_true rfl) rfl rfl rfl ew2 ?_
    refine r_goto (pc := 20) (tgt := 63) F dX9_change_20 rfl ?_
    refine r_iload_n (pc := 63) F dX9_change_63 rfl ?_
    exact hR _ _ _ _ dX9_change_64 rfl h0
  · refine r_iload_n (pc := 23) F dX9_change_23 rfl ?_
    refine r_iconst (pc := 24) F dX9_change_24 ic_1 ?_
    refine r_icmp_ne (pc := 25) (tgt := 47) F dX9_change_25 rfl h0 (fun h0 => ?_) (fun h0 => ?_)
    · refine r_aload_n (pc := 28) F dX9_change_28 rfl ?_
      refine r_getf (pc := 29) F dX9_change_29 fl_9_10 i68_0 (ce_0 _ _ _) rfl ?_
      refine r_getf (pc := 32) F dX9_change_32 fl_9_382 i68_1 (ce_1 _ _ _) rfl ?_
      obtain ⟨v4, ev4, h0⟩ := lt_some h0
      refine V_nm ev4 ?_
      refine r_istore_n (pc := 35) (ls' := [(0, .ref ((zg Z).1 0)), (1, .int a1), (2, .int a2), (3, .int v4)]) F dX9_change_35 (Nat.le_of_ble_eq_true rfl) rfl ?_
      refine r_aload_n (pc := 36) F dX9_change_36 rfl ?_
      refine r_getf (pc := 37) F dX9_change_37 fl_9_10 i68_0 (ce_0 _ _ _) rfl ?_
      refine r_iload_n (pc := 40) F dX9_change_40 rfl ?_
      obtain ⟨w5, ew5, h0⟩ := lt_some h0
      refine r_putI (pc := 41) F dX9_change_41 fl_9_382 fp_2_3 i68_1 (ce_1 _) (Nat.le_of_ble_eq_true rfl) rfl rfl rfl ew5 ?_
      refine r_goto (pc := 44) (tgt := 63) F dX9_change_44 rfl ?_
      refine r_iload_n (pc := 63) F dX9_change_63 rfl ?_
      exact hR _ _ _ _ dX9_change_64 rfl h0
    · refine r_aload_n (pc := 47) F dX9_change_47 rfl ?_
      refine r_getf (pc := 48) F dX9_change_48 fl_9_10 i68_0 (ce_0 _ _ _) rfl ?_
      refine r_getf (pc := 51) F dX9_change_51 fl_9_265 i68_1 (ce_1 _ _ _) rfl ?_
      obtain ⟨v7, ev7, h0⟩ := lt_some h0
      refine V_nm ev7 ?_
      refine r_istore_n (pc := 54) (ls' := [(0, .ref ((zg Z).1 0)), (1, .int a1), (2, .int a2), (3, .int v7)]) F dX9_change_54 (Nat.le_of_ble_eq_true rfl) rfl ?_
      refine r_aload_n (pc := 55) F dX9_change_55 rfl ?_
      refine r_getf (pc := 56) F dX9_change_56 fl_9_10 i68_0 (ce_0 _ _ _) rfl ?_
      refine r_iload_n (pc := 59) F dX9_change_59 rfl ?_
      obtain ⟨w8, ew8, h0⟩ := lt_some h0
      refine r_putI (pc := 60) F dX9_change_60 fl_9_265 fp_2_4 i68_1 (ce_1 _) (Nat.le_of_ble_eq_true rfl) rfl rfl rfl ew8 ?_
      refine r_iload_n (pc := 63) F dX9_change_63 rfl ?_
      exact hR _ _ _ _ dX9_change_64 rfl h0
set_option maxRecDepth 100000 in
set_option maxHeartbeats 4000000 in
theorem kX9_set (g : GT) (w : Wd) (a1 : Int32) (a2 : Int32) (out : Int32 × Wd) (h0 : fX9_set w a1 a2 = some out) : CtI g yX9_set cX9_set 3 (some .int) 1 23 [.ref (g.1 0), .int a1, .int a2] w (fun r w1 => (r, w1) = out) := by
  refine CtI_of .int (by decide) (Nat.le_of_ble_eq_true rfl) (fun Z hg F hR => ?_)
  subst hg
  have F : Fx Z RX9 cX9_set 3 1 23 := F
  refine V_sub (ls' := [(0, .ref ((zg Z).1 0)), (1, .int a1), (2, .int a2)]) [0, 1, 2] rfl ?_
  unfold fX9_set at h0
  have J68 : ∀ (w1 : Wd), fX9_set_j68 a1 a2 w1 = some out → V Z 68 [(0, .ref ((zg Z).1 0)), (1, .int a1), (2, .int a2)] [] w1 := by
    intro w1 h0
    unfold fX9_set_j68 at h0
    refine r_aload_n (pc := 68) F dX9_set_68 rfl ?_
    refine r_getf (pc := 69) F dX9_set_69 fl_9_29 i68_0 (ce_0 _ _ _) rfl ?_
    obtain ⟨w2, ew2, h0⟩ := lt_some h0
    refine r_Vv0 (pc := 72) F dX9_set_72 ml_9_104 (kX5_forget _ w1 w2 ew2.symm) i68_5 (ce_5 _ _ _) (Nat.le_of_ble_eq_true rfl) (Nat.le_of_ble_eq_true rfl) (Nat.le_of_ble_eq_true rfl) ?_
    refine r_aload_n (pc := 75) F dX9_set_75 rfl ?_
    refine r_iload_n (pc := 76) F dX9_set_76 rfl ?_
    refine r_iload_n (pc := 77) F dX9_set_77 rfl ?_
    replace h0 := un2_eq h0
    obtain ⟨r5, w4, er5, h0⟩ := h0
    refine r_Vj2 (pc := 78) F dX9_set_78 ml_9_158 (kX9_change _ w2 a1 a2 (r5, w4) er5) i68_0 (ce_0 _ _ _) (Nat.le_of_ble_eq_true rfl) (Nat.le_of_ble_eq_true rfl) (Nat.le_of_ble_eq_true rfl) ?_
    exact hR _ _ _ _ dX9_set_81 rfl (Option.some.inj h0)
  refine r_iload_n (pc := 0) F dX9_set_0 rfl ?_
  refine r_iconst (pc := 1) F dX9_set_1 ic_2 ?_
  refine r_Si2 (pc := 2) F dX9_set_2 ml_9_115 (kX9_isOutside _ w a1 2 _ rfl) (Nat.le_of_ble_eq_true rfl) (Nat.le_of_ble_eq_true rfl) (Nat.le_of_ble_eq_true rfl) ?_
  refine r_if_eq (pc := 5) (tgt := 15) F dX9_set_5 rfl h0 (fun h0 => ?_) (fun h0 => ?_)
  · refine r_iload_n (pc := 15) F dX9_set_15 rfl ?_
    refine r_iload_n (pc := 16) F dX9_set_16 rfl ?_
    refine r_Si1 (pc := 17) F dX9_set_17 ml_9_149 (kX9_leastOf _ w a1 _ rfl) (Nat.le_of_ble_eq_true rfl) (Nat.le_of_ble_eq_true rfl) (Nat.le_of_ble_eq_true rfl) ?_
    refine r_icmp_ge (pc := 20) (tgt := 30) F dX9_set_20 rfl h0 (fun h0 => ?_) (fun h0 => ?_)
    · refine r_iload_n (pc := 30) F dX9_set_30 rfl ?_
      refine r_iload_n (pc := 31) F dX9_set_31 rfl ?_
      refine r_Si1 (pc := 32) F dX9_set_32 ml_9_152 (kX9_mostOf _ w a1 _ rfl) (Nat.le_of_ble_eq_true rfl) (Nat.le_of_ble_eq_true rfl) (Nat.le_of_ble_eq_true rfl) ?_
      refine r_icmp_le (pc := 35) (tgt := 45) F dX9_set_35 rfl h0 (fun h0 => ?_) (fun h0 => ?_)
      · refine r_iload_n (pc := 45) F dX9_set_45 rfl ?_
        refine r_iconst (pc := 46) F dX9_set_46 ic_2 ?_
        refine r_icmp_ne (pc := 47) (tgt := 68) F dX9_set_47 rfl h0 (fun h0 => ?_) (fun h0 => ?_)
        · refine r_iload_n (pc := 50) F dX9_set_50 rfl ?_
          refine r_aload_n (pc := 51) F dX9_set_51 rfl ?_
          refine r_getf (pc := 52) F dX9_set_52 fl_9_10 i68_0 (ce_0 _ _ _) rfl ?_
          refine r_getf (pc := 55) F dX9_set_55 fl_9_155 i68_1 (ce_1 _ _ _) rfl ?_
          refine r_icmp_ge (pc := 58) (tgt := 68) F dX9_set_58 rfl h0 (fun h0 => ?_) (fun h0 => ?_)
          · exact J68 w h0
          · refine r_aload_n (pc := 61) F dX9_set_61 rfl ?_
            refine r_bipush (pc := 62) F dX9_set_62 bp_m3 ?_
            obtain ⟨q9, er8, h0⟩ := bind_some h0
            replace h0 := un2_eq h0
            obtain ⟨r8, w7, rfl, h0⟩ := h0
            refine r_Vj1 (pc := 64) F dX9_set_64 ml_9_85 (kX9_refuse _ w (-3) (r8, w7) er8) i68_0 (ce_0 _ _ _) (Nat.le_of_ble_eq_true rfl) (Nat.le_of_ble_eq_true rfl) (Nat.le_of_ble_eq_true rfl) ?_
            exact hR _ _ _ _ dX9_set_67 rfl (Option.some.inj h0)
        · exact J68 w h0
      · refine r_aload_n (pc := 38) F dX9_set_38 rfl ?_
        refine r_bipush (pc := 39) F dX9_set_39 bp_m6 ?_
        obtain ⟨q15, er14, h0⟩ := bind_some h0
        replace h0 := un2_eq h0
        obtain ⟨r14, w13, rfl, h0⟩ := h0
        refine r_Vj1 (pc := 41) F dX9_set_41 ml_9_85 (kX9_refuse _ w (-6) (r14, w13) er14) i68_0 (ce_0 _ _ _) (Nat.le_of_ble_eq_true rfl) (Nat.le_of_ble_eq_true rfl) (Nat.le_of_ble_eq_true rfl) ?_
        exact hR _ _ _ _ dX9_set_44 rfl (Option.some.inj h0)
    · refine r_aload_n (pc := 23) F dX9_set_23 rfl ?_
      refine r_bipush (pc := 24) F dX9_set_24 bp_m4 ?_
      obtain ⟨q20, er19, h0⟩ := bind_some h0
      replace h0 := un2_eq h0
      obtain ⟨r19, w18, rfl, h0⟩ := h0
      refine r_Vj1 (pc := 26) F dX9_set_26 ml_9_85 (kX9_refuse _ w (-4) (r19, w18) er19) i68_0 (ce_0 _ _ _) (Nat.le_of_ble_eq_true rfl) (Nat.le_of_ble_eq_true rfl) (Nat.le_of_ble_eq_true rfl) ?_
      exact hR _ _ _ _ dX9_set_29 rfl (Option.some.inj h0)
  · refine r_aload_n (pc := 8) F dX9_set_8 rfl ?_
    refine r_bipush (pc := 9) F dX9_set_9 bp_m2 ?_
    obtain ⟨q25, er24, h0⟩ := bind_some h0
    replace h0 := un2_eq h0
    obtain ⟨r24, w23, rfl, h0⟩ := h0
    refine r_Vj1 (pc := 11) F dX9_set_11 ml_9_85 (kX9_refuse _ w (-2) (r24, w23) er24) i68_0 (ce_0 _ _ _) (Nat.le_of_ble_eq_true rfl) (Nat.le_of_ble_eq_true rfl) (Nat.le_of_ble_eq_true rfl) ?_
    exact hR _ _ _ _ dX9_set_14 rfl (Option.some.inj h0)
set_option maxRecDepth 100000 in
set_option maxHeartbeats 4000000 in
theorem kX9_beside (g : GT) (w : Wd) (a1 : Int32) (out : Int32 × Wd) (h0 : fX9_beside w a1 = some out) : CtI g yX9_beside cX9_beside 2 (some .int) 2 43 [.ref (g.1 0), .int a1] w (fun r w1 => (r, w1) = out) := by
  refine CtI_of .int (by decide) (Nat.le_of_ble_eq_true rfl) (fun Z hg F hR => ?_)
  subst hg
  have F : Fx Z RX9 cX9_beside 2 2 43 := F
  refine V_sub (ls' := [(0, .ref ((zg Z).1 0)), (1, .int a1)]) [0, 1] rfl ?_
  unfold fX9_beside at h0
  refine r_aload_n (pc := 0) F dX9_beside_0 rfl ?_
  refine r_getf (pc := 1) F dX9_beside_1 fl_9_10 i68_0 (ce_0 _ _ _) rfl ?_
  refine r_iload_n (pc := 4) F dX9_beside_4 rfl ?_
  refine r_Vi1 (pc := 5) F dX9_beside_5 ml_9_111 (kX2_hasOne _ 1 co1 w a1 _ rfl) i68_1 (ce_1 _ _ _) (Nat.le_of_ble_eq_true rfl) (Nat.le_of_ble_eq_true rfl) (Nat.le_of_ble_eq_true rfl) ?_
  refine r_if_eq (pc := 8) (tgt := 22) F dX9_beside_8 rfl h0 (fun h0 => ?_) (fun h0 => ?_)
  · refine r_aload_n (pc := 22) F dX9_beside_22 rfl ?_
    refine r_iconst (pc := 23) F dX9_beside_23 ic_m1 ?_
    obtain ⟨q3, er2, h0⟩ := bind_some h0
    replace h0 := un2_eq h0
    obtain ⟨r2, w1, rfl, h0⟩ := h0
    refine r_Vj1 (pc := 24) F dX9_beside_24 ml_9_85 (kX9_refuse _ w (-1) (r2, w1) er2) i68_0 (ce_0 _ _ _) (Nat.le_of_ble_eq_true rfl) (Nat.le_of_ble_eq_true rfl) (Nat.le_of_ble_eq_true rfl) ?_
    exact hR _ _ _ _ dX9_beside_27 rfl (Option.some.inj h0)
  · refine r_aload_n (pc := 11) F dX9_beside_11 rfl ?_
    refine r_getf (pc := 12) F dX9_beside_12 fl_9_10 i68_0 (ce_0 _ _ _) rfl ?_
    refine r_iload_n (pc := 15) F dX9_beside_15 rfl ?_
    obtain ⟨r5, er5, h0⟩ := bind_some h0
    refine r_Vi1 (pc := 16) F dX9_beside_16 ml_9_161 (kX2_nearOnes _ 1 co1 w a1 r5 er5) i68_1 (ce_1 _ _ _) (Nat.le_of_ble_eq_true rfl) (Nat.le_of_ble_eq_true rfl) (Nat.le_of_ble_eq_true rfl) ?_
    refine r_goto (pc := 19) (tgt := 27) F dX9_beside_19 rfl ?_
    exact hR _ _ _ _ dX9_beside_27 rfl (Option.some.inj h0)
set_option maxRecDepth 100000 in
set_option maxHeartbeats 4000000 in
theorem kX9_covers (g : GT) (w : Wd) (a1 : Int32) (a2 : Int32) (out : Int32 × Wd) (h0 : fX9_covers w a1 a2 = some out) : CtI g yX9_covers cX9_covers 3 (some .int) 1 24 [.ref (g.1 0), .int a1, .int a2] w (fun r w1 => (r, w1) = out) := by
  refine CtI_of .int (by decide) (Nat.le_of_ble_eq_true rfl) (fun Z hg F hR => ?_)
  subst hg
  have F : Fx Z RX9 cX9_covers 3 1 24 := F
  refine V_sub (ls' := [(0, .ref ((zg Z).1 0)), (1, .int a1), (2, .int a2)]) [0, 1, 2] rfl ?_
  unfold fX9_covers at h0
  have J20 : ∀ (w1 : Wd), fX9_covers_j20 w1 = some out → V Z 20 [(0, .ref ((zg Z).1 0))] [] w1 := by
    intro w1 h0
    unfold fX9_covers_j20 at h0
    refine r_aload_n (pc := 20) F dX9_covers_20 rfl ?_
    refine r_iconst (pc := 21) F dX9_covers_21 ic_m1 ?_
    obtain ⟨q4, er3, h0⟩ := bind_some h0
    replace h0 := un2_eq h0
    obtain ⟨r3, w2, rfl, h0⟩ := h0
    refine r_Vj1 (pc := 22) F dX9_covers_22 ml_9_85 (kX9_refuse _ w1 (-1) (r3, w2) er3) i68_0 (ce_0 _ _ _) (Nat.le_of_ble_eq_true rfl) (Nat.le_of_ble_eq_true rfl) (Nat.le_of_ble_eq_true rfl) ?_
    exact hR _ _ _ _ dX9_covers_25 rfl (Option.some.inj h0)
  refine r_aload_n (pc := 0) F dX9_covers_0 rfl ?_
  refine r_getf (pc := 1) F dX9_covers_1 fl_9_10 i68_0 (ce_0 _ _ _) rfl ?_
  refine r_iload_n (pc := 4) F dX9_covers_4 rfl ?_
  refine r_Vi1 (pc := 5) F dX9_covers_5 ml_9_111 (kX2_hasOne _ 1 co1 w a1 _ rfl) i68_1 (ce_1 _ _ _) (Nat.le_of_ble_eq_true rfl) (Nat.le_of_ble_eq_true rfl) (Nat.le_of_ble_eq_true rfl) ?_
  refine r_if_eq (pc := 8) (tgt := 20) F dX9_covers_8 rfl h0 (fun h0 => ?_) (fun h0 => ?_)
  · refine V_sub (ls' := [(0, .ref ((zg Z).1 0))]) [0] rfl ?_
    exact J20 w h0
  · refine r_iload_n (pc := 11) F dX9_covers_11 rfl ?_
    refine r_bipush (pc := 12) F dX9_covers_12 bp_24 ?_
    refine r_Si2 (pc := 14) F dX9_covers_14 ml_9_115 (kX9_isOutside _ w a2 24 _ rfl) (Nat.le_of_ble_eq_true rfl) (Nat.le_of_ble_eq_true rfl) (Nat.le_of_ble_eq_true rfl) ?_
    refine r_if_eq (pc := 17) (tgt := 26) F dX9_covers_17 rfl h0 (fun h0 => ?_) (fun h0 => ?_)
    · refine r_aload_n (pc := 26) F dX9_covers_26 rfl ?_
      refine r_getf (pc := 27) F dX9_covers_27 fl_9_10 i68_0 (ce_0 _ _ _) rfl ?_
      refine r_iload_n (pc := 30) F dX9_covers_30 rfl ?_
      refine r_aload_n (pc := 31) F dX9_covers_31 rfl ?_
      refine r_getf (pc := 32) F dX9_covers_32 fl_9_10 i68_0 (ce_0 _ _ _) rfl ?_
      refine r_getf (pc := 35) F dX9_covers_35 fl_9_146 i68_1 (ce_1 _ _ _) rfl ?_
      refine r_iload_n (pc := 38) F dX9_covers_38 rfl ?_
      obtain ⟨g6, h0⟩ := gd_some h0
      refine r_iald (pc := 39) F dX9_covers_39 i68_16 (ca_16 _) g6 rfl ?_
      obtain ⟨r7, er7, h0⟩ := bind_some h0
      refine r_Vi2 (pc := 40) F dX9_covers_40 ml_9_164 (kX2_coverer _ 1 co1 w a1 (w.1 16 a2.toNatClampNeg) r7 er7) i68_1 (ce_1 _ _ _) (Nat.le_of_ble_eq_true rfl) (Nat.le_of_ble_eq_true rfl) (Nat.le_of_ble_eq_true rfl) ?_
      exact hR _ _ _ _ dX9_covers_43 rfl (Option.some.inj h0)
    · refine V_sub (ls' := [(0, .ref ((zg Z).1 0))]) [0] rfl ?_
      exact J20 w h0
set_option maxRecDepth 100000 in
set_option maxHeartbeats 4000000 in
theorem kX5_dropOldest (g : GT) (w : Wd) (out : Wd) (h0 : fX5_dropOldest w = some out) : CtV g yX5_dropOldest cX5_dropOldest 2 none 0 0 [.ref (g.1 5)] w (fun w1 => w1 = out) := by
  refine CtV_of (by decide) (Nat.le_of_ble_eq_true rfl) (fun Z hg F hR => ?_)
  subst hg
  have F : Fx Z RX5 cX5_dropOldest 2 0 0 := F
  refine V_sub (ls' := [(0, .ref ((zg Z).1 5))]) [0] rfl ?_
  unfold fX5_dropOldest at h0
  refine r_iconst (pc := 0) F dX5_dropOldest_0 ic_1 ?_
  refine r_istore_n (pc := 1) (ls' := [(0, .ref ((zg Z).1 5)), (1, .int 1)]) F dX5_dropOldest_1 (Nat.le_of_ble_eq_true rfl) rfl ?_
  obtain ⟨w15, iw15, h0⟩ := bind_some h0
  suffices E2 : V Z 58 [(0, .ref ((zg Z).1 5))] [] w15 by
    refine iter_rule (P := fun s : Int32 × Wd => V Z 2 [(0, .ref ((zg Z).1 5)), (1, .int (s.1))] [] s.2) (x := w15) ?_ FU (1, w) iw15
    intro s y1 h1 hP1 hX1
    obtain ⟨l1, w2⟩ := s
    have h1 : fX5_dropOldest_b2 l1 w2 = some y1 := h1
    unfold fX5_dropOldest_b2 at h1
    refine r_iload_n (pc := 2) F dX5_dropOldest_2 rfl ?_
    refine r_aload_n (pc := 3) F dX5_dropOldest_3 rfl ?_
    refine r_getf (pc := 4) F dX5_dropOldest_4 fl_5_19 i68_5 (ce_5 _ _ _) rfl ?_
    refine r_icmp_ge (pc := 7) (tgt := 58) F dX5_dropOldest_7 rfl h1 (fun h1 => ?_) (fun h1 => ?_)
    · refine V_sub (ls' := [(0, .ref ((zg Z).1 5))]) [0] rfl ?_
      have e3 := hX1 _ (Option.some.inj h1).symm
      cases e3
      exact E2
    · refine r_aload_n (pc := 10) F dX5_dropOldest_10 rfl ?_
      refine r_getf (pc := 11) F dX5_dropOldest_11 fl_5_9 i68_5 (ce_5 _ _ _) rfl ?_
      refine r_iload_n (pc := 14) F dX5_dropOldest_14 rfl ?_
      refine r_iconst (pc := 15) F dX5_dropOldest_15 ic_1 ?_
      refine r_isub (pc := 16) F dX5_dropOldest_16 ?_
      refine r_aload_n (pc := 17) F dX5_dropOldest_17 rfl ?_
      refine r_getf (pc := 18) F dX5_dropOldest_18 fl_5_9 i68_5 (ce_5 _ _ _) rfl ?_
      refine r_iload_n (pc := 21) F dX5_dropOldest_21 rfl ?_
      obtain ⟨g4, h1⟩ := gd_some h1
      refine r_iald (pc := 22) F dX5_dropOldest_22 i68_30 (ca_30 _) g4 rfl ?_
      obtain ⟨g6, h1⟩ := gd_some h1
      obtain ⟨w5, ew5, h1⟩ := lt_some h1
      refine r_iast (pc := 23) F dX5_dropOldest_23 i68_30 (ca_30 _) g6 rfl ew5 ?_
      refine r_aload_n (pc := 24) F dX5_dropOldest_24 rfl ?_
      refine r_getf (pc := 25) F dX5_dropOldest_25 fl_5_13 i68_5 (ce_5 _ _ _) rfl ?_
      refine r_iload_n (pc := 28) F dX5_dropOldest_28 rfl ?_
      refine r_iconst (pc := 29) F dX5_dropOldest_29 ic_1 ?_
      refine r_isub (pc := 30) F dX5_dropOldest_30 ?_
      refine r_aload_n (pc := 31) F dX5_dropOldest_31 rfl ?_
      refine r_getf (pc := 32) F dX5_dropOldest_32 fl_5_13 i68_5 (ce_5 _ _ _) rfl ?_
      refine r_iload_n (pc := 35) F dX5_dropOldest_35 rfl ?_
      refine r_iald (pc := 36) F dX5_dropOldest_36 i68_31 (ca_31 _) g4 rfl ?_
      obtain ⟨w8, ew8, h1⟩ := lt_some h1
      refine r_iast (pc := 37) F dX5_dropOldest_37 i68_31 (ca_31 _) g6 rfl ew8 ?_
      refine r_aload_n (pc := 38) F dX5_dropOldest_38 rfl ?_
      refine r_getf (pc := 39) F dX5_dropOldest_39 fl_5_16 i68_5 (ce_5 _ _ _) rfl ?_
      refine r_iload_n (pc := 42) F dX5_dropOldest_42 rfl ?_
      refine r_iconst (pc := 43) F dX5_dropOldest_43 ic_1 ?_
      refine r_isub (pc := 44) F dX5_dropOldest_44 ?_
      refine r_aload_n (pc := 45) F dX5_dropOldest_45 rfl ?_
      refine r_getf (pc := 46) F dX5_dropOldest_46 fl_5_16 i68_5 (ce_5 _ _ _) rfl ?_
      refine r_iload_n (pc := 49) F dX5_dropOldest_49 rfl ?_
      refine r_iald (pc := 50) F dX5_dropOldest_50 i68_32 (ca_32 _) g4 rfl ?_
      obtain ⟨w10, ew10, h1⟩ := lt_some h1
      refine r_iast (pc := 51) F dX5_dropOldest_51 i68_32 (ca_32 _) g6 rfl ew10 ?_
      obtain ⟨v12, ev12, h1⟩ := lt_some h1
      refine r_iinc (pc := 52) (ls' := [(0, .ref ((zg Z).1 5)), (1, .int v12)]) F dX5_dropOldest_52 rfl (by rw [ev12]; rfl) (Nat.le_of_ble_eq_true rfl) rfl ?_
      refine r_goto (pc := 55) (tgt := 2) F dX5_dropOldest_55 rfl ?_
      exact hP1 (v12, w10) (Option.some.inj h1).symm
  refine r_aload_n (pc := 58) F dX5_dropOldest_58 rfl ?_
  refine r_dup (pc := 59) F dX5_dropOldest_59 rfl ?_
  refine r_getf (pc := 60) F dX5_dropOldest_60 fl_5_19 i68_5 (ce_5 _ _ _) rfl ?_
  refine r_iconst (pc := 63) F dX5_dropOldest_63 ic_1 ?_
  refine r_isub (pc := 64) F dX5_dropOldest_64 ?_
  obtain ⟨w17, ew17, h0⟩ := lt_some h0
  refine r_putI (pc := 65) F dX5_dropOldest_65 fl_5_19 fp_5_0 i68_5 (ce_5 _) (Nat.le_of_ble_eq_true rfl) rfl rfl rfl ew17 ?_
  exact hR _ _ _ dX5_dropOldest_68 (Option.some.inj h0)
set_option maxRecDepth 100000 in
set_option maxHeartbeats 4000000 in
theorem kX5_keep (g : GT) (b1 : Nat) (hb1 : isCo b1) (w : Wd) (out : Wd) (h0 : fX5_keep b1 w = some out) : CtV g yX5_keep cX5_keep 2 none 1 21 [.ref (g.1 5), .ref (g.1 b1)] w (fun w1 => w1 = out) := by
  refine CtV_of (by decide) (Nat.le_of_ble_eq_true rfl) (fun Z hg F hR => ?_)
  subst hg
  have F : Fx Z RX5 cX5_keep 2 1 21 := F
  refine V_sub (ls' := [(0, .ref ((zg Z).1 5)), (1, .ref ((zg Z).1 b1))]) [0, 1] rfl ?_
  unfold fX5_keep at h0
  have J13 : ∀ (w3 : Wd), fX5_keep_j13 b1 w3 = some out → V Z 13 [(0, .ref ((zg Z).1 5)), (1, .ref ((zg Z).1 b1))] [] w3 := by
    intro w3 h0
    unfold fX5_keep_j13 at h0
    refine r_aload_n (pc := 13) F dX5_keep_13 rfl ?_
    refine r_getf (pc := 14) F dX5_keep_14 fl_5_9 i68_5 (ce_5 _ _ _) rfl ?_
    refine r_aload_n (pc := 17) F dX5_keep_17 rfl ?_
    refine r_getf (pc := 18) F dX5_keep_18 fl_5_19 i68_5 (ce_5 _ _ _) rfl ?_
    refine r_aload_n (pc := 21) F dX5_keep_21 rfl ?_
    refine r_getf (pc := 22) F dX5_keep_22 fl_5_26 (lt_Co hb1) (ce_Co hb1 _ _ _) rfl ?_
    obtain ⟨g5, h0⟩ := gd_some h0
    obtain ⟨w4, ew4, h0⟩ := lt_some h0
    refine r_iast (pc := 25) F dX5_keep_25 i68_30 (ca_30 _) g5 rfl ew4 ?_
    refine r_aload_n (pc := 26) F dX5_keep_26 rfl ?_
    refine r_getf (pc := 27) F dX5_keep_27 fl_5_13 i68_5 (ce_5 _ _ _) rfl ?_
    refine r_aload_n (pc := 30) F dX5_keep_30 rfl ?_
    refine r_getf (pc := 31) F dX5_keep_31 fl_5_19 i68_5 (ce_5 _ _ _) rfl ?_
    refine r_aload_n (pc := 34) F dX5_keep_34 rfl ?_
    refine r_getf (pc := 35) F dX5_keep_35 fl_5_31 (lt_Co hb1) (ce_Co hb1 _ _ _) rfl ?_
    obtain ⟨g8, h0⟩ := gd_some h0
    obtain ⟨w7, ew7, h0⟩ := lt_some h0
    refine r_iast (pc := 38) F dX5_keep_38 i68_31 (ca_31 _) g8 rfl ew7 ?_
    refine r_aload_n (pc := 39) F dX5_keep_39 rfl ?_
    refine r_getf (pc := 40) F dX5_keep_40 fl_5_16 i68_5 (ce_5 _ _ _) rfl ?_
    refine r_aload_n (pc := 43) F dX5_keep_43 rfl ?_
    refine r_getf (pc := 44) F dX5_keep_44 fl_5_19 i68_5 (ce_5 _ _ _) rfl ?_
    refine r_aload_n (pc := 47) F dX5_keep_47 rfl ?_
    refine r_getf (pc := 48) F dX5_keep_48 fl_5_34 (lt_Co hb1) (ce_Co hb1 _ _ _) rfl ?_
    obtain ⟨g11, h0⟩ := gd_some h0
    obtain ⟨w10, ew10, h0⟩ := lt_some h0
    refine r_iast (pc := 51) F dX5_keep_51 i68_32 (ca_32 _) g11 rfl ew10 ?_
    refine r_aload_n (pc := 52) F dX5_keep_52 rfl ?_
    refine r_dup (pc := 53) F dX5_keep_53 rfl ?_
    refine r_getf (pc := 54) F dX5_keep_54 fl_5_19 i68_5 (ce_5 _ _ _) rfl ?_
    refine r_iconst (pc := 57) F dX5_keep_57 ic_1 ?_
    refine r_iadd (pc := 58) F dX5_keep_58 ?_
    obtain ⟨w13, ew13, h0⟩ := lt_some h0
    refine r_putI (pc := 59) F dX5_keep_59 fl_5_19 fp_5_0 i68_5 (ce_5 _) (Nat.le_of_ble_eq_true rfl) rfl rfl rfl ew13 ?_
    exact hR _ _ _ dX5_keep_62 (Option.some.inj h0)
  refine r_aload_n (pc := 0) F dX5_keep_0 rfl ?_
  refine r_getf (pc := 1) F dX5_keep_1 fl_5_19 i68_5 (ce_5 _ _ _) rfl ?_
  refine r_bipush (pc := 4) F dX5_keep_4 bp_8 ?_
  refine r_icmp_ne (pc := 6) (tgt := 13) F dX5_keep_6 rfl h0 (fun h0 => ?_) (fun h0 => ?_)
  · refine r_aload_n (pc := 9) F dX5_keep_9 rfl ?_
    obtain ⟨w1, ew1, h0⟩ := bind_some h0
    refine r_Vv0 (pc := 10) F dX5_keep_10 ml_5_23 (kX5_dropOldest _ w w1 ew1) i68_5 (ce_5 _ _ _) (Nat.le_of_ble_eq_true rfl) (Nat.le_of_ble_eq_true rfl) (Nat.le_of_ble_eq_true rfl) ?_
    exact J13 w1 h0
  · exact J13 w h0
set_option maxRecDepth 100000 in
set_option maxHeartbeats 4000000 in
theorem kX9_go (g : GT) (w : Wd) (a1 : Int32) (out : Int32 × Wd) (h0 : fX9_go w a1 = some out) : CtI g yX9_go cX9_go 2 (some .int) 4 93 [.ref (g.1 0), .int a1] w (fun r w1 => (r, w1) = out) := by
  refine CtI_of .int (by decide) (Nat.le_of_ble_eq_true rfl) (fun Z hg F hR => ?_)
  subst hg
  have F : Fx Z RX9 cX9_go 2 4 93 := F
  refine V_sub (ls' := [(0, .ref ((zg Z).1 0)), (1, .int a1)]) [0, 1] rfl ?_
  unfold fX9_go at h0
  refine r_iload_n (pc := 0) F dX9_go_0 rfl ?_
  refine r_iconst (pc := 1) F dX9_go_1 ic_1 ?_
  refine r_Si2 (pc := 2) F dX9_go_2 ml_9_115 (kX9_isOutside _ w a1 1 _ rfl) (Nat.le_of_ble_eq_true rfl) (Nat.le_of_ble_eq_true rfl) (Nat.le_of_ble_eq_true rfl) ?_
  refine r_if_eq (pc := 5) (tgt := 15) F dX9_go_5 rfl h0 (fun h0 => ?_) (fun h0 => ?_)
  · refine r_aload_n (pc := 15) F dX9_go_15 rfl ?_
    refine r_getf (pc := 16) F dX9_go_16 fl_9_10 i68_0 (ce_0 _ _ _) rfl ?_
    refine r_Vi0 (pc := 19) F dX9_go_19 ml_9_167 (kX2_isAtDoor _ 1 co1 w _ rfl) i68_1 (ce_1 _ _ _) (Nat.le_of_ble_eq_true rfl) (Nat.le_of_ble_eq_true rfl) (Nat.le_of_ble_eq_true rfl) ?_
    refine r_if_eq (pc := 22) (tgt := 32) F dX9_go_22 rfl h0 (fun h0 => ?_) (fun h0 => ?_)
    · refine r_aload_n (pc := 32) F dX9_go_32 rfl ?_
      refine r_getf (pc := 33) F dX9_go_33 fl_9_10 i68_0 (ce_0 _ _ _) rfl ?_
      refine r_getf (pc := 36) F dX9_go_36 fl_9_170 i68_1 (ce_1 _ _ _) rfl ?_
      refine r_sipush (pc := 39) F dX9_go_39 sp_999 ?_
      refine r_icmp_lt (pc := 42) (tgt := 52) F dX9_go_42 rfl h0 (fun h0 => ?_) (fun h0 => ?_)
      · refine r_aload_n (pc := 52) F dX9_go_52 rfl ?_
        refine r_getf (pc := 53) F dX9_go_53 fl_9_29 i68_0 (ce_0 _ _ _) rfl ?_
        refine r_aload_n (pc := 56) F dX9_go_56 rfl ?_
        refine r_getf (pc := 57) F dX9_go_57 fl_9_10 i68_0 (ce_0 _ _ _) rfl ?_
        obtain ⟨w1, ew1, h0⟩ := bind_some h0
        refine r_Vv1 (pc := 60) F dX9_go_60 ml_9_173 (kX5_keep _ 1 co1 w w1 ew1) i68_5 (ce_5 _ _ _) (Nat.le_of_ble_eq_true rfl) (Nat.le_of_ble_eq_true rfl) (Nat.le_of_ble_eq_true rfl) ?_
        refine r_aload_n (pc := 63) F dX9_go_63 rfl ?_
        refine r_getf (pc := 64) F dX9_go_64 fl_9_22 i68_0 (ce_0 _ _ _) rfl ?_
        refine r_aload_n (pc := 67) F dX9_go_67 rfl ?_
        refine r_getf (pc := 68) F dX9_go_68 fl_9_10 i68_0 (ce_0 _ _ _) rfl ?_
        refine r_iload_n (pc := 71) F dX9_go_71 rfl ?_
        refine r_iconst (pc := 72) F dX9_go_72 ic_1 ?_
        obtain ⟨v3, hv3, h0⟩ := lt_some h0
        have hv3 := hv3.symm
        suffices Jv3 : V Z 81 [(0, .ref ((zg Z).1 0)), (1, .int a1)] [.int v3, .ref ((zg Z).1 1), .ref ((zg Z).1 4)] w1 by
          refine r_icmp_ne (pc := 73) (tgt := 80) F dX9_go_73 rfl hv3 (fun hv3 => ?_) (fun hv3 => ?_)
          · refine r_iconst (pc := 76) F dX9_go_76 ic_1 ?_
            refine r_goto (pc := 77) (tgt := 81) F dX9_go_77 rfl ?_
            exact V_nm hv3.symm Jv3
          · refine r_iconst (pc := 80) F dX9_go_80 ic_0 ?_
            exact V_nm hv3.symm Jv3
        obtain ⟨w4, ew4, h0⟩ := bind_some h0
        refine r_Vv2 (pc := 81) F dX9_go_81 ml_9_177 (kX8_passMinute _ 1 co1 w1 v3 w4 ew4) i68_4 (ce_4 _ _ _) (Nat.le_of_ble_eq_true rfl) (Nat.le_of_ble_eq_true rfl) (Nat.le_of_ble_eq_true rfl) ?_
        refine r_aload_n (pc := 84) F dX9_go_84 rfl ?_
        refine r_getf (pc := 85) F dX9_go_85 fl_9_10 i68_0 (ce_0 _ _ _) rfl ?_
        refine r_getf (pc := 88) F dX9_go_88 fl_9_181 i68_1 (ce_1 _ _ _) rfl ?_
        refine r_Si1 (pc := 91) F dX9_go_91 ml_9_184 (kJ6_bitCount_0f7a4 _ w4 (w4.1 1 1) _ rfl) (Nat.le_of_ble_eq_true rfl) (Nat.le_of_ble_eq_true rfl) (Nat.le_of_ble_eq_true rfl) ?_
        exact hR _ _ _ _ dX9_go_94 rfl (Option.some.inj h0)
      · refine r_aload_n (pc := 45) F dX9_go_45 rfl ?_
        refine r_bipush (pc := 46) F dX9_go_46 bp_m6 ?_
        obtain ⟨q8, er7, h0⟩ := bind_some h0
        replace h0 := un2_eq h0
        obtain ⟨r7, w6, rfl, h0⟩ := h0
        refine r_Vj1 (pc := 48) F dX9_go_48 ml_9_85 (kX9_refuse _ w (-6) (r7, w6) er7) i68_0 (ce_0 _ _ _) (Nat.le_of_ble_eq_true rfl) (Nat.le_of_ble_eq_true rfl) (Nat.le_of_ble_eq_true rfl) ?_
        exact hR _ _ _ _ dX9_go_51 rfl (Option.some.inj h0)
    · refine r_aload_n (pc := 25) F dX9_go_25 rfl ?_
      refine r_bipush (pc := 26) F dX9_go_26 bp_m3 ?_
      obtain ⟨q13, er12, h0⟩ := bind_some h0
      replace h0 := un2_eq h0
      obtain ⟨r12, w11, rfl, h0⟩ := h0
      refine r_Vj1 (pc := 28) F dX9_go_28 ml_9_85 (kX9_refuse _ w (-3) (r12, w11) er12) i68_0 (ce_0 _ _ _) (Nat.le_of_ble_eq_true rfl) (Nat.le_of_ble_eq_true rfl) (Nat.le_of_ble_eq_true rfl) ?_
      exact hR _ _ _ _ dX9_go_31 rfl (Option.some.inj h0)
  · refine r_aload_n (pc := 8) F dX9_go_8 rfl ?_
    refine r_bipush (pc := 9) F dX9_go_9 bp_m2 ?_
    obtain ⟨q18, er17, h0⟩ := bind_some h0
    replace h0 := un2_eq h0
    obtain ⟨r17, w16, rfl, h0⟩ := h0
    refine r_Vj1 (pc := 11) F dX9_go_11 ml_9_85 (kX9_refuse _ w (-2) (r17, w16) er17) i68_0 (ce_0 _ _ _) (Nat.le_of_ble_eq_true rfl) (Nat.le_of_ble_eq_true rfl) (Nat.le_of_ble_eq_true rfl) ?_
    exact hR _ _ _ _ dX9_go_14 rfl (Option.some.inj h0)
set_option maxRecDepth 100000 in
set_option maxHeartbeats 4000000 in
theorem kX9_lit (g : GT) (w : Wd) (out : Int32) (h0 : fX9_lit w = out) : CtI g yX9_lit cX9_lit 1 (some .int) 0 0 [.ref (g.1 0)] w (fun r w1 => r = out ∧ w1 = w) := by
  refine CtI_of .int (by decide) (Nat.le_of_ble_eq_true rfl) (fun Z hg F hR => ?_)
  subst hg
  have F : Fx Z RX9 cX9_lit 1 0 0 := F
  refine V_sub (ls' := [(0, .ref ((zg Z).1 0))]) [0] rfl ?_
  unfold fX9_lit at h0
  refine r_aload_n (pc := 0) F dX9_lit_0 rfl ?_
  refine r_getf (pc := 1) F dX9_lit_1 fl_9_10 i68_0 (ce_0 _ _ _) rfl ?_
  refine r_getf (pc := 4) F dX9_lit_4 fl_9_181 i68_1 (ce_1 _ _ _) rfl ?_
  exact hR _ _ _ _ dX9_lit_7 rfl ⟨h0, rfl⟩
set_option maxRecDepth 100000 in
set_option maxHeartbeats 4000000 in
theorem kX8_walkOn (g : GT) (w : Wd) (a1 : Int32) (out : Wd) (h0 : fX8_walkOn w a1 = some out) : CtV g yX8_walkOn cX8_walkOn 3 none 3 68 [.ref (g.1 4), .int a1] w (fun w1 => w1 = out) := by
  refine CtV_of (by decide) (Nat.le_of_ble_eq_true rfl) (fun Z hg F hR => ?_)
  subst hg
  have F : Fx Z RX8 cX8_walkOn 3 3 68 := F
  refine V_sub (ls' := [(0, .ref ((zg Z).1 4)), (1, .int a1)]) [0, 1] rfl ?_
  unfold fX8_walkOn at h0
  refine r_aload_n (pc := 0) F dX8_walkOn_0 rfl ?_
  refine r_getf (pc := 1) F dX8_walkOn_1 fl_8_15 i68_4 (ce_4 _ _ _) rfl ?_
  refine r_iconst (pc := 4) F dX8_walkOn_4 ic_0 ?_
  refine r_iload_n (pc := 5) F dX8_walkOn_5 rfl ?_
  obtain ⟨w1, ew1, h0⟩ := lt_some h0
  refine r_iast (pc := 6) (j := 0) F dX8_walkOn_6 i68_26 (ca_26 _) rfl rfl ew1 ?_
  refine r_iconst (pc := 7) F dX8_walkOn_7 ic_0 ?_
  refine r_istore_n (pc := 8) (ls' := [(0, .ref ((zg Z).1 4)), (1, .int a1), (2, .int 0)]) F dX8_walkOn_8 (Nat.le_of_ble_eq_true rfl) rfl ?_
  refine V_sub (ls' := [(0, .ref ((zg Z).1 4)), (2, .int 0)]) [0, 2] rfl ?_
  obtain ⟨w17, iw17, h0⟩ := bind_some h0
  suffices E9 : V Z 47 [] [] w17 by
    refine iter_rule (P := fun s : Int32 × Wd => V Z 9 [(0, .ref ((zg Z).1 4)), (2, .int (s.1))] [] s.2) (x := w17) ?_ FU (0, w1) iw17
    intro s y1 h1 hP1 hX1
    obtain ⟨l3, w4⟩ := s
    have h1 : fX8_walkOn_b9 l3 w4 = some y1 := h1
    unfold fX8_walkOn_b9 at h1
    refine r_iload_n (pc := 9) F dX8_walkOn_9 rfl ?_
    refine r_aload_n (pc := 10) F dX8_walkOn_10 rfl ?_
    refine r_getf (pc := 11) F dX8_walkOn_11 fl_8_60 i68_4 (ce_4 _ _ _) rfl ?_
    refine r_icmp_ge (pc := 14) (tgt := 47) F dX8_walkOn_14 rfl h1 (fun h1 => ?_) (fun h1 => ?_)
    · refine V_sub (ls' := []) [] rfl ?_
      have e5 := hX1 _ (Option.some.inj h1).symm
      cases e5
      exact E9
    · refine r_aload_n (pc := 17) F dX8_walkOn_17 rfl ?_
      refine r_getf (pc := 18) F dX8_walkOn_18 fl_8_15 i68_4 (ce_4 _ _ _) rfl ?_
      refine r_iload_n (pc := 21) F dX8_walkOn_21 rfl ?_
      refine r_iconst (pc := 22) F dX8_walkOn_22 ic_1 ?_
      refine r_iadd (pc := 23) F dX8_walkOn_23 ?_
      refine r_aload_n (pc := 24) F dX8_walkOn_24 rfl ?_
      refine r_aload_n (pc := 25) F dX8_walkOn_25 rfl ?_
      refine r_getf (pc := 26) F dX8_walkOn_26 fl_8_48 i68_4 (ce_4 _ _ _) rfl ?_
      refine r_iload_n (pc := 29) F dX8_walkOn_29 rfl ?_
      refine r_iadd (pc := 30) F dX8_walkOn_30 ?_
      refine r_aload_n (pc := 31) F dX8_walkOn_31 rfl ?_
      refine r_getf (pc := 32) F dX8_walkOn_32 fl_8_15 i68_4 (ce_4 _ _ _) rfl ?_
      refine r_iload_n (pc := 35) F dX8_walkOn_35 rfl ?_
      obtain ⟨g6, h1⟩ := gd_some h1
      refine r_iald (pc := 36) F dX8_walkOn_36 i68_26 (ca_26 _) g6 rfl ?_
      obtain ⟨q9, er8, h1⟩ := bind_some h1
      replace h1 := un2_eq h1
      obtain ⟨r8, w7, rfl, h1⟩ := h1
      refine r_Vj2 (pc := 37) F dX8_walkOn_37 ml_8_100 (kX8_minuteAt _ w4 ((w4.1 4 3) + l3) (w4.1 26 l3.toNatClampNeg) (r8, w7) er8) i68_4 (ce_4 _ _ _) (Nat.le_of_ble_eq_true rfl) (Nat.le_of_ble_eq_true rfl) (Nat.le_of_ble_eq_true rfl) ?_
      obtain ⟨g12, h1⟩ := gd_some h1
      obtain ⟨w11, ew11, h1⟩ := lt_some h1
      refine r_iast (pc := 40) F dX8_walkOn_40 i68_26 (ca_26 _) g12 rfl ew11 ?_
      obtain ⟨v14, ev14, h1⟩ := lt_some h1
      refine r_iinc (pc := 41) (ls' := [(0, .ref ((zg Z).1 4)), (2, .int v14)]) F dX8_walkOn_41 rfl (by rw [ev14]; rfl) (Nat.le_of_ble_eq_true rfl) rfl ?_
      refine r_goto (pc := 44) (tgt := 9) F dX8_walkOn_44 rfl ?_
      exact hP1 (v14, w11) (Option.some.inj h1).symm
  exact hR _ _ _ dX8_walkOn_47 (Option.some.inj h0)
set_option maxRecDepth 100000 in
set_option maxHeartbeats 4000000 in
theorem kX4_walkFromNow (g : GT) (w : Wd) (out : Wd) (h0 : fX4_walkFromNow w = some out) : CtV g yX4_walkFromNow cX4_walkFromNow 1 none 4 90 [.ref (g.1 8)] w (fun w1 => w1 = out) := by
  refine CtV_of (by decide) (Nat.le_of_ble_eq_true rfl) (fun Z hg F hR => ?_)
  subst hg
  have F : Fx Z RX4 cX4_walkFromNow 1 4 90 := F
  refine V_sub (ls' := [(0, .ref ((zg Z).1 8))]) [0] rfl ?_
  unfold fX4_walkFromNow at h0
  refine r_aload_n (pc := 0) F dX4_walkFromNow_0 rfl ?_
  refine r_getf (pc := 1) F dX4_walkFromNow_1 fl_4_15 i68_8 (ce_8 _ _ _) rfl ?_
  refine r_aload_n (pc := 4) F dX4_walkFromNow_4 rfl ?_
  refine r_getf (pc := 5) F dX4_walkFromNow_5 fl_4_9 i68_8 (ce_8 _ _ _) rfl ?_
  obtain ⟨w1, ew1, h0⟩ := bind_some h0
  refine r_Vv1 (pc := 8) F dX4_walkFromNow_8 ml_4_48 (kX8_setOut _ 1 co1 w w1 ew1) i68_4 (ce_4 _ _ _) (Nat.le_of_ble_eq_true rfl) (Nat.le_of_ble_eq_true rfl) (Nat.le_of_ble_eq_true rfl) ?_
  refine r_aload_n (pc := 11) F dX4_walkFromNow_11 rfl ?_
  refine r_getf (pc := 12) F dX4_walkFromNow_12 fl_4_15 i68_8 (ce_8 _ _ _) rfl ?_
  refine r_aload_n (pc := 15) F dX4_walkFromNow_15 rfl ?_
  refine r_getf (pc := 16) F dX4_walkFromNow_16 fl_4_9 i68_8 (ce_8 _ _ _) rfl ?_
  refine r_getf (pc := 19) F dX4_walkFromNow_19 fl_4_52 i68_1 (ce_1 _ _ _) rfl ?_
  obtain ⟨w3, ew3, h0⟩ := bind_some h0
  refine r_Vv1 (pc := 22) F dX4_walkFromNow_22 ml_4_121 (kX8_walkOn _ w1 (w1.1 1 1) w3 ew3) i68_4 (ce_4 _ _ _) (Nat.le_of_ble_eq_true rfl) (Nat.le_of_ble_eq_true rfl) (Nat.le_of_ble_eq_true rfl) ?_
  exact hR _ _ _ dX4_walkFromNow_25 (Option.some.inj h0)
set_option maxRecDepth 100000 in
set_option maxHeartbeats 4000000 in
theorem kX4_litBehind (g : GT) (w : Wd) (a1 : Int32) (out : Int32 × Wd) (h0 : fX4_litBehind w a1 = some out) : CtI g yX4_litBehind cX4_litBehind 2 (some .int) 5 110 [.ref (g.1 8), .int a1] w (fun r w1 => (r, w1) = out) := by
  refine CtI_of .int (by decide) (Nat.le_of_ble_eq_true rfl) (fun Z hg F hR => ?_)
  subst hg
  have F : Fx Z RX4 cX4_litBehind 2 5 110 := F
  refine V_sub (ls' := [(0, .ref ((zg Z).1 8)), (1, .int a1)]) [0, 1] rfl ?_
  unfold fX4_litBehind at h0
  refine r_aload_n (pc := 0) F dX4_litBehind_0 rfl ?_
  obtain ⟨w1, ew1, h0⟩ := bind_some h0
  refine r_Vv0 (pc := 1) F dX4_litBehind_1 ml_4_23 (kX4_walkFromNow _ w w1 ew1) i68_8 (ce_8 _ _ _) (Nat.le_of_ble_eq_true rfl) (Nat.le_of_ble_eq_true rfl) (Nat.le_of_ble_eq_true rfl) ?_
  refine r_aload_n (pc := 4) F dX4_litBehind_4 rfl ?_
  refine r_getf (pc := 5) F dX4_litBehind_5 fl_4_15 i68_8 (ce_8 _ _ _) rfl ?_
  refine r_getf (pc := 8) F dX4_litBehind_8 fl_4_26 i68_4 (ce_4 _ _ _) rfl ?_
  refine r_iload_n (pc := 11) F dX4_litBehind_11 rfl ?_
  refine r_aload_n (pc := 12) F dX4_litBehind_12 rfl ?_
  refine r_getf (pc := 13) F dX4_litBehind_13 fl_4_15 i68_8 (ce_8 _ _ _) rfl ?_
  refine r_getf (pc := 16) F dX4_litBehind_16 fl_4_31 i68_4 (ce_4 _ _ _) rfl ?_
  refine r_min (pc := 19) F dX4_litBehind_19 mk_4_35 ms_min mi_Math mc_min (Nat.le_of_ble_eq_true rfl) (Nat.le_of_ble_eq_true rfl) ?_
  obtain ⟨g3, h0⟩ := gd_some h0
  refine r_iald (pc := 22) F dX4_litBehind_22 i68_26 (ca_26 _) g3 rfl ?_
  exact hR _ _ _ _ dX4_litBehind_23 rfl (Option.some.inj h0)
set_option maxRecDepth 100000 in
set_option maxHeartbeats 4000000 in
theorem kX9_then (g : GT) (w : Wd) (a1 : Int32) (out : Int32 × Wd) (h0 : fX9_then w a1 = some out) : CtI g yX9_then cX9_then 2 (some .int) 6 131 [.ref (g.1 0), .int a1] w (fun r w1 => (r, w1) = out) := by
  refine CtI_of .int (by decide) (Nat.le_of_ble_eq_true rfl) (fun Z hg F hR => ?_)
  subst hg
  have F : Fx Z RX9 cX9_then 2 6 131 := F
  refine V_sub (ls' := [(0, .ref ((zg Z).1 0)), (1, .int a1)]) [0, 1] rfl ?_
  unfold fX9_then at h0
  refine r_iload_n (pc := 0) F dX9_then_0 rfl ?_
  refine r_if_ge (pc := 1) (tgt := 11) F dX9_then_1 rfl h0 (fun h0 => ?_) (fun h0 => ?_)
  · refine r_iload_n (pc := 11) F dX9_then_11 rfl ?_
    refine r_bipush (pc := 12) F dX9_then_12 bp_24 ?_
    refine r_icmp_le (pc := 14) (tgt := 24) F dX9_then_14 rfl h0 (fun h0 => ?_) (fun h0 => ?_)
    · refine r_aload_n (pc := 24) F dX9_then_24 rfl ?_
      refine r_getf (pc := 25) F dX9_then_25 fl_9_52 i68_0 (ce_0 _ _ _) rfl ?_
      refine r_iload_n (pc := 28) F dX9_then_28 rfl ?_
      obtain ⟨q3, er2, h0⟩ := bind_some h0
      replace h0 := un2_eq h0
      obtain ⟨r2, w1, rfl, h0⟩ := h0
      refine r_Vj1 (pc := 29) F dX9_then_29 ml_9_189 (kX4_litBehind _ w a1 (r2, w1) er2) i68_8 (ce_8 _ _ _) (Nat.le_of_ble_eq_true rfl) (Nat.le_of_ble_eq_true rfl) (Nat.le_of_ble_eq_true rfl) ?_
      exact hR _ _ _ _ dX9_then_32 rfl (Option.some.inj h0)
    · refine r_aload_n (pc := 17) F dX9_then_17 rfl ?_
      refine r_bipush (pc := 18) F dX9_then_18 bp_m6 ?_
      obtain ⟨q7, er6, h0⟩ := bind_some h0
      replace h0 := un2_eq h0
      obtain ⟨r6, w5, rfl, h0⟩ := h0
      refine r_Vj1 (pc := 20) F dX9_then_20 ml_9_85 (kX9_refuse _ w (-6) (r6, w5) er6) i68_0 (ce_0 _ _ _) (Nat.le_of_ble_eq_true rfl) (Nat.le_of_ble_eq_true rfl) (Nat.le_of_ble_eq_true rfl) ?_
      exact hR _ _ _ _ dX9_then_23 rfl (Option.some.inj h0)
  · refine r_aload_n (pc := 4) F dX9_then_4 rfl ?_
    refine r_bipush (pc := 5) F dX9_then_5 bp_m4 ?_
    obtain ⟨q12, er11, h0⟩ := bind_some h0
    replace h0 := un2_eq h0
    obtain ⟨r11, w10, rfl, h0⟩ := h0
    refine r_Vj1 (pc := 7) F dX9_then_7 ml_9_85 (kX9_refuse _ w (-4) (r11, w10) er11) i68_0 (ce_0 _ _ _) (Nat.le_of_ble_eq_true rfl) (Nat.le_of_ble_eq_true rfl) (Nat.le_of_ble_eq_true rfl) ?_
    exact hR _ _ _ _ dX9_then_10 rfl (Option.some.inj h0)
set_option maxRecDepth 100000 in
set_option maxHeartbeats 4000000 in
theorem kX2_lightOf (g : GT) (b : Nat) (hb : isCo b) (w : Wd) (a1 : Int32) (out : Int32) (h0 : fX2_lightOf b w a1 = some out) : CtI g yX2_lightOf cX2_lightOf 4 (some .int) 1 21 [.ref (g.1 b), .int a1] w (fun r w1 => r = out ∧ w1 = w) := by
  refine CtI_of .int (by decide) (Nat.le_of_ble_eq_true rfl) (fun Z hg F hR => ?_)
  subst hg
  have F : Fx Z RX2 cX2_lightOf 4 1 21 := F
  refine V_sub (ls' := [(0, .ref ((zg Z).1 b)), (1, .int a1)]) [0, 1] rfl ?_
  unfold fX2_lightOf at h0
  refine r_iconst (pc := 0) F dX2_lightOf_0 ic_0 ?_
  refine r_istore_n (pc := 1) (ls' := [(0, .ref ((zg Z).1 b)), (1, .int a1), (2, .int 0)]) F dX2_lightOf_1 (Nat.le_of_ble_eq_true rfl) rfl ?_
  refine r_iconst (pc := 2) F dX2_lightOf_2 ic_0 ?_
  refine r_istore_n (pc := 3) (ls' := [(0, .ref ((zg Z).1 b)), (1, .int a1), (2, .int 0), (3, .int 0)]) F dX2_lightOf_3 (Nat.le_of_ble_eq_true rfl) rfl ?_
  obtain ⟨l12, il12, h0⟩ := bind_some h0
  suffices E4 : V Z 39 [(2, .int l12)] [] w by
    refine iter_rule (P := fun s : Int32 × Int32 => V Z 4 [(0, .ref ((zg Z).1 b)), (1, .int a1), (2, .int (s.1)), (3, .int (s.2))] [] w) (x := l12) ?_ FU (0, 0) il12
    intro s y1 h1 hP1 hX1
    obtain ⟨l1, l2⟩ := s
    have h1 : fX2_lightOf_b4 w b a1 l1 l2 = some y1 := h1
    unfold fX2_lightOf_b4 at h1
    refine r_iload_n (pc := 4) F dX2_lightOf_4 rfl ?_
    refine r_aload_n (pc := 5) F dX2_lightOf_5 rfl ?_
    refine r_getf (pc := 6) F dX2_lightOf_6 fl_2_31 (lt_Co hb) (ce_Co hb _ _ _) rfl ?_
    refine r_icmp_ge (pc := 9) (tgt := 39) F dX2_lightOf_9 rfl h1 (fun h1 => ?_) (fun h1 => ?_)
    · refine V_sub (ls' := [(2, .int l1)]) [2] rfl ?_
      have e3 := hX1 _ (Option.some.inj h1).symm
      cases e3
      exact E4
    · refine r_iload_n (pc := 12) F dX2_lightOf_12 rfl ?_
      refine r_iload_n (pc := 13) F dX2_lightOf_13 rfl ?_
      refine r_Ni2 (pc := 14) F dX2_lightOf_14 ml_2_56 (kX9_hasBit _ w a1 l2 _ rfl) (Nat.le_of_ble_eq_true rfl) (Nat.le_of_ble_eq_true rfl) (Nat.le_of_ble_eq_true rfl) ?_
      refine r_if_eq (pc := 17) (tgt := 33) F dX2_lightOf_17 rfl h1 (fun h1 => ?_) (fun h1 => ?_)
      · obtain ⟨v4, ev4, h1⟩ := lt_some h1
        refine r_iinc (pc := 33) (ls' := [(0, .ref ((zg Z).1 b)), (1, .int a1), (2, .int l1), (3, .int v4)]) F dX2_lightOf_33 rfl (by rw [ev4]; rfl) (Nat.le_of_ble_eq_true rfl) rfl ?_
        refine r_goto (pc := 36) (tgt := 4) F dX2_lightOf_36 rfl ?_
        exact hP1 (l1, v4) (Option.some.inj h1).symm
      · refine r_iload_n (pc := 20) F dX2_lightOf_20 rfl ?_
        refine r_ggiv (pc := 21) F dX2_lightOf_21 ?_
        refine r_aload_n (pc := 24) F dX2_lightOf_24 rfl ?_
        refine r_getf (pc := 25) F dX2_lightOf_25 fl_2_18 (lt_Co hb) (ce_Co hb _ _ _) rfl ?_
        refine r_iload_n (pc := 28) F dX2_lightOf_28 rfl ?_
        obtain ⟨g5, h1⟩ := gd_some h1
        refine r_iald (pc := 29) F dX2_lightOf_29 (lt_Co9 hb) (ca_Co9 hb _) g5 rfl ?_
        obtain ⟨g6, h1⟩ := gd_some h1
        refine r_sgiv (pc := 30) F dX2_lightOf_30 g6 ?_
        refine r_iadd (pc := 31) F dX2_lightOf_31 ?_
        obtain ⟨v7, ev7, h1⟩ := lt_some h1
        refine V_nm ev7 ?_
        refine r_istore_n (pc := 32) (ls' := [(0, .ref ((zg Z).1 b)), (1, .int a1), (2, .int v7), (3, .int l2)]) F dX2_lightOf_32 (Nat.le_of_ble_eq_true rfl) rfl ?_
        obtain ⟨v8, ev8, h1⟩ := lt_some h1
        refine r_iinc (pc := 33) (ls' := [(0, .ref ((zg Z).1 b)), (1, .int a1), (2, .int v7), (3, .int v8)]) F dX2_lightOf_33 rfl (by rw [ev8]; rfl) (Nat.le_of_ble_eq_true rfl) rfl ?_
        refine r_goto (pc := 36) (tgt := 4) F dX2_lightOf_36 rfl ?_
        exact hP1 (v7, v8) (Option.some.inj h1).symm
  refine r_iload_n (pc := 39) F dX2_lightOf_39 rfl ?_
  exact hR _ _ _ _ dX2_lightOf_40 rfl ⟨(Option.some.inj h0), rfl⟩
set_option maxRecDepth 100000 in
set_option maxHeartbeats 4000000 in
theorem kX9_door (g : GT) (w : Wd) (a1 : Int32) (out : Int32 × Wd) (h0 : fX9_door w a1 = some out) : CtI g yX9_door cX9_door 3 (some .int) 6 131 [.ref (g.1 0), .int a1] w (fun r w1 => (r, w1) = out) := by
  refine CtI_of .int (by decide) (Nat.le_of_ble_eq_true rfl) (fun Z hg F hR => ?_)
  subst hg
  have F : Fx Z RX9 cX9_door 3 6 131 := F
  refine V_sub (ls' := [(0, .ref ((zg Z).1 0)), (1, .int a1)]) [0, 1] rfl ?_
  unfold fX9_door at h0
  refine r_iload_n (pc := 0) F dX9_door_0 rfl ?_
  refine r_iconst (pc := 1) F dX9_door_1 ic_2 ?_
  refine r_Si2 (pc := 2) F dX9_door_2 ml_9_115 (kX9_isOutside _ w a1 2 _ rfl) (Nat.le_of_ble_eq_true rfl) (Nat.le_of_ble_eq_true rfl) (Nat.le_of_ble_eq_true rfl) ?_
  refine r_if_eq (pc := 5) (tgt := 15) F dX9_door_5 rfl h0 (fun h0 => ?_) (fun h0 => ?_)
  · refine r_aload_n (pc := 15) F dX9_door_15 rfl ?_
    refine r_getf (pc := 16) F dX9_door_16 fl_9_52 i68_0 (ce_0 _ _ _) rfl ?_
    refine r_bipush (pc := 19) F dX9_door_19 bp_24 ?_
    obtain ⟨q3, er2, h0⟩ := bind_some h0
    replace h0 := un2_eq h0
    obtain ⟨r2, w1, rfl, h0⟩ := h0
    refine r_Vj1 (pc := 21) F dX9_door_21 ml_9_189 (kX4_litBehind _ w 24 (r2, w1) er2) i68_8 (ce_8 _ _ _) (Nat.le_of_ble_eq_true rfl) (Nat.le_of_ble_eq_true rfl) (Nat.le_of_ble_eq_true rfl) ?_
    refine r_istore_n (pc := 24) (ls' := [(0, .ref ((zg Z).1 0)), (1, .int a1), (2, .int r2)]) F dX9_door_24 (Nat.le_of_ble_eq_true rfl) rfl ?_
    refine r_iload_n (pc := 25) F dX9_door_25 rfl ?_
    refine r_if_ne (pc := 26) (tgt := 31) F dX9_door_26 rfl h0 (fun h0 => ?_) (fun h0 => ?_)
    · refine r_iload_n (pc := 29) F dX9_door_29 rfl ?_
      exact hR _ _ _ _ dX9_door_30 rfl (Option.some.inj h0)
    · refine r_iload_n (pc := 31) F dX9_door_31 rfl ?_
      refine r_iconst (pc := 32) F dX9_door_32 ic_1 ?_
      refine r_icmp_ne (pc := 33) (tgt := 43) F dX9_door_33 rfl h0 (fun h0 => ?_) (fun h0 => ?_)
      · refine r_iload_n (pc := 36) F dX9_door_36 rfl ?_
        refine r_Si1 (pc := 37) F dX9_door_37 ml_9_184 (kJ6_bitCount_0f7a4 _ w1 r2 _ rfl) (Nat.le_of_ble_eq_true rfl) (Nat.le_of_ble_eq_true rfl) (Nat.le_of_ble_eq_true rfl) ?_
        refine r_goto (pc := 40) (tgt := 51) F dX9_door_40 rfl ?_
        exact hR _ _ _ _ dX9_door_51 rfl (Option.some.inj h0)
      · refine r_aload_n (pc := 43) F dX9_door_43 rfl ?_
        refine r_getf (pc := 44) F dX9_door_44 fl_9_10 i68_0 (ce_0 _ _ _) rfl ?_
        refine r_iload_n (pc := 47) F dX9_door_47 rfl ?_
        obtain ⟨r5, er5, h0⟩ := bind_some h0
        refine r_Vi1 (pc := 48) F dX9_door_48 ml_9_192 (kX2_lightOf _ 1 co1 w1 r2 r5 er5) i68_1 (ce_1 _ _ _) (Nat.le_of_ble_eq_true rfl) (Nat.le_of_ble_eq_true rfl) (Nat.le_of_ble_eq_true rfl) ?_
        exact hR _ _ _ _ dX9_door_51 rfl (Option.some.inj h0)
  · refine r_aload_n (pc := 8) F dX9_door_8 rfl ?_
    refine r_bipush (pc := 9) F dX9_door_9 bp_m2 ?_
    obtain ⟨q10, er9, h0⟩ := bind_some h0
    replace h0 := un2_eq h0
    obtain ⟨r9, w8, rfl, h0⟩ := h0
    refine r_Vj1 (pc := 11) F dX9_door_11 ml_9_85 (kX9_refuse _ w (-2) (r9, w8) er9) i68_0 (ce_0 _ _ _) (Nat.le_of_ble_eq_true rfl) (Nat.le_of_ble_eq_true rfl) (Nat.le_of_ble_eq_true rfl) ?_
    exact hR _ _ _ _ dX9_door_14 rfl (Option.some.inj h0)

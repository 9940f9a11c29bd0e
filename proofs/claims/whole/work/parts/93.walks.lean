/-! contracts: the code computes the functions (by program) -/
set_option maxRecDepth 100000 in
set_option maxHeartbeats 4000000 in
theorem kX4_agrees (g : GT) (w : Wd) (a1 : Int32) (out : Int32 × Wd) (h0 : fX4_agrees w a1 = some out) : CtI g yX4_agrees cX4_agrees 4 (some .boolean) 4 90 [.ref (g.1 8), .int a1, .ref (g.1 7)] w (fun r w1 => (r, w1) = out) := by
  refine CtI_of .boolean (by decide) (Nat.le_of_ble_eq_true rfl) (fun Z hg F hR => ?_)
  subst hg
  have F : Fx Z RX4 cX4_agrees 4 4 90 := F
  refine V_sub (ls' := [(0, .ref ((zg Z).1 8)), (1, .int a1), (2, .ref ((zg Z).1 7))]) [0, 1, 2] rfl ?_
  unfold fX4_agrees at h0
  refine r_aload_n (pc := 0) F dX4_agrees_0 rfl ?_
  refine r_getf (pc := 1) F dX4_agrees_1 fl_4_15 i68_8 (ce_8 _ _ _) rfl ?_
  refine r_iload_n (pc := 4) F dX4_agrees_4 rfl ?_
  obtain ⟨w1, ew1, h0⟩ := bind_some h0
  refine r_Vv1 (pc := 5) F dX4_agrees_5 ml_4_121 (kX8_walkOn _ w a1 w1 ew1) i68_4 (ce_4 _ _ _) (Nat.le_of_ble_eq_true rfl) (Nat.le_of_ble_eq_true rfl) (Nat.le_of_ble_eq_true rfl) ?_
  refine r_iconst (pc := 8) F dX4_agrees_8 ic_0 ?_
  refine r_istore_n (pc := 9) (ls' := [(0, .ref ((zg Z).1 8)), (1, .int a1), (2, .ref ((zg Z).1 7)), (3, .int 0)]) F dX4_agrees_9 (Nat.le_of_ble_eq_true rfl) rfl ?_
  refine V_sub (ls' := [(0, .ref ((zg Z).1 8)), (2, .ref ((zg Z).1 7)), (3, .int 0)]) [0, 2, 3] rfl ?_
  refine iter_rule (P := fun s : Int32 => V Z 10 [(0, .ref ((zg Z).1 8)), (2, .ref ((zg Z).1 7)), (3, .int s)] [] w1) (x := out) ?_ FU 0 h0
  intro s y1 h1 hP1 hX1
  obtain ⟨l3, rfl⟩ : ∃ z, z = s := ⟨s, rfl⟩
  have h1 : fX4_agrees_b10 w1 l3 = some y1 := h1
  unfold fX4_agrees_b10 at h1
  refine r_iload_n (pc := 10) F dX4_agrees_10 rfl ?_
  refine r_aload_n (pc := 11) F dX4_agrees_11 rfl ?_
  refine r_getf (pc := 12) F dX4_agrees_12 fl_4_15 i68_8 (ce_8 _ _ _) rfl ?_
  refine r_getf (pc := 15) F dX4_agrees_15 fl_4_124 i68_4 (ce_4 _ _ _) rfl ?_
  refine r_icmp_ge (pc := 18) (tgt := 43) F dX4_agrees_18 rfl h1 (fun h1 => ?_) (fun h1 => ?_)
  · refine r_iconst (pc := 43) F dX4_agrees_43 ic_1 ?_
    have h0 := congrArg some (hX1 _ (Option.some.inj h1).symm)
    exact hR _ _ _ _ dX4_agrees_44 rfl (Option.some.inj h0)
  · refine r_aload_n (pc := 21) F dX4_agrees_21 rfl ?_
    refine r_iload_n (pc := 22) F dX4_agrees_22 rfl ?_
    obtain ⟨r4, er4, h1⟩ := bind_some h1
    refine r_Vi1 (pc := 23) F dX4_agrees_23 ml_4_44 (kX4_darkEnds _ w1 l3 r4 er4) i68_8 (ce_8 _ _ _) (Nat.le_of_ble_eq_true rfl) (Nat.le_of_ble_eq_true rfl) (Nat.le_of_ble_eq_true rfl) ?_
    refine r_aload_n (pc := 26) F dX4_agrees_26 rfl ?_
    refine r_getf (pc := 27) F dX4_agrees_27 fl_4_99 i68_7 (ce_7 _ _ _) rfl ?_
    refine r_iload_n (pc := 30) F dX4_agrees_30 rfl ?_
    obtain ⟨g5, h1⟩ := gd_some h1
    refine r_iald (pc := 31) F dX4_agrees_31 i68_34 (ca_34 _) g5 rfl ?_
    refine r_icmp_eq (pc := 32) (tgt := 37) F dX4_agrees_32 rfl h1 (fun h1 => ?_) (fun h1 => ?_)
    · obtain ⟨v6, ev6, h1⟩ := lt_some h1
      refine r_iinc (pc := 37) (ls' := [(0, .ref ((zg Z).1 8)), (2, .ref ((zg Z).1 7)), (3, .int v6)]) F dX4_agrees_37 rfl (by rw [ev6]; rfl) (Nat.le_of_ble_eq_true rfl) rfl ?_
      refine r_goto (pc := 40) (tgt := 10) F dX4_agrees_40 rfl ?_
      exact hP1 v6 (Option.some.inj h1).symm
    · refine r_iconst (pc := 35) F dX4_agrees_35 ic_0 ?_
      have h0 := congrArg some (hX1 _ (Option.some.inj h1).symm)
      exact hR _ _ _ _ dX4_agrees_36 rfl (Option.some.inj h0)
set_option maxRecDepth 100000 in
set_option maxHeartbeats 4000000 in
theorem kX4_findWaxSets (g : GT) (w : Wd) (out : Wd) (h0 : fX4_findWaxSets w = some out) : CtV g yX4_findWaxSets cX4_findWaxSets 3 none 5 113 [.ref (g.1 8), .ref (g.1 7)] w (fun w1 => w1 = out) := by
  refine CtV_of (by decide) (Nat.le_of_ble_eq_true rfl) (fun Z hg F hR => ?_)
  subst hg
  have F : Fx Z RX4 cX4_findWaxSets 3 5 113 := F
  refine V_sub (ls' := [(0, .ref ((zg Z).1 8)), (1, .ref ((zg Z).1 7))]) [0, 1] rfl ?_
  unfold fX4_findWaxSets at h0
  refine r_aload_n (pc := 0) F dX4_findWaxSets_0 rfl ?_
  refine r_getf (pc := 1) F dX4_findWaxSets_1 fl_4_15 i68_8 (ce_8 _ _ _) rfl ?_
  refine r_aload_n (pc := 4) F dX4_findWaxSets_4 rfl ?_
  refine r_getf (pc := 5) F dX4_findWaxSets_5 fl_4_9 i68_8 (ce_8 _ _ _) rfl ?_
  obtain ⟨w1, ew1, h0⟩ := bind_some h0
  refine r_Vv1 (pc := 8) F dX4_findWaxSets_8 ml_4_48 (kX8_setOut _ 1 co1 w w1 ew1) i68_4 (ce_4 _ _ _) (Nat.le_of_ble_eq_true rfl) (Nat.le_of_ble_eq_true rfl) (Nat.le_of_ble_eq_true rfl) ?_
  refine r_aload_n (pc := 11) F dX4_findWaxSets_11 rfl ?_
  refine r_iconst (pc := 12) F dX4_findWaxSets_12 ic_0 ?_
  obtain ⟨w3, ew3, h0⟩ := lt_some h0
  refine r_putI (pc := 13) F dX4_findWaxSets_13 fl_4_102 fp_4_0 i68_8 (ce_8 _) (Nat.le_of_ble_eq_true rfl) rfl rfl rfl ew3 ?_
  refine r_aload_n (pc := 16) F dX4_findWaxSets_16 rfl ?_
  refine r_bipush (pc := 17) F dX4_findWaxSets_17 bp_m9 ?_
  obtain ⟨w5, ew5, h0⟩ := lt_some h0
  refine r_putI (pc := 19) F dX4_findWaxSets_19 fl_4_105 fp_4_1 i68_8 (ce_8 _) (Nat.le_of_ble_eq_true rfl) rfl rfl rfl ew5 ?_
  refine r_iconst (pc := 22) F dX4_findWaxSets_22 ic_0 ?_
  refine r_istore_n (pc := 23) (ls' := [(0, .ref ((zg Z).1 8)), (1, .ref ((zg Z).1 7)), (2, .int 0)]) F dX4_findWaxSets_23 (Nat.le_of_ble_eq_true rfl) rfl ?_
  obtain ⟨w28, iw28, h0⟩ := bind_some h0
  suffices E24 : V Z 86 [] [] w28 by
    refine iter_rule (P := fun s : Int32 × Wd => V Z 24 [(0, .ref ((zg Z).1 8)), (1, .ref ((zg Z).1 7)), (2, .int (s.1))] [] s.2) (x := w28) ?_ FU (0, w5) iw28
    intro s y1 h1 hP1 hX1
    obtain ⟨l7, w8⟩ := s
    have h1 : fX4_findWaxSets_b24 l7 w8 = some y1 := h1
    unfold fX4_findWaxSets_b24 at h1
    have J70 : ∀ (w18 : Wd) (l17 : Int32), fX4_findWaxSets_j70 w18 l17 = some y1 → V Z 70 [(0, .ref ((zg Z).1 8)), (1, .ref ((zg Z).1 7)), (2, .int l17)] [] w18 := by
      intro w18 l17 h1
      unfold fX4_findWaxSets_j70 at h1
      refine r_aload_n (pc := 70) F dX4_findWaxSets_70 rfl ?_
      refine r_dup (pc := 71) F dX4_findWaxSets_71 rfl ?_
      refine r_getf (pc := 72) F dX4_findWaxSets_72 fl_4_102 i68_8 (ce_8 _ _ _) rfl ?_
      refine r_iconst (pc := 75) F dX4_findWaxSets_75 ic_1 ?_
      refine r_iadd (pc := 76) F dX4_findWaxSets_76 ?_
      obtain ⟨w19, ew19, h1⟩ := lt_some h1
      refine r_putI (pc := 77) F dX4_findWaxSets_77 fl_4_102 fp_4_0 i68_8 (ce_8 _) (Nat.le_of_ble_eq_true rfl) rfl rfl rfl ew19 ?_
      obtain ⟨v21, ev21, h1⟩ := lt_some h1
      refine r_iinc (pc := 80) (ls' := [(0, .ref ((zg Z).1 8)), (1, .ref ((zg Z).1 7)), (2, .int v21)]) F dX4_findWaxSets_80 rfl (by rw [ev21]; rfl) (Nat.le_of_ble_eq_true rfl) rfl ?_
      refine r_goto (pc := 83) (tgt := 24) F dX4_findWaxSets_83 rfl ?_
      exact hP1 (v21, w19) (Option.some.inj h1).symm
    refine r_iload_n (pc := 24) F dX4_findWaxSets_24 rfl ?_
    refine r_aload_n (pc := 25) F dX4_findWaxSets_25 rfl ?_
    refine r_getf (pc := 26) F dX4_findWaxSets_26 fl_4_15 i68_8 (ce_8 _ _ _) rfl ?_
    refine r_getf (pc := 29) F dX4_findWaxSets_29 fl_4_108 i68_4 (ce_4 _ _ _) rfl ?_
    refine r_icmp_gt (pc := 32) (tgt := 86) F dX4_findWaxSets_32 rfl h1 (fun h1 => ?_) (fun h1 => ?_)
    · refine V_sub (ls' := []) [] rfl ?_
      have e9 := hX1 _ (Option.some.inj h1).symm
      cases e9
      exact E24
    · refine r_iload_n (pc := 35) F dX4_findWaxSets_35 rfl ?_
      refine r_aload_n (pc := 36) F dX4_findWaxSets_36 rfl ?_
      refine r_getf (pc := 37) F dX4_findWaxSets_37 fl_4_15 i68_8 (ce_8 _ _ _) rfl ?_
      refine r_getf (pc := 40) F dX4_findWaxSets_40 fl_4_108 i68_4 (ce_4 _ _ _) rfl ?_
      refine r_iconst (pc := 43) F dX4_findWaxSets_43 ic_m1 ?_
      refine r_ixor (pc := 44) F dX4_findWaxSets_44 ?_
      refine r_iand (pc := 45) F dX4_findWaxSets_45 ?_
      refine r_if_ne (pc := 46) (tgt := 80) F dX4_findWaxSets_46 rfl h1 (fun h1 => ?_) (fun h1 => ?_)
      · refine r_aload_n (pc := 49) F dX4_findWaxSets_49 rfl ?_
        refine r_iload_n (pc := 50) F dX4_findWaxSets_50 rfl ?_
        refine r_aload_n (pc := 51) F dX4_findWaxSets_51 rfl ?_
        obtain ⟨q12, er11, h1⟩ := bind_some h1
        replace h1 := un2_eq h1
        obtain ⟨r11, w10, rfl, h1⟩ := h1
        refine r_Vj2 (pc := 52) F dX4_findWaxSets_52 ml_4_111 (kX4_agrees _ w8 l7 (r11, w10) er11) i68_8 (ce_8 _ _ _) (Nat.le_of_ble_eq_true rfl) (Nat.le_of_ble_eq_true rfl) (Nat.le_of_ble_eq_true rfl) ?_
        refine r_if_eq (pc := 55) (tgt := 80) F dX4_findWaxSets_55 rfl h1 (fun h1 => ?_) (fun h1 => ?_)
        · obtain ⟨v14, ev14, h1⟩ := lt_some h1
          refine r_iinc (pc := 80) (ls' := [(0, .ref ((zg Z).1 8)), (1, .ref ((zg Z).1 7)), (2, .int v14)]) F dX4_findWaxSets_80 rfl (by rw [ev14]; rfl) (Nat.le_of_ble_eq_true rfl) rfl ?_
          refine r_goto (pc := 83) (tgt := 24) F dX4_findWaxSets_83 rfl ?_
          exact hP1 (v14, w10) (Option.some.inj h1).symm
        · refine r_aload_n (pc := 58) F dX4_findWaxSets_58 rfl ?_
          refine r_getf (pc := 59) F dX4_findWaxSets_59 fl_4_102 i68_8 (ce_8 _ _ _) rfl ?_
          refine r_if_ne (pc := 62) (tgt := 70) F dX4_findWaxSets_62 rfl h1 (fun h1 => ?_) (fun h1 => ?_)
          · refine r_aload_n (pc := 65) F dX4_findWaxSets_65 rfl ?_
            refine r_iload_n (pc := 66) F dX4_findWaxSets_66 rfl ?_
            obtain ⟨w15, ew15, h1⟩ := lt_some h1
            refine r_putI (pc := 67) F dX4_findWaxSets_67 fl_4_105 fp_4_1 i68_8 (ce_8 _) (Nat.le_of_ble_eq_true rfl) rfl rfl rfl ew15 ?_
            exact J70 w15 l7 h1
          · exact J70 w10 l7 h1
      · obtain ⟨v24, ev24, h1⟩ := lt_some h1
        refine r_iinc (pc := 80) (ls' := [(0, .ref ((zg Z).1 8)), (1, .ref ((zg Z).1 7)), (2, .int v24)]) F dX4_findWaxSets_80 rfl (by rw [ev24]; rfl) (Nat.le_of_ble_eq_true rfl) rfl ?_
        refine r_goto (pc := 83) (tgt := 24) F dX4_findWaxSets_83 rfl ?_
        exact hP1 (v24, w8) (Option.some.inj h1).symm
  exact hR _ _ _ dX4_findWaxSets_86 (Option.some.inj h0)
set_option maxRecDepth 100000 in
set_option maxHeartbeats 4000000 in
theorem kX9_wax (g : GT) (w : Wd) (a1 : Int32) (out : Int32 × Wd) (h0 : fX9_wax w a1 = some out) : CtI g yX9_wax cX9_wax 2 (some .int) 6 135 [.ref (g.1 0), .int a1] w (fun r w1 => (r, w1) = out) := by
  refine CtI_of .int (by decide) (Nat.le_of_ble_eq_true rfl) (fun Z hg F hR => ?_)
  subst hg
  have F : Fx Z RX9 cX9_wax 2 6 135 := F
  refine V_sub (ls' := [(0, .ref ((zg Z).1 0)), (1, .int a1)]) [0, 1] rfl ?_
  unfold fX9_wax at h0
  refine r_iload_n (pc := 0) F dX9_wax_0 rfl ?_
  refine r_iconst (pc := 1) F dX9_wax_1 ic_1 ?_
  refine r_Si2 (pc := 2) F dX9_wax_2 ml_9_115 (kX9_isOutside _ w a1 1 _ rfl) (Nat.le_of_ble_eq_true rfl) (Nat.le_of_ble_eq_true rfl) (Nat.le_of_ble_eq_true rfl) ?_
  refine r_if_eq (pc := 5) (tgt := 15) F dX9_wax_5 rfl h0 (fun h0 => ?_) (fun h0 => ?_)
  · refine r_aload_n (pc := 15) F dX9_wax_15 rfl ?_
    refine r_getf (pc := 16) F dX9_wax_16 fl_9_45 i68_0 (ce_0 _ _ _) rfl ?_
    refine r_getf (pc := 19) F dX9_wax_19 fl_9_276 i68_7 (ce_7 _ _ _) rfl ?_
    refine r_aload_n (pc := 22) F dX9_wax_22 rfl ?_
    refine r_getf (pc := 23) F dX9_wax_23 fl_9_10 i68_0 (ce_0 _ _ _) rfl ?_
    refine r_getf (pc := 26) F dX9_wax_26 fl_9_216 i68_1 (ce_1 _ _ _) rfl ?_
    refine r_icmp_eq (pc := 29) (tgt := 39) F dX9_wax_29 rfl h0 (fun h0 => ?_) (fun h0 => ?_)
    · refine r_aload_n (pc := 39) F dX9_wax_39 rfl ?_
      refine r_getf (pc := 40) F dX9_wax_40 fl_9_52 i68_0 (ce_0 _ _ _) rfl ?_
      refine r_aload_n (pc := 43) F dX9_wax_43 rfl ?_
      refine r_getf (pc := 44) F dX9_wax_44 fl_9_45 i68_0 (ce_0 _ _ _) rfl ?_
      obtain ⟨w1, ew1, h0⟩ := bind_some h0
      refine r_Vv1 (pc := 47) F dX9_wax_47 ml_9_277 (kX4_findWaxSets _ w w1 ew1) i68_8 (ce_8 _ _ _) (Nat.le_of_ble_eq_true rfl) (Nat.le_of_ble_eq_true rfl) (Nat.le_of_ble_eq_true rfl) ?_
      refine r_iload_n (pc := 50) F dX9_wax_50 rfl ?_
      refine r_if_ne (pc := 51) (tgt := 64) F dX9_wax_51 rfl h0 (fun h0 => ?_) (fun h0 => ?_)
      · refine r_aload_n (pc := 54) F dX9_wax_54 rfl ?_
        refine r_getf (pc := 55) F dX9_wax_55 fl_9_52 i68_0 (ce_0 _ _ _) rfl ?_
        refine r_getf (pc := 58) F dX9_wax_58 fl_9_281 i68_8 (ce_8 _ _ _) rfl ?_
        refine r_goto (pc := 61) (tgt := 71) F dX9_wax_61 rfl ?_
        exact hR _ _ _ _ dX9_wax_71 rfl (Option.some.inj h0)
      · refine r_aload_n (pc := 64) F dX9_wax_64 rfl ?_
        refine r_getf (pc := 65) F dX9_wax_65 fl_9_52 i68_0 (ce_0 _ _ _) rfl ?_
        refine r_getf (pc := 68) F dX9_wax_68 fl_9_284 i68_8 (ce_8 _ _ _) rfl ?_
        exact hR _ _ _ _ dX9_wax_71 rfl (Option.some.inj h0)
    · refine r_aload_n (pc := 32) F dX9_wax_32 rfl ?_
      refine r_bipush (pc := 33) F dX9_wax_33 bp_m3 ?_
      obtain ⟨q6, er5, h0⟩ := bind_some h0
      replace h0 := un2_eq h0
      obtain ⟨r5, w4, rfl, h0⟩ := h0
      refine r_Vj1 (pc := 35) F dX9_wax_35 ml_9_85 (kX9_refuse _ w (-3) (r5, w4) er5) i68_0 (ce_0 _ _ _) (Nat.le_of_ble_eq_true rfl) (Nat.le_of_ble_eq_true rfl) (Nat.le_of_ble_eq_true rfl) ?_
      exact hR _ _ _ _ dX9_wax_38 rfl (Option.some.inj h0)
  · refine r_aload_n (pc := 8) F dX9_wax_8 rfl ?_
    refine r_bipush (pc := 9) F dX9_wax_9 bp_m2 ?_
    obtain ⟨q11, er10, h0⟩ := bind_some h0
    replace h0 := un2_eq h0
    obtain ⟨r10, w9, rfl, h0⟩ := h0
    refine r_Vj1 (pc := 11) F dX9_wax_11 ml_9_85 (kX9_refuse _ w (-2) (r10, w9) er10) i68_0 (ce_0 _ _ _) (Nat.le_of_ble_eq_true rfl) (Nat.le_of_ble_eq_true rfl) (Nat.le_of_ble_eq_true rfl) ?_
    exact hR _ _ _ _ dX9_wax_14 rfl (Option.some.inj h0)
set_option maxRecDepth 100000 in
set_option maxHeartbeats 4000000 in
theorem kX2_blowFrom (g : GT) (b : Nat) (hb : isCo b) (w : Wd) (a1 : Int32) (out : Wd) (h0 : fX2_blowFrom b w a1 = some out) : CtV g yX2_blowFrom cX2_blowFrom 3 none 0 0 [.ref (g.1 b), .int a1] w (fun w1 => w1 = out) := by
  refine CtV_of (by decide) (Nat.le_of_ble_eq_true rfl) (fun Z hg F hR => ?_)
  subst hg
  have F : Fx Z RX2 cX2_blowFrom 3 0 0 := F
  refine V_sub (ls' := [(0, .ref ((zg Z).1 b)), (1, .int a1)]) [0, 1] rfl ?_
  unfold fX2_blowFrom at h0
  refine r_iconst (pc := 0) F dX2_blowFrom_0 ic_0 ?_
  refine r_istore_n (pc := 1) (ls' := [(0, .ref ((zg Z).1 b)), (1, .int a1), (2, .int 0)]) F dX2_blowFrom_1 (Nat.le_of_ble_eq_true rfl) rfl ?_
  obtain ⟨w10, iw10, h0⟩ := bind_some h0
  suffices E2 : V Z 21 [] [] w10 by
    refine iter_rule (P := fun s : Int32 × Wd => V Z 2 [(0, .ref ((zg Z).1 b)), (1, .int a1), (2, .int (s.1))] [] s.2) (x := w10) ?_ FU (0, w) iw10
    intro s y1 h1 hP1 hX1
    obtain ⟨l1, w2⟩ := s
    have h1 : fX2_blowFrom_b2 b a1 l1 w2 = some y1 := h1
    unfold fX2_blowFrom_b2 at h1
    refine r_iload_n (pc := 2) F dX2_blowFrom_2 rfl ?_
    refine r_bipush (pc := 3) F dX2_blowFrom_3 bp_24 ?_
    refine r_icmp_gt (pc := 5) (tgt := 21) F dX2_blowFrom_5 rfl h1 (fun h1 => ?_) (fun h1 => ?_)
    · refine V_sub (ls' := []) [] rfl ?_
      have e3 := hX1 _ (Option.some.inj h1).symm
      cases e3
      exact E2
    · refine r_aload_n (pc := 8) F dX2_blowFrom_8 rfl ?_
      refine r_getf (pc := 9) F dX2_blowFrom_9 fl_2_28 (lt_Co hb) (ce_Co hb _ _ _) rfl ?_
      refine r_iload_n (pc := 12) F dX2_blowFrom_12 rfl ?_
      refine r_iload_n (pc := 13) F dX2_blowFrom_13 rfl ?_
      obtain ⟨g5, h1⟩ := gd_some h1
      obtain ⟨w4, ew4, h1⟩ := lt_some h1
      refine r_iast (pc := 14) F dX2_blowFrom_14 (lt_Co12 hb) (ca_Co12 hb _) g5 rfl ew4 ?_
      obtain ⟨v7, ev7, h1⟩ := lt_some h1
      refine r_iinc (pc := 15) (ls' := [(0, .ref ((zg Z).1 b)), (1, .int a1), (2, .int v7)]) F dX2_blowFrom_15 rfl (by rw [ev7]; rfl) (Nat.le_of_ble_eq_true rfl) rfl ?_
      refine r_goto (pc := 18) (tgt := 2) F dX2_blowFrom_18 rfl ?_
      exact hP1 (v7, w4) (Option.some.inj h1).symm
  exact hR _ _ _ dX2_blowFrom_21 (Option.some.inj h0)
set_option maxRecDepth 100000 in
set_option maxHeartbeats 4000000 in
theorem kX1_bestSide (g : GT) (w : Wd) (out : Int32 × Wd) (h0 : fX1_bestSide w = some out) : CtI g yX1_bestSide cX1_bestSide 2 (some .int) 4 92 [.ref (g.1 10)] w (fun r w1 => (r, w1) = out) := by
  refine CtI_of .int (by decide) (Nat.le_of_ble_eq_true rfl) (fun Z hg F hR => ?_)
  subst hg
  have F : Fx Z RX1 cX1_bestSide 2 4 92 := F
  refine V_sub (ls' := [(0, .ref ((zg Z).1 10))]) [0] rfl ?_
  unfold fX1_bestSide at h0
  refine r_aload_n (pc := 0) F dX1_bestSide_0 rfl ?_
  refine r_iconst (pc := 1) F dX1_bestSide_1 ic_m1 ?_
  obtain ⟨w1, ew1, h0⟩ := lt_some h0
  refine r_Vv1 (pc := 2) F dX1_bestSide_2 ml_1_39 (kX1_startSearch _ w (-1) w1 ew1.symm) i68_10 (ce_10 _ _ _) (Nat.le_of_ble_eq_true rfl) (Nat.le_of_ble_eq_true rfl) (Nat.le_of_ble_eq_true rfl) ?_
  refine r_iconst (pc := 5) F dX1_bestSide_5 ic_0 ?_
  refine r_istore_n (pc := 6) (ls' := [(0, .ref ((zg Z).1 10)), (1, .int 0)]) F dX1_bestSide_6 (Nat.le_of_ble_eq_true rfl) rfl ?_
  obtain ⟨w19, iw19, h0⟩ := bind_some h0
  suffices E7 : V Z 50 [(0, .ref ((zg Z).1 10))] [] w19 by
    refine iter_rule (P := fun s : Int32 × Wd => V Z 7 [(0, .ref ((zg Z).1 10)), (1, .int (s.1))] [] s.2) (x := w19) ?_ FU (0, w1) iw19
    intro s y1 h1 hP1 hX1
    obtain ⟨l3, w4⟩ := s
    have h1 : fX1_bestSide_b7 l3 w4 = some y1 := h1
    unfold fX1_bestSide_b7 at h1
    refine r_iload_n (pc := 7) F dX1_bestSide_7 rfl ?_
    refine r_iconst (pc := 8) F dX1_bestSide_8 ic_2 ?_
    refine r_icmp_gt (pc := 9) (tgt := 50) F dX1_bestSide_9 rfl h1 (fun h1 => ?_) (fun h1 => ?_)
    · refine V_sub (ls' := [(0, .ref ((zg Z).1 10))]) [0] rfl ?_
      have e5 := hX1 _ (Option.some.inj h1).symm
      cases e5
      exact E7
    · refine r_aload_n (pc := 12) F dX1_bestSide_12 rfl ?_
      refine r_getf (pc := 13) F dX1_bestSide_13 fl_1_15 i68_10 (ce_10 _ _ _) rfl ?_
      refine r_aload_n (pc := 16) F dX1_bestSide_16 rfl ?_
      refine r_getf (pc := 17) F dX1_bestSide_17 fl_1_9 i68_10 (ce_10 _ _ _) rfl ?_
      obtain ⟨w6, ew6, h1⟩ := lt_some h1
      refine r_Vv1 (pc := 20) F dX1_bestSide_20 ml_1_47 (kX2_takeFrom _ 3 co3 1 co1 w4 w6 ew6.symm) i68_3 (ce_3 _ _ _) (Nat.le_of_ble_eq_true rfl) (Nat.le_of_ble_eq_true rfl) (Nat.le_of_ble_eq_true rfl) ?_
      refine r_aload_n (pc := 23) F dX1_bestSide_23 rfl ?_
      refine r_getf (pc := 24) F dX1_bestSide_24 fl_1_15 i68_10 (ce_10 _ _ _) rfl ?_
      refine r_iload_n (pc := 27) F dX1_bestSide_27 rfl ?_
      obtain ⟨w8, ew8, h1⟩ := bind_some h1
      refine r_Vv1 (pc := 28) F dX1_bestSide_28 ml_1_99 (kX2_blowFrom _ 3 co3 w6 l3 w8 ew8) i68_3 (ce_3 _ _ _) (Nat.le_of_ble_eq_true rfl) (Nat.le_of_ble_eq_true rfl) (Nat.le_of_ble_eq_true rfl) ?_
      refine r_aload_n (pc := 31) F dX1_bestSide_31 rfl ?_
      refine r_iload_n (pc := 32) F dX1_bestSide_32 rfl ?_
      refine r_aload_n (pc := 33) F dX1_bestSide_33 rfl ?_
      refine r_aload_n (pc := 34) F dX1_bestSide_34 rfl ?_
      refine r_getf (pc := 35) F dX1_bestSide_35 fl_1_15 i68_10 (ce_10 _ _ _) rfl ?_
      obtain ⟨q12, er11, h1⟩ := bind_some h1
      replace h1 := un2_eq h1
      obtain ⟨r11, w10, rfl, h1⟩ := h1
      refine r_Vj1 (pc := 38) F dX1_bestSide_38 ml_1_61 (kX1_countOf _ 3 co3 w8 (r11, w10) er11) i68_10 (ce_10 _ _ _) (Nat.le_of_ble_eq_true rfl) (Nat.le_of_ble_eq_true rfl) (Nat.le_of_ble_eq_true rfl) ?_
      obtain ⟨w14, ew14, h1⟩ := lt_some h1
      refine r_Vv2 (pc := 41) F dX1_bestSide_41 ml_1_55 (kX1_consider _ w10 l3 r11 w14 ew14.symm) i68_10 (ce_10 _ _ _) (Nat.le_of_ble_eq_true rfl) (Nat.le_of_ble_eq_true rfl) (Nat.le_of_ble_eq_true rfl) ?_
      obtain ⟨v16, ev16, h1⟩ := lt_some h1
      refine r_iinc (pc := 44) (ls' := [(0, .ref ((zg Z).1 10)), (1, .int v16)]) F dX1_bestSide_44 rfl (by rw [ev16]; rfl) (Nat.le_of_ble_eq_true rfl) rfl ?_
      refine r_goto (pc := 47) (tgt := 7) F dX1_bestSide_47 rfl ?_
      exact hP1 (v16, w14) (Option.some.inj h1).symm
  refine r_aload_n (pc := 50) F dX1_bestSide_50 rfl ?_
  refine r_getf (pc := 51) F dX1_bestSide_51 fl_1_58 i68_10 (ce_10 _ _ _) rfl ?_
  exact hR _ _ _ _ dX1_bestSide_54 rfl (Option.some.inj h0)
set_option maxRecDepth 100000 in
set_option maxHeartbeats 4000000 in
theorem kX9_sides (g : GT) (w : Wd) (out : Int32 × Wd) (h0 : fX9_sides w = some out) : CtI g yX9_sides cX9_sides 1 (some .int) 5 113 [.ref (g.1 0)] w (fun r w1 => (r, w1) = out) := by
  refine CtI_of .int (by decide) (Nat.le_of_ble_eq_true rfl) (fun Z hg F hR => ?_)
  subst hg
  have F : Fx Z RX9 cX9_sides 1 5 113 := F
  refine V_sub (ls' := [(0, .ref ((zg Z).1 0))]) [0] rfl ?_
  unfold fX9_sides at h0
  refine r_aload_n (pc := 0) F dX9_sides_0 rfl ?_
  refine r_getf (pc := 1) F dX9_sides_1 fl_9_68 i68_0 (ce_0 _ _ _) rfl ?_
  obtain ⟨q3, er2, h0⟩ := bind_some h0
  replace h0 := un2_eq h0
  obtain ⟨r2, w1, rfl, h0⟩ := h0
  refine r_Vj0 (pc := 4) F dX9_sides_4 ml_9_287 (kX1_bestSide _ w (r2, w1) er2) i68_10 (ce_10 _ _ _) (Nat.le_of_ble_eq_true rfl) (Nat.le_of_ble_eq_true rfl) (Nat.le_of_ble_eq_true rfl) ?_
  exact hR _ _ _ _ dX9_sides_7 rfl (Option.some.inj h0)
set_option maxRecDepth 100000 in
set_option maxHeartbeats 4000000 in
theorem kX7_isFull (g : GT) (w : Wd) (out : Int32) (h0 : fX7_isFull w = out) : CtI g yX7_isFull cX7_isFull 1 (some .boolean) 0 0 [.ref (g.1 7)] w (fun r w1 => r = out ∧ w1 = w) := by
  refine CtI_of .boolean (by decide) (Nat.le_of_ble_eq_true rfl) (fun Z hg F hR => ?_)
  subst hg
  have F : Fx Z RX7 cX7_isFull 1 0 0 := F
  refine V_sub (ls' := [(0, .ref ((zg Z).1 7))]) [0] rfl ?_
  unfold fX7_isFull at h0
  refine r_aload_n (pc := 0) F dX7_isFull_0 rfl ?_
  refine r_getf (pc := 1) F dX7_isFull_1 fl_7_15 i68_7 (ce_7 _ _ _) rfl ?_
  refine r_bipush (pc := 4) F dX7_isFull_4 bp_12 ?_
  refine r_icmp_lt (pc := 6) (tgt := 13) F dX7_isFull_6 rfl h0 (fun h0 => ?_) (fun h0 => ?_)
  · refine r_iconst (pc := 13) F dX7_isFull_13 ic_0 ?_
    exact hR _ _ _ _ dX7_isFull_14 rfl ⟨h0, rfl⟩
  · refine r_iconst (pc := 9) F dX7_isFull_9 ic_1 ?_
    refine r_goto (pc := 10) (tgt := 14) F dX7_isFull_10 rfl ?_
    exact hR _ _ _ _ dX7_isFull_14 rfl ⟨h0, rfl⟩
set_option maxRecDepth 100000 in
set_option maxHeartbeats 4000000 in
theorem kX7_append (g : GT) (w : Wd) (a1 : Int32) (out : Int32 × Wd) (h0 : fX7_append w a1 = some out) : CtI g yX7_append cX7_append 2 (some .int) 1 20 [.ref (g.1 7), .int a1] w (fun r w1 => (r, w1) = out) := by
  refine CtI_of .int (by decide) (Nat.le_of_ble_eq_true rfl) (fun Z hg F hR => ?_)
  subst hg
  have F : Fx Z RX7 cX7_append 2 1 20 := F
  refine V_sub (ls' := [(0, .ref ((zg Z).1 7)), (1, .int a1)]) [0, 1] rfl ?_
  unfold fX7_append at h0
  refine r_aload_n (pc := 0) F dX7_append_0 rfl ?_
  refine r_Vi0 (pc := 1) F dX7_append_1 ml_7_19 (kX7_isFull _ w _ rfl) i68_7 (ce_7 _ _ _) (Nat.le_of_ble_eq_true rfl) (Nat.le_of_ble_eq_true rfl) (Nat.le_of_ble_eq_true rfl) ?_
  refine r_if_ne (pc := 4) (tgt := 27) F dX7_append_4 rfl h0 (fun h0 => ?_) (fun h0 => ?_)
  · refine r_aload_n (pc := 7) F dX7_append_7 rfl ?_
    refine r_getf (pc := 8) F dX7_append_8 fl_7_9 i68_7 (ce_7 _ _ _) rfl ?_
    refine r_aload_n (pc := 11) F dX7_append_11 rfl ?_
    refine r_getf (pc := 12) F dX7_append_12 fl_7_15 i68_7 (ce_7 _ _ _) rfl ?_
    refine r_iload_n (pc := 15) F dX7_append_15 rfl ?_
    obtain ⟨g2, h0⟩ := gd_some h0
    obtain ⟨w1, ew1, h0⟩ := lt_some h0
    refine r_iast (pc := 16) F dX7_append_16 i68_34 (ca_34 _) g2 rfl ew1 ?_
    refine r_aload_n (pc := 17) F dX7_append_17 rfl ?_
    refine r_dup (pc := 18) F dX7_append_18 rfl ?_
    refine r_getf (pc := 19) F dX7_append_19 fl_7_15 i68_7 (ce_7 _ _ _) rfl ?_
    refine r_iconst (pc := 22) F dX7_append_22 ic_1 ?_
    refine r_iadd (pc := 23) F dX7_append_23 ?_
    obtain ⟨w4, ew4, h0⟩ := lt_some h0
    refine r_putI (pc := 24) F dX7_append_24 fl_7_15 fp_7_0 i68_7 (ce_7 _) (Nat.le_of_ble_eq_true rfl) rfl rfl rfl ew4 ?_
    refine r_aload_n (pc := 27) F dX7_append_27 rfl ?_
    refine r_getf (pc := 28) F dX7_append_28 fl_7_15 i68_7 (ce_7 _ _ _) rfl ?_
    exact hR _ _ _ _ dX7_append_31 rfl (Option.some.inj h0)
  · refine r_aload_n (pc := 27) F dX7_append_27 rfl ?_
    refine r_getf (pc := 28) F dX7_append_28 fl_7_15 i68_7 (ce_7 _ _ _) rfl ?_
    exact hR _ _ _ _ dX7_append_31 rfl (Option.some.inj h0)
set_option maxRecDepth 100000 in
set_option maxHeartbeats 4000000 in
theorem kX9_row (g : GT) (w : Wd) (a1 : Int32) (out : Int32 × Wd) (h0 : fX9_row w a1 = some out) : CtI g yX9_row cX9_row 2 (some .int) 2 41 [.ref (g.1 0), .int a1] w (fun r w1 => (r, w1) = out) := by
  refine CtI_of .int (by decide) (Nat.le_of_ble_eq_true rfl) (fun Z hg F hR => ?_)
  subst hg
  have F : Fx Z RX9 cX9_row 2 2 41 := F
  refine V_sub (ls' := [(0, .ref ((zg Z).1 0)), (1, .int a1)]) [0, 1] rfl ?_
  unfold fX9_row at h0
  have J27 : ∀ (w1 : Wd), fX9_row_j27 w1 = some out → V Z 27 [(0, .ref ((zg Z).1 0))] [] w1 := by
    intro w1 h0
    unfold fX9_row_j27 at h0
    refine r_aload_n (pc := 27) F dX9_row_27 rfl ?_
    refine r_bipush (pc := 28) F dX9_row_28 bp_m6 ?_
    obtain ⟨q4, er3, h0⟩ := bind_some h0
    replace h0 := un2_eq h0
    obtain ⟨r3, w2, rfl, h0⟩ := h0
    refine r_Vj1 (pc := 30) F dX9_row_30 ml_9_85 (kX9_refuse _ w1 (-6) (r3, w2) er3) i68_0 (ce_0 _ _ _) (Nat.le_of_ble_eq_true rfl) (Nat.le_of_ble_eq_true rfl) (Nat.le_of_ble_eq_true rfl) ?_
    exact hR _ _ _ _ dX9_row_33 rfl (Option.some.inj h0)
  refine r_iload_n (pc := 0) F dX9_row_0 rfl ?_
  refine r_if_ge (pc := 1) (tgt := 11) F dX9_row_1 rfl h0 (fun h0 => ?_) (fun h0 => ?_)
  · refine r_iload_n (pc := 11) F dX9_row_11 rfl ?_
    refine r_bipush (pc := 12) F dX9_row_12 bp_99 ?_
    refine r_icmp_gt (pc := 14) (tgt := 27) F dX9_row_14 rfl h0 (fun h0 => ?_) (fun h0 => ?_)
    · refine V_sub (ls' := [(0, .ref ((zg Z).1 0))]) [0] rfl ?_
      exact J27 w h0
    · refine r_aload_n (pc := 17) F dX9_row_17 rfl ?_
      refine r_getf (pc := 18) F dX9_row_18 fl_9_45 i68_0 (ce_0 _ _ _) rfl ?_
      refine r_Vi0 (pc := 21) F dX9_row_21 ml_9_290 (kX7_isFull _ w _ rfl) i68_7 (ce_7 _ _ _) (Nat.le_of_ble_eq_true rfl) (Nat.le_of_ble_eq_true rfl) (Nat.le_of_ble_eq_true rfl) ?_
      refine r_if_eq (pc := 24) (tgt := 34) F dX9_row_24 rfl h0 (fun h0 => ?_) (fun h0 => ?_)
      · refine r_aload_n (pc := 34) F dX9_row_34 rfl ?_
        refine r_getf (pc := 35) F dX9_row_35 fl_9_45 i68_0 (ce_0 _ _ _) rfl ?_
        refine r_iload_n (pc := 38) F dX9_row_38 rfl ?_
        obtain ⟨q8, er7, h0⟩ := bind_some h0
        replace h0 := un2_eq h0
        obtain ⟨r7, w6, rfl, h0⟩ := h0
        refine r_Vj1 (pc := 39) F dX9_row_39 ml_9_291 (kX7_append _ w a1 (r7, w6) er7) i68_7 (ce_7 _ _ _) (Nat.le_of_ble_eq_true rfl) (Nat.le_of_ble_eq_true rfl) (Nat.le_of_ble_eq_true rfl) ?_
        exact hR _ _ _ _ dX9_row_42 rfl (Option.some.inj h0)
      · refine V_sub (ls' := [(0, .ref ((zg Z).1 0))]) [0] rfl ?_
        exact J27 w h0
  · refine r_aload_n (pc := 4) F dX9_row_4 rfl ?_
    refine r_bipush (pc := 5) F dX9_row_5 bp_m4 ?_
    obtain ⟨q14, er13, h0⟩ := bind_some h0
    replace h0 := un2_eq h0
    obtain ⟨r13, w12, rfl, h0⟩ := h0
    refine r_Vj1 (pc := 7) F dX9_row_7 ml_9_85 (kX9_refuse _ w (-4) (r13, w12) er13) i68_0 (ce_0 _ _ _) (Nat.le_of_ble_eq_true rfl) (Nat.le_of_ble_eq_true rfl) (Nat.le_of_ble_eq_true rfl) ?_
    exact hR _ _ _ _ dX9_row_10 rfl (Option.some.inj h0)
set_option maxRecDepth 100000 in
set_option maxHeartbeats 4000000 in
theorem kX4_firstUntrue (g : GT) (w : Wd) (out : Int32 × Wd) (h0 : fX4_firstUntrue w = some out) : CtI g yX4_firstUntrue cX4_firstUntrue 3 (some .int) 5 110 [.ref (g.1 8), .ref (g.1 7)] w (fun r w1 => (r, w1) = out) := by
  refine CtI_of .int (by decide) (Nat.le_of_ble_eq_true rfl) (fun Z hg F hR => ?_)
  subst hg
  have F : Fx Z RX4 cX4_firstUntrue 3 5 110 := F
  refine V_sub (ls' := [(0, .ref ((zg Z).1 8)), (1, .ref ((zg Z).1 7))]) [0, 1] rfl ?_
  unfold fX4_firstUntrue at h0
  refine r_aload_n (pc := 0) F dX4_firstUntrue_0 rfl ?_
  obtain ⟨w1, ew1, h0⟩ := bind_some h0
  refine r_Vv0 (pc := 1) F dX4_firstUntrue_1 ml_4_23 (kX4_walkFromNow _ w w1 ew1) i68_8 (ce_8 _ _ _) (Nat.le_of_ble_eq_true rfl) (Nat.le_of_ble_eq_true rfl) (Nat.le_of_ble_eq_true rfl) ?_
  refine r_iconst (pc := 4) F dX4_firstUntrue_4 ic_0 ?_
  refine r_istore_n (pc := 5) (ls' := [(0, .ref ((zg Z).1 8)), (1, .ref ((zg Z).1 7)), (2, .int 0)]) F dX4_firstUntrue_5 (Nat.le_of_ble_eq_true rfl) rfl ?_
  refine iter_rule (P := fun s : Int32 => V Z 6 [(0, .ref ((zg Z).1 8)), (1, .ref ((zg Z).1 7)), (2, .int s)] [] w1) (x := out) ?_ FU 0 h0
  intro s y1 h1 hP1 hX1
  obtain ⟨l3, rfl⟩ : ∃ z, z = s := ⟨s, rfl⟩
  have h1 : fX4_firstUntrue_b6 w1 l3 = some y1 := h1
  unfold fX4_firstUntrue_b6 at h1
  refine r_iload_n (pc := 6) F dX4_firstUntrue_6 rfl ?_
  refine r_aload_n (pc := 7) F dX4_firstUntrue_7 rfl ?_
  refine r_getf (pc := 8) F dX4_firstUntrue_8 fl_4_94 i68_7 (ce_7 _ _ _) rfl ?_
  refine r_icmp_ge (pc := 11) (tgt := 56) F dX4_firstUntrue_11 rfl h1 (fun h1 => ?_) (fun h1 => ?_)
  · refine r_bipush (pc := 56) F dX4_firstUntrue_56 bp_m9 ?_
    have h0 := congrArg some (hX1 _ (Option.some.inj h1).symm)
    exact hR _ _ _ _ dX4_firstUntrue_58 rfl (Option.some.inj h0)
  · refine r_iload_n (pc := 14) F dX4_firstUntrue_14 rfl ?_
    refine r_aload_n (pc := 15) F dX4_firstUntrue_15 rfl ?_
    refine r_getf (pc := 16) F dX4_firstUntrue_16 fl_4_15 i68_8 (ce_8 _ _ _) rfl ?_
    refine r_getf (pc := 19) F dX4_firstUntrue_19 fl_4_31 i68_4 (ce_4 _ _ _) rfl ?_
    refine r_icmp_ge (pc := 22) (tgt := 48) F dX4_firstUntrue_22 rfl h1 (fun h1 => ?_) (fun h1 => ?_)
    · refine r_iload_n (pc := 48) F dX4_firstUntrue_48 rfl ?_
      have h0 := congrArg some (hX1 _ (Option.some.inj h1).symm)
      exact hR _ _ _ _ dX4_firstUntrue_49 rfl (Option.some.inj h0)
    · refine r_aload_n (pc := 25) F dX4_firstUntrue_25 rfl ?_
      refine r_getf (pc := 26) F dX4_firstUntrue_26 fl_4_15 i68_8 (ce_8 _ _ _) rfl ?_
      refine r_getf (pc := 29) F dX4_firstUntrue_29 fl_4_26 i68_4 (ce_4 _ _ _) rfl ?_
      refine r_iload_n (pc := 32) F dX4_firstUntrue_32 rfl ?_
      refine r_iconst (pc := 33) F dX4_firstUntrue_33 ic_1 ?_
      refine r_iadd (pc := 34) F dX4_firstUntrue_34 ?_
      obtain ⟨g4, h1⟩ := gd_some h1
      refine r_iald (pc := 35) F dX4_firstUntrue_35 i68_26 (ca_26 _) g4 rfl ?_
      refine r_Si1 (pc := 36) F dX4_firstUntrue_36 ml_4_80 (kJ6_bitCount_0f7a4 _ w1 (w1.1 26 (l3 + 1).toNatClampNeg) _ rfl) (Nat.le_of_ble_eq_true rfl) (Nat.le_of_ble_eq_true rfl) (Nat.le_of_ble_eq_true rfl) ?_
      refine r_aload_n (pc := 39) F dX4_firstUntrue_39 rfl ?_
      refine r_getf (pc := 40) F dX4_firstUntrue_40 fl_4_99 i68_7 (ce_7 _ _ _) rfl ?_
      refine r_iload_n (pc := 43) F dX4_firstUntrue_43 rfl ?_
      obtain ⟨g5, h1⟩ := gd_some h1
      refine r_iald (pc := 44) F dX4_firstUntrue_44 i68_34 (ca_34 _) g5 rfl ?_
      refine r_icmp_eq (pc := 45) (tgt := 50) F dX4_firstUntrue_45 rfl h1 (fun h1 => ?_) (fun h1 => ?_)
      · obtain ⟨v6, ev6, h1⟩ := lt_some h1
        refine r_iinc (pc := 50) (ls' := [(0, .ref ((zg Z).1 8)), (1, .ref ((zg Z).1 7)), (2, .int v6)]) F dX4_firstUntrue_50 rfl (by rw [ev6]; rfl) (Nat.le_of_ble_eq_true rfl) rfl ?_
        refine r_goto (pc := 53) (tgt := 6) F dX4_firstUntrue_53 rfl ?_
        exact hP1 v6 (Option.some.inj h1).symm
      · refine r_iload_n (pc := 48) F dX4_firstUntrue_48 rfl ?_
        have h0 := congrArg some (hX1 _ (Option.some.inj h1).symm)
        exact hR _ _ _ _ dX4_firstUntrue_49 rfl (Option.some.inj h0)
set_option maxRecDepth 100000 in
set_option maxHeartbeats 4000000 in
theorem kX9_judge (g : GT) (w : Wd) (out : Int32 × Wd) (h0 : fX9_judge w = some out) : CtI g yX9_judge cX9_judge 2 (some .int) 6 132 [.ref (g.1 0)] w (fun r w1 => (r, w1) = out) := by
  refine CtI_of .int (by decide) (Nat.le_of_ble_eq_true rfl) (fun Z hg F hR => ?_)
  subst hg
  have F : Fx Z RX9 cX9_judge 2 6 132 := F
  refine V_sub (ls' := [(0, .ref ((zg Z).1 0))]) [0] rfl ?_
  unfold fX9_judge at h0
  refine r_aload_n (pc := 0) F dX9_judge_0 rfl ?_
  refine r_getf (pc := 1) F dX9_judge_1 fl_9_52 i68_0 (ce_0 _ _ _) rfl ?_
  refine r_aload_n (pc := 4) F dX9_judge_4 rfl ?_
  refine r_getf (pc := 5) F dX9_judge_5 fl_9_45 i68_0 (ce_0 _ _ _) rfl ?_
  obtain ⟨q3, er2, h0⟩ := bind_some h0
  replace h0 := un2_eq h0
  obtain ⟨r2, w1, rfl, h0⟩ := h0
  refine r_Vj1 (pc := 8) F dX9_judge_8 ml_9_292 (kX4_firstUntrue _ w (r2, w1) er2) i68_8 (ce_8 _ _ _) (Nat.le_of_ble_eq_true rfl) (Nat.le_of_ble_eq_true rfl) (Nat.le_of_ble_eq_true rfl) ?_
  refine r_istore_n (pc := 11) (ls' := [(0, .ref ((zg Z).1 0)), (1, .int r2)]) F dX9_judge_11 (Nat.le_of_ble_eq_true rfl) rfl ?_
  refine r_aload_n (pc := 12) F dX9_judge_12 rfl ?_
  refine r_getf (pc := 13) F dX9_judge_13 fl_9_45 i68_0 (ce_0 _ _ _) rfl ?_
  refine r_iconst (pc := 16) F dX9_judge_16 ic_0 ?_
  obtain ⟨w5, ew5, h0⟩ := lt_some h0
  refine r_putI (pc := 17) F dX9_judge_17 fl_9_276 fp_7_0 i68_7 (ce_7 _) (Nat.le_of_ble_eq_true rfl) rfl rfl rfl ew5 ?_
  refine r_iload_n (pc := 20) F dX9_judge_20 rfl ?_
  exact hR _ _ _ _ dX9_judge_21 rfl (Option.some.inj h0)
set_option maxRecDepth 100000 in
set_option maxHeartbeats 4000000 in
theorem kX9_clear (g : GT) (w : Wd) (out : Int32 × Wd) (h0 : fX9_clear w = out) : CtI g yX9_clear cX9_clear 2 (some .int) 0 0 [.ref (g.1 0)] w (fun r w1 => (r, w1) = out) := by
  refine CtI_of .int (by decide) (Nat.le_of_ble_eq_true rfl) (fun Z hg F hR => ?_)
  subst hg
  have F : Fx Z RX9 cX9_clear 2 0 0 := F
  refine V_sub (ls' := [(0, .ref ((zg Z).1 0))]) [0] rfl ?_
  unfold fX9_clear at h0
  refine r_aload_n (pc := 0) F dX9_clear_0 rfl ?_
  refine r_getf (pc := 1) F dX9_clear_1 fl_9_45 i68_0 (ce_0 _ _ _) rfl ?_
  refine r_getf (pc := 4) F dX9_clear_4 fl_9_276 i68_7 (ce_7 _ _ _) rfl ?_
  obtain ⟨v1, ev1, h0⟩ := lt_some h0
  refine V_nm ev1 ?_
  refine r_istore_n (pc := 7) (ls' := [(0, .ref ((zg Z).1 0)), (1, .int v1)]) F dX9_clear_7 (Nat.le_of_ble_eq_true rfl) rfl ?_
  refine r_aload_n (pc := 8) F dX9_clear_8 rfl ?_
  refine r_getf (pc := 9) F dX9_clear_9 fl_9_45 i68_0 (ce_0 _ _ _) rfl ?_
  refine r_iconst (pc := 12) F dX9_clear_12 ic_0 ?_
  obtain ⟨w2, ew2, h0⟩ := lt_some h0
  refine r_putI (pc := 13) F dX9_clear_13 fl_9_276 fp_7_0 i68_7 (ce_7 _) (Nat.le_of_ble_eq_true rfl) rfl rfl rfl ew2 ?_
  refine r_iload_n (pc := 16) F dX9_clear_16 rfl ?_
  exact hR _ _ _ _ dX9_clear_17 rfl h0
set_option maxRecDepth 100000 in
set_option maxHeartbeats 4000000 in
theorem kX1_drawBelow (g : GT) (w : Wd) (a1 : Int32) (out : Int32 × Wd) (h0 : fX1_drawBelow w a1 = some out) : CtI g yX1_drawBelow cX1_drawBelow 2 (some .int) 0 0 [.ref (g.1 10), .int a1] w (fun r w1 => (r, w1) = out) := by
  refine CtI_of .int (by decide) (Nat.le_of_ble_eq_true rfl) (fun Z hg F hR => ?_)
  subst hg
  have F : Fx Z RX1 cX1_drawBelow 2 0 0 := F
  refine V_sub (ls' := [(0, .ref ((zg Z).1 10)), (1, .int a1)]) [0, 1] rfl ?_
  unfold fX1_drawBelow at h0
  refine r_aload_n (pc := 0) F dX1_drawBelow_0 rfl ?_
  refine r_aload_n (pc := 1) F dX1_drawBelow_1 rfl ?_
  refine r_getf (pc := 2) F dX1_drawBelow_2 fl_1_102 i68_10 (ce_10 _ _ _) rfl ?_
  refine r_ldc (pc := 5) F dX1_drawBelow_5 kc_1_168 ?_
  refine r_imul (pc := 7) F dX1_drawBelow_7 ?_
  refine r_sipush (pc := 8) F dX1_drawBelow_8 sp_12345 ?_
  refine r_iadd (pc := 11) F dX1_drawBelow_11 ?_
  obtain ⟨w1, ew1, h0⟩ := lt_some h0
  refine r_putI (pc := 12) F dX1_drawBelow_12 fl_1_102 fp_1_4 i68_10 (ce_10 _) (Nat.le_of_ble_eq_true rfl) rfl rfl rfl ew1 ?_
  refine r_iload_n (pc := 15) F dX1_drawBelow_15 rfl ?_
  refine r_if_le (pc := 16) (tgt := 34) F dX1_drawBelow_16 rfl h0 (fun h0 => ?_) (fun h0 => ?_)
  · refine r_iconst (pc := 34) F dX1_drawBelow_34 ic_0 ?_
    exact hR _ _ _ _ dX1_drawBelow_35 rfl (Option.some.inj h0)
  · refine r_aload_n (pc := 19) F dX1_drawBelow_19 rfl ?_
    refine r_getf (pc := 20) F dX1_drawBelow_20 fl_1_102 i68_10 (ce_10 _ _ _) rfl ?_
    refine r_ldc (pc := 23) F dX1_drawBelow_23 kc_1_169 ?_
    refine r_iand (pc := 25) F dX1_drawBelow_25 ?_
    refine r_ldc (pc := 26) F dX1_drawBelow_26 kc_1_170 ?_
    refine r_idiv (pc := 28) F dX1_drawBelow_28 (by decide) ?_
    refine r_iload_n (pc := 29) F dX1_drawBelow_29 rfl ?_
    obtain ⟨g3, h0⟩ := gd_some h0
    refine r_irem (pc := 30) F dX1_drawBelow_30 (by simpa using g3) ?_
    refine r_goto (pc := 31) (tgt := 35) F dX1_drawBelow_31 rfl ?_
    exact hR _ _ _ _ dX1_drawBelow_35 rfl (Option.some.inj h0)
set_option maxRecDepth 100000 in
set_option maxHeartbeats 4000000 in
theorem kX1_walkNights (g : GT) (w : Wd) (a1 : Int32) (a2 : Int32) (out : Wd) (h0 : fX1_walkNights w a1 a2 = some out) : CtV g yX1_walkNights cX1_walkNights 5 none 4 92 [.ref (g.1 10), .int a1, .int a2] w (fun w1 => w1 = out) := by
  refine CtV_of (by decide) (Nat.le_of_ble_eq_true rfl) (fun Z hg F hR => ?_)
  subst hg
  have F : Fx Z RX1 cX1_walkNights 5 4 92 := F
  refine V_sub (ls' := [(0, .ref ((zg Z).1 10)), (1, .int a1), (2, .int a2)]) [0, 1, 2] rfl ?_
  unfold fX1_walkNights at h0
  refine r_aload_n (pc := 0) F dX1_walkNights_0 rfl ?_
  refine r_iload_n (pc := 1) F dX1_walkNights_1 rfl ?_
  obtain ⟨w1, ew1, h0⟩ := lt_some h0
  refine r_putI (pc := 2) F dX1_walkNights_2 fl_1_102 fp_1_4 i68_10 (ce_10 _) (Nat.le_of_ble_eq_true rfl) rfl rfl rfl ew1 ?_
  refine r_aload_n (pc := 5) F dX1_walkNights_5 rfl ?_
  refine r_iconst (pc := 6) F dX1_walkNights_6 ic_0 ?_
  obtain ⟨w3, ew3, h0⟩ := lt_some h0
  refine r_putI (pc := 7) F dX1_walkNights_7 fl_1_105 fp_1_2 i68_10 (ce_10 _) (Nat.le_of_ble_eq_true rfl) rfl rfl rfl ew3 ?_
  refine r_aload_n (pc := 10) F dX1_walkNights_10 rfl ?_
  refine r_iconst (pc := 11) F dX1_walkNights_11 ic_0 ?_
  obtain ⟨w5, ew5, h0⟩ := lt_some h0
  refine r_putI (pc := 12) F dX1_walkNights_12 fl_1_108 fp_1_3 i68_10 (ce_10 _) (Nat.le_of_ble_eq_true rfl) rfl rfl rfl ew5 ?_
  refine r_aload_n (pc := 15) F dX1_walkNights_15 rfl ?_
  refine r_getf (pc := 16) F dX1_walkNights_16 fl_1_15 i68_10 (ce_10 _ _ _) rfl ?_
  refine r_aload_n (pc := 19) F dX1_walkNights_19 rfl ?_
  refine r_getf (pc := 20) F dX1_walkNights_20 fl_1_9 i68_10 (ce_10 _ _ _) rfl ?_
  obtain ⟨w7, ew7, h0⟩ := lt_some h0
  refine r_Vv1 (pc := 23) F dX1_walkNights_23 ml_1_47 (kX2_takeFrom _ 3 co3 1 co1 w5 w7 ew7.symm) i68_3 (ce_3 _ _ _) (Nat.le_of_ble_eq_true rfl) (Nat.le_of_ble_eq_true rfl) (Nat.le_of_ble_eq_true rfl) ?_
  refine r_iconst (pc := 26) F dX1_walkNights_26 ic_0 ?_
  refine r_istore_n (pc := 27) (ls' := [(0, .ref ((zg Z).1 10)), (1, .int a1), (2, .int a2), (3, .int 0)]) F dX1_walkNights_27 (Nat.le_of_ble_eq_true rfl) rfl ?_
  refine V_sub (ls' := [(0, .ref ((zg Z).1 10)), (1, .int a1), (3, .int 0)]) [0, 1, 3] rfl ?_
  obtain ⟨w46, iw46, h0⟩ := bind_some h0
  suffices E28 : V Z 132 [] [] w46 by
    refine iter_rule (P := fun s : Int32 × Wd => V Z 28 [(0, .ref ((zg Z).1 10)), (1, .int a1), (3, .int (s.1))] [] s.2) (x := w46) ?_ FU (0, w7) iw46
    intro s y1 h1 hP1 hX1
    obtain ⟨l9, w10⟩ := s
    have h1 : fX1_walkNights_b28 a1 l9 w10 = some y1 := h1
    unfold fX1_walkNights_b28 at h1
    refine r_iload_n (pc := 28) F dX1_walkNights_28 rfl ?_
    refine r_iload_n (pc := 29) F dX1_walkNights_29 rfl ?_
    refine r_icmp_ge (pc := 30) (tgt := 132) F dX1_walkNights_30 rfl h1 (fun h1 => ?_) (fun h1 => ?_)
    · refine V_sub (ls' := []) [] rfl ?_
      have e11 := hX1 _ (Option.some.inj h1).symm
      cases e11
      exact E28
    · refine r_aload_n (pc := 33) F dX1_walkNights_33 rfl ?_
      refine r_getf (pc := 34) F dX1_walkNights_34 fl_1_9 i68_10 (ce_10 _ _ _) rfl ?_
      refine r_getf (pc := 37) F dX1_walkNights_37 fl_1_111 i68_1 (ce_1 _ _ _) rfl ?_
      obtain ⟨v12, ev12, h1⟩ := lt_some h1
      refine V_nm ev12 ?_
      refine r_istore (pc := 40) (ls' := [(0, .ref ((zg Z).1 10)), (1, .int a1), (3, .int l9), (4, .int v12)]) F dX1_walkNights_40 (Nat.le_of_ble_eq_true rfl) rfl ?_
      obtain ⟨w32, iw32, h1⟩ := bind_some h1
      suffices E42 : V Z 86 [(0, .ref ((zg Z).1 10)), (1, .int a1), (3, .int l9)] [] w32 by
        refine iter_rule (P := fun s : Int32 × Wd => V Z 42 [(0, .ref ((zg Z).1 10)), (1, .int a1), (3, .int l9), (4, .int (s.1))] [] s.2) (x := w32) ?_ FU (v12, w10) iw32
        intro s y2 h2 hP2 hX2
        obtain ⟨l13, w14⟩ := s
        have h2 : fX1_walkNights_b42 l13 w14 = some y2 := h2
        unfold fX1_walkNights_b42 at h2
        refine r_iload (pc := 42) F dX1_walkNights_42 rfl ?_
        refine r_bipush (pc := 44) F dX1_walkNights_44 bp_24 ?_
        refine r_icmp_gt (pc := 46) (tgt := 86) F dX1_walkNights_46 rfl h2 (fun h2 => ?_) (fun h2 => ?_)
        · refine V_sub (ls' := [(0, .ref ((zg Z).1 10)), (1, .int a1), (3, .int l9)]) [0, 1, 2] rfl ?_
          have e15 := hX2 _ (Option.some.inj h2).symm
          cases e15
          exact E42
        · refine r_aload_n (pc := 49) F dX1_walkNights_49 rfl ?_
          refine r_getf (pc := 50) F dX1_walkNights_50 fl_1_15 i68_10 (ce_10 _ _ _) rfl ?_
          refine r_getf (pc := 53) F dX1_walkNights_53 fl_1_114 i68_3 (ce_3 _ _ _) rfl ?_
          refine r_iload (pc := 56) F dX1_walkNights_56 rfl ?_
          refine r_aload_n (pc := 58) F dX1_walkNights_58 rfl ?_
          refine r_bipush (pc := 59) F dX1_walkNights_59 bp_10 ?_
          obtain ⟨q18, er17, h2⟩ := bind_some h2
          replace h2 := un2_eq h2
          obtain ⟨r17, w16, rfl, h2⟩ := h2
          refine r_Vj1 (pc := 61) F dX1_walkNights_61 ml_1_117 (kX1_drawBelow _ w14 10 (r17, w16) er17) i68_10 (ce_10 _ _ _) (Nat.le_of_ble_eq_true rfl) (Nat.le_of_ble_eq_true rfl) (Nat.le_of_ble_eq_true rfl) ?_
          obtain ⟨g21, h2⟩ := gd_some h2
          obtain ⟨w20, ew20, h2⟩ := lt_some h2
          refine r_iast (pc := 64) F dX1_walkNights_64 i68_23 (ca_23 _) g21 rfl ew20 ?_
          refine r_aload_n (pc := 65) F dX1_walkNights_65 rfl ?_
          refine r_getf (pc := 66) F dX1_walkNights_66 fl_1_15 i68_10 (ce_10 _ _ _) rfl ?_
          refine r_getf (pc := 69) F dX1_walkNights_69 fl_1_120 i68_3 (ce_3 _ _ _) rfl ?_
          refine r_iload (pc := 72) F dX1_walkNights_72 rfl ?_
          refine r_aload_n (pc := 74) F dX1_walkNights_74 rfl ?_
          refine r_iconst (pc := 75) F dX1_walkNights_75 ic_3 ?_
          obtain ⟨q25, er24, h2⟩ := bind_some h2
          replace h2 := un2_eq h2
          obtain ⟨r24, w23, rfl, h2⟩ := h2
          refine r_Vj1 (pc := 76) F dX1_walkNights_76 ml_1_117 (kX1_drawBelow _ w20 3 (r24, w23) er24) i68_10 (ce_10 _ _ _) (Nat.le_of_ble_eq_true rfl) (Nat.le_of_ble_eq_true rfl) (Nat.le_of_ble_eq_true rfl) ?_
          obtain ⟨w27, ew27, h2⟩ := lt_some h2
          refine r_iast (pc := 79) F dX1_walkNights_79 i68_24 (ca_24 _) g21 rfl ew27 ?_
          obtain ⟨v29, ev29, h2⟩ := lt_some h2
          refine r_iinc (pc := 80) (ls' := [(0, .ref ((zg Z).1 10)), (1, .int a1), (3, .int l9), (4, .int v29)]) F dX1_walkNights_80 rfl (by rw [ev29]; rfl) (Nat.le_of_ble_eq_true rfl) rfl ?_
          refine r_goto (pc := 83) (tgt := 42) F dX1_walkNights_83 rfl ?_
          exact hP2 (v29, w27) (Option.some.inj h2).symm
      refine r_aload_n (pc := 86) F dX1_walkNights_86 rfl ?_
      refine r_aload_n (pc := 87) F dX1_walkNights_87 rfl ?_
      refine r_getf (pc := 88) F dX1_walkNights_88 fl_1_15 i68_10 (ce_10 _ _ _) rfl ?_
      obtain ⟨q36, er35, h1⟩ := bind_some h1
      replace h1 := un2_eq h1
      obtain ⟨r35, w34, rfl, h1⟩ := h1
      refine r_Vj1 (pc := 91) F dX1_walkNights_91 ml_1_61 (kX1_countOf _ 3 co3 w32 (r35, w34) er35) i68_10 (ce_10 _ _ _) (Nat.le_of_ble_eq_true rfl) (Nat.le_of_ble_eq_true rfl) (Nat.le_of_ble_eq_true rfl) ?_
      refine r_istore (pc := 94) (ls' := [(0, .ref ((zg Z).1 10)), (1, .int a1), (3, .int l9), (4, .int r35)]) F dX1_walkNights_94 (Nat.le_of_ble_eq_true rfl) rfl ?_
      refine r_aload_n (pc := 96) F dX1_walkNights_96 rfl ?_
      refine r_dup (pc := 97) F dX1_walkNights_97 rfl ?_
      refine r_getf (pc := 98) F dX1_walkNights_98 fl_1_105 i68_10 (ce_10 _ _ _) rfl ?_
      refine r_iload (pc := 101) F dX1_walkNights_101 rfl ?_
      refine r_iadd (pc := 103) F dX1_walkNights_103 ?_
      obtain ⟨w38, ew38, h1⟩ := lt_some h1
      refine r_putI (pc := 104) F dX1_walkNights_104 fl_1_105 fp_1_2 i68_10 (ce_10 _) (Nat.le_of_ble_eq_true rfl) rfl rfl rfl ew38 ?_
      refine r_aload_n (pc := 107) F dX1_walkNights_107 rfl ?_
      refine r_dup (pc := 108) F dX1_walkNights_108 rfl ?_
      refine r_getf (pc := 109) F dX1_walkNights_109 fl_1_108 i68_10 (ce_10 _ _ _) rfl ?_
      refine r_iload (pc := 112) F dX1_walkNights_112 rfl ?_
      obtain ⟨v40, hv40, h1⟩ := lt_some h1
      have hv40 := hv40.symm
      suffices Jv40 : V Z 122 [(0, .ref ((zg Z).1 10)), (1, .int a1), (3, .int l9), (4, .int r35)] [.int v40, .int (w38.1 10 3), .ref ((zg Z).1 10)] w38 by
        refine r_if_ne (pc := 114) (tgt := 121) F dX1_walkNights_114 rfl hv40 (fun hv40 => ?_) (fun hv40 => ?_)
        · refine r_iconst (pc := 117) F dX1_walkNights_117 ic_1 ?_
          refine r_goto (pc := 118) (tgt := 122) F dX1_walkNights_118 rfl ?_
          exact V_nm hv40.symm Jv40
        · refine r_iconst (pc := 121) F dX1_walkNights_121 ic_0 ?_
          exact V_nm hv40.symm Jv40
      refine r_iadd (pc := 122) F dX1_walkNights_122 ?_
      obtain ⟨w41, ew41, h1⟩ := lt_some h1
      refine r_putI (pc := 123) F dX1_walkNights_123 fl_1_108 fp_1_3 i68_10 (ce_10 _) (Nat.le_of_ble_eq_true rfl) rfl rfl rfl ew41 ?_
      obtain ⟨v43, ev43, h1⟩ := lt_some h1
      refine r_iinc (pc := 126) (ls' := [(0, .ref ((zg Z).1 10)), (1, .int a1), (3, .int v43), (4, .int r35)]) F dX1_walkNights_126 rfl (by rw [ev43]; rfl) (Nat.le_of_ble_eq_true rfl) rfl ?_
      refine r_goto (pc := 129) (tgt := 28) F dX1_walkNights_129 rfl ?_
      refine V_sub (ls' := [(0, .ref ((zg Z).1 10)), (1, .int a1), (3, .int v43)]) [0, 1, 2] rfl ?_
      exact hP1 (v43, w41) (Option.some.inj h1).symm
  exact hR _ _ _ dX1_walkNights_132 (Option.some.inj h0)
set_option maxRecDepth 100000 in
set_option maxHeartbeats 4000000 in
theorem kX9_seeds (g : GT) (w : Wd) (a1 : Int32) (a2 : Int32) (a3 : Int32) (out : Int32 × Wd) (h0 : fX9_seeds w a1 a2 a3 = some out) : CtI g yX9_seeds cX9_seeds 4 (some .int) 5 116 [.ref (g.1 0), .int a1, .int a2, .int a3] w (fun r w1 => (r, w1) = out) := by
  refine CtI_of .int (by decide) (Nat.le_of_ble_eq_true rfl) (fun Z hg F hR => ?_)
  subst hg
  have F : Fx Z RX9 cX9_seeds 4 5 116 := F
  refine V_sub (ls' := [(0, .ref ((zg Z).1 0)), (1, .int a1), (2, .int a2), (3, .int a3)]) [0, 1, 2, 3] rfl ?_
  unfold fX9_seeds at h0
  refine r_iload_n (pc := 0) F dX9_seeds_0 rfl ?_
  refine r_iconst (pc := 1) F dX9_seeds_1 ic_1 ?_
  refine r_icmp_ge (pc := 2) (tgt := 12) F dX9_seeds_2 rfl h0 (fun h0 => ?_) (fun h0 => ?_)
  · refine r_iload_n (pc := 12) F dX9_seeds_12 rfl ?_
    refine r_bipush (pc := 13) F dX9_seeds_13 bp_20 ?_
    refine r_icmp_le (pc := 15) (tgt := 25) F dX9_seeds_15 rfl h0 (fun h0 => ?_) (fun h0 => ?_)
    · refine r_iload_n (pc := 25) F dX9_seeds_25 rfl ?_
      refine r_iconst (pc := 26) F dX9_seeds_26 ic_1 ?_
      refine r_Si2 (pc := 27) F dX9_seeds_27 ml_9_115 (kX9_isOutside _ w a3 1 _ rfl) (Nat.le_of_ble_eq_true rfl) (Nat.le_of_ble_eq_true rfl) (Nat.le_of_ble_eq_true rfl) ?_
      refine r_if_eq (pc := 30) (tgt := 40) F dX9_seeds_30 rfl h0 (fun h0 => ?_) (fun h0 => ?_)
      · refine r_aload_n (pc := 40) F dX9_seeds_40 rfl ?_
        refine r_getf (pc := 41) F dX9_seeds_41 fl_9_68 i68_0 (ce_0 _ _ _) rfl ?_
        refine r_iload_n (pc := 44) F dX9_seeds_44 rfl ?_
        refine r_iload_n (pc := 45) F dX9_seeds_45 rfl ?_
        obtain ⟨w1, ew1, h0⟩ := bind_some h0
        refine r_Vv2 (pc := 46) F dX9_seeds_46 ml_9_296 (kX1_walkNights _ w a1 a2 w1 ew1) i68_10 (ce_10 _ _ _) (Nat.le_of_ble_eq_true rfl) (Nat.le_of_ble_eq_true rfl) (Nat.le_of_ble_eq_true rfl) ?_
        refine r_iload_n (pc := 49) F dX9_seeds_49 rfl ?_
        refine r_if_ne (pc := 50) (tgt := 63) F dX9_seeds_50 rfl h0 (fun h0 => ?_) (fun h0 => ?_)
        · refine r_aload_n (pc := 53) F dX9_seeds_53 rfl ?_
          refine r_getf (pc := 54) F dX9_seeds_54 fl_9_68 i68_0 (ce_0 _ _ _) rfl ?_
          refine r_getf (pc := 57) F dX9_seeds_57 fl_9_299 i68_10 (ce_10 _ _ _) rfl ?_
          refine r_goto (pc := 60) (tgt := 70) F dX9_seeds_60 rfl ?_
          exact hR _ _ _ _ dX9_seeds_70 rfl (Option.some.inj h0)
        · refine r_aload_n (pc := 63) F dX9_seeds_63 rfl ?_
          refine r_getf (pc := 64) F dX9_seeds_64 fl_9_68 i68_0 (ce_0 _ _ _) rfl ?_
          refine r_getf (pc := 67) F dX9_seeds_67 fl_9_302 i68_10 (ce_10 _ _ _) rfl ?_
          exact hR _ _ _ _ dX9_seeds_70 rfl (Option.some.inj h0)
      · refine r_aload_n (pc := 33) F dX9_seeds_33 rfl ?_
        refine r_bipush (pc := 34) F dX9_seeds_34 bp_m2 ?_
        obtain ⟨q6, er5, h0⟩ := bind_some h0
        replace h0 := un2_eq h0
        obtain ⟨r5, w4, rfl, h0⟩ := h0
        refine r_Vj1 (pc := 36) F dX9_seeds_36 ml_9_85 (kX9_refuse _ w (-2) (r5, w4) er5) i68_0 (ce_0 _ _ _) (Nat.le_of_ble_eq_true rfl) (Nat.le_of_ble_eq_true rfl) (Nat.le_of_ble_eq_true rfl) ?_
        exact hR _ _ _ _ dX9_seeds_39 rfl (Option.some.inj h0)
    · refine r_aload_n (pc := 18) F dX9_seeds_18 rfl ?_
      refine r_bipush (pc := 19) F dX9_seeds_19 bp_m6 ?_
      obtain ⟨q11, er10, h0⟩ := bind_some h0
      replace h0 := un2_eq h0
      obtain ⟨r10, w9, rfl, h0⟩ := h0
      refine r_Vj1 (pc := 21) F dX9_seeds_21 ml_9_85 (kX9_refuse _ w (-6) (r10, w9) er10) i68_0 (ce_0 _ _ _) (Nat.le_of_ble_eq_true rfl) (Nat.le_of_ble_eq_true rfl) (Nat.le_of_ble_eq_true rfl) ?_
      exact hR _ _ _ _ dX9_seeds_24 rfl (Option.some.inj h0)
  · refine r_aload_n (pc := 5) F dX9_seeds_5 rfl ?_
    refine r_bipush (pc := 6) F dX9_seeds_6 bp_m4 ?_
    obtain ⟨q16, er15, h0⟩ := bind_some h0
    replace h0 := un2_eq h0
    obtain ⟨r15, w14, rfl, h0⟩ := h0
    refine r_Vj1 (pc := 8) F dX9_seeds_8 ml_9_85 (kX9_refuse _ w (-4) (r15, w14) er15) i68_0 (ce_0 _ _ _) (Nat.le_of_ble_eq_true rfl) (Nat.le_of_ble_eq_true rfl) (Nat.le_of_ble_eq_true rfl) ?_
    exact hR _ _ _ _ dX9_seeds_11 rfl (Option.some.inj h0)
set_option maxRecDepth 100000 in
set_option maxHeartbeats 4000000 in
theorem kX5_takeBack (g : GT) (b1 : Nat) (hb1 : isCo b1) (w : Wd) (out : Wd) (h0 : fX5_takeBack b1 w = some out) : CtV g yX5_takeBack cX5_takeBack 2 none 0 0 [.ref (g.1 5), .ref (g.1 b1)] w (fun w1 => w1 = out) := by
  refine CtV_of (by decide) (Nat.le_of_ble_eq_true rfl) (fun Z hg F hR => ?_)
  subst hg
  have F : Fx Z RX5 cX5_takeBack 2 0 0 := F
  refine V_sub (ls' := [(0, .ref ((zg Z).1 5)), (1, .ref ((zg Z).1 b1))]) [0, 1] rfl ?_
  unfold fX5_takeBack at h0
  refine r_aload_n (pc := 0) F dX5_takeBack_0 rfl ?_
  refine r_getf (pc := 1) F dX5_takeBack_1 fl_5_19 i68_5 (ce_5 _ _ _) rfl ?_
  refine r_if_le (pc := 4) (tgt := 56) F dX5_takeBack_4 rfl h0 (fun h0 => ?_) (fun h0 => ?_)
  · exact hR _ _ _ dX5_takeBack_56 (Option.some.inj h0)
  · refine r_aload_n (pc := 7) F dX5_takeBack_7 rfl ?_
    refine r_dup (pc := 8) F dX5_takeBack_8 rfl ?_
    refine r_getf (pc := 9) F dX5_takeBack_9 fl_5_19 i68_5 (ce_5 _ _ _) rfl ?_
    refine r_iconst (pc := 12) F dX5_takeBack_12 ic_1 ?_
    refine r_isub (pc := 13) F dX5_takeBack_13 ?_
    obtain ⟨w1, ew1, h0⟩ := lt_some h0
    refine r_putI (pc := 14) F dX5_takeBack_14 fl_5_19 fp_5_0 i68_5 (ce_5 _) (Nat.le_of_ble_eq_true rfl) rfl rfl rfl ew1 ?_
    refine r_aload_n (pc := 17) F dX5_takeBack_17 rfl ?_
    refine r_aload_n (pc := 18) F dX5_takeBack_18 rfl ?_
    refine r_getf (pc := 19) F dX5_takeBack_19 fl_5_9 i68_5 (ce_5 _ _ _) rfl ?_
    refine r_aload_n (pc := 22) F dX5_takeBack_22 rfl ?_
    refine r_getf (pc := 23) F dX5_takeBack_23 fl_5_19 i68_5 (ce_5 _ _ _) rfl ?_
    obtain ⟨g3, h0⟩ := gd_some h0
    refine r_iald (pc := 26) F dX5_takeBack_26 i68_30 (ca_30 _) g3 rfl ?_
    obtain ⟨w4, ew4, h0⟩ := lt_some h0
    refine r_putI (pc := 27) F dX5_takeBack_27 fl_5_26 fp_2_1 (lt_Co hb1) (ce_Co hb1 _) (Nat.le_of_ble_eq_true rfl) rfl rfl rfl ew4 ?_
    refine r_aload_n (pc := 30) F dX5_takeBack_30 rfl ?_
    refine r_aload_n (pc := 31) F dX5_takeBack_31 rfl ?_
    refine r_getf (pc := 32) F dX5_takeBack_32 fl_5_13 i68_5 (ce_5 _ _ _) rfl ?_
    refine r_aload_n (pc := 35) F dX5_takeBack_35 rfl ?_
    refine r_getf (pc := 36) F dX5_takeBack_36 fl_5_19 i68_5 (ce_5 _ _ _) rfl ?_
    obtain ⟨g6, h0⟩ := gd_some h0
    refine r_iald (pc := 39) F dX5_takeBack_39 i68_31 (ca_31 _) g6 rfl ?_
    obtain ⟨w7, ew7, h0⟩ := lt_some h0
    refine r_putI (pc := 40) F dX5_takeBack_40 fl_5_31 fp_2_5 (lt_Co hb1) (ce_Co hb1 _) (Nat.le_of_ble_eq_true rfl) rfl rfl rfl ew7 ?_
    refine r_aload_n (pc := 43) F dX5_takeBack_43 rfl ?_
    refine r_aload_n (pc := 44) F dX5_takeBack_44 rfl ?_
    refine r_getf (pc := 45) F dX5_takeBack_45 fl_5_16 i68_5 (ce_5 _ _ _) rfl ?_
    refine r_aload_n (pc := 48) F dX5_takeBack_48 rfl ?_
    refine r_getf (pc := 49) F dX5_takeBack_49 fl_5_19 i68_5 (ce_5 _ _ _) rfl ?_
    obtain ⟨g9, h0⟩ := gd_some h0
    refine r_iald (pc := 52) F dX5_takeBack_52 i68_32 (ca_32 _) g9 rfl ?_
    obtain ⟨w10, ew10, h0⟩ := lt_some h0
    refine r_putI (pc := 53) F dX5_takeBack_53 fl_5_34 fp_2_6 (lt_Co hb1) (ce_Co hb1 _) (Nat.le_of_ble_eq_true rfl) rfl rfl rfl ew10 ?_
    exact hR _ _ _ dX5_takeBack_56 (Option.some.inj h0)
set_option maxRecDepth 100000 in
set_option maxHeartbeats 4000000 in
theorem kX9_back (g : GT) (w : Wd) (out : Int32 × Wd) (h0 : fX9_back w = some out) : CtI g yX9_back cX9_back 1 (some .int) 1 22 [.ref (g.1 0)] w (fun r w1 => (r, w1) = out) := by
  refine CtI_of .int (by decide) (Nat.le_of_ble_eq_true rfl) (fun Z hg F hR => ?_)
  subst hg
  have F : Fx Z RX9 cX9_back 1 1 22 := F
  refine V_sub (ls' := [(0, .ref ((zg Z).1 0))]) [0] rfl ?_
  unfold fX9_back at h0
  refine r_aload_n (pc := 0) F dX9_back_0 rfl ?_
  refine r_getf (pc := 1) F dX9_back_1 fl_9_29 i68_0 (ce_0 _ _ _) rfl ?_
  refine r_getf (pc := 4) F dX9_back_4 fl_9_305 i68_5 (ce_5 _ _ _) rfl ?_
  refine r_if_ne (pc := 7) (tgt := 17) F dX9_back_7 rfl h0 (fun h0 => ?_) (fun h0 => ?_)
  · refine r_aload_n (pc := 10) F dX9_back_10 rfl ?_
    refine r_bipush (pc := 11) F dX9_back_11 bp_m3 ?_
    obtain ⟨q3, er2, h0⟩ := bind_some h0
    replace h0 := un2_eq h0
    obtain ⟨r2, w1, rfl, h0⟩ := h0
    refine r_Vj1 (pc := 13) F dX9_back_13 ml_9_85 (kX9_refuse _ w (-3) (r2, w1) er2) i68_0 (ce_0 _ _ _) (Nat.le_of_ble_eq_true rfl) (Nat.le_of_ble_eq_true rfl) (Nat.le_of_ble_eq_true rfl) ?_
    exact hR _ _ _ _ dX9_back_16 rfl (Option.some.inj h0)
  · refine r_aload_n (pc := 17) F dX9_back_17 rfl ?_
    refine r_getf (pc := 18) F dX9_back_18 fl_9_29 i68_0 (ce_0 _ _ _) rfl ?_
    refine r_aload_n (pc := 21) F dX9_back_21 rfl ?_
    refine r_getf (pc := 22) F dX9_back_22 fl_9_10 i68_0 (ce_0 _ _ _) rfl ?_
    obtain ⟨w5, ew5, h0⟩ := bind_some h0
    refine r_Vv1 (pc := 25) F dX9_back_25 ml_9_306 (kX5_takeBack _ 1 co1 w w5 ew5) i68_5 (ce_5 _ _ _) (Nat.le_of_ble_eq_true rfl) (Nat.le_of_ble_eq_true rfl) (Nat.le_of_ble_eq_true rfl) ?_
    refine r_aload_n (pc := 28) F dX9_back_28 rfl ?_
    refine r_getf (pc := 29) F dX9_back_29 fl_9_10 i68_0 (ce_0 _ _ _) rfl ?_
    refine r_getf (pc := 32) F dX9_back_32 fl_9_155 i68_1 (ce_1 _ _ _) rfl ?_
    exact hR _ _ _ _ dX9_back_35 rfl (Option.some.inj h0)
set_option maxRecDepth 100000 in
set_option maxHeartbeats 4000000 in
theorem kX4_calmMinutes (g : GT) (w : Wd) (out : Int32 × Wd) (h0 : fX4_calmMinutes w = some out) : CtI g yX4_calmMinutes cX4_calmMinutes 3 (some .int) 3 71 [.ref (g.1 8)] w (fun r w1 => (r, w1) = out) := by
  refine CtI_of .int (by decide) (Nat.le_of_ble_eq_true rfl) (fun Z hg F hR => ?_)
  subst hg
  have F : Fx Z RX4 cX4_calmMinutes 3 3 71 := F
  refine V_sub (ls' := [(0, .ref ((zg Z).1 8))]) [0] rfl ?_
  unfold fX4_calmMinutes at h0
  refine r_aload_n (pc := 0) F dX4_calmMinutes_0 rfl ?_
  refine r_getf (pc := 1) F dX4_calmMinutes_1 fl_4_15 i68_8 (ce_8 _ _ _) rfl ?_
  refine r_aload_n (pc := 4) F dX4_calmMinutes_4 rfl ?_
  refine r_getf (pc := 5) F dX4_calmMinutes_5 fl_4_9 i68_8 (ce_8 _ _ _) rfl ?_
  obtain ⟨w1, ew1, h0⟩ := bind_some h0
  refine r_Vv1 (pc := 8) F dX4_calmMinutes_8 ml_4_48 (kX8_setOut _ 1 co1 w w1 ew1) i68_4 (ce_4 _ _ _) (Nat.le_of_ble_eq_true rfl) (Nat.le_of_ble_eq_true rfl) (Nat.le_of_ble_eq_true rfl) ?_
  refine r_aload_n (pc := 11) F dX4_calmMinutes_11 rfl ?_
  refine r_getf (pc := 12) F dX4_calmMinutes_12 fl_4_9 i68_8 (ce_8 _ _ _) rfl ?_
  refine r_getf (pc := 15) F dX4_calmMinutes_15 fl_4_52 i68_1 (ce_1 _ _ _) rfl ?_
  obtain ⟨v3, ev3, h0⟩ := lt_some h0
  refine V_nm ev3 ?_
  refine r_istore_n (pc := 18) (ls' := [(0, .ref ((zg Z).1 8)), (1, .int v3)]) F dX4_calmMinutes_18 (Nat.le_of_ble_eq_true rfl) rfl ?_
  refine r_iconst (pc := 19) F dX4_calmMinutes_19 ic_0 ?_
  refine r_istore_n (pc := 20) (ls' := [(0, .ref ((zg Z).1 8)), (1, .int v3), (2, .int 0)]) F dX4_calmMinutes_20 (Nat.le_of_ble_eq_true rfl) rfl ?_
  refine iter_rule (P := fun s : Int32 × Int32 × Wd => V Z 21 [(0, .ref ((zg Z).1 8)), (1, .int (s.1)), (2, .int (s.2.1))] [] s.2.2) (x := out) ?_ FU (v3, 0, w1) h0
  intro s y1 h1 hP1 hX1
  obtain ⟨l4, l5, w6⟩ := s
  have h1 : fX4_calmMinutes_b21 l4 l5 w6 = some y1 := h1
  unfold fX4_calmMinutes_b21 at h1
  refine r_iload_n (pc := 21) F dX4_calmMinutes_21 rfl ?_
  refine r_bipush (pc := 22) F dX4_calmMinutes_22 bp_60 ?_
  refine r_icmp_gt (pc := 24) (tgt := 55) F dX4_calmMinutes_24 rfl h1 (fun h1 => ?_) (fun h1 => ?_)
  · refine r_bipush (pc := 55) F dX4_calmMinutes_55 bp_m9 ?_
    have h0 := congrArg some (hX1 _ (Option.some.inj h1).symm)
    exact hR _ _ _ _ dX4_calmMinutes_57 rfl (Option.some.inj h0)
  · refine r_iload_n (pc := 27) F dX4_calmMinutes_27 rfl ?_
    refine r_aload_n (pc := 28) F dX4_calmMinutes_28 rfl ?_
    refine r_getf (pc := 29) F dX4_calmMinutes_29 fl_4_15 i68_8 (ce_8 _ _ _) rfl ?_
    refine r_getf (pc := 32) F dX4_calmMinutes_32 fl_4_108 i68_4 (ce_4 _ _ _) rfl ?_
    refine r_icmp_ne (pc := 35) (tgt := 40) F dX4_calmMinutes_35 rfl h1 (fun h1 => ?_) (fun h1 => ?_)
    · refine r_iload_n (pc := 38) F dX4_calmMinutes_38 rfl ?_
      have h0 := congrArg some (hX1 _ (Option.some.inj h1).symm)
      exact hR _ _ _ _ dX4_calmMinutes_39 rfl (Option.some.inj h0)
    · refine r_aload_n (pc := 40) F dX4_calmMinutes_40 rfl ?_
      refine r_getf (pc := 41) F dX4_calmMinutes_41 fl_4_15 i68_8 (ce_8 _ _ _) rfl ?_
      refine r_iload_n (pc := 44) F dX4_calmMinutes_44 rfl ?_
      obtain ⟨q9, er8, h1⟩ := bind_some h1
      replace h1 := un2_eq h1
      obtain ⟨r8, w7, rfl, h1⟩ := h1
      refine r_Vj1 (pc := 45) F dX4_calmMinutes_45 ml_4_118 (kX8_relight _ w6 l4 (r8, w7) er8) i68_4 (ce_4 _ _ _) (Nat.le_of_ble_eq_true rfl) (Nat.le_of_ble_eq_true rfl) (Nat.le_of_ble_eq_true rfl) ?_
      refine r_istore_n (pc := 48) (ls' := [(0, .ref ((zg Z).1 8)), (1, .int r8), (2, .int l5)]) F dX4_calmMinutes_48 (Nat.le_of_ble_eq_true rfl) rfl ?_
      obtain ⟨v11, ev11, h1⟩ := lt_some h1
      refine r_iinc (pc := 49) (ls' := [(0, .ref ((zg Z).1 8)), (1, .int r8), (2, .int v11)]) F dX4_calmMinutes_49 rfl (by rw [ev11]; rfl) (Nat.le_of_ble_eq_true rfl) rfl ?_
      refine r_goto (pc := 52) (tgt := 21) F dX4_calmMinutes_52 rfl ?_
      exact hP1 (r8, v11, w7) (Option.some.inj h1).symm
set_option maxRecDepth 100000 in
set_option maxHeartbeats 4000000 in
theorem kX9_all (g : GT) (w : Wd) (out : Int32 × Wd) (h0 : fX9_all w = some out) : CtI g yX9_all cX9_all 1 (some .int) 4 93 [.ref (g.1 0)] w (fun r w1 => (r, w1) = out) := by
  refine CtI_of .int (by decide) (Nat.le_of_ble_eq_true rfl) (fun Z hg F hR => ?_)
  subst hg
  have F : Fx Z RX9 cX9_all 1 4 93 := F
  refine V_sub (ls' := [(0, .ref ((zg Z).1 0))]) [0] rfl ?_
  unfold fX9_all at h0
  refine r_aload_n (pc := 0) F dX9_all_0 rfl ?_
  refine r_getf (pc := 1) F dX9_all_1 fl_9_52 i68_0 (ce_0 _ _ _) rfl ?_
  obtain ⟨q3, er2, h0⟩ := bind_some h0
  replace h0 := un2_eq h0
  obtain ⟨r2, w1, rfl, h0⟩ := h0
  refine r_Vj0 (pc := 4) F dX9_all_4 ml_9_309 (kX4_calmMinutes _ w (r2, w1) er2) i68_8 (ce_8 _ _ _) (Nat.le_of_ble_eq_true rfl) (Nat.le_of_ble_eq_true rfl) (Nat.le_of_ble_eq_true rfl) ?_
  exact hR _ _ _ _ dX9_all_7 rfl (Option.some.inj h0)
set_option maxRecDepth 100000 in
set_option maxHeartbeats 4000000 in
theorem kX4_calmBehind (g : GT) (w : Wd) (a1 : Int32) (out : Int32 × Wd) (h0 : fX4_calmBehind w a1 = some out) : CtI g yX4_calmBehind cX4_calmBehind 4 (some .int) 3 71 [.ref (g.1 8), .int a1] w (fun r w1 => (r, w1) = out) := by
  refine CtI_of .int (by decide) (Nat.le_of_ble_eq_true rfl) (fun Z hg F hR => ?_)
  subst hg
  have F : Fx Z RX4 cX4_calmBehind 4 3 71 := F
  refine V_sub (ls' := [(0, .ref ((zg Z).1 8)), (1, .int a1)]) [0, 1] rfl ?_
  unfold fX4_calmBehind at h0
  refine r_aload_n (pc := 0) F dX4_calmBehind_0 rfl ?_
  refine r_getf (pc := 1) F dX4_calmBehind_1 fl_4_15 i68_8 (ce_8 _ _ _) rfl ?_
  refine r_aload_n (pc := 4) F dX4_calmBehind_4 rfl ?_
  refine r_getf (pc := 5) F dX4_calmBehind_5 fl_4_9 i68_8 (ce_8 _ _ _) rfl ?_
  obtain ⟨w1, ew1, h0⟩ := bind_some h0
  refine r_Vv1 (pc := 8) F dX4_calmBehind_8 ml_4_48 (kX8_setOut _ 1 co1 w w1 ew1) i68_4 (ce_4 _ _ _) (Nat.le_of_ble_eq_true rfl) (Nat.le_of_ble_eq_true rfl) (Nat.le_of_ble_eq_true rfl) ?_
  refine r_aload_n (pc := 11) F dX4_calmBehind_11 rfl ?_
  refine r_getf (pc := 12) F dX4_calmBehind_12 fl_4_9 i68_8 (ce_8 _ _ _) rfl ?_
  refine r_getf (pc := 15) F dX4_calmBehind_15 fl_4_52 i68_1 (ce_1 _ _ _) rfl ?_
  obtain ⟨v3, ev3, h0⟩ := lt_some h0
  refine V_nm ev3 ?_
  refine r_istore_n (pc := 18) (ls' := [(0, .ref ((zg Z).1 8)), (1, .int a1), (2, .int v3)]) F dX4_calmBehind_18 (Nat.le_of_ble_eq_true rfl) rfl ?_
  refine r_iconst (pc := 19) F dX4_calmBehind_19 ic_0 ?_
  refine r_istore_n (pc := 20) (ls' := [(0, .ref ((zg Z).1 8)), (1, .int a1), (2, .int v3), (3, .int 0)]) F dX4_calmBehind_20 (Nat.le_of_ble_eq_true rfl) rfl ?_
  obtain ⟨x14, ix14, h0⟩ := bind_some h0
  replace h0 := un2_eq h0
  obtain ⟨l15, w16, rfl, h0⟩ := h0
  suffices E21 : V Z 41 [(2, .int l15)] [] w16 by
    refine iter_rule (P := fun s : Int32 × Int32 × Wd => V Z 21 [(0, .ref ((zg Z).1 8)), (1, .int a1), (2, .int (s.1)), (3, .int (s.2.1))] [] s.2.2) (x := (l15, w16)) ?_ FU (v3, 0, w1) ix14
    intro s y1 h1 hP1 hX1
    obtain ⟨l4, l5, w6⟩ := s
    have h1 : fX4_calmBehind_b21 a1 l4 l5 w6 = some y1 := h1
    unfold fX4_calmBehind_b21 at h1
    refine r_iload_n (pc := 21) F dX4_calmBehind_21 rfl ?_
    refine r_iload_n (pc := 22) F dX4_calmBehind_22 rfl ?_
    refine r_icmp_ge (pc := 23) (tgt := 41) F dX4_calmBehind_23 rfl h1 (fun h1 => ?_) (fun h1 => ?_)
    · refine V_sub (ls' := [(2, .int l4)]) [2] rfl ?_
      have e7 := hX1 _ (Option.some.inj h1).symm
      cases e7
      exact E21
    · refine r_aload_n (pc := 26) F dX4_calmBehind_26 rfl ?_
      refine r_getf (pc := 27) F dX4_calmBehind_27 fl_4_15 i68_8 (ce_8 _ _ _) rfl ?_
      refine r_iload_n (pc := 30) F dX4_calmBehind_30 rfl ?_
      obtain ⟨q10, er9, h1⟩ := bind_some h1
      replace h1 := un2_eq h1
      obtain ⟨r9, w8, rfl, h1⟩ := h1
      refine r_Vj1 (pc := 31) F dX4_calmBehind_31 ml_4_118 (kX8_relight _ w6 l4 (r9, w8) er9) i68_4 (ce_4 _ _ _) (Nat.le_of_ble_eq_true rfl) (Nat.le_of_ble_eq_true rfl) (Nat.le_of_ble_eq_true rfl) ?_
      refine r_istore_n (pc := 34) (ls' := [(0, .ref ((zg Z).1 8)), (1, .int a1), (2, .int r9), (3, .int l5)]) F dX4_calmBehind_34 (Nat.le_of_ble_eq_true rfl) rfl ?_
      obtain ⟨v12, ev12, h1⟩ := lt_some h1
      refine r_iinc (pc := 35) (ls' := [(0, .ref ((zg Z).1 8)), (1, .int a1), (2, .int r9), (3, .int v12)]) F dX4_calmBehind_35 rfl (by rw [ev12]; rfl) (Nat.le_of_ble_eq_true rfl) rfl ?_
      refine r_goto (pc := 38) (tgt := 21) F dX4_calmBehind_38 rfl ?_
      exact hP1 (r9, v12, w8) (Option.some.inj h1).symm
  refine r_iload_n (pc := 41) F dX4_calmBehind_41 rfl ?_
  exact hR _ _ _ _ dX4_calmBehind_42 rfl (Option.some.inj h0)
set_option maxRecDepth 100000 in
set_option maxHeartbeats 4000000 in
theorem kX9_behind (g : GT) (w : Wd) (a1 : Int32) (out : Int32 × Wd) (h0 : fX9_behind w a1 = some out) : CtI g yX9_behind cX9_behind 2 (some .int) 4 94 [.ref (g.1 0), .int a1] w (fun r w1 => (r, w1) = out) := by
  refine CtI_of .int (by decide) (Nat.le_of_ble_eq_true rfl) (fun Z hg F hR => ?_)
  subst hg
  have F : Fx Z RX9 cX9_behind 2 4 94 := F
  refine V_sub (ls' := [(0, .ref ((zg Z).1 0)), (1, .int a1)]) [0, 1] rfl ?_
  unfold fX9_behind at h0
  refine r_iload_n (pc := 0) F dX9_behind_0 rfl ?_
  refine r_if_ge (pc := 1) (tgt := 11) F dX9_behind_1 rfl h0 (fun h0 => ?_) (fun h0 => ?_)
  · refine r_iload_n (pc := 11) F dX9_behind_11 rfl ?_
    refine r_bipush (pc := 12) F dX9_behind_12 bp_60 ?_
    refine r_icmp_le (pc := 14) (tgt := 24) F dX9_behind_14 rfl h0 (fun h0 => ?_) (fun h0 => ?_)
    · refine r_aload_n (pc := 24) F dX9_behind_24 rfl ?_
      refine r_getf (pc := 25) F dX9_behind_25 fl_9_52 i68_0 (ce_0 _ _ _) rfl ?_
      refine r_iload_n (pc := 28) F dX9_behind_28 rfl ?_
      obtain ⟨q3, er2, h0⟩ := bind_some h0
      replace h0 := un2_eq h0
      obtain ⟨r2, w1, rfl, h0⟩ := h0
      refine r_Vj1 (pc := 29) F dX9_behind_29 ml_9_312 (kX4_calmBehind _ w a1 (r2, w1) er2) i68_8 (ce_8 _ _ _) (Nat.le_of_ble_eq_true rfl) (Nat.le_of_ble_eq_true rfl) (Nat.le_of_ble_eq_true rfl) ?_
      exact hR _ _ _ _ dX9_behind_32 rfl (Option.some.inj h0)
    · refine r_aload_n (pc := 17) F dX9_behind_17 rfl ?_
      refine r_bipush (pc := 18) F dX9_behind_18 bp_m6 ?_
      obtain ⟨q7, er6, h0⟩ := bind_some h0
      replace h0 := un2_eq h0
      obtain ⟨r6, w5, rfl, h0⟩ := h0
      refine r_Vj1 (pc := 20) F dX9_behind_20 ml_9_85 (kX9_refuse _ w (-6) (r6, w5) er6) i68_0 (ce_0 _ _ _) (Nat.le_of_ble_eq_true rfl) (Nat.le_of_ble_eq_true rfl) (Nat.le_of_ble_eq_true rfl) ?_
      exact hR _ _ _ _ dX9_behind_23 rfl (Option.some.inj h0)
  · refine r_aload_n (pc := 4) F dX9_behind_4 rfl ?_
    refine r_bipush (pc := 5) F dX9_behind_5 bp_m4 ?_
    obtain ⟨q12, er11, h0⟩ := bind_some h0
    replace h0 := un2_eq h0
    obtain ⟨r11, w10, rfl, h0⟩ := h0
    refine r_Vj1 (pc := 7) F dX9_behind_7 ml_9_85 (kX9_refuse _ w (-4) (r11, w10) er11) i68_0 (ce_0 _ _ _) (Nat.le_of_ble_eq_true rfl) (Nat.le_of_ble_eq_true rfl) (Nat.le_of_ble_eq_true rfl) ?_
    exact hR _ _ _ _ dX9_behind_10 rfl (Option.some.inj h0)
set_option maxRecDepth 100000 in
set_option maxHeartbeats 4000000 in
theorem kX4_enoughAtFirst (g : GT) (w : Wd) (out : Int32 × Wd) (h0 : fX4_enoughAtFirst w = some out) : CtI g yX4_enoughAtFirst cX4_enoughAtFirst 5 (some .int) 3 71 [.ref (g.1 8)] w (fun r w1 => (r, w1) = out) := by
  refine CtI_of .int (by decide) (Nat.le_of_ble_eq_true rfl) (fun Z hg F hR => ?_)
  subst hg
  have F : Fx Z RX4 cX4_enoughAtFirst 5 3 71 := F
  refine V_sub (ls' := [(0, .ref ((zg Z).1 8))]) [0] rfl ?_
  unfold fX4_enoughAtFirst at h0
  refine r_aload_n (pc := 0) F dX4_enoughAtFirst_0 rfl ?_
  refine r_getf (pc := 1) F dX4_enoughAtFirst_1 fl_4_15 i68_8 (ce_8 _ _ _) rfl ?_
  refine r_aload_n (pc := 4) F dX4_enoughAtFirst_4 rfl ?_
  refine r_getf (pc := 5) F dX4_enoughAtFirst_5 fl_4_9 i68_8 (ce_8 _ _ _) rfl ?_
  obtain ⟨w1, ew1, h0⟩ := bind_some h0
  refine r_Vv1 (pc := 8) F dX4_enoughAtFirst_8 ml_4_48 (kX8_setOut _ 1 co1 w w1 ew1) i68_4 (ce_4 _ _ _) (Nat.le_of_ble_eq_true rfl) (Nat.le_of_ble_eq_true rfl) (Nat.le_of_ble_eq_true rfl) ?_
  refine r_bipush (pc := 11) F dX4_enoughAtFirst_11 bp_m9 ?_
  refine r_istore_n (pc := 13) (ls' := [(0, .ref ((zg Z).1 8)), (1, .int (-9))]) F dX4_enoughAtFirst_13 (Nat.le_of_ble_eq_true rfl) rfl ?_
  refine r_bipush (pc := 14) F dX4_enoughAtFirst_14 bp_9 ?_
  refine r_istore_n (pc := 16) (ls' := [(0, .ref ((zg Z).1 8)), (1, .int (-9)), (2, .int 9)]) F dX4_enoughAtFirst_16 (Nat.le_of_ble_eq_true rfl) rfl ?_
  refine r_iconst (pc := 17) F dX4_enoughAtFirst_17 ic_0 ?_
  refine r_istore_n (pc := 18) (ls' := [(0, .ref ((zg Z).1 8)), (1, .int (-9)), (2, .int 9), (3, .int 0)]) F dX4_enoughAtFirst_18 (Nat.le_of_ble_eq_true rfl) rfl ?_
  obtain ⟨x21, ix21, h0⟩ := bind_some h0
  replace h0 := un2_eq h0
  obtain ⟨l22, w23, rfl, h0⟩ := h0
  suffices E19 : V Z 86 [(1, .int l22)] [] w23 by
    refine iter_rule (P := fun s : Int32 × Int32 × Int32 × Wd => V Z 19 [(0, .ref ((zg Z).1 8)), (1, .int (s.1)), (2, .int (s.2.1)), (3, .int (s.2.2.1))] [] s.2.2.2) (x := (l22, w23)) ?_ FU ((-9), 9, 0, w1) ix21
    intro s y1 h1 hP1 hX1
    obtain ⟨l3, l4, l5, w6⟩ := s
    have h1 : fX4_enoughAtFirst_b19 l3 l4 l5 w6 = some y1 := h1
    unfold fX4_enoughAtFirst_b19 at h1
    refine r_iload_n (pc := 19) F dX4_enoughAtFirst_19 rfl ?_
    refine r_aload_n (pc := 20) F dX4_enoughAtFirst_20 rfl ?_
    refine r_getf (pc := 21) F dX4_enoughAtFirst_21 fl_4_15 i68_8 (ce_8 _ _ _) rfl ?_
    refine r_getf (pc := 24) F dX4_enoughAtFirst_24 fl_4_108 i68_4 (ce_4 _ _ _) rfl ?_
    refine r_icmp_gt (pc := 27) (tgt := 86) F dX4_enoughAtFirst_27 rfl h1 (fun h1 => ?_) (fun h1 => ?_)
    · refine V_sub (ls' := [(1, .int l3)]) [1] rfl ?_
      have e7 := hX1 _ (Option.some.inj h1).symm
      cases e7
      exact E19
    · refine r_iload_n (pc := 30) F dX4_enoughAtFirst_30 rfl ?_
      refine r_Si1 (pc := 31) F dX4_enoughAtFirst_31 ml_4_80 (kJ6_bitCount_0f7a4 _ w6 l5 _ rfl) (Nat.le_of_ble_eq_true rfl) (Nat.le_of_ble_eq_true rfl) (Nat.le_of_ble_eq_true rfl) ?_
      obtain ⟨v8, ev8, h1⟩ := lt_some h1
      refine V_nm ev8 ?_
      refine r_istore (pc := 34) (ls' := [(0, .ref ((zg Z).1 8)), (1, .int l3), (2, .int l4), (3, .int l5), (4, .int v8)]) F dX4_enoughAtFirst_34 (Nat.le_of_ble_eq_true rfl) rfl ?_
      refine r_iload (pc := 36) F dX4_enoughAtFirst_36 rfl ?_
      refine r_iload_n (pc := 38) F dX4_enoughAtFirst_38 rfl ?_
      refine r_icmp_ge (pc := 39) (tgt := 80) F dX4_enoughAtFirst_39 rfl h1 (fun h1 => ?_) (fun h1 => ?_)
      · obtain ⟨v9, ev9, h1⟩ := lt_some h1
        refine r_iinc (pc := 80) (ls' := [(0, .ref ((zg Z).1 8)), (1, .int l3), (2, .int l4), (3, .int v9), (4, .int v8)]) F dX4_enoughAtFirst_80 rfl (by rw [ev9]; rfl) (Nat.le_of_ble_eq_true rfl) rfl ?_
        refine r_goto (pc := 83) (tgt := 19) F dX4_enoughAtFirst_83 rfl ?_
        refine V_sub (ls' := [(0, .ref ((zg Z).1 8)), (1, .int l3), (2, .int l4), (3, .int v9)]) [0, 1, 2, 3] rfl ?_
        exact hP1 (l3, l4, v9, w6) (Option.some.inj h1).symm
      · refine r_iload_n (pc := 42) F dX4_enoughAtFirst_42 rfl ?_
        refine r_aload_n (pc := 43) F dX4_enoughAtFirst_43 rfl ?_
        refine r_getf (pc := 44) F dX4_enoughAtFirst_44 fl_4_15 i68_8 (ce_8 _ _ _) rfl ?_
        refine r_getf (pc := 47) F dX4_enoughAtFirst_47 fl_4_108 i68_4 (ce_4 _ _ _) rfl ?_
        refine r_iconst (pc := 50) F dX4_enoughAtFirst_50 ic_m1 ?_
        refine r_ixor (pc := 51) F dX4_enoughAtFirst_51 ?_
        refine r_iand (pc := 52) F dX4_enoughAtFirst_52 ?_
        refine r_if_ne (pc := 53) (tgt := 80) F dX4_enoughAtFirst_53 rfl h1 (fun h1 => ?_) (fun h1 => ?_)
        · refine r_aload_n (pc := 56) F dX4_enoughAtFirst_56 rfl ?_
          refine r_getf (pc := 57) F dX4_enoughAtFirst_57 fl_4_15 i68_8 (ce_8 _ _ _) rfl ?_
          refine r_iconst (pc := 60) F dX4_enoughAtFirst_60 ic_0 ?_
          refine r_iload_n (pc := 61) F dX4_enoughAtFirst_61 rfl ?_
          obtain ⟨q12, er11, h1⟩ := bind_some h1
          replace h1 := un2_eq h1
          obtain ⟨r11, w10, rfl, h1⟩ := h1
          refine r_Vj2 (pc := 62) F dX4_enoughAtFirst_62 ml_4_115 (kX8_atDoorFrom _ w6 0 l5 (r11, w10) er11) i68_4 (ce_4 _ _ _) (Nat.le_of_ble_eq_true rfl) (Nat.le_of_ble_eq_true rfl) (Nat.le_of_ble_eq_true rfl) ?_
          refine r_aload_n (pc := 65) F dX4_enoughAtFirst_65 rfl ?_
          refine r_getf (pc := 66) F dX4_enoughAtFirst_66 fl_4_15 i68_8 (ce_8 _ _ _) rfl ?_
          refine r_getf (pc := 69) F dX4_enoughAtFirst_69 fl_4_108 i68_4 (ce_4 _ _ _) rfl ?_
          refine r_icmp_ne (pc := 72) (tgt := 80) F dX4_enoughAtFirst_72 rfl h1 (fun h1 => ?_) (fun h1 => ?_)
          · refine r_iload_n (pc := 75) F dX4_enoughAtFirst_75 rfl ?_
            refine r_istore_n (pc := 76) (ls' := [(0, .ref ((zg Z).1 8)), (1, .int l5), (2, .int l4), (3, .int l5), (4, .int v8)]) F dX4_enoughAtFirst_76 (Nat.le_of_ble_eq_true rfl) rfl ?_
            refine r_iload (pc := 77) F dX4_enoughAtFirst_77 rfl ?_
            refine r_istore_n (pc := 79) (ls' := [(0, .ref ((zg Z).1 8)), (1, .int l5), (2, .int v8), (3, .int l5), (4, .int v8)]) F dX4_enoughAtFirst_79 (Nat.le_of_ble_eq_true rfl) rfl ?_
            obtain ⟨v14, ev14, h1⟩ := lt_some h1
            refine r_iinc (pc := 80) (ls' := [(0, .ref ((zg Z).1 8)), (1, .int l5), (2, .int v8), (3, .int v14), (4, .int v8)]) F dX4_enoughAtFirst_80 rfl (by rw [ev14]; rfl) (Nat.le_of_ble_eq_true rfl) rfl ?_
            refine r_goto (pc := 83) (tgt := 19) F dX4_enoughAtFirst_83 rfl ?_
            refine V_sub (ls' := [(0, .ref ((zg Z).1 8)), (1, .int l5), (2, .int v8), (3, .int v14)]) [0, 1, 2, 3] rfl ?_
            exact hP1 (l5, v8, v14, w10) (Option.some.inj h1).symm
          · obtain ⟨v15, ev15, h1⟩ := lt_some h1
            refine r_iinc (pc := 80) (ls' := [(0, .ref ((zg Z).1 8)), (1, .int l3), (2, .int l4), (3, .int v15), (4, .int v8)]) F dX4_enoughAtFirst_80 rfl (by rw [ev15]; rfl) (Nat.le_of_ble_eq_true rfl) rfl ?_
            refine r_goto (pc := 83) (tgt := 19) F dX4_enoughAtFirst_83 rfl ?_
            refine V_sub (ls' := [(0, .ref ((zg Z).1 8)), (1, .int l3), (2, .int l4), (3, .int v15)]) [0, 1, 2, 3] rfl ?_
            exact hP1 (l3, l4, v15, w10) (Option.some.inj h1).symm
        · obtain ⟨v17, ev17, h1⟩ := lt_some h1
          refine r_iinc (pc := 80) (ls' := [(0, .ref ((zg Z).1 8)), (1, .int l3), (2, .int l4), (3, .int v17), (4, .int v8)]) F dX4_enoughAtFirst_80 rfl (by rw [ev17]; rfl) (Nat.le_of_ble_eq_true rfl) rfl ?_
          refine r_goto (pc := 83) (tgt := 19) F dX4_enoughAtFirst_83 rfl ?_
          refine V_sub (ls' := [(0, .ref ((zg Z).1 8)), (1, .int l3), (2, .int l4), (3, .int v17)]) [0, 1, 2, 3] rfl ?_
          exact hP1 (l3, l4, v17, w6) (Option.some.inj h1).symm
  refine r_iload_n (pc := 86) F dX4_enoughAtFirst_86 rfl ?_
  exact hR _ _ _ _ dX4_enoughAtFirst_87 rfl (Option.some.inj h0)
set_option maxRecDepth 100000 in
set_option maxHeartbeats 4000000 in
theorem kX9_atFirst (g : GT) (w : Wd) (a1 : Int32) (out : Int32 × Wd) (h0 : fX9_atFirst w a1 = some out) : CtI g yX9_atFirst cX9_atFirst 2 (some .int) 4 95 [.ref (g.1 0), .int a1] w (fun r w1 => (r, w1) = out) := by
  refine CtI_of .int (by decide) (Nat.le_of_ble_eq_true rfl) (fun Z hg F hR => ?_)
  subst hg
  have F : Fx Z RX9 cX9_atFirst 2 4 95 := F
  refine V_sub (ls' := [(0, .ref ((zg Z).1 0)), (1, .int a1)]) [0, 1] rfl ?_
  unfold fX9_atFirst at h0
  refine r_iload_n (pc := 0) F dX9_atFirst_0 rfl ?_
  refine r_iconst (pc := 1) F dX9_atFirst_1 ic_1 ?_
  refine r_Si2 (pc := 2) F dX9_atFirst_2 ml_9_115 (kX9_isOutside _ w a1 1 _ rfl) (Nat.le_of_ble_eq_true rfl) (Nat.le_of_ble_eq_true rfl) (Nat.le_of_ble_eq_true rfl) ?_
  refine r_if_eq (pc := 5) (tgt := 15) F dX9_atFirst_5 rfl h0 (fun h0 => ?_) (fun h0 => ?_)
  · refine r_iload_n (pc := 15) F dX9_atFirst_15 rfl ?_
    refine r_aload_n (pc := 16) F dX9_atFirst_16 rfl ?_
    refine r_getf (pc := 17) F dX9_atFirst_17 fl_9_52 i68_0 (ce_0 _ _ _) rfl ?_
    obtain ⟨q3, er2, h0⟩ := bind_some h0
    replace h0 := un2_eq h0
    obtain ⟨r2, w1, rfl, h0⟩ := h0
    refine r_Vj0 (pc := 20) F dX9_atFirst_20 ml_9_315 (kX4_enoughAtFirst _ w (r2, w1) er2) i68_8 (ce_8 _ _ _) (Nat.le_of_ble_eq_true rfl) (Nat.le_of_ble_eq_true rfl) (Nat.le_of_ble_eq_true rfl) ?_
    refine r_Si2 (pc := 23) F dX9_atFirst_23 ml_9_234 (kX9_numberOrSet _ w1 a1 r2 _ rfl) (Nat.le_of_ble_eq_true rfl) (Nat.le_of_ble_eq_true rfl) (Nat.le_of_ble_eq_true rfl) ?_
    exact hR _ _ _ _ dX9_atFirst_26 rfl (Option.some.inj h0)
  · refine r_aload_n (pc := 8) F dX9_atFirst_8 rfl ?_
    refine r_bipush (pc := 9) F dX9_atFirst_9 bp_m2 ?_
    obtain ⟨q7, er6, h0⟩ := bind_some h0
    replace h0 := un2_eq h0
    obtain ⟨r6, w5, rfl, h0⟩ := h0
    refine r_Vj1 (pc := 11) F dX9_atFirst_11 ml_9_85 (kX9_refuse _ w (-2) (r6, w5) er6) i68_0 (ce_0 _ _ _) (Nat.le_of_ble_eq_true rfl) (Nat.le_of_ble_eq_true rfl) (Nat.le_of_ble_eq_true rfl) ?_
    exact hR _ _ _ _ dX9_atFirst_14 rfl (Option.some.inj h0)
set_option maxRecDepth 100000 in
set_option maxHeartbeats 4000000 in
theorem kX1_findForm (g : GT) (w : Wd) (out : Wd) (h0 : fX1_findForm w = some out) : CtV g yX1_findForm cX1_findForm 3 none 4 92 [.ref (g.1 10)] w (fun w1 => w1 = out) := by
  refine CtV_of (by decide) (Nat.le_of_ble_eq_true rfl) (fun Z hg F hR => ?_)
  subst hg
  have F : Fx Z RX1 cX1_findForm 3 4 92 := F
  refine V_sub (ls' := [(0, .ref ((zg Z).1 10))]) [0] rfl ?_
  unfold fX1_findForm at h0
  refine r_aload_n (pc := 0) F dX1_findForm_0 rfl ?_
  refine r_iconst (pc := 1) F dX1_findForm_1 ic_m1 ?_
  obtain ⟨w1, ew1, h0⟩ := lt_some h0
  refine r_Vv1 (pc := 2) F dX1_findForm_2 ml_1_39 (kX1_startSearch _ w (-1) w1 ew1.symm) i68_10 (ce_10 _ _ _) (Nat.le_of_ble_eq_true rfl) (Nat.le_of_ble_eq_true rfl) (Nat.le_of_ble_eq_true rfl) ?_
  refine r_aload_n (pc := 5) F dX1_findForm_5 rfl ?_
  refine r_getf (pc := 6) F dX1_findForm_6 fl_1_15 i68_10 (ce_10 _ _ _) rfl ?_
  refine r_aload_n (pc := 9) F dX1_findForm_9 rfl ?_
  refine r_getf (pc := 10) F dX1_findForm_10 fl_1_9 i68_10 (ce_10 _ _ _) rfl ?_
  obtain ⟨w3, ew3, h0⟩ := lt_some h0
  refine r_Vv1 (pc := 13) F dX1_findForm_13 ml_1_47 (kX2_takeFrom _ 3 co3 1 co1 w1 w3 ew3.symm) i68_3 (ce_3 _ _ _) (Nat.le_of_ble_eq_true rfl) (Nat.le_of_ble_eq_true rfl) (Nat.le_of_ble_eq_true rfl) ?_
  refine r_iconst (pc := 16) F dX1_findForm_16 ic_0 ?_
  refine r_istore_n (pc := 17) (ls' := [(0, .ref ((zg Z).1 10)), (1, .int 0)]) F dX1_findForm_17 (Nat.le_of_ble_eq_true rfl) rfl ?_
  obtain ⟨w29, iw29, h0⟩ := bind_some h0
  suffices E18 : V Z 76 [] [] w29 by
    refine iter_rule (P := fun s : Int32 × Wd => V Z 18 [(0, .ref ((zg Z).1 10)), (1, .int (s.1))] [] s.2) (x := w29) ?_ FU (0, w3) iw29
    intro s y1 h1 hP1 hX1
    obtain ⟨l5, w6⟩ := s
    have h1 : fX1_findForm_b18 l5 w6 = some y1 := h1
    unfold fX1_findForm_b18 at h1
    refine r_iload_n (pc := 18) F dX1_findForm_18 rfl ?_
    refine r_iconst (pc := 19) F dX1_findForm_19 ic_2 ?_
    refine r_icmp_gt (pc := 20) (tgt := 76) F dX1_findForm_20 rfl h1 (fun h1 => ?_) (fun h1 => ?_)
    · refine V_sub (ls' := []) [] rfl ?_
      have e7 := hX1 _ (Option.some.inj h1).symm
      cases e7
      exact E18
    · refine r_iconst (pc := 23) F dX1_findForm_23 ic_1 ?_
      refine r_istore_n (pc := 24) (ls' := [(0, .ref ((zg Z).1 10)), (1, .int l5), (2, .int 1)]) F dX1_findForm_24 (Nat.le_of_ble_eq_true rfl) rfl ?_
      obtain ⟨w24, iw24, h1⟩ := bind_some h1
      suffices E25 : V Z 70 [(0, .ref ((zg Z).1 10)), (1, .int l5)] [] w24 by
        refine iter_rule (P := fun s : Int32 × Wd => V Z 25 [(0, .ref ((zg Z).1 10)), (1, .int l5), (2, .int (s.1))] [] s.2) (x := w24) ?_ FU (1, w6) iw24
        intro s y2 h2 hP2 hX2
        obtain ⟨l8, w9⟩ := s
        have h2 : fX1_findForm_b25 l5 l8 w9 = some y2 := h2
        unfold fX1_findForm_b25 at h2
        refine r_iload_n (pc := 25) F dX1_findForm_25 rfl ?_
        refine r_iconst (pc := 26) F dX1_findForm_26 ic_2 ?_
        refine r_icmp_gt (pc := 27) (tgt := 70) F dX1_findForm_27 rfl h2 (fun h2 => ?_) (fun h2 => ?_)
        · refine V_sub (ls' := [(0, .ref ((zg Z).1 10)), (1, .int l5)]) [0, 1] rfl ?_
          have e10 := hX2 _ (Option.some.inj h2).symm
          cases e10
          exact E25
        · refine r_aload_n (pc := 30) F dX1_findForm_30 rfl ?_
          refine r_getf (pc := 31) F dX1_findForm_31 fl_1_15 i68_10 (ce_10 _ _ _) rfl ?_
          refine r_iload_n (pc := 34) F dX1_findForm_34 rfl ?_
          obtain ⟨w11, ew11, h2⟩ := lt_some h2
          refine r_putI (pc := 35) F dX1_findForm_35 fl_1_123 fp_2_2 i68_3 (ce_3 _) (Nat.le_of_ble_eq_true rfl) rfl rfl rfl ew11 ?_
          refine r_aload_n (pc := 38) F dX1_findForm_38 rfl ?_
          refine r_getf (pc := 39) F dX1_findForm_39 fl_1_15 i68_10 (ce_10 _ _ _) rfl ?_
          refine r_iload_n (pc := 42) F dX1_findForm_42 rfl ?_
          obtain ⟨w13, ew13, h2⟩ := lt_some h2
          refine r_putI (pc := 43) F dX1_findForm_43 fl_1_126 fp_2_3 i68_3 (ce_3 _) (Nat.le_of_ble_eq_true rfl) rfl rfl rfl ew13 ?_
          refine r_aload_n (pc := 46) F dX1_findForm_46 rfl ?_
          refine r_bipush (pc := 47) F dX1_findForm_47 bp_10 ?_
          refine r_iload_n (pc := 49) F dX1_findForm_49 rfl ?_
          refine r_imul (pc := 50) F dX1_findForm_50 ?_
          refine r_iload_n (pc := 51) F dX1_findForm_51 rfl ?_
          refine r_iadd (pc := 52) F dX1_findForm_52 ?_
          refine r_aload_n (pc := 53) F dX1_findForm_53 rfl ?_
          refine r_aload_n (pc := 54) F dX1_findForm_54 rfl ?_
          refine r_getf (pc := 55) F dX1_findForm_55 fl_1_15 i68_10 (ce_10 _ _ _) rfl ?_
          obtain ⟨q17, er16, h2⟩ := bind_some h2
          replace h2 := un2_eq h2
          obtain ⟨r16, w15, rfl, h2⟩ := h2
          refine r_Vj1 (pc := 58) F dX1_findForm_58 ml_1_61 (kX1_countOf _ 3 co3 w13 (r16, w15) er16) i68_10 (ce_10 _ _ _) (Nat.le_of_ble_eq_true rfl) (Nat.le_of_ble_eq_true rfl) (Nat.le_of_ble_eq_true rfl) ?_
          obtain ⟨w19, ew19, h2⟩ := lt_some h2
          refine r_Vv2 (pc := 61) F dX1_findForm_61 ml_1_55 (kX1_consider _ w15 ((10 * l5) + l8) r16 w19 ew19.symm) i68_10 (ce_10 _ _ _) (Nat.le_of_ble_eq_true rfl) (Nat.le_of_ble_eq_true rfl) (Nat.le_of_ble_eq_true rfl) ?_
          obtain ⟨v21, ev21, h2⟩ := lt_some h2
          refine r_iinc (pc := 64) (ls' := [(0, .ref ((zg Z).1 10)), (1, .int l5), (2, .int v21)]) F dX1_findForm_64 rfl (by rw [ev21]; rfl) (Nat.le_of_ble_eq_true rfl) rfl ?_
          refine r_goto (pc := 67) (tgt := 25) F dX1_findForm_67 rfl ?_
          exact hP2 (v21, w19) (Option.some.inj h2).symm
      obtain ⟨v26, ev26, h1⟩ := lt_some h1
      refine r_iinc (pc := 70) (ls' := [(0, .ref ((zg Z).1 10)), (1, .int v26)]) F dX1_findForm_70 rfl (by rw [ev26]; rfl) (Nat.le_of_ble_eq_true rfl) rfl ?_
      refine r_goto (pc := 73) (tgt := 18) F dX1_findForm_73 rfl ?_
      exact hP1 (v26, w24) (Option.some.inj h1).symm
  exact hR _ _ _ dX1_findForm_76 (Option.some.inj h0)
set_option maxRecDepth 100000 in
set_option maxHeartbeats 4000000 in
theorem kX9_forms (g : GT) (w : Wd) (a1 : Int32) (out : Int32 × Wd) (h0 : fX9_forms w a1 = some out) : CtI g yX9_forms cX9_forms 2 (some .int) 5 114 [.ref (g.1 0), .int a1] w (fun r w1 => (r, w1) = out) := by
  refine CtI_of .int (by decide) (Nat.le_of_ble_eq_true rfl) (fun Z hg F hR => ?_)
  subst hg
  have F : Fx Z RX9 cX9_forms 2 5 114 := F
  refine V_sub (ls' := [(0, .ref ((zg Z).1 0)), (1, .int a1)]) [0, 1] rfl ?_
  unfold fX9_forms at h0
  refine r_iload_n (pc := 0) F dX9_forms_0 rfl ?_
  refine r_iconst (pc := 1) F dX9_forms_1 ic_1 ?_
  refine r_Si2 (pc := 2) F dX9_forms_2 ml_9_115 (kX9_isOutside _ w a1 1 _ rfl) (Nat.le_of_ble_eq_true rfl) (Nat.le_of_ble_eq_true rfl) (Nat.le_of_ble_eq_true rfl) ?_
  refine r_if_eq (pc := 5) (tgt := 15) F dX9_forms_5 rfl h0 (fun h0 => ?_) (fun h0 => ?_)
  · refine r_aload_n (pc := 15) F dX9_forms_15 rfl ?_
    refine r_getf (pc := 16) F dX9_forms_16 fl_9_68 i68_0 (ce_0 _ _ _) rfl ?_
    obtain ⟨w1, ew1, h0⟩ := bind_some h0
    refine r_Vv0 (pc := 19) F dX9_forms_19 ml_9_318 (kX1_findForm _ w w1 ew1) i68_10 (ce_10 _ _ _) (Nat.le_of_ble_eq_true rfl) (Nat.le_of_ble_eq_true rfl) (Nat.le_of_ble_eq_true rfl) ?_
    refine r_iload_n (pc := 22) F dX9_forms_22 rfl ?_
    refine r_if_ne (pc := 23) (tgt := 36) F dX9_forms_23 rfl h0 (fun h0 => ?_) (fun h0 => ?_)
    · refine r_aload_n (pc := 26) F dX9_forms_26 rfl ?_
      refine r_getf (pc := 27) F dX9_forms_27 fl_9_68 i68_0 (ce_0 _ _ _) rfl ?_
      refine r_getf (pc := 30) F dX9_forms_30 fl_9_222 i68_10 (ce_10 _ _ _) rfl ?_
      refine r_goto (pc := 33) (tgt := 43) F dX9_forms_33 rfl ?_
      exact hR _ _ _ _ dX9_forms_43 rfl (Option.some.inj h0)
    · refine r_aload_n (pc := 36) F dX9_forms_36 rfl ?_
      refine r_getf (pc := 37) F dX9_forms_37 fl_9_68 i68_0 (ce_0 _ _ _) rfl ?_
      refine r_getf (pc := 40) F dX9_forms_40 fl_9_225 i68_10 (ce_10 _ _ _) rfl ?_
      exact hR _ _ _ _ dX9_forms_43 rfl (Option.some.inj h0)
  · refine r_aload_n (pc := 8) F dX9_forms_8 rfl ?_
    refine r_bipush (pc := 9) F dX9_forms_9 bp_m2 ?_
    obtain ⟨q6, er5, h0⟩ := bind_some h0
    replace h0 := un2_eq h0
    obtain ⟨r5, w4, rfl, h0⟩ := h0
    refine r_Vj1 (pc := 11) F dX9_forms_11 ml_9_85 (kX9_refuse _ w (-2) (r5, w4) er5) i68_0 (ce_0 _ _ _) (Nat.le_of_ble_eq_true rfl) (Nat.le_of_ble_eq_true rfl) (Nat.le_of_ble_eq_true rfl) ?_
    exact hR _ _ _ _ dX9_forms_14 rfl (Option.some.inj h0)
set_option maxRecDepth 100000 in
set_option maxHeartbeats 4000000 in
theorem kX6_stillAt (g : GT) (w : Wd) (a1 : Int32) (out : Int32 × Wd) (h0 : fX6_stillAt w a1 = some out) : CtI g yX6_stillAt cX6_stillAt 3 (some .int) 0 0 [.ref (g.1 9), .int a1] w (fun r w1 => (r, w1) = out) := by
  refine CtI_of .int (by decide) (Nat.le_of_ble_eq_true rfl) (fun Z hg F hR => ?_)
  subst hg
  have F : Fx Z RX6 cX6_stillAt 3 0 0 := F
  refine V_sub (ls' := [(0, .ref ((zg Z).1 9)), (1, .int a1)]) [0, 1] rfl ?_
  unfold fX6_stillAt at h0
  refine r_aload_n (pc := 0) F dX6_stillAt_0 rfl ?_
  refine r_getf (pc := 1) F dX6_stillAt_1 fl_6_15 i68_9 (ce_9 _ _ _) rfl ?_
  refine r_getf (pc := 4) F dX6_stillAt_4 fl_6_106 i68_4 (ce_4 _ _ _) rfl ?_
  refine r_iload_n (pc := 7) F dX6_stillAt_7 rfl ?_
  obtain ⟨g1, h0⟩ := gd_some h0
  refine r_iald (pc := 8) F dX6_stillAt_8 i68_27 (ca_27 _) g1 rfl ?_
  obtain ⟨v2, ev2, h0⟩ := lt_some h0
  refine V_nm ev2 ?_
  refine r_istore_n (pc := 9) (ls' := [(0, .ref ((zg Z).1 9)), (1, .int a1), (2, .int v2)]) F dX6_stillAt_9 (Nat.le_of_ble_eq_true rfl) rfl ?_
  refine r_aload_n (pc := 10) F dX6_stillAt_10 rfl ?_
  refine r_getf (pc := 11) F dX6_stillAt_11 fl_6_15 i68_9 (ce_9 _ _ _) rfl ?_
  refine r_getf (pc := 14) F dX6_stillAt_14 fl_6_106 i68_4 (ce_4 _ _ _) rfl ?_
  refine r_iload_n (pc := 17) F dX6_stillAt_17 rfl ?_
  refine r_iconst (pc := 18) F dX6_stillAt_18 ic_0 ?_
  obtain ⟨w3, ew3, h0⟩ := lt_some h0
  refine r_iast (pc := 19) F dX6_stillAt_19 i68_27 (ca_27 _) g1 rfl ew3 ?_
  refine r_iload_n (pc := 20) F dX6_stillAt_20 rfl ?_
  exact hR _ _ _ _ dX6_stillAt_21 rfl (Option.some.inj h0)
set_option maxRecDepth 100000 in
set_option maxHeartbeats 4000000 in
theorem kX6_calmPlace (g : GT) (w : Wd) (out : Int32 × Wd) (h0 : fX6_calmPlace w = some out) : CtI g yX6_calmPlace cX6_calmPlace 6 (some .int) 5 110 [.ref (g.1 9)] w (fun r w1 => (r, w1) = out) := by
  refine CtI_of .int (by decide) (Nat.le_of_ble_eq_true rfl) (fun Z hg F hR => ?_)
  subst hg
  have F : Fx Z RX6 cX6_calmPlace 6 5 110 := F
  refine V_sub (ls' := [(0, .ref ((zg Z).1 9))]) [0] rfl ?_
  unfold fX6_calmPlace at h0
  refine r_aload_n (pc := 0) F dX6_calmPlace_0 rfl ?_
  obtain ⟨q3, er2, h0⟩ := bind_some h0
  replace h0 := un2_eq h0
  obtain ⟨r2, w1, rfl, h0⟩ := h0
  refine r_Vj0 (pc := 1) F dX6_calmPlace_1 ml_6_23 (kX6_startFromNow _ w (r2, w1) er2) i68_9 (ce_9 _ _ _) (Nat.le_of_ble_eq_true rfl) (Nat.le_of_ble_eq_true rfl) (Nat.le_of_ble_eq_true rfl) ?_
  refine r_istore_n (pc := 4) (ls' := [(0, .ref ((zg Z).1 9)), (1, .int r2)]) F dX6_calmPlace_4 (Nat.le_of_ble_eq_true rfl) rfl ?_
  refine r_bipush (pc := 5) F dX6_calmPlace_5 bp_m9 ?_
  refine r_istore_n (pc := 7) (ls' := [(0, .ref ((zg Z).1 9)), (1, .int r2), (2, .int (-9))]) F dX6_calmPlace_7 (Nat.le_of_ble_eq_true rfl) rfl ?_
  refine r_aload_n (pc := 8) F dX6_calmPlace_8 rfl ?_
  refine r_getf (pc := 9) F dX6_calmPlace_9 fl_6_11 i68_9 (ce_9 _ _ _) rfl ?_
  refine r_getf (pc := 12) F dX6_calmPlace_12 fl_6_71 i68_1 (ce_1 _ _ _) rfl ?_
  obtain ⟨v5, ev5, h0⟩ := lt_some h0
  refine V_nm ev5 ?_
  refine r_istore_n (pc := 15) (ls' := [(0, .ref ((zg Z).1 9)), (1, .int r2), (2, .int (-9)), (3, .int v5)]) F dX6_calmPlace_15 (Nat.le_of_ble_eq_true rfl) rfl ?_
  obtain ⟨x27, ix27, h0⟩ := bind_some h0
  replace h0 := un2_eq h0
  obtain ⟨l28, w29, rfl, h0⟩ := h0
  suffices E16 : V Z 82 [(2, .int l28)] [] w29 by
    refine iter_rule (P := fun s : Int32 × Int32 × Int32 × Wd => V Z 16 [(0, .ref ((zg Z).1 9)), (1, .int (s.1)), (2, .int (s.2.1)), (3, .int (s.2.2.1))] [] s.2.2.2) (x := (l28, w29)) ?_ FU (r2, (-9), v5, w1) ix27
    intro s y1 h1 hP1 hX1
    obtain ⟨l6, l7, l8, w9⟩ := s
    have h1 : fX6_calmPlace_b16 l6 l7 l8 w9 = some y1 := h1
    unfold fX6_calmPlace_b16 at h1
    refine r_iload_n (pc := 16) F dX6_calmPlace_16 rfl ?_
    refine r_aload_n (pc := 17) F dX6_calmPlace_17 rfl ?_
    refine r_getf (pc := 18) F dX6_calmPlace_18 fl_6_11 i68_9 (ce_9 _ _ _) rfl ?_
    refine r_getf (pc := 21) F dX6_calmPlace_21 fl_6_74 i68_1 (ce_1 _ _ _) rfl ?_
    refine r_icmp_ge (pc := 24) (tgt := 82) F dX6_calmPlace_24 rfl h1 (fun h1 => ?_) (fun h1 => ?_)
    · refine V_sub (ls' := [(2, .int l7)]) [2] rfl ?_
      have e10 := hX1 _ (Option.some.inj h1).symm
      cases e10
      exact E16
    · refine r_aload_n (pc := 27) F dX6_calmPlace_27 rfl ?_
      refine r_iload_n (pc := 28) F dX6_calmPlace_28 rfl ?_
      obtain ⟨q13, er12, h1⟩ := bind_some h1
      replace h1 := un2_eq h1
      obtain ⟨r12, w11, rfl, h1⟩ := h1
      refine r_Vj1 (pc := 29) F dX6_calmPlace_29 ml_6_103 (kX6_stillAt _ w9 l8 (r12, w11) er12) i68_9 (ce_9 _ _ _) (Nat.le_of_ble_eq_true rfl) (Nat.le_of_ble_eq_true rfl) (Nat.le_of_ble_eq_true rfl) ?_
      refine r_istore (pc := 32) (ls' := [(0, .ref ((zg Z).1 9)), (1, .int l6), (2, .int l7), (3, .int l8), (4, .int r12)]) F dX6_calmPlace_32 (Nat.le_of_ble_eq_true rfl) rfl ?_
      refine r_aload_n (pc := 34) F dX6_calmPlace_34 rfl ?_
      refine r_getf (pc := 35) F dX6_calmPlace_35 fl_6_15 i68_9 (ce_9 _ _ _) rfl ?_
      refine r_iconst (pc := 38) F dX6_calmPlace_38 ic_0 ?_
      refine r_aload_n (pc := 39) F dX6_calmPlace_39 rfl ?_
      refine r_getf (pc := 40) F dX6_calmPlace_40 fl_6_11 i68_9 (ce_9 _ _ _) rfl ?_
      refine r_getf (pc := 43) F dX6_calmPlace_43 fl_6_66 i68_1 (ce_1 _ _ _) rfl ?_
      obtain ⟨q17, er16, h1⟩ := bind_some h1
      replace h1 := un2_eq h1
      obtain ⟨r16, w15, rfl, h1⟩ := h1
      refine r_Vj2 (pc := 46) F dX6_calmPlace_46 ml_6_59 (kX8_atDoorFrom _ w11 0 (w11.1 1 1) (r16, w15) er16) i68_4 (ce_4 _ _ _) (Nat.le_of_ble_eq_true rfl) (Nat.le_of_ble_eq_true rfl) (Nat.le_of_ble_eq_true rfl) ?_
      refine r_Si1 (pc := 49) F dX6_calmPlace_49 ml_6_37 (kJ6_bitCount_0f7a4 _ w15 r16 _ rfl) (Nat.le_of_ble_eq_true rfl) (Nat.le_of_ble_eq_true rfl) (Nat.le_of_ble_eq_true rfl) ?_
      obtain ⟨v19, ev19, h1⟩ := lt_some h1
      refine V_nm ev19 ?_
      refine r_istore (pc := 52) (ls' := [(0, .ref ((zg Z).1 9)), (1, .int l6), (2, .int l7), (3, .int l8), (4, .int r12), (5, .int v19)]) F dX6_calmPlace_52 (Nat.le_of_ble_eq_true rfl) rfl ?_
      refine r_aload_n (pc := 54) F dX6_calmPlace_54 rfl ?_
      refine r_getf (pc := 55) F dX6_calmPlace_55 fl_6_15 i68_9 (ce_9 _ _ _) rfl ?_
      refine r_getf (pc := 58) F dX6_calmPlace_58 fl_6_106 i68_4 (ce_4 _ _ _) rfl ?_
      refine r_iload_n (pc := 61) F dX6_calmPlace_61 rfl ?_
      refine r_iload (pc := 62) F dX6_calmPlace_62 rfl ?_
      obtain ⟨g21, h1⟩ := gd_some h1
      obtain ⟨w20, ew20, h1⟩ := lt_some h1
      refine r_iast (pc := 64) F dX6_calmPlace_64 i68_27 (ca_27 _) g21 rfl ew20 ?_
      refine r_iload (pc := 65) F dX6_calmPlace_65 rfl ?_
      refine r_iload_n (pc := 67) F dX6_calmPlace_67 rfl ?_
      refine r_icmp_le (pc := 68) (tgt := 76) F dX6_calmPlace_68 rfl h1 (fun h1 => ?_) (fun h1 => ?_)
      · obtain ⟨v23, ev23, h1⟩ := lt_some h1
        refine r_iinc (pc := 76) (ls' := [(0, .ref ((zg Z).1 9)), (1, .int l6), (2, .int l7), (3, .int v23), (4, .int r12), (5, .int v19)]) F dX6_calmPlace_76 rfl (by rw [ev23]; rfl) (Nat.le_of_ble_eq_true rfl) rfl ?_
        refine r_goto (pc := 79) (tgt := 16) F dX6_calmPlace_79 rfl ?_
        refine V_sub (ls' := [(0, .ref ((zg Z).1 9)), (1, .int l6), (2, .int l7), (3, .int v23)]) [0, 1, 2, 3] rfl ?_
        exact hP1 (l6, l7, v23, w20) (Option.some.inj h1).symm
      · refine r_iload (pc := 71) F dX6_calmPlace_71 rfl ?_
        refine r_istore_n (pc := 73) (ls' := [(0, .ref ((zg Z).1 9)), (1, .int v19), (2, .int l7), (3, .int l8), (4, .int r12), (5, .int v19)]) F dX6_calmPlace_73 (Nat.le_of_ble_eq_true rfl) rfl ?_
        refine r_iload_n (pc := 74) F dX6_calmPlace_74 rfl ?_
        refine r_istore_n (pc := 75) (ls' := [(0, .ref ((zg Z).1 9)), (1, .int v19), (2, .int l8), (3, .int l8), (4, .int r12), (5, .int v19)]) F dX6_calmPlace_75 (Nat.le_of_ble_eq_true rfl) rfl ?_
        obtain ⟨v24, ev24, h1⟩ := lt_some h1
        refine r_iinc (pc := 76) (ls' := [(0, .ref ((zg Z).1 9)), (1, .int v19), (2, .int l8), (3, .int v24), (4, .int r12), (5, .int v19)]) F dX6_calmPlace_76 rfl (by rw [ev24]; rfl) (Nat.le_of_ble_eq_true rfl) rfl ?_
        refine r_goto (pc := 79) (tgt := 16) F dX6_calmPlace_79 rfl ?_
        refine V_sub (ls' := [(0, .ref ((zg Z).1 9)), (1, .int v19), (2, .int l8), (3, .int v24)]) [0, 1, 2, 3] rfl ?_
        exact hP1 (v19, l8, v24, w20) (Option.some.inj h1).symm
  refine r_iload_n (pc := 82) F dX6_calmPlace_82 rfl ?_
  exact hR _ _ _ _ dX6_calmPlace_83 rfl (Option.some.inj h0)
set_option maxRecDepth 100000 in
set_option maxHeartbeats 4000000 in
theorem kX6_calmPair (g : GT) (w : Wd) (out : Int32 × Wd) (h0 : fX6_calmPair w = some out) : CtI g yX6_calmPair cX6_calmPair 8 (some .int) 5 110 [.ref (g.1 9)] w (fun r w1 => (r, w1) = out) := by
  refine CtI_of .int (by decide) (Nat.le_of_ble_eq_true rfl) (fun Z hg F hR => ?_)
  subst hg
  have F : Fx Z RX6 cX6_calmPair 8 5 110 := F
  refine V_sub (ls' := [(0, .ref ((zg Z).1 9))]) [0] rfl ?_
  unfold fX6_calmPair at h0
  refine r_aload_n (pc := 0) F dX6_calmPair_0 rfl ?_
  obtain ⟨q3, er2, h0⟩ := bind_some h0
  replace h0 := un2_eq h0
  obtain ⟨r2, w1, rfl, h0⟩ := h0
  refine r_Vj0 (pc := 1) F dX6_calmPair_1 ml_6_23 (kX6_startFromNow _ w (r2, w1) er2) i68_9 (ce_9 _ _ _) (Nat.le_of_ble_eq_true rfl) (Nat.le_of_ble_eq_true rfl) (Nat.le_of_ble_eq_true rfl) ?_
  refine r_istore_n (pc := 4) (ls' := [(0, .ref ((zg Z).1 9)), (1, .int r2)]) F dX6_calmPair_4 (Nat.le_of_ble_eq_true rfl) rfl ?_
  refine r_bipush (pc := 5) F dX6_calmPair_5 bp_m9 ?_
  refine r_istore_n (pc := 7) (ls' := [(0, .ref ((zg Z).1 9)), (1, .int r2), (2, .int (-9))]) F dX6_calmPair_7 (Nat.le_of_ble_eq_true rfl) rfl ?_
  refine r_aload_n (pc := 8) F dX6_calmPair_8 rfl ?_
  refine r_getf (pc := 9) F dX6_calmPair_9 fl_6_11 i68_9 (ce_9 _ _ _) rfl ?_
  refine r_getf (pc := 12) F dX6_calmPair_12 fl_6_71 i68_1 (ce_1 _ _ _) rfl ?_
  obtain ⟨v5, ev5, h0⟩ := lt_some h0
  refine V_nm ev5 ?_
  refine r_istore_n (pc := 15) (ls' := [(0, .ref ((zg Z).1 9)), (1, .int r2), (2, .int (-9)), (3, .int v5)]) F dX6_calmPair_15 (Nat.le_of_ble_eq_true rfl) rfl ?_
  obtain ⟨x48, ix48, h0⟩ := bind_some h0
  replace h0 := un2_eq h0
  obtain ⟨l49, w50, rfl, h0⟩ := h0
  suffices E16 : V Z 131 [(2, .int l49)] [] w50 by
    refine iter_rule (P := fun s : Int32 × Int32 × Int32 × Wd => V Z 16 [(0, .ref ((zg Z).1 9)), (1, .int (s.1)), (2, .int (s.2.1)), (3, .int (s.2.2.1))] [] s.2.2.2) (x := (l49, w50)) ?_ FU (r2, (-9), v5, w1) ix48
    intro s y1 h1 hP1 hX1
    obtain ⟨l6, l7, l8, w9⟩ := s
    have h1 : fX6_calmPair_b16 l6 l7 l8 w9 = some y1 := h1
    unfold fX6_calmPair_b16 at h1
    refine r_iload_n (pc := 16) F dX6_calmPair_16 rfl ?_
    refine r_aload_n (pc := 17) F dX6_calmPair_17 rfl ?_
    refine r_getf (pc := 18) F dX6_calmPair_18 fl_6_11 i68_9 (ce_9 _ _ _) rfl ?_
    refine r_getf (pc := 21) F dX6_calmPair_21 fl_6_74 i68_1 (ce_1 _ _ _) rfl ?_
    refine r_icmp_ge (pc := 24) (tgt := 131) F dX6_calmPair_24 rfl h1 (fun h1 => ?_) (fun h1 => ?_)
    · refine V_sub (ls' := [(2, .int l7)]) [2] rfl ?_
      have e10 := hX1 _ (Option.some.inj h1).symm
      cases e10
      exact E16
    · refine r_aload_n (pc := 27) F dX6_calmPair_27 rfl ?_
      refine r_iload_n (pc := 28) F dX6_calmPair_28 rfl ?_
      obtain ⟨q13, er12, h1⟩ := bind_some h1
      replace h1 := un2_eq h1
      obtain ⟨r12, w11, rfl, h1⟩ := h1
      refine r_Vj1 (pc := 29) F dX6_calmPair_29 ml_6_103 (kX6_stillAt _ w9 l8 (r12, w11) er12) i68_9 (ce_9 _ _ _) (Nat.le_of_ble_eq_true rfl) (Nat.le_of_ble_eq_true rfl) (Nat.le_of_ble_eq_true rfl) ?_
      refine r_istore (pc := 32) (ls' := [(0, .ref ((zg Z).1 9)), (1, .int l6), (2, .int l7), (3, .int l8), (4, .int r12)]) F dX6_calmPair_32 (Nat.le_of_ble_eq_true rfl) rfl ?_
      refine r_iload_n (pc := 34) F dX6_calmPair_34 rfl ?_
      refine r_iconst (pc := 35) F dX6_calmPair_35 ic_1 ?_
      refine r_iadd (pc := 36) F dX6_calmPair_36 ?_
      obtain ⟨v15, ev15, h1⟩ := lt_some h1
      refine V_nm ev15 ?_
      refine r_istore (pc := 37) (ls' := [(0, .ref ((zg Z).1 9)), (1, .int l6), (2, .int l7), (3, .int l8), (4, .int r12), (5, .int v15)]) F dX6_calmPair_37 (Nat.le_of_ble_eq_true rfl) rfl ?_
      obtain ⟨x38, ix38, h1⟩ := bind_some h1
      replace h1 := un3_eq h1
      obtain ⟨l39, l40, w41, rfl, h1⟩ := h1
      suffices E39 : V Z 114 [(0, .ref ((zg Z).1 9)), (1, .int l39), (2, .int l40), (3, .int l8), (4, .int r12)] [] w41 by
        refine iter_rule (P := fun s : Int32 × Int32 × Int32 × Wd => V Z 39 [(0, .ref ((zg Z).1 9)), (1, .int (s.1)), (2, .int (s.2.1)), (3, .int l8), (4, .int r12), (5, .int (s.2.2.1))] [] s.2.2.2) (x := (l39, l40, w41)) ?_ FU (l6, l7, v15, w11) ix38
        intro s y2 h2 hP2 hX2
        obtain ⟨l16, l17, l18, w19⟩ := s
        have h2 : fX6_calmPair_b39 l8 l16 l17 l18 w19 = some y2 := h2
        unfold fX6_calmPair_b39 at h2
        refine r_iload (pc := 39) F dX6_calmPair_39 rfl ?_
        refine r_aload_n (pc := 41) F dX6_calmPair_41 rfl ?_
        refine r_getf (pc := 42) F dX6_calmPair_42 fl_6_11 i68_9 (ce_9 _ _ _) rfl ?_
        refine r_getf (pc := 45) F dX6_calmPair_45 fl_6_74 i68_1 (ce_1 _ _ _) rfl ?_
        refine r_icmp_ge (pc := 48) (tgt := 114) F dX6_calmPair_48 rfl h2 (fun h2 => ?_) (fun h2 => ?_)
        · refine V_sub (ls' := [(0, .ref ((zg Z).1 9)), (1, .int l16), (2, .int l17), (3, .int l8), (4, .int r12)]) [0, 1, 2, 3, 4] rfl ?_
          have e20 := hX2 _ (Option.some.inj h2).symm
          cases e20
          exact E39
        · refine r_aload_n (pc := 51) F dX6_calmPair_51 rfl ?_
          refine r_iload (pc := 52) F dX6_calmPair_52 rfl ?_
          obtain ⟨q23, er22, h2⟩ := bind_some h2
          replace h2 := un2_eq h2
          obtain ⟨r22, w21, rfl, h2⟩ := h2
          refine r_Vj1 (pc := 54) F dX6_calmPair_54 ml_6_103 (kX6_stillAt _ w19 l18 (r22, w21) er22) i68_9 (ce_9 _ _ _) (Nat.le_of_ble_eq_true rfl) (Nat.le_of_ble_eq_true rfl) (Nat.le_of_ble_eq_true rfl) ?_
          refine r_istore (pc := 57) (ls' := [(0, .ref ((zg Z).1 9)), (1, .int l16), (2, .int l17), (3, .int l8), (4, .int r12), (5, .int l18), (6, .int r22)]) F dX6_calmPair_57 (Nat.le_of_ble_eq_true rfl) rfl ?_
          refine r_aload_n (pc := 59) F dX6_calmPair_59 rfl ?_
          refine r_getf (pc := 60) F dX6_calmPair_60 fl_6_15 i68_9 (ce_9 _ _ _) rfl ?_
          refine r_iconst (pc := 63) F dX6_calmPair_63 ic_0 ?_
          refine r_aload_n (pc := 64) F dX6_calmPair_64 rfl ?_
          refine r_getf (pc := 65) F dX6_calmPair_65 fl_6_11 i68_9 (ce_9 _ _ _) rfl ?_
          refine r_getf (pc := 68) F dX6_calmPair_68 fl_6_66 i68_1 (ce_1 _ _ _) rfl ?_
          obtain ⟨q27, er26, h2⟩ := bind_some h2
          replace h2 := un2_eq h2
          obtain ⟨r26, w25, rfl, h2⟩ := h2
          refine r_Vj2 (pc := 71) F dX6_calmPair_71 ml_6_59 (kX8_atDoorFrom _ w21 0 (w21.1 1 1) (r26, w25) er26) i68_4 (ce_4 _ _ _) (Nat.le_of_ble_eq_true rfl) (Nat.le_of_ble_eq_true rfl) (Nat.le_of_ble_eq_true rfl) ?_
          refine r_Si1 (pc := 74) F dX6_calmPair_74 ml_6_37 (kJ6_bitCount_0f7a4 _ w25 r26 _ rfl) (Nat.le_of_ble_eq_true rfl) (Nat.le_of_ble_eq_true rfl) (Nat.le_of_ble_eq_true rfl) ?_
          obtain ⟨v29, ev29, h2⟩ := lt_some h2
          refine V_nm ev29 ?_
          refine r_istore (pc := 77) (ls' := [(0, .ref ((zg Z).1 9)), (1, .int l16), (2, .int l17), (3, .int l8), (4, .int r12), (5, .int l18), (6, .int r22), (7, .int v29)]) F dX6_calmPair_77 (Nat.le_of_ble_eq_true rfl) rfl ?_
          refine r_aload_n (pc := 79) F dX6_calmPair_79 rfl ?_
          refine r_getf (pc := 80) F dX6_calmPair_80 fl_6_15 i68_9 (ce_9 _ _ _) rfl ?_
          refine r_getf (pc := 83) F dX6_calmPair_83 fl_6_106 i68_4 (ce_4 _ _ _) rfl ?_
          refine r_iload (pc := 86) F dX6_calmPair_86 rfl ?_
          refine r_iload (pc := 88) F dX6_calmPair_88 rfl ?_
          obtain ⟨g31, h2⟩ := gd_some h2
          obtain ⟨w30, ew30, h2⟩ := lt_some h2
          refine r_iast (pc := 90) F dX6_calmPair_90 i68_27 (ca_27 _) g31 rfl ew30 ?_
          refine r_iload (pc := 91) F dX6_calmPair_91 rfl ?_
          refine r_iload_n (pc := 93) F dX6_calmPair_93 rfl ?_
          refine r_icmp_le (pc := 94) (tgt := 108) F dX6_calmPair_94 rfl h2 (fun h2 => ?_) (fun h2 => ?_)
          · obtain ⟨v33, ev33, h2⟩ := lt_some h2
            refine r_iinc (pc := 108) (ls' := [(0, .ref ((zg Z).1 9)), (1, .int l16), (2, .int l17), (3, .int l8), (4, .int r12), (5, .int v33), (6, .int r22), (7, .int v29)]) F dX6_calmPair_108 rfl (by rw [ev33]; rfl) (Nat.le_of_ble_eq_true rfl) rfl ?_
            refine r_goto (pc := 111) (tgt := 39) F dX6_calmPair_111 rfl ?_
            refine V_sub (ls' := [(0, .ref ((zg Z).1 9)), (1, .int l16), (2, .int l17), (3, .int l8), (4, .int r12), (5, .int v33)]) [0, 1, 2, 3, 4, 5] rfl ?_
            exact hP2 (l16, l17, v33, w30) (Option.some.inj h2).symm
          · refine r_iload (pc := 97) F dX6_calmPair_97 rfl ?_
            refine r_istore_n (pc := 99) (ls' := [(0, .ref ((zg Z).1 9)), (1, .int v29), (2, .int l17), (3, .int l8), (4, .int r12), (5, .int l18), (6, .int r22), (7, .int v29)]) F dX6_calmPair_99 (Nat.le_of_ble_eq_true rfl) rfl ?_
            refine r_bipush (pc := 100) F dX6_calmPair_100 bp_100 ?_
            refine r_iload_n (pc := 102) F dX6_calmPair_102 rfl ?_
            refine r_imul (pc := 103) F dX6_calmPair_103 ?_
            refine r_iload (pc := 104) F dX6_calmPair_104 rfl ?_
            refine r_iadd (pc := 106) F dX6_calmPair_106 ?_
            obtain ⟨v34, ev34, h2⟩ := lt_some h2
            refine V_nm ev34 ?_
            refine r_istore_n (pc := 107) (ls' := [(0, .ref ((zg Z).1 9)), (1, .int v29), (2, .int v34), (3, .int l8), (4, .int r12), (5, .int l18), (6, .int r22), (7, .int v29)]) F dX6_calmPair_107 (Nat.le_of_ble_eq_true rfl) rfl ?_
            obtain ⟨v35, ev35, h2⟩ := lt_some h2
            refine r_iinc (pc := 108) (ls' := [(0, .ref ((zg Z).1 9)), (1, .int v29), (2, .int v34), (3, .int l8), (4, .int r12), (5, .int v35), (6, .int r22), (7, .int v29)]) F dX6_calmPair_108 rfl (by rw [ev35]; rfl) (Nat.le_of_ble_eq_true rfl) rfl ?_
            refine r_goto (pc := 111) (tgt := 39) F dX6_calmPair_111 rfl ?_
            refine V_sub (ls' := [(0, .ref ((zg Z).1 9)), (1, .int v29), (2, .int v34), (3, .int l8), (4, .int r12), (5, .int v35)]) [0, 1, 2, 3, 4, 5] rfl ?_
            exact hP2 (v29, v34, v35, w30) (Option.some.inj h2).symm
      refine r_aload_n (pc := 114) F dX6_calmPair_114 rfl ?_
      refine r_getf (pc := 115) F dX6_calmPair_115 fl_6_15 i68_9 (ce_9 _ _ _) rfl ?_
      refine r_getf (pc := 118) F dX6_calmPair_118 fl_6_106 i68_4 (ce_4 _ _ _) rfl ?_
      refine r_iload_n (pc := 121) F dX6_calmPair_121 rfl ?_
      refine r_iload (pc := 122) F dX6_calmPair_122 rfl ?_
      obtain ⟨g44, h1⟩ := gd_some h1
      obtain ⟨w43, ew43, h1⟩ := lt_some h1
      refine r_iast (pc := 124) F dX6_calmPair_124 i68_27 (ca_27 _) g44 rfl ew43 ?_
      obtain ⟨v46, ev46, h1⟩ := lt_some h1
      refine r_iinc (pc := 125) (ls' := [(0, .ref ((zg Z).1 9)), (1, .int l39), (2, .int l40), (3, .int v46), (4, .int r12)]) F dX6_calmPair_125 rfl (by rw [ev46]; rfl) (Nat.le_of_ble_eq_true rfl) rfl ?_
      refine r_goto (pc := 128) (tgt := 16) F dX6_calmPair_128 rfl ?_
      refine V_sub (ls' := [(0, .ref ((zg Z).1 9)), (1, .int l39), (2, .int l40), (3, .int v46)]) [0, 1, 2, 3] rfl ?_
      exact hP1 (l39, l40, v46, w43) (Option.some.inj h1).symm
  refine r_iload_n (pc := 131) F dX6_calmPair_131 rfl ?_
  exact hR _ _ _ _ dX6_calmPair_132 rfl (Option.some.inj h0)
set_option maxRecDepth 100000 in
set_option maxHeartbeats 4000000 in
theorem kX9_calms (g : GT) (w : Wd) (a1 : Int32) (out : Int32 × Wd) (h0 : fX9_calms w a1 = some out) : CtI g yX9_calms cX9_calms 2 (some .int) 6 137 [.ref (g.1 0), .int a1] w (fun r w1 => (r, w1) = out) := by
  refine CtI_of .int (by decide) (Nat.le_of_ble_eq_true rfl) (fun Z hg F hR => ?_)
  subst hg
  have F : Fx Z RX9 cX9_calms 2 6 137 := F
  refine V_sub (ls' := [(0, .ref ((zg Z).1 0)), (1, .int a1)]) [0, 1] rfl ?_
  unfold fX9_calms at h0
  refine r_iload_n (pc := 0) F dX9_calms_0 rfl ?_
  refine r_iconst (pc := 1) F dX9_calms_1 ic_1 ?_
  refine r_Si2 (pc := 2) F dX9_calms_2 ml_9_115 (kX9_isOutside _ w a1 1 _ rfl) (Nat.le_of_ble_eq_true rfl) (Nat.le_of_ble_eq_true rfl) (Nat.le_of_ble_eq_true rfl) ?_
  refine r_if_eq (pc := 5) (tgt := 15) F dX9_calms_5 rfl h0 (fun h0 => ?_) (fun h0 => ?_)
  · refine r_iload_n (pc := 15) F dX9_calms_15 rfl ?_
    refine r_if_ne (pc := 16) (tgt := 29) F dX9_calms_16 rfl h0 (fun h0 => ?_) (fun h0 => ?_)
    · refine r_aload_n (pc := 19) F dX9_calms_19 rfl ?_
      refine r_getf (pc := 20) F dX9_calms_20 fl_9_59 i68_0 (ce_0 _ _ _) rfl ?_
      obtain ⟨q3, er2, h0⟩ := bind_some h0
      replace h0 := un2_eq h0
      obtain ⟨r2, w1, rfl, h0⟩ := h0
      refine r_Vj0 (pc := 23) F dX9_calms_23 ml_9_321 (kX6_calmPlace _ w (r2, w1) er2) i68_9 (ce_9 _ _ _) (Nat.le_of_ble_eq_true rfl) (Nat.le_of_ble_eq_true rfl) (Nat.le_of_ble_eq_true rfl) ?_
      refine r_goto (pc := 26) (tgt := 36) F dX9_calms_26 rfl ?_
      exact hR _ _ _ _ dX9_calms_36 rfl (Option.some.inj h0)
    · refine r_aload_n (pc := 29) F dX9_calms_29 rfl ?_
      refine r_getf (pc := 30) F dX9_calms_30 fl_9_59 i68_0 (ce_0 _ _ _) rfl ?_
      obtain ⟨q7, er6, h0⟩ := bind_some h0
      replace h0 := un2_eq h0
      obtain ⟨r6, w5, rfl, h0⟩ := h0
      refine r_Vj0 (pc := 33) F dX9_calms_33 ml_9_324 (kX6_calmPair _ w (r6, w5) er6) i68_9 (ce_9 _ _ _) (Nat.le_of_ble_eq_true rfl) (Nat.le_of_ble_eq_true rfl) (Nat.le_of_ble_eq_true rfl) ?_
      exact hR _ _ _ _ dX9_calms_36 rfl (Option.some.inj h0)
  · refine r_aload_n (pc := 8) F dX9_calms_8 rfl ?_
    refine r_bipush (pc := 9) F dX9_calms_9 bp_m2 ?_
    obtain ⟨q12, er11, h0⟩ := bind_some h0
    replace h0 := un2_eq h0
    obtain ⟨r11, w10, rfl, h0⟩ := h0
    refine r_Vj1 (pc := 11) F dX9_calms_11 ml_9_85 (kX9_refuse _ w (-2) (r11, w10) er11) i68_0 (ce_0 _ _ _) (Nat.le_of_ble_eq_true rfl) (Nat.le_of_ble_eq_true rfl) (Nat.le_of_ble_eq_true rfl) ?_
    exact hR _ _ _ _ dX9_calms_14 rfl (Option.some.inj h0)
set_option maxRecDepth 100000 in
set_option maxHeartbeats 4000000 in
theorem kX1_farthestDoor (g : GT) (w : Wd) (out : Int32 × Wd) (h0 : fX1_farthestDoor w = some out) : CtI g yX1_farthestDoor cX1_farthestDoor 3 (some .int) 4 90 [.ref (g.1 10)] w (fun r w1 => (r, w1) = out) := by
  refine CtI_of .int (by decide) (Nat.le_of_ble_eq_true rfl) (fun Z hg F hR => ?_)
  subst hg
  have F : Fx Z RX1 cX1_farthestDoor 3 4 90 := F
  refine V_sub (ls' := [(0, .ref ((zg Z).1 10))]) [0] rfl ?_
  unfold fX1_farthestDoor at h0
  refine r_aload_n (pc := 0) F dX1_farthestDoor_0 rfl ?_
  refine r_getf (pc := 1) F dX1_farthestDoor_1 fl_1_15 i68_10 (ce_10 _ _ _) rfl ?_
  refine r_aload_n (pc := 4) F dX1_farthestDoor_4 rfl ?_
  refine r_getf (pc := 5) F dX1_farthestDoor_5 fl_1_9 i68_10 (ce_10 _ _ _) rfl ?_
  obtain ⟨w1, ew1, h0⟩ := lt_some h0
  refine r_Vv1 (pc := 8) F dX1_farthestDoor_8 ml_1_47 (kX2_takeFrom _ 3 co3 1 co1 w w1 ew1.symm) i68_3 (ce_3 _ _ _) (Nat.le_of_ble_eq_true rfl) (Nat.le_of_ble_eq_true rfl) (Nat.le_of_ble_eq_true rfl) ?_
  refine r_aload_n (pc := 11) F dX1_farthestDoor_11 rfl ?_
  refine r_getf (pc := 12) F dX1_farthestDoor_12 fl_1_15 i68_10 (ce_10 _ _ _) rfl ?_
  refine r_bipush (pc := 15) F dX1_farthestDoor_15 bp_24 ?_
  obtain ⟨w3, ew3, h0⟩ := lt_some h0
  refine r_putI (pc := 17) F dX1_farthestDoor_17 fl_1_129 fp_2_4 i68_3 (ce_3 _) (Nat.le_of_ble_eq_true rfl) rfl rfl rfl ew3 ?_
  refine r_aload_n (pc := 20) F dX1_farthestDoor_20 rfl ?_
  refine r_getf (pc := 21) F dX1_farthestDoor_21 fl_1_18 i68_10 (ce_10 _ _ _) rfl ?_
  refine r_aload_n (pc := 24) F dX1_farthestDoor_24 rfl ?_
  refine r_getf (pc := 25) F dX1_farthestDoor_25 fl_1_15 i68_10 (ce_10 _ _ _) rfl ?_
  obtain ⟨w5, ew5, h0⟩ := bind_some h0
  refine r_Vv1 (pc := 28) F dX1_farthestDoor_28 ml_1_132 (kX8_setOut _ 3 co3 w3 w5 ew5) i68_4 (ce_4 _ _ _) (Nat.le_of_ble_eq_true rfl) (Nat.le_of_ble_eq_true rfl) (Nat.le_of_ble_eq_true rfl) ?_
  refine r_aload_n (pc := 31) F dX1_farthestDoor_31 rfl ?_
  refine r_getf (pc := 32) F dX1_farthestDoor_32 fl_1_18 i68_10 (ce_10 _ _ _) rfl ?_
  refine r_aload_n (pc := 35) F dX1_farthestDoor_35 rfl ?_
  refine r_getf (pc := 36) F dX1_farthestDoor_36 fl_1_15 i68_10 (ce_10 _ _ _) rfl ?_
  refine r_getf (pc := 39) F dX1_farthestDoor_39 fl_1_96 i68_3 (ce_3 _ _ _) rfl ?_
  obtain ⟨w7, ew7, h0⟩ := bind_some h0
  refine r_Vv1 (pc := 42) F dX1_farthestDoor_42 ml_1_137 (kX8_walkOn _ w5 (w5.1 3 1) w7 ew7) i68_4 (ce_4 _ _ _) (Nat.le_of_ble_eq_true rfl) (Nat.le_of_ble_eq_true rfl) (Nat.le_of_ble_eq_true rfl) ?_
  refine r_iconst (pc := 45) F dX1_farthestDoor_45 ic_1 ?_
  refine r_aload_n (pc := 46) F dX1_farthestDoor_46 rfl ?_
  refine r_getf (pc := 47) F dX1_farthestDoor_47 fl_1_9 i68_10 (ce_10 _ _ _) rfl ?_
  refine r_getf (pc := 50) F dX1_farthestDoor_50 fl_1_111 i68_1 (ce_1 _ _ _) rfl ?_
  refine r_max (pc := 53) F dX1_farthestDoor_53 mk_1_140 ms_max mi_Math mc_max (Nat.le_of_ble_eq_true rfl) (Nat.le_of_ble_eq_true rfl) ?_
  obtain ⟨v9, ev9, h0⟩ := lt_some h0
  refine V_nm ev9 ?_
  refine r_istore_n (pc := 56) (ls' := [(0, .ref ((zg Z).1 10)), (1, .int v9)]) F dX1_farthestDoor_56 (Nat.le_of_ble_eq_true rfl) rfl ?_
  refine r_bipush (pc := 57) F dX1_farthestDoor_57 bp_24 ?_
  refine r_istore_n (pc := 59) (ls' := [(0, .ref ((zg Z).1 10)), (1, .int v9), (2, .int 24)]) F dX1_farthestDoor_59 (Nat.le_of_ble_eq_true rfl) rfl ?_
  refine iter_rule (P := fun s : Int32 => V Z 60 [(0, .ref ((zg Z).1 10)), (1, .int v9), (2, .int s)] [] w7) (x := out) ?_ FU 24 h0
  intro s y1 h1 hP1 hX1
  obtain ⟨l10, rfl⟩ : ∃ z, z = s := ⟨s, rfl⟩
  have h1 : fX1_farthestDoor_b60 v9 w7 l10 = some y1 := h1
  unfold fX1_farthestDoor_b60 at h1
  refine r_iload_n (pc := 60) F dX1_farthestDoor_60 rfl ?_
  refine r_iload_n (pc := 61) F dX1_farthestDoor_61 rfl ?_
  refine r_icmp_lt (pc := 62) (tgt := 93) F dX1_farthestDoor_62 rfl h1 (fun h1 => ?_) (fun h1 => ?_)
  · refine r_bipush (pc := 93) F dX1_farthestDoor_93 bp_m9 ?_
    have h0 := congrArg some (hX1 _ (Option.some.inj h1).symm)
    exact hR _ _ _ _ dX1_farthestDoor_95 rfl (Option.some.inj h0)
  · refine r_aload_n (pc := 65) F dX1_farthestDoor_65 rfl ?_
    refine r_getf (pc := 66) F dX1_farthestDoor_66 fl_1_18 i68_10 (ce_10 _ _ _) rfl ?_
    refine r_getf (pc := 69) F dX1_farthestDoor_69 fl_1_143 i68_4 (ce_4 _ _ _) rfl ?_
    refine r_iload_n (pc := 72) F dX1_farthestDoor_72 rfl ?_
    refine r_aload_n (pc := 73) F dX1_farthestDoor_73 rfl ?_
    refine r_getf (pc := 74) F dX1_farthestDoor_74 fl_1_9 i68_10 (ce_10 _ _ _) rfl ?_
    refine r_getf (pc := 77) F dX1_farthestDoor_77 fl_1_111 i68_1 (ce_1 _ _ _) rfl ?_
    refine r_isub (pc := 80) F dX1_farthestDoor_80 ?_
    obtain ⟨g11, h1⟩ := gd_some h1
    refine r_iald (pc := 81) F dX1_farthestDoor_81 i68_26 (ca_26 _) g11 rfl ?_
    refine r_if_eq (pc := 82) (tgt := 87) F dX1_farthestDoor_82 rfl h1 (fun h1 => ?_) (fun h1 => ?_)
    · obtain ⟨v12, ev12, h1⟩ := lt_some h1
      refine r_iinc (pc := 87) (ls' := [(0, .ref ((zg Z).1 10)), (1, .int v9), (2, .int v12)]) F dX1_farthestDoor_87 rfl (by rw [ev12]; rfl) (Nat.le_of_ble_eq_true rfl) rfl ?_
      refine r_goto (pc := 90) (tgt := 60) F dX1_farthestDoor_90 rfl ?_
      exact hP1 v12 (Option.some.inj h1).symm
    · refine r_iload_n (pc := 85) F dX1_farthestDoor_85 rfl ?_
      have h0 := congrArg some (hX1 _ (Option.some.inj h1).symm)
      exact hR _ _ _ _ dX1_farthestDoor_86 rfl (Option.some.inj h0)
set_option maxRecDepth 100000 in
set_option maxHeartbeats 4000000 in
theorem kX9_farthest (g : GT) (w : Wd) (out : Int32 × Wd) (h0 : fX9_farthest w = some out) : CtI g yX9_farthest cX9_farthest 1 (some .int) 5 112 [.ref (g.1 0)] w (fun r w1 => (r, w1) = out) := by
  refine CtI_of .int (by decide) (Nat.le_of_ble_eq_true rfl) (fun Z hg F hR => ?_)
  subst hg
  have F : Fx Z RX9 cX9_farthest 1 5 112 := F
  refine V_sub (ls' := [(0, .ref ((zg Z).1 0))]) [0] rfl ?_
  unfold fX9_farthest at h0
  refine r_aload_n (pc := 0) F dX9_farthest_0 rfl ?_
  refine r_getf (pc := 1) F dX9_farthest_1 fl_9_68 i68_0 (ce_0 _ _ _) rfl ?_
  obtain ⟨q3, er2, h0⟩ := bind_some h0
  replace h0 := un2_eq h0
  obtain ⟨r2, w1, rfl, h0⟩ := h0
  refine r_Vj0 (pc := 4) F dX9_farthest_4 ml_9_327 (kX1_farthestDoor _ w (r2, w1) er2) i68_10 (ce_10 _ _ _) (Nat.le_of_ble_eq_true rfl) (Nat.le_of_ble_eq_true rfl) (Nat.le_of_ble_eq_true rfl) ?_
  exact hR _ _ _ _ dX9_farthest_7 rfl (Option.some.inj h0)
set_option maxRecDepth 100000 in
set_option maxHeartbeats 4000000 in
theorem kX1_countTurned (g : GT) (w : Wd) (out : Int32 × Wd) (h0 : fX1_countTurned w = some out) : CtI g yX1_countTurned cX1_countTurned 2 (some .int) 4 92 [.ref (g.1 10)] w (fun r w1 => (r, w1) = out) := by
  refine CtI_of .int (by decide) (Nat.le_of_ble_eq_true rfl) (fun Z hg F hR => ?_)
  subst hg
  have F : Fx Z RX1 cX1_countTurned 2 4 92 := F
  refine V_sub (ls' := [(0, .ref ((zg Z).1 10))]) [0] rfl ?_
  unfold fX1_countTurned at h0
  refine r_aload_n (pc := 0) F dX1_countTurned_0 rfl ?_
  refine r_getf (pc := 1) F dX1_countTurned_1 fl_1_15 i68_10 (ce_10 _ _ _) rfl ?_
  refine r_aload_n (pc := 4) F dX1_countTurned_4 rfl ?_
  refine r_getf (pc := 5) F dX1_countTurned_5 fl_1_9 i68_10 (ce_10 _ _ _) rfl ?_
  obtain ⟨w1, ew1, h0⟩ := lt_some h0
  refine r_Vv1 (pc := 8) F dX1_countTurned_8 ml_1_47 (kX2_takeFrom _ 3 co3 1 co1 w w1 ew1.symm) i68_3 (ce_3 _ _ _) (Nat.le_of_ble_eq_true rfl) (Nat.le_of_ble_eq_true rfl) (Nat.le_of_ble_eq_true rfl) ?_
  refine r_iconst (pc := 11) F dX1_countTurned_11 ic_0 ?_
  refine r_istore_n (pc := 12) (ls' := [(0, .ref ((zg Z).1 10)), (1, .int 0)]) F dX1_countTurned_12 (Nat.le_of_ble_eq_true rfl) rfl ?_
  obtain ⟨w11, iw11, h0⟩ := bind_some h0
  suffices E13 : V Z 53 [(0, .ref ((zg Z).1 10))] [] w11 by
    refine iter_rule (P := fun s : Int32 × Wd => V Z 13 [(0, .ref ((zg Z).1 10)), (1, .int (s.1))] [] s.2) (x := w11) ?_ FU (0, w1) iw11
    intro s y1 h1 hP1 hX1
    obtain ⟨l3, w4⟩ := s
    have h1 : fX1_countTurned_b13 l3 w4 = some y1 := h1
    unfold fX1_countTurned_b13 at h1
    refine r_iload_n (pc := 13) F dX1_countTurned_13 rfl ?_
    refine r_aload_n (pc := 14) F dX1_countTurned_14 rfl ?_
    refine r_getf (pc := 15) F dX1_countTurned_15 fl_1_9 i68_10 (ce_10 _ _ _) rfl ?_
    refine r_getf (pc := 18) F dX1_countTurned_18 fl_1_43 i68_1 (ce_1 _ _ _) rfl ?_
    refine r_icmp_ge (pc := 21) (tgt := 53) F dX1_countTurned_21 rfl h1 (fun h1 => ?_) (fun h1 => ?_)
    · refine V_sub (ls' := [(0, .ref ((zg Z).1 10))]) [0] rfl ?_
      have e5 := hX1 _ (Option.some.inj h1).symm
      cases e5
      exact E13
    · refine r_aload_n (pc := 24) F dX1_countTurned_24 rfl ?_
      refine r_getf (pc := 25) F dX1_countTurned_25 fl_1_15 i68_10 (ce_10 _ _ _) rfl ?_
      refine r_iload_n (pc := 28) F dX1_countTurned_28 rfl ?_
      refine r_aload_n (pc := 29) F dX1_countTurned_29 rfl ?_
      refine r_getf (pc := 30) F dX1_countTurned_30 fl_1_9 i68_10 (ce_10 _ _ _) rfl ?_
      refine r_aload_n (pc := 33) F dX1_countTurned_33 rfl ?_
      refine r_getf (pc := 34) F dX1_countTurned_34 fl_1_9 i68_10 (ce_10 _ _ _) rfl ?_
      refine r_getf (pc := 37) F dX1_countTurned_37 fl_1_43 i68_1 (ce_1 _ _ _) rfl ?_
      refine r_iconst (pc := 40) F dX1_countTurned_40 ic_1 ?_
      refine r_isub (pc := 41) F dX1_countTurned_41 ?_
      refine r_iload_n (pc := 42) F dX1_countTurned_42 rfl ?_
      refine r_isub (pc := 43) F dX1_countTurned_43 ?_
      obtain ⟨w6, ew6, h1⟩ := bind_some h1
      refine r_Vv3 (pc := 44) F dX1_countTurned_44 ml_1_64 (kX2_copyOne _ 3 co3 1 co1 w4 l3 (((w4.1 1 0) - 1) - l3) w6 ew6) i68_3 (ce_3 _ _ _) (Nat.le_of_ble_eq_true rfl) (Nat.le_of_ble_eq_true rfl) (Nat.le_of_ble_eq_true rfl) ?_
      obtain ⟨v8, ev8, h1⟩ := lt_some h1
      refine r_iinc (pc := 47) (ls' := [(0, .ref ((zg Z).1 10)), (1, .int v8)]) F dX1_countTurned_47 rfl (by rw [ev8]; rfl) (Nat.le_of_ble_eq_true rfl) rfl ?_
      refine r_goto (pc := 50) (tgt := 13) F dX1_countTurned_50 rfl ?_
      exact hP1 (v8, w6) (Option.some.inj h1).symm
  refine r_aload_n (pc := 53) F dX1_countTurned_53 rfl ?_
  refine r_aload_n (pc := 54) F dX1_countTurned_54 rfl ?_
  refine r_getf (pc := 55) F dX1_countTurned_55 fl_1_15 i68_10 (ce_10 _ _ _) rfl ?_
  obtain ⟨q15, er14, h0⟩ := bind_some h0
  replace h0 := un2_eq h0
  obtain ⟨r14, w13, rfl, h0⟩ := h0
  refine r_Vj1 (pc := 58) F dX1_countTurned_58 ml_1_61 (kX1_countOf _ 3 co3 w11 (r14, w13) er14) i68_10 (ce_10 _ _ _) (Nat.le_of_ble_eq_true rfl) (Nat.le_of_ble_eq_true rfl) (Nat.le_of_ble_eq_true rfl) ?_
  exact hR _ _ _ _ dX1_countTurned_61 rfl (Option.some.inj h0)
set_option maxRecDepth 100000 in
set_option maxHeartbeats 4000000 in
theorem kX9_turned (g : GT) (w : Wd) (out : Int32 × Wd) (h0 : fX9_turned w = some out) : CtI g yX9_turned cX9_turned 1 (some .int) 5 113 [.ref (g.1 0)] w (fun r w1 => (r, w1) = out) := by
  refine CtI_of .int (by decide) (Nat.le_of_ble_eq_true rfl) (fun Z hg F hR => ?_)
  subst hg
  have F : Fx Z RX9 cX9_turned 1 5 113 := F
  refine V_sub (ls' := [(0, .ref ((zg Z).1 0))]) [0] rfl ?_
  unfold fX9_turned at h0
  refine r_aload_n (pc := 0) F dX9_turned_0 rfl ?_
  refine r_getf (pc := 1) F dX9_turned_1 fl_9_68 i68_0 (ce_0 _ _ _) rfl ?_
  obtain ⟨q3, er2, h0⟩ := bind_some h0
  replace h0 := un2_eq h0
  obtain ⟨r2, w1, rfl, h0⟩ := h0
  refine r_Vj0 (pc := 4) F dX9_turned_4 ml_9_330 (kX1_countTurned _ w (r2, w1) er2) i68_10 (ce_10 _ _ _) (Nat.le_of_ble_eq_true rfl) (Nat.le_of_ble_eq_true rfl) (Nat.le_of_ble_eq_true rfl) ?_
  exact hR _ _ _ _ dX9_turned_7 rfl (Option.some.inj h0)
set_option maxRecDepth 100000 in
set_option maxHeartbeats 4000000 in
theorem kX4_handOn (g : GT) (w : Wd) (a1 : Int32) (out : Wd) (h0 : fX4_handOn w a1 = some out) : CtV g yX4_handOn cX4_handOn 3 none 1 21 [.ref (g.1 8), .int a1] w (fun w1 => w1 = out) := by
  refine CtV_of (by decide) (Nat.le_of_ble_eq_true rfl) (fun Z hg F hR => ?_)
  subst hg
  have F : Fx Z RX4 cX4_handOn 3 1 21 := F
  refine V_sub (ls' := [(0, .ref ((zg Z).1 8)), (1, .int a1)]) [0, 1] rfl ?_
  unfold fX4_handOn at h0
  refine r_iconst (pc := 0) F dX4_handOn_0 ic_0 ?_
  refine r_istore_n (pc := 1) (ls' := [(0, .ref ((zg Z).1 8)), (1, .int a1), (2, .int 0)]) F dX4_handOn_1 (Nat.le_of_ble_eq_true rfl) rfl ?_
  obtain ⟨w13, iw13, h0⟩ := bind_some h0
  suffices E2 : V Z 47 [] [] w13 by
    refine iter_rule (P := fun s : Int32 × Wd => V Z 2 [(0, .ref ((zg Z).1 8)), (1, .int a1), (2, .int (s.1))] [] s.2) (x := w13) ?_ FU (0, w) iw13
    intro s y1 h1 hP1 hX1
    obtain ⟨l1, w2⟩ := s
    have h1 : fX4_handOn_b2 a1 l1 w2 = some y1 := h1
    unfold fX4_handOn_b2 at h1
    refine r_iload_n (pc := 2) F dX4_handOn_2 rfl ?_
    refine r_aload_n (pc := 3) F dX4_handOn_3 rfl ?_
    refine r_getf (pc := 4) F dX4_handOn_4 fl_4_15 i68_8 (ce_8 _ _ _) rfl ?_
    refine r_getf (pc := 7) F dX4_handOn_7 fl_4_124 i68_4 (ce_4 _ _ _) rfl ?_
    refine r_icmp_ge (pc := 10) (tgt := 47) F dX4_handOn_10 rfl h1 (fun h1 => ?_) (fun h1 => ?_)
    · refine V_sub (ls' := []) [] rfl ?_
      have e3 := hX1 _ (Option.some.inj h1).symm
      cases e3
      exact E2
    · refine r_iload_n (pc := 13) F dX4_handOn_13 rfl ?_
      refine r_iload_n (pc := 14) F dX4_handOn_14 rfl ?_
      refine r_Ni2 (pc := 15) F dX4_handOn_15 ml_4_66 (kX9_hasBit _ w2 a1 l1 _ rfl) (Nat.le_of_ble_eq_true rfl) (Nat.le_of_ble_eq_true rfl) (Nat.le_of_ble_eq_true rfl) ?_
      refine r_if_eq (pc := 18) (tgt := 41) F dX4_handOn_18 rfl h1 (fun h1 => ?_) (fun h1 => ?_)
      · obtain ⟨v4, ev4, h1⟩ := lt_some h1
        refine r_iinc (pc := 41) (ls' := [(0, .ref ((zg Z).1 8)), (1, .int a1), (2, .int v4)]) F dX4_handOn_41 rfl (by rw [ev4]; rfl) (Nat.le_of_ble_eq_true rfl) rfl ?_
        refine r_goto (pc := 44) (tgt := 2) F dX4_handOn_44 rfl ?_
        exact hP1 (v4, w2) (Option.some.inj h1).symm
      · refine r_aload_n (pc := 21) F dX4_handOn_21 rfl ?_
        refine r_getf (pc := 22) F dX4_handOn_22 fl_4_19 i68_8 (ce_8 _ _ _) rfl ?_
        refine r_iload_n (pc := 25) F dX4_handOn_25 rfl ?_
        refine r_aload_n (pc := 26) F dX4_handOn_26 rfl ?_
        refine r_getf (pc := 27) F dX4_handOn_27 fl_4_19 i68_8 (ce_8 _ _ _) rfl ?_
        refine r_aload_n (pc := 30) F dX4_handOn_30 rfl ?_
        refine r_getf (pc := 31) F dX4_handOn_31 fl_4_15 i68_8 (ce_8 _ _ _) rfl ?_
        refine r_getf (pc := 34) F dX4_handOn_34 fl_4_70 i68_4 (ce_4 _ _ _) rfl ?_
        refine r_iload_n (pc := 37) F dX4_handOn_37 rfl ?_
        obtain ⟨g5, h1⟩ := gd_some h1
        refine r_iald (pc := 38) F dX4_handOn_38 i68_25 (ca_25 _) g5 rfl ?_
        obtain ⟨g6, h1⟩ := gd_some h1
        refine r_iald (pc := 39) F dX4_handOn_39 i68_35 (ca_35 _) g6 rfl ?_
        obtain ⟨w7, ew7, h1⟩ := lt_some h1
        refine r_iast (pc := 40) F dX4_handOn_40 i68_35 (ca_35 _) g5 rfl ew7 ?_
        obtain ⟨v9, ev9, h1⟩ := lt_some h1
        refine r_iinc (pc := 41) (ls' := [(0, .ref ((zg Z).1 8)), (1, .int a1), (2, .int v9)]) F dX4_handOn_41 rfl (by rw [ev9]; rfl) (Nat.le_of_ble_eq_true rfl) rfl ?_
        refine r_goto (pc := 44) (tgt := 2) F dX4_handOn_44 rfl ?_
        exact hP1 (v9, w7) (Option.some.inj h1).symm
  exact hR _ _ _ dX4_handOn_47 (Option.some.inj h0)
set_option maxRecDepth 100000 in
set_option maxHeartbeats 4000000 in
theorem kX4_originOf (g : GT) (w : Wd) (a1 : Int32) (out : Int32 × Wd) (h0 : fX4_originOf w a1 = some out) : CtI g yX4_originOf cX4_originOf 4 (some .int) 3 71 [.ref (g.1 8), .int a1] w (fun r w1 => (r, w1) = out) := by
  refine CtI_of .int (by decide) (Nat.le_of_ble_eq_true rfl) (fun Z hg F hR => ?_)
  subst hg
  have F : Fx Z RX4 cX4_originOf 4 3 71 := F
  refine V_sub (ls' := [(0, .ref ((zg Z).1 8)), (1, .int a1)]) [0, 1] rfl ?_
  unfold fX4_originOf at h0
  refine r_aload_n (pc := 0) F dX4_originOf_0 rfl ?_
  refine r_getf (pc := 1) F dX4_originOf_1 fl_4_15 i68_8 (ce_8 _ _ _) rfl ?_
  refine r_aload_n (pc := 4) F dX4_originOf_4 rfl ?_
  refine r_getf (pc := 5) F dX4_originOf_5 fl_4_9 i68_8 (ce_8 _ _ _) rfl ?_
  obtain ⟨w1, ew1, h0⟩ := bind_some h0
  refine r_Vv1 (pc := 8) F dX4_originOf_8 ml_4_48 (kX8_setOut _ 1 co1 w w1 ew1) i68_4 (ce_4 _ _ _) (Nat.le_of_ble_eq_true rfl) (Nat.le_of_ble_eq_true rfl) (Nat.le_of_ble_eq_true rfl) ?_
  refine r_iconst (pc := 11) F dX4_originOf_11 ic_0 ?_
  refine r_istore_n (pc := 12) (ls' := [(0, .ref ((zg Z).1 8)), (1, .int a1), (2, .int 0)]) F dX4_originOf_12 (Nat.le_of_ble_eq_true rfl) rfl ?_
  obtain ⟨w12, iw12, h0⟩ := bind_some h0
  suffices E13 : V Z 32 [(0, .ref ((zg Z).1 8)), (1, .int a1)] [] w12 by
    refine iter_rule (P := fun s : Int32 × Wd => V Z 13 [(0, .ref ((zg Z).1 8)), (1, .int a1), (2, .int (s.1))] [] s.2) (x := w12) ?_ FU (0, w1) iw12
    intro s y1 h1 hP1 hX1
    obtain ⟨l3, w4⟩ := s
    have h1 : fX4_originOf_b13 l3 w4 = some y1 := h1
    unfold fX4_originOf_b13 at h1
    refine r_iload_n (pc := 13) F dX4_originOf_13 rfl ?_
    refine r_bipush (pc := 14) F dX4_originOf_14 bp_8 ?_
    refine r_icmp_ge (pc := 16) (tgt := 32) F dX4_originOf_16 rfl h1 (fun h1 => ?_) (fun h1 => ?_)
    · refine V_sub (ls' := [(0, .ref ((zg Z).1 8)), (1, .int a1)]) [0, 1] rfl ?_
      have e5 := hX1 _ (Option.some.inj h1).symm
      cases e5
      exact E13
    · refine r_aload_n (pc := 19) F dX4_originOf_19 rfl ?_
      refine r_getf (pc := 20) F dX4_originOf_20 fl_4_19 i68_8 (ce_8 _ _ _) rfl ?_
      refine r_iload_n (pc := 23) F dX4_originOf_23 rfl ?_
      refine r_iload_n (pc := 24) F dX4_originOf_24 rfl ?_
      obtain ⟨g7, h1⟩ := gd_some h1
      obtain ⟨w6, ew6, h1⟩ := lt_some h1
      refine r_iast (pc := 25) F dX4_originOf_25 i68_35 (ca_35 _) g7 rfl ew6 ?_
      obtain ⟨v9, ev9, h1⟩ := lt_some h1
      refine r_iinc (pc := 26) (ls' := [(0, .ref ((zg Z).1 8)), (1, .int a1), (2, .int v9)]) F dX4_originOf_26 rfl (by rw [ev9]; rfl) (Nat.le_of_ble_eq_true rfl) rfl ?_
      refine r_goto (pc := 29) (tgt := 13) F dX4_originOf_29 rfl ?_
      exact hP1 (v9, w6) (Option.some.inj h1).symm
  refine r_aload_n (pc := 32) F dX4_originOf_32 rfl ?_
  refine r_getf (pc := 33) F dX4_originOf_33 fl_4_9 i68_8 (ce_8 _ _ _) rfl ?_
  refine r_getf (pc := 36) F dX4_originOf_36 fl_4_52 i68_1 (ce_1 _ _ _) rfl ?_
  obtain ⟨v14, ev14, h0⟩ := lt_some h0
  refine V_nm ev14 ?_
  refine r_istore_n (pc := 39) (ls' := [(0, .ref ((zg Z).1 8)), (1, .int a1), (2, .int v14)]) F dX4_originOf_39 (Nat.le_of_ble_eq_true rfl) rfl ?_
  refine r_iconst (pc := 40) F dX4_originOf_40 ic_0 ?_
  refine r_istore_n (pc := 41) (ls' := [(0, .ref ((zg Z).1 8)), (1, .int a1), (2, .int v14), (3, .int 0)]) F dX4_originOf_41 (Nat.le_of_ble_eq_true rfl) rfl ?_
  obtain ⟨x27, ix27, h0⟩ := bind_some h0
  replace h0 := un2_eq h0
  obtain ⟨l28, w29, rfl, h0⟩ := h0
  suffices E42 : V Z 88 [(0, .ref ((zg Z).1 8)), (1, .int a1), (2, .int l28)] [] w29 by
    refine iter_rule (P := fun s : Int32 × Int32 × Wd => V Z 42 [(0, .ref ((zg Z).1 8)), (1, .int a1), (2, .int (s.1)), (3, .int (s.2.1))] [] s.2.2) (x := (l28, w29)) ?_ FU (v14, 0, w12) ix27
    intro s y1 h1 hP1 hX1
    obtain ⟨l15, l16, w17⟩ := s
    have h1 : fX4_originOf_b42 l15 l16 w17 = some y1 := h1
    unfold fX4_originOf_b42 at h1
    refine r_iload_n (pc := 42) F dX4_originOf_42 rfl ?_
    refine r_aload_n (pc := 43) F dX4_originOf_43 rfl ?_
    refine r_getf (pc := 44) F dX4_originOf_44 fl_4_15 i68_8 (ce_8 _ _ _) rfl ?_
    refine r_getf (pc := 47) F dX4_originOf_47 fl_4_31 i68_4 (ce_4 _ _ _) rfl ?_
    refine r_icmp_ge (pc := 50) (tgt := 88) F dX4_originOf_50 rfl h1 (fun h1 => ?_) (fun h1 => ?_)
    · refine V_sub (ls' := [(0, .ref ((zg Z).1 8)), (1, .int a1), (2, .int l15)]) [0, 1, 2] rfl ?_
      have e18 := hX1 _ (Option.some.inj h1).symm
      cases e18
      exact E42
    · refine r_aload_n (pc := 53) F dX4_originOf_53 rfl ?_
      refine r_getf (pc := 54) F dX4_originOf_54 fl_4_15 i68_8 (ce_8 _ _ _) rfl ?_
      refine r_aload_n (pc := 57) F dX4_originOf_57 rfl ?_
      refine r_getf (pc := 58) F dX4_originOf_58 fl_4_15 i68_8 (ce_8 _ _ _) rfl ?_
      refine r_getf (pc := 61) F dX4_originOf_61 fl_4_57 i68_4 (ce_4 _ _ _) rfl ?_
      refine r_iload_n (pc := 64) F dX4_originOf_64 rfl ?_
      refine r_iadd (pc := 65) F dX4_originOf_65 ?_
      refine r_iload_n (pc := 66) F dX4_originOf_66 rfl ?_
      obtain ⟨q21, er20, h1⟩ := bind_some h1
      replace h1 := un2_eq h1
      obtain ⟨r20, w19, rfl, h1⟩ := h1
      refine r_Vj2 (pc := 67) F dX4_originOf_67 ml_4_60 (kX8_minuteAt _ w17 ((w17.1 4 3) + l16) l15 (r20, w19) er20) i68_4 (ce_4 _ _ _) (Nat.le_of_ble_eq_true rfl) (Nat.le_of_ble_eq_true rfl) (Nat.le_of_ble_eq_true rfl) ?_
      refine r_istore_n (pc := 70) (ls' := [(0, .ref ((zg Z).1 8)), (1, .int a1), (2, .int r20), (3, .int l16)]) F dX4_originOf_70 (Nat.le_of_ble_eq_true rfl) rfl ?_
      refine r_aload_n (pc := 71) F dX4_originOf_71 rfl ?_
      refine r_aload_n (pc := 72) F dX4_originOf_72 rfl ?_
      refine r_getf (pc := 73) F dX4_originOf_73 fl_4_15 i68_8 (ce_8 _ _ _) rfl ?_
      refine r_getf (pc := 76) F dX4_originOf_76 fl_4_63 i68_4 (ce_4 _ _ _) rfl ?_
      obtain ⟨w23, ew23, h1⟩ := bind_some h1
      refine r_Vv1 (pc := 79) F dX4_originOf_79 ml_4_73 (kX4_handOn _ w19 (w19.1 4 6) w23 ew23) i68_8 (ce_8 _ _ _) (Nat.le_of_ble_eq_true rfl) (Nat.le_of_ble_eq_true rfl) (Nat.le_of_ble_eq_true rfl) ?_
      obtain ⟨v25, ev25, h1⟩ := lt_some h1
      refine r_iinc (pc := 82) (ls' := [(0, .ref ((zg Z).1 8)), (1, .int a1), (2, .int r20), (3, .int v25)]) F dX4_originOf_82 rfl (by rw [ev25]; rfl) (Nat.le_of_ble_eq_true rfl) rfl ?_
      refine r_goto (pc := 85) (tgt := 42) F dX4_originOf_85 rfl ?_
      exact hP1 (r20, v25, w23) (Option.some.inj h1).symm
  refine r_iload_n (pc := 88) F dX4_originOf_88 rfl ?_
  refine r_iload_n (pc := 89) F dX4_originOf_89 rfl ?_
  refine r_Ni2 (pc := 90) F dX4_originOf_90 ml_4_66 (kX9_hasBit _ w29 l28 a1 _ rfl) (Nat.le_of_ble_eq_true rfl) (Nat.le_of_ble_eq_true rfl) (Nat.le_of_ble_eq_true rfl) ?_
  refine r_if_eq (pc := 93) (tgt := 105) F dX4_originOf_93 rfl h0 (fun h0 => ?_) (fun h0 => ?_)
  · refine r_bipush (pc := 105) F dX4_originOf_105 bp_m9 ?_
    exact hR _ _ _ _ dX4_originOf_107 rfl (Option.some.inj h0)
  · refine r_aload_n (pc := 96) F dX4_originOf_96 rfl ?_
    refine r_getf (pc := 97) F dX4_originOf_97 fl_4_19 i68_8 (ce_8 _ _ _) rfl ?_
    refine r_iload_n (pc := 100) F dX4_originOf_100 rfl ?_
    obtain ⟨g31, h0⟩ := gd_some h0
    refine r_iald (pc := 101) F dX4_originOf_101 i68_35 (ca_35 _) g31 rfl ?_
    refine r_goto (pc := 102) (tgt := 107) F dX4_originOf_102 rfl ?_
    exact hR _ _ _ _ dX4_originOf_107 rfl (Option.some.inj h0)
set_option maxRecDepth 100000 in
set_option maxHeartbeats 4000000 in
theorem kX9_flame (g : GT) (w : Wd) (a1 : Int32) (out : Int32 × Wd) (h0 : fX9_flame w a1 = some out) : CtI g yX9_flame cX9_flame 2 (some .int) 4 94 [.ref (g.1 0), .int a1] w (fun r w1 => (r, w1) = out) := by
  refine CtI_of .int (by decide) (Nat.le_of_ble_eq_true rfl) (fun Z hg F hR => ?_)
  subst hg
  have F : Fx Z RX9 cX9_flame 2 4 94 := F
  refine V_sub (ls' := [(0, .ref ((zg Z).1 0)), (1, .int a1)]) [0, 1] rfl ?_
  unfold fX9_flame at h0
  refine r_aload_n (pc := 0) F dX9_flame_0 rfl ?_
  refine r_getf (pc := 1) F dX9_flame_1 fl_9_10 i68_0 (ce_0 _ _ _) rfl ?_
  refine r_iload_n (pc := 4) F dX9_flame_4 rfl ?_
  refine r_Vi1 (pc := 5) F dX9_flame_5 ml_9_111 (kX2_hasOne _ 1 co1 w a1 _ rfl) i68_1 (ce_1 _ _ _) (Nat.le_of_ble_eq_true rfl) (Nat.le_of_ble_eq_true rfl) (Nat.le_of_ble_eq_true rfl) ?_
  refine r_if_eq (pc := 8) (tgt := 22) F dX9_flame_8 rfl h0 (fun h0 => ?_) (fun h0 => ?_)
  · refine r_aload_n (pc := 22) F dX9_flame_22 rfl ?_
    refine r_iconst (pc := 23) F dX9_flame_23 ic_m1 ?_
    obtain ⟨q3, er2, h0⟩ := bind_some h0
    replace h0 := un2_eq h0
    obtain ⟨r2, w1, rfl, h0⟩ := h0
    refine r_Vj1 (pc := 24) F dX9_flame_24 ml_9_85 (kX9_refuse _ w (-1) (r2, w1) er2) i68_0 (ce_0 _ _ _) (Nat.le_of_ble_eq_true rfl) (Nat.le_of_ble_eq_true rfl) (Nat.le_of_ble_eq_true rfl) ?_
    exact hR _ _ _ _ dX9_flame_27 rfl (Option.some.inj h0)
  · refine r_aload_n (pc := 11) F dX9_flame_11 rfl ?_
    refine r_getf (pc := 12) F dX9_flame_12 fl_9_52 i68_0 (ce_0 _ _ _) rfl ?_
    refine r_iload_n (pc := 15) F dX9_flame_15 rfl ?_
    obtain ⟨q7, er6, h0⟩ := bind_some h0
    replace h0 := un2_eq h0
    obtain ⟨r6, w5, rfl, h0⟩ := h0
    refine r_Vj1 (pc := 16) F dX9_flame_16 ml_9_333 (kX4_originOf _ w a1 (r6, w5) er6) i68_8 (ce_8 _ _ _) (Nat.le_of_ble_eq_true rfl) (Nat.le_of_ble_eq_true rfl) (Nat.le_of_ble_eq_true rfl) ?_
    refine r_goto (pc := 19) (tgt := 27) F dX9_flame_19 rfl ?_
    exact hR _ _ _ _ dX9_flame_27 rfl (Option.some.inj h0)
set_option maxRecDepth 100000 in
set_option maxHeartbeats 4000000 in
theorem kX4_timesOut (g : GT) (w : Wd) (a1 : Int32) (out : Int32 × Wd) (h0 : fX4_timesOut w a1 = some out) : CtI g yX4_timesOut cX4_timesOut 5 (some .int) 3 71 [.ref (g.1 8), .int a1] w (fun r w1 => (r, w1) = out) := by
  refine CtI_of .int (by decide) (Nat.le_of_ble_eq_true rfl) (fun Z hg F hR => ?_)
  subst hg
  have F : Fx Z RX4 cX4_timesOut 5 3 71 := F
  refine V_sub (ls' := [(0, .ref ((zg Z).1 8)), (1, .int a1)]) [0, 1] rfl ?_
  unfold fX4_timesOut at h0
  refine r_aload_n (pc := 0) F dX4_timesOut_0 rfl ?_
  refine r_getf (pc := 1) F dX4_timesOut_1 fl_4_15 i68_8 (ce_8 _ _ _) rfl ?_
  refine r_aload_n (pc := 4) F dX4_timesOut_4 rfl ?_
  refine r_getf (pc := 5) F dX4_timesOut_5 fl_4_9 i68_8 (ce_8 _ _ _) rfl ?_
  obtain ⟨w1, ew1, h0⟩ := bind_some h0
  refine r_Vv1 (pc := 8) F dX4_timesOut_8 ml_4_48 (kX8_setOut _ 1 co1 w w1 ew1) i68_4 (ce_4 _ _ _) (Nat.le_of_ble_eq_true rfl) (Nat.le_of_ble_eq_true rfl) (Nat.le_of_ble_eq_true rfl) ?_
  refine r_iconst (pc := 11) F dX4_timesOut_11 ic_0 ?_
  refine r_istore_n (pc := 12) (ls' := [(0, .ref ((zg Z).1 8)), (1, .int a1), (2, .int 0)]) F dX4_timesOut_12 (Nat.le_of_ble_eq_true rfl) rfl ?_
  refine r_aload_n (pc := 13) F dX4_timesOut_13 rfl ?_
  refine r_getf (pc := 14) F dX4_timesOut_14 fl_4_9 i68_8 (ce_8 _ _ _) rfl ?_
  refine r_getf (pc := 17) F dX4_timesOut_17 fl_4_52 i68_1 (ce_1 _ _ _) rfl ?_
  obtain ⟨v3, ev3, h0⟩ := lt_some h0
  refine V_nm ev3 ?_
  refine r_istore_n (pc := 20) (ls' := [(0, .ref ((zg Z).1 8)), (1, .int a1), (2, .int 0), (3, .int v3)]) F dX4_timesOut_20 (Nat.le_of_ble_eq_true rfl) rfl ?_
  refine r_iconst (pc := 21) F dX4_timesOut_21 ic_0 ?_
  refine r_istore (pc := 22) (ls' := [(0, .ref ((zg Z).1 8)), (1, .int a1), (2, .int 0), (3, .int v3), (4, .int 0)]) F dX4_timesOut_22 (Nat.le_of_ble_eq_true rfl) rfl ?_
  obtain ⟨x18, ix18, h0⟩ := bind_some h0
  replace h0 := un2_eq h0
  obtain ⟨l19, w20, rfl, h0⟩ := h0
  suffices E24 : V Z 78 [(2, .int l19)] [] w20 by
    refine iter_rule (P := fun s : Int32 × Int32 × Int32 × Wd => V Z 24 [(0, .ref ((zg Z).1 8)), (1, .int a1), (2, .int (s.1)), (3, .int (s.2.1)), (4, .int (s.2.2.1))] [] s.2.2.2) (x := (l19, w20)) ?_ FU (0, v3, 0, w1) ix18
    intro s y1 h1 hP1 hX1
    obtain ⟨l4, l5, l6, w7⟩ := s
    have h1 : fX4_timesOut_b24 a1 l4 l5 l6 w7 = some y1 := h1
    unfold fX4_timesOut_b24 at h1
    refine r_iload (pc := 24) F dX4_timesOut_24 rfl ?_
    refine r_aload_n (pc := 26) F dX4_timesOut_26 rfl ?_
    refine r_getf (pc := 27) F dX4_timesOut_27 fl_4_15 i68_8 (ce_8 _ _ _) rfl ?_
    refine r_getf (pc := 30) F dX4_timesOut_30 fl_4_31 i68_4 (ce_4 _ _ _) rfl ?_
    refine r_icmp_ge (pc := 33) (tgt := 78) F dX4_timesOut_33 rfl h1 (fun h1 => ?_) (fun h1 => ?_)
    · refine V_sub (ls' := [(2, .int l4)]) [2] rfl ?_
      have e8 := hX1 _ (Option.some.inj h1).symm
      cases e8
      exact E24
    · refine r_aload_n (pc := 36) F dX4_timesOut_36 rfl ?_
      refine r_getf (pc := 37) F dX4_timesOut_37 fl_4_15 i68_8 (ce_8 _ _ _) rfl ?_
      refine r_aload_n (pc := 40) F dX4_timesOut_40 rfl ?_
      refine r_getf (pc := 41) F dX4_timesOut_41 fl_4_15 i68_8 (ce_8 _ _ _) rfl ?_
      refine r_getf (pc := 44) F dX4_timesOut_44 fl_4_57 i68_4 (ce_4 _ _ _) rfl ?_
      refine r_iload (pc := 47) F dX4_timesOut_47 rfl ?_
      refine r_iadd (pc := 49) F dX4_timesOut_49 ?_
      refine r_iload_n (pc := 50) F dX4_timesOut_50 rfl ?_
      obtain ⟨q11, er10, h1⟩ := bind_some h1
      replace h1 := un2_eq h1
      obtain ⟨r10, w9, rfl, h1⟩ := h1
      refine r_Vj2 (pc := 51) F dX4_timesOut_51 ml_4_60 (kX8_minuteAt _ w7 ((w7.1 4 3) + l6) l5 (r10, w9) er10) i68_4 (ce_4 _ _ _) (Nat.le_of_ble_eq_true rfl) (Nat.le_of_ble_eq_true rfl) (Nat.le_of_ble_eq_true rfl) ?_
      refine r_istore_n (pc := 54) (ls' := [(0, .ref ((zg Z).1 8)), (1, .int a1), (2, .int l4), (3, .int r10), (4, .int l6)]) F dX4_timesOut_54 (Nat.le_of_ble_eq_true rfl) rfl ?_
      refine r_aload_n (pc := 55) F dX4_timesOut_55 rfl ?_
      refine r_getf (pc := 56) F dX4_timesOut_56 fl_4_15 i68_8 (ce_8 _ _ _) rfl ?_
      refine r_getf (pc := 59) F dX4_timesOut_59 fl_4_77 i68_4 (ce_4 _ _ _) rfl ?_
      refine r_iload_n (pc := 62) F dX4_timesOut_62 rfl ?_
      refine r_Ni2 (pc := 63) F dX4_timesOut_63 ml_4_66 (kX9_hasBit _ w9 (w9.1 4 5) a1 _ rfl) (Nat.le_of_ble_eq_true rfl) (Nat.le_of_ble_eq_true rfl) (Nat.le_of_ble_eq_true rfl) ?_
      refine r_if_eq (pc := 66) (tgt := 72) F dX4_timesOut_66 rfl h1 (fun h1 => ?_) (fun h1 => ?_)
      · obtain ⟨v13, ev13, h1⟩ := lt_some h1
        refine r_iinc (pc := 72) (ls' := [(0, .ref ((zg Z).1 8)), (1, .int a1), (2, .int l4), (3, .int r10), (4, .int v13)]) F dX4_timesOut_72 rfl (by rw [ev13]; rfl) (Nat.le_of_ble_eq_true rfl) rfl ?_
        refine r_goto (pc := 75) (tgt := 24) F dX4_timesOut_75 rfl ?_
        exact hP1 (l4, r10, v13, w9) (Option.some.inj h1).symm
      · obtain ⟨v14, ev14, h1⟩ := lt_some h1
        refine r_iinc (pc := 69) (ls' := [(0, .ref ((zg Z).1 8)), (1, .int a1), (2, .int v14), (3, .int r10), (4, .int l6)]) F dX4_timesOut_69 rfl (by rw [ev14]; rfl) (Nat.le_of_ble_eq_true rfl) rfl ?_
        obtain ⟨v15, ev15, h1⟩ := lt_some h1
        refine r_iinc (pc := 72) (ls' := [(0, .ref ((zg Z).1 8)), (1, .int a1), (2, .int v14), (3, .int r10), (4, .int v15)]) F dX4_timesOut_72 rfl (by rw [ev15]; rfl) (Nat.le_of_ble_eq_true rfl) rfl ?_
        refine r_goto (pc := 75) (tgt := 24) F dX4_timesOut_75 rfl ?_
        exact hP1 (v14, r10, v15, w9) (Option.some.inj h1).symm
  refine r_iload_n (pc := 78) F dX4_timesOut_78 rfl ?_
  exact hR _ _ _ _ dX4_timesOut_79 rfl (Option.some.inj h0)
set_option maxRecDepth 100000 in
set_option maxHeartbeats 4000000 in
theorem kX9_out (g : GT) (w : Wd) (a1 : Int32) (out : Int32 × Wd) (h0 : fX9_out w a1 = some out) : CtI g yX9_out cX9_out 2 (some .int) 4 95 [.ref (g.1 0), .int a1] w (fun r w1 => (r, w1) = out) := by
  refine CtI_of .int (by decide) (Nat.le_of_ble_eq_true rfl) (fun Z hg F hR => ?_)
  subst hg
  have F : Fx Z RX9 cX9_out 2 4 95 := F
  refine V_sub (ls' := [(0, .ref ((zg Z).1 0)), (1, .int a1)]) [0, 1] rfl ?_
  unfold fX9_out at h0
  refine r_aload_n (pc := 0) F dX9_out_0 rfl ?_
  refine r_getf (pc := 1) F dX9_out_1 fl_9_10 i68_0 (ce_0 _ _ _) rfl ?_
  refine r_iload_n (pc := 4) F dX9_out_4 rfl ?_
  refine r_Vi1 (pc := 5) F dX9_out_5 ml_9_111 (kX2_hasOne _ 1 co1 w a1 _ rfl) i68_1 (ce_1 _ _ _) (Nat.le_of_ble_eq_true rfl) (Nat.le_of_ble_eq_true rfl) (Nat.le_of_ble_eq_true rfl) ?_
  refine r_if_eq (pc := 8) (tgt := 22) F dX9_out_8 rfl h0 (fun h0 => ?_) (fun h0 => ?_)
  · refine r_aload_n (pc := 22) F dX9_out_22 rfl ?_
    refine r_iconst (pc := 23) F dX9_out_23 ic_m1 ?_
    obtain ⟨q3, er2, h0⟩ := bind_some h0
    replace h0 := un2_eq h0
    obtain ⟨r2, w1, rfl, h0⟩ := h0
    refine r_Vj1 (pc := 24) F dX9_out_24 ml_9_85 (kX9_refuse _ w (-1) (r2, w1) er2) i68_0 (ce_0 _ _ _) (Nat.le_of_ble_eq_true rfl) (Nat.le_of_ble_eq_true rfl) (Nat.le_of_ble_eq_true rfl) ?_
    exact hR _ _ _ _ dX9_out_27 rfl (Option.some.inj h0)
  · refine r_aload_n (pc := 11) F dX9_out_11 rfl ?_
    refine r_getf (pc := 12) F dX9_out_12 fl_9_52 i68_0 (ce_0 _ _ _) rfl ?_
    refine r_iload_n (pc := 15) F dX9_out_15 rfl ?_
    obtain ⟨q7, er6, h0⟩ := bind_some h0
    replace h0 := un2_eq h0
    obtain ⟨r6, w5, rfl, h0⟩ := h0
    refine r_Vj1 (pc := 16) F dX9_out_16 ml_9_336 (kX4_timesOut _ w a1 (r6, w5) er6) i68_8 (ce_8 _ _ _) (Nat.le_of_ble_eq_true rfl) (Nat.le_of_ble_eq_true rfl) (Nat.le_of_ble_eq_true rfl) ?_
    refine r_goto (pc := 19) (tgt := 27) F dX9_out_19 rfl ?_
    exact hR _ _ _ _ dX9_out_27 rfl (Option.some.inj h0)
set_option maxRecDepth 100000 in
set_option maxHeartbeats 4000000 in
theorem kX4_timesLit (g : GT) (w : Wd) (out : Int32 × Wd) (h0 : fX4_timesLit w = some out) : CtI g yX4_timesLit cX4_timesLit 4 (some .int) 3 71 [.ref (g.1 8)] w (fun r w1 => (r, w1) = out) := by
  refine CtI_of .int (by decide) (Nat.le_of_ble_eq_true rfl) (fun Z hg F hR => ?_)
  subst hg
  have F : Fx Z RX4 cX4_timesLit 4 3 71 := F
  refine V_sub (ls' := [(0, .ref ((zg Z).1 8))]) [0] rfl ?_
  unfold fX4_timesLit at h0
  refine r_aload_n (pc := 0) F dX4_timesLit_0 rfl ?_
  refine r_getf (pc := 1) F dX4_timesLit_1 fl_4_15 i68_8 (ce_8 _ _ _) rfl ?_
  refine r_aload_n (pc := 4) F dX4_timesLit_4 rfl ?_
  refine r_getf (pc := 5) F dX4_timesLit_5 fl_4_9 i68_8 (ce_8 _ _ _) rfl ?_
  obtain ⟨w1, ew1, h0⟩ := bind_some h0
  refine r_Vv1 (pc := 8) F dX4_timesLit_8 ml_4_48 (kX8_setOut _ 1 co1 w w1 ew1) i68_4 (ce_4 _ _ _) (Nat.le_of_ble_eq_true rfl) (Nat.le_of_ble_eq_true rfl) (Nat.le_of_ble_eq_true rfl) ?_
  refine r_iconst (pc := 11) F dX4_timesLit_11 ic_0 ?_
  refine r_istore_n (pc := 12) (ls' := [(0, .ref ((zg Z).1 8)), (1, .int 0)]) F dX4_timesLit_12 (Nat.le_of_ble_eq_true rfl) rfl ?_
  refine r_aload_n (pc := 13) F dX4_timesLit_13 rfl ?_
  refine r_getf (pc := 14) F dX4_timesLit_14 fl_4_9 i68_8 (ce_8 _ _ _) rfl ?_
  refine r_getf (pc := 17) F dX4_timesLit_17 fl_4_52 i68_1 (ce_1 _ _ _) rfl ?_
  obtain ⟨v3, ev3, h0⟩ := lt_some h0
  refine V_nm ev3 ?_
  refine r_istore_n (pc := 20) (ls' := [(0, .ref ((zg Z).1 8)), (1, .int 0), (2, .int v3)]) F dX4_timesLit_20 (Nat.le_of_ble_eq_true rfl) rfl ?_
  refine r_iconst (pc := 21) F dX4_timesLit_21 ic_0 ?_
  refine r_istore_n (pc := 22) (ls' := [(0, .ref ((zg Z).1 8)), (1, .int 0), (2, .int v3), (3, .int 0)]) F dX4_timesLit_22 (Nat.le_of_ble_eq_true rfl) rfl ?_
  obtain ⟨x16, ix16, h0⟩ := bind_some h0
  replace h0 := un2_eq h0
  obtain ⟨l17, w18, rfl, h0⟩ := h0
  suffices E23 : V Z 71 [(1, .int l17)] [] w18 by
    refine iter_rule (P := fun s : Int32 × Int32 × Int32 × Wd => V Z 23 [(0, .ref ((zg Z).1 8)), (1, .int (s.1)), (2, .int (s.2.1)), (3, .int (s.2.2.1))] [] s.2.2.2) (x := (l17, w18)) ?_ FU (0, v3, 0, w1) ix16
    intro s y1 h1 hP1 hX1
    obtain ⟨l4, l5, l6, w7⟩ := s
    have h1 : fX4_timesLit_b23 l4 l5 l6 w7 = some y1 := h1
    unfold fX4_timesLit_b23 at h1
    refine r_iload_n (pc := 23) F dX4_timesLit_23 rfl ?_
    refine r_aload_n (pc := 24) F dX4_timesLit_24 rfl ?_
    refine r_getf (pc := 25) F dX4_timesLit_25 fl_4_15 i68_8 (ce_8 _ _ _) rfl ?_
    refine r_getf (pc := 28) F dX4_timesLit_28 fl_4_31 i68_4 (ce_4 _ _ _) rfl ?_
    refine r_icmp_ge (pc := 31) (tgt := 71) F dX4_timesLit_31 rfl h1 (fun h1 => ?_) (fun h1 => ?_)
    · refine V_sub (ls' := [(1, .int l4)]) [1] rfl ?_
      have e8 := hX1 _ (Option.some.inj h1).symm
      cases e8
      exact E23
    · refine r_aload_n (pc := 34) F dX4_timesLit_34 rfl ?_
      refine r_getf (pc := 35) F dX4_timesLit_35 fl_4_15 i68_8 (ce_8 _ _ _) rfl ?_
      refine r_aload_n (pc := 38) F dX4_timesLit_38 rfl ?_
      refine r_getf (pc := 39) F dX4_timesLit_39 fl_4_15 i68_8 (ce_8 _ _ _) rfl ?_
      refine r_getf (pc := 42) F dX4_timesLit_42 fl_4_57 i68_4 (ce_4 _ _ _) rfl ?_
      refine r_iload_n (pc := 45) F dX4_timesLit_45 rfl ?_
      refine r_iadd (pc := 46) F dX4_timesLit_46 ?_
      refine r_iload_n (pc := 47) F dX4_timesLit_47 rfl ?_
      obtain ⟨q11, er10, h1⟩ := bind_some h1
      replace h1 := un2_eq h1
      obtain ⟨r10, w9, rfl, h1⟩ := h1
      refine r_Vj2 (pc := 48) F dX4_timesLit_48 ml_4_60 (kX8_minuteAt _ w7 ((w7.1 4 3) + l6) l5 (r10, w9) er10) i68_4 (ce_4 _ _ _) (Nat.le_of_ble_eq_true rfl) (Nat.le_of_ble_eq_true rfl) (Nat.le_of_ble_eq_true rfl) ?_
      refine r_istore_n (pc := 51) (ls' := [(0, .ref ((zg Z).1 8)), (1, .int l4), (2, .int r10), (3, .int l6)]) F dX4_timesLit_51 (Nat.le_of_ble_eq_true rfl) rfl ?_
      refine r_iload_n (pc := 52) F dX4_timesLit_52 rfl ?_
      refine r_aload_n (pc := 53) F dX4_timesLit_53 rfl ?_
      refine r_getf (pc := 54) F dX4_timesLit_54 fl_4_15 i68_8 (ce_8 _ _ _) rfl ?_
      refine r_getf (pc := 57) F dX4_timesLit_57 fl_4_63 i68_4 (ce_4 _ _ _) rfl ?_
      refine r_Si1 (pc := 60) F dX4_timesLit_60 ml_4_80 (kJ6_bitCount_0f7a4 _ w9 (w9.1 4 6) _ rfl) (Nat.le_of_ble_eq_true rfl) (Nat.le_of_ble_eq_true rfl) (Nat.le_of_ble_eq_true rfl) ?_
      refine r_iadd (pc := 63) F dX4_timesLit_63 ?_
      obtain ⟨v13, ev13, h1⟩ := lt_some h1
      refine V_nm ev13 ?_
      refine r_istore_n (pc := 64) (ls' := [(0, .ref ((zg Z).1 8)), (1, .int v13), (2, .int r10), (3, .int l6)]) F dX4_timesLit_64 (Nat.le_of_ble_eq_true rfl) rfl ?_
      obtain ⟨v14, ev14, h1⟩ := lt_some h1
      refine r_iinc (pc := 65) (ls' := [(0, .ref ((zg Z).1 8)), (1, .int v13), (2, .int r10), (3, .int v14)]) F dX4_timesLit_65 rfl (by rw [ev14]; rfl) (Nat.le_of_ble_eq_true rfl) rfl ?_
      refine r_goto (pc := 68) (tgt := 23) F dX4_timesLit_68 rfl ?_
      exact hP1 (v13, r10, v14, w9) (Option.some.inj h1).symm
  refine r_iload_n (pc := 71) F dX4_timesLit_71 rfl ?_
  exact hR _ _ _ _ dX4_timesLit_72 rfl (Option.some.inj h0)
set_option maxRecDepth 100000 in
set_option maxHeartbeats 4000000 in
theorem kX9_again (g : GT) (w : Wd) (out : Int32 × Wd) (h0 : fX9_again w = some out) : CtI g yX9_again cX9_again 1 (some .int) 4 94 [.ref (g.1 0)] w (fun r w1 => (r, w1) = out) := by
  refine CtI_of .int (by decide) (Nat.le_of_ble_eq_true rfl) (fun Z hg F hR => ?_)
  subst hg
  have F : Fx Z RX9 cX9_again 1 4 94 := F
  refine V_sub (ls' := [(0, .ref ((zg Z).1 0))]) [0] rfl ?_
  unfold fX9_again at h0
  refine r_aload_n (pc := 0) F dX9_again_0 rfl ?_
  refine r_getf (pc := 1) F dX9_again_1 fl_9_52 i68_0 (ce_0 _ _ _) rfl ?_
  obtain ⟨q3, er2, h0⟩ := bind_some h0
  replace h0 := un2_eq h0
  obtain ⟨r2, w1, rfl, h0⟩ := h0
  refine r_Vj0 (pc := 4) F dX9_again_4 ml_9_339 (kX4_timesLit _ w (r2, w1) er2) i68_8 (ce_8 _ _ _) (Nat.le_of_ble_eq_true rfl) (Nat.le_of_ble_eq_true rfl) (Nat.le_of_ble_eq_true rfl) ?_
  exact hR _ _ _ _ dX9_again_7 rfl (Option.some.inj h0)
set_option maxRecDepth 100000 in
set_option maxHeartbeats 4000000 in
theorem kX1_fillGame (g : GT) (w : Wd) (out : Wd) (h0 : fX1_fillGame w = some out) : CtV g yX1_fillGame cX1_fillGame 3 none 4 92 [.ref (g.1 10)] w (fun w1 => w1 = out) := by
  refine CtV_of (by decide) (Nat.le_of_ble_eq_true rfl) (fun Z hg F hR => ?_)
  subst hg
  have F : Fx Z RX1 cX1_fillGame 3 4 92 := F
  refine V_sub (ls' := [(0, .ref ((zg Z).1 10))]) [0] rfl ?_
  unfold fX1_fillGame at h0
  refine r_aload_n (pc := 0) F dX1_fillGame_0 rfl ?_
  refine r_getf (pc := 1) F dX1_fillGame_1 fl_1_15 i68_10 (ce_10 _ _ _) rfl ?_
  refine r_aload_n (pc := 4) F dX1_fillGame_4 rfl ?_
  refine r_getf (pc := 5) F dX1_fillGame_5 fl_1_9 i68_10 (ce_10 _ _ _) rfl ?_
  obtain ⟨w1, ew1, h0⟩ := lt_some h0
  refine r_Vv1 (pc := 8) F dX1_fillGame_8 ml_1_47 (kX2_takeFrom _ 3 co3 1 co1 w w1 ew1.symm) i68_3 (ce_3 _ _ _) (Nat.le_of_ble_eq_true rfl) (Nat.le_of_ble_eq_true rfl) (Nat.le_of_ble_eq_true rfl) ?_
  refine r_iconst (pc := 11) F dX1_fillGame_11 ic_0 ?_
  refine r_istore_n (pc := 12) (ls' := [(0, .ref ((zg Z).1 10)), (1, .int 0)]) F dX1_fillGame_12 (Nat.le_of_ble_eq_true rfl) rfl ?_
  obtain ⟨w28, iw28, h0⟩ := bind_some h0
  suffices E13 : V Z 71 [] [] w28 by
    refine iter_rule (P := fun s : Int32 × Wd => V Z 13 [(0, .ref ((zg Z).1 10)), (1, .int (s.1))] [] s.2) (x := w28) ?_ FU (0, w1) iw28
    intro s y1 h1 hP1 hX1
    obtain ⟨l3, w4⟩ := s
    have h1 : fX1_fillGame_b13 l3 w4 = some y1 := h1
    unfold fX1_fillGame_b13 at h1
    refine r_iload_n (pc := 13) F dX1_fillGame_13 rfl ?_
    refine r_iconst (pc := 14) F dX1_fillGame_14 ic_2 ?_
    refine r_icmp_gt (pc := 15) (tgt := 71) F dX1_fillGame_15 rfl h1 (fun h1 => ?_) (fun h1 => ?_)
    · refine V_sub (ls' := []) [] rfl ?_
      have e5 := hX1 _ (Option.some.inj h1).symm
      cases e5
      exact E13
    · refine r_iconst (pc := 18) F dX1_fillGame_18 ic_0 ?_
      refine r_istore_n (pc := 19) (ls' := [(0, .ref ((zg Z).1 10)), (1, .int l3), (2, .int 0)]) F dX1_fillGame_19 (Nat.le_of_ble_eq_true rfl) rfl ?_
      obtain ⟨w23, iw23, h1⟩ := bind_some h1
      suffices E20 : V Z 65 [(0, .ref ((zg Z).1 10)), (1, .int l3)] [] w23 by
        refine iter_rule (P := fun s : Int32 × Wd => V Z 20 [(0, .ref ((zg Z).1 10)), (1, .int l3), (2, .int (s.1))] [] s.2) (x := w23) ?_ FU (0, w4) iw23
        intro s y2 h2 hP2 hX2
        obtain ⟨l6, w7⟩ := s
        have h2 : fX1_fillGame_b20 l3 l6 w7 = some y2 := h2
        unfold fX1_fillGame_b20 at h2
        refine r_iload_n (pc := 20) F dX1_fillGame_20 rfl ?_
        refine r_iconst (pc := 21) F dX1_fillGame_21 ic_2 ?_
        refine r_icmp_gt (pc := 22) (tgt := 65) F dX1_fillGame_22 rfl h2 (fun h2 => ?_) (fun h2 => ?_)
        · refine V_sub (ls' := [(0, .ref ((zg Z).1 10)), (1, .int l3)]) [0, 1] rfl ?_
          have e8 := hX2 _ (Option.some.inj h2).symm
          cases e8
          exact E20
        · refine r_aload_n (pc := 25) F dX1_fillGame_25 rfl ?_
          refine r_getf (pc := 26) F dX1_fillGame_26 fl_1_15 i68_10 (ce_10 _ _ _) rfl ?_
          refine r_iload_n (pc := 29) F dX1_fillGame_29 rfl ?_
          obtain ⟨w9, ew9, h2⟩ := lt_some h2
          refine r_putI (pc := 30) F dX1_fillGame_30 fl_1_123 fp_2_2 i68_3 (ce_3 _) (Nat.le_of_ble_eq_true rfl) rfl rfl rfl ew9 ?_
          refine r_aload_n (pc := 33) F dX1_fillGame_33 rfl ?_
          refine r_getf (pc := 34) F dX1_fillGame_34 fl_1_15 i68_10 (ce_10 _ _ _) rfl ?_
          refine r_iload_n (pc := 37) F dX1_fillGame_37 rfl ?_
          obtain ⟨w11, ew11, h2⟩ := bind_some h2
          refine r_Vv1 (pc := 38) F dX1_fillGame_38 ml_1_99 (kX2_blowFrom _ 3 co3 w9 l6 w11 ew11) i68_3 (ce_3 _ _ _) (Nat.le_of_ble_eq_true rfl) (Nat.le_of_ble_eq_true rfl) (Nat.le_of_ble_eq_true rfl) ?_
          refine r_aload_n (pc := 41) F dX1_fillGame_41 rfl ?_
          refine r_getf (pc := 42) F dX1_fillGame_42 fl_1_26 i68_10 (ce_10 _ _ _) rfl ?_
          refine r_iconst (pc := 45) F dX1_fillGame_45 ic_3 ?_
          refine r_iload_n (pc := 46) F dX1_fillGame_46 rfl ?_
          refine r_imul (pc := 47) F dX1_fillGame_47 ?_
          refine r_iload_n (pc := 48) F dX1_fillGame_48 rfl ?_
          refine r_iadd (pc := 49) F dX1_fillGame_49 ?_
          refine r_aload_n (pc := 50) F dX1_fillGame_50 rfl ?_
          refine r_aload_n (pc := 51) F dX1_fillGame_51 rfl ?_
          refine r_getf (pc := 52) F dX1_fillGame_52 fl_1_15 i68_10 (ce_10 _ _ _) rfl ?_
          obtain ⟨q15, er14, h2⟩ := bind_some h2
          replace h2 := un2_eq h2
          obtain ⟨r14, w13, rfl, h2⟩ := h2
          refine r_Vj1 (pc := 55) F dX1_fillGame_55 ml_1_61 (kX1_countOf _ 3 co3 w11 (r14, w13) er14) i68_10 (ce_10 _ _ _) (Nat.le_of_ble_eq_true rfl) (Nat.le_of_ble_eq_true rfl) (Nat.le_of_ble_eq_true rfl) ?_
          obtain ⟨g18, h2⟩ := gd_some h2
          obtain ⟨w17, ew17, h2⟩ := lt_some h2
          refine r_iast (pc := 58) F dX1_fillGame_58 i68_38 (ca_38 _) g18 rfl ew17 ?_
          obtain ⟨v20, ev20, h2⟩ := lt_some h2
          refine r_iinc (pc := 59) (ls' := [(0, .ref ((zg Z).1 10)), (1, .int l3), (2, .int v20)]) F dX1_fillGame_59 rfl (by rw [ev20]; rfl) (Nat.le_of_ble_eq_true rfl) rfl ?_
          refine r_goto (pc := 62) (tgt := 20) F dX1_fillGame_62 rfl ?_
          exact hP2 (v20, w17) (Option.some.inj h2).symm
      obtain ⟨v25, ev25, h1⟩ := lt_some h1
      refine r_iinc (pc := 65) (ls' := [(0, .ref ((zg Z).1 10)), (1, .int v25)]) F dX1_fillGame_65 rfl (by rw [ev25]; rfl) (Nat.le_of_ble_eq_true rfl) rfl ?_
      refine r_goto (pc := 68) (tgt := 13) F dX1_fillGame_68 rfl ?_
      exact hP1 (v25, w23) (Option.some.inj h1).symm
  exact hR _ _ _ dX1_fillGame_71 (Option.some.inj h0)
set_option maxRecDepth 100000 in
set_option maxHeartbeats 4000000 in
theorem kX1_fewestOfForm (g : GT) (w : Wd) (a1 : Int32) (out : Int32) (h0 : fX1_fewestOfForm w a1 = some out) : CtI g yX1_fewestOfForm cX1_fewestOfForm 3 (some .int) 1 19 [.ref (g.1 10), .int a1] w (fun r w1 => r = out ∧ w1 = w) := by
  refine CtI_of .int (by decide) (Nat.le_of_ble_eq_true rfl) (fun Z hg F hR => ?_)
  subst hg
  have F : Fx Z RX1 cX1_fewestOfForm 3 1 19 := F
  refine V_sub (ls' := [(0, .ref ((zg Z).1 10)), (1, .int a1)]) [0, 1] rfl ?_
  unfold fX1_fewestOfForm at h0
  refine r_iconst (pc := 0) F dX1_fewestOfForm_0 ic_3 ?_
  refine r_iload_n (pc := 1) F dX1_fewestOfForm_1 rfl ?_
  refine r_imul (pc := 2) F dX1_fewestOfForm_2 ?_
  obtain ⟨v1, ev1, h0⟩ := lt_some h0
  refine V_nm ev1 ?_
  refine r_istore_n (pc := 3) (ls' := [(0, .ref ((zg Z).1 10)), (1, .int a1), (2, .int v1)]) F dX1_fewestOfForm_3 (Nat.le_of_ble_eq_true rfl) rfl ?_
  refine r_aload_n (pc := 4) F dX1_fewestOfForm_4 rfl ?_
  refine r_getf (pc := 5) F dX1_fewestOfForm_5 fl_1_26 i68_10 (ce_10 _ _ _) rfl ?_
  refine r_iload_n (pc := 8) F dX1_fewestOfForm_8 rfl ?_
  obtain ⟨g2, h0⟩ := gd_some h0
  refine r_iald (pc := 9) F dX1_fewestOfForm_9 i68_38 (ca_38 _) g2 rfl ?_
  refine r_aload_n (pc := 10) F dX1_fewestOfForm_10 rfl ?_
  refine r_getf (pc := 11) F dX1_fewestOfForm_11 fl_1_26 i68_10 (ce_10 _ _ _) rfl ?_
  refine r_iload_n (pc := 14) F dX1_fewestOfForm_14 rfl ?_
  refine r_iconst (pc := 15) F dX1_fewestOfForm_15 ic_1 ?_
  refine r_iadd (pc := 16) F dX1_fewestOfForm_16 ?_
  obtain ⟨g3, h0⟩ := gd_some h0
  refine r_iald (pc := 17) F dX1_fewestOfForm_17 i68_38 (ca_38 _) g3 rfl ?_
  refine r_aload_n (pc := 18) F dX1_fewestOfForm_18 rfl ?_
  refine r_getf (pc := 19) F dX1_fewestOfForm_19 fl_1_26 i68_10 (ce_10 _ _ _) rfl ?_
  refine r_iload_n (pc := 22) F dX1_fewestOfForm_22 rfl ?_
  refine r_iconst (pc := 23) F dX1_fewestOfForm_23 ic_2 ?_
  refine r_iadd (pc := 24) F dX1_fewestOfForm_24 ?_
  obtain ⟨g4, h0⟩ := gd_some h0
  refine r_iald (pc := 25) F dX1_fewestOfForm_25 i68_38 (ca_38 _) g4 rfl ?_
  refine r_min (pc := 26) F dX1_fewestOfForm_26 mk_1_68 ms_min mi_Math mc_min (Nat.le_of_ble_eq_true rfl) (Nat.le_of_ble_eq_true rfl) ?_
  refine r_min (pc := 29) F dX1_fewestOfForm_29 mk_1_68 ms_min mi_Math mc_min (Nat.le_of_ble_eq_true rfl) (Nat.le_of_ble_eq_true rfl) ?_
  exact hR _ _ _ _ dX1_fewestOfForm_32 rfl ⟨(Option.some.inj h0), rfl⟩
set_option maxRecDepth 100000 in
set_option maxHeartbeats 4000000 in
theorem kX1_mostOfSide (g : GT) (w : Wd) (a1 : Int32) (out : Int32) (h0 : fX1_mostOfSide w a1 = some out) : CtI g yX1_mostOfSide cX1_mostOfSide 2 (some .int) 1 19 [.ref (g.1 10), .int a1] w (fun r w1 => r = out ∧ w1 = w) := by
  refine CtI_of .int (by decide) (Nat.le_of_ble_eq_true rfl) (fun Z hg F hR => ?_)
  subst hg
  have F : Fx Z RX1 cX1_mostOfSide 2 1 19 := F
  refine V_sub (ls' := [(0, .ref ((zg Z).1 10)), (1, .int a1)]) [0, 1] rfl ?_
  unfold fX1_mostOfSide at h0
  refine r_aload_n (pc := 0) F dX1_mostOfSide_0 rfl ?_
  refine r_getf (pc := 1) F dX1_mostOfSide_1 fl_1_26 i68_10 (ce_10 _ _ _) rfl ?_
  refine r_iload_n (pc := 4) F dX1_mostOfSide_4 rfl ?_
  obtain ⟨g1, h0⟩ := gd_some h0
  refine r_iald (pc := 5) F dX1_mostOfSide_5 i68_38 (ca_38 _) g1 rfl ?_
  refine r_aload_n (pc := 6) F dX1_mostOfSide_6 rfl ?_
  refine r_getf (pc := 7) F dX1_mostOfSide_7 fl_1_26 i68_10 (ce_10 _ _ _) rfl ?_
  refine r_iload_n (pc := 10) F dX1_mostOfSide_10 rfl ?_
  refine r_iconst (pc := 11) F dX1_mostOfSide_11 ic_3 ?_
  refine r_iadd (pc := 12) F dX1_mostOfSide_12 ?_
  obtain ⟨g2, h0⟩ := gd_some h0
  refine r_iald (pc := 13) F dX1_mostOfSide_13 i68_38 (ca_38 _) g2 rfl ?_
  refine r_aload_n (pc := 14) F dX1_mostOfSide_14 rfl ?_
  refine r_getf (pc := 15) F dX1_mostOfSide_15 fl_1_26 i68_10 (ce_10 _ _ _) rfl ?_
  refine r_iload_n (pc := 18) F dX1_mostOfSide_18 rfl ?_
  refine r_bipush (pc := 19) F dX1_mostOfSide_19 bp_6 ?_
  refine r_iadd (pc := 21) F dX1_mostOfSide_21 ?_
  obtain ⟨g3, h0⟩ := gd_some h0
  refine r_iald (pc := 22) F dX1_mostOfSide_22 i68_38 (ca_38 _) g3 rfl ?_
  refine r_max (pc := 23) F dX1_mostOfSide_23 mk_1_140 ms_max mi_Math mc_max (Nat.le_of_ble_eq_true rfl) (Nat.le_of_ble_eq_true rfl) ?_
  refine r_max (pc := 26) F dX1_mostOfSide_26 mk_1_140 ms_max mi_Math mc_max (Nat.le_of_ble_eq_true rfl) (Nat.le_of_ble_eq_true rfl) ?_
  exact hR _ _ _ _ dX1_mostOfSide_29 rfl ⟨(Option.some.inj h0), rfl⟩
set_option maxRecDepth 100000 in
set_option maxHeartbeats 4000000 in
theorem kX1_steadyPair (g : GT) (w : Wd) (out : Int32) (h0 : fX1_steadyPair w = some out) : CtI g yX1_steadyPair cX1_steadyPair 4 (some .int) 2 41 [.ref (g.1 10)] w (fun r w1 => r = out ∧ w1 = w) := by
  refine CtI_of .int (by decide) (Nat.le_of_ble_eq_true rfl) (fun Z hg F hR => ?_)
  subst hg
  have F : Fx Z RX1 cX1_steadyPair 4 2 41 := F
  refine V_sub (ls' := [(0, .ref ((zg Z).1 10))]) [0] rfl ?_
  unfold fX1_steadyPair at h0
  refine r_iconst (pc := 0) F dX1_steadyPair_0 ic_0 ?_
  refine r_istore_n (pc := 1) (ls' := [(0, .ref ((zg Z).1 10)), (1, .int 0)]) F dX1_steadyPair_1 (Nat.le_of_ble_eq_true rfl) rfl ?_
  refine iter_rule (P := fun s : Int32 => V Z 2 [(0, .ref ((zg Z).1 10)), (1, .int s)] [] w) (x := out) ?_ FU 0 h0
  intro s y1 h1 hP1 hX1
  obtain ⟨l1, rfl⟩ : ∃ z, z = s := ⟨s, rfl⟩
  have h1 : fX1_steadyPair_b2 w l1 = some y1 := h1
  unfold fX1_steadyPair_b2 at h1
  refine r_iload_n (pc := 2) F dX1_steadyPair_2 rfl ?_
  refine r_iconst (pc := 3) F dX1_steadyPair_3 ic_2 ?_
  refine r_icmp_gt (pc := 4) (tgt := 62) F dX1_steadyPair_4 rfl h1 (fun h1 => ?_) (fun h1 => ?_)
  · refine r_bipush (pc := 62) F dX1_steadyPair_62 bp_m9 ?_
    have h0 := congrArg some (hX1 _ (Option.some.inj h1).symm)
    exact hR _ _ _ _ dX1_steadyPair_64 rfl ⟨(Option.some.inj h0), rfl⟩
  · refine r_iconst (pc := 7) F dX1_steadyPair_7 ic_0 ?_
    refine r_istore_n (pc := 8) (ls' := [(0, .ref ((zg Z).1 10)), (1, .int l1), (2, .int 0)]) F dX1_steadyPair_8 (Nat.le_of_ble_eq_true rfl) rfl ?_
    refine iter_rule (P := fun s : Int32 => V Z 9 [(0, .ref ((zg Z).1 10)), (1, .int l1), (2, .int s)] [] w) (x := y1) ?_ FU 0 h1
    intro s y2 h2 hP2 hX2
    obtain ⟨l2, rfl⟩ : ∃ z, z = s := ⟨s, rfl⟩
    have h2 : fX1_steadyPair_b9 l1 w l2 = some y2 := h2
    unfold fX1_steadyPair_b9 at h2
    refine r_iload_n (pc := 9) F dX1_steadyPair_9 rfl ?_
    refine r_iconst (pc := 10) F dX1_steadyPair_10 ic_2 ?_
    refine r_icmp_gt (pc := 11) (tgt := 56) F dX1_steadyPair_11 rfl h2 (fun h2 => ?_) (fun h2 => ?_)
    · obtain ⟨v3, ev3, h2⟩ := lt_some h2
      refine r_iinc (pc := 56) (ls' := [(0, .ref ((zg Z).1 10)), (1, .int v3), (2, .int l2)]) F dX1_steadyPair_56 rfl (by rw [ev3]; rfl) (Nat.le_of_ble_eq_true rfl) rfl ?_
      refine r_goto (pc := 59) (tgt := 2) F dX1_steadyPair_59 rfl ?_
      refine V_sub (ls' := [(0, .ref ((zg Z).1 10)), (1, .int v3)]) [0, 1] rfl ?_
      have h1 := congrArg some (hX2 _ (Option.some.inj h2).symm)
      exact hP1 v3 (Option.some.inj h1).symm
    · refine r_aload_n (pc := 14) F dX1_steadyPair_14 rfl ?_
      refine r_getf (pc := 15) F dX1_steadyPair_15 fl_1_26 i68_10 (ce_10 _ _ _) rfl ?_
      refine r_iconst (pc := 18) F dX1_steadyPair_18 ic_3 ?_
      refine r_iload_n (pc := 19) F dX1_steadyPair_19 rfl ?_
      refine r_imul (pc := 20) F dX1_steadyPair_20 ?_
      refine r_iload_n (pc := 21) F dX1_steadyPair_21 rfl ?_
      refine r_iadd (pc := 22) F dX1_steadyPair_22 ?_
      obtain ⟨g4, h2⟩ := gd_some h2
      refine r_iald (pc := 23) F dX1_steadyPair_23 i68_38 (ca_38 _) g4 rfl ?_
      obtain ⟨v5, ev5, h2⟩ := lt_some h2
      refine V_nm ev5 ?_
      refine r_istore_n (pc := 24) (ls' := [(0, .ref ((zg Z).1 10)), (1, .int l1), (2, .int l2), (3, .int v5)]) F dX1_steadyPair_24 (Nat.le_of_ble_eq_true rfl) rfl ?_
      refine r_iload_n (pc := 25) F dX1_steadyPair_25 rfl ?_
      refine r_aload_n (pc := 26) F dX1_steadyPair_26 rfl ?_
      refine r_iload_n (pc := 27) F dX1_steadyPair_27 rfl ?_
      obtain ⟨r6, er6, h2⟩ := bind_some h2
      refine r_Vi1 (pc := 28) F dX1_steadyPair_28 ml_1_150 (kX1_fewestOfForm _ w l1 r6 er6) i68_10 (ce_10 _ _ _) (Nat.le_of_ble_eq_true rfl) (Nat.le_of_ble_eq_true rfl) (Nat.le_of_ble_eq_true rfl) ?_
      refine r_icmp_ne (pc := 31) (tgt := 50) F dX1_steadyPair_31 rfl h2 (fun h2 => ?_) (fun h2 => ?_)
      · refine r_iload_n (pc := 34) F dX1_steadyPair_34 rfl ?_
        refine r_aload_n (pc := 35) F dX1_steadyPair_35 rfl ?_
        refine r_iload_n (pc := 36) F dX1_steadyPair_36 rfl ?_
        obtain ⟨r7, er7, h2⟩ := bind_some h2
        refine r_Vi1 (pc := 37) F dX1_steadyPair_37 ml_1_153 (kX1_mostOfSide _ w l2 r7 er7) i68_10 (ce_10 _ _ _) (Nat.le_of_ble_eq_true rfl) (Nat.le_of_ble_eq_true rfl) (Nat.le_of_ble_eq_true rfl) ?_
        refine r_icmp_ne (pc := 40) (tgt := 50) F dX1_steadyPair_40 rfl h2 (fun h2 => ?_) (fun h2 => ?_)
        · refine r_bipush (pc := 43) F dX1_steadyPair_43 bp_10 ?_
          refine r_iload_n (pc := 45) F dX1_steadyPair_45 rfl ?_
          refine r_imul (pc := 46) F dX1_steadyPair_46 ?_
          refine r_iload_n (pc := 47) F dX1_steadyPair_47 rfl ?_
          refine r_iadd (pc := 48) F dX1_steadyPair_48 ?_
          have h1 := congrArg some (hX2 _ (Option.some.inj h2).symm)
          have h0 := congrArg some (hX1 _ (Option.some.inj h1).symm)
          exact hR _ _ _ _ dX1_steadyPair_49 rfl ⟨(Option.some.inj h0), rfl⟩
        · obtain ⟨v8, ev8, h2⟩ := lt_some h2
          refine r_iinc (pc := 50) (ls' := [(0, .ref ((zg Z).1 10)), (1, .int l1), (2, .int v8), (3, .int v5)]) F dX1_steadyPair_50 rfl (by rw [ev8]; rfl) (Nat.le_of_ble_eq_true rfl) rfl ?_
          refine r_goto (pc := 53) (tgt := 9) F dX1_steadyPair_53 rfl ?_
          refine V_sub (ls' := [(0, .ref ((zg Z).1 10)), (1, .int l1), (2, .int v8)]) [0, 1, 2] rfl ?_
          exact hP2 v8 (Option.some.inj h2).symm
      · obtain ⟨v10, ev10, h2⟩ := lt_some h2
        refine r_iinc (pc := 50) (ls' := [(0, .ref ((zg Z).1 10)), (1, .int l1), (2, .int v10), (3, .int v5)]) F dX1_steadyPair_50 rfl (by rw [ev10]; rfl) (Nat.le_of_ble_eq_true rfl) rfl ?_
        refine r_goto (pc := 53) (tgt := 9) F dX1_steadyPair_53 rfl ?_
        refine V_sub (ls' := [(0, .ref ((zg Z).1 10)), (1, .int l1), (2, .int v10)]) [0, 1, 2] rfl ?_
        exact hP2 v10 (Option.some.inj h2).symm
set_option maxRecDepth 100000 in
set_option maxHeartbeats 4000000 in
theorem kX1_sureNumber (g : GT) (w : Wd) (out : Int32) (h0 : fX1_sureNumber w = some out) : CtI g yX1_sureNumber cX1_sureNumber 1 (some .int) 2 41 [.ref (g.1 10)] w (fun r w1 => r = out ∧ w1 = w) := by
  refine CtI_of .int (by decide) (Nat.le_of_ble_eq_true rfl) (fun Z hg F hR => ?_)
  subst hg
  have F : Fx Z RX1 cX1_sureNumber 1 2 41 := F
  refine V_sub (ls' := [(0, .ref ((zg Z).1 10))]) [0] rfl ?_
  unfold fX1_sureNumber at h0
  refine r_aload_n (pc := 0) F dX1_sureNumber_0 rfl ?_
  refine r_iconst (pc := 1) F dX1_sureNumber_1 ic_0 ?_
  obtain ⟨r1, er1, h0⟩ := bind_some h0
  refine r_Vi1 (pc := 2) F dX1_sureNumber_2 ml_1_150 (kX1_fewestOfForm _ w 0 r1 er1) i68_10 (ce_10 _ _ _) (Nat.le_of_ble_eq_true rfl) (Nat.le_of_ble_eq_true rfl) (Nat.le_of_ble_eq_true rfl) ?_
  refine r_aload_n (pc := 5) F dX1_sureNumber_5 rfl ?_
  refine r_iconst (pc := 6) F dX1_sureNumber_6 ic_1 ?_
  obtain ⟨r2, er2, h0⟩ := bind_some h0
  refine r_Vi1 (pc := 7) F dX1_sureNumber_7 ml_1_150 (kX1_fewestOfForm _ w 1 r2 er2) i68_10 (ce_10 _ _ _) (Nat.le_of_ble_eq_true rfl) (Nat.le_of_ble_eq_true rfl) (Nat.le_of_ble_eq_true rfl) ?_
  refine r_aload_n (pc := 10) F dX1_sureNumber_10 rfl ?_
  refine r_iconst (pc := 11) F dX1_sureNumber_11 ic_2 ?_
  obtain ⟨r3, er3, h0⟩ := bind_some h0
  refine r_Vi1 (pc := 12) F dX1_sureNumber_12 ml_1_150 (kX1_fewestOfForm _ w 2 r3 er3) i68_10 (ce_10 _ _ _) (Nat.le_of_ble_eq_true rfl) (Nat.le_of_ble_eq_true rfl) (Nat.le_of_ble_eq_true rfl) ?_
  refine r_max (pc := 15) F dX1_sureNumber_15 mk_1_140 ms_max mi_Math mc_max (Nat.le_of_ble_eq_true rfl) (Nat.le_of_ble_eq_true rfl) ?_
  refine r_max (pc := 18) F dX1_sureNumber_18 mk_1_140 ms_max mi_Math mc_max (Nat.le_of_ble_eq_true rfl) (Nat.le_of_ble_eq_true rfl) ?_
  exact hR _ _ _ _ dX1_sureNumber_21 rfl ⟨(Option.some.inj h0), rfl⟩
set_option maxRecDepth 100000 in
set_option maxHeartbeats 4000000 in
theorem kX1_knownNumber (g : GT) (w : Wd) (out : Int32) (h0 : fX1_knownNumber w = some out) : CtI g yX1_knownNumber cX1_knownNumber 1 (some .int) 2 40 [.ref (g.1 10)] w (fun r w1 => r = out ∧ w1 = w) := by
  refine CtI_of .int (by decide) (Nat.le_of_ble_eq_true rfl) (fun Z hg F hR => ?_)
  subst hg
  have F : Fx Z RX1 cX1_knownNumber 1 2 40 := F
  refine V_sub (ls' := [(0, .ref ((zg Z).1 10))]) [0] rfl ?_
  unfold fX1_knownNumber at h0
  refine r_aload_n (pc := 0) F dX1_knownNumber_0 rfl ?_
  refine r_iconst (pc := 1) F dX1_knownNumber_1 ic_0 ?_
  obtain ⟨r1, er1, h0⟩ := bind_some h0
  refine r_Vi1 (pc := 2) F dX1_knownNumber_2 ml_1_153 (kX1_mostOfSide _ w 0 r1 er1) i68_10 (ce_10 _ _ _) (Nat.le_of_ble_eq_true rfl) (Nat.le_of_ble_eq_true rfl) (Nat.le_of_ble_eq_true rfl) ?_
  refine r_aload_n (pc := 5) F dX1_knownNumber_5 rfl ?_
  refine r_iconst (pc := 6) F dX1_knownNumber_6 ic_1 ?_
  obtain ⟨r2, er2, h0⟩ := bind_some h0
  refine r_Vi1 (pc := 7) F dX1_knownNumber_7 ml_1_153 (kX1_mostOfSide _ w 1 r2 er2) i68_10 (ce_10 _ _ _) (Nat.le_of_ble_eq_true rfl) (Nat.le_of_ble_eq_true rfl) (Nat.le_of_ble_eq_true rfl) ?_
  refine r_aload_n (pc := 10) F dX1_knownNumber_10 rfl ?_
  refine r_iconst (pc := 11) F dX1_knownNumber_11 ic_2 ?_
  obtain ⟨r3, er3, h0⟩ := bind_some h0
  refine r_Vi1 (pc := 12) F dX1_knownNumber_12 ml_1_153 (kX1_mostOfSide _ w 2 r3 er3) i68_10 (ce_10 _ _ _) (Nat.le_of_ble_eq_true rfl) (Nat.le_of_ble_eq_true rfl) (Nat.le_of_ble_eq_true rfl) ?_
  refine r_min (pc := 15) F dX1_knownNumber_15 mk_1_68 ms_min mi_Math mc_min (Nat.le_of_ble_eq_true rfl) (Nat.le_of_ble_eq_true rfl) ?_
  refine r_min (pc := 18) F dX1_knownNumber_18 mk_1_68 ms_min mi_Math mc_min (Nat.le_of_ble_eq_true rfl) (Nat.le_of_ble_eq_true rfl) ?_
  exact hR _ _ _ _ dX1_knownNumber_21 rfl ⟨(Option.some.inj h0), rfl⟩
set_option maxRecDepth 100000 in
set_option maxHeartbeats 4000000 in
theorem kX9_game (g : GT) (w : Wd) (a1 : Int32) (out : Int32 × Wd) (h0 : fX9_game w a1 = some out) : CtI g yX9_game cX9_game 2 (some .int) 5 114 [.ref (g.1 0), .int a1] w (fun r w1 => (r, w1) = out) := by
  refine CtI_of .int (by decide) (Nat.le_of_ble_eq_true rfl) (fun Z hg F hR => ?_)
  subst hg
  have F : Fx Z RX9 cX9_game 2 5 114 := F
  refine V_sub (ls' := [(0, .ref ((zg Z).1 0)), (1, .int a1)]) [0, 1] rfl ?_
  unfold fX9_game at h0
  refine r_iload_n (pc := 0) F dX9_game_0 rfl ?_
  refine r_iconst (pc := 1) F dX9_game_1 ic_2 ?_
  refine r_Si2 (pc := 2) F dX9_game_2 ml_9_115 (kX9_isOutside _ w a1 2 _ rfl) (Nat.le_of_ble_eq_true rfl) (Nat.le_of_ble_eq_true rfl) (Nat.le_of_ble_eq_true rfl) ?_
  refine r_if_eq (pc := 5) (tgt := 15) F dX9_game_5 rfl h0 (fun h0 => ?_) (fun h0 => ?_)
  · refine r_aload_n (pc := 15) F dX9_game_15 rfl ?_
    refine r_getf (pc := 16) F dX9_game_16 fl_9_68 i68_0 (ce_0 _ _ _) rfl ?_
    obtain ⟨w1, ew1, h0⟩ := bind_some h0
    refine r_Vv0 (pc := 19) F dX9_game_19 ml_9_342 (kX1_fillGame _ w w1 ew1) i68_10 (ce_10 _ _ _) (Nat.le_of_ble_eq_true rfl) (Nat.le_of_ble_eq_true rfl) (Nat.le_of_ble_eq_true rfl) ?_
    refine r_iload_n (pc := 22) F dX9_game_22 rfl ?_
    refine r_if_ne (pc := 23) (tgt := 34) F dX9_game_23 rfl h0 (fun h0 => ?_) (fun h0 => ?_)
    · refine r_aload_n (pc := 26) F dX9_game_26 rfl ?_
      refine r_getf (pc := 27) F dX9_game_27 fl_9_68 i68_0 (ce_0 _ _ _) rfl ?_
      obtain ⟨r3, er3, h0⟩ := bind_some h0
      refine r_Vi0 (pc := 30) F dX9_game_30 ml_9_345 (kX1_steadyPair _ w1 r3 er3) i68_10 (ce_10 _ _ _) (Nat.le_of_ble_eq_true rfl) (Nat.le_of_ble_eq_true rfl) (Nat.le_of_ble_eq_true rfl) ?_
      exact hR _ _ _ _ dX9_game_33 rfl (Option.some.inj h0)
    · refine r_iload_n (pc := 34) F dX9_game_34 rfl ?_
      refine r_iconst (pc := 35) F dX9_game_35 ic_1 ?_
      refine r_icmp_ne (pc := 36) (tgt := 49) F dX9_game_36 rfl h0 (fun h0 => ?_) (fun h0 => ?_)
      · refine r_aload_n (pc := 39) F dX9_game_39 rfl ?_
        refine r_getf (pc := 40) F dX9_game_40 fl_9_68 i68_0 (ce_0 _ _ _) rfl ?_
        obtain ⟨r4, er4, h0⟩ := bind_some h0
        refine r_Vi0 (pc := 43) F dX9_game_43 ml_9_348 (kX1_sureNumber _ w1 r4 er4) i68_10 (ce_10 _ _ _) (Nat.le_of_ble_eq_true rfl) (Nat.le_of_ble_eq_true rfl) (Nat.le_of_ble_eq_true rfl) ?_
        refine r_goto (pc := 46) (tgt := 56) F dX9_game_46 rfl ?_
        exact hR _ _ _ _ dX9_game_56 rfl (Option.some.inj h0)
      · refine r_aload_n (pc := 49) F dX9_game_49 rfl ?_
        refine r_getf (pc := 50) F dX9_game_50 fl_9_68 i68_0 (ce_0 _ _ _) rfl ?_
        obtain ⟨r5, er5, h0⟩ := bind_some h0
        refine r_Vi0 (pc := 53) F dX9_game_53 ml_9_351 (kX1_knownNumber _ w1 r5 er5) i68_10 (ce_10 _ _ _) (Nat.le_of_ble_eq_true rfl) (Nat.le_of_ble_eq_true rfl) (Nat.le_of_ble_eq_true rfl) ?_
        exact hR _ _ _ _ dX9_game_56 rfl (Option.some.inj h0)
  · refine r_aload_n (pc := 8) F dX9_game_8 rfl ?_
    refine r_bipush (pc := 9) F dX9_game_9 bp_m2 ?_
    obtain ⟨q10, er9, h0⟩ := bind_some h0
    replace h0 := un2_eq h0
    obtain ⟨r9, w8, rfl, h0⟩ := h0
    refine r_Vj1 (pc := 11) F dX9_game_11 ml_9_85 (kX9_refuse _ w (-2) (r9, w8) er9) i68_0 (ce_0 _ _ _) (Nat.le_of_ble_eq_true rfl) (Nat.le_of_ble_eq_true rfl) (Nat.le_of_ble_eq_true rfl) ?_
    exact hR _ _ _ _ dX9_game_14 rfl (Option.some.inj h0)
set_option maxRecDepth 100000 in
set_option maxHeartbeats 4000000 in
theorem kX1_kindsLit (g : GT) (w : Wd) (a1 : Int32) (out : Int32 × Wd) (h0 : fX1_kindsLit w a1 = some out) : CtI g yX1_kindsLit cX1_kindsLit 4 (some .int) 4 92 [.ref (g.1 10), .int a1] w (fun r w1 => (r, w1) = out) := by
  refine CtI_of .int (by decide) (Nat.le_of_ble_eq_true rfl) (fun Z hg F hR => ?_)
  subst hg
  have F : Fx Z RX1 cX1_kindsLit 4 4 92 := F
  refine V_sub (ls' := [(0, .ref ((zg Z).1 10)), (1, .int a1)]) [0, 1] rfl ?_
  unfold fX1_kindsLit at h0
  refine r_iconst (pc := 0) F dX1_kindsLit_0 ic_0 ?_
  refine r_istore_n (pc := 1) (ls' := [(0, .ref ((zg Z).1 10)), (1, .int a1), (2, .int 0)]) F dX1_kindsLit_1 (Nat.le_of_ble_eq_true rfl) rfl ?_
  refine r_iconst (pc := 2) F dX1_kindsLit_2 ic_0 ?_
  refine r_istore_n (pc := 3) (ls' := [(0, .ref ((zg Z).1 10)), (1, .int a1), (2, .int 0), (3, .int 0)]) F dX1_kindsLit_3 (Nat.le_of_ble_eq_true rfl) rfl ?_
  obtain ⟨x18, ix18, h0⟩ := bind_some h0
  replace h0 := un2_eq h0
  obtain ⟨l19, w20, rfl, h0⟩ := h0
  suffices E4 : V Z 57 [(2, .int l19)] [] w20 by
    refine iter_rule (P := fun s : Int32 × Int32 × Wd => V Z 4 [(0, .ref ((zg Z).1 10)), (1, .int a1), (2, .int (s.1)), (3, .int (s.2.1))] [] s.2.2) (x := (l19, w20)) ?_ FU (0, 0, w) ix18
    intro s y1 h1 hP1 hX1
    obtain ⟨l1, l2, w3⟩ := s
    have h1 : fX1_kindsLit_b4 a1 l1 l2 w3 = some y1 := h1
    unfold fX1_kindsLit_b4 at h1
    refine r_iload_n (pc := 4) F dX1_kindsLit_4 rfl ?_
    refine r_bipush (pc := 5) F dX1_kindsLit_5 bp_6 ?_
    refine r_icmp_gt (pc := 7) (tgt := 57) F dX1_kindsLit_7 rfl h1 (fun h1 => ?_) (fun h1 => ?_)
    · refine V_sub (ls' := [(2, .int l1)]) [2] rfl ?_
      have e4 := hX1 _ (Option.some.inj h1).symm
      cases e4
      exact E4
    · refine r_aload_n (pc := 10) F dX1_kindsLit_10 rfl ?_
      refine r_getf (pc := 11) F dX1_kindsLit_11 fl_1_15 i68_10 (ce_10 _ _ _) rfl ?_
      refine r_aload_n (pc := 14) F dX1_kindsLit_14 rfl ?_
      refine r_getf (pc := 15) F dX1_kindsLit_15 fl_1_9 i68_10 (ce_10 _ _ _) rfl ?_
      obtain ⟨w5, ew5, h1⟩ := lt_some h1
      refine r_Vv1 (pc := 18) F dX1_kindsLit_18 ml_1_47 (kX2_takeFrom _ 3 co3 1 co1 w3 w5 ew5.symm) i68_3 (ce_3 _ _ _) (Nat.le_of_ble_eq_true rfl) (Nat.le_of_ble_eq_true rfl) (Nat.le_of_ble_eq_true rfl) ?_
      refine r_aload_n (pc := 21) F dX1_kindsLit_21 rfl ?_
      refine r_getf (pc := 22) F dX1_kindsLit_22 fl_1_15 i68_10 (ce_10 _ _ _) rfl ?_
      refine r_iload_n (pc := 25) F dX1_kindsLit_25 rfl ?_
      refine r_iload_n (pc := 26) F dX1_kindsLit_26 rfl ?_
      obtain ⟨w7, ew7, h1⟩ := bind_some h1
      refine r_Vv2 (pc := 27) F dX1_kindsLit_27 ml_1_51 (kX2_become _ 3 co3 w5 a1 l2 w7 ew7) i68_3 (ce_3 _ _ _) (Nat.le_of_ble_eq_true rfl) (Nat.le_of_ble_eq_true rfl) (Nat.le_of_ble_eq_true rfl) ?_
      refine r_aload_n (pc := 30) F dX1_kindsLit_30 rfl ?_
      refine r_aload_n (pc := 31) F dX1_kindsLit_31 rfl ?_
      refine r_getf (pc := 32) F dX1_kindsLit_32 fl_1_15 i68_10 (ce_10 _ _ _) rfl ?_
      obtain ⟨q11, er10, h1⟩ := bind_some h1
      replace h1 := un2_eq h1
      obtain ⟨r10, w9, rfl, h1⟩ := h1
      refine r_Vj1 (pc := 35) F dX1_kindsLit_35 ml_1_29 (kX1_doorOf _ 3 co3 w7 (r10, w9) er10) i68_10 (ce_10 _ _ _) (Nat.le_of_ble_eq_true rfl) (Nat.le_of_ble_eq_true rfl) (Nat.le_of_ble_eq_true rfl) ?_
      refine r_iload_n (pc := 38) F dX1_kindsLit_38 rfl ?_
      refine r_Ni2 (pc := 39) F dX1_kindsLit_39 ml_1_146 (kX9_hasBit _ w9 r10 a1 _ rfl) (Nat.le_of_ble_eq_true rfl) (Nat.le_of_ble_eq_true rfl) (Nat.le_of_ble_eq_true rfl) ?_
      refine r_if_eq (pc := 42) (tgt := 51) F dX1_kindsLit_42 rfl h1 (fun h1 => ?_) (fun h1 => ?_)
      · obtain ⟨v13, ev13, h1⟩ := lt_some h1
        refine r_iinc (pc := 51) (ls' := [(0, .ref ((zg Z).1 10)), (1, .int a1), (2, .int l1), (3, .int v13)]) F dX1_kindsLit_51 rfl (by rw [ev13]; rfl) (Nat.le_of_ble_eq_true rfl) rfl ?_
        refine r_goto (pc := 54) (tgt := 4) F dX1_kindsLit_54 rfl ?_
        exact hP1 (l1, v13, w9) (Option.some.inj h1).symm
      · refine r_iload_n (pc := 45) F dX1_kindsLit_45 rfl ?_
        refine r_iconst (pc := 46) F dX1_kindsLit_46 ic_1 ?_
        refine r_iload_n (pc := 47) F dX1_kindsLit_47 rfl ?_
        refine r_ishl (pc := 48) F dX1_kindsLit_48 ?_
        refine r_ior (pc := 49) F dX1_kindsLit_49 ?_
        obtain ⟨v14, ev14, h1⟩ := lt_some h1
        refine V_nm ev14 ?_
        refine r_istore_n (pc := 50) (ls' := [(0, .ref ((zg Z).1 10)), (1, .int a1), (2, .int v14), (3, .int l2)]) F dX1_kindsLit_50 (Nat.le_of_ble_eq_true rfl) rfl ?_
        obtain ⟨v15, ev15, h1⟩ := lt_some h1
        refine r_iinc (pc := 51) (ls' := [(0, .ref ((zg Z).1 10)), (1, .int a1), (2, .int v14), (3, .int v15)]) F dX1_kindsLit_51 rfl (by rw [ev15]; rfl) (Nat.le_of_ble_eq_true rfl) rfl ?_
        refine r_goto (pc := 54) (tgt := 4) F dX1_kindsLit_54 rfl ?_
        exact hP1 (v14, v15, w9) (Option.some.inj h1).symm
  refine r_iload_n (pc := 57) F dX1_kindsLit_57 rfl ?_
  exact hR _ _ _ _ dX1_kindsLit_58 rfl (Option.some.inj h0)
set_option maxRecDepth 100000 in
set_option maxHeartbeats 4000000 in
theorem kX9_heirs (g : GT) (w : Wd) (a1 : Int32) (out : Int32 × Wd) (h0 : fX9_heirs w a1 = some out) : CtI g yX9_heirs cX9_heirs 2 (some .int) 5 115 [.ref (g.1 0), .int a1] w (fun r w1 => (r, w1) = out) := by
  refine CtI_of .int (by decide) (Nat.le_of_ble_eq_true rfl) (fun Z hg F hR => ?_)
  subst hg
  have F : Fx Z RX9 cX9_heirs 2 5 115 := F
  refine V_sub (ls' := [(0, .ref ((zg Z).1 0)), (1, .int a1)]) [0, 1] rfl ?_
  unfold fX9_heirs at h0
  refine r_aload_n (pc := 0) F dX9_heirs_0 rfl ?_
  refine r_getf (pc := 1) F dX9_heirs_1 fl_9_10 i68_0 (ce_0 _ _ _) rfl ?_
  refine r_iload_n (pc := 4) F dX9_heirs_4 rfl ?_
  refine r_Vi1 (pc := 5) F dX9_heirs_5 ml_9_111 (kX2_hasOne _ 1 co1 w a1 _ rfl) i68_1 (ce_1 _ _ _) (Nat.le_of_ble_eq_true rfl) (Nat.le_of_ble_eq_true rfl) (Nat.le_of_ble_eq_true rfl) ?_
  refine r_if_eq (pc := 8) (tgt := 22) F dX9_heirs_8 rfl h0 (fun h0 => ?_) (fun h0 => ?_)
  · refine r_aload_n (pc := 22) F dX9_heirs_22 rfl ?_
    refine r_iconst (pc := 23) F dX9_heirs_23 ic_m1 ?_
    obtain ⟨q3, er2, h0⟩ := bind_some h0
    replace h0 := un2_eq h0
    obtain ⟨r2, w1, rfl, h0⟩ := h0
    refine r_Vj1 (pc := 24) F dX9_heirs_24 ml_9_85 (kX9_refuse _ w (-1) (r2, w1) er2) i68_0 (ce_0 _ _ _) (Nat.le_of_ble_eq_true rfl) (Nat.le_of_ble_eq_true rfl) (Nat.le_of_ble_eq_true rfl) ?_
    exact hR _ _ _ _ dX9_heirs_27 rfl (Option.some.inj h0)
  · refine r_aload_n (pc := 11) F dX9_heirs_11 rfl ?_
    refine r_getf (pc := 12) F dX9_heirs_12 fl_9_68 i68_0 (ce_0 _ _ _) rfl ?_
    refine r_iload_n (pc := 15) F dX9_heirs_15 rfl ?_
    obtain ⟨q7, er6, h0⟩ := bind_some h0
    replace h0 := un2_eq h0
    obtain ⟨r6, w5, rfl, h0⟩ := h0
    refine r_Vj1 (pc := 16) F dX9_heirs_16 ml_9_354 (kX1_kindsLit _ w a1 (r6, w5) er6) i68_10 (ce_10 _ _ _) (Nat.le_of_ble_eq_true rfl) (Nat.le_of_ble_eq_true rfl) (Nat.le_of_ble_eq_true rfl) ?_
    refine r_goto (pc := 19) (tgt := 27) F dX9_heirs_19 rfl ?_
    exact hR _ _ _ _ dX9_heirs_27 rfl (Option.some.inj h0)
set_option maxRecDepth 100000 in
set_option maxHeartbeats 4000000 in
theorem kX4_widestGap (g : GT) (w : Wd) (a1 : Int32) (out : Int32) (h0 : fX4_widestGap w a1 = some out) : CtI g yX4_widestGap cX4_widestGap 5 (some .int) 1 21 [.ref (g.1 8), .int a1] w (fun r w1 => r = out ∧ w1 = w) := by
  refine CtI_of .int (by decide) (Nat.le_of_ble_eq_true rfl) (fun Z hg F hR => ?_)
  subst hg
  have F : Fx Z RX4 cX4_widestGap 5 1 21 := F
  refine V_sub (ls' := [(0, .ref ((zg Z).1 8)), (1, .int a1)]) [0, 1] rfl ?_
  unfold fX4_widestGap at h0
  refine r_iconst (pc := 0) F dX4_widestGap_0 ic_0 ?_
  refine r_istore_n (pc := 1) (ls' := [(0, .ref ((zg Z).1 8)), (1, .int a1), (2, .int 0)]) F dX4_widestGap_1 (Nat.le_of_ble_eq_true rfl) rfl ?_
  refine r_iconst (pc := 2) F dX4_widestGap_2 ic_0 ?_
  refine r_istore_n (pc := 3) (ls' := [(0, .ref ((zg Z).1 8)), (1, .int a1), (2, .int 0), (3, .int 0)]) F dX4_widestGap_3 (Nat.le_of_ble_eq_true rfl) rfl ?_
  refine r_iconst (pc := 4) F dX4_widestGap_4 ic_0 ?_
  refine r_istore (pc := 5) (ls' := [(0, .ref ((zg Z).1 8)), (1, .int a1), (2, .int 0), (3, .int 0), (4, .int 0)]) F dX4_widestGap_5 (Nat.le_of_ble_eq_true rfl) rfl ?_
  obtain ⟨l10, il10, h0⟩ := bind_some h0
  suffices E7 : V Z 48 [(2, .int l10)] [] w by
    refine iter_rule (P := fun s : Int32 × Int32 × Int32 => V Z 7 [(0, .ref ((zg Z).1 8)), (1, .int a1), (2, .int (s.1)), (3, .int (s.2.1)), (4, .int (s.2.2))] [] w) (x := l10) ?_ FU (0, 0, 0) il10
    intro s y1 h1 hP1 hX1
    obtain ⟨l1, l2, l3⟩ := s
    have h1 : fX4_widestGap_b7 w a1 l1 l2 l3 = some y1 := h1
    unfold fX4_widestGap_b7 at h1
    refine r_iload (pc := 7) F dX4_widestGap_7 rfl ?_
    refine r_aload_n (pc := 9) F dX4_widestGap_9 rfl ?_
    refine r_getf (pc := 10) F dX4_widestGap_10 fl_4_15 i68_8 (ce_8 _ _ _) rfl ?_
    refine r_getf (pc := 13) F dX4_widestGap_13 fl_4_124 i68_4 (ce_4 _ _ _) rfl ?_
    refine r_icmp_ge (pc := 16) (tgt := 48) F dX4_widestGap_16 rfl h1 (fun h1 => ?_) (fun h1 => ?_)
    · refine V_sub (ls' := [(2, .int l1)]) [2] rfl ?_
      have e4 := hX1 _ (Option.some.inj h1).symm
      cases e4
      exact E7
    · refine r_iload_n (pc := 19) F dX4_widestGap_19 rfl ?_
      refine r_iload (pc := 20) F dX4_widestGap_20 rfl ?_
      refine r_Ni2 (pc := 22) F dX4_widestGap_22 ml_4_66 (kX9_hasBit _ w a1 l3 _ rfl) (Nat.le_of_ble_eq_true rfl) (Nat.le_of_ble_eq_true rfl) (Nat.le_of_ble_eq_true rfl) ?_
      obtain ⟨v5, hv5, h1⟩ := lt_some h1
      have hv5 := hv5.symm
      suffices Jv5 : V Z 35 [(0, .ref ((zg Z).1 8)), (1, .int a1), (2, .int l1), (3, .int l2), (4, .int l3)] [.int v5] w by
        refine r_if_eq (pc := 25) (tgt := 32) F dX4_widestGap_25 rfl hv5 (fun hv5 => ?_) (fun hv5 => ?_)
        · refine r_iload_n (pc := 32) F dX4_widestGap_32 rfl ?_
          refine r_iconst (pc := 33) F dX4_widestGap_33 ic_1 ?_
          refine r_iadd (pc := 34) F dX4_widestGap_34 ?_
          exact V_nm hv5.symm Jv5
        · refine r_iconst (pc := 28) F dX4_widestGap_28 ic_0 ?_
          refine r_goto (pc := 29) (tgt := 35) F dX4_widestGap_29 rfl ?_
          exact V_nm hv5.symm Jv5
      refine r_istore_n (pc := 35) (ls' := [(0, .ref ((zg Z).1 8)), (1, .int a1), (2, .int l1), (3, .int v5), (4, .int l3)]) F dX4_widestGap_35 (Nat.le_of_ble_eq_true rfl) rfl ?_
      refine r_iload_n (pc := 36) F dX4_widestGap_36 rfl ?_
      refine r_iload_n (pc := 37) F dX4_widestGap_37 rfl ?_
      refine r_max (pc := 38) F dX4_widestGap_38 mk_4_41 ms_max mi_Math mc_max (Nat.le_of_ble_eq_true rfl) (Nat.le_of_ble_eq_true rfl) ?_
      obtain ⟨v6, ev6, h1⟩ := lt_some h1
      refine V_nm ev6 ?_
      refine r_istore_n (pc := 41) (ls' := [(0, .ref ((zg Z).1 8)), (1, .int a1), (2, .int v6), (3, .int v5), (4, .int l3)]) F dX4_widestGap_41 (Nat.le_of_ble_eq_true rfl) rfl ?_
      obtain ⟨v7, ev7, h1⟩ := lt_some h1
      refine r_iinc (pc := 42) (ls' := [(0, .ref ((zg Z).1 8)), (1, .int a1), (2, .int v6), (3, .int v5), (4, .int v7)]) F dX4_widestGap_42 rfl (by rw [ev7]; rfl) (Nat.le_of_ble_eq_true rfl) rfl ?_
      refine r_goto (pc := 45) (tgt := 7) F dX4_widestGap_45 rfl ?_
      exact hP1 (v6, v5, v7) (Option.some.inj h1).symm
  refine r_iload_n (pc := 48) F dX4_widestGap_48 rfl ?_
  exact hR _ _ _ _ dX4_widestGap_49 rfl ⟨(Option.some.inj h0), rfl⟩
set_option maxRecDepth 100000 in
set_option maxHeartbeats 4000000 in
theorem kX4_findGap (g : GT) (w : Wd) (out : Wd) (h0 : fX4_findGap w = some out) : CtV g yX4_findGap cX4_findGap 3 none 5 110 [.ref (g.1 8)] w (fun w1 => w1 = out) := by
  refine CtV_of (by decide) (Nat.le_of_ble_eq_true rfl) (fun Z hg F hR => ?_)
  subst hg
  have F : Fx Z RX4 cX4_findGap 3 5 110 := F
  refine V_sub (ls' := [(0, .ref ((zg Z).1 8))]) [0] rfl ?_
  unfold fX4_findGap at h0
  refine r_aload_n (pc := 0) F dX4_findGap_0 rfl ?_
  obtain ⟨w1, ew1, h0⟩ := bind_some h0
  refine r_Vv0 (pc := 1) F dX4_findGap_1 ml_4_23 (kX4_walkFromNow _ w w1 ew1) i68_8 (ce_8 _ _ _) (Nat.le_of_ble_eq_true rfl) (Nat.le_of_ble_eq_true rfl) (Nat.le_of_ble_eq_true rfl) ?_
  refine r_aload_n (pc := 4) F dX4_findGap_4 rfl ?_
  refine r_iconst (pc := 5) F dX4_findGap_5 ic_0 ?_
  obtain ⟨w3, ew3, h0⟩ := lt_some h0
  refine r_putI (pc := 6) F dX4_findGap_6 fl_4_85 fp_4_2 i68_8 (ce_8 _) (Nat.le_of_ble_eq_true rfl) rfl rfl rfl ew3 ?_
  refine r_aload_n (pc := 9) F dX4_findGap_9 rfl ?_
  refine r_bipush (pc := 10) F dX4_findGap_10 bp_m9 ?_
  obtain ⟨w5, ew5, h0⟩ := lt_some h0
  refine r_putI (pc := 12) F dX4_findGap_12 fl_4_88 fp_4_3 i68_8 (ce_8 _) (Nat.le_of_ble_eq_true rfl) rfl rfl rfl ew5 ?_
  refine r_iconst (pc := 15) F dX4_findGap_15 ic_1 ?_
  refine r_istore_n (pc := 16) (ls' := [(0, .ref ((zg Z).1 8)), (1, .int 1)]) F dX4_findGap_16 (Nat.le_of_ble_eq_true rfl) rfl ?_
  obtain ⟨w21, iw21, h0⟩ := bind_some h0
  suffices E17 : V Z 66 [] [] w21 by
    refine iter_rule (P := fun s : Int32 × Wd => V Z 17 [(0, .ref ((zg Z).1 8)), (1, .int (s.1))] [] s.2) (x := w21) ?_ FU (1, w5) iw21
    intro s y1 h1 hP1 hX1
    obtain ⟨l7, w8⟩ := s
    have h1 : fX4_findGap_b17 l7 w8 = some y1 := h1
    unfold fX4_findGap_b17 at h1
    refine r_iload_n (pc := 17) F dX4_findGap_17 rfl ?_
    refine r_aload_n (pc := 18) F dX4_findGap_18 rfl ?_
    refine r_getf (pc := 19) F dX4_findGap_19 fl_4_15 i68_8 (ce_8 _ _ _) rfl ?_
    refine r_getf (pc := 22) F dX4_findGap_22 fl_4_31 i68_4 (ce_4 _ _ _) rfl ?_
    refine r_icmp_gt (pc := 25) (tgt := 66) F dX4_findGap_25 rfl h1 (fun h1 => ?_) (fun h1 => ?_)
    · refine V_sub (ls' := []) [] rfl ?_
      have e9 := hX1 _ (Option.some.inj h1).symm
      cases e9
      exact E17
    · refine r_aload_n (pc := 28) F dX4_findGap_28 rfl ?_
      refine r_aload_n (pc := 29) F dX4_findGap_29 rfl ?_
      refine r_getf (pc := 30) F dX4_findGap_30 fl_4_15 i68_8 (ce_8 _ _ _) rfl ?_
      refine r_getf (pc := 33) F dX4_findGap_33 fl_4_26 i68_4 (ce_4 _ _ _) rfl ?_
      refine r_iload_n (pc := 36) F dX4_findGap_36 rfl ?_
      obtain ⟨g10, h1⟩ := gd_some h1
      refine r_iald (pc := 37) F dX4_findGap_37 i68_26 (ca_26 _) g10 rfl ?_
      obtain ⟨r11, er11, h1⟩ := bind_some h1
      refine r_Vi1 (pc := 38) F dX4_findGap_38 ml_4_91 (kX4_widestGap _ w8 (w8.1 26 l7.toNatClampNeg) r11 er11) i68_8 (ce_8 _ _ _) (Nat.le_of_ble_eq_true rfl) (Nat.le_of_ble_eq_true rfl) (Nat.le_of_ble_eq_true rfl) ?_
      refine r_istore_n (pc := 41) (ls' := [(0, .ref ((zg Z).1 8)), (1, .int l7), (2, .int r11)]) F dX4_findGap_41 (Nat.le_of_ble_eq_true rfl) rfl ?_
      refine r_iload_n (pc := 42) F dX4_findGap_42 rfl ?_
      refine r_aload_n (pc := 43) F dX4_findGap_43 rfl ?_
      refine r_getf (pc := 44) F dX4_findGap_44 fl_4_85 i68_8 (ce_8 _ _ _) rfl ?_
      refine r_icmp_le (pc := 47) (tgt := 60) F dX4_findGap_47 rfl h1 (fun h1 => ?_) (fun h1 => ?_)
      · obtain ⟨v12, ev12, h1⟩ := lt_some h1
        refine r_iinc (pc := 60) (ls' := [(0, .ref ((zg Z).1 8)), (1, .int v12), (2, .int r11)]) F dX4_findGap_60 rfl (by rw [ev12]; rfl) (Nat.le_of_ble_eq_true rfl) rfl ?_
        refine r_goto (pc := 63) (tgt := 17) F dX4_findGap_63 rfl ?_
        refine V_sub (ls' := [(0, .ref ((zg Z).1 8)), (1, .int v12)]) [0, 1] rfl ?_
        exact hP1 (v12, w8) (Option.some.inj h1).symm
      · refine r_aload_n (pc := 50) F dX4_findGap_50 rfl ?_
        refine r_iload_n (pc := 51) F dX4_findGap_51 rfl ?_
        obtain ⟨w13, ew13, h1⟩ := lt_some h1
        refine r_putI (pc := 52) F dX4_findGap_52 fl_4_85 fp_4_2 i68_8 (ce_8 _) (Nat.le_of_ble_eq_true rfl) rfl rfl rfl ew13 ?_
        refine r_aload_n (pc := 55) F dX4_findGap_55 rfl ?_
        refine r_iload_n (pc := 56) F dX4_findGap_56 rfl ?_
        obtain ⟨w15, ew15, h1⟩ := lt_some h1
        refine r_putI (pc := 57) F dX4_findGap_57 fl_4_88 fp_4_3 i68_8 (ce_8 _) (Nat.le_of_ble_eq_true rfl) rfl rfl rfl ew15 ?_
        obtain ⟨v17, ev17, h1⟩ := lt_some h1
        refine r_iinc (pc := 60) (ls' := [(0, .ref ((zg Z).1 8)), (1, .int v17), (2, .int r11)]) F dX4_findGap_60 rfl (by rw [ev17]; rfl) (Nat.le_of_ble_eq_true rfl) rfl ?_
        refine r_goto (pc := 63) (tgt := 17) F dX4_findGap_63 rfl ?_
        refine V_sub (ls' := [(0, .ref ((zg Z).1 8)), (1, .int v17)]) [0, 1] rfl ?_
        exact hP1 (v17, w15) (Option.some.inj h1).symm
  exact hR _ _ _ dX4_findGap_66 (Option.some.inj h0)
set_option maxRecDepth 100000 in
set_option maxHeartbeats 4000000 in
theorem kX9_gaps (g : GT) (w : Wd) (a1 : Int32) (out : Int32 × Wd) (h0 : fX9_gaps w a1 = some out) : CtI g yX9_gaps cX9_gaps 2 (some .int) 6 132 [.ref (g.1 0), .int a1] w (fun r w1 => (r, w1) = out) := by
  refine CtI_of .int (by decide) (Nat.le_of_ble_eq_true rfl) (fun Z hg F hR => ?_)
  subst hg
  have F : Fx Z RX9 cX9_gaps 2 6 132 := F
  refine V_sub (ls' := [(0, .ref ((zg Z).1 0)), (1, .int a1)]) [0, 1] rfl ?_
  unfold fX9_gaps at h0
  refine r_iload_n (pc := 0) F dX9_gaps_0 rfl ?_
  refine r_iconst (pc := 1) F dX9_gaps_1 ic_1 ?_
  refine r_Si2 (pc := 2) F dX9_gaps_2 ml_9_115 (kX9_isOutside _ w a1 1 _ rfl) (Nat.le_of_ble_eq_true rfl) (Nat.le_of_ble_eq_true rfl) (Nat.le_of_ble_eq_true rfl) ?_
  refine r_if_eq (pc := 5) (tgt := 15) F dX9_gaps_5 rfl h0 (fun h0 => ?_) (fun h0 => ?_)
  · refine r_aload_n (pc := 15) F dX9_gaps_15 rfl ?_
    refine r_getf (pc := 16) F dX9_gaps_16 fl_9_52 i68_0 (ce_0 _ _ _) rfl ?_
    obtain ⟨w1, ew1, h0⟩ := bind_some h0
    refine r_Vv0 (pc := 19) F dX9_gaps_19 ml_9_357 (kX4_findGap _ w w1 ew1) i68_8 (ce_8 _ _ _) (Nat.le_of_ble_eq_true rfl) (Nat.le_of_ble_eq_true rfl) (Nat.le_of_ble_eq_true rfl) ?_
    refine r_iload_n (pc := 22) F dX9_gaps_22 rfl ?_
    refine r_if_ne (pc := 23) (tgt := 36) F dX9_gaps_23 rfl h0 (fun h0 => ?_) (fun h0 => ?_)
    · refine r_aload_n (pc := 26) F dX9_gaps_26 rfl ?_
      refine r_getf (pc := 27) F dX9_gaps_27 fl_9_52 i68_0 (ce_0 _ _ _) rfl ?_
      refine r_getf (pc := 30) F dX9_gaps_30 fl_9_360 i68_8 (ce_8 _ _ _) rfl ?_
      refine r_goto (pc := 33) (tgt := 43) F dX9_gaps_33 rfl ?_
      exact hR _ _ _ _ dX9_gaps_43 rfl (Option.some.inj h0)
    · refine r_aload_n (pc := 36) F dX9_gaps_36 rfl ?_
      refine r_getf (pc := 37) F dX9_gaps_37 fl_9_52 i68_0 (ce_0 _ _ _) rfl ?_
      refine r_getf (pc := 40) F dX9_gaps_40 fl_9_363 i68_8 (ce_8 _ _ _) rfl ?_
      exact hR _ _ _ _ dX9_gaps_43 rfl (Option.some.inj h0)
  · refine r_aload_n (pc := 8) F dX9_gaps_8 rfl ?_
    refine r_bipush (pc := 9) F dX9_gaps_9 bp_m2 ?_
    obtain ⟨q6, er5, h0⟩ := bind_some h0
    replace h0 := un2_eq h0
    obtain ⟨r5, w4, rfl, h0⟩ := h0
    refine r_Vj1 (pc := 11) F dX9_gaps_11 ml_9_85 (kX9_refuse _ w (-2) (r5, w4) er5) i68_0 (ce_0 _ _ _) (Nat.le_of_ble_eq_true rfl) (Nat.le_of_ble_eq_true rfl) (Nat.le_of_ble_eq_true rfl) ?_
    exact hR _ _ _ _ dX9_gaps_14 rfl (Option.some.inj h0)
set_option maxRecDepth 100000 in
set_option maxHeartbeats 4000000 in
theorem kX6_struck (g : GT) (w : Wd) (a1 : Int32) (out : Int32) (h0 : fX6_struck w a1 = out) : CtI g yX6_struck cX6_struck 3 (some .int) 0 0 [.ref (g.1 9), .int a1] w (fun r w1 => r = out ∧ w1 = w) := by
  refine CtI_of .int (by decide) (Nat.le_of_ble_eq_true rfl) (fun Z hg F hR => ?_)
  subst hg
  have F : Fx Z RX6 cX6_struck 3 0 0 := F
  refine V_sub (ls' := [(0, .ref ((zg Z).1 9)), (1, .int a1)]) [0, 1] rfl ?_
  unfold fX6_struck at h0
  refine r_aload_n (pc := 0) F dX6_struck_0 rfl ?_
  refine r_getf (pc := 1) F dX6_struck_1 fl_6_15 i68_9 (ce_9 _ _ _) rfl ?_
  refine r_getf (pc := 4) F dX6_struck_4 fl_6_49 i68_4 (ce_4 _ _ _) rfl ?_
  refine r_iload_n (pc := 7) F dX6_struck_7 rfl ?_
  refine r_iconst (pc := 8) F dX6_struck_8 ic_m1 ?_
  refine r_ixor (pc := 9) F dX6_struck_9 ?_
  refine r_iand (pc := 10) F dX6_struck_10 ?_
  obtain ⟨v1, ev1, h0⟩ := lt_some h0
  refine V_nm ev1 ?_
  refine r_istore_n (pc := 11) (ls' := [(0, .ref ((zg Z).1 9)), (1, .int a1), (2, .int v1)]) F dX6_struck_11 (Nat.le_of_ble_eq_true rfl) rfl ?_
  refine r_iload_n (pc := 12) F dX6_struck_12 rfl ?_
  refine r_iload_n (pc := 13) F dX6_struck_13 rfl ?_
  refine r_iload_n (pc := 14) F dX6_struck_14 rfl ?_
  refine r_ineg (pc := 15) F dX6_struck_15 ?_
  refine r_iand (pc := 16) F dX6_struck_16 ?_
  refine r_ior (pc := 17) F dX6_struck_17 ?_
  exact hR _ _ _ _ dX6_struck_18 rfl ⟨h0, rfl⟩
set_option maxRecDepth 100000 in
set_option maxHeartbeats 4000000 in
theorem kX6_hasOneMatch (g : GT) (w : Wd) (a1 : Int32) (a2 : Int32) (a3 : Int32) (out : Int32 × Wd) (h0 : fX6_hasOneMatch w a1 a2 a3 = some out) : CtI g yX6_hasOneMatch cX6_hasOneMatch 6 (some .boolean) 3 70 [.ref (g.1 9), .int a1, .int a2, .int a3] w (fun r w1 => (r, w1) = out) := by
  refine CtI_of .boolean (by decide) (Nat.le_of_ble_eq_true rfl) (fun Z hg F hR => ?_)
  subst hg
  have F : Fx Z RX6 cX6_hasOneMatch 6 3 70 := F
  refine V_sub (ls' := [(0, .ref ((zg Z).1 9)), (1, .int a1), (2, .int a2), (3, .int a3)]) [0, 1, 2, 3] rfl ?_
  unfold fX6_hasOneMatch at h0
  refine r_iload_n (pc := 0) F dX6_hasOneMatch_0 rfl ?_
  refine r_istore (pc := 1) (ls' := [(0, .ref ((zg Z).1 9)), (1, .int a1), (2, .int a2), (3, .int a3), (4, .int a2)]) F dX6_hasOneMatch_1 (Nat.le_of_ble_eq_true rfl) rfl ?_
  refine r_iload_n (pc := 3) F dX6_hasOneMatch_3 rfl ?_
  refine r_istore (pc := 4) (ls' := [(0, .ref ((zg Z).1 9)), (1, .int a1), (2, .int a2), (3, .int a3), (4, .int a2), (5, .int a1)]) F dX6_hasOneMatch_4 (Nat.le_of_ble_eq_true rfl) rfl ?_
  refine V_sub (ls' := [(0, .ref ((zg Z).1 9)), (3, .int a3), (4, .int a2), (5, .int a1)]) [0, 3, 4, 5] rfl ?_
  refine iter_rule (P := fun s : Int32 × Int32 × Wd => V Z 6 [(0, .ref ((zg Z).1 9)), (3, .int a3), (4, .int (s.1)), (5, .int (s.2.1))] [] s.2.2) (x := out) ?_ FU (a2, a1, w) h0
  intro s y1 h1 hP1 hX1
  obtain ⟨l1, l2, w3⟩ := s
  have h1 : fX6_hasOneMatch_b6 a3 l1 l2 w3 = some y1 := h1
  unfold fX6_hasOneMatch_b6 at h1
  refine r_iload (pc := 6) F dX6_hasOneMatch_6 rfl ?_
  refine r_aload_n (pc := 8) F dX6_hasOneMatch_8 rfl ?_
  refine r_getf (pc := 9) F dX6_hasOneMatch_9 fl_6_15 i68_9 (ce_9 _ _ _) rfl ?_
  refine r_getf (pc := 12) F dX6_hasOneMatch_12 fl_6_27 i68_4 (ce_4 _ _ _) rfl ?_
  refine r_icmp_ge (pc := 15) (tgt := 73) F dX6_hasOneMatch_15 rfl h1 (fun h1 => ?_) (fun h1 => ?_)
  · refine r_iconst (pc := 73) F dX6_hasOneMatch_73 ic_0 ?_
    have h0 := congrArg some (hX1 _ (Option.some.inj h1).symm)
    exact hR _ _ _ _ dX6_hasOneMatch_74 rfl (Option.some.inj h0)
  · refine r_aload_n (pc := 18) F dX6_hasOneMatch_18 rfl ?_
    refine r_getf (pc := 19) F dX6_hasOneMatch_19 fl_6_15 i68_9 (ce_9 _ _ _) rfl ?_
    refine r_iload (pc := 22) F dX6_hasOneMatch_22 rfl ?_
    refine r_aload_n (pc := 24) F dX6_hasOneMatch_24 rfl ?_
    refine r_iload (pc := 25) F dX6_hasOneMatch_25 rfl ?_
    refine r_Vi1 (pc := 27) F dX6_hasOneMatch_27 ml_6_100 (kX6_struck _ w3 l1 _ rfl) i68_9 (ce_9 _ _ _) (Nat.le_of_ble_eq_true rfl) (Nat.le_of_ble_eq_true rfl) (Nat.le_of_ble_eq_true rfl) ?_
    obtain ⟨q6, er5, h1⟩ := bind_some h1
    replace h1 := un2_eq h1
    obtain ⟨r5, w4, rfl, h1⟩ := h1
    refine r_Vj2 (pc := 30) F dX6_hasOneMatch_30 ml_6_59 (kX8_atDoorFrom _ w3 l2 (fX6_struck w3 l1) (r5, w4) er5) i68_4 (ce_4 _ _ _) (Nat.le_of_ble_eq_true rfl) (Nat.le_of_ble_eq_true rfl) (Nat.le_of_ble_eq_true rfl) ?_
    refine r_if_eq (pc := 33) (tgt := 46) F dX6_hasOneMatch_33 rfl h1 (fun h1 => ?_) (fun h1 => ?_)
    · refine r_aload_n (pc := 46) F dX6_hasOneMatch_46 rfl ?_
      refine r_getf (pc := 47) F dX6_hasOneMatch_47 fl_6_15 i68_9 (ce_9 _ _ _) rfl ?_
      refine r_aload_n (pc := 50) F dX6_hasOneMatch_50 rfl ?_
      refine r_getf (pc := 51) F dX6_hasOneMatch_51 fl_6_15 i68_9 (ce_9 _ _ _) rfl ?_
      refine r_getf (pc := 54) F dX6_hasOneMatch_54 fl_6_43 i68_4 (ce_4 _ _ _) rfl ?_
      refine r_iload (pc := 57) F dX6_hasOneMatch_57 rfl ?_
      refine r_iadd (pc := 59) F dX6_hasOneMatch_59 ?_
      refine r_iload (pc := 60) F dX6_hasOneMatch_60 rfl ?_
      obtain ⟨q10, er9, h1⟩ := bind_some h1
      replace h1 := un2_eq h1
      obtain ⟨r9, w8, rfl, h1⟩ := h1
      refine r_Vj2 (pc := 62) F dX6_hasOneMatch_62 ml_6_81 (kX8_minuteAt _ w4 ((w4.1 4 3) + l2) l1 (r9, w8) er9) i68_4 (ce_4 _ _ _) (Nat.le_of_ble_eq_true rfl) (Nat.le_of_ble_eq_true rfl) (Nat.le_of_ble_eq_true rfl) ?_
      refine r_istore (pc := 65) (ls' := [(0, .ref ((zg Z).1 9)), (3, .int a3), (4, .int r9), (5, .int l2)]) F dX6_hasOneMatch_65 (Nat.le_of_ble_eq_true rfl) rfl ?_
      obtain ⟨v12, ev12, h1⟩ := lt_some h1
      refine r_iinc (pc := 67) (ls' := [(0, .ref ((zg Z).1 9)), (3, .int a3), (4, .int r9), (5, .int v12)]) F dX6_hasOneMatch_67 rfl (by rw [ev12]; rfl) (Nat.le_of_ble_eq_true rfl) rfl ?_
      refine r_goto (pc := 70) (tgt := 6) F dX6_hasOneMatch_70 rfl ?_
      exact hP1 (r9, v12, w8) (Option.some.inj h1).symm
    · refine r_aload_n (pc := 36) F dX6_hasOneMatch_36 rfl ?_
      refine r_getf (pc := 37) F dX6_hasOneMatch_37 fl_6_19 i68_9 (ce_9 _ _ _) rfl ?_
      refine r_iload_n (pc := 40) F dX6_hasOneMatch_40 rfl ?_
      refine r_iload (pc := 41) F dX6_hasOneMatch_41 rfl ?_
      obtain ⟨g14, h1⟩ := gd_some h1
      obtain ⟨w13, ew13, h1⟩ := lt_some h1
      refine r_iast (pc := 43) F dX6_hasOneMatch_43 i68_36 (ca_36 _) g14 rfl ew13 ?_
      refine r_iconst (pc := 44) F dX6_hasOneMatch_44 ic_1 ?_
      have h0 := congrArg some (hX1 _ (Option.some.inj h1).symm)
      exact hR _ _ _ _ dX6_hasOneMatch_45 rfl (Option.some.inj h0)
set_option maxRecDepth 100000 in
set_option maxHeartbeats 4000000 in
theorem kX6_hasTwoMatches (g : GT) (w : Wd) (a1 : Int32) (a2 : Int32) (a3 : Int32) (out : Int32 × Wd) (h0 : fX6_hasTwoMatches w a1 a2 a3 = some out) : CtI g yX6_hasTwoMatches cX6_hasTwoMatches 7 (some .boolean) 4 95 [.ref (g.1 9), .int a1, .int a2, .int a3] w (fun r w1 => (r, w1) = out) := by
  refine CtI_of .boolean (by decide) (Nat.le_of_ble_eq_true rfl) (fun Z hg F hR => ?_)
  subst hg
  have F : Fx Z RX6 cX6_hasTwoMatches 7 4 95 := F
  refine V_sub (ls' := [(0, .ref ((zg Z).1 9)), (1, .int a1), (2, .int a2), (3, .int a3)]) [0, 1, 2, 3] rfl ?_
  unfold fX6_hasTwoMatches at h0
  refine r_iload_n (pc := 0) F dX6_hasTwoMatches_0 rfl ?_
  refine r_istore (pc := 1) (ls' := [(0, .ref ((zg Z).1 9)), (1, .int a1), (2, .int a2), (3, .int a3), (4, .int a2)]) F dX6_hasTwoMatches_1 (Nat.le_of_ble_eq_true rfl) rfl ?_
  refine r_iload_n (pc := 3) F dX6_hasTwoMatches_3 rfl ?_
  refine r_istore (pc := 4) (ls' := [(0, .ref ((zg Z).1 9)), (1, .int a1), (2, .int a2), (3, .int a3), (4, .int a2), (5, .int a1)]) F dX6_hasTwoMatches_4 (Nat.le_of_ble_eq_true rfl) rfl ?_
  refine V_sub (ls' := [(0, .ref ((zg Z).1 9)), (3, .int a3), (4, .int a2), (5, .int a1)]) [0, 3, 4, 5] rfl ?_
  refine iter_rule (P := fun s : Int32 × Int32 × Wd => V Z 6 [(0, .ref ((zg Z).1 9)), (3, .int a3), (4, .int (s.1)), (5, .int (s.2.1))] [] s.2.2) (x := out) ?_ FU (a2, a1, w) h0
  intro s y1 h1 hP1 hX1
  obtain ⟨l1, l2, w3⟩ := s
  have h1 : fX6_hasTwoMatches_b6 a3 l1 l2 w3 = some y1 := h1
  unfold fX6_hasTwoMatches_b6 at h1
  refine r_iload (pc := 6) F dX6_hasTwoMatches_6 rfl ?_
  refine r_aload_n (pc := 8) F dX6_hasTwoMatches_8 rfl ?_
  refine r_getf (pc := 9) F dX6_hasTwoMatches_9 fl_6_15 i68_9 (ce_9 _ _ _) rfl ?_
  refine r_getf (pc := 12) F dX6_hasTwoMatches_12 fl_6_27 i68_4 (ce_4 _ _ _) rfl ?_
  refine r_icmp_ge (pc := 15) (tgt := 96) F dX6_hasTwoMatches_15 rfl h1 (fun h1 => ?_) (fun h1 => ?_)
  · refine r_iconst (pc := 96) F dX6_hasTwoMatches_96 ic_0 ?_
    have h0 := congrArg some (hX1 _ (Option.some.inj h1).symm)
    exact hR _ _ _ _ dX6_hasTwoMatches_97 rfl (Option.some.inj h0)
  · refine r_aload_n (pc := 18) F dX6_hasTwoMatches_18 rfl ?_
    refine r_getf (pc := 19) F dX6_hasTwoMatches_19 fl_6_15 i68_9 (ce_9 _ _ _) rfl ?_
    refine r_aload_n (pc := 22) F dX6_hasTwoMatches_22 rfl ?_
    refine r_getf (pc := 23) F dX6_hasTwoMatches_23 fl_6_15 i68_9 (ce_9 _ _ _) rfl ?_
    refine r_getf (pc := 26) F dX6_hasTwoMatches_26 fl_6_43 i68_4 (ce_4 _ _ _) rfl ?_
    refine r_iload (pc := 29) F dX6_hasTwoMatches_29 rfl ?_
    refine r_iadd (pc := 31) F dX6_hasTwoMatches_31 ?_
    refine r_aload_n (pc := 32) F dX6_hasTwoMatches_32 rfl ?_
    refine r_iload (pc := 33) F dX6_hasTwoMatches_33 rfl ?_
    refine r_Vi1 (pc := 35) F dX6_hasTwoMatches_35 ml_6_100 (kX6_struck _ w3 l1 _ rfl) i68_9 (ce_9 _ _ _) (Nat.le_of_ble_eq_true rfl) (Nat.le_of_ble_eq_true rfl) (Nat.le_of_ble_eq_true rfl) ?_
    obtain ⟨q6, er5, h1⟩ := bind_some h1
    replace h1 := un2_eq h1
    obtain ⟨r5, w4, rfl, h1⟩ := h1
    refine r_Vj2 (pc := 38) F dX6_hasTwoMatches_38 ml_6_81 (kX8_minuteAt _ w3 ((w3.1 4 3) + l2) (fX6_struck w3 l1) (r5, w4) er5) i68_4 (ce_4 _ _ _) (Nat.le_of_ble_eq_true rfl) (Nat.le_of_ble_eq_true rfl) (Nat.le_of_ble_eq_true rfl) ?_
    refine r_istore (pc := 41) (ls' := [(0, .ref ((zg Z).1 9)), (3, .int a3), (4, .int l1), (5, .int l2), (6, .int r5)]) F dX6_hasTwoMatches_41 (Nat.le_of_ble_eq_true rfl) rfl ?_
    refine r_aload_n (pc := 43) F dX6_hasTwoMatches_43 rfl ?_
    refine r_iload (pc := 44) F dX6_hasTwoMatches_44 rfl ?_
    refine r_iconst (pc := 46) F dX6_hasTwoMatches_46 ic_1 ?_
    refine r_iadd (pc := 47) F dX6_hasTwoMatches_47 ?_
    refine r_iload (pc := 48) F dX6_hasTwoMatches_48 rfl ?_
    refine r_iload_n (pc := 50) F dX6_hasTwoMatches_50 rfl ?_
    refine r_iconst (pc := 51) F dX6_hasTwoMatches_51 ic_1 ?_
    refine r_iadd (pc := 52) F dX6_hasTwoMatches_52 ?_
    obtain ⟨q10, er9, h1⟩ := bind_some h1
    replace h1 := un2_eq h1
    obtain ⟨r9, w8, rfl, h1⟩ := h1
    refine r_Vj3 (pc := 53) F dX6_hasTwoMatches_53 ml_6_94 (kX6_hasOneMatch _ w4 (l2 + 1) r5 (a3 + 1) (r9, w8) er9) i68_9 (ce_9 _ _ _) (Nat.le_of_ble_eq_true rfl) (Nat.le_of_ble_eq_true rfl) (Nat.le_of_ble_eq_true rfl) ?_
    refine r_if_eq (pc := 56) (tgt := 69) F dX6_hasTwoMatches_56 rfl h1 (fun h1 => ?_) (fun h1 => ?_)
    · refine r_aload_n (pc := 69) F dX6_hasTwoMatches_69 rfl ?_
      refine r_getf (pc := 70) F dX6_hasTwoMatches_70 fl_6_15 i68_9 (ce_9 _ _ _) rfl ?_
      refine r_aload_n (pc := 73) F dX6_hasTwoMatches_73 rfl ?_
      refine r_getf (pc := 74) F dX6_hasTwoMatches_74 fl_6_15 i68_9 (ce_9 _ _ _) rfl ?_
      refine r_getf (pc := 77) F dX6_hasTwoMatches_77 fl_6_43 i68_4 (ce_4 _ _ _) rfl ?_
      refine r_iload (pc := 80) F dX6_hasTwoMatches_80 rfl ?_
      refine r_iadd (pc := 82) F dX6_hasTwoMatches_82 ?_
      refine r_iload (pc := 83) F dX6_hasTwoMatches_83 rfl ?_
      obtain ⟨q14, er13, h1⟩ := bind_some h1
      replace h1 := un2_eq h1
      obtain ⟨r13, w12, rfl, h1⟩ := h1
      refine r_Vj2 (pc := 85) F dX6_hasTwoMatches_85 ml_6_81 (kX8_minuteAt _ w8 ((w8.1 4 3) + l2) l1 (r13, w12) er13) i68_4 (ce_4 _ _ _) (Nat.le_of_ble_eq_true rfl) (Nat.le_of_ble_eq_true rfl) (Nat.le_of_ble_eq_true rfl) ?_
      refine r_istore (pc := 88) (ls' := [(0, .ref ((zg Z).1 9)), (3, .int a3), (4, .int r13), (5, .int l2), (6, .int r5)]) F dX6_hasTwoMatches_88 (Nat.le_of_ble_eq_true rfl) rfl ?_
      obtain ⟨v16, ev16, h1⟩ := lt_some h1
      refine r_iinc (pc := 90) (ls' := [(0, .ref ((zg Z).1 9)), (3, .int a3), (4, .int r13), (5, .int v16), (6, .int r5)]) F dX6_hasTwoMatches_90 rfl (by rw [ev16]; rfl) (Nat.le_of_ble_eq_true rfl) rfl ?_
      refine r_goto (pc := 93) (tgt := 6) F dX6_hasTwoMatches_93 rfl ?_
      refine V_sub (ls' := [(0, .ref ((zg Z).1 9)), (3, .int a3), (4, .int r13), (5, .int v16)]) [0, 1, 2, 3] rfl ?_
      exact hP1 (r13, v16, w12) (Option.some.inj h1).symm
    · refine r_aload_n (pc := 59) F dX6_hasTwoMatches_59 rfl ?_
      refine r_getf (pc := 60) F dX6_hasTwoMatches_60 fl_6_19 i68_9 (ce_9 _ _ _) rfl ?_
      refine r_iload_n (pc := 63) F dX6_hasTwoMatches_63 rfl ?_
      refine r_iload (pc := 64) F dX6_hasTwoMatches_64 rfl ?_
      obtain ⟨g18, h1⟩ := gd_some h1
      obtain ⟨w17, ew17, h1⟩ := lt_some h1
      refine r_iast (pc := 66) F dX6_hasTwoMatches_66 i68_36 (ca_36 _) g18 rfl ew17 ?_
      refine r_iconst (pc := 67) F dX6_hasTwoMatches_67 ic_1 ?_
      have h0 := congrArg some (hX1 _ (Option.some.inj h1).symm)
      exact hR _ _ _ _ dX6_hasTwoMatches_68 rfl (Option.some.inj h0)
set_option maxRecDepth 100000 in
set_option maxHeartbeats 4000000 in
theorem kX6_fewestMatches (g : GT) (w : Wd) (out : Int32 × Wd) (h0 : fX6_fewestMatches w = some out) : CtI g yX6_fewestMatches cX6_fewestMatches 3 (some .int) 5 121 [.ref (g.1 9)] w (fun r w1 => (r, w1) = out) := by
  refine CtI_of .int (by decide) (Nat.le_of_ble_eq_true rfl) (fun Z hg F hR => ?_)
  subst hg
  have F : Fx Z RX6 cX6_fewestMatches 3 5 121 := F
  refine V_sub (ls' := [(0, .ref ((zg Z).1 9))]) [0] rfl ?_
  unfold fX6_fewestMatches at h0
  refine r_aload_n (pc := 0) F dX6_fewestMatches_0 rfl ?_
  obtain ⟨q3, er2, h0⟩ := bind_some h0
  replace h0 := un2_eq h0
  obtain ⟨r2, w1, rfl, h0⟩ := h0
  refine r_Vj0 (pc := 1) F dX6_fewestMatches_1 ml_6_23 (kX6_startFromNow _ w (r2, w1) er2) i68_9 (ce_9 _ _ _) (Nat.le_of_ble_eq_true rfl) (Nat.le_of_ble_eq_true rfl) (Nat.le_of_ble_eq_true rfl) ?_
  refine r_if_le (pc := 4) (tgt := 9) F dX6_fewestMatches_4 rfl h0 (fun h0 => ?_) (fun h0 => ?_)
  · refine r_aload_n (pc := 9) F dX6_fewestMatches_9 rfl ?_
    refine r_iconst (pc := 10) F dX6_fewestMatches_10 ic_0 ?_
    refine r_aload_n (pc := 11) F dX6_fewestMatches_11 rfl ?_
    refine r_getf (pc := 12) F dX6_fewestMatches_12 fl_6_11 i68_9 (ce_9 _ _ _) rfl ?_
    refine r_getf (pc := 15) F dX6_fewestMatches_15 fl_6_66 i68_1 (ce_1 _ _ _) rfl ?_
    refine r_iconst (pc := 18) F dX6_fewestMatches_18 ic_0 ?_
    obtain ⟨q7, er6, h0⟩ := bind_some h0
    replace h0 := un2_eq h0
    obtain ⟨r6, w5, rfl, h0⟩ := h0
    refine r_Vj3 (pc := 19) F dX6_fewestMatches_19 ml_6_94 (kX6_hasOneMatch _ w1 0 (w1.1 1 1) 0 (r6, w5) er6) i68_9 (ce_9 _ _ _) (Nat.le_of_ble_eq_true rfl) (Nat.le_of_ble_eq_true rfl) (Nat.le_of_ble_eq_true rfl) ?_
    refine r_if_eq (pc := 22) (tgt := 27) F dX6_fewestMatches_22 rfl h0 (fun h0 => ?_) (fun h0 => ?_)
    · refine r_aload_n (pc := 27) F dX6_fewestMatches_27 rfl ?_
      refine r_iconst (pc := 28) F dX6_fewestMatches_28 ic_0 ?_
      refine r_aload_n (pc := 29) F dX6_fewestMatches_29 rfl ?_
      refine r_getf (pc := 30) F dX6_fewestMatches_30 fl_6_11 i68_9 (ce_9 _ _ _) rfl ?_
      refine r_getf (pc := 33) F dX6_fewestMatches_33 fl_6_66 i68_1 (ce_1 _ _ _) rfl ?_
      refine r_iconst (pc := 36) F dX6_fewestMatches_36 ic_0 ?_
      obtain ⟨q11, er10, h0⟩ := bind_some h0
      replace h0 := un2_eq h0
      obtain ⟨r10, w9, rfl, h0⟩ := h0
      refine r_Vj3 (pc := 37) F dX6_fewestMatches_37 ml_6_97 (kX6_hasTwoMatches _ w5 0 (w5.1 1 1) 0 (r10, w9) er10) i68_9 (ce_9 _ _ _) (Nat.le_of_ble_eq_true rfl) (Nat.le_of_ble_eq_true rfl) (Nat.le_of_ble_eq_true rfl) ?_
      refine r_if_eq (pc := 40) (tgt := 45) F dX6_fewestMatches_40 rfl h0 (fun h0 => ?_) (fun h0 => ?_)
      · refine r_iconst (pc := 45) F dX6_fewestMatches_45 ic_0 ?_
        refine r_istore_n (pc := 46) (ls' := [(0, .ref ((zg Z).1 9)), (1, .int 0)]) F dX6_fewestMatches_46 (Nat.le_of_ble_eq_true rfl) rfl ?_
        refine iter_rule (P := fun s : Int32 × Wd => V Z 47 [(0, .ref ((zg Z).1 9)), (1, .int (s.1))] [] s.2) (x := out) ?_ FU (0, w9) h0
        intro s y1 h1 hP1 hX1
        obtain ⟨l13, w14⟩ := s
        have h1 : fX6_fewestMatches_b47 l13 w14 = some y1 := h1
        unfold fX6_fewestMatches_b47 at h1
        refine r_iload_n (pc := 47) F dX6_fewestMatches_47 rfl ?_
        refine r_aload_n (pc := 48) F dX6_fewestMatches_48 rfl ?_
        refine r_getf (pc := 49) F dX6_fewestMatches_49 fl_6_15 i68_9 (ce_9 _ _ _) rfl ?_
        refine r_getf (pc := 52) F dX6_fewestMatches_52 fl_6_27 i68_4 (ce_4 _ _ _) rfl ?_
        refine r_icmp_ge (pc := 55) (tgt := 115) F dX6_fewestMatches_55 rfl h1 (fun h1 => ?_) (fun h1 => ?_)
        · refine r_bipush (pc := 115) F dX6_fewestMatches_115 bp_m9 ?_
          have h0 := congrArg some (hX1 _ (Option.some.inj h1).symm)
          exact hR _ _ _ _ dX6_fewestMatches_117 rfl (Option.some.inj h0)
        · refine r_aload_n (pc := 58) F dX6_fewestMatches_58 rfl ?_
          refine r_getf (pc := 59) F dX6_fewestMatches_59 fl_6_15 i68_9 (ce_9 _ _ _) rfl ?_
          refine r_aload_n (pc := 62) F dX6_fewestMatches_62 rfl ?_
          refine r_getf (pc := 63) F dX6_fewestMatches_63 fl_6_15 i68_9 (ce_9 _ _ _) rfl ?_
          refine r_getf (pc := 66) F dX6_fewestMatches_66 fl_6_43 i68_4 (ce_4 _ _ _) rfl ?_
          refine r_iload_n (pc := 69) F dX6_fewestMatches_69 rfl ?_
          refine r_iadd (pc := 70) F dX6_fewestMatches_70 ?_
          refine r_aload_n (pc := 71) F dX6_fewestMatches_71 rfl ?_
          refine r_aload_n (pc := 72) F dX6_fewestMatches_72 rfl ?_
          refine r_getf (pc := 73) F dX6_fewestMatches_73 fl_6_15 i68_9 (ce_9 _ _ _) rfl ?_
          refine r_getf (pc := 76) F dX6_fewestMatches_76 fl_6_56 i68_4 (ce_4 _ _ _) rfl ?_
          refine r_iload_n (pc := 79) F dX6_fewestMatches_79 rfl ?_
          obtain ⟨g15, h1⟩ := gd_some h1
          refine r_iald (pc := 80) F dX6_fewestMatches_80 i68_26 (ca_26 _) g15 rfl ?_
          refine r_Vi1 (pc := 81) F dX6_fewestMatches_81 ml_6_100 (kX6_struck _ w14 (w14.1 26 l13.toNatClampNeg) _ rfl) i68_9 (ce_9 _ _ _) (Nat.le_of_ble_eq_true rfl) (Nat.le_of_ble_eq_true rfl) (Nat.le_of_ble_eq_true rfl) ?_
          obtain ⟨q18, er17, h1⟩ := bind_some h1
          replace h1 := un2_eq h1
          obtain ⟨r17, w16, rfl, h1⟩ := h1
          refine r_Vj2 (pc := 84) F dX6_fewestMatches_84 ml_6_81 (kX8_minuteAt _ w14 ((w14.1 4 3) + l13) (fX6_struck w14 (w14.1 26 l13.toNatClampNeg)) (r17, w16) er17) i68_4 (ce_4 _ _ _) (Nat.le_of_ble_eq_true rfl) (Nat.le_of_ble_eq_true rfl) (Nat.le_of_ble_eq_true rfl) ?_
          refine r_istore_n (pc := 87) (ls' := [(0, .ref ((zg Z).1 9)), (1, .int l13), (2, .int r17)]) F dX6_fewestMatches_87 (Nat.le_of_ble_eq_true rfl) rfl ?_
          refine r_aload_n (pc := 88) F dX6_fewestMatches_88 rfl ?_
          refine r_iload_n (pc := 89) F dX6_fewestMatches_89 rfl ?_
          refine r_iconst (pc := 90) F dX6_fewestMatches_90 ic_1 ?_
          refine r_iadd (pc := 91) F dX6_fewestMatches_91 ?_
          refine r_iload_n (pc := 92) F dX6_fewestMatches_92 rfl ?_
          refine r_iconst (pc := 93) F dX6_fewestMatches_93 ic_1 ?_
          obtain ⟨q22, er21, h1⟩ := bind_some h1
          replace h1 := un2_eq h1
          obtain ⟨r21, w20, rfl, h1⟩ := h1
          refine r_Vj3 (pc := 94) F dX6_fewestMatches_94 ml_6_97 (kX6_hasTwoMatches _ w16 (l13 + 1) r17 1 (r21, w20) er21) i68_9 (ce_9 _ _ _) (Nat.le_of_ble_eq_true rfl) (Nat.le_of_ble_eq_true rfl) (Nat.le_of_ble_eq_true rfl) ?_
          refine r_if_eq (pc := 97) (tgt := 109) F dX6_fewestMatches_97 rfl h1 (fun h1 => ?_) (fun h1 => ?_)
          · obtain ⟨v24, ev24, h1⟩ := lt_some h1
            refine r_iinc (pc := 109) (ls' := [(0, .ref ((zg Z).1 9)), (1, .int v24), (2, .int r17)]) F dX6_fewestMatches_109 rfl (by rw [ev24]; rfl) (Nat.le_of_ble_eq_true rfl) rfl ?_
            refine r_goto (pc := 112) (tgt := 47) F dX6_fewestMatches_112 rfl ?_
            refine V_sub (ls' := [(0, .ref ((zg Z).1 9)), (1, .int v24)]) [0, 1] rfl ?_
            exact hP1 (v24, w20) (Option.some.inj h1).symm
          · refine r_aload_n (pc := 100) F dX6_fewestMatches_100 rfl ?_
            refine r_getf (pc := 101) F dX6_fewestMatches_101 fl_6_19 i68_9 (ce_9 _ _ _) rfl ?_
            refine r_iconst (pc := 104) F dX6_fewestMatches_104 ic_0 ?_
            refine r_iload_n (pc := 105) F dX6_fewestMatches_105 rfl ?_
            obtain ⟨w25, ew25, h1⟩ := lt_some h1
            refine r_iast (pc := 106) (j := 0) F dX6_fewestMatches_106 i68_36 (ca_36 _) rfl rfl ew25 ?_
            refine r_iconst (pc := 107) F dX6_fewestMatches_107 ic_3 ?_
            have h0 := congrArg some (hX1 _ (Option.some.inj h1).symm)
            exact hR _ _ _ _ dX6_fewestMatches_108 rfl (Option.some.inj h0)
      · refine r_iconst (pc := 43) F dX6_fewestMatches_43 ic_2 ?_
        exact hR _ _ _ _ dX6_fewestMatches_44 rfl (Option.some.inj h0)
    · refine r_iconst (pc := 25) F dX6_fewestMatches_25 ic_1 ?_
      exact hR _ _ _ _ dX6_fewestMatches_26 rfl (Option.some.inj h0)
  · refine r_iconst (pc := 7) F dX6_fewestMatches_7 ic_0 ?_
    exact hR _ _ _ _ dX6_fewestMatches_8 rfl (Option.some.inj h0)
set_option maxRecDepth 100000 in
set_option maxHeartbeats 4000000 in
theorem kX9_matches (g : GT) (w : Wd) (a1 : Int32) (out : Int32 × Wd) (h0 : fX9_matches w a1 = some out) : CtI g yX9_matches cX9_matches 3 (some .int) 6 143 [.ref (g.1 0), .int a1] w (fun r w1 => (r, w1) = out) := by
  refine CtI_of .int (by decide) (Nat.le_of_ble_eq_true rfl) (fun Z hg F hR => ?_)
  subst hg
  have F : Fx Z RX9 cX9_matches 3 6 143 := F
  refine V_sub (ls' := [(0, .ref ((zg Z).1 0)), (1, .int a1)]) [0, 1] rfl ?_
  unfold fX9_matches at h0
  refine r_iload_n (pc := 0) F dX9_matches_0 rfl ?_
  refine r_iconst (pc := 1) F dX9_matches_1 ic_m1 ?_
  refine r_icmp_ge (pc := 2) (tgt := 12) F dX9_matches_2 rfl h0 (fun h0 => ?_) (fun h0 => ?_)
  · refine r_aload_n (pc := 12) F dX9_matches_12 rfl ?_
    refine r_getf (pc := 13) F dX9_matches_13 fl_9_59 i68_0 (ce_0 _ _ _) rfl ?_
    obtain ⟨q3, er2, h0⟩ := bind_some h0
    replace h0 := un2_eq h0
    obtain ⟨r2, w1, rfl, h0⟩ := h0
    refine r_Vj0 (pc := 16) F dX9_matches_16 ml_9_366 (kX6_fewestMatches _ w (r2, w1) er2) i68_9 (ce_9 _ _ _) (Nat.le_of_ble_eq_true rfl) (Nat.le_of_ble_eq_true rfl) (Nat.le_of_ble_eq_true rfl) ?_
    refine r_istore_n (pc := 19) (ls' := [(0, .ref ((zg Z).1 0)), (1, .int a1), (2, .int r2)]) F dX9_matches_19 (Nat.le_of_ble_eq_true rfl) rfl ?_
    refine r_iload_n (pc := 20) F dX9_matches_20 rfl ?_
    refine r_iconst (pc := 21) F dX9_matches_21 ic_m1 ?_
    refine r_icmp_ne (pc := 22) (tgt := 27) F dX9_matches_22 rfl h0 (fun h0 => ?_) (fun h0 => ?_)
    · refine r_iload_n (pc := 25) F dX9_matches_25 rfl ?_
      exact hR _ _ _ _ dX9_matches_26 rfl (Option.some.inj h0)
    · refine r_iload_n (pc := 27) F dX9_matches_27 rfl ?_
      refine r_iload_n (pc := 28) F dX9_matches_28 rfl ?_
      refine r_icmp_ge (pc := 29) (tgt := 49) F dX9_matches_29 rfl h0 (fun h0 => ?_) (fun h0 => ?_)
      · refine r_bipush (pc := 49) F dX9_matches_49 bp_m9 ?_
        exact hR _ _ _ _ dX9_matches_51 rfl (Option.some.inj h0)
      · refine r_iload_n (pc := 32) F dX9_matches_32 rfl ?_
        refine r_iconst (pc := 33) F dX9_matches_33 ic_3 ?_
        refine r_icmp_ge (pc := 34) (tgt := 49) F dX9_matches_34 rfl h0 (fun h0 => ?_) (fun h0 => ?_)
        · refine r_bipush (pc := 49) F dX9_matches_49 bp_m9 ?_
          exact hR _ _ _ _ dX9_matches_51 rfl (Option.some.inj h0)
        · refine r_aload_n (pc := 37) F dX9_matches_37 rfl ?_
          refine r_getf (pc := 38) F dX9_matches_38 fl_9_59 i68_0 (ce_0 _ _ _) rfl ?_
          refine r_getf (pc := 41) F dX9_matches_41 fl_9_369 i68_9 (ce_9 _ _ _) rfl ?_
          refine r_iload_n (pc := 44) F dX9_matches_44 rfl ?_
          obtain ⟨g5, h0⟩ := gd_some h0
          refine r_iald (pc := 45) F dX9_matches_45 i68_36 (ca_36 _) g5 rfl ?_
          refine r_goto (pc := 46) (tgt := 51) F dX9_matches_46 rfl ?_
          exact hR _ _ _ _ dX9_matches_51 rfl (Option.some.inj h0)
  · refine r_aload_n (pc := 5) F dX9_matches_5 rfl ?_
    refine r_bipush (pc := 6) F dX9_matches_6 bp_m4 ?_
    obtain ⟨q11, er10, h0⟩ := bind_some h0
    replace h0 := un2_eq h0
    obtain ⟨r10, w9, rfl, h0⟩ := h0
    refine r_Vj1 (pc := 8) F dX9_matches_8 ml_9_85 (kX9_refuse _ w (-4) (r10, w9) er10) i68_0 (ce_0 _ _ _) (Nat.le_of_ble_eq_true rfl) (Nat.le_of_ble_eq_true rfl) (Nat.le_of_ble_eq_true rfl) ?_
    exact hR _ _ _ _ dX9_matches_11 rfl (Option.some.inj h0)
set_option maxRecDepth 100000 in
set_option maxHeartbeats 4000000 in
theorem kX9_image (g : GT) (w : Wd) (out : Int32 × Wd) (h0 : fX9_image w = out) : CtI g yX9_image cX9_image 1 (some .int) 2 43 [.ref (g.1 0)] w (fun r w1 => (r, w1) = out) := by
  refine CtI_of .int (by decide) (Nat.le_of_ble_eq_true rfl) (fun Z hg F hR => ?_)
  subst hg
  have F : Fx Z RX9 cX9_image 1 2 43 := F
  refine V_sub (ls' := [(0, .ref ((zg Z).1 0))]) [0] rfl ?_
  unfold fX9_image at h0
  refine r_aload_n (pc := 0) F dX9_image_0 rfl ?_
  refine r_getf (pc := 1) F dX9_image_1 fl_9_16 i68_0 (ce_0 _ _ _) rfl ?_
  refine r_aload_n (pc := 4) F dX9_image_4 rfl ?_
  refine r_getf (pc := 5) F dX9_image_5 fl_9_10 i68_0 (ce_0 _ _ _) rfl ?_
  obtain ⟨w1, ew1, h0⟩ := lt_some h0
  refine r_Vv1 (pc := 8) F dX9_image_8 ml_9_372 (kX2_takeFrom _ 2 co2 1 co1 w w1 ew1.symm) i68_2 (ce_2 _ _ _) (Nat.le_of_ble_eq_true rfl) (Nat.le_of_ble_eq_true rfl) (Nat.le_of_ble_eq_true rfl) ?_
  refine r_aload_n (pc := 11) F dX9_image_11 rfl ?_
  refine r_iconst (pc := 12) F dX9_image_12 ic_1 ?_
  obtain ⟨w3, ew3, h0⟩ := lt_some h0
  refine r_putI (pc := 13) F dX9_image_13 fl_9_375 fp_9_2 i68_0 (ce_0 _) (Nat.le_of_ble_eq_true rfl) rfl rfl rfl ew3 ?_
  refine r_aload_n (pc := 16) F dX9_image_16 rfl ?_
  refine r_getf (pc := 17) F dX9_image_17 fl_9_10 i68_0 (ce_0 _ _ _) rfl ?_
  refine r_getf (pc := 20) F dX9_image_20 fl_9_155 i68_1 (ce_1 _ _ _) rfl ?_
  exact hR _ _ _ _ dX9_image_23 rfl h0
set_option maxRecDepth 100000 in
set_option maxHeartbeats 4000000 in
theorem kX9_restore (g : GT) (w : Wd) (out : Int32 × Wd) (h0 : fX9_restore w = some out) : CtI g yX9_restore cX9_restore 1 (some .int) 2 43 [.ref (g.1 0)] w (fun r w1 => (r, w1) = out) := by
  refine CtI_of .int (by decide) (Nat.le_of_ble_eq_true rfl) (fun Z hg F hR => ?_)
  subst hg
  have F : Fx Z RX9 cX9_restore 1 2 43 := F
  refine V_sub (ls' := [(0, .ref ((zg Z).1 0))]) [0] rfl ?_
  unfold fX9_restore at h0
  refine r_aload_n (pc := 0) F dX9_restore_0 rfl ?_
  refine r_getf (pc := 1) F dX9_restore_1 fl_9_375 i68_0 (ce_0 _ _ _) rfl ?_
  refine r_if_ne (pc := 4) (tgt := 14) F dX9_restore_4 rfl h0 (fun h0 => ?_) (fun h0 => ?_)
  · refine r_aload_n (pc := 7) F dX9_restore_7 rfl ?_
    refine r_bipush (pc := 8) F dX9_restore_8 bp_m3 ?_
    obtain ⟨q3, er2, h0⟩ := bind_some h0
    replace h0 := un2_eq h0
    obtain ⟨r2, w1, rfl, h0⟩ := h0
    refine r_Vj1 (pc := 10) F dX9_restore_10 ml_9_85 (kX9_refuse _ w (-3) (r2, w1) er2) i68_0 (ce_0 _ _ _) (Nat.le_of_ble_eq_true rfl) (Nat.le_of_ble_eq_true rfl) (Nat.le_of_ble_eq_true rfl) ?_
    exact hR _ _ _ _ dX9_restore_13 rfl (Option.some.inj h0)
  · refine r_aload_n (pc := 14) F dX9_restore_14 rfl ?_
    refine r_getf (pc := 15) F dX9_restore_15 fl_9_10 i68_0 (ce_0 _ _ _) rfl ?_
    refine r_aload_n (pc := 18) F dX9_restore_18 rfl ?_
    refine r_getf (pc := 19) F dX9_restore_19 fl_9_16 i68_0 (ce_0 _ _ _) rfl ?_
    obtain ⟨w5, ew5, h0⟩ := lt_some h0
    refine r_Vv1 (pc := 22) F dX9_restore_22 ml_9_372 (kX2_takeFrom _ 1 co1 2 co2 w w5 ew5.symm) i68_1 (ce_1 _ _ _) (Nat.le_of_ble_eq_true rfl) (Nat.le_of_ble_eq_true rfl) (Nat.le_of_ble_eq_true rfl) ?_
    refine r_aload_n (pc := 25) F dX9_restore_25 rfl ?_
    refine r_getf (pc := 26) F dX9_restore_26 fl_9_29 i68_0 (ce_0 _ _ _) rfl ?_
    obtain ⟨w7, ew7, h0⟩ := lt_some h0
    refine r_Vv0 (pc := 29) F dX9_restore_29 ml_9_104 (kX5_forget _ w5 w7 ew7.symm) i68_5 (ce_5 _ _ _) (Nat.le_of_ble_eq_true rfl) (Nat.le_of_ble_eq_true rfl) (Nat.le_of_ble_eq_true rfl) ?_
    refine r_aload_n (pc := 32) F dX9_restore_32 rfl ?_
    refine r_getf (pc := 33) F dX9_restore_33 fl_9_10 i68_0 (ce_0 _ _ _) rfl ?_
    refine r_getf (pc := 36) F dX9_restore_36 fl_9_155 i68_1 (ce_1 _ _ _) rfl ?_
    exact hR _ _ _ _ dX9_restore_39 rfl (Option.some.inj h0)
set_option maxRecDepth 100000 in
set_option maxHeartbeats 4000000 in
theorem kX9_count (g : GT) (w : Wd) (a1 : Int32) (out : Int32) (h0 : fX9_count w a1 = some out) : CtI g yX9_count cX9_count 2 (some .int) 2 44 [.ref (g.1 0), .int a1] w (fun r w1 => r = out ∧ w1 = w) := by
  refine CtI_of .int (by decide) (Nat.le_of_ble_eq_true rfl) (fun Z hg F hR => ?_)
  subst hg
  have F : Fx Z RX9 cX9_count 2 2 44 := F
  refine V_sub (ls' := [(0, .ref ((zg Z).1 0)), (1, .int a1)]) [0, 1] rfl ?_
  unfold fX9_count at h0
  have J22 : fX9_count_j22 a1 w = some out → V Z 22 [(0, .ref ((zg Z).1 0)), (1, .int a1)] [] w := by
    intro h0
    unfold fX9_count_j22 at h0
    refine r_iload_n (pc := 22) F dX9_count_22 rfl ?_
    by_cases c1 : a1 = 0
    · rw [if_pos c1] at h0
      refine r_tsw (pc := 23) (tgt := 80) F dX9_count_23 rfl (by rw [c1]; decide +kernel) ?_
      refine r_aload_n (pc := 80) F dX9_count_80 rfl ?_
      refine r_getf (pc := 81) F dX9_count_81 fl_9_10 i68_0 (ce_0 _ _ _) rfl ?_
      refine r_getf (pc := 84) F dX9_count_84 fl_9_216 i68_1 (ce_1 _ _ _) rfl ?_
      exact hR _ _ _ _ dX9_count_87 rfl ⟨(Option.some.inj h0), rfl⟩
    rw [if_neg c1] at h0
    by_cases c2 : a1 = 1
    · rw [if_pos c2] at h0
      refine r_tsw (pc := 23) (tgt := 88) F dX9_count_23 rfl (by rw [c2]; decide +kernel) ?_
      refine r_aload_n (pc := 88) F dX9_count_88 rfl ?_
      refine r_getf (pc := 89) F dX9_count_89 fl_9_10 i68_0 (ce_0 _ _ _) rfl ?_
      refine r_getf (pc := 92) F dX9_count_92 fl_9_181 i68_1 (ce_1 _ _ _) rfl ?_
      refine r_Si1 (pc := 95) F dX9_count_95 ml_9_184 (kJ6_bitCount_0f7a4 _ w (w.1 1 1) _ rfl) (Nat.le_of_ble_eq_true rfl) (Nat.le_of_ble_eq_true rfl) (Nat.le_of_ble_eq_true rfl) ?_
      exact hR _ _ _ _ dX9_count_98 rfl ⟨(Option.some.inj h0), rfl⟩
    rw [if_neg c2] at h0
    by_cases c3 : a1 = 2
    · rw [if_pos c3] at h0
      refine r_tsw (pc := 23) (tgt := 99) F dX9_count_23 rfl (by rw [c3]; decide +kernel) ?_
      refine r_aload_n (pc := 99) F dX9_count_99 rfl ?_
      refine r_getf (pc := 100) F dX9_count_100 fl_9_10 i68_0 (ce_0 _ _ _) rfl ?_
      refine r_getf (pc := 103) F dX9_count_103 fl_9_155 i68_1 (ce_1 _ _ _) rfl ?_
      exact hR _ _ _ _ dX9_count_106 rfl ⟨(Option.some.inj h0), rfl⟩
    rw [if_neg c3] at h0
    by_cases c4 : a1 = 3
    · rw [if_pos c4] at h0
      refine r_tsw (pc := 23) (tgt := 107) F dX9_count_23 rfl (by rw [c4]; decide +kernel) ?_
      refine r_aload_n (pc := 107) F dX9_count_107 rfl ?_
      refine r_getf (pc := 108) F dX9_count_108 fl_9_10 i68_0 (ce_0 _ _ _) rfl ?_
      refine r_getf (pc := 111) F dX9_count_111 fl_9_170 i68_1 (ce_1 _ _ _) rfl ?_
      exact hR _ _ _ _ dX9_count_114 rfl ⟨(Option.some.inj h0), rfl⟩
    rw [if_neg c4] at h0
    by_cases c5 : a1 = 4
    · rw [if_pos c5] at h0
      refine r_tsw (pc := 23) (tgt := 115) F dX9_count_23 rfl (by rw [c5]; decide +kernel) ?_
      refine r_aload_n (pc := 115) F dX9_count_115 rfl ?_
      refine r_getf (pc := 116) F dX9_count_116 fl_9_10 i68_0 (ce_0 _ _ _) rfl ?_
      refine r_getf (pc := 119) F dX9_count_119 fl_9_379 i68_1 (ce_1 _ _ _) rfl ?_
      exact hR _ _ _ _ dX9_count_122 rfl ⟨(Option.some.inj h0), rfl⟩
    rw [if_neg c5] at h0
    by_cases c6 : a1 = 5
    · rw [if_pos c6] at h0
      refine r_tsw (pc := 23) (tgt := 123) F dX9_count_23 rfl (by rw [c6]; decide +kernel) ?_
      refine r_aload_n (pc := 123) F dX9_count_123 rfl ?_
      refine r_getf (pc := 124) F dX9_count_124 fl_9_10 i68_0 (ce_0 _ _ _) rfl ?_
      refine r_getf (pc := 127) F dX9_count_127 fl_9_382 i68_1 (ce_1 _ _ _) rfl ?_
      exact hR _ _ _ _ dX9_count_130 rfl ⟨(Option.some.inj h0), rfl⟩
    rw [if_neg c6] at h0
    by_cases c7 : a1 = 6
    · rw [if_pos c7] at h0
      refine r_tsw (pc := 23) (tgt := 131) F dX9_count_23 rfl (by rw [c7]; decide +kernel) ?_
      refine r_aload_n (pc := 131) F dX9_count_131 rfl ?_
      refine r_getf (pc := 132) F dX9_count_132 fl_9_10 i68_0 (ce_0 _ _ _) rfl ?_
      refine r_getf (pc := 135) F dX9_count_135 fl_9_265 i68_1 (ce_1 _ _ _) rfl ?_
      exact hR _ _ _ _ dX9_count_138 rfl ⟨(Option.some.inj h0), rfl⟩
    rw [if_neg c7] at h0
    by_cases c8 : a1 = 7
    · rw [if_pos c8] at h0
      refine r_tsw (pc := 23) (tgt := 139) F dX9_count_23 rfl (by rw [c8]; decide +kernel) ?_
      refine r_aload_n (pc := 139) F dX9_count_139 rfl ?_
      refine r_getf (pc := 140) F dX9_count_140 fl_9_38 i68_0 (ce_0 _ _ _) rfl ?_
      refine r_getf (pc := 143) F dX9_count_143 fl_9_107 i68_6 (ce_6 _ _ _) rfl ?_
      exact hR _ _ _ _ dX9_count_146 rfl ⟨(Option.some.inj h0), rfl⟩
    rw [if_neg c8] at h0
    by_cases c9 : a1 = 8
    · rw [if_pos c9] at h0
      refine r_tsw (pc := 23) (tgt := 147) F dX9_count_23 rfl (by rw [c9]; decide +kernel) ?_
      refine r_aload_n (pc := 147) F dX9_count_147 rfl ?_
      refine r_getf (pc := 148) F dX9_count_148 fl_9_45 i68_0 (ce_0 _ _ _) rfl ?_
      refine r_getf (pc := 151) F dX9_count_151 fl_9_276 i68_7 (ce_7 _ _ _) rfl ?_
      exact hR _ _ _ _ dX9_count_154 rfl ⟨(Option.some.inj h0), rfl⟩
    rw [if_neg c9] at h0
    by_cases c10 : a1 = 9
    · rw [if_pos c10] at h0
      refine r_tsw (pc := 23) (tgt := 155) F dX9_count_23 rfl (by rw [c10]; decide +kernel) ?_
      refine r_aload_n (pc := 155) F dX9_count_155 rfl ?_
      refine r_getf (pc := 156) F dX9_count_156 fl_9_10 i68_0 (ce_0 _ _ _) rfl ?_
      refine r_aload_n (pc := 159) F dX9_count_159 rfl ?_
      refine r_getf (pc := 160) F dX9_count_160 fl_9_10 i68_0 (ce_0 _ _ _) rfl ?_
      refine r_getf (pc := 163) F dX9_count_163 fl_9_181 i68_1 (ce_1 _ _ _) rfl ?_
      obtain ⟨r11, er11, h0⟩ := bind_some h0
      refine r_Vi1 (pc := 166) F dX9_count_166 ml_9_192 (kX2_lightOf _ 1 co1 w (w.1 1 1) r11 er11) i68_1 (ce_1 _ _ _) (Nat.le_of_ble_eq_true rfl) (Nat.le_of_ble_eq_true rfl) (Nat.le_of_ble_eq_true rfl) ?_
      exact hR _ _ _ _ dX9_count_169 rfl ⟨(Option.some.inj h0), rfl⟩
    rw [if_neg c10] at h0
    by_cases c12 : a1 = 10
    · rw [if_pos c12] at h0
      refine r_tsw (pc := 23) (tgt := 170) F dX9_count_23 rfl (by rw [c12]; decide +kernel) ?_
      refine r_aload_n (pc := 170) F dX9_count_170 rfl ?_
      refine r_getf (pc := 171) F dX9_count_171 fl_9_29 i68_0 (ce_0 _ _ _) rfl ?_
      refine r_getf (pc := 174) F dX9_count_174 fl_9_305 i68_5 (ce_5 _ _ _) rfl ?_
      exact hR _ _ _ _ dX9_count_177 rfl ⟨(Option.some.inj h0), rfl⟩
    rw [if_neg c12] at h0
    refine r_tsw (pc := 23) (tgt := 178) F dX9_count_23 rfl (tsw_out (ks := [0, 1, 2, 3, 4, 5, 6, 7, 8, 9, 10]) rfl rfl (by decide +kernel) (List.forall_mem_cons.mpr ⟨sw_ne rfl c1, List.forall_mem_cons.mpr ⟨sw_ne rfl c2, List.forall_mem_cons.mpr ⟨sw_ne rfl c3, List.forall_mem_cons.mpr ⟨sw_ne rfl c4, List.forall_mem_cons.mpr ⟨sw_ne rfl c5, List.forall_mem_cons.mpr ⟨sw_ne rfl c6, List.forall_mem_cons.mpr ⟨sw_ne rfl c7, List.forall_mem_cons.mpr ⟨sw_ne rfl c8, List.forall_mem_cons.mpr ⟨sw_ne rfl c9, List.forall_mem_cons.mpr ⟨sw_ne rfl c10, List.forall_mem_cons.mpr ⟨sw_ne rfl c12, fun _ h => absurd h List.not_mem_nil⟩⟩⟩⟩⟩⟩⟩⟩⟩⟩⟩)) ?_
    refine r_bipush (pc := 178) F dX9_count_178 bp_m9 ?_
    exact hR _ _ _ _ dX9_count_180 rfl ⟨(Option.some.inj h0), rfl⟩
  refine r_iload_n (pc := 0) F dX9_count_0 rfl ?_
  refine r_bipush (pc := 1) F dX9_count_1 bp_11 ?_
  refine r_icmp_lt (pc := 3) (tgt := 22) F dX9_count_3 rfl h0 (fun h0 => ?_) (fun h0 => ?_)
  · exact J22 h0
  · refine r_iload_n (pc := 6) F dX9_count_6 rfl ?_
    refine r_bipush (pc := 7) F dX9_count_7 bp_16 ?_
    refine r_icmp_gt (pc := 9) (tgt := 22) F dX9_count_9 rfl h0 (fun h0 => ?_) (fun h0 => ?_)
    · exact J22 h0
    · refine r_aload_n (pc := 12) F dX9_count_12 rfl ?_
      refine r_getf (pc := 13) F dX9_count_13 fl_9_81 i68_0 (ce_0 _ _ _) rfl ?_
      refine r_iload_n (pc := 16) F dX9_count_16 rfl ?_
      refine r_bipush (pc := 17) F dX9_count_17 bp_10 ?_
      refine r_isub (pc := 19) F dX9_count_19 ?_
      obtain ⟨g13, h0⟩ := gd_some h0
      refine r_iald (pc := 20) F dX9_count_20 i68_12 (ca_12 _) g13 rfl ?_
      exact hR _ _ _ _ dX9_count_21 rfl ⟨(Option.some.inj h0), rfl⟩

/-! contracts: the code computes the functions (by program) -/
set_option maxRecDepth 100000 in
set_option maxHeartbeats 4000000 in
theorem kX10_lightOf (g : GT) (w : Wd) (a1 : Int32) (out : Int32) (h0 : fX10_lightOf w a1 = some out) : CtI g yX10_lightOf cX10_lightOf 4 (some .int) 1 21 [.ref (g.1 42), .int a1] w (fun r w1 => r = out ∧ w1 = w) := by
  refine CtI_of .int (by decide) (Nat.le_of_ble_eq_true rfl) (fun Z hg F hR => ?_)
  subst hg
  have F : Fx Z RX10 cX10_lightOf 4 1 21 := F
  refine V_sub (ls' := [(0, .ref ((zg Z).1 42)), (1, .int a1)]) [0, 1] rfl ?_
  unfold fX10_lightOf at h0
  refine r_iconst (pc := 0) F dX10_lightOf_0 ic_0 ?_
  refine r_istore_n (pc := 1) (ls' := [(0, .ref ((zg Z).1 42)), (1, .int a1), (2, .int 0)]) F dX10_lightOf_1 (Nat.le_of_ble_eq_true rfl) rfl ?_
  refine r_iconst (pc := 2) F dX10_lightOf_2 ic_0 ?_
  refine r_istore_n (pc := 3) (ls' := [(0, .ref ((zg Z).1 42)), (1, .int a1), (2, .int 0), (3, .int 0)]) F dX10_lightOf_3 (Nat.le_of_ble_eq_true rfl) rfl ?_
  obtain ⟨l11, il11, h0⟩ := bind_some h0
  suffices E4 : V Z 42 [(2, .int l11)] [] w by
    refine iter_rule (P := fun s : Int32 × Int32 => V Z 4 [(0, .ref ((zg Z).1 42)), (1, .int a1), (2, .int (s.1)), (3, .int (s.2))] [] w) (x := l11) ?_ FU (0, 0) il11
    intro s y1 h1 hP1 hX1
    obtain ⟨l1, l2⟩ := s
    have h1 : fX10_lightOf_b4 w a1 l1 l2 = some y1 := h1
    unfold fX10_lightOf_b4 at h1
    refine r_iload_n (pc := 4) F dX10_lightOf_4 rfl ?_
    refine r_aload_n (pc := 5) F dX10_lightOf_5 rfl ?_
    refine r_getf (pc := 6) F dX10_lightOf_6 fl_10_88 i68_42 (ce_42 _ _ _) rfl ?_
    refine r_icmp_ge (pc := 9) (tgt := 42) F dX10_lightOf_9 rfl h1 (fun h1 => ?_) (fun h1 => ?_)
    · refine V_sub (ls' := [(2, .int l1)]) [2] rfl ?_
      have e3 := hX1 _ (Option.some.inj h1).symm
      cases e3
      exact E4
    · refine r_iload_n (pc := 12) F dX10_lightOf_12 rfl ?_
      refine r_iload_n (pc := 13) F dX10_lightOf_13 rfl ?_
      refine r_iload_n (pc := 14) F dX10_lightOf_14 rfl ?_
      refine r_Si2 (pc := 15) F dX10_lightOf_15 ml_10_147 (kX10_has _ w a1 l2 _ rfl) (Nat.le_of_ble_eq_true rfl) (Nat.le_of_ble_eq_true rfl) (Nat.le_of_ble_eq_true rfl) ?_
      obtain ⟨v5, hv5, h1⟩ := bind_some h1
      suffices Jv5 : V Z 34 [(0, .ref ((zg Z).1 42)), (1, .int a1), (2, .int l1), (3, .int l2)] [.int v5, .int l1] w by
        refine r_if_eq (pc := 18) (tgt := 33) F dX10_lightOf_18 rfl hv5 (fun hv5 => ?_) (fun hv5 => ?_)
        · refine r_iconst (pc := 33) F dX10_lightOf_33 ic_0 ?_
          exact V_nm (Option.some.inj hv5).symm Jv5
        · refine r_aload_n (pc := 21) F dX10_lightOf_21 rfl ?_
          refine r_getf (pc := 22) F dX10_lightOf_22 fl_10_16 i68_42 (ce_42 _ _ _) rfl ?_
          refine r_iload_n (pc := 25) F dX10_lightOf_25 rfl ?_
          obtain ⟨g6, hv5⟩ := gd_some hv5
          refine r_iald (pc := 26) F dX10_lightOf_26 i68_45 (ca_45 _) g6 rfl ?_
          refine r_Si1 (pc := 27) F dX10_lightOf_27 ml_10_218 (kX10_givesOf _ w (w.1 45 l2.toNatClampNeg) _ rfl) (Nat.le_of_ble_eq_true rfl) (Nat.le_of_ble_eq_true rfl) (Nat.le_of_ble_eq_true rfl) ?_
          refine r_goto (pc := 30) (tgt := 34) F dX10_lightOf_30 rfl ?_
          exact V_nm (Option.some.inj hv5).symm Jv5
      refine r_iadd (pc := 34) F dX10_lightOf_34 ?_
      obtain ⟨v7, ev7, h1⟩ := lt_some h1
      refine V_nm ev7 ?_
      refine r_istore_n (pc := 35) (ls' := [(0, .ref ((zg Z).1 42)), (1, .int a1), (2, .int v7), (3, .int l2)]) F dX10_lightOf_35 (Nat.le_of_ble_eq_true rfl) rfl ?_
      obtain ⟨v8, ev8, h1⟩ := lt_some h1
      refine r_iinc (pc := 36) (ls' := [(0, .ref ((zg Z).1 42)), (1, .int a1), (2, .int v7), (3, .int v8)]) F dX10_lightOf_36 rfl (by rw [ev8]; rfl) (Nat.le_of_ble_eq_true rfl) rfl ?_
      refine r_goto (pc := 39) (tgt := 4) F dX10_lightOf_39 rfl ?_
      exact hP1 (v7, v8) (Option.some.inj h1).symm
  refine r_iload_n (pc := 42) F dX10_lightOf_42 rfl ?_
  exact hR _ _ _ _ dX10_lightOf_43 rfl ⟨(Option.some.inj h0), rfl⟩
set_option maxRecDepth 100000 in
set_option maxHeartbeats 4000000 in
theorem kX10_door (g : GT) (w : Wd) (a1 : Int32) (out : Int32 × Wd) (h0 : fX10_door w a1 = some out) : CtI g yX10_door cX10_door 3 (some .int) 9 196 [.ref (g.1 42), .int a1] w (fun r w1 => (r, w1) = out) := by
  refine CtI_of .int (by decide) (Nat.le_of_ble_eq_true rfl) (fun Z hg F hR => ?_)
  subst hg
  have F : Fx Z RX10 cX10_door 3 9 196 := F
  refine V_sub (ls' := [(0, .ref ((zg Z).1 42)), (1, .int a1)]) [0, 1] rfl ?_
  unfold fX10_door at h0
  refine r_iload_n (pc := 0) F dX10_door_0 rfl ?_
  refine r_iconst (pc := 1) F dX10_door_1 ic_0 ?_
  refine r_iconst (pc := 2) F dX10_door_2 ic_2 ?_
  refine r_Si3 (pc := 3) F dX10_door_3 ml_10_110 (kX10_isIn _ w a1 0 2 _ rfl) (Nat.le_of_ble_eq_true rfl) (Nat.le_of_ble_eq_true rfl) (Nat.le_of_ble_eq_true rfl) ?_
  refine r_if_ne (pc := 6) (tgt := 16) F dX10_door_6 rfl h0 (fun h0 => ?_) (fun h0 => ?_)
  · refine r_aload_n (pc := 9) F dX10_door_9 rfl ?_
    refine r_bipush (pc := 10) F dX10_door_10 bp_m2 ?_
    obtain ⟨q3, er2, h0⟩ := bind_some h0
    replace h0 := un2_eq h0
    obtain ⟨r2, w1, rfl, h0⟩ := h0
    refine r_Vj1 (pc := 12) F dX10_door_12 ml_10_99 (kX10_no _ w (-2) (r2, w1) er2) i68_42 (ce_42 _ _ _) (Nat.le_of_ble_eq_true rfl) (Nat.le_of_ble_eq_true rfl) (Nat.le_of_ble_eq_true rfl) ?_
    exact hR _ _ _ _ dX10_door_15 rfl (Option.some.inj h0)
  · refine r_aload_n (pc := 16) F dX10_door_16 rfl ?_
    obtain ⟨q7, er6, h0⟩ := bind_some h0
    replace h0 := un2_eq h0
    obtain ⟨r6, w5, rfl, h0⟩ := h0
    refine r_Vj0 (pc := 17) F dX10_door_17 ml_10_241 (kX10_atDoor _ w (r6, w5) er6) i68_42 (ce_42 _ _ _) (Nat.le_of_ble_eq_true rfl) (Nat.le_of_ble_eq_true rfl) (Nat.le_of_ble_eq_true rfl) ?_
    refine r_istore_n (pc := 20) (ls' := [(0, .ref ((zg Z).1 42)), (1, .int a1), (2, .int r6)]) F dX10_door_20 (Nat.le_of_ble_eq_true rfl) rfl ?_
    refine r_iload_n (pc := 21) F dX10_door_21 rfl ?_
    refine r_if_ne (pc := 22) (tgt := 29) F dX10_door_22 rfl h0 (fun h0 => ?_) (fun h0 => ?_)
    · refine r_iload_n (pc := 25) F dX10_door_25 rfl ?_
      refine r_goto (pc := 26) (tgt := 46) F dX10_door_26 rfl ?_
      exact hR _ _ _ _ dX10_door_46 rfl (Option.some.inj h0)
    · refine r_iload_n (pc := 29) F dX10_door_29 rfl ?_
      refine r_iconst (pc := 30) F dX10_door_30 ic_1 ?_
      refine r_icmp_ne (pc := 31) (tgt := 41) F dX10_door_31 rfl h0 (fun h0 => ?_) (fun h0 => ?_)
      · refine r_iload_n (pc := 34) F dX10_door_34 rfl ?_
        obtain ⟨r9, er9, h0⟩ := bind_some h0
        refine r_Si1 (pc := 35) F dX10_door_35 ml_10_231 (kX10_bits _ w5 r6 r9 er9) (Nat.le_of_ble_eq_true rfl) (Nat.le_of_ble_eq_true rfl) (Nat.le_of_ble_eq_true rfl) ?_
        refine r_goto (pc := 38) (tgt := 46) F dX10_door_38 rfl ?_
        exact hR _ _ _ _ dX10_door_46 rfl (Option.some.inj h0)
      · refine r_aload_n (pc := 41) F dX10_door_41 rfl ?_
        refine r_iload_n (pc := 42) F dX10_door_42 rfl ?_
        obtain ⟨r10, er10, h0⟩ := bind_some h0
        refine r_Vi1 (pc := 43) F dX10_door_43 ml_10_244 (kX10_lightOf _ w5 r6 r10 er10) i68_42 (ce_42 _ _ _) (Nat.le_of_ble_eq_true rfl) (Nat.le_of_ble_eq_true rfl) (Nat.le_of_ble_eq_true rfl) ?_
        exact hR _ _ _ _ dX10_door_46 rfl (Option.some.inj h0)
set_option maxRecDepth 100000 in
set_option maxHeartbeats 4000000 in
theorem kX10_dark (g : GT) (w : Wd) (a1 : Int32) (out : Int32 × Wd) (h0 : fX10_dark w a1 = some out) : CtI g yX10_dark cX10_dark 6 (some .int) 7 155 [.ref (g.1 42), .int a1] w (fun r w1 => (r, w1) = out) := by
  refine CtI_of .int (by decide) (Nat.le_of_ble_eq_true rfl) (fun Z hg F hR => ?_)
  subst hg
  have F : Fx Z RX10 cX10_dark 6 7 155 := F
  refine V_sub (ls' := [(0, .ref ((zg Z).1 42)), (1, .int a1)]) [0, 1] rfl ?_
  unfold fX10_dark at h0
  refine r_iload_n (pc := 0) F dX10_dark_0 rfl ?_
  refine r_iconst (pc := 1) F dX10_dark_1 ic_0 ?_
  refine r_iconst (pc := 2) F dX10_dark_2 ic_1 ?_
  refine r_Si3 (pc := 3) F dX10_dark_3 ml_10_110 (kX10_isIn _ w a1 0 1 _ rfl) (Nat.le_of_ble_eq_true rfl) (Nat.le_of_ble_eq_true rfl) (Nat.le_of_ble_eq_true rfl) ?_
  refine r_if_ne (pc := 6) (tgt := 16) F dX10_dark_6 rfl h0 (fun h0 => ?_) (fun h0 => ?_)
  · refine r_aload_n (pc := 9) F dX10_dark_9 rfl ?_
    refine r_bipush (pc := 10) F dX10_dark_10 bp_m2 ?_
    obtain ⟨q3, er2, h0⟩ := bind_some h0
    replace h0 := un2_eq h0
    obtain ⟨r2, w1, rfl, h0⟩ := h0
    refine r_Vj1 (pc := 12) F dX10_dark_12 ml_10_99 (kX10_no _ w (-2) (r2, w1) er2) i68_42 (ce_42 _ _ _) (Nat.le_of_ble_eq_true rfl) (Nat.le_of_ble_eq_true rfl) (Nat.le_of_ble_eq_true rfl) ?_
    exact hR _ _ _ _ dX10_dark_15 rfl (Option.some.inj h0)
  · refine r_aload_n (pc := 16) F dX10_dark_16 rfl ?_
    refine r_iconst (pc := 17) F dX10_dark_17 ic_1 ?_
    refine r_iconst (pc := 18) F dX10_dark_18 ic_1 ?_
    obtain ⟨w5, ew5, h0⟩ := bind_some h0
    refine r_Vv2 (pc := 19) F dX10_dark_19 ml_10_157 (kX10_passesAll _ w 1 1 w5 ew5) i68_42 (ce_42 _ _ _) (Nat.le_of_ble_eq_true rfl) (Nat.le_of_ble_eq_true rfl) (Nat.le_of_ble_eq_true rfl) ?_
    refine r_aload_n (pc := 22) F dX10_dark_22 rfl ?_
    refine r_getf (pc := 23) F dX10_dark_23 fl_10_124 i68_42 (ce_42 _ _ _) rfl ?_
    obtain ⟨v7, hv7, h0⟩ := lt_some h0
    have hv7 := hv7.symm
    suffices Jv7 : V Z 35 [(0, .ref ((zg Z).1 42)), (1, .int a1)] [.int v7] w5 by
      refine r_if_ne (pc := 26) (tgt := 33) F dX10_dark_26 rfl hv7 (fun hv7 => ?_) (fun hv7 => ?_)
      · refine r_iconst (pc := 29) F dX10_dark_29 ic_0 ?_
        refine r_goto (pc := 30) (tgt := 35) F dX10_dark_30 rfl ?_
        exact V_nm hv7.symm Jv7
      · refine r_bipush (pc := 33) F dX10_dark_33 bp_m9 ?_
        exact V_nm hv7.symm Jv7
    refine r_istore_n (pc := 35) (ls' := [(0, .ref ((zg Z).1 42)), (1, .int a1), (2, .int v7)]) F dX10_dark_35 (Nat.le_of_ble_eq_true rfl) rfl ?_
    refine r_iconst (pc := 36) F dX10_dark_36 ic_0 ?_
    refine r_istore_n (pc := 37) (ls' := [(0, .ref ((zg Z).1 42)), (1, .int a1), (2, .int v7), (3, .int 0)]) F dX10_dark_37 (Nat.le_of_ble_eq_true rfl) rfl ?_
    refine r_iconst (pc := 38) F dX10_dark_38 ic_0 ?_
    refine r_istore (pc := 39) (ls' := [(0, .ref ((zg Z).1 42)), (1, .int a1), (2, .int v7), (3, .int 0), (4, .int 0)]) F dX10_dark_39 (Nat.le_of_ble_eq_true rfl) rfl ?_
    refine r_iconst (pc := 41) F dX10_dark_41 ic_1 ?_
    refine r_istore (pc := 42) (ls' := [(0, .ref ((zg Z).1 42)), (1, .int a1), (2, .int v7), (3, .int 0), (4, .int 0), (5, .int 1)]) F dX10_dark_42 (Nat.le_of_ble_eq_true rfl) rfl ?_
    obtain ⟨x22, ix22, h0⟩ := bind_some h0
    replace h0 := un3_eq h0
    obtain ⟨l23, l24, w25, rfl, h0⟩ := h0
    suffices E44 : V Z 113 [(0, .ref ((zg Z).1 42)), (1, .int a1), (2, .int l23), (4, .int l24)] [] w25 by
      refine iter_rule (P := fun s : Int32 × Int32 × Int32 × Int32 × Wd => V Z 44 [(0, .ref ((zg Z).1 42)), (1, .int a1), (2, .int (s.1)), (3, .int (s.2.1)), (4, .int (s.2.2.1)), (5, .int (s.2.2.2.1))] [] s.2.2.2.2) (x := (l23, l24, w25)) ?_ FU (v7, 0, 0, 1, w5) ix22
      intro s y1 h1 hP1 hX1
      obtain ⟨l8, l9, l10, l11, w12⟩ := s
      have h1 : fX10_dark_b44 l8 l9 l10 l11 w12 = some y1 := h1
      unfold fX10_dark_b44 at h1
      refine r_aload_n (pc := 44) F dX10_dark_44 rfl ?_
      refine r_getf (pc := 45) F dX10_dark_45 fl_10_127 i68_42 (ce_42 _ _ _) rfl ?_
      refine r_aload_n (pc := 48) F dX10_dark_48 rfl ?_
      refine r_Vi0 (pc := 49) F dX10_dark_49 ml_10_130 (kX10_doorAt _ w12 _ rfl) i68_42 (ce_42 _ _ _) (Nat.le_of_ble_eq_true rfl) (Nat.le_of_ble_eq_true rfl) (Nat.le_of_ble_eq_true rfl) ?_
      refine r_icmp_ge (pc := 52) (tgt := 113) F dX10_dark_52 rfl h1 (fun h1 => ?_) (fun h1 => ?_)
      · refine V_sub (ls' := [(0, .ref ((zg Z).1 42)), (1, .int a1), (2, .int l8), (4, .int l10)]) [0, 1, 2, 4] rfl ?_
        have e13 := hX1 _ (Option.some.inj h1).symm
        cases e13
        exact E44
      · refine r_aload_n (pc := 55) F dX10_dark_55 rfl ?_
        refine r_iconst (pc := 56) F dX10_dark_56 ic_0 ?_
        obtain ⟨w14, ew14, h1⟩ := bind_some h1
        refine r_Vv1 (pc := 57) F dX10_dark_57 ml_10_136 (kX10_goes _ w12 0 w14 ew14) i68_42 (ce_42 _ _ _) (Nat.le_of_ble_eq_true rfl) (Nat.le_of_ble_eq_true rfl) (Nat.le_of_ble_eq_true rfl) ?_
        refine r_aload_n (pc := 60) F dX10_dark_60 rfl ?_
        refine r_getf (pc := 61) F dX10_dark_61 fl_10_124 i68_42 (ce_42 _ _ _) rfl ?_
        obtain ⟨v16, hv16, h1⟩ := lt_some h1
        have hv16 := hv16.symm
        suffices Jv16 : V Z 74 [(0, .ref ((zg Z).1 42)), (1, .int a1), (2, .int l8), (3, .int l9), (4, .int l10), (5, .int l11)] [.int v16] w14 by
          refine r_if_ne (pc := 64) (tgt := 73) F dX10_dark_64 rfl hv16 (fun hv16 => ?_) (fun hv16 => ?_)
          · refine r_iload_n (pc := 67) F dX10_dark_67 rfl ?_
            refine r_iconst (pc := 68) F dX10_dark_68 ic_1 ?_
            refine r_iadd (pc := 69) F dX10_dark_69 ?_
            refine r_goto (pc := 70) (tgt := 74) F dX10_dark_70 rfl ?_
            exact V_nm hv16.symm Jv16
          · refine r_iconst (pc := 73) F dX10_dark_73 ic_0 ?_
            exact V_nm hv16.symm Jv16
        refine r_istore_n (pc := 74) (ls' := [(0, .ref ((zg Z).1 42)), (1, .int a1), (2, .int l8), (3, .int v16), (4, .int l10), (5, .int l11)]) F dX10_dark_74 (Nat.le_of_ble_eq_true rfl) rfl ?_
        refine r_iload_n (pc := 75) F dX10_dark_75 rfl ?_
        refine r_iload (pc := 76) F dX10_dark_76 rfl ?_
        obtain ⟨v17, hv17, h1⟩ := lt_some h1
        have hv17 := hv17.symm
        suffices Jv17 : V Z 87 [(0, .ref ((zg Z).1 42)), (1, .int a1), (2, .int l8), (3, .int v16), (4, .int l10), (5, .int l11)] [.int v17] w14 by
          refine r_icmp_le (pc := 78) (tgt := 85) F dX10_dark_78 rfl hv17 (fun hv17 => ?_) (fun hv17 => ?_)
          · refine r_iload (pc := 85) F dX10_dark_85 rfl ?_
            exact V_nm hv17.symm Jv17
          · refine r_iload_n (pc := 81) F dX10_dark_81 rfl ?_
            refine r_goto (pc := 82) (tgt := 87) F dX10_dark_82 rfl ?_
            exact V_nm hv17.symm Jv17
        refine r_istore (pc := 87) (ls' := [(0, .ref ((zg Z).1 42)), (1, .int a1), (2, .int l8), (3, .int v16), (4, .int v17), (5, .int l11)]) F dX10_dark_87 (Nat.le_of_ble_eq_true rfl) rfl ?_
        refine r_aload_n (pc := 89) F dX10_dark_89 rfl ?_
        refine r_getf (pc := 90) F dX10_dark_90 fl_10_124 i68_42 (ce_42 _ _ _) rfl ?_
        obtain ⟨v18, hv18, h1⟩ := lt_some h1
        have hv18 := hv18.symm
        suffices Jv18 : V Z 106 [(0, .ref ((zg Z).1 42)), (1, .int a1), (2, .int l8), (3, .int v16), (4, .int v17), (5, .int l11)] [.int v18] w14 by
          refine r_if_ne (pc := 93) (tgt := 105) F dX10_dark_93 rfl hv18 (fun hv18 => ?_) (fun hv18 => ?_)
          · refine r_iload_n (pc := 96) F dX10_dark_96 rfl ?_
            refine r_if_ge (pc := 97) (tgt := 105) F dX10_dark_97 rfl hv18 (fun hv18 => ?_) (fun hv18 => ?_)
            · refine r_iload_n (pc := 105) F dX10_dark_105 rfl ?_
              exact V_nm hv18.symm Jv18
            · refine r_iload (pc := 100) F dX10_dark_100 rfl ?_
              refine r_goto (pc := 102) (tgt := 106) F dX10_dark_102 rfl ?_
              exact V_nm hv18.symm Jv18
          · refine r_iload_n (pc := 105) F dX10_dark_105 rfl ?_
            exact V_nm hv18.symm Jv18
        refine r_istore_n (pc := 106) (ls' := [(0, .ref ((zg Z).1 42)), (1, .int a1), (2, .int v18), (3, .int v16), (4, .int v17), (5, .int l11)]) F dX10_dark_106 (Nat.le_of_ble_eq_true rfl) rfl ?_
        obtain ⟨v20, ev20, h1⟩ := lt_some h1
        refine r_iinc (pc := 107) (ls' := [(0, .ref ((zg Z).1 42)), (1, .int a1), (2, .int v18), (3, .int v16), (4, .int v17), (5, .int v20)]) F dX10_dark_107 rfl (by rw [ev20]; rfl) (Nat.le_of_ble_eq_true rfl) rfl ?_
        refine r_goto (pc := 110) (tgt := 44) F dX10_dark_110 rfl ?_
        exact hP1 (v18, v16, v17, v20, w14) (Option.some.inj h1).symm
    refine r_aload_n (pc := 113) F dX10_dark_113 rfl ?_
    refine r_iconst (pc := 114) F dX10_dark_114 ic_1 ?_
    refine r_iconst (pc := 115) F dX10_dark_115 ic_0 ?_
    obtain ⟨w27, ew27, h0⟩ := bind_some h0
    refine r_Vv2 (pc := 116) F dX10_dark_116 ml_10_157 (kX10_passesAll _ w25 1 0 w27 ew27) i68_42 (ce_42 _ _ _) (Nat.le_of_ble_eq_true rfl) (Nat.le_of_ble_eq_true rfl) (Nat.le_of_ble_eq_true rfl) ?_
    refine r_iload_n (pc := 119) F dX10_dark_119 rfl ?_
    refine r_if_ne (pc := 120) (tgt := 127) F dX10_dark_120 rfl h0 (fun h0 => ?_) (fun h0 => ?_)
    · refine r_iload_n (pc := 123) F dX10_dark_123 rfl ?_
      refine r_goto (pc := 124) (tgt := 129) F dX10_dark_124 rfl ?_
      exact hR _ _ _ _ dX10_dark_129 rfl (Option.some.inj h0)
    · refine r_iload (pc := 127) F dX10_dark_127 rfl ?_
      exact hR _ _ _ _ dX10_dark_129 rfl (Option.some.inj h0)
set_option maxRecDepth 100000 in
set_option maxHeartbeats 4000000 in
theorem kX10_darkEnds (g : GT) (w : Wd) (a1 : Int32) (out : Int32 × Wd) (h0 : fX10_darkEnds w a1 = some out) : CtI g yX10_darkEnds cX10_darkEnds 3 (some .int) 7 155 [.ref (g.1 42), .int a1] w (fun r w1 => (r, w1) = out) := by
  refine CtI_of .int (by decide) (Nat.le_of_ble_eq_true rfl) (fun Z hg F hR => ?_)
  subst hg
  have F : Fx Z RX10 cX10_darkEnds 3 7 155 := F
  refine V_sub (ls' := [(0, .ref ((zg Z).1 42)), (1, .int a1)]) [0, 1] rfl ?_
  unfold fX10_darkEnds at h0
  refine r_aload_n (pc := 0) F dX10_darkEnds_0 rfl ?_
  refine r_iconst (pc := 1) F dX10_darkEnds_1 ic_2 ?_
  refine r_iconst (pc := 2) F dX10_darkEnds_2 ic_1 ?_
  obtain ⟨w1, ew1, h0⟩ := bind_some h0
  refine r_Vv2 (pc := 3) F dX10_darkEnds_3 ml_10_157 (kX10_passesAll _ w 2 1 w1 ew1) i68_42 (ce_42 _ _ _) (Nat.le_of_ble_eq_true rfl) (Nat.le_of_ble_eq_true rfl) (Nat.le_of_ble_eq_true rfl) ?_
  refine r_iconst (pc := 6) F dX10_darkEnds_6 ic_0 ?_
  refine r_istore_n (pc := 7) (ls' := [(0, .ref ((zg Z).1 42)), (1, .int a1), (2, .int 0)]) F dX10_darkEnds_7 (Nat.le_of_ble_eq_true rfl) rfl ?_
  obtain ⟨x11, ix11, h0⟩ := bind_some h0
  replace h0 := un2_eq h0
  obtain ⟨l12, w13, rfl, h0⟩ := h0
  suffices E8 : V Z 46 [(0, .ref ((zg Z).1 42)), (2, .int l12)] [] w13 by
    refine iter_rule (P := fun s : Int32 × Wd => V Z 8 [(0, .ref ((zg Z).1 42)), (1, .int a1), (2, .int (s.1))] [] s.2) (x := (l12, w13)) ?_ FU (0, w1) ix11
    intro s y1 h1 hP1 hX1
    obtain ⟨l3, w4⟩ := s
    have h1 : fX10_darkEnds_b8 a1 l3 w4 = some y1 := h1
    unfold fX10_darkEnds_b8 at h1
    refine r_aload_n (pc := 8) F dX10_darkEnds_8 rfl ?_
    refine r_getf (pc := 9) F dX10_darkEnds_9 fl_10_127 i68_42 (ce_42 _ _ _) rfl ?_
    refine r_aload_n (pc := 12) F dX10_darkEnds_12 rfl ?_
    refine r_Vi0 (pc := 13) F dX10_darkEnds_13 ml_10_130 (kX10_doorAt _ w4 _ rfl) i68_42 (ce_42 _ _ _) (Nat.le_of_ble_eq_true rfl) (Nat.le_of_ble_eq_true rfl) (Nat.le_of_ble_eq_true rfl) ?_
    refine r_icmp_ge (pc := 16) (tgt := 46) F dX10_darkEnds_16 rfl h1 (fun h1 => ?_) (fun h1 => ?_)
    · refine V_sub (ls' := [(0, .ref ((zg Z).1 42)), (2, .int l3)]) [0, 2] rfl ?_
      have e5 := hX1 _ (Option.some.inj h1).symm
      cases e5
      exact E8
    · refine r_aload_n (pc := 19) F dX10_darkEnds_19 rfl ?_
      refine r_iconst (pc := 20) F dX10_darkEnds_20 ic_0 ?_
      obtain ⟨w6, ew6, h1⟩ := bind_some h1
      refine r_Vv1 (pc := 21) F dX10_darkEnds_21 ml_10_136 (kX10_goes _ w4 0 w6 ew6) i68_42 (ce_42 _ _ _) (Nat.le_of_ble_eq_true rfl) (Nat.le_of_ble_eq_true rfl) (Nat.le_of_ble_eq_true rfl) ?_
      refine r_iload_n (pc := 24) F dX10_darkEnds_24 rfl ?_
      refine r_aload_n (pc := 25) F dX10_darkEnds_25 rfl ?_
      refine r_getf (pc := 26) F dX10_darkEnds_26 fl_10_124 i68_42 (ce_42 _ _ _) rfl ?_
      refine r_iload_n (pc := 29) F dX10_darkEnds_29 rfl ?_
      refine r_Si2 (pc := 30) F dX10_darkEnds_30 ml_10_147 (kX10_has _ w6 (w6.1 42 7) a1 _ rfl) (Nat.le_of_ble_eq_true rfl) (Nat.le_of_ble_eq_true rfl) (Nat.le_of_ble_eq_true rfl) ?_
      obtain ⟨v8, hv8, h1⟩ := lt_some h1
      have hv8 := hv8.symm
      suffices Jv8 : V Z 41 [(0, .ref ((zg Z).1 42)), (1, .int a1), (2, .int l3)] [.int v8, .int l3] w6 by
        refine r_if_eq (pc := 33) (tgt := 40) F dX10_darkEnds_33 rfl hv8 (fun hv8 => ?_) (fun hv8 => ?_)
        · refine r_iconst (pc := 40) F dX10_darkEnds_40 ic_1 ?_
          exact V_nm hv8.symm Jv8
        · refine r_iconst (pc := 36) F dX10_darkEnds_36 ic_0 ?_
          refine r_goto (pc := 37) (tgt := 41) F dX10_darkEnds_37 rfl ?_
          exact V_nm hv8.symm Jv8
      refine r_iadd (pc := 41) F dX10_darkEnds_41 ?_
      obtain ⟨v9, ev9, h1⟩ := lt_some h1
      refine V_nm ev9 ?_
      refine r_istore_n (pc := 42) (ls' := [(0, .ref ((zg Z).1 42)), (1, .int a1), (2, .int v9)]) F dX10_darkEnds_42 (Nat.le_of_ble_eq_true rfl) rfl ?_
      refine r_goto (pc := 43) (tgt := 8) F dX10_darkEnds_43 rfl ?_
      exact hP1 (v9, w6) (Option.some.inj h1).symm
  refine r_aload_n (pc := 46) F dX10_darkEnds_46 rfl ?_
  refine r_iconst (pc := 47) F dX10_darkEnds_47 ic_2 ?_
  refine r_iconst (pc := 48) F dX10_darkEnds_48 ic_0 ?_
  obtain ⟨w15, ew15, h0⟩ := bind_some h0
  refine r_Vv2 (pc := 49) F dX10_darkEnds_49 ml_10_157 (kX10_passesAll _ w13 2 0 w15 ew15) i68_42 (ce_42 _ _ _) (Nat.le_of_ble_eq_true rfl) (Nat.le_of_ble_eq_true rfl) (Nat.le_of_ble_eq_true rfl) ?_
  refine r_iload_n (pc := 52) F dX10_darkEnds_52 rfl ?_
  exact hR _ _ _ _ dX10_darkEnds_53 rfl (Option.some.inj h0)
set_option maxRecDepth 100000 in
set_option maxHeartbeats 4000000 in
theorem kX10_darkFor (g : GT) (w : Wd) (a1 : Int32) (out : Int32 × Wd) (h0 : fX10_darkFor w a1 = some out) : CtI g yX10_darkFor cX10_darkFor 2 (some .int) 8 177 [.ref (g.1 42), .int a1] w (fun r w1 => (r, w1) = out) := by
  refine CtI_of .int (by decide) (Nat.le_of_ble_eq_true rfl) (fun Z hg F hR => ?_)
  subst hg
  have F : Fx Z RX10 cX10_darkFor 2 8 177 := F
  refine V_sub (ls' := [(0, .ref ((zg Z).1 42)), (1, .int a1)]) [0, 1] rfl ?_
  unfold fX10_darkFor at h0
  refine r_aload_n (pc := 0) F dX10_darkFor_0 rfl ?_
  refine r_iload_n (pc := 1) F dX10_darkFor_1 rfl ?_
  refine r_Vi1 (pc := 2) F dX10_darkFor_2 ml_10_144 (kX10_isPerson _ w a1 _ rfl) i68_42 (ce_42 _ _ _) (Nat.le_of_ble_eq_true rfl) (Nat.le_of_ble_eq_true rfl) (Nat.le_of_ble_eq_true rfl) ?_
  refine r_if_eq (pc := 5) (tgt := 16) F dX10_darkFor_5 rfl h0 (fun h0 => ?_) (fun h0 => ?_)
  · refine r_aload_n (pc := 16) F dX10_darkFor_16 rfl ?_
    refine r_iconst (pc := 17) F dX10_darkFor_17 ic_m1 ?_
    obtain ⟨q3, er2, h0⟩ := bind_some h0
    replace h0 := un2_eq h0
    obtain ⟨r2, w1, rfl, h0⟩ := h0
    refine r_Vj1 (pc := 18) F dX10_darkFor_18 ml_10_99 (kX10_no _ w (-1) (r2, w1) er2) i68_42 (ce_42 _ _ _) (Nat.le_of_ble_eq_true rfl) (Nat.le_of_ble_eq_true rfl) (Nat.le_of_ble_eq_true rfl) ?_
    exact hR _ _ _ _ dX10_darkFor_21 rfl (Option.some.inj h0)
  · refine r_aload_n (pc := 8) F dX10_darkFor_8 rfl ?_
    refine r_iload_n (pc := 9) F dX10_darkFor_9 rfl ?_
    obtain ⟨q7, er6, h0⟩ := bind_some h0
    replace h0 := un2_eq h0
    obtain ⟨r6, w5, rfl, h0⟩ := h0
    refine r_Vj1 (pc := 10) F dX10_darkFor_10 ml_10_247 (kX10_darkEnds _ w a1 (r6, w5) er6) i68_42 (ce_42 _ _ _) (Nat.le_of_ble_eq_true rfl) (Nat.le_of_ble_eq_true rfl) (Nat.le_of_ble_eq_true rfl) ?_
    refine r_goto (pc := 13) (tgt := 21) F dX10_darkFor_13 rfl ?_
    exact hR _ _ _ _ dX10_darkFor_21 rfl (Option.some.inj h0)
set_option maxRecDepth 100000 in
set_option maxHeartbeats 4000000 in
theorem kX10_litBy (g : GT) (w : Wd) (a1 : Int32) (a2 : Int32) (out : Int32 × Wd) (h0 : fX10_litBy w a1 a2 = some out) : CtI g yX10_litBy cX10_litBy 5 (some .int) 8 177 [.ref (g.1 42), .int a1, .int a2] w (fun r w1 => (r, w1) = out) := by
  refine CtI_of .int (by decide) (Nat.le_of_ble_eq_true rfl) (fun Z hg F hR => ?_)
  subst hg
  have F : Fx Z RX10 cX10_litBy 5 8 177 := F
  refine V_sub (ls' := [(0, .ref ((zg Z).1 42)), (1, .int a1), (2, .int a2)]) [0, 1, 2] rfl ?_
  unfold fX10_litBy at h0
  refine r_aload_n (pc := 0) F dX10_litBy_0 rfl ?_
  refine r_iload_n (pc := 1) F dX10_litBy_1 rfl ?_
  refine r_Vi1 (pc := 2) F dX10_litBy_2 ml_10_144 (kX10_isPerson _ w a1 _ rfl) i68_42 (ce_42 _ _ _) (Nat.le_of_ble_eq_true rfl) (Nat.le_of_ble_eq_true rfl) (Nat.le_of_ble_eq_true rfl) ?_
  obtain ⟨v1, hv1, h0⟩ := lt_some h0
  have hv1 := hv1.symm
  suffices Jv1 : V Z 19 [(0, .ref ((zg Z).1 42)), (1, .int a1), (2, .int a2)] [.int v1] w by
    refine r_if_ne (pc := 5) (tgt := 12) F dX10_litBy_5 rfl hv1 (fun hv1 => ?_) (fun hv1 => ?_)
    · refine r_iconst (pc := 8) F dX10_litBy_8 ic_m1 ?_
      refine r_goto (pc := 9) (tgt := 19) F dX10_litBy_9 rfl ?_
      exact V_nm hv1.symm Jv1
    · refine r_iload_n (pc := 12) F dX10_litBy_12 rfl ?_
      refine r_iconst (pc := 13) F dX10_litBy_13 ic_0 ?_
      refine r_bipush (pc := 14) F dX10_litBy_14 bp_24 ?_
      refine r_Si3 (pc := 16) F dX10_litBy_16 ml_10_92 (kX10_bound _ w a2 0 24 _ rfl) (Nat.le_of_ble_eq_true rfl) (Nat.le_of_ble_eq_true rfl) (Nat.le_of_ble_eq_true rfl) ?_
      exact V_nm hv1.symm Jv1
  refine r_istore_n (pc := 19) (ls' := [(0, .ref ((zg Z).1 42)), (1, .int a1), (2, .int a2), (3, .int v1)]) F dX10_litBy_19 (Nat.le_of_ble_eq_true rfl) rfl ?_
  refine r_iload_n (pc := 20) F dX10_litBy_20 rfl ?_
  refine r_if_eq (pc := 21) (tgt := 30) F dX10_litBy_21 rfl h0 (fun h0 => ?_) (fun h0 => ?_)
  · refine r_aload_n (pc := 30) F dX10_litBy_30 rfl ?_
    refine r_iconst (pc := 31) F dX10_litBy_31 ic_1 ?_
    refine r_iconst (pc := 32) F dX10_litBy_32 ic_1 ?_
    obtain ⟨w2, ew2, h0⟩ := bind_some h0
    refine r_Vv2 (pc := 33) F dX10_litBy_33 ml_10_157 (kX10_passesAll _ w 1 1 w2 ew2) i68_42 (ce_42 _ _ _) (Nat.le_of_ble_eq_true rfl) (Nat.le_of_ble_eq_true rfl) (Nat.le_of_ble_eq_true rfl) ?_
    refine r_iconst (pc := 36) F dX10_litBy_36 ic_0 ?_
    refine r_istore (pc := 37) (ls' := [(0, .ref ((zg Z).1 42)), (1, .int a1), (2, .int a2), (3, .int v1), (4, .int 0)]) F dX10_litBy_37 (Nat.le_of_ble_eq_true rfl) rfl ?_
    refine V_sub (ls' := [(0, .ref ((zg Z).1 42)), (1, .int a1), (2, .int a2), (4, .int 0)]) [0, 1, 2, 4] rfl ?_
    obtain ⟨w13, iw13, h0⟩ := bind_some h0
    suffices E39 : V Z 61 [(0, .ref ((zg Z).1 42)), (1, .int a1), (2, .int a2)] [] w13 by
      refine iter_rule (P := fun s : Int32 × Wd => V Z 39 [(0, .ref ((zg Z).1 42)), (1, .int a1), (2, .int a2), (4, .int (s.1))] [] s.2) (x := w13) ?_ FU (0, w2) iw13
      intro s y1 h1 hP1 hX1
      obtain ⟨l4, w5⟩ := s
      have h1 : fX10_litBy_b39 l4 w5 = some y1 := h1
      unfold fX10_litBy_b39 at h1
      refine r_iload (pc := 39) F dX10_litBy_39 rfl ?_
      refine r_bipush (pc := 41) F dX10_litBy_41 bp_8 ?_
      refine r_icmp_ge (pc := 43) (tgt := 61) F dX10_litBy_43 rfl h1 (fun h1 => ?_) (fun h1 => ?_)
      · refine V_sub (ls' := [(0, .ref ((zg Z).1 42)), (1, .int a1), (2, .int a2)]) [0, 1, 2] rfl ?_
        have e6 := hX1 _ (Option.some.inj h1).symm
        cases e6
        exact E39
      · refine r_aload_n (pc := 46) F dX10_litBy_46 rfl ?_
        refine r_getf (pc := 47) F dX10_litBy_47 fl_10_43 i68_42 (ce_42 _ _ _) rfl ?_
        refine r_iload (pc := 50) F dX10_litBy_50 rfl ?_
        refine r_bipush (pc := 52) F dX10_litBy_52 bp_m9 ?_
        obtain ⟨g8, h1⟩ := gd_some h1
        obtain ⟨w7, ew7, h1⟩ := lt_some h1
        refine r_iast (pc := 54) F dX10_litBy_54 i68_54 (ca_54 _) g8 rfl ew7 ?_
        obtain ⟨v10, ev10, h1⟩ := lt_some h1
        refine r_iinc (pc := 55) (ls' := [(0, .ref ((zg Z).1 42)), (1, .int a1), (2, .int a2), (4, .int v10)]) F dX10_litBy_55 rfl (by rw [ev10]; rfl) (Nat.le_of_ble_eq_true rfl) rfl ?_
        refine r_goto (pc := 58) (tgt := 39) F dX10_litBy_58 rfl ?_
        exact hP1 (v10, w7) (Option.some.inj h1).symm
    refine r_aload_n (pc := 61) F dX10_litBy_61 rfl ?_
    refine r_iload_n (pc := 62) F dX10_litBy_62 rfl ?_
    obtain ⟨w15, ew15, h0⟩ := bind_some h0
    refine r_Vv1 (pc := 63) F dX10_litBy_63 ml_10_234 (kX10_goesAhead _ w13 a2 w15 ew15) i68_42 (ce_42 _ _ _) (Nat.le_of_ble_eq_true rfl) (Nat.le_of_ble_eq_true rfl) (Nat.le_of_ble_eq_true rfl) ?_
    refine r_aload_n (pc := 66) F dX10_litBy_66 rfl ?_
    refine r_iconst (pc := 67) F dX10_litBy_67 ic_1 ?_
    refine r_iconst (pc := 68) F dX10_litBy_68 ic_0 ?_
    obtain ⟨w17, ew17, h0⟩ := bind_some h0
    refine r_Vv2 (pc := 69) F dX10_litBy_69 ml_10_157 (kX10_passesAll _ w15 1 0 w17 ew17) i68_42 (ce_42 _ _ _) (Nat.le_of_ble_eq_true rfl) (Nat.le_of_ble_eq_true rfl) (Nat.le_of_ble_eq_true rfl) ?_
    refine r_aload_n (pc := 72) F dX10_litBy_72 rfl ?_
    refine r_getf (pc := 73) F dX10_litBy_73 fl_10_43 i68_42 (ce_42 _ _ _) rfl ?_
    refine r_iload_n (pc := 76) F dX10_litBy_76 rfl ?_
    obtain ⟨g19, h0⟩ := gd_some h0
    refine r_iald (pc := 77) F dX10_litBy_77 i68_54 (ca_54 _) g19 rfl ?_
    exact hR _ _ _ _ dX10_litBy_78 rfl (Option.some.inj h0)
  · refine r_aload_n (pc := 24) F dX10_litBy_24 rfl ?_
    refine r_iload_n (pc := 25) F dX10_litBy_25 rfl ?_
    obtain ⟨q22, er21, h0⟩ := bind_some h0
    replace h0 := un2_eq h0
    obtain ⟨r21, w20, rfl, h0⟩ := h0
    refine r_Vj1 (pc := 26) F dX10_litBy_26 ml_10_99 (kX10_no _ w v1 (r21, w20) er21) i68_42 (ce_42 _ _ _) (Nat.le_of_ble_eq_true rfl) (Nat.le_of_ble_eq_true rfl) (Nat.le_of_ble_eq_true rfl) ?_
    exact hR _ _ _ _ dX10_litBy_29 rfl (Option.some.inj h0)
set_option maxRecDepth 100000 in
set_option maxHeartbeats 4000000 in
theorem kX10_stopBy (g : GT) (w : Wd) (a1 : Int32) (a2 : Int32) (out : Int32 × Wd) (h0 : fX10_stopBy w a1 a2 = some out) : CtI g yX10_stopBy cX10_stopBy 4 (some .int) 7 155 [.ref (g.1 42), .int a1, .int a2] w (fun r w1 => (r, w1) = out) := by
  refine CtI_of .int (by decide) (Nat.le_of_ble_eq_true rfl) (fun Z hg F hR => ?_)
  subst hg
  have F : Fx Z RX10 cX10_stopBy 4 7 155 := F
  refine V_sub (ls' := [(0, .ref ((zg Z).1 42)), (1, .int a1), (2, .int a2)]) [0, 1, 2] rfl ?_
  unfold fX10_stopBy at h0
  refine r_aload_n (pc := 0) F dX10_stopBy_0 rfl ?_
  refine r_iconst (pc := 1) F dX10_stopBy_1 ic_2 ?_
  refine r_iconst (pc := 2) F dX10_stopBy_2 ic_1 ?_
  obtain ⟨w1, ew1, h0⟩ := bind_some h0
  refine r_Vv2 (pc := 3) F dX10_stopBy_3 ml_10_157 (kX10_passesAll _ w 2 1 w1 ew1) i68_42 (ce_42 _ _ _) (Nat.le_of_ble_eq_true rfl) (Nat.le_of_ble_eq_true rfl) (Nat.le_of_ble_eq_true rfl) ?_
  obtain ⟨w22, iw22, h0⟩ := bind_some h0
  suffices E6 : V Z 51 [(0, .ref ((zg Z).1 42))] [] w22 by
    refine iter_rule (P := fun s : Wd => V Z 6 [(0, .ref ((zg Z).1 42)), (1, .int a1), (2, .int a2)] [] s) (x := w22) ?_ FU w1 iw22
    intro s y1 h1 hP1 hX1
    obtain ⟨w3, rfl⟩ : ∃ z, z = s := ⟨s, rfl⟩
    have h1 : fX10_stopBy_b6 a2 a1 w3 = some y1 := h1
    unfold fX10_stopBy_b6 at h1
    have J43 : ∀ (w17 : Wd), fX10_stopBy_j43 w17 = some y1 → V Z 43 [(0, .ref ((zg Z).1 42)), (1, .int a1), (2, .int a2)] [] w17 := by
      intro w17 h1
      unfold fX10_stopBy_j43 at h1
      refine r_aload_n (pc := 43) F dX10_stopBy_43 rfl ?_
      refine r_iconst (pc := 44) F dX10_stopBy_44 ic_0 ?_
      obtain ⟨w18, ew18, h1⟩ := bind_some h1
      refine r_Vv1 (pc := 45) F dX10_stopBy_45 ml_10_136 (kX10_goes _ w17 0 w18 ew18) i68_42 (ce_42 _ _ _) (Nat.le_of_ble_eq_true rfl) (Nat.le_of_ble_eq_true rfl) (Nat.le_of_ble_eq_true rfl) ?_
      refine r_goto (pc := 48) (tgt := 6) F dX10_stopBy_48 rfl ?_
      exact hP1 w18 (Option.some.inj h1).symm
    refine r_aload_n (pc := 6) F dX10_stopBy_6 rfl ?_
    refine r_getf (pc := 7) F dX10_stopBy_7 fl_10_127 i68_42 (ce_42 _ _ _) rfl ?_
    refine r_aload_n (pc := 10) F dX10_stopBy_10 rfl ?_
    refine r_Vi0 (pc := 11) F dX10_stopBy_11 ml_10_130 (kX10_doorAt _ w3 _ rfl) i68_42 (ce_42 _ _ _) (Nat.le_of_ble_eq_true rfl) (Nat.le_of_ble_eq_true rfl) (Nat.le_of_ble_eq_true rfl) ?_
    refine r_icmp_ge (pc := 14) (tgt := 51) F dX10_stopBy_14 rfl h1 (fun h1 => ?_) (fun h1 => ?_)
    · refine V_sub (ls' := [(0, .ref ((zg Z).1 42))]) [0] rfl ?_
      have e4 := hX1 _ (Option.some.inj h1).symm
      cases e4
      exact E6
    · refine r_iconst (pc := 17) F dX10_stopBy_17 ic_0 ?_
      refine r_istore_n (pc := 18) (ls' := [(0, .ref ((zg Z).1 42)), (1, .int a1), (2, .int a2), (3, .int 0)]) F dX10_stopBy_18 (Nat.le_of_ble_eq_true rfl) rfl ?_
      obtain ⟨w15, iw15, h1⟩ := bind_some h1
      suffices E19 : V Z 43 [(0, .ref ((zg Z).1 42)), (1, .int a1), (2, .int a2)] [] w15 by
        refine iter_rule (P := fun s : Int32 × Wd => V Z 19 [(0, .ref ((zg Z).1 42)), (1, .int a1), (2, .int a2), (3, .int (s.1))] [] s.2) (x := w15) ?_ FU (0, w3) iw15
        intro s y2 h2 hP2 hX2
        obtain ⟨l5, w6⟩ := s
        have h2 : fX10_stopBy_b19 a2 a1 l5 w6 = some y2 := h2
        unfold fX10_stopBy_b19 at h2
        refine r_iload_n (pc := 19) F dX10_stopBy_19 rfl ?_
        refine r_iload_n (pc := 20) F dX10_stopBy_20 rfl ?_
        refine r_icmp_ge (pc := 21) (tgt := 43) F dX10_stopBy_21 rfl h2 (fun h2 => ?_) (fun h2 => ?_)
        · refine V_sub (ls' := [(0, .ref ((zg Z).1 42)), (1, .int a1), (2, .int a2)]) [0, 1, 2] rfl ?_
          have e7 := hX2 _ (Option.some.inj h2).symm
          cases e7
          exact E19
        · refine r_aload_n (pc := 24) F dX10_stopBy_24 rfl ?_
          refine r_getf (pc := 25) F dX10_stopBy_25 fl_10_127 i68_42 (ce_42 _ _ _) rfl ?_
          refine r_iload_n (pc := 28) F dX10_stopBy_28 rfl ?_
          refine r_icmp_ne (pc := 29) (tgt := 43) F dX10_stopBy_29 rfl h2 (fun h2 => ?_) (fun h2 => ?_)
          · refine r_aload_n (pc := 32) F dX10_stopBy_32 rfl ?_
            refine r_iconst (pc := 33) F dX10_stopBy_33 ic_1 ?_
            obtain ⟨w8, ew8, h2⟩ := bind_some h2
            refine r_Vv1 (pc := 34) F dX10_stopBy_34 ml_10_136 (kX10_goes _ w6 1 w8 ew8) i68_42 (ce_42 _ _ _) (Nat.le_of_ble_eq_true rfl) (Nat.le_of_ble_eq_true rfl) (Nat.le_of_ble_eq_true rfl) ?_
            obtain ⟨v10, ev10, h2⟩ := lt_some h2
            refine r_iinc (pc := 37) (ls' := [(0, .ref ((zg Z).1 42)), (1, .int a1), (2, .int a2), (3, .int v10)]) F dX10_stopBy_37 rfl (by rw [ev10]; rfl) (Nat.le_of_ble_eq_true rfl) rfl ?_
            refine r_goto (pc := 40) (tgt := 19) F dX10_stopBy_40 rfl ?_
            exact hP2 (v10, w8) (Option.some.inj h2).symm
          · refine V_sub (ls' := [(0, .ref ((zg Z).1 42)), (1, .int a1), (2, .int a2)]) [0, 1, 2] rfl ?_
            have e11 := hX2 _ (Option.some.inj h2).symm
            cases e11
            exact E19
      exact J43 w15 h1
  refine r_aload_n (pc := 51) F dX10_stopBy_51 rfl ?_
  refine r_getf (pc := 52) F dX10_stopBy_52 fl_10_124 i68_42 (ce_42 _ _ _) rfl ?_
  obtain ⟨r24, er24, h0⟩ := bind_some h0
  refine r_Si1 (pc := 55) F dX10_stopBy_55 ml_10_231 (kX10_bits _ w22 (w22.1 42 7) r24 er24) (Nat.le_of_ble_eq_true rfl) (Nat.le_of_ble_eq_true rfl) (Nat.le_of_ble_eq_true rfl) ?_
  refine r_istore_n (pc := 58) (ls' := [(0, .ref ((zg Z).1 42)), (3, .int r24)]) F dX10_stopBy_58 (Nat.le_of_ble_eq_true rfl) rfl ?_
  refine r_aload_n (pc := 59) F dX10_stopBy_59 rfl ?_
  refine r_iconst (pc := 60) F dX10_stopBy_60 ic_2 ?_
  refine r_iconst (pc := 61) F dX10_stopBy_61 ic_0 ?_
  obtain ⟨w25, ew25, h0⟩ := bind_some h0
  refine r_Vv2 (pc := 62) F dX10_stopBy_62 ml_10_157 (kX10_passesAll _ w22 2 0 w25 ew25) i68_42 (ce_42 _ _ _) (Nat.le_of_ble_eq_true rfl) (Nat.le_of_ble_eq_true rfl) (Nat.le_of_ble_eq_true rfl) ?_
  refine r_iload_n (pc := 65) F dX10_stopBy_65 rfl ?_
  exact hR _ _ _ _ dX10_stopBy_66 rfl (Option.some.inj h0)
set_option maxRecDepth 100000 in
set_option maxHeartbeats 4000000 in
theorem kX10_stop (g : GT) (w : Wd) (out : Int32 × Wd) (h0 : fX10_stop w = some out) : CtI g yX10_stop cX10_stop 6 (some .int) 9 196 [.ref (g.1 42)] w (fun r w1 => (r, w1) = out) := by
  refine CtI_of .int (by decide) (Nat.le_of_ble_eq_true rfl) (fun Z hg F hR => ?_)
  subst hg
  have F : Fx Z RX10 cX10_stop 6 9 196 := F
  refine V_sub (ls' := [(0, .ref ((zg Z).1 42))]) [0] rfl ?_
  unfold fX10_stop at h0
  refine r_aload_n (pc := 0) F dX10_stop_0 rfl ?_
  obtain ⟨q3, er2, h0⟩ := bind_some h0
  replace h0 := un2_eq h0
  obtain ⟨r2, w1, rfl, h0⟩ := h0
  refine r_Vj0 (pc := 1) F dX10_stop_1 ml_10_241 (kX10_atDoor _ w (r2, w1) er2) i68_42 (ce_42 _ _ _) (Nat.le_of_ble_eq_true rfl) (Nat.le_of_ble_eq_true rfl) (Nat.le_of_ble_eq_true rfl) ?_
  obtain ⟨r5, er5, h0⟩ := bind_some h0
  refine r_Si1 (pc := 4) F dX10_stop_4 ml_10_231 (kX10_bits _ w1 r2 r5 er5) (Nat.le_of_ble_eq_true rfl) (Nat.le_of_ble_eq_true rfl) (Nat.le_of_ble_eq_true rfl) ?_
  refine r_istore_n (pc := 7) (ls' := [(0, .ref ((zg Z).1 42)), (1, .int r5)]) F dX10_stop_7 (Nat.le_of_ble_eq_true rfl) rfl ?_
  refine r_bipush (pc := 8) F dX10_stop_8 bp_m9 ?_
  refine r_istore_n (pc := 10) (ls' := [(0, .ref ((zg Z).1 42)), (1, .int r5), (2, .int (-9))]) F dX10_stop_10 (Nat.le_of_ble_eq_true rfl) rfl ?_
  refine r_iconst (pc := 11) F dX10_stop_11 ic_1 ?_
  refine r_istore_n (pc := 12) (ls' := [(0, .ref ((zg Z).1 42)), (1, .int r5), (2, .int (-9)), (3, .int 1)]) F dX10_stop_12 (Nat.le_of_ble_eq_true rfl) rfl ?_
  obtain ⟨x33, ix33, h0⟩ := bind_some h0
  replace h0 := un2_eq h0
  obtain ⟨l34, w35, rfl, h0⟩ := h0
  suffices E13 : V Z 75 [(2, .int l34)] [] w35 by
    refine iter_rule (P := fun s : Int32 × Int32 × Int32 × Wd => V Z 13 [(0, .ref ((zg Z).1 42)), (1, .int (s.1)), (2, .int (s.2.1)), (3, .int (s.2.2.1))] [] s.2.2.2) (x := (l34, w35)) ?_ FU (r5, (-9), 1, w1) ix33
    intro s y1 h1 hP1 hX1
    obtain ⟨l6, l7, l8, w9⟩ := s
    have h1 : fX10_stop_b13 l6 l7 l8 w9 = some y1 := h1
    unfold fX10_stop_b13 at h1
    refine r_iload_n (pc := 13) F dX10_stop_13 rfl ?_
    refine r_bipush (pc := 14) F dX10_stop_14 bp_6 ?_
    refine r_icmp_ge (pc := 16) (tgt := 75) F dX10_stop_16 rfl h1 (fun h1 => ?_) (fun h1 => ?_)
    · refine V_sub (ls' := [(2, .int l7)]) [2] rfl ?_
      have e10 := hX1 _ (Option.some.inj h1).symm
      cases e10
      exact E13
    · refine r_aload_n (pc := 19) F dX10_stop_19 rfl ?_
      refine r_getf (pc := 20) F dX10_stop_20 fl_10_127 i68_42 (ce_42 _ _ _) rfl ?_
      obtain ⟨v11, ev11, h1⟩ := lt_some h1
      refine V_nm ev11 ?_
      refine r_istore (pc := 23) (ls' := [(0, .ref ((zg Z).1 42)), (1, .int l6), (2, .int l7), (3, .int l8), (4, .int v11)]) F dX10_stop_23 (Nat.le_of_ble_eq_true rfl) rfl ?_
      obtain ⟨x26, ix26, h1⟩ := bind_some h1
      replace h1 := un3_eq h1
      obtain ⟨l27, l28, w29, rfl, h1⟩ := h1
      suffices E25 : V Z 69 [(0, .ref ((zg Z).1 42)), (1, .int l27), (2, .int l28), (3, .int l8)] [] w29 by
        refine iter_rule (P := fun s : Int32 × Int32 × Int32 × Wd => V Z 25 [(0, .ref ((zg Z).1 42)), (1, .int (s.1)), (2, .int (s.2.1)), (3, .int l8), (4, .int (s.2.2.1))] [] s.2.2.2) (x := (l27, l28, w29)) ?_ FU (l6, l7, v11, w9) ix26
        intro s y2 h2 hP2 hX2
        obtain ⟨l12, l13, l14, w15⟩ := s
        have h2 : fX10_stop_b25 l8 l12 l13 l14 w15 = some y2 := h2
        unfold fX10_stop_b25 at h2
        refine r_iload (pc := 25) F dX10_stop_25 rfl ?_
        refine r_aload_n (pc := 27) F dX10_stop_27 rfl ?_
        refine r_Vi0 (pc := 28) F dX10_stop_28 ml_10_130 (kX10_doorAt _ w15 _ rfl) i68_42 (ce_42 _ _ _) (Nat.le_of_ble_eq_true rfl) (Nat.le_of_ble_eq_true rfl) (Nat.le_of_ble_eq_true rfl) ?_
        refine r_icmp_ge (pc := 31) (tgt := 69) F dX10_stop_31 rfl h2 (fun h2 => ?_) (fun h2 => ?_)
        · refine V_sub (ls' := [(0, .ref ((zg Z).1 42)), (1, .int l12), (2, .int l13), (3, .int l8)]) [0, 1, 2, 3] rfl ?_
          have e16 := hX2 _ (Option.some.inj h2).symm
          cases e16
          exact E25
        · refine r_aload_n (pc := 34) F dX10_stop_34 rfl ?_
          refine r_iload (pc := 35) F dX10_stop_35 rfl ?_
          refine r_iload_n (pc := 37) F dX10_stop_37 rfl ?_
          obtain ⟨q19, er18, h2⟩ := bind_some h2
          replace h2 := un2_eq h2
          obtain ⟨r18, w17, rfl, h2⟩ := h2
          refine r_Vj2 (pc := 38) F dX10_stop_38 ml_10_250 (kX10_stopBy _ w15 l14 l8 (r18, w17) er18) i68_42 (ce_42 _ _ _) (Nat.le_of_ble_eq_true rfl) (Nat.le_of_ble_eq_true rfl) (Nat.le_of_ble_eq_true rfl) ?_
          refine r_istore (pc := 41) (ls' := [(0, .ref ((zg Z).1 42)), (1, .int l12), (2, .int l13), (3, .int l8), (4, .int l14), (5, .int r18)]) F dX10_stop_41 (Nat.le_of_ble_eq_true rfl) rfl ?_
          refine r_iload (pc := 43) F dX10_stop_43 rfl ?_
          refine r_iload_n (pc := 45) F dX10_stop_45 rfl ?_
          refine r_icmp_gt (pc := 46) (tgt := 52) F dX10_stop_46 rfl h2 (fun h2 => ?_) (fun h2 => ?_)
          · refine r_iload (pc := 52) F dX10_stop_52 rfl ?_
            refine r_istore_n (pc := 54) (ls' := [(0, .ref ((zg Z).1 42)), (1, .int r18), (2, .int l13), (3, .int l8), (4, .int l14), (5, .int r18)]) F dX10_stop_54 (Nat.le_of_ble_eq_true rfl) rfl ?_
            refine r_bipush (pc := 55) F dX10_stop_55 bp_10 ?_
            refine r_iload (pc := 57) F dX10_stop_57 rfl ?_
            refine r_imul (pc := 59) F dX10_stop_59 ?_
            refine r_iload_n (pc := 60) F dX10_stop_60 rfl ?_
            refine r_iadd (pc := 61) F dX10_stop_61 ?_
            obtain ⟨v21, ev21, h2⟩ := lt_some h2
            refine V_nm ev21 ?_
            refine r_istore_n (pc := 62) (ls' := [(0, .ref ((zg Z).1 42)), (1, .int r18), (2, .int v21), (3, .int l8), (4, .int l14), (5, .int r18)]) F dX10_stop_62 (Nat.le_of_ble_eq_true rfl) rfl ?_
            obtain ⟨v22, ev22, h2⟩ := lt_some h2
            refine r_iinc (pc := 63) (ls' := [(0, .ref ((zg Z).1 42)), (1, .int r18), (2, .int v21), (3, .int l8), (4, .int v22), (5, .int r18)]) F dX10_stop_63 rfl (by rw [ev22]; rfl) (Nat.le_of_ble_eq_true rfl) rfl ?_
            refine r_goto (pc := 66) (tgt := 25) F dX10_stop_66 rfl ?_
            refine V_sub (ls' := [(0, .ref ((zg Z).1 42)), (1, .int r18), (2, .int v21), (3, .int l8), (4, .int v22)]) [0, 1, 2, 3, 4] rfl ?_
            exact hP2 (r18, v21, v22, w17) (Option.some.inj h2).symm
          · refine r_goto (pc := 49) (tgt := 63) F dX10_stop_49 rfl ?_
            obtain ⟨v23, ev23, h2⟩ := lt_some h2
            refine r_iinc (pc := 63) (ls' := [(0, .ref ((zg Z).1 42)), (1, .int l12), (2, .int l13), (3, .int l8), (4, .int v23), (5, .int r18)]) F dX10_stop_63 rfl (by rw [ev23]; rfl) (Nat.le_of_ble_eq_true rfl) rfl ?_
            refine r_goto (pc := 66) (tgt := 25) F dX10_stop_66 rfl ?_
            refine V_sub (ls' := [(0, .ref ((zg Z).1 42)), (1, .int l12), (2, .int l13), (3, .int l8), (4, .int v23)]) [0, 1, 2, 3, 4] rfl ?_
            exact hP2 (l12, l13, v23, w17) (Option.some.inj h2).symm
      obtain ⟨v31, ev31, h1⟩ := lt_some h1
      refine r_iinc (pc := 69) (ls' := [(0, .ref ((zg Z).1 42)), (1, .int l27), (2, .int l28), (3, .int v31)]) F dX10_stop_69 rfl (by rw [ev31]; rfl) (Nat.le_of_ble_eq_true rfl) rfl ?_
      refine r_goto (pc := 72) (tgt := 13) F dX10_stop_72 rfl ?_
      exact hP1 (l27, l28, v31, w29) (Option.some.inj h1).symm
  refine r_iload_n (pc := 75) F dX10_stop_75 rfl ?_
  exact hR _ _ _ _ dX10_stop_76 rfl (Option.some.inj h0)
set_option maxRecDepth 100000 in
set_option maxHeartbeats 4000000 in
theorem kX10_lower (g : GT) (w : Wd) (out : Int32 × Wd) (h0 : fX10_lower w = some out) : CtI g yX10_lower cX10_lower 5 (some .int) 9 196 [.ref (g.1 42)] w (fun r w1 => (r, w1) = out) := by
  refine CtI_of .int (by decide) (Nat.le_of_ble_eq_true rfl) (fun Z hg F hR => ?_)
  subst hg
  have F : Fx Z RX10 cX10_lower 5 9 196 := F
  refine V_sub (ls' := [(0, .ref ((zg Z).1 42))]) [0] rfl ?_
  unfold fX10_lower at h0
  refine r_aload_n (pc := 0) F dX10_lower_0 rfl ?_
  refine r_aload_n (pc := 1) F dX10_lower_1 rfl ?_
  obtain ⟨q3, er2, h0⟩ := bind_some h0
  replace h0 := un2_eq h0
  obtain ⟨r2, w1, rfl, h0⟩ := h0
  refine r_Vj0 (pc := 2) F dX10_lower_2 ml_10_241 (kX10_atDoor _ w (r2, w1) er2) i68_42 (ce_42 _ _ _) (Nat.le_of_ble_eq_true rfl) (Nat.le_of_ble_eq_true rfl) (Nat.le_of_ble_eq_true rfl) ?_
  obtain ⟨r5, er5, h0⟩ := bind_some h0
  refine r_Vi1 (pc := 5) F dX10_lower_5 ml_10_244 (kX10_lightOf _ w1 r2 r5 er5) i68_42 (ce_42 _ _ _) (Nat.le_of_ble_eq_true rfl) (Nat.le_of_ble_eq_true rfl) (Nat.le_of_ble_eq_true rfl) ?_
  refine r_istore_n (pc := 8) (ls' := [(0, .ref ((zg Z).1 42)), (1, .int r5)]) F dX10_lower_8 (Nat.le_of_ble_eq_true rfl) rfl ?_
  refine r_bipush (pc := 9) F dX10_lower_9 bp_m9 ?_
  refine r_istore_n (pc := 11) (ls' := [(0, .ref ((zg Z).1 42)), (1, .int r5), (2, .int (-9))]) F dX10_lower_11 (Nat.le_of_ble_eq_true rfl) rfl ?_
  refine r_iconst (pc := 12) F dX10_lower_12 ic_0 ?_
  refine r_istore_n (pc := 13) (ls' := [(0, .ref ((zg Z).1 42)), (1, .int r5), (2, .int (-9)), (3, .int 0)]) F dX10_lower_13 (Nat.le_of_ble_eq_true rfl) rfl ?_
  obtain ⟨x27, ix27, h0⟩ := bind_some h0
  replace h0 := un2_eq h0
  obtain ⟨l28, w29, rfl, h0⟩ := h0
  suffices E14 : V Z 71 [(2, .int l28)] [] w29 by
    refine iter_rule (P := fun s : Int32 × Int32 × Int32 × Wd => V Z 14 [(0, .ref ((zg Z).1 42)), (1, .int (s.1)), (2, .int (s.2.1)), (3, .int (s.2.2.1))] [] s.2.2.2) (x := (l28, w29)) ?_ FU (r5, (-9), 0, w1) ix27
    intro s y1 h1 hP1 hX1
    obtain ⟨l6, l7, l8, w9⟩ := s
    have h1 : fX10_lower_b14 l6 l7 l8 w9 = some y1 := h1
    unfold fX10_lower_b14 at h1
    refine r_iload_n (pc := 14) F dX10_lower_14 rfl ?_
    refine r_aload_n (pc := 15) F dX10_lower_15 rfl ?_
    refine r_getf (pc := 16) F dX10_lower_16 fl_10_88 i68_42 (ce_42 _ _ _) rfl ?_
    refine r_icmp_ge (pc := 19) (tgt := 71) F dX10_lower_19 rfl h1 (fun h1 => ?_) (fun h1 => ?_)
    · refine V_sub (ls' := [(2, .int l7)]) [2] rfl ?_
      have e10 := hX1 _ (Option.some.inj h1).symm
      cases e10
      exact E14
    · refine r_aload_n (pc := 22) F dX10_lower_22 rfl ?_
      refine r_iconst (pc := 23) F dX10_lower_23 ic_1 ?_
      refine r_iconst (pc := 24) F dX10_lower_24 ic_1 ?_
      obtain ⟨w11, ew11, h1⟩ := bind_some h1
      refine r_Vv2 (pc := 25) F dX10_lower_25 ml_10_157 (kX10_passesAll _ w9 1 1 w11 ew11) i68_42 (ce_42 _ _ _) (Nat.le_of_ble_eq_true rfl) (Nat.le_of_ble_eq_true rfl) (Nat.le_of_ble_eq_true rfl) ?_
      refine r_aload_n (pc := 28) F dX10_lower_28 rfl ?_
      refine r_getf (pc := 29) F dX10_lower_29 fl_10_16 i68_42 (ce_42 _ _ _) rfl ?_
      refine r_iload_n (pc := 32) F dX10_lower_32 rfl ?_
      refine r_iconst (pc := 33) F dX10_lower_33 ic_2 ?_
      obtain ⟨g14, h1⟩ := gd_some h1
      obtain ⟨w13, ew13, h1⟩ := lt_some h1
      refine r_iast (pc := 34) F dX10_lower_34 i68_45 (ca_45 _) g14 rfl ew13 ?_
      refine r_aload_n (pc := 35) F dX10_lower_35 rfl ?_
      refine r_aload_n (pc := 36) F dX10_lower_36 rfl ?_
      obtain ⟨q18, er17, h1⟩ := bind_some h1
      replace h1 := un2_eq h1
      obtain ⟨r17, w16, rfl, h1⟩ := h1
      refine r_Vj0 (pc := 37) F dX10_lower_37 ml_10_241 (kX10_atDoor _ w13 (r17, w16) er17) i68_42 (ce_42 _ _ _) (Nat.le_of_ble_eq_true rfl) (Nat.le_of_ble_eq_true rfl) (Nat.le_of_ble_eq_true rfl) ?_
      obtain ⟨r20, er20, h1⟩ := bind_some h1
      refine r_Vi1 (pc := 40) F dX10_lower_40 ml_10_244 (kX10_lightOf _ w16 r17 r20 er20) i68_42 (ce_42 _ _ _) (Nat.le_of_ble_eq_true rfl) (Nat.le_of_ble_eq_true rfl) (Nat.le_of_ble_eq_true rfl) ?_
      refine r_istore (pc := 43) (ls' := [(0, .ref ((zg Z).1 42)), (1, .int l6), (2, .int l7), (3, .int l8), (4, .int r20)]) F dX10_lower_43 (Nat.le_of_ble_eq_true rfl) rfl ?_
      refine r_aload_n (pc := 45) F dX10_lower_45 rfl ?_
      refine r_iconst (pc := 46) F dX10_lower_46 ic_1 ?_
      refine r_iconst (pc := 47) F dX10_lower_47 ic_0 ?_
      obtain ⟨w21, ew21, h1⟩ := bind_some h1
      refine r_Vv2 (pc := 48) F dX10_lower_48 ml_10_157 (kX10_passesAll _ w16 1 0 w21 ew21) i68_42 (ce_42 _ _ _) (Nat.le_of_ble_eq_true rfl) (Nat.le_of_ble_eq_true rfl) (Nat.le_of_ble_eq_true rfl) ?_
      refine r_iload (pc := 51) F dX10_lower_51 rfl ?_
      refine r_iload_n (pc := 53) F dX10_lower_53 rfl ?_
      refine r_icmp_gt (pc := 54) (tgt := 60) F dX10_lower_54 rfl h1 (fun h1 => ?_) (fun h1 => ?_)
      · refine r_iload (pc := 60) F dX10_lower_60 rfl ?_
        refine r_istore_n (pc := 62) (ls' := [(0, .ref ((zg Z).1 42)), (1, .int r20), (2, .int l7), (3, .int l8), (4, .int r20)]) F dX10_lower_62 (Nat.le_of_ble_eq_true rfl) rfl ?_
        refine r_iload_n (pc := 63) F dX10_lower_63 rfl ?_
        refine r_istore_n (pc := 64) (ls' := [(0, .ref ((zg Z).1 42)), (1, .int r20), (2, .int l8), (3, .int l8), (4, .int r20)]) F dX10_lower_64 (Nat.le_of_ble_eq_true rfl) rfl ?_
        obtain ⟨v23, ev23, h1⟩ := lt_some h1
        refine r_iinc (pc := 65) (ls' := [(0, .ref ((zg Z).1 42)), (1, .int r20), (2, .int l8), (3, .int v23), (4, .int r20)]) F dX10_lower_65 rfl (by rw [ev23]; rfl) (Nat.le_of_ble_eq_true rfl) rfl ?_
        refine r_goto (pc := 68) (tgt := 14) F dX10_lower_68 rfl ?_
        refine V_sub (ls' := [(0, .ref ((zg Z).1 42)), (1, .int r20), (2, .int l8), (3, .int v23)]) [0, 1, 2, 3] rfl ?_
        exact hP1 (r20, l8, v23, w21) (Option.some.inj h1).symm
      · refine r_goto (pc := 57) (tgt := 65) F dX10_lower_57 rfl ?_
        obtain ⟨v24, ev24, h1⟩ := lt_some h1
        refine r_iinc (pc := 65) (ls' := [(0, .ref ((zg Z).1 42)), (1, .int l6), (2, .int l7), (3, .int v24), (4, .int r20)]) F dX10_lower_65 rfl (by rw [ev24]; rfl) (Nat.le_of_ble_eq_true rfl) rfl ?_
        refine r_goto (pc := 68) (tgt := 14) F dX10_lower_68 rfl ?_
        refine V_sub (ls' := [(0, .ref ((zg Z).1 42)), (1, .int l6), (2, .int l7), (3, .int v24)]) [0, 1, 2, 3] rfl ?_
        exact hP1 (l6, l7, v24, w21) (Option.some.inj h1).symm
  refine r_iload_n (pc := 71) F dX10_lower_71 rfl ?_
  exact hR _ _ _ _ dX10_lower_72 rfl (Option.some.inj h0)
set_option maxRecDepth 100000 in
set_option maxHeartbeats 4000000 in
theorem kX10_exchanges (g : GT) (w : Wd) (a1 : Int32) (a2 : Int32) (out : Wd) (h0 : fX10_exchanges w a1 a2 = some out) : CtV g yX10_exchanges cX10_exchanges 6 none 0 0 [.ref (g.1 42), .int a1, .int a2] w (fun w1 => w1 = out) := by
  refine CtV_of (by decide) (Nat.le_of_ble_eq_true rfl) (fun Z hg F hR => ?_)
  subst hg
  have F : Fx Z RX10 cX10_exchanges 6 0 0 := F
  refine V_sub (ls' := [(0, .ref ((zg Z).1 42)), (1, .int a1), (2, .int a2)]) [0, 1, 2] rfl ?_
  unfold fX10_exchanges at h0
  refine r_aload_n (pc := 0) F dX10_exchanges_0 rfl ?_
  refine r_getf (pc := 1) F dX10_exchanges_1 fl_10_16 i68_42 (ce_42 _ _ _) rfl ?_
  refine r_iload_n (pc := 4) F dX10_exchanges_4 rfl ?_
  obtain ⟨g1, h0⟩ := gd_some h0
  refine r_iald (pc := 5) F dX10_exchanges_5 i68_45 (ca_45 _) g1 rfl ?_
  obtain ⟨v2, ev2, h0⟩ := lt_some h0
  refine V_nm ev2 ?_
  refine r_istore_n (pc := 6) (ls' := [(0, .ref ((zg Z).1 42)), (1, .int a1), (2, .int a2), (3, .int v2)]) F dX10_exchanges_6 (Nat.le_of_ble_eq_true rfl) rfl ?_
  refine r_aload_n (pc := 7) F dX10_exchanges_7 rfl ?_
  refine r_getf (pc := 8) F dX10_exchanges_8 fl_10_19 i68_42 (ce_42 _ _ _) rfl ?_
  refine r_iload_n (pc := 11) F dX10_exchanges_11 rfl ?_
  refine r_iald (pc := 12) F dX10_exchanges_12 i68_46 (ca_46 _) g1 rfl ?_
  obtain ⟨v3, ev3, h0⟩ := lt_some h0
  refine V_nm ev3 ?_
  refine r_istore (pc := 13) (ls' := [(0, .ref ((zg Z).1 42)), (1, .int a1), (2, .int a2), (3, .int v2), (4, .int v3)]) F dX10_exchanges_13 (Nat.le_of_ble_eq_true rfl) rfl ?_
  refine r_aload_n (pc := 15) F dX10_exchanges_15 rfl ?_
  refine r_getf (pc := 16) F dX10_exchanges_16 fl_10_124 i68_42 (ce_42 _ _ _) rfl ?_
  refine r_iload_n (pc := 19) F dX10_exchanges_19 rfl ?_
  refine r_ishr (pc := 20) F dX10_exchanges_20 ?_
  refine r_aload_n (pc := 21) F dX10_exchanges_21 rfl ?_
  refine r_getf (pc := 22) F dX10_exchanges_22 fl_10_124 i68_42 (ce_42 _ _ _) rfl ?_
  refine r_iload_n (pc := 25) F dX10_exchanges_25 rfl ?_
  refine r_ishr (pc := 26) F dX10_exchanges_26 ?_
  refine r_ixor (pc := 27) F dX10_exchanges_27 ?_
  refine r_iconst (pc := 28) F dX10_exchanges_28 ic_1 ?_
  refine r_iand (pc := 29) F dX10_exchanges_29 ?_
  obtain ⟨v4, ev4, h0⟩ := lt_some h0
  refine V_nm ev4 ?_
  refine r_istore (pc := 30) (ls' := [(0, .ref ((zg Z).1 42)), (1, .int a1), (2, .int a2), (3, .int v2), (4, .int v3), (5, .int v4)]) F dX10_exchanges_30 (Nat.le_of_ble_eq_true rfl) rfl ?_
  refine r_aload_n (pc := 32) F dX10_exchanges_32 rfl ?_
  refine r_getf (pc := 33) F dX10_exchanges_33 fl_10_16 i68_42 (ce_42 _ _ _) rfl ?_
  refine r_iload_n (pc := 36) F dX10_exchanges_36 rfl ?_
  refine r_aload_n (pc := 37) F dX10_exchanges_37 rfl ?_
  refine r_getf (pc := 38) F dX10_exchanges_38 fl_10_16 i68_42 (ce_42 _ _ _) rfl ?_
  refine r_iload_n (pc := 41) F dX10_exchanges_41 rfl ?_
  obtain ⟨g5, h0⟩ := gd_some h0
  refine r_iald (pc := 42) F dX10_exchanges_42 i68_45 (ca_45 _) g5 rfl ?_
  obtain ⟨w6, ew6, h0⟩ := lt_some h0
  refine r_iast (pc := 43) F dX10_exchanges_43 i68_45 (ca_45 _) g1 rfl ew6 ?_
  refine r_aload_n (pc := 44) F dX10_exchanges_44 rfl ?_
  refine r_getf (pc := 45) F dX10_exchanges_45 fl_10_19 i68_42 (ce_42 _ _ _) rfl ?_
  refine r_iload_n (pc := 48) F dX10_exchanges_48 rfl ?_
  refine r_aload_n (pc := 49) F dX10_exchanges_49 rfl ?_
  refine r_getf (pc := 50) F dX10_exchanges_50 fl_10_19 i68_42 (ce_42 _ _ _) rfl ?_
  refine r_iload_n (pc := 53) F dX10_exchanges_53 rfl ?_
  refine r_iald (pc := 54) F dX10_exchanges_54 i68_46 (ca_46 _) g5 rfl ?_
  obtain ⟨w8, ew8, h0⟩ := lt_some h0
  refine r_iast (pc := 55) F dX10_exchanges_55 i68_46 (ca_46 _) g1 rfl ew8 ?_
  refine r_aload_n (pc := 56) F dX10_exchanges_56 rfl ?_
  refine r_getf (pc := 57) F dX10_exchanges_57 fl_10_16 i68_42 (ce_42 _ _ _) rfl ?_
  refine r_iload_n (pc := 60) F dX10_exchanges_60 rfl ?_
  refine r_iload_n (pc := 61) F dX10_exchanges_61 rfl ?_
  obtain ⟨w10, ew10, h0⟩ := lt_some h0
  refine r_iast (pc := 62) F dX10_exchanges_62 i68_45 (ca_45 _) g5 rfl ew10 ?_
  refine r_aload_n (pc := 63) F dX10_exchanges_63 rfl ?_
  refine r_getf (pc := 64) F dX10_exchanges_64 fl_10_19 i68_42 (ce_42 _ _ _) rfl ?_
  refine r_iload_n (pc := 67) F dX10_exchanges_67 rfl ?_
  refine r_iload (pc := 68) F dX10_exchanges_68 rfl ?_
  obtain ⟨w12, ew12, h0⟩ := lt_some h0
  refine r_iast (pc := 70) F dX10_exchanges_70 i68_46 (ca_46 _) g5 rfl ew12 ?_
  refine r_aload_n (pc := 71) F dX10_exchanges_71 rfl ?_
  refine r_dup (pc := 72) F dX10_exchanges_72 rfl ?_
  refine r_getf (pc := 73) F dX10_exchanges_73 fl_10_124 i68_42 (ce_42 _ _ _) rfl ?_
  refine r_iload (pc := 76) F dX10_exchanges_76 rfl ?_
  refine r_iload_n (pc := 78) F dX10_exchanges_78 rfl ?_
  refine r_ishl (pc := 79) F dX10_exchanges_79 ?_
  refine r_iload (pc := 80) F dX10_exchanges_80 rfl ?_
  refine r_iload_n (pc := 82) F dX10_exchanges_82 rfl ?_
  refine r_ishl (pc := 83) F dX10_exchanges_83 ?_
  refine r_ior (pc := 84) F dX10_exchanges_84 ?_
  refine r_ixor (pc := 85) F dX10_exchanges_85 ?_
  obtain ⟨w14, ew14, h0⟩ := lt_some h0
  refine r_putI (pc := 86) F dX10_exchanges_86 fl_10_124 fp_10_7 i68_42 (ce_42 _) (Nat.le_of_ble_eq_true rfl) rfl rfl rfl ew14 ?_
  exact hR _ _ _ dX10_exchanges_89 (Option.some.inj h0)
set_option maxRecDepth 100000 in
set_option maxHeartbeats 4000000 in
theorem kX10_changed (g : GT) (w : Wd) (out : Int32 × Wd) (h0 : fX10_changed w = some out) : CtI g yX10_changed cX10_changed 6 (some .int) 9 196 [.ref (g.1 42)] w (fun r w1 => (r, w1) = out) := by
  refine CtI_of .int (by decide) (Nat.le_of_ble_eq_true rfl) (fun Z hg F hR => ?_)
  subst hg
  have F : Fx Z RX10 cX10_changed 6 9 196 := F
  refine V_sub (ls' := [(0, .ref ((zg Z).1 42))]) [0] rfl ?_
  unfold fX10_changed at h0
  refine r_aload_n (pc := 0) F dX10_changed_0 rfl ?_
  obtain ⟨q3, er2, h0⟩ := bind_some h0
  replace h0 := un2_eq h0
  obtain ⟨r2, w1, rfl, h0⟩ := h0
  refine r_Vj0 (pc := 1) F dX10_changed_1 ml_10_241 (kX10_atDoor _ w (r2, w1) er2) i68_42 (ce_42 _ _ _) (Nat.le_of_ble_eq_true rfl) (Nat.le_of_ble_eq_true rfl) (Nat.le_of_ble_eq_true rfl) ?_
  obtain ⟨r5, er5, h0⟩ := bind_some h0
  refine r_Si1 (pc := 4) F dX10_changed_4 ml_10_231 (kX10_bits _ w1 r2 r5 er5) (Nat.le_of_ble_eq_true rfl) (Nat.le_of_ble_eq_true rfl) (Nat.le_of_ble_eq_true rfl) ?_
  refine r_istore_n (pc := 7) (ls' := [(0, .ref ((zg Z).1 42)), (1, .int r5)]) F dX10_changed_7 (Nat.le_of_ble_eq_true rfl) rfl ?_
  refine r_bipush (pc := 8) F dX10_changed_8 bp_m9 ?_
  refine r_istore_n (pc := 10) (ls' := [(0, .ref ((zg Z).1 42)), (1, .int r5), (2, .int (-9))]) F dX10_changed_10 (Nat.le_of_ble_eq_true rfl) rfl ?_
  refine r_iconst (pc := 11) F dX10_changed_11 ic_0 ?_
  refine r_istore_n (pc := 12) (ls' := [(0, .ref ((zg Z).1 42)), (1, .int r5), (2, .int (-9)), (3, .int 0)]) F dX10_changed_12 (Nat.le_of_ble_eq_true rfl) rfl ?_
  obtain ⟨x40, ix40, h0⟩ := bind_some h0
  replace h0 := un2_eq h0
  obtain ⟨l41, w42, rfl, h0⟩ := h0
  suffices E13 : V Z 95 [(2, .int l41)] [] w42 by
    refine iter_rule (P := fun s : Int32 × Int32 × Int32 × Wd => V Z 13 [(0, .ref ((zg Z).1 42)), (1, .int (s.1)), (2, .int (s.2.1)), (3, .int (s.2.2.1))] [] s.2.2.2) (x := (l41, w42)) ?_ FU (r5, (-9), 0, w1) ix40
    intro s y1 h1 hP1 hX1
    obtain ⟨l6, l7, l8, w9⟩ := s
    have h1 : fX10_changed_b13 l6 l7 l8 w9 = some y1 := h1
    unfold fX10_changed_b13 at h1
    refine r_iload_n (pc := 13) F dX10_changed_13 rfl ?_
    refine r_aload_n (pc := 14) F dX10_changed_14 rfl ?_
    refine r_getf (pc := 15) F dX10_changed_15 fl_10_88 i68_42 (ce_42 _ _ _) rfl ?_
    refine r_icmp_ge (pc := 18) (tgt := 95) F dX10_changed_18 rfl h1 (fun h1 => ?_) (fun h1 => ?_)
    · refine V_sub (ls' := [(2, .int l7)]) [2] rfl ?_
      have e10 := hX1 _ (Option.some.inj h1).symm
      cases e10
      exact E13
    · refine r_iload_n (pc := 21) F dX10_changed_21 rfl ?_
      refine r_iconst (pc := 22) F dX10_changed_22 ic_1 ?_
      refine r_iadd (pc := 23) F dX10_changed_23 ?_
      obtain ⟨v11, ev11, h1⟩ := lt_some h1
      refine V_nm ev11 ?_
      refine r_istore (pc := 24) (ls' := [(0, .ref ((zg Z).1 42)), (1, .int l6), (2, .int l7), (3, .int l8), (4, .int v11)]) F dX10_changed_24 (Nat.le_of_ble_eq_true rfl) rfl ?_
      obtain ⟨x33, ix33, h1⟩ := bind_some h1
      replace h1 := un3_eq h1
      obtain ⟨l34, l35, w36, rfl, h1⟩ := h1
      suffices E26 : V Z 89 [(0, .ref ((zg Z).1 42)), (1, .int l34), (2, .int l35), (3, .int l8)] [] w36 by
        refine iter_rule (P := fun s : Int32 × Int32 × Int32 × Wd => V Z 26 [(0, .ref ((zg Z).1 42)), (1, .int (s.1)), (2, .int (s.2.1)), (3, .int l8), (4, .int (s.2.2.1))] [] s.2.2.2) (x := (l34, l35, w36)) ?_ FU (l6, l7, v11, w9) ix33
        intro s y2 h2 hP2 hX2
        obtain ⟨l12, l13, l14, w15⟩ := s
        have h2 : fX10_changed_b26 l8 l12 l13 l14 w15 = some y2 := h2
        unfold fX10_changed_b26 at h2
        refine r_iload (pc := 26) F dX10_changed_26 rfl ?_
        refine r_aload_n (pc := 28) F dX10_changed_28 rfl ?_
        refine r_getf (pc := 29) F dX10_changed_29 fl_10_88 i68_42 (ce_42 _ _ _) rfl ?_
        refine r_icmp_ge (pc := 32) (tgt := 89) F dX10_changed_32 rfl h2 (fun h2 => ?_) (fun h2 => ?_)
        · refine V_sub (ls' := [(0, .ref ((zg Z).1 42)), (1, .int l12), (2, .int l13), (3, .int l8)]) [0, 1, 2, 3] rfl ?_
          have e16 := hX2 _ (Option.some.inj h2).symm
          cases e16
          exact E26
        · refine r_aload_n (pc := 35) F dX10_changed_35 rfl ?_
          refine r_iconst (pc := 36) F dX10_changed_36 ic_1 ?_
          refine r_iconst (pc := 37) F dX10_changed_37 ic_1 ?_
          obtain ⟨w17, ew17, h2⟩ := bind_some h2
          refine r_Vv2 (pc := 38) F dX10_changed_38 ml_10_157 (kX10_passesAll _ w15 1 1 w17 ew17) i68_42 (ce_42 _ _ _) (Nat.le_of_ble_eq_true rfl) (Nat.le_of_ble_eq_true rfl) (Nat.le_of_ble_eq_true rfl) ?_
          refine r_aload_n (pc := 41) F dX10_changed_41 rfl ?_
          refine r_iload_n (pc := 42) F dX10_changed_42 rfl ?_
          refine r_iload (pc := 43) F dX10_changed_43 rfl ?_
          obtain ⟨w19, ew19, h2⟩ := bind_some h2
          refine r_Vv2 (pc := 45) F dX10_changed_45 ml_10_253 (kX10_exchanges _ w17 l8 l14 w19 ew19) i68_42 (ce_42 _ _ _) (Nat.le_of_ble_eq_true rfl) (Nat.le_of_ble_eq_true rfl) (Nat.le_of_ble_eq_true rfl) ?_
          refine r_aload_n (pc := 48) F dX10_changed_48 rfl ?_
          obtain ⟨q23, er22, h2⟩ := bind_some h2
          replace h2 := un2_eq h2
          obtain ⟨r22, w21, rfl, h2⟩ := h2
          refine r_Vj0 (pc := 49) F dX10_changed_49 ml_10_241 (kX10_atDoor _ w19 (r22, w21) er22) i68_42 (ce_42 _ _ _) (Nat.le_of_ble_eq_true rfl) (Nat.le_of_ble_eq_true rfl) (Nat.le_of_ble_eq_true rfl) ?_
          obtain ⟨r25, er25, h2⟩ := bind_some h2
          refine r_Si1 (pc := 52) F dX10_changed_52 ml_10_231 (kX10_bits _ w21 r22 r25 er25) (Nat.le_of_ble_eq_true rfl) (Nat.le_of_ble_eq_true rfl) (Nat.le_of_ble_eq_true rfl) ?_
          refine r_istore (pc := 55) (ls' := [(0, .ref ((zg Z).1 42)), (1, .int l12), (2, .int l13), (3, .int l8), (4, .int l14), (5, .int r25)]) F dX10_changed_55 (Nat.le_of_ble_eq_true rfl) rfl ?_
          refine r_aload_n (pc := 57) F dX10_changed_57 rfl ?_
          refine r_iconst (pc := 58) F dX10_changed_58 ic_1 ?_
          refine r_iconst (pc := 59) F dX10_changed_59 ic_0 ?_
          obtain ⟨w26, ew26, h2⟩ := bind_some h2
          refine r_Vv2 (pc := 60) F dX10_changed_60 ml_10_157 (kX10_passesAll _ w21 1 0 w26 ew26) i68_42 (ce_42 _ _ _) (Nat.le_of_ble_eq_true rfl) (Nat.le_of_ble_eq_true rfl) (Nat.le_of_ble_eq_true rfl) ?_
          refine r_iload (pc := 63) F dX10_changed_63 rfl ?_
          refine r_iload_n (pc := 65) F dX10_changed_65 rfl ?_
          refine r_icmp_gt (pc := 66) (tgt := 72) F dX10_changed_66 rfl h2 (fun h2 => ?_) (fun h2 => ?_)
          · refine r_iload (pc := 72) F dX10_changed_72 rfl ?_
            refine r_istore_n (pc := 74) (ls' := [(0, .ref ((zg Z).1 42)), (1, .int r25), (2, .int l13), (3, .int l8), (4, .int l14), (5, .int r25)]) F dX10_changed_74 (Nat.le_of_ble_eq_true rfl) rfl ?_
            refine r_bipush (pc := 75) F dX10_changed_75 bp_10 ?_
            refine r_iload_n (pc := 77) F dX10_changed_77 rfl ?_
            refine r_imul (pc := 78) F dX10_changed_78 ?_
            refine r_iload (pc := 79) F dX10_changed_79 rfl ?_
            refine r_iadd (pc := 81) F dX10_changed_81 ?_
            obtain ⟨v28, ev28, h2⟩ := lt_some h2
            refine V_nm ev28 ?_
            refine r_istore_n (pc := 82) (ls' := [(0, .ref ((zg Z).1 42)), (1, .int r25), (2, .int v28), (3, .int l8), (4, .int l14), (5, .int r25)]) F dX10_changed_82 (Nat.le_of_ble_eq_true rfl) rfl ?_
            obtain ⟨v29, ev29, h2⟩ := lt_some h2
            refine r_iinc (pc := 83) (ls' := [(0, .ref ((zg Z).1 42)), (1, .int r25), (2, .int v28), (3, .int l8), (4, .int v29), (5, .int r25)]) F dX10_changed_83 rfl (by rw [ev29]; rfl) (Nat.le_of_ble_eq_true rfl) rfl ?_
            refine r_goto (pc := 86) (tgt := 26) F dX10_changed_86 rfl ?_
            refine V_sub (ls' := [(0, .ref ((zg Z).1 42)), (1, .int r25), (2, .int v28), (3, .int l8), (4, .int v29)]) [0, 1, 2, 3, 4] rfl ?_
            exact hP2 (r25, v28, v29, w26) (Option.some.inj h2).symm
          · refine r_goto (pc := 69) (tgt := 83) F dX10_changed_69 rfl ?_
            obtain ⟨v30, ev30, h2⟩ := lt_some h2
            refine r_iinc (pc := 83) (ls' := [(0, .ref ((zg Z).1 42)), (1, .int l12), (2, .int l13), (3, .int l8), (4, .int v30), (5, .int r25)]) F dX10_changed_83 rfl (by rw [ev30]; rfl) (Nat.le_of_ble_eq_true rfl) rfl ?_
            refine r_goto (pc := 86) (tgt := 26) F dX10_changed_86 rfl ?_
            refine V_sub (ls' := [(0, .ref ((zg Z).1 42)), (1, .int l12), (2, .int l13), (3, .int l8), (4, .int v30)]) [0, 1, 2, 3, 4] rfl ?_
            exact hP2 (l12, l13, v30, w26) (Option.some.inj h2).symm
      obtain ⟨v38, ev38, h1⟩ := lt_some h1
      refine r_iinc (pc := 89) (ls' := [(0, .ref ((zg Z).1 42)), (1, .int l34), (2, .int l35), (3, .int v38)]) F dX10_changed_89 rfl (by rw [ev38]; rfl) (Nat.le_of_ble_eq_true rfl) rfl ?_
      refine r_goto (pc := 92) (tgt := 13) F dX10_changed_92 rfl ?_
      exact hP1 (l34, l35, v38, w36) (Option.some.inj h1).symm
  refine r_iload_n (pc := 95) F dX10_changed_95 rfl ?_
  exact hR _ _ _ _ dX10_changed_96 rfl (Option.some.inj h0)
set_option maxRecDepth 100000 in
set_option maxHeartbeats 4000000 in
theorem kX10_tellsOrder (g : GT) (w : Wd) (a1 : Int32) (out : Int32 × Wd) (h0 : fX10_tellsOrder w a1 = some out) : CtI g yX10_tellsOrder cX10_tellsOrder 5 (some .boolean) 1 22 [.ref (g.1 42), .int a1] w (fun r w1 => (r, w1) = out) := by
  refine CtI_of .boolean (by decide) (Nat.le_of_ble_eq_true rfl) (fun Z hg F hR => ?_)
  subst hg
  have F : Fx Z RX10 cX10_tellsOrder 5 1 22 := F
  refine V_sub (ls' := [(0, .ref ((zg Z).1 42)), (1, .int a1)]) [0, 1] rfl ?_
  unfold fX10_tellsOrder at h0
  refine r_iload_n (pc := 0) F dX10_tellsOrder_0 rfl ?_
  refine r_istore_n (pc := 1) (ls' := [(0, .ref ((zg Z).1 42)), (1, .int a1), (2, .int a1)]) F dX10_tellsOrder_1 (Nat.le_of_ble_eq_true rfl) rfl ?_
  refine r_iconst (pc := 2) F dX10_tellsOrder_2 ic_0 ?_
  refine r_istore_n (pc := 3) (ls' := [(0, .ref ((zg Z).1 42)), (1, .int a1), (2, .int a1), (3, .int 0)]) F dX10_tellsOrder_3 (Nat.le_of_ble_eq_true rfl) rfl ?_
  refine r_aload_n (pc := 4) F dX10_tellsOrder_4 rfl ?_
  refine r_getf (pc := 5) F dX10_tellsOrder_5 fl_10_88 i68_42 (ce_42 _ _ _) rfl ?_
  refine r_iconst (pc := 8) F dX10_tellsOrder_8 ic_1 ?_
  refine r_isub (pc := 9) F dX10_tellsOrder_9 ?_
  obtain ⟨v1, ev1, h0⟩ := lt_some h0
  refine V_nm ev1 ?_
  refine r_istore (pc := 10) (ls' := [(0, .ref ((zg Z).1 42)), (1, .int a1), (2, .int a1), (3, .int 0), (4, .int v1)]) F dX10_tellsOrder_10 (Nat.le_of_ble_eq_true rfl) rfl ?_
  refine V_sub (ls' := [(0, .ref ((zg Z).1 42)), (2, .int a1), (3, .int 0), (4, .int v1)]) [0, 2, 3, 4] rfl ?_
  obtain ⟨x16, ix16, h0⟩ := bind_some h0
  replace h0 := un2_eq h0
  obtain ⟨l17, w18, rfl, h0⟩ := h0
  suffices E12 : V Z 55 [(0, .ref ((zg Z).1 42)), (3, .int l17)] [] w18 by
    refine iter_rule (P := fun s : Int32 × Int32 × Int32 × Wd => V Z 12 [(0, .ref ((zg Z).1 42)), (2, .int (s.1)), (3, .int (s.2.1)), (4, .int (s.2.2.1))] [] s.2.2.2) (x := (l17, w18)) ?_ FU (a1, 0, v1, w) ix16
    intro s y1 h1 hP1 hX1
    obtain ⟨l2, l3, l4, w5⟩ := s
    have h1 : fX10_tellsOrder_b12 l2 l3 l4 w5 = some y1 := h1
    unfold fX10_tellsOrder_b12 at h1
    refine r_iload (pc := 12) F dX10_tellsOrder_12 rfl ?_
    refine r_if_lt (pc := 14) (tgt := 55) F dX10_tellsOrder_14 rfl h1 (fun h1 => ?_) (fun h1 => ?_)
    · refine V_sub (ls' := [(0, .ref ((zg Z).1 42)), (3, .int l3)]) [0, 2] rfl ?_
      have e6 := hX1 _ (Option.some.inj h1).symm
      cases e6
      exact E12
    · refine r_aload_n (pc := 17) F dX10_tellsOrder_17 rfl ?_
      refine r_getf (pc := 18) F dX10_tellsOrder_18 fl_10_58 i68_42 (ce_42 _ _ _) rfl ?_
      refine r_iload (pc := 21) F dX10_tellsOrder_21 rfl ?_
      refine r_iload_n (pc := 23) F dX10_tellsOrder_23 rfl ?_
      refine r_aload_n (pc := 24) F dX10_tellsOrder_24 rfl ?_
      refine r_getf (pc := 25) F dX10_tellsOrder_25 fl_10_88 i68_42 (ce_42 _ _ _) rfl ?_
      obtain ⟨g7, h1⟩ := gd_some h1
      refine r_irem (pc := 28) F dX10_tellsOrder_28 (by simpa using g7) ?_
      obtain ⟨g9, h1⟩ := gd_some h1
      obtain ⟨w8, ew8, h1⟩ := lt_some h1
      refine r_iast (pc := 29) F dX10_tellsOrder_29 i68_59 (ca_59 _) g9 rfl ew8 ?_
      refine r_iload_n (pc := 30) F dX10_tellsOrder_30 rfl ?_
      refine r_aload_n (pc := 31) F dX10_tellsOrder_31 rfl ?_
      refine r_getf (pc := 32) F dX10_tellsOrder_32 fl_10_88 i68_42 (ce_42 _ _ _) rfl ?_
      obtain ⟨g11, h1⟩ := gd_some h1
      refine r_idiv (pc := 35) F dX10_tellsOrder_35 (by simpa using g11) ?_
      obtain ⟨v12, ev12, h1⟩ := lt_some h1
      refine V_nm ev12 ?_
      refine r_istore_n (pc := 36) (ls' := [(0, .ref ((zg Z).1 42)), (2, .int v12), (3, .int l3), (4, .int l4)]) F dX10_tellsOrder_36 (Nat.le_of_ble_eq_true rfl) rfl ?_
      refine r_iload_n (pc := 37) F dX10_tellsOrder_37 rfl ?_
      refine r_iconst (pc := 38) F dX10_tellsOrder_38 ic_1 ?_
      refine r_aload_n (pc := 39) F dX10_tellsOrder_39 rfl ?_
      refine r_getf (pc := 40) F dX10_tellsOrder_40 fl_10_58 i68_42 (ce_42 _ _ _) rfl ?_
      refine r_iload (pc := 43) F dX10_tellsOrder_43 rfl ?_
      refine r_iald (pc := 45) F dX10_tellsOrder_45 i68_59 (ca_59 _) g9 rfl ?_
      refine r_ishl (pc := 46) F dX10_tellsOrder_46 ?_
      refine r_ior (pc := 47) F dX10_tellsOrder_47 ?_
      obtain ⟨v13, ev13, h1⟩ := lt_some h1
      refine V_nm ev13 ?_
      refine r_istore_n (pc := 48) (ls' := [(0, .ref ((zg Z).1 42)), (2, .int v12), (3, .int v13), (4, .int l4)]) F dX10_tellsOrder_48 (Nat.le_of_ble_eq_true rfl) rfl ?_
      obtain ⟨v14, ev14, h1⟩ := lt_some h1
      refine r_iinc (pc := 49) (ls' := [(0, .ref ((zg Z).1 42)), (2, .int v12), (3, .int v13), (4, .int v14)]) F dX10_tellsOrder_49 rfl (by rw [ev14]; rfl) (Nat.le_of_ble_eq_true rfl) rfl ?_
      refine r_goto (pc := 52) (tgt := 12) F dX10_tellsOrder_52 rfl ?_
      exact hP1 (v12, v13, v14, w8) (Option.some.inj h1).symm
  refine r_iload_n (pc := 55) F dX10_tellsOrder_55 rfl ?_
  obtain ⟨r20, er20, h0⟩ := bind_some h0
  refine r_Si1 (pc := 56) F dX10_tellsOrder_56 ml_10_231 (kX10_bits _ w18 l17 r20 er20) (Nat.le_of_ble_eq_true rfl) (Nat.le_of_ble_eq_true rfl) (Nat.le_of_ble_eq_true rfl) ?_
  refine r_aload_n (pc := 59) F dX10_tellsOrder_59 rfl ?_
  refine r_getf (pc := 60) F dX10_tellsOrder_60 fl_10_88 i68_42 (ce_42 _ _ _) rfl ?_
  refine r_icmp_ne (pc := 63) (tgt := 70) F dX10_tellsOrder_63 rfl h0 (fun h0 => ?_) (fun h0 => ?_)
  · refine r_iconst (pc := 66) F dX10_tellsOrder_66 ic_1 ?_
    refine r_goto (pc := 67) (tgt := 71) F dX10_tellsOrder_67 rfl ?_
    exact hR _ _ _ _ dX10_tellsOrder_71 rfl (Option.some.inj h0)
  · refine r_iconst (pc := 70) F dX10_tellsOrder_70 ic_0 ?_
    exact hR _ _ _ _ dX10_tellsOrder_71 rfl (Option.some.inj h0)
set_option maxRecDepth 100000 in
set_option maxHeartbeats 4000000 in
theorem kX10_doorBy (g : GT) (w : Wd) (a1 : Int32) (out : Int32 × Wd) (h0 : fX10_doorBy w a1 = some out) : CtI g yX10_doorBy cX10_doorBy 3 (some .int) 9 196 [.ref (g.1 42), .int a1] w (fun r w1 => (r, w1) = out) := by
  refine CtI_of .int (by decide) (Nat.le_of_ble_eq_true rfl) (fun Z hg F hR => ?_)
  subst hg
  have F : Fx Z RX10 cX10_doorBy 3 9 196 := F
  refine V_sub (ls' := [(0, .ref ((zg Z).1 42)), (1, .int a1)]) [0, 1] rfl ?_
  unfold fX10_doorBy at h0
  refine r_iconst (pc := 0) F dX10_doorBy_0 ic_0 ?_
  refine r_istore_n (pc := 1) (ls' := [(0, .ref ((zg Z).1 42)), (1, .int a1), (2, .int 0)]) F dX10_doorBy_1 (Nat.le_of_ble_eq_true rfl) rfl ?_
  obtain ⟨w17, iw17, h0⟩ := bind_some h0
  suffices E2 : V Z 77 [(0, .ref ((zg Z).1 42))] [] w17 by
    refine iter_rule (P := fun s : Int32 × Wd => V Z 2 [(0, .ref ((zg Z).1 42)), (1, .int a1), (2, .int (s.1))] [] s.2) (x := w17) ?_ FU (0, w) iw17
    intro s y1 h1 hP1 hX1
    obtain ⟨l1, w2⟩ := s
    have h1 : fX10_doorBy_b2 a1 l1 w2 = some y1 := h1
    unfold fX10_doorBy_b2 at h1
    refine r_iload_n (pc := 2) F dX10_doorBy_2 rfl ?_
    refine r_aload_n (pc := 3) F dX10_doorBy_3 rfl ?_
    refine r_getf (pc := 4) F dX10_doorBy_4 fl_10_88 i68_42 (ce_42 _ _ _) rfl ?_
    refine r_icmp_ge (pc := 7) (tgt := 77) F dX10_doorBy_7 rfl h1 (fun h1 => ?_) (fun h1 => ?_)
    · refine V_sub (ls' := [(0, .ref ((zg Z).1 42))]) [0] rfl ?_
      have e3 := hX1 _ (Option.some.inj h1).symm
      cases e3
      exact E2
    · refine r_aload_n (pc := 10) F dX10_doorBy_10 rfl ?_
      refine r_getf (pc := 11) F dX10_doorBy_11 fl_10_16 i68_42 (ce_42 _ _ _) rfl ?_
      refine r_iload_n (pc := 14) F dX10_doorBy_14 rfl ?_
      refine r_aload_n (pc := 15) F dX10_doorBy_15 rfl ?_
      refine r_getf (pc := 16) F dX10_doorBy_16 fl_10_64 i68_42 (ce_42 _ _ _) rfl ?_
      refine r_aload_n (pc := 19) F dX10_doorBy_19 rfl ?_
      refine r_getf (pc := 20) F dX10_doorBy_20 fl_10_58 i68_42 (ce_42 _ _ _) rfl ?_
      refine r_iload_n (pc := 23) F dX10_doorBy_23 rfl ?_
      obtain ⟨g4, h1⟩ := gd_some h1
      refine r_iald (pc := 24) F dX10_doorBy_24 i68_59 (ca_59 _) g4 rfl ?_
      obtain ⟨g5, h1⟩ := gd_some h1
      refine r_iald (pc := 25) F dX10_doorBy_25 i68_61 (ca_61 _) g5 rfl ?_
      obtain ⟨g7, h1⟩ := gd_some h1
      obtain ⟨w6, ew6, h1⟩ := lt_some h1
      refine r_iast (pc := 26) F dX10_doorBy_26 i68_45 (ca_45 _) g7 rfl ew6 ?_
      refine r_aload_n (pc := 27) F dX10_doorBy_27 rfl ?_
      refine r_getf (pc := 28) F dX10_doorBy_28 fl_10_19 i68_42 (ce_42 _ _ _) rfl ?_
      refine r_iload_n (pc := 31) F dX10_doorBy_31 rfl ?_
      refine r_aload_n (pc := 32) F dX10_doorBy_32 rfl ?_
      refine r_getf (pc := 33) F dX10_doorBy_33 fl_10_67 i68_42 (ce_42 _ _ _) rfl ?_
      refine r_aload_n (pc := 36) F dX10_doorBy_36 rfl ?_
      refine r_getf (pc := 37) F dX10_doorBy_37 fl_10_58 i68_42 (ce_42 _ _ _) rfl ?_
      refine r_iload_n (pc := 40) F dX10_doorBy_40 rfl ?_
      refine r_iald (pc := 41) F dX10_doorBy_41 i68_59 (ca_59 _) g4 rfl ?_
      obtain ⟨g9, h1⟩ := gd_some h1
      refine r_iald (pc := 42) F dX10_doorBy_42 i68_62 (ca_62 _) g9 rfl ?_
      obtain ⟨w10, ew10, h1⟩ := lt_some h1
      refine r_iast (pc := 43) F dX10_doorBy_43 i68_46 (ca_46 _) g7 rfl ew10 ?_
      refine r_aload_n (pc := 44) F dX10_doorBy_44 rfl ?_
      refine r_aload_n (pc := 45) F dX10_doorBy_45 rfl ?_
      refine r_getf (pc := 46) F dX10_doorBy_46 fl_10_124 i68_42 (ce_42 _ _ _) rfl ?_
      refine r_iconst (pc := 49) F dX10_doorBy_49 ic_1 ?_
      refine r_iload_n (pc := 50) F dX10_doorBy_50 rfl ?_
      refine r_ishl (pc := 51) F dX10_doorBy_51 ?_
      refine r_iconst (pc := 52) F dX10_doorBy_52 ic_m1 ?_
      refine r_ixor (pc := 53) F dX10_doorBy_53 ?_
      refine r_iand (pc := 54) F dX10_doorBy_54 ?_
      refine r_iload_n (pc := 55) F dX10_doorBy_55 rfl ?_
      refine r_aload_n (pc := 56) F dX10_doorBy_56 rfl ?_
      refine r_getf (pc := 57) F dX10_doorBy_57 fl_10_58 i68_42 (ce_42 _ _ _) rfl ?_
      refine r_iload_n (pc := 60) F dX10_doorBy_60 rfl ?_
      refine r_iald (pc := 61) F dX10_doorBy_61 i68_59 (ca_59 _) g4 rfl ?_
      refine r_ishr (pc := 62) F dX10_doorBy_62 ?_
      refine r_iconst (pc := 63) F dX10_doorBy_63 ic_1 ?_
      refine r_iand (pc := 64) F dX10_doorBy_64 ?_
      refine r_iload_n (pc := 65) F dX10_doorBy_65 rfl ?_
      refine r_ishl (pc := 66) F dX10_doorBy_66 ?_
      refine r_ior (pc := 67) F dX10_doorBy_67 ?_
      obtain ⟨w12, ew12, h1⟩ := lt_some h1
      refine r_putI (pc := 68) F dX10_doorBy_68 fl_10_124 fp_10_7 i68_42 (ce_42 _) (Nat.le_of_ble_eq_true rfl) rfl rfl rfl ew12 ?_
      obtain ⟨v14, ev14, h1⟩ := lt_some h1
      refine r_iinc (pc := 71) (ls' := [(0, .ref ((zg Z).1 42)), (1, .int a1), (2, .int v14)]) F dX10_doorBy_71 rfl (by rw [ev14]; rfl) (Nat.le_of_ble_eq_true rfl) rfl ?_
      refine r_goto (pc := 74) (tgt := 2) F dX10_doorBy_74 rfl ?_
      exact hP1 (v14, w12) (Option.some.inj h1).symm
  refine r_aload_n (pc := 77) F dX10_doorBy_77 rfl ?_
  obtain ⟨q21, er20, h0⟩ := bind_some h0
  replace h0 := un2_eq h0
  obtain ⟨r20, w19, rfl, h0⟩ := h0
  refine r_Vj0 (pc := 78) F dX10_doorBy_78 ml_10_241 (kX10_atDoor _ w17 (r20, w19) er20) i68_42 (ce_42 _ _ _) (Nat.le_of_ble_eq_true rfl) (Nat.le_of_ble_eq_true rfl) (Nat.le_of_ble_eq_true rfl) ?_
  obtain ⟨r23, er23, h0⟩ := bind_some h0
  refine r_Si1 (pc := 81) F dX10_doorBy_81 ml_10_231 (kX10_bits _ w19 r20 r23 er23) (Nat.le_of_ble_eq_true rfl) (Nat.le_of_ble_eq_true rfl) (Nat.le_of_ble_eq_true rfl) ?_
  exact hR _ _ _ _ dX10_doorBy_84 rfl (Option.some.inj h0)
set_option maxRecDepth 100000 in
set_option maxHeartbeats 4000000 in
theorem kX10_order (g : GT) (w : Wd) (a1 : Int32) (out : Int32 × Wd) (h0 : fX10_order w a1 = some out) : CtI g yX10_order cX10_order 9 (some .int) 10 218 [.ref (g.1 42), .int a1] w (fun r w1 => (r, w1) = out) := by
  refine CtI_of .int (by decide) (Nat.le_of_ble_eq_true rfl) (fun Z hg F hR => ?_)
  subst hg
  have F : Fx Z RX10 cX10_order 9 10 218 := F
  refine V_sub (ls' := [(0, .ref ((zg Z).1 42)), (1, .int a1)]) [0, 1] rfl ?_
  unfold fX10_order at h0
  refine r_iload_n (pc := 0) F dX10_order_0 rfl ?_
  refine r_iconst (pc := 1) F dX10_order_1 ic_0 ?_
  refine r_iconst (pc := 2) F dX10_order_2 ic_1 ?_
  refine r_Si3 (pc := 3) F dX10_order_3 ml_10_110 (kX10_isIn _ w a1 0 1 _ rfl) (Nat.le_of_ble_eq_true rfl) (Nat.le_of_ble_eq_true rfl) (Nat.le_of_ble_eq_true rfl) ?_
  obtain ⟨v1, hv1, h0⟩ := lt_some h0
  have hv1 := hv1.symm
  suffices Jv1 : V Z 33 [(0, .ref ((zg Z).1 42)), (1, .int a1)] [.int v1] w by
    refine r_if_ne (pc := 6) (tgt := 14) F dX10_order_6 rfl hv1 (fun hv1 => ?_) (fun hv1 => ?_)
    · refine r_bipush (pc := 9) F dX10_order_9 bp_m2 ?_
      refine r_goto (pc := 11) (tgt := 33) F dX10_order_11 rfl ?_
      exact V_nm hv1.symm Jv1
    · refine r_aload_n (pc := 14) F dX10_order_14 rfl ?_
      refine r_getf (pc := 15) F dX10_order_15 fl_10_88 i68_42 (ce_42 _ _ _) rfl ?_
      refine r_iconst (pc := 18) F dX10_order_18 ic_1 ?_
      refine r_bipush (pc := 19) F dX10_order_19 bp_6 ?_
      refine r_Si3 (pc := 21) F dX10_order_21 ml_10_110 (kX10_isIn _ w (w.1 42 6) 1 6 _ rfl) (Nat.le_of_ble_eq_true rfl) (Nat.le_of_ble_eq_true rfl) (Nat.le_of_ble_eq_true rfl) ?_
      refine r_if_ne (pc := 24) (tgt := 32) F dX10_order_24 rfl hv1 (fun hv1 => ?_) (fun hv1 => ?_)
      · refine r_bipush (pc := 27) F dX10_order_27 bp_m3 ?_
        refine r_goto (pc := 29) (tgt := 33) F dX10_order_29 rfl ?_
        exact V_nm hv1.symm Jv1
      · refine r_iconst (pc := 32) F dX10_order_32 ic_0 ?_
        exact V_nm hv1.symm Jv1
  refine r_istore_n (pc := 33) (ls' := [(0, .ref ((zg Z).1 42)), (1, .int a1), (2, .int v1)]) F dX10_order_33 (Nat.le_of_ble_eq_true rfl) rfl ?_
  refine r_iload_n (pc := 34) F dX10_order_34 rfl ?_
  refine r_if_eq (pc := 35) (tgt := 44) F dX10_order_35 rfl h0 (fun h0 => ?_) (fun h0 => ?_)
  · refine r_aload_n (pc := 44) F dX10_order_44 rfl ?_
    refine r_iconst (pc := 45) F dX10_order_45 ic_1 ?_
    refine r_iconst (pc := 46) F dX10_order_46 ic_1 ?_
    obtain ⟨w3, ew3, h0⟩ := bind_some h0
    refine r_Vv2 (pc := 47) F dX10_order_47 ml_10_157 (kX10_passesAll _ w 1 1 w3 ew3) i68_42 (ce_42 _ _ _) (Nat.le_of_ble_eq_true rfl) (Nat.le_of_ble_eq_true rfl) (Nat.le_of_ble_eq_true rfl) ?_
    refine r_aload_n (pc := 50) F dX10_order_50 rfl ?_
    refine r_getf (pc := 51) F dX10_order_51 fl_10_124 i68_42 (ce_42 _ _ _) rfl ?_
    obtain ⟨v5, ev5, h0⟩ := lt_some h0
    refine V_nm ev5 ?_
    refine r_istore_n (pc := 54) (ls' := [(0, .ref ((zg Z).1 42)), (1, .int a1), (2, .int v1), (3, .int v5)]) F dX10_order_54 (Nat.le_of_ble_eq_true rfl) rfl ?_
    refine r_iconst (pc := 55) F dX10_order_55 ic_1 ?_
    refine r_istore (pc := 56) (ls' := [(0, .ref ((zg Z).1 42)), (1, .int a1), (2, .int v1), (3, .int v5), (4, .int 1)]) F dX10_order_56 (Nat.le_of_ble_eq_true rfl) rfl ?_
    refine r_bipush (pc := 58) F dX10_order_58 bp_m9 ?_
    refine r_istore (pc := 60) (ls' := [(0, .ref ((zg Z).1 42)), (1, .int a1), (2, .int v1), (3, .int v5), (4, .int 1), (5, .int (-9))]) F dX10_order_60 (Nat.le_of_ble_eq_true rfl) rfl ?_
    refine r_iconst (pc := 62) F dX10_order_62 ic_0 ?_
    refine r_istore (pc := 63) (ls' := [(0, .ref ((zg Z).1 42)), (1, .int a1), (2, .int v1), (3, .int v5), (4, .int 1), (5, .int (-9)), (6, .int 0)]) F dX10_order_63 (Nat.le_of_ble_eq_true rfl) rfl ?_
    refine V_sub (ls' := [(0, .ref ((zg Z).1 42)), (1, .int a1), (3, .int v5), (4, .int 1), (5, .int (-9)), (6, .int 0)]) [0, 1, 3, 4, 5, 6] rfl ?_
    obtain ⟨x18, ix18, h0⟩ := bind_some h0
    replace h0 := un2_eq h0
    obtain ⟨l19, w20, rfl, h0⟩ := h0
    suffices E65 : V Z 117 [(0, .ref ((zg Z).1 42)), (1, .int a1), (3, .int v5), (4, .int l19), (5, .int (-9))] [] w20 by
      refine iter_rule (P := fun s : Int32 × Int32 × Wd => V Z 65 [(0, .ref ((zg Z).1 42)), (1, .int a1), (3, .int v5), (4, .int (s.1)), (5, .int (-9)), (6, .int (s.2.1))] [] s.2.2) (x := (l19, w20)) ?_ FU (1, 0, w3) ix18
      intro s y1 h1 hP1 hX1
      obtain ⟨l6, l7, w8⟩ := s
      have h1 : fX10_order_b65 l6 l7 w8 = some y1 := h1
      unfold fX10_order_b65 at h1
      refine r_iload (pc := 65) F dX10_order_65 rfl ?_
      refine r_aload_n (pc := 67) F dX10_order_67 rfl ?_
      refine r_getf (pc := 68) F dX10_order_68 fl_10_88 i68_42 (ce_42 _ _ _) rfl ?_
      refine r_icmp_ge (pc := 71) (tgt := 117) F dX10_order_71 rfl h1 (fun h1 => ?_) (fun h1 => ?_)
      · refine V_sub (ls' := [(0, .ref ((zg Z).1 42)), (1, .int a1), (3, .int v5), (4, .int l6), (5, .int (-9))]) [0, 1, 2, 3, 4] rfl ?_
        have e9 := hX1 _ (Option.some.inj h1).symm
        cases e9
        exact E65
      · refine r_aload_n (pc := 74) F dX10_order_74 rfl ?_
        refine r_getf (pc := 75) F dX10_order_75 fl_10_64 i68_42 (ce_42 _ _ _) rfl ?_
        refine r_iload (pc := 78) F dX10_order_78 rfl ?_
        refine r_aload_n (pc := 80) F dX10_order_80 rfl ?_
        refine r_getf (pc := 81) F dX10_order_81 fl_10_16 i68_42 (ce_42 _ _ _) rfl ?_
        refine r_iload (pc := 84) F dX10_order_84 rfl ?_
        obtain ⟨g10, h1⟩ := gd_some h1
        refine r_iald (pc := 86) F dX10_order_86 i68_45 (ca_45 _) g10 rfl ?_
        obtain ⟨w11, ew11, h1⟩ := lt_some h1
        refine r_iast (pc := 87) F dX10_order_87 i68_61 (ca_61 _) g10 rfl ew11 ?_
        refine r_aload_n (pc := 88) F dX10_order_88 rfl ?_
        refine r_getf (pc := 89) F dX10_order_89 fl_10_67 i68_42 (ce_42 _ _ _) rfl ?_
        refine r_iload (pc := 92) F dX10_order_92 rfl ?_
        refine r_aload_n (pc := 94) F dX10_order_94 rfl ?_
        refine r_getf (pc := 95) F dX10_order_95 fl_10_19 i68_42 (ce_42 _ _ _) rfl ?_
        refine r_iload (pc := 98) F dX10_order_98 rfl ?_
        refine r_iald (pc := 100) F dX10_order_100 i68_46 (ca_46 _) g10 rfl ?_
        obtain ⟨w13, ew13, h1⟩ := lt_some h1
        refine r_iast (pc := 101) F dX10_order_101 i68_62 (ca_62 _) g10 rfl ew13 ?_
        refine r_iload (pc := 102) F dX10_order_102 rfl ?_
        refine r_aload_n (pc := 104) F dX10_order_104 rfl ?_
        refine r_getf (pc := 105) F dX10_order_105 fl_10_88 i68_42 (ce_42 _ _ _) rfl ?_
        refine r_imul (pc := 108) F dX10_order_108 ?_
        obtain ⟨v15, ev15, h1⟩ := lt_some h1
        refine V_nm ev15 ?_
        refine r_istore (pc := 109) (ls' := [(0, .ref ((zg Z).1 42)), (1, .int a1), (3, .int v5), (4, .int v15), (5, .int (-9)), (6, .int l7)]) F dX10_order_109 (Nat.le_of_ble_eq_true rfl) rfl ?_
        obtain ⟨v16, ev16, h1⟩ := lt_some h1
        refine r_iinc (pc := 111) (ls' := [(0, .ref ((zg Z).1 42)), (1, .int a1), (3, .int v5), (4, .int v15), (5, .int (-9)), (6, .int v16)]) F dX10_order_111 rfl (by rw [ev16]; rfl) (Nat.le_of_ble_eq_true rfl) rfl ?_
        refine r_goto (pc := 114) (tgt := 65) F dX10_order_114 rfl ?_
        exact hP1 (v15, v16, w13) (Option.some.inj h1).symm
    refine r_iconst (pc := 117) F dX10_order_117 ic_0 ?_
    refine r_istore (pc := 118) (ls' := [(0, .ref ((zg Z).1 42)), (1, .int a1), (3, .int v5), (4, .int l19), (5, .int (-9)), (6, .int 0)]) F dX10_order_118 (Nat.le_of_ble_eq_true rfl) rfl ?_
    obtain ⟨x51, ix51, h0⟩ := bind_some h0
    replace h0 := un2_eq h0
    obtain ⟨l52, w53, rfl, h0⟩ := h0
    suffices E120 : V Z 198 [(0, .ref ((zg Z).1 42)), (1, .int a1), (5, .int l52)] [] w53 by
      refine iter_rule (P := fun s : Int32 × Int32 × Wd => V Z 120 [(0, .ref ((zg Z).1 42)), (1, .int a1), (3, .int v5), (4, .int l19), (5, .int (s.1)), (6, .int (s.2.1))] [] s.2.2) (x := (l52, w53)) ?_ FU ((-9), 0, w20) ix51
      intro s y1 h1 hP1 hX1
      obtain ⟨l22, l23, w24⟩ := s
      have h1 : fX10_order_b120 l19 v5 l22 l23 w24 = some y1 := h1
      unfold fX10_order_b120 at h1
      refine r_iload (pc := 120) F dX10_order_120 rfl ?_
      refine r_iload (pc := 122) F dX10_order_122 rfl ?_
      refine r_icmp_ge (pc := 124) (tgt := 198) F dX10_order_124 rfl h1 (fun h1 => ?_) (fun h1 => ?_)
      · refine V_sub (ls' := [(0, .ref ((zg Z).1 42)), (1, .int a1), (5, .int l22)]) [0, 1, 4] rfl ?_
        have e25 := hX1 _ (Option.some.inj h1).symm
        cases e25
        exact E120
      · refine r_aload_n (pc := 127) F dX10_order_127 rfl ?_
        refine r_iload (pc := 128) F dX10_order_128 rfl ?_
        obtain ⟨q28, er27, h1⟩ := bind_some h1
        replace h1 := un2_eq h1
        obtain ⟨r27, w26, rfl, h1⟩ := h1
        refine r_Vj1 (pc := 130) F dX10_order_130 ml_10_256 (kX10_tellsOrder _ w24 l23 (r27, w26) er27) i68_42 (ce_42 _ _ _) (Nat.le_of_ble_eq_true rfl) (Nat.le_of_ble_eq_true rfl) (Nat.le_of_ble_eq_true rfl) ?_
        refine r_if_ne (pc := 133) (tgt := 139) F dX10_order_133 rfl h1 (fun h1 => ?_) (fun h1 => ?_)
        · refine r_goto (pc := 136) (tgt := 192) F dX10_order_136 rfl ?_
          obtain ⟨v30, ev30, h1⟩ := lt_some h1
          refine r_iinc (pc := 192) (ls' := [(0, .ref ((zg Z).1 42)), (1, .int a1), (3, .int v5), (4, .int l19), (5, .int l22), (6, .int v30)]) F dX10_order_192 rfl (by rw [ev30]; rfl) (Nat.le_of_ble_eq_true rfl) rfl ?_
          refine r_goto (pc := 195) (tgt := 120) F dX10_order_195 rfl ?_
          exact hP1 (l22, v30, w26) (Option.some.inj h1).symm
        · refine r_aload_n (pc := 139) F dX10_order_139 rfl ?_
          refine r_iload_n (pc := 140) F dX10_order_140 rfl ?_
          obtain ⟨q33, er32, h1⟩ := bind_some h1
          replace h1 := un2_eq h1
          obtain ⟨r32, w31, rfl, h1⟩ := h1
          refine r_Vj1 (pc := 141) F dX10_order_141 ml_10_259 (kX10_doorBy _ w26 v5 (r32, w31) er32) i68_42 (ce_42 _ _ _) (Nat.le_of_ble_eq_true rfl) (Nat.le_of_ble_eq_true rfl) (Nat.le_of_ble_eq_true rfl) ?_
          refine r_istore (pc := 144) (ls' := [(0, .ref ((zg Z).1 42)), (1, .int a1), (3, .int v5), (4, .int l19), (5, .int l22), (6, .int l23), (7, .int r32)]) F dX10_order_144 (Nat.le_of_ble_eq_true rfl) rfl ?_
          refine r_iload (pc := 146) F dX10_order_146 rfl ?_
          refine r_iload (pc := 148) F dX10_order_148 rfl ?_
          refine r_icmp_gt (pc := 150) (tgt := 156) F dX10_order_150 rfl h1 (fun h1 => ?_) (fun h1 => ?_)
          · refine r_iload (pc := 156) F dX10_order_156 rfl ?_
            refine r_istore (pc := 158) (ls' := [(0, .ref ((zg Z).1 42)), (1, .int a1), (3, .int v5), (4, .int l19), (5, .int r32), (6, .int l23), (7, .int r32)]) F dX10_order_158 (Nat.le_of_ble_eq_true rfl) rfl ?_
            refine r_iconst (pc := 160) F dX10_order_160 ic_0 ?_
            refine r_istore (pc := 161) (ls' := [(0, .ref ((zg Z).1 42)), (1, .int a1), (3, .int v5), (4, .int l19), (5, .int r32), (6, .int l23), (7, .int r32), (8, .int 0)]) F dX10_order_161 (Nat.le_of_ble_eq_true rfl) rfl ?_
            refine V_sub (ls' := [(0, .ref ((zg Z).1 42)), (1, .int a1), (3, .int v5), (4, .int l19), (5, .int r32), (6, .int l23), (8, .int 0)]) [0, 1, 2, 3, 4, 5, 7] rfl ?_
            obtain ⟨w44, iw44, h1⟩ := bind_some h1
            suffices E163 : V Z 192 [(0, .ref ((zg Z).1 42)), (1, .int a1), (3, .int v5), (4, .int l19), (5, .int r32), (6, .int l23)] [] w44 by
              refine iter_rule (P := fun s : Int32 × Wd => V Z 163 [(0, .ref ((zg Z).1 42)), (1, .int a1), (3, .int v5), (4, .int l19), (5, .int r32), (6, .int l23), (8, .int (s.1))] [] s.2) (x := w44) ?_ FU (0, w31) iw44
              intro s y2 h2 hP2 hX2
              obtain ⟨l35, w36⟩ := s
              have h2 : fX10_order_b163 l35 w36 = some y2 := h2
              unfold fX10_order_b163 at h2
              refine r_iload (pc := 163) F dX10_order_163 rfl ?_
              refine r_aload_n (pc := 165) F dX10_order_165 rfl ?_
              refine r_getf (pc := 166) F dX10_order_166 fl_10_88 i68_42 (ce_42 _ _ _) rfl ?_
              refine r_icmp_ge (pc := 169) (tgt := 192) F dX10_order_169 rfl h2 (fun h2 => ?_) (fun h2 => ?_)
              · refine V_sub (ls' := [(0, .ref ((zg Z).1 42)), (1, .int a1), (3, .int v5), (4, .int l19), (5, .int r32), (6, .int l23)]) [0, 1, 2, 3, 4, 5] rfl ?_
                have e37 := hX2 _ (Option.some.inj h2).symm
                cases e37
                exact E163
              · refine r_aload_n (pc := 172) F dX10_order_172 rfl ?_
                refine r_getf (pc := 173) F dX10_order_173 fl_10_61 i68_42 (ce_42 _ _ _) rfl ?_
                refine r_iload (pc := 176) F dX10_order_176 rfl ?_
                refine r_aload_n (pc := 178) F dX10_order_178 rfl ?_
                refine r_getf (pc := 179) F dX10_order_179 fl_10_58 i68_42 (ce_42 _ _ _) rfl ?_
                refine r_iload (pc := 182) F dX10_order_182 rfl ?_
                obtain ⟨g38, h2⟩ := gd_some h2
                refine r_iald (pc := 184) F dX10_order_184 i68_59 (ca_59 _) g38 rfl ?_
                obtain ⟨w39, ew39, h2⟩ := lt_some h2
                refine r_iast (pc := 185) F dX10_order_185 i68_60 (ca_60 _) g38 rfl ew39 ?_
                obtain ⟨v41, ev41, h2⟩ := lt_some h2
                refine r_iinc (pc := 186) (ls' := [(0, .ref ((zg Z).1 42)), (1, .int a1), (3, .int v5), (4, .int l19), (5, .int r32), (6, .int l23), (8, .int v41)]) F dX10_order_186 rfl (by rw [ev41]; rfl) (Nat.le_of_ble_eq_true rfl) rfl ?_
                refine r_goto (pc := 189) (tgt := 163) F dX10_order_189 rfl ?_
                exact hP2 (v41, w39) (Option.some.inj h2).symm
            obtain ⟨v46, ev46, h1⟩ := lt_some h1
            refine r_iinc (pc := 192) (ls' := [(0, .ref ((zg Z).1 42)), (1, .int a1), (3, .int v5), (4, .int l19), (5, .int r32), (6, .int v46)]) F dX10_order_192 rfl (by rw [ev46]; rfl) (Nat.le_of_ble_eq_true rfl) rfl ?_
            refine r_goto (pc := 195) (tgt := 120) F dX10_order_195 rfl ?_
            exact hP1 (r32, v46, w44) (Option.some.inj h1).symm
          · refine r_goto (pc := 153) (tgt := 192) F dX10_order_153 rfl ?_
            obtain ⟨v47, ev47, h1⟩ := lt_some h1
            refine r_iinc (pc := 192) (ls' := [(0, .ref ((zg Z).1 42)), (1, .int a1), (3, .int v5), (4, .int l19), (5, .int l22), (6, .int v47), (7, .int r32)]) F dX10_order_192 rfl (by rw [ev47]; rfl) (Nat.le_of_ble_eq_true rfl) rfl ?_
            refine r_goto (pc := 195) (tgt := 120) F dX10_order_195 rfl ?_
            refine V_sub (ls' := [(0, .ref ((zg Z).1 42)), (1, .int a1), (3, .int v5), (4, .int l19), (5, .int l22), (6, .int v47)]) [0, 1, 2, 3, 4, 5] rfl ?_
            exact hP1 (l22, v47, w31) (Option.some.inj h1).symm
    refine r_aload_n (pc := 198) F dX10_order_198 rfl ?_
    refine r_iconst (pc := 199) F dX10_order_199 ic_1 ?_
    refine r_iconst (pc := 200) F dX10_order_200 ic_0 ?_
    obtain ⟨w55, ew55, h0⟩ := bind_some h0
    refine r_Vv2 (pc := 201) F dX10_order_201 ml_10_157 (kX10_passesAll _ w53 1 0 w55 ew55) i68_42 (ce_42 _ _ _) (Nat.le_of_ble_eq_true rfl) (Nat.le_of_ble_eq_true rfl) (Nat.le_of_ble_eq_true rfl) ?_
    refine r_iconst (pc := 204) F dX10_order_204 ic_0 ?_
    refine r_istore (pc := 205) (ls' := [(0, .ref ((zg Z).1 42)), (1, .int a1), (5, .int l52), (6, .int 0)]) F dX10_order_205 (Nat.le_of_ble_eq_true rfl) rfl ?_
    refine r_aload_n (pc := 207) F dX10_order_207 rfl ?_
    refine r_getf (pc := 208) F dX10_order_208 fl_10_88 i68_42 (ce_42 _ _ _) rfl ?_
    refine r_iconst (pc := 211) F dX10_order_211 ic_1 ?_
    refine r_isub (pc := 212) F dX10_order_212 ?_
    obtain ⟨v57, ev57, h0⟩ := lt_some h0
    refine V_nm ev57 ?_
    refine r_istore (pc := 213) (ls' := [(0, .ref ((zg Z).1 42)), (1, .int a1), (5, .int l52), (6, .int 0), (7, .int v57)]) F dX10_order_213 (Nat.le_of_ble_eq_true rfl) rfl ?_
    obtain ⟨l66, il66, h0⟩ := bind_some h0
    suffices E215 : V Z 241 [(1, .int a1), (5, .int l52), (6, .int l66)] [] w55 by
      refine iter_rule (P := fun s : Int32 × Int32 => V Z 215 [(0, .ref ((zg Z).1 42)), (1, .int a1), (5, .int l52), (6, .int (s.1)), (7, .int (s.2))] [] w55) (x := l66) ?_ FU (0, v57) il66
      intro s y1 h1 hP1 hX1
      obtain ⟨l58, l59⟩ := s
      have h1 : fX10_order_b215 w55 l58 l59 = some y1 := h1
      unfold fX10_order_b215 at h1
      refine r_iload (pc := 215) F dX10_order_215 rfl ?_
      refine r_if_lt (pc := 217) (tgt := 241) F dX10_order_217 rfl h1 (fun h1 => ?_) (fun h1 => ?_)
      · refine V_sub (ls' := [(1, .int a1), (5, .int l52), (6, .int l58)]) [1, 2, 3] rfl ?_
        have e60 := hX1 _ (Option.some.inj h1).symm
        cases e60
        exact E215
      · refine r_bipush (pc := 220) F dX10_order_220 bp_10 ?_
        refine r_iload (pc := 222) F dX10_order_222 rfl ?_
        refine r_imul (pc := 224) F dX10_order_224 ?_
        refine r_aload_n (pc := 225) F dX10_order_225 rfl ?_
        refine r_getf (pc := 226) F dX10_order_226 fl_10_61 i68_42 (ce_42 _ _ _) rfl ?_
        refine r_iload (pc := 229) F dX10_order_229 rfl ?_
        obtain ⟨g61, h1⟩ := gd_some h1
        refine r_iald (pc := 231) F dX10_order_231 i68_60 (ca_60 _) g61 rfl ?_
        refine r_iadd (pc := 232) F dX10_order_232 ?_
        obtain ⟨v62, ev62, h1⟩ := lt_some h1
        refine V_nm ev62 ?_
        refine r_istore (pc := 233) (ls' := [(0, .ref ((zg Z).1 42)), (1, .int a1), (5, .int l52), (6, .int v62), (7, .int l59)]) F dX10_order_233 (Nat.le_of_ble_eq_true rfl) rfl ?_
        obtain ⟨v63, ev63, h1⟩ := lt_some h1
        refine r_iinc (pc := 235) (ls' := [(0, .ref ((zg Z).1 42)), (1, .int a1), (5, .int l52), (6, .int v62), (7, .int v63)]) F dX10_order_235 rfl (by rw [ev63]; rfl) (Nat.le_of_ble_eq_true rfl) rfl ?_
        refine r_goto (pc := 238) (tgt := 215) F dX10_order_238 rfl ?_
        exact hP1 (v62, v63) (Option.some.inj h1).symm
    refine r_iload_n (pc := 241) F dX10_order_241 rfl ?_
    refine r_if_ne (pc := 242) (tgt := 250) F dX10_order_242 rfl h0 (fun h0 => ?_) (fun h0 => ?_)
    · refine r_iload (pc := 245) F dX10_order_245 rfl ?_
      refine r_goto (pc := 247) (tgt := 252) F dX10_order_247 rfl ?_
      exact hR _ _ _ _ dX10_order_252 rfl (Option.some.inj h0)
    · refine r_iload (pc := 250) F dX10_order_250 rfl ?_
      exact hR _ _ _ _ dX10_order_252 rfl (Option.some.inj h0)
  · refine r_aload_n (pc := 38) F dX10_order_38 rfl ?_
    refine r_iload_n (pc := 39) F dX10_order_39 rfl ?_
    obtain ⟨q70, er69, h0⟩ := bind_some h0
    replace h0 := un2_eq h0
    obtain ⟨r69, w68, rfl, h0⟩ := h0
    refine r_Vj1 (pc := 40) F dX10_order_40 ml_10_99 (kX10_no _ w v1 (r69, w68) er69) i68_42 (ce_42 _ _ _) (Nat.le_of_ble_eq_true rfl) (Nat.le_of_ble_eq_true rfl) (Nat.le_of_ble_eq_true rfl) ?_
    exact hR _ _ _ _ dX10_order_43 rfl (Option.some.inj h0)
set_option maxRecDepth 100000 in
set_option maxHeartbeats 4000000 in
theorem kX10_withLanterns (g : GT) (w : Wd) (a1 : Int32) (out : Int32 × Wd) (h0 : fX10_withLanterns w a1 = some out) : CtI g yX10_withLanterns cX10_withLanterns 5 (some .int) 9 196 [.ref (g.1 42), .int a1] w (fun r w1 => (r, w1) = out) := by
  refine CtI_of .int (by decide) (Nat.le_of_ble_eq_true rfl) (fun Z hg F hR => ?_)
  subst hg
  have F : Fx Z RX10 cX10_withLanterns 5 9 196 := F
  refine V_sub (ls' := [(0, .ref ((zg Z).1 42)), (1, .int a1)]) [0, 1] rfl ?_
  unfold fX10_withLanterns at h0
  refine r_aload_n (pc := 0) F dX10_withLanterns_0 rfl ?_
  refine r_iconst (pc := 1) F dX10_withLanterns_1 ic_1 ?_
  refine r_iconst (pc := 2) F dX10_withLanterns_2 ic_1 ?_
  obtain ⟨w1, ew1, h0⟩ := bind_some h0
  refine r_Vv2 (pc := 3) F dX10_withLanterns_3 ml_10_157 (kX10_passesAll _ w 1 1 w1 ew1) i68_42 (ce_42 _ _ _) (Nat.le_of_ble_eq_true rfl) (Nat.le_of_ble_eq_true rfl) (Nat.le_of_ble_eq_true rfl) ?_
  refine r_iconst (pc := 6) F dX10_withLanterns_6 ic_0 ?_
  refine r_istore_n (pc := 7) (ls' := [(0, .ref ((zg Z).1 42)), (1, .int a1), (2, .int 0)]) F dX10_withLanterns_7 (Nat.le_of_ble_eq_true rfl) rfl ?_
  obtain ⟨w15, iw15, h0⟩ := bind_some h0
  suffices E8 : V Z 46 [(0, .ref ((zg Z).1 42)), (1, .int a1)] [] w15 by
    refine iter_rule (P := fun s : Int32 × Wd => V Z 8 [(0, .ref ((zg Z).1 42)), (1, .int a1), (2, .int (s.1))] [] s.2) (x := w15) ?_ FU (0, w1) iw15
    intro s y1 h1 hP1 hX1
    obtain ⟨l3, w4⟩ := s
    have h1 : fX10_withLanterns_b8 a1 l3 w4 = some y1 := h1
    unfold fX10_withLanterns_b8 at h1
    refine r_iload_n (pc := 8) F dX10_withLanterns_8 rfl ?_
    refine r_aload_n (pc := 9) F dX10_withLanterns_9 rfl ?_
    refine r_getf (pc := 10) F dX10_withLanterns_10 fl_10_88 i68_42 (ce_42 _ _ _) rfl ?_
    refine r_icmp_ge (pc := 13) (tgt := 46) F dX10_withLanterns_13 rfl h1 (fun h1 => ?_) (fun h1 => ?_)
    · refine V_sub (ls' := [(0, .ref ((zg Z).1 42)), (1, .int a1)]) [0, 1] rfl ?_
      have e5 := hX1 _ (Option.some.inj h1).symm
      cases e5
      exact E8
    · refine r_aload_n (pc := 16) F dX10_withLanterns_16 rfl ?_
      refine r_getf (pc := 17) F dX10_withLanterns_17 fl_10_16 i68_42 (ce_42 _ _ _) rfl ?_
      refine r_iload_n (pc := 20) F dX10_withLanterns_20 rfl ?_
      refine r_iload_n (pc := 21) F dX10_withLanterns_21 rfl ?_
      refine r_iload_n (pc := 22) F dX10_withLanterns_22 rfl ?_
      refine r_Si2 (pc := 23) F dX10_withLanterns_23 ml_10_147 (kX10_has _ w4 a1 l3 _ rfl) (Nat.le_of_ble_eq_true rfl) (Nat.le_of_ble_eq_true rfl) (Nat.le_of_ble_eq_true rfl) ?_
      obtain ⟨v7, hv7, h1⟩ := bind_some h1
      suffices Jv7 : V Z 39 [(0, .ref ((zg Z).1 42)), (1, .int a1), (2, .int l3)] [.int v7, .int l3, .ref ((zg Z).1 45)] w4 by
        refine r_if_eq (pc := 26) (tgt := 33) F dX10_withLanterns_26 rfl hv7 (fun hv7 => ?_) (fun hv7 => ?_)
        · refine r_aload_n (pc := 33) F dX10_withLanterns_33 rfl ?_
          refine r_getf (pc := 34) F dX10_withLanterns_34 fl_10_16 i68_42 (ce_42 _ _ _) rfl ?_
          refine r_iload_n (pc := 37) F dX10_withLanterns_37 rfl ?_
          obtain ⟨g8, hv7⟩ := gd_some hv7
          refine r_iald (pc := 38) F dX10_withLanterns_38 i68_45 (ca_45 _) g8 rfl ?_
          exact V_nm (Option.some.inj hv7).symm Jv7
        · refine r_iconst (pc := 29) F dX10_withLanterns_29 ic_3 ?_
          refine r_goto (pc := 30) (tgt := 39) F dX10_withLanterns_30 rfl ?_
          exact V_nm (Option.some.inj hv7).symm Jv7
      obtain ⟨g10, h1⟩ := gd_some h1
      obtain ⟨w9, ew9, h1⟩ := lt_some h1
      refine r_iast (pc := 39) F dX10_withLanterns_39 i68_45 (ca_45 _) g10 rfl ew9 ?_
      obtain ⟨v12, ev12, h1⟩ := lt_some h1
      refine r_iinc (pc := 40) (ls' := [(0, .ref ((zg Z).1 42)), (1, .int a1), (2, .int v12)]) F dX10_withLanterns_40 rfl (by rw [ev12]; rfl) (Nat.le_of_ble_eq_true rfl) rfl ?_
      refine r_goto (pc := 43) (tgt := 8) F dX10_withLanterns_43 rfl ?_
      exact hP1 (v12, w9) (Option.some.inj h1).symm
  refine r_aload_n (pc := 46) F dX10_withLanterns_46 rfl ?_
  refine r_dup (pc := 47) F dX10_withLanterns_47 rfl ?_
  refine r_getf (pc := 48) F dX10_withLanterns_48 fl_10_124 i68_42 (ce_42 _ _ _) rfl ?_
  refine r_iload_n (pc := 51) F dX10_withLanterns_51 rfl ?_
  refine r_ior (pc := 52) F dX10_withLanterns_52 ?_
  obtain ⟨w17, ew17, h0⟩ := lt_some h0
  refine r_putI (pc := 53) F dX10_withLanterns_53 fl_10_124 fp_10_7 i68_42 (ce_42 _) (Nat.le_of_ble_eq_true rfl) rfl rfl rfl ew17 ?_
  refine r_aload_n (pc := 56) F dX10_withLanterns_56 rfl ?_
  obtain ⟨q21, er20, h0⟩ := bind_some h0
  replace h0 := un2_eq h0
  obtain ⟨r20, w19, rfl, h0⟩ := h0
  refine r_Vj0 (pc := 57) F dX10_withLanterns_57 ml_10_241 (kX10_atDoor _ w17 (r20, w19) er20) i68_42 (ce_42 _ _ _) (Nat.le_of_ble_eq_true rfl) (Nat.le_of_ble_eq_true rfl) (Nat.le_of_ble_eq_true rfl) ?_
  refine r_istore_n (pc := 60) (ls' := [(0, .ref ((zg Z).1 42)), (1, .int a1), (2, .int r20)]) F dX10_withLanterns_60 (Nat.le_of_ble_eq_true rfl) rfl ?_
  refine r_iconst (pc := 61) F dX10_withLanterns_61 ic_0 ?_
  refine r_istore_n (pc := 62) (ls' := [(0, .ref ((zg Z).1 42)), (1, .int a1), (2, .int r20), (3, .int 0)]) F dX10_withLanterns_62 (Nat.le_of_ble_eq_true rfl) rfl ?_
  refine r_iconst (pc := 63) F dX10_withLanterns_63 ic_0 ?_
  refine r_istore (pc := 64) (ls' := [(0, .ref ((zg Z).1 42)), (1, .int a1), (2, .int r20), (3, .int 0), (4, .int 0)]) F dX10_withLanterns_64 (Nat.le_of_ble_eq_true rfl) rfl ?_
  refine V_sub (ls' := [(0, .ref ((zg Z).1 42)), (2, .int r20), (3, .int 0), (4, .int 0)]) [0, 2, 3, 4] rfl ?_
  obtain ⟨l32, il32, h0⟩ := bind_some h0
  suffices E66 : V Z 104 [(0, .ref ((zg Z).1 42)), (2, .int r20), (3, .int l32)] [] w19 by
    refine iter_rule (P := fun s : Int32 × Int32 => V Z 66 [(0, .ref ((zg Z).1 42)), (2, .int r20), (3, .int (s.1)), (4, .int (s.2))] [] w19) (x := l32) ?_ FU (0, 0) il32
    intro s y1 h1 hP1 hX1
    obtain ⟨l23, l24⟩ := s
    have h1 : fX10_withLanterns_b66 w19 l23 l24 = some y1 := h1
    unfold fX10_withLanterns_b66 at h1
    refine r_iload (pc := 66) F dX10_withLanterns_66 rfl ?_
    refine r_aload_n (pc := 68) F dX10_withLanterns_68 rfl ?_
    refine r_getf (pc := 69) F dX10_withLanterns_69 fl_10_88 i68_42 (ce_42 _ _ _) rfl ?_
    refine r_icmp_ge (pc := 72) (tgt := 104) F dX10_withLanterns_72 rfl h1 (fun h1 => ?_) (fun h1 => ?_)
    · refine V_sub (ls' := [(0, .ref ((zg Z).1 42)), (2, .int r20), (3, .int l23)]) [0, 1, 2] rfl ?_
      have e25 := hX1 _ (Option.some.inj h1).symm
      cases e25
      exact E66
    · refine r_iload_n (pc := 75) F dX10_withLanterns_75 rfl ?_
      refine r_aload_n (pc := 76) F dX10_withLanterns_76 rfl ?_
      refine r_getf (pc := 77) F dX10_withLanterns_77 fl_10_16 i68_42 (ce_42 _ _ _) rfl ?_
      refine r_iload (pc := 80) F dX10_withLanterns_80 rfl ?_
      obtain ⟨g26, h1⟩ := gd_some h1
      refine r_iald (pc := 82) F dX10_withLanterns_82 i68_45 (ca_45 _) g26 rfl ?_
      refine r_bipush (pc := 83) F dX10_withLanterns_83 bp_6 ?_
      obtain ⟨v27, hv27, h1⟩ := lt_some h1
      have hv27 := hv27.symm
      suffices Jv27 : V Z 96 [(0, .ref ((zg Z).1 42)), (2, .int r20), (3, .int l23), (4, .int l24)] [.int v27, .int l23] w19 by
        refine r_icmp_ne (pc := 85) (tgt := 95) F dX10_withLanterns_85 rfl hv27 (fun hv27 => ?_) (fun hv27 => ?_)
        · refine r_iconst (pc := 88) F dX10_withLanterns_88 ic_1 ?_
          refine r_iload (pc := 89) F dX10_withLanterns_89 rfl ?_
          refine r_ishl (pc := 91) F dX10_withLanterns_91 ?_
          refine r_goto (pc := 92) (tgt := 96) F dX10_withLanterns_92 rfl ?_
          exact V_nm hv27.symm Jv27
        · refine r_iconst (pc := 95) F dX10_withLanterns_95 ic_0 ?_
          exact V_nm hv27.symm Jv27
      refine r_ior (pc := 96) F dX10_withLanterns_96 ?_
      obtain ⟨v28, ev28, h1⟩ := lt_some h1
      refine V_nm ev28 ?_
      refine r_istore_n (pc := 97) (ls' := [(0, .ref ((zg Z).1 42)), (2, .int r20), (3, .int v28), (4, .int l24)]) F dX10_withLanterns_97 (Nat.le_of_ble_eq_true rfl) rfl ?_
      obtain ⟨v29, ev29, h1⟩ := lt_some h1
      refine r_iinc (pc := 98) (ls' := [(0, .ref ((zg Z).1 42)), (2, .int r20), (3, .int v28), (4, .int v29)]) F dX10_withLanterns_98 rfl (by rw [ev29]; rfl) (Nat.le_of_ble_eq_true rfl) rfl ?_
      refine r_goto (pc := 101) (tgt := 66) F dX10_withLanterns_101 rfl ?_
      exact hP1 (v28, v29) (Option.some.inj h1).symm
  refine r_aload_n (pc := 104) F dX10_withLanterns_104 rfl ?_
  refine r_iconst (pc := 105) F dX10_withLanterns_105 ic_1 ?_
  refine r_aload_n (pc := 106) F dX10_withLanterns_106 rfl ?_
  refine r_getf (pc := 107) F dX10_withLanterns_107 fl_10_88 i68_42 (ce_42 _ _ _) rfl ?_
  refine r_ishl (pc := 110) F dX10_withLanterns_110 ?_
  refine r_iconst (pc := 111) F dX10_withLanterns_111 ic_1 ?_
  refine r_isub (pc := 112) F dX10_withLanterns_112 ?_
  refine r_iload_n (pc := 113) F dX10_withLanterns_113 rfl ?_
  refine r_iload_n (pc := 114) F dX10_withLanterns_114 rfl ?_
  refine r_ior (pc := 115) F dX10_withLanterns_115 ?_
  refine r_iconst (pc := 116) F dX10_withLanterns_116 ic_m1 ?_
  refine r_ixor (pc := 117) F dX10_withLanterns_117 ?_
  refine r_iand (pc := 118) F dX10_withLanterns_118 ?_
  obtain ⟨v33, hv33, h0⟩ := lt_some h0
  have hv33 := hv33.symm
  suffices Jv33 : V Z 127 [(0, .ref ((zg Z).1 42)), (2, .int r20), (3, .int l32)] [.int v33, .ref ((zg Z).1 42)] w19 by
    refine r_if_ne (pc := 119) (tgt := 126) F dX10_withLanterns_119 rfl hv33 (fun hv33 => ?_) (fun hv33 => ?_)
    · refine r_iconst (pc := 122) F dX10_withLanterns_122 ic_1 ?_
      refine r_goto (pc := 123) (tgt := 127) F dX10_withLanterns_123 rfl ?_
      exact V_nm hv33.symm Jv33
    · refine r_iconst (pc := 126) F dX10_withLanterns_126 ic_0 ?_
      exact V_nm hv33.symm Jv33
  obtain ⟨g35, h0⟩ := gd_some h0
  obtain ⟨w34, ew34, h0⟩ := lt_some h0
  refine r_putI (pc := 127) F dX10_withLanterns_127 fl_10_262 fp_10_32 i68_42 (ce_42 _) (Nat.le_of_ble_eq_true rfl) rfl (bz_n g35) (bz_f g35) ew34 ?_
  refine r_aload_n (pc := 130) F dX10_withLanterns_130 rfl ?_
  refine r_iconst (pc := 131) F dX10_withLanterns_131 ic_1 ?_
  refine r_iconst (pc := 132) F dX10_withLanterns_132 ic_0 ?_
  obtain ⟨w37, ew37, h0⟩ := bind_some h0
  refine r_Vv2 (pc := 133) F dX10_withLanterns_133 ml_10_157 (kX10_passesAll _ w34 1 0 w37 ew37) i68_42 (ce_42 _ _ _) (Nat.le_of_ble_eq_true rfl) (Nat.le_of_ble_eq_true rfl) (Nat.le_of_ble_eq_true rfl) ?_
  refine r_iload_n (pc := 136) F dX10_withLanterns_136 rfl ?_
  exact hR _ _ _ _ dX10_withLanterns_137 rfl (Option.some.inj h0)
set_option maxRecDepth 100000 in
set_option maxHeartbeats 4000000 in
theorem kX10_lantern (g : GT) (w : Wd) (a1 : Int32) (out : Int32 × Wd) (h0 : fX10_lantern w a1 = some out) : CtI g yX10_lantern cX10_lantern 7 (some .int) 10 220 [.ref (g.1 42), .int a1] w (fun r w1 => (r, w1) = out) := by
  refine CtI_of .int (by decide) (Nat.le_of_ble_eq_true rfl) (fun Z hg F hR => ?_)
  subst hg
  have F : Fx Z RX10 cX10_lantern 7 10 220 := F
  refine V_sub (ls' := [(0, .ref ((zg Z).1 42)), (1, .int a1)]) [0, 1] rfl ?_
  unfold fX10_lantern at h0
  refine r_iload_n (pc := 0) F dX10_lantern_0 rfl ?_
  refine r_iconst (pc := 1) F dX10_lantern_1 ic_0 ?_
  refine r_iconst (pc := 2) F dX10_lantern_2 ic_1 ?_
  refine r_Si3 (pc := 3) F dX10_lantern_3 ml_10_110 (kX10_isIn _ w a1 0 1 _ rfl) (Nat.le_of_ble_eq_true rfl) (Nat.le_of_ble_eq_true rfl) (Nat.le_of_ble_eq_true rfl) ?_
  obtain ⟨v1, hv1, h0⟩ := lt_some h0
  have hv1 := hv1.symm
  suffices Jv1 : V Z 27 [(0, .ref ((zg Z).1 42)), (1, .int a1)] [.int v1] w by
    refine r_if_ne (pc := 6) (tgt := 14) F dX10_lantern_6 rfl hv1 (fun hv1 => ?_) (fun hv1 => ?_)
    · refine r_bipush (pc := 9) F dX10_lantern_9 bp_m2 ?_
      refine r_goto (pc := 11) (tgt := 27) F dX10_lantern_11 rfl ?_
      exact V_nm hv1.symm Jv1
    · refine r_aload_n (pc := 14) F dX10_lantern_14 rfl ?_
      refine r_getf (pc := 15) F dX10_lantern_15 fl_10_88 i68_42 (ce_42 _ _ _) rfl ?_
      refine r_if_ne (pc := 18) (tgt := 26) F dX10_lantern_18 rfl hv1 (fun hv1 => ?_) (fun hv1 => ?_)
      · refine r_bipush (pc := 21) F dX10_lantern_21 bp_m3 ?_
        refine r_goto (pc := 23) (tgt := 27) F dX10_lantern_23 rfl ?_
        exact V_nm hv1.symm Jv1
      · refine r_iconst (pc := 26) F dX10_lantern_26 ic_0 ?_
        exact V_nm hv1.symm Jv1
  refine r_istore_n (pc := 27) (ls' := [(0, .ref ((zg Z).1 42)), (1, .int a1), (2, .int v1)]) F dX10_lantern_27 (Nat.le_of_ble_eq_true rfl) rfl ?_
  refine r_iload_n (pc := 28) F dX10_lantern_28 rfl ?_
  refine r_if_eq (pc := 29) (tgt := 38) F dX10_lantern_29 rfl h0 (fun h0 => ?_) (fun h0 => ?_)
  · refine r_iconst (pc := 38) F dX10_lantern_38 ic_0 ?_
    refine r_istore_n (pc := 39) (ls' := [(0, .ref ((zg Z).1 42)), (1, .int a1), (2, .int v1), (3, .int 0)]) F dX10_lantern_39 (Nat.le_of_ble_eq_true rfl) rfl ?_
    refine r_bipush (pc := 40) F dX10_lantern_40 bp_m9 ?_
    refine r_istore (pc := 42) (ls' := [(0, .ref ((zg Z).1 42)), (1, .int a1), (2, .int v1), (3, .int 0), (4, .int (-9))]) F dX10_lantern_42 (Nat.le_of_ble_eq_true rfl) rfl ?_
    refine r_iconst (pc := 44) F dX10_lantern_44 ic_0 ?_
    refine r_istore (pc := 45) (ls' := [(0, .ref ((zg Z).1 42)), (1, .int a1), (2, .int v1), (3, .int 0), (4, .int (-9)), (5, .int 0)]) F dX10_lantern_45 (Nat.le_of_ble_eq_true rfl) rfl ?_
    refine V_sub (ls' := [(0, .ref ((zg Z).1 42)), (1, .int a1), (3, .int 0), (4, .int (-9)), (5, .int 0)]) [0, 1, 3, 4, 5] rfl ?_
    obtain ⟨x17, ix17, h0⟩ := bind_some h0
    replace h0 := un3_eq h0
    obtain ⟨l18, l19, w20, rfl, h0⟩ := h0
    suffices E47 : V Z 92 [(1, .int a1), (3, .int l18), (4, .int l19)] [] w20 by
      refine iter_rule (P := fun s : Int32 × Int32 × Int32 × Wd => V Z 47 [(0, .ref ((zg Z).1 42)), (1, .int a1), (3, .int (s.1)), (4, .int (s.2.1)), (5, .int (s.2.2.1))] [] s.2.2.2) (x := (l18, l19, w20)) ?_ FU (0, (-9), 0, w) ix17
      intro s y1 h1 hP1 hX1
      obtain ⟨l3, l4, l5, w6⟩ := s
      have h1 : fX10_lantern_b47 l3 l4 l5 w6 = some y1 := h1
      unfold fX10_lantern_b47 at h1
      refine r_iload (pc := 47) F dX10_lantern_47 rfl ?_
      refine r_aload_n (pc := 49) F dX10_lantern_49 rfl ?_
      refine r_getf (pc := 50) F dX10_lantern_50 fl_10_88 i68_42 (ce_42 _ _ _) rfl ?_
      refine r_icmp_ge (pc := 53) (tgt := 92) F dX10_lantern_53 rfl h1 (fun h1 => ?_) (fun h1 => ?_)
      · refine V_sub (ls' := [(1, .int a1), (3, .int l3), (4, .int l4)]) [1, 2, 3] rfl ?_
        have e7 := hX1 _ (Option.some.inj h1).symm
        cases e7
        exact E47
      · refine r_aload_n (pc := 56) F dX10_lantern_56 rfl ?_
        refine r_iconst (pc := 57) F dX10_lantern_57 ic_1 ?_
        refine r_iload (pc := 58) F dX10_lantern_58 rfl ?_
        refine r_ishl (pc := 60) F dX10_lantern_60 ?_
        obtain ⟨q10, er9, h1⟩ := bind_some h1
        replace h1 := un2_eq h1
        obtain ⟨r9, w8, rfl, h1⟩ := h1
        refine r_Vj1 (pc := 61) F dX10_lantern_61 ml_10_265 (kX10_withLanterns _ w6 ((1 : Int32) <<< (l5 &&& 31)) (r9, w8) er9) i68_42 (ce_42 _ _ _) (Nat.le_of_ble_eq_true rfl) (Nat.le_of_ble_eq_true rfl) (Nat.le_of_ble_eq_true rfl) ?_
        obtain ⟨r12, er12, h1⟩ := bind_some h1
        refine r_Si1 (pc := 64) F dX10_lantern_64 ml_10_231 (kX10_bits _ w8 r9 r12 er12) (Nat.le_of_ble_eq_true rfl) (Nat.le_of_ble_eq_true rfl) (Nat.le_of_ble_eq_true rfl) ?_
        refine r_istore (pc := 67) (ls' := [(0, .ref ((zg Z).1 42)), (1, .int a1), (3, .int l3), (4, .int l4), (5, .int l5), (6, .int r12)]) F dX10_lantern_67 (Nat.le_of_ble_eq_true rfl) rfl ?_
        refine r_iload (pc := 69) F dX10_lantern_69 rfl ?_
        refine r_iload (pc := 71) F dX10_lantern_71 rfl ?_
        refine r_icmp_gt (pc := 73) (tgt := 79) F dX10_lantern_73 rfl h1 (fun h1 => ?_) (fun h1 => ?_)
        · refine r_iload (pc := 79) F dX10_lantern_79 rfl ?_
          refine r_istore_n (pc := 81) (ls' := [(0, .ref ((zg Z).1 42)), (1, .int a1), (3, .int l5), (4, .int l4), (5, .int l5), (6, .int r12)]) F dX10_lantern_81 (Nat.le_of_ble_eq_true rfl) rfl ?_
          refine r_iload (pc := 82) F dX10_lantern_82 rfl ?_
          refine r_istore (pc := 84) (ls' := [(0, .ref ((zg Z).1 42)), (1, .int a1), (3, .int l5), (4, .int r12), (5, .int l5), (6, .int r12)]) F dX10_lantern_84 (Nat.le_of_ble_eq_true rfl) rfl ?_
          obtain ⟨v13, ev13, h1⟩ := lt_some h1
          refine r_iinc (pc := 86) (ls' := [(0, .ref ((zg Z).1 42)), (1, .int a1), (3, .int l5), (4, .int r12), (5, .int v13), (6, .int r12)]) F dX10_lantern_86 rfl (by rw [ev13]; rfl) (Nat.le_of_ble_eq_true rfl) rfl ?_
          refine r_goto (pc := 89) (tgt := 47) F dX10_lantern_89 rfl ?_
          refine V_sub (ls' := [(0, .ref ((zg Z).1 42)), (1, .int a1), (3, .int l5), (4, .int r12), (5, .int v13)]) [0, 1, 2, 3, 4] rfl ?_
          exact hP1 (l5, r12, v13, w8) (Option.some.inj h1).symm
        · refine r_goto (pc := 76) (tgt := 86) F dX10_lantern_76 rfl ?_
          obtain ⟨v14, ev14, h1⟩ := lt_some h1
          refine r_iinc (pc := 86) (ls' := [(0, .ref ((zg Z).1 42)), (1, .int a1), (3, .int l3), (4, .int l4), (5, .int v14), (6, .int r12)]) F dX10_lantern_86 rfl (by rw [ev14]; rfl) (Nat.le_of_ble_eq_true rfl) rfl ?_
          refine r_goto (pc := 89) (tgt := 47) F dX10_lantern_89 rfl ?_
          refine V_sub (ls' := [(0, .ref ((zg Z).1 42)), (1, .int a1), (3, .int l3), (4, .int l4), (5, .int v14)]) [0, 1, 2, 3, 4] rfl ?_
          exact hP1 (l3, l4, v14, w8) (Option.some.inj h1).symm
    refine r_iload_n (pc := 92) F dX10_lantern_92 rfl ?_
    refine r_if_ne (pc := 93) (tgt := 100) F dX10_lantern_93 rfl h0 (fun h0 => ?_) (fun h0 => ?_)
    · refine r_iload_n (pc := 96) F dX10_lantern_96 rfl ?_
      refine r_goto (pc := 97) (tgt := 102) F dX10_lantern_97 rfl ?_
      exact hR _ _ _ _ dX10_lantern_102 rfl (Option.some.inj h0)
    · refine r_iload (pc := 100) F dX10_lantern_100 rfl ?_
      exact hR _ _ _ _ dX10_lantern_102 rfl (Option.some.inj h0)
  · refine r_aload_n (pc := 32) F dX10_lantern_32 rfl ?_
    refine r_iload_n (pc := 33) F dX10_lantern_33 rfl ?_
    obtain ⟨q25, er24, h0⟩ := bind_some h0
    replace h0 := un2_eq h0
    obtain ⟨r24, w23, rfl, h0⟩ := h0
    refine r_Vj1 (pc := 34) F dX10_lantern_34 ml_10_99 (kX10_no _ w v1 (r24, w23) er24) i68_42 (ce_42 _ _ _) (Nat.le_of_ble_eq_true rfl) (Nat.le_of_ble_eq_true rfl) (Nat.le_of_ble_eq_true rfl) ?_
    exact hR _ _ _ _ dX10_lantern_37 rfl (Option.some.inj h0)
set_option maxRecDepth 100000 in
set_option maxHeartbeats 4000000 in
theorem kX10_fewest (g : GT) (w : Wd) (a1 : Int32) (out : Int32 × Wd) (h0 : fX10_fewest w a1 = some out) : CtI g yX10_fewest cX10_fewest 4 (some .int) 10 220 [.ref (g.1 42), .int a1] w (fun r w1 => (r, w1) = out) := by
  refine CtI_of .int (by decide) (Nat.le_of_ble_eq_true rfl) (fun Z hg F hR => ?_)
  subst hg
  have F : Fx Z RX10 cX10_fewest 4 10 220 := F
  refine V_sub (ls' := [(0, .ref ((zg Z).1 42)), (1, .int a1)]) [0, 1] rfl ?_
  unfold fX10_fewest at h0
  refine r_iload_n (pc := 0) F dX10_fewest_0 rfl ?_
  refine r_iconst (pc := 1) F dX10_fewest_1 ic_0 ?_
  refine r_iconst (pc := 2) F dX10_fewest_2 ic_1 ?_
  refine r_Si3 (pc := 3) F dX10_fewest_3 ml_10_110 (kX10_isIn _ w a1 0 1 _ rfl) (Nat.le_of_ble_eq_true rfl) (Nat.le_of_ble_eq_true rfl) (Nat.le_of_ble_eq_true rfl) ?_
  refine r_if_ne (pc := 6) (tgt := 16) F dX10_fewest_6 rfl h0 (fun h0 => ?_) (fun h0 => ?_)
  · refine r_aload_n (pc := 9) F dX10_fewest_9 rfl ?_
    refine r_bipush (pc := 10) F dX10_fewest_10 bp_m2 ?_
    obtain ⟨q3, er2, h0⟩ := bind_some h0
    replace h0 := un2_eq h0
    obtain ⟨r2, w1, rfl, h0⟩ := h0
    refine r_Vj1 (pc := 12) F dX10_fewest_12 ml_10_99 (kX10_no _ w (-2) (r2, w1) er2) i68_42 (ce_42 _ _ _) (Nat.le_of_ble_eq_true rfl) (Nat.le_of_ble_eq_true rfl) (Nat.le_of_ble_eq_true rfl) ?_
    exact hR _ _ _ _ dX10_fewest_15 rfl (Option.some.inj h0)
  · refine r_bipush (pc := 16) F dX10_fewest_16 bp_m9 ?_
    refine r_istore_n (pc := 18) (ls' := [(0, .ref ((zg Z).1 42)), (1, .int a1), (2, .int (-9))]) F dX10_fewest_18 (Nat.le_of_ble_eq_true rfl) rfl ?_
    refine r_iconst (pc := 19) F dX10_fewest_19 ic_0 ?_
    refine r_istore_n (pc := 20) (ls' := [(0, .ref ((zg Z).1 42)), (1, .int a1), (2, .int (-9)), (3, .int 0)]) F dX10_fewest_20 (Nat.le_of_ble_eq_true rfl) rfl ?_
    obtain ⟨x23, ix23, h0⟩ := bind_some h0
    replace h0 := un2_eq h0
    obtain ⟨l24, w25, rfl, h0⟩ := h0
    suffices E21 : V Z 67 [(1, .int a1), (2, .int l24)] [] w25 by
      refine iter_rule (P := fun s : Int32 × Int32 × Wd => V Z 21 [(0, .ref ((zg Z).1 42)), (1, .int a1), (2, .int (s.1)), (3, .int (s.2.1))] [] s.2.2) (x := (l24, w25)) ?_ FU ((-9), 0, w) ix23
      intro s y1 h1 hP1 hX1
      obtain ⟨l5, l6, w7⟩ := s
      have h1 : fX10_fewest_b21 l5 l6 w7 = some y1 := h1
      unfold fX10_fewest_b21 at h1
      refine r_iload_n (pc := 21) F dX10_fewest_21 rfl ?_
      refine r_iconst (pc := 22) F dX10_fewest_22 ic_1 ?_
      refine r_aload_n (pc := 23) F dX10_fewest_23 rfl ?_
      refine r_getf (pc := 24) F dX10_fewest_24 fl_10_88 i68_42 (ce_42 _ _ _) rfl ?_
      refine r_ishl (pc := 27) F dX10_fewest_27 ?_
      refine r_icmp_ge (pc := 28) (tgt := 67) F dX10_fewest_28 rfl h1 (fun h1 => ?_) (fun h1 => ?_)
      · refine V_sub (ls' := [(1, .int a1), (2, .int l5)]) [1, 2] rfl ?_
        have e8 := hX1 _ (Option.some.inj h1).symm
        cases e8
        exact E21
      · refine r_aload_n (pc := 31) F dX10_fewest_31 rfl ?_
        refine r_iload_n (pc := 32) F dX10_fewest_32 rfl ?_
        obtain ⟨q11, er10, h1⟩ := bind_some h1
        replace h1 := un2_eq h1
        obtain ⟨r10, w9, rfl, h1⟩ := h1
        refine r_Vj1 (pc := 33) F dX10_fewest_33 ml_10_265 (kX10_withLanterns _ w7 l6 (r10, w9) er10) i68_42 (ce_42 _ _ _) (Nat.le_of_ble_eq_true rfl) (Nat.le_of_ble_eq_true rfl) (Nat.le_of_ble_eq_true rfl) ?_
        refine r_pop (pc := 36) F dX10_fewest_36 rfl ?_
        refine r_aload_n (pc := 37) F dX10_fewest_37 rfl ?_
        refine r_getf (pc := 38) F dX10_fewest_38 fl_10_262 i68_42 (ce_42 _ _ _) rfl ?_
        refine r_if_eq (pc := 41) (tgt := 61) F dX10_fewest_41 rfl h1 (fun h1 => ?_) (fun h1 => ?_)
        · obtain ⟨v13, ev13, h1⟩ := lt_some h1
          refine r_iinc (pc := 61) (ls' := [(0, .ref ((zg Z).1 42)), (1, .int a1), (2, .int l5), (3, .int v13)]) F dX10_fewest_61 rfl (by rw [ev13]; rfl) (Nat.le_of_ble_eq_true rfl) rfl ?_
          refine r_goto (pc := 64) (tgt := 21) F dX10_fewest_64 rfl ?_
          exact hP1 (l5, v13, w9) (Option.some.inj h1).symm
        · refine r_iload_n (pc := 44) F dX10_fewest_44 rfl ?_
          refine r_if_lt (pc := 45) (tgt := 59) F dX10_fewest_45 rfl h1 (fun h1 => ?_) (fun h1 => ?_)
          · refine r_iload_n (pc := 59) F dX10_fewest_59 rfl ?_
            refine r_istore_n (pc := 60) (ls' := [(0, .ref ((zg Z).1 42)), (1, .int a1), (2, .int l6), (3, .int l6)]) F dX10_fewest_60 (Nat.le_of_ble_eq_true rfl) rfl ?_
            obtain ⟨v14, ev14, h1⟩ := lt_some h1
            refine r_iinc (pc := 61) (ls' := [(0, .ref ((zg Z).1 42)), (1, .int a1), (2, .int l6), (3, .int v14)]) F dX10_fewest_61 rfl (by rw [ev14]; rfl) (Nat.le_of_ble_eq_true rfl) rfl ?_
            refine r_goto (pc := 64) (tgt := 21) F dX10_fewest_64 rfl ?_
            exact hP1 (l6, v14, w9) (Option.some.inj h1).symm
          · refine r_iload_n (pc := 48) F dX10_fewest_48 rfl ?_
            obtain ⟨r15, er15, h1⟩ := bind_some h1
            refine r_Si1 (pc := 49) F dX10_fewest_49 ml_10_231 (kX10_bits _ w9 l6 r15 er15) (Nat.le_of_ble_eq_true rfl) (Nat.le_of_ble_eq_true rfl) (Nat.le_of_ble_eq_true rfl) ?_
            refine r_iload_n (pc := 52) F dX10_fewest_52 rfl ?_
            obtain ⟨r16, er16, h1⟩ := bind_some h1
            refine r_Si1 (pc := 53) F dX10_fewest_53 ml_10_231 (kX10_bits _ w9 l5 r16 er16) (Nat.le_of_ble_eq_true rfl) (Nat.le_of_ble_eq_true rfl) (Nat.le_of_ble_eq_true rfl) ?_
            refine r_icmp_ge (pc := 56) (tgt := 61) F dX10_fewest_56 rfl h1 (fun h1 => ?_) (fun h1 => ?_)
            · obtain ⟨v17, ev17, h1⟩ := lt_some h1
              refine r_iinc (pc := 61) (ls' := [(0, .ref ((zg Z).1 42)), (1, .int a1), (2, .int l5), (3, .int v17)]) F dX10_fewest_61 rfl (by rw [ev17]; rfl) (Nat.le_of_ble_eq_true rfl) rfl ?_
              refine r_goto (pc := 64) (tgt := 21) F dX10_fewest_64 rfl ?_
              exact hP1 (l5, v17, w9) (Option.some.inj h1).symm
            · refine r_iload_n (pc := 59) F dX10_fewest_59 rfl ?_
              refine r_istore_n (pc := 60) (ls' := [(0, .ref ((zg Z).1 42)), (1, .int a1), (2, .int l6), (3, .int l6)]) F dX10_fewest_60 (Nat.le_of_ble_eq_true rfl) rfl ?_
              obtain ⟨v18, ev18, h1⟩ := lt_some h1
              refine r_iinc (pc := 61) (ls' := [(0, .ref ((zg Z).1 42)), (1, .int a1), (2, .int l6), (3, .int v18)]) F dX10_fewest_61 rfl (by rw [ev18]; rfl) (Nat.le_of_ble_eq_true rfl) rfl ?_
              refine r_goto (pc := 64) (tgt := 21) F dX10_fewest_64 rfl ?_
              exact hP1 (l6, v18, w9) (Option.some.inj h1).symm
    refine r_iload_n (pc := 67) F dX10_fewest_67 rfl ?_
    refine r_iconst (pc := 68) F dX10_fewest_68 ic_1 ?_
    refine r_icmp_eq (pc := 69) (tgt := 76) F dX10_fewest_69 rfl h0 (fun h0 => ?_) (fun h0 => ?_)
    · refine r_iload_n (pc := 76) F dX10_fewest_76 rfl ?_
      refine r_goto (pc := 77) (tgt := 84) F dX10_fewest_77 rfl ?_
      exact hR _ _ _ _ dX10_fewest_84 rfl (Option.some.inj h0)
    · refine r_iload_n (pc := 72) F dX10_fewest_72 rfl ?_
      refine r_if_ge (pc := 73) (tgt := 80) F dX10_fewest_73 rfl h0 (fun h0 => ?_) (fun h0 => ?_)
      · refine r_iload_n (pc := 80) F dX10_fewest_80 rfl ?_
        obtain ⟨r27, er27, h0⟩ := bind_some h0
        refine r_Si1 (pc := 81) F dX10_fewest_81 ml_10_231 (kX10_bits _ w25 l24 r27 er27) (Nat.le_of_ble_eq_true rfl) (Nat.le_of_ble_eq_true rfl) (Nat.le_of_ble_eq_true rfl) ?_
        exact hR _ _ _ _ dX10_fewest_84 rfl (Option.some.inj h0)
      · refine r_iload_n (pc := 76) F dX10_fewest_76 rfl ?_
        refine r_goto (pc := 77) (tgt := 84) F dX10_fewest_77 rfl ?_
        exact hR _ _ _ _ dX10_fewest_84 rfl (Option.some.inj h0)
set_option maxRecDepth 100000 in
set_option maxHeartbeats 4000000 in
theorem kX10_doorByMatch (g : GT) (w : Wd) (a1 : Int32) (a2 : Int32) (out : Int32 × Wd) (h0 : fX10_doorByMatch w a1 a2 = some out) : CtI g yX10_doorByMatch cX10_doorByMatch 4 (some .int) 7 155 [.ref (g.1 42), .int a1, .int a2] w (fun r w1 => (r, w1) = out) := by
  refine CtI_of .int (by decide) (Nat.le_of_ble_eq_true rfl) (fun Z hg F hR => ?_)
  subst hg
  have F : Fx Z RX10 cX10_doorByMatch 4 7 155 := F
  refine V_sub (ls' := [(0, .ref ((zg Z).1 42)), (1, .int a1), (2, .int a2)]) [0, 1, 2] rfl ?_
  unfold fX10_doorByMatch at h0
  refine r_aload_n (pc := 0) F dX10_doorByMatch_0 rfl ?_
  refine r_iconst (pc := 1) F dX10_doorByMatch_1 ic_2 ?_
  refine r_iconst (pc := 2) F dX10_doorByMatch_2 ic_1 ?_
  obtain ⟨w1, ew1, h0⟩ := bind_some h0
  refine r_Vv2 (pc := 3) F dX10_doorByMatch_3 ml_10_157 (kX10_passesAll _ w 2 1 w1 ew1) i68_42 (ce_42 _ _ _) (Nat.le_of_ble_eq_true rfl) (Nat.le_of_ble_eq_true rfl) (Nat.le_of_ble_eq_true rfl) ?_
  refine r_iconst (pc := 6) F dX10_doorByMatch_6 ic_0 ?_
  refine r_istore_n (pc := 7) (ls' := [(0, .ref ((zg Z).1 42)), (1, .int a1), (2, .int a2), (3, .int 0)]) F dX10_doorByMatch_7 (Nat.le_of_ble_eq_true rfl) rfl ?_
  obtain ⟨w16, iw16, h0⟩ := bind_some h0
  suffices E8 : V Z 47 [(0, .ref ((zg Z).1 42))] [] w16 by
    refine iter_rule (P := fun s : Int32 × Wd => V Z 8 [(0, .ref ((zg Z).1 42)), (1, .int a1), (2, .int a2), (3, .int (s.1))] [] s.2) (x := w16) ?_ FU (0, w1) iw16
    intro s y1 h1 hP1 hX1
    obtain ⟨l3, w4⟩ := s
    have h1 : fX10_doorByMatch_b8 a1 a2 l3 w4 = some y1 := h1
    unfold fX10_doorByMatch_b8 at h1
    have J36 : ∀ (w9 : Wd) (l8 : Int32), fX10_doorByMatch_j36 w9 l8 = some y1 → V Z 36 [(0, .ref ((zg Z).1 42)), (1, .int a1), (2, .int a2), (3, .int l8)] [] w9 := by
      intro w9 l8 h1
      unfold fX10_doorByMatch_j36 at h1
      refine r_aload_n (pc := 36) F dX10_doorByMatch_36 rfl ?_
      refine r_iconst (pc := 37) F dX10_doorByMatch_37 ic_0 ?_
      obtain ⟨w10, ew10, h1⟩ := bind_some h1
      refine r_Vv1 (pc := 38) F dX10_doorByMatch_38 ml_10_136 (kX10_goes _ w9 0 w10 ew10) i68_42 (ce_42 _ _ _) (Nat.le_of_ble_eq_true rfl) (Nat.le_of_ble_eq_true rfl) (Nat.le_of_ble_eq_true rfl) ?_
      obtain ⟨v12, ev12, h1⟩ := lt_some h1
      refine r_iinc (pc := 41) (ls' := [(0, .ref ((zg Z).1 42)), (1, .int a1), (2, .int a2), (3, .int v12)]) F dX10_doorByMatch_41 rfl (by rw [ev12]; rfl) (Nat.le_of_ble_eq_true rfl) rfl ?_
      refine r_goto (pc := 44) (tgt := 8) F dX10_doorByMatch_44 rfl ?_
      exact hP1 (v12, w10) (Option.some.inj h1).symm
    refine r_aload_n (pc := 8) F dX10_doorByMatch_8 rfl ?_
    refine r_getf (pc := 9) F dX10_doorByMatch_9 fl_10_127 i68_42 (ce_42 _ _ _) rfl ?_
    refine r_aload_n (pc := 12) F dX10_doorByMatch_12 rfl ?_
    refine r_Vi0 (pc := 13) F dX10_doorByMatch_13 ml_10_130 (kX10_doorAt _ w4 _ rfl) i68_42 (ce_42 _ _ _) (Nat.le_of_ble_eq_true rfl) (Nat.le_of_ble_eq_true rfl) (Nat.le_of_ble_eq_true rfl) ?_
    refine r_icmp_ge (pc := 16) (tgt := 47) F dX10_doorByMatch_16 rfl h1 (fun h1 => ?_) (fun h1 => ?_)
    · refine V_sub (ls' := [(0, .ref ((zg Z).1 42))]) [0] rfl ?_
      have e5 := hX1 _ (Option.some.inj h1).symm
      cases e5
      exact E8
    · refine r_iload_n (pc := 19) F dX10_doorByMatch_19 rfl ?_
      refine r_iload_n (pc := 20) F dX10_doorByMatch_20 rfl ?_
      refine r_icmp_ne (pc := 21) (tgt := 36) F dX10_doorByMatch_21 rfl h1 (fun h1 => ?_) (fun h1 => ?_)
      · refine r_aload_n (pc := 24) F dX10_doorByMatch_24 rfl ?_
        refine r_dup (pc := 25) F dX10_doorByMatch_25 rfl ?_
        refine r_getf (pc := 26) F dX10_doorByMatch_26 fl_10_124 i68_42 (ce_42 _ _ _) rfl ?_
        refine r_iconst (pc := 29) F dX10_doorByMatch_29 ic_1 ?_
        refine r_iload_n (pc := 30) F dX10_doorByMatch_30 rfl ?_
        refine r_ishl (pc := 31) F dX10_doorByMatch_31 ?_
        refine r_ior (pc := 32) F dX10_doorByMatch_32 ?_
        obtain ⟨w6, ew6, h1⟩ := lt_some h1
        refine r_putI (pc := 33) F dX10_doorByMatch_33 fl_10_124 fp_10_7 i68_42 (ce_42 _) (Nat.le_of_ble_eq_true rfl) rfl rfl rfl ew6 ?_
        exact J36 w6 l3 h1
      · exact J36 w4 l3 h1
  refine r_aload_n (pc := 47) F dX10_doorByMatch_47 rfl ?_
  refine r_getf (pc := 48) F dX10_doorByMatch_48 fl_10_124 i68_42 (ce_42 _ _ _) rfl ?_
  obtain ⟨r18, er18, h0⟩ := bind_some h0
  refine r_Si1 (pc := 51) F dX10_doorByMatch_51 ml_10_231 (kX10_bits _ w16 (w16.1 42 7) r18 er18) (Nat.le_of_ble_eq_true rfl) (Nat.le_of_ble_eq_true rfl) (Nat.le_of_ble_eq_true rfl) ?_
  refine r_istore_n (pc := 54) (ls' := [(0, .ref ((zg Z).1 42)), (3, .int r18)]) F dX10_doorByMatch_54 (Nat.le_of_ble_eq_true rfl) rfl ?_
  refine r_aload_n (pc := 55) F dX10_doorByMatch_55 rfl ?_
  refine r_iconst (pc := 56) F dX10_doorByMatch_56 ic_2 ?_
  refine r_iconst (pc := 57) F dX10_doorByMatch_57 ic_0 ?_
  obtain ⟨w19, ew19, h0⟩ := bind_some h0
  refine r_Vv2 (pc := 58) F dX10_doorByMatch_58 ml_10_157 (kX10_passesAll _ w16 2 0 w19 ew19) i68_42 (ce_42 _ _ _) (Nat.le_of_ble_eq_true rfl) (Nat.le_of_ble_eq_true rfl) (Nat.le_of_ble_eq_true rfl) ?_
  refine r_iload_n (pc := 61) F dX10_doorByMatch_61 rfl ?_
  exact hR _ _ _ _ dX10_doorByMatch_62 rfl (Option.some.inj h0)
set_option maxRecDepth 100000 in
set_option maxHeartbeats 4000000 in
theorem kX10_match (g : GT) (w : Wd) (out : Int32 × Wd) (h0 : fX10_match w = some out) : CtI g yX10_match cX10_match 5 (some .int) 9 196 [.ref (g.1 42)] w (fun r w1 => (r, w1) = out) := by
  refine CtI_of .int (by decide) (Nat.le_of_ble_eq_true rfl) (fun Z hg F hR => ?_)
  subst hg
  have F : Fx Z RX10 cX10_match 5 9 196 := F
  refine V_sub (ls' := [(0, .ref ((zg Z).1 42))]) [0] rfl ?_
  unfold fX10_match at h0
  refine r_aload_n (pc := 0) F dX10_match_0 rfl ?_
  obtain ⟨q3, er2, h0⟩ := bind_some h0
  replace h0 := un2_eq h0
  obtain ⟨r2, w1, rfl, h0⟩ := h0
  refine r_Vj0 (pc := 1) F dX10_match_1 ml_10_241 (kX10_atDoor _ w (r2, w1) er2) i68_42 (ce_42 _ _ _) (Nat.le_of_ble_eq_true rfl) (Nat.le_of_ble_eq_true rfl) (Nat.le_of_ble_eq_true rfl) ?_
  obtain ⟨r5, er5, h0⟩ := bind_some h0
  refine r_Si1 (pc := 4) F dX10_match_4 ml_10_231 (kX10_bits _ w1 r2 r5 er5) (Nat.le_of_ble_eq_true rfl) (Nat.le_of_ble_eq_true rfl) (Nat.le_of_ble_eq_true rfl) ?_
  refine r_istore_n (pc := 7) (ls' := [(0, .ref ((zg Z).1 42)), (1, .int r5)]) F dX10_match_7 (Nat.le_of_ble_eq_true rfl) rfl ?_
  refine r_bipush (pc := 8) F dX10_match_8 bp_m9 ?_
  refine r_istore_n (pc := 10) (ls' := [(0, .ref ((zg Z).1 42)), (1, .int r5), (2, .int (-9))]) F dX10_match_10 (Nat.le_of_ble_eq_true rfl) rfl ?_
  refine r_aload_n (pc := 11) F dX10_match_11 rfl ?_
  refine r_Vi0 (pc := 12) F dX10_match_12 ml_10_130 (kX10_doorAt _ w1 _ rfl) i68_42 (ce_42 _ _ _) (Nat.le_of_ble_eq_true rfl) (Nat.le_of_ble_eq_true rfl) (Nat.le_of_ble_eq_true rfl) ?_
  refine r_aload_n (pc := 15) F dX10_match_15 rfl ?_
  refine r_getf (pc := 16) F dX10_match_16 fl_10_127 i68_42 (ce_42 _ _ _) rfl ?_
  refine r_isub (pc := 19) F dX10_match_19 ?_
  refine r_iconst (pc := 20) F dX10_match_20 ic_1 ?_
  refine r_isub (pc := 21) F dX10_match_21 ?_
  obtain ⟨v6, ev6, h0⟩ := lt_some h0
  refine V_nm ev6 ?_
  refine r_istore_n (pc := 22) (ls' := [(0, .ref ((zg Z).1 42)), (1, .int r5), (2, .int (-9)), (3, .int v6)]) F dX10_match_22 (Nat.le_of_ble_eq_true rfl) rfl ?_
  obtain ⟨x40, ix40, h0⟩ := bind_some h0
  replace h0 := un2_eq h0
  obtain ⟨l41, w42, rfl, h0⟩ := h0
  suffices E23 : V Z 93 [(2, .int l41)] [] w42 by
    refine iter_rule (P := fun s : Int32 × Int32 × Int32 × Wd => V Z 23 [(0, .ref ((zg Z).1 42)), (1, .int (s.1)), (2, .int (s.2.1)), (3, .int (s.2.2.1))] [] s.2.2.2) (x := (l41, w42)) ?_ FU (r5, (-9), v6, w1) ix40
    intro s y1 h1 hP1 hX1
    obtain ⟨l7, l8, l9, w10⟩ := s
    have h1 : fX10_match_b23 l7 l8 l9 w10 = some y1 := h1
    unfold fX10_match_b23 at h1
    refine r_iload_n (pc := 23) F dX10_match_23 rfl ?_
    refine r_if_lt (pc := 24) (tgt := 93) F dX10_match_24 rfl h1 (fun h1 => ?_) (fun h1 => ?_)
    · refine V_sub (ls' := [(2, .int l8)]) [2] rfl ?_
      have e11 := hX1 _ (Option.some.inj h1).symm
      cases e11
      exact E23
    · refine r_iconst (pc := 27) F dX10_match_27 ic_0 ?_
      refine r_istore (pc := 28) (ls' := [(0, .ref ((zg Z).1 42)), (1, .int l7), (2, .int l8), (3, .int l9), (4, .int 0)]) F dX10_match_28 (Nat.le_of_ble_eq_true rfl) rfl ?_
      obtain ⟨x33, ix33, h1⟩ := bind_some h1
      replace h1 := un3_eq h1
      obtain ⟨l34, l35, w36, rfl, h1⟩ := h1
      suffices E30 : V Z 87 [(0, .ref ((zg Z).1 42)), (1, .int l34), (2, .int l35), (3, .int l9)] [] w36 by
        refine iter_rule (P := fun s : Int32 × Int32 × Int32 × Wd => V Z 30 [(0, .ref ((zg Z).1 42)), (1, .int (s.1)), (2, .int (s.2.1)), (3, .int l9), (4, .int (s.2.2.1))] [] s.2.2.2) (x := (l34, l35, w36)) ?_ FU (l7, l8, 0, w10) ix33
        intro s y2 h2 hP2 hX2
        obtain ⟨l12, l13, l14, w15⟩ := s
        have h2 : fX10_match_b30 l9 l12 l13 l14 w15 = some y2 := h2
        unfold fX10_match_b30 at h2
        refine r_iload (pc := 30) F dX10_match_30 rfl ?_
        refine r_aload_n (pc := 32) F dX10_match_32 rfl ?_
        refine r_getf (pc := 33) F dX10_match_33 fl_10_88 i68_42 (ce_42 _ _ _) rfl ?_
        refine r_icmp_ge (pc := 36) (tgt := 87) F dX10_match_36 rfl h2 (fun h2 => ?_) (fun h2 => ?_)
        · refine V_sub (ls' := [(0, .ref ((zg Z).1 42)), (1, .int l12), (2, .int l13), (3, .int l9)]) [0, 1, 2, 3] rfl ?_
          have e16 := hX2 _ (Option.some.inj h2).symm
          cases e16
          exact E30
        · refine r_aload_n (pc := 39) F dX10_match_39 rfl ?_
          refine r_getf (pc := 40) F dX10_match_40 fl_10_16 i68_42 (ce_42 _ _ _) rfl ?_
          refine r_iload (pc := 43) F dX10_match_43 rfl ?_
          obtain ⟨g17, h2⟩ := gd_some h2
          refine r_iald (pc := 45) F dX10_match_45 i68_45 (ca_45 _) g17 rfl ?_
          refine r_bipush (pc := 46) F dX10_match_46 bp_6 ?_
          refine r_icmp_eq (pc := 48) (tgt := 81) F dX10_match_48 rfl h2 (fun h2 => ?_) (fun h2 => ?_)
          · obtain ⟨v18, ev18, h2⟩ := lt_some h2
            refine r_iinc (pc := 81) (ls' := [(0, .ref ((zg Z).1 42)), (1, .int l12), (2, .int l13), (3, .int l9), (4, .int v18)]) F dX10_match_81 rfl (by rw [ev18]; rfl) (Nat.le_of_ble_eq_true rfl) rfl ?_
            refine r_goto (pc := 84) (tgt := 30) F dX10_match_84 rfl ?_
            exact hP2 (l12, l13, v18, w15) (Option.some.inj h2).symm
          · refine r_aload_n (pc := 51) F dX10_match_51 rfl ?_
            refine r_iload_n (pc := 52) F dX10_match_52 rfl ?_
            refine r_iload (pc := 53) F dX10_match_53 rfl ?_
            obtain ⟨q21, er20, h2⟩ := bind_some h2
            replace h2 := un2_eq h2
            obtain ⟨r20, w19, rfl, h2⟩ := h2
            refine r_Vj2 (pc := 55) F dX10_match_55 ml_10_268 (kX10_doorByMatch _ w15 l9 l14 (r20, w19) er20) i68_42 (ce_42 _ _ _) (Nat.le_of_ble_eq_true rfl) (Nat.le_of_ble_eq_true rfl) (Nat.le_of_ble_eq_true rfl) ?_
            refine r_iload_n (pc := 58) F dX10_match_58 rfl ?_
            refine r_icmp_gt (pc := 59) (tgt := 65) F dX10_match_59 rfl h2 (fun h2 => ?_) (fun h2 => ?_)
            · refine r_aload_n (pc := 65) F dX10_match_65 rfl ?_
              refine r_iload_n (pc := 66) F dX10_match_66 rfl ?_
              refine r_iload (pc := 67) F dX10_match_67 rfl ?_
              obtain ⟨q25, er24, h2⟩ := bind_some h2
              replace h2 := un2_eq h2
              obtain ⟨r24, w23, rfl, h2⟩ := h2
              refine r_Vj2 (pc := 69) F dX10_match_69 ml_10_268 (kX10_doorByMatch _ w19 l9 l14 (r24, w23) er24) i68_42 (ce_42 _ _ _) (Nat.le_of_ble_eq_true rfl) (Nat.le_of_ble_eq_true rfl) (Nat.le_of_ble_eq_true rfl) ?_
              refine r_istore_n (pc := 72) (ls' := [(0, .ref ((zg Z).1 42)), (1, .int r24), (2, .int l13), (3, .int l9), (4, .int l14)]) F dX10_match_72 (Nat.le_of_ble_eq_true rfl) rfl ?_
              refine r_bipush (pc := 73) F dX10_match_73 bp_10 ?_
              refine r_iload_n (pc := 75) F dX10_match_75 rfl ?_
              refine r_imul (pc := 76) F dX10_match_76 ?_
              refine r_iload (pc := 77) F dX10_match_77 rfl ?_
              refine r_iadd (pc := 79) F dX10_match_79 ?_
              obtain ⟨v27, ev27, h2⟩ := lt_some h2
              refine V_nm ev27 ?_
              refine r_istore_n (pc := 80) (ls' := [(0, .ref ((zg Z).1 42)), (1, .int r24), (2, .int v27), (3, .int l9), (4, .int l14)]) F dX10_match_80 (Nat.le_of_ble_eq_true rfl) rfl ?_
              obtain ⟨v28, ev28, h2⟩ := lt_some h2
              refine r_iinc (pc := 81) (ls' := [(0, .ref ((zg Z).1 42)), (1, .int r24), (2, .int v27), (3, .int l9), (4, .int v28)]) F dX10_match_81 rfl (by rw [ev28]; rfl) (Nat.le_of_ble_eq_true rfl) rfl ?_
              refine r_goto (pc := 84) (tgt := 30) F dX10_match_84 rfl ?_
              exact hP2 (r24, v27, v28, w23) (Option.some.inj h2).symm
            · refine r_goto (pc := 62) (tgt := 81) F dX10_match_62 rfl ?_
              obtain ⟨v29, ev29, h2⟩ := lt_some h2
              refine r_iinc (pc := 81) (ls' := [(0, .ref ((zg Z).1 42)), (1, .int l12), (2, .int l13), (3, .int l9), (4, .int v29)]) F dX10_match_81 rfl (by rw [ev29]; rfl) (Nat.le_of_ble_eq_true rfl) rfl ?_
              refine r_goto (pc := 84) (tgt := 30) F dX10_match_84 rfl ?_
              exact hP2 (l12, l13, v29, w19) (Option.some.inj h2).symm
      obtain ⟨v38, ev38, h1⟩ := lt_some h1
      refine r_iinc (pc := 87) (ls' := [(0, .ref ((zg Z).1 42)), (1, .int l34), (2, .int l35), (3, .int v38)]) F dX10_match_87 rfl (by rw [ev38]; rfl) (Nat.le_of_ble_eq_true rfl) rfl ?_
      refine r_goto (pc := 90) (tgt := 23) F dX10_match_90 rfl ?_
      exact hP1 (l34, l35, v38, w36) (Option.some.inj h1).symm
  refine r_iload_n (pc := 93) F dX10_match_93 rfl ?_
  exact hR _ _ _ _ dX10_match_94 rfl (Option.some.inj h0)
set_option maxRecDepth 100000 in
set_option maxHeartbeats 4000000 in
theorem kX10_tail (g : GT) (w : Wd) (out : Int32 × Wd) (h0 : fX10_tail w = some out) : CtI g yX10_tail cX10_tail 7 (some .int) 9 196 [.ref (g.1 42)] w (fun r w1 => (r, w1) = out) := by
  refine CtI_of .int (by decide) (Nat.le_of_ble_eq_true rfl) (fun Z hg F hR => ?_)
  subst hg
  have F : Fx Z RX10 cX10_tail 7 9 196 := F
  refine V_sub (ls' := [(0, .ref ((zg Z).1 42))]) [0] rfl ?_
  unfold fX10_tail at h0
  refine r_aload_n (pc := 0) F dX10_tail_0 rfl ?_
  refine r_getf (pc := 1) F dX10_tail_1 fl_10_88 i68_42 (ce_42 _ _ _) rfl ?_
  refine r_if_ne (pc := 4) (tgt := 14) F dX10_tail_4 rfl h0 (fun h0 => ?_) (fun h0 => ?_)
  · refine r_aload_n (pc := 7) F dX10_tail_7 rfl ?_
    refine r_bipush (pc := 8) F dX10_tail_8 bp_m3 ?_
    obtain ⟨q3, er2, h0⟩ := bind_some h0
    replace h0 := un2_eq h0
    obtain ⟨r2, w1, rfl, h0⟩ := h0
    refine r_Vj1 (pc := 10) F dX10_tail_10 ml_10_99 (kX10_no _ w (-3) (r2, w1) er2) i68_42 (ce_42 _ _ _) (Nat.le_of_ble_eq_true rfl) (Nat.le_of_ble_eq_true rfl) (Nat.le_of_ble_eq_true rfl) ?_
    exact hR _ _ _ _ dX10_tail_13 rfl (Option.some.inj h0)
  · refine r_iconst (pc := 14) F dX10_tail_14 ic_0 ?_
    refine r_istore_n (pc := 15) (ls' := [(0, .ref ((zg Z).1 42)), (1, .int 0)]) F dX10_tail_15 (Nat.le_of_ble_eq_true rfl) rfl ?_
    refine r_aload_n (pc := 16) F dX10_tail_16 rfl ?_
    obtain ⟨q7, er6, h0⟩ := bind_some h0
    replace h0 := un2_eq h0
    obtain ⟨r6, w5, rfl, h0⟩ := h0
    refine r_Vj0 (pc := 17) F dX10_tail_17 ml_10_241 (kX10_atDoor _ w (r6, w5) er6) i68_42 (ce_42 _ _ _) (Nat.le_of_ble_eq_true rfl) (Nat.le_of_ble_eq_true rfl) (Nat.le_of_ble_eq_true rfl) ?_
    obtain ⟨r9, er9, h0⟩ := bind_some h0
    refine r_Si1 (pc := 20) F dX10_tail_20 ml_10_231 (kX10_bits _ w5 r6 r9 er9) (Nat.le_of_ble_eq_true rfl) (Nat.le_of_ble_eq_true rfl) (Nat.le_of_ble_eq_true rfl) ?_
    refine r_istore_n (pc := 23) (ls' := [(0, .ref ((zg Z).1 42)), (1, .int 0), (2, .int r9)]) F dX10_tail_23 (Nat.le_of_ble_eq_true rfl) rfl ?_
    refine r_aload_n (pc := 24) F dX10_tail_24 rfl ?_
    refine r_getf (pc := 25) F dX10_tail_25 fl_10_88 i68_42 (ce_42 _ _ _) rfl ?_
    obtain ⟨v10, ev10, h0⟩ := lt_some h0
    refine V_nm ev10 ?_
    refine r_istore_n (pc := 28) (ls' := [(0, .ref ((zg Z).1 42)), (1, .int 0), (2, .int r9), (3, .int v10)]) F dX10_tail_28 (Nat.le_of_ble_eq_true rfl) rfl ?_
    refine r_iconst (pc := 29) F dX10_tail_29 ic_1 ?_
    refine r_istore (pc := 30) (ls' := [(0, .ref ((zg Z).1 42)), (1, .int 0), (2, .int r9), (3, .int v10), (4, .int 1)]) F dX10_tail_30 (Nat.le_of_ble_eq_true rfl) rfl ?_
    obtain ⟨x35, ix35, h0⟩ := bind_some h0
    replace h0 := un2_eq h0
    obtain ⟨l36, w37, rfl, h0⟩ := h0
    suffices E32 : V Z 125 [(1, .int l36)] [] w37 by
      refine iter_rule (P := fun s : Int32 × Int32 × Int32 × Int32 × Wd => V Z 32 [(0, .ref ((zg Z).1 42)), (1, .int (s.1)), (2, .int (s.2.1)), (3, .int (s.2.2.1)), (4, .int (s.2.2.2.1))] [] s.2.2.2.2) (x := (l36, w37)) ?_ FU (0, r9, v10, 1, w5) ix35
      intro s y1 h1 hP1 hX1
      obtain ⟨l11, l12, l13, l14, w15⟩ := s
      have h1 : fX10_tail_b32 l11 l12 l13 l14 w15 = some y1 := h1
      unfold fX10_tail_b32 at h1
      refine r_iload (pc := 32) F dX10_tail_32 rfl ?_
      refine r_aload_n (pc := 34) F dX10_tail_34 rfl ?_
      refine r_getf (pc := 35) F dX10_tail_35 fl_10_88 i68_42 (ce_42 _ _ _) rfl ?_
      refine r_icmp_ge (pc := 38) (tgt := 125) F dX10_tail_38 rfl h1 (fun h1 => ?_) (fun h1 => ?_)
      · refine V_sub (ls' := [(1, .int l11)]) [1] rfl ?_
        have e16 := hX1 _ (Option.some.inj h1).symm
        cases e16
        exact E32
      · refine r_aload_n (pc := 41) F dX10_tail_41 rfl ?_
        refine r_iconst (pc := 42) F dX10_tail_42 ic_1 ?_
        refine r_iconst (pc := 43) F dX10_tail_43 ic_1 ?_
        obtain ⟨w17, ew17, h1⟩ := bind_some h1
        refine r_Vv2 (pc := 44) F dX10_tail_44 ml_10_157 (kX10_passesAll _ w15 1 1 w17 ew17) i68_42 (ce_42 _ _ _) (Nat.le_of_ble_eq_true rfl) (Nat.le_of_ble_eq_true rfl) (Nat.le_of_ble_eq_true rfl) ?_
        refine r_aload_n (pc := 47) F dX10_tail_47 rfl ?_
        refine r_dup (pc := 48) F dX10_tail_48 rfl ?_
        refine r_getf (pc := 49) F dX10_tail_49 fl_10_88 i68_42 (ce_42 _ _ _) rfl ?_
        refine r_iload (pc := 52) F dX10_tail_52 rfl ?_
        refine r_isub (pc := 54) F dX10_tail_54 ?_
        obtain ⟨w19, ew19, h1⟩ := lt_some h1
        refine r_putI (pc := 55) F dX10_tail_55 fl_10_88 fp_10_6 i68_42 (ce_42 _) (Nat.le_of_ble_eq_true rfl) rfl rfl rfl ew19 ?_
        refine r_aload_n (pc := 58) F dX10_tail_58 rfl ?_
        refine r_dup (pc := 59) F dX10_tail_59 rfl ?_
        refine r_getf (pc := 60) F dX10_tail_60 fl_10_124 i68_42 (ce_42 _ _ _) rfl ?_
        refine r_iconst (pc := 63) F dX10_tail_63 ic_1 ?_
        refine r_aload_n (pc := 64) F dX10_tail_64 rfl ?_
        refine r_getf (pc := 65) F dX10_tail_65 fl_10_88 i68_42 (ce_42 _ _ _) rfl ?_
        refine r_ishl (pc := 68) F dX10_tail_68 ?_
        refine r_iconst (pc := 69) F dX10_tail_69 ic_1 ?_
        refine r_isub (pc := 70) F dX10_tail_70 ?_
        refine r_iand (pc := 71) F dX10_tail_71 ?_
        obtain ⟨w21, ew21, h1⟩ := lt_some h1
        refine r_putI (pc := 72) F dX10_tail_72 fl_10_124 fp_10_7 i68_42 (ce_42 _) (Nat.le_of_ble_eq_true rfl) rfl rfl rfl ew21 ?_
        refine r_aload_n (pc := 75) F dX10_tail_75 rfl ?_
        obtain ⟨q25, er24, h1⟩ := bind_some h1
        replace h1 := un2_eq h1
        obtain ⟨r24, w23, rfl, h1⟩ := h1
        refine r_Vj0 (pc := 76) F dX10_tail_76 ml_10_241 (kX10_atDoor _ w21 (r24, w23) er24) i68_42 (ce_42 _ _ _) (Nat.le_of_ble_eq_true rfl) (Nat.le_of_ble_eq_true rfl) (Nat.le_of_ble_eq_true rfl) ?_
        obtain ⟨r27, er27, h1⟩ := bind_some h1
        refine r_Si1 (pc := 79) F dX10_tail_79 ml_10_231 (kX10_bits _ w23 r24 r27 er27) (Nat.le_of_ble_eq_true rfl) (Nat.le_of_ble_eq_true rfl) (Nat.le_of_ble_eq_true rfl) ?_
        refine r_istore (pc := 82) (ls' := [(0, .ref ((zg Z).1 42)), (1, .int l11), (2, .int l12), (3, .int l13), (4, .int l14), (5, .int r27)]) F dX10_tail_82 (Nat.le_of_ble_eq_true rfl) rfl ?_
        refine r_aload_n (pc := 84) F dX10_tail_84 rfl ?_
        refine r_getf (pc := 85) F dX10_tail_85 fl_10_88 i68_42 (ce_42 _ _ _) rfl ?_
        obtain ⟨v28, ev28, h1⟩ := lt_some h1
        refine V_nm ev28 ?_
        refine r_istore (pc := 88) (ls' := [(0, .ref ((zg Z).1 42)), (1, .int l11), (2, .int l12), (3, .int l13), (4, .int l14), (5, .int r27), (6, .int v28)]) F dX10_tail_88 (Nat.le_of_ble_eq_true rfl) rfl ?_
        refine r_aload_n (pc := 90) F dX10_tail_90 rfl ?_
        refine r_iconst (pc := 91) F dX10_tail_91 ic_1 ?_
        refine r_iconst (pc := 92) F dX10_tail_92 ic_0 ?_
        obtain ⟨w29, ew29, h1⟩ := bind_some h1
        refine r_Vv2 (pc := 93) F dX10_tail_93 ml_10_157 (kX10_passesAll _ w23 1 0 w29 ew29) i68_42 (ce_42 _ _ _) (Nat.le_of_ble_eq_true rfl) (Nat.le_of_ble_eq_true rfl) (Nat.le_of_ble_eq_true rfl) ?_
        refine r_iload (pc := 96) F dX10_tail_96 rfl ?_
        refine r_iload_n (pc := 98) F dX10_tail_98 rfl ?_
        refine r_imul (pc := 99) F dX10_tail_99 ?_
        refine r_iload_n (pc := 100) F dX10_tail_100 rfl ?_
        refine r_iload (pc := 101) F dX10_tail_101 rfl ?_
        refine r_imul (pc := 103) F dX10_tail_103 ?_
        refine r_icmp_gt (pc := 104) (tgt := 110) F dX10_tail_104 rfl h1 (fun h1 => ?_) (fun h1 => ?_)
        · refine r_iload (pc := 110) F dX10_tail_110 rfl ?_
          refine r_istore_n (pc := 112) (ls' := [(0, .ref ((zg Z).1 42)), (1, .int l14), (2, .int l12), (3, .int l13), (4, .int l14), (5, .int r27), (6, .int v28)]) F dX10_tail_112 (Nat.le_of_ble_eq_true rfl) rfl ?_
          refine r_iload (pc := 113) F dX10_tail_113 rfl ?_
          refine r_istore_n (pc := 115) (ls' := [(0, .ref ((zg Z).1 42)), (1, .int l14), (2, .int r27), (3, .int l13), (4, .int l14), (5, .int r27), (6, .int v28)]) F dX10_tail_115 (Nat.le_of_ble_eq_true rfl) rfl ?_
          refine r_iload (pc := 116) F dX10_tail_116 rfl ?_
          refine r_istore_n (pc := 118) (ls' := [(0, .ref ((zg Z).1 42)), (1, .int l14), (2, .int r27), (3, .int v28), (4, .int l14), (5, .int r27), (6, .int v28)]) F dX10_tail_118 (Nat.le_of_ble_eq_true rfl) rfl ?_
          obtain ⟨v31, ev31, h1⟩ := lt_some h1
          refine r_iinc (pc := 119) (ls' := [(0, .ref ((zg Z).1 42)), (1, .int l14), (2, .int r27), (3, .int v28), (4, .int v31), (5, .int r27), (6, .int v28)]) F dX10_tail_119 rfl (by rw [ev31]; rfl) (Nat.le_of_ble_eq_true rfl) rfl ?_
          refine r_goto (pc := 122) (tgt := 32) F dX10_tail_122 rfl ?_
          refine V_sub (ls' := [(0, .ref ((zg Z).1 42)), (1, .int l14), (2, .int r27), (3, .int v28), (4, .int v31)]) [0, 1, 2, 3, 4] rfl ?_
          exact hP1 (l14, r27, v28, v31, w29) (Option.some.inj h1).symm
        · refine r_goto (pc := 107) (tgt := 119) F dX10_tail_107 rfl ?_
          obtain ⟨v32, ev32, h1⟩ := lt_some h1
          refine r_iinc (pc := 119) (ls' := [(0, .ref ((zg Z).1 42)), (1, .int l11), (2, .int l12), (3, .int l13), (4, .int v32), (5, .int r27), (6, .int v28)]) F dX10_tail_119 rfl (by rw [ev32]; rfl) (Nat.le_of_ble_eq_true rfl) rfl ?_
          refine r_goto (pc := 122) (tgt := 32) F dX10_tail_122 rfl ?_
          refine V_sub (ls' := [(0, .ref ((zg Z).1 42)), (1, .int l11), (2, .int l12), (3, .int l13), (4, .int v32)]) [0, 1, 2, 3, 4] rfl ?_
          exact hP1 (l11, l12, l13, v32, w29) (Option.some.inj h1).symm
    refine r_iload_n (pc := 125) F dX10_tail_125 rfl ?_
    exact hR _ _ _ _ dX10_tail_126 rfl (Option.some.inj h0)
set_option maxRecDepth 100000 in
set_option maxHeartbeats 4000000 in
theorem kX10_isSomebodyDark (g : GT) (w : Wd) (out : Int32) (h0 : fX10_isSomebodyDark w = some out) : CtI g yX10_isSomebodyDark cX10_isSomebodyDark 2 (some .boolean) 1 21 [.ref (g.1 42)] w (fun r w1 => r = out ∧ w1 = w) := by
  refine CtI_of .boolean (by decide) (Nat.le_of_ble_eq_true rfl) (fun Z hg F hR => ?_)
  subst hg
  have F : Fx Z RX10 cX10_isSomebodyDark 2 1 21 := F
  refine V_sub (ls' := [(0, .ref ((zg Z).1 42))]) [0] rfl ?_
  unfold fX10_isSomebodyDark at h0
  refine r_iconst (pc := 0) F dX10_isSomebodyDark_0 ic_0 ?_
  refine r_istore_n (pc := 1) (ls' := [(0, .ref ((zg Z).1 42)), (1, .int 0)]) F dX10_isSomebodyDark_1 (Nat.le_of_ble_eq_true rfl) rfl ?_
  refine iter_rule (P := fun s : Int32 => V Z 2 [(0, .ref ((zg Z).1 42)), (1, .int s)] [] w) (x := out) ?_ FU 0 h0
  intro s y1 h1 hP1 hX1
  obtain ⟨l1, rfl⟩ : ∃ z, z = s := ⟨s, rfl⟩
  have h1 : fX10_isSomebodyDark_b2 w l1 = some y1 := h1
  unfold fX10_isSomebodyDark_b2 at h1
  refine r_iload_n (pc := 2) F dX10_isSomebodyDark_2 rfl ?_
  refine r_aload_n (pc := 3) F dX10_isSomebodyDark_3 rfl ?_
  refine r_getf (pc := 4) F dX10_isSomebodyDark_4 fl_10_88 i68_42 (ce_42 _ _ _) rfl ?_
  refine r_icmp_ge (pc := 7) (tgt := 40) F dX10_isSomebodyDark_7 rfl h1 (fun h1 => ?_) (fun h1 => ?_)
  · refine r_iconst (pc := 40) F dX10_isSomebodyDark_40 ic_0 ?_
    have h0 := congrArg some (hX1 _ (Option.some.inj h1).symm)
    exact hR _ _ _ _ dX10_isSomebodyDark_41 rfl ⟨(Option.some.inj h0), rfl⟩
  · refine r_aload_n (pc := 10) F dX10_isSomebodyDark_10 rfl ?_
    refine r_getf (pc := 11) F dX10_isSomebodyDark_11 fl_10_16 i68_42 (ce_42 _ _ _) rfl ?_
    refine r_iload_n (pc := 14) F dX10_isSomebodyDark_14 rfl ?_
    obtain ⟨g2, h1⟩ := gd_some h1
    refine r_iald (pc := 15) F dX10_isSomebodyDark_15 i68_45 (ca_45 _) g2 rfl ?_
    refine r_bipush (pc := 16) F dX10_isSomebodyDark_16 bp_6 ?_
    refine r_icmp_eq (pc := 18) (tgt := 34) F dX10_isSomebodyDark_18 rfl h1 (fun h1 => ?_) (fun h1 => ?_)
    · obtain ⟨v3, ev3, h1⟩ := lt_some h1
      refine r_iinc (pc := 34) (ls' := [(0, .ref ((zg Z).1 42)), (1, .int v3)]) F dX10_isSomebodyDark_34 rfl (by rw [ev3]; rfl) (Nat.le_of_ble_eq_true rfl) rfl ?_
      refine r_goto (pc := 37) (tgt := 2) F dX10_isSomebodyDark_37 rfl ?_
      exact hP1 v3 (Option.some.inj h1).symm
    · refine r_aload_n (pc := 21) F dX10_isSomebodyDark_21 rfl ?_
      refine r_getf (pc := 22) F dX10_isSomebodyDark_22 fl_10_124 i68_42 (ce_42 _ _ _) rfl ?_
      refine r_iload_n (pc := 25) F dX10_isSomebodyDark_25 rfl ?_
      refine r_Si2 (pc := 26) F dX10_isSomebodyDark_26 ml_10_147 (kX10_has _ w (w.1 42 7) l1 _ rfl) (Nat.le_of_ble_eq_true rfl) (Nat.le_of_ble_eq_true rfl) (Nat.le_of_ble_eq_true rfl) ?_
      refine r_if_ne (pc := 29) (tgt := 34) F dX10_isSomebodyDark_29 rfl h1 (fun h1 => ?_) (fun h1 => ?_)
      · refine r_iconst (pc := 32) F dX10_isSomebodyDark_32 ic_1 ?_
        have h0 := congrArg some (hX1 _ (Option.some.inj h1).symm)
        exact hR _ _ _ _ dX10_isSomebodyDark_33 rfl ⟨(Option.some.inj h0), rfl⟩
      · obtain ⟨v4, ev4, h1⟩ := lt_some h1
        refine r_iinc (pc := 34) (ls' := [(0, .ref ((zg Z).1 42)), (1, .int v4)]) F dX10_isSomebodyDark_34 rfl (by rw [ev4]; rfl) (Nat.le_of_ble_eq_true rfl) rfl ?_
        refine r_goto (pc := 37) (tgt := 2) F dX10_isSomebodyDark_37 rfl ?_
        exact hP1 v4 (Option.some.inj h1).symm
set_option maxRecDepth 100000 in
set_option maxHeartbeats 4000000 in
theorem kX10_doesStop (g : GT) (w : Wd) (a1 : Int32) (out : Int32) (h0 : fX10_doesStop w a1 = some out) : CtI g yX10_doesStop cX10_doesStop 2 (some .boolean) 2 42 [.ref (g.1 42), .int a1] w (fun r w1 => r = out ∧ w1 = w) := by
  refine CtI_of .boolean (by decide) (Nat.le_of_ble_eq_true rfl) (fun Z hg F hR => ?_)
  subst hg
  have F : Fx Z RX10 cX10_doesStop 2 2 42 := F
  refine V_sub (ls' := [(0, .ref ((zg Z).1 42)), (1, .int a1)]) [0, 1] rfl ?_
  unfold fX10_doesStop at h0
  refine r_aload_n (pc := 0) F dX10_doesStop_0 rfl ?_
  refine r_getf (pc := 1) F dX10_doesStop_1 fl_10_124 i68_42 (ce_42 _ _ _) rfl ?_
  refine r_if_ne (pc := 4) (tgt := 9) F dX10_doesStop_4 rfl h0 (fun h0 => ?_) (fun h0 => ?_)
  · refine r_iconst (pc := 7) F dX10_doesStop_7 ic_0 ?_
    exact hR _ _ _ _ dX10_doesStop_8 rfl ⟨(Option.some.inj h0), rfl⟩
  · refine r_iload_n (pc := 9) F dX10_doesStop_9 rfl ?_
    by_cases c1 : a1 = 1
    · rw [if_pos c1] at h0
      refine r_tsw (pc := 10) (tgt := 40) F dX10_doesStop_10 rfl (by rw [c1]; decide +kernel) ?_
      refine r_iconst (pc := 40) F dX10_doesStop_40 ic_2 ?_
      refine r_aload_n (pc := 41) F dX10_doesStop_41 rfl ?_
      refine r_getf (pc := 42) F dX10_doesStop_42 fl_10_124 i68_42 (ce_42 _ _ _) rfl ?_
      obtain ⟨r2, er2, h0⟩ := bind_some h0
      refine r_Si1 (pc := 45) F dX10_doesStop_45 ml_10_231 (kX10_bits _ w (w.1 42 7) r2 er2) (Nat.le_of_ble_eq_true rfl) (Nat.le_of_ble_eq_true rfl) (Nat.le_of_ble_eq_true rfl) ?_
      refine r_imul (pc := 48) F dX10_doesStop_48 ?_
      refine r_aload_n (pc := 49) F dX10_doesStop_49 rfl ?_
      refine r_getf (pc := 50) F dX10_doesStop_50 fl_10_88 i68_42 (ce_42 _ _ _) rfl ?_
      refine r_icmp_ge (pc := 53) (tgt := 60) F dX10_doesStop_53 rfl h0 (fun h0 => ?_) (fun h0 => ?_)
      · refine r_iconst (pc := 60) F dX10_doesStop_60 ic_0 ?_
        exact hR _ _ _ _ dX10_doesStop_61 rfl ⟨(Option.some.inj h0), rfl⟩
      · refine r_iconst (pc := 56) F dX10_doesStop_56 ic_1 ?_
        refine r_goto (pc := 57) (tgt := 61) F dX10_doesStop_57 rfl ?_
        exact hR _ _ _ _ dX10_doesStop_61 rfl ⟨(Option.some.inj h0), rfl⟩
    rw [if_neg c1] at h0
    by_cases c4 : a1 = 2
    · rw [if_pos c4] at h0
      refine r_tsw (pc := 10) (tgt := 62) F dX10_doesStop_10 rfl (by rw [c4]; decide +kernel) ?_
      refine r_aload_n (pc := 62) F dX10_doesStop_62 rfl ?_
      obtain ⟨r5, er5, h0⟩ := bind_some h0
      refine r_Vi0 (pc := 63) F dX10_doesStop_63 ml_10_271 (kX10_isSomebodyDark _ w r5 er5) i68_42 (ce_42 _ _ _) (Nat.le_of_ble_eq_true rfl) (Nat.le_of_ble_eq_true rfl) (Nat.le_of_ble_eq_true rfl) ?_
      obtain ⟨g6, h0⟩ := gd_some h0
      exact hR _ _ _ _ dX10_doesStop_66 (bz_n g6) ⟨(Option.some.inj h0), rfl⟩
    rw [if_neg c4] at h0
    by_cases c7 : a1 = 3
    · rw [if_pos c7] at h0
      refine r_tsw (pc := 10) (tgt := 67) F dX10_doesStop_10 rfl (by rw [c7]; decide +kernel) ?_
      refine r_aload_n (pc := 67) F dX10_doesStop_67 rfl ?_
      refine r_getf (pc := 68) F dX10_doesStop_68 fl_10_22 i68_42 (ce_42 _ _ _) rfl ?_
      refine r_aload_n (pc := 71) F dX10_doesStop_71 rfl ?_
      refine r_getf (pc := 72) F dX10_doesStop_72 fl_10_127 i68_42 (ce_42 _ _ _) rfl ?_
      obtain ⟨g8, h0⟩ := gd_some h0
      refine r_iald (pc := 75) F dX10_doesStop_75 i68_47 (ca_47 _) g8 rfl ?_
      refine r_iconst (pc := 76) F dX10_doesStop_76 ic_2 ?_
      refine r_icmp_gt (pc := 77) (tgt := 91) F dX10_doesStop_77 rfl h0 (fun h0 => ?_) (fun h0 => ?_)
      · refine r_iconst (pc := 91) F dX10_doesStop_91 ic_0 ?_
        exact hR _ _ _ _ dX10_doesStop_92 rfl ⟨(Option.some.inj h0), rfl⟩
      · refine r_aload_n (pc := 80) F dX10_doesStop_80 rfl ?_
        obtain ⟨r9, er9, h0⟩ := bind_some h0
        refine r_Vi0 (pc := 81) F dX10_doesStop_81 ml_10_271 (kX10_isSomebodyDark _ w r9 er9) i68_42 (ce_42 _ _ _) (Nat.le_of_ble_eq_true rfl) (Nat.le_of_ble_eq_true rfl) (Nat.le_of_ble_eq_true rfl) ?_
        refine r_if_eq (pc := 84) (tgt := 91) F dX10_doesStop_84 rfl h0 (fun h0 => ?_) (fun h0 => ?_)
        · refine r_iconst (pc := 91) F dX10_doesStop_91 ic_0 ?_
          exact hR _ _ _ _ dX10_doesStop_92 rfl ⟨(Option.some.inj h0), rfl⟩
        · refine r_iconst (pc := 87) F dX10_doesStop_87 ic_1 ?_
          refine r_goto (pc := 88) (tgt := 92) F dX10_doesStop_88 rfl ?_
          exact hR _ _ _ _ dX10_doesStop_92 rfl ⟨(Option.some.inj h0), rfl⟩
    rw [if_neg c7] at h0
    by_cases c12 : a1 = 4
    · rw [if_pos c12] at h0
      refine r_tsw (pc := 10) (tgt := 93) F dX10_doesStop_10 rfl (by rw [c12]; decide +kernel) ?_
      refine r_aload_n (pc := 93) F dX10_doesStop_93 rfl ?_
      refine r_getf (pc := 94) F dX10_doesStop_94 fl_10_22 i68_42 (ce_42 _ _ _) rfl ?_
      refine r_aload_n (pc := 97) F dX10_doesStop_97 rfl ?_
      refine r_getf (pc := 98) F dX10_doesStop_98 fl_10_127 i68_42 (ce_42 _ _ _) rfl ?_
      refine r_iconst (pc := 101) F dX10_doesStop_101 ic_1 ?_
      refine r_iadd (pc := 102) F dX10_doesStop_102 ?_
      obtain ⟨g13, h0⟩ := gd_some h0
      refine r_iald (pc := 103) F dX10_doesStop_103 i68_47 (ca_47 _) g13 rfl ?_
      refine r_iconst (pc := 104) F dX10_doesStop_104 ic_5 ?_
      refine r_icmp_le (pc := 105) (tgt := 119) F dX10_doesStop_105 rfl h0 (fun h0 => ?_) (fun h0 => ?_)
      · refine r_iconst (pc := 119) F dX10_doesStop_119 ic_0 ?_
        exact hR _ _ _ _ dX10_doesStop_120 rfl ⟨(Option.some.inj h0), rfl⟩
      · refine r_aload_n (pc := 108) F dX10_doesStop_108 rfl ?_
        obtain ⟨r14, er14, h0⟩ := bind_some h0
        refine r_Vi0 (pc := 109) F dX10_doesStop_109 ml_10_271 (kX10_isSomebodyDark _ w r14 er14) i68_42 (ce_42 _ _ _) (Nat.le_of_ble_eq_true rfl) (Nat.le_of_ble_eq_true rfl) (Nat.le_of_ble_eq_true rfl) ?_
        refine r_if_eq (pc := 112) (tgt := 119) F dX10_doesStop_112 rfl h0 (fun h0 => ?_) (fun h0 => ?_)
        · refine r_iconst (pc := 119) F dX10_doesStop_119 ic_0 ?_
          exact hR _ _ _ _ dX10_doesStop_120 rfl ⟨(Option.some.inj h0), rfl⟩
        · refine r_iconst (pc := 115) F dX10_doesStop_115 ic_1 ?_
          refine r_goto (pc := 116) (tgt := 120) F dX10_doesStop_116 rfl ?_
          exact hR _ _ _ _ dX10_doesStop_120 rfl ⟨(Option.some.inj h0), rfl⟩
    rw [if_neg c12] at h0
    refine r_tsw (pc := 10) (tgt := 121) F dX10_doesStop_10 rfl (tsw_out (ks := [1, 2, 3, 4]) rfl rfl (by decide +kernel) (List.forall_mem_cons.mpr ⟨sw_ne rfl c1, List.forall_mem_cons.mpr ⟨sw_ne rfl c4, List.forall_mem_cons.mpr ⟨sw_ne rfl c7, List.forall_mem_cons.mpr ⟨sw_ne rfl c12, fun _ h => absurd h List.not_mem_nil⟩⟩⟩⟩)) ?_
    refine r_iconst (pc := 121) F dX10_doesStop_121 ic_0 ?_
    exact hR _ _ _ _ dX10_doesStop_122 rfl ⟨(Option.some.inj h0), rfl⟩
set_option maxRecDepth 100000 in
set_option maxHeartbeats 4000000 in
theorem kX10_goesByRule (g : GT) (w : Wd) (a1 : Int32) (out : Wd) (h0 : fX10_goesByRule w a1 = some out) : CtV g yX10_goesByRule cX10_goesByRule 4 none 7 155 [.ref (g.1 42), .int a1] w (fun w1 => w1 = out) := by
  refine CtV_of (by decide) (Nat.le_of_ble_eq_true rfl) (fun Z hg F hR => ?_)
  subst hg
  have F : Fx Z RX10 cX10_goesByRule 4 7 155 := F
  refine V_sub (ls' := [(0, .ref ((zg Z).1 42)), (1, .int a1)]) [0, 1] rfl ?_
  unfold fX10_goesByRule at h0
  refine r_aload_n (pc := 0) F dX10_goesByRule_0 rfl ?_
  refine r_iconst (pc := 1) F dX10_goesByRule_1 ic_1 ?_
  refine r_iconst (pc := 2) F dX10_goesByRule_2 ic_1 ?_
  obtain ⟨w1, ew1, h0⟩ := bind_some h0
  refine r_Vv2 (pc := 3) F dX10_goesByRule_3 ml_10_157 (kX10_passesAll _ w 1 1 w1 ew1) i68_42 (ce_42 _ _ _) (Nat.le_of_ble_eq_true rfl) (Nat.le_of_ble_eq_true rfl) (Nat.le_of_ble_eq_true rfl) ?_
  refine r_aload_n (pc := 6) F dX10_goesByRule_6 rfl ?_
  refine r_iconst (pc := 7) F dX10_goesByRule_7 ic_0 ?_
  obtain ⟨w3, ew3, h0⟩ := lt_some h0
  refine r_putI (pc := 8) F dX10_goesByRule_8 fl_10_274 fp_10_34 i68_42 (ce_42 _) (Nat.le_of_ble_eq_true rfl) rfl rfl rfl ew3 ?_
  refine r_iconst (pc := 11) F dX10_goesByRule_11 ic_0 ?_
  refine r_istore_n (pc := 12) (ls' := [(0, .ref ((zg Z).1 42)), (1, .int a1), (2, .int 0)]) F dX10_goesByRule_12 (Nat.le_of_ble_eq_true rfl) rfl ?_
  obtain ⟨w19, iw19, h0⟩ := bind_some h0
  suffices E13 : V Z 73 [(0, .ref ((zg Z).1 42))] [] w19 by
    refine iter_rule (P := fun s : Int32 × Wd => V Z 13 [(0, .ref ((zg Z).1 42)), (1, .int a1), (2, .int (s.1))] [] s.2) (x := w19) ?_ FU (0, w3) iw19
    intro s y1 h1 hP1 hX1
    obtain ⟨l5, w6⟩ := s
    have h1 : fX10_goesByRule_b13 a1 l5 w6 = some y1 := h1
    unfold fX10_goesByRule_b13 at h1
    refine r_aload_n (pc := 13) F dX10_goesByRule_13 rfl ?_
    refine r_getf (pc := 14) F dX10_goesByRule_14 fl_10_127 i68_42 (ce_42 _ _ _) rfl ?_
    refine r_aload_n (pc := 17) F dX10_goesByRule_17 rfl ?_
    refine r_Vi0 (pc := 18) F dX10_goesByRule_18 ml_10_130 (kX10_doorAt _ w6 _ rfl) i68_42 (ce_42 _ _ _) (Nat.le_of_ble_eq_true rfl) (Nat.le_of_ble_eq_true rfl) (Nat.le_of_ble_eq_true rfl) ?_
    refine r_icmp_ge (pc := 21) (tgt := 73) F dX10_goesByRule_21 rfl h1 (fun h1 => ?_) (fun h1 => ?_)
    · refine V_sub (ls' := [(0, .ref ((zg Z).1 42))]) [0] rfl ?_
      have e7 := hX1 _ (Option.some.inj h1).symm
      cases e7
      exact E13
    · refine r_iload_n (pc := 24) F dX10_goesByRule_24 rfl ?_
      refine r_iconst (pc := 25) F dX10_goesByRule_25 ic_5 ?_
      obtain ⟨v9, hv9, h1⟩ := bind_some h1
      suffices Jv9 : V Z 42 [(0, .ref ((zg Z).1 42)), (1, .int a1), (2, .int l5)] [.int v9] w6 by
        refine r_icmp_ge (pc := 26) (tgt := 41) F dX10_goesByRule_26 rfl hv9 (fun hv9 => ?_) (fun hv9 => ?_)
        · refine r_iconst (pc := 41) F dX10_goesByRule_41 ic_0 ?_
          exact V_nm (Option.some.inj hv9).symm Jv9
        · refine r_aload_n (pc := 29) F dX10_goesByRule_29 rfl ?_
          refine r_iload_n (pc := 30) F dX10_goesByRule_30 rfl ?_
          obtain ⟨r10, er10, hv9⟩ := bind_some hv9
          refine r_Vi1 (pc := 31) F dX10_goesByRule_31 ml_10_277 (kX10_doesStop _ w6 a1 r10 er10) i68_42 (ce_42 _ _ _) (Nat.le_of_ble_eq_true rfl) (Nat.le_of_ble_eq_true rfl) (Nat.le_of_ble_eq_true rfl) ?_
          refine r_if_eq (pc := 34) (tgt := 41) F dX10_goesByRule_34 rfl hv9 (fun hv9 => ?_) (fun hv9 => ?_)
          · refine r_iconst (pc := 41) F dX10_goesByRule_41 ic_0 ?_
            exact V_nm (Option.some.inj hv9).symm Jv9
          · refine r_iconst (pc := 37) F dX10_goesByRule_37 ic_1 ?_
            refine r_goto (pc := 38) (tgt := 42) F dX10_goesByRule_38 rfl ?_
            exact V_nm (Option.some.inj hv9).symm Jv9
      refine r_istore_n (pc := 42) (ls' := [(0, .ref ((zg Z).1 42)), (1, .int a1), (2, .int l5), (3, .int v9)]) F dX10_goesByRule_42 (Nat.le_of_ble_eq_true rfl) rfl ?_
      refine r_aload_n (pc := 43) F dX10_goesByRule_43 rfl ?_
      refine r_iload_n (pc := 44) F dX10_goesByRule_44 rfl ?_
      obtain ⟨w12, ew12, h1⟩ := bind_some h1
      refine r_Vv1 (pc := 45) F dX10_goesByRule_45 ml_10_136 (kX10_goes _ w6 v9 w12 ew12) i68_42 (ce_42 _ _ _) (Nat.le_of_ble_eq_true rfl) (Nat.le_of_ble_eq_true rfl) (Nat.le_of_ble_eq_true rfl) ?_
      refine r_iload_n (pc := 48) F dX10_goesByRule_48 rfl ?_
      obtain ⟨v14, hv14, h1⟩ := lt_some h1
      have hv14 := hv14.symm
      suffices Jv14 : V Z 59 [(0, .ref ((zg Z).1 42)), (1, .int a1), (2, .int l5), (3, .int v9)] [.int v14] w12 by
        refine r_if_eq (pc := 49) (tgt := 58) F dX10_goesByRule_49 rfl hv14 (fun hv14 => ?_) (fun hv14 => ?_)
        · refine r_iconst (pc := 58) F dX10_goesByRule_58 ic_0 ?_
          exact V_nm hv14.symm Jv14
        · refine r_iload_n (pc := 52) F dX10_goesByRule_52 rfl ?_
          refine r_iconst (pc := 53) F dX10_goesByRule_53 ic_1 ?_
          refine r_iadd (pc := 54) F dX10_goesByRule_54 ?_
          refine r_goto (pc := 55) (tgt := 59) F dX10_goesByRule_55 rfl ?_
          exact V_nm hv14.symm Jv14
      refine r_istore_n (pc := 59) (ls' := [(0, .ref ((zg Z).1 42)), (1, .int a1), (2, .int v14), (3, .int v9)]) F dX10_goesByRule_59 (Nat.le_of_ble_eq_true rfl) rfl ?_
      refine r_aload_n (pc := 60) F dX10_goesByRule_60 rfl ?_
      refine r_dup (pc := 61) F dX10_goesByRule_61 rfl ?_
      refine r_getf (pc := 62) F dX10_goesByRule_62 fl_10_274 i68_42 (ce_42 _ _ _) rfl ?_
      refine r_iconst (pc := 65) F dX10_goesByRule_65 ic_1 ?_
      refine r_iadd (pc := 66) F dX10_goesByRule_66 ?_
      obtain ⟨w15, ew15, h1⟩ := lt_some h1
      refine r_putI (pc := 67) F dX10_goesByRule_67 fl_10_274 fp_10_34 i68_42 (ce_42 _) (Nat.le_of_ble_eq_true rfl) rfl rfl rfl ew15 ?_
      refine r_goto (pc := 70) (tgt := 13) F dX10_goesByRule_70 rfl ?_
      refine V_sub (ls' := [(0, .ref ((zg Z).1 42)), (1, .int a1), (2, .int v14)]) [0, 1, 2] rfl ?_
      exact hP1 (v14, w15) (Option.some.inj h1).symm
  refine r_aload_n (pc := 73) F dX10_goesByRule_73 rfl ?_
  refine r_aload_n (pc := 74) F dX10_goesByRule_74 rfl ?_
  refine r_getf (pc := 75) F dX10_goesByRule_75 fl_10_124 i68_42 (ce_42 _ _ _) rfl ?_
  obtain ⟨r21, er21, h0⟩ := bind_some h0
  refine r_Si1 (pc := 78) F dX10_goesByRule_78 ml_10_231 (kX10_bits _ w19 (w19.1 42 7) r21 er21) (Nat.le_of_ble_eq_true rfl) (Nat.le_of_ble_eq_true rfl) (Nat.le_of_ble_eq_true rfl) ?_
  obtain ⟨w22, ew22, h0⟩ := lt_some h0
  refine r_putI (pc := 81) F dX10_goesByRule_81 fl_10_280 fp_10_33 i68_42 (ce_42 _) (Nat.le_of_ble_eq_true rfl) rfl rfl rfl ew22 ?_
  refine r_aload_n (pc := 84) F dX10_goesByRule_84 rfl ?_
  refine r_iconst (pc := 85) F dX10_goesByRule_85 ic_1 ?_
  refine r_iconst (pc := 86) F dX10_goesByRule_86 ic_0 ?_
  obtain ⟨w24, ew24, h0⟩ := bind_some h0
  refine r_Vv2 (pc := 87) F dX10_goesByRule_87 ml_10_157 (kX10_passesAll _ w22 1 0 w24 ew24) i68_42 (ce_42 _ _ _) (Nat.le_of_ble_eq_true rfl) (Nat.le_of_ble_eq_true rfl) (Nat.le_of_ble_eq_true rfl) ?_
  exact hR _ _ _ dX10_goesByRule_90 (Option.some.inj h0)
set_option maxRecDepth 100000 in
set_option maxHeartbeats 4000000 in
theorem kX10_rule (g : GT) (w : Wd) (a1 : Int32) (a2 : Int32) (out : Int32 × Wd) (h0 : fX10_rule w a1 a2 = some out) : CtI g yX10_rule cX10_rule 3 (some .int) 8 178 [.ref (g.1 42), .int a1, .int a2] w (fun r w1 => (r, w1) = out) := by
  refine CtI_of .int (by decide) (Nat.le_of_ble_eq_true rfl) (fun Z hg F hR => ?_)
  subst hg
  have F : Fx Z RX10 cX10_rule 3 8 178 := F
  refine V_sub (ls' := [(0, .ref ((zg Z).1 42)), (1, .int a1), (2, .int a2)]) [0, 1, 2] rfl ?_
  unfold fX10_rule at h0
  have J18 : ∀ (w1 : Wd), fX10_rule_j18 w1 = some out → V Z 18 [(0, .ref ((zg Z).1 42))] [] w1 := by
    intro w1 h0
    unfold fX10_rule_j18 at h0
    refine r_aload_n (pc := 18) F dX10_rule_18 rfl ?_
    refine r_bipush (pc := 19) F dX10_rule_19 bp_m2 ?_
    obtain ⟨q4, er3, h0⟩ := bind_some h0
    replace h0 := un2_eq h0
    obtain ⟨r3, w2, rfl, h0⟩ := h0
    refine r_Vj1 (pc := 21) F dX10_rule_21 ml_10_99 (kX10_no _ w1 (-2) (r3, w2) er3) i68_42 (ce_42 _ _ _) (Nat.le_of_ble_eq_true rfl) (Nat.le_of_ble_eq_true rfl) (Nat.le_of_ble_eq_true rfl) ?_
    exact hR _ _ _ _ dX10_rule_24 rfl (Option.some.inj h0)
  refine r_iload_n (pc := 0) F dX10_rule_0 rfl ?_
  refine r_iconst (pc := 1) F dX10_rule_1 ic_0 ?_
  refine r_iconst (pc := 2) F dX10_rule_2 ic_4 ?_
  refine r_Si3 (pc := 3) F dX10_rule_3 ml_10_110 (kX10_isIn _ w a1 0 4 _ rfl) (Nat.le_of_ble_eq_true rfl) (Nat.le_of_ble_eq_true rfl) (Nat.le_of_ble_eq_true rfl) ?_
  refine r_if_eq (pc := 6) (tgt := 18) F dX10_rule_6 rfl h0 (fun h0 => ?_) (fun h0 => ?_)
  · refine V_sub (ls' := [(0, .ref ((zg Z).1 42))]) [0] rfl ?_
    exact J18 w h0
  · refine r_iload_n (pc := 9) F dX10_rule_9 rfl ?_
    refine r_iconst (pc := 10) F dX10_rule_10 ic_0 ?_
    refine r_iconst (pc := 11) F dX10_rule_11 ic_1 ?_
    refine r_Si3 (pc := 12) F dX10_rule_12 ml_10_110 (kX10_isIn _ w a2 0 1 _ rfl) (Nat.le_of_ble_eq_true rfl) (Nat.le_of_ble_eq_true rfl) (Nat.le_of_ble_eq_true rfl) ?_
    refine r_if_ne (pc := 15) (tgt := 25) F dX10_rule_15 rfl h0 (fun h0 => ?_) (fun h0 => ?_)
    · refine V_sub (ls' := [(0, .ref ((zg Z).1 42))]) [0] rfl ?_
      exact J18 w h0
    · refine r_aload_n (pc := 25) F dX10_rule_25 rfl ?_
      refine r_iload_n (pc := 26) F dX10_rule_26 rfl ?_
      obtain ⟨w6, ew6, h0⟩ := bind_some h0
      refine r_Vv1 (pc := 27) F dX10_rule_27 ml_10_283 (kX10_goesByRule _ w a1 w6 ew6) i68_42 (ce_42 _ _ _) (Nat.le_of_ble_eq_true rfl) (Nat.le_of_ble_eq_true rfl) (Nat.le_of_ble_eq_true rfl) ?_
      refine r_iload_n (pc := 30) F dX10_rule_30 rfl ?_
      refine r_if_ne (pc := 31) (tgt := 41) F dX10_rule_31 rfl h0 (fun h0 => ?_) (fun h0 => ?_)
      · refine r_aload_n (pc := 34) F dX10_rule_34 rfl ?_
        refine r_getf (pc := 35) F dX10_rule_35 fl_10_280 i68_42 (ce_42 _ _ _) rfl ?_
        refine r_goto (pc := 38) (tgt := 45) F dX10_rule_38 rfl ?_
        exact hR _ _ _ _ dX10_rule_45 rfl (Option.some.inj h0)
      · refine r_aload_n (pc := 41) F dX10_rule_41 rfl ?_
        refine r_getf (pc := 42) F dX10_rule_42 fl_10_274 i68_42 (ce_42 _ _ _) rfl ?_
        exact hR _ _ _ _ dX10_rule_45 rfl (Option.some.inj h0)
set_option maxRecDepth 100000 in
set_option maxHeartbeats 4000000 in
theorem kX10_best (g : GT) (w : Wd) (out : Int32 × Wd) (h0 : fX10_best w = some out) : CtI g yX10_best cX10_best 5 (some .int) 8 178 [.ref (g.1 42)] w (fun r w1 => (r, w1) = out) := by
  refine CtI_of .int (by decide) (Nat.le_of_ble_eq_true rfl) (fun Z hg F hR => ?_)
  subst hg
  have F : Fx Z RX10 cX10_best 5 8 178 := F
  refine V_sub (ls' := [(0, .ref ((zg Z).1 42))]) [0] rfl ?_
  unfold fX10_best at h0
  refine r_iconst (pc := 0) F dX10_best_0 ic_0 ?_
  refine r_istore_n (pc := 1) (ls' := [(0, .ref ((zg Z).1 42)), (1, .int 0)]) F dX10_best_1 (Nat.le_of_ble_eq_true rfl) rfl ?_
  refine r_aload_n (pc := 2) F dX10_best_2 rfl ?_
  refine r_iconst (pc := 3) F dX10_best_3 ic_0 ?_
  obtain ⟨w1, ew1, h0⟩ := bind_some h0
  refine r_Vv1 (pc := 4) F dX10_best_4 ml_10_283 (kX10_goesByRule _ w 0 w1 ew1) i68_42 (ce_42 _ _ _) (Nat.le_of_ble_eq_true rfl) (Nat.le_of_ble_eq_true rfl) (Nat.le_of_ble_eq_true rfl) ?_
  refine r_aload_n (pc := 7) F dX10_best_7 rfl ?_
  refine r_getf (pc := 8) F dX10_best_8 fl_10_280 i68_42 (ce_42 _ _ _) rfl ?_
  obtain ⟨v3, ev3, h0⟩ := lt_some h0
  refine V_nm ev3 ?_
  refine r_istore_n (pc := 11) (ls' := [(0, .ref ((zg Z).1 42)), (1, .int 0), (2, .int v3)]) F dX10_best_11 (Nat.le_of_ble_eq_true rfl) rfl ?_
  refine r_aload_n (pc := 12) F dX10_best_12 rfl ?_
  refine r_getf (pc := 13) F dX10_best_13 fl_10_274 i68_42 (ce_42 _ _ _) rfl ?_
  obtain ⟨v4, ev4, h0⟩ := lt_some h0
  refine V_nm ev4 ?_
  refine r_istore_n (pc := 16) (ls' := [(0, .ref ((zg Z).1 42)), (1, .int 0), (2, .int v3), (3, .int v4)]) F dX10_best_16 (Nat.le_of_ble_eq_true rfl) rfl ?_
  refine r_iconst (pc := 17) F dX10_best_17 ic_1 ?_
  refine r_istore (pc := 18) (ls' := [(0, .ref ((zg Z).1 42)), (1, .int 0), (2, .int v3), (3, .int v4), (4, .int 1)]) F dX10_best_18 (Nat.le_of_ble_eq_true rfl) rfl ?_
  obtain ⟨x24, ix24, h0⟩ := bind_some h0
  replace h0 := un2_eq h0
  obtain ⟨l25, w26, rfl, h0⟩ := h0
  suffices E20 : V Z 78 [(1, .int l25)] [] w26 by
    refine iter_rule (P := fun s : Int32 × Int32 × Int32 × Int32 × Wd => V Z 20 [(0, .ref ((zg Z).1 42)), (1, .int (s.1)), (2, .int (s.2.1)), (3, .int (s.2.2.1)), (4, .int (s.2.2.2.1))] [] s.2.2.2.2) (x := (l25, w26)) ?_ FU (0, v3, v4, 1, w1) ix24
    intro s y1 h1 hP1 hX1
    obtain ⟨l5, l6, l7, l8, w9⟩ := s
    have h1 : fX10_best_b20 l5 l6 l7 l8 w9 = some y1 := h1
    unfold fX10_best_b20 at h1
    have J59 : ∀ (w15 : Wd) (l14 : Int32), fX10_best_j59 w15 l14 = some y1 → V Z 59 [(0, .ref ((zg Z).1 42)), (4, .int l14)] [] w15 := by
      intro w15 l14 h1
      unfold fX10_best_j59 at h1
      refine r_iload (pc := 59) F dX10_best_59 rfl ?_
      refine r_istore_n (pc := 61) (ls' := [(0, .ref ((zg Z).1 42)), (1, .int l14), (4, .int l14)]) F dX10_best_61 (Nat.le_of_ble_eq_true rfl) rfl ?_
      refine r_aload_n (pc := 62) F dX10_best_62 rfl ?_
      refine r_getf (pc := 63) F dX10_best_63 fl_10_280 i68_42 (ce_42 _ _ _) rfl ?_
      obtain ⟨v16, ev16, h1⟩ := lt_some h1
      refine V_nm ev16 ?_
      refine r_istore_n (pc := 66) (ls' := [(0, .ref ((zg Z).1 42)), (1, .int l14), (2, .int v16), (4, .int l14)]) F dX10_best_66 (Nat.le_of_ble_eq_true rfl) rfl ?_
      refine r_aload_n (pc := 67) F dX10_best_67 rfl ?_
      refine r_getf (pc := 68) F dX10_best_68 fl_10_274 i68_42 (ce_42 _ _ _) rfl ?_
      obtain ⟨v17, ev17, h1⟩ := lt_some h1
      refine V_nm ev17 ?_
      refine r_istore_n (pc := 71) (ls' := [(0, .ref ((zg Z).1 42)), (1, .int l14), (2, .int v16), (3, .int v17), (4, .int l14)]) F dX10_best_71 (Nat.le_of_ble_eq_true rfl) rfl ?_
      obtain ⟨v18, ev18, h1⟩ := lt_some h1
      refine r_iinc (pc := 72) (ls' := [(0, .ref ((zg Z).1 42)), (1, .int l14), (2, .int v16), (3, .int v17), (4, .int v18)]) F dX10_best_72 rfl (by rw [ev18]; rfl) (Nat.le_of_ble_eq_true rfl) rfl ?_
      refine r_goto (pc := 75) (tgt := 20) F dX10_best_75 rfl ?_
      exact hP1 (l14, v16, v17, v18, w15) (Option.some.inj h1).symm
    refine r_iload (pc := 20) F dX10_best_20 rfl ?_
    refine r_iconst (pc := 22) F dX10_best_22 ic_5 ?_
    refine r_icmp_ge (pc := 23) (tgt := 78) F dX10_best_23 rfl h1 (fun h1 => ?_) (fun h1 => ?_)
    · refine V_sub (ls' := [(1, .int l5)]) [1] rfl ?_
      have e10 := hX1 _ (Option.some.inj h1).symm
      cases e10
      exact E20
    · refine r_aload_n (pc := 26) F dX10_best_26 rfl ?_
      refine r_iload (pc := 27) F dX10_best_27 rfl ?_
      obtain ⟨w11, ew11, h1⟩ := bind_some h1
      refine r_Vv1 (pc := 29) F dX10_best_29 ml_10_283 (kX10_goesByRule _ w9 l8 w11 ew11) i68_42 (ce_42 _ _ _) (Nat.le_of_ble_eq_true rfl) (Nat.le_of_ble_eq_true rfl) (Nat.le_of_ble_eq_true rfl) ?_
      refine r_aload_n (pc := 32) F dX10_best_32 rfl ?_
      refine r_getf (pc := 33) F dX10_best_33 fl_10_280 i68_42 (ce_42 _ _ _) rfl ?_
      refine r_iload_n (pc := 36) F dX10_best_36 rfl ?_
      refine r_icmp_lt (pc := 37) (tgt := 72) F dX10_best_37 rfl h1 (fun h1 => ?_) (fun h1 => ?_)
      · obtain ⟨v13, ev13, h1⟩ := lt_some h1
        refine r_iinc (pc := 72) (ls' := [(0, .ref ((zg Z).1 42)), (1, .int l5), (2, .int l6), (3, .int l7), (4, .int v13)]) F dX10_best_72 rfl (by rw [ev13]; rfl) (Nat.le_of_ble_eq_true rfl) rfl ?_
        refine r_goto (pc := 75) (tgt := 20) F dX10_best_75 rfl ?_
        exact hP1 (l5, l6, l7, v13, w11) (Option.some.inj h1).symm
      · refine r_aload_n (pc := 40) F dX10_best_40 rfl ?_
        refine r_getf (pc := 41) F dX10_best_41 fl_10_280 i68_42 (ce_42 _ _ _) rfl ?_
        refine r_iload_n (pc := 44) F dX10_best_44 rfl ?_
        refine r_icmp_ne (pc := 45) (tgt := 59) F dX10_best_45 rfl h1 (fun h1 => ?_) (fun h1 => ?_)
        · refine r_aload_n (pc := 48) F dX10_best_48 rfl ?_
          refine r_getf (pc := 49) F dX10_best_49 fl_10_274 i68_42 (ce_42 _ _ _) rfl ?_
          refine r_iload_n (pc := 52) F dX10_best_52 rfl ?_
          refine r_icmp_lt (pc := 53) (tgt := 59) F dX10_best_53 rfl h1 (fun h1 => ?_) (fun h1 => ?_)
          · refine V_sub (ls' := [(0, .ref ((zg Z).1 42)), (4, .int l8)]) [0, 4] rfl ?_
            exact J59 w11 l8 h1
          · refine r_goto (pc := 56) (tgt := 72) F dX10_best_56 rfl ?_
            obtain ⟨v19, ev19, h1⟩ := lt_some h1
            refine r_iinc (pc := 72) (ls' := [(0, .ref ((zg Z).1 42)), (1, .int l5), (2, .int l6), (3, .int l7), (4, .int v19)]) F dX10_best_72 rfl (by rw [ev19]; rfl) (Nat.le_of_ble_eq_true rfl) rfl ?_
            refine r_goto (pc := 75) (tgt := 20) F dX10_best_75 rfl ?_
            exact hP1 (l5, l6, l7, v19, w11) (Option.some.inj h1).symm
        · refine V_sub (ls' := [(0, .ref ((zg Z).1 42)), (4, .int l8)]) [0, 4] rfl ?_
          exact J59 w11 l8 h1
  refine r_iload_n (pc := 78) F dX10_best_78 rfl ?_
  exact hR _ _ _ _ dX10_best_79 rfl (Option.some.inj h0)
set_option maxRecDepth 100000 in
set_option maxHeartbeats 4000000 in
theorem kX10_calm (g : GT) (w : Wd) (a1 : Int32) (a2 : Int32) (out : Int32 × Wd) (h0 : fX10_calm w a1 a2 = some out) : CtI g yX10_calm cX10_calm 4 (some .int) 1 21 [.ref (g.1 42), .int a1, .int a2] w (fun r w1 => (r, w1) = out) := by
  refine CtI_of .int (by decide) (Nat.le_of_ble_eq_true rfl) (fun Z hg F hR => ?_)
  subst hg
  have F : Fx Z RX10 cX10_calm 4 1 21 := F
  refine V_sub (ls' := [(0, .ref ((zg Z).1 42)), (1, .int a1), (2, .int a2)]) [0, 1, 2] rfl ?_
  unfold fX10_calm at h0
  refine r_iload_n (pc := 0) F dX10_calm_0 rfl ?_
  refine r_iconst (pc := 1) F dX10_calm_1 ic_1 ?_
  obtain ⟨v1, hv1, h0⟩ := lt_some h0
  have hv1 := hv1.symm
  suffices Jv1 : V Z 32 [(0, .ref ((zg Z).1 42)), (1, .int a1), (2, .int a2)] [.int v1] w by
    refine r_icmp_lt (pc := 2) (tgt := 9) F dX10_calm_2 rfl hv1 (fun hv1 => ?_) (fun hv1 => ?_)
    · refine r_bipush (pc := 9) F dX10_calm_9 bp_m4 ?_
      refine r_goto (pc := 11) (tgt := 32) F dX10_calm_11 rfl ?_
      exact V_nm hv1.symm Jv1
    · refine r_iload_n (pc := 5) F dX10_calm_5 rfl ?_
      refine r_if_ge (pc := 6) (tgt := 14) F dX10_calm_6 rfl hv1 (fun hv1 => ?_) (fun hv1 => ?_)
      · refine r_iload_n (pc := 14) F dX10_calm_14 rfl ?_
        refine r_bipush (pc := 15) F dX10_calm_15 bp_99 ?_
        refine r_icmp_gt (pc := 17) (tgt := 26) F dX10_calm_17 rfl hv1 (fun hv1 => ?_) (fun hv1 => ?_)
        · refine r_bipush (pc := 26) F dX10_calm_26 bp_m6 ?_
          refine r_goto (pc := 28) (tgt := 32) F dX10_calm_28 rfl ?_
          exact V_nm hv1.symm Jv1
        · refine r_iload_n (pc := 20) F dX10_calm_20 rfl ?_
          refine r_bipush (pc := 21) F dX10_calm_21 bp_99 ?_
          refine r_icmp_le (pc := 23) (tgt := 31) F dX10_calm_23 rfl hv1 (fun hv1 => ?_) (fun hv1 => ?_)
          · refine r_iconst (pc := 31) F dX10_calm_31 ic_0 ?_
            exact V_nm hv1.symm Jv1
          · refine r_bipush (pc := 26) F dX10_calm_26 bp_m6 ?_
            refine r_goto (pc := 28) (tgt := 32) F dX10_calm_28 rfl ?_
            exact V_nm hv1.symm Jv1
      · refine r_bipush (pc := 9) F dX10_calm_9 bp_m4 ?_
        refine r_goto (pc := 11) (tgt := 32) F dX10_calm_11 rfl ?_
        exact V_nm hv1.symm Jv1
  refine r_istore_n (pc := 32) (ls' := [(0, .ref ((zg Z).1 42)), (1, .int a1), (2, .int a2), (3, .int v1)]) F dX10_calm_32 (Nat.le_of_ble_eq_true rfl) rfl ?_
  refine r_iload_n (pc := 33) F dX10_calm_33 rfl ?_
  refine r_if_eq (pc := 34) (tgt := 45) F dX10_calm_34 rfl h0 (fun h0 => ?_) (fun h0 => ?_)
  · refine r_iload_n (pc := 45) F dX10_calm_45 rfl ?_
    refine r_iconst (pc := 46) F dX10_calm_46 ic_2 ?_
    refine r_iload_n (pc := 47) F dX10_calm_47 rfl ?_
    refine r_imul (pc := 48) F dX10_calm_48 ?_
    refine r_iadd (pc := 49) F dX10_calm_49 ?_
    refine r_iconst (pc := 50) F dX10_calm_50 ic_2 ?_
    refine r_iload_n (pc := 51) F dX10_calm_51 rfl ?_
    refine r_imul (pc := 52) F dX10_calm_52 ?_
    refine r_iconst (pc := 53) F dX10_calm_53 ic_1 ?_
    refine r_iadd (pc := 54) F dX10_calm_54 ?_
    obtain ⟨g5, h0⟩ := gd_some h0
    refine r_idiv (pc := 55) F dX10_calm_55 (by simpa using g5) ?_
    exact hR _ _ _ _ dX10_calm_56 rfl (Option.some.inj h0)
  · refine r_aload_n (pc := 37) F dX10_calm_37 rfl ?_
    refine r_iload_n (pc := 38) F dX10_calm_38 rfl ?_
    obtain ⟨q8, er7, h0⟩ := bind_some h0
    replace h0 := un2_eq h0
    obtain ⟨r7, w6, rfl, h0⟩ := h0
    refine r_Vj1 (pc := 39) F dX10_calm_39 ml_10_99 (kX10_no _ w v1 (r7, w6) er7) i68_42 (ce_42 _ _ _) (Nat.le_of_ble_eq_true rfl) (Nat.le_of_ble_eq_true rfl) (Nat.le_of_ble_eq_true rfl) ?_
    refine r_goto (pc := 42) (tgt := 56) F dX10_calm_42 rfl ?_
    exact hR _ _ _ _ dX10_calm_56 rfl (Option.some.inj h0)
set_option maxRecDepth 100000 in
set_option maxHeartbeats 4000000 in
theorem kX10_spreads (g : GT) (w : Wd) (a1 : Int32) (a2 : Int32) (out : Int32 × Wd) (h0 : fX10_spreads w a1 a2 = some out) : CtI g yX10_spreads cX10_spreads 4 (some .int) 1 21 [.ref (g.1 42), .int a1, .int a2] w (fun r w1 => (r, w1) = out) := by
  refine CtI_of .int (by decide) (Nat.le_of_ble_eq_true rfl) (fun Z hg F hR => ?_)
  subst hg
  have F : Fx Z RX10 cX10_spreads 4 1 21 := F
  refine V_sub (ls' := [(0, .ref ((zg Z).1 42)), (1, .int a1), (2, .int a2)]) [0, 1, 2] rfl ?_
  unfold fX10_spreads at h0
  refine r_iload_n (pc := 0) F dX10_spreads_0 rfl ?_
  refine r_iconst (pc := 1) F dX10_spreads_1 ic_1 ?_
  obtain ⟨v1, hv1, h0⟩ := lt_some h0
  have hv1 := hv1.symm
  suffices Jv1 : V Z 41 [(0, .ref ((zg Z).1 42)), (1, .int a1), (2, .int a2)] [.int v1] w by
    refine r_icmp_lt (pc := 2) (tgt := 9) F dX10_spreads_2 rfl hv1 (fun hv1 => ?_) (fun hv1 => ?_)
    · refine r_bipush (pc := 9) F dX10_spreads_9 bp_m4 ?_
      refine r_goto (pc := 11) (tgt := 41) F dX10_spreads_11 rfl ?_
      exact V_nm hv1.symm Jv1
    · refine r_iload_n (pc := 5) F dX10_spreads_5 rfl ?_
      refine r_if_ge (pc := 6) (tgt := 14) F dX10_spreads_6 rfl hv1 (fun hv1 => ?_) (fun hv1 => ?_)
      · refine r_iload_n (pc := 14) F dX10_spreads_14 rfl ?_
        refine r_bipush (pc := 15) F dX10_spreads_15 bp_99 ?_
        refine r_icmp_gt (pc := 17) (tgt := 26) F dX10_spreads_17 rfl hv1 (fun hv1 => ?_) (fun hv1 => ?_)
        · refine r_bipush (pc := 26) F dX10_spreads_26 bp_m6 ?_
          refine r_goto (pc := 28) (tgt := 41) F dX10_spreads_28 rfl ?_
          exact V_nm hv1.symm Jv1
        · refine r_iload_n (pc := 20) F dX10_spreads_20 rfl ?_
          refine r_bipush (pc := 21) F dX10_spreads_21 bp_99 ?_
          refine r_icmp_le (pc := 23) (tgt := 31) F dX10_spreads_23 rfl hv1 (fun hv1 => ?_) (fun hv1 => ?_)
          · refine r_iload_n (pc := 31) F dX10_spreads_31 rfl ?_
            refine r_iload_n (pc := 32) F dX10_spreads_32 rfl ?_
            refine r_icmp_lt (pc := 33) (tgt := 40) F dX10_spreads_33 rfl hv1 (fun hv1 => ?_) (fun hv1 => ?_)
            · refine r_iconst (pc := 40) F dX10_spreads_40 ic_0 ?_
              exact V_nm hv1.symm Jv1
            · refine r_iconst (pc := 36) F dX10_spreads_36 ic_m1 ?_
              refine r_goto (pc := 37) (tgt := 41) F dX10_spreads_37 rfl ?_
              exact V_nm hv1.symm Jv1
          · refine r_bipush (pc := 26) F dX10_spreads_26 bp_m6 ?_
            refine r_goto (pc := 28) (tgt := 41) F dX10_spreads_28 rfl ?_
            exact V_nm hv1.symm Jv1
      · refine r_bipush (pc := 9) F dX10_spreads_9 bp_m4 ?_
        refine r_goto (pc := 11) (tgt := 41) F dX10_spreads_11 rfl ?_
        exact V_nm hv1.symm Jv1
  refine r_istore_n (pc := 41) (ls' := [(0, .ref ((zg Z).1 42)), (1, .int a1), (2, .int a2), (3, .int v1)]) F dX10_spreads_41 (Nat.le_of_ble_eq_true rfl) rfl ?_
  refine r_iload_n (pc := 42) F dX10_spreads_42 rfl ?_
  refine r_if_eq (pc := 43) (tgt := 52) F dX10_spreads_43 rfl h0 (fun h0 => ?_) (fun h0 => ?_)
  · refine r_iload_n (pc := 52) F dX10_spreads_52 rfl ?_
    refine r_iload_n (pc := 53) F dX10_spreads_53 rfl ?_
    refine r_iconst (pc := 54) F dX10_spreads_54 ic_1 ?_
    refine r_isub (pc := 55) F dX10_spreads_55 ?_
    refine r_iload_n (pc := 56) F dX10_spreads_56 rfl ?_
    refine r_isub (pc := 57) F dX10_spreads_57 ?_
    refine r_icmp_le (pc := 58) (tgt := 65) F dX10_spreads_58 rfl h0 (fun h0 => ?_) (fun h0 => ?_)
    · refine r_iload_n (pc := 65) F dX10_spreads_65 rfl ?_
      refine r_iconst (pc := 66) F dX10_spreads_66 ic_1 ?_
      refine r_isub (pc := 67) F dX10_spreads_67 ?_
      refine r_iload_n (pc := 68) F dX10_spreads_68 rfl ?_
      refine r_isub (pc := 69) F dX10_spreads_69 ?_
      exact hR _ _ _ _ dX10_spreads_70 rfl (Option.some.inj h0)
    · refine r_iload_n (pc := 61) F dX10_spreads_61 rfl ?_
      refine r_goto (pc := 62) (tgt := 70) F dX10_spreads_62 rfl ?_
      exact hR _ _ _ _ dX10_spreads_70 rfl (Option.some.inj h0)
  · refine r_aload_n (pc := 46) F dX10_spreads_46 rfl ?_
    refine r_iload_n (pc := 47) F dX10_spreads_47 rfl ?_
    obtain ⟨q9, er8, h0⟩ := bind_some h0
    replace h0 := un2_eq h0
    obtain ⟨r8, w7, rfl, h0⟩ := h0
    refine r_Vj1 (pc := 48) F dX10_spreads_48 ml_10_99 (kX10_no _ w v1 (r8, w7) er8) i68_42 (ce_42 _ _ _) (Nat.le_of_ble_eq_true rfl) (Nat.le_of_ble_eq_true rfl) (Nat.le_of_ble_eq_true rfl) ?_
    exact hR _ _ _ _ dX10_spreads_51 rfl (Option.some.inj h0)
set_option maxRecDepth 100000 in
set_option maxHeartbeats 4000000 in
theorem kX10_lowest (g : GT) (w : Wd) (a1 : Int32) (out : Int64 × Wd) (h0 : fX10_lowest w a1 = some out) : CtL g yX10_lowest cX10_lowest 2 (some .long) 0 0 [.ref (g.1 42), .int a1] w (fun r w1 => (r, w1) = out) := by
  refine CtL_of (by decide) (Nat.le_of_ble_eq_true rfl) (fun Z hg F hR => ?_)
  subst hg
  have F : Fx Z RX10 cX10_lowest 2 0 0 := F
  refine V_sub (ls' := [(0, .ref ((zg Z).1 42)), (1, .int a1)]) [0, 1] rfl ?_
  unfold fX10_lowest at h0
  refine r_aload_n (pc := 0) F dX10_lowest_0 rfl ?_
  refine r_getf (pc := 1) F dX10_lowest_1 fl_10_7 i68_42 (ce_42 _ _ _) rfl ?_
  refine r_iload_n (pc := 4) F dX10_lowest_4 rfl ?_
  refine r_ineg (pc := 5) F dX10_lowest_5 ?_
  refine r_dup2 (pc := 6) F dX10_lowest_6 rfl rfl ?_
  obtain ⟨g1, h0⟩ := gd_some h0
  refine r_iald (pc := 7) F dX10_lowest_7 i68_43 (ca_43 _) g1 rfl ?_
  refine r_iconst (pc := 8) F dX10_lowest_8 ic_1 ?_
  refine r_iadd (pc := 9) F dX10_lowest_9 ?_
  obtain ⟨w2, ew2, h0⟩ := lt_some h0
  refine r_iast (pc := 10) F dX10_lowest_10 i68_43 (ca_43 _) g1 rfl ew2 ?_
  refine r_ldc2_w (pc := 11) F dX10_lowest_11 kc_10_86 ?_
  refine r_iload_n (pc := 14) F dX10_lowest_14 rfl ?_
  refine r_i2l (pc := 15) F dX10_lowest_15 ?_
  refine r_lsub (pc := 16) F dX10_lowest_16 ?_
  exact hR _ _ _ _ dX10_lowest_17 (Option.some.inj h0)
set_option maxRecDepth 100000 in
set_option maxHeartbeats 4000000 in
theorem kX10_tenthsOut (g : GT) (w : Wd) (a1 : Int32) (out : Int32) (h0 : fX10_tenthsOut w a1 = some out) : CtI g yX10_tenthsOut cX10_tenthsOut 3 (some .int) 4 91 [.ref (g.1 42), .int a1] w (fun r w1 => r = out ∧ w1 = w) := by
  refine CtI_of .int (by decide) (Nat.le_of_ble_eq_true rfl) (fun Z hg F hR => ?_)
  subst hg
  have F : Fx Z RX10 cX10_tenthsOut 3 4 91 := F
  refine V_sub (ls' := [(0, .ref ((zg Z).1 42)), (1, .int a1)]) [0, 1] rfl ?_
  unfold fX10_tenthsOut at h0
  refine r_aload_n (pc := 0) F dX10_tenthsOut_0 rfl ?_
  refine r_getf (pc := 1) F dX10_tenthsOut_1 fl_10_16 i68_42 (ce_42 _ _ _) rfl ?_
  refine r_iload_n (pc := 4) F dX10_tenthsOut_4 rfl ?_
  obtain ⟨g1, h0⟩ := gd_some h0
  refine r_iald (pc := 5) F dX10_tenthsOut_5 i68_45 (ca_45 _) g1 rfl ?_
  refine r_iconst (pc := 6) F dX10_tenthsOut_6 ic_3 ?_
  refine r_icmp_ne (pc := 7) (tgt := 12) F dX10_tenthsOut_7 rfl h0 (fun h0 => ?_) (fun h0 => ?_)
  · refine r_iconst (pc := 10) F dX10_tenthsOut_10 ic_0 ?_
    exact hR _ _ _ _ dX10_tenthsOut_11 rfl ⟨(Option.some.inj h0), rfl⟩
  · refine r_aload_n (pc := 12) F dX10_tenthsOut_12 rfl ?_
    refine r_iload_n (pc := 13) F dX10_tenthsOut_13 rfl ?_
    refine r_aload_n (pc := 14) F dX10_tenthsOut_14 rfl ?_
    refine r_getf (pc := 15) F dX10_tenthsOut_15 fl_10_127 i68_42 (ce_42 _ _ _) rfl ?_
    obtain ⟨r2, er2, h0⟩ := bind_some h0
    refine r_Vi2 (pc := 18) F dX10_tenthsOut_18 ml_10_197 (kX10_feltBy _ w a1 (w.1 42 8) r2 er2) i68_42 (ce_42 _ _ _) (Nat.le_of_ble_eq_true rfl) (Nat.le_of_ble_eq_true rfl) (Nat.le_of_ble_eq_true rfl) ?_
    refine r_aload_n (pc := 21) F dX10_tenthsOut_21 rfl ?_
    refine r_getf (pc := 22) F dX10_tenthsOut_22 fl_10_16 i68_42 (ce_42 _ _ _) rfl ?_
    refine r_iload_n (pc := 25) F dX10_tenthsOut_25 rfl ?_
    refine r_iald (pc := 26) F dX10_tenthsOut_26 i68_45 (ca_45 _) g1 rfl ?_
    refine r_aload_n (pc := 27) F dX10_tenthsOut_27 rfl ?_
    refine r_getf (pc := 28) F dX10_tenthsOut_28 fl_10_19 i68_42 (ce_42 _ _ _) rfl ?_
    refine r_iload_n (pc := 31) F dX10_tenthsOut_31 rfl ?_
    refine r_iald (pc := 32) F dX10_tenthsOut_32 i68_46 (ca_46 _) g1 rfl ?_
    refine r_Si2 (pc := 33) F dX10_tenthsOut_33 ml_10_200 (kX10_holdsOf _ w (w.1 45 a1.toNatClampNeg) (w.1 46 a1.toNatClampNeg) _ rfl) (Nat.le_of_ble_eq_true rfl) (Nat.le_of_ble_eq_true rfl) (Nat.le_of_ble_eq_true rfl) ?_
    refine r_isub (pc := 36) F dX10_tenthsOut_36 ?_
    refine r_iconst (pc := 37) F dX10_tenthsOut_37 ic_2 ?_
    refine r_iadd (pc := 38) F dX10_tenthsOut_38 ?_
    obtain ⟨v3, ev3, h0⟩ := lt_some h0
    refine V_nm ev3 ?_
    refine r_istore_n (pc := 39) (ls' := [(0, .ref ((zg Z).1 42)), (1, .int a1), (2, .int v3)]) F dX10_tenthsOut_39 (Nat.le_of_ble_eq_true rfl) rfl ?_
    refine r_iload_n (pc := 40) F dX10_tenthsOut_40 rfl ?_
    refine r_if_ge (pc := 41) (tgt := 48) F dX10_tenthsOut_41 rfl h0 (fun h0 => ?_) (fun h0 => ?_)
    · refine r_iload_n (pc := 48) F dX10_tenthsOut_48 rfl ?_
      refine r_bipush (pc := 49) F dX10_tenthsOut_49 bp_9 ?_
      refine r_icmp_le (pc := 51) (tgt := 59) F dX10_tenthsOut_51 rfl h0 (fun h0 => ?_) (fun h0 => ?_)
      · refine r_iload_n (pc := 59) F dX10_tenthsOut_59 rfl ?_
        exact hR _ _ _ _ dX10_tenthsOut_60 rfl ⟨(Option.some.inj h0), rfl⟩
      · refine r_bipush (pc := 54) F dX10_tenthsOut_54 bp_9 ?_
        refine r_goto (pc := 56) (tgt := 60) F dX10_tenthsOut_56 rfl ?_
        exact hR _ _ _ _ dX10_tenthsOut_60 rfl ⟨(Option.some.inj h0), rfl⟩
    · refine r_iconst (pc := 44) F dX10_tenthsOut_44 ic_0 ?_
      refine r_goto (pc := 45) (tgt := 60) F dX10_tenthsOut_45 rfl ?_
      exact hR _ _ _ _ dX10_tenthsOut_60 rfl ⟨(Option.some.inj h0), rfl⟩
set_option maxRecDepth 100000 in
set_option maxHeartbeats 4000000 in
theorem kX10_stays (g : GT) (w : Wd) (a1 : Int32) (a2 : Int32) (out : Int64) (h0 : fX10_stays w a1 a2 = some out) : CtL g yX10_stays cX10_stays 7 (some .long) 5 113 [.ref (g.1 42), .int a1, .int a2] w (fun r w1 => r = out ∧ w1 = w) := by
  refine CtL_of (by decide) (Nat.le_of_ble_eq_true rfl) (fun Z hg F hR => ?_)
  subst hg
  have F : Fx Z RX10 cX10_stays 7 5 113 := F
  refine V_sub (ls' := [(0, .ref ((zg Z).1 42)), (1, .int a1), (2, .int a2)]) [0, 1, 2] rfl ?_
  unfold fX10_stays at h0
  refine r_lconst (pc := 0) F dX10_stays_0 (rfl : Int64.ofNat _ = 1) ?_
  refine r_lstore_n (pc := 1) (ls' := [(0, .ref ((zg Z).1 42)), (1, .int a1), (2, .int a2), (3, .long 1)]) F dX10_stays_1 (Nat.le_of_ble_eq_true rfl) rfl ?_
  refine r_iconst (pc := 2) F dX10_stays_2 ic_0 ?_
  refine r_istore (pc := 3) (ls' := [(0, .ref ((zg Z).1 42)), (1, .int a1), (2, .int a2), (3, .long 1), (5, .int 0)]) F dX10_stays_3 (Nat.le_of_ble_eq_true rfl) rfl ?_
  obtain ⟨l11, il11, h0⟩ := bind_some h0
  suffices E5 : V Z 67 [(3, .long l11)] [] w by
    refine iter_rule (P := fun s : Int64 × Int32 => V Z 5 [(0, .ref ((zg Z).1 42)), (1, .int a1), (2, .int a2), (3, .long (s.1)), (5, .int (s.2))] [] w) (x := l11) ?_ FU (1, 0) il11
    intro s y1 h1 hP1 hX1
    obtain ⟨l1, l2⟩ := s
    have h1 : fX10_stays_b5 w a1 a2 l1 l2 = some y1 := h1
    unfold fX10_stays_b5 at h1
    refine r_iload (pc := 5) F dX10_stays_5 rfl ?_
    refine r_aload_n (pc := 7) F dX10_stays_7 rfl ?_
    refine r_getf (pc := 8) F dX10_stays_8 fl_10_88 i68_42 (ce_42 _ _ _) rfl ?_
    refine r_icmp_ge (pc := 11) (tgt := 67) F dX10_stays_11 rfl h1 (fun h1 => ?_) (fun h1 => ?_)
    · refine V_sub (ls' := [(3, .long l1)]) [3] rfl ?_
      have e3 := hX1 _ (Option.some.inj h1).symm
      cases e3
      exact E5
    · refine r_aload_n (pc := 14) F dX10_stays_14 rfl ?_
      refine r_iload (pc := 15) F dX10_stays_15 rfl ?_
      obtain ⟨r4, er4, h1⟩ := bind_some h1
      refine r_Vi1 (pc := 17) F dX10_stays_17 ml_10_286 (kX10_tenthsOut _ w l2 r4 er4) i68_42 (ce_42 _ _ _) (Nat.le_of_ble_eq_true rfl) (Nat.le_of_ble_eq_true rfl) (Nat.le_of_ble_eq_true rfl) ?_
      refine r_istore (pc := 20) (ls' := [(0, .ref ((zg Z).1 42)), (1, .int a1), (2, .int a2), (3, .long l1), (5, .int l2), (6, .int r4)]) F dX10_stays_20 (Nat.le_of_ble_eq_true rfl) rfl ?_
      refine r_lload_n (pc := 22) F dX10_stays_22 rfl ?_
      refine r_iload_n (pc := 23) F dX10_stays_23 rfl ?_
      refine r_iload (pc := 24) F dX10_stays_24 rfl ?_
      refine r_Si2 (pc := 26) F dX10_stays_26 ml_10_147 (kX10_has _ w a1 l2 _ rfl) (Nat.le_of_ble_eq_true rfl) (Nat.le_of_ble_eq_true rfl) (Nat.le_of_ble_eq_true rfl) ?_
      obtain ⟨v5, hv5, h1⟩ := lt_some h1
      have hv5 := hv5.symm
      suffices Jv5 : V Z 59 [(0, .ref ((zg Z).1 42)), (1, .int a1), (2, .int a2), (3, .long l1), (5, .int l2), (6, .int r4)] [.long v5, .long l1] w by
        refine r_if_ne (pc := 29) (tgt := 38) F dX10_stays_29 rfl hv5 (fun hv5 => ?_) (fun hv5 => ?_)
        · refine r_ldc2_w (pc := 32) F dX10_stays_32 kc_10_289 ?_
          refine r_goto (pc := 35) (tgt := 59) F dX10_stays_35 rfl ?_
          exact V_nmL hv5.symm Jv5
        · refine r_iload_n (pc := 38) F dX10_stays_38 rfl ?_
          refine r_iload (pc := 39) F dX10_stays_39 rfl ?_
          refine r_Si2 (pc := 41) F dX10_stays_41 ml_10_147 (kX10_has _ w a2 l2 _ rfl) (Nat.le_of_ble_eq_true rfl) (Nat.le_of_ble_eq_true rfl) (Nat.le_of_ble_eq_true rfl) ?_
          refine r_if_eq (pc := 44) (tgt := 56) F dX10_stays_44 rfl hv5 (fun hv5 => ?_) (fun hv5 => ?_)
          · refine r_iload (pc := 56) F dX10_stays_56 rfl ?_
            refine r_i2l (pc := 58) F dX10_stays_58 ?_
            exact V_nmL hv5.symm Jv5
          · refine r_bipush (pc := 47) F dX10_stays_47 bp_10 ?_
            refine r_iload (pc := 49) F dX10_stays_49 rfl ?_
            refine r_isub (pc := 51) F dX10_stays_51 ?_
            refine r_i2l (pc := 52) F dX10_stays_52 ?_
            refine r_goto (pc := 53) (tgt := 59) F dX10_stays_53 rfl ?_
            exact V_nmL hv5.symm Jv5
      refine r_lmul (pc := 59) F dX10_stays_59 ?_
      obtain ⟨v7, ev7, h1⟩ := lt_some h1
      refine V_nmL ev7 ?_
      refine r_lstore_n (pc := 60) (ls' := [(0, .ref ((zg Z).1 42)), (1, .int a1), (2, .int a2), (3, .long v7), (5, .int l2), (6, .int r4)]) F dX10_stays_60 (Nat.le_of_ble_eq_true rfl) rfl ?_
      obtain ⟨v8, ev8, h1⟩ := lt_some h1
      refine r_iinc (pc := 61) (ls' := [(0, .ref ((zg Z).1 42)), (1, .int a1), (2, .int a2), (3, .long v7), (5, .int v8), (6, .int r4)]) F dX10_stays_61 rfl (by rw [ev8]; rfl) (Nat.le_of_ble_eq_true rfl) rfl ?_
      refine r_goto (pc := 64) (tgt := 5) F dX10_stays_64 rfl ?_
      refine V_sub (ls' := [(0, .ref ((zg Z).1 42)), (1, .int a1), (2, .int a2), (3, .long v7), (5, .int v8)]) [0, 1, 2, 3, 4] rfl ?_
      exact hP1 (v7, v8) (Option.some.inj h1).symm
  refine r_lload_n (pc := 67) F dX10_stays_67 rfl ?_
  exact hR _ _ _ _ dX10_stays_68 ⟨(Option.some.inj h0), rfl⟩
set_option maxRecDepth 100000 in
set_option maxHeartbeats 4000000 in
theorem kX10_goesChances (g : GT) (w : Wd) (out : Wd) (h0 : fX10_goesChances w = some out) : CtV g yX10_goesChances cX10_goesChances 4 none 6 139 [.ref (g.1 42)] w (fun w1 => w1 = out) := by
  refine CtV_of (by decide) (Nat.le_of_ble_eq_true rfl) (fun Z hg F hR => ?_)
  subst hg
  have F : Fx Z RX10 cX10_goesChances 4 6 139 := F
  refine V_sub (ls' := [(0, .ref ((zg Z).1 42))]) [0] rfl ?_
  unfold fX10_goesChances at h0
  refine r_iconst (pc := 0) F dX10_goesChances_0 ic_0 ?_
  refine r_istore_n (pc := 1) (ls' := [(0, .ref ((zg Z).1 42)), (1, .int 0)]) F dX10_goesChances_1 (Nat.le_of_ble_eq_true rfl) rfl ?_
  obtain ⟨w10, iw10, h0⟩ := bind_some h0
  suffices E2 : V Z 21 [(0, .ref ((zg Z).1 42))] [] w10 by
    refine iter_rule (P := fun s : Int32 × Wd => V Z 2 [(0, .ref ((zg Z).1 42)), (1, .int (s.1))] [] s.2) (x := w10) ?_ FU (0, w) iw10
    intro s y1 h1 hP1 hX1
    obtain ⟨l1, w2⟩ := s
    have h1 : fX10_goesChances_b2 l1 w2 = some y1 := h1
    unfold fX10_goesChances_b2 at h1
    refine r_iload_n (pc := 2) F dX10_goesChances_2 rfl ?_
    refine r_bipush (pc := 3) F dX10_goesChances_3 bp_16 ?_
    refine r_icmp_ge (pc := 5) (tgt := 21) F dX10_goesChances_5 rfl h1 (fun h1 => ?_) (fun h1 => ?_)
    · refine V_sub (ls' := [(0, .ref ((zg Z).1 42))]) [0] rfl ?_
      have e3 := hX1 _ (Option.some.inj h1).symm
      cases e3
      exact E2
    · refine r_aload_n (pc := 8) F dX10_goesChances_8 rfl ?_
      refine r_getf (pc := 9) F dX10_goesChances_9 fl_10_74 i68_42 (ce_42 _ _ _) rfl ?_
      refine r_iload_n (pc := 12) F dX10_goesChances_12 rfl ?_
      refine r_lconst (pc := 13) F dX10_goesChances_13 (rfl : Int64.ofNat _ = 0) ?_
      obtain ⟨g5, h1⟩ := gd_some h1
      obtain ⟨w4, ew4, h1⟩ := lt_some h1
      refine r_last (pc := 14) F dX10_goesChances_14 i68_64 (ca_64 _) g5 rfl ew4 ?_
      obtain ⟨v7, ev7, h1⟩ := lt_some h1
      refine r_iinc (pc := 15) (ls' := [(0, .ref ((zg Z).1 42)), (1, .int v7)]) F dX10_goesChances_15 rfl (by rw [ev7]; rfl) (Nat.le_of_ble_eq_true rfl) rfl ?_
      refine r_goto (pc := 18) (tgt := 2) F dX10_goesChances_18 rfl ?_
      exact hP1 (v7, w4) (Option.some.inj h1).symm
  refine r_iconst (pc := 21) F dX10_goesChances_21 ic_0 ?_
  refine r_istore_n (pc := 22) (ls' := [(0, .ref ((zg Z).1 42)), (1, .int 0)]) F dX10_goesChances_22 (Nat.le_of_ble_eq_true rfl) rfl ?_
  obtain ⟨w33, iw33, h0⟩ := bind_some h0
  suffices E23 : V Z 94 [(0, .ref ((zg Z).1 42))] [] w33 by
    refine iter_rule (P := fun s : Int32 × Wd => V Z 23 [(0, .ref ((zg Z).1 42)), (1, .int (s.1))] [] s.2) (x := w33) ?_ FU (0, w10) iw33
    intro s y1 h1 hP1 hX1
    obtain ⟨l12, w13⟩ := s
    have h1 : fX10_goesChances_b23 l12 w13 = some y1 := h1
    unfold fX10_goesChances_b23 at h1
    refine r_iload_n (pc := 23) F dX10_goesChances_23 rfl ?_
    refine r_sipush (pc := 24) F dX10_goesChances_24 sp_256 ?_
    refine r_icmp_ge (pc := 27) (tgt := 94) F dX10_goesChances_27 rfl h1 (fun h1 => ?_) (fun h1 => ?_)
    · refine V_sub (ls' := [(0, .ref ((zg Z).1 42))]) [0] rfl ?_
      have e14 := hX1 _ (Option.some.inj h1).symm
      cases e14
      exact E23
    · refine r_iload_n (pc := 30) F dX10_goesChances_30 rfl ?_
      refine r_bipush (pc := 31) F dX10_goesChances_31 bp_16 ?_
      refine r_idiv (pc := 33) F dX10_goesChances_33 (by decide) ?_
      obtain ⟨v15, ev15, h1⟩ := lt_some h1
      refine V_nm ev15 ?_
      refine r_istore_n (pc := 34) (ls' := [(0, .ref ((zg Z).1 42)), (1, .int l12), (2, .int v15)]) F dX10_goesChances_34 (Nat.le_of_ble_eq_true rfl) rfl ?_
      refine r_iload_n (pc := 35) F dX10_goesChances_35 rfl ?_
      refine r_bipush (pc := 36) F dX10_goesChances_36 bp_16 ?_
      refine r_irem (pc := 38) F dX10_goesChances_38 (by decide) ?_
      obtain ⟨v16, ev16, h1⟩ := lt_some h1
      refine V_nm ev16 ?_
      refine r_istore_n (pc := 39) (ls' := [(0, .ref ((zg Z).1 42)), (1, .int l12), (2, .int v15), (3, .int v16)]) F dX10_goesChances_39 (Nat.le_of_ble_eq_true rfl) rfl ?_
      refine r_aload_n (pc := 40) F dX10_goesChances_40 rfl ?_
      refine r_getf (pc := 41) F dX10_goesChances_41 fl_10_70 i68_42 (ce_42 _ _ _) rfl ?_
      refine r_iload_n (pc := 44) F dX10_goesChances_44 rfl ?_
      obtain ⟨g17, h1⟩ := gd_some h1
      refine r_lald (pc := 45) F dX10_goesChances_45 i68_63 (ca_63 _) g17 rfl ?_
      refine r_lconst (pc := 46) F dX10_goesChances_46 (rfl : Int64.ofNat _ = 0) ?_
      refine r_lcmp (pc := 47) F dX10_goesChances_47 ?_
      refine r_if_eq (pc := 48) (tgt := 88) F dX10_goesChances_48 rfl h1 (fun h1 => ?_) (fun h1 => ?_)
      · obtain ⟨v18, ev18, h1⟩ := lt_some h1
        refine r_iinc (pc := 88) (ls' := [(0, .ref ((zg Z).1 42)), (1, .int v18), (2, .int v15), (3, .int v16)]) F dX10_goesChances_88 rfl (by rw [ev18]; rfl) (Nat.le_of_ble_eq_true rfl) rfl ?_
        refine r_goto (pc := 91) (tgt := 23) F dX10_goesChances_91 rfl ?_
        refine V_sub (ls' := [(0, .ref ((zg Z).1 42)), (1, .int v18)]) [0, 1] rfl ?_
        exact hP1 (v18, w13) (Option.some.inj h1).symm
      · refine r_iload_n (pc := 51) F dX10_goesChances_51 rfl ?_
        refine r_iload_n (pc := 52) F dX10_goesChances_52 rfl ?_
        refine r_iconst (pc := 53) F dX10_goesChances_53 ic_m1 ?_
        refine r_ixor (pc := 54) F dX10_goesChances_54 ?_
        refine r_iand (pc := 55) F dX10_goesChances_55 ?_
        refine r_if_eq (pc := 56) (tgt := 62) F dX10_goesChances_56 rfl h1 (fun h1 => ?_) (fun h1 => ?_)
        · refine r_aload_n (pc := 62) F dX10_goesChances_62 rfl ?_
          refine r_getf (pc := 63) F dX10_goesChances_63 fl_10_74 i68_42 (ce_42 _ _ _) rfl ?_
          refine r_aload_n (pc := 66) F dX10_goesChances_66 rfl ?_
          refine r_iload_n (pc := 67) F dX10_goesChances_67 rfl ?_
          obtain ⟨q21, er20, h1⟩ := bind_some h1
          replace h1 := un2_eq h1
          obtain ⟨r20, w19, rfl, h1⟩ := h1
          refine r_Vj1 (pc := 68) F dX10_goesChances_68 ml_10_215 (kX10_spread _ w13 v16 (r20, w19) er20) i68_42 (ce_42 _ _ _) (Nat.le_of_ble_eq_true rfl) (Nat.le_of_ble_eq_true rfl) (Nat.le_of_ble_eq_true rfl) ?_
          refine r_dup2 (pc := 71) F dX10_goesChances_71 rfl rfl ?_
          obtain ⟨g23, h1⟩ := gd_some h1
          refine r_lald (pc := 72) F dX10_goesChances_72 i68_64 (ca_64 _) g23 rfl ?_
          refine r_aload_n (pc := 73) F dX10_goesChances_73 rfl ?_
          refine r_getf (pc := 74) F dX10_goesChances_74 fl_10_70 i68_42 (ce_42 _ _ _) rfl ?_
          refine r_iload_n (pc := 77) F dX10_goesChances_77 rfl ?_
          refine r_lald (pc := 78) F dX10_goesChances_78 i68_63 (ca_63 _) g17 rfl ?_
          refine r_aload_n (pc := 79) F dX10_goesChances_79 rfl ?_
          refine r_iload_n (pc := 80) F dX10_goesChances_80 rfl ?_
          refine r_iload_n (pc := 81) F dX10_goesChances_81 rfl ?_
          obtain ⟨r24, er24, h1⟩ := bind_some h1
          refine r_Vl2 (pc := 82) F dX10_goesChances_82 ml_10_291 (kX10_stays _ w19 v15 v16 r24 er24) i68_42 (ce_42 _ _ _) (Nat.le_of_ble_eq_true rfl) (Nat.le_of_ble_eq_true rfl) (Nat.le_of_ble_eq_true rfl) ?_
          refine r_lmul (pc := 85) F dX10_goesChances_85 ?_
          refine r_ladd (pc := 86) F dX10_goesChances_86 ?_
          obtain ⟨w25, ew25, h1⟩ := lt_some h1
          refine r_last (pc := 87) F dX10_goesChances_87 i68_64 (ca_64 _) g23 rfl ew25 ?_
          obtain ⟨v27, ev27, h1⟩ := lt_some h1
          refine r_iinc (pc := 88) (ls' := [(0, .ref ((zg Z).1 42)), (1, .int v27), (2, .int v15), (3, .int v16)]) F dX10_goesChances_88 rfl (by rw [ev27]; rfl) (Nat.le_of_ble_eq_true rfl) rfl ?_
          refine r_goto (pc := 91) (tgt := 23) F dX10_goesChances_91 rfl ?_
          refine V_sub (ls' := [(0, .ref ((zg Z).1 42)), (1, .int v27)]) [0, 1] rfl ?_
          exact hP1 (v27, w25) (Option.some.inj h1).symm
        · refine r_goto (pc := 59) (tgt := 88) F dX10_goesChances_59 rfl ?_
          obtain ⟨v28, ev28, h1⟩ := lt_some h1
          refine r_iinc (pc := 88) (ls' := [(0, .ref ((zg Z).1 42)), (1, .int v28), (2, .int v15), (3, .int v16)]) F dX10_goesChances_88 rfl (by rw [ev28]; rfl) (Nat.le_of_ble_eq_true rfl) rfl ?_
          refine r_goto (pc := 91) (tgt := 23) F dX10_goesChances_91 rfl ?_
          refine V_sub (ls' := [(0, .ref ((zg Z).1 42)), (1, .int v28)]) [0, 1] rfl ?_
          exact hP1 (v28, w13) (Option.some.inj h1).symm
  refine r_iconst (pc := 94) F dX10_goesChances_94 ic_0 ?_
  refine r_istore_n (pc := 95) (ls' := [(0, .ref ((zg Z).1 42)), (1, .int 0)]) F dX10_goesChances_95 (Nat.le_of_ble_eq_true rfl) rfl ?_
  obtain ⟨w44, iw44, h0⟩ := bind_some h0
  suffices E96 : V Z 120 [(0, .ref ((zg Z).1 42))] [] w44 by
    refine iter_rule (P := fun s : Int32 × Wd => V Z 96 [(0, .ref ((zg Z).1 42)), (1, .int (s.1))] [] s.2) (x := w44) ?_ FU (0, w33) iw44
    intro s y1 h1 hP1 hX1
    obtain ⟨l35, w36⟩ := s
    have h1 : fX10_goesChances_b96 l35 w36 = some y1 := h1
    unfold fX10_goesChances_b96 at h1
    refine r_iload_n (pc := 96) F dX10_goesChances_96 rfl ?_
    refine r_bipush (pc := 97) F dX10_goesChances_97 bp_16 ?_
    refine r_icmp_ge (pc := 99) (tgt := 120) F dX10_goesChances_99 rfl h1 (fun h1 => ?_) (fun h1 => ?_)
    · refine V_sub (ls' := [(0, .ref ((zg Z).1 42))]) [0] rfl ?_
      have e37 := hX1 _ (Option.some.inj h1).symm
      cases e37
      exact E96
    · refine r_aload_n (pc := 102) F dX10_goesChances_102 rfl ?_
      refine r_getf (pc := 103) F dX10_goesChances_103 fl_10_70 i68_42 (ce_42 _ _ _) rfl ?_
      refine r_iload_n (pc := 106) F dX10_goesChances_106 rfl ?_
      refine r_aload_n (pc := 107) F dX10_goesChances_107 rfl ?_
      refine r_getf (pc := 108) F dX10_goesChances_108 fl_10_74 i68_42 (ce_42 _ _ _) rfl ?_
      refine r_iload_n (pc := 111) F dX10_goesChances_111 rfl ?_
      obtain ⟨g38, h1⟩ := gd_some h1
      refine r_lald (pc := 112) F dX10_goesChances_112 i68_64 (ca_64 _) g38 rfl ?_
      obtain ⟨w39, ew39, h1⟩ := lt_some h1
      refine r_last (pc := 113) F dX10_goesChances_113 i68_63 (ca_63 _) g38 rfl ew39 ?_
      obtain ⟨v41, ev41, h1⟩ := lt_some h1
      refine r_iinc (pc := 114) (ls' := [(0, .ref ((zg Z).1 42)), (1, .int v41)]) F dX10_goesChances_114 rfl (by rw [ev41]; rfl) (Nat.le_of_ble_eq_true rfl) rfl ?_
      refine r_goto (pc := 117) (tgt := 96) F dX10_goesChances_117 rfl ?_
      exact hP1 (v41, w39) (Option.some.inj h1).symm
  refine r_aload_n (pc := 120) F dX10_goesChances_120 rfl ?_
  refine r_dup (pc := 121) F dX10_goesChances_121 rfl ?_
  refine r_getf (pc := 122) F dX10_goesChances_122 fl_10_127 i68_42 (ce_42 _ _ _) rfl ?_
  refine r_iconst (pc := 125) F dX10_goesChances_125 ic_1 ?_
  refine r_iadd (pc := 126) F dX10_goesChances_126 ?_
  obtain ⟨w46, ew46, h0⟩ := lt_some h0
  refine r_putI (pc := 127) F dX10_goesChances_127 fl_10_127 fp_10_8 i68_42 (ce_42 _) (Nat.le_of_ble_eq_true rfl) rfl rfl rfl ew46 ?_
  exact hR _ _ _ dX10_goesChances_130 (Option.some.inj h0)
set_option maxRecDepth 100000 in
set_option maxHeartbeats 4000000 in
theorem kX10_divisor (g : GT) (w : Wd) (a0 : Int64) (a2 : Int64) (out : Int64) (h0 : fX10_divisor a0 a2 = some out) : CtL g yX10_divisor cX10_divisor 10 (some .long) 0 0 [.long a0, .long a2] w (fun r w1 => r = out ∧ w1 = w) := by
  refine CtL_of (by decide) (Nat.le_of_ble_eq_true rfl) (fun Z hg F hR => ?_)
  subst hg
  have F : Fx Z RX10 cX10_divisor 10 0 0 := F
  refine V_sub (ls' := [(0, .long a0), (2, .long a2)]) [0, 1] rfl ?_
  unfold fX10_divisor at h0
  refine r_lload_n (pc := 0) F dX10_divisor_0 rfl ?_
  refine r_lstore (pc := 1) (ls' := [(0, .long a0), (2, .long a2), (4, .long a0)]) F dX10_divisor_1 (Nat.le_of_ble_eq_true rfl) rfl ?_
  refine r_lload_n (pc := 3) F dX10_divisor_3 rfl ?_
  refine r_lstore (pc := 4) (ls' := [(0, .long a0), (2, .long a2), (4, .long a0), (6, .long a2)]) F dX10_divisor_4 (Nat.le_of_ble_eq_true rfl) rfl ?_
  refine V_sub (ls' := [(4, .long a0), (6, .long a2)]) [2, 3] rfl ?_
  obtain ⟨l8, il8, h0⟩ := bind_some h0
  suffices E6 : V Z 31 [(4, .long l8)] [] w by
    refine iter_rule (P := fun s : Int64 × Int64 => V Z 6 [(4, .long (s.1)), (6, .long (s.2))] [] w) (x := l8) ?_ FU (a0, a2) il8
    intro s y1 h1 hP1 hX1
    obtain ⟨l1, l2⟩ := s
    have h1 : fX10_divisor_b6 l1 l2 = some y1 := h1
    unfold fX10_divisor_b6 at h1
    refine r_lload (pc := 6) F dX10_divisor_6 rfl ?_
    refine r_lconst (pc := 8) F dX10_divisor_8 (rfl : Int64.ofNat _ = 0) ?_
    refine r_lcmp (pc := 9) F dX10_divisor_9 ?_
    refine r_if_eq (pc := 10) (tgt := 31) F dX10_divisor_10 rfl h1 (fun h1 => ?_) (fun h1 => ?_)
    · refine V_sub (ls' := [(4, .long l1)]) [0] rfl ?_
      have e3 := hX1 _ (Option.some.inj h1).symm
      cases e3
      exact E6
    · refine r_lload (pc := 13) F dX10_divisor_13 rfl ?_
      refine r_lload (pc := 15) F dX10_divisor_15 rfl ?_
      obtain ⟨g4, h1⟩ := gd_some h1
      refine r_lrem (pc := 17) F dX10_divisor_17 (by simpa using g4) ?_
      obtain ⟨v5, ev5, h1⟩ := lt_some h1
      refine V_nmL ev5 ?_
      refine r_lstore (pc := 18) (ls' := [(4, .long l1), (6, .long l2), (8, .long v5)]) F dX10_divisor_18 (Nat.le_of_ble_eq_true rfl) rfl ?_
      refine r_lload (pc := 20) F dX10_divisor_20 rfl ?_
      refine r_lstore (pc := 22) (ls' := [(4, .long l2), (6, .long l2), (8, .long v5)]) F dX10_divisor_22 (Nat.le_of_ble_eq_true rfl) rfl ?_
      refine r_lload (pc := 24) F dX10_divisor_24 rfl ?_
      refine r_lstore (pc := 26) (ls' := [(4, .long l2), (6, .long v5), (8, .long v5)]) F dX10_divisor_26 (Nat.le_of_ble_eq_true rfl) rfl ?_
      refine r_goto (pc := 28) (tgt := 6) F dX10_divisor_28 rfl ?_
      refine V_sub (ls' := [(4, .long l2), (6, .long v5)]) [0, 1] rfl ?_
      exact hP1 (l2, v5) (Option.some.inj h1).symm
  refine r_lload (pc := 31) F dX10_divisor_31 rfl ?_
  exact hR _ _ _ _ dX10_divisor_33 ⟨(Option.some.inj h0), rfl⟩
set_option maxRecDepth 100000 in
set_option maxHeartbeats 4000000 in
theorem kX10_chances (g : GT) (w : Wd) (a1 : Int32) (a2 : Int32) (a3 : Int32) (out : Int64 × Wd) (h0 : fX10_chances w a1 a2 a3 = some out) : CtL g yX10_chances cX10_chances 11 (some .long) 7 162 [.ref (g.1 42), .int a1, .int a2, .int a3] w (fun r w1 => (r, w1) = out) := by
  refine CtL_of (by decide) (Nat.le_of_ble_eq_true rfl) (fun Z hg F hR => ?_)
  subst hg
  have F : Fx Z RX10 cX10_chances 11 7 162 := F
  refine V_sub (ls' := [(0, .ref ((zg Z).1 42)), (1, .int a1), (2, .int a2), (3, .int a3)]) [0, 1, 2, 3] rfl ?_
  unfold fX10_chances at h0
  have J65 : ∀ (w7 : Wd) (l6 : Int32), fX10_chances_j65 a1 a2 a3 w7 l6 = some out → V Z 65 [(0, .ref ((zg Z).1 42)), (1, .int a1), (2, .int a2), (3, .int a3), (4, .int l6)] [] w7 := by
    intro w7 l6 h0
    unfold fX10_chances_j65 at h0
    refine r_iload (pc := 65) F dX10_chances_65 rfl ?_
    refine r_if_eq (pc := 67) (tgt := 77) F dX10_chances_67 rfl h0 (fun h0 => ?_) (fun h0 => ?_)
    · refine r_aload_n (pc := 77) F dX10_chances_77 rfl ?_
      refine r_getf (pc := 78) F dX10_chances_78 fl_10_127 i68_42 (ce_42 _ _ _) rfl ?_
      obtain ⟨v8, ev8, h0⟩ := lt_some h0
      refine V_nm ev8 ?_
      refine r_istore (pc := 81) (ls' := [(0, .ref ((zg Z).1 42)), (1, .int a1), (2, .int a2), (3, .int a3), (4, .int l6), (5, .int v8)]) F dX10_chances_81 (Nat.le_of_ble_eq_true rfl) rfl ?_
      refine r_iconst (pc := 83) F dX10_chances_83 ic_0 ?_
      refine r_istore (pc := 84) (ls' := [(0, .ref ((zg Z).1 42)), (1, .int a1), (2, .int a2), (3, .int a3), (4, .int l6), (5, .int v8), (6, .int 0)]) F dX10_chances_84 (Nat.le_of_ble_eq_true rfl) rfl ?_
      refine V_sub (ls' := [(0, .ref ((zg Z).1 42)), (1, .int a1), (2, .int a2), (3, .int a3), (5, .int v8), (6, .int 0)]) [0, 1, 2, 3, 5, 6] rfl ?_
      obtain ⟨w19, iw19, h0⟩ := bind_some h0
      suffices E86 : V Z 120 [(0, .ref ((zg Z).1 42)), (1, .int a1), (2, .int a2), (3, .int a3), (5, .int v8)] [] w19 by
        refine iter_rule (P := fun s : Int32 × Wd => V Z 86 [(0, .ref ((zg Z).1 42)), (1, .int a1), (2, .int a2), (3, .int a3), (5, .int v8), (6, .int (s.1))] [] s.2) (x := w19) ?_ FU (0, w7) iw19
        intro s y1 h1 hP1 hX1
        obtain ⟨l9, w10⟩ := s
        have h1 : fX10_chances_b86 l9 w10 = some y1 := h1
        unfold fX10_chances_b86 at h1
        refine r_iload (pc := 86) F dX10_chances_86 rfl ?_
        refine r_bipush (pc := 88) F dX10_chances_88 bp_16 ?_
        refine r_icmp_ge (pc := 90) (tgt := 120) F dX10_chances_90 rfl h1 (fun h1 => ?_) (fun h1 => ?_)
        · refine V_sub (ls' := [(0, .ref ((zg Z).1 42)), (1, .int a1), (2, .int a2), (3, .int a3), (5, .int v8)]) [0, 1, 2, 3, 4] rfl ?_
          have e11 := hX1 _ (Option.some.inj h1).symm
          cases e11
          exact E86
        · refine r_aload_n (pc := 93) F dX10_chances_93 rfl ?_
          refine r_getf (pc := 94) F dX10_chances_94 fl_10_70 i68_42 (ce_42 _ _ _) rfl ?_
          refine r_iload (pc := 97) F dX10_chances_97 rfl ?_
          refine r_iload (pc := 99) F dX10_chances_99 rfl ?_
          refine r_aload_n (pc := 101) F dX10_chances_101 rfl ?_
          refine r_getf (pc := 102) F dX10_chances_102 fl_10_124 i68_42 (ce_42 _ _ _) rfl ?_
          obtain ⟨v12, hv12, h1⟩ := lt_some h1
          have hv12 := hv12.symm
          suffices Jv12 : V Z 113 [(0, .ref ((zg Z).1 42)), (1, .int a1), (2, .int a2), (3, .int a3), (5, .int v8), (6, .int l9)] [.long v12, .int l9, .ref ((zg Z).1 63)] w10 by
            refine r_icmp_ne (pc := 105) (tgt := 112) F dX10_chances_105 rfl hv12 (fun hv12 => ?_) (fun hv12 => ?_)
            · refine r_lconst (pc := 108) F dX10_chances_108 (rfl : Int64.ofNat _ = 1) ?_
              refine r_goto (pc := 109) (tgt := 113) F dX10_chances_109 rfl ?_
              exact V_nmL hv12.symm Jv12
            · refine r_lconst (pc := 112) F dX10_chances_112 (rfl : Int64.ofNat _ = 0) ?_
              exact V_nmL hv12.symm Jv12
          obtain ⟨g14, h1⟩ := gd_some h1
          obtain ⟨w13, ew13, h1⟩ := lt_some h1
          refine r_last (pc := 113) F dX10_chances_113 i68_63 (ca_63 _) g14 rfl ew13 ?_
          obtain ⟨v16, ev16, h1⟩ := lt_some h1
          refine r_iinc (pc := 114) (ls' := [(0, .ref ((zg Z).1 42)), (1, .int a1), (2, .int a2), (3, .int a3), (5, .int v8), (6, .int v16)]) F dX10_chances_114 rfl (by rw [ev16]; rfl) (Nat.le_of_ble_eq_true rfl) rfl ?_
          refine r_goto (pc := 117) (tgt := 86) F dX10_chances_117 rfl ?_
          exact hP1 (v16, w13) (Option.some.inj h1).symm
      refine r_lconst (pc := 120) F dX10_chances_120 (rfl : Int64.ofNat _ = 1) ?_
      refine r_lstore (pc := 121) (ls' := [(0, .ref ((zg Z).1 42)), (1, .int a1), (2, .int a2), (3, .int a3), (5, .int v8), (6, .long 1)]) F dX10_chances_121 (Nat.le_of_ble_eq_true rfl) rfl ?_
      refine r_iconst (pc := 123) F dX10_chances_123 ic_0 ?_
      refine r_istore (pc := 124) (ls' := [(0, .ref ((zg Z).1 42)), (1, .int a1), (2, .int a2), (3, .int a3), (5, .int v8), (6, .long 1), (8, .int 0)]) F dX10_chances_124 (Nat.le_of_ble_eq_true rfl) rfl ?_
      obtain ⟨x37, ix37, h0⟩ := bind_some h0
      replace h0 := un2_eq h0
      obtain ⟨l38, w39, rfl, h0⟩ := h0
      suffices E126 : V Z 168 [(0, .ref ((zg Z).1 42)), (2, .int a2), (3, .int a3), (5, .int v8), (6, .long l38)] [] w39 by
        refine iter_rule (P := fun s : Int64 × Int32 × Wd => V Z 126 [(0, .ref ((zg Z).1 42)), (1, .int a1), (2, .int a2), (3, .int a3), (5, .int v8), (6, .long (s.1)), (8, .int (s.2.1))] [] s.2.2) (x := (l38, w39)) ?_ FU (1, 0, w19) ix37
        intro s y1 h1 hP1 hX1
        obtain ⟨l21, l22, w23⟩ := s
        have h1 : fX10_chances_b126 a1 l21 l22 w23 = some y1 := h1
        unfold fX10_chances_b126 at h1
        refine r_iload (pc := 126) F dX10_chances_126 rfl ?_
        refine r_iload_n (pc := 128) F dX10_chances_128 rfl ?_
        refine r_icmp_ge (pc := 129) (tgt := 168) F dX10_chances_129 rfl h1 (fun h1 => ?_) (fun h1 => ?_)
        · refine V_sub (ls' := [(0, .ref ((zg Z).1 42)), (2, .int a2), (3, .int a3), (5, .int v8), (6, .long l21)]) [0, 2, 3, 4, 5] rfl ?_
          have e24 := hX1 _ (Option.some.inj h1).symm
          cases e24
          exact E126
        · refine r_aload_n (pc := 132) F dX10_chances_132 rfl ?_
          obtain ⟨w25, ew25, h1⟩ := bind_some h1
          refine r_Vv0 (pc := 133) F dX10_chances_133 ml_10_299 (kX10_goesChances _ w23 w25 ew25) i68_42 (ce_42 _ _ _) (Nat.le_of_ble_eq_true rfl) (Nat.le_of_ble_eq_true rfl) (Nat.le_of_ble_eq_true rfl) ?_
          refine r_iconst (pc := 136) F dX10_chances_136 ic_0 ?_
          refine r_istore (pc := 137) (ls' := [(0, .ref ((zg Z).1 42)), (1, .int a1), (2, .int a2), (3, .int a3), (5, .int v8), (6, .long l21), (8, .int l22), (9, .int 0)]) F dX10_chances_137 (Nat.le_of_ble_eq_true rfl) rfl ?_
          obtain ⟨l34, il34, h1⟩ := bind_some h1
          suffices E139 : V Z 162 [(0, .ref ((zg Z).1 42)), (1, .int a1), (2, .int a2), (3, .int a3), (5, .int v8), (6, .long l34), (8, .int l22)] [] w25 by
            refine iter_rule (P := fun s : Int64 × Int32 => V Z 139 [(0, .ref ((zg Z).1 42)), (1, .int a1), (2, .int a2), (3, .int a3), (5, .int v8), (6, .long (s.1)), (8, .int l22), (9, .int (s.2))] [] w25) (x := l34) ?_ FU (l21, 0) il34
            intro s y2 h2 hP2 hX2
            obtain ⟨l27, l28⟩ := s
            have h2 : fX10_chances_b139 w25 l27 l28 = some y2 := h2
            unfold fX10_chances_b139 at h2
            refine r_iload (pc := 139) F dX10_chances_139 rfl ?_
            refine r_aload_n (pc := 141) F dX10_chances_141 rfl ?_
            refine r_getf (pc := 142) F dX10_chances_142 fl_10_88 i68_42 (ce_42 _ _ _) rfl ?_
            refine r_icmp_ge (pc := 145) (tgt := 162) F dX10_chances_145 rfl h2 (fun h2 => ?_) (fun h2 => ?_)
            · refine V_sub (ls' := [(0, .ref ((zg Z).1 42)), (1, .int a1), (2, .int a2), (3, .int a3), (5, .int v8), (6, .long l27), (8, .int l22)]) [0, 1, 2, 3, 4, 5, 6] rfl ?_
              have e29 := hX2 _ (Option.some.inj h2).symm
              cases e29
              exact E139
            · refine r_lload (pc := 148) F dX10_chances_148 rfl ?_
              refine r_ldc2_w (pc := 150) F dX10_chances_150 kc_10_289 ?_
              refine r_lmul (pc := 153) F dX10_chances_153 ?_
              obtain ⟨v30, ev30, h2⟩ := lt_some h2
              refine V_nmL ev30 ?_
              refine r_lstore (pc := 154) (ls' := [(0, .ref ((zg Z).1 42)), (1, .int a1), (2, .int a2), (3, .int a3), (5, .int v8), (6, .long v30), (8, .int l22), (9, .int l28)]) F dX10_chances_154 (Nat.le_of_ble_eq_true rfl) rfl ?_
              obtain ⟨v31, ev31, h2⟩ := lt_some h2
              refine r_iinc (pc := 156) (ls' := [(0, .ref ((zg Z).1 42)), (1, .int a1), (2, .int a2), (3, .int a3), (5, .int v8), (6, .long v30), (8, .int l22), (9, .int v31)]) F dX10_chances_156 rfl (by rw [ev31]; rfl) (Nat.le_of_ble_eq_true rfl) rfl ?_
              refine r_goto (pc := 159) (tgt := 139) F dX10_chances_159 rfl ?_
              exact hP2 (v30, v31) (Option.some.inj h2).symm
          obtain ⟨v35, ev35, h1⟩ := lt_some h1
          refine r_iinc (pc := 162) (ls' := [(0, .ref ((zg Z).1 42)), (1, .int a1), (2, .int a2), (3, .int a3), (5, .int v8), (6, .long l34), (8, .int v35)]) F dX10_chances_162 rfl (by rw [ev35]; rfl) (Nat.le_of_ble_eq_true rfl) rfl ?_
          refine r_goto (pc := 165) (tgt := 126) F dX10_chances_165 rfl ?_
          exact hP1 (l34, v35, w25) (Option.some.inj h1).symm
      refine r_aload_n (pc := 168) F dX10_chances_168 rfl ?_
      refine r_iload (pc := 169) F dX10_chances_169 rfl ?_
      obtain ⟨w41, ew41, h0⟩ := lt_some h0
      refine r_putI (pc := 171) F dX10_chances_171 fl_10_127 fp_10_8 i68_42 (ce_42 _) (Nat.le_of_ble_eq_true rfl) rfl rfl rfl ew41 ?_
      refine r_lconst (pc := 174) F dX10_chances_174 (rfl : Int64.ofNat _ = 0) ?_
      refine r_lstore (pc := 175) (ls' := [(0, .ref ((zg Z).1 42)), (2, .int a2), (3, .int a3), (5, .int v8), (6, .long l38), (8, .long 0)]) F dX10_chances_175 (Nat.le_of_ble_eq_true rfl) rfl ?_
      refine r_iconst (pc := 177) F dX10_chances_177 ic_1 ?_
      refine r_istore (pc := 178) (ls' := [(0, .ref ((zg Z).1 42)), (2, .int a2), (3, .int a3), (5, .int v8), (6, .long l38), (8, .long 0), (10, .int 1)]) F dX10_chances_178 (Nat.le_of_ble_eq_true rfl) rfl ?_
      refine V_sub (ls' := [(0, .ref ((zg Z).1 42)), (2, .int a2), (3, .int a3), (6, .long l38), (8, .long 0), (10, .int 1)]) [0, 1, 2, 4, 5, 6] rfl ?_
      obtain ⟨l54, il54, h0⟩ := bind_some h0
      suffices E180 : V Z 220 [(3, .int a3), (6, .long l38), (8, .long l54)] [] w41 by
        refine iter_rule (P := fun s : Int64 × Int32 => V Z 180 [(0, .ref ((zg Z).1 42)), (2, .int a2), (3, .int a3), (6, .long l38), (8, .long (s.1)), (10, .int (s.2))] [] w41) (x := l54) ?_ FU (0, 1) il54
        intro s y1 h1 hP1 hX1
        obtain ⟨l43, l44⟩ := s
        have h1 : fX10_chances_b180 a2 w41 l43 l44 = some y1 := h1
        unfold fX10_chances_b180 at h1
        refine r_iload (pc := 180) F dX10_chances_180 rfl ?_
        refine r_bipush (pc := 182) F dX10_chances_182 bp_16 ?_
        refine r_icmp_ge (pc := 184) (tgt := 220) F dX10_chances_184 rfl h1 (fun h1 => ?_) (fun h1 => ?_)
        · refine V_sub (ls' := [(3, .int a3), (6, .long l38), (8, .long l43)]) [2, 3, 4] rfl ?_
          have e45 := hX1 _ (Option.some.inj h1).symm
          cases e45
          exact E180
        · refine r_lload (pc := 187) F dX10_chances_187 rfl ?_
          refine r_aload_n (pc := 189) F dX10_chances_189 rfl ?_
          refine r_getf (pc := 190) F dX10_chances_190 fl_10_70 i68_42 (ce_42 _ _ _) rfl ?_
          refine r_iload (pc := 193) F dX10_chances_193 rfl ?_
          obtain ⟨g46, h1⟩ := gd_some h1
          refine r_lald (pc := 195) F dX10_chances_195 i68_63 (ca_63 _) g46 rfl ?_
          refine r_iload_n (pc := 196) F dX10_chances_196 rfl ?_
          obtain ⟨v48, hv48, h1⟩ := bind_some h1
          suffices Jv48 : V Z 209 [(0, .ref ((zg Z).1 42)), (2, .int a2), (3, .int a3), (6, .long l38), (8, .long l43), (10, .int l44)] [.int v48, .long (w41.2 63 l44.toNatClampNeg), .long l43] w41 by
            refine r_if_ne (pc := 197) (tgt := 204) F dX10_chances_197 rfl hv48 (fun hv48 => ?_) (fun hv48 => ?_)
            · refine r_iconst (pc := 200) F dX10_chances_200 ic_1 ?_
              refine r_goto (pc := 201) (tgt := 209) F dX10_chances_201 rfl ?_
              exact V_nm (Option.some.inj hv48).symm Jv48
            · refine r_iload (pc := 204) F dX10_chances_204 rfl ?_
              obtain ⟨r49, er49, hv48⟩ := bind_some hv48
              refine r_Si1 (pc := 206) F dX10_chances_206 ml_10_231 (kX10_bits _ w41 l44 r49 er49) (Nat.le_of_ble_eq_true rfl) (Nat.le_of_ble_eq_true rfl) (Nat.le_of_ble_eq_true rfl) ?_
              exact V_nm (Option.some.inj hv48).symm Jv48
          refine r_i2l (pc := 209) F dX10_chances_209 ?_
          refine r_lmul (pc := 210) F dX10_chances_210 ?_
          refine r_ladd (pc := 211) F dX10_chances_211 ?_
          obtain ⟨v50, ev50, h1⟩ := lt_some h1
          refine V_nmL ev50 ?_
          refine r_lstore (pc := 212) (ls' := [(0, .ref ((zg Z).1 42)), (2, .int a2), (3, .int a3), (6, .long l38), (8, .long v50), (10, .int l44)]) F dX10_chances_212 (Nat.le_of_ble_eq_true rfl) rfl ?_
          obtain ⟨v51, ev51, h1⟩ := lt_some h1
          refine r_iinc (pc := 214) (ls' := [(0, .ref ((zg Z).1 42)), (2, .int a2), (3, .int a3), (6, .long l38), (8, .long v50), (10, .int v51)]) F dX10_chances_214 rfl (by rw [ev51]; rfl) (Nat.le_of_ble_eq_true rfl) rfl ?_
          refine r_goto (pc := 217) (tgt := 180) F dX10_chances_217 rfl ?_
          exact hP1 (v50, v51) (Option.some.inj h1).symm
      refine r_iload_n (pc := 220) F dX10_chances_220 rfl ?_
      obtain ⟨v55, hv55, h0⟩ := lt_some h0
      have hv55 := hv55.symm
      suffices Jv55 : V Z 231 [(3, .int a3), (6, .long l38), (8, .long l54)] [.long v55] w41 by
        refine r_if_ne (pc := 221) (tgt := 229) F dX10_chances_221 rfl hv55 (fun hv55 => ?_) (fun hv55 => ?_)
        · refine r_lload (pc := 224) F dX10_chances_224 rfl ?_
          refine r_goto (pc := 226) (tgt := 231) F dX10_chances_226 rfl ?_
          exact V_nmL hv55.symm Jv55
        · refine r_lload (pc := 229) F dX10_chances_229 rfl ?_
          exact V_nmL hv55.symm Jv55
      refine r_lload (pc := 231) F dX10_chances_231 rfl ?_
      refine r_lload (pc := 233) F dX10_chances_233 rfl ?_
      obtain ⟨r56, er56, h0⟩ := bind_some h0
      refine r_Sl2 (pc := 235) F dX10_chances_235 ml_10_302 (kX10_divisor _ w41 l54 l38 r56 er56) (Nat.le_of_ble_eq_true rfl) (Nat.le_of_ble_eq_true rfl) (Nat.le_of_ble_eq_true rfl) ?_
      obtain ⟨g57, h0⟩ := gd_some h0
      refine r_ldiv (pc := 238) F dX10_chances_238 (by simpa using g57) ?_
      exact hR _ _ _ _ dX10_chances_239 (Option.some.inj h0)
    · refine r_aload_n (pc := 70) F dX10_chances_70 rfl ?_
      refine r_iload (pc := 71) F dX10_chances_71 rfl ?_
      obtain ⟨q60, er59, h0⟩ := bind_some h0
      replace h0 := un2_eq h0
      obtain ⟨r59, w58, rfl, h0⟩ := h0
      refine r_Vm1 (pc := 73) F dX10_chances_73 ml_10_295 (kX10_lowest _ w7 l6 (r59, w58) er59) i68_42 (ce_42 _ _ _) (Nat.le_of_ble_eq_true rfl) (Nat.le_of_ble_eq_true rfl) (Nat.le_of_ble_eq_true rfl) ?_
      exact hR _ _ _ _ dX10_chances_76 (Option.some.inj h0)
  refine r_iload_n (pc := 0) F dX10_chances_0 rfl ?_
  refine r_iconst (pc := 1) F dX10_chances_1 ic_0 ?_
  refine r_iconst (pc := 2) F dX10_chances_2 ic_3 ?_
  refine r_Si3 (pc := 3) F dX10_chances_3 ml_10_92 (kX10_bound _ w a1 0 3 _ rfl) (Nat.le_of_ble_eq_true rfl) (Nat.le_of_ble_eq_true rfl) (Nat.le_of_ble_eq_true rfl) ?_
  obtain ⟨v1, ev1, h0⟩ := lt_some h0
  refine V_nm ev1 ?_
  refine r_istore (pc := 6) (ls' := [(0, .ref ((zg Z).1 42)), (1, .int a1), (2, .int a2), (3, .int a3), (4, .int v1)]) F dX10_chances_6 (Nat.le_of_ble_eq_true rfl) rfl ?_
  refine r_iload (pc := 8) F dX10_chances_8 rfl ?_
  refine r_if_ne (pc := 10) (tgt := 65) F dX10_chances_10 rfl h0 (fun h0 => ?_) (fun h0 => ?_)
  · refine r_iload_n (pc := 13) F dX10_chances_13 rfl ?_
    refine r_iconst (pc := 14) F dX10_chances_14 ic_0 ?_
    refine r_iconst (pc := 15) F dX10_chances_15 ic_1 ?_
    refine r_Si3 (pc := 16) F dX10_chances_16 ml_10_110 (kX10_isIn _ w a2 0 1 _ rfl) (Nat.le_of_ble_eq_true rfl) (Nat.le_of_ble_eq_true rfl) (Nat.le_of_ble_eq_true rfl) ?_
    obtain ⟨v2, hv2, h0⟩ := lt_some h0
    have hv2 := hv2.symm
    suffices Jv2 : V Z 63 [(0, .ref ((zg Z).1 42)), (1, .int a1), (2, .int a2), (3, .int a3), (4, .int v1)] [.int v2] w by
      refine r_if_eq (pc := 19) (tgt := 31) F dX10_chances_19 rfl hv2 (fun hv2 => ?_) (fun hv2 => ?_)
      · refine r_bipush (pc := 31) F dX10_chances_31 bp_m2 ?_
        refine r_goto (pc := 33) (tgt := 63) F dX10_chances_33 rfl ?_
        exact V_nm hv2.symm Jv2
      · refine r_iload_n (pc := 22) F dX10_chances_22 rfl ?_
        refine r_iconst (pc := 23) F dX10_chances_23 ic_0 ?_
        refine r_iconst (pc := 24) F dX10_chances_24 ic_1 ?_
        refine r_Si3 (pc := 25) F dX10_chances_25 ml_10_110 (kX10_isIn _ w a3 0 1 _ rfl) (Nat.le_of_ble_eq_true rfl) (Nat.le_of_ble_eq_true rfl) (Nat.le_of_ble_eq_true rfl) ?_
        refine r_if_ne (pc := 28) (tgt := 36) F dX10_chances_28 rfl hv2 (fun hv2 => ?_) (fun hv2 => ?_)
        · refine r_bipush (pc := 31) F dX10_chances_31 bp_m2 ?_
          refine r_goto (pc := 33) (tgt := 63) F dX10_chances_33 rfl ?_
          exact V_nm hv2.symm Jv2
        · refine r_aload_n (pc := 36) F dX10_chances_36 rfl ?_
          refine r_getf (pc := 37) F dX10_chances_37 fl_10_88 i68_42 (ce_42 _ _ _) rfl ?_
          refine r_iconst (pc := 40) F dX10_chances_40 ic_4 ?_
          refine r_icmp_gt (pc := 41) (tgt := 57) F dX10_chances_41 rfl hv2 (fun hv2 => ?_) (fun hv2 => ?_)
          · refine r_bipush (pc := 57) F dX10_chances_57 bp_m3 ?_
            refine r_goto (pc := 59) (tgt := 63) F dX10_chances_59 rfl ?_
            exact V_nm hv2.symm Jv2
          · refine r_aload_n (pc := 44) F dX10_chances_44 rfl ?_
            refine r_getf (pc := 45) F dX10_chances_45 fl_10_127 i68_42 (ce_42 _ _ _) rfl ?_
            refine r_iload_n (pc := 48) F dX10_chances_48 rfl ?_
            refine r_iadd (pc := 49) F dX10_chances_49 ?_
            refine r_aload_n (pc := 50) F dX10_chances_50 rfl ?_
            refine r_Vi0 (pc := 51) F dX10_chances_51 ml_10_130 (kX10_doorAt _ w _ rfl) i68_42 (ce_42 _ _ _) (Nat.le_of_ble_eq_true rfl) (Nat.le_of_ble_eq_true rfl) (Nat.le_of_ble_eq_true rfl) ?_
            refine r_icmp_le (pc := 54) (tgt := 62) F dX10_chances_54 rfl hv2 (fun hv2 => ?_) (fun hv2 => ?_)
            · refine r_iconst (pc := 62) F dX10_chances_62 ic_0 ?_
              exact V_nm hv2.symm Jv2
            · refine r_bipush (pc := 57) F dX10_chances_57 bp_m3 ?_
              refine r_goto (pc := 59) (tgt := 63) F dX10_chances_59 rfl ?_
              exact V_nm hv2.symm Jv2
    refine r_istore (pc := 63) (ls' := [(0, .ref ((zg Z).1 42)), (1, .int a1), (2, .int a2), (3, .int a3), (4, .int v2)]) F dX10_chances_63 (Nat.le_of_ble_eq_true rfl) rfl ?_
    exact J65 w v2 h0
  · exact J65 w v1 h0

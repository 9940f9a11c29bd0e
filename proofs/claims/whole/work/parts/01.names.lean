-- ===== PART A: goes FIRST, ahead of the names: the tables' words, and 'selects' of the private methods out of them =====
/-- a private method of a class that the tables say can be made, by its rows of tables_1 -/
def lw_okq (q : MethodName × Nat) : Prop := (q.1.cls ≠ "java/lang/invoke/MethodHandle" ∧ q.1.cls ≠ "java/lang/invoke/VarHandle") ∧ Cond.instantiable q.1.cls q.2 ∈ tables_1 ∧ Cond.privateMethod q.1 ∈ tables_1 ∧ Cond.instanceMethod q.1 ∈ tables_1
theorem lw_p0 : lw_okq (⟨"LitAgain", "refuse", "(I)I"⟩, 12) := ⟨⟨by decide +kernel, by decide +kernel⟩, List.mem_of_getElem? (i := 16) (by decide +kernel), List.mem_of_getElem? (i := 387) (by decide +kernel), List.mem_of_getElem? (i := 388) (by decide +kernel)⟩
theorem lw_p1 : lw_okq (⟨"LitAgain$Letters", "comes", "(I)Z"⟩, 4) := ⟨⟨by decide +kernel, by decide +kernel⟩, List.mem_of_getElem? (i := 189) (by decide +kernel), List.mem_of_getElem? (i := 422) (by decide +kernel), List.mem_of_getElem? (i := 423) (by decide +kernel)⟩
theorem lw_p2 : lw_okq (⟨"LitAgain$Letters", "digitAt", "(I)I"⟩, 4) := ⟨⟨by decide +kernel, by decide +kernel⟩, List.mem_of_getElem? (i := 189) (by decide +kernel), List.mem_of_getElem? (i := 426) (by decide +kernel), List.mem_of_getElem? (i := 427) (by decide +kernel)⟩
theorem lw_p3 : lw_okq (⟨"LitAgain$Letters", "personComes", "(III)Z"⟩, 4) := ⟨⟨by decide +kernel, by decide +kernel⟩, List.mem_of_getElem? (i := 189) (by decide +kernel), List.mem_of_getElem? (i := 430) (by decide +kernel), List.mem_of_getElem? (i := 431) (by decide +kernel)⟩
theorem lw_p4 : lw_okq (⟨"LitAgain$Letters", "twoDigitsAt", "(I)I"⟩, 4) := ⟨⟨by decide +kernel, by decide +kernel⟩, List.mem_of_getElem? (i := 189) (by decide +kernel), List.mem_of_getElem? (i := 442) (by decide +kernel), List.mem_of_getElem? (i := 443) (by decide +kernel)⟩
theorem lw_p5 : lw_okq (⟨"LitAgain$Letters", "windComes", "(III)Z"⟩, 4) := ⟨⟨by decide +kernel, by decide +kernel⟩, List.mem_of_getElem? (i := 189) (by decide +kernel), List.mem_of_getElem? (i := 446) (by decide +kernel), List.mem_of_getElem? (i := 447) (by decide +kernel)⟩
theorem lw_p6 : lw_okq (⟨"LitAgain$Letters", "formComes", "(II)Z"⟩, 4) := ⟨⟨by decide +kernel, by decide +kernel⟩, List.mem_of_getElem? (i := 189) (by decide +kernel), List.mem_of_getElem? (i := 453) (by decide +kernel), List.mem_of_getElem? (i := 454) (by decide +kernel)⟩
theorem lw_p7 : lw_okq (⟨"LitAgain$Letters", "doorComes", "(I)Z"⟩, 4) := ⟨⟨by decide +kernel, by decide +kernel⟩, List.mem_of_getElem? (i := 189) (by decide +kernel), List.mem_of_getElem? (i := 457) (by decide +kernel), List.mem_of_getElem? (i := 458) (by decide +kernel)⟩
theorem lw_p8 : lw_okq (⟨"LitAgain$Letters", "lightComes", "(I)Z"⟩, 4) := ⟨⟨by decide +kernel, by decide +kernel⟩, List.mem_of_getElem? (i := 189) (by decide +kernel), List.mem_of_getElem? (i := 461) (by decide +kernel), List.mem_of_getElem? (i := 462) (by decide +kernel)⟩
theorem lw_p9 : lw_okq (⟨"LitAgain$Walk", "unsteadyIn", "(II)I"⟩, 12) := ⟨⟨by decide +kernel, by decide +kernel⟩, List.mem_of_getElem? (i := 111) (by decide +kernel), List.mem_of_getElem? (i := 523) (by decide +kernel), List.mem_of_getElem? (i := 524) (by decide +kernel)⟩
theorem lw_p10 : lw_okq (⟨"LitAgain", "change", "(II)I"⟩, 12) := ⟨⟨by decide +kernel, by decide +kernel⟩, List.mem_of_getElem? (i := 16) (by decide +kernel), List.mem_of_getElem? (i := 599) (by decide +kernel), List.mem_of_getElem? (i := 600) (by decide +kernel)⟩
theorem lw_p11 : lw_okq (⟨"LitAgain$Past", "dropOldest", "()V"⟩, 4) := ⟨⟨by decide +kernel, by decide +kernel⟩, List.mem_of_getElem? (i := 169) (by decide +kernel), List.mem_of_getElem? (i := 622) (by decide +kernel), List.mem_of_getElem? (i := 623) (by decide +kernel)⟩
theorem lw_p12 : lw_okq (⟨"LitAgain$Mind", "walkFromNow", "()V"⟩, 7) := ⟨⟨by decide +kernel, by decide +kernel⟩, List.mem_of_getElem? (i := 225) (by decide +kernel), List.mem_of_getElem? (i := 640) (by decide +kernel), List.mem_of_getElem? (i := 641) (by decide +kernel)⟩
theorem lw_p13 : lw_okq (⟨"LitAgain$Mind", "darkEnds", "(I)I"⟩, 7) := ⟨⟨by decide +kernel, by decide +kernel⟩, List.mem_of_getElem? (i := 225) (by decide +kernel), List.mem_of_getElem? (i := 681) (by decide +kernel), List.mem_of_getElem? (i := 682) (by decide +kernel)⟩
theorem lw_p14 : lw_okq (⟨"LitAgain$Plans", "startFromNow", "()I"⟩, 5) := ⟨⟨by decide +kernel, by decide +kernel⟩, List.mem_of_getElem? (i := 257) (by decide +kernel), List.mem_of_getElem? (i := 703) (by decide +kernel), List.mem_of_getElem? (i := 704) (by decide +kernel)⟩
theorem lw_p15 : lw_okq (⟨"LitAgain$Plans", "withStop", "(II)I"⟩, 5) := ⟨⟨by decide +kernel, by decide +kernel⟩, List.mem_of_getElem? (i := 257) (by decide +kernel), List.mem_of_getElem? (i := 710) (by decide +kernel), List.mem_of_getElem? (i := 711) (by decide +kernel)⟩
def lw_privs_1 : List (MethodName × Nat) := [(⟨"LitAgain", "refuse", "(I)I"⟩, 12), (⟨"LitAgain$Letters", "comes", "(I)Z"⟩, 4), (⟨"LitAgain$Letters", "digitAt", "(I)I"⟩, 4), (⟨"LitAgain$Letters", "personComes", "(III)Z"⟩, 4), (⟨"LitAgain$Letters", "twoDigitsAt", "(I)I"⟩, 4), (⟨"LitAgain$Letters", "windComes", "(III)Z"⟩, 4), (⟨"LitAgain$Letters", "formComes", "(II)Z"⟩, 4), (⟨"LitAgain$Letters", "doorComes", "(I)Z"⟩, 4), (⟨"LitAgain$Letters", "lightComes", "(I)Z"⟩, 4), (⟨"LitAgain$Walk", "unsteadyIn", "(II)I"⟩, 12), (⟨"LitAgain", "change", "(II)I"⟩, 12), (⟨"LitAgain$Past", "dropOldest", "()V"⟩, 4), (⟨"LitAgain$Mind", "walkFromNow", "()V"⟩, 7), (⟨"LitAgain$Mind", "darkEnds", "(I)I"⟩, 7), (⟨"LitAgain$Plans", "startFromNow", "()I"⟩, 5), (⟨"LitAgain$Plans", "withStop", "(II)I"⟩, 5)]
theorem lw_r1 : ∀ q ∈ lw_privs_1, lw_okq q := List.forall_mem_cons.mpr ⟨lw_p0, List.forall_mem_cons.mpr ⟨lw_p1, List.forall_mem_cons.mpr ⟨lw_p2, List.forall_mem_cons.mpr ⟨lw_p3, List.forall_mem_cons.mpr ⟨lw_p4, List.forall_mem_cons.mpr ⟨lw_p5, List.forall_mem_cons.mpr ⟨lw_p6, List.forall_mem_cons.mpr ⟨lw_p7, List.forall_mem_cons.mpr ⟨lw_p8, List.forall_mem_cons.mpr ⟨lw_p9, List.forall_mem_cons.mpr ⟨lw_p10, List.forall_mem_cons.mpr ⟨lw_p11, List.forall_mem_cons.mpr ⟨lw_p12, List.forall_mem_cons.mpr ⟨lw_p13, List.forall_mem_cons.mpr ⟨lw_p14, List.forall_mem_cons.mpr ⟨lw_p15, fun _ h => absurd h List.not_mem_nil⟩⟩⟩⟩⟩⟩⟩⟩⟩⟩⟩⟩⟩⟩⟩⟩
theorem lw_p16 : lw_okq (⟨"LitAgain$Changes", "doorOf", "(LLitAgain$Company;)I"⟩, 10) := ⟨⟨by decide +kernel, by decide +kernel⟩, List.mem_of_getElem? (i := 282) (by decide +kernel), List.mem_of_getElem? (i := 727) (by decide +kernel), List.mem_of_getElem? (i := 728) (by decide +kernel)⟩
theorem lw_p17 : lw_okq (⟨"LitAgain$Changes", "startSearch", "(I)V"⟩, 10) := ⟨⟨by decide +kernel, by decide +kernel⟩, List.mem_of_getElem? (i := 282) (by decide +kernel), List.mem_of_getElem? (i := 734) (by decide +kernel), List.mem_of_getElem? (i := 735) (by decide +kernel)⟩
theorem lw_p18 : lw_okq (⟨"LitAgain$Changes", "consider", "(II)V"⟩, 10) := ⟨⟨by decide +kernel, by decide +kernel⟩, List.mem_of_getElem? (i := 282) (by decide +kernel), List.mem_of_getElem? (i := 740) (by decide +kernel), List.mem_of_getElem? (i := 741) (by decide +kernel)⟩
theorem lw_p19 : lw_okq (⟨"LitAgain$Changes", "countOf", "(LLitAgain$Company;)I"⟩, 10) := ⟨⟨by decide +kernel, by decide +kernel⟩, List.mem_of_getElem? (i := 282) (by decide +kernel), List.mem_of_getElem? (i := 752) (by decide +kernel), List.mem_of_getElem? (i := 753) (by decide +kernel)⟩
theorem lw_p20 : lw_okq (⟨"LitAgain$Changes", "orderAsDigits", "(I)I"⟩, 10) := ⟨⟨by decide +kernel, by decide +kernel⟩, List.mem_of_getElem? (i := 282) (by decide +kernel), List.mem_of_getElem? (i := 771) (by decide +kernel), List.mem_of_getElem? (i := 772) (by decide +kernel)⟩
theorem lw_p21 : lw_okq (⟨"LitAgain$Changes", "nextOrder", "(I)V"⟩, 10) := ⟨⟨by decide +kernel, by decide +kernel⟩, List.mem_of_getElem? (i := 282) (by decide +kernel), List.mem_of_getElem? (i := 775) (by decide +kernel), List.mem_of_getElem? (i := 776) (by decide +kernel)⟩
theorem lw_p22 : lw_okq (⟨"LitAgain$Changes", "exchangePlaces", "(II)V"⟩, 10) := ⟨⟨by decide +kernel, by decide +kernel⟩, List.mem_of_getElem? (i := 282) (by decide +kernel), List.mem_of_getElem? (i := 779) (by decide +kernel), List.mem_of_getElem? (i := 780) (by decide +kernel)⟩
theorem lw_p23 : lw_okq (⟨"LitAgain$Changes", "lanternsDo", "(I)Z"⟩, 10) := ⟨⟨by decide +kernel, by decide +kernel⟩, List.mem_of_getElem? (i := 282) (by decide +kernel), List.mem_of_getElem? (i := 804) (by decide +kernel), List.mem_of_getElem? (i := 805) (by decide +kernel)⟩
theorem lw_p24 : lw_okq (⟨"LitAgain$Plans", "tellsToStop", "(III)Z"⟩, 5) := ⟨⟨by decide +kernel, by decide +kernel⟩, List.mem_of_getElem? (i := 257) (by decide +kernel), List.mem_of_getElem? (i := 838) (by decide +kernel), List.mem_of_getElem? (i := 839) (by decide +kernel)⟩
theorem lw_p25 : lw_okq (⟨"LitAgain", "refuseLong", "(I)J"⟩, 12) := ⟨⟨by decide +kernel, by decide +kernel⟩, List.mem_of_getElem? (i := 16) (by decide +kernel), List.mem_of_getElem? (i := 864) (by decide +kernel), List.mem_of_getElem? (i := 865) (by decide +kernel)⟩
theorem lw_p26 : lw_okq (⟨"LitAgain$Chances", "fillTenths", "(LLitAgain$Company;I)V"⟩, 5) := ⟨⟨by decide +kernel, by decide +kernel⟩, List.mem_of_getElem? (i := 323) (by decide +kernel), List.mem_of_getElem? (i := 874) (by decide +kernel), List.mem_of_getElem? (i := 875) (by decide +kernel)⟩
theorem lw_p27 : lw_okq (⟨"LitAgain$Chances", "passChances", "()V"⟩, 5) := ⟨⟨by decide +kernel, by decide +kernel⟩, List.mem_of_getElem? (i := 323) (by decide +kernel), List.mem_of_getElem? (i := 883) (by decide +kernel), List.mem_of_getElem? (i := 884) (by decide +kernel)⟩
theorem lw_p28 : lw_okq (⟨"LitAgain$Chances", "partsOf", "(II)J"⟩, 5) := ⟨⟨by decide +kernel, by decide +kernel⟩, List.mem_of_getElem? (i := 323) (by decide +kernel), List.mem_of_getElem? (i := 888) (by decide +kernel), List.mem_of_getElem? (i := 889) (by decide +kernel)⟩
theorem lw_p29 : lw_okq (⟨"LitAgain$Mind", "agrees", "(ILLitAgain$Row;)Z"⟩, 7) := ⟨⟨by decide +kernel, by decide +kernel⟩, List.mem_of_getElem? (i := 225) (by decide +kernel), List.mem_of_getElem? (i := 915) (by decide +kernel), List.mem_of_getElem? (i := 916) (by decide +kernel)⟩
theorem lw_p30 : lw_okq (⟨"LitAgain$Changes", "drawBelow", "(I)I"⟩, 10) := ⟨⟨by decide +kernel, by decide +kernel⟩, List.mem_of_getElem? (i := 282) (by decide +kernel), List.mem_of_getElem? (i := 965) (by decide +kernel), List.mem_of_getElem? (i := 966) (by decide +kernel)⟩
theorem lw_p31 : lw_okq (⟨"LitAgain$Plans", "stillAt", "(I)I"⟩, 5) := ⟨⟨by decide +kernel, by decide +kernel⟩, List.mem_of_getElem? (i := 257) (by decide +kernel), List.mem_of_getElem? (i := 1022) (by decide +kernel), List.mem_of_getElem? (i := 1023) (by decide +kernel)⟩
def lw_privs_2 : List (MethodName × Nat) := [(⟨"LitAgain$Changes", "doorOf", "(LLitAgain$Company;)I"⟩, 10), (⟨"LitAgain$Changes", "startSearch", "(I)V"⟩, 10), (⟨"LitAgain$Changes", "consider", "(II)V"⟩, 10), (⟨"LitAgain$Changes", "countOf", "(LLitAgain$Company;)I"⟩, 10), (⟨"LitAgain$Changes", "orderAsDigits", "(I)I"⟩, 10), (⟨"LitAgain$Changes", "nextOrder", "(I)V"⟩, 10), (⟨"LitAgain$Changes", "exchangePlaces", "(II)V"⟩, 10), (⟨"LitAgain$Changes", "lanternsDo", "(I)Z"⟩, 10), (⟨"LitAgain$Plans", "tellsToStop", "(III)Z"⟩, 5), (⟨"LitAgain", "refuseLong", "(I)J"⟩, 12), (⟨"LitAgain$Chances", "fillTenths", "(LLitAgain$Company;I)V"⟩, 5), (⟨"LitAgain$Chances", "passChances", "()V"⟩, 5), (⟨"LitAgain$Chances", "partsOf", "(II)J"⟩, 5), (⟨"LitAgain$Mind", "agrees", "(ILLitAgain$Row;)Z"⟩, 7), (⟨"LitAgain$Changes", "drawBelow", "(I)I"⟩, 10), (⟨"LitAgain$Plans", "stillAt", "(I)I"⟩, 5)]
theorem lw_r2 : ∀ q ∈ lw_privs_2, lw_okq q := List.forall_mem_cons.mpr ⟨lw_p16, List.forall_mem_cons.mpr ⟨lw_p17, List.forall_mem_cons.mpr ⟨lw_p18, List.forall_mem_cons.mpr ⟨lw_p19, List.forall_mem_cons.mpr ⟨lw_p20, List.forall_mem_cons.mpr ⟨lw_p21, List.forall_mem_cons.mpr ⟨lw_p22, List.forall_mem_cons.mpr ⟨lw_p23, List.forall_mem_cons.mpr ⟨lw_p24, List.forall_mem_cons.mpr ⟨lw_p25, List.forall_mem_cons.mpr ⟨lw_p26, List.forall_mem_cons.mpr ⟨lw_p27, List.forall_mem_cons.mpr ⟨lw_p28, List.forall_mem_cons.mpr ⟨lw_p29, List.forall_mem_cons.mpr ⟨lw_p30, List.forall_mem_cons.mpr ⟨lw_p31, fun _ h => absurd h List.not_mem_nil⟩⟩⟩⟩⟩⟩⟩⟩⟩⟩⟩⟩⟩⟩⟩⟩
theorem lw_p32 : lw_okq (⟨"LitAgain$Mind", "handOn", "(I)V"⟩, 7) := ⟨⟨by decide +kernel, by decide +kernel⟩, List.mem_of_getElem? (i := 225) (by decide +kernel), List.mem_of_getElem? (i := 1056) (by decide +kernel), List.mem_of_getElem? (i := 1057) (by decide +kernel)⟩
theorem lw_p33 : lw_okq (⟨"LitAgain$Changes", "fewestOfForm", "(I)I"⟩, 10) := ⟨⟨by decide +kernel, by decide +kernel⟩, List.mem_of_getElem? (i := 282) (by decide +kernel), List.mem_of_getElem? (i := 1088) (by decide +kernel), List.mem_of_getElem? (i := 1089) (by decide +kernel)⟩
theorem lw_p34 : lw_okq (⟨"LitAgain$Changes", "mostOfSide", "(I)I"⟩, 10) := ⟨⟨by decide +kernel, by decide +kernel⟩, List.mem_of_getElem? (i := 282) (by decide +kernel), List.mem_of_getElem? (i := 1092) (by decide +kernel), List.mem_of_getElem? (i := 1093) (by decide +kernel)⟩
theorem lw_p35 : lw_okq (⟨"LitAgain$Mind", "widestGap", "(I)I"⟩, 7) := ⟨⟨by decide +kernel, by decide +kernel⟩, List.mem_of_getElem? (i := 225) (by decide +kernel), List.mem_of_getElem? (i := 1120) (by decide +kernel), List.mem_of_getElem? (i := 1121) (by decide +kernel)⟩
theorem lw_p36 : lw_okq (⟨"LitAgain$Plans", "hasOneMatch", "(III)Z"⟩, 5) := ⟨⟨by decide +kernel, by decide +kernel⟩, List.mem_of_getElem? (i := 257) (by decide +kernel), List.mem_of_getElem? (i := 1132) (by decide +kernel), List.mem_of_getElem? (i := 1133) (by decide +kernel)⟩
theorem lw_p37 : lw_okq (⟨"LitAgain$Plans", "struck", "(I)I"⟩, 5) := ⟨⟨by decide +kernel, by decide +kernel⟩, List.mem_of_getElem? (i := 257) (by decide +kernel), List.mem_of_getElem? (i := 1136) (by decide +kernel), List.mem_of_getElem? (i := 1137) (by decide +kernel)⟩
theorem lw_p38 : lw_okq (⟨"LitAgain$Plans", "hasTwoMatches", "(III)Z"⟩, 5) := ⟨⟨by decide +kernel, by decide +kernel⟩, List.mem_of_getElem? (i := 257) (by decide +kernel), List.mem_of_getElem? (i := 1140) (by decide +kernel), List.mem_of_getElem? (i := 1141) (by decide +kernel)⟩
theorem lw_p39 : lw_okq (⟨"LitAgainModel", "no", "(I)I"⟩, 43) := ⟨⟨by decide +kernel, by decide +kernel⟩, List.mem_of_getElem? (i := 1157) (by decide +kernel), List.mem_of_getElem? (i := 1300) (by decide +kernel), List.mem_of_getElem? (i := 1301) (by decide +kernel)⟩
theorem lw_p40 : lw_okq (⟨"LitAgainModel", "statement", "()Z"⟩, 43) := ⟨⟨by decide +kernel, by decide +kernel⟩, List.mem_of_getElem? (i := 1157) (by decide +kernel), List.mem_of_getElem? (i := 1308) (by decide +kernel), List.mem_of_getElem? (i := 1309) (by decide +kernel)⟩
theorem lw_p41 : lw_okq (⟨"LitAgainModel", "next", "()I"⟩, 43) := ⟨⟨by decide +kernel, by decide +kernel⟩, List.mem_of_getElem? (i := 1157) (by decide +kernel), List.mem_of_getElem? (i := 1312) (by decide +kernel), List.mem_of_getElem? (i := 1313) (by decide +kernel)⟩
theorem lw_p42 : lw_okq (⟨"LitAgainModel", "readsAll", "(II)Z"⟩, 43) := ⟨⟨by decide +kernel, by decide +kernel⟩, List.mem_of_getElem? (i := 1157) (by decide +kernel), List.mem_of_getElem? (i := 1316) (by decide +kernel), List.mem_of_getElem? (i := 1317) (by decide +kernel)⟩
theorem lw_p43 : lw_okq (⟨"LitAgainModel", "readsDigits", "(II)Z"⟩, 43) := ⟨⟨by decide +kernel, by decide +kernel⟩, List.mem_of_getElem? (i := 1157) (by decide +kernel), List.mem_of_getElem? (i := 1320) (by decide +kernel), List.mem_of_getElem? (i := 1321) (by decide +kernel)⟩
theorem lw_p44 : lw_okq (⟨"LitAgainModel", "passesAll", "(IZ)V"⟩, 43) := ⟨⟨by decide +kernel, by decide +kernel⟩, List.mem_of_getElem? (i := 1157) (by decide +kernel), List.mem_of_getElem? (i := 1327) (by decide +kernel), List.mem_of_getElem? (i := 1328) (by decide +kernel)⟩
theorem lw_p45 : lw_okq (⟨"LitAgainModel", "passes", "([I)V"⟩, 43) := ⟨⟨by decide +kernel, by decide +kernel⟩, List.mem_of_getElem? (i := 1157) (by decide +kernel), List.mem_of_getElem? (i := 1331) (by decide +kernel), List.mem_of_getElem? (i := 1332) (by decide +kernel)⟩
theorem lw_p46 : lw_okq (⟨"LitAgainModel", "passOne", "(I)I"⟩, 43) := ⟨⟨by decide +kernel, by decide +kernel⟩, List.mem_of_getElem? (i := 1157) (by decide +kernel), List.mem_of_getElem? (i := 1335) (by decide +kernel), List.mem_of_getElem? (i := 1336) (by decide +kernel)⟩
theorem lw_p47 : lw_okq (⟨"LitAgainModel", "comes", "(I)Z"⟩, 43) := ⟨⟨by decide +kernel, by decide +kernel⟩, List.mem_of_getElem? (i := 1157) (by decide +kernel), List.mem_of_getElem? (i := 1339) (by decide +kernel), List.mem_of_getElem? (i := 1340) (by decide +kernel)⟩
def lw_privs_3 : List (MethodName × Nat) := [(⟨"LitAgain$Mind", "handOn", "(I)V"⟩, 7), (⟨"LitAgain$Changes", "fewestOfForm", "(I)I"⟩, 10), (⟨"LitAgain$Changes", "mostOfSide", "(I)I"⟩, 10), (⟨"LitAgain$Mind", "widestGap", "(I)I"⟩, 7), (⟨"LitAgain$Plans", "hasOneMatch", "(III)Z"⟩, 5), (⟨"LitAgain$Plans", "struck", "(I)I"⟩, 5), (⟨"LitAgain$Plans", "hasTwoMatches", "(III)Z"⟩, 5), (⟨"LitAgainModel", "no", "(I)I"⟩, 43), (⟨"LitAgainModel", "statement", "()Z"⟩, 43), (⟨"LitAgainModel", "next", "()I"⟩, 43), (⟨"LitAgainModel", "readsAll", "(II)Z"⟩, 43), (⟨"LitAgainModel", "readsDigits", "(II)Z"⟩, 43), (⟨"LitAgainModel", "passesAll", "(IZ)V"⟩, 43), (⟨"LitAgainModel", "passes", "([I)V"⟩, 43), (⟨"LitAgainModel", "passOne", "(I)I"⟩, 43), (⟨"LitAgainModel", "comes", "(I)Z"⟩, 43)]
theorem lw_r3 : ∀ q ∈ lw_privs_3, lw_okq q := List.forall_mem_cons.mpr ⟨lw_p32, List.forall_mem_cons.mpr ⟨lw_p33, List.forall_mem_cons.mpr ⟨lw_p34, List.forall_mem_cons.mpr ⟨lw_p35, List.forall_mem_cons.mpr ⟨lw_p36, List.forall_mem_cons.mpr ⟨lw_p37, List.forall_mem_cons.mpr ⟨lw_p38, List.forall_mem_cons.mpr ⟨lw_p39, List.forall_mem_cons.mpr ⟨lw_p40, List.forall_mem_cons.mpr ⟨lw_p41, List.forall_mem_cons.mpr ⟨lw_p42, List.forall_mem_cons.mpr ⟨lw_p43, List.forall_mem_cons.mpr ⟨lw_p44, List.forall_mem_cons.mpr ⟨lw_p45, List.forall_mem_cons.mpr ⟨lw_p46, List.forall_mem_cons.mpr ⟨lw_p47, fun _ h => absurd h List.not_mem_nil⟩⟩⟩⟩⟩⟩⟩⟩⟩⟩⟩⟩⟩⟩⟩⟩
theorem lw_p48 : lw_okq (⟨"LitAgainModel", "comesOne", "(I)Z"⟩, 43) := ⟨⟨by decide +kernel, by decide +kernel⟩, List.mem_of_getElem? (i := 1157) (by decide +kernel), List.mem_of_getElem? (i := 1343) (by decide +kernel), List.mem_of_getElem? (i := 1344) (by decide +kernel)⟩
theorem lw_p49 : lw_okq (⟨"LitAgainModel", "isPerson", "(I)Z"⟩, 43) := ⟨⟨by decide +kernel, by decide +kernel⟩, List.mem_of_getElem? (i := 1157) (by decide +kernel), List.mem_of_getElem? (i := 1347) (by decide +kernel), List.mem_of_getElem? (i := 1348) (by decide +kernel)⟩
theorem lw_p50 : lw_okq (⟨"LitAgainModel", "comesMinute", "(I)Z"⟩, 43) := ⟨⟨by decide +kernel, by decide +kernel⟩, List.mem_of_getElem? (i := 1157) (by decide +kernel), List.mem_of_getElem? (i := 1354) (by decide +kernel), List.mem_of_getElem? (i := 1355) (by decide +kernel)⟩
theorem lw_p51 : lw_okq (⟨"LitAgainModel", "doorAt", "()I"⟩, 43) := ⟨⟨by decide +kernel, by decide +kernel⟩, List.mem_of_getElem? (i := 1157) (by decide +kernel), List.mem_of_getElem? (i := 1358) (by decide +kernel), List.mem_of_getElem? (i := 1359) (by decide +kernel)⟩
theorem lw_p52 : lw_okq (⟨"LitAgainModel", "goes", "(Z)V"⟩, 43) := ⟨⟨by decide +kernel, by decide +kernel⟩, List.mem_of_getElem? (i := 1157) (by decide +kernel), List.mem_of_getElem? (i := 1362) (by decide +kernel), List.mem_of_getElem? (i := 1363) (by decide +kernel)⟩
theorem lw_p53 : lw_okq (⟨"LitAgainModel", "holding", "()I"⟩, 43) := ⟨⟨by decide +kernel, by decide +kernel⟩, List.mem_of_getElem? (i := 1157) (by decide +kernel), List.mem_of_getElem? (i := 1366) (by decide +kernel), List.mem_of_getElem? (i := 1367) (by decide +kernel)⟩
theorem lw_p54 : lw_okq (⟨"LitAgainModel", "holds", "(I)Z"⟩, 43) := ⟨⟨by decide +kernel, by decide +kernel⟩, List.mem_of_getElem? (i := 1157) (by decide +kernel), List.mem_of_getElem? (i := 1370) (by decide +kernel), List.mem_of_getElem? (i := 1371) (by decide +kernel)⟩
theorem lw_p55 : lw_okq (⟨"LitAgainModel", "feltBy", "(II)I"⟩, 43) := ⟨⟨by decide +kernel, by decide +kernel⟩, List.mem_of_getElem? (i := 1157) (by decide +kernel), List.mem_of_getElem? (i := 1374) (by decide +kernel), List.mem_of_getElem? (i := 1375) (by decide +kernel)⟩
theorem lw_p56 : lw_okq (⟨"LitAgainModel", "coverer", "(II)I"⟩, 43) := ⟨⟨by decide +kernel, by decide +kernel⟩, List.mem_of_getElem? (i := 1157) (by decide +kernel), List.mem_of_getElem? (i := 1378) (by decide +kernel), List.mem_of_getElem? (i := 1379) (by decide +kernel)⟩
theorem lw_p57 : lw_okq (⟨"LitAgainModel", "along", "(II)I"⟩, 43) := ⟨⟨by decide +kernel, by decide +kernel⟩, List.mem_of_getElem? (i := 1157) (by decide +kernel), List.mem_of_getElem? (i := 1382) (by decide +kernel), List.mem_of_getElem? (i := 1383) (by decide +kernel)⟩
theorem lw_p58 : lw_okq (⟨"LitAgainModel", "spread", "(I)I"⟩, 43) := ⟨⟨by decide +kernel, by decide +kernel⟩, List.mem_of_getElem? (i := 1157) (by decide +kernel), List.mem_of_getElem? (i := 1392) (by decide +kernel), List.mem_of_getElem? (i := 1393) (by decide +kernel)⟩
theorem lw_p59 : lw_okq (⟨"LitAgainModel", "besideBits", "(I)I"⟩, 43) := ⟨⟨by decide +kernel, by decide +kernel⟩, List.mem_of_getElem? (i := 1157) (by decide +kernel), List.mem_of_getElem? (i := 1396) (by decide +kernel), List.mem_of_getElem? (i := 1397) (by decide +kernel)⟩
theorem lw_p60 : lw_okq (⟨"LitAgainModel", "becomes", "(II)V"⟩, 43) := ⟨⟨by decide +kernel, by decide +kernel⟩, List.mem_of_getElem? (i := 1157) (by decide +kernel), List.mem_of_getElem? (i := 1426) (by decide +kernel), List.mem_of_getElem? (i := 1427) (by decide +kernel)⟩
theorem lw_p61 : lw_okq (⟨"LitAgainModel", "keepsMinute", "()V"⟩, 43) := ⟨⟨by decide +kernel, by decide +kernel⟩, List.mem_of_getElem? (i := 1157) (by decide +kernel), List.mem_of_getElem? (i := 1461) (by decide +kernel), List.mem_of_getElem? (i := 1462) (by decide +kernel)⟩
theorem lw_p62 : lw_okq (⟨"LitAgainModel", "goesAhead", "(I)V"⟩, 43) := ⟨⟨by decide +kernel, by decide +kernel⟩, List.mem_of_getElem? (i := 1157) (by decide +kernel), List.mem_of_getElem? (i := 1476) (by decide +kernel), List.mem_of_getElem? (i := 1477) (by decide +kernel)⟩
theorem lw_p63 : lw_okq (⟨"LitAgainModel", "atDoor", "()I"⟩, 43) := ⟨⟨by decide +kernel, by decide +kernel⟩, List.mem_of_getElem? (i := 1157) (by decide +kernel), List.mem_of_getElem? (i := 1484) (by decide +kernel), List.mem_of_getElem? (i := 1485) (by decide +kernel)⟩
def lw_privs_4 : List (MethodName × Nat) := [(⟨"LitAgainModel", "comesOne", "(I)Z"⟩, 43), (⟨"LitAgainModel", "isPerson", "(I)Z"⟩, 43), (⟨"LitAgainModel", "comesMinute", "(I)Z"⟩, 43), (⟨"LitAgainModel", "doorAt", "()I"⟩, 43), (⟨"LitAgainModel", "goes", "(Z)V"⟩, 43), (⟨"LitAgainModel", "holding", "()I"⟩, 43), (⟨"LitAgainModel", "holds", "(I)Z"⟩, 43), (⟨"LitAgainModel", "feltBy", "(II)I"⟩, 43), (⟨"LitAgainModel", "coverer", "(II)I"⟩, 43), (⟨"LitAgainModel", "along", "(II)I"⟩, 43), (⟨"LitAgainModel", "spread", "(I)I"⟩, 43), (⟨"LitAgainModel", "besideBits", "(I)I"⟩, 43), (⟨"LitAgainModel", "becomes", "(II)V"⟩, 43), (⟨"LitAgainModel", "keepsMinute", "()V"⟩, 43), (⟨"LitAgainModel", "goesAhead", "(I)V"⟩, 43), (⟨"LitAgainModel", "atDoor", "()I"⟩, 43)]
theorem lw_r4 : ∀ q ∈ lw_privs_4, lw_okq q := List.forall_mem_cons.mpr ⟨lw_p48, List.forall_mem_cons.mpr ⟨lw_p49, List.forall_mem_cons.mpr ⟨lw_p50, List.forall_mem_cons.mpr ⟨lw_p51, List.forall_mem_cons.mpr ⟨lw_p52, List.forall_mem_cons.mpr ⟨lw_p53, List.forall_mem_cons.mpr ⟨lw_p54, List.forall_mem_cons.mpr ⟨lw_p55, List.forall_mem_cons.mpr ⟨lw_p56, List.forall_mem_cons.mpr ⟨lw_p57, List.forall_mem_cons.mpr ⟨lw_p58, List.forall_mem_cons.mpr ⟨lw_p59, List.forall_mem_cons.mpr ⟨lw_p60, List.forall_mem_cons.mpr ⟨lw_p61, List.forall_mem_cons.mpr ⟨lw_p62, List.forall_mem_cons.mpr ⟨lw_p63, fun _ h => absurd h List.not_mem_nil⟩⟩⟩⟩⟩⟩⟩⟩⟩⟩⟩⟩⟩⟩⟩⟩
theorem lw_p64 : lw_okq (⟨"LitAgainModel", "goesToDoor", "()V"⟩, 43) := ⟨⟨by decide +kernel, by decide +kernel⟩, List.mem_of_getElem? (i := 1157) (by decide +kernel), List.mem_of_getElem? (i := 1488) (by decide +kernel), List.mem_of_getElem? (i := 1489) (by decide +kernel)⟩
theorem lw_p65 : lw_okq (⟨"LitAgainModel", "lightOf", "(I)I"⟩, 43) := ⟨⟨by decide +kernel, by decide +kernel⟩, List.mem_of_getElem? (i := 1157) (by decide +kernel), List.mem_of_getElem? (i := 1492) (by decide +kernel), List.mem_of_getElem? (i := 1493) (by decide +kernel)⟩
theorem lw_p66 : lw_okq (⟨"LitAgainModel", "darkEnds", "(I)I"⟩, 43) := ⟨⟨by decide +kernel, by decide +kernel⟩, List.mem_of_getElem? (i := 1157) (by decide +kernel), List.mem_of_getElem? (i := 1504) (by decide +kernel), List.mem_of_getElem? (i := 1505) (by decide +kernel)⟩
theorem lw_p67 : lw_okq (⟨"LitAgainModel", "stopBy", "(II)I"⟩, 43) := ⟨⟨by decide +kernel, by decide +kernel⟩, List.mem_of_getElem? (i := 1157) (by decide +kernel), List.mem_of_getElem? (i := 1516) (by decide +kernel), List.mem_of_getElem? (i := 1517) (by decide +kernel)⟩
theorem lw_p68 : lw_okq (⟨"LitAgainModel", "exchanges", "(II)V"⟩, 43) := ⟨⟨by decide +kernel, by decide +kernel⟩, List.mem_of_getElem? (i := 1157) (by decide +kernel), List.mem_of_getElem? (i := 1528) (by decide +kernel), List.mem_of_getElem? (i := 1529) (by decide +kernel)⟩
theorem lw_p69 : lw_okq (⟨"LitAgainModel", "tellsOrder", "(I)Z"⟩, 43) := ⟨⟨by decide +kernel, by decide +kernel⟩, List.mem_of_getElem? (i := 1157) (by decide +kernel), List.mem_of_getElem? (i := 1536) (by decide +kernel), List.mem_of_getElem? (i := 1537) (by decide +kernel)⟩
theorem lw_p70 : lw_okq (⟨"LitAgainModel", "doorBy", "(I)I"⟩, 43) := ⟨⟨by decide +kernel, by decide +kernel⟩, List.mem_of_getElem? (i := 1157) (by decide +kernel), List.mem_of_getElem? (i := 1540) (by decide +kernel), List.mem_of_getElem? (i := 1541) (by decide +kernel)⟩
theorem lw_p71 : lw_okq (⟨"LitAgainModel", "withLanterns", "(I)I"⟩, 43) := ⟨⟨by decide +kernel, by decide +kernel⟩, List.mem_of_getElem? (i := 1157) (by decide +kernel), List.mem_of_getElem? (i := 1548) (by decide +kernel), List.mem_of_getElem? (i := 1549) (by decide +kernel)⟩
theorem lw_p72 : lw_okq (⟨"LitAgainModel", "doorByMatch", "(II)I"⟩, 43) := ⟨⟨by decide +kernel, by decide +kernel⟩, List.mem_of_getElem? (i := 1157) (by decide +kernel), List.mem_of_getElem? (i := 1560) (by decide +kernel), List.mem_of_getElem? (i := 1561) (by decide +kernel)⟩
theorem lw_p73 : lw_okq (⟨"LitAgainModel", "goesByRule", "(I)V"⟩, 43) := ⟨⟨by decide +kernel, by decide +kernel⟩, List.mem_of_getElem? (i := 1157) (by decide +kernel), List.mem_of_getElem? (i := 1572) (by decide +kernel), List.mem_of_getElem? (i := 1573) (by decide +kernel)⟩
theorem lw_p74 : lw_okq (⟨"LitAgainModel", "doesStop", "(I)Z"⟩, 43) := ⟨⟨by decide +kernel, by decide +kernel⟩, List.mem_of_getElem? (i := 1157) (by decide +kernel), List.mem_of_getElem? (i := 1576) (by decide +kernel), List.mem_of_getElem? (i := 1577) (by decide +kernel)⟩
theorem lw_p75 : lw_okq (⟨"LitAgainModel", "isSomebodyDark", "()Z"⟩, 43) := ⟨⟨by decide +kernel, by decide +kernel⟩, List.mem_of_getElem? (i := 1157) (by decide +kernel), List.mem_of_getElem? (i := 1580) (by decide +kernel), List.mem_of_getElem? (i := 1581) (by decide +kernel)⟩
theorem lw_p76 : lw_okq (⟨"LitAgainModel", "lowest", "(I)J"⟩, 43) := ⟨⟨by decide +kernel, by decide +kernel⟩, List.mem_of_getElem? (i := 1157) (by decide +kernel), List.mem_of_getElem? (i := 1600) (by decide +kernel), List.mem_of_getElem? (i := 1601) (by decide +kernel)⟩
theorem lw_p77 : lw_okq (⟨"LitAgainModel", "goesChances", "()V"⟩, 43) := ⟨⟨by decide +kernel, by decide +kernel⟩, List.mem_of_getElem? (i := 1157) (by decide +kernel), List.mem_of_getElem? (i := 1605) (by decide +kernel), List.mem_of_getElem? (i := 1606) (by decide +kernel)⟩
theorem lw_p78 : lw_okq (⟨"LitAgainModel", "stays", "(II)J"⟩, 43) := ⟨⟨by decide +kernel, by decide +kernel⟩, List.mem_of_getElem? (i := 1157) (by decide +kernel), List.mem_of_getElem? (i := 1609) (by decide +kernel), List.mem_of_getElem? (i := 1610) (by decide +kernel)⟩
theorem lw_p79 : lw_okq (⟨"LitAgainModel", "tenthsOut", "(I)I"⟩, 43) := ⟨⟨by decide +kernel, by decide +kernel⟩, List.mem_of_getElem? (i := 1157) (by decide +kernel), List.mem_of_getElem? (i := 1613) (by decide +kernel), List.mem_of_getElem? (i := 1614) (by decide +kernel)⟩
def lw_privs_5 : List (MethodName × Nat) := [(⟨"LitAgainModel", "goesToDoor", "()V"⟩, 43), (⟨"LitAgainModel", "lightOf", "(I)I"⟩, 43), (⟨"LitAgainModel", "darkEnds", "(I)I"⟩, 43), (⟨"LitAgainModel", "stopBy", "(II)I"⟩, 43), (⟨"LitAgainModel", "exchanges", "(II)V"⟩, 43), (⟨"LitAgainModel", "tellsOrder", "(I)Z"⟩, 43), (⟨"LitAgainModel", "doorBy", "(I)I"⟩, 43), (⟨"LitAgainModel", "withLanterns", "(I)I"⟩, 43), (⟨"LitAgainModel", "doorByMatch", "(II)I"⟩, 43), (⟨"LitAgainModel", "goesByRule", "(I)V"⟩, 43), (⟨"LitAgainModel", "doesStop", "(I)Z"⟩, 43), (⟨"LitAgainModel", "isSomebodyDark", "()Z"⟩, 43), (⟨"LitAgainModel", "lowest", "(I)J"⟩, 43), (⟨"LitAgainModel", "goesChances", "()V"⟩, 43), (⟨"LitAgainModel", "stays", "(II)J"⟩, 43), (⟨"LitAgainModel", "tenthsOut", "(I)I"⟩, 43)]
theorem lw_r5 : ∀ q ∈ lw_privs_5, lw_okq q := List.forall_mem_cons.mpr ⟨lw_p64, List.forall_mem_cons.mpr ⟨lw_p65, List.forall_mem_cons.mpr ⟨lw_p66, List.forall_mem_cons.mpr ⟨lw_p67, List.forall_mem_cons.mpr ⟨lw_p68, List.forall_mem_cons.mpr ⟨lw_p69, List.forall_mem_cons.mpr ⟨lw_p70, List.forall_mem_cons.mpr ⟨lw_p71, List.forall_mem_cons.mpr ⟨lw_p72, List.forall_mem_cons.mpr ⟨lw_p73, List.forall_mem_cons.mpr ⟨lw_p74, List.forall_mem_cons.mpr ⟨lw_p75, List.forall_mem_cons.mpr ⟨lw_p76, List.forall_mem_cons.mpr ⟨lw_p77, List.forall_mem_cons.mpr ⟨lw_p78, List.forall_mem_cons.mpr ⟨lw_p79, fun _ h => absurd h List.not_mem_nil⟩⟩⟩⟩⟩⟩⟩⟩⟩⟩⟩⟩⟩⟩⟩⟩
theorem lw_p80 : lw_okq (⟨"LitAgainModel", "areAllLit", "(I)Z"⟩, 43) := ⟨⟨by decide +kernel, by decide +kernel⟩, List.mem_of_getElem? (i := 1157) (by decide +kernel), List.mem_of_getElem? (i := 1625) (by decide +kernel), List.mem_of_getElem? (i := 1626) (by decide +kernel)⟩
theorem lw_p81 : lw_okq (⟨"LitAgainModel", "smallBits", "()I"⟩, 43) := ⟨⟨by decide +kernel, by decide +kernel⟩, List.mem_of_getElem? (i := 1157) (by decide +kernel), List.mem_of_getElem? (i := 1629) (by decide +kernel), List.mem_of_getElem? (i := 1630) (by decide +kernel)⟩
theorem lw_p82 : lw_okq (⟨"LitAgainModel", "doorCalm", "(II)I"⟩, 43) := ⟨⟨by decide +kernel, by decide +kernel⟩, List.mem_of_getElem? (i := 1157) (by decide +kernel), List.mem_of_getElem? (i := 1649) (by decide +kernel), List.mem_of_getElem? (i := 1650) (by decide +kernel)⟩
theorem lw_p83 : lw_okq (⟨"LitAgainModel", "goesCounting", "(I)V"⟩, 43) := ⟨⟨by decide +kernel, by decide +kernel⟩, List.mem_of_getElem? (i := 1157) (by decide +kernel), List.mem_of_getElem? (i := 1665) (by decide +kernel), List.mem_of_getElem? (i := 1666) (by decide +kernel)⟩
theorem lw_p84 : lw_okq (⟨"LitAgainModel", "findGame", "()V"⟩, 43) := ⟨⟨by decide +kernel, by decide +kernel⟩, List.mem_of_getElem? (i := 1157) (by decide +kernel), List.mem_of_getElem? (i := 1681) (by decide +kernel), List.mem_of_getElem? (i := 1682) (by decide +kernel)⟩
theorem lw_p85 : lw_okq (⟨"LitAgainModel", "sureBy", "(Z)I"⟩, 43) := ⟨⟨by decide +kernel, by decide +kernel⟩, List.mem_of_getElem? (i := 1157) (by decide +kernel), List.mem_of_getElem? (i := 1685) (by decide +kernel), List.mem_of_getElem? (i := 1686) (by decide +kernel)⟩
theorem lw_p86 : lw_okq (⟨"LitAgainModel", "rests", "(I)Z"⟩, 43) := ⟨⟨by decide +kernel, by decide +kernel⟩, List.mem_of_getElem? (i := 1157) (by decide +kernel), List.mem_of_getElem? (i := 1689) (by decide +kernel), List.mem_of_getElem? (i := 1690) (by decide +kernel)⟩
theorem lw_p87 : lw_okq (⟨"LitAgainModel", "longestDark", "()I"⟩, 43) := ⟨⟨by decide +kernel, by decide +kernel⟩, List.mem_of_getElem? (i := 1157) (by decide +kernel), List.mem_of_getElem? (i := 1701) (by decide +kernel), List.mem_of_getElem? (i := 1702) (by decide +kernel)⟩
theorem lw_p88 : lw_okq (⟨"LitAgainModel", "findMatches", "(I)Z"⟩, 43) := ⟨⟨by decide +kernel, by decide +kernel⟩, List.mem_of_getElem? (i := 1157) (by decide +kernel), List.mem_of_getElem? (i := 1709) (by decide +kernel), List.mem_of_getElem? (i := 1710) (by decide +kernel)⟩
theorem lw_p89 : lw_okq (⟨"LitAgainModel", "doesLight", "(I)Z"⟩, 43) := ⟨⟨by decide +kernel, by decide +kernel⟩, List.mem_of_getElem? (i := 1157) (by decide +kernel), List.mem_of_getElem? (i := 1713) (by decide +kernel), List.mem_of_getElem? (i := 1714) (by decide +kernel)⟩
theorem lw_p90 : lw_okq (⟨"LitAgainModel", "lightsOne", "()V"⟩, 43) := ⟨⟨by decide +kernel, by decide +kernel⟩, List.mem_of_getElem? (i := 1157) (by decide +kernel), List.mem_of_getElem? (i := 1717) (by decide +kernel), List.mem_of_getElem? (i := 1718) (by decide +kernel)⟩
theorem lw_p91 : lw_okq (⟨"LitAgainModel", "isWax", "(I)Z"⟩, 43) := ⟨⟨by decide +kernel, by decide +kernel⟩, List.mem_of_getElem? (i := 1157) (by decide +kernel), List.mem_of_getElem? (i := 1725) (by decide +kernel), List.mem_of_getElem? (i := 1726) (by decide +kernel)⟩
theorem lw_p92 : lw_okq (⟨"LitAgainModel", "draw", "(I)I"⟩, 43) := ⟨⟨by decide +kernel, by decide +kernel⟩, List.mem_of_getElem? (i := 1157) (by decide +kernel), List.mem_of_getElem? (i := 1749) (by decide +kernel), List.mem_of_getElem? (i := 1750) (by decide +kernel)⟩
def lw_privs_6 : List (MethodName × Nat) := [(⟨"LitAgainModel", "areAllLit", "(I)Z"⟩, 43), (⟨"LitAgainModel", "smallBits", "()I"⟩, 43), (⟨"LitAgainModel", "doorCalm", "(II)I"⟩, 43), (⟨"LitAgainModel", "goesCounting", "(I)V"⟩, 43), (⟨"LitAgainModel", "findGame", "()V"⟩, 43), (⟨"LitAgainModel", "sureBy", "(Z)I"⟩, 43), (⟨"LitAgainModel", "rests", "(I)Z"⟩, 43), (⟨"LitAgainModel", "longestDark", "()I"⟩, 43), (⟨"LitAgainModel", "findMatches", "(I)Z"⟩, 43), (⟨"LitAgainModel", "doesLight", "(I)Z"⟩, 43), (⟨"LitAgainModel", "lightsOne", "()V"⟩, 43), (⟨"LitAgainModel", "isWax", "(I)Z"⟩, 43), (⟨"LitAgainModel", "draw", "(I)I"⟩, 43)]
theorem lw_r6 : ∀ q ∈ lw_privs_6, lw_okq q := List.forall_mem_cons.mpr ⟨lw_p80, List.forall_mem_cons.mpr ⟨lw_p81, List.forall_mem_cons.mpr ⟨lw_p82, List.forall_mem_cons.mpr ⟨lw_p83, List.forall_mem_cons.mpr ⟨lw_p84, List.forall_mem_cons.mpr ⟨lw_p85, List.forall_mem_cons.mpr ⟨lw_p86, List.forall_mem_cons.mpr ⟨lw_p87, List.forall_mem_cons.mpr ⟨lw_p88, List.forall_mem_cons.mpr ⟨lw_p89, List.forall_mem_cons.mpr ⟨lw_p90, List.forall_mem_cons.mpr ⟨lw_p91, List.forall_mem_cons.mpr ⟨lw_p92, fun _ h => absurd h List.not_mem_nil⟩⟩⟩⟩⟩⟩⟩⟩⟩⟩⟩⟩⟩
def lw_privs : List (MethodName × Nat) := lw_privs_1 ++ (lw_privs_2 ++ (lw_privs_3 ++ (lw_privs_4 ++ (lw_privs_5 ++ (lw_privs_6)))))
def lw_tbl : List Cond := k2_sels lw_privs ++ tables_1
theorem lw_privs_ok : ∀ q ∈ lw_privs, lw_okq q := by
  show ∀ q ∈ lw_privs_1 ++ (lw_privs_2 ++ (lw_privs_3 ++ (lw_privs_4 ++ (lw_privs_5 ++ (lw_privs_6))))), lw_okq q
  exact List.forall_mem_append.mpr ⟨lw_r1, List.forall_mem_append.mpr ⟨lw_r2, List.forall_mem_append.mpr ⟨lw_r3, List.forall_mem_append.mpr ⟨lw_r4, List.forall_mem_append.mpr ⟨lw_r5, lw_r6⟩⟩⟩⟩⟩

def RX0 : String := "LitAgain$Chances"
def TX0 : u_T := fun k => match k with
  | 0 => ("LitAgain$Chances", "whole", "J", false)
  | 1 => ("LitAgain$Chances", "weights", "[J", true)
  | 2 => ("LitAgain$Chances", "nexts", "[J", true)
  | 3 => ("LitAgain$Chances", "tenths", "[I", true)
  | _ => ("LitAgain$Chances", "walk", "LLitAgain$Walk;", true)
def tyX0 : Nat → FieldType := fun k => match k with
  | 0 => .long
  | 1 => .array .long
  | 2 => .array .long
  | 3 => .array .int
  | _ => .object "LitAgain$Walk"
theorem nmX0 : ∀ a, a < 5 → ∀ b, b < 5 → a ≠ b → (TX0 a).2.1 ≠ (TX0 b).2.1 := by decide +kernel
theorem tyX0_ok : ∀ k, k < 5 → parseFieldDescriptor (TX0 k).2.2.1 = some (tyX0 k) := by decide +kernel
abbrev cX0_init : ByteArray := prog_2_method_1_code
def yX0_init : MethodName := ⟨RX0, "<init>", "(LLitAgain$Walk;)V"⟩
abbrev cX0_weigh : ByteArray := prog_2_method_2_code
def yX0_weigh : MethodName := ⟨RX0, "weigh", "(LLitAgain$Company;I)V"⟩
abbrev cX0_inLeastTerms : ByteArray := prog_2_method_3_code
def yX0_inLeastTerms : MethodName := ⟨RX0, "inLeastTerms", "(ZZ)J"⟩
abbrev cX0_fillTenths : ByteArray := prog_2_method_4_code
def yX0_fillTenths : MethodName := ⟨RX0, "fillTenths", "(LLitAgain$Company;I)V"⟩
abbrev cX0_passChances : ByteArray := prog_2_method_5_code
def yX0_passChances : MethodName := ⟨RX0, "passChances", "()V"⟩
abbrev cX0_partsOf : ByteArray := prog_2_method_6_code
def yX0_partsOf : MethodName := ⟨RX0, "partsOf", "(II)J"⟩
abbrev cX0_greatestCommon : ByteArray := prog_2_method_7_code
def yX0_greatestCommon : MethodName := ⟨RX0, "greatestCommon", "(JJ)J"⟩
def RX1 : String := "LitAgain$Changes"
def TX1 : u_T := fun k => match k with
  | 0 => ("LitAgain$Changes", "found", "I", false)
  | 1 => ("LitAgain$Changes", "most", "I", false)
  | 2 => ("LitAgain$Changes", "nightsLit", "I", false)
  | 3 => ("LitAgain$Changes", "darkNights", "I", false)
  | 4 => ("LitAgain$Changes", "seed", "I", false)
  | 5 => ("LitAgain$Changes", "now", "LLitAgain$Company;", true)
  | 6 => ("LitAgain$Changes", "trial", "LLitAgain$Company;", true)
  | 7 => ("LitAgain$Changes", "walk", "LLitAgain$Walk;", true)
  | 8 => ("LitAgain$Changes", "order", "[I", true)
  | _ => ("LitAgain$Changes", "outcomes", "[I", true)
def tyX1 : Nat → FieldType := fun k => match k with
  | 0 => .int
  | 1 => .int
  | 2 => .int
  | 3 => .int
  | 4 => .int
  | 5 => .object "LitAgain$Company"
  | 6 => .object "LitAgain$Company"
  | 7 => .object "LitAgain$Walk"
  | 8 => .array .int
  | _ => .array .int
theorem nmX1 : ∀ a, a < 10 → ∀ b, b < 10 → a ≠ b → (TX1 a).2.1 ≠ (TX1 b).2.1 := by decide +kernel
theorem tyX1_ok : ∀ k, k < 10 → parseFieldDescriptor (TX1 k).2.2.1 = some (tyX1 k) := by decide +kernel
abbrev cX1_init : ByteArray := prog_3_method_1_code
def yX1_init : MethodName := ⟨RX1, "<init>", "(LLitAgain$Company;LLitAgain$Company;LLitAgain$Walk;)V"⟩
abbrev cX1_lowered : ByteArray := prog_3_method_2_code
def yX1_lowered : MethodName := ⟨RX1, "lowered", "()I"⟩
abbrev cX1_exchanged : ByteArray := prog_3_method_3_code
def yX1_exchanged : MethodName := ⟨RX1, "exchanged", "()I"⟩
abbrev cX1_findOrder : ByteArray := prog_3_method_4_code
def yX1_findOrder : MethodName := ⟨RX1, "findOrder", "()V"⟩
abbrev cX1_findLantern : ByteArray := prog_3_method_5_code
def yX1_findLantern : MethodName := ⟨RX1, "findLantern", "()V"⟩
abbrev cX1_fewestLanterns : ByteArray := prog_3_method_6_code
def yX1_fewestLanterns : MethodName := ⟨RX1, "fewestLanterns", "()I"⟩
abbrev cX1_leftBehind : ByteArray := prog_3_method_7_code
def yX1_leftBehind : MethodName := ⟨RX1, "leftBehind", "()I"⟩
abbrev cX1_bestSide : ByteArray := prog_3_method_8_code
def yX1_bestSide : MethodName := ⟨RX1, "bestSide", "()I"⟩
abbrev cX1_walkNights : ByteArray := prog_3_method_9_code
def yX1_walkNights : MethodName := ⟨RX1, "walkNights", "(II)V"⟩
abbrev cX1_findForm : ByteArray := prog_3_method_10_code
def yX1_findForm : MethodName := ⟨RX1, "findForm", "()V"⟩
abbrev cX1_farthestDoor : ByteArray := prog_3_method_11_code
def yX1_farthestDoor : MethodName := ⟨RX1, "farthestDoor", "()I"⟩
abbrev cX1_countTurned : ByteArray := prog_3_method_12_code
def yX1_countTurned : MethodName := ⟨RX1, "countTurned", "()I"⟩
abbrev cX1_kindsLit : ByteArray := prog_3_method_13_code
def yX1_kindsLit : MethodName := ⟨RX1, "kindsLit", "(I)I"⟩
abbrev cX1_fillGame : ByteArray := prog_3_method_14_code
def yX1_fillGame : MethodName := ⟨RX1, "fillGame", "()V"⟩
abbrev cX1_steadyPair : ByteArray := prog_3_method_15_code
def yX1_steadyPair : MethodName := ⟨RX1, "steadyPair", "()I"⟩
abbrev cX1_sureNumber : ByteArray := prog_3_method_16_code
def yX1_sureNumber : MethodName := ⟨RX1, "sureNumber", "()I"⟩
abbrev cX1_knownNumber : ByteArray := prog_3_method_17_code
def yX1_knownNumber : MethodName := ⟨RX1, "knownNumber", "()I"⟩
abbrev cX1_fewestOfForm : ByteArray := prog_3_method_18_code
def yX1_fewestOfForm : MethodName := ⟨RX1, "fewestOfForm", "(I)I"⟩
abbrev cX1_mostOfSide : ByteArray := prog_3_method_19_code
def yX1_mostOfSide : MethodName := ⟨RX1, "mostOfSide", "(I)I"⟩
abbrev cX1_doorOf : ByteArray := prog_3_method_20_code
def yX1_doorOf : MethodName := ⟨RX1, "doorOf", "(LLitAgain$Company;)I"⟩
abbrev cX1_countOf : ByteArray := prog_3_method_21_code
def yX1_countOf : MethodName := ⟨RX1, "countOf", "(LLitAgain$Company;)I"⟩
abbrev cX1_startSearch : ByteArray := prog_3_method_22_code
def yX1_startSearch : MethodName := ⟨RX1, "startSearch", "(I)V"⟩
abbrev cX1_consider : ByteArray := prog_3_method_23_code
def yX1_consider : MethodName := ⟨RX1, "consider", "(II)V"⟩
abbrev cX1_lanternsDo : ByteArray := prog_3_method_24_code
def yX1_lanternsDo : MethodName := ⟨RX1, "lanternsDo", "(I)Z"⟩
abbrev cX1_orderAsDigits : ByteArray := prog_3_method_25_code
def yX1_orderAsDigits : MethodName := ⟨RX1, "orderAsDigits", "(I)I"⟩
abbrev cX1_nextOrder : ByteArray := prog_3_method_26_code
def yX1_nextOrder : MethodName := ⟨RX1, "nextOrder", "(I)V"⟩
abbrev cX1_exchangePlaces : ByteArray := prog_3_method_27_code
def yX1_exchangePlaces : MethodName := ⟨RX1, "exchangePlaces", "(II)V"⟩
abbrev cX1_drawBelow : ByteArray := prog_3_method_28_code
def yX1_drawBelow : MethodName := ⟨RX1, "drawBelow", "(I)I"⟩
def RX2 : String := "LitAgain$Company"
def TX2 : u_T := fun k => match k with
  | 0 => ("LitAgain$Company", "people", "I", false)
  | 1 => ("LitAgain$Company", "lit", "I", false)
  | 2 => ("LitAgain$Company", "form", "I", false)
  | 3 => ("LitAgain$Company", "each", "I", false)
  | 4 => ("LitAgain$Company", "door", "I", false)
  | 5 => ("LitAgain$Company", "place", "I", false)
  | 6 => ("LitAgain$Company", "minute", "I", false)
  | 7 => ("LitAgain$Company", "kinds", "[I", true)
  | 8 => ("LitAgain$Company", "figures", "[I", true)
  | 9 => ("LitAgain$Company", "forces", "[I", true)
  | _ => ("LitAgain$Company", "sides", "[I", true)
def tyX2 : Nat → FieldType := fun k => match k with
  | 0 => .int
  | 1 => .int
  | 2 => .int
  | 3 => .int
  | 4 => .int
  | 5 => .int
  | 6 => .int
  | 7 => .array .int
  | 8 => .array .int
  | 9 => .array .int
  | _ => .array .int
theorem nmX2 : ∀ a, a < 11 → ∀ b, b < 11 → a ≠ b → (TX2 a).2.1 ≠ (TX2 b).2.1 := by decide +kernel
theorem tyX2_ok : ∀ k, k < 11 → parseFieldDescriptor (TX2 k).2.2.1 = some (tyX2 k) := by decide +kernel
abbrev cX2_init : ByteArray := prog_4_method_1_code
def yX2_init : MethodName := ⟨RX2, "<init>", "()V"⟩
abbrev cX2_takeFrom : ByteArray := prog_4_method_2_code
def yX2_takeFrom : MethodName := ⟨RX2, "takeFrom", "(LLitAgain$Company;)V"⟩
abbrev cX2_append : ByteArray := prog_4_method_3_code
def yX2_append : MethodName := ⟨RX2, "append", "(IIZ)V"⟩
abbrev cX2_hasOne : ByteArray := prog_4_method_4_code
def yX2_hasOne : MethodName := ⟨RX2, "hasOne", "(I)Z"⟩
abbrev cX2_isLit : ByteArray := prog_4_method_5_code
def yX2_isLit : MethodName := ⟨RX2, "isLit", "(I)Z"⟩
abbrev cX2_putLit : ByteArray := prog_4_method_6_code
def yX2_putLit : MethodName := ⟨RX2, "putLit", "(IZ)V"⟩
abbrev cX2_isSmall : ByteArray := prog_4_method_7_code
def yX2_isSmall : MethodName := ⟨RX2, "isSmall", "(I)Z"⟩
abbrev cX2_become : ByteArray := prog_4_method_8_code
def yX2_become : MethodName := ⟨RX2, "become", "(II)V"⟩
abbrev cX2_becomeLantern : ByteArray := prog_4_method_9_code
def yX2_becomeLantern : MethodName := ⟨RX2, "becomeLantern", "(I)V"⟩
abbrev cX2_copyOne : ByteArray := prog_4_method_10_code
def yX2_copyOne : MethodName := ⟨RX2, "copyOne", "(ILLitAgain$Company;I)V"⟩
abbrev cX2_isAtDoor : ByteArray := prog_4_method_11_code
def yX2_isAtDoor : MethodName := ⟨RX2, "isAtDoor", "()Z"⟩
abbrev cX2_everybody : ByteArray := prog_4_method_12_code
def yX2_everybody : MethodName := ⟨RX2, "everybody", "()I"⟩
abbrev cX2_grownOnes : ByteArray := prog_4_method_13_code
def yX2_grownOnes : MethodName := ⟨RX2, "grownOnes", "()I"⟩
abbrev cX2_holdsOf : ByteArray := prog_4_method_14_code
def yX2_holdsOf : MethodName := ⟨RX2, "holdsOf", "(I)I"⟩
abbrev cX2_coverer : ByteArray := prog_4_method_15_code
def yX2_coverer : MethodName := ⟨RX2, "coverer", "(II)I"⟩
abbrev cX2_coverFor : ByteArray := prog_4_method_16_code
def yX2_coverFor : MethodName := ⟨RX2, "coverFor", "(II)I"⟩
abbrev cX2_feltBy : ByteArray := prog_4_method_17_code
def yX2_feltBy : MethodName := ⟨RX2, "feltBy", "(II)I"⟩
abbrev cX2_nearOnes : ByteArray := prog_4_method_18_code
def yX2_nearOnes : MethodName := ⟨RX2, "nearOnes", "(I)I"⟩
abbrev cX2_lightOf : ByteArray := prog_4_method_19_code
def yX2_lightOf : MethodName := ⟨RX2, "lightOf", "(I)I"⟩
abbrev cX2_tellOf : ByteArray := prog_4_method_20_code
def yX2_tellOf : MethodName := ⟨RX2, "tellOf", "(II)I"⟩
abbrev cX2_blowFrom : ByteArray := prog_4_method_21_code
def yX2_blowFrom : MethodName := ⟨RX2, "blowFrom", "(I)V"⟩
def RX3 : String := "LitAgain$Letters"
def TX3 : u_T := fun k => match k with
  | 0 => ("LitAgain$Letters", "size", "I", false)
  | 1 => ("LitAgain$Letters", "text", "[I", true)
  | 2 => ("LitAgain$Letters", "trial", "LLitAgain$Company;", true)
  | _ => ("LitAgain$Letters", "walk", "LLitAgain$Walk;", true)
def tyX3 : Nat → FieldType := fun k => match k with
  | 0 => .int
  | 1 => .array .int
  | 2 => .object "LitAgain$Company"
  | _ => .object "LitAgain$Walk"
theorem nmX3 : ∀ a, a < 4 → ∀ b, b < 4 → a ≠ b → (TX3 a).2.1 ≠ (TX3 b).2.1 := by decide +kernel
theorem tyX3_ok : ∀ k, k < 4 → parseFieldDescriptor (TX3 k).2.2.1 = some (tyX3 k) := by decide +kernel
abbrev cX3_init : ByteArray := prog_5_method_1_code
def yX3_init : MethodName := ⟨RX3, "<init>", "(LLitAgain$Company;LLitAgain$Walk;)V"⟩
abbrev cX3_isFull : ByteArray := prog_5_method_2_code
def yX3_isFull : MethodName := ⟨RX3, "isFull", "()Z"⟩
abbrev cX3_append : ByteArray := prog_5_method_3_code
def yX3_append : MethodName := ⟨RX3, "append", "(I)I"⟩
abbrev cX3_textFault : ByteArray := prog_5_method_4_code
def yX3_textFault : MethodName := ⟨RX3, "textFault", "()I"⟩
abbrev cX3_comeTo : ByteArray := prog_5_method_5_code
def yX3_comeTo : MethodName := ⟨RX3, "comeTo", "(LLitAgain$Company;)I"⟩
abbrev cX3_digitsBehind : ByteArray := prog_5_method_6_code
def yX3_digitsBehind : MethodName := ⟨RX3, "digitsBehind", "(I)I"⟩
abbrev cX3_digitAt : ByteArray := prog_5_method_7_code
def yX3_digitAt : MethodName := ⟨RX3, "digitAt", "(I)I"⟩
abbrev cX3_twoDigitsAt : ByteArray := prog_5_method_8_code
def yX3_twoDigitsAt : MethodName := ⟨RX3, "twoDigitsAt", "(I)I"⟩
abbrev cX3_comes : ByteArray := prog_5_method_9_code
def yX3_comes : MethodName := ⟨RX3, "comes", "(I)Z"⟩
abbrev cX3_personComes : ByteArray := prog_5_method_10_code
def yX3_personComes : MethodName := ⟨RX3, "personComes", "(III)Z"⟩
abbrev cX3_windComes : ByteArray := prog_5_method_11_code
def yX3_windComes : MethodName := ⟨RX3, "windComes", "(III)Z"⟩
abbrev cX3_formComes : ByteArray := prog_5_method_12_code
def yX3_formComes : MethodName := ⟨RX3, "formComes", "(II)Z"⟩
abbrev cX3_doorComes : ByteArray := prog_5_method_13_code
def yX3_doorComes : MethodName := ⟨RX3, "doorComes", "(I)Z"⟩
abbrev cX3_lightComes : ByteArray := prog_5_method_14_code
def yX3_lightComes : MethodName := ⟨RX3, "lightComes", "(I)Z"⟩
def RX4 : String := "LitAgain$Mind"
def TX4 : u_T := fun k => match k with
  | 0 => ("LitAgain$Mind", "waxSets", "I", false)
  | 1 => ("LitAgain$Mind", "leastWaxSet", "I", false)
  | 2 => ("LitAgain$Mind", "gap", "I", false)
  | 3 => ("LitAgain$Mind", "gapMinute", "I", false)
  | 4 => ("LitAgain$Mind", "now", "LLitAgain$Company;", true)
  | 5 => ("LitAgain$Mind", "walk", "LLitAgain$Walk;", true)
  | _ => ("LitAgain$Mind", "origins", "[I", true)
def tyX4 : Nat → FieldType := fun k => match k with
  | 0 => .int
  | 1 => .int
  | 2 => .int
  | 3 => .int
  | 4 => .object "LitAgain$Company"
  | 5 => .object "LitAgain$Walk"
  | _ => .array .int
theorem nmX4 : ∀ a, a < 7 → ∀ b, b < 7 → a ≠ b → (TX4 a).2.1 ≠ (TX4 b).2.1 := by decide +kernel
theorem tyX4_ok : ∀ k, k < 7 → parseFieldDescriptor (TX4 k).2.2.1 = some (tyX4 k) := by decide +kernel
abbrev cX4_init : ByteArray := prog_6_method_1_code
def yX4_init : MethodName := ⟨RX4, "<init>", "(LLitAgain$Company;LLitAgain$Walk;)V"⟩
abbrev cX4_litBehind : ByteArray := prog_6_method_2_code
def yX4_litBehind : MethodName := ⟨RX4, "litBehind", "(I)I"⟩
abbrev cX4_firstDark : ByteArray := prog_6_method_3_code
def yX4_firstDark : MethodName := ⟨RX4, "firstDark", "()I"⟩
abbrev cX4_longestDark : ByteArray := prog_6_method_4_code
def yX4_longestDark : MethodName := ⟨RX4, "longestDark", "()I"⟩
abbrev cX4_darkMinutes : ByteArray := prog_6_method_5_code
def yX4_darkMinutes : MethodName := ⟨RX4, "darkMinutes", "(I)I"⟩
abbrev cX4_lastLighter : ByteArray := prog_6_method_6_code
def yX4_lastLighter : MethodName := ⟨RX4, "lastLighter", "(II)I"⟩
abbrev cX4_originOf : ByteArray := prog_6_method_7_code
def yX4_originOf : MethodName := ⟨RX4, "originOf", "(I)I"⟩
abbrev cX4_timesOut : ByteArray := prog_6_method_8_code
def yX4_timesOut : MethodName := ⟨RX4, "timesOut", "(I)I"⟩
abbrev cX4_timesLit : ByteArray := prog_6_method_9_code
def yX4_timesLit : MethodName := ⟨RX4, "timesLit", "()I"⟩
abbrev cX4_findGap : ByteArray := prog_6_method_10_code
def yX4_findGap : MethodName := ⟨RX4, "findGap", "()V"⟩
abbrev cX4_firstUntrue : ByteArray := prog_6_method_11_code
def yX4_firstUntrue : MethodName := ⟨RX4, "firstUntrue", "(LLitAgain$Row;)I"⟩
abbrev cX4_findWaxSets : ByteArray := prog_6_method_12_code
def yX4_findWaxSets : MethodName := ⟨RX4, "findWaxSets", "(LLitAgain$Row;)V"⟩
abbrev cX4_enoughAtFirst : ByteArray := prog_6_method_13_code
def yX4_enoughAtFirst : MethodName := ⟨RX4, "enoughAtFirst", "()I"⟩
abbrev cX4_calmMinutes : ByteArray := prog_6_method_14_code
def yX4_calmMinutes : MethodName := ⟨RX4, "calmMinutes", "()I"⟩
abbrev cX4_calmBehind : ByteArray := prog_6_method_15_code
def yX4_calmBehind : MethodName := ⟨RX4, "calmBehind", "(I)I"⟩
abbrev cX4_walkFromNow : ByteArray := prog_6_method_16_code
def yX4_walkFromNow : MethodName := ⟨RX4, "walkFromNow", "()V"⟩
abbrev cX4_darkEnds : ByteArray := prog_6_method_17_code
def yX4_darkEnds : MethodName := ⟨RX4, "darkEnds", "(I)I"⟩
abbrev cX4_agrees : ByteArray := prog_6_method_18_code
def yX4_agrees : MethodName := ⟨RX4, "agrees", "(ILLitAgain$Row;)Z"⟩
abbrev cX4_handOn : ByteArray := prog_6_method_19_code
def yX4_handOn : MethodName := ⟨RX4, "handOn", "(I)V"⟩
abbrev cX4_widestGap : ByteArray := prog_6_method_20_code
def yX4_widestGap : MethodName := ⟨RX4, "widestGap", "(I)I"⟩
def RX5 : String := "LitAgain$Past"
def TX5 : u_T := fun k => match k with
  | 0 => ("LitAgain$Past", "size", "I", false)
  | 1 => ("LitAgain$Past", "lits", "[I", true)
  | 2 => ("LitAgain$Past", "places", "[I", true)
  | _ => ("LitAgain$Past", "minutes", "[I", true)
def tyX5 : Nat → FieldType := fun k => match k with
  | 0 => .int
  | 1 => .array .int
  | 2 => .array .int
  | _ => .array .int
theorem nmX5 : ∀ a, a < 4 → ∀ b, b < 4 → a ≠ b → (TX5 a).2.1 ≠ (TX5 b).2.1 := by decide +kernel
theorem tyX5_ok : ∀ k, k < 4 → parseFieldDescriptor (TX5 k).2.2.1 = some (tyX5 k) := by decide +kernel
abbrev cX5_init : ByteArray := prog_7_method_1_code
def yX5_init : MethodName := ⟨RX5, "<init>", "()V"⟩
abbrev cX5_forget : ByteArray := prog_7_method_2_code
def yX5_forget : MethodName := ⟨RX5, "forget", "()V"⟩
abbrev cX5_keep : ByteArray := prog_7_method_3_code
def yX5_keep : MethodName := ⟨RX5, "keep", "(LLitAgain$Company;)V"⟩
abbrev cX5_takeBack : ByteArray := prog_7_method_4_code
def yX5_takeBack : MethodName := ⟨RX5, "takeBack", "(LLitAgain$Company;)V"⟩
abbrev cX5_dropOldest : ByteArray := prog_7_method_5_code
def yX5_dropOldest : MethodName := ⟨RX5, "dropOldest", "()V"⟩
def RX6 : String := "LitAgain$Plans"
def TX6 : u_T := fun k => match k with
  | 0 => ("LitAgain$Plans", "ruleLit", "I", false)
  | 1 => ("LitAgain$Plans", "ruleMinutes", "I", false)
  | 2 => ("LitAgain$Plans", "struckAt", "[I", true)
  | 3 => ("LitAgain$Plans", "now", "LLitAgain$Company;", true)
  | _ => ("LitAgain$Plans", "walk", "LLitAgain$Walk;", true)
def tyX6 : Nat → FieldType := fun k => match k with
  | 0 => .int
  | 1 => .int
  | 2 => .array .int
  | 3 => .object "LitAgain$Company"
  | _ => .object "LitAgain$Walk"
theorem nmX6 : ∀ a, a < 5 → ∀ b, b < 5 → a ≠ b → (TX6 a).2.1 ≠ (TX6 b).2.1 := by decide +kernel
theorem tyX6_ok : ∀ k, k < 5 → parseFieldDescriptor (TX6 k).2.2.1 = some (tyX6 k) := by decide +kernel
abbrev cX6_init : ByteArray := prog_8_method_1_code
def yX6_init : MethodName := ⟨RX6, "<init>", "(LLitAgain$Company;LLitAgain$Walk;)V"⟩
abbrev cX6_bestStop : ByteArray := prog_8_method_2_code
def yX6_bestStop : MethodName := ⟨RX6, "bestStop", "()I"⟩
abbrev cX6_bestMatch : ByteArray := prog_8_method_3_code
def yX6_bestMatch : MethodName := ⟨RX6, "bestMatch", "()I"⟩
abbrev cX6_follow : ByteArray := prog_8_method_4_code
def yX6_follow : MethodName := ⟨RX6, "follow", "(I)V"⟩
abbrev cX6_bestRule : ByteArray := prog_8_method_5_code
def yX6_bestRule : MethodName := ⟨RX6, "bestRule", "()I"⟩
abbrev cX6_fewestMatches : ByteArray := prog_8_method_6_code
def yX6_fewestMatches : MethodName := ⟨RX6, "fewestMatches", "()I"⟩
abbrev cX6_calmPlace : ByteArray := prog_8_method_7_code
def yX6_calmPlace : MethodName := ⟨RX6, "calmPlace", "()I"⟩
abbrev cX6_calmPair : ByteArray := prog_8_method_8_code
def yX6_calmPair : MethodName := ⟨RX6, "calmPair", "()I"⟩
abbrev cX6_startFromNow : ByteArray := prog_8_method_9_code
def yX6_startFromNow : MethodName := ⟨RX6, "startFromNow", "()I"⟩
abbrev cX6_stillAt : ByteArray := prog_8_method_10_code
def yX6_stillAt : MethodName := ⟨RX6, "stillAt", "(I)I"⟩
abbrev cX6_withStop : ByteArray := prog_8_method_11_code
def yX6_withStop : MethodName := ⟨RX6, "withStop", "(II)I"⟩
abbrev cX6_tellsToStop : ByteArray := prog_8_method_12_code
def yX6_tellsToStop : MethodName := ⟨RX6, "tellsToStop", "(III)Z"⟩
abbrev cX6_struck : ByteArray := prog_8_method_13_code
def yX6_struck : MethodName := ⟨RX6, "struck", "(I)I"⟩
abbrev cX6_hasOneMatch : ByteArray := prog_8_method_14_code
def yX6_hasOneMatch : MethodName := ⟨RX6, "hasOneMatch", "(III)Z"⟩
abbrev cX6_hasTwoMatches : ByteArray := prog_8_method_15_code
def yX6_hasTwoMatches : MethodName := ⟨RX6, "hasTwoMatches", "(III)Z"⟩
def RX7 : String := "LitAgain$Row"
def TX7 : u_T := fun k => match k with
  | 0 => ("LitAgain$Row", "size", "I", false)
  | _ => ("LitAgain$Row", "values", "[I", true)
def tyX7 : Nat → FieldType := fun k => match k with
  | 0 => .int
  | _ => .array .int
theorem nmX7 : ∀ a, a < 2 → ∀ b, b < 2 → a ≠ b → (TX7 a).2.1 ≠ (TX7 b).2.1 := by decide +kernel
theorem tyX7_ok : ∀ k, k < 2 → parseFieldDescriptor (TX7 k).2.2.1 = some (tyX7 k) := by decide +kernel
abbrev cX7_init : ByteArray := prog_9_method_1_code
def yX7_init : MethodName := ⟨RX7, "<init>", "()V"⟩
abbrev cX7_isFull : ByteArray := prog_9_method_2_code
def yX7_isFull : MethodName := ⟨RX7, "isFull", "()Z"⟩
abbrev cX7_append : ByteArray := prog_9_method_3_code
def yX7_append : MethodName := ⟨RX7, "append", "(I)I"⟩
def RX8 : String := "LitAgain$Walk"
def TX8 : u_T := fun k => match k with
  | 0 => ("LitAgain$Walk", "people", "I", false)
  | 1 => ("LitAgain$Walk", "grown", "I", false)
  | 2 => ("LitAgain$Walk", "each", "I", false)
  | 3 => ("LitAgain$Walk", "start", "I", false)
  | 4 => ("LitAgain$Walk", "minutes", "I", false)
  | 5 => ("LitAgain$Walk", "fell", "I", false)
  | 6 => ("LitAgain$Walk", "fresh", "I", false)
  | 7 => ("LitAgain$Walk", "lighter", "[I", true)
  | 8 => ("LitAgain$Walk", "ends", "[I", true)
  | 9 => ("LitAgain$Walk", "unsteady", "[I", true)
  | 10 => ("LitAgain$Walk", "near", "[I", true)
  | _ => ("LitAgain$Walk", "bears", "[I", true)
def tyX8 : Nat → FieldType := fun k => match k with
  | 0 => .int
  | 1 => .int
  | 2 => .int
  | 3 => .int
  | 4 => .int
  | 5 => .int
  | 6 => .int
  | 7 => .array .int
  | 8 => .array .int
  | 9 => .array .int
  | 10 => .array .int
  | _ => .array .int
theorem nmX8 : ∀ a, a < 12 → ∀ b, b < 12 → a ≠ b → (TX8 a).2.1 ≠ (TX8 b).2.1 := by decide +kernel
theorem tyX8_ok : ∀ k, k < 12 → parseFieldDescriptor (TX8 k).2.2.1 = some (tyX8 k) := by decide +kernel
abbrev cX8_init : ByteArray := prog_10_method_1_code
def yX8_init : MethodName := ⟨RX8, "<init>", "()V"⟩
abbrev cX8_setOut : ByteArray := prog_10_method_2_code
def yX8_setOut : MethodName := ⟨RX8, "setOut", "(LLitAgain$Company;)V"⟩
abbrev cX8_minuteAt : ByteArray := prog_10_method_3_code
def yX8_minuteAt : MethodName := ⟨RX8, "minuteAt", "(II)I"⟩
abbrev cX8_relight : ByteArray := prog_10_method_4_code
def yX8_relight : MethodName := ⟨RX8, "relight", "(I)I"⟩
abbrev cX8_walkOn : ByteArray := prog_10_method_5_code
def yX8_walkOn : MethodName := ⟨RX8, "walkOn", "(I)V"⟩
abbrev cX8_atDoorFrom : ByteArray := prog_10_method_6_code
def yX8_atDoorFrom : MethodName := ⟨RX8, "atDoorFrom", "(II)I"⟩
abbrev cX8_passMinute : ByteArray := prog_10_method_7_code
def yX8_passMinute : MethodName := ⟨RX8, "passMinute", "(LLitAgain$Company;Z)V"⟩
abbrev cX8_unsteadyIn : ByteArray := prog_10_method_8_code
def yX8_unsteadyIn : MethodName := ⟨RX8, "unsteadyIn", "(II)I"⟩
def RX9 : String := "LitAgain"
def TX9 : u_T := fun k => match k with
  | 0 => ("LitAgain", "now", "LLitAgain$Company;", true)
  | 1 => ("LitAgain", "pictured", "LLitAgain$Company;", true)
  | 2 => ("LitAgain", "hasPicture", "Z", false)
  | 3 => ("LitAgain", "walk", "LLitAgain$Walk;", true)
  | 4 => ("LitAgain", "past", "LLitAgain$Past;", true)
  | 5 => ("LitAgain", "letters", "LLitAgain$Letters;", true)
  | 6 => ("LitAgain", "numbers", "LLitAgain$Row;", true)
  | 7 => ("LitAgain", "mind", "LLitAgain$Mind;", true)
  | 8 => ("LitAgain", "plans", "LLitAgain$Plans;", true)
  | 9 => ("LitAgain", "changes", "LLitAgain$Changes;", true)
  | 10 => ("LitAgain", "odds", "LLitAgain$Chances;", true)
  | _ => ("LitAgain", "refused", "[I", true)
def tyX9 : Nat → FieldType := fun k => match k with
  | 0 => .object "LitAgain$Company"
  | 1 => .object "LitAgain$Company"
  | 2 => .boolean
  | 3 => .object "LitAgain$Walk"
  | 4 => .object "LitAgain$Past"
  | 5 => .object "LitAgain$Letters"
  | 6 => .object "LitAgain$Row"
  | 7 => .object "LitAgain$Mind"
  | 8 => .object "LitAgain$Plans"
  | 9 => .object "LitAgain$Changes"
  | 10 => .object "LitAgain$Chances"
  | _ => .array .int
theorem nmX9 : ∀ a, a < 12 → ∀ b, b < 12 → a ≠ b → (TX9 a).2.1 ≠ (TX9 b).2.1 := by decide +kernel
theorem tyX9_ok : ∀ k, k < 12 → parseFieldDescriptor (TX9 k).2.2.1 = some (tyX9 k) := by decide +kernel
abbrev cX9_init : ByteArray := prog_1_method_1_code
def yX9_init : MethodName := ⟨RX9, "<init>", "()V"⟩
abbrev cX9_feed : ByteArray := prog_1_method_2_code
def yX9_feed : MethodName := ⟨RX9, "feed", "(I)I"⟩
abbrev cX9_road : ByteArray := prog_1_method_3_code
def yX9_road : MethodName := ⟨RX9, "road", "()I"⟩
abbrev cX9_person : ByteArray := prog_1_method_4_code
def yX9_person : MethodName := ⟨RX9, "person", "(II)I"⟩
abbrev cX9_light : ByteArray := prog_1_method_5_code
def yX9_light : MethodName := ⟨RX9, "light", "(II)I"⟩
abbrev cX9_kind : ByteArray := prog_1_method_6_code
def yX9_kind : MethodName := ⟨RX9, "kind", "(III)I"⟩
abbrev cX9_wind : ByteArray := prog_1_method_7_code
def yX9_wind : MethodName := ⟨RX9, "wind", "(II)I"⟩
abbrev cX9_blows : ByteArray := prog_1_method_8_code
def yX9_blows : MethodName := ⟨RX9, "blows", "(III)I"⟩
abbrev cX9_set : ByteArray := prog_1_method_9_code
def yX9_set : MethodName := ⟨RX9, "set", "(II)I"⟩
abbrev cX9_beside : ByteArray := prog_1_method_10_code
def yX9_beside : MethodName := ⟨RX9, "beside", "(I)I"⟩
abbrev cX9_covers : ByteArray := prog_1_method_11_code
def yX9_covers : MethodName := ⟨RX9, "covers", "(II)I"⟩
abbrev cX9_go : ByteArray := prog_1_method_12_code
def yX9_go : MethodName := ⟨RX9, "go", "(I)I"⟩
abbrev cX9_lit : ByteArray := prog_1_method_13_code
def yX9_lit : MethodName := ⟨RX9, "lit", "()I"⟩
abbrev cX9_then : ByteArray := prog_1_method_14_code
def yX9_then : MethodName := ⟨RX9, "then", "(I)I"⟩
abbrev cX9_door : ByteArray := prog_1_method_15_code
def yX9_door : MethodName := ⟨RX9, "door", "(I)I"⟩
abbrev cX9_dark : ByteArray := prog_1_method_16_code
def yX9_dark : MethodName := ⟨RX9, "dark", "(I)I"⟩
abbrev cX9_darkFor : ByteArray := prog_1_method_17_code
def yX9_darkFor : MethodName := ⟨RX9, "darkFor", "(I)I"⟩
abbrev cX9_litBy : ByteArray := prog_1_method_18_code
def yX9_litBy : MethodName := ⟨RX9, "litBy", "(II)I"⟩
abbrev cX9_stop : ByteArray := prog_1_method_19_code
def yX9_stop : MethodName := ⟨RX9, "stop", "()I"⟩
abbrev cX9_lower : ByteArray := prog_1_method_20_code
def yX9_lower : MethodName := ⟨RX9, "lower", "()I"⟩
abbrev cX9_changed : ByteArray := prog_1_method_21_code
def yX9_changed : MethodName := ⟨RX9, "changed", "()I"⟩
abbrev cX9_order : ByteArray := prog_1_method_22_code
def yX9_order : MethodName := ⟨RX9, "order", "(I)I"⟩
abbrev cX9_lantern : ByteArray := prog_1_method_23_code
def yX9_lantern : MethodName := ⟨RX9, "lantern", "(I)I"⟩
abbrev cX9_fewest : ByteArray := prog_1_method_24_code
def yX9_fewest : MethodName := ⟨RX9, "fewest", "(I)I"⟩
abbrev cX9_match : ByteArray := prog_1_method_25_code
def yX9_match : MethodName := ⟨RX9, "match", "()I"⟩
abbrev cX9_tail : ByteArray := prog_1_method_26_code
def yX9_tail : MethodName := ⟨RX9, "tail", "()I"⟩
abbrev cX9_rule : ByteArray := prog_1_method_27_code
def yX9_rule : MethodName := ⟨RX9, "rule", "(II)I"⟩
abbrev cX9_best : ByteArray := prog_1_method_28_code
def yX9_best : MethodName := ⟨RX9, "best", "()I"⟩
abbrev cX9_calm : ByteArray := prog_1_method_29_code
def yX9_calm : MethodName := ⟨RX9, "calm", "(II)I"⟩
abbrev cX9_spreads : ByteArray := prog_1_method_30_code
def yX9_spreads : MethodName := ⟨RX9, "spreads", "(II)I"⟩
abbrev cX9_chances : ByteArray := prog_1_method_31_code
def yX9_chances : MethodName := ⟨RX9, "chances", "(III)J"⟩
abbrev cX9_wax : ByteArray := prog_1_method_32_code
def yX9_wax : MethodName := ⟨RX9, "wax", "(I)I"⟩
abbrev cX9_sides : ByteArray := prog_1_method_33_code
def yX9_sides : MethodName := ⟨RX9, "sides", "()I"⟩
abbrev cX9_row : ByteArray := prog_1_method_34_code
def yX9_row : MethodName := ⟨RX9, "row", "(I)I"⟩
abbrev cX9_judge : ByteArray := prog_1_method_35_code
def yX9_judge : MethodName := ⟨RX9, "judge", "()I"⟩
abbrev cX9_clear : ByteArray := prog_1_method_36_code
def yX9_clear : MethodName := ⟨RX9, "clear", "()I"⟩
abbrev cX9_seeds : ByteArray := prog_1_method_37_code
def yX9_seeds : MethodName := ⟨RX9, "seeds", "(III)I"⟩
abbrev cX9_back : ByteArray := prog_1_method_38_code
def yX9_back : MethodName := ⟨RX9, "back", "()I"⟩
abbrev cX9_all : ByteArray := prog_1_method_39_code
def yX9_all : MethodName := ⟨RX9, "all", "()I"⟩
abbrev cX9_behind : ByteArray := prog_1_method_40_code
def yX9_behind : MethodName := ⟨RX9, "behind", "(I)I"⟩
abbrev cX9_atFirst : ByteArray := prog_1_method_41_code
def yX9_atFirst : MethodName := ⟨RX9, "atFirst", "(I)I"⟩
abbrev cX9_forms : ByteArray := prog_1_method_42_code
def yX9_forms : MethodName := ⟨RX9, "forms", "(I)I"⟩
abbrev cX9_calms : ByteArray := prog_1_method_43_code
def yX9_calms : MethodName := ⟨RX9, "calms", "(I)I"⟩
abbrev cX9_farthest : ByteArray := prog_1_method_44_code
def yX9_farthest : MethodName := ⟨RX9, "farthest", "()I"⟩
abbrev cX9_turned : ByteArray := prog_1_method_45_code
def yX9_turned : MethodName := ⟨RX9, "turned", "()I"⟩
abbrev cX9_flame : ByteArray := prog_1_method_46_code
def yX9_flame : MethodName := ⟨RX9, "flame", "(I)I"⟩
abbrev cX9_out : ByteArray := prog_1_method_47_code
def yX9_out : MethodName := ⟨RX9, "out", "(I)I"⟩
abbrev cX9_again : ByteArray := prog_1_method_48_code
def yX9_again : MethodName := ⟨RX9, "again", "()I"⟩
abbrev cX9_game : ByteArray := prog_1_method_49_code
def yX9_game : MethodName := ⟨RX9, "game", "(I)I"⟩
abbrev cX9_heirs : ByteArray := prog_1_method_50_code
def yX9_heirs : MethodName := ⟨RX9, "heirs", "(I)I"⟩
abbrev cX9_gaps : ByteArray := prog_1_method_51_code
def yX9_gaps : MethodName := ⟨RX9, "gaps", "(I)I"⟩
abbrev cX9_matches : ByteArray := prog_1_method_52_code
def yX9_matches : MethodName := ⟨RX9, "matches", "(I)I"⟩
abbrev cX9_image : ByteArray := prog_1_method_53_code
def yX9_image : MethodName := ⟨RX9, "image", "()I"⟩
abbrev cX9_restore : ByteArray := prog_1_method_54_code
def yX9_restore : MethodName := ⟨RX9, "restore", "()I"⟩
abbrev cX9_count : ByteArray := prog_1_method_55_code
def yX9_count : MethodName := ⟨RX9, "count", "(I)I"⟩
abbrev cX9_refuse : ByteArray := prog_1_method_56_code
def yX9_refuse : MethodName := ⟨RX9, "refuse", "(I)I"⟩
abbrev cX9_refuseLong : ByteArray := prog_1_method_57_code
def yX9_refuseLong : MethodName := ⟨RX9, "refuseLong", "(I)J"⟩
abbrev cX9_change : ByteArray := prog_1_method_58_code
def yX9_change : MethodName := ⟨RX9, "change", "(II)I"⟩
abbrev cX9_leastOf : ByteArray := prog_1_method_59_code
def yX9_leastOf : MethodName := ⟨RX9, "leastOf", "(I)I"⟩
abbrev cX9_mostOf : ByteArray := prog_1_method_60_code
def yX9_mostOf : MethodName := ⟨RX9, "mostOf", "(I)I"⟩
abbrev cX9_isOutside : ByteArray := prog_1_method_61_code
def yX9_isOutside : MethodName := ⟨RX9, "isOutside", "(II)Z"⟩
abbrev cX9_numberOrSet : ByteArray := prog_1_method_62_code
def yX9_numberOrSet : MethodName := ⟨RX9, "numberOrSet", "(II)I"⟩
abbrev cX9_hasBit : ByteArray := prog_1_method_63_code
def yX9_hasBit : MethodName := ⟨RX9, "hasBit", "(II)Z"⟩
def RX10 : String := "LitAgainModel"
def TX10 : u_T := fun k => match k with
  | 0 => ("LitAgainModel", "refused", "[I", true)
  | 1 => ("LitAgainModel", "setting", "[I", true)
  | 2 => ("LitAgainModel", "kind", "[I", true)
  | 3 => ("LitAgainModel", "figure", "[I", true)
  | 4 => ("LitAgainModel", "force", "[I", true)
  | 5 => ("LitAgainModel", "side", "[I", true)
  | 6 => ("LitAgainModel", "people", "I", false)
  | 7 => ("LitAgainModel", "lit", "I", false)
  | 8 => ("LitAgainModel", "place", "I", false)
  | 9 => ("LitAgainModel", "minute", "I", false)
  | 10 => ("LitAgainModel", "tape", "[I", true)
  | 11 => ("LitAgainModel", "letter", "[I", true)
  | 12 => ("LitAgainModel", "letterAt", "[I", true)
  | 13 => ("LitAgainModel", "told", "[I", true)
  | 14 => ("LitAgainModel", "taped", "I", false)
  | 15 => ("LitAgainModel", "at", "I", false)
  | 16 => ("LitAgainModel", "statements", "I", false)
  | 17 => ("LitAgainModel", "kept", "[I", true)
  | 18 => ("LitAgainModel", "hasImage", "Z", false)
  | 19 => ("LitAgainModel", "isKeeping", "Z", false)
  | 20 => ("LitAgainModel", "cursor", "I", false)
  | 21 => ("LitAgainModel", "litFrom", "[I", true)
  | 22 => ("LitAgainModel", "flame", "[I", true)
  | 23 => ("LitAgainModel", "lightings", "I", false)
  | 24 => ("LitAgainModel", "backLit", "[I", true)
  | 25 => ("LitAgainModel", "backPlace", "[I", true)
  | 26 => ("LitAgainModel", "backMinute", "[I", true)
  | 27 => ("LitAgainModel", "backs", "I", false)
  | 28 => ("LitAgainModel", "tried", "[I", true)
  | 29 => ("LitAgainModel", "bestRow", "[I", true)
  | 30 => ("LitAgainModel", "oldKind", "[I", true)
  | 31 => ("LitAgainModel", "oldFigure", "[I", true)
  | 32 => ("LitAgainModel", "allLit", "Z", false)
  | 33 => ("LitAgainModel", "ruleLit", "I", false)
  | 34 => ("LitAgainModel", "ruleMinutes", "I", false)
  | 35 => ("LitAgainModel", "parts", "[J", true)
  | 36 => ("LitAgainModel", "partsThen", "[J", true)
  | 37 => ("LitAgainModel", "outs", "I", false)
  | 38 => ("LitAgainModel", "gameLit", "[I", true)
  | 39 => ("LitAgainModel", "matchAt", "[I", true)
  | 40 => ("LitAgainModel", "row", "[I", true)
  | 41 => ("LitAgainModel", "rowMany", "I", false)
  | _ => ("LitAgainModel", "lots", "I", false)
def tyX10 : Nat → FieldType := fun k => match k with
  | 0 => .array .int
  | 1 => .array .int
  | 2 => .array .int
  | 3 => .array .int
  | 4 => .array .int
  | 5 => .array .int
  | 6 => .int
  | 7 => .int
  | 8 => .int
  | 9 => .int
  | 10 => .array .int
  | 11 => .array .int
  | 12 => .array .int
  | 13 => .array .int
  | 14 => .int
  | 15 => .int
  | 16 => .int
  | 17 => .array .int
  | 18 => .boolean
  | 19 => .boolean
  | 20 => .int
  | 21 => .array .int
  | 22 => .array .int
  | 23 => .int
  | 24 => .array .int
  | 25 => .array .int
  | 26 => .array .int
  | 27 => .int
  | 28 => .array .int
  | 29 => .array .int
  | 30 => .array .int
  | 31 => .array .int
  | 32 => .boolean
  | 33 => .int
  | 34 => .int
  | 35 => .array .long
  | 36 => .array .long
  | 37 => .int
  | 38 => .array .int
  | 39 => .array .int
  | 40 => .array .int
  | 41 => .int
  | _ => .int
theorem nmX10 : ∀ a, a < 43 → ∀ b, b < 43 → a ≠ b → (TX10 a).2.1 ≠ (TX10 b).2.1 := by decide +kernel
theorem tyX10_ok : ∀ k, k < 43 → parseFieldDescriptor (TX10 k).2.2.1 = some (tyX10 k) := by decide +kernel
abbrev cX10_init : ByteArray := prog_12_method_1_code
def yX10_init : MethodName := ⟨RX10, "<init>", "()V"⟩
abbrev cX10_no : ByteArray := prog_12_method_2_code
def yX10_no : MethodName := ⟨RX10, "no", "(I)I"⟩
abbrev cX10_lowest : ByteArray := prog_12_method_3_code
def yX10_lowest : MethodName := ⟨RX10, "lowest", "(I)J"⟩
abbrev cX10_isIn : ByteArray := prog_12_method_4_code
def yX10_isIn : MethodName := ⟨RX10, "isIn", "(III)Z"⟩
abbrev cX10_bound : ByteArray := prog_12_method_5_code
def yX10_bound : MethodName := ⟨RX10, "bound", "(III)I"⟩
abbrev cX10_has : ByteArray := prog_12_method_6_code
def yX10_has : MethodName := ⟨RX10, "has", "(II)Z"⟩
abbrev cX10_bits : ByteArray := prog_12_method_7_code
def yX10_bits : MethodName := ⟨RX10, "bits", "(I)I"⟩
abbrev cX10_isPerson : ByteArray := prog_12_method_8_code
def yX10_isPerson : MethodName := ⟨RX10, "isPerson", "(I)Z"⟩
abbrev cX10_doorAt : ByteArray := prog_12_method_9_code
def yX10_doorAt : MethodName := ⟨RX10, "doorAt", "()I"⟩
abbrev cX10_feed : ByteArray := prog_12_method_10_code
def yX10_feed : MethodName := ⟨RX10, "feed", "(I)I"⟩
abbrev cX10_next : ByteArray := prog_12_method_11_code
def yX10_next : MethodName := ⟨RX10, "next", "()I"⟩
abbrev cX10_readsDigits : ByteArray := prog_12_method_12_code
def yX10_readsDigits : MethodName := ⟨RX10, "readsDigits", "(II)Z"⟩
abbrev cX10_readsAll : ByteArray := prog_12_method_13_code
def yX10_readsAll : MethodName := ⟨RX10, "readsAll", "(II)Z"⟩
abbrev cX10_statement : ByteArray := prog_12_method_14_code
def yX10_statement : MethodName := ⟨RX10, "statement", "()Z"⟩
abbrev cX10_comesOne : ByteArray := prog_12_method_15_code
def yX10_comesOne : MethodName := ⟨RX10, "comesOne", "(I)Z"⟩
abbrev cX10_comesMinute : ByteArray := prog_12_method_16_code
def yX10_comesMinute : MethodName := ⟨RX10, "comesMinute", "(I)Z"⟩
abbrev cX10_comes : ByteArray := prog_12_method_17_code
def yX10_comes : MethodName := ⟨RX10, "comes", "(I)Z"⟩
abbrev cX10_road : ByteArray := prog_12_method_18_code
def yX10_road : MethodName := ⟨RX10, "road", "()I"⟩
abbrev cX10_passes : ByteArray := prog_12_method_19_code
def yX10_passes : MethodName := ⟨RX10, "passes", "([I)V"⟩
abbrev cX10_passOne : ByteArray := prog_12_method_20_code
def yX10_passOne : MethodName := ⟨RX10, "passOne", "(I)I"⟩
abbrev cX10_passesAll : ByteArray := prog_12_method_21_code
def yX10_passesAll : MethodName := ⟨RX10, "passesAll", "(IZ)V"⟩
abbrev cX10_image : ByteArray := prog_12_method_22_code
def yX10_image : MethodName := ⟨RX10, "image", "()I"⟩
abbrev cX10_restore : ByteArray := prog_12_method_23_code
def yX10_restore : MethodName := ⟨RX10, "restore", "()I"⟩
abbrev cX10_coverOf : ByteArray := prog_12_method_24_code
def yX10_coverOf : MethodName := ⟨RX10, "coverOf", "(I)I"⟩
abbrev cX10_holdsOf : ByteArray := prog_12_method_25_code
def yX10_holdsOf : MethodName := ⟨RX10, "holdsOf", "(II)I"⟩
abbrev cX10_givesOf : ByteArray := prog_12_method_26_code
def yX10_givesOf : MethodName := ⟨RX10, "givesOf", "(I)I"⟩
abbrev cX10_along : ByteArray := prog_12_method_27_code
def yX10_along : MethodName := ⟨RX10, "along", "(II)I"⟩
abbrev cX10_bit : ByteArray := prog_12_method_28_code
def yX10_bit : MethodName := ⟨RX10, "bit", "(I)I"⟩
abbrev cX10_besideBits : ByteArray := prog_12_method_29_code
def yX10_besideBits : MethodName := ⟨RX10, "besideBits", "(I)I"⟩
abbrev cX10_coverer : ByteArray := prog_12_method_30_code
def yX10_coverer : MethodName := ⟨RX10, "coverer", "(II)I"⟩
abbrev cX10_feltBy : ByteArray := prog_12_method_31_code
def yX10_feltBy : MethodName := ⟨RX10, "feltBy", "(II)I"⟩
abbrev cX10_holds : ByteArray := prog_12_method_32_code
def yX10_holds : MethodName := ⟨RX10, "holds", "(I)Z"⟩
abbrev cX10_holding : ByteArray := prog_12_method_33_code
def yX10_holding : MethodName := ⟨RX10, "holding", "()I"⟩
abbrev cX10_spread : ByteArray := prog_12_method_34_code
def yX10_spread : MethodName := ⟨RX10, "spread", "(I)I"⟩
abbrev cX10_goes : ByteArray := prog_12_method_35_code
def yX10_goes : MethodName := ⟨RX10, "goes", "(Z)V"⟩
abbrev cX10_goesToDoor : ByteArray := prog_12_method_36_code
def yX10_goesToDoor : MethodName := ⟨RX10, "goesToDoor", "()V"⟩
abbrev cX10_lightOf : ByteArray := prog_12_method_37_code
def yX10_lightOf : MethodName := ⟨RX10, "lightOf", "(I)I"⟩
abbrev cX10_person : ByteArray := prog_12_method_38_code
def yX10_person : MethodName := ⟨RX10, "person", "(II)I"⟩
abbrev cX10_light : ByteArray := prog_12_method_39_code
def yX10_light : MethodName := ⟨RX10, "light", "(II)I"⟩
abbrev cX10_becomes : ByteArray := prog_12_method_40_code
def yX10_becomes : MethodName := ⟨RX10, "becomes", "(II)V"⟩
abbrev cX10_kind : ByteArray := prog_12_method_41_code
def yX10_kind : MethodName := ⟨RX10, "kind", "(III)I"⟩
abbrev cX10_isPlace : ByteArray := prog_12_method_42_code
def yX10_isPlace : MethodName := ⟨RX10, "isPlace", "(I)Z"⟩
abbrev cX10_wind : ByteArray := prog_12_method_43_code
def yX10_wind : MethodName := ⟨RX10, "wind", "(II)I"⟩
abbrev cX10_blows : ByteArray := prog_12_method_44_code
def yX10_blows : MethodName := ⟨RX10, "blows", "(III)I"⟩
abbrev cX10_set : ByteArray := prog_12_method_45_code
def yX10_set : MethodName := ⟨RX10, "set", "(II)I"⟩
abbrev cX10_beside : ByteArray := prog_12_method_46_code
def yX10_beside : MethodName := ⟨RX10, "beside", "(I)I"⟩
abbrev cX10_covers : ByteArray := prog_12_method_47_code
def yX10_covers : MethodName := ⟨RX10, "covers", "(II)I"⟩
abbrev cX10_keepsMinute : ByteArray := prog_12_method_48_code
def yX10_keepsMinute : MethodName := ⟨RX10, "keepsMinute", "()V"⟩
abbrev cX10_back : ByteArray := prog_12_method_49_code
def yX10_back : MethodName := ⟨RX10, "back", "()I"⟩
abbrev cX10_go : ByteArray := prog_12_method_50_code
def yX10_go : MethodName := ⟨RX10, "go", "(I)I"⟩
abbrev cX10_lit : ByteArray := prog_12_method_51_code
def yX10_lit : MethodName := ⟨RX10, "lit", "()I"⟩
abbrev cX10_goesAhead : ByteArray := prog_12_method_52_code
def yX10_goesAhead : MethodName := ⟨RX10, "goesAhead", "(I)V"⟩
abbrev cX10_then : ByteArray := prog_12_method_53_code
def yX10_then : MethodName := ⟨RX10, "then", "(I)I"⟩
abbrev cX10_atDoor : ByteArray := prog_12_method_54_code
def yX10_atDoor : MethodName := ⟨RX10, "atDoor", "()I"⟩
abbrev cX10_door : ByteArray := prog_12_method_55_code
def yX10_door : MethodName := ⟨RX10, "door", "(I)I"⟩
abbrev cX10_dark : ByteArray := prog_12_method_56_code
def yX10_dark : MethodName := ⟨RX10, "dark", "(I)I"⟩
abbrev cX10_darkEnds : ByteArray := prog_12_method_57_code
def yX10_darkEnds : MethodName := ⟨RX10, "darkEnds", "(I)I"⟩
abbrev cX10_darkFor : ByteArray := prog_12_method_58_code
def yX10_darkFor : MethodName := ⟨RX10, "darkFor", "(I)I"⟩
abbrev cX10_litBy : ByteArray := prog_12_method_59_code
def yX10_litBy : MethodName := ⟨RX10, "litBy", "(II)I"⟩
abbrev cX10_stopBy : ByteArray := prog_12_method_60_code
def yX10_stopBy : MethodName := ⟨RX10, "stopBy", "(II)I"⟩
abbrev cX10_stop : ByteArray := prog_12_method_61_code
def yX10_stop : MethodName := ⟨RX10, "stop", "()I"⟩
abbrev cX10_lower : ByteArray := prog_12_method_62_code
def yX10_lower : MethodName := ⟨RX10, "lower", "()I"⟩
abbrev cX10_exchanges : ByteArray := prog_12_method_63_code
def yX10_exchanges : MethodName := ⟨RX10, "exchanges", "(II)V"⟩
abbrev cX10_changed : ByteArray := prog_12_method_64_code
def yX10_changed : MethodName := ⟨RX10, "changed", "()I"⟩
abbrev cX10_tellsOrder : ByteArray := prog_12_method_65_code
def yX10_tellsOrder : MethodName := ⟨RX10, "tellsOrder", "(I)Z"⟩
abbrev cX10_doorBy : ByteArray := prog_12_method_66_code
def yX10_doorBy : MethodName := ⟨RX10, "doorBy", "(I)I"⟩
abbrev cX10_order : ByteArray := prog_12_method_67_code
def yX10_order : MethodName := ⟨RX10, "order", "(I)I"⟩
abbrev cX10_withLanterns : ByteArray := prog_12_method_68_code
def yX10_withLanterns : MethodName := ⟨RX10, "withLanterns", "(I)I"⟩
abbrev cX10_lantern : ByteArray := prog_12_method_69_code
def yX10_lantern : MethodName := ⟨RX10, "lantern", "(I)I"⟩
abbrev cX10_fewest : ByteArray := prog_12_method_70_code
def yX10_fewest : MethodName := ⟨RX10, "fewest", "(I)I"⟩
abbrev cX10_doorByMatch : ByteArray := prog_12_method_71_code
def yX10_doorByMatch : MethodName := ⟨RX10, "doorByMatch", "(II)I"⟩
abbrev cX10_match : ByteArray := prog_12_method_72_code
def yX10_match : MethodName := ⟨RX10, "match", "()I"⟩
abbrev cX10_tail : ByteArray := prog_12_method_73_code
def yX10_tail : MethodName := ⟨RX10, "tail", "()I"⟩
abbrev cX10_isSomebodyDark : ByteArray := prog_12_method_74_code
def yX10_isSomebodyDark : MethodName := ⟨RX10, "isSomebodyDark", "()Z"⟩
abbrev cX10_doesStop : ByteArray := prog_12_method_75_code
def yX10_doesStop : MethodName := ⟨RX10, "doesStop", "(I)Z"⟩
abbrev cX10_goesByRule : ByteArray := prog_12_method_76_code
def yX10_goesByRule : MethodName := ⟨RX10, "goesByRule", "(I)V"⟩
abbrev cX10_rule : ByteArray := prog_12_method_77_code
def yX10_rule : MethodName := ⟨RX10, "rule", "(II)I"⟩
abbrev cX10_best : ByteArray := prog_12_method_78_code
def yX10_best : MethodName := ⟨RX10, "best", "()I"⟩
abbrev cX10_calm : ByteArray := prog_12_method_79_code
def yX10_calm : MethodName := ⟨RX10, "calm", "(II)I"⟩
abbrev cX10_spreads : ByteArray := prog_12_method_80_code
def yX10_spreads : MethodName := ⟨RX10, "spreads", "(II)I"⟩
abbrev cX10_tenthsOut : ByteArray := prog_12_method_81_code
def yX10_tenthsOut : MethodName := ⟨RX10, "tenthsOut", "(I)I"⟩
abbrev cX10_stays : ByteArray := prog_12_method_82_code
def yX10_stays : MethodName := ⟨RX10, "stays", "(II)J"⟩
abbrev cX10_goesChances : ByteArray := prog_12_method_83_code
def yX10_goesChances : MethodName := ⟨RX10, "goesChances", "()V"⟩
abbrev cX10_divisor : ByteArray := prog_12_method_84_code
def yX10_divisor : MethodName := ⟨RX10, "divisor", "(JJ)J"⟩
abbrev cX10_chances : ByteArray := prog_12_method_85_code
def yX10_chances : MethodName := ⟨RX10, "chances", "(III)J"⟩
abbrev cX10_smallBits : ByteArray := prog_12_method_86_code
def yX10_smallBits : MethodName := ⟨RX10, "smallBits", "()I"⟩
abbrev cX10_areAllLit : ByteArray := prog_12_method_87_code
def yX10_areAllLit : MethodName := ⟨RX10, "areAllLit", "(I)Z"⟩
abbrev cX10_all : ByteArray := prog_12_method_88_code
def yX10_all : MethodName := ⟨RX10, "all", "()I"⟩
abbrev cX10_behind : ByteArray := prog_12_method_89_code
def yX10_behind : MethodName := ⟨RX10, "behind", "(I)I"⟩
abbrev cX10_atFirst : ByteArray := prog_12_method_90_code
def yX10_atFirst : MethodName := ⟨RX10, "atFirst", "(I)I"⟩
abbrev cX10_forms : ByteArray := prog_12_method_91_code
def yX10_forms : MethodName := ⟨RX10, "forms", "(I)I"⟩
abbrev cX10_doorCalm : ByteArray := prog_12_method_92_code
def yX10_doorCalm : MethodName := ⟨RX10, "doorCalm", "(II)I"⟩
abbrev cX10_calms : ByteArray := prog_12_method_93_code
def yX10_calms : MethodName := ⟨RX10, "calms", "(I)I"⟩
abbrev cX10_farthest : ByteArray := prog_12_method_94_code
def yX10_farthest : MethodName := ⟨RX10, "farthest", "()I"⟩
abbrev cX10_turned : ByteArray := prog_12_method_95_code
def yX10_turned : MethodName := ⟨RX10, "turned", "()I"⟩
abbrev cX10_goesCounting : ByteArray := prog_12_method_96_code
def yX10_goesCounting : MethodName := ⟨RX10, "goesCounting", "(I)V"⟩
abbrev cX10_flame : ByteArray := prog_12_method_97_code
def yX10_flame : MethodName := ⟨RX10, "flame", "(I)I"⟩
abbrev cX10_out : ByteArray := prog_12_method_98_code
def yX10_out : MethodName := ⟨RX10, "out", "(I)I"⟩
abbrev cX10_again : ByteArray := prog_12_method_99_code
def yX10_again : MethodName := ⟨RX10, "again", "()I"⟩
abbrev cX10_findGame : ByteArray := prog_12_method_100_code
def yX10_findGame : MethodName := ⟨RX10, "findGame", "()V"⟩
abbrev cX10_rests : ByteArray := prog_12_method_101_code
def yX10_rests : MethodName := ⟨RX10, "rests", "(I)Z"⟩
abbrev cX10_sureBy : ByteArray := prog_12_method_102_code
def yX10_sureBy : MethodName := ⟨RX10, "sureBy", "(Z)I"⟩
abbrev cX10_game : ByteArray := prog_12_method_103_code
def yX10_game : MethodName := ⟨RX10, "game", "(I)I"⟩
abbrev cX10_heirs : ByteArray := prog_12_method_104_code
def yX10_heirs : MethodName := ⟨RX10, "heirs", "(I)I"⟩
abbrev cX10_longestDark : ByteArray := prog_12_method_105_code
def yX10_longestDark : MethodName := ⟨RX10, "longestDark", "()I"⟩
abbrev cX10_gaps : ByteArray := prog_12_method_106_code
def yX10_gaps : MethodName := ⟨RX10, "gaps", "(I)I"⟩
abbrev cX10_lightsOne : ByteArray := prog_12_method_107_code
def yX10_lightsOne : MethodName := ⟨RX10, "lightsOne", "()V"⟩
abbrev cX10_doesLight : ByteArray := prog_12_method_108_code
def yX10_doesLight : MethodName := ⟨RX10, "doesLight", "(I)Z"⟩
abbrev cX10_findMatches : ByteArray := prog_12_method_109_code
def yX10_findMatches : MethodName := ⟨RX10, "findMatches", "(I)Z"⟩
abbrev cX10_matches : ByteArray := prog_12_method_110_code
def yX10_matches : MethodName := ⟨RX10, "matches", "(I)I"⟩
abbrev cX10_isWax : ByteArray := prog_12_method_111_code
def yX10_isWax : MethodName := ⟨RX10, "isWax", "(I)Z"⟩
abbrev cX10_wax : ByteArray := prog_12_method_112_code
def yX10_wax : MethodName := ⟨RX10, "wax", "(I)I"⟩
abbrev cX10_sides : ByteArray := prog_12_method_113_code
def yX10_sides : MethodName := ⟨RX10, "sides", "()I"⟩
abbrev cX10_row : ByteArray := prog_12_method_114_code
def yX10_row : MethodName := ⟨RX10, "row", "(I)I"⟩
abbrev cX10_judge : ByteArray := prog_12_method_115_code
def yX10_judge : MethodName := ⟨RX10, "judge", "()I"⟩
abbrev cX10_clear : ByteArray := prog_12_method_116_code
def yX10_clear : MethodName := ⟨RX10, "clear", "()I"⟩
abbrev cX10_draw : ByteArray := prog_12_method_117_code
def yX10_draw : MethodName := ⟨RX10, "draw", "(I)I"⟩
abbrev cX10_seeds : ByteArray := prog_12_method_118_code
def yX10_seeds : MethodName := ⟨RX10, "seeds", "(III)I"⟩
abbrev cX10_count : ByteArray := prog_12_method_119_code
def yX10_count : MethodName := ⟨RX10, "count", "(I)I"⟩
def RJ6 : String := "java/lang/Integer"
def TJ6 : u_T := fun k => match k with
  | _ => ("", "", "", false)
def tyJ6 : Nat → FieldType := fun k => match k with
  | _ => .int
theorem nmJ6 : ∀ a, a < 0 → ∀ b, b < 0 → a ≠ b → (TJ6 a).2.1 ≠ (TJ6 b).2.1 := by decide +kernel
theorem tyJ6_ok : ∀ k, k < 0 → parseFieldDescriptor (TJ6 k).2.2.1 = some (tyJ6 k) := by decide +kernel
abbrev cJ6_bitCount_0f7a4 : ByteArray := prog_13_method_49_code
def yJ6_bitCount_0f7a4 : MethodName := ⟨RJ6, "bitCount", "(I)I"⟩
def RJ9 : String := "java/lang/Math"
def TJ9 : u_T := fun k => match k with
  | _ => ("", "", "", false)
def tyJ9 : Nat → FieldType := fun k => match k with
  | _ => .int
theorem nmJ9 : ∀ a, a < 0 → ∀ b, b < 0 → a ≠ b → (TJ9 a).2.1 ≠ (TJ9 b).2.1 := by decide +kernel
theorem tyJ9_ok : ∀ k, k < 0 → parseFieldDescriptor (TJ9 k).2.2.1 = some (tyJ9 k) := by decide +kernel
abbrev cJ9_max_7cf53 : ByteArray := prog_14_method_65_code
def yJ9_max_7cf53 : MethodName := ⟨RJ9, "max", "(II)I"⟩
abbrev cJ9_max_f86c9 : ByteArray := prog_14_method_66_code
def yJ9_max_f86c9 : MethodName := ⟨RJ9, "max", "(JJ)J"⟩
abbrev cJ9_min_7cf53 : ByteArray := prog_14_method_69_code
def yJ9_min_7cf53 : MethodName := ⟨RJ9, "min", "(II)I"⟩
def RJ10 : String := "java/lang/System"
def TJ10 : u_T := fun k => match k with
  | _ => ("", "", "", false)
def tyJ10 : Nat → FieldType := fun k => match k with
  | _ => .int
theorem nmJ10 : ∀ a, a < 0 → ∀ b, b < 0 → a ≠ b → (TJ10 a).2.1 ≠ (TJ10 b).2.1 := by decide +kernel
theorem tyJ10_ok : ∀ k, k < 0 → parseFieldDescriptor (TJ10 k).2.2.1 = some (tyJ10 k) := by decide +kernel
def RL : String := "LitAgainLaw"
abbrev cL_law : ByteArray := code
def yL_law : MethodName := ⟨RL, "law", "([I)Z"⟩
abbrev vwCl : List vw_C := [(RX0, TX0, 5), (RX1, TX1, 10), (RX2, TX2, 11), (RX3, TX3, 4), (RX4, TX4, 7), (RX5, TX5, 4), (RX6, TX6, 5), (RX7, TX7, 2), (RX8, TX8, 12), (RX9, TX9, 12), (RX10, TX10, 43)]

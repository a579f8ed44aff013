section
-- ===== PART A: goes FIRST, ahead of the names: the tables' words, and 'selects' of the private methods out of them =====
/-- a private method of a class that the tables say can be made, by its rows of tables_1 -/
def lw_okq (q : MethodName × Nat) : Prop := (q.1.cls ≠ "java/lang/invoke/MethodHandle" ∧ q.1.cls ≠ "java/lang/invoke/VarHandle") ∧ Cond.instantiable q.1.cls q.2 ∈ tables_1 ∧ Cond.privateMethod q.1 ∈ tables_1 ∧ Cond.instanceMethod q.1 ∈ tables_1
theorem lw_p0 : lw_okq (⟨"WheelDisc", "accept", "(I)I"⟩, 13) := ⟨⟨by decide +kernel, by decide +kernel⟩, List.mem_of_getElem? (i := 18) (by decide +kernel), List.mem_of_getElem? (i := 304) (by decide +kernel), List.mem_of_getElem? (i := 305) (by decide +kernel)⟩
theorem lw_p1 : lw_okq (⟨"WheelDisc", "refuse", "(I)I"⟩, 13) := ⟨⟨by decide +kernel, by decide +kernel⟩, List.mem_of_getElem? (i := 18) (by decide +kernel), List.mem_of_getElem? (i := 308) (by decide +kernel), List.mem_of_getElem? (i := 309) (by decide +kernel)⟩
theorem lw_p2 : lw_okq (⟨"WheelDisc", "deny", "(I)Z"⟩, 13) := ⟨⟨by decide +kernel, by decide +kernel⟩, List.mem_of_getElem? (i := 18) (by decide +kernel), List.mem_of_getElem? (i := 320) (by decide +kernel), List.mem_of_getElem? (i := 321) (by decide +kernel)⟩
theorem lw_p3 : lw_okq (⟨"WheelDisc", "grant", "(Z)Z"⟩, 13) := ⟨⟨by decide +kernel, by decide +kernel⟩, List.mem_of_getElem? (i := 18) (by decide +kernel), List.mem_of_getElem? (i := 324) (by decide +kernel), List.mem_of_getElem? (i := 325) (by decide +kernel)⟩
theorem lw_p4 : lw_okq (⟨"WheelDisc", "beginChange", "()V"⟩, 13) := ⟨⟨by decide +kernel, by decide +kernel⟩, List.mem_of_getElem? (i := 18) (by decide +kernel), List.mem_of_getElem? (i := 332) (by decide +kernel), List.mem_of_getElem? (i := 333) (by decide +kernel)⟩
theorem lw_p5 : lw_okq (⟨"WheelDisc", "outdate", "()V"⟩, 13) := ⟨⟨by decide +kernel, by decide +kernel⟩, List.mem_of_getElem? (i := 18) (by decide +kernel), List.mem_of_getElem? (i := 350) (by decide +kernel), List.mem_of_getElem? (i := 351) (by decide +kernel)⟩
theorem lw_p6 : lw_okq (⟨"WheelDisc$Disc", "layTracksAnew", "(II[J)V"⟩, 6) := ⟨⟨by decide +kernel, by decide +kernel⟩, List.mem_of_getElem? (i := 45) (by decide +kernel), List.mem_of_getElem? (i := 435) (by decide +kernel), List.mem_of_getElem? (i := 436) (by decide +kernel)⟩
theorem lw_p7 : lw_okq (⟨"WheelDisc", "lookedAt", "()LWheelDisc$View;"⟩, 13) := ⟨⟨by decide +kernel, by decide +kernel⟩, List.mem_of_getElem? (i := 18) (by decide +kernel), List.mem_of_getElem? (i := 469) (by decide +kernel), List.mem_of_getElem? (i := 470) (by decide +kernel)⟩
theorem lw_p8 : lw_okq (⟨"WheelDisc$View", "allReaders", "()I"⟩, 5) := ⟨⟨by decide +kernel, by decide +kernel⟩, List.mem_of_getElem? (i := 99) (by decide +kernel), List.mem_of_getElem? (i := 486) (by decide +kernel), List.mem_of_getElem? (i := 487) (by decide +kernel)⟩
theorem lw_p9 : lw_okq (⟨"WheelDisc$View", "allUnlike", "(I)Z"⟩, 5) := ⟨⟨by decide +kernel, by decide +kernel⟩, List.mem_of_getElem? (i := 99) (by decide +kernel), List.mem_of_getElem? (i := 490) (by decide +kernel), List.mem_of_getElem? (i := 491) (by decide +kernel)⟩
theorem lw_p10 : lw_okq (⟨"WheelDisc$View", "stepsAreSingle", "()Z"⟩, 5) := ⟨⟨by decide +kernel, by decide +kernel⟩, List.mem_of_getElem? (i := 99) (by decide +kernel), List.mem_of_getElem? (i := 508) (by decide +kernel), List.mem_of_getElem? (i := 509) (by decide +kernel)⟩
theorem lw_p11 : lw_okq (⟨"WheelDisc$View", "unlikeBehind", "(I)I"⟩, 5) := ⟨⟨by decide +kernel, by decide +kernel⟩, List.mem_of_getElem? (i := 99) (by decide +kernel), List.mem_of_getElem? (i := 512) (by decide +kernel), List.mem_of_getElem? (i := 513) (by decide +kernel)⟩
theorem lw_p12 : lw_okq (⟨"WheelDisc$View", "changesBehind", "(II)Z"⟩, 5) := ⟨⟨by decide +kernel, by decide +kernel⟩, List.mem_of_getElem? (i := 99) (by decide +kernel), List.mem_of_getElem? (i := 539) (by decide +kernel), List.mem_of_getElem? (i := 540) (by decide +kernel)⟩
theorem lw_p13 : lw_okq (⟨"WheelDisc$View", "twoAreMarkedApartBy", "(I)Z"⟩, 5) := ⟨⟨by decide +kernel, by decide +kernel⟩, List.mem_of_getElem? (i := 99) (by decide +kernel), List.mem_of_getElem? (i := 590) (by decide +kernel), List.mem_of_getElem? (i := 591) (by decide +kernel)⟩
theorem lw_p14 : lw_okq (⟨"WheelDisc", "formed", "()LWheelDisc$Form;"⟩, 13) := ⟨⟨by decide +kernel, by decide +kernel⟩, List.mem_of_getElem? (i := 18) (by decide +kernel), List.mem_of_getElem? (i := 614) (by decide +kernel), List.mem_of_getElem? (i := 615) (by decide +kernel)⟩
theorem lw_p15 : lw_okq (⟨"WheelDisc$Form", "tryAllStarts", "([II)V"⟩, 6) := ⟨⟨by decide +kernel, by decide +kernel⟩, List.mem_of_getElem? (i := 138) (by decide +kernel), List.mem_of_getElem? (i := 625) (by decide +kernel), List.mem_of_getElem? (i := 626) (by decide +kernel)⟩
def lw_privs_1 : List (MethodName × Nat) := [(⟨"WheelDisc", "accept", "(I)I"⟩, 13), (⟨"WheelDisc", "refuse", "(I)I"⟩, 13), (⟨"WheelDisc", "deny", "(I)Z"⟩, 13), (⟨"WheelDisc", "grant", "(Z)Z"⟩, 13), (⟨"WheelDisc", "beginChange", "()V"⟩, 13), (⟨"WheelDisc", "outdate", "()V"⟩, 13), (⟨"WheelDisc$Disc", "layTracksAnew", "(II[J)V"⟩, 6), (⟨"WheelDisc", "lookedAt", "()LWheelDisc$View;"⟩, 13), (⟨"WheelDisc$View", "allReaders", "()I"⟩, 5), (⟨"WheelDisc$View", "allUnlike", "(I)Z"⟩, 5), (⟨"WheelDisc$View", "stepsAreSingle", "()Z"⟩, 5), (⟨"WheelDisc$View", "unlikeBehind", "(I)I"⟩, 5), (⟨"WheelDisc$View", "changesBehind", "(II)Z"⟩, 5), (⟨"WheelDisc$View", "twoAreMarkedApartBy", "(I)Z"⟩, 5), (⟨"WheelDisc", "formed", "()LWheelDisc$Form;"⟩, 13), (⟨"WheelDisc$Form", "tryAllStarts", "([II)V"⟩, 6)]
theorem lw_r1 : ∀ q ∈ lw_privs_1, lw_okq q := List.forall_mem_cons.mpr ⟨lw_p0, List.forall_mem_cons.mpr ⟨lw_p1, List.forall_mem_cons.mpr ⟨lw_p2, List.forall_mem_cons.mpr ⟨lw_p3, List.forall_mem_cons.mpr ⟨lw_p4, List.forall_mem_cons.mpr ⟨lw_p5, List.forall_mem_cons.mpr ⟨lw_p6, List.forall_mem_cons.mpr ⟨lw_p7, List.forall_mem_cons.mpr ⟨lw_p8, List.forall_mem_cons.mpr ⟨lw_p9, List.forall_mem_cons.mpr ⟨lw_p10, List.forall_mem_cons.mpr ⟨lw_p11, List.forall_mem_cons.mpr ⟨lw_p12, List.forall_mem_cons.mpr ⟨lw_p13, List.forall_mem_cons.mpr ⟨lw_p14, List.forall_mem_cons.mpr ⟨lw_p15, fun _ h => absurd h List.not_mem_nil⟩⟩⟩⟩⟩⟩⟩⟩⟩⟩⟩⟩⟩⟩⟩⟩
theorem lw_p16 : lw_okq (⟨"WheelDisc$Form", "isLeastAgain", "([III)Z"⟩, 6) := ⟨⟨by decide +kernel, by decide +kernel⟩, List.mem_of_getElem? (i := 138) (by decide +kernel), List.mem_of_getElem? (i := 629) (by decide +kernel), List.mem_of_getElem? (i := 630) (by decide +kernel)⟩
theorem lw_p17 : lw_okq (⟨"WheelDisc$Form", "beginOrder", "()V"⟩, 6) := ⟨⟨by decide +kernel, by decide +kernel⟩, List.mem_of_getElem? (i := 138) (by decide +kernel), List.mem_of_getElem? (i := 633) (by decide +kernel), List.mem_of_getElem? (i := 634) (by decide +kernel)⟩
theorem lw_p18 : lw_okq (⟨"WheelDisc$Form", "refineOrder", "(I)V"⟩, 6) := ⟨⟨by decide +kernel, by decide +kernel⟩, List.mem_of_getElem? (i := 138) (by decide +kernel), List.mem_of_getElem? (i := 637) (by decide +kernel), List.mem_of_getElem? (i := 638) (by decide +kernel)⟩
theorem lw_p19 : lw_okq (⟨"WheelDisc$Form", "bitOf", "(II)I"⟩, 6) := ⟨⟨by decide +kernel, by decide +kernel⟩, List.mem_of_getElem? (i := 138) (by decide +kernel), List.mem_of_getElem? (i := 641) (by decide +kernel), List.mem_of_getElem? (i := 642) (by decide +kernel)⟩
theorem lw_p20 : lw_okq (⟨"WheelDisc$Form", "inOrder", "(I)I"⟩, 6) := ⟨⟨by decide +kernel, by decide +kernel⟩, List.mem_of_getElem? (i := 138) (by decide +kernel), List.mem_of_getElem? (i := 645) (by decide +kernel), List.mem_of_getElem? (i := 646) (by decide +kernel)⟩
theorem lw_p21 : lw_okq (⟨"WheelDisc", "searchOn", "(I)I"⟩, 13) := ⟨⟨by decide +kernel, by decide +kernel⟩, List.mem_of_getElem? (i := 18) (by decide +kernel), List.mem_of_getElem? (i := 709) (by decide +kernel), List.mem_of_getElem? (i := 710) (by decide +kernel)⟩
theorem lw_p22 : lw_okq (⟨"WheelDisc$Search", "leastTurnedBehind", "(I)I"⟩, 9) := ⟨⟨by decide +kernel, by decide +kernel⟩, List.mem_of_getElem? (i := 166) (by decide +kernel), List.mem_of_getElem? (i := 718) (by decide +kernel), List.mem_of_getElem? (i := 719) (by decide +kernel)⟩
theorem lw_p23 : lw_okq (⟨"WheelDisc$Search", "lightsAtEnd", "(I)I"⟩, 9) := ⟨⟨by decide +kernel, by decide +kernel⟩, List.mem_of_getElem? (i := 166) (by decide +kernel), List.mem_of_getElem? (i := 722) (by decide +kernel), List.mem_of_getElem? (i := 723) (by decide +kernel)⟩
theorem lw_p24 : lw_okq (⟨"WheelDisc$Search", "repeated", "(II)I"⟩, 9) := ⟨⟨by decide +kernel, by decide +kernel⟩, List.mem_of_getElem? (i := 166) (by decide +kernel), List.mem_of_getElem? (i := 726) (by decide +kernel), List.mem_of_getElem? (i := 727) (by decide +kernel)⟩
theorem lw_p25 : lw_okq (⟨"WheelDisc$Search", "isSingle", "(I)Z"⟩, 9) := ⟨⟨by decide +kernel, by decide +kernel⟩, List.mem_of_getElem? (i := 166) (by decide +kernel), List.mem_of_getElem? (i := 730) (by decide +kernel), List.mem_of_getElem? (i := 731) (by decide +kernel)⟩
theorem lw_p26 : lw_okq (⟨"WheelDisc$Search", "wordOf", "(II)I"⟩, 9) := ⟨⟨by decide +kernel, by decide +kernel⟩, List.mem_of_getElem? (i := 166) (by decide +kernel), List.mem_of_getElem? (i := 734) (by decide +kernel), List.mem_of_getElem? (i := 735) (by decide +kernel)⟩
theorem lw_p27 : lw_okq (⟨"WheelDisc$Search", "lightOf", "(II)Z"⟩, 9) := ⟨⟨by decide +kernel, by decide +kernel⟩, List.mem_of_getElem? (i := 166) (by decide +kernel), List.mem_of_getElem? (i := 738) (by decide +kernel), List.mem_of_getElem? (i := 739) (by decide +kernel)⟩
theorem lw_p28 : lw_okq (⟨"WheelDisc", "followedDrive", "()LWheelDisc$Drive;"⟩, 13) := ⟨⟨by decide +kernel, by decide +kernel⟩, List.mem_of_getElem? (i := 18) (by decide +kernel), List.mem_of_getElem? (i := 776) (by decide +kernel), List.mem_of_getElem? (i := 777) (by decide +kernel)⟩
theorem lw_p29 : lw_okq (⟨"WheelDisc$Drive", "followWord", "(LWheelDisc$View;I)V"⟩, 8) := ⟨⟨by decide +kernel, by decide +kernel⟩, List.mem_of_getElem? (i := 201) (by decide +kernel), List.mem_of_getElem? (i := 784) (by decide +kernel), List.mem_of_getElem? (i := 785) (by decide +kernel)⟩
theorem lw_p30 : lw_okq (⟨"WheelDisc$Drive", "isNearReached", "(II)Z"⟩, 8) := ⟨⟨by decide +kernel, by decide +kernel⟩, List.mem_of_getElem? (i := 201) (by decide +kernel), List.mem_of_getElem? (i := 788) (by decide +kernel), List.mem_of_getElem? (i := 789) (by decide +kernel)⟩
theorem lw_p31 : lw_okq (⟨"WheelDisc$WordList", "isLikeOneAhead", "(I)Z"⟩, 2) := ⟨⟨by decide +kernel, by decide +kernel⟩, List.mem_of_getElem? (i := 236) (by decide +kernel), List.mem_of_getElem? (i := 846) (by decide +kernel), List.mem_of_getElem? (i := 847) (by decide +kernel)⟩
def lw_privs_2 : List (MethodName × Nat) := [(⟨"WheelDisc$Form", "isLeastAgain", "([III)Z"⟩, 6), (⟨"WheelDisc$Form", "beginOrder", "()V"⟩, 6), (⟨"WheelDisc$Form", "refineOrder", "(I)V"⟩, 6), (⟨"WheelDisc$Form", "bitOf", "(II)I"⟩, 6), (⟨"WheelDisc$Form", "inOrder", "(I)I"⟩, 6), (⟨"WheelDisc", "searchOn", "(I)I"⟩, 13), (⟨"WheelDisc$Search", "leastTurnedBehind", "(I)I"⟩, 9), (⟨"WheelDisc$Search", "lightsAtEnd", "(I)I"⟩, 9), (⟨"WheelDisc$Search", "repeated", "(II)I"⟩, 9), (⟨"WheelDisc$Search", "isSingle", "(I)Z"⟩, 9), (⟨"WheelDisc$Search", "wordOf", "(II)I"⟩, 9), (⟨"WheelDisc$Search", "lightOf", "(II)Z"⟩, 9), (⟨"WheelDisc", "followedDrive", "()LWheelDisc$Drive;"⟩, 13), (⟨"WheelDisc$Drive", "followWord", "(LWheelDisc$View;I)V"⟩, 8), (⟨"WheelDisc$Drive", "isNearReached", "(II)Z"⟩, 8), (⟨"WheelDisc$WordList", "isLikeOneAhead", "(I)Z"⟩, 2)]
theorem lw_r2 : ∀ q ∈ lw_privs_2, lw_okq q := List.forall_mem_cons.mpr ⟨lw_p16, List.forall_mem_cons.mpr ⟨lw_p17, List.forall_mem_cons.mpr ⟨lw_p18, List.forall_mem_cons.mpr ⟨lw_p19, List.forall_mem_cons.mpr ⟨lw_p20, List.forall_mem_cons.mpr ⟨lw_p21, List.forall_mem_cons.mpr ⟨lw_p22, List.forall_mem_cons.mpr ⟨lw_p23, List.forall_mem_cons.mpr ⟨lw_p24, List.forall_mem_cons.mpr ⟨lw_p25, List.forall_mem_cons.mpr ⟨lw_p26, List.forall_mem_cons.mpr ⟨lw_p27, List.forall_mem_cons.mpr ⟨lw_p28, List.forall_mem_cons.mpr ⟨lw_p29, List.forall_mem_cons.mpr ⟨lw_p30, List.forall_mem_cons.mpr ⟨lw_p31, fun _ h => absurd h List.not_mem_nil⟩⟩⟩⟩⟩⟩⟩⟩⟩⟩⟩⟩⟩⟩⟩⟩
theorem lw_p32 : lw_okq (⟨"WheelDisc$WordList", "isSingleStep", "(I)Z"⟩, 2) := ⟨⟨by decide +kernel, by decide +kernel⟩, List.mem_of_getElem? (i := 236) (by decide +kernel), List.mem_of_getElem? (i := 850) (by decide +kernel), List.mem_of_getElem? (i := 851) (by decide +kernel)⟩
theorem lw_p33 : lw_okq (⟨"WheelDiscModel", "no", "(I)I"⟩, 31) := ⟨⟨by decide +kernel, by decide +kernel⟩, List.mem_of_getElem? (i := 864) (by decide +kernel), List.mem_of_getElem? (i := 969) (by decide +kernel), List.mem_of_getElem? (i := 970) (by decide +kernel)⟩
theorem lw_p34 : lw_okq (⟨"WheelDiscModel", "change", "()V"⟩, 31) := ⟨⟨by decide +kernel, by decide +kernel⟩, List.mem_of_getElem? (i := 864) (by decide +kernel), List.mem_of_getElem? (i := 981) (by decide +kernel), List.mem_of_getElem? (i := 982) (by decide +kernel)⟩
theorem lw_p35 : lw_okq (⟨"WheelDiscModel", "copy", "(II)V"⟩, 31) := ⟨⟨by decide +kernel, by decide +kernel⟩, List.mem_of_getElem? (i := 864) (by decide +kernel), List.mem_of_getElem? (i := 985) (by decide +kernel), List.mem_of_getElem? (i := 986) (by decide +kernel)⟩
theorem lw_p36 : lw_okq (⟨"WheelDiscModel", "begin", "(I)V"⟩, 31) := ⟨⟨by decide +kernel, by decide +kernel⟩, List.mem_of_getElem? (i := 864) (by decide +kernel), List.mem_of_getElem? (i := 989) (by decide +kernel), List.mem_of_getElem? (i := 990) (by decide +kernel)⟩
theorem lw_p37 : lw_okq (⟨"WheelDiscModel", "wide", "()I"⟩, 31) := ⟨⟨by decide +kernel, by decide +kernel⟩, List.mem_of_getElem? (i := 864) (by decide +kernel), List.mem_of_getElem? (i := 997) (by decide +kernel), List.mem_of_getElem? (i := 998) (by decide +kernel)⟩
theorem lw_p38 : lw_okq (⟨"WheelDiscModel", "n", "()I"⟩, 31) := ⟨⟨by decide +kernel, by decide +kernel⟩, List.mem_of_getElem? (i := 864) (by decide +kernel), List.mem_of_getElem? (i := 1001) (by decide +kernel), List.mem_of_getElem? (i := 1002) (by decide +kernel)⟩
theorem lw_p39 : lw_okq (⟨"WheelDiscModel", "readers", "()I"⟩, 31) := ⟨⟨by decide +kernel, by decide +kernel⟩, List.mem_of_getElem? (i := 864) (by decide +kernel), List.mem_of_getElem? (i := 1013) (by decide +kernel), List.mem_of_getElem? (i := 1014) (by decide +kernel)⟩
theorem lw_p40 : lw_okq (⟨"WheelDiscModel", "turnBy", "(I)V"⟩, 31) := ⟨⟨by decide +kernel, by decide +kernel⟩, List.mem_of_getElem? (i := 864) (by decide +kernel), List.mem_of_getElem? (i := 1025) (by decide +kernel), List.mem_of_getElem? (i := 1026) (by decide +kernel)⟩
theorem lw_p41 : lw_okq (⟨"WheelDiscModel", "kind", "()I"⟩, 31) := ⟨⟨by decide +kernel, by decide +kernel⟩, List.mem_of_getElem? (i := 864) (by decide +kernel), List.mem_of_getElem? (i := 1045) (by decide +kernel), List.mem_of_getElem? (i := 1046) (by decide +kernel)⟩
theorem lw_p42 : lw_okq (⟨"WheelDiscModel", "read", "()V"⟩, 31) := ⟨⟨by decide +kernel, by decide +kernel⟩, List.mem_of_getElem? (i := 864) (by decide +kernel), List.mem_of_getElem? (i := 1049) (by decide +kernel), List.mem_of_getElem? (i := 1050) (by decide +kernel)⟩
theorem lw_p43 : lw_okq (⟨"WheelDiscModel", "wordAt", "(I)I"⟩, 31) := ⟨⟨by decide +kernel, by decide +kernel⟩, List.mem_of_getElem? (i := 864) (by decide +kernel), List.mem_of_getElem? (i := 1053) (by decide +kernel), List.mem_of_getElem? (i := 1054) (by decide +kernel)⟩
theorem lw_p44 : lw_okq (⟨"WheelDiscModel", "sees", "(II)Z"⟩, 31) := ⟨⟨by decide +kernel, by decide +kernel⟩, List.mem_of_getElem? (i := 864) (by decide +kernel), List.mem_of_getElem? (i := 1057) (by decide +kernel), List.mem_of_getElem? (i := 1058) (by decide +kernel)⟩
theorem lw_p45 : lw_okq (⟨"WheelDiscModel", "all", "()I"⟩, 31) := ⟨⟨by decide +kernel, by decide +kernel⟩, List.mem_of_getElem? (i := 864) (by decide +kernel), List.mem_of_getElem? (i := 1061) (by decide +kernel), List.mem_of_getElem? (i := 1062) (by decide +kernel)⟩
theorem lw_p46 : lw_okq (⟨"WheelDiscModel", "isTrue", "(I)Z"⟩, 31) := ⟨⟨by decide +kernel, by decide +kernel⟩, List.mem_of_getElem? (i := 864) (by decide +kernel), List.mem_of_getElem? (i := 1065) (by decide +kernel), List.mem_of_getElem? (i := 1066) (by decide +kernel)⟩
theorem lw_p47 : lw_okq (⟨"WheelDiscModel", "isStand", "(I)Z"⟩, 31) := ⟨⟨by decide +kernel, by decide +kernel⟩, List.mem_of_getElem? (i := 864) (by decide +kernel), List.mem_of_getElem? (i := 1074) (by decide +kernel), List.mem_of_getElem? (i := 1075) (by decide +kernel)⟩
def lw_privs_3 : List (MethodName × Nat) := [(⟨"WheelDisc$WordList", "isSingleStep", "(I)Z"⟩, 2), (⟨"WheelDiscModel", "no", "(I)I"⟩, 31), (⟨"WheelDiscModel", "change", "()V"⟩, 31), (⟨"WheelDiscModel", "copy", "(II)V"⟩, 31), (⟨"WheelDiscModel", "begin", "(I)V"⟩, 31), (⟨"WheelDiscModel", "wide", "()I"⟩, 31), (⟨"WheelDiscModel", "n", "()I"⟩, 31), (⟨"WheelDiscModel", "readers", "()I"⟩, 31), (⟨"WheelDiscModel", "turnBy", "(I)V"⟩, 31), (⟨"WheelDiscModel", "kind", "()I"⟩, 31), (⟨"WheelDiscModel", "read", "()V"⟩, 31), (⟨"WheelDiscModel", "wordAt", "(I)I"⟩, 31), (⟨"WheelDiscModel", "sees", "(II)Z"⟩, 31), (⟨"WheelDiscModel", "all", "()I"⟩, 31), (⟨"WheelDiscModel", "isTrue", "(I)Z"⟩, 31), (⟨"WheelDiscModel", "isStand", "(I)Z"⟩, 31)]
theorem lw_r3 : ∀ q ∈ lw_privs_3, lw_okq q := List.forall_mem_cons.mpr ⟨lw_p32, List.forall_mem_cons.mpr ⟨lw_p33, List.forall_mem_cons.mpr ⟨lw_p34, List.forall_mem_cons.mpr ⟨lw_p35, List.forall_mem_cons.mpr ⟨lw_p36, List.forall_mem_cons.mpr ⟨lw_p37, List.forall_mem_cons.mpr ⟨lw_p38, List.forall_mem_cons.mpr ⟨lw_p39, List.forall_mem_cons.mpr ⟨lw_p40, List.forall_mem_cons.mpr ⟨lw_p41, List.forall_mem_cons.mpr ⟨lw_p42, List.forall_mem_cons.mpr ⟨lw_p43, List.forall_mem_cons.mpr ⟨lw_p44, List.forall_mem_cons.mpr ⟨lw_p45, List.forall_mem_cons.mpr ⟨lw_p46, List.forall_mem_cons.mpr ⟨lw_p47, fun _ h => absurd h List.not_mem_nil⟩⟩⟩⟩⟩⟩⟩⟩⟩⟩⟩⟩⟩⟩⟩⟩
theorem lw_p48 : lw_okq (⟨"WheelDiscModel", "form", "()V"⟩, 31) := ⟨⟨by decide +kernel, by decide +kernel⟩, List.mem_of_getElem? (i := 864) (by decide +kernel), List.mem_of_getElem? (i := 1114) (by decide +kernel), List.mem_of_getElem? (i := 1115) (by decide +kernel)⟩
theorem lw_p49 : lw_okq (⟨"WheelDiscModel", "rowOf", "()V"⟩, 31) := ⟨⟨by decide +kernel, by decide +kernel⟩, List.mem_of_getElem? (i := 864) (by decide +kernel), List.mem_of_getElem? (i := 1118) (by decide +kernel), List.mem_of_getElem? (i := 1119) (by decide +kernel)⟩
theorem lw_p50 : lw_okq (⟨"WheelDiscModel", "isAhead", "(II)Z"⟩, 31) := ⟨⟨by decide +kernel, by decide +kernel⟩, List.mem_of_getElem? (i := 864) (by decide +kernel), List.mem_of_getElem? (i := 1122) (by decide +kernel), List.mem_of_getElem? (i := 1123) (by decide +kernel)⟩
theorem lw_p51 : lw_okq (⟨"WheelDiscModel", "standOf", "(I)I"⟩, 31) := ⟨⟨by decide +kernel, by decide +kernel⟩, List.mem_of_getElem? (i := 864) (by decide +kernel), List.mem_of_getElem? (i := 1126) (by decide +kernel), List.mem_of_getElem? (i := 1127) (by decide +kernel)⟩
theorem lw_p52 : lw_okq (⟨"WheelDiscModel", "keptForm", "()V"⟩, 31) := ⟨⟨by decide +kernel, by decide +kernel⟩, List.mem_of_getElem? (i := 864) (by decide +kernel), List.mem_of_getElem? (i := 1134) (by decide +kernel), List.mem_of_getElem? (i := 1135) (by decide +kernel)⟩
theorem lw_p53 : lw_okq (⟨"WheelDiscModel", "string", "(III)V"⟩, 31) := ⟨⟨by decide +kernel, by decide +kernel⟩, List.mem_of_getElem? (i := 864) (by decide +kernel), List.mem_of_getElem? (i := 1150) (by decide +kernel), List.mem_of_getElem? (i := 1151) (by decide +kernel)⟩
theorem lw_p54 : lw_okq (⟨"WheelDiscModel", "search", "(I)I"⟩, 31) := ⟨⟨by decide +kernel, by decide +kernel⟩, List.mem_of_getElem? (i := 864) (by decide +kernel), List.mem_of_getElem? (i := 1160) (by decide +kernel), List.mem_of_getElem? (i := 1161) (by decide +kernel)⟩
theorem lw_p55 : lw_okq (⟨"WheelDiscModel", "isFound", "(I)Z"⟩, 31) := ⟨⟨by decide +kernel, by decide +kernel⟩, List.mem_of_getElem? (i := 864) (by decide +kernel), List.mem_of_getElem? (i := 1164) (by decide +kernel), List.mem_of_getElem? (i := 1165) (by decide +kernel)⟩
theorem lw_p56 : lw_okq (⟨"WheelDiscModel", "searchWord", "(II)I"⟩, 31) := ⟨⟨by decide +kernel, by decide +kernel⟩, List.mem_of_getElem? (i := 864) (by decide +kernel), List.mem_of_getElem? (i := 1168) (by decide +kernel), List.mem_of_getElem? (i := 1169) (by decide +kernel)⟩
theorem lw_p57 : lw_okq (⟨"WheelDiscModel", "bitOf", "(II)Z"⟩, 31) := ⟨⟨by decide +kernel, by decide +kernel⟩, List.mem_of_getElem? (i := 864) (by decide +kernel), List.mem_of_getElem? (i := 1172) (by decide +kernel), List.mem_of_getElem? (i := 1173) (by decide +kernel)⟩
theorem lw_p58 : lw_okq (⟨"WheelDiscModel", "follow", "(I)I"⟩, 31) := ⟨⟨by decide +kernel, by decide +kernel⟩, List.mem_of_getElem? (i := 864) (by decide +kernel), List.mem_of_getElem? (i := 1192) (by decide +kernel), List.mem_of_getElem? (i := 1193) (by decide +kernel)⟩
theorem lw_p59 : lw_okq (⟨"WheelDiscModel", "leastStand", "()I"⟩, 31) := ⟨⟨by decide +kernel, by decide +kernel⟩, List.mem_of_getElem? (i := 864) (by decide +kernel), List.mem_of_getElem? (i := 1204) (by decide +kernel), List.mem_of_getElem? (i := 1205) (by decide +kernel)⟩
def lw_privs_4 : List (MethodName × Nat) := [(⟨"WheelDiscModel", "form", "()V"⟩, 31), (⟨"WheelDiscModel", "rowOf", "()V"⟩, 31), (⟨"WheelDiscModel", "isAhead", "(II)Z"⟩, 31), (⟨"WheelDiscModel", "standOf", "(I)I"⟩, 31), (⟨"WheelDiscModel", "keptForm", "()V"⟩, 31), (⟨"WheelDiscModel", "string", "(III)V"⟩, 31), (⟨"WheelDiscModel", "search", "(I)I"⟩, 31), (⟨"WheelDiscModel", "isFound", "(I)Z"⟩, 31), (⟨"WheelDiscModel", "searchWord", "(II)I"⟩, 31), (⟨"WheelDiscModel", "bitOf", "(II)Z"⟩, 31), (⟨"WheelDiscModel", "follow", "(I)I"⟩, 31), (⟨"WheelDiscModel", "leastStand", "()I"⟩, 31)]
theorem lw_r4 : ∀ q ∈ lw_privs_4, lw_okq q := List.forall_mem_cons.mpr ⟨lw_p48, List.forall_mem_cons.mpr ⟨lw_p49, List.forall_mem_cons.mpr ⟨lw_p50, List.forall_mem_cons.mpr ⟨lw_p51, List.forall_mem_cons.mpr ⟨lw_p52, List.forall_mem_cons.mpr ⟨lw_p53, List.forall_mem_cons.mpr ⟨lw_p54, List.forall_mem_cons.mpr ⟨lw_p55, List.forall_mem_cons.mpr ⟨lw_p56, List.forall_mem_cons.mpr ⟨lw_p57, List.forall_mem_cons.mpr ⟨lw_p58, List.forall_mem_cons.mpr ⟨lw_p59, fun _ h => absurd h List.not_mem_nil⟩⟩⟩⟩⟩⟩⟩⟩⟩⟩⟩⟩
def lw_privs : List (MethodName × Nat) := lw_privs_1 ++ (lw_privs_2 ++ (lw_privs_3 ++ (lw_privs_4)))
def lw_tbl : List Cond := k2_sels lw_privs ++ tables_1
theorem lw_privs_ok : ∀ q ∈ lw_privs, lw_okq q := by
  show ∀ q ∈ lw_privs_1 ++ (lw_privs_2 ++ (lw_privs_3 ++ (lw_privs_4))), lw_okq q
  exact List.forall_mem_append.mpr ⟨lw_r1, List.forall_mem_append.mpr ⟨lw_r2, List.forall_mem_append.mpr ⟨lw_r3, lw_r4⟩⟩⟩
end
section
/-! the words that hold at every state: those of the tables that no step changes -/
def am_T : List Cond := lw_tbl.filter goodWord
def am_N : List Cond := lw_tbl.filter (fun w => match w with | .methodLinkNest _ _ _ _ => true | _ => false)
def am_T0 : u_T := fun k => match k with
  | 0 => ("WheelDisc$Disc", "lights", "[J", true)
  | 1 => ("WheelDisc$Disc", "trackOf", "[I", true)
  | 2 => ("WheelDisc$Disc", "placeOf", "[I", true)
  | 3 => ("WheelDisc$Disc", "sectors", "I", false)
  | 4 => ("WheelDisc$Disc", "tracks", "I", false)
  | _ => ("WheelDisc$Disc", "readers", "I", false)
def am_ty0 : Nat → FieldType := fun k => match k with
  | 0 => .array .long
  | 1 => .array .int
  | 2 => .array .int
  | 3 => .int
  | 4 => .int
  | _ => .int
def am_T1 : u_T := fun k => match k with
  | 0 => ("WheelDisc$Drive", "words", "[I", true)
  | 1 => ("WheelDisc$Drive", "standCounts", "[I", true)
  | 2 => ("WheelDisc$Drive", "leastStands", "[I", true)
  | 3 => ("WheelDisc$Drive", "isReached", "[Z", true)
  | 4 => ("WheelDisc$Drive", "isReachedNext", "[Z", true)
  | 5 => ("WheelDisc$Drive", "size", "I", false)
  | 6 => ("WheelDisc$Drive", "followed", "I", false)
  | _ => ("WheelDisc$Drive", "slipAt", "I", false)
def am_ty1 : Nat → FieldType := fun k => match k with
  | 0 => .array .int
  | 1 => .array .int
  | 2 => .array .int
  | 3 => .array .boolean
  | 4 => .array .boolean
  | 5 => .int
  | 6 => .int
  | _ => .int
def am_T2 : u_T := fun k => match k with
  | 0 => ("WheelDisc$Form", "row", "[I", true)
  | 1 => ("WheelDisc$Form", "bitAt", "[I", true)
  | 2 => ("WheelDisc$Form", "isParted", "[Z", true)
  | 3 => ("WheelDisc$Form", "sectors", "I", false)
  | 4 => ("WheelDisc$Form", "readers", "I", false)
  | _ => ("WheelDisc$Form", "isStale", "Z", false)
def am_ty2 : Nat → FieldType := fun k => match k with
  | 0 => .array .int
  | 1 => .array .int
  | 2 => .array .boolean
  | 3 => .int
  | 4 => .int
  | _ => .boolean
def am_T3 : u_T := fun k => match k with
  | 0 => ("WheelDisc$History", "ring", "[LWheelDisc$Disc;", true)
  | 1 => ("WheelDisc$History", "next", "I", false)
  | _ => ("WheelDisc$History", "size", "I", false)
def am_ty3 : Nat → FieldType := fun k => match k with
  | 0 => .array (.object "WheelDisc$Disc")
  | 1 => .int
  | _ => .int
def am_T4 : u_T := fun k => match k with
  | _ => ("WheelDisc$Marks", "bits", "[J", true)
def am_ty4 : Nat → FieldType := fun k => match k with
  | _ => .array .long
def am_T5 : u_T := fun k => match k with
  | 0 => ("WheelDisc$Rim", "entries", "[J", true)
  | 1 => ("WheelDisc$Rim", "kind", "I", false)
  | _ => ("WheelDisc$Rim", "size", "I", false)
def am_ty5 : Nat → FieldType := fun k => match k with
  | 0 => .array .long
  | 1 => .int
  | _ => .int
def am_T6 : u_T := fun k => match k with
  | 0 => ("WheelDisc$Search", "sectors", "I", false)
  | 1 => ("WheelDisc$Search", "readers", "I", false)
  | 2 => ("WheelDisc$Search", "spacing", "I", false)
  | 3 => ("WheelDisc$Search", "end", "I", false)
  | 4 => ("WheelDisc$Search", "at", "I", false)
  | 5 => ("WheelDisc$Search", "candidate", "I", false)
  | 6 => ("WheelDisc$Search", "found", "I", false)
  | 7 => ("WheelDisc$Search", "asked", "I", false)
  | _ => ("WheelDisc$Search", "isOpen", "Z", false)
def am_ty6 : Nat → FieldType := fun k => match k with
  | 0 => .int
  | 1 => .int
  | 2 => .int
  | 3 => .int
  | 4 => .int
  | 5 => .int
  | 6 => .int
  | 7 => .int
  | _ => .boolean
def am_T7 : u_T := fun k => match k with
  | 0 => ("WheelDisc$View", "words", "[I", true)
  | 1 => ("WheelDisc$View", "marks", "LWheelDisc$Marks;", true)
  | 2 => ("WheelDisc$View", "sectors", "I", false)
  | 3 => ("WheelDisc$View", "readers", "I", false)
  | _ => ("WheelDisc$View", "isStale", "Z", false)
def am_ty7 : Nat → FieldType := fun k => match k with
  | 0 => .array .int
  | 1 => .object "WheelDisc$Marks"
  | 2 => .int
  | 3 => .int
  | _ => .boolean
def am_T8 : u_T := fun k => match k with
  | 0 => ("WheelDisc$WordList", "words", "[I", true)
  | _ => ("WheelDisc$WordList", "size", "I", false)
def am_ty8 : Nat → FieldType := fun k => match k with
  | 0 => .array .int
  | _ => .int
def am_T9 : u_T := fun k => match k with
  | 0 => ("WheelDisc", "currentRim", "LWheelDisc$Rim;", true)
  | 1 => ("WheelDisc", "currentDisc", "LWheelDisc$Disc;", true)
  | 2 => ("WheelDisc", "history", "LWheelDisc$History;", true)
  | 3 => ("WheelDisc", "view", "LWheelDisc$View;", true)
  | 4 => ("WheelDisc", "currentForm", "LWheelDisc$Form;", true)
  | 5 => ("WheelDisc", "keptForm", "LWheelDisc$Form;", true)
  | 6 => ("WheelDisc", "search", "LWheelDisc$Search;", true)
  | 7 => ("WheelDisc", "currentDrive", "LWheelDisc$Drive;", true)
  | 8 => ("WheelDisc", "list", "LWheelDisc$WordList;", true)
  | 9 => ("WheelDisc", "chainMarks", "LWheelDisc$Marks;", true)
  | 10 => ("WheelDisc", "turnRow", "[J", true)
  | 11 => ("WheelDisc", "isKept", "Z", false)
  | _ => ("WheelDisc", "latestFault", "I", false)
def am_ty9 : Nat → FieldType := fun k => match k with
  | 0 => .object "WheelDisc$Rim"
  | 1 => .object "WheelDisc$Disc"
  | 2 => .object "WheelDisc$History"
  | 3 => .object "WheelDisc$View"
  | 4 => .object "WheelDisc$Form"
  | 5 => .object "WheelDisc$Form"
  | 6 => .object "WheelDisc$Search"
  | 7 => .object "WheelDisc$Drive"
  | 8 => .object "WheelDisc$WordList"
  | 9 => .object "WheelDisc$Marks"
  | 10 => .array .long
  | 11 => .boolean
  | _ => .int
def am_T10 : u_T := fun k => match k with
  | 0 => ("WheelDiscModel", "sizes", "[I", true)
  | 1 => ("WheelDiscModel", "onTrack", "[I", true)
  | 2 => ("WheelDiscModel", "places", "[I", true)
  | 3 => ("WheelDiscModel", "lights", "[Z", true)
  | 4 => ("WheelDiscModel", "past", "I", false)
  | 5 => ("WheelDiscModel", "firstPast", "I", false)
  | 6 => ("WheelDiscModel", "hasKept", "Z", false)
  | 7 => ("WheelDiscModel", "rimKind", "I", false)
  | 8 => ("WheelDiscModel", "rimMany", "I", false)
  | 9 => ("WheelDiscModel", "rim", "[J", true)
  | 10 => ("WheelDiscModel", "drive", "[I", true)
  | 11 => ("WheelDiscModel", "driven", "I", false)
  | 12 => ("WheelDiscModel", "list", "[I", true)
  | 13 => ("WheelDiscModel", "listed", "I", false)
  | 14 => ("WheelDiscModel", "searchSize", "I", false)
  | 15 => ("WheelDiscModel", "searchReaders", "I", false)
  | 16 => ("WheelDiscModel", "searchNext", "I", false)
  | 17 => ("WheelDiscModel", "asked", "I", false)
  | 18 => ("WheelDiscModel", "fault", "I", false)
  | 19 => ("WheelDiscModel", "words", "[I", true)
  | 20 => ("WheelDiscModel", "best", "[I", true)
  | 21 => ("WheelDiscModel", "other", "[I", true)
  | 22 => ("WheelDiscModel", "order", "[I", true)
  | 23 => ("WheelDiscModel", "now", "[Z", true)
  | 24 => ("WheelDiscModel", "then", "[Z", true)
  | 25 => ("WheelDiscModel", "mirrored", "Z", false)
  | 26 => ("WheelDiscModel", "first", "I", false)
  | 27 => ("WheelDiscModel", "kept", "[I", true)
  | 28 => ("WheelDiscModel", "letters", "[I", true)
  | 29 => ("WheelDiscModel", "strung", "I", false)
  | _ => ("WheelDiscModel", "slipped", "I", false)
def am_ty10 : Nat → FieldType := fun k => match k with
  | 0 => .array .int
  | 1 => .array .int
  | 2 => .array .int
  | 3 => .array .boolean
  | 4 => .int
  | 5 => .int
  | 6 => .boolean
  | 7 => .int
  | 8 => .int
  | 9 => .array .long
  | 10 => .array .int
  | 11 => .int
  | 12 => .array .int
  | 13 => .int
  | 14 => .int
  | 15 => .int
  | 16 => .int
  | 17 => .int
  | 18 => .int
  | 19 => .array .int
  | 20 => .array .int
  | 21 => .array .int
  | 22 => .array .int
  | 23 => .array .boolean
  | 24 => .array .boolean
  | 25 => .boolean
  | 26 => .int
  | 27 => .array .int
  | 28 => .array .int
  | 29 => .int
  | _ => .int
/-- the classes whose objects the world holds: name, fields, how many -/
def am_cl : List vw_C := [("WheelDisc$Disc", am_T0, 6), ("WheelDisc$Drive", am_T1, 8), ("WheelDisc$Form", am_T2, 6), ("WheelDisc$History", am_T3, 3), ("WheelDisc$Marks", am_T4, 1), ("WheelDisc$Rim", am_T5, 3), ("WheelDisc$Search", am_T6, 9), ("WheelDisc$View", am_T7, 5), ("WheelDisc$WordList", am_T8, 2), ("WheelDisc", am_T9, 13), ("WheelDiscModel", am_T10, 31)]
def am_tyf : Nat → Nat → FieldType := fun c => match c with
  | 0 => am_ty0
  | 1 => am_ty1
  | 2 => am_ty2
  | 3 => am_ty3
  | 4 => am_ty4
  | 5 => am_ty5
  | 6 => am_ty6
  | 7 => am_ty7
  | 8 => am_ty8
  | 9 => am_ty9
  | _ => am_ty10
/-- kinds of the fields: 0 an int, 1 a boolean, 2 a reference -/
def am_fks : List (List Nat) := [[2, 2, 2, 0, 0, 0], [2, 2, 2, 2, 2, 0, 0, 0], [2, 2, 2, 0, 0, 1], [2, 0, 0], [2], [2, 0, 0], [0, 0, 0, 0, 0, 0, 0, 0, 1], [2, 2, 0, 0, 1], [2, 0], [2, 2, 2, 2, 2, 2, 2, 2, 2, 2, 2, 1, 0], [2, 2, 2, 2, 0, 0, 1, 0, 0, 2, 2, 0, 2, 0, 0, 0, 0, 0, 0, 2, 2, 2, 2, 2, 2, 1, 0, 2, 2, 0, 0]]
def am_fk (c i : Nat) : Nat := (am_fks.getD c []).getD i 9
/-- the cells: kind (0 .. 10 an object of that class, 11 ints, 12 longs, 13 booleans, 14 discs; 15 the script) and length -/
def am_lay : List (Nat × Nat) := [(9, 13), (5, 3), (12, 64), (0, 6), (12, 80), (11, 10), (11, 10), (3, 3), (14, 30), (7, 5), (11, 512), (4, 1), (12, 16), (2, 6), (11, 512), (11, 10), (13, 10), (2, 6), (11, 512), (11, 10), (13, 10), (6, 9), (1, 8), (11, 2000), (11, 2000), (11, 2000), (13, 512), (13, 512), (8, 2), (11, 512), (4, 1), (12, 16), (12, 8)]
def am_layR : List (Nat × Nat) := [(0, 6), (12, 80), (11, 10), (11, 10)]
def am_layM : List (Nat × Nat) := [(10, 31), (11, 96), (11, 320), (11, 320), (13, 163840), (12, 64), (11, 2000), (11, 512), (11, 512), (11, 512), (11, 512), (11, 10), (13, 512), (13, 512), (11, 512), (11, 16)]
def am_cell (k : Nat) : Nat × Nat := if k < 33 then am_lay.getD k (99, 0) else if k < 153 then am_layR.getD ((k - 33) % 4) (99, 0) else am_layM.getD (k - 153) (99, 0)
def am_kind (k : Nat) : Nat := (am_cell k).1
def am_len (k : Nat) : Nat := (am_cell k).2
def am_linkM : List Nat := [154, 155, 156, 157, 0, 0, 0, 0, 0, 158, 159, 0, 160, 0, 0, 0, 0, 0, 0, 161, 162, 163, 164, 165, 166, 0, 0, 167, 168, 0, 0]
/-- which cell a reference field, or a place of the ring, holds -/
def am_link (k i : Nat) : Nat := if k = 0 then [1, 3, 7, 9, 13, 17, 21, 22, 28, 30, 32].getD i 0 else if k = 8 then 33 + 4 * i else if k = 153 then am_linkM.getD i 0 else k + 1 + i
theorem am_cl_ok : ∀ ci, ci < 11 → ∀ q, am_cl[ci]? = some q → (∀ w ∈ u_ws q.1 q.2.1 q.2.2, w ∈ am_T) ∧ (∀ k, k < q.2.2 → parseFieldDescriptor (q.2.1 k).2.2.1 = some (am_tyf ci k) ∧ (q.2.1 k).1 = q.1 ∧ (am_fk ci k = 0 ∧ am_tyf ci k = .int ∧ (q.2.1 k).2.2.2 = false ∨ am_fk ci k = 1 ∧ am_tyf ci k = .boolean ∧ (q.2.1 k).2.2.2 = false ∨ am_fk ci k = 2)) ∧ (∀ a, a < q.2.2 → ∀ b, b < q.2.2 → a ≠ b → (q.2.1 a).2.1 ≠ (q.2.1 b).2.1) := by
  intro ci h q hq
  match ci, h, hq with
  | 0, _, hq => cases hq; exact ⟨by decide +kernel, by decide +kernel, by decide +kernel⟩
  | 1, _, hq => cases hq; exact ⟨by decide +kernel, by decide +kernel, by decide +kernel⟩
  | 2, _, hq => cases hq; exact ⟨by decide +kernel, by decide +kernel, by decide +kernel⟩
  | 3, _, hq => cases hq; exact ⟨by decide +kernel, by decide +kernel, by decide +kernel⟩
  | 4, _, hq => cases hq; exact ⟨by decide +kernel, by decide +kernel, by decide +kernel⟩
  | 5, _, hq => cases hq; exact ⟨by decide +kernel, by decide +kernel, by decide +kernel⟩
  | 6, _, hq => cases hq; exact ⟨by decide +kernel, by decide +kernel, by decide +kernel⟩
  | 7, _, hq => cases hq; exact ⟨by decide +kernel, by decide +kernel, by decide +kernel⟩
  | 8, _, hq => cases hq; exact ⟨by decide +kernel, by decide +kernel, by decide +kernel⟩
  | 9, _, hq => cases hq; exact ⟨by decide +kernel, by decide +kernel, by decide +kernel⟩
  | 10, _, hq => cases hq; exact ⟨by decide +kernel, by decide +kernel, by decide +kernel⟩
  | n + 11, h, _ => exact absurd h (by omega)
end
section
/-! THE SMALL MACHINE: the class, the reference and the law over a fixed set of cells. A state is what the cells hold: ints (booleans too), longs. -/
abbrev am_S : Type := (Nat → Nat → Int32) × (Nat → Nat → Int64)
abbrev am_Q : Type := Option Value → am_S → Prop
def am_upI (σ : am_S) (k i : Nat) (v : Int32) : am_S := (fun k' i' => if k' = k ∧ i' = i then v else σ.1 k' i', σ.2)
def am_upJ (σ : am_S) (k i : Nat) (v : Int64) : am_S := (σ.1, fun k' i' => if k' = k ∧ i' = i then v else σ.2 k' i')
def am_cpI (σ : am_S) (a b sp dp n : Nat) : am_S := (fun k i => if k = b then va_cpy (σ.1 a) (σ.1 b) sp dp n i else σ.1 k i, σ.2)
def am_cpJ (σ : am_S) (a b sp dp n : Nat) : am_S := (σ.1, fun k i => if k = b then va_cpy (σ.2 a) (σ.2 b) sp dp n i else σ.2 k i)
/-- the value of a field -/
def am_av (σ : am_S) (k i : Nat) : Value := if am_fk (am_kind k) i = 2 then .ref (am_link k i) else .int (σ.1 k i)
/-- a field of a class by the entry of a class file -/
def am_isF (own : String) (idx ci i : Nat) : Prop := ∃ q : vw_C, am_cl[ci]? = some q ∧ i < q.2.2 ∧ Cond.fieldLink own idx q.1 (q.2.1 i).2.1 (q.2.1 i).2.2.1 ∈ am_T
def am_mOK (y : MethodName) (n : Nat) : Prop := Cond.initialized y.cls ∈ am_T ∧ y.cls ≠ "java/lang/invoke/MethodHandle" ∧ y.cls ≠ "java/lang/invoke/VarHandle" ∧ (parseMethodDescriptor y.desc).map (fun d => d.parameters.length) = some n
def am_isV (own : String) (idx : Nat) (y : MethodName) (n : Nat) : Prop := Cond.methodLink own idx y ∈ am_T ∧ Cond.instanceMethod y ∈ am_T ∧ Cond.selects y.cls y y ∈ am_T ∧ am_mOK y n
def am_isS (own : String) (idx : Nat) (y : MethodName) (n : Nat) : Prop := (Cond.methodLink own idx y ∈ am_T ∨ ∃ host, Cond.methodLinkNest own idx y host ∈ am_N) ∧ Cond.static y ∈ am_T ∧ am_mOK y n
def am_isA (own : String) (idx : Nat) : Prop := Cond.methodLink own idx arraycopyName ∈ am_T ∧ Cond.native arraycopyName ∈ am_T ∧ Cond.static arraycopyName ∈ am_T ∧ Cond.initialized "java/lang/System" ∈ am_T
/-- the name of an object's class -/
def am_cn (k : Nat) : String := ((am_cl[am_kind k]?).map (fun q => q.1)).getD ""
/-- a place of the locals that a value of one slot can be stored into -/
def am_st1 (vs : List Value) (i : Nat) : Bool := Nat.blt i vs.length && (match i with | 0 => true | j + 1 => (match vs[j]? with | some (.long _) => false | _ => true))
def am_st2 (vs : List Value) (i : Nat) : Bool := Nat.blt (i + 1) vs.length && (match i with | 0 => true | j + 1 => (match vs[j]? with | some (.long _) => false | _ => true))
def am_cmp (c : ClassFile.Cond) (x y : Int32) : Prop := match c with
  | .eq => x = y
  | .ne => ¬ x = y
  | .lt => x < y
  | .ge => y ≤ x
  | .gt => y < x
  | .le => x ≤ y
abbrev am_K : Type := Nat → List Value → List Value → am_S → Prop
abbrev am_C : Type := MethodName → List Value → am_S → am_Q → Prop
/-- the copy of a stretch of one array into another one -/
def am_copy (st : List Value) (σ : am_S) (k : List Value → am_S → Prop) : Prop := match st with
  | .int n :: .int dp :: .ref b :: .int sp :: .ref a :: rest => ¬ sp < 0 ∧ ¬ dp < 0 ∧ ¬ n < 0 ∧ sp.toNatClampNeg + n.toNatClampNeg ≤ am_len a ∧ dp.toNatClampNeg + n.toNatClampNeg ≤ am_len b ∧ (rest.map fun v => v.category).sum ≤ 8 ∧ am_kind a = am_kind b ∧
      ((am_kind a = 11 ∨ (am_kind a = 13 ∧ ∀ i, i < n.toNatClampNeg → σ.1 a (sp.toNatClampNeg + i) = 0 ∨ σ.1 a (sp.toNatClampNeg + i) = 1)) ∧ k rest (am_cpI σ a b sp.toNatClampNeg dp.toNatClampNeg n.toNatClampNeg) ∨ am_kind a = 12 ∧ k rest (am_cpJ σ a b sp.toNatClampNeg dp.toNatClampNeg n.toNatClampNeg))
  | _ => False
/-- one instruction -/
def am_x (C : am_C) (own : String) (ret : Option FieldType) (i : Instr) (len pc : Nat) (vs st : List Value) (σ : am_S) (K : am_K) (Q : am_Q) : Prop := match i, st with
  | .iconst v, st => len = 1 ∧ K (pc + 1) vs (.int (Int32.ofInt v) :: st) σ
  | .bipush v, st => len = 2 ∧ K (pc + 2) vs (.int ((Int8.ofInt v).toInt32) :: st) σ
  | .sipush v, st => len = 3 ∧ K (pc + 3) vs (.int ((Int16.ofInt v).toInt32) :: st) σ
  | .ldc idx, st => len = 2 ∧ ∃ v, Cond.constant own idx v ∈ am_T ∧ K (pc + 2) vs (.int v :: st) σ
  | .ldc_w idx, st => len = 3 ∧ ∃ v, Cond.constant own idx v ∈ am_T ∧ K (pc + 3) vs (.int v :: st) σ
  | .ldc2_w idx, st => len = 3 ∧ ∃ v, Cond.constantLong own idx v ∈ am_T ∧ K (pc + 3) vs (.long v :: st) σ
  | .lconst n, st => len = 1 ∧ K (pc + 1) vs (.long (Int64.ofNat (n : Nat)) :: st) σ
  | .iload_n k, st => len = 1 ∧ ∃ x, vs[(k : Nat)]? = some (.int x) ∧ K (pc + 1) vs (.int x :: st) σ
  | .iload k, st => len = 2 ∧ ∃ x, vs[k]? = some (.int x) ∧ K (pc + 2) vs (.int x :: st) σ
  | .lload_n k, st => len = 1 ∧ ∃ x, vs[(k : Nat)]? = some (.long x) ∧ K (pc + 1) vs (.long x :: st) σ
  | .lload k, st => len = 2 ∧ ∃ x, vs[k]? = some (.long x) ∧ K (pc + 2) vs (.long x :: st) σ
  | .aload_n k, st => len = 1 ∧ ∃ x, vs[(k : Nat)]? = some (.ref x) ∧ K (pc + 1) vs (.ref x :: st) σ
  | .aload k, st => len = 2 ∧ ∃ x, vs[k]? = some (.ref x) ∧ K (pc + 2) vs (.ref x :: st) σ
  | .istore_n k, .int x :: st => len = 1 ∧ am_st1 vs (k : Nat) = true ∧ K (pc + 1) (vs.set (k : Nat) (.int x)) st σ
  | .istore k, .int x :: st => len = 2 ∧ am_st1 vs k = true ∧ K (pc + 2) (vs.set k (.int x)) st σ
  | .lstore k, .long x :: st => len = 2 ∧ am_st2 vs k = true ∧ K (pc + 2) ((vs.set k (.long x)).set (k + 1) .null) st σ
  | .iinc k n, st => len = 3 ∧ am_st1 vs k = true ∧ ∃ x, vs[k]? = some (.int x) ∧ K (pc + 3) (vs.set k (.int (x + Int32.ofInt n))) st σ
  | .iadd, .int y :: .int x :: st => len = 1 ∧ K (pc + 1) vs (.int (x + y) :: st) σ
  | .isub, .int y :: .int x :: st => len = 1 ∧ K (pc + 1) vs (.int (x - y) :: st) σ
  | .imul, .int y :: .int x :: st => len = 1 ∧ K (pc + 1) vs (.int (x * y) :: st) σ
  | .idiv, .int y :: .int x :: st => len = 1 ∧ ¬ y = 0 ∧ K (pc + 1) vs (.int (x / y) :: st) σ
  | .irem, .int y :: .int x :: st => len = 1 ∧ ¬ y = 0 ∧ K (pc + 1) vs (.int (x - x / y * y) :: st) σ
  | .iand, .int y :: .int x :: st => len = 1 ∧ K (pc + 1) vs (.int (x &&& y) :: st) σ
  | .ior, .int y :: .int x :: st => len = 1 ∧ K (pc + 1) vs (.int (x ||| y) :: st) σ
  | .ixor, .int y :: .int x :: st => len = 1 ∧ K (pc + 1) vs (.int (x ^^^ y) :: st) σ
  | .ineg, .int x :: st => len = 1 ∧ K (pc + 1) vs (.int (-x) :: st) σ
  | .ishl, .int y :: .int x :: st => len = 1 ∧ K (pc + 1) vs (.int (x <<< (y &&& 31)) :: st) σ
  | .ishr, .int y :: .int x :: st => len = 1 ∧ K (pc + 1) vs (.int (x >>> (y &&& 31)) :: st) σ
  | .iushr, .int y :: .int x :: st => len = 1 ∧ K (pc + 1) vs (.int ((x.toUInt32 >>> (y.toUInt32 &&& Int32.toUInt32 31)).toInt32) :: st) σ
  | .land, .long y :: .long x :: st => len = 1 ∧ K (pc + 1) vs (.long (x &&& y) :: st) σ
  | .lor, .long y :: .long x :: st => len = 1 ∧ K (pc + 1) vs (.long (x ||| y) :: st) σ
  | .lxor, .long y :: .long x :: st => len = 1 ∧ K (pc + 1) vs (.long (x ^^^ y) :: st) σ
  | .lushr, .int y :: .long x :: st => len = 1 ∧ K (pc + 1) vs (.long ((x.toUInt64 >>> (y.toInt64.toUInt64 &&& Int64.toUInt64 63)).toInt64) :: st) σ
  | .lshl, .int y :: .long x :: st => len = 1 ∧ K (pc + 1) vs (.long (x <<< (y.toInt64 &&& 63)) :: st) σ
  | .lshr, .int y :: .long x :: st => len = 1 ∧ K (pc + 1) vs (.long (x >>> (y.toInt64 &&& 63)) :: st) σ
  | .lcmp, .long y :: .long x :: st => len = 1 ∧ K (pc + 1) vs (.int (lg_cmp x y) :: st) σ
  | .i2l, .int x :: st => len = 1 ∧ K (pc + 1) vs (.long x.toInt64 :: st) σ
  | .dup, v :: st => len = 1 ∧ v.category = 1 ∧ K (pc + 1) vs (v :: v :: st) σ
  | .dup2, v :: w :: st => len = 1 ∧ v.category = 1 ∧ w.category = 1 ∧ K (pc + 1) vs (v :: w :: v :: w :: st) σ
  | .pop, v :: st => len = 1 ∧ v.category = 1 ∧ K (pc + 1) vs st σ
  | .getfield idx, .ref k :: st => len = 3 ∧ ∃ i, am_isF own idx (am_kind k) i ∧ K (pc + 3) vs (am_av σ k i :: st) σ
  | .putfield idx, .int x :: .ref k :: st => len = 3 ∧ ∃ i, am_isF own idx (am_kind k) i ∧ (am_fk (am_kind k) i = 0 ∨ am_fk (am_kind k) i = 1 ∧ (x = 0 ∨ x = 1)) ∧ K (pc + 3) vs st (am_upI σ k i x)
  | .iaload, .int i :: .ref k :: st => len = 1 ∧ ((am_kind k = 11 ∧ vp_in i (am_len k)) ∨ (k = 1000 ∧ vp_in i (σ.1 1001 0).toNatClampNeg)) ∧ K (pc + 1) vs (.int (σ.1 k i.toNatClampNeg) :: st) σ
  | .baload, .int i :: .ref k :: st => len = 1 ∧ (am_kind k = 13 ∧ vp_in i (am_len k)) ∧ K (pc + 1) vs (.int (σ.1 k i.toNatClampNeg) :: st) σ
  | .laload, .int i :: .ref k :: st => len = 1 ∧ (am_kind k = 12 ∧ vp_in i (am_len k)) ∧ K (pc + 1) vs (.long (σ.2 k i.toNatClampNeg) :: st) σ
  | .aaload, .int i :: .ref k :: st => len = 1 ∧ (am_kind k = 14 ∧ vp_in i (am_len k)) ∧ K (pc + 1) vs (.ref (am_link k i.toNatClampNeg) :: st) σ
  | .iastore, .int x :: .int i :: .ref k :: st => len = 1 ∧ (am_kind k = 11 ∧ vp_in i (am_len k)) ∧ K (pc + 1) vs st (am_upI σ k i.toNatClampNeg x)
  | .bastore, .int x :: .int i :: .ref k :: st => len = 1 ∧ (am_kind k = 13 ∧ vp_in i (am_len k)) ∧ (x = 0 ∨ x = 1) ∧ K (pc + 1) vs st (am_upI σ k i.toNatClampNeg x)
  | .lastore, .long x :: .int i :: .ref k :: st => len = 1 ∧ (am_kind k = 12 ∧ vp_in i (am_len k)) ∧ K (pc + 1) vs st (am_upJ σ k i.toNatClampNeg x)
  | .arraylength, .ref k :: st => len = 1 ∧ ((11 ≤ am_kind k ∧ am_kind k ≤ 13 ∧ K (pc + 1) vs (.int (Int32.ofNat (am_len k)) :: st) σ) ∨ (k = 1000 ∧ K (pc + 1) vs (.int (σ.1 1001 0) :: st) σ))
  | .ifCond c off, .int x :: st => len = 3 ∧ ∃ t : Nat, (pc : Int) + off = (t : Int) ∧ (am_cmp c x 0 → K t vs st σ) ∧ (¬ am_cmp c x 0 → K (pc + 3) vs st σ)
  | .if_icmp c off, .int y :: .int x :: st => len = 3 ∧ ∃ t : Nat, (pc : Int) + off = (t : Int) ∧ (am_cmp c x y → K t vs st σ) ∧ (¬ am_cmp c x y → K (pc + 3) vs st σ)
  | .goto off, st => len = 3 ∧ ∃ t : Nat, (pc : Int) + off = (t : Int) ∧ K t vs st σ
  | .tableswitch dflt lo hi offs, .int x :: st => ∃ t : Nat, K t vs st σ ∧ ((x.toInt < lo ∨ hi < x.toInt) ∧ (pc : Int) + dflt = (t : Int) ∨ (¬ x.toInt < lo ∧ ¬ hi < x.toInt) ∧ ∃ off, offs[(x.toInt - lo).toNat]? = some off ∧ (pc : Int) + off = (t : Int))
  | .invokevirtual idx, st => len = 3 ∧ ∃ (y : MethodName) (As : List Value) (k : Nat) (rest : List Value), st = As.reverse ++ .ref k :: rest ∧ am_isV own idx y As.length ∧ am_cn k = y.cls ∧ (rest.map fun v => v.category).sum ≤ 8 ∧ C y (.ref k :: As) σ (fun r σ' => K (pc + 3) vs (r.toList ++ rest) σ')
  | .invokestatic idx, st => len = 3 ∧ ((∃ (y : MethodName) (As : List Value) (rest : List Value), st = As.reverse ++ rest ∧ am_isS own idx y As.length ∧ (rest.map fun v => v.category).sum ≤ 8 ∧ C y As σ (fun r σ' => K (pc + 3) vs (r.toList ++ rest) σ')) ∨ (am_isA own idx ∧ am_copy st σ (fun st' σ' => K (pc + 3) vs st' σ')))
  | .ireturn, [.int x] => len = 1 ∧ (ret = some .int ∨ ret = some .boolean ∧ (x = 0 ∨ x = 1)) ∧ Q (some (.int x)) σ
  | .areturn, [.ref k] => len = 1 ∧ (∃ n, ret = some (.object n)) ∧ Q (some (.ref k)) σ
  | .return_, [] => len = 1 ∧ ret = none ∧ Q none σ
  | _, _ => False
/-- the instruction at a place, with what must hold behind it -/
def am_d (C : am_C) (own : String) (ret : Option FieldType) (cc : ByteArray) (Q : am_Q) (K : am_K) (pc : Nat) (vs st : List Value) (σ : am_S) : Prop := ∃ (i : Instr) (len : Nat), decode cc pc = .ok (i, len) ∧ am_x C own ret i len pc vs st σ K Q
/-- from here the method ends with Q (the least such) -/
def am_r (C : am_C) (own : String) (ret : Option FieldType) (cc : ByteArray) (Q : am_Q) (pc : Nat) (vs st : List Value) (σ : am_S) : Prop := ∀ P : am_K, (∀ (pc : Nat) (vs st : List Value) (σ : am_S), am_d C own ret cc Q P pc vs st σ → P pc vs st σ) → P pc vs st σ
/-- the locals with which a method begins -/
def am_sl : List Value → List Value
  | [] => []
  | .long x :: vs => .long x :: .null :: am_sl vs
  | v :: vs => v :: am_sl vs
def am_ent (As : List Value) (n : Nat) : List Value := am_sl As ++ List.replicate (n - (am_sl As).length) .null
/-- a method, with d calls standing open at most -/
def am_run : Nat → am_C
  | 0 => fun _ _ _ _ => False
  | d + 1 => fun y As σ Q => ∃ (cc : ByteArray) (maxL : Nat) (ret : Option FieldType), Cond.code y cc maxL ret ∈ am_T ∧ plainName y.cls = true ∧ (am_sl As).length ≤ maxL ∧ maxL ≤ 20 ∧ (∀ v ∈ As, v ≠ .null ∧ ∀ b, v ≠ .double b) ∧ am_r (am_run d) y.cls ret cc Q 0 (am_ent As maxL) [] σ
end
section
/-! THE WORLD: how the cells of the small machine lie in the heap. G: the classes and their slots, the classes of the arrays, the addresses of the cells -/
abbrev am_G : Type := va_G × (Nat → ClassId) × (Nat → Nat)
def am_g (G : am_G) : Value → Value := fun v => match v with
  | .ref k => .ref (G.2.2 k)
  | v => v
def am_E (G : am_G) (σ : am_S) (k : Nat) : va_E :=
  if am_kind k = 11 then .inl (G.2.1 11, am_len k, .inl (σ.1 k))
  else if am_kind k = 12 then .inl (G.2.1 12, am_len k, .inr (.inl (σ.2 k)))
  else if am_kind k = 13 then .inl (G.2.1 13, am_len k, .inl (σ.1 k))
  else if am_kind k = 14 then .inl (G.2.1 14, am_len k, .inr (.inr (.inr (.inr (fun i => some (G.2.2 (am_link k i)))))))
  else .inr (am_kind k, (List.range (am_len k)).map (fun i => am_g G (am_av σ k i)))
def am_ws (G : am_G) (σ : am_S) : va_W := (List.range 169).map (fun k => (G.2.2 k, am_E G σ k))
def am_A (G : am_G) : Nat → Prop := fun q => ∃ k, k < 169 ∧ q = G.2.2 k
def am_tys (G : am_G) : List (ClassId × FieldType) := [(G.2.1 11, .int), (G.2.1 12, .long), (G.2.1 13, .boolean), (G.2.1 14, .object "WheelDisc$Disc")]
theorem am_get (G : am_G) (σ : am_S) {k : Nat} (h : k < 169) : (am_ws G σ)[k]? = some (G.2.2 k, am_E G σ k) := by
  simp [am_ws, h]
theorem am_kind_lt {k : Nat} (h : am_kind k < 15) : k < 169 := by
  rcases Nat.lt_or_ge k 169 with g | g
  · exact g
  · exfalso
    have h1 : am_cell k = (99, 0) := by
      unfold am_cell
      rw [if_neg (by omega), if_neg (by omega)]
      rw [List.getD_eq_getElem?_getD, List.getElem?_eq_none (by show 16 ≤ k - 153; omega)]
      rfl
    unfold am_kind at h
    rw [h1] at h
    omega
theorem am_cn_ok {k : Nat} {C : String} (h : am_cn k = C) (hne : C ≠ "") : ∃ q : vw_C, am_cl[am_kind k]? = some q ∧ q.1 = C ∧ am_kind k < 11 := by
  unfold am_cn at h
  cases hq : am_cl[am_kind k]? with
  | none => rw [hq] at h; exact absurd h.symm hne
  | some q =>
    rw [hq] at h
    exact ⟨q, rfl, h, (List.getElem?_eq_some_iff.mp hq).1⟩
theorem am_lay_ok : ∀ k, k < 33 → ((am_lay.getD k (99, 0)).1 < 11 → am_cl[(am_lay.getD k (99, 0)).1]?.map (fun q => q.2.2) = some (am_lay.getD k (99, 0)).2) := by decide +kernel
theorem am_layR_ok : ∀ k, k < 4 → ((am_layR.getD k (99, 0)).1 < 11 → am_cl[(am_layR.getD k (99, 0)).1]?.map (fun q => q.2.2) = some (am_layR.getD k (99, 0)).2) := by decide +kernel
theorem am_layM_ok : ∀ k, k < 16 → ((am_layM.getD k (99, 0)).1 < 11 → am_cl[(am_layM.getD k (99, 0)).1]?.map (fun q => q.2.2) = some (am_layM.getD k (99, 0)).2) := by decide +kernel
/-- an object has as many slots as its class has fields -/
theorem am_nf {k : Nat} {q : vw_C} (h : am_cl[am_kind k]? = some q) : am_len k = q.2.2 := by
  have h1 : am_kind k < 11 := (List.getElem?_eq_some_iff.mp h).1
  have hk := am_kind_lt (k := k) (by omega)
  have key : am_kind k < 11 → am_cl[am_kind k]?.map (fun q => q.2.2) = some (am_len k) := by
    unfold am_kind am_len am_cell
    split
    · exact am_lay_ok k (by assumption)
    · split
      · exact am_layR_ok ((k - 33) % 4) (Nat.mod_lt _ (by decide))
      · exact am_layM_ok (k - 153) (by omega)
  have h2 := key h1
  rw [h] at h2
  exact (Option.some.inj h2).symm
theorem am_E11 {G : am_G} {σ : am_S} {k : Nat} (h : am_kind k = 11) : am_E G σ k = .inl (G.2.1 11, am_len k, .inl (σ.1 k)) := by unfold am_E; rw [if_pos h]
theorem am_E12 {G : am_G} {σ : am_S} {k : Nat} (h : am_kind k = 12) : am_E G σ k = .inl (G.2.1 12, am_len k, .inr (.inl (σ.2 k))) := by unfold am_E; rw [if_neg (by omega), if_pos h]
theorem am_E13 {G : am_G} {σ : am_S} {k : Nat} (h : am_kind k = 13) : am_E G σ k = .inl (G.2.1 13, am_len k, .inl (σ.1 k)) := by unfold am_E; rw [if_neg (by omega), if_neg (by omega), if_pos h]
theorem am_E14 {G : am_G} {σ : am_S} {k : Nat} (h : am_kind k = 14) : am_E G σ k = .inl (G.2.1 14, am_len k, .inr (.inr (.inr (.inr (fun i => some (G.2.2 (am_link k i))))))) := by unfold am_E; rw [if_neg (by omega), if_neg (by omega), if_neg (by omega), if_pos h]
theorem am_Eo {G : am_G} {σ : am_S} {k : Nat} (h : am_kind k < 11) : am_E G σ k = .inr (am_kind k, (List.range (am_len k)).map (fun i => am_g G (am_av σ k i))) := by unfold am_E; rw [if_neg (by omega), if_neg (by omega), if_neg (by omega), if_neg (by omega)]
/-- a world in which one cell has changed -/
theorem am_ws_set (G : am_G) {σ τ : am_S} {k : Nat} {e : va_E} (he : e = am_E G τ k) (h : ∀ j, j ≠ k → τ.1 j = σ.1 j ∧ τ.2 j = σ.2 j) : (am_ws G σ).set k (G.2.2 k, e) = am_ws G τ := by
  subst he
  apply List.ext_getElem?
  intro j
  rcases Nat.lt_or_ge j 169 with hj | hj
  · rw [am_get G τ hj]
    by_cases hjk : j = k
    · subst hjk
      rw [List.getElem?_set_self (by simp [am_ws]; exact hj)]
    · rw [List.getElem?_set_ne (fun q => hjk q.symm), am_get G σ hj]
      obtain ⟨h1, h2⟩ := h j hjk
      have : am_E G σ j = am_E G τ j := by
        unfold am_E am_av
        rw [h1, h2]
      rw [this]
  · rw [List.getElem?_eq_none (by simp [am_ws]; exact hj), List.getElem?_eq_none (by simp [am_ws]; exact hj)]
theorem am_upI_row (σ : am_S) (k i : Nat) (v : Int32) : (am_upI σ k i v).1 k = upd (σ.1 k) i v := by
  funext j
  simp [am_upI, upd]
theorem am_upI_ne (σ : am_S) {k j : Nat} (i : Nat) (v : Int32) (h : j ≠ k) : (am_upI σ k i v).1 j = σ.1 j ∧ (am_upI σ k i v).2 j = σ.2 j := by
  refine ⟨?_, rfl⟩
  funext q
  simp [am_upI, h]
theorem am_upJ_row (σ : am_S) (k i : Nat) (v : Int64) : (am_upJ σ k i v).2 k = vp_updL (σ.2 k) i v := by
  funext j
  simp [am_upJ, vp_updL]
theorem am_upJ_ne (σ : am_S) {k j : Nat} (i : Nat) (v : Int64) (h : j ≠ k) : (am_upJ σ k i v).1 j = σ.1 j ∧ (am_upJ σ k i v).2 j = σ.2 j := by
  refine ⟨rfl, ?_⟩
  funext q
  simp [am_upJ, h]
theorem am_cpI_row (σ : am_S) (a b sp dp n : Nat) : (am_cpI σ a b sp dp n).1 b = va_cpy (σ.1 a) (σ.1 b) sp dp n := by
  funext j
  simp [am_cpI]
theorem am_cpI_ne (σ : am_S) {a b sp dp n j : Nat} (h : j ≠ b) : (am_cpI σ a b sp dp n).1 j = σ.1 j ∧ (am_cpI σ a b sp dp n).2 j = σ.2 j := by
  refine ⟨?_, rfl⟩
  funext q
  simp [am_cpI, h]
theorem am_cpJ_row (σ : am_S) (a b sp dp n : Nat) : (am_cpJ σ a b sp dp n).2 b = va_cpy (σ.2 a) (σ.2 b) sp dp n := by
  funext j
  simp [am_cpJ]
theorem am_cpJ_ne (σ : am_S) {a b sp dp n j : Nat} (h : j ≠ b) : (am_cpJ σ a b sp dp n).1 j = σ.1 j ∧ (am_cpJ σ a b sp dp n).2 j = σ.2 j := by
  refine ⟨rfl, ?_⟩
  funext q
  simp [am_cpJ, h]
/-- a field that becomes another number -/
theorem am_put_row (G : am_G) (σ : am_S) {k i : Nat} {x : Int32} (hk : am_kind k < 11) (hi : am_fk (am_kind k) i ≠ 2) : (Sum.inr (am_kind k, ((List.range (am_len k)).map (fun j => am_g G (am_av σ k j))).set i (.int x)) : va_E) = am_E G (am_upI σ k i x) k := by
  rw [am_Eo hk]
  congr 2
  apply List.ext_getElem?
  intro j
  by_cases hj : j < am_len k
  · by_cases hji : j = i
    · subst hji
      rw [List.getElem?_set_self (by simpa using hj)]
      simp [hj, am_av, hi, am_upI, am_g]
    · rw [List.getElem?_set_ne (fun q => hji q.symm)]
      simp [hj, am_av, am_upI, hji]
  · rw [List.getElem?_eq_none (by simpa using hj), List.getElem?_eq_none (by simpa using hj)]
/-! the locals -/
def am_al (G : am_G) : Nat → List Value → List (Nat × Value)
  | _, [] => []
  | i, v :: vs => if v = .null then am_al G (i + 1) vs else (i, am_g G v) :: am_al G (i + 1) vs
theorem am_al_mem (G : am_G) : ∀ (vs : List Value) (i : Nat) (q : Nat × Value), q ∈ am_al G i vs ↔ ∃ (j : Nat) (v : Value), vs[j]? = some v ∧ v ≠ .null ∧ q = (i + j, am_g G v) := by
  intro vs
  induction vs with
  | nil => intro i q; simp [am_al]
  | cons w vs ih =>
    intro i q
    unfold am_al
    split
    · rename_i hw
      rw [ih (i + 1) q]
      constructor
      · rintro ⟨j, v, h1, h2, h3⟩
        exact ⟨j + 1, v, by simpa using h1, h2, by rw [h3]; congr 1; omega⟩
      · rintro ⟨j, v, h1, h2, h3⟩
        cases j with
        | zero => simp at h1; exact absurd (h1 ▸ hw) h2
        | succ j => exact ⟨j, v, by simpa using h1, h2, by rw [h3]; congr 1; omega⟩
    · rename_i hw
      rw [List.mem_cons, ih (i + 1) q]
      constructor
      · rintro (h | ⟨j, v, h1, h2, h3⟩)
        · exact ⟨0, w, rfl, hw, by rw [h]; rfl⟩
        · exact ⟨j + 1, v, by simpa using h1, h2, by rw [h3]; congr 1; omega⟩
      · rintro ⟨j, v, h1, h2, h3⟩
        cases j with
        | zero => simp at h1; subst h1; exact Or.inl (by rw [h3]; rfl)
        | succ j => exact Or.inr ⟨j, v, by simpa using h1, h2, by rw [h3]; congr 1; omega⟩
def am_L (G : am_G) (vs : List Value) (ls : Array Slot) (nL : Nat) : Prop := vs.length = nL ∧ lv_has ls nL (am_al G 0 vs)
theorem am_L.at {G : am_G} {vs : List Value} {ls : Array Slot} {nL : Nat} (h : am_L G vs ls nL) {k : Nat} {v : Value} (hv : vs[k]? = some v) (hn : v ≠ .null) : ls[k]? = some (.val (am_g G v)) := by
  have := h.2.2.2 (k, am_g G v) ((am_al_mem G vs 0 _).mpr ⟨k, v, hv, hn, by simp⟩)
  exact this
theorem am_has_sub {ls : Array Slot} {nL : Nat} {l l' : List (Nat × Value)} (h : lv_has ls nL l) (hs : ∀ q ∈ l', q ∈ l) : lv_has ls nL l' := ⟨h.1, h.2.1, fun q hq => h.2.2 q (hs q hq)⟩
theorem am_g_cat (G : am_G) (v : Value) : (am_g G v).category = v.category := by cases v <;> rfl
theorem am_cat2 {v : Value} (h : v.category = 2) (hd : ∀ b, v ≠ .double b) : ∃ x, v = .long x := by
  cases v with
  | long x => exact ⟨x, rfl⟩
  | double b => exact absurd rfl (hd b)
  | _ => simp [Value.category] at h
/-- no double among the locals -/
def am_nd (vs : List Value) : Prop := ∀ (j : Nat) (b : UInt64), vs[j]? ≠ some (.double b)
theorem am_st1_ok {vs : List Value} {i : Nat} (h : am_st1 vs i = true) : i < vs.length ∧ ∀ (j : Nat) (x : Int64), j + 1 = i → vs[j]? ≠ some (.long x) := by
  unfold am_st1 at h
  simp only [Bool.and_eq_true] at h
  refine ⟨by simpa using h.1, fun j x hj hx => ?_⟩
  subst hj
  have h2 := h.2
  simp only [hx] at h2
  cases h2
theorem am_st2_ok {vs : List Value} {i : Nat} (h : am_st2 vs i = true) : i + 1 < vs.length ∧ ∀ (j : Nat) (x : Int64), j + 1 = i → vs[j]? ≠ some (.long x) := by
  unfold am_st2 at h
  simp only [Bool.and_eq_true] at h
  refine ⟨by simpa using h.1, fun j x hj hx => ?_⟩
  subst hj
  have h2 := h.2
  simp only [hx] at h2
  cases h2
theorem am_L.set1 {G : am_G} {vs : List Value} {ls ls' : Array Slot} {nL i : Nat} {v : Value} (h : am_L G vs ls nL) (hd : am_nd vs) (hi : am_st1 vs i = true)
    (h' : lv_has ls' nL ((i, am_g G v) :: (am_al G 0 vs).filter (fun q => !(q.1 == i) && !(q.1 + 1 == i && q.2.category == 2)))) : am_L G (vs.set i v) ls' nL := by
  obtain ⟨hlt, hlong⟩ := am_st1_ok hi
  refine ⟨by simpa using h.1, am_has_sub h' fun q hq => ?_⟩
  obtain ⟨j, w, h1, h2, h3⟩ := (am_al_mem G _ 0 q).mp hq
  by_cases hj : j = i
  · subst hj
    rw [List.getElem?_set_self hlt] at h1
    cases h1
    rw [h3]
    simp
  · rw [List.getElem?_set_ne (fun z => hj z.symm)] at h1
    refine List.mem_cons_of_mem _ (List.mem_filter.mpr ⟨(am_al_mem G vs 0 q).mpr ⟨j, w, h1, h2, h3⟩, ?_⟩)
    rw [h3]
    simp only [Nat.zero_add, am_g_cat, Bool.and_eq_true, Bool.not_eq_true', beq_eq_false_iff_ne, ne_eq, Bool.and_eq_false_iff]
    refine ⟨hj, ?_⟩
    by_cases hc : w.category = 2
    · obtain ⟨x, rfl⟩ := am_cat2 hc (fun b z => hd j b (by rw [h1, z]))
      exact Or.inl fun z => hlong j x z h1
    · exact Or.inr hc
theorem am_L.set2 {G : am_G} {vs : List Value} {ls ls' : Array Slot} {nL i : Nat} {x : Int64} (h : am_L G vs ls nL) (hd : am_nd vs) (hi : am_st2 vs i = true)
    (h' : lv_has ls' nL ((i, .long x) :: (am_al G 0 vs).filter (fun q => !(q.1 == i) && (!(q.1 == i + 1) && !(q.1 + 1 == i && q.2.category == 2))))) : am_L G ((vs.set i (.long x)).set (i + 1) .null) ls' nL := by
  obtain ⟨hlt, hlong⟩ := am_st2_ok hi
  refine ⟨by simpa using h.1, am_has_sub h' fun q hq => ?_⟩
  obtain ⟨j, w, h1, h2, h3⟩ := (am_al_mem G _ 0 q).mp hq
  by_cases hj1 : j = i + 1
  · subst hj1
    rw [List.getElem?_set_self (by simpa using hlt)] at h1
    cases h1
    exact absurd rfl h2
  · rw [List.getElem?_set_ne (fun z => hj1 z.symm)] at h1
    by_cases hj : j = i
    · subst hj
      rw [List.getElem?_set_self (by omega)] at h1
      cases h1
      rw [h3]
      simp [am_g]
    · rw [List.getElem?_set_ne (fun z => hj z.symm)] at h1
      refine List.mem_cons_of_mem _ (List.mem_filter.mpr ⟨(am_al_mem G vs 0 q).mpr ⟨j, w, h1, h2, h3⟩, ?_⟩)
      rw [h3]
      simp only [Nat.zero_add, am_g_cat, Bool.and_eq_true, Bool.not_eq_true', beq_eq_false_iff_ne, ne_eq, Bool.and_eq_false_iff]
      refine ⟨hj, hj1, ?_⟩
      by_cases hc : w.category = 2
      · obtain ⟨y, rfl⟩ := am_cat2 hc (fun b z => hd j b (by rw [h1, z]))
        exact Or.inl fun z => hlong j y z h1
      · exact Or.inr hc
theorem am_nd.set {vs : List Value} (h : am_nd vs) (i : Nat) {v : Value} (hv : ∀ b, v ≠ .double b) : am_nd (vs.set i v) := by
  intro j b hj
  by_cases hji : j = i
  · subst hji
    rw [List.getElem?_set] at hj
    split at hj
    · split at hj
      · cases hj; exact hv b rfl
      · cases hj
    · exact h j b hj
  · rw [List.getElem?_set_ne (fun z => hji z.symm)] at hj
    exact h j b hj
end
section
/-! THE SMALL MACHINE IS SOUND: what it says of a method, the machine does -/
def am_scr (G : am_G) (σ : am_S) (U : State) : Prop := va_X (G.2.2 1000) (σ.1 1001 0).toNatClampNeg (σ.1 1000) U U.heap ∧ 0 ≤ σ.1 1001 0 ∧ ¬ am_A G (G.2.2 1000) ∧ G.2.2 1000 < U.heap.size
def am_W (G : am_G) (σ : am_S) (U : State) : Prop := va_P G.1 am_cl (am_ws G σ) U.heap ∧ va_K G.1 am_cl (am_tys G) U ∧ va_D (am_A G) (am_ws G σ) ∧ (∀ w ∈ am_N, va_Nw w U) ∧ am_scr G σ U
def am_Pc (G : am_G) (As : List Value) (σ : am_S) : Array Value → State → Prop := va_Pc (As.map (am_g G)) (am_W G σ)
def am_Qc (G : am_G) (σ : am_S) (Q : am_Q) : Array Value → State → Outcome → State → Prop := fun _ st o t => (∃ (r : Option Value) (τ : am_S), o = .returned (r.map (am_g G)) ∧ Q r τ ∧ va_P G.1 am_cl (am_ws G τ) t.heap ∧ τ.1 1000 = σ.1 1000 ∧ τ.1 1001 = σ.1 1001 ∧ ∀ v, r = some v → v ≠ .null ∧ ∀ b, v ≠ .double b) ∧ va_F (am_A G) st t
def am_rm (d : Nat) : Room := { frames := d, cells := 0, slots := 0, locals := 60 * d }
theorem am_good : ∀ w ∈ am_T, (w.onTables && w.keeps) = true ∨ ∃ ty, w = .arrayClass ty := fun w h => good_of_word (List.mem_filter.mp h).2
theorem am_goodIn {w : Cond} (h : w ∈ am_T) : GoodIn am_T (w :: am_T) := fun v hv => by
  rcases List.mem_cons.mp hv with e | hv
  · rw [e]; exact ⟨h, am_good _ h⟩
  · exact ⟨hv, am_good _ hv⟩
theorem am_N_nest : ∀ w ∈ am_N, ∃ a i y h, w = Cond.methodLinkNest a i y h := fun w hw => by
  have h2 := (List.mem_filter.mp hw).2
  cases w with
  | methodLinkNest a i y h => exact ⟨a, i, y, h, rfl⟩
  | _ => cases h2
theorem am_Nw_moved {s U : State} (hW : s.WarmedH U.vm) (h : ∀ w ∈ am_N, va_Nw w s) : ∀ w ∈ am_N, va_Nw w U := fun w hw => by
  obtain ⟨a, i, y, z, rfl⟩ := am_N_nest w hw
  exact (h _ hw).warmM hW
theorem am_blind (G : am_G) (As : List Value) (σ : am_S) : FrameBlind (am_Pc G As σ) := fun a U g mk q => by
  obtain ⟨q0, qP, qK, qD, qN, qS1, qS2, qS3⟩ := q
  refine ⟨q0, qP, va_K.moved (u := U) (U := U.calling g mk a) (Vm.Alike.refl U.vm) qK, qD, fun w hw => ?_, qS1.moved (U := U.calling g mk a) (Vm.Alike.refl U.vm), qS2, qS3⟩
  obtain ⟨a', i, y, z, rfl⟩ := am_N_nest w hw
  exact va_Nw.same rfl (u := U) rfl (qN _ hw)
section AMS
variable {p : Program} {l : Launch} {e : Env} {R : Room} {s : State} {m : MethodId} {args : Array Value} {below : List Frame} {meth : Method} {c : Code} {cells slots : Nat} {Q' : State → Prop}
/-- behind a call -/
theorem am_callg {G : am_G} {σ : am_S} {Q : am_Q} {A : Nat → Prop} {H : Heap} {locs : List Loc} {pc : Nat} {ls : Array Slot} {st0 rest : List Value} {a : Array Value} (hr : va_Run p l e R s m args below meth c H locs cells slots 0 0 (F0 m pc ls st0) rest (am_Qc G σ Q a) (am_A G)) (hS : va_S A s.heap H locs) (hAG : ∀ q, am_A G q → A q)
    (kk : ∀ (r : Option Value) (τ : am_S) (H1 : Heap) (locs1 : List Loc), Q r τ → va_P G.1 am_cl (am_ws G τ) H1 → τ.1 1000 = σ.1 1000 → τ.1 1001 = σ.1 1001 → (∀ v, r = some v → v ≠ .null ∧ ∀ b, v ≠ .double b) → va_S A s.heap H1 locs1 → W p l e R s m args below meth c H1 locs1 cells slots Q' (F0 m (pc + 3) ls ((r.map (am_g G)).toList ++ rest))) : W p l e R s m args below meth c H locs cells slots Q' (F0 m pc ls st0) := by
  intro T hT X
  obtain ⟨v, st₀, t, T', L, h0, X', hL, e1, e2, ⟨⟨r, τ, hv, hq, hP, hg1, hg2, hn⟩, hz, hk⟩, st⟩ := hr T hT X
  cases hv
  rw [h0] at hz hk
  obtain ⟨t2, a1, b1⟩ := kk r τ T'.heap (locs ++ L) hq (by rw [e1]; exact hP) hg1 hg2 hn
    ⟨Nat.le_trans hS.1 (by rw [e1]; exact hz), fun q h1 h2 => by rw [e1, hk q (Nat.lt_of_lt_of_le h1 hS.1) (fun z => h2 (hAG q z))]; exact hS.2.1 q h1 h2, fun q hq => by
      rcases List.mem_append.mp hq with h | h
      · exact hS.2.2 q h
      · exact hAG _ (hL q h)⟩ T' rfl X'
  exact ⟨t2, st t2 a1, b1⟩
end AMS
/-- what a call needs of the callee -/
def am_met (l : Launch) (G : am_G) (rm : Room) (C : am_C) : Prop := ∀ (y : MethodName) (As : List Value) (σ : am_S) (Q : am_Q), C y As σ Q → ∃ (cc : ByteArray) (maxL : Nat) (ret : Option FieldType), Cond.code y cc maxL ret ∈ am_T ∧ maxL ≤ 20 ∧ Met l y (Cond.code y cc maxL ret :: am_T) rm (am_Pc G As σ) (am_Qc G σ Q) 0 0 (am_A G)
section AMW
variable {p : Program} {l : Launch} {e : Env} {R : Room} {s : State} {m : MethodId} {args : Array Value} {below : List Frame} {meth : Method} {c : Code} {cells slots nL : Nat} {Q' : State → Prop} {cc : ByteArray} {own : String} {G : am_G} {A : Nat → Prop} {rm : Room} {C : am_C}
/-- what stays the same along a method -/
def am_ctx (p : Program) (R : Room) (s : State) (m : MethodId) (args : Array Value) (c : Code) (cells slots nL : Nat) (cc : ByteArray) (own : String) (G : am_G) (A : Nat → Prop) (rm : Room) : Prop :=
  p.tables.exec = Jvm.exec ∧ c.code = cc ∧ c.maxLocals = nL ∧ s.vm.findClass own = some m.cls ∧ (∀ w ∈ am_T, w.before args s = true) ∧ (∀ w ∈ am_N, va_Nw w s) ∧ va_K G.1 am_cl (am_tys G) s ∧ (∀ q, am_A G q → A q) ∧ (rm.cells = 0 ∧ rm.slots = 0 ∧ rm.frames + 1 ≤ R.frames ∧ 60 + rm.locals ≤ R.locals ∧ cells ≤ R.cells ∧ slots ≤ R.slots)
theorem am_callV {σ : am_S} {Q : am_Q} {H : Heap} {locs : List Loc} {pc idx k : Nat} {ls : Array Slot} {As rest : List Value} {y : MethodName} (X : am_ctx p R s m args c cells slots nL cc own G A rm) (hM : am_met l G rm C) (hP : va_P G.1 am_cl (am_ws G σ) H) (hD : va_D (am_A G) (am_ws G σ)) (hscr : ∀ U : State, U.heap = H → s.vm.Alike U.vm → am_scr G σ U) (hS : va_S A s.heap H locs) (hls : ls.size = nL)
    (hdg : decode cc pc = .ok (.invokevirtual idx, 3)) (hv : am_isV own idx y As.length) (hcn : am_cn k = y.cls) (hrest : ((rest.map (am_g G)).map fun v => v.category).sum ≤ 8) (hC : C y (.ref k :: As) σ Q)
    (kk : ∀ (r : Option Value) (τ : am_S) (H1 : Heap) (locs1 : List Loc), Q r τ → va_P G.1 am_cl (am_ws G τ) H1 → τ.1 1000 = σ.1 1000 → τ.1 1001 = σ.1 1001 → (∀ v, r = some v → v ≠ .null ∧ ∀ b, v ≠ .double b) → va_S A s.heap H1 locs1 → W p l e R s m args below meth c H1 locs1 cells slots Q' (F0 m (pc + 3) ls ((r.map (am_g G)).toList ++ rest.map (am_g G)))) :
    W p l e R s m args below meth c H locs cells slots Q' (F0 m pc ls ((As.map (am_g G)).reverse ++ .ref (G.2.2 k) :: rest.map (am_g G))) := by
  obtain ⟨hx, hb, hml, hown, hts, hN, hK, hAG, hr1, hr2, hr3, hr4, hr5, hr6⟩ := X
  obtain ⟨hl, hin, hse, hini, hy1, hy2, hlen⟩ := hv
  obtain ⟨cd, maxL, ret, hcode, hmx, hMet⟩ := hM y _ σ Q hC
  obtain ⟨q, hq, hqn, hk11⟩ := am_cn_ok hcn (fun h => by
    rw [h] at hini
    exact absurd hini (by decide +kernel))
  have hk := am_kind_lt (k := k) (by omega)
  have he : (am_ws G σ)[k]? = some (G.2.2 k, .inr (am_kind k, (List.range (am_len k)).map (fun i => am_g G (am_av σ k i)))) := by rw [am_get G σ hk, am_Eo hk11]
  have hrecv := va_recv hK hP hq he
  rw [hqn] at hrecv
  have cb : CallB R s args own idx y cd maxL ret (Cond.code y cd maxL ret :: am_T) rm 0 0 As.length := callB_of As.length hts (am_goodIn hcode) rfl hr1 hr2 (hts _ hini) (hts _ hl) ⟨hy1, hy2, hlen⟩ ⟨hr3, by omega⟩
  refine am_callg (G := G) (σ := σ) (Q := Q) (A := A) (va_runV (As := As.map (am_g G)) (rest := rest.map (am_g G)) (b := G.2.2 k) (C := y.cls) (n := As.length) ⟨hx, hb, hml, hown, hts⟩ hMet ⟨cb, hts _ hin, hts _ hse⟩ ⟨am_blind G _ σ, hrecv, fun U hU hW => ⟨rfl, by rw [hU]; exact hP, va_K.moved hW.alike hK, hD, am_Nw_moved hW hN, hscr U hU hW.alike⟩⟩ rfl (by simp) hls rfl (lv_room hrest) hdg ⟨by omega, by omega⟩) hS hAG kk
theorem am_callS {σ : am_S} {Q : am_Q} {H : Heap} {locs : List Loc} {pc idx : Nat} {ls : Array Slot} {As rest : List Value} {y : MethodName} (X : am_ctx p R s m args c cells slots nL cc own G A rm) (hM : am_met l G rm C) (hP : va_P G.1 am_cl (am_ws G σ) H) (hD : va_D (am_A G) (am_ws G σ)) (hscr : ∀ U : State, U.heap = H → s.vm.Alike U.vm → am_scr G σ U) (hS : va_S A s.heap H locs) (hls : ls.size = nL)
    (hdg : decode cc pc = .ok (.invokestatic idx, 3)) (hv : am_isS own idx y As.length) (hrest : ((rest.map (am_g G)).map fun v => v.category).sum ≤ 8) (hC : C y As σ Q)
    (kk : ∀ (r : Option Value) (τ : am_S) (H1 : Heap) (locs1 : List Loc), Q r τ → va_P G.1 am_cl (am_ws G τ) H1 → τ.1 1000 = σ.1 1000 → τ.1 1001 = σ.1 1001 → (∀ v, r = some v → v ≠ .null ∧ ∀ b, v ≠ .double b) → va_S A s.heap H1 locs1 → W p l e R s m args below meth c H1 locs1 cells slots Q' (F0 m (pc + 3) ls ((r.map (am_g G)).toList ++ rest.map (am_g G)))) :
    W p l e R s m args below meth c H locs cells slots Q' (F0 m pc ls ((As.map (am_g G)).reverse ++ rest.map (am_g G))) := by
  obtain ⟨hx, hb, hml, hown, hts, hN, hK, hAG, hr1, hr2, hr3, hr4, hr5, hr6⟩ := X
  obtain ⟨hl, hst, hini, hy1, hy2, hlen⟩ := hv
  obtain ⟨cd, maxL, ret, hcode, hmx, hMet⟩ := hM y _ σ Q hC
  have hPre : PreS s H (am_Pc G As σ) (As.map (am_g G)) := ⟨am_blind G _ σ, fun U hU hW => ⟨rfl, by rw [hU]; exact hP, va_K.moved hW.alike hK, hD, am_Nw_moved hW hN, hscr U hU hW.alike⟩⟩
  rcases hl with hl | ⟨host, hl⟩
  · have cb : CallB R s args own idx y cd maxL ret (Cond.code y cd maxL ret :: am_T) rm 0 0 As.length := callB_of As.length hts (am_goodIn hcode) rfl hr1 hr2 (hts _ hini) (hts _ hl) ⟨hy1, hy2, hlen⟩ ⟨hr3, by omega⟩
    exact am_callg (G := G) (σ := σ) (Q := Q) (A := A) (va_runS (As := As.map (am_g G)) (rest := rest.map (am_g G)) (n := As.length) ⟨hx, hb, hml, hown, hts⟩ hMet ⟨cb, hts _ hst⟩ hPre rfl (by simp) hls rfl (lv_room hrest) hdg ⟨by omega, by omega⟩) hS hAG kk
  · have cb : va_CN R s args own idx y host cd maxL ret (Cond.code y cd maxL ret :: am_T) rm 0 0 As.length := va_cnB As.length hts (am_goodIn hcode) rfl hr1 hr2 (hN _ hl) (hts _ hini) ⟨hy1, hy2, hlen⟩ ⟨hr3, by omega⟩
    exact am_callg (G := G) (σ := σ) (Q := Q) (A := A) (va_runSN (As := As.map (am_g G)) (rest := rest.map (am_g G)) (n := As.length) ⟨hx, hb, hml, hown, hts⟩ hMet ⟨cb, hts _ hst, trivial⟩ hPre rfl (by simp) hls rfl (lv_room hrest) hdg ⟨by omega, by omega⟩) hS hAG kk
end AMW
end
section
theorem am_D_of {G : am_G} {A : Nat → Prop} (hinj : ∀ i j, i < 169 → j < 169 → G.2.2 i = G.2.2 j → i = j) (hAG : ∀ q, am_A G q → A q) (σ : am_S) : va_D A (am_ws G σ) := by
  have hlt : ∀ (k : Nat) (q : Nat × va_E), (am_ws G σ)[k]? = some q → k < 169 ∧ q.1 = G.2.2 k := by
    intro k q hk
    have h1 : k < 169 := by
      have := (List.getElem?_eq_some_iff.mp hk).1
      simpa [am_ws] using this
    rw [am_get G σ h1] at hk
    cases hk
    exact ⟨h1, rfl⟩
  refine ⟨fun i j p q hi hj e => ?_, fun k q hk => ?_⟩
  · obtain ⟨h1, h2⟩ := hlt i p hi
    obtain ⟨h3, h4⟩ := hlt j q hj
    exact hinj i j h1 h3 (by rw [← h2, ← h4, e])
  · obtain ⟨h1, h2⟩ := hlt k q hk
    exact hAG _ ⟨k, h1, h2⟩
theorem am_inj_of {G : am_G} {A : Nat → Prop} {σ : am_S} (h : va_D A (am_ws G σ)) : ∀ i j, i < 169 → j < 169 → G.2.2 i = G.2.2 j → i = j := fun i j hi hj e => h.1 i j _ _ (am_get G σ hi) (am_get G σ hj) e
theorem am_ofNat_clamp {x : Int32} (h : 0 ≤ x) : Int32.ofNat x.toNatClampNeg = x := by
  have h1 : (0 : Int) ≤ x.toInt := by simpa using (Int32.le_iff_toInt_le.mp h)
  rw [← Int32.toInt_inj, Int32.toInt_ofNat_of_lt]
  · show ((x.toInt.toNat : Nat) : Int) = x.toInt
    omega
  · have := x.toInt_lt
    show x.toInt.toNat < 2 ^ 31
    omega
theorem am_ne0 {k : Nat} (h : k < 169) : (1000 : Nat) ≠ k := by omega
theorem am_ne1 {k : Nat} (h : k < 169) : (1001 : Nat) ≠ k := by omega
theorem am_g_cats (G : am_G) (l : List Value) : ((l.map (am_g G)).map fun v => v.category).sum = (l.map fun v => v.category).sum := by
  rw [List.map_map]
  congr 2
  exact funext (am_g_cat G)
theorem am_g_app (G : am_G) (r : Option Value) (l : List Value) : (r.map (am_g G)).toList ++ l.map (am_g G) = (r.toList ++ l).map (am_g G) := by
  cases r <;> rfl
section AMSW
variable {p : Program} {l : Launch} {e : Env} {R : Room} {s : State} {m : MethodId} {args : Array Value} {below : List Frame} {meth : Method} {c : Code} {cells slots nL : Nat} {Q' : State → Prop} {cc : ByteArray} {own : String} {G : am_G} {A : Nat → Prop} {rm : Room} {C : am_C}
set_option maxHeartbeats 4000000 in
theorem am_sw (ret : Option FieldType) (Q : am_Q) (X : am_ctx p R s m args c cells slots nL cc own G A rm) (hM : am_met l G rm C) {X0 L0 : Nat → Int32} (hX : va_X (G.2.2 1000) (L0 0).toNatClampNeg X0 s s.heap) (h0 : 0 ≤ L0 0) (hnA : ¬ A (G.2.2 1000)) (hbl : G.2.2 1000 < s.heap.size) (hinj : ∀ i j, i < 169 → j < 169 → G.2.2 i = G.2.2 j → i = j)
    (hretI : ∀ (x : Int32) (σ : am_S) (H : Heap) (locs : List Loc) (ls : Array Slot) (pc : Nat), decode cc pc = .ok (.ireturn, 1) → (ret = some .int ∨ ret = some .boolean ∧ (x = 0 ∨ x = 1)) → Q (some (.int x)) σ → va_P G.1 am_cl (am_ws G σ) H → va_S A s.heap H locs → σ.1 1000 = X0 → σ.1 1001 = L0 → W p l e R s m args below meth c H locs cells slots Q' (F0 m pc ls [.int x]))
    (hretA : ∀ (k : Nat) (σ : am_S) (H : Heap) (locs : List Loc) (ls : Array Slot) (pc : Nat), decode cc pc = .ok (.areturn, 1) → (∃ n, ret = some (.object n)) → Q (some (.ref k)) σ → va_P G.1 am_cl (am_ws G σ) H → va_S A s.heap H locs → σ.1 1000 = X0 → σ.1 1001 = L0 → W p l e R s m args below meth c H locs cells slots Q' (F0 m pc ls [.ref (G.2.2 k)]))
    (hretV : ∀ (σ : am_S) (H : Heap) (locs : List Loc) (ls : Array Slot) (pc : Nat), decode cc pc = .ok (.return_, 1) → ret = none → Q none σ → va_P G.1 am_cl (am_ws G σ) H → va_S A s.heap H locs → σ.1 1000 = X0 → σ.1 1001 = L0 → W p l e R s m args below meth c H locs cells slots Q' (F0 m pc ls [])) :
    ∀ (pc : Nat) (vs st : List Value) (σ : am_S), am_r C own ret cc Q pc vs st σ → am_nd vs → ∀ (H : Heap) (locs : List Loc) (ls : Array Slot), va_P G.1 am_cl (am_ws G σ) H → va_S A s.heap H locs → σ.1 1000 = X0 → σ.1 1001 = L0 → am_L G vs ls nL → W p l e R s m args below meth c H locs cells slots Q' (F0 m pc ls (st.map (am_g G))) := by
  intro pc vs st σ hrun
  refine hrun (fun pc vs st σ => am_nd vs → ∀ (H : Heap) (locs : List Loc) (ls : Array Slot), va_P G.1 am_cl (am_ws G σ) H → va_S A s.heap H locs → σ.1 1000 = X0 → σ.1 1001 = L0 → am_L G vs ls nL → W p l e R s m args below meth c H locs cells slots Q' (F0 m pc ls (st.map (am_g G)))) ?_
  · have ih : ∀ (pc : Nat) (vs st : List Value) (σ : am_S), (am_nd vs → ∀ (H : Heap) (locs : List Loc) (ls : Array Slot), va_P G.1 am_cl (am_ws G σ) H → va_S A s.heap H locs → σ.1 1000 = X0 → σ.1 1001 = L0 → am_L G vs ls nL → W p l e R s m args below meth c H locs cells slots Q' (F0 m pc ls (st.map (am_g G)))) → am_nd vs → ∀ (H : Heap) (locs : List Loc) (ls : Array Slot), va_P G.1 am_cl (am_ws G σ) H → va_S A s.heap H locs → σ.1 1000 = X0 → σ.1 1001 = L0 → am_L G vs ls nL → W p l e R s m args below meth c H locs cells slots Q' (F0 m pc ls (st.map (am_g G))) := fun _ _ _ _ h => h
    intro pc vs st σ h hnd H locs ls hP hS hg1 hg2 hl
    obtain ⟨hx, hb, hml, hown, hts, hN, hK, hAG, hr1, hr2, hr3, hr4, hr5, hr6⟩ := id X
    have hD := am_D_of hinj hAG σ
    have hDG := am_D_of (A := am_A G) hinj (fun _ h => h) σ
    have hscr : ∀ U : State, U.heap = H → s.vm.Alike U.vm → am_scr G σ U := by
      intro U hU hal
      refine ⟨?_, by rw [hg2]; exact h0, fun h => hnA (hAG _ h), by rw [hU]; exact Nat.lt_of_lt_of_le hbl hS.1⟩
      rw [hg1, hg2, hU]
      exact (hX.kept (hS.2.1 _ hbl hnA)).moved hal
    have hS0 : va_S A H H locs := ⟨Nat.le_refl _, fun _ _ _ => rfl, hS.2.2⟩
    obtain ⟨i, len, hd, hxx⟩ := h
    unfold am_x at hxx
    split at hxx
    · obtain ⟨rfl, h⟩ := hxx
      exact lv_iconst hx hb hd rfl (ih _ _ _ _ h hnd H locs ls hP hS hg1 hg2 hl)
    · obtain ⟨rfl, h⟩ := hxx
      exact lv_bipush hx hb hd rfl (ih _ _ _ _ h hnd H locs ls hP hS hg1 hg2 hl)
    · obtain ⟨rfl, h⟩ := hxx
      exact lv_sipush hx hb hd rfl (ih _ _ _ _ h hnd H locs ls hP hS hg1 hg2 hl)
    · obtain ⟨rfl, v, hv, h⟩ := hxx
      exact lv_ldc hx hb hown (hts _ hv) hd (ih _ _ _ _ h hnd H locs ls hP hS hg1 hg2 hl)
    · obtain ⟨rfl, v, hv, h⟩ := hxx
      exact lv_ldcw hx hb hown (hts _ hv) hd (ih _ _ _ _ h hnd H locs ls hP hS hg1 hg2 hl)
    · obtain ⟨rfl, v, hv, h⟩ := hxx
      exact lv_ldc2 hx hb hown (hts _ hv) hd (ih _ _ _ _ h hnd H locs ls hP hS hg1 hg2 hl)
    · obtain ⟨rfl, h⟩ := hxx
      exact lv_lconst hx hb hd rfl (ih _ _ _ _ h hnd H locs ls hP hS hg1 hg2 hl)
    · obtain ⟨rfl, x, hv, h⟩ := hxx
      exact lv_iload_n hx hb hd rfl (hl.at hv (by simp)) (ih _ _ _ _ h hnd H locs ls hP hS hg1 hg2 hl)
    · obtain ⟨rfl, x, hv, h⟩ := hxx
      exact lv_iload hx hb hd (hl.at hv (by simp)) (ih _ _ _ _ h hnd H locs ls hP hS hg1 hg2 hl)
    · obtain ⟨rfl, x, hv, h⟩ := hxx
      exact lv_lload_n hx hb hd rfl (hl.at hv (by simp)) (ih _ _ _ _ h hnd H locs ls hP hS hg1 hg2 hl)
    · obtain ⟨rfl, x, hv, h⟩ := hxx
      exact lv_lload hx hb hd (hl.at hv (by simp)) (ih _ _ _ _ h hnd H locs ls hP hS hg1 hg2 hl)
    · obtain ⟨rfl, x, hv, h⟩ := hxx
      exact lv_aload_n hx hb hd rfl (hl.at hv (by simp)) (ih _ _ _ _ h hnd H locs ls hP hS hg1 hg2 hl)
    · obtain ⟨rfl, x, hv, h⟩ := hxx
      exact lv_aload hx hb hd (hl.at hv (by simp)) (ih _ _ _ _ h hnd H locs ls hP hS hg1 hg2 hl)
    · rename_i x st'
      obtain ⟨rfl, hst, h⟩ := hxx
      exact lv_istore_n (lv' := _) hx hb hd rfl hl.2 (hl.1 ▸ (am_st1_ok hst).1) rfl (fun ls' hl' => ih _ _ _ _ h (hnd.set _ (by simp)) H locs ls' hP hS hg1 hg2 (am_L.set1 (v := .int x) hl hnd hst hl'))
    · rename_i x st'
      obtain ⟨rfl, hst, h⟩ := hxx
      exact lv_istore (lv' := _) hx hb hd hl.2 (hl.1 ▸ (am_st1_ok hst).1) rfl (fun ls' hl' => ih _ _ _ _ h (hnd.set _ (by simp)) H locs ls' hP hS hg1 hg2 (am_L.set1 (v := .int x) hl hnd hst hl'))
    · rename_i k x st'
      obtain ⟨rfl, hst, h⟩ := hxx
      exact lv_lstore (lv' := _) hx hb hd hl.2 (hl.1 ▸ (am_st2_ok hst).1) rfl (fun ls' hl' => ih _ _ _ _ h ((hnd.set _ (by simp)).set _ (by simp)) H locs ls' hP hS hg1 hg2 (am_L.set2 hl hnd hst hl'))
    · rename_i k n'
      obtain ⟨rfl, hst, x, hv, h⟩ := hxx
      obtain ⟨kk, hkk⟩ := List.getElem?_of_mem ((am_al_mem G vs 0 (k, .int x)).mpr ⟨k, .int x, hv, by simp, by simp [am_g]⟩)
      exact lv_iinc (lv' := _) (k := kk) hx hb hd hl.2 hkk rfl (hl.1 ▸ (am_st1_ok hst).1) rfl (fun ls' hl' => ih _ _ _ _ h (hnd.set _ (by simp)) H locs ls' hP hS hg1 hg2 (am_L.set1 (v := .int (x + Int32.ofInt n')) hl hnd hst hl'))
    · obtain ⟨rfl, h⟩ := hxx
      exact lv_iadd hx hb hd (ih _ _ _ _ h hnd H locs ls hP hS hg1 hg2 hl)
    · obtain ⟨rfl, h⟩ := hxx
      exact lv_isub hx hb hd (ih _ _ _ _ h hnd H locs ls hP hS hg1 hg2 hl)
    · obtain ⟨rfl, h⟩ := hxx
      exact lv_imul hx hb hd (ih _ _ _ _ h hnd H locs ls hP hS hg1 hg2 hl)
    · obtain ⟨rfl, hne, h⟩ := hxx
      exact lv_idiv hx hb hd hne (ih _ _ _ _ h hnd H locs ls hP hS hg1 hg2 hl)
    · obtain ⟨rfl, hne, h⟩ := hxx
      exact lv_irem hx hb hd hne (ih _ _ _ _ h hnd H locs ls hP hS hg1 hg2 hl)
    · obtain ⟨rfl, h⟩ := hxx
      exact lv_iand hx hb hd (ih _ _ _ _ h hnd H locs ls hP hS hg1 hg2 hl)
    · obtain ⟨rfl, h⟩ := hxx
      exact lv_ior hx hb hd (ih _ _ _ _ h hnd H locs ls hP hS hg1 hg2 hl)
    · obtain ⟨rfl, h⟩ := hxx
      exact lv_ixor hx hb hd (ih _ _ _ _ h hnd H locs ls hP hS hg1 hg2 hl)
    · obtain ⟨rfl, h⟩ := hxx
      exact lv_ineg hx hb hd (ih _ _ _ _ h hnd H locs ls hP hS hg1 hg2 hl)
    · obtain ⟨rfl, h⟩ := hxx
      exact lv_ishl hx hb hd (ih _ _ _ _ h hnd H locs ls hP hS hg1 hg2 hl)
    · obtain ⟨rfl, h⟩ := hxx
      exact lv_ishr hx hb hd (ih _ _ _ _ h hnd H locs ls hP hS hg1 hg2 hl)
    · obtain ⟨rfl, h⟩ := hxx
      exact lv_iushr hx hb hd rfl (ih _ _ _ _ h hnd H locs ls hP hS hg1 hg2 hl)
    · obtain ⟨rfl, h⟩ := hxx
      exact lv_land hx hb hd (ih _ _ _ _ h hnd H locs ls hP hS hg1 hg2 hl)
    · obtain ⟨rfl, h⟩ := hxx
      exact lv_lor hx hb hd (ih _ _ _ _ h hnd H locs ls hP hS hg1 hg2 hl)
    · obtain ⟨rfl, h⟩ := hxx
      exact lv_lxor hx hb hd (ih _ _ _ _ h hnd H locs ls hP hS hg1 hg2 hl)
    · obtain ⟨rfl, h⟩ := hxx
      exact lv_lushr hx hb hd rfl (ih _ _ _ _ h hnd H locs ls hP hS hg1 hg2 hl)
    · obtain ⟨rfl, h⟩ := hxx
      exact lv_lshl hx hb hd rfl (ih _ _ _ _ h hnd H locs ls hP hS hg1 hg2 hl)
    · obtain ⟨rfl, h⟩ := hxx
      exact lv_lshr hx hb hd rfl (ih _ _ _ _ h hnd H locs ls hP hS hg1 hg2 hl)
    · obtain ⟨rfl, h⟩ := hxx
      exact W.lcmp hx hb hd (ih _ _ _ _ h hnd H locs ls hP hS hg1 hg2 hl)
    · obtain ⟨rfl, h⟩ := hxx
      exact lv_i2l hx hb hd rfl (ih _ _ _ _ h hnd H locs ls hP hS hg1 hg2 hl)
    · rename_i v st'
      obtain ⟨rfl, hv, h⟩ := hxx
      exact lv_dup hx hb hd ((am_g_cat G v).trans hv) (ih _ _ _ _ h hnd H locs ls hP hS hg1 hg2 hl)
    · rename_i v w st'
      obtain ⟨rfl, hv, hw, h⟩ := hxx
      exact lv_dup2_11 hx hb hd ((am_g_cat G v).trans hv) ((am_g_cat G w).trans hw) (ih _ _ _ _ h hnd H locs ls hP hS hg1 hg2 hl)
    · rename_i v st'
      obtain ⟨rfl, hv, h⟩ := hxx
      exact lv_pop hx hb hd ((am_g_cat G v).trans hv) (ih _ _ _ _ h hnd H locs ls hP hS hg1 hg2 hl)
    · rename_i idx k st'
      obtain ⟨rfl, i, ⟨q, hq, hi, hf⟩, h⟩ := hxx
      have hk11 : am_kind k < 11 := (List.getElem?_eq_some_iff.mp hq).1
      have hk := am_kind_lt (k := k) (by omega)
      have he : (am_ws G σ)[k]? = some (G.2.2 k, .inr (am_kind k, (List.range (am_len k)).map (fun i => am_g G (am_av σ k i)))) := by rw [am_get G σ hk, am_Eo hk11]
      obtain ⟨hin, hty, hnm⟩ := am_cl_ok _ hk11 q hq
      have hsame : ∀ x, s.fieldFound? (q.2.1 i).1 (q.2.1 i).2.1 (q.2.1 i).2.2.1 = some x → s.fieldFound? q.1 (q.2.1 i).2.1 (q.2.1 i).2.2.1 = some x := fun x hx => by rw [(hty i hi).2.1] at hx; exact hx
      have hv : ((List.range (am_len k)).map (fun i => am_g G (am_av σ k i)))[i]? = some (am_g G (am_av σ k i)) := by
        rw [List.getElem?_map, List.getElem?_range (by rw [am_nf hq]; exact hi)]
        rfl
      exact va_get (D := G.1) (own := own) (C := q.1) (T := q.2.1) (N := q.2.2) hx hb hts hin hown hK hP k he hq i hi (hts _ hf) hsame hv hd (ih _ _ _ _ h hnd H locs ls hP hS hg1 hg2 hl)
    · rename_i idx x k st'
      obtain ⟨rfl, i, ⟨q, hq, hi, hf⟩, hfk, h⟩ := hxx
      have hk11 : am_kind k < 11 := (List.getElem?_eq_some_iff.mp hq).1
      have hk := am_kind_lt (k := k) (by omega)
      have he : (am_ws G σ)[k]? = some (G.2.2 k, .inr (am_kind k, (List.range (am_len k)).map (fun i => am_g G (am_av σ k i)))) := by rw [am_get G σ hk, am_Eo hk11]
      obtain ⟨hin, hty, hnm⟩ := am_cl_ok _ hk11 q hq
      have hsame : ∀ x, s.fieldFound? (q.2.1 i).1 (q.2.1 i).2.1 (q.2.1 i).2.2.1 = some x → s.fieldFound? q.1 (q.2.1 i).2.1 (q.2.1 i).2.2.1 = some x := fun x hx => by rw [(hty i hi).2.1] at hx; exact hx
      have hne2 : am_fk (am_kind k) i ≠ 2 := by omega
      have hfin : (q.2.1 i).2.2.2 = false := by
        rcases (hty i hi).2.2 with z | z | z
        · exact z.2.2
        · exact z.2.2
        · exact absurd z hne2
      have hnf : narrow (am_tyf (am_kind k) i) (.int x) = .int x ∧ fits (am_tyf (am_kind k) i) (.int x) = true := by
        rcases (hty i hi).2.2 with z | z | z
        · rw [z.2.1]; exact ⟨rfl, rfl⟩
        · rw [z.2.1]
          rcases hfk with y | ⟨-, rfl | rfl⟩
          · omega
          · exact ⟨rfl, rfl⟩
          · exact ⟨rfl, rfl⟩
        · exact absurd z hne2
      refine va_put (D := G.1) (own := own) (C := q.1) (T := q.2.1) (N := q.2.2) (v := .int x) hx hb hts hin (am_tyf (am_kind k)) (fun k hk => (hty k hk).1) hnm hown hK hP hD hS k he hq i hi (hts _ hf) hsame hfin (hty i hi).1 hnf.1 hnf.2 (by simp; rw [am_nf hq]; exact hi) hd (fun H1 locs1 hP' hD' hS' => ?_)
      · have e9 := am_ws_set G (σ := σ) (τ := am_upI σ k i x) (am_put_row G σ hk11 hne2) (fun j hj => am_upI_ne σ i x hj)
        rw [e9] at hP'
        exact ih _ _ _ _ h hnd H1 locs1 ls hP' hS' ((am_upI_ne σ i x (am_ne0 hk)).1.trans hg1) ((am_upI_ne σ i x (am_ne1 hk)).1.trans hg2) hl
    · rename_i i k st'
      obtain ⟨rfl, hk | hk, h⟩ := hxx
      · have hk9 := am_kind_lt (k := k) (by omega)
        exact va_iald hx hb hK hP k 0 (by rw [am_get G σ hk9, am_E11 hk.1]) rfl hk.2 hd (ih _ _ _ _ h hnd H locs ls hP hS hg1 hg2 hl)
      · obtain ⟨rfl, hk⟩ := hk
        have hXH : va_X (G.2.2 1000) (σ.1 1001 0).toNatClampNeg (σ.1 1000) s H := by rw [hg1, hg2]; exact hX.kept (hS.2.1 _ hbl hnA)
        exact va_sld hx hb hXH (Nat.lt_of_lt_of_le hbl hS.1) hnA hS0 hk hd (ih _ _ _ _ h hnd H locs ls hP hS hg1 hg2 hl)
    · rename_i i k st'
      obtain ⟨rfl, hk, h⟩ := hxx
      have hk9 := am_kind_lt (k := k) (by omega)
      have he := am_get G σ hk9
      rw [am_E13 hk.1] at he
      exact va_zald hx hb hK hP k 2 he rfl hk.2 hd (ih _ _ _ _ h hnd H locs ls hP hS hg1 hg2 hl)
    · rename_i i k st'
      obtain ⟨rfl, hk, h⟩ := hxx
      have hk9 := am_kind_lt (k := k) (by omega)
      have he := am_get G σ hk9
      rw [am_E12 hk.1] at he
      exact va_lald hx hb hK hP k 1 he rfl hk.2 hd (ih _ _ _ _ h hnd H locs ls hP hS hg1 hg2 hl)
    · rename_i i k st'
      obtain ⟨rfl, hk, h⟩ := hxx
      have hk9 := am_kind_lt (k := k) (by omega)
      have he := am_get G σ hk9
      rw [am_E14 hk.1] at he
      exact va_aldq hx hb hK hP k 3 he rfl hk.2 hd (ih _ _ _ _ h hnd H locs ls hP hS hg1 hg2 hl)
    · rename_i x i k st'
      obtain ⟨rfl, hk, h⟩ := hxx
      have hk9 := am_kind_lt (k := k) (by omega)
      refine va_iast hx hb hK hP hD hS k 0 (by rw [am_get G σ hk9, am_E11 hk.1]) rfl hk.2 hd (fun H1 locs1 hP' hD' hS' => ?_)
      · have e9 := am_ws_set G (σ := σ) (τ := am_upI σ k i.toNatClampNeg x) (by rw [am_E11 hk.1, am_upI_row]) (fun j hj => am_upI_ne σ _ x hj)
        rw [e9] at hP'
        exact ih _ _ _ _ h hnd H1 locs1 ls hP' hS' ((am_upI_ne σ _ x (am_ne0 hk9)).1.trans hg1) ((am_upI_ne σ _ x (am_ne1 hk9)).1.trans hg2) hl
    · rename_i x i k st'
      obtain ⟨rfl, hk, hx01, h⟩ := hxx
      have hk9 := am_kind_lt (k := k) (by omega)
      have hnar : vp_nar .boolean x = x := by rcases hx01 with rfl | rfl <;> rfl
      refine va_zast hx hb hK hP hD hS k 2 (by rw [am_get G σ hk9, am_E13 hk.1]) rfl hk.2 hd (fun H1 locs1 hP' hD' hS' => ?_)
      · rw [hnar] at hP'
        have e9 := am_ws_set G (σ := σ) (τ := am_upI σ k i.toNatClampNeg x) (by rw [am_E13 hk.1, am_upI_row]) (fun j hj => am_upI_ne σ _ x hj)
        rw [e9] at hP'
        exact ih _ _ _ _ h hnd H1 locs1 ls hP' hS' ((am_upI_ne σ _ x (am_ne0 hk9)).1.trans hg1) ((am_upI_ne σ _ x (am_ne1 hk9)).1.trans hg2) hl
    · rename_i x i k st'
      obtain ⟨rfl, hk, h⟩ := hxx
      have hk9 := am_kind_lt (k := k) (by omega)
      refine va_last hx hb hK hP hD hS k 1 (by rw [am_get G σ hk9, am_E12 hk.1]) rfl hk.2 hd (fun H1 locs1 hP' hD' hS' => ?_)
      · have e9 := am_ws_set G (σ := σ) (τ := am_upJ σ k i.toNatClampNeg x) (by rw [am_E12 hk.1, am_upJ_row]) (fun j hj => am_upJ_ne σ _ x hj)
        rw [e9] at hP'
        exact ih _ _ _ _ h hnd H1 locs1 ls hP' hS' ((am_upJ_ne σ _ x (am_ne0 hk9)).1.trans hg1) ((am_upJ_ne σ _ x (am_ne1 hk9)).1.trans hg2) hl
    · rename_i k st'
      obtain ⟨rfl, ⟨h11, h13, h⟩ | ⟨rfl, h⟩⟩ := hxx
      · have hk9 := am_kind_lt (k := k) (by omega)
        rcases (show am_kind k = 11 ∨ am_kind k = 12 ∨ am_kind k = 13 by omega) with z | z | z
        · have he := am_get G σ hk9
          rw [am_E11 z] at he
          exact va_alen hx hb hK hP k 0 he rfl rfl hd (ih _ _ _ _ h hnd H locs ls hP hS hg1 hg2 hl)
        · have he := am_get G σ hk9
          rw [am_E12 z] at he
          exact va_alen hx hb hK hP k 1 he rfl rfl hd (ih _ _ _ _ h hnd H locs ls hP hS hg1 hg2 hl)
        · have he := am_get G σ hk9
          rw [am_E13 z] at he
          exact va_alen hx hb hK hP k 2 he rfl rfl hd (ih _ _ _ _ h hnd H locs ls hP hS hg1 hg2 hl)
      · have hXH : va_X (G.2.2 1000) (σ.1 1001 0).toNatClampNeg (σ.1 1000) s H := by rw [hg1, hg2]; exact hX.kept (hS.2.1 _ hbl hnA)
        have hlen : Int32.ofNat (σ.1 1001 0).toNatClampNeg = σ.1 1001 0 := am_ofNat_clamp (by rw [hg2]; exact h0)
        refine va_slen hx hb hXH (Nat.lt_of_lt_of_le hbl hS.1) hnA hS0 hd ?_
        rw [hlen]
        exact (ih _ _ _ _ h hnd H locs ls hP hS hg1 hg2 hl)
    · rename_i cnd off x st'
      obtain ⟨rfl, t, ht, h1, h2⟩ := hxx
      cases cnd
      · exact lv_if_eq hx hb hd ht (fun hc => ih _ _ _ _ (h1 hc) hnd H locs ls hP hS hg1 hg2 hl) (fun hc => ih _ _ _ _ (h2 hc) hnd H locs ls hP hS hg1 hg2 hl)
      · exact lv_if_ne hx hb hd ht (fun hc => ih _ _ _ _ (h1 hc) hnd H locs ls hP hS hg1 hg2 hl) (fun hc => ih _ _ _ _ (h2 (fun z => z hc)) hnd H locs ls hP hS hg1 hg2 hl)
      · exact lv_if_lt hx hb hd ht (fun hc => ih _ _ _ _ (h1 hc) hnd H locs ls hP hS hg1 hg2 hl) (fun hc => ih _ _ _ _ (h2 hc) hnd H locs ls hP hS hg1 hg2 hl)
      · exact lv_if_ge hx hb hd ht (fun hc => ih _ _ _ _ (h1 hc) hnd H locs ls hP hS hg1 hg2 hl) (fun hc => ih _ _ _ _ (h2 hc) hnd H locs ls hP hS hg1 hg2 hl)
      · exact lv_if_gt hx hb hd ht (fun hc => ih _ _ _ _ (h1 hc) hnd H locs ls hP hS hg1 hg2 hl) (fun hc => ih _ _ _ _ (h2 hc) hnd H locs ls hP hS hg1 hg2 hl)
      · exact lv_if_le hx hb hd ht (fun hc => ih _ _ _ _ (h1 hc) hnd H locs ls hP hS hg1 hg2 hl) (fun hc => ih _ _ _ _ (h2 hc) hnd H locs ls hP hS hg1 hg2 hl)
    · rename_i cnd off y x st'
      obtain ⟨rfl, t, ht, h1, h2⟩ := hxx
      cases cnd
      · exact lv_icmp_eq hx hb hd ht (fun hc => ih _ _ _ _ (h1 hc) hnd H locs ls hP hS hg1 hg2 hl) (fun hc => ih _ _ _ _ (h2 hc) hnd H locs ls hP hS hg1 hg2 hl)
      · exact lv_icmp_ne hx hb hd ht (fun hc => ih _ _ _ _ (h1 hc) hnd H locs ls hP hS hg1 hg2 hl) (fun hc => ih _ _ _ _ (h2 (fun z => z hc)) hnd H locs ls hP hS hg1 hg2 hl)
      · exact lv_icmp_lt hx hb hd ht (fun hc => ih _ _ _ _ (h1 hc) hnd H locs ls hP hS hg1 hg2 hl) (fun hc => ih _ _ _ _ (h2 hc) hnd H locs ls hP hS hg1 hg2 hl)
      · exact lv_icmp_ge hx hb hd ht (fun hc => ih _ _ _ _ (h1 hc) hnd H locs ls hP hS hg1 hg2 hl) (fun hc => ih _ _ _ _ (h2 hc) hnd H locs ls hP hS hg1 hg2 hl)
      · exact lv_icmp_gt hx hb hd ht (fun hc => ih _ _ _ _ (h1 hc) hnd H locs ls hP hS hg1 hg2 hl) (fun hc => ih _ _ _ _ (h2 hc) hnd H locs ls hP hS hg1 hg2 hl)
      · exact lv_icmp_le hx hb hd ht (fun hc => ih _ _ _ _ (h1 hc) hnd H locs ls hP hS hg1 hg2 hl) (fun hc => ih _ _ _ _ (h2 hc) hnd H locs ls hP hS hg1 hg2 hl)
    · obtain ⟨rfl, t, ht, h⟩ := hxx
      exact lv_goto hx hb hd ht (ih _ _ _ _ h hnd H locs ls hP hS hg1 hg2 hl)
    · rename_i dflt lo hi offs x st'
      obtain ⟨t, h, ⟨hc, ht⟩ | ⟨⟨h1, h2⟩, off, ho, ht⟩⟩ := hxx
      · exact lv_tableOut hx hb hd hc ht (ih _ _ _ _ h hnd H locs ls hP hS hg1 hg2 hl)
      · exact lv_tableIn hx hb hd h1 h2 ho ht (ih _ _ _ _ h hnd H locs ls hP hS hg1 hg2 hl)
    · rename_i idx
      obtain ⟨rfl, y, As, k, rest, rfl, hv, hcn, hrest, hC⟩ := hxx
      rw [List.map_append, List.map_reverse, List.map_cons]
      exact am_callV X hM hP hDG hscr hS hl.2.1 hd hv hcn (by rw [am_g_cats]; exact hrest) hC (fun r τ H1 locs1 hq hP1 e1 e2 hnn hS1 => by
        rw [am_g_app]
        exact ih _ _ _ _ hq hnd H1 locs1 ls hP1 hS1 (e1.trans hg1) (e2.trans hg2) hl)
    · rename_i idx
      obtain ⟨rfl, ⟨y, As, rest, rfl, hv, hrest, hC⟩ | ⟨ha, hcp⟩⟩ := hxx
      · rw [List.map_append, List.map_reverse]
        exact am_callS X hM hP hDG hscr hS hl.2.1 hd hv (by rw [am_g_cats]; exact hrest) hC (fun r τ H1 locs1 hq hP1 e1 e2 hnn hS1 => by
        rw [am_g_app]
        exact ih _ _ _ _ hq hnd H1 locs1 ls hP1 hS1 (e1.trans hg1) (e2.trans hg2) hl)
      · unfold am_copy at hcp
        split at hcp
        · rename_i n' dp b sp a rest
          obtain ⟨g1, g2, g3, g4, g5, g6, g7, h⟩ := hcp
          obtain ⟨ha1, ha2, ha3, ha4⟩ := ha
          have hroom : ((rest.map (am_g G)).map fun v => v.category).sum + (nativeFrameWords "java/lang/System" "arraycopy" 5 + 11) ≤ R.locals := by
            rw [am_g_cats]
            have : nativeFrameWords "java/lang/System" "arraycopy" 5 ≤ 20 := by decide +kernel
            omega
          rcases h with ⟨hkind, h⟩ | ⟨hkind, h⟩
          · rcases hkind with hkind | ⟨hkind, hbool⟩
            · have hka := am_kind_lt (k := a) (by omega)
              have hkb := am_kind_lt (k := b) (by omega)
              refine va_copyi hx hb (hml.trans hl.2.1.symm) hown (hts _ ha1) (hts _ ha2) (hts _ ha3) (hts _ ha4) hK hP hD hS a b 0 0 (by rw [am_get G σ hka, am_E11 hkind]) (by rw [am_get G σ hkb, am_E11 (g7 ▸ hkind)]) rfl rfl rfl g1 g2 g3 g4 g5 (fun _ _ => rfl) (by omega) hroom hd (fun H1 locs1 hP' hD' hS' => ?_)
              have e9 := am_ws_set G (σ := σ) (τ := am_cpI σ a b sp.toNatClampNeg dp.toNatClampNeg n'.toNatClampNeg) (by rw [am_E11 (g7 ▸ hkind), am_cpI_row]) (fun j hj => am_cpI_ne σ hj)
              rw [e9] at hP'
              exact ih _ _ _ _ h hnd H1 locs1 ls hP' hS' ((am_cpI_ne σ (am_ne0 hkb)).1.trans hg1) ((am_cpI_ne σ (am_ne1 hkb)).1.trans hg2) hl
            · have hka := am_kind_lt (k := a) (by omega)
              have hkb := am_kind_lt (k := b) (by omega)
              refine va_copyi hx hb (hml.trans hl.2.1.symm) hown (hts _ ha1) (hts _ ha2) (hts _ ha3) (hts _ ha4) hK hP hD hS a b 2 2 (by rw [am_get G σ hka, am_E13 hkind]) (by rw [am_get G σ hkb, am_E13 (g7 ▸ hkind)]) rfl rfl rfl g1 g2 g3 g4 g5 (fun i hi => by rcases hbool i hi with z | z <;> rw [z] <;> rfl) (by omega) hroom hd (fun H1 locs1 hP' hD' hS' => ?_)
              have e9 := am_ws_set G (σ := σ) (τ := am_cpI σ a b sp.toNatClampNeg dp.toNatClampNeg n'.toNatClampNeg) (by rw [am_E13 (g7 ▸ hkind), am_cpI_row]) (fun j hj => am_cpI_ne σ hj)
              rw [e9] at hP'
              exact ih _ _ _ _ h hnd H1 locs1 ls hP' hS' ((am_cpI_ne σ (am_ne0 hkb)).1.trans hg1) ((am_cpI_ne σ (am_ne1 hkb)).1.trans hg2) hl
          · have hka := am_kind_lt (k := a) (by omega)
            have hkb := am_kind_lt (k := b) (by omega)
            refine va_copyl hx hb (hml.trans hl.2.1.symm) hown (hts _ ha1) (hts _ ha2) (hts _ ha3) (hts _ ha4) hK hP hD hS a b 1 1 (by rw [am_get G σ hka, am_E12 hkind]) (by rw [am_get G σ hkb, am_E12 (g7 ▸ hkind)]) rfl rfl rfl g1 g2 g3 g4 g5 (fun _ _ => rfl) (by omega) hroom hd (fun H1 locs1 hP' hD' hS' => ?_)
            have e9 := am_ws_set G (σ := σ) (τ := am_cpJ σ a b sp.toNatClampNeg dp.toNatClampNeg n'.toNatClampNeg) (by rw [am_E12 (g7 ▸ hkind), am_cpJ_row]) (fun j hj => am_cpJ_ne σ hj)
            rw [e9] at hP'
            exact ih _ _ _ _ h hnd H1 locs1 ls hP' hS' ((am_cpJ_ne σ (am_ne0 hkb)).1.trans hg1) ((am_cpJ_ne σ (am_ne1 hkb)).1.trans hg2) hl
        · exact absurd hcp id
    · rename_i x
      obtain ⟨rfl, hret, h⟩ := hxx
      exact hretI x σ H locs ls pc hd hret h hP hS hg1 hg2
    · rename_i k
      obtain ⟨rfl, hret, h⟩ := hxx
      exact hretA k σ H locs ls pc hd hret h hP hS hg1 hg2
    · obtain ⟨rfl, hret, h⟩ := hxx
      exact hretV σ H locs ls pc hd hret h hP hS hg1 hg2
    · exact absurd hxx id
end AMSW
end
section
theorem am_sl_len (G : am_G) : ∀ (As : List Value), (∀ v ∈ As, v ≠ .null ∧ ∀ b, v ≠ .double b) → (lg_sl (As.map (am_g G))).length = (am_sl As).length := by
  intro As
  induction As with
  | nil => intro _; rfl
  | cons v vs ih =>
    intro h
    have h1 := ih (fun w hw => h w (List.mem_cons_of_mem _ hw))
    have h2 := h v List.mem_cons_self
    have e : ∀ w : Value, lg_sl (w :: vs.map (am_g G)) = (if w.category = 2 then [.val w, .second] else [.val w]) ++ lg_sl (vs.map (am_g G)) := fun w => rfl
    rw [List.map_cons, e]
    cases v with
    | long x => simp [am_sl, am_g, Value.category, h1]
    | double b => exact absurd rfl (h2.2 b)
    | null => exact absurd rfl h2.1
    | int x => simp [am_sl, am_g, Value.category, h1]
    | float x => simp [am_sl, am_g, Value.category, h1]
    | ref x => simp [am_sl, am_g, Value.category, h1]
    | retAddr x => simp [am_sl, am_g, Value.category, h1]
theorem am_args_al (G : am_G) (n : Nat) : ∀ (As : List Value) (i : Nat), (∀ v ∈ As, v ≠ .null ∧ ∀ b, v ≠ .double b) → ∀ q ∈ am_al G i (am_sl As ++ List.replicate n .null), q ∈ lv_args i (As.map (am_g G)) := by
  intro As
  induction As with
  | nil =>
    intro i _ q hq
    exfalso
    obtain ⟨j, v, h1, h2, -⟩ := (am_al_mem G _ i q).mp hq
    have h3 := List.mem_of_getElem? h1
    simp [am_sl] at h3
    exact h2 h3.2
  | cons v vs ih =>
    intro i h q hq
    have hvs := fun w hw => h w (List.mem_cons_of_mem v hw)
    have h2 := h v List.mem_cons_self
    have one : ∀ w : Value, w.category = 1 → am_sl (v :: vs) = w :: am_sl vs → w = v → q ∈ lv_args i ((v :: vs).map (am_g G)) := by
      intro w hw e1 e2
      subst e2
      rw [e1, List.cons_append] at hq
      unfold am_al at hq
      rw [if_neg h2.1] at hq
      show q ∈ (i, am_g G w) :: lv_args (if (am_g G w).category = 2 then i + 2 else i + 1) (vs.map (am_g G))
      rw [am_g_cat, hw, if_neg (by decide)]
      rcases List.mem_cons.mp hq with e | hq
      · rw [e]; exact List.mem_cons_self
      · exact List.mem_cons_of_mem _ (ih (i + 1) hvs q hq)
    cases v with
    | long x =>
      have hq' : q ∈ am_al G i (.long x :: .null :: (am_sl vs ++ List.replicate n .null)) := hq
      simp only [am_al, reduceCtorEq, if_false, if_true] at hq'
      show q ∈ (i, am_g G (.long x)) :: lv_args (if (am_g G (.long x)).category = 2 then i + 2 else i + 1) (vs.map (am_g G))
      rw [am_g_cat, show (Value.long x).category = 2 from rfl, if_pos rfl]
      rcases List.mem_cons.mp hq' with e | hq'
      · rw [e]; exact List.mem_cons_self
      · exact List.mem_cons_of_mem _ (ih (i + 2) hvs q hq')
    | double b => exact absurd rfl (h2.2 b)
    | null => exact absurd rfl h2.1
    | int x => exact one _ rfl rfl rfl
    | float x => exact one _ rfl rfl rfl
    | ref x => exact one _ rfl rfl rfl
    | retAddr x => exact one _ rfl rfl rfl
theorem am_sl_nd : ∀ (As : List Value), (∀ v ∈ As, v ≠ .null ∧ ∀ b, v ≠ .double b) → ∀ b, Value.double b ∉ am_sl As := by
  intro As
  induction As with
  | nil => intro _ b h; cases h
  | cons v vs ih =>
    intro h b hb
    have h1 := ih (fun w hw => h w (List.mem_cons_of_mem _ hw)) b
    have h2 := h v List.mem_cons_self
    cases v <;> simp_all [am_sl]
theorem am_L_ent (G : am_G) {As : List Value} {n : Nat} (h : ∀ v ∈ As, v ≠ .null ∧ ∀ b, v ≠ .double b) (hn : (am_sl As).length ≤ n) : am_L G (am_ent As n) ((lg_sl (As.map (am_g G)) ++ List.replicate (n - (lg_sl (As.map (am_g G))).length) Slot.unset).toArray) n := by
  have hl := lv_entry (As.map (am_g G)) (n := n) (by rw [am_sl_len G As h]; exact hn)
  refine ⟨by simp [am_ent]; omega, am_has_sub hl fun q hq => am_args_al G _ As 0 h q hq⟩
theorem am_nd_ent {As : List Value} {n : Nat} (h : ∀ v ∈ As, v ≠ .null ∧ ∀ b, v ≠ .double b) : am_nd (am_ent As n) := by
  intro j b hj
  have h1 := List.mem_of_getElem? hj
  unfold am_ent at h1
  rcases List.mem_append.mp h1 with h2 | h2
  · exact am_sl_nd As h b h2
  · have := List.eq_of_mem_replicate h2
    cases this
set_option maxHeartbeats 4000000 in
/-- WHAT THE SMALL MACHINE SAYS OF A METHOD IS ITS CONTRACT -/
theorem am_sound (l : Launch) (G : am_G) : ∀ d, am_met l G (am_rm d) (am_run d) := by
  intro d
  induction d with
  | zero => intro y As σ Q h; exact absurd h id
  | succ d ihd =>
    intro y As σ Q h
    obtain ⟨cc, maxL, ret, hcode, hplain, hlen, hmx, hAs, hrun⟩ := h
    refine ⟨cc, maxL, ret, hcode, hmx, ?_⟩
    refine Met.ofW (cc := cc) (maxL := maxL) (ret := ret) hplain rfl ?_
    intro p e s m args below meth c s₁ B hml hv
    obtain ⟨rfl, hP, hK, hD, hN, hX, h0, hnA, hbl⟩ := hv
    have hts : ∀ w ∈ am_T, w.before (As.map (am_g G)).toArray s = true := fun w hw => atoms_spec (ws := Cond.code y cc maxL ret :: am_T) B.pre w (List.mem_cons_of_mem _ hw)
    have hown : s.vm.findClass y.cls = some m.cls := findClass_of_methodNamed B.named
    have hr := B.returns
    have hlocks := B.notSynchronized
    have X : am_ctx p (headSpec (Cond.code y cc maxL ret :: am_T) (am_rm (d + 1))).room s m (As.map (am_g G)).toArray c 0 0 maxL cc y.cls G (am_A G) (am_rm d) := by
      refine ⟨B.exec, B.bytes, hml, hown, hts, hN, hK, fun _ h => h, rfl, rfl, Nat.le_refl _, ?_, Nat.zero_le _, Nat.zero_le _⟩
      show 60 + 60 * d ≤ 60 * (d + 1)
      omega
    have hfin : ∀ (r : Option Value) (τ : am_S) (H : Heap) (locs : List Loc), Q r τ → va_P G.1 am_cl (am_ws G τ) H → va_S (am_A G) s.heap H locs → τ.1 1000 = σ.1 1000 → τ.1 1001 = σ.1 1001 → (∀ v, r = some v → v ≠ .null ∧ ∀ b, v ≠ .double b) → ∀ t : State, t.heap = H → s.WarmedH t.vm → am_Qc G σ Q (As.map (am_g G)).toArray s (.returned (r.map (am_g G))) t := by
      intro r τ H locs hq hP1 hS h1 h2 h3 t ht hW
      exact ⟨⟨r, τ, rfl, hq, by rw [ht]; exact hP1, h1, h2, h3⟩, hS.F ht⟩
    rw [lg_entry_eq]
    refine am_sw (X0 := σ.1 1000) (L0 := σ.1 1001) ret Q X ihd hX h0 hnA hbl (am_inj_of hD) ?_ ?_ ?_ 0 (am_ent As maxL) [] σ hrun (am_nd_ent hAs) s.heap [] _ hP va_S.rf rfl rfl (am_L_ent G hAs hlen)
    · intro x τ H locs ls pc hd hret hq hP1 hS h1 h2
      have hq2 := hfin (some (.int x)) τ H locs hq hP1 hS h1 h2 (fun v hv => by cases hv; simp)
      rcases hret with hret | ⟨hret, hx01⟩
      · exact W.iret B.exec B.bytes (hr.trans hret) hq2 hS.2.2 hd hlocks
      · exact W.zret B.exec B.bytes (hr.trans hret) (by rcases hx01 with rfl | rfl <;> rfl) hq2 hS.2.2 hd hlocks
    · intro k τ H locs ls pc hd hret hq hP1 hS h1 h2
      obtain ⟨nm, hret⟩ := hret
      exact W.aret B.exec B.bytes (hr.trans hret) (Or.inl ⟨nm, rfl⟩) (Or.inr ⟨_, rfl⟩) (hfin (some (.ref k)) τ H locs hq hP1 hS h1 h2 (fun v hv => by cases hv; simp)) hS.2.2 hd hlocks
    · intro τ H locs ls pc hd hret hq hP1 hS h1 h2
      exact W.vret B.exec B.bytes (hr.trans hret) (hfin none τ H locs hq hP1 hS h1 h2 (fun v hv => by cases hv)) hS.2.2 hd hlocks
end
section
/-! RULES OF THE SMALL MACHINE -/
def am_mon (C : am_C) : Prop := ∀ (y : MethodName) (As : List Value) (σ : am_S) (Q Q' : am_Q), (∀ r σ, Q r σ → Q' r σ) → C y As σ Q → C y As σ Q'
theorem am_copy_mono {st : List Value} {σ : am_S} {k k' : List Value → am_S → Prop} (hk : ∀ st σ, k st σ → k' st σ) (h : am_copy st σ k) : am_copy st σ k' := by
  unfold am_copy at h ⊢
  split at h
  · obtain ⟨g1, g2, g3, g4, g5, g6, g7, h⟩ := h
    refine ⟨g1, g2, g3, g4, g5, g6, g7, ?_⟩
    rcases h with ⟨a, h⟩ | ⟨a, h⟩
    · exact Or.inl ⟨a, hk _ _ h⟩
    · exact Or.inr ⟨a, hk _ _ h⟩
  · exact absurd h id
theorem am_x_mono {C : am_C} {own : String} {ret : Option FieldType} {i : Instr} {len pc : Nat} {vs st : List Value} {σ : am_S} {K K' : am_K} {Q Q' : am_Q} (hC : am_mon C) (hK : ∀ pc vs st σ, K pc vs st σ → K' pc vs st σ) (hQ : ∀ r σ, Q r σ → Q' r σ) (h : am_x C own ret i len pc vs st σ K Q) : am_x C own ret i len pc vs st σ K' Q' := by
  unfold am_x at h ⊢
  split at h
  all_goals first
    | exact ⟨h.1, hK _ _ _ _ h.2⟩
    | exact ⟨h.1, h.2.1, hK _ _ _ _ h.2.2⟩
    | exact ⟨h.1, h.2.1, h.2.2.1, hK _ _ _ _ h.2.2.2⟩
    | (obtain ⟨a, v, b, h⟩ := h; exact ⟨a, v, b, hK _ _ _ _ h⟩)
    | (obtain ⟨a, b, v, c, h⟩ := h; exact ⟨a, b, v, c, hK _ _ _ _ h⟩)
    | (obtain ⟨a, v, b, c, h⟩ := h; exact ⟨a, v, b, c, hK _ _ _ _ h⟩)
    | (obtain ⟨a, ⟨b, c, h⟩ | ⟨b, h⟩⟩ := h
       · exact ⟨a, Or.inl ⟨b, c, hK _ _ _ _ h⟩⟩
       · exact ⟨a, Or.inr ⟨b, hK _ _ _ _ h⟩⟩)
    | (obtain ⟨a, t, b, h1, h2⟩ := h; exact ⟨a, t, b, fun z => hK _ _ _ _ (h1 z), fun z => hK _ _ _ _ (h2 z)⟩)
    | (obtain ⟨t, h, b⟩ := h; exact ⟨t, hK _ _ _ _ h, b⟩)
    | (obtain ⟨a, y, As, k, rest, b, c, d, e, h⟩ := h; exact ⟨a, y, As, k, rest, b, c, d, e, hC _ _ _ _ _ (fun r σ' z => hK _ _ _ _ z) h⟩)
    | (obtain ⟨a, ⟨y, As, rest, b, c, d, h⟩ | ⟨b, h⟩⟩ := h
       · exact ⟨a, Or.inl ⟨y, As, rest, b, c, d, hC _ _ _ _ _ (fun r σ' z => hK _ _ _ _ z) h⟩⟩
       · exact ⟨a, Or.inr ⟨b, am_copy_mono (fun st σ z => hK _ _ _ _ z) h⟩⟩)
    | exact ⟨h.1, h.2.1, hQ _ _ h.2.2⟩
    | exact absurd h id
theorem am_in {C : am_C} {own : String} {ret : Option FieldType} {cc : ByteArray} {Q : am_Q} {pc : Nat} {vs st : List Value} {σ : am_S} (hC : am_mon C) {i : Instr} {len : Nat} (hd : decode cc pc = .ok (i, len)) (h : am_x C own ret i len pc vs st σ (am_r C own ret cc Q) Q) : am_r C own ret cc Q pc vs st σ :=
  fun P hP => hP _ _ _ _ ⟨i, len, hd, am_x_mono hC (fun _ _ _ _ h => h P hP) (fun _ _ h => h) h⟩
theorem am_r_mono {C : am_C} {own : String} {ret : Option FieldType} {cc : ByteArray} {Q Q' : am_Q} {pc : Nat} {vs st : List Value} {σ : am_S} (hC : am_mon C) (hQ : ∀ r σ, Q r σ → Q' r σ) (h : am_r C own ret cc Q pc vs st σ) : am_r C own ret cc Q' pc vs st σ :=
  h (am_r C own ret cc Q') (fun pc vs st σ ⟨i, len, hd, hx⟩ => am_in hC hd (am_x_mono hC (fun _ _ _ _ z => z) hQ hx))
theorem am_run_mon : ∀ d, am_mon (am_run d) := by
  intro d
  induction d with
  | zero => intro y As σ Q Q' _ h; exact h
  | succ d ih =>
    intro y As σ Q Q' hQ h
    obtain ⟨cc, maxL, ret, h1, h2, h3, h4, h5, h⟩ := h
    exact ⟨cc, maxL, ret, h1, h2, h3, h4, h5, am_r_mono ih hQ h⟩
/-! what a method answers: an int, nothing, the cell c -/
def am_Ri (k : Int32 → am_S → Prop) : am_Q := fun r σ => ∃ x, r = some (.int x) ∧ k x σ
def am_Rv (k : am_S → Prop) : am_Q := fun r σ => r = none ∧ k σ
def am_Rr (c : Nat) (k : am_S → Prop) : am_Q := fun r σ => r = some (.ref c) ∧ k σ
section AMR
variable {d : Nat} {own : String} {ret : Option FieldType} {cc : ByteArray} {Q : am_Q} {pc : Nat} {vs st : List Value} {σ : am_S}
theorem r_iconst {v : Int} (x : Int32) (hd : decode cc pc = .ok (.iconst v, 1)) (hv : Int32.ofInt v = x) (k : am_r (am_run d) own ret cc Q (pc + 1) vs (.int x :: st) σ) : am_r (am_run d) own ret cc Q pc vs st σ := am_in (am_run_mon d) hd ⟨rfl, hv ▸ k⟩
theorem r_bipush {v : Int} (x : Int32) (hd : decode cc pc = .ok (.bipush v, 2)) (hv : (Int8.ofInt v).toInt32 = x) (k : am_r (am_run d) own ret cc Q (pc + 2) vs (.int x :: st) σ) : am_r (am_run d) own ret cc Q pc vs st σ := am_in (am_run_mon d) hd ⟨rfl, hv ▸ k⟩
theorem r_sipush {v : Int} (x : Int32) (hd : decode cc pc = .ok (.sipush v, 3)) (hv : (Int16.ofInt v).toInt32 = x) (k : am_r (am_run d) own ret cc Q (pc + 3) vs (.int x :: st) σ) : am_r (am_run d) own ret cc Q pc vs st σ := am_in (am_run_mon d) hd ⟨rfl, hv ▸ k⟩
theorem r_ldc {idx : Nat} (x : Int32) (hd : decode cc pc = .ok (.ldc idx, 2)) (hv : Cond.constant own idx x ∈ am_T) (k : am_r (am_run d) own ret cc Q (pc + 2) vs (.int x :: st) σ) : am_r (am_run d) own ret cc Q pc vs st σ := am_in (am_run_mon d) hd ⟨rfl, x, hv, k⟩
theorem r_ldc_w {idx : Nat} (x : Int32) (hd : decode cc pc = .ok (.ldc_w idx, 3)) (hv : Cond.constant own idx x ∈ am_T) (k : am_r (am_run d) own ret cc Q (pc + 3) vs (.int x :: st) σ) : am_r (am_run d) own ret cc Q pc vs st σ := am_in (am_run_mon d) hd ⟨rfl, x, hv, k⟩
theorem r_ldc2_w {idx : Nat} (x : Int64) (hd : decode cc pc = .ok (.ldc2_w idx, 3)) (hv : Cond.constantLong own idx x ∈ am_T) (k : am_r (am_run d) own ret cc Q (pc + 3) vs (.long x :: st) σ) : am_r (am_run d) own ret cc Q pc vs st σ := am_in (am_run_mon d) hd ⟨rfl, x, hv, k⟩
theorem r_lconst {n : Fin 2} (x : Int64) (hd : decode cc pc = .ok (.lconst n, 1)) (hv : Int64.ofNat (n : Nat) = x) (k : am_r (am_run d) own ret cc Q (pc + 1) vs (.long x :: st) σ) : am_r (am_run d) own ret cc Q pc vs st σ := am_in (am_run_mon d) hd ⟨rfl, hv ▸ k⟩
theorem r_iload_n {n : Fin 4} {x : Int32} (hd : decode cc pc = .ok (.iload_n n, 1)) (hv : vs[(n : Nat)]? = some (.int x)) (k : am_r (am_run d) own ret cc Q (pc + 1) vs (.int x :: st) σ) : am_r (am_run d) own ret cc Q pc vs st σ := am_in (am_run_mon d) hd ⟨rfl, x, hv, k⟩
theorem r_iload {n : Nat} {x : Int32} (hd : decode cc pc = .ok (.iload n, 2)) (hv : vs[n]? = some (.int x)) (k : am_r (am_run d) own ret cc Q (pc + 2) vs (.int x :: st) σ) : am_r (am_run d) own ret cc Q pc vs st σ := am_in (am_run_mon d) hd ⟨rfl, x, hv, k⟩
theorem r_lload_n {n : Fin 4} {x : Int64} (hd : decode cc pc = .ok (.lload_n n, 1)) (hv : vs[(n : Nat)]? = some (.long x)) (k : am_r (am_run d) own ret cc Q (pc + 1) vs (.long x :: st) σ) : am_r (am_run d) own ret cc Q pc vs st σ := am_in (am_run_mon d) hd ⟨rfl, x, hv, k⟩
theorem r_lload {n : Nat} {x : Int64} (hd : decode cc pc = .ok (.lload n, 2)) (hv : vs[n]? = some (.long x)) (k : am_r (am_run d) own ret cc Q (pc + 2) vs (.long x :: st) σ) : am_r (am_run d) own ret cc Q pc vs st σ := am_in (am_run_mon d) hd ⟨rfl, x, hv, k⟩
theorem r_aload_n {n : Fin 4} {x : Nat} (hd : decode cc pc = .ok (.aload_n n, 1)) (hv : vs[(n : Nat)]? = some (.ref x)) (k : am_r (am_run d) own ret cc Q (pc + 1) vs (.ref x :: st) σ) : am_r (am_run d) own ret cc Q pc vs st σ := am_in (am_run_mon d) hd ⟨rfl, x, hv, k⟩
theorem r_aload {n : Nat} {x : Nat} (hd : decode cc pc = .ok (.aload n, 2)) (hv : vs[n]? = some (.ref x)) (k : am_r (am_run d) own ret cc Q (pc + 2) vs (.ref x :: st) σ) : am_r (am_run d) own ret cc Q pc vs st σ := am_in (am_run_mon d) hd ⟨rfl, x, hv, k⟩
theorem r_istore_n {n : Fin 4} {x : Int32} {vs' : List Value} (hd : decode cc pc = .ok (.istore_n n, 1)) (h1 : am_st1 vs (n : Nat) = true) (h2 : vs.set (n : Nat) (.int x) = vs') (k : am_r (am_run d) own ret cc Q (pc + 1) vs' st σ) : am_r (am_run d) own ret cc Q pc vs (.int x :: st) σ := am_in (am_run_mon d) hd ⟨rfl, h1, h2 ▸ k⟩
theorem r_istore {n : Nat} {x : Int32} {vs' : List Value} (hd : decode cc pc = .ok (.istore n, 2)) (h1 : am_st1 vs n = true) (h2 : vs.set n (.int x) = vs') (k : am_r (am_run d) own ret cc Q (pc + 2) vs' st σ) : am_r (am_run d) own ret cc Q pc vs (.int x :: st) σ := am_in (am_run_mon d) hd ⟨rfl, h1, h2 ▸ k⟩
theorem r_lstore {n : Nat} {x : Int64} {vs' : List Value} (hd : decode cc pc = .ok (.lstore n, 2)) (h1 : am_st2 vs n = true) (h2 : (vs.set n (.long x)).set (n + 1) .null = vs') (k : am_r (am_run d) own ret cc Q (pc + 2) vs' st σ) : am_r (am_run d) own ret cc Q pc vs (.long x :: st) σ := am_in (am_run_mon d) hd ⟨rfl, h1, h2 ▸ k⟩
theorem r_iinc {n : Nat} {v : Int} {x y : Int32} {vs' : List Value} (hd : decode cc pc = .ok (.iinc n v, 3)) (h1 : am_st1 vs n = true) (hx : vs[n]? = some (.int x)) (hy : x + Int32.ofInt v = y) (h2 : vs.set n (.int y) = vs') (k : am_r (am_run d) own ret cc Q (pc + 3) vs' st σ) : am_r (am_run d) own ret cc Q pc vs st σ := by
  subst hy
  subst h2
  exact am_in (am_run_mon d) hd ⟨rfl, h1, x, hx, k⟩
theorem r_iadd {x y : Int32} (hd : decode cc pc = .ok (.iadd, 1)) (k : am_r (am_run d) own ret cc Q (pc + 1) vs (.int (x + y) :: st) σ) : am_r (am_run d) own ret cc Q pc vs (.int y :: .int x :: st) σ := am_in (am_run_mon d) hd ⟨rfl, k⟩
theorem r_isub {x y : Int32} (hd : decode cc pc = .ok (.isub, 1)) (k : am_r (am_run d) own ret cc Q (pc + 1) vs (.int (x - y) :: st) σ) : am_r (am_run d) own ret cc Q pc vs (.int y :: .int x :: st) σ := am_in (am_run_mon d) hd ⟨rfl, k⟩
theorem r_imul {x y : Int32} (hd : decode cc pc = .ok (.imul, 1)) (k : am_r (am_run d) own ret cc Q (pc + 1) vs (.int (x * y) :: st) σ) : am_r (am_run d) own ret cc Q pc vs (.int y :: .int x :: st) σ := am_in (am_run_mon d) hd ⟨rfl, k⟩
theorem r_idiv {x y : Int32} (hd : decode cc pc = .ok (.idiv, 1)) (k : ¬ y = 0 ∧ am_r (am_run d) own ret cc Q (pc + 1) vs (.int (x / y) :: st) σ) : am_r (am_run d) own ret cc Q pc vs (.int y :: .int x :: st) σ := am_in (am_run_mon d) hd ⟨rfl, k⟩
theorem r_irem {x y : Int32} (hd : decode cc pc = .ok (.irem, 1)) (k : ¬ y = 0 ∧ am_r (am_run d) own ret cc Q (pc + 1) vs (.int (x - x / y * y) :: st) σ) : am_r (am_run d) own ret cc Q pc vs (.int y :: .int x :: st) σ := am_in (am_run_mon d) hd ⟨rfl, k⟩
theorem r_iand {x y : Int32} (hd : decode cc pc = .ok (.iand, 1)) (k : am_r (am_run d) own ret cc Q (pc + 1) vs (.int (x &&& y) :: st) σ) : am_r (am_run d) own ret cc Q pc vs (.int y :: .int x :: st) σ := am_in (am_run_mon d) hd ⟨rfl, k⟩
theorem r_ior {x y : Int32} (hd : decode cc pc = .ok (.ior, 1)) (k : am_r (am_run d) own ret cc Q (pc + 1) vs (.int (x ||| y) :: st) σ) : am_r (am_run d) own ret cc Q pc vs (.int y :: .int x :: st) σ := am_in (am_run_mon d) hd ⟨rfl, k⟩
theorem r_ixor {x y : Int32} (hd : decode cc pc = .ok (.ixor, 1)) (k : am_r (am_run d) own ret cc Q (pc + 1) vs (.int (x ^^^ y) :: st) σ) : am_r (am_run d) own ret cc Q pc vs (.int y :: .int x :: st) σ := am_in (am_run_mon d) hd ⟨rfl, k⟩
theorem r_ineg {x : Int32} (hd : decode cc pc = .ok (.ineg, 1)) (k : am_r (am_run d) own ret cc Q (pc + 1) vs (.int (-x) :: st) σ) : am_r (am_run d) own ret cc Q pc vs (.int x :: st) σ := am_in (am_run_mon d) hd ⟨rfl, k⟩
theorem r_ishl {x y : Int32} (hd : decode cc pc = .ok (.ishl, 1)) (k : am_r (am_run d) own ret cc Q (pc + 1) vs (.int (x <<< (y &&& 31)) :: st) σ) : am_r (am_run d) own ret cc Q pc vs (.int y :: .int x :: st) σ := am_in (am_run_mon d) hd ⟨rfl, k⟩
theorem r_ishr {x y : Int32} (hd : decode cc pc = .ok (.ishr, 1)) (k : am_r (am_run d) own ret cc Q (pc + 1) vs (.int (x >>> (y &&& 31)) :: st) σ) : am_r (am_run d) own ret cc Q pc vs (.int y :: .int x :: st) σ := am_in (am_run_mon d) hd ⟨rfl, k⟩
def am_ushr (x y : Int32) : Int32 := (x.toUInt32 >>> (y.toUInt32 &&& Int32.toUInt32 31)).toInt32
def am_lushr (x : Int64) (y : Int32) : Int64 := (x.toUInt64 >>> (y.toInt64.toUInt64 &&& Int64.toUInt64 63)).toInt64
theorem r_iushr {x y : Int32} (hd : decode cc pc = .ok (.iushr, 1)) (k : am_r (am_run d) own ret cc Q (pc + 1) vs (.int (am_ushr x y) :: st) σ) : am_r (am_run d) own ret cc Q pc vs (.int y :: .int x :: st) σ := am_in (am_run_mon d) hd ⟨rfl, k⟩
theorem r_land {x y : Int64} (hd : decode cc pc = .ok (.land, 1)) (k : am_r (am_run d) own ret cc Q (pc + 1) vs (.long (x &&& y) :: st) σ) : am_r (am_run d) own ret cc Q pc vs (.long y :: .long x :: st) σ := am_in (am_run_mon d) hd ⟨rfl, k⟩
theorem r_lor {x y : Int64} (hd : decode cc pc = .ok (.lor, 1)) (k : am_r (am_run d) own ret cc Q (pc + 1) vs (.long (x ||| y) :: st) σ) : am_r (am_run d) own ret cc Q pc vs (.long y :: .long x :: st) σ := am_in (am_run_mon d) hd ⟨rfl, k⟩
theorem r_lxor {x y : Int64} (hd : decode cc pc = .ok (.lxor, 1)) (k : am_r (am_run d) own ret cc Q (pc + 1) vs (.long (x ^^^ y) :: st) σ) : am_r (am_run d) own ret cc Q pc vs (.long y :: .long x :: st) σ := am_in (am_run_mon d) hd ⟨rfl, k⟩
theorem r_lushr {x : Int64} {y : Int32} (hd : decode cc pc = .ok (.lushr, 1)) (k : am_r (am_run d) own ret cc Q (pc + 1) vs (.long (am_lushr x y) :: st) σ) : am_r (am_run d) own ret cc Q pc vs (.int y :: .long x :: st) σ := am_in (am_run_mon d) hd ⟨rfl, k⟩
theorem r_lshl {x : Int64} {y : Int32} (hd : decode cc pc = .ok (.lshl, 1)) (k : am_r (am_run d) own ret cc Q (pc + 1) vs (.long (x <<< (y.toInt64 &&& 63)) :: st) σ) : am_r (am_run d) own ret cc Q pc vs (.int y :: .long x :: st) σ := am_in (am_run_mon d) hd ⟨rfl, k⟩
theorem r_lshr {x : Int64} {y : Int32} (hd : decode cc pc = .ok (.lshr, 1)) (k : am_r (am_run d) own ret cc Q (pc + 1) vs (.long (x >>> (y.toInt64 &&& 63)) :: st) σ) : am_r (am_run d) own ret cc Q pc vs (.int y :: .long x :: st) σ := am_in (am_run_mon d) hd ⟨rfl, k⟩
theorem r_lcmp {x y : Int64} (hd : decode cc pc = .ok (.lcmp, 1)) (k : am_r (am_run d) own ret cc Q (pc + 1) vs (.int (lg_cmp x y) :: st) σ) : am_r (am_run d) own ret cc Q pc vs (.long y :: .long x :: st) σ := am_in (am_run_mon d) hd ⟨rfl, k⟩
theorem r_i2l {x : Int32} (hd : decode cc pc = .ok (.i2l, 1)) (k : am_r (am_run d) own ret cc Q (pc + 1) vs (.long x.toInt64 :: st) σ) : am_r (am_run d) own ret cc Q pc vs (.int x :: st) σ := am_in (am_run_mon d) hd ⟨rfl, k⟩
theorem r_dup {v : Value} (hd : decode cc pc = .ok (.dup, 1)) (hv : v.category = 1) (k : am_r (am_run d) own ret cc Q (pc + 1) vs (v :: v :: st) σ) : am_r (am_run d) own ret cc Q pc vs (v :: st) σ := am_in (am_run_mon d) hd ⟨rfl, hv, k⟩
theorem r_dup2 {v w : Value} (hd : decode cc pc = .ok (.dup2, 1)) (hv : v.category = 1) (hw : w.category = 1) (k : am_r (am_run d) own ret cc Q (pc + 1) vs (v :: w :: v :: w :: st) σ) : am_r (am_run d) own ret cc Q pc vs (v :: w :: st) σ := am_in (am_run_mon d) hd ⟨rfl, hv, hw, k⟩
theorem r_pop {v : Value} (hd : decode cc pc = .ok (.pop, 1)) (hv : v.category = 1) (k : am_r (am_run d) own ret cc Q (pc + 1) vs st σ) : am_r (am_run d) own ret cc Q pc vs (v :: st) σ := am_in (am_run_mon d) hd ⟨rfl, hv, k⟩
theorem r_getI {idx k ci i : Nat} (hd : decode cc pc = .ok (.getfield idx, 3)) (hF : am_isF own idx ci i) (hk : am_kind k = ci) (hfk : (am_fk ci i == 2) = false) (kk : am_r (am_run d) own ret cc Q (pc + 3) vs (.int (σ.1 k i) :: st) σ) : am_r (am_run d) own ret cc Q pc vs (.ref k :: st) σ := by
  subst hk
  refine am_in (am_run_mon d) hd ⟨rfl, i, hF, ?_⟩
  unfold am_av
  rw [if_neg (by simpa using hfk)]
  exact kk
theorem r_getR {idx k ci i j : Nat} (hd : decode cc pc = .ok (.getfield idx, 3)) (hF : am_isF own idx ci i) (hk : am_kind k = ci) (hfk : (am_fk ci i == 2) = true) (hj : am_link k i = j) (kk : am_r (am_run d) own ret cc Q (pc + 3) vs (.ref j :: st) σ) : am_r (am_run d) own ret cc Q pc vs (.ref k :: st) σ := by
  subst hk
  refine am_in (am_run_mon d) hd ⟨rfl, i, hF, ?_⟩
  unfold am_av
  rw [if_pos (by simpa using hfk), hj]
  exact kk
theorem r_putI {idx k ci i : Nat} {x : Int32} (hd : decode cc pc = .ok (.putfield idx, 3)) (hF : am_isF own idx ci i) (hk : am_kind k = ci) (hfk : (am_fk ci i == 0) = true) (kk : am_r (am_run d) own ret cc Q (pc + 3) vs st (am_upI σ k i x)) : am_r (am_run d) own ret cc Q pc vs (.int x :: .ref k :: st) σ := by
  subst hk
  exact am_in (am_run_mon d) hd ⟨rfl, i, hF, Or.inl (by simpa using hfk), kk⟩
theorem r_putZ {idx k ci i : Nat} {x : Int32} (hd : decode cc pc = .ok (.putfield idx, 3)) (hF : am_isF own idx ci i) (hk : am_kind k = ci) (hfk : (am_fk ci i == 1) = true) (kk : (x = 0 ∨ x = 1) ∧ am_r (am_run d) own ret cc Q (pc + 3) vs st (am_upI σ k i x)) : am_r (am_run d) own ret cc Q pc vs (.int x :: .ref k :: st) σ := by
  subst hk
  exact am_in (am_run_mon d) hd ⟨rfl, i, hF, Or.inr ⟨by simpa using hfk, kk.1⟩, kk.2⟩
theorem r_iald {k n : Nat} {i : Int32} (hd : decode cc pc = .ok (.iaload, 1)) (hk : am_cell k = (11, n)) (kk : vp_in i n ∧ am_r (am_run d) own ret cc Q (pc + 1) vs (.int (σ.1 k i.toNatClampNeg) :: st) σ) : am_r (am_run d) own ret cc Q pc vs (.int i :: .ref k :: st) σ := by
  refine am_in (am_run_mon d) hd ⟨rfl, Or.inl ⟨?_, ?_⟩, kk.2⟩
  · show (am_cell k).1 = 11
    rw [hk]
  · show vp_in i (am_cell k).2
    rw [hk]
    exact kk.1
theorem r_scr {i : Int32} (hd : decode cc pc = .ok (.iaload, 1)) (kk : vp_in i (σ.1 1001 0).toNatClampNeg ∧ am_r (am_run d) own ret cc Q (pc + 1) vs (.int (σ.1 1000 i.toNatClampNeg) :: st) σ) : am_r (am_run d) own ret cc Q pc vs (.int i :: .ref 1000 :: st) σ := am_in (am_run_mon d) hd ⟨rfl, Or.inr ⟨rfl, kk.1⟩, kk.2⟩
theorem r_zald {k n : Nat} {i : Int32} (hd : decode cc pc = .ok (.baload, 1)) (hk : am_cell k = (13, n)) (kk : vp_in i n ∧ am_r (am_run d) own ret cc Q (pc + 1) vs (.int (σ.1 k i.toNatClampNeg) :: st) σ) : am_r (am_run d) own ret cc Q pc vs (.int i :: .ref k :: st) σ := by
  refine am_in (am_run_mon d) hd ⟨rfl, ⟨?_, ?_⟩, kk.2⟩
  · show (am_cell k).1 = 13
    rw [hk]
  · show vp_in i (am_cell k).2
    rw [hk]
    exact kk.1
theorem r_lald {k n : Nat} {i : Int32} (hd : decode cc pc = .ok (.laload, 1)) (hk : am_cell k = (12, n)) (kk : vp_in i n ∧ am_r (am_run d) own ret cc Q (pc + 1) vs (.long (σ.2 k i.toNatClampNeg) :: st) σ) : am_r (am_run d) own ret cc Q pc vs (.int i :: .ref k :: st) σ := by
  refine am_in (am_run_mon d) hd ⟨rfl, ⟨?_, ?_⟩, kk.2⟩
  · show (am_cell k).1 = 12
    rw [hk]
  · show vp_in i (am_cell k).2
    rw [hk]
    exact kk.1
theorem r_aald {i : Int32} (hd : decode cc pc = .ok (.aaload, 1)) (kk : vp_in i 30 ∧ am_r (am_run d) own ret cc Q (pc + 1) vs (.ref (33 + 4 * i.toNatClampNeg) :: st) σ) : am_r (am_run d) own ret cc Q pc vs (.int i :: .ref 8 :: st) σ := am_in (am_run_mon d) hd ⟨rfl, ⟨rfl, kk.1⟩, kk.2⟩
theorem r_iast {k n : Nat} {i x : Int32} (hd : decode cc pc = .ok (.iastore, 1)) (hk : am_cell k = (11, n)) (kk : vp_in i n ∧ am_r (am_run d) own ret cc Q (pc + 1) vs st (am_upI σ k i.toNatClampNeg x)) : am_r (am_run d) own ret cc Q pc vs (.int x :: .int i :: .ref k :: st) σ := by
  refine am_in (am_run_mon d) hd ⟨rfl, ⟨?_, ?_⟩, kk.2⟩
  · show (am_cell k).1 = 11
    rw [hk]
  · show vp_in i (am_cell k).2
    rw [hk]
    exact kk.1
theorem r_zast {k n : Nat} {i x : Int32} (hd : decode cc pc = .ok (.bastore, 1)) (hk : am_cell k = (13, n)) (kk : vp_in i n ∧ (x = 0 ∨ x = 1) ∧ am_r (am_run d) own ret cc Q (pc + 1) vs st (am_upI σ k i.toNatClampNeg x)) : am_r (am_run d) own ret cc Q pc vs (.int x :: .int i :: .ref k :: st) σ := by
  refine am_in (am_run_mon d) hd ⟨rfl, ⟨?_, ?_⟩, kk.2⟩
  · show (am_cell k).1 = 13
    rw [hk]
  · show vp_in i (am_cell k).2
    rw [hk]
    exact kk.1
theorem r_last {k n : Nat} {i : Int32} {x : Int64} (hd : decode cc pc = .ok (.lastore, 1)) (hk : am_cell k = (12, n)) (kk : vp_in i n ∧ am_r (am_run d) own ret cc Q (pc + 1) vs st (am_upJ σ k i.toNatClampNeg x)) : am_r (am_run d) own ret cc Q pc vs (.long x :: .int i :: .ref k :: st) σ := by
  refine am_in (am_run_mon d) hd ⟨rfl, ⟨?_, ?_⟩, kk.2⟩
  · show (am_cell k).1 = 12
    rw [hk]
  · show vp_in i (am_cell k).2
    rw [hk]
    exact kk.1
theorem r_alen {k t n : Nat} (hd : decode cc pc = .ok (.arraylength, 1)) (hk : am_cell k = (t, n)) (ht : (Nat.ble 11 t && Nat.ble t 13) = true) (kk : am_r (am_run d) own ret cc Q (pc + 1) vs (.int (nI n) :: st) σ) : am_r (am_run d) own ret cc Q pc vs (.ref k :: st) σ := by
  simp only [Bool.and_eq_true, Nat.ble_eq] at ht
  refine am_in (am_run_mon d) hd ⟨rfl, Or.inl ⟨?_, ?_, ?_⟩⟩
  · show 11 ≤ (am_cell k).1
    rw [hk]
    exact ht.1
  · show (am_cell k).1 ≤ 13
    rw [hk]
    exact ht.2
  · show am_r _ _ _ _ _ _ _ (.int (Int32.ofNat (am_cell k).2) :: st) σ
    rw [hk]
    exact kk
theorem r_slen (hd : decode cc pc = .ok (.arraylength, 1)) (kk : am_r (am_run d) own ret cc Q (pc + 1) vs (.int (σ.1 1001 0) :: st) σ) : am_r (am_run d) own ret cc Q pc vs (.ref 1000 :: st) σ := am_in (am_run_mon d) hd ⟨rfl, Or.inr ⟨rfl, kk⟩⟩
theorem r_if {c : ClassFile.Cond} {off : Int} {x : Int32} (t : Nat) (P : Prop) [Decidable P] (hd : decode cc pc = .ok (.ifCond c off, 3)) (ht : (pc : Int) + off = (t : Int)) (hP : am_cmp c x 0 = P) (kk : if P then am_r (am_run d) own ret cc Q t vs st σ else am_r (am_run d) own ret cc Q (pc + 3) vs st σ) : am_r (am_run d) own ret cc Q pc vs (.int x :: st) σ := by
  subst hP
  refine am_in (am_run_mon d) hd ⟨rfl, t, ht, fun h => ?_, fun h => ?_⟩
  · rwa [if_pos h] at kk
  · rwa [if_neg h] at kk
theorem r_icmp {c : ClassFile.Cond} {off : Int} {x y : Int32} (t : Nat) (P : Prop) [Decidable P] (hd : decode cc pc = .ok (.if_icmp c off, 3)) (ht : (pc : Int) + off = (t : Int)) (hP : am_cmp c x y = P) (kk : if P then am_r (am_run d) own ret cc Q t vs st σ else am_r (am_run d) own ret cc Q (pc + 3) vs st σ) : am_r (am_run d) own ret cc Q pc vs (.int y :: .int x :: st) σ := by
  subst hP
  refine am_in (am_run_mon d) hd ⟨rfl, t, ht, fun h => ?_, fun h => ?_⟩
  · rwa [if_pos h] at kk
  · rwa [if_neg h] at kk
theorem r_goto {off : Int} (t : Nat) (hd : decode cc pc = .ok (.goto off, 3)) (ht : (pc : Int) + off = (t : Int)) (kk : am_r (am_run d) own ret cc Q t vs st σ) : am_r (am_run d) own ret cc Q pc vs st σ := am_in (am_run_mon d) hd ⟨rfl, t, ht, kk⟩
theorem r_tabOut {dflt lo hi : Int} {offs : Array Int} {len : Nat} {x : Int32} (t : Nat) (hd : decode cc pc = .ok (.tableswitch dflt lo hi offs, len)) (h : x.toInt < lo ∨ hi < x.toInt) (ht : (pc : Int) + dflt = (t : Int)) (kk : am_r (am_run d) own ret cc Q t vs st σ) : am_r (am_run d) own ret cc Q pc vs (.int x :: st) σ := am_in (am_run_mon d) hd ⟨t, kk, Or.inl ⟨h, ht⟩⟩
theorem r_tabIn {dflt lo hi : Int} {offs : Array Int} {len : Nat} {x : Int32} (t : Nat) (off : Int) (hd : decode cc pc = .ok (.tableswitch dflt lo hi offs, len)) (h1 : ¬ x.toInt < lo) (h2 : ¬ hi < x.toInt) (ho : offs[(x.toInt - lo).toNat]? = some off) (ht : (pc : Int) + off = (t : Int)) (kk : am_r (am_run d) own ret cc Q t vs st σ) : am_r (am_run d) own ret cc Q pc vs (.int x :: st) σ := am_in (am_run_mon d) hd ⟨t, kk, Or.inr ⟨⟨h1, h2⟩, off, ho, ht⟩⟩
theorem r_virt {idx k n : Nat} {y : MethodName} (As rest : List Value) {Q1 : am_Q} (hd : decode cc pc = .ok (.invokevirtual idx, 3)) (hV : am_isV own idx y n) (hst : st = As.reverse ++ .ref k :: rest) (hn : As.length = n) (hk : am_cn k = y.cls) (hr : Nat.ble (rest.map fun v => v.category).sum 8 = true) (hM : am_run d y (.ref k :: As) σ Q1) (kk : ∀ r τ, Q1 r τ → am_r (am_run d) own ret cc Q (pc + 3) vs (r.toList ++ rest) τ) : am_r (am_run d) own ret cc Q pc vs st σ :=
  am_in (am_run_mon d) hd ⟨rfl, y, As, k, rest, hst, hn ▸ hV, hk, by simpa using hr, am_run_mon d _ _ _ _ _ kk hM⟩
theorem r_stat {idx n : Nat} {y : MethodName} (As rest : List Value) {Q1 : am_Q} (hd : decode cc pc = .ok (.invokestatic idx, 3)) (hV : am_isS own idx y n) (hst : st = As.reverse ++ rest) (hn : As.length = n) (hr : Nat.ble (rest.map fun v => v.category).sum 8 = true) (hM : am_run d y As σ Q1) (kk : ∀ r τ, Q1 r τ → am_r (am_run d) own ret cc Q (pc + 3) vs (r.toList ++ rest) τ) : am_r (am_run d) own ret cc Q pc vs st σ :=
  am_in (am_run_mon d) hd ⟨rfl, Or.inl ⟨y, As, rest, hst, hn ▸ hV, by simpa using hr, am_run_mon d _ _ _ _ _ kk hM⟩⟩
theorem am_ki {k : Int32 → am_S → Prop} {rest : List Value} {R : List Value → am_S → Prop} (h : ∀ x τ, k x τ → R (.int x :: rest) τ) : ∀ r τ, am_Ri k r τ → R (r.toList ++ rest) τ := fun r τ ⟨x, hx, hk⟩ => by subst hx; exact h x τ hk
theorem am_kv {k : am_S → Prop} {rest : List Value} {R : List Value → am_S → Prop} (h : ∀ τ, k τ → R rest τ) : ∀ r τ, am_Rv k r τ → R (r.toList ++ rest) τ := fun r τ ⟨hx, hk⟩ => by subst hx; exact h τ hk
theorem am_kr {c : Nat} {k : am_S → Prop} {rest : List Value} {R : List Value → am_S → Prop} (h : ∀ τ, k τ → R (.ref c :: rest) τ) : ∀ r τ, am_Rr c k r τ → R (r.toList ++ rest) τ := fun r τ ⟨hx, hk⟩ => by subst hx; exact h τ hk
theorem r_cpI {idx a b n0 n1 : Nat} {n dp sp : Int32} {t : Nat} (hd : decode cc pc = .ok (.invokestatic idx, 3)) (hA : am_isA own idx) (ha : am_cell a = (11, n0)) (hb : am_cell b = (11, n1)) (hr : Nat.ble (st.map fun v => v.category).sum 8 = true)
    (kk : (¬ sp < 0 ∧ ¬ dp < 0 ∧ ¬ n < 0 ∧ sp.toNatClampNeg + n.toNatClampNeg ≤ n0 ∧ dp.toNatClampNeg + n.toNatClampNeg ≤ n1) ∧ am_r (am_run d) own ret cc Q (pc + 3) vs st (am_cpI σ a b sp.toNatClampNeg dp.toNatClampNeg n.toNatClampNeg)) : am_r (am_run d) own ret cc Q pc vs (.int n :: .int dp :: .ref b :: .int sp :: .ref a :: st) σ := by
  obtain ⟨⟨h1, h2, h3, h4, h5⟩, kk⟩ := kk
  have e1 : am_kind a = 11 := by unfold am_kind; rw [ha]
  have e2 : am_kind b = 11 := by unfold am_kind; rw [hb]
  have e3 : am_len a = n0 := by unfold am_len; rw [ha]
  have e4 : am_len b = n1 := by unfold am_len; rw [hb]
  exact am_in (am_run_mon d) hd ⟨rfl, Or.inr ⟨hA, h1, h2, h3, by rw [e3]; exact h4, by rw [e4]; exact h5, by simpa using hr, e1.trans e2.symm, Or.inl ⟨Or.inl e1, kk⟩⟩⟩
theorem r_cpZ {idx a b n0 n1 : Nat} {n dp sp : Int32} {t : Nat} (hd : decode cc pc = .ok (.invokestatic idx, 3)) (hA : am_isA own idx) (ha : am_cell a = (13, n0)) (hb : am_cell b = (13, n1)) (hr : Nat.ble (st.map fun v => v.category).sum 8 = true)
    (kk : (¬ sp < 0 ∧ ¬ dp < 0 ∧ ¬ n < 0 ∧ sp.toNatClampNeg + n.toNatClampNeg ≤ n0 ∧ dp.toNatClampNeg + n.toNatClampNeg ≤ n1) ∧ (∀ i, i < n.toNatClampNeg → σ.1 a (sp.toNatClampNeg + i) = 0 ∨ σ.1 a (sp.toNatClampNeg + i) = 1) ∧ am_r (am_run d) own ret cc Q (pc + 3) vs st (am_cpI σ a b sp.toNatClampNeg dp.toNatClampNeg n.toNatClampNeg)) : am_r (am_run d) own ret cc Q pc vs (.int n :: .int dp :: .ref b :: .int sp :: .ref a :: st) σ := by
  obtain ⟨⟨h1, h2, h3, h4, h5⟩, h6, kk⟩ := kk
  have e1 : am_kind a = 13 := by unfold am_kind; rw [ha]
  have e2 : am_kind b = 13 := by unfold am_kind; rw [hb]
  have e3 : am_len a = n0 := by unfold am_len; rw [ha]
  have e4 : am_len b = n1 := by unfold am_len; rw [hb]
  exact am_in (am_run_mon d) hd ⟨rfl, Or.inr ⟨hA, h1, h2, h3, by rw [e3]; exact h4, by rw [e4]; exact h5, by simpa using hr, e1.trans e2.symm, Or.inl ⟨Or.inr ⟨e1, h6⟩, kk⟩⟩⟩
theorem r_cpJ {idx a b n0 n1 : Nat} {n dp sp : Int32} {t : Nat} (hd : decode cc pc = .ok (.invokestatic idx, 3)) (hA : am_isA own idx) (ha : am_cell a = (12, n0)) (hb : am_cell b = (12, n1)) (hr : Nat.ble (st.map fun v => v.category).sum 8 = true)
    (kk : (¬ sp < 0 ∧ ¬ dp < 0 ∧ ¬ n < 0 ∧ sp.toNatClampNeg + n.toNatClampNeg ≤ n0 ∧ dp.toNatClampNeg + n.toNatClampNeg ≤ n1) ∧ am_r (am_run d) own ret cc Q (pc + 3) vs st (am_cpJ σ a b sp.toNatClampNeg dp.toNatClampNeg n.toNatClampNeg)) : am_r (am_run d) own ret cc Q pc vs (.int n :: .int dp :: .ref b :: .int sp :: .ref a :: st) σ := by
  obtain ⟨⟨h1, h2, h3, h4, h5⟩, kk⟩ := kk
  have e1 : am_kind a = 12 := by unfold am_kind; rw [ha]
  have e2 : am_kind b = 12 := by unfold am_kind; rw [hb]
  have e3 : am_len a = n0 := by unfold am_len; rw [ha]
  have e4 : am_len b = n1 := by unfold am_len; rw [hb]
  exact am_in (am_run_mon d) hd ⟨rfl, Or.inr ⟨hA, h1, h2, h3, by rw [e3]; exact h4, by rw [e4]; exact h5, by simpa using hr, e1.trans e2.symm, Or.inr ⟨e1, kk⟩⟩⟩
theorem r_iret {k : Int32 → am_S → Prop} {x : Int32} (hd : decode cc pc = .ok (.ireturn, 1)) (h : k x σ) : am_r (am_run d) own (some .int) cc (am_Ri k) pc vs [.int x] σ := am_in (am_run_mon d) hd ⟨rfl, Or.inl rfl, x, rfl, h⟩
theorem r_zret {k : Int32 → am_S → Prop} {x : Int32} (hd : decode cc pc = .ok (.ireturn, 1)) (h : (x = 0 ∨ x = 1) ∧ k x σ) : am_r (am_run d) own (some .boolean) cc (am_Ri k) pc vs [.int x] σ := am_in (am_run_mon d) hd ⟨rfl, Or.inr ⟨rfl, h.1⟩, x, rfl, h.2⟩
theorem r_vret {k : am_S → Prop} (hd : decode cc pc = .ok (.return_, 1)) (h : k σ) : am_r (am_run d) own none cc (am_Rv k) pc vs [] σ := am_in (am_run_mon d) hd ⟨rfl, rfl, rfl, h⟩
theorem r_aret {c : Nat} {n : String} {k : am_S → Prop} (hd : decode cc pc = .ok (.areturn, 1)) (h : k σ) : am_r (am_run d) own (some (.object n)) cc (am_Rr c k) pc vs [.ref c] σ := am_in (am_run_mon d) hd ⟨rfl, ⟨n, rfl⟩, rfl, h⟩
end AMR
/-- a method begins -/
theorem am_begin {d maxL : Nat} {y : MethodName} {cc : ByteArray} {ret : Option FieldType} {As vs : List Value} {σ : am_S} {Q : am_Q} (hcode : Cond.code y cc maxL ret ∈ am_T) (hpl : plainName y.cls = true) (hmx : Nat.ble maxL 20 = true) (hvs : am_ent As maxL = vs) (hlen : Nat.ble (am_sl As).length maxL = true) (hAs : (As.all fun v => match v with | .int _ => true | .long _ => true | .ref _ => true | _ => false) = true) (h : am_r (am_run d) y.cls ret cc Q 0 vs [] σ) : am_run (d + 1) y As σ Q := by
  subst hvs
  refine ⟨cc, maxL, ret, hcode, hpl, by simpa using hlen, by simpa using hmx, fun v hv => ?_, h⟩
  have h1 := List.all_eq_true.mp hAs v hv
  cases v <;> first | (exfalso; simp at h1; done) | exact ⟨by simp, by simp⟩
end

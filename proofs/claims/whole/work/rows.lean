section
-- ===== PART A: goes FIRST, ahead of the names: the tables' words, and 'selects' of the private methods out of them =====
/-- a private method of a class that the tables say can be made, by its rows of tables_1 -/
def lw_okq (q : MethodName × Nat) : Prop := (q.1.cls ≠ "java/lang/invoke/MethodHandle" ∧ q.1.cls ≠ "java/lang/invoke/VarHandle") ∧ Cond.instantiable q.1.cls q.2 ∈ tables_1 ∧ Cond.privateMethod q.1 ∈ tables_1 ∧ Cond.instanceMethod q.1 ∈ tables_1
theorem lw_p0 : lw_okq (⟨"BridgeNames", "refuseBad", "(I)I"⟩, 12) := ⟨⟨by decide +kernel, by decide +kernel⟩, List.mem_of_getElem? (i := 17) (by decide +kernel), List.mem_of_getElem? (i := 225) (by decide +kernel), List.mem_of_getElem? (i := 226) (by decide +kernel)⟩
theorem lw_p1 : lw_okq (⟨"BridgeNames", "refuseFull", "()I"⟩, 12) := ⟨⟨by decide +kernel, by decide +kernel⟩, List.mem_of_getElem? (i := 17) (by decide +kernel), List.mem_of_getElem? (i := 240) (by decide +kernel), List.mem_of_getElem? (i := 241) (by decide +kernel)⟩
theorem lw_p2 : lw_okq (⟨"BridgeNames", "isBridge", "(I)Z"⟩, 12) := ⟨⟨by decide +kernel, by decide +kernel⟩, List.mem_of_getElem? (i := 17) (by decide +kernel), List.mem_of_getElem? (i := 252) (by decide +kernel), List.mem_of_getElem? (i := 253) (by decide +kernel)⟩
theorem lw_p3 : lw_okq (⟨"BridgeNames$River", "remember", "(II)V"⟩, 11) := ⟨⟨by decide +kernel, by decide +kernel⟩, List.mem_of_getElem? (i := 25) (by decide +kernel), List.mem_of_getElem? (i := 260) (by decide +kernel), List.mem_of_getElem? (i := 261) (by decide +kernel)⟩
theorem lw_p4 : lw_okq (⟨"BridgeNames", "refuseNo", "()I"⟩, 12) := ⟨⟨by decide +kernel, by decide +kernel⟩, List.mem_of_getElem? (i := 17) (by decide +kernel), List.mem_of_getElem? (i := 279) (by decide +kernel), List.mem_of_getElem? (i := 280) (by decide +kernel)⟩
theorem lw_p5 : lw_okq (⟨"BridgeNames$Reader", "step", "()V"⟩, 6) := ⟨⟨by decide +kernel, by decide +kernel⟩, List.mem_of_getElem? (i := 110) (by decide +kernel), List.mem_of_getElem? (i := 325) (by decide +kernel), List.mem_of_getElem? (i := 326) (by decide +kernel)⟩
theorem lw_p6 : lw_okq (⟨"BridgeNames$Reader", "isLetter", "(I)Z"⟩, 6) := ⟨⟨by decide +kernel, by decide +kernel⟩, List.mem_of_getElem? (i := 110) (by decide +kernel), List.mem_of_getElem? (i := 329) (by decide +kernel), List.mem_of_getElem? (i := 330) (by decide +kernel)⟩
theorem lw_p7 : lw_okq (⟨"BridgeNames$Reader", "stepWord", "()V"⟩, 6) := ⟨⟨by decide +kernel, by decide +kernel⟩, List.mem_of_getElem? (i := 110) (by decide +kernel), List.mem_of_getElem? (i := 333) (by decide +kernel), List.mem_of_getElem? (i := 334) (by decide +kernel)⟩
theorem lw_p8 : lw_okq (⟨"BridgeNames$Reader", "isWord", "(Ljava/lang/String;)Z"⟩, 6) := ⟨⟨by decide +kernel, by decide +kernel⟩, List.mem_of_getElem? (i := 110) (by decide +kernel), List.mem_of_getElem? (i := 338) (by decide +kernel), List.mem_of_getElem? (i := 339) (by decide +kernel)⟩
theorem lw_p9 : lw_okq (⟨"BridgeNames$Reader", "isFigure", "(I)Z"⟩, 6) := ⟨⟨by decide +kernel, by decide +kernel⟩, List.mem_of_getElem? (i := 110) (by decide +kernel), List.mem_of_getElem? (i := 392) (by decide +kernel), List.mem_of_getElem? (i := 393) (by decide +kernel)⟩
theorem lw_p10 : lw_okq (⟨"BridgeNames$Reader", "stepNumber", "()V"⟩, 6) := ⟨⟨by decide +kernel, by decide +kernel⟩, List.mem_of_getElem? (i := 110) (by decide +kernel), List.mem_of_getElem? (i := 396) (by decide +kernel), List.mem_of_getElem? (i := 397) (by decide +kernel)⟩
theorem lw_p11 : lw_okq (⟨"BridgeNames$Reader", "readRiver", "(LBridgeNames$River;)Z"⟩, 6) := ⟨⟨by decide +kernel, by decide +kernel⟩, List.mem_of_getElem? (i := 110) (by decide +kernel), List.mem_of_getElem? (i := 400) (by decide +kernel), List.mem_of_getElem? (i := 401) (by decide +kernel)⟩
theorem lw_p12 : lw_okq (⟨"BridgeNames$Reader", "takeNumber", "(II)I"⟩, 6) := ⟨⟨by decide +kernel, by decide +kernel⟩, List.mem_of_getElem? (i := 110) (by decide +kernel), List.mem_of_getElem? (i := 404) (by decide +kernel), List.mem_of_getElem? (i := 405) (by decide +kernel)⟩
theorem lw_p13 : lw_okq (⟨"BridgeNames$Reader", "takeStop", "()Z"⟩, 6) := ⟨⟨by decide +kernel, by decide +kernel⟩, List.mem_of_getElem? (i := 110) (by decide +kernel), List.mem_of_getElem? (i := 409) (by decide +kernel), List.mem_of_getElem? (i := 410) (by decide +kernel)⟩
theorem lw_p14 : lw_okq (⟨"BridgeNames$Reader", "readBridge", "(LBridgeNames$River;)Z"⟩, 6) := ⟨⟨by decide +kernel, by decide +kernel⟩, List.mem_of_getElem? (i := 110) (by decide +kernel), List.mem_of_getElem? (i := 413) (by decide +kernel), List.mem_of_getElem? (i := 414) (by decide +kernel)⟩
theorem lw_p15 : lw_okq (⟨"BridgeNames$Reader", "readRow", "(LBridgeNames$River;)Z"⟩, 6) := ⟨⟨by decide +kernel, by decide +kernel⟩, List.mem_of_getElem? (i := 110) (by decide +kernel), List.mem_of_getElem? (i := 418) (by decide +kernel), List.mem_of_getElem? (i := 419) (by decide +kernel)⟩
def lw_privs_1 : List (MethodName × Nat) := [(⟨"BridgeNames", "refuseBad", "(I)I"⟩, 12), (⟨"BridgeNames", "refuseFull", "()I"⟩, 12), (⟨"BridgeNames", "isBridge", "(I)Z"⟩, 12), (⟨"BridgeNames$River", "remember", "(II)V"⟩, 11), (⟨"BridgeNames", "refuseNo", "()I"⟩, 12), (⟨"BridgeNames$Reader", "step", "()V"⟩, 6), (⟨"BridgeNames$Reader", "isLetter", "(I)Z"⟩, 6), (⟨"BridgeNames$Reader", "stepWord", "()V"⟩, 6), (⟨"BridgeNames$Reader", "isWord", "(Ljava/lang/String;)Z"⟩, 6), (⟨"BridgeNames$Reader", "isFigure", "(I)Z"⟩, 6), (⟨"BridgeNames$Reader", "stepNumber", "()V"⟩, 6), (⟨"BridgeNames$Reader", "readRiver", "(LBridgeNames$River;)Z"⟩, 6), (⟨"BridgeNames$Reader", "takeNumber", "(II)I"⟩, 6), (⟨"BridgeNames$Reader", "takeStop", "()Z"⟩, 6), (⟨"BridgeNames$Reader", "readBridge", "(LBridgeNames$River;)Z"⟩, 6), (⟨"BridgeNames$Reader", "readRow", "(LBridgeNames$River;)Z"⟩, 6)]
theorem lw_r1 : ∀ q ∈ lw_privs_1, lw_okq q := List.forall_mem_cons.mpr ⟨lw_p0, List.forall_mem_cons.mpr ⟨lw_p1, List.forall_mem_cons.mpr ⟨lw_p2, List.forall_mem_cons.mpr ⟨lw_p3, List.forall_mem_cons.mpr ⟨lw_p4, List.forall_mem_cons.mpr ⟨lw_p5, List.forall_mem_cons.mpr ⟨lw_p6, List.forall_mem_cons.mpr ⟨lw_p7, List.forall_mem_cons.mpr ⟨lw_p8, List.forall_mem_cons.mpr ⟨lw_p9, List.forall_mem_cons.mpr ⟨lw_p10, List.forall_mem_cons.mpr ⟨lw_p11, List.forall_mem_cons.mpr ⟨lw_p12, List.forall_mem_cons.mpr ⟨lw_p13, List.forall_mem_cons.mpr ⟨lw_p14, List.forall_mem_cons.mpr ⟨lw_p15, fun _ h => absurd h List.not_mem_nil⟩⟩⟩⟩⟩⟩⟩⟩⟩⟩⟩⟩⟩⟩⟩⟩
theorem lw_p16 : lw_okq (⟨"BridgeNames$Search", "goOn", "(LBridgeNames$River;IJIII)V"⟩, 6) := ⟨⟨by decide +kernel, by decide +kernel⟩, List.mem_of_getElem? (i := 137) (by decide +kernel), List.mem_of_getElem? (i := 523) (by decide +kernel), List.mem_of_getElem? (i := 524) (by decide +kernel)⟩
theorem lw_p17 : lw_okq (⟨"BridgeNames$Search", "arrive", "(II)V"⟩, 6) := ⟨⟨by decide +kernel, by decide +kernel⟩, List.mem_of_getElem? (i := 137) (by decide +kernel), List.mem_of_getElem? (i := 527) (by decide +kernel), List.mem_of_getElem? (i := 528) (by decide +kernel)⟩
theorem lw_p18 : lw_okq (⟨"BridgeNames", "collectFitting", "(I)I"⟩, 12) := ⟨⟨by decide +kernel, by decide +kernel⟩, List.mem_of_getElem? (i := 17) (by decide +kernel), List.mem_of_getElem? (i := 583) (by decide +kernel), List.mem_of_getElem? (i := 584) (by decide +kernel)⟩
theorem lw_p19 : lw_okq (⟨"BridgeNames", "mostAlike", "(JI)I"⟩, 12) := ⟨⟨by decide +kernel, by decide +kernel⟩, List.mem_of_getElem? (i := 17) (by decide +kernel), List.mem_of_getElem? (i := 599) (by decide +kernel), List.mem_of_getElem? (i := 600) (by decide +kernel)⟩
theorem lw_p20 : lw_okq (⟨"BridgeNames$Fraction", "setLowest", "(JJ)V"⟩, 2) := ⟨⟨by decide +kernel, by decide +kernel⟩, List.mem_of_getElem? (i := 166) (by decide +kernel), List.mem_of_getElem? (i := 620) (by decide +kernel), List.mem_of_getElem? (i := 621) (by decide +kernel)⟩
theorem lw_p21 : lw_okq (⟨"BridgeNamesModel", "bad", "(I)I"⟩, 28) := ⟨⟨by decide +kernel, by decide +kernel⟩, List.mem_of_getElem? (i := 692) (by decide +kernel), List.mem_of_getElem? (i := 791) (by decide +kernel), List.mem_of_getElem? (i := 792) (by decide +kernel)⟩
theorem lw_p22 : lw_okq (⟨"BridgeNamesModel", "bridges", "()I"⟩, 28) := ⟨⟨by decide +kernel, by decide +kernel⟩, List.mem_of_getElem? (i := 692) (by decide +kernel), List.mem_of_getElem? (i := 795) (by decide +kernel), List.mem_of_getElem? (i := 796) (by decide +kernel)⟩
theorem lw_p23 : lw_okq (⟨"BridgeNamesModel", "full", "()I"⟩, 28) := ⟨⟨by decide +kernel, by decide +kernel⟩, List.mem_of_getElem? (i := 692) (by decide +kernel), List.mem_of_getElem? (i := 811) (by decide +kernel), List.mem_of_getElem? (i := 812) (by decide +kernel)⟩
theorem lw_p24 : lw_okq (⟨"BridgeNamesModel", "isBridge", "(I)Z"⟩, 28) := ⟨⟨by decide +kernel, by decide +kernel⟩, List.mem_of_getElem? (i := 692) (by decide +kernel), List.mem_of_getElem? (i := 822) (by decide +kernel), List.mem_of_getElem? (i := 823) (by decide +kernel)⟩
theorem lw_p25 : lw_okq (⟨"BridgeNamesModel", "get", "(II)I"⟩, 28) := ⟨⟨by decide +kernel, by decide +kernel⟩, List.mem_of_getElem? (i := 692) (by decide +kernel), List.mem_of_getElem? (i := 826) (by decide +kernel), List.mem_of_getElem? (i := 827) (by decide +kernel)⟩
theorem lw_p26 : lw_okq (⟨"BridgeNamesModel", "keep", "()V"⟩, 28) := ⟨⟨by decide +kernel, by decide +kernel⟩, List.mem_of_getElem? (i := 692) (by decide +kernel), List.mem_of_getElem? (i := 830) (by decide +kernel), List.mem_of_getElem? (i := 831) (by decide +kernel)⟩
theorem lw_p27 : lw_okq (⟨"BridgeNamesModel", "no", "()I"⟩, 28) := ⟨⟨by decide +kernel, by decide +kernel⟩, List.mem_of_getElem? (i := 692) (by decide +kernel), List.mem_of_getElem? (i := 842) (by decide +kernel), List.mem_of_getElem? (i := 843) (by decide +kernel)⟩
theorem lw_p28 : lw_okq (⟨"BridgeNamesModel", "behindBridge", "(IJ)J"⟩, 28) := ⟨⟨by decide +kernel, by decide +kernel⟩, List.mem_of_getElem? (i := 692) (by decide +kernel), List.mem_of_getElem? (i := 883) (by decide +kernel), List.mem_of_getElem? (i := 884) (by decide +kernel)⟩
theorem lw_p29 : lw_okq (⟨"BridgeNamesModel", "layWays", "(III)V"⟩, 28) := ⟨⟨by decide +kernel, by decide +kernel⟩, List.mem_of_getElem? (i := 692) (by decide +kernel), List.mem_of_getElem? (i := 924) (by decide +kernel), List.mem_of_getElem? (i := 925) (by decide +kernel)⟩
theorem lw_p30 : lw_okq (⟨"BridgeNamesModel", "beginWay", "(JI)V"⟩, 28) := ⟨⟨by decide +kernel, by decide +kernel⟩, List.mem_of_getElem? (i := 692) (by decide +kernel), List.mem_of_getElem? (i := 928) (by decide +kernel), List.mem_of_getElem? (i := 929) (by decide +kernel)⟩
theorem lw_p31 : lw_okq (⟨"BridgeNamesModel", "judge", "()V"⟩, 28) := ⟨⟨by decide +kernel, by decide +kernel⟩, List.mem_of_getElem? (i := 692) (by decide +kernel), List.mem_of_getElem? (i := 932) (by decide +kernel), List.mem_of_getElem? (i := 933) (by decide +kernel)⟩
def lw_privs_2 : List (MethodName × Nat) := [(⟨"BridgeNames$Search", "goOn", "(LBridgeNames$River;IJIII)V"⟩, 6), (⟨"BridgeNames$Search", "arrive", "(II)V"⟩, 6), (⟨"BridgeNames", "collectFitting", "(I)I"⟩, 12), (⟨"BridgeNames", "mostAlike", "(JI)I"⟩, 12), (⟨"BridgeNames$Fraction", "setLowest", "(JJ)V"⟩, 2), (⟨"BridgeNamesModel", "bad", "(I)I"⟩, 28), (⟨"BridgeNamesModel", "bridges", "()I"⟩, 28), (⟨"BridgeNamesModel", "full", "()I"⟩, 28), (⟨"BridgeNamesModel", "isBridge", "(I)Z"⟩, 28), (⟨"BridgeNamesModel", "get", "(II)I"⟩, 28), (⟨"BridgeNamesModel", "keep", "()V"⟩, 28), (⟨"BridgeNamesModel", "no", "()I"⟩, 28), (⟨"BridgeNamesModel", "behindBridge", "(IJ)J"⟩, 28), (⟨"BridgeNamesModel", "layWays", "(III)V"⟩, 28), (⟨"BridgeNamesModel", "beginWay", "(JI)V"⟩, 28), (⟨"BridgeNamesModel", "judge", "()V"⟩, 28)]
theorem lw_r2 : ∀ q ∈ lw_privs_2, lw_okq q := List.forall_mem_cons.mpr ⟨lw_p16, List.forall_mem_cons.mpr ⟨lw_p17, List.forall_mem_cons.mpr ⟨lw_p18, List.forall_mem_cons.mpr ⟨lw_p19, List.forall_mem_cons.mpr ⟨lw_p20, List.forall_mem_cons.mpr ⟨lw_p21, List.forall_mem_cons.mpr ⟨lw_p22, List.forall_mem_cons.mpr ⟨lw_p23, List.forall_mem_cons.mpr ⟨lw_p24, List.forall_mem_cons.mpr ⟨lw_p25, List.forall_mem_cons.mpr ⟨lw_p26, List.forall_mem_cons.mpr ⟨lw_p27, List.forall_mem_cons.mpr ⟨lw_p28, List.forall_mem_cons.mpr ⟨lw_p29, List.forall_mem_cons.mpr ⟨lw_p30, List.forall_mem_cons.mpr ⟨lw_p31, fun _ h => absurd h List.not_mem_nil⟩⟩⟩⟩⟩⟩⟩⟩⟩⟩⟩⟩⟩⟩⟩⟩
theorem lw_p32 : lw_okq (⟨"BridgeNamesModel", "goOn", "()Z"⟩, 28) := ⟨⟨by decide +kernel, by decide +kernel⟩, List.mem_of_getElem? (i := 692) (by decide +kernel), List.mem_of_getElem? (i := 936) (by decide +kernel), List.mem_of_getElem? (i := 937) (by decide +kernel)⟩
theorem lw_p33 : lw_okq (⟨"BridgeNamesModel", "isGone", "(I)Z"⟩, 28) := ⟨⟨by decide +kernel, by decide +kernel⟩, List.mem_of_getElem? (i := 692) (by decide +kernel), List.mem_of_getElem? (i := 940) (by decide +kernel), List.mem_of_getElem? (i := 941) (by decide +kernel)⟩
theorem lw_p34 : lw_okq (⟨"BridgeNamesModel", "doesFit", "(II)Z"⟩, 28) := ⟨⟨by decide +kernel, by decide +kernel⟩, List.mem_of_getElem? (i := 692) (by decide +kernel), List.mem_of_getElem? (i := 974) (by decide +kernel), List.mem_of_getElem? (i := 975) (by decide +kernel)⟩
theorem lw_p35 : lw_okq (⟨"BridgeNamesModel", "mostAlike", "(I)I"⟩, 28) := ⟨⟨by decide +kernel, by decide +kernel⟩, List.mem_of_getElem? (i := 692) (by decide +kernel), List.mem_of_getElem? (i := 983) (by decide +kernel), List.mem_of_getElem? (i := 984) (by decide +kernel)⟩
theorem lw_p36 : lw_okq (⟨"BridgeNamesModel", "fraction", "(JJ)V"⟩, 28) := ⟨⟨by decide +kernel, by decide +kernel⟩, List.mem_of_getElem? (i := 692) (by decide +kernel), List.mem_of_getElem? (i := 997) (by decide +kernel), List.mem_of_getElem? (i := 998) (by decide +kernel)⟩
theorem lw_p37 : lw_okq (⟨"BridgeNamesModel", "boatsBy", "(IIIII)I"⟩, 28) := ⟨⟨by decide +kernel, by decide +kernel⟩, List.mem_of_getElem? (i := 692) (by decide +kernel), List.mem_of_getElem? (i := 1010) (by decide +kernel), List.mem_of_getElem? (i := 1011) (by decide +kernel)⟩
theorem lw_p38 : lw_okq (⟨"BridgeNamesModel", "lookAt", "(I)V"⟩, 28) := ⟨⟨by decide +kernel, by decide +kernel⟩, List.mem_of_getElem? (i := 692) (by decide +kernel), List.mem_of_getElem? (i := 1039) (by decide +kernel), List.mem_of_getElem? (i := 1040) (by decide +kernel)⟩
theorem lw_p39 : lw_okq (⟨"BridgeNamesModel", "takesFirst", "()Z"⟩, 28) := ⟨⟨by decide +kernel, by decide +kernel⟩, List.mem_of_getElem? (i := 692) (by decide +kernel), List.mem_of_getElem? (i := 1053) (by decide +kernel), List.mem_of_getElem? (i := 1054) (by decide +kernel)⟩
theorem lw_p40 : lw_okq (⟨"BridgeNamesModel", "isWord", "(IIIIIII)Z"⟩, 28) := ⟨⟨by decide +kernel, by decide +kernel⟩, List.mem_of_getElem? (i := 692) (by decide +kernel), List.mem_of_getElem? (i := 1057) (by decide +kernel), List.mem_of_getElem? (i := 1058) (by decide +kernel)⟩
theorem lw_p41 : lw_okq (⟨"BridgeNamesModel", "goBehind", "()V"⟩, 28) := ⟨⟨by decide +kernel, by decide +kernel⟩, List.mem_of_getElem? (i := 692) (by decide +kernel), List.mem_of_getElem? (i := 1061) (by decide +kernel), List.mem_of_getElem? (i := 1062) (by decide +kernel)⟩
theorem lw_p42 : lw_okq (⟨"BridgeNamesModel", "takes", "(III)Z"⟩, 28) := ⟨⟨by decide +kernel, by decide +kernel⟩, List.mem_of_getElem? (i := 692) (by decide +kernel), List.mem_of_getElem? (i := 1065) (by decide +kernel), List.mem_of_getElem? (i := 1066) (by decide +kernel)⟩
theorem lw_p43 : lw_okq (⟨"BridgeNamesModel", "takesItem", "()Z"⟩, 28) := ⟨⟨by decide +kernel, by decide +kernel⟩, List.mem_of_getElem? (i := 692) (by decide +kernel), List.mem_of_getElem? (i := 1069) (by decide +kernel), List.mem_of_getElem? (i := 1070) (by decide +kernel)⟩
theorem lw_p44 : lw_okq (⟨"BridgeNamesModel", "takesBridge", "()Z"⟩, 28) := ⟨⟨by decide +kernel, by decide +kernel⟩, List.mem_of_getElem? (i := 692) (by decide +kernel), List.mem_of_getElem? (i := 1073) (by decide +kernel), List.mem_of_getElem? (i := 1074) (by decide +kernel)⟩
theorem lw_p45 : lw_okq (⟨"BridgeNamesModel", "takesRow", "()Z"⟩, 28) := ⟨⟨by decide +kernel, by decide +kernel⟩, List.mem_of_getElem? (i := 692) (by decide +kernel), List.mem_of_getElem? (i := 1077) (by decide +kernel), List.mem_of_getElem? (i := 1078) (by decide +kernel)⟩
theorem lw_p46 : lw_okq (⟨"BridgeNamesModel", "counted", "(I)I"⟩, 28) := ⟨⟨by decide +kernel, by decide +kernel⟩, List.mem_of_getElem? (i := 692) (by decide +kernel), List.mem_of_getElem? (i := 1103) (by decide +kernel), List.mem_of_getElem? (i := 1104) (by decide +kernel)⟩
def lw_privs_3 : List (MethodName × Nat) := [(⟨"BridgeNamesModel", "goOn", "()Z"⟩, 28), (⟨"BridgeNamesModel", "isGone", "(I)Z"⟩, 28), (⟨"BridgeNamesModel", "doesFit", "(II)Z"⟩, 28), (⟨"BridgeNamesModel", "mostAlike", "(I)I"⟩, 28), (⟨"BridgeNamesModel", "fraction", "(JJ)V"⟩, 28), (⟨"BridgeNamesModel", "boatsBy", "(IIIII)I"⟩, 28), (⟨"BridgeNamesModel", "lookAt", "(I)V"⟩, 28), (⟨"BridgeNamesModel", "takesFirst", "()Z"⟩, 28), (⟨"BridgeNamesModel", "isWord", "(IIIIIII)Z"⟩, 28), (⟨"BridgeNamesModel", "goBehind", "()V"⟩, 28), (⟨"BridgeNamesModel", "takes", "(III)Z"⟩, 28), (⟨"BridgeNamesModel", "takesItem", "()Z"⟩, 28), (⟨"BridgeNamesModel", "takesBridge", "()Z"⟩, 28), (⟨"BridgeNamesModel", "takesRow", "()Z"⟩, 28), (⟨"BridgeNamesModel", "counted", "(I)I"⟩, 28)]
theorem lw_r3 : ∀ q ∈ lw_privs_3, lw_okq q := List.forall_mem_cons.mpr ⟨lw_p32, List.forall_mem_cons.mpr ⟨lw_p33, List.forall_mem_cons.mpr ⟨lw_p34, List.forall_mem_cons.mpr ⟨lw_p35, List.forall_mem_cons.mpr ⟨lw_p36, List.forall_mem_cons.mpr ⟨lw_p37, List.forall_mem_cons.mpr ⟨lw_p38, List.forall_mem_cons.mpr ⟨lw_p39, List.forall_mem_cons.mpr ⟨lw_p40, List.forall_mem_cons.mpr ⟨lw_p41, List.forall_mem_cons.mpr ⟨lw_p42, List.forall_mem_cons.mpr ⟨lw_p43, List.forall_mem_cons.mpr ⟨lw_p44, List.forall_mem_cons.mpr ⟨lw_p45, List.forall_mem_cons.mpr ⟨lw_p46, fun _ h => absurd h List.not_mem_nil⟩⟩⟩⟩⟩⟩⟩⟩⟩⟩⟩⟩⟩⟩⟩
def lw_privs : List (MethodName × Nat) := lw_privs_1 ++ (lw_privs_2 ++ (lw_privs_3))
def lw_tbl : List Cond := k2_sels lw_privs ++ tables_1
theorem lw_privs_ok : ∀ q ∈ lw_privs, lw_okq q := by
  show ∀ q ∈ lw_privs_1 ++ (lw_privs_2 ++ (lw_privs_3)), lw_okq q
  exact List.forall_mem_append.mpr ⟨lw_r1, List.forall_mem_append.mpr ⟨lw_r2, lw_r3⟩⟩
end
section
/-! ===== BEGIN words of one list among another's, by their places ===== -/
theorem goodIn_r {big : List Cond} (ws : List Cond) (ps : List Nat) (hp : ws = ps.filterMap (fun i => big[i]?)) (h : ws.all goodWord = true) : GoodIn big ws := by
  intro w hw
  have h1 := List.all_eq_true.mp h w hw
  rw [hp] at hw
  obtain ⟨i, -, hi⟩ := List.mem_filterMap.mp hw
  have hm : w ∈ big := by first | exact List.mem_of_getElem? hi | exact List.getElem?_mem hi
  exact ⟨hm, good_of_word h1⟩
theorem goodIn_app {big a b : List Cond} (ha : GoodIn big a) (hb : GoodIn big b) : GoodIn big (a ++ b) := fun w h => (List.mem_append.mp h).elim (ha w) (hb w)
theorem goodIn_ca {big a b : List Cond} {c : Cond} (ha : GoodIn big (c :: a)) (hb : GoodIn big b) : GoodIn big (c :: (a ++ b)) := fun w h => (List.mem_cons.mp h).elim (fun e => ha w (List.mem_cons.mpr (Or.inl e))) (fun h => (List.mem_append.mp h).elim (fun h => ha w (List.mem_cons.mpr (Or.inr h))) (hb w))
theorem goodIn_sub {big ws : List Cond} (hm : ∀ w ∈ ws, w ∈ big) (h : ws.all goodWord = true) : GoodIn big ws := fun w hw => ⟨hm w hw, good_of_word (List.all_eq_true.mp h w hw)⟩
/-! ===== END ===== -/

/-! ===== BEGIN printed: names, fields, word lists, decode rows ===== -/
def RX0 : String := "BridgeNames$Fraction"
def TX0 : u_T := fun k => match k with
  | 0 => ("BridgeNames$Fraction", "above", "J", false)
  | _ => ("BridgeNames$Fraction", "below", "J", false)
def tyX0 : Nat → FieldType := fun k => match k with
  | 0 => .long
  | _ => .long
abbrev wsX00 : List Cond := u_ws RX0 TX0 2
theorem nmX0 : ∀ a, a < 2 → ∀ b, b < 2 → a ≠ b → (TX0 a).2.1 ≠ (TX0 b).2.1 := by decide +kernel
theorem tyX0_ok : ∀ k, k < 2 → parseFieldDescriptor (TX0 k).2.2.1 = some (tyX0 k) := by decide +kernel
abbrev cX0_init : ByteArray := prog_2_method_1_code
def yX0_init : MethodName := ⟨RX0, "<init>", "()V"⟩
abbrev cX0_setChance : ByteArray := prog_2_method_2_code
def yX0_setChance : MethodName := ⟨RX0, "setChance", "(IIII)V"⟩
abbrev cX0_setLowest : ByteArray := prog_2_method_3_code
def yX0_setLowest : MethodName := ⟨RX0, "setLowest", "(JJ)V"⟩
abbrev cX0_commonPart : ByteArray := prog_2_method_4_code
def yX0_commonPart : MethodName := ⟨RX0, "commonPart", "(JJ)J"⟩
abbrev cX0_power : ByteArray := prog_2_method_5_code
def yX0_power : MethodName := ⟨RX0, "power", "(II)J"⟩
abbrev cX0_chosen : ByteArray := prog_2_method_6_code
def yX0_chosen : MethodName := ⟨RX0, "chosen", "(II)J"⟩
def RX1 : String := "BridgeNames$Name"
def TX1 : u_T := fun k => match k with
  | _ => ("", "", "", false)
def tyX1 : Nat → FieldType := fun k => match k with
  | _ => .int
abbrev wsX10 : List Cond := u_ws RX1 TX1 0
theorem nmX1 : ∀ a, a < 0 → ∀ b, b < 0 → a ≠ b → (TX1 a).2.1 ≠ (TX1 b).2.1 := by decide +kernel
theorem tyX1_ok : ∀ k, k < 0 → parseFieldDescriptor (TX1 k).2.2.1 = some (tyX1 k) := by decide +kernel
abbrev cX1_length : ByteArray := prog_3_method_2_code
def yX1_length : MethodName := ⟨RX1, "length", "(J)I"⟩
abbrev cX1_syllable : ByteArray := prog_3_method_3_code
def yX1_syllable : MethodName := ⟨RX1, "syllable", "(JI)I"⟩
abbrev cX1_longer : ByteArray := prog_3_method_4_code
def yX1_longer : MethodName := ⟨RX1, "longer", "(JI)J"⟩
abbrev cX1_cut : ByteArray := prog_3_method_5_code
def yX1_cut : MethodName := ⟨RX1, "cut", "(JI)J"⟩
abbrev cX1_led : ByteArray := prog_3_method_6_code
def yX1_led : MethodName := ⟨RX1, "led", "(JI)J"⟩
abbrev cX1_turned : ByteArray := prog_3_method_7_code
def yX1_turned : MethodName := ⟨RX1, "turned", "(J)J"⟩
abbrev cX1_raised : ByteArray := prog_3_method_8_code
def yX1_raised : MethodName := ⟨RX1, "raised", "(JI)J"⟩
abbrev cX1_sounds : ByteArray := prog_3_method_9_code
def yX1_sounds : MethodName := ⟨RX1, "sounds", "(J)I"⟩
abbrev cX1_holds : ByteArray := prog_3_method_10_code
def yX1_holds : MethodName := ⟨RX1, "holds", "(JJ)Z"⟩
abbrev cX1_ofCode : ByteArray := prog_3_method_11_code
def yX1_ofCode : MethodName := ⟨RX1, "ofCode", "(I)J"⟩
abbrev cX1_isCode : ByteArray := prog_3_method_12_code
def yX1_isCode : MethodName := ⟨RX1, "isCode", "(I)Z"⟩
abbrev cX1_isAt : ByteArray := prog_3_method_13_code
def yX1_isAt : MethodName := ⟨RX1, "isAt", "(JIJ)Z"⟩
def RX2 : String := "BridgeNames$Notes"
def TX2 : u_T := fun k => match k with
  | 0 => ("BridgeNames$Notes", "bridgeOf", "[I", true)
  | 1 => ("BridgeNames$Notes", "monthOf", "[I", true)
  | 2 => ("BridgeNames$Notes", "ahead", "[J", true)
  | 3 => ("BridgeNames$Notes", "behind", "[J", true)
  | _ => ("BridgeNames$Notes", "size", "I", false)
def tyX2 : Nat → FieldType := fun k => match k with
  | 0 => .array .int
  | 1 => .array .int
  | 2 => .array .long
  | 3 => .array .long
  | _ => .int
abbrev wsX20 : List Cond := u_ws RX2 TX2 5
theorem nmX2 : ∀ a, a < 5 → ∀ b, b < 5 → a ≠ b → (TX2 a).2.1 ≠ (TX2 b).2.1 := by decide +kernel
theorem tyX2_ok : ∀ k, k < 5 → parseFieldDescriptor (TX2 k).2.2.1 = some (tyX2 k) := by decide +kernel
abbrev cX2_init : ByteArray := prog_4_method_1_code
def yX2_init : MethodName := ⟨RX2, "<init>", "()V"⟩
abbrev cX2_put : ByteArray := prog_4_method_2_code
def yX2_put : MethodName := ⟨RX2, "put", "(IIJJ)V"⟩
abbrev cX2_copyOf : ByteArray := prog_4_method_3_code
def yX2_copyOf : MethodName := ⟨RX2, "copyOf", "(LBridgeNames$Notes;)V"⟩
abbrev cX2_agreeWith : ByteArray := prog_4_method_4_code
def yX2_agreeWith : MethodName := ⟨RX2, "agreeWith", "(II)Z"⟩
def RX3 : String := "BridgeNames$Reader"
def TX3 : u_T := fun k => match k with
  | 0 => ("BridgeNames$Reader", "length", "I", false)
  | 1 => ("BridgeNames$Reader", "bytes", "[I", true)
  | 2 => ("BridgeNames$Reader", "token", "I", false)
  | 3 => ("BridgeNames$Reader", "tokenStart", "I", false)
  | 4 => ("BridgeNames$Reader", "tokenEnd", "I", false)
  | _ => ("BridgeNames$Reader", "value", "I", false)
def tyX3 : Nat → FieldType := fun k => match k with
  | 0 => .int
  | 1 => .array .int
  | 2 => .int
  | 3 => .int
  | 4 => .int
  | _ => .int
abbrev wsX30 : List Cond := u_ws RX3 TX3 6
theorem nmX3 : ∀ a, a < 6 → ∀ b, b < 6 → a ≠ b → (TX3 a).2.1 ≠ (TX3 b).2.1 := by decide +kernel
theorem tyX3_ok : ∀ k, k < 6 → parseFieldDescriptor (TX3 k).2.2.1 = some (tyX3 k) := by decide +kernel
abbrev cX3_init : ByteArray := prog_5_method_1_code
def yX3_init : MethodName := ⟨RX3, "<init>", "()V"⟩
abbrev cX3_put : ByteArray := prog_5_method_2_code
def yX3_put : MethodName := ⟨RX3, "put", "(I)V"⟩
abbrev cX3_readInto : ByteArray := prog_5_method_3_code
def yX3_readInto : MethodName := ⟨RX3, "readInto", "(LBridgeNames$River;)I"⟩
abbrev cX3_faultPlace : ByteArray := prog_5_method_4_code
def yX3_faultPlace : MethodName := ⟨RX3, "faultPlace", "()I"⟩
abbrev cX3_readRiver : ByteArray := prog_5_method_5_code
def yX3_readRiver : MethodName := ⟨RX3, "readRiver", "(LBridgeNames$River;)Z"⟩
abbrev cX3_readBridge : ByteArray := prog_5_method_6_code
def yX3_readBridge : MethodName := ⟨RX3, "readBridge", "(LBridgeNames$River;)Z"⟩
abbrev cX3_readRow : ByteArray := prog_5_method_7_code
def yX3_readRow : MethodName := ⟨RX3, "readRow", "(LBridgeNames$River;)Z"⟩
abbrev cX3_takeNumber : ByteArray := prog_5_method_8_code
def yX3_takeNumber : MethodName := ⟨RX3, "takeNumber", "(II)I"⟩
abbrev cX3_takeStop : ByteArray := prog_5_method_9_code
def yX3_takeStop : MethodName := ⟨RX3, "takeStop", "()Z"⟩
abbrev cX3_step : ByteArray := prog_5_method_10_code
def yX3_step : MethodName := ⟨RX3, "step", "()V"⟩
abbrev cX3_stepWord : ByteArray := prog_5_method_11_code
def yX3_stepWord : MethodName := ⟨RX3, "stepWord", "()V"⟩
abbrev cX3_stepNumber : ByteArray := prog_5_method_12_code
def yX3_stepNumber : MethodName := ⟨RX3, "stepNumber", "()V"⟩
abbrev cX3_isWord : ByteArray := prog_5_method_13_code
def yX3_isWord : MethodName := ⟨RX3, "isWord", "(Ljava/lang/String;)Z"⟩
abbrev cX3_isLetter : ByteArray := prog_5_method_14_code
def yX3_isLetter : MethodName := ⟨RX3, "isLetter", "(I)Z"⟩
abbrev cX3_isFigure : ByteArray := prog_5_method_15_code
def yX3_isFigure : MethodName := ⟨RX3, "isFigure", "(I)Z"⟩
def RX4 : String := "BridgeNames$River"
def TX4 : u_T := fun k => match k with
  | 0 => ("BridgeNames$River", "froms", "[I", true)
  | 1 => ("BridgeNames$River", "tos", "[I", true)
  | 2 => ("BridgeNames$River", "kinds", "[I", true)
  | 3 => ("BridgeNames$River", "numbers", "[I", true)
  | 4 => ("BridgeNames$River", "rows", "[J", true)
  | 5 => ("BridgeNames$River", "notes", "LBridgeNames$Notes;", true)
  | 6 => ("BridgeNames$River", "bridges", "I", false)
  | 7 => ("BridgeNames$River", "monthNow", "I", false)
  | 8 => ("BridgeNames$River", "undoable", "I", false)
  | 9 => ("BridgeNames$River", "undoneBridges", "[I", true)
  | _ => ("BridgeNames$River", "undoneWere", "[I", true)
def tyX4 : Nat → FieldType := fun k => match k with
  | 0 => .array .int
  | 1 => .array .int
  | 2 => .array .int
  | 3 => .array .int
  | 4 => .array .long
  | 5 => .object "BridgeNames$Notes"
  | 6 => .int
  | 7 => .int
  | 8 => .int
  | 9 => .array .int
  | _ => .array .int
abbrev wsX40 : List Cond := u_ws RX4 TX4 11
theorem nmX4 : ∀ a, a < 11 → ∀ b, b < 11 → a ≠ b → (TX4 a).2.1 ≠ (TX4 b).2.1 := by decide +kernel
theorem tyX4_ok : ∀ k, k < 11 → parseFieldDescriptor (TX4 k).2.2.1 = some (tyX4 k) := by decide +kernel
abbrev cX4_init : ByteArray := prog_6_method_1_code
def yX4_init : MethodName := ⟨RX4, "<init>", "()V"⟩
abbrev cX4_restart : ByteArray := prog_6_method_2_code
def yX4_restart : MethodName := ⟨RX4, "restart", "(I)V"⟩
abbrev cX4_copyOf : ByteArray := prog_6_method_3_code
def yX4_copyOf : MethodName := ⟨RX4, "copyOf", "(LBridgeNames$River;)V"⟩
abbrev cX4_build : ByteArray := prog_6_method_4_code
def yX4_build : MethodName := ⟨RX4, "build", "(IIII)I"⟩
abbrev cX4_retell : ByteArray := prog_6_method_5_code
def yX4_retell : MethodName := ⟨RX4, "retell", "(III)I"⟩
abbrev cX4_letPass : ByteArray := prog_6_method_6_code
def yX4_letPass : MethodName := ⟨RX4, "letPass", "(I)V"⟩
abbrev cX4_takeBack : ByteArray := prog_6_method_7_code
def yX4_takeBack : MethodName := ⟨RX4, "takeBack", "()V"⟩
abbrev cX4_remember : ByteArray := prog_6_method_8_code
def yX4_remember : MethodName := ⟨RX4, "remember", "(II)V"⟩
abbrev cX4_behind : ByteArray := prog_6_method_9_code
def yX4_behind : MethodName := ⟨RX4, "behind", "(IJ)J"⟩
abbrev cX4_allSounds : ByteArray := prog_6_method_10_code
def yX4_allSounds : MethodName := ⟨RX4, "allSounds", "(JII)I"⟩
def RX5 : String := "BridgeNames$Rules"
def TX5 : u_T := fun k => match k with
  | _ => ("", "", "", false)
def tyX5 : Nat → FieldType := fun k => match k with
  | _ => .int
abbrev wsX50 : List Cond := u_ws RX5 TX5 0
theorem nmX5 : ∀ a, a < 0 → ∀ b, b < 0 → a ≠ b → (TX5 a).2.1 ≠ (TX5 b).2.1 := by decide +kernel
theorem tyX5_ok : ∀ k, k < 0 → parseFieldDescriptor (TX5 k).2.2.1 = some (tyX5 k) := by decide +kernel
abbrev cX5_applied : ByteArray := prog_7_method_2_code
def yX5_applied : MethodName := ⟨RX5, "applied", "(JIII)J"⟩
abbrev cX5_appliedPair : ByteArray := prog_7_method_3_code
def yX5_appliedPair : MethodName := ⟨RX5, "appliedPair", "(JII)J"⟩
abbrev cX5_plain : ByteArray := prog_7_method_4_code
def yX5_plain : MethodName := ⟨RX5, "plain", "(J)J"⟩
abbrev cX5_sweet : ByteArray := prog_7_method_5_code
def yX5_sweet : MethodName := ⟨RX5, "sweet", "(JI)J"⟩
abbrev cX5_drop : ByteArray := prog_7_method_6_code
def yX5_drop : MethodName := ⟨RX5, "drop", "(JI)J"⟩
abbrev cX5_turn : ByteArray := prog_7_method_7_code
def yX5_turn : MethodName := ⟨RX5, "turn", "(J)J"⟩
abbrev cX5_twice : ByteArray := prog_7_method_8_code
def yX5_twice : MethodName := ⟨RX5, "twice", "(JI)J"⟩
abbrev cX5_feast : ByteArray := prog_7_method_9_code
def yX5_feast : MethodName := ⟨RX5, "feast", "(JII)J"⟩
def RX6 : String := "BridgeNames$Search"
def TX6 : u_T := fun k => match k with
  | 0 => ("BridgeNames$Search", "best", "[I", true)
  | 1 => ("BridgeNames$Search", "bestTaken", "I", false)
  | 2 => ("BridgeNames$Search", "bestToll", "I", false)
  | 3 => ("BridgeNames$Search", "found", "I", false)
  | 4 => ("BridgeNames$Search", "path", "[I", true)
  | _ => ("BridgeNames$Search", "goal", "I", false)
def tyX6 : Nat → FieldType := fun k => match k with
  | 0 => .array .int
  | 1 => .int
  | 2 => .int
  | 3 => .int
  | 4 => .array .int
  | _ => .int
abbrev wsX60 : List Cond := u_ws RX6 TX6 6
theorem nmX6 : ∀ a, a < 6 → ∀ b, b < 6 → a ≠ b → (TX6 a).2.1 ≠ (TX6 b).2.1 := by decide +kernel
theorem tyX6_ok : ∀ k, k < 6 → parseFieldDescriptor (TX6 k).2.2.1 = some (tyX6 k) := by decide +kernel
abbrev cX6_init : ByteArray := prog_8_method_1_code
def yX6_init : MethodName := ⟨RX6, "<init>", "()V"⟩
abbrev cX6_findWays : ByteArray := prog_8_method_2_code
def yX6_findWays : MethodName := ⟨RX6, "findWays", "(LBridgeNames$River;JII)V"⟩
abbrev cX6_goOn : ByteArray := prog_8_method_3_code
def yX6_goOn : MethodName := ⟨RX6, "goOn", "(LBridgeNames$River;IJIII)V"⟩
abbrev cX6_arrive : ByteArray := prog_8_method_4_code
def yX6_arrive : MethodName := ⟨RX6, "arrive", "(II)V"⟩
abbrev cX6_fewestToCurse : ByteArray := prog_8_method_5_code
def yX6_fewestToCurse : MethodName := ⟨RX6, "fewestToCurse", "(LBridgeNames$River;JJI)I"⟩
abbrev cX6_fewest : ByteArray := prog_8_method_6_code
def yX6_fewest : MethodName := ⟨RX6, "fewest", "(LBridgeNames$River;IJJII)I"⟩
abbrev cX6_isOpen : ByteArray := prog_8_method_7_code
def yX6_isOpen : MethodName := ⟨RX6, "isOpen", "(LBridgeNames$River;III)Z"⟩
def RX7 : String := "BridgeNames"
def TX7 : u_T := fun k => match k with
  | 0 => ("BridgeNames", "river", "LBridgeNames$River;", true)
  | 1 => ("BridgeNames", "draft", "LBridgeNames$River;", true)
  | 2 => ("BridgeNames", "images", "[LBridgeNames$River;", true)
  | 3 => ("BridgeNames", "kept", "[Z", true)
  | 4 => ("BridgeNames", "text", "LBridgeNames$Reader;", true)
  | 5 => ("BridgeNames", "search", "LBridgeNames$Search;", true)
  | 6 => ("BridgeNames", "fraction", "LBridgeNames$Fraction;", true)
  | 7 => ("BridgeNames", "fitting", "[I", true)
  | 8 => ("BridgeNames", "outcomes", "[J", true)
  | 9 => ("BridgeNames", "bads", "I", false)
  | 10 => ("BridgeNames", "nos", "I", false)
  | _ => ("BridgeNames", "fulls", "I", false)
def tyX7 : Nat → FieldType := fun k => match k with
  | 0 => .object "BridgeNames$River"
  | 1 => .object "BridgeNames$River"
  | 2 => .array (.object "BridgeNames$River")
  | 3 => .array .boolean
  | 4 => .object "BridgeNames$Reader"
  | 5 => .object "BridgeNames$Search"
  | 6 => .object "BridgeNames$Fraction"
  | 7 => .array .int
  | 8 => .array .long
  | 9 => .int
  | 10 => .int
  | _ => .int
abbrev wsX70 : List Cond := u_ws RX7 TX7 12
theorem nmX7 : ∀ a, a < 12 → ∀ b, b < 12 → a ≠ b → (TX7 a).2.1 ≠ (TX7 b).2.1 := by decide +kernel
theorem tyX7_ok : ∀ k, k < 12 → parseFieldDescriptor (TX7 k).2.2.1 = some (tyX7 k) := by decide +kernel
abbrev cX7_init : ByteArray := prog_1_method_1_code
def yX7_init : MethodName := ⟨RX7, "<init>", "()V"⟩
abbrev cX7_river : ByteArray := prog_1_method_2_code
def yX7_river : MethodName := ⟨RX7, "river", "(I)I"⟩
abbrev cX7_bridge : ByteArray := prog_1_method_3_code
def yX7_bridge : MethodName := ⟨RX7, "bridge", "(IIII)I"⟩
abbrev cX7_rule : ByteArray := prog_1_method_4_code
def yX7_rule : MethodName := ⟨RX7, "rule", "(III)I"⟩
abbrev cX7_month : ByteArray := prog_1_method_5_code
def yX7_month : MethodName := ⟨RX7, "month", "(I)I"⟩
abbrev cX7_undo : ByteArray := prog_1_method_6_code
def yX7_undo : MethodName := ⟨RX7, "undo", "()I"⟩
abbrev cX7_say : ByteArray := prog_1_method_7_code
def yX7_say : MethodName := ⟨RX7, "say", "(II)I"⟩
abbrev cX7_hush : ByteArray := prog_1_method_8_code
def yX7_hush : MethodName := ⟨RX7, "hush", "(I)I"⟩
abbrev cX7_type : ByteArray := prog_1_method_9_code
def yX7_type : MethodName := ⟨RX7, "type", "(I)I"⟩
abbrev cX7_clear : ByteArray := prog_1_method_10_code
def yX7_clear : MethodName := ⟨RX7, "clear", "()I"⟩
abbrev cX7_read : ByteArray := prog_1_method_11_code
def yX7_read : MethodName := ⟨RX7, "read", "()I"⟩
abbrev cX7_of : ByteArray := prog_1_method_12_code
def yX7_of : MethodName := ⟨RX7, "of", "(II)I"⟩
abbrev cX7_at : ByteArray := prog_1_method_13_code
def yX7_at : MethodName := ⟨RX7, "at", "(II)I"⟩
abbrev cX7_called : ByteArray := prog_1_method_14_code
def yX7_called : MethodName := ⟨RX7, "called", "(IIII)I"⟩
abbrev cX7_nothing : ByteArray := prog_1_method_15_code
def yX7_nothing : MethodName := ⟨RX7, "nothing", "(II)I"⟩
abbrev cX7_boat : ByteArray := prog_1_method_16_code
def yX7_boat : MethodName := ⟨RX7, "boat", "(IIIII)I"⟩
abbrev cX7_way : ByteArray := prog_1_method_17_code
def yX7_way : MethodName := ⟨RX7, "way", "(IIII)I"⟩
abbrev cX7_ways : ByteArray := prog_1_method_18_code
def yX7_ways : MethodName := ⟨RX7, "ways", "(IIII)I"⟩
abbrev cX7_curse : ByteArray := prog_1_method_19_code
def yX7_curse : MethodName := ⟨RX7, "curse", "(III)I"⟩
abbrev cX7_above : ByteArray := prog_1_method_20_code
def yX7_above : MethodName := ⟨RX7, "above", "(III)I"⟩
abbrev cX7_note : ByteArray := prog_1_method_21_code
def yX7_note : MethodName := ⟨RX7, "note", "(III)I"⟩
abbrev cX7_forget : ByteArray := prog_1_method_22_code
def yX7_forget : MethodName := ⟨RX7, "forget", "()I"⟩
abbrev cX7_fits : ByteArray := prog_1_method_23_code
def yX7_fits : MethodName := ⟨RX7, "fits", "(II)I"⟩
abbrev cX7_tries : ByteArray := prog_1_method_24_code
def yX7_tries : MethodName := ⟨RX7, "tries", "(I)I"⟩
abbrev cX7_renamed : ByteArray := prog_1_method_25_code
def yX7_renamed : MethodName := ⟨RX7, "renamed", "(II)I"⟩
abbrev cX7_stammer : ByteArray := prog_1_method_26_code
def yX7_stammer : MethodName := ⟨RX7, "stammer", "(IIII)I"⟩
abbrev cX7_boats : ByteArray := prog_1_method_27_code
def yX7_boats : MethodName := ⟨RX7, "boats", "(III)I"⟩
abbrev cX7_flood : ByteArray := prog_1_method_28_code
def yX7_flood : MethodName := ⟨RX7, "flood", "(IIIII)I"⟩
abbrev cX7_part : ByteArray := prog_1_method_29_code
def yX7_part : MethodName := ⟨RX7, "part", "(I)J"⟩
abbrev cX7_image : ByteArray := prog_1_method_30_code
def yX7_image : MethodName := ⟨RX7, "image", "(I)I"⟩
abbrev cX7_from : ByteArray := prog_1_method_31_code
def yX7_from : MethodName := ⟨RX7, "from", "(I)I"⟩
abbrev cX7_status : ByteArray := prog_1_method_32_code
def yX7_status : MethodName := ⟨RX7, "status", "(I)I"⟩
abbrev cX7_count : ByteArray := prog_1_method_33_code
def yX7_count : MethodName := ⟨RX7, "count", "(I)I"⟩
abbrev cX7_digest : ByteArray := prog_1_method_34_code
def yX7_digest : MethodName := ⟨RX7, "digest", "()J"⟩
abbrev cX7_refuseBad : ByteArray := prog_1_method_35_code
def yX7_refuseBad : MethodName := ⟨RX7, "refuseBad", "(I)I"⟩
abbrev cX7_refuseNo : ByteArray := prog_1_method_36_code
def yX7_refuseNo : MethodName := ⟨RX7, "refuseNo", "()I"⟩
abbrev cX7_refuseFull : ByteArray := prog_1_method_37_code
def yX7_refuseFull : MethodName := ⟨RX7, "refuseFull", "()I"⟩
abbrev cX7_isBelow : ByteArray := prog_1_method_38_code
def yX7_isBelow : MethodName := ⟨RX7, "isBelow", "(II)Z"⟩
abbrev cX7_isRow : ByteArray := prog_1_method_39_code
def yX7_isRow : MethodName := ⟨RX7, "isRow", "(I)Z"⟩
abbrev cX7_isRule : ByteArray := prog_1_method_40_code
def yX7_isRule : MethodName := ⟨RX7, "isRule", "(II)Z"⟩
abbrev cX7_isFleet : ByteArray := prog_1_method_41_code
def yX7_isFleet : MethodName := ⟨RX7, "isFleet", "(II)Z"⟩
abbrev cX7_isBridge : ByteArray := prog_1_method_42_code
def yX7_isBridge : MethodName := ⟨RX7, "isBridge", "(I)Z"⟩
abbrev cX7_lengthOrSyllable : ByteArray := prog_1_method_43_code
def yX7_lengthOrSyllable : MethodName := ⟨RX7, "lengthOrSyllable", "(JI)I"⟩
abbrev cX7_canSay : ByteArray := prog_1_method_44_code
def yX7_canSay : MethodName := ⟨RX7, "canSay", "(II)Z"⟩
abbrev cX7_boatsSaying : ByteArray := prog_1_method_45_code
def yX7_boatsSaying : MethodName := ⟨RX7, "boatsSaying", "(III)I"⟩
abbrev cX7_collectFitting : ByteArray := prog_1_method_46_code
def yX7_collectFitting : MethodName := ⟨RX7, "collectFitting", "(I)I"⟩
abbrev cX7_mostAlike : ByteArray := prog_1_method_47_code
def yX7_mostAlike : MethodName := ⟨RX7, "mostAlike", "(JI)I"⟩
abbrev cX7_mixed : ByteArray := prog_1_method_48_code
def yX7_mixed : MethodName := ⟨RX7, "mixed", "(JJ)J"⟩
abbrev cX7_mixedName : ByteArray := prog_1_method_49_code
def yX7_mixedName : MethodName := ⟨RX7, "mixedName", "(JJ)J"⟩
def RX8 : String := "BridgeNamesModel"
def TX8 : u_T := fun k => match k with
  | 0 => ("BridgeNamesModel", "now", "[I", true)
  | 1 => ("BridgeNamesModel", "kept", "[I", true)
  | 2 => ("BridgeNamesModel", "names", "[J", true)
  | 3 => ("BridgeNamesModel", "keptNames", "[J", true)
  | 4 => ("BridgeNamesModel", "isKept", "[Z", true)
  | 5 => ("BridgeNamesModel", "refused", "[I", true)
  | 6 => ("BridgeNamesModel", "over", "J", false)
  | 7 => ("BridgeNamesModel", "under", "J", false)
  | 8 => ("BridgeNamesModel", "steps", "[I", true)
  | 9 => ("BridgeNamesModel", "places", "[I", true)
  | 10 => ("BridgeNamesModel", "calls", "[J", true)
  | 11 => ("BridgeNamesModel", "tolls", "[I", true)
  | 12 => ("BridgeNamesModel", "deep", "I", false)
  | 13 => ("BridgeNamesModel", "bestSteps", "[I", true)
  | 14 => ("BridgeNamesModel", "bestMany", "I", false)
  | 15 => ("BridgeNamesModel", "bestToll", "I", false)
  | 16 => ("BridgeNamesModel", "manyWays", "I", false)
  | 17 => ("BridgeNamesModel", "fit", "[Z", true)
  | 18 => ("BridgeNamesModel", "cases", "[J", true)
  | 19 => ("BridgeNamesModel", "bytes", "[I", true)
  | 20 => ("BridgeNamesModel", "bytesLong", "I", false)
  | 21 => ("BridgeNamesModel", "tokenAt", "I", false)
  | 22 => ("BridgeNamesModel", "tokenLong", "I", false)
  | 23 => ("BridgeNamesModel", "token", "I", false)
  | 24 => ("BridgeNamesModel", "value", "I", false)
  | 25 => ("BridgeNamesModel", "anew", "[I", true)
  | 26 => ("BridgeNamesModel", "namesAnew", "[J", true)
  | _ => ("BridgeNamesModel", "values", "[I", true)
def tyX8 : Nat → FieldType := fun k => match k with
  | 0 => .array .int
  | 1 => .array .int
  | 2 => .array .long
  | 3 => .array .long
  | 4 => .array .boolean
  | 5 => .array .int
  | 6 => .long
  | 7 => .long
  | 8 => .array .int
  | 9 => .array .int
  | 10 => .array .long
  | 11 => .array .int
  | 12 => .int
  | 13 => .array .int
  | 14 => .int
  | 15 => .int
  | 16 => .int
  | 17 => .array .boolean
  | 18 => .array .long
  | 19 => .array .int
  | 20 => .int
  | 21 => .int
  | 22 => .int
  | 23 => .int
  | 24 => .int
  | 25 => .array .int
  | 26 => .array .long
  | _ => .array .int
abbrev wsX80 : List Cond := u_ws RX8 TX8 28
theorem nmX8 : ∀ a, a < 28 → ∀ b, b < 28 → a ≠ b → (TX8 a).2.1 ≠ (TX8 b).2.1 := by decide +kernel
theorem tyX8_ok : ∀ k, k < 28 → parseFieldDescriptor (TX8 k).2.2.1 = some (tyX8 k) := by decide +kernel
abbrev cX8_init : ByteArray := prog_10_method_1_code
def yX8_init : MethodName := ⟨RX8, "<init>", "()V"⟩
abbrev cX8_in : ByteArray := prog_10_method_3_code
def yX8_in : MethodName := ⟨RX8, "in", "(JJJ)Z"⟩
abbrev cX8_bad : ByteArray := prog_10_method_4_code
def yX8_bad : MethodName := ⟨RX8, "bad", "(I)I"⟩
abbrev cX8_no : ByteArray := prog_10_method_5_code
def yX8_no : MethodName := ⟨RX8, "no", "()I"⟩
abbrev cX8_full : ByteArray := prog_10_method_6_code
def yX8_full : MethodName := ⟨RX8, "full", "()I"⟩
abbrev cX8_many : ByteArray := prog_10_method_7_code
def yX8_many : MethodName := ⟨RX8, "many", "(J)I"⟩
abbrev cX8_syllable : ByteArray := prog_10_method_8_code
def yX8_syllable : MethodName := ⟨RX8, "syllable", "(JI)I"⟩
abbrev cX8_behind : ByteArray := prog_10_method_9_code
def yX8_behind : MethodName := ⟨RX8, "behind", "(JI)J"⟩
abbrev cX8_firstOnes : ByteArray := prog_10_method_10_code
def yX8_firstOnes : MethodName := ⟨RX8, "firstOnes", "(JI)J"⟩
abbrev cX8_sweet : ByteArray := prog_10_method_11_code
def yX8_sweet : MethodName := ⟨RX8, "sweet", "(JI)J"⟩
abbrev cX8_drop : ByteArray := prog_10_method_12_code
def yX8_drop : MethodName := ⟨RX8, "drop", "(JI)J"⟩
abbrev cX8_turn : ByteArray := prog_10_method_13_code
def yX8_turn : MethodName := ⟨RX8, "turn", "(J)J"⟩
abbrev cX8_twice : ByteArray := prog_10_method_14_code
def yX8_twice : MethodName := ⟨RX8, "twice", "(J)J"⟩
abbrev cX8_higher : ByteArray := prog_10_method_15_code
def yX8_higher : MethodName := ⟨RX8, "higher", "(JI)J"⟩
abbrev cX8_becomes : ByteArray := prog_10_method_16_code
def yX8_becomes : MethodName := ⟨RX8, "becomes", "(IIIJ)J"⟩
abbrev cX8_begin : ByteArray := prog_10_method_17_code
def yX8_begin : MethodName := ⟨RX8, "begin", "([II)V"⟩
abbrev cX8_bridges : ByteArray := prog_10_method_18_code
def yX8_bridges : MethodName := ⟨RX8, "bridges", "()I"⟩
abbrev cX8_isBridge : ByteArray := prog_10_method_19_code
def yX8_isBridge : MethodName := ⟨RX8, "isBridge", "(I)Z"⟩
abbrev cX8_isPlace : ByteArray := prog_10_method_20_code
def yX8_isPlace : MethodName := ⟨RX8, "isPlace", "(I)Z"⟩
abbrev cX8_isRow : ByteArray := prog_10_method_21_code
def yX8_isRow : MethodName := ⟨RX8, "isRow", "(I)Z"⟩
abbrev cX8_get : ByteArray := prog_10_method_22_code
def yX8_get : MethodName := ⟨RX8, "get", "(II)I"⟩
abbrev cX8_river : ByteArray := prog_10_method_23_code
def yX8_river : MethodName := ⟨RX8, "river", "(I)I"⟩
abbrev cX8_layBridge : ByteArray := prog_10_method_24_code
def yX8_layBridge : MethodName := ⟨RX8, "layBridge", "([IIIII)V"⟩
abbrev cX8_bridge : ByteArray := prog_10_method_25_code
def yX8_bridge : MethodName := ⟨RX8, "bridge", "(IIII)I"⟩
abbrev cX8_keep : ByteArray := prog_10_method_26_code
def yX8_keep : MethodName := ⟨RX8, "keep", "()V"⟩
abbrev cX8_rule : ByteArray := prog_10_method_27_code
def yX8_rule : MethodName := ⟨RX8, "rule", "(III)I"⟩
abbrev cX8_month : ByteArray := prog_10_method_28_code
def yX8_month : MethodName := ⟨RX8, "month", "(I)I"⟩
abbrev cX8_undo : ByteArray := prog_10_method_29_code
def yX8_undo : MethodName := ⟨RX8, "undo", "()I"⟩
abbrev cX8_say : ByteArray := prog_10_method_30_code
def yX8_say : MethodName := ⟨RX8, "say", "(II)I"⟩
abbrev cX8_hush : ByteArray := prog_10_method_31_code
def yX8_hush : MethodName := ⟨RX8, "hush", "(I)I"⟩
abbrev cX8_of : ByteArray := prog_10_method_32_code
def yX8_of : MethodName := ⟨RX8, "of", "(II)I"⟩
abbrev cX8_told : ByteArray := prog_10_method_33_code
def yX8_told : MethodName := ⟨RX8, "told", "(JI)I"⟩
abbrev cX8_at : ByteArray := prog_10_method_34_code
def yX8_at : MethodName := ⟨RX8, "at", "(II)I"⟩
abbrev cX8_behindBridge : ByteArray := prog_10_method_35_code
def yX8_behindBridge : MethodName := ⟨RX8, "behindBridge", "(IJ)J"⟩
abbrev cX8_called : ByteArray := prog_10_method_36_code
def yX8_called : MethodName := ⟨RX8, "called", "(IIII)I"⟩
abbrev cX8_nothing : ByteArray := prog_10_method_37_code
def yX8_nothing : MethodName := ⟨RX8, "nothing", "(II)I"⟩
abbrev cX8_canSay : ByteArray := prog_10_method_38_code
def yX8_canSay : MethodName := ⟨RX8, "canSay", "(IJ)Z"⟩
abbrev cX8_boat : ByteArray := prog_10_method_39_code
def yX8_boat : MethodName := ⟨RX8, "boat", "(IIIII)I"⟩
abbrev cX8_beginWay : ByteArray := prog_10_method_40_code
def yX8_beginWay : MethodName := ⟨RX8, "beginWay", "(JI)V"⟩
abbrev cX8_isGone : ByteArray := prog_10_method_41_code
def yX8_isGone : MethodName := ⟨RX8, "isGone", "(I)Z"⟩
abbrev cX8_goOn : ByteArray := prog_10_method_42_code
def yX8_goOn : MethodName := ⟨RX8, "goOn", "()Z"⟩
abbrev cX8_judge : ByteArray := prog_10_method_43_code
def yX8_judge : MethodName := ⟨RX8, "judge", "()V"⟩
abbrev cX8_layWays : ByteArray := prog_10_method_44_code
def yX8_layWays : MethodName := ⟨RX8, "layWays", "(III)V"⟩
abbrev cX8_way : ByteArray := prog_10_method_45_code
def yX8_way : MethodName := ⟨RX8, "way", "(IIII)I"⟩
abbrev cX8_ways : ByteArray := prog_10_method_46_code
def yX8_ways : MethodName := ⟨RX8, "ways", "(IIII)I"⟩
abbrev cX8_has : ByteArray := prog_10_method_47_code
def yX8_has : MethodName := ⟨RX8, "has", "(JJ)Z"⟩
abbrev cX8_curse : ByteArray := prog_10_method_48_code
def yX8_curse : MethodName := ⟨RX8, "curse", "(III)I"⟩
abbrev cX8_nameOf : ByteArray := prog_10_method_49_code
def yX8_nameOf : MethodName := ⟨RX8, "nameOf", "(I)J"⟩
abbrev cX8_above : ByteArray := prog_10_method_50_code
def yX8_above : MethodName := ⟨RX8, "above", "(III)I"⟩
abbrev cX8_note : ByteArray := prog_10_method_51_code
def yX8_note : MethodName := ⟨RX8, "note", "(III)I"⟩
abbrev cX8_forget : ByteArray := prog_10_method_52_code
def yX8_forget : MethodName := ⟨RX8, "forget", "()I"⟩
abbrev cX8_doesFit : ByteArray := prog_10_method_53_code
def yX8_doesFit : MethodName := ⟨RX8, "doesFit", "(II)Z"⟩
abbrev cX8_fits : ByteArray := prog_10_method_54_code
def yX8_fits : MethodName := ⟨RX8, "fits", "(II)I"⟩
abbrev cX8_mostAlike : ByteArray := prog_10_method_55_code
def yX8_mostAlike : MethodName := ⟨RX8, "mostAlike", "(I)I"⟩
abbrev cX8_tries : ByteArray := prog_10_method_56_code
def yX8_tries : MethodName := ⟨RX8, "tries", "(I)I"⟩
abbrev cX8_renamed : ByteArray := prog_10_method_57_code
def yX8_renamed : MethodName := ⟨RX8, "renamed", "(II)I"⟩
abbrev cX8_fraction : ByteArray := prog_10_method_58_code
def yX8_fraction : MethodName := ⟨RX8, "fraction", "(JJ)V"⟩
abbrev cX8_stammer : ByteArray := prog_10_method_59_code
def yX8_stammer : MethodName := ⟨RX8, "stammer", "(IIII)I"⟩
abbrev cX8_exchanged : ByteArray := prog_10_method_60_code
def yX8_exchanged : MethodName := ⟨RX8, "exchanged", "(III)I"⟩
abbrev cX8_boatsBy : ByteArray := prog_10_method_61_code
def yX8_boatsBy : MethodName := ⟨RX8, "boatsBy", "(IIIII)I"⟩
abbrev cX8_areBoats : ByteArray := prog_10_method_62_code
def yX8_areBoats : MethodName := ⟨RX8, "areBoats", "(II)Z"⟩
abbrev cX8_boats : ByteArray := prog_10_method_63_code
def yX8_boats : MethodName := ⟨RX8, "boats", "(III)I"⟩
abbrev cX8_flood : ByteArray := prog_10_method_64_code
def yX8_flood : MethodName := ⟨RX8, "flood", "(IIIII)I"⟩
abbrev cX8_type : ByteArray := prog_10_method_65_code
def yX8_type : MethodName := ⟨RX8, "type", "(I)I"⟩
abbrev cX8_clear : ByteArray := prog_10_method_66_code
def yX8_clear : MethodName := ⟨RX8, "clear", "()I"⟩
abbrev cX8_isSmall : ByteArray := prog_10_method_67_code
def yX8_isSmall : MethodName := ⟨RX8, "isSmall", "(I)Z"⟩
abbrev cX8_isFigure : ByteArray := prog_10_method_68_code
def yX8_isFigure : MethodName := ⟨RX8, "isFigure", "(I)Z"⟩
abbrev cX8_lookAt : ByteArray := prog_10_method_69_code
def yX8_lookAt : MethodName := ⟨RX8, "lookAt", "(I)V"⟩
abbrev cX8_goBehind : ByteArray := prog_10_method_70_code
def yX8_goBehind : MethodName := ⟨RX8, "goBehind", "()V"⟩
abbrev cX8_isWord : ByteArray := prog_10_method_71_code
def yX8_isWord : MethodName := ⟨RX8, "isWord", "(IIIIIII)Z"⟩
abbrev cX8_takes : ByteArray := prog_10_method_72_code
def yX8_takes : MethodName := ⟨RX8, "takes", "(III)Z"⟩
abbrev cX8_takesFirst : ByteArray := prog_10_method_73_code
def yX8_takesFirst : MethodName := ⟨RX8, "takesFirst", "()Z"⟩
abbrev cX8_takesBridge : ByteArray := prog_10_method_74_code
def yX8_takesBridge : MethodName := ⟨RX8, "takesBridge", "()Z"⟩
abbrev cX8_takesRow : ByteArray := prog_10_method_75_code
def yX8_takesRow : MethodName := ⟨RX8, "takesRow", "()Z"⟩
abbrev cX8_takesItem : ByteArray := prog_10_method_76_code
def yX8_takesItem : MethodName := ⟨RX8, "takesItem", "()Z"⟩
abbrev cX8_read : ByteArray := prog_10_method_77_code
def yX8_read : MethodName := ⟨RX8, "read", "()I"⟩
abbrev cX8_part : ByteArray := prog_10_method_78_code
def yX8_part : MethodName := ⟨RX8, "part", "(I)J"⟩
abbrev cX8_image : ByteArray := prog_10_method_79_code
def yX8_image : MethodName := ⟨RX8, "image", "(I)I"⟩
abbrev cX8_from : ByteArray := prog_10_method_80_code
def yX8_from : MethodName := ⟨RX8, "from", "(I)I"⟩
abbrev cX8_status : ByteArray := prog_10_method_81_code
def yX8_status : MethodName := ⟨RX8, "status", "(I)I"⟩
abbrev cX8_counted : ByteArray := prog_10_method_82_code
def yX8_counted : MethodName := ⟨RX8, "counted", "(I)I"⟩
abbrev cX8_count : ByteArray := prog_10_method_83_code
def yX8_count : MethodName := ⟨RX8, "count", "(I)I"⟩
abbrev cX8_nameIn : ByteArray := prog_10_method_84_code
def yX8_nameIn : MethodName := ⟨RX8, "nameIn", "(JJ)J"⟩
abbrev cX8_digest : ByteArray := prog_10_method_85_code
def yX8_digest : MethodName := ⟨RX8, "digest", "()J"⟩
def RJ9 : String := "java/lang/Math"
def TJ9 : u_T := fun k => match k with
  | _ => ("", "", "", false)
def tyJ9 : Nat → FieldType := fun k => match k with
  | _ => .int
abbrev wsJ90 : List Cond := u_ws RJ9 TJ9 0
theorem nmJ9 : ∀ a, a < 0 → ∀ b, b < 0 → a ≠ b → (TJ9 a).2.1 ≠ (TJ9 b).2.1 := by decide +kernel
theorem tyJ9_ok : ∀ k, k < 0 → parseFieldDescriptor (TJ9 k).2.2.1 = some (tyJ9 k) := by decide +kernel
abbrev cJ9_max_7cf53 : ByteArray := prog_11_method_65_code
def yJ9_max_7cf53 : MethodName := ⟨RJ9, "max", "(II)I"⟩
def RJ0 : String := "java/lang/String"
def TJ0 : u_T := fun k => match k with
  | _ => ("", "", "", false)
def tyJ0 : Nat → FieldType := fun k => match k with
  | _ => .int
abbrev wsJ00 : List Cond := u_ws RJ0 TJ0 0
theorem nmJ0 : ∀ a, a < 0 → ∀ b, b < 0 → a ≠ b → (TJ0 a).2.1 ≠ (TJ0 b).2.1 := by decide +kernel
theorem tyJ0_ok : ∀ k, k < 0 → parseFieldDescriptor (TJ0 k).2.2.1 = some (tyJ0 k) := by decide +kernel
abbrev cJ0_length_8abf5 : ByteArray := prog_12_method_54_code
def yJ0_length_8abf5 : MethodName := ⟨RJ0, "length", "()I"⟩
abbrev cJ0_charAt_5068e : ByteArray := prog_12_method_56_code
def yJ0_charAt_5068e : MethodName := ⟨RJ0, "charAt", "(I)C"⟩
abbrev cJ0_coder_7d493 : ByteArray := prog_12_method_152_code
def yJ0_coder_7d493 : MethodName := ⟨RJ0, "coder", "()B"⟩
abbrev cJ0_isLatin1_aae02 : ByteArray := prog_12_method_154_code
def yJ0_isLatin1_aae02 : MethodName := ⟨RJ0, "isLatin1", "()Z"⟩
abbrev cJ0_checkIndex_df160 : ByteArray := prog_12_method_155_code
def yJ0_checkIndex_df160 : MethodName := ⟨RJ0, "checkIndex", "(II)V"⟩
def RJ1 : String := "java/lang/StringLatin1"
def TJ1 : u_T := fun k => match k with
  | _ => ("", "", "", false)
def tyJ1 : Nat → FieldType := fun k => match k with
  | _ => .int
abbrev wsJ10 : List Cond := u_ws RJ1 TJ1 0
theorem nmJ1 : ∀ a, a < 0 → ∀ b, b < 0 → a ≠ b → (TJ1 a).2.1 ≠ (TJ1 b).2.1 := by decide +kernel
theorem tyJ1_ok : ∀ k, k < 0 → parseFieldDescriptor (TJ1 k).2.2.1 = some (tyJ1 k) := by decide +kernel
abbrev cJ1_charAt_3b067 : ByteArray := prog_13_method_2_code
def yJ1_charAt_3b067 : MethodName := ⟨RJ1, "charAt", "([BI)C"⟩
def RJ2 : String := "java/lang/StringUTF16"
def TJ2 : u_T := fun k => match k with
  | _ => ("", "", "", false)
def tyJ2 : Nat → FieldType := fun k => match k with
  | _ => .int
abbrev wsJ20 : List Cond := u_ws RJ2 TJ2 0
theorem nmJ2 : ∀ a, a < 0 → ∀ b, b < 0 → a ≠ b → (TJ2 a).2.1 ≠ (TJ2 b).2.1 := by decide +kernel
theorem tyJ2_ok : ∀ k, k < 0 → parseFieldDescriptor (TJ2 k).2.2.1 = some (tyJ2 k) := by decide +kernel
abbrev cJ2_getChar_3b067 : ByteArray := prog_14_method_5_code
def yJ2_getChar_3b067 : MethodName := ⟨RJ2, "getChar", "([BI)C"⟩
abbrev cJ2_length_9d52b : ByteArray := prog_14_method_6_code
def yJ2_length_9d52b : MethodName := ⟨RJ2, "length", "([B)I"⟩
abbrev cJ2_charAt_3b067 : ByteArray := prog_14_method_83_code
def yJ2_charAt_3b067 : MethodName := ⟨RJ2, "charAt", "([BI)C"⟩
abbrev cJ2_checkIndex_2214a : ByteArray := prog_14_method_91_code
def yJ2_checkIndex_2214a : MethodName := ⟨RJ2, "checkIndex", "(I[B)V"⟩
def RJ10 : String := "java/lang/System"
def TJ10 : u_T := fun k => match k with
  | _ => ("", "", "", false)
def tyJ10 : Nat → FieldType := fun k => match k with
  | _ => .int
abbrev wsJ100 : List Cond := u_ws RJ10 TJ10 0
theorem nmJ10 : ∀ a, a < 0 → ∀ b, b < 0 → a ≠ b → (TJ10 a).2.1 ≠ (TJ10 b).2.1 := by decide +kernel
theorem tyJ10_ok : ∀ k, k < 0 → parseFieldDescriptor (TJ10 k).2.2.1 = some (tyJ10 k) := by decide +kernel
def RJ3 : String := "jdk/internal/util/Preconditions"
def TJ3 : u_T := fun k => match k with
  | _ => ("", "", "", false)
def tyJ3 : Nat → FieldType := fun k => match k with
  | _ => .int
abbrev wsJ30 : List Cond := u_ws RJ3 TJ3 0
theorem nmJ3 : ∀ a, a < 0 → ∀ b, b < 0 → a ≠ b → (TJ3 a).2.1 ≠ (TJ3 b).2.1 := by decide +kernel
theorem tyJ3_ok : ∀ k, k < 0 → parseFieldDescriptor (TJ3 k).2.2.1 = some (tyJ3 k) := by decide +kernel
abbrev cJ3_checkIndex_8e157 : ByteArray := prog_16_method_11_code
def yJ3_checkIndex_8e157 : MethodName := ⟨RJ3, "checkIndex", "(IILjava/util/function/BiFunction;)I"⟩
def RL : String := "BridgeNamesLaw"
abbrev cL_law : ByteArray := code
def yL_law : MethodName := ⟨RL, "law", "([I)Z"⟩
abbrev vwCl : List vw_C := [(RX0, TX0, 2), (RX2, TX2, 5), (RX3, TX3, 6), (RX4, TX4, 11), (RX6, TX6, 6), (RX7, TX7, 12), (RX8, TX8, 28)]
end
section
theorem dX0_init_0 : decode cX0_init 0 = .ok (.aload_n 0, 1) := by decide +kernel
theorem dX0_init_1 : decode cX0_init 1 = .ok (.invokespecial 1, 3) := by decide +kernel
theorem dX0_init_4 : decode cX0_init 4 = .ok (.aload_n 0, 1) := by decide +kernel
theorem dX0_init_5 : decode cX0_init 5 = .ok (.lconst 0, 1) := by decide +kernel
theorem dX0_init_6 : decode cX0_init 6 = .ok (.putfield 7, 3) := by decide +kernel
theorem dX0_init_9 : decode cX0_init 9 = .ok (.aload_n 0, 1) := by decide +kernel
theorem dX0_init_10 : decode cX0_init 10 = .ok (.lconst 1, 1) := by decide +kernel
theorem dX0_init_11 : decode cX0_init 11 = .ok (.putfield 13, 3) := by decide +kernel
theorem dX0_init_14 : decode cX0_init 14 = .ok (.return_, 1) := by decide +kernel
theorem dX0_setChance_0 : decode cX0_setChance 0 = .ok (.iload_n 2, 1) := by decide +kernel
theorem dX0_setChance_1 : decode cX0_setChance 1 = .ok (.ifCond .lt 8, 3) := by decide +kernel
theorem dX0_setChance_4 : decode cX0_setChance 4 = .ok (.iload_n 2, 1) := by decide +kernel
theorem dX0_setChance_5 : decode cX0_setChance 5 = .ok (.iload_n 1, 1) := by decide +kernel
theorem dX0_setChance_6 : decode cX0_setChance 6 = .ok (.if_icmp .le 10, 3) := by decide +kernel
theorem dX0_setChance_9 : decode cX0_setChance 9 = .ok (.aload_n 0, 1) := by decide +kernel
theorem dX0_setChance_10 : decode cX0_setChance 10 = .ok (.lconst 0, 1) := by decide +kernel
theorem dX0_setChance_11 : decode cX0_setChance 11 = .ok (.lconst 1, 1) := by decide +kernel
theorem dX0_setChance_12 : decode cX0_setChance 12 = .ok (.invokevirtual 16, 3) := by decide +kernel
theorem dX0_setChance_15 : decode cX0_setChance 15 = .ok (.return_, 1) := by decide +kernel
theorem dX0_setChance_16 : decode cX0_setChance 16 = .ok (.iload_n 1, 1) := by decide +kernel
theorem dX0_setChance_17 : decode cX0_setChance 17 = .ok (.iload_n 2, 1) := by decide +kernel
theorem dX0_setChance_18 : decode cX0_setChance 18 = .ok (.invokestatic 20, 3) := by decide +kernel
theorem dX0_setChance_21 : decode cX0_setChance 21 = .ok (.lstore 5, 2) := by decide +kernel
theorem dX0_setChance_23 : decode cX0_setChance 23 = .ok (.aload_n 0, 1) := by decide +kernel
theorem dX0_setChance_24 : decode cX0_setChance 24 = .ok (.lload 5, 2) := by decide +kernel
theorem dX0_setChance_26 : decode cX0_setChance 26 = .ok (.iload_n 3, 1) := by decide +kernel
theorem dX0_setChance_27 : decode cX0_setChance 27 = .ok (.iload_n 2, 1) := by decide +kernel
theorem dX0_setChance_28 : decode cX0_setChance 28 = .ok (.invokestatic 24, 3) := by decide +kernel
theorem dX0_setChance_31 : decode cX0_setChance 31 = .ok (.lmul, 1) := by decide +kernel
theorem dX0_setChance_32 : decode cX0_setChance 32 = .ok (.iload 4, 2) := by decide +kernel
theorem dX0_setChance_34 : decode cX0_setChance 34 = .ok (.iload_n 3, 1) := by decide +kernel
theorem dX0_setChance_35 : decode cX0_setChance 35 = .ok (.isub, 1) := by decide +kernel
theorem dX0_setChance_36 : decode cX0_setChance 36 = .ok (.iload_n 1, 1) := by decide +kernel
theorem dX0_setChance_37 : decode cX0_setChance 37 = .ok (.iload_n 2, 1) := by decide +kernel
theorem dX0_setChance_38 : decode cX0_setChance 38 = .ok (.isub, 1) := by decide +kernel
theorem dX0_setChance_39 : decode cX0_setChance 39 = .ok (.invokestatic 24, 3) := by decide +kernel
theorem dX0_setChance_42 : decode cX0_setChance 42 = .ok (.lmul, 1) := by decide +kernel
theorem dX0_setChance_43 : decode cX0_setChance 43 = .ok (.iload 4, 2) := by decide +kernel
theorem dX0_setChance_45 : decode cX0_setChance 45 = .ok (.iload_n 1, 1) := by decide +kernel
theorem dX0_setChance_46 : decode cX0_setChance 46 = .ok (.invokestatic 24, 3) := by decide +kernel
theorem dX0_setChance_49 : decode cX0_setChance 49 = .ok (.invokevirtual 16, 3) := by decide +kernel
theorem dX0_setChance_52 : decode cX0_setChance 52 = .ok (.return_, 1) := by decide +kernel
theorem dX0_setLowest_0 : decode cX0_setLowest 0 = .ok (.lload_n 1, 1) := by decide +kernel
theorem dX0_setLowest_1 : decode cX0_setLowest 1 = .ok (.lload_n 3, 1) := by decide +kernel
theorem dX0_setLowest_2 : decode cX0_setLowest 2 = .ok (.invokestatic 27, 3) := by decide +kernel
theorem dX0_setLowest_5 : decode cX0_setLowest 5 = .ok (.lstore 5, 2) := by decide +kernel
theorem dX0_setLowest_7 : decode cX0_setLowest 7 = .ok (.lload 5, 2) := by decide +kernel
theorem dX0_setLowest_9 : decode cX0_setLowest 9 = .ok (.lconst 1, 1) := by decide +kernel
theorem dX0_setLowest_10 : decode cX0_setLowest 10 = .ok (.lcmp, 1) := by decide +kernel
theorem dX0_setLowest_11 : decode cX0_setLowest 11 = .ok (.ifCond .ge 4, 3) := by decide +kernel
theorem dX0_setLowest_14 : decode cX0_setLowest 14 = .ok (.return_, 1) := by decide +kernel
theorem dX0_setLowest_15 : decode cX0_setLowest 15 = .ok (.aload_n 0, 1) := by decide +kernel
theorem dX0_setLowest_16 : decode cX0_setLowest 16 = .ok (.lload_n 1, 1) := by decide +kernel
theorem dX0_setLowest_17 : decode cX0_setLowest 17 = .ok (.lload 5, 2) := by decide +kernel
theorem dX0_setLowest_19 : decode cX0_setLowest 19 = .ok (.ldiv, 1) := by decide +kernel
theorem dX0_setLowest_20 : decode cX0_setLowest 20 = .ok (.putfield 7, 3) := by decide +kernel
theorem dX0_setLowest_23 : decode cX0_setLowest 23 = .ok (.aload_n 0, 1) := by decide +kernel
theorem dX0_setLowest_24 : decode cX0_setLowest 24 = .ok (.lload_n 3, 1) := by decide +kernel
theorem dX0_setLowest_25 : decode cX0_setLowest 25 = .ok (.lload 5, 2) := by decide +kernel
theorem dX0_setLowest_27 : decode cX0_setLowest 27 = .ok (.ldiv, 1) := by decide +kernel
theorem dX0_setLowest_28 : decode cX0_setLowest 28 = .ok (.putfield 13, 3) := by decide +kernel
theorem dX0_setLowest_31 : decode cX0_setLowest 31 = .ok (.return_, 1) := by decide +kernel
theorem dX0_commonPart_0 : decode cX0_commonPart 0 = .ok (.lload_n 0, 1) := by decide +kernel
theorem dX0_commonPart_1 : decode cX0_commonPart 1 = .ok (.lstore 4, 2) := by decide +kernel
theorem dX0_commonPart_3 : decode cX0_commonPart 3 = .ok (.lload_n 2, 1) := by decide +kernel
theorem dX0_commonPart_4 : decode cX0_commonPart 4 = .ok (.lstore 6, 2) := by decide +kernel
theorem dX0_commonPart_6 : decode cX0_commonPart 6 = .ok (.iconst 0, 1) := by decide +kernel
theorem dX0_commonPart_7 : decode cX0_commonPart 7 = .ok (.istore 8, 2) := by decide +kernel
theorem dX0_commonPart_9 : decode cX0_commonPart 9 = .ok (.iload 8, 2) := by decide +kernel
theorem dX0_commonPart_11 : decode cX0_commonPart 11 = .ok (.bipush 100, 2) := by decide +kernel
theorem dX0_commonPart_13 : decode cX0_commonPart 13 = .ok (.if_icmp .ge 31, 3) := by decide +kernel
theorem dX0_commonPart_16 : decode cX0_commonPart 16 = .ok (.lload 6, 2) := by decide +kernel
theorem dX0_commonPart_18 : decode cX0_commonPart 18 = .ok (.lconst 0, 1) := by decide +kernel
theorem dX0_commonPart_19 : decode cX0_commonPart 19 = .ok (.lcmp, 1) := by decide +kernel
theorem dX0_commonPart_20 : decode cX0_commonPart 20 = .ok (.ifCond .eq 24, 3) := by decide +kernel
theorem dX0_commonPart_23 : decode cX0_commonPart 23 = .ok (.lload 4, 2) := by decide +kernel
theorem dX0_commonPart_25 : decode cX0_commonPart 25 = .ok (.lload 6, 2) := by decide +kernel
theorem dX0_commonPart_27 : decode cX0_commonPart 27 = .ok (.lrem, 1) := by decide +kernel
theorem dX0_commonPart_28 : decode cX0_commonPart 28 = .ok (.lstore 9, 2) := by decide +kernel
theorem dX0_commonPart_30 : decode cX0_commonPart 30 = .ok (.lload 6, 2) := by decide +kernel
theorem dX0_commonPart_32 : decode cX0_commonPart 32 = .ok (.lstore 4, 2) := by decide +kernel
theorem dX0_commonPart_34 : decode cX0_commonPart 34 = .ok (.lload 9, 2) := by decide +kernel
theorem dX0_commonPart_36 : decode cX0_commonPart 36 = .ok (.lstore 6, 2) := by decide +kernel
theorem dX0_commonPart_38 : decode cX0_commonPart 38 = .ok (.iinc 8 1, 3) := by decide +kernel
theorem dX0_commonPart_41 : decode cX0_commonPart 41 = .ok (.goto (-32), 3) := by decide +kernel
theorem dX0_commonPart_44 : decode cX0_commonPart 44 = .ok (.lload 4, 2) := by decide +kernel
theorem dX0_commonPart_46 : decode cX0_commonPart 46 = .ok (.lreturn, 1) := by decide +kernel
theorem dX0_power_0 : decode cX0_power 0 = .ok (.lconst 1, 1) := by decide +kernel
theorem dX0_power_1 : decode cX0_power 1 = .ok (.lstore_n 2, 1) := by decide +kernel
theorem dX0_power_2 : decode cX0_power 2 = .ok (.iconst 0, 1) := by decide +kernel
theorem dX0_power_3 : decode cX0_power 3 = .ok (.istore 4, 2) := by decide +kernel
theorem dX0_power_5 : decode cX0_power 5 = .ok (.iload 4, 2) := by decide +kernel
theorem dX0_power_7 : decode cX0_power 7 = .ok (.iload_n 1, 1) := by decide +kernel
theorem dX0_power_8 : decode cX0_power 8 = .ok (.if_icmp .ge 14, 3) := by decide +kernel
theorem dX0_power_11 : decode cX0_power 11 = .ok (.lload_n 2, 1) := by decide +kernel
theorem dX0_power_12 : decode cX0_power 12 = .ok (.iload_n 0, 1) := by decide +kernel
theorem dX0_power_13 : decode cX0_power 13 = .ok (.i2l, 1) := by decide +kernel
theorem dX0_power_14 : decode cX0_power 14 = .ok (.lmul, 1) := by decide +kernel
theorem dX0_power_15 : decode cX0_power 15 = .ok (.lstore_n 2, 1) := by decide +kernel
theorem dX0_power_16 : decode cX0_power 16 = .ok (.iinc 4 1, 3) := by decide +kernel
theorem dX0_power_19 : decode cX0_power 19 = .ok (.goto (-14), 3) := by decide +kernel
theorem dX0_power_22 : decode cX0_power 22 = .ok (.lload_n 2, 1) := by decide +kernel
theorem dX0_power_23 : decode cX0_power 23 = .ok (.lreturn, 1) := by decide +kernel
theorem dX0_chosen_0 : decode cX0_chosen 0 = .ok (.lconst 1, 1) := by decide +kernel
theorem dX0_chosen_1 : decode cX0_chosen 1 = .ok (.lstore_n 2, 1) := by decide +kernel
theorem dX0_chosen_2 : decode cX0_chosen 2 = .ok (.iconst 1, 1) := by decide +kernel
theorem dX0_chosen_3 : decode cX0_chosen 3 = .ok (.istore 4, 2) := by decide +kernel
theorem dX0_chosen_5 : decode cX0_chosen 5 = .ok (.iload 4, 2) := by decide +kernel
theorem dX0_chosen_7 : decode cX0_chosen 7 = .ok (.iload_n 1, 1) := by decide +kernel
theorem dX0_chosen_8 : decode cX0_chosen 8 = .ok (.if_icmp .gt 23, 3) := by decide +kernel
theorem dX0_chosen_11 : decode cX0_chosen 11 = .ok (.lload_n 2, 1) := by decide +kernel
theorem dX0_chosen_12 : decode cX0_chosen 12 = .ok (.iload_n 0, 1) := by decide +kernel
theorem dX0_chosen_13 : decode cX0_chosen 13 = .ok (.iload_n 1, 1) := by decide +kernel
theorem dX0_chosen_14 : decode cX0_chosen 14 = .ok (.isub, 1) := by decide +kernel
theorem dX0_chosen_15 : decode cX0_chosen 15 = .ok (.iload 4, 2) := by decide +kernel
theorem dX0_chosen_17 : decode cX0_chosen 17 = .ok (.iadd, 1) := by decide +kernel
theorem dX0_chosen_18 : decode cX0_chosen 18 = .ok (.i2l, 1) := by decide +kernel
theorem dX0_chosen_19 : decode cX0_chosen 19 = .ok (.lmul, 1) := by decide +kernel
theorem dX0_chosen_20 : decode cX0_chosen 20 = .ok (.iload 4, 2) := by decide +kernel
theorem dX0_chosen_22 : decode cX0_chosen 22 = .ok (.i2l, 1) := by decide +kernel
theorem dX0_chosen_23 : decode cX0_chosen 23 = .ok (.ldiv, 1) := by decide +kernel
theorem dX0_chosen_24 : decode cX0_chosen 24 = .ok (.lstore_n 2, 1) := by decide +kernel
theorem dX0_chosen_25 : decode cX0_chosen 25 = .ok (.iinc 4 1, 3) := by decide +kernel
theorem dX0_chosen_28 : decode cX0_chosen 28 = .ok (.goto (-23), 3) := by decide +kernel
theorem dX0_chosen_31 : decode cX0_chosen 31 = .ok (.lload_n 2, 1) := by decide +kernel
theorem dX0_chosen_32 : decode cX0_chosen 32 = .ok (.lreturn, 1) := by decide +kernel
theorem dX1_length_0 : decode cX1_length 0 = .ok (.lload_n 0, 1) := by decide +kernel
theorem dX1_length_1 : decode cX1_length 1 = .ok (.ldc2_w 11, 3) := by decide +kernel
theorem dX1_length_4 : decode cX1_length 4 = .ok (.land, 1) := by decide +kernel
theorem dX1_length_5 : decode cX1_length 5 = .ok (.l2i, 1) := by decide +kernel
theorem dX1_length_6 : decode cX1_length 6 = .ok (.ireturn, 1) := by decide +kernel
theorem dX1_syllable_0 : decode cX1_syllable 0 = .ok (.lload_n 0, 1) := by decide +kernel
theorem dX1_syllable_1 : decode cX1_syllable 1 = .ok (.iconst 4, 1) := by decide +kernel
theorem dX1_syllable_2 : decode cX1_syllable 2 = .ok (.iload_n 2, 1) := by decide +kernel
theorem dX1_syllable_3 : decode cX1_syllable 3 = .ok (.iconst 1, 1) := by decide +kernel
theorem dX1_syllable_4 : decode cX1_syllable 4 = .ok (.iadd, 1) := by decide +kernel
theorem dX1_syllable_5 : decode cX1_syllable 5 = .ok (.imul, 1) := by decide +kernel
theorem dX1_syllable_6 : decode cX1_syllable 6 = .ok (.lushr, 1) := by decide +kernel
theorem dX1_syllable_7 : decode cX1_syllable 7 = .ok (.ldc2_w 11, 3) := by decide +kernel
theorem dX1_syllable_10 : decode cX1_syllable 10 = .ok (.land, 1) := by decide +kernel
theorem dX1_syllable_11 : decode cX1_syllable 11 = .ok (.l2i, 1) := by decide +kernel
theorem dX1_syllable_12 : decode cX1_syllable 12 = .ok (.ireturn, 1) := by decide +kernel
theorem dX1_longer_0 : decode cX1_longer 0 = .ok (.lload_n 0, 1) := by decide +kernel
theorem dX1_longer_1 : decode cX1_longer 1 = .ok (.ldc2_w 11, 3) := by decide +kernel
theorem dX1_longer_4 : decode cX1_longer 4 = .ok (.land, 1) := by decide +kernel
theorem dX1_longer_5 : decode cX1_longer 5 = .ok (.l2i, 1) := by decide +kernel
theorem dX1_longer_6 : decode cX1_longer 6 = .ok (.istore_n 3, 1) := by decide +kernel
theorem dX1_longer_7 : decode cX1_longer 7 = .ok (.iload_n 3, 1) := by decide +kernel
theorem dX1_longer_8 : decode cX1_longer 8 = .ok (.bipush 12, 2) := by decide +kernel
theorem dX1_longer_10 : decode cX1_longer 10 = .ok (.if_icmp .lt 5, 3) := by decide +kernel
theorem dX1_longer_13 : decode cX1_longer 13 = .ok (.lload_n 0, 1) := by decide +kernel
theorem dX1_longer_14 : decode cX1_longer 14 = .ok (.lreturn, 1) := by decide +kernel
theorem dX1_longer_15 : decode cX1_longer 15 = .ok (.lload_n 0, 1) := by decide +kernel
theorem dX1_longer_16 : decode cX1_longer 16 = .ok (.iload_n 2, 1) := by decide +kernel
theorem dX1_longer_17 : decode cX1_longer 17 = .ok (.i2l, 1) := by decide +kernel
theorem dX1_longer_18 : decode cX1_longer 18 = .ok (.iconst 4, 1) := by decide +kernel
theorem dX1_longer_19 : decode cX1_longer 19 = .ok (.iload_n 3, 1) := by decide +kernel
theorem dX1_longer_20 : decode cX1_longer 20 = .ok (.iconst 1, 1) := by decide +kernel
theorem dX1_longer_21 : decode cX1_longer 21 = .ok (.iadd, 1) := by decide +kernel
theorem dX1_longer_22 : decode cX1_longer 22 = .ok (.imul, 1) := by decide +kernel
theorem dX1_longer_23 : decode cX1_longer 23 = .ok (.lshl, 1) := by decide +kernel
theorem dX1_longer_24 : decode cX1_longer 24 = .ok (.lor, 1) := by decide +kernel
theorem dX1_longer_25 : decode cX1_longer 25 = .ok (.lconst 1, 1) := by decide +kernel
theorem dX1_longer_26 : decode cX1_longer 26 = .ok (.ladd, 1) := by decide +kernel
theorem dX1_longer_27 : decode cX1_longer 27 = .ok (.lreturn, 1) := by decide +kernel
theorem dX1_cut_0 : decode cX1_cut 0 = .ok (.iload_n 2, 1) := by decide +kernel
theorem dX1_cut_1 : decode cX1_cut 1 = .ok (.i2l, 1) := by decide +kernel
theorem dX1_cut_2 : decode cX1_cut 2 = .ok (.lload_n 0, 1) := by decide +kernel
theorem dX1_cut_3 : decode cX1_cut 3 = .ok (.ldc2_w 11, 3) := by decide +kernel
theorem dX1_cut_6 : decode cX1_cut 6 = .ok (.land, 1) := by decide +kernel
theorem dX1_cut_7 : decode cX1_cut 7 = .ok (.lcmp, 1) := by decide +kernel
theorem dX1_cut_8 : decode cX1_cut 8 = .ok (.ifCond .lt 5, 3) := by decide +kernel
theorem dX1_cut_11 : decode cX1_cut 11 = .ok (.lload_n 0, 1) := by decide +kernel
theorem dX1_cut_12 : decode cX1_cut 12 = .ok (.lreturn, 1) := by decide +kernel
theorem dX1_cut_13 : decode cX1_cut 13 = .ok (.iload_n 2, 1) := by decide +kernel
theorem dX1_cut_14 : decode cX1_cut 14 = .ok (.ifCond .gt 5, 3) := by decide +kernel
theorem dX1_cut_17 : decode cX1_cut 17 = .ok (.lconst 0, 1) := by decide +kernel
theorem dX1_cut_18 : decode cX1_cut 18 = .ok (.lreturn, 1) := by decide +kernel
theorem dX1_cut_19 : decode cX1_cut 19 = .ok (.lconst 1, 1) := by decide +kernel
theorem dX1_cut_20 : decode cX1_cut 20 = .ok (.iconst 4, 1) := by decide +kernel
theorem dX1_cut_21 : decode cX1_cut 21 = .ok (.iload_n 2, 1) := by decide +kernel
theorem dX1_cut_22 : decode cX1_cut 22 = .ok (.iconst 1, 1) := by decide +kernel
theorem dX1_cut_23 : decode cX1_cut 23 = .ok (.iadd, 1) := by decide +kernel
theorem dX1_cut_24 : decode cX1_cut 24 = .ok (.imul, 1) := by decide +kernel
theorem dX1_cut_25 : decode cX1_cut 25 = .ok (.lshl, 1) := by decide +kernel
theorem dX1_cut_26 : decode cX1_cut 26 = .ok (.lconst 1, 1) := by decide +kernel
theorem dX1_cut_27 : decode cX1_cut 27 = .ok (.lsub, 1) := by decide +kernel
theorem dX1_cut_28 : decode cX1_cut 28 = .ok (.lstore_n 3, 1) := by decide +kernel
theorem dX1_cut_29 : decode cX1_cut 29 = .ok (.lload_n 0, 1) := by decide +kernel
theorem dX1_cut_30 : decode cX1_cut 30 = .ok (.lload_n 3, 1) := by decide +kernel
theorem dX1_cut_31 : decode cX1_cut 31 = .ok (.land, 1) := by decide +kernel
theorem dX1_cut_32 : decode cX1_cut 32 = .ok (.ldc2_w 13, 3) := by decide +kernel
theorem dX1_cut_35 : decode cX1_cut 35 = .ok (.land, 1) := by decide +kernel
theorem dX1_cut_36 : decode cX1_cut 36 = .ok (.iload_n 2, 1) := by decide +kernel
theorem dX1_cut_37 : decode cX1_cut 37 = .ok (.i2l, 1) := by decide +kernel
theorem dX1_cut_38 : decode cX1_cut 38 = .ok (.ladd, 1) := by decide +kernel
theorem dX1_cut_39 : decode cX1_cut 39 = .ok (.lreturn, 1) := by decide +kernel
theorem dX1_led_0 : decode cX1_led 0 = .ok (.lload_n 0, 1) := by decide +kernel
theorem dX1_led_1 : decode cX1_led 1 = .ok (.bipush 11, 2) := by decide +kernel
theorem dX1_led_3 : decode cX1_led 3 = .ok (.invokestatic 15, 3) := by decide +kernel
theorem dX1_led_6 : decode cX1_led 6 = .ok (.lstore_n 3, 1) := by decide +kernel
theorem dX1_led_7 : decode cX1_led 7 = .ok (.lload_n 3, 1) := by decide +kernel
theorem dX1_led_8 : decode cX1_led 8 = .ok (.ldc2_w 13, 3) := by decide +kernel
theorem dX1_led_11 : decode cX1_led 11 = .ok (.land, 1) := by decide +kernel
theorem dX1_led_12 : decode cX1_led 12 = .ok (.iconst 4, 1) := by decide +kernel
theorem dX1_led_13 : decode cX1_led 13 = .ok (.lshl, 1) := by decide +kernel
theorem dX1_led_14 : decode cX1_led 14 = .ok (.lstore 5, 2) := by decide +kernel
theorem dX1_led_16 : decode cX1_led 16 = .ok (.lload 5, 2) := by decide +kernel
theorem dX1_led_18 : decode cX1_led 18 = .ok (.iload_n 2, 1) := by decide +kernel
theorem dX1_led_19 : decode cX1_led 19 = .ok (.i2l, 1) := by decide +kernel
theorem dX1_led_20 : decode cX1_led 20 = .ok (.iconst 4, 1) := by decide +kernel
theorem dX1_led_21 : decode cX1_led 21 = .ok (.lshl, 1) := by decide +kernel
theorem dX1_led_22 : decode cX1_led 22 = .ok (.lor, 1) := by decide +kernel
theorem dX1_led_23 : decode cX1_led 23 = .ok (.lload_n 3, 1) := by decide +kernel
theorem dX1_led_24 : decode cX1_led 24 = .ok (.invokestatic 19, 3) := by decide +kernel
theorem dX1_led_27 : decode cX1_led 27 = .ok (.i2l, 1) := by decide +kernel
theorem dX1_led_28 : decode cX1_led 28 = .ok (.ladd, 1) := by decide +kernel
theorem dX1_led_29 : decode cX1_led 29 = .ok (.lconst 1, 1) := by decide +kernel
theorem dX1_led_30 : decode cX1_led 30 = .ok (.ladd, 1) := by decide +kernel
theorem dX1_led_31 : decode cX1_led 31 = .ok (.lreturn, 1) := by decide +kernel
theorem dX1_turned_0 : decode cX1_turned 0 = .ok (.lconst 0, 1) := by decide +kernel
theorem dX1_turned_1 : decode cX1_turned 1 = .ok (.lstore_n 2, 1) := by decide +kernel
theorem dX1_turned_2 : decode cX1_turned 2 = .ok (.lload_n 0, 1) := by decide +kernel
theorem dX1_turned_3 : decode cX1_turned 3 = .ok (.invokestatic 19, 3) := by decide +kernel
theorem dX1_turned_6 : decode cX1_turned 6 = .ok (.iconst 1, 1) := by decide +kernel
theorem dX1_turned_7 : decode cX1_turned 7 = .ok (.isub, 1) := by decide +kernel
theorem dX1_turned_8 : decode cX1_turned 8 = .ok (.istore 4, 2) := by decide +kernel
theorem dX1_turned_10 : decode cX1_turned 10 = .ok (.iload 4, 2) := by decide +kernel
theorem dX1_turned_12 : decode cX1_turned 12 = .ok (.ifCond .lt 20, 3) := by decide +kernel
theorem dX1_turned_15 : decode cX1_turned 15 = .ok (.lload_n 2, 1) := by decide +kernel
theorem dX1_turned_16 : decode cX1_turned 16 = .ok (.lload_n 0, 1) := by decide +kernel
theorem dX1_turned_17 : decode cX1_turned 17 = .ok (.iload 4, 2) := by decide +kernel
theorem dX1_turned_19 : decode cX1_turned 19 = .ok (.invokestatic 23, 3) := by decide +kernel
theorem dX1_turned_22 : decode cX1_turned 22 = .ok (.invokestatic 27, 3) := by decide +kernel
theorem dX1_turned_25 : decode cX1_turned 25 = .ok (.lstore_n 2, 1) := by decide +kernel
theorem dX1_turned_26 : decode cX1_turned 26 = .ok (.iinc 4 (-1), 3) := by decide +kernel
theorem dX1_turned_29 : decode cX1_turned 29 = .ok (.goto (-19), 3) := by decide +kernel
theorem dX1_turned_32 : decode cX1_turned 32 = .ok (.lload_n 2, 1) := by decide +kernel
theorem dX1_turned_33 : decode cX1_turned 33 = .ok (.lreturn, 1) := by decide +kernel
theorem dX1_raised_0 : decode cX1_raised 0 = .ok (.lconst 0, 1) := by decide +kernel
theorem dX1_raised_1 : decode cX1_raised 1 = .ok (.lstore_n 3, 1) := by decide +kernel
theorem dX1_raised_2 : decode cX1_raised 2 = .ok (.lload_n 0, 1) := by decide +kernel
theorem dX1_raised_3 : decode cX1_raised 3 = .ok (.invokestatic 19, 3) := by decide +kernel
theorem dX1_raised_6 : decode cX1_raised 6 = .ok (.istore 5, 2) := by decide +kernel
theorem dX1_raised_8 : decode cX1_raised 8 = .ok (.iconst 0, 1) := by decide +kernel
theorem dX1_raised_9 : decode cX1_raised 9 = .ok (.istore 6, 2) := by decide +kernel
theorem dX1_raised_11 : decode cX1_raised 11 = .ok (.iload 6, 2) := by decide +kernel
theorem dX1_raised_13 : decode cX1_raised 13 = .ok (.iload 5, 2) := by decide +kernel
theorem dX1_raised_15 : decode cX1_raised 15 = .ok (.if_icmp .ge 25, 3) := by decide +kernel
theorem dX1_raised_18 : decode cX1_raised 18 = .ok (.lload_n 3, 1) := by decide +kernel
theorem dX1_raised_19 : decode cX1_raised 19 = .ok (.lload_n 0, 1) := by decide +kernel
theorem dX1_raised_20 : decode cX1_raised 20 = .ok (.iload 6, 2) := by decide +kernel
theorem dX1_raised_22 : decode cX1_raised 22 = .ok (.invokestatic 23, 3) := by decide +kernel
theorem dX1_raised_25 : decode cX1_raised 25 = .ok (.iload_n 2, 1) := by decide +kernel
theorem dX1_raised_26 : decode cX1_raised 26 = .ok (.iadd, 1) := by decide +kernel
theorem dX1_raised_27 : decode cX1_raised 27 = .ok (.bipush 16, 2) := by decide +kernel
theorem dX1_raised_29 : decode cX1_raised 29 = .ok (.irem, 1) := by decide +kernel
theorem dX1_raised_30 : decode cX1_raised 30 = .ok (.invokestatic 27, 3) := by decide +kernel
theorem dX1_raised_33 : decode cX1_raised 33 = .ok (.lstore_n 3, 1) := by decide +kernel
theorem dX1_raised_34 : decode cX1_raised 34 = .ok (.iinc 6 1, 3) := by decide +kernel
theorem dX1_raised_37 : decode cX1_raised 37 = .ok (.goto (-26), 3) := by decide +kernel
theorem dX1_raised_40 : decode cX1_raised 40 = .ok (.lload_n 3, 1) := by decide +kernel
theorem dX1_raised_41 : decode cX1_raised 41 = .ok (.lreturn, 1) := by decide +kernel
theorem dX1_sounds_0 : decode cX1_sounds 0 = .ok (.iconst 0, 1) := by decide +kernel
theorem dX1_sounds_1 : decode cX1_sounds 1 = .ok (.istore_n 2, 1) := by decide +kernel
theorem dX1_sounds_2 : decode cX1_sounds 2 = .ok (.lload_n 0, 1) := by decide +kernel
theorem dX1_sounds_3 : decode cX1_sounds 3 = .ok (.invokestatic 19, 3) := by decide +kernel
theorem dX1_sounds_6 : decode cX1_sounds 6 = .ok (.istore_n 3, 1) := by decide +kernel
theorem dX1_sounds_7 : decode cX1_sounds 7 = .ok (.iconst 0, 1) := by decide +kernel
theorem dX1_sounds_8 : decode cX1_sounds 8 = .ok (.istore 4, 2) := by decide +kernel
theorem dX1_sounds_10 : decode cX1_sounds 10 = .ok (.iload 4, 2) := by decide +kernel
theorem dX1_sounds_12 : decode cX1_sounds 12 = .ok (.iload_n 3, 1) := by decide +kernel
theorem dX1_sounds_13 : decode cX1_sounds 13 = .ok (.if_icmp .ge 20, 3) := by decide +kernel
theorem dX1_sounds_16 : decode cX1_sounds 16 = .ok (.iload_n 2, 1) := by decide +kernel
theorem dX1_sounds_17 : decode cX1_sounds 17 = .ok (.iconst 1, 1) := by decide +kernel
theorem dX1_sounds_18 : decode cX1_sounds 18 = .ok (.lload_n 0, 1) := by decide +kernel
theorem dX1_sounds_19 : decode cX1_sounds 19 = .ok (.iload 4, 2) := by decide +kernel
theorem dX1_sounds_21 : decode cX1_sounds 21 = .ok (.invokestatic 23, 3) := by decide +kernel
theorem dX1_sounds_24 : decode cX1_sounds 24 = .ok (.ishl, 1) := by decide +kernel
theorem dX1_sounds_25 : decode cX1_sounds 25 = .ok (.ior, 1) := by decide +kernel
theorem dX1_sounds_26 : decode cX1_sounds 26 = .ok (.istore_n 2, 1) := by decide +kernel
theorem dX1_sounds_27 : decode cX1_sounds 27 = .ok (.iinc 4 1, 3) := by decide +kernel
theorem dX1_sounds_30 : decode cX1_sounds 30 = .ok (.goto (-20), 3) := by decide +kernel
theorem dX1_sounds_33 : decode cX1_sounds 33 = .ok (.iload_n 2, 1) := by decide +kernel
theorem dX1_sounds_34 : decode cX1_sounds 34 = .ok (.ireturn, 1) := by decide +kernel
theorem dX1_holds_0 : decode cX1_holds 0 = .ok (.lload_n 0, 1) := by decide +kernel
theorem dX1_holds_1 : decode cX1_holds 1 = .ok (.invokestatic 19, 3) := by decide +kernel
theorem dX1_holds_4 : decode cX1_holds 4 = .ok (.lload_n 2, 1) := by decide +kernel
theorem dX1_holds_5 : decode cX1_holds 5 = .ok (.invokestatic 19, 3) := by decide +kernel
theorem dX1_holds_8 : decode cX1_holds 8 = .ok (.isub, 1) := by decide +kernel
theorem dX1_holds_9 : decode cX1_holds 9 = .ok (.istore 4, 2) := by decide +kernel
theorem dX1_holds_11 : decode cX1_holds 11 = .ok (.iconst 0, 1) := by decide +kernel
theorem dX1_holds_12 : decode cX1_holds 12 = .ok (.istore 5, 2) := by decide +kernel
theorem dX1_holds_14 : decode cX1_holds 14 = .ok (.iload 5, 2) := by decide +kernel
theorem dX1_holds_16 : decode cX1_holds 16 = .ok (.iload 4, 2) := by decide +kernel
theorem dX1_holds_18 : decode cX1_holds 18 = .ok (.if_icmp .gt 21, 3) := by decide +kernel
theorem dX1_holds_21 : decode cX1_holds 21 = .ok (.lload_n 0, 1) := by decide +kernel
theorem dX1_holds_22 : decode cX1_holds 22 = .ok (.iload 5, 2) := by decide +kernel
theorem dX1_holds_24 : decode cX1_holds 24 = .ok (.lload_n 2, 1) := by decide +kernel
theorem dX1_holds_25 : decode cX1_holds 25 = .ok (.invokestatic 30, 3) := by decide +kernel
theorem dX1_holds_28 : decode cX1_holds 28 = .ok (.ifCond .eq 5, 3) := by decide +kernel
theorem dX1_holds_31 : decode cX1_holds 31 = .ok (.iconst 1, 1) := by decide +kernel
theorem dX1_holds_32 : decode cX1_holds 32 = .ok (.ireturn, 1) := by decide +kernel
theorem dX1_holds_33 : decode cX1_holds 33 = .ok (.iinc 5 1, 3) := by decide +kernel
theorem dX1_holds_36 : decode cX1_holds 36 = .ok (.goto (-22), 3) := by decide +kernel
theorem dX1_holds_39 : decode cX1_holds 39 = .ok (.iconst 0, 1) := by decide +kernel
theorem dX1_holds_40 : decode cX1_holds 40 = .ok (.ireturn, 1) := by decide +kernel
theorem dX1_ofCode_0 : decode cX1_ofCode 0 = .ok (.iload_n 0, 1) := by decide +kernel
theorem dX1_ofCode_1 : decode cX1_ofCode 1 = .ok (.ifCond .gt 5, 3) := by decide +kernel
theorem dX1_ofCode_4 : decode cX1_ofCode 4 = .ok (.lconst 0, 1) := by decide +kernel
theorem dX1_ofCode_5 : decode cX1_ofCode 5 = .ok (.lreturn, 1) := by decide +kernel
theorem dX1_ofCode_6 : decode cX1_ofCode 6 = .ok (.iload_n 0, 1) := by decide +kernel
theorem dX1_ofCode_7 : decode cX1_ofCode 7 = .ok (.bipush 16, 2) := by decide +kernel
theorem dX1_ofCode_9 : decode cX1_ofCode 9 = .ok (.if_icmp .gt 11, 3) := by decide +kernel
theorem dX1_ofCode_12 : decode cX1_ofCode 12 = .ok (.lconst 0, 1) := by decide +kernel
theorem dX1_ofCode_13 : decode cX1_ofCode 13 = .ok (.iload_n 0, 1) := by decide +kernel
theorem dX1_ofCode_14 : decode cX1_ofCode 14 = .ok (.iconst 1, 1) := by decide +kernel
theorem dX1_ofCode_15 : decode cX1_ofCode 15 = .ok (.isub, 1) := by decide +kernel
theorem dX1_ofCode_16 : decode cX1_ofCode 16 = .ok (.invokestatic 27, 3) := by decide +kernel
theorem dX1_ofCode_19 : decode cX1_ofCode 19 = .ok (.lreturn, 1) := by decide +kernel
theorem dX1_ofCode_20 : decode cX1_ofCode 20 = .ok (.lconst 0, 1) := by decide +kernel
theorem dX1_ofCode_21 : decode cX1_ofCode 21 = .ok (.iload_n 0, 1) := by decide +kernel
theorem dX1_ofCode_22 : decode cX1_ofCode 22 = .ok (.bipush 17, 2) := by decide +kernel
theorem dX1_ofCode_24 : decode cX1_ofCode 24 = .ok (.idiv, 1) := by decide +kernel
theorem dX1_ofCode_25 : decode cX1_ofCode 25 = .ok (.iconst 1, 1) := by decide +kernel
theorem dX1_ofCode_26 : decode cX1_ofCode 26 = .ok (.isub, 1) := by decide +kernel
theorem dX1_ofCode_27 : decode cX1_ofCode 27 = .ok (.invokestatic 27, 3) := by decide +kernel
theorem dX1_ofCode_30 : decode cX1_ofCode 30 = .ok (.iload_n 0, 1) := by decide +kernel
theorem dX1_ofCode_31 : decode cX1_ofCode 31 = .ok (.bipush 17, 2) := by decide +kernel
theorem dX1_ofCode_33 : decode cX1_ofCode 33 = .ok (.irem, 1) := by decide +kernel
theorem dX1_ofCode_34 : decode cX1_ofCode 34 = .ok (.iconst 1, 1) := by decide +kernel
theorem dX1_ofCode_35 : decode cX1_ofCode 35 = .ok (.isub, 1) := by decide +kernel
theorem dX1_ofCode_36 : decode cX1_ofCode 36 = .ok (.invokestatic 27, 3) := by decide +kernel
theorem dX1_ofCode_39 : decode cX1_ofCode 39 = .ok (.lreturn, 1) := by decide +kernel
theorem dX1_isCode_0 : decode cX1_isCode 0 = .ok (.iload_n 0, 1) := by decide +kernel
theorem dX1_isCode_1 : decode cX1_isCode 1 = .ok (.ifCond .eq 10, 3) := by decide +kernel
theorem dX1_isCode_4 : decode cX1_isCode 4 = .ok (.iload_n 0, 1) := by decide +kernel
theorem dX1_isCode_5 : decode cX1_isCode 5 = .ok (.bipush 17, 2) := by decide +kernel
theorem dX1_isCode_7 : decode cX1_isCode 7 = .ok (.irem, 1) := by decide +kernel
theorem dX1_isCode_8 : decode cX1_isCode 8 = .ok (.ifCond .eq 7, 3) := by decide +kernel
theorem dX1_isCode_11 : decode cX1_isCode 11 = .ok (.iconst 1, 1) := by decide +kernel
theorem dX1_isCode_12 : decode cX1_isCode 12 = .ok (.goto 4, 3) := by decide +kernel
theorem dX1_isCode_15 : decode cX1_isCode 15 = .ok (.iconst 0, 1) := by decide +kernel
theorem dX1_isCode_16 : decode cX1_isCode 16 = .ok (.ireturn, 1) := by decide +kernel
theorem dX1_isAt_0 : decode cX1_isAt 0 = .ok (.lconst 1, 1) := by decide +kernel
theorem dX1_isAt_1 : decode cX1_isAt 1 = .ok (.iconst 4, 1) := by decide +kernel
theorem dX1_isAt_2 : decode cX1_isAt 2 = .ok (.lload_n 3, 1) := by decide +kernel
theorem dX1_isAt_3 : decode cX1_isAt 3 = .ok (.invokestatic 19, 3) := by decide +kernel
theorem dX1_isAt_6 : decode cX1_isAt 6 = .ok (.imul, 1) := by decide +kernel
theorem dX1_isAt_7 : decode cX1_isAt 7 = .ok (.lshl, 1) := by decide +kernel
theorem dX1_isAt_8 : decode cX1_isAt 8 = .ok (.lconst 1, 1) := by decide +kernel
theorem dX1_isAt_9 : decode cX1_isAt 9 = .ok (.lsub, 1) := by decide +kernel
theorem dX1_isAt_10 : decode cX1_isAt 10 = .ok (.lstore 5, 2) := by decide +kernel
theorem dX1_isAt_12 : decode cX1_isAt 12 = .ok (.lload_n 0, 1) := by decide +kernel
theorem dX1_isAt_13 : decode cX1_isAt 13 = .ok (.iconst 4, 1) := by decide +kernel
theorem dX1_isAt_14 : decode cX1_isAt 14 = .ok (.iload_n 2, 1) := by decide +kernel
theorem dX1_isAt_15 : decode cX1_isAt 15 = .ok (.iconst 1, 1) := by decide +kernel
theorem dX1_isAt_16 : decode cX1_isAt 16 = .ok (.iadd, 1) := by decide +kernel
theorem dX1_isAt_17 : decode cX1_isAt 17 = .ok (.imul, 1) := by decide +kernel
theorem dX1_isAt_18 : decode cX1_isAt 18 = .ok (.lushr, 1) := by decide +kernel
theorem dX1_isAt_19 : decode cX1_isAt 19 = .ok (.lload 5, 2) := by decide +kernel
theorem dX1_isAt_21 : decode cX1_isAt 21 = .ok (.land, 1) := by decide +kernel
theorem dX1_isAt_22 : decode cX1_isAt 22 = .ok (.lload_n 3, 1) := by decide +kernel
theorem dX1_isAt_23 : decode cX1_isAt 23 = .ok (.iconst 4, 1) := by decide +kernel
theorem dX1_isAt_24 : decode cX1_isAt 24 = .ok (.lushr, 1) := by decide +kernel
theorem dX1_isAt_25 : decode cX1_isAt 25 = .ok (.lcmp, 1) := by decide +kernel
theorem dX1_isAt_26 : decode cX1_isAt 26 = .ok (.ifCond .ne 7, 3) := by decide +kernel
theorem dX1_isAt_29 : decode cX1_isAt 29 = .ok (.iconst 1, 1) := by decide +kernel
theorem dX1_isAt_30 : decode cX1_isAt 30 = .ok (.goto 4, 3) := by decide +kernel
theorem dX1_isAt_33 : decode cX1_isAt 33 = .ok (.iconst 0, 1) := by decide +kernel
theorem dX1_isAt_34 : decode cX1_isAt 34 = .ok (.ireturn, 1) := by decide +kernel
theorem dX2_init_0 : decode cX2_init 0 = .ok (.aload_n 0, 1) := by decide +kernel
theorem dX2_init_1 : decode cX2_init 1 = .ok (.invokespecial 3, 3) := by decide +kernel
theorem dX2_init_4 : decode cX2_init 4 = .ok (.aload_n 0, 1) := by decide +kernel
theorem dX2_init_5 : decode cX2_init 5 = .ok (.bipush 8, 2) := by decide +kernel
theorem dX2_init_7 : decode cX2_init 7 = .ok (.newarray .int, 2) := by decide +kernel
theorem dX2_init_9 : decode cX2_init 9 = .ok (.putfield 9, 3) := by decide +kernel
theorem dX2_init_12 : decode cX2_init 12 = .ok (.aload_n 0, 1) := by decide +kernel
theorem dX2_init_13 : decode cX2_init 13 = .ok (.bipush 8, 2) := by decide +kernel
theorem dX2_init_15 : decode cX2_init 15 = .ok (.newarray .int, 2) := by decide +kernel
theorem dX2_init_17 : decode cX2_init 17 = .ok (.putfield 15, 3) := by decide +kernel
theorem dX2_init_20 : decode cX2_init 20 = .ok (.aload_n 0, 1) := by decide +kernel
theorem dX2_init_21 : decode cX2_init 21 = .ok (.bipush 8, 2) := by decide +kernel
theorem dX2_init_23 : decode cX2_init 23 = .ok (.newarray .long, 2) := by decide +kernel
theorem dX2_init_25 : decode cX2_init 25 = .ok (.putfield 18, 3) := by decide +kernel
theorem dX2_init_28 : decode cX2_init 28 = .ok (.aload_n 0, 1) := by decide +kernel
theorem dX2_init_29 : decode cX2_init 29 = .ok (.bipush 8, 2) := by decide +kernel
theorem dX2_init_31 : decode cX2_init 31 = .ok (.newarray .long, 2) := by decide +kernel
theorem dX2_init_33 : decode cX2_init 33 = .ok (.putfield 22, 3) := by decide +kernel
theorem dX2_init_36 : decode cX2_init 36 = .ok (.return_, 1) := by decide +kernel
theorem dX2_put_0 : decode cX2_put 0 = .ok (.aload_n 0, 1) := by decide +kernel
theorem dX2_put_1 : decode cX2_put 1 = .ok (.getfield 25, 3) := by decide +kernel
theorem dX2_put_4 : decode cX2_put 4 = .ok (.bipush 8, 2) := by decide +kernel
theorem dX2_put_6 : decode cX2_put 6 = .ok (.if_icmp .lt 4, 3) := by decide +kernel
theorem dX2_put_9 : decode cX2_put 9 = .ok (.return_, 1) := by decide +kernel
theorem dX2_put_10 : decode cX2_put 10 = .ok (.aload_n 0, 1) := by decide +kernel
theorem dX2_put_11 : decode cX2_put 11 = .ok (.getfield 9, 3) := by decide +kernel
theorem dX2_put_14 : decode cX2_put 14 = .ok (.aload_n 0, 1) := by decide +kernel
theorem dX2_put_15 : decode cX2_put 15 = .ok (.getfield 25, 3) := by decide +kernel
theorem dX2_put_18 : decode cX2_put 18 = .ok (.iload_n 1, 1) := by decide +kernel
theorem dX2_put_19 : decode cX2_put 19 = .ok (.iastore, 1) := by decide +kernel
theorem dX2_put_20 : decode cX2_put 20 = .ok (.aload_n 0, 1) := by decide +kernel
theorem dX2_put_21 : decode cX2_put 21 = .ok (.getfield 15, 3) := by decide +kernel
theorem dX2_put_24 : decode cX2_put 24 = .ok (.aload_n 0, 1) := by decide +kernel
theorem dX2_put_25 : decode cX2_put 25 = .ok (.getfield 25, 3) := by decide +kernel
theorem dX2_put_28 : decode cX2_put 28 = .ok (.iload_n 2, 1) := by decide +kernel
theorem dX2_put_29 : decode cX2_put 29 = .ok (.iastore, 1) := by decide +kernel
theorem dX2_put_30 : decode cX2_put 30 = .ok (.aload_n 0, 1) := by decide +kernel
theorem dX2_put_31 : decode cX2_put 31 = .ok (.getfield 18, 3) := by decide +kernel
theorem dX2_put_34 : decode cX2_put 34 = .ok (.aload_n 0, 1) := by decide +kernel
theorem dX2_put_35 : decode cX2_put 35 = .ok (.getfield 25, 3) := by decide +kernel
theorem dX2_put_38 : decode cX2_put 38 = .ok (.lload_n 3, 1) := by decide +kernel
theorem dX2_put_39 : decode cX2_put 39 = .ok (.lastore, 1) := by decide +kernel
theorem dX2_put_40 : decode cX2_put 40 = .ok (.aload_n 0, 1) := by decide +kernel
theorem dX2_put_41 : decode cX2_put 41 = .ok (.getfield 22, 3) := by decide +kernel
theorem dX2_put_44 : decode cX2_put 44 = .ok (.aload_n 0, 1) := by decide +kernel
theorem dX2_put_45 : decode cX2_put 45 = .ok (.getfield 25, 3) := by decide +kernel
theorem dX2_put_48 : decode cX2_put 48 = .ok (.lload 5, 2) := by decide +kernel
theorem dX2_put_50 : decode cX2_put 50 = .ok (.lastore, 1) := by decide +kernel
theorem dX2_put_51 : decode cX2_put 51 = .ok (.aload_n 0, 1) := by decide +kernel
theorem dX2_put_52 : decode cX2_put 52 = .ok (.dup, 1) := by decide +kernel
theorem dX2_put_53 : decode cX2_put 53 = .ok (.getfield 25, 3) := by decide +kernel
theorem dX2_put_56 : decode cX2_put 56 = .ok (.iconst 1, 1) := by decide +kernel
theorem dX2_put_57 : decode cX2_put 57 = .ok (.iadd, 1) := by decide +kernel
theorem dX2_put_58 : decode cX2_put 58 = .ok (.putfield 25, 3) := by decide +kernel
theorem dX2_put_61 : decode cX2_put 61 = .ok (.return_, 1) := by decide +kernel
theorem dX2_copyOf_0 : decode cX2_copyOf 0 = .ok (.aload_n 1, 1) := by decide +kernel
theorem dX2_copyOf_1 : decode cX2_copyOf 1 = .ok (.getfield 9, 3) := by decide +kernel
theorem dX2_copyOf_4 : decode cX2_copyOf 4 = .ok (.iconst 0, 1) := by decide +kernel
theorem dX2_copyOf_5 : decode cX2_copyOf 5 = .ok (.aload_n 0, 1) := by decide +kernel
theorem dX2_copyOf_6 : decode cX2_copyOf 6 = .ok (.getfield 9, 3) := by decide +kernel
theorem dX2_copyOf_9 : decode cX2_copyOf 9 = .ok (.iconst 0, 1) := by decide +kernel
theorem dX2_copyOf_10 : decode cX2_copyOf 10 = .ok (.bipush 8, 2) := by decide +kernel
theorem dX2_copyOf_12 : decode cX2_copyOf 12 = .ok (.invokestatic 29, 3) := by decide +kernel
theorem dX2_copyOf_15 : decode cX2_copyOf 15 = .ok (.aload_n 1, 1) := by decide +kernel
theorem dX2_copyOf_16 : decode cX2_copyOf 16 = .ok (.getfield 15, 3) := by decide +kernel
theorem dX2_copyOf_19 : decode cX2_copyOf 19 = .ok (.iconst 0, 1) := by decide +kernel
theorem dX2_copyOf_20 : decode cX2_copyOf 20 = .ok (.aload_n 0, 1) := by decide +kernel
theorem dX2_copyOf_21 : decode cX2_copyOf 21 = .ok (.getfield 15, 3) := by decide +kernel
theorem dX2_copyOf_24 : decode cX2_copyOf 24 = .ok (.iconst 0, 1) := by decide +kernel
theorem dX2_copyOf_25 : decode cX2_copyOf 25 = .ok (.bipush 8, 2) := by decide +kernel
theorem dX2_copyOf_27 : decode cX2_copyOf 27 = .ok (.invokestatic 29, 3) := by decide +kernel
theorem dX2_copyOf_30 : decode cX2_copyOf 30 = .ok (.aload_n 1, 1) := by decide +kernel
theorem dX2_copyOf_31 : decode cX2_copyOf 31 = .ok (.getfield 18, 3) := by decide +kernel
theorem dX2_copyOf_34 : decode cX2_copyOf 34 = .ok (.iconst 0, 1) := by decide +kernel
theorem dX2_copyOf_35 : decode cX2_copyOf 35 = .ok (.aload_n 0, 1) := by decide +kernel
theorem dX2_copyOf_36 : decode cX2_copyOf 36 = .ok (.getfield 18, 3) := by decide +kernel
theorem dX2_copyOf_39 : decode cX2_copyOf 39 = .ok (.iconst 0, 1) := by decide +kernel
theorem dX2_copyOf_40 : decode cX2_copyOf 40 = .ok (.bipush 8, 2) := by decide +kernel
theorem dX2_copyOf_42 : decode cX2_copyOf 42 = .ok (.invokestatic 29, 3) := by decide +kernel
theorem dX2_copyOf_45 : decode cX2_copyOf 45 = .ok (.aload_n 1, 1) := by decide +kernel
theorem dX2_copyOf_46 : decode cX2_copyOf 46 = .ok (.getfield 22, 3) := by decide +kernel
theorem dX2_copyOf_49 : decode cX2_copyOf 49 = .ok (.iconst 0, 1) := by decide +kernel
theorem dX2_copyOf_50 : decode cX2_copyOf 50 = .ok (.aload_n 0, 1) := by decide +kernel
theorem dX2_copyOf_51 : decode cX2_copyOf 51 = .ok (.getfield 22, 3) := by decide +kernel
theorem dX2_copyOf_54 : decode cX2_copyOf 54 = .ok (.iconst 0, 1) := by decide +kernel
theorem dX2_copyOf_55 : decode cX2_copyOf 55 = .ok (.bipush 8, 2) := by decide +kernel
theorem dX2_copyOf_57 : decode cX2_copyOf 57 = .ok (.invokestatic 29, 3) := by decide +kernel
theorem dX2_copyOf_60 : decode cX2_copyOf 60 = .ok (.aload_n 0, 1) := by decide +kernel
theorem dX2_copyOf_61 : decode cX2_copyOf 61 = .ok (.aload_n 1, 1) := by decide +kernel
theorem dX2_copyOf_62 : decode cX2_copyOf 62 = .ok (.getfield 25, 3) := by decide +kernel
theorem dX2_copyOf_65 : decode cX2_copyOf 65 = .ok (.putfield 25, 3) := by decide +kernel
theorem dX2_copyOf_68 : decode cX2_copyOf 68 = .ok (.return_, 1) := by decide +kernel
theorem dX2_agreeWith_0 : decode cX2_agreeWith 0 = .ok (.iconst 0, 1) := by decide +kernel
theorem dX2_agreeWith_1 : decode cX2_agreeWith 1 = .ok (.istore_n 3, 1) := by decide +kernel
theorem dX2_agreeWith_2 : decode cX2_agreeWith 2 = .ok (.iload_n 3, 1) := by decide +kernel
theorem dX2_agreeWith_3 : decode cX2_agreeWith 3 = .ok (.aload_n 0, 1) := by decide +kernel
theorem dX2_agreeWith_4 : decode cX2_agreeWith 4 = .ok (.getfield 25, 3) := by decide +kernel
theorem dX2_agreeWith_7 : decode cX2_agreeWith 7 = .ok (.if_icmp .ge 47, 3) := by decide +kernel
theorem dX2_agreeWith_10 : decode cX2_agreeWith 10 = .ok (.aload_n 0, 1) := by decide +kernel
theorem dX2_agreeWith_11 : decode cX2_agreeWith 11 = .ok (.getfield 9, 3) := by decide +kernel
theorem dX2_agreeWith_14 : decode cX2_agreeWith 14 = .ok (.iload_n 3, 1) := by decide +kernel
theorem dX2_agreeWith_15 : decode cX2_agreeWith 15 = .ok (.iaload, 1) := by decide +kernel
theorem dX2_agreeWith_16 : decode cX2_agreeWith 16 = .ok (.iload_n 1, 1) := by decide +kernel
theorem dX2_agreeWith_17 : decode cX2_agreeWith 17 = .ok (.if_icmp .ne 31, 3) := by decide +kernel
theorem dX2_agreeWith_20 : decode cX2_agreeWith 20 = .ok (.aload_n 0, 1) := by decide +kernel
theorem dX2_agreeWith_21 : decode cX2_agreeWith 21 = .ok (.getfield 18, 3) := by decide +kernel
theorem dX2_agreeWith_24 : decode cX2_agreeWith 24 = .ok (.iload_n 3, 1) := by decide +kernel
theorem dX2_agreeWith_25 : decode cX2_agreeWith 25 = .ok (.laload, 1) := by decide +kernel
theorem dX2_agreeWith_26 : decode cX2_agreeWith 26 = .ok (.iload_n 2, 1) := by decide +kernel
theorem dX2_agreeWith_27 : decode cX2_agreeWith 27 = .ok (.aload_n 0, 1) := by decide +kernel
theorem dX2_agreeWith_28 : decode cX2_agreeWith 28 = .ok (.getfield 15, 3) := by decide +kernel
theorem dX2_agreeWith_31 : decode cX2_agreeWith 31 = .ok (.iload_n 3, 1) := by decide +kernel
theorem dX2_agreeWith_32 : decode cX2_agreeWith 32 = .ok (.iaload, 1) := by decide +kernel
theorem dX2_agreeWith_33 : decode cX2_agreeWith 33 = .ok (.invokestatic 35, 3) := by decide +kernel
theorem dX2_agreeWith_36 : decode cX2_agreeWith 36 = .ok (.aload_n 0, 1) := by decide +kernel
theorem dX2_agreeWith_37 : decode cX2_agreeWith 37 = .ok (.getfield 22, 3) := by decide +kernel
theorem dX2_agreeWith_40 : decode cX2_agreeWith 40 = .ok (.iload_n 3, 1) := by decide +kernel
theorem dX2_agreeWith_41 : decode cX2_agreeWith 41 = .ok (.laload, 1) := by decide +kernel
theorem dX2_agreeWith_42 : decode cX2_agreeWith 42 = .ok (.lcmp, 1) := by decide +kernel
theorem dX2_agreeWith_43 : decode cX2_agreeWith 43 = .ok (.ifCond .eq 5, 3) := by decide +kernel
theorem dX2_agreeWith_46 : decode cX2_agreeWith 46 = .ok (.iconst 0, 1) := by decide +kernel
theorem dX2_agreeWith_47 : decode cX2_agreeWith 47 = .ok (.ireturn, 1) := by decide +kernel
theorem dX2_agreeWith_48 : decode cX2_agreeWith 48 = .ok (.iinc 3 1, 3) := by decide +kernel
theorem dX2_agreeWith_51 : decode cX2_agreeWith 51 = .ok (.goto (-49), 3) := by decide +kernel
theorem dX2_agreeWith_54 : decode cX2_agreeWith 54 = .ok (.iconst 1, 1) := by decide +kernel
theorem dX2_agreeWith_55 : decode cX2_agreeWith 55 = .ok (.ireturn, 1) := by decide +kernel
theorem dX3_init_0 : decode cX3_init 0 = .ok (.aload_n 0, 1) := by decide +kernel
theorem dX3_init_1 : decode cX3_init 1 = .ok (.invokespecial 3, 3) := by decide +kernel
theorem dX3_init_4 : decode cX3_init 4 = .ok (.aload_n 0, 1) := by decide +kernel
theorem dX3_init_5 : decode cX3_init 5 = .ok (.sipush 150, 3) := by decide +kernel
theorem dX3_init_8 : decode cX3_init 8 = .ok (.newarray .int, 2) := by decide +kernel
theorem dX3_init_10 : decode cX3_init 10 = .ok (.putfield 9, 3) := by decide +kernel
theorem dX3_init_13 : decode cX3_init 13 = .ok (.return_, 1) := by decide +kernel
theorem dX3_put_0 : decode cX3_put 0 = .ok (.aload_n 0, 1) := by decide +kernel
theorem dX3_put_1 : decode cX3_put 1 = .ok (.getfield 15, 3) := by decide +kernel
theorem dX3_put_4 : decode cX3_put 4 = .ok (.sipush 150, 3) := by decide +kernel
theorem dX3_put_7 : decode cX3_put 7 = .ok (.if_icmp .ge 23, 3) := by decide +kernel
theorem dX3_put_10 : decode cX3_put 10 = .ok (.aload_n 0, 1) := by decide +kernel
theorem dX3_put_11 : decode cX3_put 11 = .ok (.getfield 9, 3) := by decide +kernel
theorem dX3_put_14 : decode cX3_put 14 = .ok (.aload_n 0, 1) := by decide +kernel
theorem dX3_put_15 : decode cX3_put 15 = .ok (.getfield 15, 3) := by decide +kernel
theorem dX3_put_18 : decode cX3_put 18 = .ok (.iload_n 1, 1) := by decide +kernel
theorem dX3_put_19 : decode cX3_put 19 = .ok (.iastore, 1) := by decide +kernel
theorem dX3_put_20 : decode cX3_put 20 = .ok (.aload_n 0, 1) := by decide +kernel
theorem dX3_put_21 : decode cX3_put 21 = .ok (.dup, 1) := by decide +kernel
theorem dX3_put_22 : decode cX3_put 22 = .ok (.getfield 15, 3) := by decide +kernel
theorem dX3_put_25 : decode cX3_put 25 = .ok (.iconst 1, 1) := by decide +kernel
theorem dX3_put_26 : decode cX3_put 26 = .ok (.iadd, 1) := by decide +kernel
theorem dX3_put_27 : decode cX3_put 27 = .ok (.putfield 15, 3) := by decide +kernel
theorem dX3_put_30 : decode cX3_put 30 = .ok (.return_, 1) := by decide +kernel
theorem dX3_readInto_0 : decode cX3_readInto 0 = .ok (.aload_n 0, 1) := by decide +kernel
theorem dX3_readInto_1 : decode cX3_readInto 1 = .ok (.iconst 0, 1) := by decide +kernel
theorem dX3_readInto_2 : decode cX3_readInto 2 = .ok (.putfield 19, 3) := by decide +kernel
theorem dX3_readInto_5 : decode cX3_readInto 5 = .ok (.aload_n 0, 1) := by decide +kernel
theorem dX3_readInto_6 : decode cX3_readInto 6 = .ok (.invokevirtual 22, 3) := by decide +kernel
theorem dX3_readInto_9 : decode cX3_readInto 9 = .ok (.aload_n 0, 1) := by decide +kernel
theorem dX3_readInto_10 : decode cX3_readInto 10 = .ok (.aload_n 1, 1) := by decide +kernel
theorem dX3_readInto_11 : decode cX3_readInto 11 = .ok (.invokevirtual 25, 3) := by decide +kernel
theorem dX3_readInto_14 : decode cX3_readInto 14 = .ok (.ifCond .ne 5, 3) := by decide +kernel
theorem dX3_readInto_17 : decode cX3_readInto 17 = .ok (.iconst (-1), 1) := by decide +kernel
theorem dX3_readInto_18 : decode cX3_readInto 18 = .ok (.ireturn, 1) := by decide +kernel
theorem dX3_readInto_19 : decode cX3_readInto 19 = .ok (.iconst 1, 1) := by decide +kernel
theorem dX3_readInto_20 : decode cX3_readInto 20 = .ok (.istore_n 2, 1) := by decide +kernel
theorem dX3_readInto_21 : decode cX3_readInto 21 = .ok (.iconst 0, 1) := by decide +kernel
theorem dX3_readInto_22 : decode cX3_readInto 22 = .ok (.istore_n 3, 1) := by decide +kernel
theorem dX3_readInto_23 : decode cX3_readInto 23 = .ok (.iload_n 3, 1) := by decide +kernel
theorem dX3_readInto_24 : decode cX3_readInto 24 = .ok (.aload_n 0, 1) := by decide +kernel
theorem dX3_readInto_25 : decode cX3_readInto 25 = .ok (.getfield 15, 3) := by decide +kernel
theorem dX3_readInto_28 : decode cX3_readInto 28 = .ok (.if_icmp .ge 65, 3) := by decide +kernel
theorem dX3_readInto_31 : decode cX3_readInto 31 = .ok (.aload_n 0, 1) := by decide +kernel
theorem dX3_readInto_32 : decode cX3_readInto 32 = .ok (.getfield 29, 3) := by decide +kernel
theorem dX3_readInto_35 : decode cX3_readInto 35 = .ok (.ifCond .eq 58, 3) := by decide +kernel
theorem dX3_readInto_38 : decode cX3_readInto 38 = .ok (.aload_n 0, 1) := by decide +kernel
theorem dX3_readInto_39 : decode cX3_readInto 39 = .ok (.getfield 29, 3) := by decide +kernel
theorem dX3_readInto_42 : decode cX3_readInto 42 = .ok (.iconst 4, 1) := by decide +kernel
theorem dX3_readInto_43 : decode cX3_readInto 43 = .ok (.if_icmp .ne 11, 3) := by decide +kernel
theorem dX3_readInto_46 : decode cX3_readInto 46 = .ok (.aload_n 0, 1) := by decide +kernel
theorem dX3_readInto_47 : decode cX3_readInto 47 = .ok (.aload_n 1, 1) := by decide +kernel
theorem dX3_readInto_48 : decode cX3_readInto 48 = .ok (.invokevirtual 32, 3) := by decide +kernel
theorem dX3_readInto_51 : decode cX3_readInto 51 = .ok (.goto 24, 3) := by decide +kernel
theorem dX3_readInto_54 : decode cX3_readInto 54 = .ok (.aload_n 0, 1) := by decide +kernel
theorem dX3_readInto_55 : decode cX3_readInto 55 = .ok (.getfield 29, 3) := by decide +kernel
theorem dX3_readInto_58 : decode cX3_readInto 58 = .ok (.iconst 5, 1) := by decide +kernel
theorem dX3_readInto_59 : decode cX3_readInto 59 = .ok (.if_icmp .ne 15, 3) := by decide +kernel
theorem dX3_readInto_62 : decode cX3_readInto 62 = .ok (.aload_n 0, 1) := by decide +kernel
theorem dX3_readInto_63 : decode cX3_readInto 63 = .ok (.aload_n 1, 1) := by decide +kernel
theorem dX3_readInto_64 : decode cX3_readInto 64 = .ok (.invokevirtual 35, 3) := by decide +kernel
theorem dX3_readInto_67 : decode cX3_readInto 67 = .ok (.ifCond .eq 7, 3) := by decide +kernel
theorem dX3_readInto_70 : decode cX3_readInto 70 = .ok (.iconst 1, 1) := by decide +kernel
theorem dX3_readInto_71 : decode cX3_readInto 71 = .ok (.goto 4, 3) := by decide +kernel
theorem dX3_readInto_74 : decode cX3_readInto 74 = .ok (.iconst 0, 1) := by decide +kernel
theorem dX3_readInto_75 : decode cX3_readInto 75 = .ok (.istore 4, 2) := by decide +kernel
theorem dX3_readInto_77 : decode cX3_readInto 77 = .ok (.iload 4, 2) := by decide +kernel
theorem dX3_readInto_79 : decode cX3_readInto 79 = .ok (.ifCond .ne 5, 3) := by decide +kernel
theorem dX3_readInto_82 : decode cX3_readInto 82 = .ok (.iconst (-1), 1) := by decide +kernel
theorem dX3_readInto_83 : decode cX3_readInto 83 = .ok (.ireturn, 1) := by decide +kernel
theorem dX3_readInto_84 : decode cX3_readInto 84 = .ok (.iinc 2 1, 3) := by decide +kernel
theorem dX3_readInto_87 : decode cX3_readInto 87 = .ok (.iinc 3 1, 3) := by decide +kernel
theorem dX3_readInto_90 : decode cX3_readInto 90 = .ok (.goto (-67), 3) := by decide +kernel
theorem dX3_readInto_93 : decode cX3_readInto 93 = .ok (.iload_n 2, 1) := by decide +kernel
theorem dX3_readInto_94 : decode cX3_readInto 94 = .ok (.ireturn, 1) := by decide +kernel
theorem dX3_faultPlace_0 : decode cX3_faultPlace 0 = .ok (.aload_n 0, 1) := by decide +kernel
theorem dX3_faultPlace_1 : decode cX3_faultPlace 1 = .ok (.getfield 38, 3) := by decide +kernel
theorem dX3_faultPlace_4 : decode cX3_faultPlace 4 = .ok (.ireturn, 1) := by decide +kernel
theorem dX3_readRiver_0 : decode cX3_readRiver 0 = .ok (.aload_n 0, 1) := by decide +kernel
theorem dX3_readRiver_1 : decode cX3_readRiver 1 = .ok (.getfield 29, 3) := by decide +kernel
theorem dX3_readRiver_4 : decode cX3_readRiver 4 = .ok (.iconst 3, 1) := by decide +kernel
theorem dX3_readRiver_5 : decode cX3_readRiver 5 = .ok (.if_icmp .eq 5, 3) := by decide +kernel
theorem dX3_readRiver_8 : decode cX3_readRiver 8 = .ok (.iconst 0, 1) := by decide +kernel
theorem dX3_readRiver_9 : decode cX3_readRiver 9 = .ok (.ireturn, 1) := by decide +kernel
theorem dX3_readRiver_10 : decode cX3_readRiver 10 = .ok (.aload_n 0, 1) := by decide +kernel
theorem dX3_readRiver_11 : decode cX3_readRiver 11 = .ok (.invokevirtual 22, 3) := by decide +kernel
theorem dX3_readRiver_14 : decode cX3_readRiver 14 = .ok (.aload_n 0, 1) := by decide +kernel
theorem dX3_readRiver_15 : decode cX3_readRiver 15 = .ok (.bipush 12, 2) := by decide +kernel
theorem dX3_readRiver_17 : decode cX3_readRiver 17 = .ok (.iconst (-1), 1) := by decide +kernel
theorem dX3_readRiver_18 : decode cX3_readRiver 18 = .ok (.invokevirtual 41, 3) := by decide +kernel
theorem dX3_readRiver_21 : decode cX3_readRiver 21 = .ok (.istore_n 2, 1) := by decide +kernel
theorem dX3_readRiver_22 : decode cX3_readRiver 22 = .ok (.iload_n 2, 1) := by decide +kernel
theorem dX3_readRiver_23 : decode cX3_readRiver 23 = .ok (.iconst (-1), 1) := by decide +kernel
theorem dX3_readRiver_24 : decode cX3_readRiver 24 = .ok (.if_icmp .ne 5, 3) := by decide +kernel
theorem dX3_readRiver_27 : decode cX3_readRiver 27 = .ok (.iconst 0, 1) := by decide +kernel
theorem dX3_readRiver_28 : decode cX3_readRiver 28 = .ok (.ireturn, 1) := by decide +kernel
theorem dX3_readRiver_29 : decode cX3_readRiver 29 = .ok (.aload_n 1, 1) := by decide +kernel
theorem dX3_readRiver_30 : decode cX3_readRiver 30 = .ok (.iload_n 2, 1) := by decide +kernel
theorem dX3_readRiver_31 : decode cX3_readRiver 31 = .ok (.invokevirtual 45, 3) := by decide +kernel
theorem dX3_readRiver_34 : decode cX3_readRiver 34 = .ok (.aload_n 0, 1) := by decide +kernel
theorem dX3_readRiver_35 : decode cX3_readRiver 35 = .ok (.invokevirtual 51, 3) := by decide +kernel
theorem dX3_readRiver_38 : decode cX3_readRiver 38 = .ok (.ireturn, 1) := by decide +kernel
theorem dX3_readBridge_0 : decode cX3_readBridge 0 = .ok (.aload_n 1, 1) := by decide +kernel
theorem dX3_readBridge_1 : decode cX3_readBridge 1 = .ok (.getfield 55, 3) := by decide +kernel
theorem dX3_readBridge_4 : decode cX3_readBridge 4 = .ok (.bipush 8, 2) := by decide +kernel
theorem dX3_readBridge_6 : decode cX3_readBridge 6 = .ok (.if_icmp .lt 5, 3) := by decide +kernel
theorem dX3_readBridge_9 : decode cX3_readBridge 9 = .ok (.iconst 0, 1) := by decide +kernel
theorem dX3_readBridge_10 : decode cX3_readBridge 10 = .ok (.ireturn, 1) := by decide +kernel
theorem dX3_readBridge_11 : decode cX3_readBridge 11 = .ok (.aload_n 0, 1) := by decide +kernel
theorem dX3_readBridge_12 : decode cX3_readBridge 12 = .ok (.invokevirtual 22, 3) := by decide +kernel
theorem dX3_readBridge_15 : decode cX3_readBridge 15 = .ok (.aload_n 0, 1) := by decide +kernel
theorem dX3_readBridge_16 : decode cX3_readBridge 16 = .ok (.bipush 6, 2) := by decide +kernel
theorem dX3_readBridge_18 : decode cX3_readBridge 18 = .ok (.iconst (-1), 1) := by decide +kernel
theorem dX3_readBridge_19 : decode cX3_readBridge 19 = .ok (.invokevirtual 41, 3) := by decide +kernel
theorem dX3_readBridge_22 : decode cX3_readBridge 22 = .ok (.istore_n 2, 1) := by decide +kernel
theorem dX3_readBridge_23 : decode cX3_readBridge 23 = .ok (.iload_n 2, 1) := by decide +kernel
theorem dX3_readBridge_24 : decode cX3_readBridge 24 = .ok (.iconst (-1), 1) := by decide +kernel
theorem dX3_readBridge_25 : decode cX3_readBridge 25 = .ok (.if_icmp .ne 7, 3) := by decide +kernel
theorem dX3_readBridge_28 : decode cX3_readBridge 28 = .ok (.iconst (-1), 1) := by decide +kernel
theorem dX3_readBridge_29 : decode cX3_readBridge 29 = .ok (.goto 10, 3) := by decide +kernel
theorem dX3_readBridge_32 : decode cX3_readBridge 32 = .ok (.aload_n 0, 1) := by decide +kernel
theorem dX3_readBridge_33 : decode cX3_readBridge 33 = .ok (.bipush 6, 2) := by decide +kernel
theorem dX3_readBridge_35 : decode cX3_readBridge 35 = .ok (.iload_n 2, 1) := by decide +kernel
theorem dX3_readBridge_36 : decode cX3_readBridge 36 = .ok (.invokevirtual 41, 3) := by decide +kernel
theorem dX3_readBridge_39 : decode cX3_readBridge 39 = .ok (.istore_n 3, 1) := by decide +kernel
theorem dX3_readBridge_40 : decode cX3_readBridge 40 = .ok (.iload_n 3, 1) := by decide +kernel
theorem dX3_readBridge_41 : decode cX3_readBridge 41 = .ok (.iconst (-1), 1) := by decide +kernel
theorem dX3_readBridge_42 : decode cX3_readBridge 42 = .ok (.if_icmp .ne 7, 3) := by decide +kernel
theorem dX3_readBridge_45 : decode cX3_readBridge 45 = .ok (.iconst (-1), 1) := by decide +kernel
theorem dX3_readBridge_46 : decode cX3_readBridge 46 = .ok (.goto 10, 3) := by decide +kernel
theorem dX3_readBridge_49 : decode cX3_readBridge 49 = .ok (.aload_n 0, 1) := by decide +kernel
theorem dX3_readBridge_50 : decode cX3_readBridge 50 = .ok (.bipush 6, 2) := by decide +kernel
theorem dX3_readBridge_52 : decode cX3_readBridge 52 = .ok (.iconst (-1), 1) := by decide +kernel
theorem dX3_readBridge_53 : decode cX3_readBridge 53 = .ok (.invokevirtual 41, 3) := by decide +kernel
theorem dX3_readBridge_56 : decode cX3_readBridge 56 = .ok (.istore 4, 2) := by decide +kernel
theorem dX3_readBridge_58 : decode cX3_readBridge 58 = .ok (.iload 4, 2) := by decide +kernel
theorem dX3_readBridge_60 : decode cX3_readBridge 60 = .ok (.iconst (-1), 1) := by decide +kernel
theorem dX3_readBridge_61 : decode cX3_readBridge 61 = .ok (.if_icmp .ne 7, 3) := by decide +kernel
theorem dX3_readBridge_64 : decode cX3_readBridge 64 = .ok (.iconst (-1), 1) := by decide +kernel
theorem dX3_readBridge_65 : decode cX3_readBridge 65 = .ok (.goto 10, 3) := by decide +kernel
theorem dX3_readBridge_68 : decode cX3_readBridge 68 = .ok (.aload_n 0, 1) := by decide +kernel
theorem dX3_readBridge_69 : decode cX3_readBridge 69 = .ok (.bipush 16, 2) := by decide +kernel
theorem dX3_readBridge_71 : decode cX3_readBridge 71 = .ok (.iconst (-1), 1) := by decide +kernel
theorem dX3_readBridge_72 : decode cX3_readBridge 72 = .ok (.invokevirtual 41, 3) := by decide +kernel
theorem dX3_readBridge_75 : decode cX3_readBridge 75 = .ok (.istore 5, 2) := by decide +kernel
theorem dX3_readBridge_77 : decode cX3_readBridge 77 = .ok (.iload 5, 2) := by decide +kernel
theorem dX3_readBridge_79 : decode cX3_readBridge 79 = .ok (.iconst (-1), 1) := by decide +kernel
theorem dX3_readBridge_80 : decode cX3_readBridge 80 = .ok (.if_icmp .ne 5, 3) := by decide +kernel
theorem dX3_readBridge_83 : decode cX3_readBridge 83 = .ok (.iconst 0, 1) := by decide +kernel
theorem dX3_readBridge_84 : decode cX3_readBridge 84 = .ok (.ireturn, 1) := by decide +kernel
theorem dX3_readBridge_85 : decode cX3_readBridge 85 = .ok (.aload_n 1, 1) := by decide +kernel
theorem dX3_readBridge_86 : decode cX3_readBridge 86 = .ok (.iload_n 2, 1) := by decide +kernel
theorem dX3_readBridge_87 : decode cX3_readBridge 87 = .ok (.iload_n 3, 1) := by decide +kernel
theorem dX3_readBridge_88 : decode cX3_readBridge 88 = .ok (.iload 4, 2) := by decide +kernel
theorem dX3_readBridge_90 : decode cX3_readBridge 90 = .ok (.iload 5, 2) := by decide +kernel
theorem dX3_readBridge_92 : decode cX3_readBridge 92 = .ok (.invokevirtual 58, 3) := by decide +kernel
theorem dX3_readBridge_95 : decode cX3_readBridge 95 = .ok (.pop, 1) := by decide +kernel
theorem dX3_readBridge_96 : decode cX3_readBridge 96 = .ok (.aload_n 0, 1) := by decide +kernel
theorem dX3_readBridge_97 : decode cX3_readBridge 97 = .ok (.invokevirtual 51, 3) := by decide +kernel
theorem dX3_readBridge_100 : decode cX3_readBridge 100 = .ok (.ireturn, 1) := by decide +kernel
theorem dX3_readRow_0 : decode cX3_readRow 0 = .ok (.aload_n 0, 1) := by decide +kernel
theorem dX3_readRow_1 : decode cX3_readRow 1 = .ok (.invokevirtual 22, 3) := by decide +kernel
theorem dX3_readRow_4 : decode cX3_readRow 4 = .ok (.aload_n 0, 1) := by decide +kernel
theorem dX3_readRow_5 : decode cX3_readRow 5 = .ok (.iconst 4, 1) := by decide +kernel
theorem dX3_readRow_6 : decode cX3_readRow 6 = .ok (.iconst (-1), 1) := by decide +kernel
theorem dX3_readRow_7 : decode cX3_readRow 7 = .ok (.invokevirtual 41, 3) := by decide +kernel
theorem dX3_readRow_10 : decode cX3_readRow 10 = .ok (.istore_n 2, 1) := by decide +kernel
theorem dX3_readRow_11 : decode cX3_readRow 11 = .ok (.iload_n 2, 1) := by decide +kernel
theorem dX3_readRow_12 : decode cX3_readRow 12 = .ok (.iconst (-1), 1) := by decide +kernel
theorem dX3_readRow_13 : decode cX3_readRow 13 = .ok (.if_icmp .ne 5, 3) := by decide +kernel
theorem dX3_readRow_16 : decode cX3_readRow 16 = .ok (.iconst 0, 1) := by decide +kernel
theorem dX3_readRow_17 : decode cX3_readRow 17 = .ok (.ireturn, 1) := by decide +kernel
theorem dX3_readRow_18 : decode cX3_readRow 18 = .ok (.lconst 0, 1) := by decide +kernel
theorem dX3_readRow_19 : decode cX3_readRow 19 = .ok (.lstore_n 3, 1) := by decide +kernel
theorem dX3_readRow_20 : decode cX3_readRow 20 = .ok (.iconst 0, 1) := by decide +kernel
theorem dX3_readRow_21 : decode cX3_readRow 21 = .ok (.istore 5, 2) := by decide +kernel
theorem dX3_readRow_23 : decode cX3_readRow 23 = .ok (.iload 5, 2) := by decide +kernel
theorem dX3_readRow_25 : decode cX3_readRow 25 = .ok (.bipush 12, 2) := by decide +kernel
theorem dX3_readRow_27 : decode cX3_readRow 27 = .ok (.if_icmp .ge 41, 3) := by decide +kernel
theorem dX3_readRow_30 : decode cX3_readRow 30 = .ok (.aload_n 0, 1) := by decide +kernel
theorem dX3_readRow_31 : decode cX3_readRow 31 = .ok (.getfield 29, 3) := by decide +kernel
theorem dX3_readRow_34 : decode cX3_readRow 34 = .ok (.iconst 2, 1) := by decide +kernel
theorem dX3_readRow_35 : decode cX3_readRow 35 = .ok (.if_icmp .ne 33, 3) := by decide +kernel
theorem dX3_readRow_38 : decode cX3_readRow 38 = .ok (.aload_n 0, 1) := by decide +kernel
theorem dX3_readRow_39 : decode cX3_readRow 39 = .ok (.bipush 16, 2) := by decide +kernel
theorem dX3_readRow_41 : decode cX3_readRow 41 = .ok (.iconst (-1), 1) := by decide +kernel
theorem dX3_readRow_42 : decode cX3_readRow 42 = .ok (.invokevirtual 41, 3) := by decide +kernel
theorem dX3_readRow_45 : decode cX3_readRow 45 = .ok (.istore 6, 2) := by decide +kernel
theorem dX3_readRow_47 : decode cX3_readRow 47 = .ok (.iload 6, 2) := by decide +kernel
theorem dX3_readRow_49 : decode cX3_readRow 49 = .ok (.iconst (-1), 1) := by decide +kernel
theorem dX3_readRow_50 : decode cX3_readRow 50 = .ok (.if_icmp .ne 5, 3) := by decide +kernel
theorem dX3_readRow_53 : decode cX3_readRow 53 = .ok (.iconst 0, 1) := by decide +kernel
theorem dX3_readRow_54 : decode cX3_readRow 54 = .ok (.ireturn, 1) := by decide +kernel
theorem dX3_readRow_55 : decode cX3_readRow 55 = .ok (.lload_n 3, 1) := by decide +kernel
theorem dX3_readRow_56 : decode cX3_readRow 56 = .ok (.iload 6, 2) := by decide +kernel
theorem dX3_readRow_58 : decode cX3_readRow 58 = .ok (.invokestatic 64, 3) := by decide +kernel
theorem dX3_readRow_61 : decode cX3_readRow 61 = .ok (.lstore_n 3, 1) := by decide +kernel
theorem dX3_readRow_62 : decode cX3_readRow 62 = .ok (.iinc 5 1, 3) := by decide +kernel
theorem dX3_readRow_65 : decode cX3_readRow 65 = .ok (.goto (-42), 3) := by decide +kernel
theorem dX3_readRow_68 : decode cX3_readRow 68 = .ok (.aload_n 1, 1) := by decide +kernel
theorem dX3_readRow_69 : decode cX3_readRow 69 = .ok (.getfield 68, 3) := by decide +kernel
theorem dX3_readRow_72 : decode cX3_readRow 72 = .ok (.iload_n 2, 1) := by decide +kernel
theorem dX3_readRow_73 : decode cX3_readRow 73 = .ok (.lload_n 3, 1) := by decide +kernel
theorem dX3_readRow_74 : decode cX3_readRow 74 = .ok (.lastore, 1) := by decide +kernel
theorem dX3_readRow_75 : decode cX3_readRow 75 = .ok (.aload_n 0, 1) := by decide +kernel
theorem dX3_readRow_76 : decode cX3_readRow 76 = .ok (.invokevirtual 51, 3) := by decide +kernel
theorem dX3_readRow_79 : decode cX3_readRow 79 = .ok (.ireturn, 1) := by decide +kernel
theorem dX3_takeNumber_0 : decode cX3_takeNumber 0 = .ok (.aload_n 0, 1) := by decide +kernel
theorem dX3_takeNumber_1 : decode cX3_takeNumber 1 = .ok (.getfield 29, 3) := by decide +kernel
theorem dX3_takeNumber_4 : decode cX3_takeNumber 4 = .ok (.iconst 2, 1) := by decide +kernel
theorem dX3_takeNumber_5 : decode cX3_takeNumber 5 = .ok (.if_icmp .ne 19, 3) := by decide +kernel
theorem dX3_takeNumber_8 : decode cX3_takeNumber 8 = .ok (.aload_n 0, 1) := by decide +kernel
theorem dX3_takeNumber_9 : decode cX3_takeNumber 9 = .ok (.getfield 72, 3) := by decide +kernel
theorem dX3_takeNumber_12 : decode cX3_takeNumber 12 = .ok (.iload_n 1, 1) := by decide +kernel
theorem dX3_takeNumber_13 : decode cX3_takeNumber 13 = .ok (.if_icmp .ge 11, 3) := by decide +kernel
theorem dX3_takeNumber_16 : decode cX3_takeNumber 16 = .ok (.aload_n 0, 1) := by decide +kernel
theorem dX3_takeNumber_17 : decode cX3_takeNumber 17 = .ok (.getfield 72, 3) := by decide +kernel
theorem dX3_takeNumber_20 : decode cX3_takeNumber 20 = .ok (.iload_n 2, 1) := by decide +kernel
theorem dX3_takeNumber_21 : decode cX3_takeNumber 21 = .ok (.if_icmp .ne 5, 3) := by decide +kernel
theorem dX3_takeNumber_24 : decode cX3_takeNumber 24 = .ok (.iconst (-1), 1) := by decide +kernel
theorem dX3_takeNumber_25 : decode cX3_takeNumber 25 = .ok (.ireturn, 1) := by decide +kernel
theorem dX3_takeNumber_26 : decode cX3_takeNumber 26 = .ok (.aload_n 0, 1) := by decide +kernel
theorem dX3_takeNumber_27 : decode cX3_takeNumber 27 = .ok (.getfield 72, 3) := by decide +kernel
theorem dX3_takeNumber_30 : decode cX3_takeNumber 30 = .ok (.istore_n 3, 1) := by decide +kernel
theorem dX3_takeNumber_31 : decode cX3_takeNumber 31 = .ok (.aload_n 0, 1) := by decide +kernel
theorem dX3_takeNumber_32 : decode cX3_takeNumber 32 = .ok (.invokevirtual 22, 3) := by decide +kernel
theorem dX3_takeNumber_35 : decode cX3_takeNumber 35 = .ok (.iload_n 3, 1) := by decide +kernel
theorem dX3_takeNumber_36 : decode cX3_takeNumber 36 = .ok (.ireturn, 1) := by decide +kernel
theorem dX3_takeStop_0 : decode cX3_takeStop 0 = .ok (.aload_n 0, 1) := by decide +kernel
theorem dX3_takeStop_1 : decode cX3_takeStop 1 = .ok (.getfield 29, 3) := by decide +kernel
theorem dX3_takeStop_4 : decode cX3_takeStop 4 = .ok (.iconst 1, 1) := by decide +kernel
theorem dX3_takeStop_5 : decode cX3_takeStop 5 = .ok (.if_icmp .eq 5, 3) := by decide +kernel
theorem dX3_takeStop_8 : decode cX3_takeStop 8 = .ok (.iconst 0, 1) := by decide +kernel
theorem dX3_takeStop_9 : decode cX3_takeStop 9 = .ok (.ireturn, 1) := by decide +kernel
theorem dX3_takeStop_10 : decode cX3_takeStop 10 = .ok (.aload_n 0, 1) := by decide +kernel
theorem dX3_takeStop_11 : decode cX3_takeStop 11 = .ok (.invokevirtual 22, 3) := by decide +kernel
theorem dX3_takeStop_14 : decode cX3_takeStop 14 = .ok (.iconst 1, 1) := by decide +kernel
theorem dX3_takeStop_15 : decode cX3_takeStop 15 = .ok (.ireturn, 1) := by decide +kernel
theorem dX3_step_0 : decode cX3_step 0 = .ok (.aload_n 0, 1) := by decide +kernel
theorem dX3_step_1 : decode cX3_step 1 = .ok (.aload_n 0, 1) := by decide +kernel
theorem dX3_step_2 : decode cX3_step 2 = .ok (.getfield 19, 3) := by decide +kernel
theorem dX3_step_5 : decode cX3_step 5 = .ok (.putfield 38, 3) := by decide +kernel
theorem dX3_step_8 : decode cX3_step 8 = .ok (.aload_n 0, 1) := by decide +kernel
theorem dX3_step_9 : decode cX3_step 9 = .ok (.getfield 38, 3) := by decide +kernel
theorem dX3_step_12 : decode cX3_step 12 = .ok (.aload_n 0, 1) := by decide +kernel
theorem dX3_step_13 : decode cX3_step 13 = .ok (.getfield 15, 3) := by decide +kernel
theorem dX3_step_16 : decode cX3_step 16 = .ok (.if_icmp .ge 30, 3) := by decide +kernel
theorem dX3_step_19 : decode cX3_step 19 = .ok (.aload_n 0, 1) := by decide +kernel
theorem dX3_step_20 : decode cX3_step 20 = .ok (.getfield 9, 3) := by decide +kernel
theorem dX3_step_23 : decode cX3_step 23 = .ok (.aload_n 0, 1) := by decide +kernel
theorem dX3_step_24 : decode cX3_step 24 = .ok (.getfield 38, 3) := by decide +kernel
theorem dX3_step_27 : decode cX3_step 27 = .ok (.iaload, 1) := by decide +kernel
theorem dX3_step_28 : decode cX3_step 28 = .ok (.bipush 32, 2) := by decide +kernel
theorem dX3_step_30 : decode cX3_step 30 = .ok (.if_icmp .ne 16, 3) := by decide +kernel
theorem dX3_step_33 : decode cX3_step 33 = .ok (.aload_n 0, 1) := by decide +kernel
theorem dX3_step_34 : decode cX3_step 34 = .ok (.dup, 1) := by decide +kernel
theorem dX3_step_35 : decode cX3_step 35 = .ok (.getfield 38, 3) := by decide +kernel
theorem dX3_step_38 : decode cX3_step 38 = .ok (.iconst 1, 1) := by decide +kernel
theorem dX3_step_39 : decode cX3_step 39 = .ok (.iadd, 1) := by decide +kernel
theorem dX3_step_40 : decode cX3_step 40 = .ok (.putfield 38, 3) := by decide +kernel
theorem dX3_step_43 : decode cX3_step 43 = .ok (.goto (-35), 3) := by decide +kernel
theorem dX3_step_46 : decode cX3_step 46 = .ok (.aload_n 0, 1) := by decide +kernel
theorem dX3_step_47 : decode cX3_step 47 = .ok (.aload_n 0, 1) := by decide +kernel
theorem dX3_step_48 : decode cX3_step 48 = .ok (.getfield 38, 3) := by decide +kernel
theorem dX3_step_51 : decode cX3_step 51 = .ok (.putfield 19, 3) := by decide +kernel
theorem dX3_step_54 : decode cX3_step 54 = .ok (.aload_n 0, 1) := by decide +kernel
theorem dX3_step_55 : decode cX3_step 55 = .ok (.getfield 38, 3) := by decide +kernel
theorem dX3_step_58 : decode cX3_step 58 = .ok (.aload_n 0, 1) := by decide +kernel
theorem dX3_step_59 : decode cX3_step 59 = .ok (.getfield 15, 3) := by decide +kernel
theorem dX3_step_62 : decode cX3_step 62 = .ok (.if_icmp .lt 11, 3) := by decide +kernel
theorem dX3_step_65 : decode cX3_step 65 = .ok (.aload_n 0, 1) := by decide +kernel
theorem dX3_step_66 : decode cX3_step 66 = .ok (.iconst 0, 1) := by decide +kernel
theorem dX3_step_67 : decode cX3_step 67 = .ok (.putfield 29, 3) := by decide +kernel
theorem dX3_step_70 : decode cX3_step 70 = .ok (.goto 73, 3) := by decide +kernel
theorem dX3_step_73 : decode cX3_step 73 = .ok (.aload_n 0, 1) := by decide +kernel
theorem dX3_step_74 : decode cX3_step 74 = .ok (.aload_n 0, 1) := by decide +kernel
theorem dX3_step_75 : decode cX3_step 75 = .ok (.getfield 38, 3) := by decide +kernel
theorem dX3_step_78 : decode cX3_step 78 = .ok (.invokevirtual 75, 3) := by decide +kernel
theorem dX3_step_81 : decode cX3_step 81 = .ok (.ifCond .eq 10, 3) := by decide +kernel
theorem dX3_step_84 : decode cX3_step 84 = .ok (.aload_n 0, 1) := by decide +kernel
theorem dX3_step_85 : decode cX3_step 85 = .ok (.invokevirtual 79, 3) := by decide +kernel
theorem dX3_step_88 : decode cX3_step 88 = .ok (.goto 55, 3) := by decide +kernel
theorem dX3_step_91 : decode cX3_step 91 = .ok (.aload_n 0, 1) := by decide +kernel
theorem dX3_step_92 : decode cX3_step 92 = .ok (.aload_n 0, 1) := by decide +kernel
theorem dX3_step_93 : decode cX3_step 93 = .ok (.getfield 38, 3) := by decide +kernel
theorem dX3_step_96 : decode cX3_step 96 = .ok (.invokevirtual 82, 3) := by decide +kernel
theorem dX3_step_99 : decode cX3_step 99 = .ok (.ifCond .eq 10, 3) := by decide +kernel
theorem dX3_step_102 : decode cX3_step 102 = .ok (.aload_n 0, 1) := by decide +kernel
theorem dX3_step_103 : decode cX3_step 103 = .ok (.invokevirtual 85, 3) := by decide +kernel
theorem dX3_step_106 : decode cX3_step 106 = .ok (.goto 37, 3) := by decide +kernel
theorem dX3_step_109 : decode cX3_step 109 = .ok (.aload_n 0, 1) := by decide +kernel
theorem dX3_step_110 : decode cX3_step 110 = .ok (.dup, 1) := by decide +kernel
theorem dX3_step_111 : decode cX3_step 111 = .ok (.getfield 19, 3) := by decide +kernel
theorem dX3_step_114 : decode cX3_step 114 = .ok (.iconst 1, 1) := by decide +kernel
theorem dX3_step_115 : decode cX3_step 115 = .ok (.iadd, 1) := by decide +kernel
theorem dX3_step_116 : decode cX3_step 116 = .ok (.putfield 19, 3) := by decide +kernel
theorem dX3_step_119 : decode cX3_step 119 = .ok (.aload_n 0, 1) := by decide +kernel
theorem dX3_step_120 : decode cX3_step 120 = .ok (.aload_n 0, 1) := by decide +kernel
theorem dX3_step_121 : decode cX3_step 121 = .ok (.getfield 9, 3) := by decide +kernel
theorem dX3_step_124 : decode cX3_step 124 = .ok (.aload_n 0, 1) := by decide +kernel
theorem dX3_step_125 : decode cX3_step 125 = .ok (.getfield 38, 3) := by decide +kernel
theorem dX3_step_128 : decode cX3_step 128 = .ok (.iaload, 1) := by decide +kernel
theorem dX3_step_129 : decode cX3_step 129 = .ok (.bipush 59, 2) := by decide +kernel
theorem dX3_step_131 : decode cX3_step 131 = .ok (.if_icmp .ne 7, 3) := by decide +kernel
theorem dX3_step_134 : decode cX3_step 134 = .ok (.iconst 1, 1) := by decide +kernel
theorem dX3_step_135 : decode cX3_step 135 = .ok (.goto 5, 3) := by decide +kernel
theorem dX3_step_138 : decode cX3_step 138 = .ok (.bipush 6, 2) := by decide +kernel
theorem dX3_step_140 : decode cX3_step 140 = .ok (.putfield 29, 3) := by decide +kernel
theorem dX3_step_143 : decode cX3_step 143 = .ok (.return_, 1) := by decide +kernel
theorem dX3_stepWord_0 : decode cX3_stepWord 0 = .ok (.aload_n 0, 1) := by decide +kernel
theorem dX3_stepWord_1 : decode cX3_stepWord 1 = .ok (.getfield 19, 3) := by decide +kernel
theorem dX3_stepWord_4 : decode cX3_stepWord 4 = .ok (.aload_n 0, 1) := by decide +kernel
theorem dX3_stepWord_5 : decode cX3_stepWord 5 = .ok (.getfield 15, 3) := by decide +kernel
theorem dX3_stepWord_8 : decode cX3_stepWord 8 = .ok (.if_icmp .ge 27, 3) := by decide +kernel
theorem dX3_stepWord_11 : decode cX3_stepWord 11 = .ok (.aload_n 0, 1) := by decide +kernel
theorem dX3_stepWord_12 : decode cX3_stepWord 12 = .ok (.aload_n 0, 1) := by decide +kernel
theorem dX3_stepWord_13 : decode cX3_stepWord 13 = .ok (.getfield 19, 3) := by decide +kernel
theorem dX3_stepWord_16 : decode cX3_stepWord 16 = .ok (.invokevirtual 75, 3) := by decide +kernel
theorem dX3_stepWord_19 : decode cX3_stepWord 19 = .ok (.ifCond .eq 16, 3) := by decide +kernel
theorem dX3_stepWord_22 : decode cX3_stepWord 22 = .ok (.aload_n 0, 1) := by decide +kernel
theorem dX3_stepWord_23 : decode cX3_stepWord 23 = .ok (.dup, 1) := by decide +kernel
theorem dX3_stepWord_24 : decode cX3_stepWord 24 = .ok (.getfield 19, 3) := by decide +kernel
theorem dX3_stepWord_27 : decode cX3_stepWord 27 = .ok (.iconst 1, 1) := by decide +kernel
theorem dX3_stepWord_28 : decode cX3_stepWord 28 = .ok (.iadd, 1) := by decide +kernel
theorem dX3_stepWord_29 : decode cX3_stepWord 29 = .ok (.putfield 19, 3) := by decide +kernel
theorem dX3_stepWord_32 : decode cX3_stepWord 32 = .ok (.goto (-32), 3) := by decide +kernel
theorem dX3_stepWord_35 : decode cX3_stepWord 35 = .ok (.aload_n 0, 1) := by decide +kernel
theorem dX3_stepWord_36 : decode cX3_stepWord 36 = .ok (.aload_n 0, 1) := by decide +kernel
theorem dX3_stepWord_37 : decode cX3_stepWord 37 = .ok (.ldc 88, 2) := by decide +kernel
theorem dX3_stepWord_39 : decode cX3_stepWord 39 = .ok (.invokevirtual 90, 3) := by decide +kernel
theorem dX3_stepWord_42 : decode cX3_stepWord 42 = .ok (.ifCond .eq 7, 3) := by decide +kernel
theorem dX3_stepWord_45 : decode cX3_stepWord 45 = .ok (.iconst 3, 1) := by decide +kernel
theorem dX3_stepWord_46 : decode cX3_stepWord 46 = .ok (.goto 31, 3) := by decide +kernel
theorem dX3_stepWord_49 : decode cX3_stepWord 49 = .ok (.aload_n 0, 1) := by decide +kernel
theorem dX3_stepWord_50 : decode cX3_stepWord 50 = .ok (.ldc 94, 2) := by decide +kernel
theorem dX3_stepWord_52 : decode cX3_stepWord 52 = .ok (.invokevirtual 90, 3) := by decide +kernel
theorem dX3_stepWord_55 : decode cX3_stepWord 55 = .ok (.ifCond .eq 7, 3) := by decide +kernel
theorem dX3_stepWord_58 : decode cX3_stepWord 58 = .ok (.iconst 4, 1) := by decide +kernel
theorem dX3_stepWord_59 : decode cX3_stepWord 59 = .ok (.goto 18, 3) := by decide +kernel
theorem dX3_stepWord_62 : decode cX3_stepWord 62 = .ok (.aload_n 0, 1) := by decide +kernel
theorem dX3_stepWord_63 : decode cX3_stepWord 63 = .ok (.ldc 96, 2) := by decide +kernel
theorem dX3_stepWord_65 : decode cX3_stepWord 65 = .ok (.invokevirtual 90, 3) := by decide +kernel
theorem dX3_stepWord_68 : decode cX3_stepWord 68 = .ok (.ifCond .eq 7, 3) := by decide +kernel
theorem dX3_stepWord_71 : decode cX3_stepWord 71 = .ok (.iconst 5, 1) := by decide +kernel
theorem dX3_stepWord_72 : decode cX3_stepWord 72 = .ok (.goto 5, 3) := by decide +kernel
theorem dX3_stepWord_75 : decode cX3_stepWord 75 = .ok (.bipush 6, 2) := by decide +kernel
theorem dX3_stepWord_77 : decode cX3_stepWord 77 = .ok (.putfield 29, 3) := by decide +kernel
theorem dX3_stepWord_80 : decode cX3_stepWord 80 = .ok (.return_, 1) := by decide +kernel
theorem dX3_stepNumber_0 : decode cX3_stepNumber 0 = .ok (.aload_n 0, 1) := by decide +kernel
theorem dX3_stepNumber_1 : decode cX3_stepNumber 1 = .ok (.iconst 0, 1) := by decide +kernel
theorem dX3_stepNumber_2 : decode cX3_stepNumber 2 = .ok (.putfield 72, 3) := by decide +kernel
theorem dX3_stepNumber_5 : decode cX3_stepNumber 5 = .ok (.aload_n 0, 1) := by decide +kernel
theorem dX3_stepNumber_6 : decode cX3_stepNumber 6 = .ok (.getfield 19, 3) := by decide +kernel
theorem dX3_stepNumber_9 : decode cX3_stepNumber 9 = .ok (.aload_n 0, 1) := by decide +kernel
theorem dX3_stepNumber_10 : decode cX3_stepNumber 10 = .ok (.getfield 15, 3) := by decide +kernel
theorem dX3_stepNumber_13 : decode cX3_stepNumber 13 = .ok (.if_icmp .ge 71, 3) := by decide +kernel
theorem dX3_stepNumber_16 : decode cX3_stepNumber 16 = .ok (.aload_n 0, 1) := by decide +kernel
theorem dX3_stepNumber_17 : decode cX3_stepNumber 17 = .ok (.aload_n 0, 1) := by decide +kernel
theorem dX3_stepNumber_18 : decode cX3_stepNumber 18 = .ok (.getfield 19, 3) := by decide +kernel
theorem dX3_stepNumber_21 : decode cX3_stepNumber 21 = .ok (.invokevirtual 82, 3) := by decide +kernel
theorem dX3_stepNumber_24 : decode cX3_stepNumber 24 = .ok (.ifCond .eq 60, 3) := by decide +kernel
theorem dX3_stepNumber_27 : decode cX3_stepNumber 27 = .ok (.aload_n 0, 1) := by decide +kernel
theorem dX3_stepNumber_28 : decode cX3_stepNumber 28 = .ok (.aload_n 0, 1) := by decide +kernel
theorem dX3_stepNumber_29 : decode cX3_stepNumber 29 = .ok (.getfield 19, 3) := by decide +kernel
theorem dX3_stepNumber_32 : decode cX3_stepNumber 32 = .ok (.aload_n 0, 1) := by decide +kernel
theorem dX3_stepNumber_33 : decode cX3_stepNumber 33 = .ok (.getfield 38, 3) := by decide +kernel
theorem dX3_stepNumber_36 : decode cX3_stepNumber 36 = .ok (.isub, 1) := by decide +kernel
theorem dX3_stepNumber_37 : decode cX3_stepNumber 37 = .ok (.iconst 2, 1) := by decide +kernel
theorem dX3_stepNumber_38 : decode cX3_stepNumber 38 = .ok (.if_icmp .ge 26, 3) := by decide +kernel
theorem dX3_stepNumber_41 : decode cX3_stepNumber 41 = .ok (.bipush 10, 2) := by decide +kernel
theorem dX3_stepNumber_43 : decode cX3_stepNumber 43 = .ok (.aload_n 0, 1) := by decide +kernel
theorem dX3_stepNumber_44 : decode cX3_stepNumber 44 = .ok (.getfield 72, 3) := by decide +kernel
theorem dX3_stepNumber_47 : decode cX3_stepNumber 47 = .ok (.imul, 1) := by decide +kernel
theorem dX3_stepNumber_48 : decode cX3_stepNumber 48 = .ok (.aload_n 0, 1) := by decide +kernel
theorem dX3_stepNumber_49 : decode cX3_stepNumber 49 = .ok (.getfield 9, 3) := by decide +kernel
theorem dX3_stepNumber_52 : decode cX3_stepNumber 52 = .ok (.aload_n 0, 1) := by decide +kernel
theorem dX3_stepNumber_53 : decode cX3_stepNumber 53 = .ok (.getfield 19, 3) := by decide +kernel
theorem dX3_stepNumber_56 : decode cX3_stepNumber 56 = .ok (.iaload, 1) := by decide +kernel
theorem dX3_stepNumber_57 : decode cX3_stepNumber 57 = .ok (.iadd, 1) := by decide +kernel
theorem dX3_stepNumber_58 : decode cX3_stepNumber 58 = .ok (.bipush 48, 2) := by decide +kernel
theorem dX3_stepNumber_60 : decode cX3_stepNumber 60 = .ok (.isub, 1) := by decide +kernel
theorem dX3_stepNumber_61 : decode cX3_stepNumber 61 = .ok (.goto 7, 3) := by decide +kernel
theorem dX3_stepNumber_64 : decode cX3_stepNumber 64 = .ok (.aload_n 0, 1) := by decide +kernel
theorem dX3_stepNumber_65 : decode cX3_stepNumber 65 = .ok (.getfield 72, 3) := by decide +kernel
theorem dX3_stepNumber_68 : decode cX3_stepNumber 68 = .ok (.putfield 72, 3) := by decide +kernel
theorem dX3_stepNumber_71 : decode cX3_stepNumber 71 = .ok (.aload_n 0, 1) := by decide +kernel
theorem dX3_stepNumber_72 : decode cX3_stepNumber 72 = .ok (.dup, 1) := by decide +kernel
theorem dX3_stepNumber_73 : decode cX3_stepNumber 73 = .ok (.getfield 19, 3) := by decide +kernel
theorem dX3_stepNumber_76 : decode cX3_stepNumber 76 = .ok (.iconst 1, 1) := by decide +kernel
theorem dX3_stepNumber_77 : decode cX3_stepNumber 77 = .ok (.iadd, 1) := by decide +kernel
theorem dX3_stepNumber_78 : decode cX3_stepNumber 78 = .ok (.putfield 19, 3) := by decide +kernel
theorem dX3_stepNumber_81 : decode cX3_stepNumber 81 = .ok (.goto (-76), 3) := by decide +kernel
theorem dX3_stepNumber_84 : decode cX3_stepNumber 84 = .ok (.aload_n 0, 1) := by decide +kernel
theorem dX3_stepNumber_85 : decode cX3_stepNumber 85 = .ok (.aload_n 0, 1) := by decide +kernel
theorem dX3_stepNumber_86 : decode cX3_stepNumber 86 = .ok (.getfield 19, 3) := by decide +kernel
theorem dX3_stepNumber_89 : decode cX3_stepNumber 89 = .ok (.aload_n 0, 1) := by decide +kernel
theorem dX3_stepNumber_90 : decode cX3_stepNumber 90 = .ok (.getfield 38, 3) := by decide +kernel
theorem dX3_stepNumber_93 : decode cX3_stepNumber 93 = .ok (.isub, 1) := by decide +kernel
theorem dX3_stepNumber_94 : decode cX3_stepNumber 94 = .ok (.iconst 2, 1) := by decide +kernel
theorem dX3_stepNumber_95 : decode cX3_stepNumber 95 = .ok (.if_icmp .gt 7, 3) := by decide +kernel
theorem dX3_stepNumber_98 : decode cX3_stepNumber 98 = .ok (.iconst 2, 1) := by decide +kernel
theorem dX3_stepNumber_99 : decode cX3_stepNumber 99 = .ok (.goto 5, 3) := by decide +kernel
theorem dX3_stepNumber_102 : decode cX3_stepNumber 102 = .ok (.bipush 6, 2) := by decide +kernel
theorem dX3_stepNumber_104 : decode cX3_stepNumber 104 = .ok (.putfield 29, 3) := by decide +kernel
theorem dX3_stepNumber_107 : decode cX3_stepNumber 107 = .ok (.return_, 1) := by decide +kernel
theorem dX3_isWord_0 : decode cX3_isWord 0 = .ok (.aload_n 1, 1) := by decide +kernel
theorem dX3_isWord_1 : decode cX3_isWord 1 = .ok (.invokevirtual 98, 3) := by decide +kernel
theorem dX3_isWord_4 : decode cX3_isWord 4 = .ok (.aload_n 0, 1) := by decide +kernel
theorem dX3_isWord_5 : decode cX3_isWord 5 = .ok (.getfield 19, 3) := by decide +kernel
theorem dX3_isWord_8 : decode cX3_isWord 8 = .ok (.aload_n 0, 1) := by decide +kernel
theorem dX3_isWord_9 : decode cX3_isWord 9 = .ok (.getfield 38, 3) := by decide +kernel
theorem dX3_isWord_12 : decode cX3_isWord 12 = .ok (.isub, 1) := by decide +kernel
theorem dX3_isWord_13 : decode cX3_isWord 13 = .ok (.if_icmp .eq 5, 3) := by decide +kernel
theorem dX3_isWord_16 : decode cX3_isWord 16 = .ok (.iconst 0, 1) := by decide +kernel
theorem dX3_isWord_17 : decode cX3_isWord 17 = .ok (.ireturn, 1) := by decide +kernel
theorem dX3_isWord_18 : decode cX3_isWord 18 = .ok (.iconst 0, 1) := by decide +kernel
theorem dX3_isWord_19 : decode cX3_isWord 19 = .ok (.istore_n 2, 1) := by decide +kernel
theorem dX3_isWord_20 : decode cX3_isWord 20 = .ok (.iload_n 2, 1) := by decide +kernel
theorem dX3_isWord_21 : decode cX3_isWord 21 = .ok (.aload_n 1, 1) := by decide +kernel
theorem dX3_isWord_22 : decode cX3_isWord 22 = .ok (.invokevirtual 98, 3) := by decide +kernel
theorem dX3_isWord_25 : decode cX3_isWord 25 = .ok (.if_icmp .ge 30, 3) := by decide +kernel
theorem dX3_isWord_28 : decode cX3_isWord 28 = .ok (.aload_n 0, 1) := by decide +kernel
theorem dX3_isWord_29 : decode cX3_isWord 29 = .ok (.getfield 9, 3) := by decide +kernel
theorem dX3_isWord_32 : decode cX3_isWord 32 = .ok (.aload_n 0, 1) := by decide +kernel
theorem dX3_isWord_33 : decode cX3_isWord 33 = .ok (.getfield 38, 3) := by decide +kernel
theorem dX3_isWord_36 : decode cX3_isWord 36 = .ok (.iload_n 2, 1) := by decide +kernel
theorem dX3_isWord_37 : decode cX3_isWord 37 = .ok (.iadd, 1) := by decide +kernel
theorem dX3_isWord_38 : decode cX3_isWord 38 = .ok (.iaload, 1) := by decide +kernel
theorem dX3_isWord_39 : decode cX3_isWord 39 = .ok (.aload_n 1, 1) := by decide +kernel
theorem dX3_isWord_40 : decode cX3_isWord 40 = .ok (.iload_n 2, 1) := by decide +kernel
theorem dX3_isWord_41 : decode cX3_isWord 41 = .ok (.invokevirtual 103, 3) := by decide +kernel
theorem dX3_isWord_44 : decode cX3_isWord 44 = .ok (.if_icmp .eq 5, 3) := by decide +kernel
theorem dX3_isWord_47 : decode cX3_isWord 47 = .ok (.iconst 0, 1) := by decide +kernel
theorem dX3_isWord_48 : decode cX3_isWord 48 = .ok (.ireturn, 1) := by decide +kernel
theorem dX3_isWord_49 : decode cX3_isWord 49 = .ok (.iinc 2 1, 3) := by decide +kernel
theorem dX3_isWord_52 : decode cX3_isWord 52 = .ok (.goto (-32), 3) := by decide +kernel
theorem dX3_isWord_55 : decode cX3_isWord 55 = .ok (.iconst 1, 1) := by decide +kernel
theorem dX3_isWord_56 : decode cX3_isWord 56 = .ok (.ireturn, 1) := by decide +kernel
theorem dX3_isLetter_0 : decode cX3_isLetter 0 = .ok (.aload_n 0, 1) := by decide +kernel
theorem dX3_isLetter_1 : decode cX3_isLetter 1 = .ok (.getfield 9, 3) := by decide +kernel
theorem dX3_isLetter_4 : decode cX3_isLetter 4 = .ok (.iload_n 1, 1) := by decide +kernel
theorem dX3_isLetter_5 : decode cX3_isLetter 5 = .ok (.iaload, 1) := by decide +kernel
theorem dX3_isLetter_6 : decode cX3_isLetter 6 = .ok (.bipush 97, 2) := by decide +kernel
theorem dX3_isLetter_8 : decode cX3_isLetter 8 = .ok (.if_icmp .lt 18, 3) := by decide +kernel
theorem dX3_isLetter_11 : decode cX3_isLetter 11 = .ok (.aload_n 0, 1) := by decide +kernel
theorem dX3_isLetter_12 : decode cX3_isLetter 12 = .ok (.getfield 9, 3) := by decide +kernel
theorem dX3_isLetter_15 : decode cX3_isLetter 15 = .ok (.iload_n 1, 1) := by decide +kernel
theorem dX3_isLetter_16 : decode cX3_isLetter 16 = .ok (.iaload, 1) := by decide +kernel
theorem dX3_isLetter_17 : decode cX3_isLetter 17 = .ok (.bipush 122, 2) := by decide +kernel
theorem dX3_isLetter_19 : decode cX3_isLetter 19 = .ok (.if_icmp .gt 7, 3) := by decide +kernel
theorem dX3_isLetter_22 : decode cX3_isLetter 22 = .ok (.iconst 1, 1) := by decide +kernel
theorem dX3_isLetter_23 : decode cX3_isLetter 23 = .ok (.goto 4, 3) := by decide +kernel
theorem dX3_isLetter_26 : decode cX3_isLetter 26 = .ok (.iconst 0, 1) := by decide +kernel
theorem dX3_isLetter_27 : decode cX3_isLetter 27 = .ok (.ireturn, 1) := by decide +kernel
theorem dX3_isFigure_0 : decode cX3_isFigure 0 = .ok (.aload_n 0, 1) := by decide +kernel
theorem dX3_isFigure_1 : decode cX3_isFigure 1 = .ok (.getfield 9, 3) := by decide +kernel
theorem dX3_isFigure_4 : decode cX3_isFigure 4 = .ok (.iload_n 1, 1) := by decide +kernel
theorem dX3_isFigure_5 : decode cX3_isFigure 5 = .ok (.iaload, 1) := by decide +kernel
theorem dX3_isFigure_6 : decode cX3_isFigure 6 = .ok (.bipush 48, 2) := by decide +kernel
theorem dX3_isFigure_8 : decode cX3_isFigure 8 = .ok (.if_icmp .lt 18, 3) := by decide +kernel
theorem dX3_isFigure_11 : decode cX3_isFigure 11 = .ok (.aload_n 0, 1) := by decide +kernel
theorem dX3_isFigure_12 : decode cX3_isFigure 12 = .ok (.getfield 9, 3) := by decide +kernel
theorem dX3_isFigure_15 : decode cX3_isFigure 15 = .ok (.iload_n 1, 1) := by decide +kernel
theorem dX3_isFigure_16 : decode cX3_isFigure 16 = .ok (.iaload, 1) := by decide +kernel
theorem dX3_isFigure_17 : decode cX3_isFigure 17 = .ok (.bipush 57, 2) := by decide +kernel
theorem dX3_isFigure_19 : decode cX3_isFigure 19 = .ok (.if_icmp .gt 7, 3) := by decide +kernel
theorem dX3_isFigure_22 : decode cX3_isFigure 22 = .ok (.iconst 1, 1) := by decide +kernel
theorem dX3_isFigure_23 : decode cX3_isFigure 23 = .ok (.goto 4, 3) := by decide +kernel
theorem dX3_isFigure_26 : decode cX3_isFigure 26 = .ok (.iconst 0, 1) := by decide +kernel
theorem dX3_isFigure_27 : decode cX3_isFigure 27 = .ok (.ireturn, 1) := by decide +kernel
theorem dX4_init_0 : decode cX4_init 0 = .ok (.aload_n 0, 1) := by decide +kernel
theorem dX4_init_1 : decode cX4_init 1 = .ok (.invokespecial 3, 3) := by decide +kernel
theorem dX4_init_4 : decode cX4_init 4 = .ok (.aload_n 0, 1) := by decide +kernel
theorem dX4_init_5 : decode cX4_init 5 = .ok (.bipush 8, 2) := by decide +kernel
theorem dX4_init_7 : decode cX4_init 7 = .ok (.newarray .int, 2) := by decide +kernel
theorem dX4_init_9 : decode cX4_init 9 = .ok (.putfield 9, 3) := by decide +kernel
theorem dX4_init_12 : decode cX4_init 12 = .ok (.aload_n 0, 1) := by decide +kernel
theorem dX4_init_13 : decode cX4_init 13 = .ok (.bipush 8, 2) := by decide +kernel
theorem dX4_init_15 : decode cX4_init 15 = .ok (.newarray .int, 2) := by decide +kernel
theorem dX4_init_17 : decode cX4_init 17 = .ok (.putfield 15, 3) := by decide +kernel
theorem dX4_init_20 : decode cX4_init 20 = .ok (.aload_n 0, 1) := by decide +kernel
theorem dX4_init_21 : decode cX4_init 21 = .ok (.bipush 8, 2) := by decide +kernel
theorem dX4_init_23 : decode cX4_init 23 = .ok (.newarray .int, 2) := by decide +kernel
theorem dX4_init_25 : decode cX4_init 25 = .ok (.putfield 18, 3) := by decide +kernel
theorem dX4_init_28 : decode cX4_init 28 = .ok (.aload_n 0, 1) := by decide +kernel
theorem dX4_init_29 : decode cX4_init 29 = .ok (.bipush 8, 2) := by decide +kernel
theorem dX4_init_31 : decode cX4_init 31 = .ok (.newarray .int, 2) := by decide +kernel
theorem dX4_init_33 : decode cX4_init 33 = .ok (.putfield 21, 3) := by decide +kernel
theorem dX4_init_36 : decode cX4_init 36 = .ok (.aload_n 0, 1) := by decide +kernel
theorem dX4_init_37 : decode cX4_init 37 = .ok (.iconst 4, 1) := by decide +kernel
theorem dX4_init_38 : decode cX4_init 38 = .ok (.newarray .long, 2) := by decide +kernel
theorem dX4_init_40 : decode cX4_init 40 = .ok (.putfield 24, 3) := by decide +kernel
theorem dX4_init_43 : decode cX4_init 43 = .ok (.aload_n 0, 1) := by decide +kernel
theorem dX4_init_44 : decode cX4_init 44 = .ok (.new 28, 3) := by decide +kernel
theorem dX4_init_47 : decode cX4_init 47 = .ok (.dup, 1) := by decide +kernel
theorem dX4_init_48 : decode cX4_init 48 = .ok (.invokespecial 30, 3) := by decide +kernel
theorem dX4_init_51 : decode cX4_init 51 = .ok (.putfield 31, 3) := by decide +kernel
theorem dX4_init_54 : decode cX4_init 54 = .ok (.aload_n 0, 1) := by decide +kernel
theorem dX4_init_55 : decode cX4_init 55 = .ok (.bipush 8, 2) := by decide +kernel
theorem dX4_init_57 : decode cX4_init 57 = .ok (.newarray .int, 2) := by decide +kernel
theorem dX4_init_59 : decode cX4_init 59 = .ok (.putfield 35, 3) := by decide +kernel
theorem dX4_init_62 : decode cX4_init 62 = .ok (.aload_n 0, 1) := by decide +kernel
theorem dX4_init_63 : decode cX4_init 63 = .ok (.bipush 8, 2) := by decide +kernel
theorem dX4_init_65 : decode cX4_init 65 = .ok (.newarray .int, 2) := by decide +kernel
theorem dX4_init_67 : decode cX4_init 67 = .ok (.putfield 38, 3) := by decide +kernel
theorem dX4_init_70 : decode cX4_init 70 = .ok (.return_, 1) := by decide +kernel
theorem dX4_restart_0 : decode cX4_restart 0 = .ok (.iconst 0, 1) := by decide +kernel
theorem dX4_restart_1 : decode cX4_restart 1 = .ok (.istore_n 2, 1) := by decide +kernel
theorem dX4_restart_2 : decode cX4_restart 2 = .ok (.iload_n 2, 1) := by decide +kernel
theorem dX4_restart_3 : decode cX4_restart 3 = .ok (.iconst 4, 1) := by decide +kernel
theorem dX4_restart_4 : decode cX4_restart 4 = .ok (.if_icmp .ge 16, 3) := by decide +kernel
theorem dX4_restart_7 : decode cX4_restart 7 = .ok (.aload_n 0, 1) := by decide +kernel
theorem dX4_restart_8 : decode cX4_restart 8 = .ok (.getfield 24, 3) := by decide +kernel
theorem dX4_restart_11 : decode cX4_restart 11 = .ok (.iload_n 2, 1) := by decide +kernel
theorem dX4_restart_12 : decode cX4_restart 12 = .ok (.lconst 0, 1) := by decide +kernel
theorem dX4_restart_13 : decode cX4_restart 13 = .ok (.lastore, 1) := by decide +kernel
theorem dX4_restart_14 : decode cX4_restart 14 = .ok (.iinc 2 1, 3) := by decide +kernel
theorem dX4_restart_17 : decode cX4_restart 17 = .ok (.goto (-15), 3) := by decide +kernel
theorem dX4_restart_20 : decode cX4_restart 20 = .ok (.aload_n 0, 1) := by decide +kernel
theorem dX4_restart_21 : decode cX4_restart 21 = .ok (.getfield 31, 3) := by decide +kernel
theorem dX4_restart_24 : decode cX4_restart 24 = .ok (.iconst 0, 1) := by decide +kernel
theorem dX4_restart_25 : decode cX4_restart 25 = .ok (.putfield 43, 3) := by decide +kernel
theorem dX4_restart_28 : decode cX4_restart 28 = .ok (.aload_n 0, 1) := by decide +kernel
theorem dX4_restart_29 : decode cX4_restart 29 = .ok (.iconst 0, 1) := by decide +kernel
theorem dX4_restart_30 : decode cX4_restart 30 = .ok (.putfield 47, 3) := by decide +kernel
theorem dX4_restart_33 : decode cX4_restart 33 = .ok (.aload_n 0, 1) := by decide +kernel
theorem dX4_restart_34 : decode cX4_restart 34 = .ok (.iload_n 1, 1) := by decide +kernel
theorem dX4_restart_35 : decode cX4_restart 35 = .ok (.putfield 50, 3) := by decide +kernel
theorem dX4_restart_38 : decode cX4_restart 38 = .ok (.aload_n 0, 1) := by decide +kernel
theorem dX4_restart_39 : decode cX4_restart 39 = .ok (.iconst 0, 1) := by decide +kernel
theorem dX4_restart_40 : decode cX4_restart 40 = .ok (.putfield 53, 3) := by decide +kernel
theorem dX4_restart_43 : decode cX4_restart 43 = .ok (.return_, 1) := by decide +kernel
theorem dX4_copyOf_0 : decode cX4_copyOf 0 = .ok (.aload_n 1, 1) := by decide +kernel
theorem dX4_copyOf_1 : decode cX4_copyOf 1 = .ok (.getfield 9, 3) := by decide +kernel
theorem dX4_copyOf_4 : decode cX4_copyOf 4 = .ok (.iconst 0, 1) := by decide +kernel
theorem dX4_copyOf_5 : decode cX4_copyOf 5 = .ok (.aload_n 0, 1) := by decide +kernel
theorem dX4_copyOf_6 : decode cX4_copyOf 6 = .ok (.getfield 9, 3) := by decide +kernel
theorem dX4_copyOf_9 : decode cX4_copyOf 9 = .ok (.iconst 0, 1) := by decide +kernel
theorem dX4_copyOf_10 : decode cX4_copyOf 10 = .ok (.bipush 8, 2) := by decide +kernel
theorem dX4_copyOf_12 : decode cX4_copyOf 12 = .ok (.invokestatic 56, 3) := by decide +kernel
theorem dX4_copyOf_15 : decode cX4_copyOf 15 = .ok (.aload_n 1, 1) := by decide +kernel
theorem dX4_copyOf_16 : decode cX4_copyOf 16 = .ok (.getfield 15, 3) := by decide +kernel
theorem dX4_copyOf_19 : decode cX4_copyOf 19 = .ok (.iconst 0, 1) := by decide +kernel
theorem dX4_copyOf_20 : decode cX4_copyOf 20 = .ok (.aload_n 0, 1) := by decide +kernel
theorem dX4_copyOf_21 : decode cX4_copyOf 21 = .ok (.getfield 15, 3) := by decide +kernel
theorem dX4_copyOf_24 : decode cX4_copyOf 24 = .ok (.iconst 0, 1) := by decide +kernel
theorem dX4_copyOf_25 : decode cX4_copyOf 25 = .ok (.bipush 8, 2) := by decide +kernel
theorem dX4_copyOf_27 : decode cX4_copyOf 27 = .ok (.invokestatic 56, 3) := by decide +kernel
theorem dX4_copyOf_30 : decode cX4_copyOf 30 = .ok (.aload_n 1, 1) := by decide +kernel
theorem dX4_copyOf_31 : decode cX4_copyOf 31 = .ok (.getfield 18, 3) := by decide +kernel
theorem dX4_copyOf_34 : decode cX4_copyOf 34 = .ok (.iconst 0, 1) := by decide +kernel
theorem dX4_copyOf_35 : decode cX4_copyOf 35 = .ok (.aload_n 0, 1) := by decide +kernel
theorem dX4_copyOf_36 : decode cX4_copyOf 36 = .ok (.getfield 18, 3) := by decide +kernel
theorem dX4_copyOf_39 : decode cX4_copyOf 39 = .ok (.iconst 0, 1) := by decide +kernel
theorem dX4_copyOf_40 : decode cX4_copyOf 40 = .ok (.bipush 8, 2) := by decide +kernel
theorem dX4_copyOf_42 : decode cX4_copyOf 42 = .ok (.invokestatic 56, 3) := by decide +kernel
theorem dX4_copyOf_45 : decode cX4_copyOf 45 = .ok (.aload_n 1, 1) := by decide +kernel
theorem dX4_copyOf_46 : decode cX4_copyOf 46 = .ok (.getfield 21, 3) := by decide +kernel
theorem dX4_copyOf_49 : decode cX4_copyOf 49 = .ok (.iconst 0, 1) := by decide +kernel
theorem dX4_copyOf_50 : decode cX4_copyOf 50 = .ok (.aload_n 0, 1) := by decide +kernel
theorem dX4_copyOf_51 : decode cX4_copyOf 51 = .ok (.getfield 21, 3) := by decide +kernel
theorem dX4_copyOf_54 : decode cX4_copyOf 54 = .ok (.iconst 0, 1) := by decide +kernel
theorem dX4_copyOf_55 : decode cX4_copyOf 55 = .ok (.bipush 8, 2) := by decide +kernel
theorem dX4_copyOf_57 : decode cX4_copyOf 57 = .ok (.invokestatic 56, 3) := by decide +kernel
theorem dX4_copyOf_60 : decode cX4_copyOf 60 = .ok (.aload_n 1, 1) := by decide +kernel
theorem dX4_copyOf_61 : decode cX4_copyOf 61 = .ok (.getfield 24, 3) := by decide +kernel
theorem dX4_copyOf_64 : decode cX4_copyOf 64 = .ok (.iconst 0, 1) := by decide +kernel
theorem dX4_copyOf_65 : decode cX4_copyOf 65 = .ok (.aload_n 0, 1) := by decide +kernel
theorem dX4_copyOf_66 : decode cX4_copyOf 66 = .ok (.getfield 24, 3) := by decide +kernel
theorem dX4_copyOf_69 : decode cX4_copyOf 69 = .ok (.iconst 0, 1) := by decide +kernel
theorem dX4_copyOf_70 : decode cX4_copyOf 70 = .ok (.iconst 4, 1) := by decide +kernel
theorem dX4_copyOf_71 : decode cX4_copyOf 71 = .ok (.invokestatic 56, 3) := by decide +kernel
theorem dX4_copyOf_74 : decode cX4_copyOf 74 = .ok (.aload_n 0, 1) := by decide +kernel
theorem dX4_copyOf_75 : decode cX4_copyOf 75 = .ok (.getfield 31, 3) := by decide +kernel
theorem dX4_copyOf_78 : decode cX4_copyOf 78 = .ok (.aload_n 1, 1) := by decide +kernel
theorem dX4_copyOf_79 : decode cX4_copyOf 79 = .ok (.getfield 31, 3) := by decide +kernel
theorem dX4_copyOf_82 : decode cX4_copyOf 82 = .ok (.invokevirtual 62, 3) := by decide +kernel
theorem dX4_copyOf_85 : decode cX4_copyOf 85 = .ok (.aload_n 0, 1) := by decide +kernel
theorem dX4_copyOf_86 : decode cX4_copyOf 86 = .ok (.aload_n 1, 1) := by decide +kernel
theorem dX4_copyOf_87 : decode cX4_copyOf 87 = .ok (.getfield 47, 3) := by decide +kernel
theorem dX4_copyOf_90 : decode cX4_copyOf 90 = .ok (.putfield 47, 3) := by decide +kernel
theorem dX4_copyOf_93 : decode cX4_copyOf 93 = .ok (.aload_n 0, 1) := by decide +kernel
theorem dX4_copyOf_94 : decode cX4_copyOf 94 = .ok (.aload_n 1, 1) := by decide +kernel
theorem dX4_copyOf_95 : decode cX4_copyOf 95 = .ok (.getfield 50, 3) := by decide +kernel
theorem dX4_copyOf_98 : decode cX4_copyOf 98 = .ok (.putfield 50, 3) := by decide +kernel
theorem dX4_copyOf_101 : decode cX4_copyOf 101 = .ok (.aload_n 0, 1) := by decide +kernel
theorem dX4_copyOf_102 : decode cX4_copyOf 102 = .ok (.aload_n 1, 1) := by decide +kernel
theorem dX4_copyOf_103 : decode cX4_copyOf 103 = .ok (.getfield 53, 3) := by decide +kernel
theorem dX4_copyOf_106 : decode cX4_copyOf 106 = .ok (.putfield 53, 3) := by decide +kernel
theorem dX4_copyOf_109 : decode cX4_copyOf 109 = .ok (.aload_n 1, 1) := by decide +kernel
theorem dX4_copyOf_110 : decode cX4_copyOf 110 = .ok (.getfield 35, 3) := by decide +kernel
theorem dX4_copyOf_113 : decode cX4_copyOf 113 = .ok (.iconst 0, 1) := by decide +kernel
theorem dX4_copyOf_114 : decode cX4_copyOf 114 = .ok (.aload_n 0, 1) := by decide +kernel
theorem dX4_copyOf_115 : decode cX4_copyOf 115 = .ok (.getfield 35, 3) := by decide +kernel
theorem dX4_copyOf_118 : decode cX4_copyOf 118 = .ok (.iconst 0, 1) := by decide +kernel
theorem dX4_copyOf_119 : decode cX4_copyOf 119 = .ok (.bipush 8, 2) := by decide +kernel
theorem dX4_copyOf_121 : decode cX4_copyOf 121 = .ok (.invokestatic 56, 3) := by decide +kernel
theorem dX4_copyOf_124 : decode cX4_copyOf 124 = .ok (.aload_n 1, 1) := by decide +kernel
theorem dX4_copyOf_125 : decode cX4_copyOf 125 = .ok (.getfield 38, 3) := by decide +kernel
theorem dX4_copyOf_128 : decode cX4_copyOf 128 = .ok (.iconst 0, 1) := by decide +kernel
theorem dX4_copyOf_129 : decode cX4_copyOf 129 = .ok (.aload_n 0, 1) := by decide +kernel
theorem dX4_copyOf_130 : decode cX4_copyOf 130 = .ok (.getfield 38, 3) := by decide +kernel
theorem dX4_copyOf_133 : decode cX4_copyOf 133 = .ok (.iconst 0, 1) := by decide +kernel
theorem dX4_copyOf_134 : decode cX4_copyOf 134 = .ok (.bipush 8, 2) := by decide +kernel
theorem dX4_copyOf_136 : decode cX4_copyOf 136 = .ok (.invokestatic 56, 3) := by decide +kernel
theorem dX4_copyOf_139 : decode cX4_copyOf 139 = .ok (.return_, 1) := by decide +kernel
theorem dX4_build_0 : decode cX4_build 0 = .ok (.aload_n 0, 1) := by decide +kernel
theorem dX4_build_1 : decode cX4_build 1 = .ok (.getfield 47, 3) := by decide +kernel
theorem dX4_build_4 : decode cX4_build 4 = .ok (.bipush 8, 2) := by decide +kernel
theorem dX4_build_6 : decode cX4_build 6 = .ok (.if_icmp .lt 5, 3) := by decide +kernel
theorem dX4_build_9 : decode cX4_build 9 = .ok (.iconst (-1), 1) := by decide +kernel
theorem dX4_build_10 : decode cX4_build 10 = .ok (.ireturn, 1) := by decide +kernel
theorem dX4_build_11 : decode cX4_build 11 = .ok (.aload_n 0, 1) := by decide +kernel
theorem dX4_build_12 : decode cX4_build 12 = .ok (.getfield 47, 3) := by decide +kernel
theorem dX4_build_15 : decode cX4_build 15 = .ok (.istore 5, 2) := by decide +kernel
theorem dX4_build_17 : decode cX4_build 17 = .ok (.aload_n 0, 1) := by decide +kernel
theorem dX4_build_18 : decode cX4_build 18 = .ok (.getfield 9, 3) := by decide +kernel
theorem dX4_build_21 : decode cX4_build 21 = .ok (.iload 5, 2) := by decide +kernel
theorem dX4_build_23 : decode cX4_build 23 = .ok (.iload_n 1, 1) := by decide +kernel
theorem dX4_build_24 : decode cX4_build 24 = .ok (.iastore, 1) := by decide +kernel
theorem dX4_build_25 : decode cX4_build 25 = .ok (.aload_n 0, 1) := by decide +kernel
theorem dX4_build_26 : decode cX4_build 26 = .ok (.getfield 15, 3) := by decide +kernel
theorem dX4_build_29 : decode cX4_build 29 = .ok (.iload 5, 2) := by decide +kernel
theorem dX4_build_31 : decode cX4_build 31 = .ok (.iload_n 2, 1) := by decide +kernel
theorem dX4_build_32 : decode cX4_build 32 = .ok (.iastore, 1) := by decide +kernel
theorem dX4_build_33 : decode cX4_build 33 = .ok (.aload_n 0, 1) := by decide +kernel
theorem dX4_build_34 : decode cX4_build 34 = .ok (.getfield 18, 3) := by decide +kernel
theorem dX4_build_37 : decode cX4_build 37 = .ok (.iload 5, 2) := by decide +kernel
theorem dX4_build_39 : decode cX4_build 39 = .ok (.iload_n 3, 1) := by decide +kernel
theorem dX4_build_40 : decode cX4_build 40 = .ok (.iastore, 1) := by decide +kernel
theorem dX4_build_41 : decode cX4_build 41 = .ok (.aload_n 0, 1) := by decide +kernel
theorem dX4_build_42 : decode cX4_build 42 = .ok (.getfield 21, 3) := by decide +kernel
theorem dX4_build_45 : decode cX4_build 45 = .ok (.iload 5, 2) := by decide +kernel
theorem dX4_build_47 : decode cX4_build 47 = .ok (.iload 4, 2) := by decide +kernel
theorem dX4_build_49 : decode cX4_build 49 = .ok (.iastore, 1) := by decide +kernel
theorem dX4_build_50 : decode cX4_build 50 = .ok (.aload_n 0, 1) := by decide +kernel
theorem dX4_build_51 : decode cX4_build 51 = .ok (.dup, 1) := by decide +kernel
theorem dX4_build_52 : decode cX4_build 52 = .ok (.getfield 47, 3) := by decide +kernel
theorem dX4_build_55 : decode cX4_build 55 = .ok (.iconst 1, 1) := by decide +kernel
theorem dX4_build_56 : decode cX4_build 56 = .ok (.iadd, 1) := by decide +kernel
theorem dX4_build_57 : decode cX4_build 57 = .ok (.putfield 47, 3) := by decide +kernel
theorem dX4_build_60 : decode cX4_build 60 = .ok (.aload_n 0, 1) := by decide +kernel
theorem dX4_build_61 : decode cX4_build 61 = .ok (.iconst 0, 1) := by decide +kernel
theorem dX4_build_62 : decode cX4_build 62 = .ok (.putfield 53, 3) := by decide +kernel
theorem dX4_build_65 : decode cX4_build 65 = .ok (.iload 5, 2) := by decide +kernel
theorem dX4_build_67 : decode cX4_build 67 = .ok (.ireturn, 1) := by decide +kernel
theorem dX4_retell_0 : decode cX4_retell 0 = .ok (.bipush 16, 2) := by decide +kernel
theorem dX4_retell_2 : decode cX4_retell 2 = .ok (.aload_n 0, 1) := by decide +kernel
theorem dX4_retell_3 : decode cX4_retell 3 = .ok (.getfield 18, 3) := by decide +kernel
theorem dX4_retell_6 : decode cX4_retell 6 = .ok (.iload_n 1, 1) := by decide +kernel
theorem dX4_retell_7 : decode cX4_retell 7 = .ok (.iaload, 1) := by decide +kernel
theorem dX4_retell_8 : decode cX4_retell 8 = .ok (.imul, 1) := by decide +kernel
theorem dX4_retell_9 : decode cX4_retell 9 = .ok (.aload_n 0, 1) := by decide +kernel
theorem dX4_retell_10 : decode cX4_retell 10 = .ok (.getfield 21, 3) := by decide +kernel
theorem dX4_retell_13 : decode cX4_retell 13 = .ok (.iload_n 1, 1) := by decide +kernel
theorem dX4_retell_14 : decode cX4_retell 14 = .ok (.iaload, 1) := by decide +kernel
theorem dX4_retell_15 : decode cX4_retell 15 = .ok (.iadd, 1) := by decide +kernel
theorem dX4_retell_16 : decode cX4_retell 16 = .ok (.istore 4, 2) := by decide +kernel
theorem dX4_retell_18 : decode cX4_retell 18 = .ok (.aload_n 0, 1) := by decide +kernel
theorem dX4_retell_19 : decode cX4_retell 19 = .ok (.iload_n 1, 1) := by decide +kernel
theorem dX4_retell_20 : decode cX4_retell 20 = .ok (.iload 4, 2) := by decide +kernel
theorem dX4_retell_22 : decode cX4_retell 22 = .ok (.invokevirtual 66, 3) := by decide +kernel
theorem dX4_retell_25 : decode cX4_retell 25 = .ok (.aload_n 0, 1) := by decide +kernel
theorem dX4_retell_26 : decode cX4_retell 26 = .ok (.getfield 18, 3) := by decide +kernel
theorem dX4_retell_29 : decode cX4_retell 29 = .ok (.iload_n 1, 1) := by decide +kernel
theorem dX4_retell_30 : decode cX4_retell 30 = .ok (.iload_n 2, 1) := by decide +kernel
theorem dX4_retell_31 : decode cX4_retell 31 = .ok (.iastore, 1) := by decide +kernel
theorem dX4_retell_32 : decode cX4_retell 32 = .ok (.aload_n 0, 1) := by decide +kernel
theorem dX4_retell_33 : decode cX4_retell 33 = .ok (.getfield 21, 3) := by decide +kernel
theorem dX4_retell_36 : decode cX4_retell 36 = .ok (.iload_n 1, 1) := by decide +kernel
theorem dX4_retell_37 : decode cX4_retell 37 = .ok (.iload_n 3, 1) := by decide +kernel
theorem dX4_retell_38 : decode cX4_retell 38 = .ok (.iastore, 1) := by decide +kernel
theorem dX4_retell_39 : decode cX4_retell 39 = .ok (.iload 4, 2) := by decide +kernel
theorem dX4_retell_41 : decode cX4_retell 41 = .ok (.ireturn, 1) := by decide +kernel
theorem dX4_letPass_0 : decode cX4_letPass 0 = .ok (.aload_n 0, 1) := by decide +kernel
theorem dX4_letPass_1 : decode cX4_letPass 1 = .ok (.iconst (-1), 1) := by decide +kernel
theorem dX4_letPass_2 : decode cX4_letPass 2 = .ok (.aload_n 0, 1) := by decide +kernel
theorem dX4_letPass_3 : decode cX4_letPass 3 = .ok (.getfield 50, 3) := by decide +kernel
theorem dX4_letPass_6 : decode cX4_letPass 6 = .ok (.invokevirtual 66, 3) := by decide +kernel
theorem dX4_letPass_9 : decode cX4_letPass 9 = .ok (.aload_n 0, 1) := by decide +kernel
theorem dX4_letPass_10 : decode cX4_letPass 10 = .ok (.aload_n 0, 1) := by decide +kernel
theorem dX4_letPass_11 : decode cX4_letPass 11 = .ok (.getfield 50, 3) := by decide +kernel
theorem dX4_letPass_14 : decode cX4_letPass 14 = .ok (.iload_n 1, 1) := by decide +kernel
theorem dX4_letPass_15 : decode cX4_letPass 15 = .ok (.iadd, 1) := by decide +kernel
theorem dX4_letPass_16 : decode cX4_letPass 16 = .ok (.bipush 12, 2) := by decide +kernel
theorem dX4_letPass_18 : decode cX4_letPass 18 = .ok (.irem, 1) := by decide +kernel
theorem dX4_letPass_19 : decode cX4_letPass 19 = .ok (.putfield 50, 3) := by decide +kernel
theorem dX4_letPass_22 : decode cX4_letPass 22 = .ok (.return_, 1) := by decide +kernel
theorem dX4_takeBack_0 : decode cX4_takeBack 0 = .ok (.aload_n 0, 1) := by decide +kernel
theorem dX4_takeBack_1 : decode cX4_takeBack 1 = .ok (.getfield 53, 3) := by decide +kernel
theorem dX4_takeBack_4 : decode cX4_takeBack 4 = .ok (.ifCond .gt 4, 3) := by decide +kernel
theorem dX4_takeBack_7 : decode cX4_takeBack 7 = .ok (.return_, 1) := by decide +kernel
theorem dX4_takeBack_8 : decode cX4_takeBack 8 = .ok (.aload_n 0, 1) := by decide +kernel
theorem dX4_takeBack_9 : decode cX4_takeBack 9 = .ok (.dup, 1) := by decide +kernel
theorem dX4_takeBack_10 : decode cX4_takeBack 10 = .ok (.getfield 53, 3) := by decide +kernel
theorem dX4_takeBack_13 : decode cX4_takeBack 13 = .ok (.iconst 1, 1) := by decide +kernel
theorem dX4_takeBack_14 : decode cX4_takeBack 14 = .ok (.isub, 1) := by decide +kernel
theorem dX4_takeBack_15 : decode cX4_takeBack 15 = .ok (.putfield 53, 3) := by decide +kernel
theorem dX4_takeBack_18 : decode cX4_takeBack 18 = .ok (.aload_n 0, 1) := by decide +kernel
theorem dX4_takeBack_19 : decode cX4_takeBack 19 = .ok (.getfield 35, 3) := by decide +kernel
theorem dX4_takeBack_22 : decode cX4_takeBack 22 = .ok (.aload_n 0, 1) := by decide +kernel
theorem dX4_takeBack_23 : decode cX4_takeBack 23 = .ok (.getfield 53, 3) := by decide +kernel
theorem dX4_takeBack_26 : decode cX4_takeBack 26 = .ok (.iaload, 1) := by decide +kernel
theorem dX4_takeBack_27 : decode cX4_takeBack 27 = .ok (.istore_n 1, 1) := by decide +kernel
theorem dX4_takeBack_28 : decode cX4_takeBack 28 = .ok (.aload_n 0, 1) := by decide +kernel
theorem dX4_takeBack_29 : decode cX4_takeBack 29 = .ok (.getfield 38, 3) := by decide +kernel
theorem dX4_takeBack_32 : decode cX4_takeBack 32 = .ok (.aload_n 0, 1) := by decide +kernel
theorem dX4_takeBack_33 : decode cX4_takeBack 33 = .ok (.getfield 53, 3) := by decide +kernel
theorem dX4_takeBack_36 : decode cX4_takeBack 36 = .ok (.iaload, 1) := by decide +kernel
theorem dX4_takeBack_37 : decode cX4_takeBack 37 = .ok (.istore_n 2, 1) := by decide +kernel
theorem dX4_takeBack_38 : decode cX4_takeBack 38 = .ok (.iload_n 1, 1) := by decide +kernel
theorem dX4_takeBack_39 : decode cX4_takeBack 39 = .ok (.iconst (-1), 1) := by decide +kernel
theorem dX4_takeBack_40 : decode cX4_takeBack 40 = .ok (.if_icmp .ne 11, 3) := by decide +kernel
theorem dX4_takeBack_43 : decode cX4_takeBack 43 = .ok (.aload_n 0, 1) := by decide +kernel
theorem dX4_takeBack_44 : decode cX4_takeBack 44 = .ok (.iload_n 2, 1) := by decide +kernel
theorem dX4_takeBack_45 : decode cX4_takeBack 45 = .ok (.putfield 50, 3) := by decide +kernel
theorem dX4_takeBack_48 : decode cX4_takeBack 48 = .ok (.goto 23, 3) := by decide +kernel
theorem dX4_takeBack_51 : decode cX4_takeBack 51 = .ok (.aload_n 0, 1) := by decide +kernel
theorem dX4_takeBack_52 : decode cX4_takeBack 52 = .ok (.getfield 18, 3) := by decide +kernel
theorem dX4_takeBack_55 : decode cX4_takeBack 55 = .ok (.iload_n 1, 1) := by decide +kernel
theorem dX4_takeBack_56 : decode cX4_takeBack 56 = .ok (.iload_n 2, 1) := by decide +kernel
theorem dX4_takeBack_57 : decode cX4_takeBack 57 = .ok (.bipush 16, 2) := by decide +kernel
theorem dX4_takeBack_59 : decode cX4_takeBack 59 = .ok (.idiv, 1) := by decide +kernel
theorem dX4_takeBack_60 : decode cX4_takeBack 60 = .ok (.iastore, 1) := by decide +kernel
theorem dX4_takeBack_61 : decode cX4_takeBack 61 = .ok (.aload_n 0, 1) := by decide +kernel
theorem dX4_takeBack_62 : decode cX4_takeBack 62 = .ok (.getfield 21, 3) := by decide +kernel
theorem dX4_takeBack_65 : decode cX4_takeBack 65 = .ok (.iload_n 1, 1) := by decide +kernel
theorem dX4_takeBack_66 : decode cX4_takeBack 66 = .ok (.iload_n 2, 1) := by decide +kernel
theorem dX4_takeBack_67 : decode cX4_takeBack 67 = .ok (.bipush 16, 2) := by decide +kernel
theorem dX4_takeBack_69 : decode cX4_takeBack 69 = .ok (.irem, 1) := by decide +kernel
theorem dX4_takeBack_70 : decode cX4_takeBack 70 = .ok (.iastore, 1) := by decide +kernel
theorem dX4_takeBack_71 : decode cX4_takeBack 71 = .ok (.return_, 1) := by decide +kernel
theorem dX4_remember_0 : decode cX4_remember 0 = .ok (.aload_n 0, 1) := by decide +kernel
theorem dX4_remember_1 : decode cX4_remember 1 = .ok (.getfield 53, 3) := by decide +kernel
theorem dX4_remember_4 : decode cX4_remember 4 = .ok (.bipush 8, 2) := by decide +kernel
theorem dX4_remember_6 : decode cX4_remember 6 = .ok (.if_icmp .lt 39, 3) := by decide +kernel
theorem dX4_remember_9 : decode cX4_remember 9 = .ok (.aload_n 0, 1) := by decide +kernel
theorem dX4_remember_10 : decode cX4_remember 10 = .ok (.getfield 35, 3) := by decide +kernel
theorem dX4_remember_13 : decode cX4_remember 13 = .ok (.iconst 1, 1) := by decide +kernel
theorem dX4_remember_14 : decode cX4_remember 14 = .ok (.aload_n 0, 1) := by decide +kernel
theorem dX4_remember_15 : decode cX4_remember 15 = .ok (.getfield 35, 3) := by decide +kernel
theorem dX4_remember_18 : decode cX4_remember 18 = .ok (.iconst 0, 1) := by decide +kernel
theorem dX4_remember_19 : decode cX4_remember 19 = .ok (.bipush 7, 2) := by decide +kernel
theorem dX4_remember_21 : decode cX4_remember 21 = .ok (.invokestatic 56, 3) := by decide +kernel
theorem dX4_remember_24 : decode cX4_remember 24 = .ok (.aload_n 0, 1) := by decide +kernel
theorem dX4_remember_25 : decode cX4_remember 25 = .ok (.getfield 38, 3) := by decide +kernel
theorem dX4_remember_28 : decode cX4_remember 28 = .ok (.iconst 1, 1) := by decide +kernel
theorem dX4_remember_29 : decode cX4_remember 29 = .ok (.aload_n 0, 1) := by decide +kernel
theorem dX4_remember_30 : decode cX4_remember 30 = .ok (.getfield 38, 3) := by decide +kernel
theorem dX4_remember_33 : decode cX4_remember 33 = .ok (.iconst 0, 1) := by decide +kernel
theorem dX4_remember_34 : decode cX4_remember 34 = .ok (.bipush 7, 2) := by decide +kernel
theorem dX4_remember_36 : decode cX4_remember 36 = .ok (.invokestatic 56, 3) := by decide +kernel
theorem dX4_remember_39 : decode cX4_remember 39 = .ok (.aload_n 0, 1) := by decide +kernel
theorem dX4_remember_40 : decode cX4_remember 40 = .ok (.bipush 7, 2) := by decide +kernel
theorem dX4_remember_42 : decode cX4_remember 42 = .ok (.putfield 53, 3) := by decide +kernel
theorem dX4_remember_45 : decode cX4_remember 45 = .ok (.aload_n 0, 1) := by decide +kernel
theorem dX4_remember_46 : decode cX4_remember 46 = .ok (.getfield 35, 3) := by decide +kernel
theorem dX4_remember_49 : decode cX4_remember 49 = .ok (.aload_n 0, 1) := by decide +kernel
theorem dX4_remember_50 : decode cX4_remember 50 = .ok (.getfield 53, 3) := by decide +kernel
theorem dX4_remember_53 : decode cX4_remember 53 = .ok (.iload_n 1, 1) := by decide +kernel
theorem dX4_remember_54 : decode cX4_remember 54 = .ok (.iastore, 1) := by decide +kernel
theorem dX4_remember_55 : decode cX4_remember 55 = .ok (.aload_n 0, 1) := by decide +kernel
theorem dX4_remember_56 : decode cX4_remember 56 = .ok (.getfield 38, 3) := by decide +kernel
theorem dX4_remember_59 : decode cX4_remember 59 = .ok (.aload_n 0, 1) := by decide +kernel
theorem dX4_remember_60 : decode cX4_remember 60 = .ok (.getfield 53, 3) := by decide +kernel
theorem dX4_remember_63 : decode cX4_remember 63 = .ok (.iload_n 2, 1) := by decide +kernel
theorem dX4_remember_64 : decode cX4_remember 64 = .ok (.iastore, 1) := by decide +kernel
theorem dX4_remember_65 : decode cX4_remember 65 = .ok (.aload_n 0, 1) := by decide +kernel
theorem dX4_remember_66 : decode cX4_remember 66 = .ok (.dup, 1) := by decide +kernel
theorem dX4_remember_67 : decode cX4_remember 67 = .ok (.getfield 53, 3) := by decide +kernel
theorem dX4_remember_70 : decode cX4_remember 70 = .ok (.iconst 1, 1) := by decide +kernel
theorem dX4_remember_71 : decode cX4_remember 71 = .ok (.iadd, 1) := by decide +kernel
theorem dX4_remember_72 : decode cX4_remember 72 = .ok (.putfield 53, 3) := by decide +kernel
theorem dX4_remember_75 : decode cX4_remember 75 = .ok (.return_, 1) := by decide +kernel
theorem dX4_behind_0 : decode cX4_behind 0 = .ok (.lload_n 2, 1) := by decide +kernel
theorem dX4_behind_1 : decode cX4_behind 1 = .ok (.aload_n 0, 1) := by decide +kernel
theorem dX4_behind_2 : decode cX4_behind 2 = .ok (.getfield 18, 3) := by decide +kernel
theorem dX4_behind_5 : decode cX4_behind 5 = .ok (.iload_n 1, 1) := by decide +kernel
theorem dX4_behind_6 : decode cX4_behind 6 = .ok (.iaload, 1) := by decide +kernel
theorem dX4_behind_7 : decode cX4_behind 7 = .ok (.aload_n 0, 1) := by decide +kernel
theorem dX4_behind_8 : decode cX4_behind 8 = .ok (.getfield 21, 3) := by decide +kernel
theorem dX4_behind_11 : decode cX4_behind 11 = .ok (.iload_n 1, 1) := by decide +kernel
theorem dX4_behind_12 : decode cX4_behind 12 = .ok (.iaload, 1) := by decide +kernel
theorem dX4_behind_13 : decode cX4_behind 13 = .ok (.aload_n 0, 1) := by decide +kernel
theorem dX4_behind_14 : decode cX4_behind 14 = .ok (.getfield 50, 3) := by decide +kernel
theorem dX4_behind_17 : decode cX4_behind 17 = .ok (.invokestatic 70, 3) := by decide +kernel
theorem dX4_behind_20 : decode cX4_behind 20 = .ok (.lreturn, 1) := by decide +kernel
theorem dX4_allSounds_0 : decode cX4_allSounds 0 = .ok (.lload_n 1, 1) := by decide +kernel
theorem dX4_allSounds_1 : decode cX4_allSounds 1 = .ok (.lstore 5, 2) := by decide +kernel
theorem dX4_allSounds_3 : decode cX4_allSounds 3 = .ok (.iconst 0, 1) := by decide +kernel
theorem dX4_allSounds_4 : decode cX4_allSounds 4 = .ok (.istore 7, 2) := by decide +kernel
theorem dX4_allSounds_6 : decode cX4_allSounds 6 = .ok (.iconst 0, 1) := by decide +kernel
theorem dX4_allSounds_7 : decode cX4_allSounds 7 = .ok (.istore 8, 2) := by decide +kernel
theorem dX4_allSounds_9 : decode cX4_allSounds 9 = .ok (.iload 8, 2) := by decide +kernel
theorem dX4_allSounds_11 : decode cX4_allSounds 11 = .ok (.aload_n 0, 1) := by decide +kernel
theorem dX4_allSounds_12 : decode cX4_allSounds 12 = .ok (.getfield 47, 3) := by decide +kernel
theorem dX4_allSounds_15 : decode cX4_allSounds 15 = .ok (.if_icmp .ge 55, 3) := by decide +kernel
theorem dX4_allSounds_18 : decode cX4_allSounds 18 = .ok (.iload 8, 2) := by decide +kernel
theorem dX4_allSounds_20 : decode cX4_allSounds 20 = .ok (.iload_n 3, 1) := by decide +kernel
theorem dX4_allSounds_21 : decode cX4_allSounds 21 = .ok (.if_icmp .ne 8, 3) := by decide +kernel
theorem dX4_allSounds_24 : decode cX4_allSounds 24 = .ok (.iload 4, 2) := by decide +kernel
theorem dX4_allSounds_26 : decode cX4_allSounds 26 = .ok (.goto 16, 3) := by decide +kernel
theorem dX4_allSounds_29 : decode cX4_allSounds 29 = .ok (.iload 8, 2) := by decide +kernel
theorem dX4_allSounds_31 : decode cX4_allSounds 31 = .ok (.iload 4, 2) := by decide +kernel
theorem dX4_allSounds_33 : decode cX4_allSounds 33 = .ok (.if_icmp .ne 7, 3) := by decide +kernel
theorem dX4_allSounds_36 : decode cX4_allSounds 36 = .ok (.iload_n 3, 1) := by decide +kernel
theorem dX4_allSounds_37 : decode cX4_allSounds 37 = .ok (.goto 5, 3) := by decide +kernel
theorem dX4_allSounds_40 : decode cX4_allSounds 40 = .ok (.iload 8, 2) := by decide +kernel
theorem dX4_allSounds_42 : decode cX4_allSounds 42 = .ok (.istore 9, 2) := by decide +kernel
theorem dX4_allSounds_44 : decode cX4_allSounds 44 = .ok (.aload_n 0, 1) := by decide +kernel
theorem dX4_allSounds_45 : decode cX4_allSounds 45 = .ok (.iload 9, 2) := by decide +kernel
theorem dX4_allSounds_47 : decode cX4_allSounds 47 = .ok (.lload 5, 2) := by decide +kernel
theorem dX4_allSounds_49 : decode cX4_allSounds 49 = .ok (.invokevirtual 76, 3) := by decide +kernel
theorem dX4_allSounds_52 : decode cX4_allSounds 52 = .ok (.lstore 5, 2) := by decide +kernel
theorem dX4_allSounds_54 : decode cX4_allSounds 54 = .ok (.iload 7, 2) := by decide +kernel
theorem dX4_allSounds_56 : decode cX4_allSounds 56 = .ok (.lload 5, 2) := by decide +kernel
theorem dX4_allSounds_58 : decode cX4_allSounds 58 = .ok (.invokestatic 80, 3) := by decide +kernel
theorem dX4_allSounds_61 : decode cX4_allSounds 61 = .ok (.ior, 1) := by decide +kernel
theorem dX4_allSounds_62 : decode cX4_allSounds 62 = .ok (.istore 7, 2) := by decide +kernel
theorem dX4_allSounds_64 : decode cX4_allSounds 64 = .ok (.iinc 8 1, 3) := by decide +kernel
theorem dX4_allSounds_67 : decode cX4_allSounds 67 = .ok (.goto (-58), 3) := by decide +kernel
theorem dX4_allSounds_70 : decode cX4_allSounds 70 = .ok (.iload 7, 2) := by decide +kernel
theorem dX4_allSounds_72 : decode cX4_allSounds 72 = .ok (.ireturn, 1) := by decide +kernel
theorem dX5_applied_0 : decode cX5_applied 0 = .ok (.iload_n 2, 1) := by decide +kernel
theorem dX5_applied_1 : decode cX5_applied 1 = .ok (.tableswitch 66 1 5 #[35, 41, 47, 52, 58], 35) := by decide +kernel
theorem dX5_applied_36 : decode cX5_applied 36 = .ok (.lload_n 0, 1) := by decide +kernel
theorem dX5_applied_37 : decode cX5_applied 37 = .ok (.iload_n 3, 1) := by decide +kernel
theorem dX5_applied_38 : decode cX5_applied 38 = .ok (.invokestatic 9, 3) := by decide +kernel
theorem dX5_applied_41 : decode cX5_applied 41 = .ok (.lreturn, 1) := by decide +kernel
theorem dX5_applied_42 : decode cX5_applied 42 = .ok (.lload_n 0, 1) := by decide +kernel
theorem dX5_applied_43 : decode cX5_applied 43 = .ok (.iload_n 3, 1) := by decide +kernel
theorem dX5_applied_44 : decode cX5_applied 44 = .ok (.invokestatic 15, 3) := by decide +kernel
theorem dX5_applied_47 : decode cX5_applied 47 = .ok (.lreturn, 1) := by decide +kernel
theorem dX5_applied_48 : decode cX5_applied 48 = .ok (.lload_n 0, 1) := by decide +kernel
theorem dX5_applied_49 : decode cX5_applied 49 = .ok (.invokestatic 18, 3) := by decide +kernel
theorem dX5_applied_52 : decode cX5_applied 52 = .ok (.lreturn, 1) := by decide +kernel
theorem dX5_applied_53 : decode cX5_applied 53 = .ok (.lload_n 0, 1) := by decide +kernel
theorem dX5_applied_54 : decode cX5_applied 54 = .ok (.iload_n 3, 1) := by decide +kernel
theorem dX5_applied_55 : decode cX5_applied 55 = .ok (.invokestatic 22, 3) := by decide +kernel
theorem dX5_applied_58 : decode cX5_applied 58 = .ok (.lreturn, 1) := by decide +kernel
theorem dX5_applied_59 : decode cX5_applied 59 = .ok (.lload_n 0, 1) := by decide +kernel
theorem dX5_applied_60 : decode cX5_applied 60 = .ok (.iload_n 3, 1) := by decide +kernel
theorem dX5_applied_61 : decode cX5_applied 61 = .ok (.iload 4, 2) := by decide +kernel
theorem dX5_applied_63 : decode cX5_applied 63 = .ok (.invokestatic 25, 3) := by decide +kernel
theorem dX5_applied_66 : decode cX5_applied 66 = .ok (.lreturn, 1) := by decide +kernel
theorem dX5_applied_67 : decode cX5_applied 67 = .ok (.lload_n 0, 1) := by decide +kernel
theorem dX5_applied_68 : decode cX5_applied 68 = .ok (.invokestatic 29, 3) := by decide +kernel
theorem dX5_applied_71 : decode cX5_applied 71 = .ok (.lreturn, 1) := by decide +kernel
theorem dX5_appliedPair_0 : decode cX5_appliedPair 0 = .ok (.lload_n 0, 1) := by decide +kernel
theorem dX5_appliedPair_1 : decode cX5_appliedPair 1 = .ok (.iload_n 2, 1) := by decide +kernel
theorem dX5_appliedPair_2 : decode cX5_appliedPair 2 = .ok (.bipush 16, 2) := by decide +kernel
theorem dX5_appliedPair_4 : decode cX5_appliedPair 4 = .ok (.idiv, 1) := by decide +kernel
theorem dX5_appliedPair_5 : decode cX5_appliedPair 5 = .ok (.iload_n 2, 1) := by decide +kernel
theorem dX5_appliedPair_6 : decode cX5_appliedPair 6 = .ok (.bipush 16, 2) := by decide +kernel
theorem dX5_appliedPair_8 : decode cX5_appliedPair 8 = .ok (.irem, 1) := by decide +kernel
theorem dX5_appliedPair_9 : decode cX5_appliedPair 9 = .ok (.iload_n 3, 1) := by decide +kernel
theorem dX5_appliedPair_10 : decode cX5_appliedPair 10 = .ok (.invokestatic 32, 3) := by decide +kernel
theorem dX5_appliedPair_13 : decode cX5_appliedPair 13 = .ok (.lreturn, 1) := by decide +kernel
theorem dX5_plain_0 : decode cX5_plain 0 = .ok (.lload_n 0, 1) := by decide +kernel
theorem dX5_plain_1 : decode cX5_plain 1 = .ok (.lreturn, 1) := by decide +kernel
theorem dX5_sweet_0 : decode cX5_sweet 0 = .ok (.lload_n 0, 1) := by decide +kernel
theorem dX5_sweet_1 : decode cX5_sweet 1 = .ok (.invokestatic 29, 3) := by decide +kernel
theorem dX5_sweet_4 : decode cX5_sweet 4 = .ok (.bipush 11, 2) := by decide +kernel
theorem dX5_sweet_6 : decode cX5_sweet 6 = .ok (.invokestatic 38, 3) := by decide +kernel
theorem dX5_sweet_9 : decode cX5_sweet 9 = .ok (.iload_n 2, 1) := by decide +kernel
theorem dX5_sweet_10 : decode cX5_sweet 10 = .ok (.invokestatic 41, 3) := by decide +kernel
theorem dX5_sweet_13 : decode cX5_sweet 13 = .ok (.lreturn, 1) := by decide +kernel
theorem dX5_drop_0 : decode cX5_drop 0 = .ok (.lload_n 0, 1) := by decide +kernel
theorem dX5_drop_1 : decode cX5_drop 1 = .ok (.invokestatic 29, 3) := by decide +kernel
theorem dX5_drop_4 : decode cX5_drop 4 = .ok (.lstore_n 3, 1) := by decide +kernel
theorem dX5_drop_5 : decode cX5_drop 5 = .ok (.lload_n 3, 1) := by decide +kernel
theorem dX5_drop_6 : decode cX5_drop 6 = .ok (.lload_n 3, 1) := by decide +kernel
theorem dX5_drop_7 : decode cX5_drop 7 = .ok (.invokestatic 44, 3) := by decide +kernel
theorem dX5_drop_10 : decode cX5_drop 10 = .ok (.iload_n 2, 1) := by decide +kernel
theorem dX5_drop_11 : decode cX5_drop 11 = .ok (.iconst 3, 1) := by decide +kernel
theorem dX5_drop_12 : decode cX5_drop 12 = .ok (.irem, 1) := by decide +kernel
theorem dX5_drop_13 : decode cX5_drop 13 = .ok (.iconst 1, 1) := by decide +kernel
theorem dX5_drop_14 : decode cX5_drop 14 = .ok (.iadd, 1) := by decide +kernel
theorem dX5_drop_15 : decode cX5_drop 15 = .ok (.isub, 1) := by decide +kernel
theorem dX5_drop_16 : decode cX5_drop 16 = .ok (.invokestatic 38, 3) := by decide +kernel
theorem dX5_drop_19 : decode cX5_drop 19 = .ok (.lreturn, 1) := by decide +kernel
theorem dX5_turn_0 : decode cX5_turn 0 = .ok (.lload_n 0, 1) := by decide +kernel
theorem dX5_turn_1 : decode cX5_turn 1 = .ok (.invokestatic 29, 3) := by decide +kernel
theorem dX5_turn_4 : decode cX5_turn 4 = .ok (.invokestatic 48, 3) := by decide +kernel
theorem dX5_turn_7 : decode cX5_turn 7 = .ok (.lreturn, 1) := by decide +kernel
theorem dX5_twice_0 : decode cX5_twice 0 = .ok (.lload_n 0, 1) := by decide +kernel
theorem dX5_twice_1 : decode cX5_twice 1 = .ok (.iload_n 2, 1) := by decide +kernel
theorem dX5_twice_2 : decode cX5_twice 2 = .ok (.invokestatic 9, 3) := by decide +kernel
theorem dX5_twice_5 : decode cX5_twice 5 = .ok (.lstore_n 3, 1) := by decide +kernel
theorem dX5_twice_6 : decode cX5_twice 6 = .ok (.lload_n 3, 1) := by decide +kernel
theorem dX5_twice_7 : decode cX5_twice 7 = .ok (.lload_n 3, 1) := by decide +kernel
theorem dX5_twice_8 : decode cX5_twice 8 = .ok (.iconst 0, 1) := by decide +kernel
theorem dX5_twice_9 : decode cX5_twice 9 = .ok (.invokestatic 51, 3) := by decide +kernel
theorem dX5_twice_12 : decode cX5_twice 12 = .ok (.invokestatic 55, 3) := by decide +kernel
theorem dX5_twice_15 : decode cX5_twice 15 = .ok (.lreturn, 1) := by decide +kernel
theorem dX5_feast_0 : decode cX5_feast 0 = .ok (.iload_n 3, 1) := by decide +kernel
theorem dX5_feast_1 : decode cX5_feast 1 = .ok (.iconst 4, 1) := by decide +kernel
theorem dX5_feast_2 : decode cX5_feast 2 = .ok (.irem, 1) := by decide +kernel
theorem dX5_feast_3 : decode cX5_feast 3 = .ok (.ifCond .ne 7, 3) := by decide +kernel
theorem dX5_feast_6 : decode cX5_feast 6 = .ok (.iconst 1, 1) := by decide +kernel
theorem dX5_feast_7 : decode cX5_feast 7 = .ok (.goto 4, 3) := by decide +kernel
theorem dX5_feast_10 : decode cX5_feast 10 = .ok (.iconst 0, 1) := by decide +kernel
theorem dX5_feast_11 : decode cX5_feast 11 = .ok (.istore 4, 2) := by decide +kernel
theorem dX5_feast_13 : decode cX5_feast 13 = .ok (.iload 4, 2) := by decide +kernel
theorem dX5_feast_15 : decode cX5_feast 15 = .ok (.ifCond .eq 11, 3) := by decide +kernel
theorem dX5_feast_18 : decode cX5_feast 18 = .ok (.lload_n 0, 1) := by decide +kernel
theorem dX5_feast_19 : decode cX5_feast 19 = .ok (.iload_n 2, 1) := by decide +kernel
theorem dX5_feast_20 : decode cX5_feast 20 = .ok (.invokestatic 15, 3) := by decide +kernel
theorem dX5_feast_23 : decode cX5_feast 23 = .ok (.goto 8, 3) := by decide +kernel
theorem dX5_feast_26 : decode cX5_feast 26 = .ok (.lload_n 0, 1) := by decide +kernel
theorem dX5_feast_27 : decode cX5_feast 27 = .ok (.iload_n 2, 1) := by decide +kernel
theorem dX5_feast_28 : decode cX5_feast 28 = .ok (.invokestatic 58, 3) := by decide +kernel
theorem dX5_feast_31 : decode cX5_feast 31 = .ok (.lreturn, 1) := by decide +kernel
theorem dX6_init_0 : decode cX6_init 0 = .ok (.aload_n 0, 1) := by decide +kernel
theorem dX6_init_1 : decode cX6_init 1 = .ok (.invokespecial 3, 3) := by decide +kernel
theorem dX6_init_4 : decode cX6_init 4 = .ok (.aload_n 0, 1) := by decide +kernel
theorem dX6_init_5 : decode cX6_init 5 = .ok (.bipush 6, 2) := by decide +kernel
theorem dX6_init_7 : decode cX6_init 7 = .ok (.newarray .int, 2) := by decide +kernel
theorem dX6_init_9 : decode cX6_init 9 = .ok (.putfield 9, 3) := by decide +kernel
theorem dX6_init_12 : decode cX6_init 12 = .ok (.aload_n 0, 1) := by decide +kernel
theorem dX6_init_13 : decode cX6_init 13 = .ok (.bipush 6, 2) := by decide +kernel
theorem dX6_init_15 : decode cX6_init 15 = .ok (.newarray .int, 2) := by decide +kernel
theorem dX6_init_17 : decode cX6_init 17 = .ok (.putfield 15, 3) := by decide +kernel
theorem dX6_init_20 : decode cX6_init 20 = .ok (.return_, 1) := by decide +kernel
theorem dX6_findWays_0 : decode cX6_findWays 0 = .ok (.aload_n 0, 1) := by decide +kernel
theorem dX6_findWays_1 : decode cX6_findWays 1 = .ok (.iload 5, 2) := by decide +kernel
theorem dX6_findWays_3 : decode cX6_findWays 3 = .ok (.putfield 18, 3) := by decide +kernel
theorem dX6_findWays_6 : decode cX6_findWays 6 = .ok (.aload_n 0, 1) := by decide +kernel
theorem dX6_findWays_7 : decode cX6_findWays 7 = .ok (.iconst 0, 1) := by decide +kernel
theorem dX6_findWays_8 : decode cX6_findWays 8 = .ok (.putfield 22, 3) := by decide +kernel
theorem dX6_findWays_11 : decode cX6_findWays 11 = .ok (.aload_n 0, 1) := by decide +kernel
theorem dX6_findWays_12 : decode cX6_findWays 12 = .ok (.aload_n 1, 1) := by decide +kernel
theorem dX6_findWays_13 : decode cX6_findWays 13 = .ok (.iload 4, 2) := by decide +kernel
theorem dX6_findWays_15 : decode cX6_findWays 15 = .ok (.lload_n 2, 1) := by decide +kernel
theorem dX6_findWays_16 : decode cX6_findWays 16 = .ok (.iconst 0, 1) := by decide +kernel
theorem dX6_findWays_17 : decode cX6_findWays 17 = .ok (.iconst 0, 1) := by decide +kernel
theorem dX6_findWays_18 : decode cX6_findWays 18 = .ok (.iconst 0, 1) := by decide +kernel
theorem dX6_findWays_19 : decode cX6_findWays 19 = .ok (.invokevirtual 25, 3) := by decide +kernel
theorem dX6_findWays_22 : decode cX6_findWays 22 = .ok (.return_, 1) := by decide +kernel
theorem dX6_goOn_0 : decode cX6_goOn 0 = .ok (.iload_n 2, 1) := by decide +kernel
theorem dX6_goOn_1 : decode cX6_goOn 1 = .ok (.aload_n 0, 1) := by decide +kernel
theorem dX6_goOn_2 : decode cX6_goOn 2 = .ok (.getfield 18, 3) := by decide +kernel
theorem dX6_goOn_5 : decode cX6_goOn 5 = .ok (.if_icmp .ne 11, 3) := by decide +kernel
theorem dX6_goOn_8 : decode cX6_goOn 8 = .ok (.aload_n 0, 1) := by decide +kernel
theorem dX6_goOn_9 : decode cX6_goOn 9 = .ok (.iload 6, 2) := by decide +kernel
theorem dX6_goOn_11 : decode cX6_goOn 11 = .ok (.iload 7, 2) := by decide +kernel
theorem dX6_goOn_13 : decode cX6_goOn 13 = .ok (.invokevirtual 29, 3) := by decide +kernel
theorem dX6_goOn_16 : decode cX6_goOn 16 = .ok (.iload 6, 2) := by decide +kernel
theorem dX6_goOn_18 : decode cX6_goOn 18 = .ok (.bipush 6, 2) := by decide +kernel
theorem dX6_goOn_20 : decode cX6_goOn 20 = .ok (.if_icmp .lt 4, 3) := by decide +kernel
theorem dX6_goOn_23 : decode cX6_goOn 23 = .ok (.return_, 1) := by decide +kernel
theorem dX6_goOn_24 : decode cX6_goOn 24 = .ok (.iconst 0, 1) := by decide +kernel
theorem dX6_goOn_25 : decode cX6_goOn 25 = .ok (.istore 8, 2) := by decide +kernel
theorem dX6_goOn_27 : decode cX6_goOn 27 = .ok (.iload 8, 2) := by decide +kernel
theorem dX6_goOn_29 : decode cX6_goOn 29 = .ok (.aload_n 1, 1) := by decide +kernel
theorem dX6_goOn_30 : decode cX6_goOn 30 = .ok (.getfield 33, 3) := by decide +kernel
theorem dX6_goOn_33 : decode cX6_goOn 33 = .ok (.if_icmp .ge 72, 3) := by decide +kernel
theorem dX6_goOn_36 : decode cX6_goOn 36 = .ok (.aload_n 1, 1) := by decide +kernel
theorem dX6_goOn_37 : decode cX6_goOn 37 = .ok (.iload 8, 2) := by decide +kernel
theorem dX6_goOn_39 : decode cX6_goOn 39 = .ok (.iload_n 2, 1) := by decide +kernel
theorem dX6_goOn_40 : decode cX6_goOn 40 = .ok (.iload 5, 2) := by decide +kernel
theorem dX6_goOn_42 : decode cX6_goOn 42 = .ok (.invokestatic 38, 3) := by decide +kernel
theorem dX6_goOn_45 : decode cX6_goOn 45 = .ok (.ifCond .eq 54, 3) := by decide +kernel
theorem dX6_goOn_48 : decode cX6_goOn 48 = .ok (.aload_n 0, 1) := by decide +kernel
theorem dX6_goOn_49 : decode cX6_goOn 49 = .ok (.getfield 15, 3) := by decide +kernel
theorem dX6_goOn_52 : decode cX6_goOn 52 = .ok (.iload 6, 2) := by decide +kernel
theorem dX6_goOn_54 : decode cX6_goOn 54 = .ok (.iload 8, 2) := by decide +kernel
theorem dX6_goOn_56 : decode cX6_goOn 56 = .ok (.iastore, 1) := by decide +kernel
theorem dX6_goOn_57 : decode cX6_goOn 57 = .ok (.aload_n 1, 1) := by decide +kernel
theorem dX6_goOn_58 : decode cX6_goOn 58 = .ok (.iload 8, 2) := by decide +kernel
theorem dX6_goOn_60 : decode cX6_goOn 60 = .ok (.lload_n 3, 1) := by decide +kernel
theorem dX6_goOn_61 : decode cX6_goOn 61 = .ok (.invokevirtual 42, 3) := by decide +kernel
theorem dX6_goOn_64 : decode cX6_goOn 64 = .ok (.lstore 9, 2) := by decide +kernel
theorem dX6_goOn_66 : decode cX6_goOn 66 = .ok (.aload_n 0, 1) := by decide +kernel
theorem dX6_goOn_67 : decode cX6_goOn 67 = .ok (.aload_n 1, 1) := by decide +kernel
theorem dX6_goOn_68 : decode cX6_goOn 68 = .ok (.aload_n 1, 1) := by decide +kernel
theorem dX6_goOn_69 : decode cX6_goOn 69 = .ok (.getfield 46, 3) := by decide +kernel
theorem dX6_goOn_72 : decode cX6_goOn 72 = .ok (.iload 8, 2) := by decide +kernel
theorem dX6_goOn_74 : decode cX6_goOn 74 = .ok (.iaload, 1) := by decide +kernel
theorem dX6_goOn_75 : decode cX6_goOn 75 = .ok (.lload 9, 2) := by decide +kernel
theorem dX6_goOn_77 : decode cX6_goOn 77 = .ok (.iload 5, 2) := by decide +kernel
theorem dX6_goOn_79 : decode cX6_goOn 79 = .ok (.iconst 1, 1) := by decide +kernel
theorem dX6_goOn_80 : decode cX6_goOn 80 = .ok (.iload 8, 2) := by decide +kernel
theorem dX6_goOn_82 : decode cX6_goOn 82 = .ok (.ishl, 1) := by decide +kernel
theorem dX6_goOn_83 : decode cX6_goOn 83 = .ok (.ior, 1) := by decide +kernel
theorem dX6_goOn_84 : decode cX6_goOn 84 = .ok (.iload 6, 2) := by decide +kernel
theorem dX6_goOn_86 : decode cX6_goOn 86 = .ok (.iconst 1, 1) := by decide +kernel
theorem dX6_goOn_87 : decode cX6_goOn 87 = .ok (.iadd, 1) := by decide +kernel
theorem dX6_goOn_88 : decode cX6_goOn 88 = .ok (.iload 7, 2) := by decide +kernel
theorem dX6_goOn_90 : decode cX6_goOn 90 = .ok (.lload 9, 2) := by decide +kernel
theorem dX6_goOn_92 : decode cX6_goOn 92 = .ok (.invokestatic 49, 3) := by decide +kernel
theorem dX6_goOn_95 : decode cX6_goOn 95 = .ok (.iadd, 1) := by decide +kernel
theorem dX6_goOn_96 : decode cX6_goOn 96 = .ok (.invokevirtual 25, 3) := by decide +kernel
theorem dX6_goOn_99 : decode cX6_goOn 99 = .ok (.iinc 8 1, 3) := by decide +kernel
theorem dX6_goOn_102 : decode cX6_goOn 102 = .ok (.goto (-75), 3) := by decide +kernel
theorem dX6_goOn_105 : decode cX6_goOn 105 = .ok (.return_, 1) := by decide +kernel
theorem dX6_arrive_0 : decode cX6_arrive 0 = .ok (.iload_n 2, 1) := by decide +kernel
theorem dX6_arrive_1 : decode cX6_arrive 1 = .ok (.aload_n 0, 1) := by decide +kernel
theorem dX6_arrive_2 : decode cX6_arrive 2 = .ok (.getfield 55, 3) := by decide +kernel
theorem dX6_arrive_5 : decode cX6_arrive 5 = .ok (.if_icmp .lt 19, 3) := by decide +kernel
theorem dX6_arrive_8 : decode cX6_arrive 8 = .ok (.iload_n 2, 1) := by decide +kernel
theorem dX6_arrive_9 : decode cX6_arrive 9 = .ok (.aload_n 0, 1) := by decide +kernel
theorem dX6_arrive_10 : decode cX6_arrive 10 = .ok (.getfield 55, 3) := by decide +kernel
theorem dX6_arrive_13 : decode cX6_arrive 13 = .ok (.if_icmp .ne 15, 3) := by decide +kernel
theorem dX6_arrive_16 : decode cX6_arrive 16 = .ok (.iload_n 1, 1) := by decide +kernel
theorem dX6_arrive_17 : decode cX6_arrive 17 = .ok (.aload_n 0, 1) := by decide +kernel
theorem dX6_arrive_18 : decode cX6_arrive 18 = .ok (.getfield 58, 3) := by decide +kernel
theorem dX6_arrive_21 : decode cX6_arrive 21 = .ok (.if_icmp .ge 7, 3) := by decide +kernel
theorem dX6_arrive_24 : decode cX6_arrive 24 = .ok (.iconst 1, 1) := by decide +kernel
theorem dX6_arrive_25 : decode cX6_arrive 25 = .ok (.goto 4, 3) := by decide +kernel
theorem dX6_arrive_28 : decode cX6_arrive 28 = .ok (.iconst 0, 1) := by decide +kernel
theorem dX6_arrive_29 : decode cX6_arrive 29 = .ok (.istore_n 3, 1) := by decide +kernel
theorem dX6_arrive_30 : decode cX6_arrive 30 = .ok (.aload_n 0, 1) := by decide +kernel
theorem dX6_arrive_31 : decode cX6_arrive 31 = .ok (.getfield 22, 3) := by decide +kernel
theorem dX6_arrive_34 : decode cX6_arrive 34 = .ok (.ifCond .eq 7, 3) := by decide +kernel
theorem dX6_arrive_37 : decode cX6_arrive 37 = .ok (.iload_n 3, 1) := by decide +kernel
theorem dX6_arrive_38 : decode cX6_arrive 38 = .ok (.ifCond .eq 28, 3) := by decide +kernel
theorem dX6_arrive_41 : decode cX6_arrive 41 = .ok (.aload_n 0, 1) := by decide +kernel
theorem dX6_arrive_42 : decode cX6_arrive 42 = .ok (.iload_n 2, 1) := by decide +kernel
theorem dX6_arrive_43 : decode cX6_arrive 43 = .ok (.putfield 55, 3) := by decide +kernel
theorem dX6_arrive_46 : decode cX6_arrive 46 = .ok (.aload_n 0, 1) := by decide +kernel
theorem dX6_arrive_47 : decode cX6_arrive 47 = .ok (.iload_n 1, 1) := by decide +kernel
theorem dX6_arrive_48 : decode cX6_arrive 48 = .ok (.putfield 58, 3) := by decide +kernel
theorem dX6_arrive_51 : decode cX6_arrive 51 = .ok (.aload_n 0, 1) := by decide +kernel
theorem dX6_arrive_52 : decode cX6_arrive 52 = .ok (.getfield 15, 3) := by decide +kernel
theorem dX6_arrive_55 : decode cX6_arrive 55 = .ok (.iconst 0, 1) := by decide +kernel
theorem dX6_arrive_56 : decode cX6_arrive 56 = .ok (.aload_n 0, 1) := by decide +kernel
theorem dX6_arrive_57 : decode cX6_arrive 57 = .ok (.getfield 9, 3) := by decide +kernel
theorem dX6_arrive_60 : decode cX6_arrive 60 = .ok (.iconst 0, 1) := by decide +kernel
theorem dX6_arrive_61 : decode cX6_arrive 61 = .ok (.bipush 6, 2) := by decide +kernel
theorem dX6_arrive_63 : decode cX6_arrive 63 = .ok (.invokestatic 61, 3) := by decide +kernel
theorem dX6_arrive_66 : decode cX6_arrive 66 = .ok (.aload_n 0, 1) := by decide +kernel
theorem dX6_arrive_67 : decode cX6_arrive 67 = .ok (.dup, 1) := by decide +kernel
theorem dX6_arrive_68 : decode cX6_arrive 68 = .ok (.getfield 22, 3) := by decide +kernel
theorem dX6_arrive_71 : decode cX6_arrive 71 = .ok (.iconst 1, 1) := by decide +kernel
theorem dX6_arrive_72 : decode cX6_arrive 72 = .ok (.iadd, 1) := by decide +kernel
theorem dX6_arrive_73 : decode cX6_arrive 73 = .ok (.putfield 22, 3) := by decide +kernel
theorem dX6_arrive_76 : decode cX6_arrive 76 = .ok (.return_, 1) := by decide +kernel
theorem dX6_fewestToCurse_0 : decode cX6_fewestToCurse 0 = .ok (.aload_n 0, 1) := by decide +kernel
theorem dX6_fewestToCurse_1 : decode cX6_fewestToCurse 1 = .ok (.iload 5, 2) := by decide +kernel
theorem dX6_fewestToCurse_3 : decode cX6_fewestToCurse 3 = .ok (.lload_n 1, 1) := by decide +kernel
theorem dX6_fewestToCurse_4 : decode cX6_fewestToCurse 4 = .ok (.lload_n 3, 1) := by decide +kernel
theorem dX6_fewestToCurse_5 : decode cX6_fewestToCurse 5 = .ok (.iconst 0, 1) := by decide +kernel
theorem dX6_fewestToCurse_6 : decode cX6_fewestToCurse 6 = .ok (.iconst 0, 1) := by decide +kernel
theorem dX6_fewestToCurse_7 : decode cX6_fewestToCurse 7 = .ok (.invokestatic 67, 3) := by decide +kernel
theorem dX6_fewestToCurse_10 : decode cX6_fewestToCurse 10 = .ok (.ireturn, 1) := by decide +kernel
theorem dX6_fewest_0 : decode cX6_fewest 0 = .ok (.lload_n 2, 1) := by decide +kernel
theorem dX6_fewest_1 : decode cX6_fewest 1 = .ok (.lload 4, 2) := by decide +kernel
theorem dX6_fewest_3 : decode cX6_fewest 3 = .ok (.invokestatic 71, 3) := by decide +kernel
theorem dX6_fewest_6 : decode cX6_fewest 6 = .ok (.ifCond .eq 6, 3) := by decide +kernel
theorem dX6_fewest_9 : decode cX6_fewest 9 = .ok (.iload 7, 2) := by decide +kernel
theorem dX6_fewest_11 : decode cX6_fewest 11 = .ok (.ireturn, 1) := by decide +kernel
theorem dX6_fewest_12 : decode cX6_fewest 12 = .ok (.iconst (-1), 1) := by decide +kernel
theorem dX6_fewest_13 : decode cX6_fewest 13 = .ok (.istore 8, 2) := by decide +kernel
theorem dX6_fewest_15 : decode cX6_fewest 15 = .ok (.iload 7, 2) := by decide +kernel
theorem dX6_fewest_17 : decode cX6_fewest 17 = .ok (.bipush 6, 2) := by decide +kernel
theorem dX6_fewest_19 : decode cX6_fewest 19 = .ok (.if_icmp .lt 6, 3) := by decide +kernel
theorem dX6_fewest_22 : decode cX6_fewest 22 = .ok (.iload 8, 2) := by decide +kernel
theorem dX6_fewest_24 : decode cX6_fewest 24 = .ok (.ireturn, 1) := by decide +kernel
theorem dX6_fewest_25 : decode cX6_fewest 25 = .ok (.iconst 0, 1) := by decide +kernel
theorem dX6_fewest_26 : decode cX6_fewest 26 = .ok (.istore 9, 2) := by decide +kernel
theorem dX6_fewest_28 : decode cX6_fewest 28 = .ok (.iload 9, 2) := by decide +kernel
theorem dX6_fewest_30 : decode cX6_fewest 30 = .ok (.aload_n 0, 1) := by decide +kernel
theorem dX6_fewest_31 : decode cX6_fewest 31 = .ok (.getfield 33, 3) := by decide +kernel
theorem dX6_fewest_34 : decode cX6_fewest 34 = .ok (.if_icmp .ge 86, 3) := by decide +kernel
theorem dX6_fewest_37 : decode cX6_fewest 37 = .ok (.aload_n 0, 1) := by decide +kernel
theorem dX6_fewest_38 : decode cX6_fewest 38 = .ok (.iload 9, 2) := by decide +kernel
theorem dX6_fewest_40 : decode cX6_fewest 40 = .ok (.iload_n 1, 1) := by decide +kernel
theorem dX6_fewest_41 : decode cX6_fewest 41 = .ok (.iload 6, 2) := by decide +kernel
theorem dX6_fewest_43 : decode cX6_fewest 43 = .ok (.invokestatic 38, 3) := by decide +kernel
theorem dX6_fewest_46 : decode cX6_fewest 46 = .ok (.ifCond .eq 68, 3) := by decide +kernel
theorem dX6_fewest_49 : decode cX6_fewest 49 = .ok (.aload_n 0, 1) := by decide +kernel
theorem dX6_fewest_50 : decode cX6_fewest 50 = .ok (.iload 9, 2) := by decide +kernel
theorem dX6_fewest_52 : decode cX6_fewest 52 = .ok (.lload_n 2, 1) := by decide +kernel
theorem dX6_fewest_53 : decode cX6_fewest 53 = .ok (.invokevirtual 42, 3) := by decide +kernel
theorem dX6_fewest_56 : decode cX6_fewest 56 = .ok (.lstore 10, 2) := by decide +kernel
theorem dX6_fewest_58 : decode cX6_fewest 58 = .ok (.aload_n 0, 1) := by decide +kernel
theorem dX6_fewest_59 : decode cX6_fewest 59 = .ok (.aload_n 0, 1) := by decide +kernel
theorem dX6_fewest_60 : decode cX6_fewest 60 = .ok (.getfield 46, 3) := by decide +kernel
theorem dX6_fewest_63 : decode cX6_fewest 63 = .ok (.iload 9, 2) := by decide +kernel
theorem dX6_fewest_65 : decode cX6_fewest 65 = .ok (.iaload, 1) := by decide +kernel
theorem dX6_fewest_66 : decode cX6_fewest 66 = .ok (.lload 10, 2) := by decide +kernel
theorem dX6_fewest_68 : decode cX6_fewest 68 = .ok (.lload 4, 2) := by decide +kernel
theorem dX6_fewest_70 : decode cX6_fewest 70 = .ok (.iload 6, 2) := by decide +kernel
theorem dX6_fewest_72 : decode cX6_fewest 72 = .ok (.iconst 1, 1) := by decide +kernel
theorem dX6_fewest_73 : decode cX6_fewest 73 = .ok (.iload 9, 2) := by decide +kernel
theorem dX6_fewest_75 : decode cX6_fewest 75 = .ok (.ishl, 1) := by decide +kernel
theorem dX6_fewest_76 : decode cX6_fewest 76 = .ok (.ior, 1) := by decide +kernel
theorem dX6_fewest_77 : decode cX6_fewest 77 = .ok (.iload 7, 2) := by decide +kernel
theorem dX6_fewest_79 : decode cX6_fewest 79 = .ok (.iconst 1, 1) := by decide +kernel
theorem dX6_fewest_80 : decode cX6_fewest 80 = .ok (.iadd, 1) := by decide +kernel
theorem dX6_fewest_81 : decode cX6_fewest 81 = .ok (.invokestatic 67, 3) := by decide +kernel
theorem dX6_fewest_84 : decode cX6_fewest 84 = .ok (.istore 12, 2) := by decide +kernel
theorem dX6_fewest_86 : decode cX6_fewest 86 = .ok (.iload 12, 2) := by decide +kernel
theorem dX6_fewest_88 : decode cX6_fewest 88 = .ok (.iconst (-1), 1) := by decide +kernel
theorem dX6_fewest_89 : decode cX6_fewest 89 = .ok (.if_icmp .eq 21, 3) := by decide +kernel
theorem dX6_fewest_92 : decode cX6_fewest 92 = .ok (.iload 8, 2) := by decide +kernel
theorem dX6_fewest_94 : decode cX6_fewest 94 = .ok (.iconst (-1), 1) := by decide +kernel
theorem dX6_fewest_95 : decode cX6_fewest 95 = .ok (.if_icmp .eq 10, 3) := by decide +kernel
theorem dX6_fewest_98 : decode cX6_fewest 98 = .ok (.iload 12, 2) := by decide +kernel
theorem dX6_fewest_100 : decode cX6_fewest 100 = .ok (.iload 8, 2) := by decide +kernel
theorem dX6_fewest_102 : decode cX6_fewest 102 = .ok (.if_icmp .ge 8, 3) := by decide +kernel
theorem dX6_fewest_105 : decode cX6_fewest 105 = .ok (.iload 12, 2) := by decide +kernel
end
section
theorem dX6_fewest_107 : decode cX6_fewest 107 = .ok (.goto 5, 3) := by decide +kernel
theorem dX6_fewest_110 : decode cX6_fewest 110 = .ok (.iload 8, 2) := by decide +kernel
theorem dX6_fewest_112 : decode cX6_fewest 112 = .ok (.istore 8, 2) := by decide +kernel
theorem dX6_fewest_114 : decode cX6_fewest 114 = .ok (.iinc 9 1, 3) := by decide +kernel
theorem dX6_fewest_117 : decode cX6_fewest 117 = .ok (.goto (-89), 3) := by decide +kernel
theorem dX6_fewest_120 : decode cX6_fewest 120 = .ok (.iload 8, 2) := by decide +kernel
theorem dX6_fewest_122 : decode cX6_fewest 122 = .ok (.ireturn, 1) := by decide +kernel
theorem dX6_isOpen_0 : decode cX6_isOpen 0 = .ok (.aload_n 0, 1) := by decide +kernel
theorem dX6_isOpen_1 : decode cX6_isOpen 1 = .ok (.getfield 75, 3) := by decide +kernel
theorem dX6_isOpen_4 : decode cX6_isOpen 4 = .ok (.iload_n 1, 1) := by decide +kernel
theorem dX6_isOpen_5 : decode cX6_isOpen 5 = .ok (.iaload, 1) := by decide +kernel
theorem dX6_isOpen_6 : decode cX6_isOpen 6 = .ok (.iload_n 2, 1) := by decide +kernel
theorem dX6_isOpen_7 : decode cX6_isOpen 7 = .ok (.if_icmp .ne 15, 3) := by decide +kernel
theorem dX6_isOpen_10 : decode cX6_isOpen 10 = .ok (.iload_n 3, 1) := by decide +kernel
theorem dX6_isOpen_11 : decode cX6_isOpen 11 = .ok (.iload_n 1, 1) := by decide +kernel
theorem dX6_isOpen_12 : decode cX6_isOpen 12 = .ok (.ishr, 1) := by decide +kernel
theorem dX6_isOpen_13 : decode cX6_isOpen 13 = .ok (.iconst 1, 1) := by decide +kernel
theorem dX6_isOpen_14 : decode cX6_isOpen 14 = .ok (.iand, 1) := by decide +kernel
theorem dX6_isOpen_15 : decode cX6_isOpen 15 = .ok (.ifCond .ne 7, 3) := by decide +kernel
theorem dX6_isOpen_18 : decode cX6_isOpen 18 = .ok (.iconst 1, 1) := by decide +kernel
theorem dX6_isOpen_19 : decode cX6_isOpen 19 = .ok (.goto 4, 3) := by decide +kernel
theorem dX6_isOpen_22 : decode cX6_isOpen 22 = .ok (.iconst 0, 1) := by decide +kernel
theorem dX6_isOpen_23 : decode cX6_isOpen 23 = .ok (.ireturn, 1) := by decide +kernel
theorem dX7_init_0 : decode cX7_init 0 = .ok (.aload_n 0, 1) := by decide +kernel
theorem dX7_init_1 : decode cX7_init 1 = .ok (.invokespecial 1, 3) := by decide +kernel
theorem dX7_init_4 : decode cX7_init 4 = .ok (.aload_n 0, 1) := by decide +kernel
theorem dX7_init_5 : decode cX7_init 5 = .ok (.new 7, 3) := by decide +kernel
theorem dX7_init_8 : decode cX7_init 8 = .ok (.dup, 1) := by decide +kernel
theorem dX7_init_9 : decode cX7_init 9 = .ok (.invokespecial 9, 3) := by decide +kernel
theorem dX7_init_12 : decode cX7_init 12 = .ok (.putfield 10, 3) := by decide +kernel
theorem dX7_init_15 : decode cX7_init 15 = .ok (.aload_n 0, 1) := by decide +kernel
theorem dX7_init_16 : decode cX7_init 16 = .ok (.new 7, 3) := by decide +kernel
theorem dX7_init_19 : decode cX7_init 19 = .ok (.dup, 1) := by decide +kernel
theorem dX7_init_20 : decode cX7_init 20 = .ok (.invokespecial 9, 3) := by decide +kernel
theorem dX7_init_23 : decode cX7_init 23 = .ok (.putfield 16, 3) := by decide +kernel
theorem dX7_init_26 : decode cX7_init 26 = .ok (.aload_n 0, 1) := by decide +kernel
theorem dX7_init_27 : decode cX7_init 27 = .ok (.iconst 2, 1) := by decide +kernel
theorem dX7_init_28 : decode cX7_init 28 = .ok (.anewarray 7, 3) := by decide +kernel
theorem dX7_init_31 : decode cX7_init 31 = .ok (.dup, 1) := by decide +kernel
theorem dX7_init_32 : decode cX7_init 32 = .ok (.iconst 0, 1) := by decide +kernel
theorem dX7_init_33 : decode cX7_init 33 = .ok (.new 7, 3) := by decide +kernel
theorem dX7_init_36 : decode cX7_init 36 = .ok (.dup, 1) := by decide +kernel
theorem dX7_init_37 : decode cX7_init 37 = .ok (.invokespecial 9, 3) := by decide +kernel
theorem dX7_init_40 : decode cX7_init 40 = .ok (.aastore, 1) := by decide +kernel
theorem dX7_init_41 : decode cX7_init 41 = .ok (.dup, 1) := by decide +kernel
theorem dX7_init_42 : decode cX7_init 42 = .ok (.iconst 1, 1) := by decide +kernel
theorem dX7_init_43 : decode cX7_init 43 = .ok (.new 7, 3) := by decide +kernel
theorem dX7_init_46 : decode cX7_init 46 = .ok (.dup, 1) := by decide +kernel
theorem dX7_init_47 : decode cX7_init 47 = .ok (.invokespecial 9, 3) := by decide +kernel
theorem dX7_init_50 : decode cX7_init 50 = .ok (.aastore, 1) := by decide +kernel
theorem dX7_init_51 : decode cX7_init 51 = .ok (.putfield 19, 3) := by decide +kernel
theorem dX7_init_54 : decode cX7_init 54 = .ok (.aload_n 0, 1) := by decide +kernel
theorem dX7_init_55 : decode cX7_init 55 = .ok (.iconst 2, 1) := by decide +kernel
theorem dX7_init_56 : decode cX7_init 56 = .ok (.newarray .boolean, 2) := by decide +kernel
theorem dX7_init_58 : decode cX7_init 58 = .ok (.putfield 23, 3) := by decide +kernel
theorem dX7_init_61 : decode cX7_init 61 = .ok (.aload_n 0, 1) := by decide +kernel
theorem dX7_init_62 : decode cX7_init 62 = .ok (.new 27, 3) := by decide +kernel
theorem dX7_init_65 : decode cX7_init 65 = .ok (.dup, 1) := by decide +kernel
theorem dX7_init_66 : decode cX7_init 66 = .ok (.invokespecial 29, 3) := by decide +kernel
theorem dX7_init_69 : decode cX7_init 69 = .ok (.putfield 30, 3) := by decide +kernel
theorem dX7_init_72 : decode cX7_init 72 = .ok (.aload_n 0, 1) := by decide +kernel
theorem dX7_init_73 : decode cX7_init 73 = .ok (.new 34, 3) := by decide +kernel
theorem dX7_init_76 : decode cX7_init 76 = .ok (.dup, 1) := by decide +kernel
theorem dX7_init_77 : decode cX7_init 77 = .ok (.invokespecial 36, 3) := by decide +kernel
theorem dX7_init_80 : decode cX7_init 80 = .ok (.putfield 37, 3) := by decide +kernel
theorem dX7_init_83 : decode cX7_init 83 = .ok (.aload_n 0, 1) := by decide +kernel
theorem dX7_init_84 : decode cX7_init 84 = .ok (.new 41, 3) := by decide +kernel
theorem dX7_init_87 : decode cX7_init 87 = .ok (.dup, 1) := by decide +kernel
theorem dX7_init_88 : decode cX7_init 88 = .ok (.invokespecial 43, 3) := by decide +kernel
theorem dX7_init_91 : decode cX7_init 91 = .ok (.putfield 44, 3) := by decide +kernel
theorem dX7_init_94 : decode cX7_init 94 = .ok (.aload_n 0, 1) := by decide +kernel
theorem dX7_init_95 : decode cX7_init 95 = .ok (.bipush 96, 2) := by decide +kernel
theorem dX7_init_97 : decode cX7_init 97 = .ok (.newarray .int, 2) := by decide +kernel
theorem dX7_init_99 : decode cX7_init 99 = .ok (.putfield 48, 3) := by decide +kernel
theorem dX7_init_102 : decode cX7_init 102 = .ok (.aload_n 0, 1) := by decide +kernel
theorem dX7_init_103 : decode cX7_init 103 = .ok (.bipush 96, 2) := by decide +kernel
theorem dX7_init_105 : decode cX7_init 105 = .ok (.newarray .long, 2) := by decide +kernel
theorem dX7_init_107 : decode cX7_init 107 = .ok (.putfield 52, 3) := by decide +kernel
theorem dX7_init_110 : decode cX7_init 110 = .ok (.return_, 1) := by decide +kernel
theorem dX7_river_0 : decode cX7_river 0 = .ok (.iload_n 1, 1) := by decide +kernel
theorem dX7_river_1 : decode cX7_river 1 = .ok (.bipush 12, 2) := by decide +kernel
theorem dX7_river_3 : decode cX7_river 3 = .ok (.invokestatic 56, 3) := by decide +kernel
theorem dX7_river_6 : decode cX7_river 6 = .ok (.ifCond .ne 10, 3) := by decide +kernel
theorem dX7_river_9 : decode cX7_river 9 = .ok (.aload_n 0, 1) := by decide +kernel
theorem dX7_river_10 : decode cX7_river 10 = .ok (.bipush (-2), 2) := by decide +kernel
theorem dX7_river_12 : decode cX7_river 12 = .ok (.invokevirtual 60, 3) := by decide +kernel
theorem dX7_river_15 : decode cX7_river 15 = .ok (.ireturn, 1) := by decide +kernel
theorem dX7_river_16 : decode cX7_river 16 = .ok (.aload_n 0, 1) := by decide +kernel
theorem dX7_river_17 : decode cX7_river 17 = .ok (.getfield 10, 3) := by decide +kernel
theorem dX7_river_20 : decode cX7_river 20 = .ok (.getfield 64, 3) := by decide +kernel
theorem dX7_river_23 : decode cX7_river 23 = .ok (.istore_n 2, 1) := by decide +kernel
theorem dX7_river_24 : decode cX7_river 24 = .ok (.aload_n 0, 1) := by decide +kernel
theorem dX7_river_25 : decode cX7_river 25 = .ok (.getfield 10, 3) := by decide +kernel
theorem dX7_river_28 : decode cX7_river 28 = .ok (.iload_n 1, 1) := by decide +kernel
theorem dX7_river_29 : decode cX7_river 29 = .ok (.invokevirtual 68, 3) := by decide +kernel
theorem dX7_river_32 : decode cX7_river 32 = .ok (.iload_n 2, 1) := by decide +kernel
theorem dX7_river_33 : decode cX7_river 33 = .ok (.ireturn, 1) := by decide +kernel
theorem dX7_bridge_0 : decode cX7_bridge 0 = .ok (.iload_n 1, 1) := by decide +kernel
theorem dX7_bridge_1 : decode cX7_bridge 1 = .ok (.bipush 6, 2) := by decide +kernel
theorem dX7_bridge_3 : decode cX7_bridge 3 = .ok (.invokestatic 56, 3) := by decide +kernel
theorem dX7_bridge_6 : decode cX7_bridge 6 = .ok (.ifCond .eq 26, 3) := by decide +kernel
theorem dX7_bridge_9 : decode cX7_bridge 9 = .ok (.iload_n 2, 1) := by decide +kernel
theorem dX7_bridge_10 : decode cX7_bridge 10 = .ok (.bipush 6, 2) := by decide +kernel
theorem dX7_bridge_12 : decode cX7_bridge 12 = .ok (.invokestatic 56, 3) := by decide +kernel
theorem dX7_bridge_15 : decode cX7_bridge 15 = .ok (.ifCond .eq 17, 3) := by decide +kernel
theorem dX7_bridge_18 : decode cX7_bridge 18 = .ok (.iload_n 1, 1) := by decide +kernel
theorem dX7_bridge_19 : decode cX7_bridge 19 = .ok (.iload_n 2, 1) := by decide +kernel
theorem dX7_bridge_20 : decode cX7_bridge 20 = .ok (.if_icmp .eq 12, 3) := by decide +kernel
theorem dX7_bridge_23 : decode cX7_bridge 23 = .ok (.iload_n 3, 1) := by decide +kernel
theorem dX7_bridge_24 : decode cX7_bridge 24 = .ok (.iload 4, 2) := by decide +kernel
theorem dX7_bridge_26 : decode cX7_bridge 26 = .ok (.invokestatic 72, 3) := by decide +kernel
theorem dX7_bridge_29 : decode cX7_bridge 29 = .ok (.ifCond .ne 10, 3) := by decide +kernel
theorem dX7_bridge_32 : decode cX7_bridge 32 = .ok (.aload_n 0, 1) := by decide +kernel
theorem dX7_bridge_33 : decode cX7_bridge 33 = .ok (.bipush (-2), 2) := by decide +kernel
theorem dX7_bridge_35 : decode cX7_bridge 35 = .ok (.invokevirtual 60, 3) := by decide +kernel
theorem dX7_bridge_38 : decode cX7_bridge 38 = .ok (.ireturn, 1) := by decide +kernel
theorem dX7_bridge_39 : decode cX7_bridge 39 = .ok (.aload_n 0, 1) := by decide +kernel
theorem dX7_bridge_40 : decode cX7_bridge 40 = .ok (.getfield 10, 3) := by decide +kernel
theorem dX7_bridge_43 : decode cX7_bridge 43 = .ok (.getfield 64, 3) := by decide +kernel
theorem dX7_bridge_46 : decode cX7_bridge 46 = .ok (.bipush 8, 2) := by decide +kernel
theorem dX7_bridge_48 : decode cX7_bridge 48 = .ok (.if_icmp .lt 8, 3) := by decide +kernel
theorem dX7_bridge_51 : decode cX7_bridge 51 = .ok (.aload_n 0, 1) := by decide +kernel
theorem dX7_bridge_52 : decode cX7_bridge 52 = .ok (.invokevirtual 75, 3) := by decide +kernel
theorem dX7_bridge_55 : decode cX7_bridge 55 = .ok (.ireturn, 1) := by decide +kernel
theorem dX7_bridge_56 : decode cX7_bridge 56 = .ok (.aload_n 0, 1) := by decide +kernel
theorem dX7_bridge_57 : decode cX7_bridge 57 = .ok (.getfield 10, 3) := by decide +kernel
theorem dX7_bridge_60 : decode cX7_bridge 60 = .ok (.iload_n 1, 1) := by decide +kernel
theorem dX7_bridge_61 : decode cX7_bridge 61 = .ok (.iload_n 2, 1) := by decide +kernel
theorem dX7_bridge_62 : decode cX7_bridge 62 = .ok (.iload_n 3, 1) := by decide +kernel
theorem dX7_bridge_63 : decode cX7_bridge 63 = .ok (.iload 4, 2) := by decide +kernel
theorem dX7_bridge_65 : decode cX7_bridge 65 = .ok (.invokevirtual 79, 3) := by decide +kernel
theorem dX7_bridge_68 : decode cX7_bridge 68 = .ok (.ireturn, 1) := by decide +kernel
theorem dX7_rule_0 : decode cX7_rule 0 = .ok (.aload_n 0, 1) := by decide +kernel
theorem dX7_rule_1 : decode cX7_rule 1 = .ok (.iload_n 1, 1) := by decide +kernel
theorem dX7_rule_2 : decode cX7_rule 2 = .ok (.invokevirtual 83, 3) := by decide +kernel
theorem dX7_rule_5 : decode cX7_rule 5 = .ok (.ifCond .eq 11, 3) := by decide +kernel
theorem dX7_rule_8 : decode cX7_rule 8 = .ok (.iload_n 2, 1) := by decide +kernel
theorem dX7_rule_9 : decode cX7_rule 9 = .ok (.iload_n 3, 1) := by decide +kernel
theorem dX7_rule_10 : decode cX7_rule 10 = .ok (.invokestatic 72, 3) := by decide +kernel
theorem dX7_rule_13 : decode cX7_rule 13 = .ok (.ifCond .ne 10, 3) := by decide +kernel
theorem dX7_rule_16 : decode cX7_rule 16 = .ok (.aload_n 0, 1) := by decide +kernel
theorem dX7_rule_17 : decode cX7_rule 17 = .ok (.bipush (-2), 2) := by decide +kernel
theorem dX7_rule_19 : decode cX7_rule 19 = .ok (.invokevirtual 60, 3) := by decide +kernel
theorem dX7_rule_22 : decode cX7_rule 22 = .ok (.ireturn, 1) := by decide +kernel
theorem dX7_rule_23 : decode cX7_rule 23 = .ok (.aload_n 0, 1) := by decide +kernel
theorem dX7_rule_24 : decode cX7_rule 24 = .ok (.getfield 10, 3) := by decide +kernel
theorem dX7_rule_27 : decode cX7_rule 27 = .ok (.iload_n 1, 1) := by decide +kernel
theorem dX7_rule_28 : decode cX7_rule 28 = .ok (.iload_n 2, 1) := by decide +kernel
theorem dX7_rule_29 : decode cX7_rule 29 = .ok (.iload_n 3, 1) := by decide +kernel
theorem dX7_rule_30 : decode cX7_rule 30 = .ok (.invokevirtual 87, 3) := by decide +kernel
theorem dX7_rule_33 : decode cX7_rule 33 = .ok (.ireturn, 1) := by decide +kernel
theorem dX7_month_0 : decode cX7_month 0 = .ok (.iload_n 1, 1) := by decide +kernel
theorem dX7_month_1 : decode cX7_month 1 = .ok (.iconst 1, 1) := by decide +kernel
theorem dX7_month_2 : decode cX7_month 2 = .ok (.if_icmp .lt 9, 3) := by decide +kernel
theorem dX7_month_5 : decode cX7_month 5 = .ok (.iload_n 1, 1) := by decide +kernel
theorem dX7_month_6 : decode cX7_month 6 = .ok (.bipush 12, 2) := by decide +kernel
theorem dX7_month_8 : decode cX7_month 8 = .ok (.if_icmp .lt 10, 3) := by decide +kernel
theorem dX7_month_11 : decode cX7_month 11 = .ok (.aload_n 0, 1) := by decide +kernel
theorem dX7_month_12 : decode cX7_month 12 = .ok (.bipush (-2), 2) := by decide +kernel
theorem dX7_month_14 : decode cX7_month 14 = .ok (.invokevirtual 60, 3) := by decide +kernel
theorem dX7_month_17 : decode cX7_month 17 = .ok (.ireturn, 1) := by decide +kernel
theorem dX7_month_18 : decode cX7_month 18 = .ok (.aload_n 0, 1) := by decide +kernel
theorem dX7_month_19 : decode cX7_month 19 = .ok (.getfield 10, 3) := by decide +kernel
theorem dX7_month_22 : decode cX7_month 22 = .ok (.iload_n 1, 1) := by decide +kernel
theorem dX7_month_23 : decode cX7_month 23 = .ok (.invokevirtual 91, 3) := by decide +kernel
theorem dX7_month_26 : decode cX7_month 26 = .ok (.aload_n 0, 1) := by decide +kernel
theorem dX7_month_27 : decode cX7_month 27 = .ok (.getfield 10, 3) := by decide +kernel
theorem dX7_month_30 : decode cX7_month 30 = .ok (.getfield 94, 3) := by decide +kernel
theorem dX7_month_33 : decode cX7_month 33 = .ok (.ireturn, 1) := by decide +kernel
theorem dX7_undo_0 : decode cX7_undo 0 = .ok (.aload_n 0, 1) := by decide +kernel
theorem dX7_undo_1 : decode cX7_undo 1 = .ok (.getfield 10, 3) := by decide +kernel
theorem dX7_undo_4 : decode cX7_undo 4 = .ok (.getfield 97, 3) := by decide +kernel
theorem dX7_undo_7 : decode cX7_undo 7 = .ok (.ifCond .gt 8, 3) := by decide +kernel
theorem dX7_undo_10 : decode cX7_undo 10 = .ok (.aload_n 0, 1) := by decide +kernel
theorem dX7_undo_11 : decode cX7_undo 11 = .ok (.invokevirtual 100, 3) := by decide +kernel
theorem dX7_undo_14 : decode cX7_undo 14 = .ok (.ireturn, 1) := by decide +kernel
theorem dX7_undo_15 : decode cX7_undo 15 = .ok (.aload_n 0, 1) := by decide +kernel
theorem dX7_undo_16 : decode cX7_undo 16 = .ok (.getfield 10, 3) := by decide +kernel
theorem dX7_undo_19 : decode cX7_undo 19 = .ok (.invokevirtual 103, 3) := by decide +kernel
theorem dX7_undo_22 : decode cX7_undo 22 = .ok (.aload_n 0, 1) := by decide +kernel
theorem dX7_undo_23 : decode cX7_undo 23 = .ok (.getfield 10, 3) := by decide +kernel
theorem dX7_undo_26 : decode cX7_undo 26 = .ok (.getfield 94, 3) := by decide +kernel
theorem dX7_undo_29 : decode cX7_undo 29 = .ok (.ireturn, 1) := by decide +kernel
theorem dX7_say_0 : decode cX7_say 0 = .ok (.iload_n 1, 1) := by decide +kernel
theorem dX7_say_1 : decode cX7_say 1 = .ok (.invokestatic 106, 3) := by decide +kernel
theorem dX7_say_4 : decode cX7_say 4 = .ok (.ifCond .eq 12, 3) := by decide +kernel
theorem dX7_say_7 : decode cX7_say 7 = .ok (.iload_n 2, 1) := by decide +kernel
theorem dX7_say_8 : decode cX7_say 8 = .ok (.bipush 16, 2) := by decide +kernel
theorem dX7_say_10 : decode cX7_say 10 = .ok (.invokestatic 56, 3) := by decide +kernel
theorem dX7_say_13 : decode cX7_say 13 = .ok (.ifCond .ne 10, 3) := by decide +kernel
theorem dX7_say_16 : decode cX7_say 16 = .ok (.aload_n 0, 1) := by decide +kernel
theorem dX7_say_17 : decode cX7_say 17 = .ok (.bipush (-2), 2) := by decide +kernel
theorem dX7_say_19 : decode cX7_say 19 = .ok (.invokevirtual 60, 3) := by decide +kernel
theorem dX7_say_22 : decode cX7_say 22 = .ok (.ireturn, 1) := by decide +kernel
theorem dX7_say_23 : decode cX7_say 23 = .ok (.aload_n 0, 1) := by decide +kernel
theorem dX7_say_24 : decode cX7_say 24 = .ok (.getfield 10, 3) := by decide +kernel
theorem dX7_say_27 : decode cX7_say 27 = .ok (.getfield 109, 3) := by decide +kernel
theorem dX7_say_30 : decode cX7_say 30 = .ok (.iload_n 1, 1) := by decide +kernel
theorem dX7_say_31 : decode cX7_say 31 = .ok (.laload, 1) := by decide +kernel
theorem dX7_say_32 : decode cX7_say 32 = .ok (.lstore_n 3, 1) := by decide +kernel
theorem dX7_say_33 : decode cX7_say 33 = .ok (.lload_n 3, 1) := by decide +kernel
theorem dX7_say_34 : decode cX7_say 34 = .ok (.invokestatic 112, 3) := by decide +kernel
theorem dX7_say_37 : decode cX7_say 37 = .ok (.bipush 12, 2) := by decide +kernel
theorem dX7_say_39 : decode cX7_say 39 = .ok (.if_icmp .lt 8, 3) := by decide +kernel
theorem dX7_say_42 : decode cX7_say 42 = .ok (.aload_n 0, 1) := by decide +kernel
theorem dX7_say_43 : decode cX7_say 43 = .ok (.invokevirtual 75, 3) := by decide +kernel
theorem dX7_say_46 : decode cX7_say 46 = .ok (.ireturn, 1) := by decide +kernel
theorem dX7_say_47 : decode cX7_say 47 = .ok (.aload_n 0, 1) := by decide +kernel
theorem dX7_say_48 : decode cX7_say 48 = .ok (.getfield 10, 3) := by decide +kernel
theorem dX7_say_51 : decode cX7_say 51 = .ok (.getfield 109, 3) := by decide +kernel
theorem dX7_say_54 : decode cX7_say 54 = .ok (.iload_n 1, 1) := by decide +kernel
theorem dX7_say_55 : decode cX7_say 55 = .ok (.lload_n 3, 1) := by decide +kernel
theorem dX7_say_56 : decode cX7_say 56 = .ok (.iload_n 2, 1) := by decide +kernel
theorem dX7_say_57 : decode cX7_say 57 = .ok (.invokestatic 118, 3) := by decide +kernel
theorem dX7_say_60 : decode cX7_say 60 = .ok (.lastore, 1) := by decide +kernel
theorem dX7_say_61 : decode cX7_say 61 = .ok (.aload_n 0, 1) := by decide +kernel
theorem dX7_say_62 : decode cX7_say 62 = .ok (.getfield 10, 3) := by decide +kernel
theorem dX7_say_65 : decode cX7_say 65 = .ok (.getfield 109, 3) := by decide +kernel
theorem dX7_say_68 : decode cX7_say 68 = .ok (.iload_n 1, 1) := by decide +kernel
theorem dX7_say_69 : decode cX7_say 69 = .ok (.laload, 1) := by decide +kernel
theorem dX7_say_70 : decode cX7_say 70 = .ok (.invokestatic 112, 3) := by decide +kernel
theorem dX7_say_73 : decode cX7_say 73 = .ok (.ireturn, 1) := by decide +kernel
theorem dX7_hush_0 : decode cX7_hush 0 = .ok (.iload_n 1, 1) := by decide +kernel
theorem dX7_hush_1 : decode cX7_hush 1 = .ok (.invokestatic 106, 3) := by decide +kernel
theorem dX7_hush_4 : decode cX7_hush 4 = .ok (.ifCond .ne 10, 3) := by decide +kernel
theorem dX7_hush_7 : decode cX7_hush 7 = .ok (.aload_n 0, 1) := by decide +kernel
theorem dX7_hush_8 : decode cX7_hush 8 = .ok (.bipush (-2), 2) := by decide +kernel
theorem dX7_hush_10 : decode cX7_hush 10 = .ok (.invokevirtual 60, 3) := by decide +kernel
theorem dX7_hush_13 : decode cX7_hush 13 = .ok (.ireturn, 1) := by decide +kernel
theorem dX7_hush_14 : decode cX7_hush 14 = .ok (.aload_n 0, 1) := by decide +kernel
theorem dX7_hush_15 : decode cX7_hush 15 = .ok (.getfield 10, 3) := by decide +kernel
theorem dX7_hush_18 : decode cX7_hush 18 = .ok (.getfield 109, 3) := by decide +kernel
theorem dX7_hush_21 : decode cX7_hush 21 = .ok (.iload_n 1, 1) := by decide +kernel
theorem dX7_hush_22 : decode cX7_hush 22 = .ok (.laload, 1) := by decide +kernel
theorem dX7_hush_23 : decode cX7_hush 23 = .ok (.invokestatic 112, 3) := by decide +kernel
theorem dX7_hush_26 : decode cX7_hush 26 = .ok (.istore_n 2, 1) := by decide +kernel
theorem dX7_hush_27 : decode cX7_hush 27 = .ok (.aload_n 0, 1) := by decide +kernel
theorem dX7_hush_28 : decode cX7_hush 28 = .ok (.getfield 10, 3) := by decide +kernel
theorem dX7_hush_31 : decode cX7_hush 31 = .ok (.getfield 109, 3) := by decide +kernel
theorem dX7_hush_34 : decode cX7_hush 34 = .ok (.iload_n 1, 1) := by decide +kernel
theorem dX7_hush_35 : decode cX7_hush 35 = .ok (.lconst 0, 1) := by decide +kernel
theorem dX7_hush_36 : decode cX7_hush 36 = .ok (.lastore, 1) := by decide +kernel
theorem dX7_hush_37 : decode cX7_hush 37 = .ok (.iload_n 2, 1) := by decide +kernel
theorem dX7_hush_38 : decode cX7_hush 38 = .ok (.ireturn, 1) := by decide +kernel
theorem dX7_type_0 : decode cX7_type 0 = .ok (.iload_n 1, 1) := by decide +kernel
theorem dX7_type_1 : decode cX7_type 1 = .ok (.sipush 128, 3) := by decide +kernel
theorem dX7_type_4 : decode cX7_type 4 = .ok (.invokestatic 56, 3) := by decide +kernel
theorem dX7_type_7 : decode cX7_type 7 = .ok (.ifCond .ne 10, 3) := by decide +kernel
theorem dX7_type_10 : decode cX7_type 10 = .ok (.aload_n 0, 1) := by decide +kernel
theorem dX7_type_11 : decode cX7_type 11 = .ok (.bipush (-2), 2) := by decide +kernel
theorem dX7_type_13 : decode cX7_type 13 = .ok (.invokevirtual 60, 3) := by decide +kernel
theorem dX7_type_16 : decode cX7_type 16 = .ok (.ireturn, 1) := by decide +kernel
theorem dX7_type_17 : decode cX7_type 17 = .ok (.aload_n 0, 1) := by decide +kernel
theorem dX7_type_18 : decode cX7_type 18 = .ok (.getfield 30, 3) := by decide +kernel
theorem dX7_type_21 : decode cX7_type 21 = .ok (.getfield 122, 3) := by decide +kernel
theorem dX7_type_24 : decode cX7_type 24 = .ok (.sipush 150, 3) := by decide +kernel
theorem dX7_type_27 : decode cX7_type 27 = .ok (.if_icmp .lt 8, 3) := by decide +kernel
theorem dX7_type_30 : decode cX7_type 30 = .ok (.aload_n 0, 1) := by decide +kernel
theorem dX7_type_31 : decode cX7_type 31 = .ok (.invokevirtual 75, 3) := by decide +kernel
theorem dX7_type_34 : decode cX7_type 34 = .ok (.ireturn, 1) := by decide +kernel
theorem dX7_type_35 : decode cX7_type 35 = .ok (.aload_n 0, 1) := by decide +kernel
theorem dX7_type_36 : decode cX7_type 36 = .ok (.getfield 30, 3) := by decide +kernel
theorem dX7_type_39 : decode cX7_type 39 = .ok (.iload_n 1, 1) := by decide +kernel
theorem dX7_type_40 : decode cX7_type 40 = .ok (.invokevirtual 124, 3) := by decide +kernel
theorem dX7_type_43 : decode cX7_type 43 = .ok (.aload_n 0, 1) := by decide +kernel
theorem dX7_type_44 : decode cX7_type 44 = .ok (.getfield 30, 3) := by decide +kernel
theorem dX7_type_47 : decode cX7_type 47 = .ok (.getfield 122, 3) := by decide +kernel
theorem dX7_type_50 : decode cX7_type 50 = .ok (.ireturn, 1) := by decide +kernel
theorem dX7_clear_0 : decode cX7_clear 0 = .ok (.aload_n 0, 1) := by decide +kernel
theorem dX7_clear_1 : decode cX7_clear 1 = .ok (.getfield 30, 3) := by decide +kernel
theorem dX7_clear_4 : decode cX7_clear 4 = .ok (.getfield 122, 3) := by decide +kernel
theorem dX7_clear_7 : decode cX7_clear 7 = .ok (.istore_n 1, 1) := by decide +kernel
theorem dX7_clear_8 : decode cX7_clear 8 = .ok (.aload_n 0, 1) := by decide +kernel
theorem dX7_clear_9 : decode cX7_clear 9 = .ok (.getfield 30, 3) := by decide +kernel
theorem dX7_clear_12 : decode cX7_clear 12 = .ok (.iconst 0, 1) := by decide +kernel
theorem dX7_clear_13 : decode cX7_clear 13 = .ok (.putfield 122, 3) := by decide +kernel
theorem dX7_clear_16 : decode cX7_clear 16 = .ok (.iload_n 1, 1) := by decide +kernel
theorem dX7_clear_17 : decode cX7_clear 17 = .ok (.ireturn, 1) := by decide +kernel
theorem dX7_read_0 : decode cX7_read 0 = .ok (.aload_n 0, 1) := by decide +kernel
theorem dX7_read_1 : decode cX7_read 1 = .ok (.getfield 30, 3) := by decide +kernel
theorem dX7_read_4 : decode cX7_read 4 = .ok (.aload_n 0, 1) := by decide +kernel
theorem dX7_read_5 : decode cX7_read 5 = .ok (.getfield 16, 3) := by decide +kernel
theorem dX7_read_8 : decode cX7_read 8 = .ok (.invokevirtual 127, 3) := by decide +kernel
theorem dX7_read_11 : decode cX7_read 11 = .ok (.istore_n 1, 1) := by decide +kernel
theorem dX7_read_12 : decode cX7_read 12 = .ok (.iload_n 1, 1) := by decide +kernel
theorem dX7_read_13 : decode cX7_read 13 = .ok (.iconst (-1), 1) := by decide +kernel
theorem dX7_read_14 : decode cX7_read 14 = .ok (.if_icmp .ne 14, 3) := by decide +kernel
theorem dX7_read_17 : decode cX7_read 17 = .ok (.bipush (-10), 2) := by decide +kernel
theorem dX7_read_19 : decode cX7_read 19 = .ok (.aload_n 0, 1) := by decide +kernel
theorem dX7_read_20 : decode cX7_read 20 = .ok (.getfield 30, 3) := by decide +kernel
theorem dX7_read_23 : decode cX7_read 23 = .ok (.invokevirtual 131, 3) := by decide +kernel
theorem dX7_read_26 : decode cX7_read 26 = .ok (.isub, 1) := by decide +kernel
theorem dX7_read_27 : decode cX7_read 27 = .ok (.ireturn, 1) := by decide +kernel
theorem dX7_read_28 : decode cX7_read 28 = .ok (.aload_n 0, 1) := by decide +kernel
theorem dX7_read_29 : decode cX7_read 29 = .ok (.getfield 10, 3) := by decide +kernel
theorem dX7_read_32 : decode cX7_read 32 = .ok (.aload_n 0, 1) := by decide +kernel
theorem dX7_read_33 : decode cX7_read 33 = .ok (.getfield 16, 3) := by decide +kernel
theorem dX7_read_36 : decode cX7_read 36 = .ok (.invokevirtual 134, 3) := by decide +kernel
theorem dX7_read_39 : decode cX7_read 39 = .ok (.iload_n 1, 1) := by decide +kernel
theorem dX7_read_40 : decode cX7_read 40 = .ok (.ireturn, 1) := by decide +kernel
theorem dX7_of_0 : decode cX7_of 0 = .ok (.aload_n 0, 1) := by decide +kernel
theorem dX7_of_1 : decode cX7_of 1 = .ok (.iload_n 1, 1) := by decide +kernel
theorem dX7_of_2 : decode cX7_of 2 = .ok (.invokevirtual 83, 3) := by decide +kernel
theorem dX7_of_5 : decode cX7_of 5 = .ok (.ifCond .ne 10, 3) := by decide +kernel
theorem dX7_of_8 : decode cX7_of 8 = .ok (.aload_n 0, 1) := by decide +kernel
theorem dX7_of_9 : decode cX7_of 9 = .ok (.bipush (-2), 2) := by decide +kernel
theorem dX7_of_11 : decode cX7_of 11 = .ok (.invokevirtual 60, 3) := by decide +kernel
theorem dX7_of_14 : decode cX7_of 14 = .ok (.ireturn, 1) := by decide +kernel
theorem dX7_of_15 : decode cX7_of 15 = .ok (.iload_n 2, 1) := by decide +kernel
theorem dX7_of_16 : decode cX7_of 16 = .ok (.tableswitch 72 0 3 #[32, 42, 52, 62], 32) := by decide +kernel
theorem dX7_of_48 : decode cX7_of 48 = .ok (.aload_n 0, 1) := by decide +kernel
theorem dX7_of_49 : decode cX7_of 49 = .ok (.getfield 10, 3) := by decide +kernel
theorem dX7_of_52 : decode cX7_of 52 = .ok (.getfield 138, 3) := by decide +kernel
theorem dX7_of_55 : decode cX7_of 55 = .ok (.iload_n 1, 1) := by decide +kernel
theorem dX7_of_56 : decode cX7_of 56 = .ok (.iaload, 1) := by decide +kernel
theorem dX7_of_57 : decode cX7_of 57 = .ok (.ireturn, 1) := by decide +kernel
theorem dX7_of_58 : decode cX7_of 58 = .ok (.aload_n 0, 1) := by decide +kernel
theorem dX7_of_59 : decode cX7_of 59 = .ok (.getfield 10, 3) := by decide +kernel
theorem dX7_of_62 : decode cX7_of 62 = .ok (.getfield 141, 3) := by decide +kernel
theorem dX7_of_65 : decode cX7_of 65 = .ok (.iload_n 1, 1) := by decide +kernel
theorem dX7_of_66 : decode cX7_of 66 = .ok (.iaload, 1) := by decide +kernel
theorem dX7_of_67 : decode cX7_of 67 = .ok (.ireturn, 1) := by decide +kernel
theorem dX7_of_68 : decode cX7_of 68 = .ok (.aload_n 0, 1) := by decide +kernel
theorem dX7_of_69 : decode cX7_of 69 = .ok (.getfield 10, 3) := by decide +kernel
theorem dX7_of_72 : decode cX7_of 72 = .ok (.getfield 144, 3) := by decide +kernel
theorem dX7_of_75 : decode cX7_of 75 = .ok (.iload_n 1, 1) := by decide +kernel
theorem dX7_of_76 : decode cX7_of 76 = .ok (.iaload, 1) := by decide +kernel
theorem dX7_of_77 : decode cX7_of 77 = .ok (.ireturn, 1) := by decide +kernel
theorem dX7_of_78 : decode cX7_of 78 = .ok (.aload_n 0, 1) := by decide +kernel
theorem dX7_of_79 : decode cX7_of 79 = .ok (.getfield 10, 3) := by decide +kernel
theorem dX7_of_82 : decode cX7_of 82 = .ok (.getfield 147, 3) := by decide +kernel
theorem dX7_of_85 : decode cX7_of 85 = .ok (.iload_n 1, 1) := by decide +kernel
theorem dX7_of_86 : decode cX7_of 86 = .ok (.iaload, 1) := by decide +kernel
theorem dX7_of_87 : decode cX7_of 87 = .ok (.ireturn, 1) := by decide +kernel
theorem dX7_of_88 : decode cX7_of 88 = .ok (.aload_n 0, 1) := by decide +kernel
theorem dX7_of_89 : decode cX7_of 89 = .ok (.bipush (-2), 2) := by decide +kernel
theorem dX7_of_91 : decode cX7_of 91 = .ok (.invokevirtual 60, 3) := by decide +kernel
theorem dX7_of_94 : decode cX7_of 94 = .ok (.ireturn, 1) := by decide +kernel
theorem dX7_at_0 : decode cX7_at 0 = .ok (.iload_n 1, 1) := by decide +kernel
theorem dX7_at_1 : decode cX7_at 1 = .ok (.invokestatic 106, 3) := by decide +kernel
theorem dX7_at_4 : decode cX7_at 4 = .ok (.ifCond .eq 8, 3) := by decide +kernel
theorem dX7_at_7 : decode cX7_at 7 = .ok (.iload_n 2, 1) := by decide +kernel
theorem dX7_at_8 : decode cX7_at 8 = .ok (.iconst (-1), 1) := by decide +kernel
theorem dX7_at_9 : decode cX7_at 9 = .ok (.if_icmp .ge 10, 3) := by decide +kernel
theorem dX7_at_12 : decode cX7_at 12 = .ok (.aload_n 0, 1) := by decide +kernel
theorem dX7_at_13 : decode cX7_at 13 = .ok (.bipush (-10), 2) := by decide +kernel
theorem dX7_at_15 : decode cX7_at 15 = .ok (.invokevirtual 60, 3) := by decide +kernel
theorem dX7_at_18 : decode cX7_at 18 = .ok (.ireturn, 1) := by decide +kernel
theorem dX7_at_19 : decode cX7_at 19 = .ok (.aload_n 0, 1) := by decide +kernel
theorem dX7_at_20 : decode cX7_at 20 = .ok (.getfield 10, 3) := by decide +kernel
theorem dX7_at_23 : decode cX7_at 23 = .ok (.getfield 109, 3) := by decide +kernel
theorem dX7_at_26 : decode cX7_at 26 = .ok (.iload_n 1, 1) := by decide +kernel
theorem dX7_at_27 : decode cX7_at 27 = .ok (.laload, 1) := by decide +kernel
theorem dX7_at_28 : decode cX7_at 28 = .ok (.iload_n 2, 1) := by decide +kernel
theorem dX7_at_29 : decode cX7_at 29 = .ok (.invokestatic 150, 3) := by decide +kernel
theorem dX7_at_32 : decode cX7_at 32 = .ok (.ireturn, 1) := by decide +kernel
theorem dX7_called_0 : decode cX7_called 0 = .ok (.iload_n 1, 1) := by decide +kernel
theorem dX7_called_1 : decode cX7_called 1 = .ok (.invokestatic 106, 3) := by decide +kernel
theorem dX7_called_4 : decode cX7_called 4 = .ok (.ifCond .eq 25, 3) := by decide +kernel
theorem dX7_called_7 : decode cX7_called 7 = .ok (.aload_n 0, 1) := by decide +kernel
theorem dX7_called_8 : decode cX7_called 8 = .ok (.iload_n 2, 1) := by decide +kernel
theorem dX7_called_9 : decode cX7_called 9 = .ok (.invokevirtual 83, 3) := by decide +kernel
theorem dX7_called_12 : decode cX7_called 12 = .ok (.ifCond .eq 17, 3) := by decide +kernel
theorem dX7_called_15 : decode cX7_called 15 = .ok (.aload_n 0, 1) := by decide +kernel
theorem dX7_called_16 : decode cX7_called 16 = .ok (.iload_n 3, 1) := by decide +kernel
theorem dX7_called_17 : decode cX7_called 17 = .ok (.invokevirtual 83, 3) := by decide +kernel
theorem dX7_called_20 : decode cX7_called 20 = .ok (.ifCond .eq 9, 3) := by decide +kernel
theorem dX7_called_23 : decode cX7_called 23 = .ok (.iload 4, 2) := by decide +kernel
theorem dX7_called_25 : decode cX7_called 25 = .ok (.iconst (-1), 1) := by decide +kernel
theorem dX7_called_26 : decode cX7_called 26 = .ok (.if_icmp .ge 10, 3) := by decide +kernel
theorem dX7_called_29 : decode cX7_called 29 = .ok (.aload_n 0, 1) := by decide +kernel
theorem dX7_called_30 : decode cX7_called 30 = .ok (.bipush (-10), 2) := by decide +kernel
theorem dX7_called_32 : decode cX7_called 32 = .ok (.invokevirtual 60, 3) := by decide +kernel
theorem dX7_called_35 : decode cX7_called 35 = .ok (.ireturn, 1) := by decide +kernel
theorem dX7_called_36 : decode cX7_called 36 = .ok (.aload_n 0, 1) := by decide +kernel
theorem dX7_called_37 : decode cX7_called 37 = .ok (.getfield 10, 3) := by decide +kernel
theorem dX7_called_40 : decode cX7_called 40 = .ok (.getfield 109, 3) := by decide +kernel
theorem dX7_called_43 : decode cX7_called 43 = .ok (.iload_n 1, 1) := by decide +kernel
theorem dX7_called_44 : decode cX7_called 44 = .ok (.laload, 1) := by decide +kernel
theorem dX7_called_45 : decode cX7_called 45 = .ok (.lstore 5, 2) := by decide +kernel
theorem dX7_called_47 : decode cX7_called 47 = .ok (.iload_n 2, 1) := by decide +kernel
theorem dX7_called_48 : decode cX7_called 48 = .ok (.istore 7, 2) := by decide +kernel
theorem dX7_called_50 : decode cX7_called 50 = .ok (.iload 7, 2) := by decide +kernel
theorem dX7_called_52 : decode cX7_called 52 = .ok (.iload_n 3, 1) := by decide +kernel
theorem dX7_called_53 : decode cX7_called 53 = .ok (.if_icmp .gt 22, 3) := by decide +kernel
theorem dX7_called_56 : decode cX7_called 56 = .ok (.aload_n 0, 1) := by decide +kernel
theorem dX7_called_57 : decode cX7_called 57 = .ok (.getfield 10, 3) := by decide +kernel
theorem dX7_called_60 : decode cX7_called 60 = .ok (.iload 7, 2) := by decide +kernel
theorem dX7_called_62 : decode cX7_called 62 = .ok (.lload 5, 2) := by decide +kernel
theorem dX7_called_64 : decode cX7_called 64 = .ok (.invokevirtual 154, 3) := by decide +kernel
theorem dX7_called_67 : decode cX7_called 67 = .ok (.lstore 5, 2) := by decide +kernel
theorem dX7_called_69 : decode cX7_called 69 = .ok (.iinc 7 1, 3) := by decide +kernel
theorem dX7_called_72 : decode cX7_called 72 = .ok (.goto (-22), 3) := by decide +kernel
theorem dX7_called_75 : decode cX7_called 75 = .ok (.lload 5, 2) := by decide +kernel
theorem dX7_called_77 : decode cX7_called 77 = .ok (.iload 4, 2) := by decide +kernel
theorem dX7_called_79 : decode cX7_called 79 = .ok (.invokestatic 150, 3) := by decide +kernel
theorem dX7_called_82 : decode cX7_called 82 = .ok (.ireturn, 1) := by decide +kernel
theorem dX7_nothing_0 : decode cX7_nothing 0 = .ok (.iload_n 1, 1) := by decide +kernel
theorem dX7_nothing_1 : decode cX7_nothing 1 = .ok (.invokestatic 106, 3) := by decide +kernel
theorem dX7_nothing_4 : decode cX7_nothing 4 = .ok (.ifCond .eq 11, 3) := by decide +kernel
theorem dX7_nothing_7 : decode cX7_nothing 7 = .ok (.aload_n 0, 1) := by decide +kernel
theorem dX7_nothing_8 : decode cX7_nothing 8 = .ok (.iload_n 2, 1) := by decide +kernel
theorem dX7_nothing_9 : decode cX7_nothing 9 = .ok (.invokevirtual 83, 3) := by decide +kernel
theorem dX7_nothing_12 : decode cX7_nothing 12 = .ok (.ifCond .ne 10, 3) := by decide +kernel
theorem dX7_nothing_15 : decode cX7_nothing 15 = .ok (.aload_n 0, 1) := by decide +kernel
theorem dX7_nothing_16 : decode cX7_nothing 16 = .ok (.bipush (-2), 2) := by decide +kernel
theorem dX7_nothing_18 : decode cX7_nothing 18 = .ok (.invokevirtual 60, 3) := by decide +kernel
theorem dX7_nothing_21 : decode cX7_nothing 21 = .ok (.ireturn, 1) := by decide +kernel
theorem dX7_nothing_22 : decode cX7_nothing 22 = .ok (.aload_n 0, 1) := by decide +kernel
theorem dX7_nothing_23 : decode cX7_nothing 23 = .ok (.getfield 10, 3) := by decide +kernel
theorem dX7_nothing_26 : decode cX7_nothing 26 = .ok (.getfield 109, 3) := by decide +kernel
theorem dX7_nothing_29 : decode cX7_nothing 29 = .ok (.iload_n 1, 1) := by decide +kernel
theorem dX7_nothing_30 : decode cX7_nothing 30 = .ok (.laload, 1) := by decide +kernel
theorem dX7_nothing_31 : decode cX7_nothing 31 = .ok (.lstore_n 3, 1) := by decide +kernel
theorem dX7_nothing_32 : decode cX7_nothing 32 = .ok (.iload_n 2, 1) := by decide +kernel
theorem dX7_nothing_33 : decode cX7_nothing 33 = .ok (.istore 5, 2) := by decide +kernel
theorem dX7_nothing_35 : decode cX7_nothing 35 = .ok (.iload 5, 2) := by decide +kernel
theorem dX7_nothing_37 : decode cX7_nothing 37 = .ok (.aload_n 0, 1) := by decide +kernel
theorem dX7_nothing_38 : decode cX7_nothing 38 = .ok (.getfield 10, 3) := by decide +kernel
theorem dX7_nothing_41 : decode cX7_nothing 41 = .ok (.getfield 64, 3) := by decide +kernel
theorem dX7_nothing_44 : decode cX7_nothing 44 = .ok (.if_icmp .ge 30, 3) := by decide +kernel
theorem dX7_nothing_47 : decode cX7_nothing 47 = .ok (.aload_n 0, 1) := by decide +kernel
theorem dX7_nothing_48 : decode cX7_nothing 48 = .ok (.getfield 10, 3) := by decide +kernel
theorem dX7_nothing_51 : decode cX7_nothing 51 = .ok (.iload 5, 2) := by decide +kernel
theorem dX7_nothing_53 : decode cX7_nothing 53 = .ok (.lload_n 3, 1) := by decide +kernel
theorem dX7_nothing_54 : decode cX7_nothing 54 = .ok (.invokevirtual 154, 3) := by decide +kernel
theorem dX7_nothing_57 : decode cX7_nothing 57 = .ok (.lstore_n 3, 1) := by decide +kernel
theorem dX7_nothing_58 : decode cX7_nothing 58 = .ok (.lload_n 3, 1) := by decide +kernel
theorem dX7_nothing_59 : decode cX7_nothing 59 = .ok (.invokestatic 112, 3) := by decide +kernel
theorem dX7_nothing_62 : decode cX7_nothing 62 = .ok (.ifCond .ne 6, 3) := by decide +kernel
theorem dX7_nothing_65 : decode cX7_nothing 65 = .ok (.iload 5, 2) := by decide +kernel
theorem dX7_nothing_67 : decode cX7_nothing 67 = .ok (.ireturn, 1) := by decide +kernel
theorem dX7_nothing_68 : decode cX7_nothing 68 = .ok (.iinc 5 1, 3) := by decide +kernel
theorem dX7_nothing_71 : decode cX7_nothing 71 = .ok (.goto (-36), 3) := by decide +kernel
theorem dX7_nothing_74 : decode cX7_nothing 74 = .ok (.iconst (-1), 1) := by decide +kernel
theorem dX7_nothing_75 : decode cX7_nothing 75 = .ok (.ireturn, 1) := by decide +kernel
theorem dX7_boat_0 : decode cX7_boat 0 = .ok (.iload_n 1, 1) := by decide +kernel
theorem dX7_boat_1 : decode cX7_boat 1 = .ok (.invokestatic 106, 3) := by decide +kernel
theorem dX7_boat_4 : decode cX7_boat 4 = .ok (.ifCond .eq 39, 3) := by decide +kernel
theorem dX7_boat_7 : decode cX7_boat 7 = .ok (.iload_n 2, 1) := by decide +kernel
theorem dX7_boat_8 : decode cX7_boat 8 = .ok (.ifCond .lt 35, 3) := by decide +kernel
theorem dX7_boat_11 : decode cX7_boat 11 = .ok (.iload_n 2, 1) := by decide +kernel
theorem dX7_boat_12 : decode cX7_boat 12 = .ok (.ldc 158, 2) := by decide +kernel
theorem dX7_boat_14 : decode cX7_boat 14 = .ok (.if_icmp .gt 29, 3) := by decide +kernel
theorem dX7_boat_17 : decode cX7_boat 17 = .ok (.aload_n 0, 1) := by decide +kernel
theorem dX7_boat_18 : decode cX7_boat 18 = .ok (.iload_n 3, 1) := by decide +kernel
theorem dX7_boat_19 : decode cX7_boat 19 = .ok (.invokevirtual 83, 3) := by decide +kernel
theorem dX7_boat_22 : decode cX7_boat 22 = .ok (.ifCond .eq 21, 3) := by decide +kernel
theorem dX7_boat_25 : decode cX7_boat 25 = .ok (.aload_n 0, 1) := by decide +kernel
theorem dX7_boat_26 : decode cX7_boat 26 = .ok (.iload 4, 2) := by decide +kernel
theorem dX7_boat_28 : decode cX7_boat 28 = .ok (.invokevirtual 83, 3) := by decide +kernel
theorem dX7_boat_31 : decode cX7_boat 31 = .ok (.ifCond .eq 12, 3) := by decide +kernel
theorem dX7_boat_34 : decode cX7_boat 34 = .ok (.iload 5, 2) := by decide +kernel
theorem dX7_boat_36 : decode cX7_boat 36 = .ok (.iconst 2, 1) := by decide +kernel
theorem dX7_boat_37 : decode cX7_boat 37 = .ok (.invokestatic 56, 3) := by decide +kernel
theorem dX7_boat_40 : decode cX7_boat 40 = .ok (.ifCond .ne 10, 3) := by decide +kernel
theorem dX7_boat_43 : decode cX7_boat 43 = .ok (.aload_n 0, 1) := by decide +kernel
theorem dX7_boat_44 : decode cX7_boat 44 = .ok (.bipush (-10), 2) := by decide +kernel
theorem dX7_boat_46 : decode cX7_boat 46 = .ok (.invokevirtual 60, 3) := by decide +kernel
theorem dX7_boat_49 : decode cX7_boat 49 = .ok (.ireturn, 1) := by decide +kernel
theorem dX7_boat_50 : decode cX7_boat 50 = .ok (.aload_n 0, 1) := by decide +kernel
theorem dX7_boat_51 : decode cX7_boat 51 = .ok (.getfield 10, 3) := by decide +kernel
theorem dX7_boat_54 : decode cX7_boat 54 = .ok (.getfield 109, 3) := by decide +kernel
theorem dX7_boat_57 : decode cX7_boat 57 = .ok (.iload_n 1, 1) := by decide +kernel
theorem dX7_boat_58 : decode cX7_boat 58 = .ok (.laload, 1) := by decide +kernel
theorem dX7_boat_59 : decode cX7_boat 59 = .ok (.lstore 6, 2) := by decide +kernel
theorem dX7_boat_61 : decode cX7_boat 61 = .ok (.iconst 0, 1) := by decide +kernel
theorem dX7_boat_62 : decode cX7_boat 62 = .ok (.istore 8, 2) := by decide +kernel
theorem dX7_boat_64 : decode cX7_boat 64 = .ok (.iconst (-1), 1) := by decide +kernel
theorem dX7_boat_65 : decode cX7_boat 65 = .ok (.istore 9, 2) := by decide +kernel
theorem dX7_boat_67 : decode cX7_boat 67 = .ok (.iload_n 3, 1) := by decide +kernel
theorem dX7_boat_68 : decode cX7_boat 68 = .ok (.istore 10, 2) := by decide +kernel
theorem dX7_boat_70 : decode cX7_boat 70 = .ok (.iload 10, 2) := by decide +kernel
theorem dX7_boat_72 : decode cX7_boat 72 = .ok (.iload 4, 2) := by decide +kernel
theorem dX7_boat_74 : decode cX7_boat 74 = .ok (.if_icmp .gt 57, 3) := by decide +kernel
theorem dX7_boat_77 : decode cX7_boat 77 = .ok (.iload 9, 2) := by decide +kernel
theorem dX7_boat_79 : decode cX7_boat 79 = .ok (.iconst (-1), 1) := by decide +kernel
theorem dX7_boat_80 : decode cX7_boat 80 = .ok (.if_icmp .ne 51, 3) := by decide +kernel
theorem dX7_boat_83 : decode cX7_boat 83 = .ok (.aload_n 0, 1) := by decide +kernel
theorem dX7_boat_84 : decode cX7_boat 84 = .ok (.getfield 10, 3) := by decide +kernel
theorem dX7_boat_87 : decode cX7_boat 87 = .ok (.iload 10, 2) := by decide +kernel
theorem dX7_boat_89 : decode cX7_boat 89 = .ok (.lload 6, 2) := by decide +kernel
theorem dX7_boat_91 : decode cX7_boat 91 = .ok (.invokevirtual 154, 3) := by decide +kernel
theorem dX7_boat_94 : decode cX7_boat 94 = .ok (.lstore 6, 2) := by decide +kernel
theorem dX7_boat_96 : decode cX7_boat 96 = .ok (.iload_n 2, 1) := by decide +kernel
theorem dX7_boat_97 : decode cX7_boat 97 = .ok (.lload 6, 2) := by decide +kernel
theorem dX7_boat_99 : decode cX7_boat 99 = .ok (.invokestatic 159, 3) := by decide +kernel
theorem dX7_boat_102 : decode cX7_boat 102 = .ok (.invokestatic 162, 3) := by decide +kernel
theorem dX7_boat_105 : decode cX7_boat 105 = .ok (.ifCond .eq 16, 3) := by decide +kernel
theorem dX7_boat_108 : decode cX7_boat 108 = .ok (.iload 8, 2) := by decide +kernel
theorem dX7_boat_110 : decode cX7_boat 110 = .ok (.lload 6, 2) := by decide +kernel
theorem dX7_boat_112 : decode cX7_boat 112 = .ok (.invokestatic 112, 3) := by decide +kernel
theorem dX7_boat_115 : decode cX7_boat 115 = .ok (.iadd, 1) := by decide +kernel
theorem dX7_boat_116 : decode cX7_boat 116 = .ok (.istore 8, 2) := by decide +kernel
theorem dX7_boat_118 : decode cX7_boat 118 = .ok (.goto 7, 3) := by decide +kernel
theorem dX7_boat_121 : decode cX7_boat 121 = .ok (.iload 10, 2) := by decide +kernel
theorem dX7_boat_123 : decode cX7_boat 123 = .ok (.istore 9, 2) := by decide +kernel
theorem dX7_boat_125 : decode cX7_boat 125 = .ok (.iinc 10 1, 3) := by decide +kernel
theorem dX7_boat_128 : decode cX7_boat 128 = .ok (.goto (-58), 3) := by decide +kernel
theorem dX7_boat_131 : decode cX7_boat 131 = .ok (.iload 5, 2) := by decide +kernel
theorem dX7_boat_133 : decode cX7_boat 133 = .ok (.ifCond .ne 8, 3) := by decide +kernel
theorem dX7_boat_136 : decode cX7_boat 136 = .ok (.iload 9, 2) := by decide +kernel
theorem dX7_boat_138 : decode cX7_boat 138 = .ok (.goto 5, 3) := by decide +kernel
theorem dX7_boat_141 : decode cX7_boat 141 = .ok (.iload 8, 2) := by decide +kernel
theorem dX7_boat_143 : decode cX7_boat 143 = .ok (.ireturn, 1) := by decide +kernel
theorem dX7_way_0 : decode cX7_way 0 = .ok (.iload_n 1, 1) := by decide +kernel
theorem dX7_way_1 : decode cX7_way 1 = .ok (.invokestatic 106, 3) := by decide +kernel
theorem dX7_way_4 : decode cX7_way 4 = .ok (.ifCond .eq 27, 3) := by decide +kernel
theorem dX7_way_7 : decode cX7_way 7 = .ok (.iload_n 2, 1) := by decide +kernel
theorem dX7_way_8 : decode cX7_way 8 = .ok (.bipush 6, 2) := by decide +kernel
theorem dX7_way_10 : decode cX7_way 10 = .ok (.invokestatic 56, 3) := by decide +kernel
theorem dX7_way_13 : decode cX7_way 13 = .ok (.ifCond .eq 18, 3) := by decide +kernel
theorem dX7_way_16 : decode cX7_way 16 = .ok (.iload_n 3, 1) := by decide +kernel
theorem dX7_way_17 : decode cX7_way 17 = .ok (.bipush 6, 2) := by decide +kernel
theorem dX7_way_19 : decode cX7_way 19 = .ok (.invokestatic 56, 3) := by decide +kernel
theorem dX7_way_22 : decode cX7_way 22 = .ok (.ifCond .eq 9, 3) := by decide +kernel
theorem dX7_way_25 : decode cX7_way 25 = .ok (.iload 4, 2) := by decide +kernel
theorem dX7_way_27 : decode cX7_way 27 = .ok (.iconst (-1), 1) := by decide +kernel
theorem dX7_way_28 : decode cX7_way 28 = .ok (.if_icmp .ge 10, 3) := by decide +kernel
theorem dX7_way_31 : decode cX7_way 31 = .ok (.aload_n 0, 1) := by decide +kernel
theorem dX7_way_32 : decode cX7_way 32 = .ok (.bipush (-10), 2) := by decide +kernel
theorem dX7_way_34 : decode cX7_way 34 = .ok (.invokevirtual 60, 3) := by decide +kernel
theorem dX7_way_37 : decode cX7_way 37 = .ok (.ireturn, 1) := by decide +kernel
theorem dX7_way_38 : decode cX7_way 38 = .ok (.aload_n 0, 1) := by decide +kernel
theorem dX7_way_39 : decode cX7_way 39 = .ok (.getfield 37, 3) := by decide +kernel
theorem dX7_way_42 : decode cX7_way 42 = .ok (.aload_n 0, 1) := by decide +kernel
theorem dX7_way_43 : decode cX7_way 43 = .ok (.getfield 10, 3) := by decide +kernel
theorem dX7_way_46 : decode cX7_way 46 = .ok (.aload_n 0, 1) := by decide +kernel
theorem dX7_way_47 : decode cX7_way 47 = .ok (.getfield 10, 3) := by decide +kernel
theorem dX7_way_50 : decode cX7_way 50 = .ok (.getfield 109, 3) := by decide +kernel
theorem dX7_way_53 : decode cX7_way 53 = .ok (.iload_n 1, 1) := by decide +kernel
theorem dX7_way_54 : decode cX7_way 54 = .ok (.laload, 1) := by decide +kernel
theorem dX7_way_55 : decode cX7_way 55 = .ok (.iload_n 2, 1) := by decide +kernel
theorem dX7_way_56 : decode cX7_way 56 = .ok (.iload_n 3, 1) := by decide +kernel
theorem dX7_way_57 : decode cX7_way 57 = .ok (.invokevirtual 165, 3) := by decide +kernel
theorem dX7_way_60 : decode cX7_way 60 = .ok (.aload_n 0, 1) := by decide +kernel
theorem dX7_way_61 : decode cX7_way 61 = .ok (.getfield 37, 3) := by decide +kernel
theorem dX7_way_64 : decode cX7_way 64 = .ok (.getfield 169, 3) := by decide +kernel
theorem dX7_way_67 : decode cX7_way 67 = .ok (.ifCond .ne 5, 3) := by decide +kernel
theorem dX7_way_70 : decode cX7_way 70 = .ok (.iconst (-1), 1) := by decide +kernel
theorem dX7_way_71 : decode cX7_way 71 = .ok (.ireturn, 1) := by decide +kernel
theorem dX7_way_72 : decode cX7_way 72 = .ok (.iload 4, 2) := by decide +kernel
theorem dX7_way_74 : decode cX7_way 74 = .ok (.iconst (-1), 1) := by decide +kernel
theorem dX7_way_75 : decode cX7_way 75 = .ok (.if_icmp .ne 11, 3) := by decide +kernel
theorem dX7_way_78 : decode cX7_way 78 = .ok (.aload_n 0, 1) := by decide +kernel
theorem dX7_way_79 : decode cX7_way 79 = .ok (.getfield 37, 3) := by decide +kernel
theorem dX7_way_82 : decode cX7_way 82 = .ok (.getfield 172, 3) := by decide +kernel
theorem dX7_way_85 : decode cX7_way 85 = .ok (.ireturn, 1) := by decide +kernel
theorem dX7_way_86 : decode cX7_way 86 = .ok (.iload 4, 2) := by decide +kernel
theorem dX7_way_88 : decode cX7_way 88 = .ok (.aload_n 0, 1) := by decide +kernel
theorem dX7_way_89 : decode cX7_way 89 = .ok (.getfield 37, 3) := by decide +kernel
theorem dX7_way_92 : decode cX7_way 92 = .ok (.getfield 175, 3) := by decide +kernel
theorem dX7_way_95 : decode cX7_way 95 = .ok (.if_icmp .ge 16, 3) := by decide +kernel
theorem dX7_way_98 : decode cX7_way 98 = .ok (.aload_n 0, 1) := by decide +kernel
theorem dX7_way_99 : decode cX7_way 99 = .ok (.getfield 37, 3) := by decide +kernel
theorem dX7_way_102 : decode cX7_way 102 = .ok (.getfield 178, 3) := by decide +kernel
theorem dX7_way_105 : decode cX7_way 105 = .ok (.iload 4, 2) := by decide +kernel
theorem dX7_way_107 : decode cX7_way 107 = .ok (.iaload, 1) := by decide +kernel
theorem dX7_way_108 : decode cX7_way 108 = .ok (.goto 5, 3) := by decide +kernel
theorem dX7_way_111 : decode cX7_way 111 = .ok (.bipush (-5), 2) := by decide +kernel
theorem dX7_way_113 : decode cX7_way 113 = .ok (.ireturn, 1) := by decide +kernel
theorem dX7_ways_0 : decode cX7_ways 0 = .ok (.iload_n 1, 1) := by decide +kernel
theorem dX7_ways_1 : decode cX7_ways 1 = .ok (.invokestatic 106, 3) := by decide +kernel
theorem dX7_ways_4 : decode cX7_ways 4 = .ok (.ifCond .eq 30, 3) := by decide +kernel
theorem dX7_ways_7 : decode cX7_ways 7 = .ok (.iload_n 2, 1) := by decide +kernel
theorem dX7_ways_8 : decode cX7_ways 8 = .ok (.bipush 6, 2) := by decide +kernel
theorem dX7_ways_10 : decode cX7_ways 10 = .ok (.invokestatic 56, 3) := by decide +kernel
theorem dX7_ways_13 : decode cX7_ways 13 = .ok (.ifCond .eq 21, 3) := by decide +kernel
theorem dX7_ways_16 : decode cX7_ways 16 = .ok (.iload_n 3, 1) := by decide +kernel
theorem dX7_ways_17 : decode cX7_ways 17 = .ok (.bipush 6, 2) := by decide +kernel
theorem dX7_ways_19 : decode cX7_ways 19 = .ok (.invokestatic 56, 3) := by decide +kernel
theorem dX7_ways_22 : decode cX7_ways 22 = .ok (.ifCond .eq 12, 3) := by decide +kernel
theorem dX7_ways_25 : decode cX7_ways 25 = .ok (.iload 4, 2) := by decide +kernel
theorem dX7_ways_27 : decode cX7_ways 27 = .ok (.iconst 2, 1) := by decide +kernel
theorem dX7_ways_28 : decode cX7_ways 28 = .ok (.invokestatic 56, 3) := by decide +kernel
theorem dX7_ways_31 : decode cX7_ways 31 = .ok (.ifCond .ne 10, 3) := by decide +kernel
theorem dX7_ways_34 : decode cX7_ways 34 = .ok (.aload_n 0, 1) := by decide +kernel
theorem dX7_ways_35 : decode cX7_ways 35 = .ok (.bipush (-2), 2) := by decide +kernel
theorem dX7_ways_37 : decode cX7_ways 37 = .ok (.invokevirtual 60, 3) := by decide +kernel
theorem dX7_ways_40 : decode cX7_ways 40 = .ok (.ireturn, 1) := by decide +kernel
theorem dX7_ways_41 : decode cX7_ways 41 = .ok (.aload_n 0, 1) := by decide +kernel
theorem dX7_ways_42 : decode cX7_ways 42 = .ok (.getfield 37, 3) := by decide +kernel
theorem dX7_ways_45 : decode cX7_ways 45 = .ok (.aload_n 0, 1) := by decide +kernel
theorem dX7_ways_46 : decode cX7_ways 46 = .ok (.getfield 10, 3) := by decide +kernel
theorem dX7_ways_49 : decode cX7_ways 49 = .ok (.aload_n 0, 1) := by decide +kernel
theorem dX7_ways_50 : decode cX7_ways 50 = .ok (.getfield 10, 3) := by decide +kernel
theorem dX7_ways_53 : decode cX7_ways 53 = .ok (.getfield 109, 3) := by decide +kernel
theorem dX7_ways_56 : decode cX7_ways 56 = .ok (.iload_n 1, 1) := by decide +kernel
theorem dX7_ways_57 : decode cX7_ways 57 = .ok (.laload, 1) := by decide +kernel
theorem dX7_ways_58 : decode cX7_ways 58 = .ok (.iload_n 2, 1) := by decide +kernel
theorem dX7_ways_59 : decode cX7_ways 59 = .ok (.iload_n 3, 1) := by decide +kernel
theorem dX7_ways_60 : decode cX7_ways 60 = .ok (.invokevirtual 165, 3) := by decide +kernel
theorem dX7_ways_63 : decode cX7_ways 63 = .ok (.iload 4, 2) := by decide +kernel
theorem dX7_ways_65 : decode cX7_ways 65 = .ok (.ifCond .ne 11, 3) := by decide +kernel
theorem dX7_ways_68 : decode cX7_ways 68 = .ok (.aload_n 0, 1) := by decide +kernel
theorem dX7_ways_69 : decode cX7_ways 69 = .ok (.getfield 37, 3) := by decide +kernel
theorem dX7_ways_72 : decode cX7_ways 72 = .ok (.getfield 169, 3) := by decide +kernel
theorem dX7_ways_75 : decode cX7_ways 75 = .ok (.ireturn, 1) := by decide +kernel
theorem dX7_ways_76 : decode cX7_ways 76 = .ok (.aload_n 0, 1) := by decide +kernel
theorem dX7_ways_77 : decode cX7_ways 77 = .ok (.getfield 37, 3) := by decide +kernel
theorem dX7_ways_80 : decode cX7_ways 80 = .ok (.getfield 169, 3) := by decide +kernel
theorem dX7_ways_83 : decode cX7_ways 83 = .ok (.ifCond .ne 7, 3) := by decide +kernel
theorem dX7_ways_86 : decode cX7_ways 86 = .ok (.iconst (-1), 1) := by decide +kernel
theorem dX7_ways_87 : decode cX7_ways 87 = .ok (.goto 10, 3) := by decide +kernel
theorem dX7_ways_90 : decode cX7_ways 90 = .ok (.aload_n 0, 1) := by decide +kernel
theorem dX7_ways_91 : decode cX7_ways 91 = .ok (.getfield 37, 3) := by decide +kernel
theorem dX7_ways_94 : decode cX7_ways 94 = .ok (.getfield 175, 3) := by decide +kernel
theorem dX7_ways_97 : decode cX7_ways 97 = .ok (.ireturn, 1) := by decide +kernel
theorem dX7_curse_0 : decode cX7_curse 0 = .ok (.iload_n 1, 1) := by decide +kernel
theorem dX7_curse_1 : decode cX7_curse 1 = .ok (.invokestatic 106, 3) := by decide +kernel
theorem dX7_curse_4 : decode cX7_curse 4 = .ok (.ifCond .eq 19, 3) := by decide +kernel
theorem dX7_curse_7 : decode cX7_curse 7 = .ok (.iload_n 2, 1) := by decide +kernel
theorem dX7_curse_8 : decode cX7_curse 8 = .ok (.invokestatic 106, 3) := by decide +kernel
theorem dX7_curse_11 : decode cX7_curse 11 = .ok (.ifCond .eq 12, 3) := by decide +kernel
theorem dX7_curse_14 : decode cX7_curse 14 = .ok (.iload_n 3, 1) := by decide +kernel
theorem dX7_curse_15 : decode cX7_curse 15 = .ok (.bipush 6, 2) := by decide +kernel
theorem dX7_curse_17 : decode cX7_curse 17 = .ok (.invokestatic 56, 3) := by decide +kernel
theorem dX7_curse_20 : decode cX7_curse 20 = .ok (.ifCond .ne 10, 3) := by decide +kernel
theorem dX7_curse_23 : decode cX7_curse 23 = .ok (.aload_n 0, 1) := by decide +kernel
theorem dX7_curse_24 : decode cX7_curse 24 = .ok (.bipush (-2), 2) := by decide +kernel
theorem dX7_curse_26 : decode cX7_curse 26 = .ok (.invokevirtual 60, 3) := by decide +kernel
theorem dX7_curse_29 : decode cX7_curse 29 = .ok (.ireturn, 1) := by decide +kernel
theorem dX7_curse_30 : decode cX7_curse 30 = .ok (.aload_n 0, 1) := by decide +kernel
theorem dX7_curse_31 : decode cX7_curse 31 = .ok (.getfield 10, 3) := by decide +kernel
theorem dX7_curse_34 : decode cX7_curse 34 = .ok (.aload_n 0, 1) := by decide +kernel
theorem dX7_curse_35 : decode cX7_curse 35 = .ok (.getfield 10, 3) := by decide +kernel
theorem dX7_curse_38 : decode cX7_curse 38 = .ok (.getfield 109, 3) := by decide +kernel
theorem dX7_curse_41 : decode cX7_curse 41 = .ok (.iload_n 1, 1) := by decide +kernel
theorem dX7_curse_42 : decode cX7_curse 42 = .ok (.laload, 1) := by decide +kernel
theorem dX7_curse_43 : decode cX7_curse 43 = .ok (.aload_n 0, 1) := by decide +kernel
theorem dX7_curse_44 : decode cX7_curse 44 = .ok (.getfield 10, 3) := by decide +kernel
theorem dX7_curse_47 : decode cX7_curse 47 = .ok (.getfield 109, 3) := by decide +kernel
theorem dX7_curse_50 : decode cX7_curse 50 = .ok (.iload_n 2, 1) := by decide +kernel
theorem dX7_curse_51 : decode cX7_curse 51 = .ok (.laload, 1) := by decide +kernel
theorem dX7_curse_52 : decode cX7_curse 52 = .ok (.iload_n 3, 1) := by decide +kernel
theorem dX7_curse_53 : decode cX7_curse 53 = .ok (.invokestatic 181, 3) := by decide +kernel
theorem dX7_curse_56 : decode cX7_curse 56 = .ok (.ireturn, 1) := by decide +kernel
theorem dX7_above_0 : decode cX7_above 0 = .ok (.aload_n 0, 1) := by decide +kernel
theorem dX7_above_1 : decode cX7_above 1 = .ok (.iload_n 1, 1) := by decide +kernel
theorem dX7_above_2 : decode cX7_above 2 = .ok (.invokevirtual 83, 3) := by decide +kernel
theorem dX7_above_5 : decode cX7_above 5 = .ok (.ifCond .eq 18, 3) := by decide +kernel
theorem dX7_above_8 : decode cX7_above 8 = .ok (.iload_n 2, 1) := by decide +kernel
theorem dX7_above_9 : decode cX7_above 9 = .ok (.invokestatic 106, 3) := by decide +kernel
theorem dX7_above_12 : decode cX7_above 12 = .ok (.ifCond .eq 11, 3) := by decide +kernel
theorem dX7_above_15 : decode cX7_above 15 = .ok (.iload_n 3, 1) := by decide +kernel
theorem dX7_above_16 : decode cX7_above 16 = .ok (.iconst 2, 1) := by decide +kernel
theorem dX7_above_17 : decode cX7_above 17 = .ok (.invokestatic 56, 3) := by decide +kernel
theorem dX7_above_20 : decode cX7_above 20 = .ok (.ifCond .ne 10, 3) := by decide +kernel
theorem dX7_above_23 : decode cX7_above 23 = .ok (.aload_n 0, 1) := by decide +kernel
theorem dX7_above_24 : decode cX7_above 24 = .ok (.bipush (-10), 2) := by decide +kernel
theorem dX7_above_26 : decode cX7_above 26 = .ok (.invokevirtual 60, 3) := by decide +kernel
theorem dX7_above_29 : decode cX7_above 29 = .ok (.ireturn, 1) := by decide +kernel
theorem dX7_above_30 : decode cX7_above 30 = .ok (.aload_n 0, 1) := by decide +kernel
theorem dX7_above_31 : decode cX7_above 31 = .ok (.getfield 10, 3) := by decide +kernel
theorem dX7_above_34 : decode cX7_above 34 = .ok (.getfield 109, 3) := by decide +kernel
theorem dX7_above_37 : decode cX7_above 37 = .ok (.iload_n 2, 1) := by decide +kernel
theorem dX7_above_38 : decode cX7_above 38 = .ok (.laload, 1) := by decide +kernel
theorem dX7_above_39 : decode cX7_above 39 = .ok (.lstore 4, 2) := by decide +kernel
theorem dX7_above_41 : decode cX7_above 41 = .ok (.iconst 0, 1) := by decide +kernel
theorem dX7_above_42 : decode cX7_above 42 = .ok (.istore 6, 2) := by decide +kernel
theorem dX7_above_44 : decode cX7_above 44 = .ok (.iconst (-1), 1) := by decide +kernel
theorem dX7_above_45 : decode cX7_above 45 = .ok (.istore 7, 2) := by decide +kernel
theorem dX7_above_47 : decode cX7_above 47 = .ok (.iconst 0, 1) := by decide +kernel
theorem dX7_above_48 : decode cX7_above 48 = .ok (.istore 8, 2) := by decide +kernel
theorem dX7_above_50 : decode cX7_above 50 = .ok (.iload 8, 2) := by decide +kernel
theorem dX7_above_52 : decode cX7_above 52 = .ok (.sipush 288, 3) := by decide +kernel
theorem dX7_above_55 : decode cX7_above 55 = .ok (.if_icmp .gt 54, 3) := by decide +kernel
theorem dX7_above_58 : decode cX7_above 58 = .ok (.iload 8, 2) := by decide +kernel
theorem dX7_above_60 : decode cX7_above 60 = .ok (.invokestatic 185, 3) := by decide +kernel
theorem dX7_above_63 : decode cX7_above 63 = .ok (.ifCond .eq 40, 3) := by decide +kernel
theorem dX7_above_66 : decode cX7_above 66 = .ok (.aload_n 0, 1) := by decide +kernel
theorem dX7_above_67 : decode cX7_above 67 = .ok (.getfield 10, 3) := by decide +kernel
theorem dX7_above_70 : decode cX7_above 70 = .ok (.iload_n 1, 1) := by decide +kernel
theorem dX7_above_71 : decode cX7_above 71 = .ok (.iload 8, 2) := by decide +kernel
theorem dX7_above_73 : decode cX7_above 73 = .ok (.invokestatic 188, 3) := by decide +kernel
theorem dX7_above_76 : decode cX7_above 76 = .ok (.invokevirtual 154, 3) := by decide +kernel
theorem dX7_above_79 : decode cX7_above 79 = .ok (.lload 4, 2) := by decide +kernel
theorem dX7_above_81 : decode cX7_above 81 = .ok (.lcmp, 1) := by decide +kernel
theorem dX7_above_82 : decode cX7_above 82 = .ok (.ifCond .ne 21, 3) := by decide +kernel
theorem dX7_above_85 : decode cX7_above 85 = .ok (.iinc 6 1, 3) := by decide +kernel
theorem dX7_above_88 : decode cX7_above 88 = .ok (.iload 7, 2) := by decide +kernel
theorem dX7_above_90 : decode cX7_above 90 = .ok (.iconst (-1), 1) := by decide +kernel
theorem dX7_above_91 : decode cX7_above 91 = .ok (.if_icmp .ne 8, 3) := by decide +kernel
theorem dX7_above_94 : decode cX7_above 94 = .ok (.iload 8, 2) := by decide +kernel
theorem dX7_above_96 : decode cX7_above 96 = .ok (.goto 5, 3) := by decide +kernel
theorem dX7_above_99 : decode cX7_above 99 = .ok (.iload 7, 2) := by decide +kernel
theorem dX7_above_101 : decode cX7_above 101 = .ok (.istore 7, 2) := by decide +kernel
theorem dX7_above_103 : decode cX7_above 103 = .ok (.iinc 8 1, 3) := by decide +kernel
theorem dX7_above_106 : decode cX7_above 106 = .ok (.goto (-56), 3) := by decide +kernel
theorem dX7_above_109 : decode cX7_above 109 = .ok (.iload_n 3, 1) := by decide +kernel
theorem dX7_above_110 : decode cX7_above 110 = .ok (.ifCond .ne 8, 3) := by decide +kernel
theorem dX7_above_113 : decode cX7_above 113 = .ok (.iload 6, 2) := by decide +kernel
theorem dX7_above_115 : decode cX7_above 115 = .ok (.goto 5, 3) := by decide +kernel
theorem dX7_above_118 : decode cX7_above 118 = .ok (.iload 7, 2) := by decide +kernel
theorem dX7_above_120 : decode cX7_above 120 = .ok (.ireturn, 1) := by decide +kernel
theorem dX7_note_0 : decode cX7_note 0 = .ok (.aload_n 0, 1) := by decide +kernel
theorem dX7_note_1 : decode cX7_note 1 = .ok (.iload_n 1, 1) := by decide +kernel
theorem dX7_note_2 : decode cX7_note 2 = .ok (.invokevirtual 83, 3) := by decide +kernel
theorem dX7_note_5 : decode cX7_note 5 = .ok (.ifCond .eq 17, 3) := by decide +kernel
theorem dX7_note_8 : decode cX7_note 8 = .ok (.iload_n 2, 1) := by decide +kernel
theorem dX7_note_9 : decode cX7_note 9 = .ok (.invokestatic 106, 3) := by decide +kernel
theorem dX7_note_12 : decode cX7_note 12 = .ok (.ifCond .eq 10, 3) := by decide +kernel
theorem dX7_note_15 : decode cX7_note 15 = .ok (.iload_n 3, 1) := by decide +kernel
theorem dX7_note_16 : decode cX7_note 16 = .ok (.invokestatic 106, 3) := by decide +kernel
theorem dX7_note_19 : decode cX7_note 19 = .ok (.ifCond .ne 10, 3) := by decide +kernel
theorem dX7_note_22 : decode cX7_note 22 = .ok (.aload_n 0, 1) := by decide +kernel
theorem dX7_note_23 : decode cX7_note 23 = .ok (.bipush (-2), 2) := by decide +kernel
theorem dX7_note_25 : decode cX7_note 25 = .ok (.invokevirtual 60, 3) := by decide +kernel
theorem dX7_note_28 : decode cX7_note 28 = .ok (.ireturn, 1) := by decide +kernel
theorem dX7_note_29 : decode cX7_note 29 = .ok (.aload_n 0, 1) := by decide +kernel
theorem dX7_note_30 : decode cX7_note 30 = .ok (.getfield 10, 3) := by decide +kernel
theorem dX7_note_33 : decode cX7_note 33 = .ok (.getfield 192, 3) := by decide +kernel
theorem dX7_note_36 : decode cX7_note 36 = .ok (.getfield 196, 3) := by decide +kernel
theorem dX7_note_39 : decode cX7_note 39 = .ok (.bipush 8, 2) := by decide +kernel
theorem dX7_note_41 : decode cX7_note 41 = .ok (.if_icmp .lt 8, 3) := by decide +kernel
theorem dX7_note_44 : decode cX7_note 44 = .ok (.aload_n 0, 1) := by decide +kernel
theorem dX7_note_45 : decode cX7_note 45 = .ok (.invokevirtual 75, 3) := by decide +kernel
theorem dX7_note_48 : decode cX7_note 48 = .ok (.ireturn, 1) := by decide +kernel
theorem dX7_note_49 : decode cX7_note 49 = .ok (.aload_n 0, 1) := by decide +kernel
theorem dX7_note_50 : decode cX7_note 50 = .ok (.getfield 10, 3) := by decide +kernel
theorem dX7_note_53 : decode cX7_note 53 = .ok (.getfield 192, 3) := by decide +kernel
theorem dX7_note_56 : decode cX7_note 56 = .ok (.iload_n 1, 1) := by decide +kernel
theorem dX7_note_57 : decode cX7_note 57 = .ok (.aload_n 0, 1) := by decide +kernel
theorem dX7_note_58 : decode cX7_note 58 = .ok (.getfield 10, 3) := by decide +kernel
theorem dX7_note_61 : decode cX7_note 61 = .ok (.getfield 94, 3) := by decide +kernel
theorem dX7_note_64 : decode cX7_note 64 = .ok (.aload_n 0, 1) := by decide +kernel
theorem dX7_note_65 : decode cX7_note 65 = .ok (.getfield 10, 3) := by decide +kernel
theorem dX7_note_68 : decode cX7_note 68 = .ok (.getfield 109, 3) := by decide +kernel
theorem dX7_note_71 : decode cX7_note 71 = .ok (.iload_n 2, 1) := by decide +kernel
theorem dX7_note_72 : decode cX7_note 72 = .ok (.laload, 1) := by decide +kernel
theorem dX7_note_73 : decode cX7_note 73 = .ok (.aload_n 0, 1) := by decide +kernel
theorem dX7_note_74 : decode cX7_note 74 = .ok (.getfield 10, 3) := by decide +kernel
theorem dX7_note_77 : decode cX7_note 77 = .ok (.getfield 109, 3) := by decide +kernel
theorem dX7_note_80 : decode cX7_note 80 = .ok (.iload_n 3, 1) := by decide +kernel
theorem dX7_note_81 : decode cX7_note 81 = .ok (.laload, 1) := by decide +kernel
theorem dX7_note_82 : decode cX7_note 82 = .ok (.invokevirtual 201, 3) := by decide +kernel
theorem dX7_note_85 : decode cX7_note 85 = .ok (.aload_n 0, 1) := by decide +kernel
theorem dX7_note_86 : decode cX7_note 86 = .ok (.getfield 10, 3) := by decide +kernel
theorem dX7_note_89 : decode cX7_note 89 = .ok (.getfield 192, 3) := by decide +kernel
theorem dX7_note_92 : decode cX7_note 92 = .ok (.getfield 196, 3) := by decide +kernel
theorem dX7_note_95 : decode cX7_note 95 = .ok (.ireturn, 1) := by decide +kernel
theorem dX7_forget_0 : decode cX7_forget 0 = .ok (.aload_n 0, 1) := by decide +kernel
theorem dX7_forget_1 : decode cX7_forget 1 = .ok (.getfield 10, 3) := by decide +kernel
theorem dX7_forget_4 : decode cX7_forget 4 = .ok (.getfield 192, 3) := by decide +kernel
theorem dX7_forget_7 : decode cX7_forget 7 = .ok (.getfield 196, 3) := by decide +kernel
theorem dX7_forget_10 : decode cX7_forget 10 = .ok (.istore_n 1, 1) := by decide +kernel
theorem dX7_forget_11 : decode cX7_forget 11 = .ok (.aload_n 0, 1) := by decide +kernel
theorem dX7_forget_12 : decode cX7_forget 12 = .ok (.getfield 10, 3) := by decide +kernel
theorem dX7_forget_15 : decode cX7_forget 15 = .ok (.getfield 192, 3) := by decide +kernel
theorem dX7_forget_18 : decode cX7_forget 18 = .ok (.iconst 0, 1) := by decide +kernel
theorem dX7_forget_19 : decode cX7_forget 19 = .ok (.putfield 196, 3) := by decide +kernel
theorem dX7_forget_22 : decode cX7_forget 22 = .ok (.iload_n 1, 1) := by decide +kernel
theorem dX7_forget_23 : decode cX7_forget 23 = .ok (.ireturn, 1) := by decide +kernel
theorem dX7_fits_0 : decode cX7_fits 0 = .ok (.aload_n 0, 1) := by decide +kernel
theorem dX7_fits_1 : decode cX7_fits 1 = .ok (.iload_n 1, 1) := by decide +kernel
theorem dX7_fits_2 : decode cX7_fits 2 = .ok (.invokevirtual 83, 3) := by decide +kernel
theorem dX7_fits_5 : decode cX7_fits 5 = .ok (.ifCond .eq 11, 3) := by decide +kernel
theorem dX7_fits_8 : decode cX7_fits 8 = .ok (.iload_n 2, 1) := by decide +kernel
theorem dX7_fits_9 : decode cX7_fits 9 = .ok (.iconst 2, 1) := by decide +kernel
theorem dX7_fits_10 : decode cX7_fits 10 = .ok (.invokestatic 56, 3) := by decide +kernel
theorem dX7_fits_13 : decode cX7_fits 13 = .ok (.ifCond .ne 10, 3) := by decide +kernel
theorem dX7_fits_16 : decode cX7_fits 16 = .ok (.aload_n 0, 1) := by decide +kernel
theorem dX7_fits_17 : decode cX7_fits 17 = .ok (.bipush (-10), 2) := by decide +kernel
theorem dX7_fits_19 : decode cX7_fits 19 = .ok (.invokevirtual 60, 3) := by decide +kernel
theorem dX7_fits_22 : decode cX7_fits 22 = .ok (.ireturn, 1) := by decide +kernel
theorem dX7_fits_23 : decode cX7_fits 23 = .ok (.aload_n 0, 1) := by decide +kernel
theorem dX7_fits_24 : decode cX7_fits 24 = .ok (.iload_n 1, 1) := by decide +kernel
theorem dX7_fits_25 : decode cX7_fits 25 = .ok (.invokevirtual 204, 3) := by decide +kernel
theorem dX7_fits_28 : decode cX7_fits 28 = .ok (.istore_n 3, 1) := by decide +kernel
theorem dX7_fits_29 : decode cX7_fits 29 = .ok (.iload_n 2, 1) := by decide +kernel
theorem dX7_fits_30 : decode cX7_fits 30 = .ok (.ifCond .ne 5, 3) := by decide +kernel
theorem dX7_fits_33 : decode cX7_fits 33 = .ok (.iload_n 3, 1) := by decide +kernel
theorem dX7_fits_34 : decode cX7_fits 34 = .ok (.ireturn, 1) := by decide +kernel
theorem dX7_fits_35 : decode cX7_fits 35 = .ok (.iload_n 3, 1) := by decide +kernel
theorem dX7_fits_36 : decode cX7_fits 36 = .ok (.ifCond .ne 7, 3) := by decide +kernel
theorem dX7_fits_39 : decode cX7_fits 39 = .ok (.iconst (-1), 1) := by decide +kernel
theorem dX7_fits_40 : decode cX7_fits 40 = .ok (.goto 9, 3) := by decide +kernel
theorem dX7_fits_43 : decode cX7_fits 43 = .ok (.aload_n 0, 1) := by decide +kernel
theorem dX7_fits_44 : decode cX7_fits 44 = .ok (.getfield 48, 3) := by decide +kernel
theorem dX7_fits_47 : decode cX7_fits 47 = .ok (.iconst 0, 1) := by decide +kernel
theorem dX7_fits_48 : decode cX7_fits 48 = .ok (.iaload, 1) := by decide +kernel
theorem dX7_fits_49 : decode cX7_fits 49 = .ok (.ireturn, 1) := by decide +kernel
theorem dX7_tries_0 : decode cX7_tries 0 = .ok (.aload_n 0, 1) := by decide +kernel
theorem dX7_tries_1 : decode cX7_tries 1 = .ok (.iload_n 1, 1) := by decide +kernel
theorem dX7_tries_2 : decode cX7_tries 2 = .ok (.invokevirtual 83, 3) := by decide +kernel
theorem dX7_tries_5 : decode cX7_tries 5 = .ok (.ifCond .ne 10, 3) := by decide +kernel
theorem dX7_tries_8 : decode cX7_tries 8 = .ok (.aload_n 0, 1) := by decide +kernel
theorem dX7_tries_9 : decode cX7_tries 9 = .ok (.bipush (-2), 2) := by decide +kernel
theorem dX7_tries_11 : decode cX7_tries 11 = .ok (.invokevirtual 60, 3) := by decide +kernel
theorem dX7_tries_14 : decode cX7_tries 14 = .ok (.ireturn, 1) := by decide +kernel
theorem dX7_tries_15 : decode cX7_tries 15 = .ok (.aload_n 0, 1) := by decide +kernel
theorem dX7_tries_16 : decode cX7_tries 16 = .ok (.iload_n 1, 1) := by decide +kernel
theorem dX7_tries_17 : decode cX7_tries 17 = .ok (.invokevirtual 204, 3) := by decide +kernel
theorem dX7_tries_20 : decode cX7_tries 20 = .ok (.istore_n 2, 1) := by decide +kernel
theorem dX7_tries_21 : decode cX7_tries 21 = .ok (.iconst (-1), 1) := by decide +kernel
theorem dX7_tries_22 : decode cX7_tries 22 = .ok (.istore_n 3, 1) := by decide +kernel
theorem dX7_tries_23 : decode cX7_tries 23 = .ok (.iload_n 2, 1) := by decide +kernel
theorem dX7_tries_24 : decode cX7_tries 24 = .ok (.iconst 1, 1) := by decide +kernel
theorem dX7_tries_25 : decode cX7_tries 25 = .ok (.iadd, 1) := by decide +kernel
theorem dX7_tries_26 : decode cX7_tries 26 = .ok (.istore 4, 2) := by decide +kernel
theorem dX7_tries_28 : decode cX7_tries 28 = .ok (.iconst 0, 1) := by decide +kernel
theorem dX7_tries_29 : decode cX7_tries 29 = .ok (.istore 5, 2) := by decide +kernel
theorem dX7_tries_31 : decode cX7_tries 31 = .ok (.iload 5, 2) := by decide +kernel
theorem dX7_tries_33 : decode cX7_tries 33 = .ok (.iconst 4, 1) := by decide +kernel
theorem dX7_tries_34 : decode cX7_tries 34 = .ok (.if_icmp .ge 44, 3) := by decide +kernel
theorem dX7_tries_37 : decode cX7_tries 37 = .ok (.iload_n 2, 1) := by decide +kernel
theorem dX7_tries_38 : decode cX7_tries 38 = .ok (.ifCond .le 40, 3) := by decide +kernel
theorem dX7_tries_41 : decode cX7_tries 41 = .ok (.aload_n 0, 1) := by decide +kernel
theorem dX7_tries_42 : decode cX7_tries 42 = .ok (.aload_n 0, 1) := by decide +kernel
theorem dX7_tries_43 : decode cX7_tries 43 = .ok (.getfield 10, 3) := by decide +kernel
theorem dX7_tries_46 : decode cX7_tries 46 = .ok (.getfield 109, 3) := by decide +kernel
theorem dX7_tries_49 : decode cX7_tries 49 = .ok (.iload 5, 2) := by decide +kernel
theorem dX7_tries_51 : decode cX7_tries 51 = .ok (.laload, 1) := by decide +kernel
theorem dX7_tries_52 : decode cX7_tries 52 = .ok (.iload_n 2, 1) := by decide +kernel
theorem dX7_tries_53 : decode cX7_tries 53 = .ok (.invokevirtual 207, 3) := by decide +kernel
theorem dX7_tries_56 : decode cX7_tries 56 = .ok (.istore 6, 2) := by decide +kernel
theorem dX7_tries_58 : decode cX7_tries 58 = .ok (.iload 6, 2) := by decide +kernel
theorem dX7_tries_60 : decode cX7_tries 60 = .ok (.iload 4, 2) := by decide +kernel
theorem dX7_tries_62 : decode cX7_tries 62 = .ok (.if_icmp .ge 10, 3) := by decide +kernel
theorem dX7_tries_65 : decode cX7_tries 65 = .ok (.iload 5, 2) := by decide +kernel
theorem dX7_tries_67 : decode cX7_tries 67 = .ok (.istore_n 3, 1) := by decide +kernel
theorem dX7_tries_68 : decode cX7_tries 68 = .ok (.iload 6, 2) := by decide +kernel
theorem dX7_tries_70 : decode cX7_tries 70 = .ok (.istore 4, 2) := by decide +kernel
theorem dX7_tries_72 : decode cX7_tries 72 = .ok (.iinc 5 1, 3) := by decide +kernel
theorem dX7_tries_75 : decode cX7_tries 75 = .ok (.goto (-44), 3) := by decide +kernel
theorem dX7_tries_78 : decode cX7_tries 78 = .ok (.iload_n 3, 1) := by decide +kernel
theorem dX7_tries_79 : decode cX7_tries 79 = .ok (.ireturn, 1) := by decide +kernel
theorem dX7_renamed_0 : decode cX7_renamed 0 = .ok (.iload_n 1, 1) := by decide +kernel
theorem dX7_renamed_1 : decode cX7_renamed 1 = .ok (.invokestatic 106, 3) := by decide +kernel
theorem dX7_renamed_4 : decode cX7_renamed 4 = .ok (.ifCond .eq 11, 3) := by decide +kernel
theorem dX7_renamed_7 : decode cX7_renamed 7 = .ok (.aload_n 0, 1) := by decide +kernel
theorem dX7_renamed_8 : decode cX7_renamed 8 = .ok (.iload_n 2, 1) := by decide +kernel
theorem dX7_renamed_9 : decode cX7_renamed 9 = .ok (.invokevirtual 83, 3) := by decide +kernel
theorem dX7_renamed_12 : decode cX7_renamed 12 = .ok (.ifCond .ne 10, 3) := by decide +kernel
theorem dX7_renamed_15 : decode cX7_renamed 15 = .ok (.aload_n 0, 1) := by decide +kernel
theorem dX7_renamed_16 : decode cX7_renamed 16 = .ok (.bipush (-2), 2) := by decide +kernel
theorem dX7_renamed_18 : decode cX7_renamed 18 = .ok (.invokevirtual 60, 3) := by decide +kernel
theorem dX7_renamed_21 : decode cX7_renamed 21 = .ok (.ireturn, 1) := by decide +kernel
theorem dX7_renamed_22 : decode cX7_renamed 22 = .ok (.aload_n 0, 1) := by decide +kernel
theorem dX7_renamed_23 : decode cX7_renamed 23 = .ok (.getfield 10, 3) := by decide +kernel
theorem dX7_renamed_26 : decode cX7_renamed 26 = .ok (.getfield 109, 3) := by decide +kernel
theorem dX7_renamed_29 : decode cX7_renamed 29 = .ok (.iload_n 1, 1) := by decide +kernel
theorem dX7_renamed_30 : decode cX7_renamed 30 = .ok (.laload, 1) := by decide +kernel
theorem dX7_renamed_31 : decode cX7_renamed 31 = .ok (.lstore_n 3, 1) := by decide +kernel
theorem dX7_renamed_32 : decode cX7_renamed 32 = .ok (.lload_n 3, 1) := by decide +kernel
theorem dX7_renamed_33 : decode cX7_renamed 33 = .ok (.lstore 5, 2) := by decide +kernel
theorem dX7_renamed_35 : decode cX7_renamed 35 = .ok (.iconst 0, 1) := by decide +kernel
theorem dX7_renamed_36 : decode cX7_renamed 36 = .ok (.istore 7, 2) := by decide +kernel
theorem dX7_renamed_38 : decode cX7_renamed 38 = .ok (.iload 7, 2) := by decide +kernel
theorem dX7_renamed_40 : decode cX7_renamed 40 = .ok (.bipush 60, 2) := by decide +kernel
theorem dX7_renamed_42 : decode cX7_renamed 42 = .ok (.if_icmp .ge 63, 3) := by decide +kernel
theorem dX7_renamed_45 : decode cX7_renamed 45 = .ok (.aload_n 0, 1) := by decide +kernel
theorem dX7_renamed_46 : decode cX7_renamed 46 = .ok (.getfield 10, 3) := by decide +kernel
theorem dX7_renamed_49 : decode cX7_renamed 49 = .ok (.getfield 94, 3) := by decide +kernel
theorem dX7_renamed_52 : decode cX7_renamed 52 = .ok (.iload 7, 2) := by decide +kernel
theorem dX7_renamed_54 : decode cX7_renamed 54 = .ok (.iadd, 1) := by decide +kernel
theorem dX7_renamed_55 : decode cX7_renamed 55 = .ok (.bipush 12, 2) := by decide +kernel
theorem dX7_renamed_57 : decode cX7_renamed 57 = .ok (.irem, 1) := by decide +kernel
theorem dX7_renamed_58 : decode cX7_renamed 58 = .ok (.istore 8, 2) := by decide +kernel
theorem dX7_renamed_60 : decode cX7_renamed 60 = .ok (.lload 5, 2) := by decide +kernel
theorem dX7_renamed_62 : decode cX7_renamed 62 = .ok (.aload_n 0, 1) := by decide +kernel
theorem dX7_renamed_63 : decode cX7_renamed 63 = .ok (.getfield 10, 3) := by decide +kernel
theorem dX7_renamed_66 : decode cX7_renamed 66 = .ok (.getfield 144, 3) := by decide +kernel
theorem dX7_renamed_69 : decode cX7_renamed 69 = .ok (.iload_n 2, 1) := by decide +kernel
theorem dX7_renamed_70 : decode cX7_renamed 70 = .ok (.iaload, 1) := by decide +kernel
theorem dX7_renamed_71 : decode cX7_renamed 71 = .ok (.aload_n 0, 1) := by decide +kernel
theorem dX7_renamed_72 : decode cX7_renamed 72 = .ok (.getfield 10, 3) := by decide +kernel
theorem dX7_renamed_75 : decode cX7_renamed 75 = .ok (.getfield 147, 3) := by decide +kernel
theorem dX7_renamed_78 : decode cX7_renamed 78 = .ok (.iload_n 2, 1) := by decide +kernel
theorem dX7_renamed_79 : decode cX7_renamed 79 = .ok (.iaload, 1) := by decide +kernel
theorem dX7_renamed_80 : decode cX7_renamed 80 = .ok (.iload 8, 2) := by decide +kernel
theorem dX7_renamed_82 : decode cX7_renamed 82 = .ok (.invokestatic 210, 3) := by decide +kernel
theorem dX7_renamed_85 : decode cX7_renamed 85 = .ok (.lstore 5, 2) := by decide +kernel
theorem dX7_renamed_87 : decode cX7_renamed 87 = .ok (.lload 5, 2) := by decide +kernel
theorem dX7_renamed_89 : decode cX7_renamed 89 = .ok (.lload_n 3, 1) := by decide +kernel
theorem dX7_renamed_90 : decode cX7_renamed 90 = .ok (.lcmp, 1) := by decide +kernel
theorem dX7_renamed_91 : decode cX7_renamed 91 = .ok (.ifCond .ne 8, 3) := by decide +kernel
theorem dX7_renamed_94 : decode cX7_renamed 94 = .ok (.iload 7, 2) := by decide +kernel
theorem dX7_renamed_96 : decode cX7_renamed 96 = .ok (.iconst 1, 1) := by decide +kernel
theorem dX7_renamed_97 : decode cX7_renamed 97 = .ok (.iadd, 1) := by decide +kernel
theorem dX7_renamed_98 : decode cX7_renamed 98 = .ok (.ireturn, 1) := by decide +kernel
theorem dX7_renamed_99 : decode cX7_renamed 99 = .ok (.iinc 7 1, 3) := by decide +kernel
theorem dX7_renamed_102 : decode cX7_renamed 102 = .ok (.goto (-64), 3) := by decide +kernel
theorem dX7_renamed_105 : decode cX7_renamed 105 = .ok (.iconst (-1), 1) := by decide +kernel
theorem dX7_renamed_106 : decode cX7_renamed 106 = .ok (.ireturn, 1) := by decide +kernel
theorem dX7_stammer_0 : decode cX7_stammer 0 = .ok (.iload_n 1, 1) := by decide +kernel
theorem dX7_stammer_1 : decode cX7_stammer 1 = .ok (.invokestatic 106, 3) := by decide +kernel
theorem dX7_stammer_4 : decode cX7_stammer 4 = .ok (.ifCond .eq 33, 3) := by decide +kernel
theorem dX7_stammer_7 : decode cX7_stammer 7 = .ok (.aload_n 0, 1) := by decide +kernel
theorem dX7_stammer_8 : decode cX7_stammer 8 = .ok (.iload_n 2, 1) := by decide +kernel
theorem dX7_stammer_9 : decode cX7_stammer 9 = .ok (.invokevirtual 83, 3) := by decide +kernel
theorem dX7_stammer_12 : decode cX7_stammer 12 = .ok (.ifCond .eq 25, 3) := by decide +kernel
theorem dX7_stammer_15 : decode cX7_stammer 15 = .ok (.iload_n 3, 1) := by decide +kernel
theorem dX7_stammer_16 : decode cX7_stammer 16 = .ok (.ifCond .lt 21, 3) := by decide +kernel
theorem dX7_stammer_19 : decode cX7_stammer 19 = .ok (.iload_n 3, 1) := by decide +kernel
theorem dX7_stammer_20 : decode cX7_stammer 20 = .ok (.bipush 10, 2) := by decide +kernel
theorem dX7_stammer_22 : decode cX7_stammer 22 = .ok (.if_icmp .gt 15, 3) := by decide +kernel
theorem dX7_stammer_25 : decode cX7_stammer 25 = .ok (.iload 4, 2) := by decide +kernel
theorem dX7_stammer_27 : decode cX7_stammer 27 = .ok (.ifCond .lt 10, 3) := by decide +kernel
theorem dX7_stammer_30 : decode cX7_stammer 30 = .ok (.iload 4, 2) := by decide +kernel
theorem dX7_stammer_32 : decode cX7_stammer 32 = .ok (.bipush 24, 2) := by decide +kernel
theorem dX7_stammer_34 : decode cX7_stammer 34 = .ok (.if_icmp .le 10, 3) := by decide +kernel
theorem dX7_stammer_37 : decode cX7_stammer 37 = .ok (.aload_n 0, 1) := by decide +kernel
theorem dX7_stammer_38 : decode cX7_stammer 38 = .ok (.bipush (-2), 2) := by decide +kernel
theorem dX7_stammer_40 : decode cX7_stammer 40 = .ok (.invokevirtual 60, 3) := by decide +kernel
theorem dX7_stammer_43 : decode cX7_stammer 43 = .ok (.ireturn, 1) := by decide +kernel
theorem dX7_stammer_44 : decode cX7_stammer 44 = .ok (.aload_n 0, 1) := by decide +kernel
theorem dX7_stammer_45 : decode cX7_stammer 45 = .ok (.getfield 10, 3) := by decide +kernel
theorem dX7_stammer_48 : decode cX7_stammer 48 = .ok (.iload_n 2, 1) := by decide +kernel
theorem dX7_stammer_49 : decode cX7_stammer 49 = .ok (.aload_n 0, 1) := by decide +kernel
theorem dX7_stammer_50 : decode cX7_stammer 50 = .ok (.getfield 10, 3) := by decide +kernel
theorem dX7_stammer_53 : decode cX7_stammer 53 = .ok (.getfield 109, 3) := by decide +kernel
theorem dX7_stammer_56 : decode cX7_stammer 56 = .ok (.iload_n 1, 1) := by decide +kernel
theorem dX7_stammer_57 : decode cX7_stammer 57 = .ok (.laload, 1) := by decide +kernel
theorem dX7_stammer_58 : decode cX7_stammer 58 = .ok (.invokevirtual 154, 3) := by decide +kernel
theorem dX7_stammer_61 : decode cX7_stammer 61 = .ok (.invokestatic 112, 3) := by decide +kernel
theorem dX7_stammer_64 : decode cX7_stammer 64 = .ok (.istore 5, 2) := by decide +kernel
theorem dX7_stammer_66 : decode cX7_stammer 66 = .ok (.aload_n 0, 1) := by decide +kernel
theorem dX7_stammer_67 : decode cX7_stammer 67 = .ok (.getfield 44, 3) := by decide +kernel
theorem dX7_stammer_70 : decode cX7_stammer 70 = .ok (.iload 5, 2) := by decide +kernel
theorem dX7_stammer_72 : decode cX7_stammer 72 = .ok (.iload 4, 2) := by decide +kernel
theorem dX7_stammer_74 : decode cX7_stammer 74 = .ok (.iload 5, 2) := by decide +kernel
theorem dX7_stammer_76 : decode cX7_stammer 76 = .ok (.isub, 1) := by decide +kernel
theorem dX7_stammer_77 : decode cX7_stammer 77 = .ok (.iload_n 3, 1) := by decide +kernel
theorem dX7_stammer_78 : decode cX7_stammer 78 = .ok (.bipush 10, 2) := by decide +kernel
theorem dX7_stammer_80 : decode cX7_stammer 80 = .ok (.invokevirtual 216, 3) := by decide +kernel
theorem dX7_stammer_83 : decode cX7_stammer 83 = .ok (.iconst 1, 1) := by decide +kernel
theorem dX7_stammer_84 : decode cX7_stammer 84 = .ok (.ireturn, 1) := by decide +kernel
theorem dX7_boats_0 : decode cX7_boats 0 = .ok (.iload_n 1, 1) := by decide +kernel
theorem dX7_boats_1 : decode cX7_boats 1 = .ok (.invokestatic 106, 3) := by decide +kernel
theorem dX7_boats_4 : decode cX7_boats 4 = .ok (.ifCond .eq 11, 3) := by decide +kernel
theorem dX7_boats_7 : decode cX7_boats 7 = .ok (.iload_n 2, 1) := by decide +kernel
theorem dX7_boats_8 : decode cX7_boats 8 = .ok (.iload_n 3, 1) := by decide +kernel
theorem dX7_boats_9 : decode cX7_boats 9 = .ok (.invokestatic 220, 3) := by decide +kernel
theorem dX7_boats_12 : decode cX7_boats 12 = .ok (.ifCond .ne 10, 3) := by decide +kernel
theorem dX7_boats_15 : decode cX7_boats 15 = .ok (.aload_n 0, 1) := by decide +kernel
theorem dX7_boats_16 : decode cX7_boats 16 = .ok (.bipush (-2), 2) := by decide +kernel
theorem dX7_boats_18 : decode cX7_boats 18 = .ok (.invokevirtual 60, 3) := by decide +kernel
theorem dX7_boats_21 : decode cX7_boats 21 = .ok (.ireturn, 1) := by decide +kernel
theorem dX7_boats_22 : decode cX7_boats 22 = .ok (.aload_n 0, 1) := by decide +kernel
theorem dX7_boats_23 : decode cX7_boats 23 = .ok (.getfield 10, 3) := by decide +kernel
theorem dX7_boats_26 : decode cX7_boats 26 = .ok (.aload_n 0, 1) := by decide +kernel
theorem dX7_boats_27 : decode cX7_boats 27 = .ok (.getfield 10, 3) := by decide +kernel
theorem dX7_boats_30 : decode cX7_boats 30 = .ok (.getfield 109, 3) := by decide +kernel
theorem dX7_boats_33 : decode cX7_boats 33 = .ok (.iload_n 1, 1) := by decide +kernel
theorem dX7_boats_34 : decode cX7_boats 34 = .ok (.laload, 1) := by decide +kernel
theorem dX7_boats_35 : decode cX7_boats 35 = .ok (.iconst 0, 1) := by decide +kernel
theorem dX7_boats_36 : decode cX7_boats 36 = .ok (.iconst 0, 1) := by decide +kernel
theorem dX7_boats_37 : decode cX7_boats 37 = .ok (.invokevirtual 223, 3) := by decide +kernel
theorem dX7_boats_40 : decode cX7_boats 40 = .ok (.iload_n 2, 1) := by decide +kernel
theorem dX7_boats_41 : decode cX7_boats 41 = .ok (.iload_n 3, 1) := by decide +kernel
theorem dX7_boats_42 : decode cX7_boats 42 = .ok (.invokestatic 227, 3) := by decide +kernel
theorem dX7_boats_45 : decode cX7_boats 45 = .ok (.ireturn, 1) := by decide +kernel
theorem dX7_flood_0 : decode cX7_flood 0 = .ok (.iload_n 1, 1) := by decide +kernel
theorem dX7_flood_1 : decode cX7_flood 1 = .ok (.invokestatic 106, 3) := by decide +kernel
theorem dX7_flood_4 : decode cX7_flood 4 = .ok (.ifCond .eq 29, 3) := by decide +kernel
theorem dX7_flood_7 : decode cX7_flood 7 = .ok (.iload_n 2, 1) := by decide +kernel
theorem dX7_flood_8 : decode cX7_flood 8 = .ok (.iload_n 3, 1) := by decide +kernel
theorem dX7_flood_9 : decode cX7_flood 9 = .ok (.invokestatic 220, 3) := by decide +kernel
theorem dX7_flood_12 : decode cX7_flood 12 = .ok (.ifCond .eq 21, 3) := by decide +kernel
theorem dX7_flood_15 : decode cX7_flood 15 = .ok (.aload_n 0, 1) := by decide +kernel
theorem dX7_flood_16 : decode cX7_flood 16 = .ok (.iload 4, 2) := by decide +kernel
theorem dX7_flood_18 : decode cX7_flood 18 = .ok (.invokevirtual 83, 3) := by decide +kernel
theorem dX7_flood_21 : decode cX7_flood 21 = .ok (.ifCond .eq 12, 3) := by decide +kernel
theorem dX7_flood_24 : decode cX7_flood 24 = .ok (.aload_n 0, 1) := by decide +kernel
theorem dX7_flood_25 : decode cX7_flood 25 = .ok (.iload 5, 2) := by decide +kernel
theorem dX7_flood_27 : decode cX7_flood 27 = .ok (.invokevirtual 83, 3) := by decide +kernel
theorem dX7_flood_30 : decode cX7_flood 30 = .ok (.ifCond .ne 10, 3) := by decide +kernel
theorem dX7_flood_33 : decode cX7_flood 33 = .ok (.aload_n 0, 1) := by decide +kernel
theorem dX7_flood_34 : decode cX7_flood 34 = .ok (.bipush (-100), 2) := by decide +kernel
theorem dX7_flood_36 : decode cX7_flood 36 = .ok (.invokevirtual 60, 3) := by decide +kernel
theorem dX7_flood_39 : decode cX7_flood 39 = .ok (.ireturn, 1) := by decide +kernel
theorem dX7_flood_40 : decode cX7_flood 40 = .ok (.aload_n 0, 1) := by decide +kernel
theorem dX7_flood_41 : decode cX7_flood 41 = .ok (.getfield 10, 3) := by decide +kernel
theorem dX7_flood_44 : decode cX7_flood 44 = .ok (.aload_n 0, 1) := by decide +kernel
theorem dX7_flood_45 : decode cX7_flood 45 = .ok (.getfield 10, 3) := by decide +kernel
theorem dX7_flood_48 : decode cX7_flood 48 = .ok (.getfield 109, 3) := by decide +kernel
theorem dX7_flood_51 : decode cX7_flood 51 = .ok (.iload_n 1, 1) := by decide +kernel
theorem dX7_flood_52 : decode cX7_flood 52 = .ok (.laload, 1) := by decide +kernel
theorem dX7_flood_53 : decode cX7_flood 53 = .ok (.iconst 0, 1) := by decide +kernel
theorem dX7_flood_54 : decode cX7_flood 54 = .ok (.iconst 0, 1) := by decide +kernel
theorem dX7_flood_55 : decode cX7_flood 55 = .ok (.invokevirtual 223, 3) := by decide +kernel
theorem dX7_flood_58 : decode cX7_flood 58 = .ok (.iload_n 2, 1) := by decide +kernel
theorem dX7_flood_59 : decode cX7_flood 59 = .ok (.iload_n 3, 1) := by decide +kernel
theorem dX7_flood_60 : decode cX7_flood 60 = .ok (.invokestatic 227, 3) := by decide +kernel
theorem dX7_flood_63 : decode cX7_flood 63 = .ok (.istore 6, 2) := by decide +kernel
theorem dX7_flood_65 : decode cX7_flood 65 = .ok (.aload_n 0, 1) := by decide +kernel
theorem dX7_flood_66 : decode cX7_flood 66 = .ok (.getfield 10, 3) := by decide +kernel
theorem dX7_flood_69 : decode cX7_flood 69 = .ok (.aload_n 0, 1) := by decide +kernel
theorem dX7_flood_70 : decode cX7_flood 70 = .ok (.getfield 10, 3) := by decide +kernel
theorem dX7_flood_73 : decode cX7_flood 73 = .ok (.getfield 109, 3) := by decide +kernel
theorem dX7_flood_76 : decode cX7_flood 76 = .ok (.iload_n 1, 1) := by decide +kernel
theorem dX7_flood_77 : decode cX7_flood 77 = .ok (.laload, 1) := by decide +kernel
theorem dX7_flood_78 : decode cX7_flood 78 = .ok (.iload 4, 2) := by decide +kernel
theorem dX7_flood_80 : decode cX7_flood 80 = .ok (.iload 5, 2) := by decide +kernel
theorem dX7_flood_82 : decode cX7_flood 82 = .ok (.invokevirtual 223, 3) := by decide +kernel
theorem dX7_flood_85 : decode cX7_flood 85 = .ok (.iload_n 2, 1) := by decide +kernel
theorem dX7_flood_86 : decode cX7_flood 86 = .ok (.iload_n 3, 1) := by decide +kernel
theorem dX7_flood_87 : decode cX7_flood 87 = .ok (.invokestatic 227, 3) := by decide +kernel
theorem dX7_flood_90 : decode cX7_flood 90 = .ok (.istore 7, 2) := by decide +kernel
theorem dX7_flood_92 : decode cX7_flood 92 = .ok (.iload 7, 2) := by decide +kernel
theorem dX7_flood_94 : decode cX7_flood 94 = .ok (.iload 6, 2) := by decide +kernel
theorem dX7_flood_96 : decode cX7_flood 96 = .ok (.isub, 1) := by decide +kernel
theorem dX7_flood_97 : decode cX7_flood 97 = .ok (.ireturn, 1) := by decide +kernel
theorem dX7_part_0 : decode cX7_part 0 = .ok (.iload_n 1, 1) := by decide +kernel
theorem dX7_part_1 : decode cX7_part 1 = .ok (.lookupswitch 43 #[(0, 27), (1, 35)], 27) := by decide +kernel
theorem dX7_part_28 : decode cX7_part 28 = .ok (.aload_n 0, 1) := by decide +kernel
theorem dX7_part_29 : decode cX7_part 29 = .ok (.getfield 44, 3) := by decide +kernel
theorem dX7_part_32 : decode cX7_part 32 = .ok (.getfield 230, 3) := by decide +kernel
theorem dX7_part_35 : decode cX7_part 35 = .ok (.lreturn, 1) := by decide +kernel
theorem dX7_part_36 : decode cX7_part 36 = .ok (.aload_n 0, 1) := by decide +kernel
theorem dX7_part_37 : decode cX7_part 37 = .ok (.getfield 44, 3) := by decide +kernel
theorem dX7_part_40 : decode cX7_part 40 = .ok (.getfield 234, 3) := by decide +kernel
theorem dX7_part_43 : decode cX7_part 43 = .ok (.lreturn, 1) := by decide +kernel
theorem dX7_part_44 : decode cX7_part 44 = .ok (.aload_n 0, 1) := by decide +kernel
theorem dX7_part_45 : decode cX7_part 45 = .ok (.bipush (-2), 2) := by decide +kernel
theorem dX7_part_47 : decode cX7_part 47 = .ok (.invokevirtual 60, 3) := by decide +kernel
theorem dX7_part_50 : decode cX7_part 50 = .ok (.i2l, 1) := by decide +kernel
theorem dX7_part_51 : decode cX7_part 51 = .ok (.lreturn, 1) := by decide +kernel
theorem dX7_image_0 : decode cX7_image 0 = .ok (.iload_n 1, 1) := by decide +kernel
theorem dX7_image_1 : decode cX7_image 1 = .ok (.iconst 2, 1) := by decide +kernel
theorem dX7_image_2 : decode cX7_image 2 = .ok (.invokestatic 56, 3) := by decide +kernel
theorem dX7_image_5 : decode cX7_image 5 = .ok (.ifCond .ne 10, 3) := by decide +kernel
theorem dX7_image_8 : decode cX7_image 8 = .ok (.aload_n 0, 1) := by decide +kernel
theorem dX7_image_9 : decode cX7_image 9 = .ok (.bipush (-2), 2) := by decide +kernel
theorem dX7_image_11 : decode cX7_image 11 = .ok (.invokevirtual 60, 3) := by decide +kernel
theorem dX7_image_14 : decode cX7_image 14 = .ok (.ireturn, 1) := by decide +kernel
theorem dX7_image_15 : decode cX7_image 15 = .ok (.aload_n 0, 1) := by decide +kernel
theorem dX7_image_16 : decode cX7_image 16 = .ok (.getfield 19, 3) := by decide +kernel
theorem dX7_image_19 : decode cX7_image 19 = .ok (.iload_n 1, 1) := by decide +kernel
theorem dX7_image_20 : decode cX7_image 20 = .ok (.aaload, 1) := by decide +kernel
theorem dX7_image_21 : decode cX7_image 21 = .ok (.aload_n 0, 1) := by decide +kernel
theorem dX7_image_22 : decode cX7_image 22 = .ok (.getfield 10, 3) := by decide +kernel
theorem dX7_image_25 : decode cX7_image 25 = .ok (.invokevirtual 134, 3) := by decide +kernel
theorem dX7_image_28 : decode cX7_image 28 = .ok (.aload_n 0, 1) := by decide +kernel
theorem dX7_image_29 : decode cX7_image 29 = .ok (.getfield 23, 3) := by decide +kernel
theorem dX7_image_32 : decode cX7_image 32 = .ok (.iload_n 1, 1) := by decide +kernel
theorem dX7_image_33 : decode cX7_image 33 = .ok (.iconst 1, 1) := by decide +kernel
theorem dX7_image_34 : decode cX7_image 34 = .ok (.bastore, 1) := by decide +kernel
theorem dX7_image_35 : decode cX7_image 35 = .ok (.iconst 1, 1) := by decide +kernel
theorem dX7_image_36 : decode cX7_image 36 = .ok (.ireturn, 1) := by decide +kernel
theorem dX7_from_0 : decode cX7_from 0 = .ok (.iload_n 1, 1) := by decide +kernel
theorem dX7_from_1 : decode cX7_from 1 = .ok (.iconst 2, 1) := by decide +kernel
theorem dX7_from_2 : decode cX7_from 2 = .ok (.invokestatic 56, 3) := by decide +kernel
theorem dX7_from_5 : decode cX7_from 5 = .ok (.ifCond .ne 10, 3) := by decide +kernel
theorem dX7_from_8 : decode cX7_from 8 = .ok (.aload_n 0, 1) := by decide +kernel
theorem dX7_from_9 : decode cX7_from 9 = .ok (.bipush (-2), 2) := by decide +kernel
theorem dX7_from_11 : decode cX7_from 11 = .ok (.invokevirtual 60, 3) := by decide +kernel
theorem dX7_from_14 : decode cX7_from 14 = .ok (.ireturn, 1) := by decide +kernel
theorem dX7_from_15 : decode cX7_from 15 = .ok (.aload_n 0, 1) := by decide +kernel
theorem dX7_from_16 : decode cX7_from 16 = .ok (.getfield 23, 3) := by decide +kernel
theorem dX7_from_19 : decode cX7_from 19 = .ok (.iload_n 1, 1) := by decide +kernel
theorem dX7_from_20 : decode cX7_from 20 = .ok (.baload, 1) := by decide +kernel
theorem dX7_from_21 : decode cX7_from 21 = .ok (.ifCond .ne 8, 3) := by decide +kernel
theorem dX7_from_24 : decode cX7_from 24 = .ok (.aload_n 0, 1) := by decide +kernel
theorem dX7_from_25 : decode cX7_from 25 = .ok (.invokevirtual 100, 3) := by decide +kernel
theorem dX7_from_28 : decode cX7_from 28 = .ok (.ireturn, 1) := by decide +kernel
theorem dX7_from_29 : decode cX7_from 29 = .ok (.aload_n 0, 1) := by decide +kernel
theorem dX7_from_30 : decode cX7_from 30 = .ok (.getfield 10, 3) := by decide +kernel
theorem dX7_from_33 : decode cX7_from 33 = .ok (.aload_n 0, 1) := by decide +kernel
theorem dX7_from_34 : decode cX7_from 34 = .ok (.getfield 19, 3) := by decide +kernel
theorem dX7_from_37 : decode cX7_from 37 = .ok (.iload_n 1, 1) := by decide +kernel
theorem dX7_from_38 : decode cX7_from 38 = .ok (.aaload, 1) := by decide +kernel
theorem dX7_from_39 : decode cX7_from 39 = .ok (.invokevirtual 134, 3) := by decide +kernel
theorem dX7_from_42 : decode cX7_from 42 = .ok (.iconst 1, 1) := by decide +kernel
theorem dX7_from_43 : decode cX7_from 43 = .ok (.ireturn, 1) := by decide +kernel
theorem dX7_status_0 : decode cX7_status 0 = .ok (.iload_n 1, 1) := by decide +kernel
theorem dX7_status_1 : decode cX7_status 1 = .ok (.tableswitch 42 0 2 #[27, 32, 37], 27) := by decide +kernel
theorem dX7_status_28 : decode cX7_status 28 = .ok (.aload_n 0, 1) := by decide +kernel
theorem dX7_status_29 : decode cX7_status 29 = .ok (.getfield 237, 3) := by decide +kernel
theorem dX7_status_32 : decode cX7_status 32 = .ok (.ireturn, 1) := by decide +kernel
theorem dX7_status_33 : decode cX7_status 33 = .ok (.aload_n 0, 1) := by decide +kernel
theorem dX7_status_34 : decode cX7_status 34 = .ok (.getfield 240, 3) := by decide +kernel
theorem dX7_status_37 : decode cX7_status 37 = .ok (.ireturn, 1) := by decide +kernel
theorem dX7_status_38 : decode cX7_status 38 = .ok (.aload_n 0, 1) := by decide +kernel
theorem dX7_status_39 : decode cX7_status 39 = .ok (.getfield 243, 3) := by decide +kernel
theorem dX7_status_42 : decode cX7_status 42 = .ok (.ireturn, 1) := by decide +kernel
theorem dX7_status_43 : decode cX7_status 43 = .ok (.aload_n 0, 1) := by decide +kernel
theorem dX7_status_44 : decode cX7_status 44 = .ok (.iconst (-1), 1) := by decide +kernel
theorem dX7_status_45 : decode cX7_status 45 = .ok (.invokevirtual 60, 3) := by decide +kernel
theorem dX7_status_48 : decode cX7_status 48 = .ok (.ireturn, 1) := by decide +kernel
theorem dX7_count_0 : decode cX7_count 0 = .ok (.iload_n 1, 1) := by decide +kernel
theorem dX7_count_1 : decode cX7_count 1 = .ok (.tableswitch 78 0 4 #[35, 43, 51, 62, 70], 35) := by decide +kernel
theorem dX7_count_36 : decode cX7_count 36 = .ok (.aload_n 0, 1) := by decide +kernel
theorem dX7_count_37 : decode cX7_count 37 = .ok (.getfield 10, 3) := by decide +kernel
theorem dX7_count_40 : decode cX7_count 40 = .ok (.getfield 64, 3) := by decide +kernel
theorem dX7_count_43 : decode cX7_count 43 = .ok (.ireturn, 1) := by decide +kernel
theorem dX7_count_44 : decode cX7_count 44 = .ok (.aload_n 0, 1) := by decide +kernel
theorem dX7_count_45 : decode cX7_count 45 = .ok (.getfield 10, 3) := by decide +kernel
theorem dX7_count_48 : decode cX7_count 48 = .ok (.getfield 94, 3) := by decide +kernel
theorem dX7_count_51 : decode cX7_count 51 = .ok (.ireturn, 1) := by decide +kernel
theorem dX7_count_52 : decode cX7_count 52 = .ok (.aload_n 0, 1) := by decide +kernel
theorem dX7_count_53 : decode cX7_count 53 = .ok (.getfield 10, 3) := by decide +kernel
theorem dX7_count_56 : decode cX7_count 56 = .ok (.getfield 192, 3) := by decide +kernel
theorem dX7_count_59 : decode cX7_count 59 = .ok (.getfield 196, 3) := by decide +kernel
theorem dX7_count_62 : decode cX7_count 62 = .ok (.ireturn, 1) := by decide +kernel
theorem dX7_count_63 : decode cX7_count 63 = .ok (.aload_n 0, 1) := by decide +kernel
theorem dX7_count_64 : decode cX7_count 64 = .ok (.getfield 10, 3) := by decide +kernel
theorem dX7_count_67 : decode cX7_count 67 = .ok (.getfield 97, 3) := by decide +kernel
theorem dX7_count_70 : decode cX7_count 70 = .ok (.ireturn, 1) := by decide +kernel
theorem dX7_count_71 : decode cX7_count 71 = .ok (.aload_n 0, 1) := by decide +kernel
theorem dX7_count_72 : decode cX7_count 72 = .ok (.getfield 30, 3) := by decide +kernel
theorem dX7_count_75 : decode cX7_count 75 = .ok (.getfield 122, 3) := by decide +kernel
theorem dX7_count_78 : decode cX7_count 78 = .ok (.ireturn, 1) := by decide +kernel
theorem dX7_count_79 : decode cX7_count 79 = .ok (.aload_n 0, 1) := by decide +kernel
theorem dX7_count_80 : decode cX7_count 80 = .ok (.bipush (-2), 2) := by decide +kernel
theorem dX7_count_82 : decode cX7_count 82 = .ok (.invokevirtual 60, 3) := by decide +kernel
theorem dX7_count_85 : decode cX7_count 85 = .ok (.ireturn, 1) := by decide +kernel
theorem dX7_digest_0 : decode cX7_digest 0 = .ok (.ldc2_w 246, 3) := by decide +kernel
theorem dX7_digest_3 : decode cX7_digest 3 = .ok (.lstore_n 1, 1) := by decide +kernel
theorem dX7_digest_4 : decode cX7_digest 4 = .ok (.iconst 0, 1) := by decide +kernel
theorem dX7_digest_5 : decode cX7_digest 5 = .ok (.istore_n 3, 1) := by decide +kernel
theorem dX7_digest_6 : decode cX7_digest 6 = .ok (.iload_n 3, 1) := by decide +kernel
theorem dX7_digest_7 : decode cX7_digest 7 = .ok (.iconst 5, 1) := by decide +kernel
theorem dX7_digest_8 : decode cX7_digest 8 = .ok (.if_icmp .ge 20, 3) := by decide +kernel
theorem dX7_digest_11 : decode cX7_digest 11 = .ok (.lload_n 1, 1) := by decide +kernel
theorem dX7_digest_12 : decode cX7_digest 12 = .ok (.aload_n 0, 1) := by decide +kernel
theorem dX7_digest_13 : decode cX7_digest 13 = .ok (.iload_n 3, 1) := by decide +kernel
theorem dX7_digest_14 : decode cX7_digest 14 = .ok (.invokevirtual 248, 3) := by decide +kernel
theorem dX7_digest_17 : decode cX7_digest 17 = .ok (.i2l, 1) := by decide +kernel
theorem dX7_digest_18 : decode cX7_digest 18 = .ok (.invokestatic 251, 3) := by decide +kernel
theorem dX7_digest_21 : decode cX7_digest 21 = .ok (.lstore_n 1, 1) := by decide +kernel
theorem dX7_digest_22 : decode cX7_digest 22 = .ok (.iinc 3 1, 3) := by decide +kernel
theorem dX7_digest_25 : decode cX7_digest 25 = .ok (.goto (-19), 3) := by decide +kernel
theorem dX7_digest_28 : decode cX7_digest 28 = .ok (.iconst 0, 1) := by decide +kernel
theorem dX7_digest_29 : decode cX7_digest 29 = .ok (.istore_n 3, 1) := by decide +kernel
theorem dX7_digest_30 : decode cX7_digest 30 = .ok (.iload_n 3, 1) := by decide +kernel
theorem dX7_digest_31 : decode cX7_digest 31 = .ok (.aload_n 0, 1) := by decide +kernel
theorem dX7_digest_32 : decode cX7_digest 32 = .ok (.getfield 10, 3) := by decide +kernel
theorem dX7_digest_35 : decode cX7_digest 35 = .ok (.getfield 64, 3) := by decide +kernel
theorem dX7_digest_38 : decode cX7_digest 38 = .ok (.if_icmp .ge 69, 3) := by decide +kernel
theorem dX7_digest_41 : decode cX7_digest 41 = .ok (.lload_n 1, 1) := by decide +kernel
theorem dX7_digest_42 : decode cX7_digest 42 = .ok (.aload_n 0, 1) := by decide +kernel
theorem dX7_digest_43 : decode cX7_digest 43 = .ok (.getfield 10, 3) := by decide +kernel
theorem dX7_digest_46 : decode cX7_digest 46 = .ok (.getfield 138, 3) := by decide +kernel
theorem dX7_digest_49 : decode cX7_digest 49 = .ok (.iload_n 3, 1) := by decide +kernel
theorem dX7_digest_50 : decode cX7_digest 50 = .ok (.iaload, 1) := by decide +kernel
theorem dX7_digest_51 : decode cX7_digest 51 = .ok (.i2l, 1) := by decide +kernel
theorem dX7_digest_52 : decode cX7_digest 52 = .ok (.invokestatic 251, 3) := by decide +kernel
theorem dX7_digest_55 : decode cX7_digest 55 = .ok (.lstore_n 1, 1) := by decide +kernel
theorem dX7_digest_56 : decode cX7_digest 56 = .ok (.lload_n 1, 1) := by decide +kernel
theorem dX7_digest_57 : decode cX7_digest 57 = .ok (.aload_n 0, 1) := by decide +kernel
theorem dX7_digest_58 : decode cX7_digest 58 = .ok (.getfield 10, 3) := by decide +kernel
theorem dX7_digest_61 : decode cX7_digest 61 = .ok (.getfield 141, 3) := by decide +kernel
theorem dX7_digest_64 : decode cX7_digest 64 = .ok (.iload_n 3, 1) := by decide +kernel
theorem dX7_digest_65 : decode cX7_digest 65 = .ok (.iaload, 1) := by decide +kernel
theorem dX7_digest_66 : decode cX7_digest 66 = .ok (.i2l, 1) := by decide +kernel
theorem dX7_digest_67 : decode cX7_digest 67 = .ok (.invokestatic 251, 3) := by decide +kernel
theorem dX7_digest_70 : decode cX7_digest 70 = .ok (.lstore_n 1, 1) := by decide +kernel
theorem dX7_digest_71 : decode cX7_digest 71 = .ok (.lload_n 1, 1) := by decide +kernel
theorem dX7_digest_72 : decode cX7_digest 72 = .ok (.aload_n 0, 1) := by decide +kernel
theorem dX7_digest_73 : decode cX7_digest 73 = .ok (.getfield 10, 3) := by decide +kernel
theorem dX7_digest_76 : decode cX7_digest 76 = .ok (.getfield 144, 3) := by decide +kernel
theorem dX7_digest_79 : decode cX7_digest 79 = .ok (.iload_n 3, 1) := by decide +kernel
theorem dX7_digest_80 : decode cX7_digest 80 = .ok (.iaload, 1) := by decide +kernel
theorem dX7_digest_81 : decode cX7_digest 81 = .ok (.i2l, 1) := by decide +kernel
theorem dX7_digest_82 : decode cX7_digest 82 = .ok (.invokestatic 251, 3) := by decide +kernel
theorem dX7_digest_85 : decode cX7_digest 85 = .ok (.lstore_n 1, 1) := by decide +kernel
theorem dX7_digest_86 : decode cX7_digest 86 = .ok (.lload_n 1, 1) := by decide +kernel
theorem dX7_digest_87 : decode cX7_digest 87 = .ok (.aload_n 0, 1) := by decide +kernel
theorem dX7_digest_88 : decode cX7_digest 88 = .ok (.getfield 10, 3) := by decide +kernel
theorem dX7_digest_91 : decode cX7_digest 91 = .ok (.getfield 147, 3) := by decide +kernel
theorem dX7_digest_94 : decode cX7_digest 94 = .ok (.iload_n 3, 1) := by decide +kernel
theorem dX7_digest_95 : decode cX7_digest 95 = .ok (.iaload, 1) := by decide +kernel
theorem dX7_digest_96 : decode cX7_digest 96 = .ok (.i2l, 1) := by decide +kernel
theorem dX7_digest_97 : decode cX7_digest 97 = .ok (.invokestatic 251, 3) := by decide +kernel
theorem dX7_digest_100 : decode cX7_digest 100 = .ok (.lstore_n 1, 1) := by decide +kernel
theorem dX7_digest_101 : decode cX7_digest 101 = .ok (.iinc 3 1, 3) := by decide +kernel
theorem dX7_digest_104 : decode cX7_digest 104 = .ok (.goto (-74), 3) := by decide +kernel
theorem dX7_digest_107 : decode cX7_digest 107 = .ok (.iconst 0, 1) := by decide +kernel
theorem dX7_digest_108 : decode cX7_digest 108 = .ok (.istore_n 3, 1) := by decide +kernel
theorem dX7_digest_109 : decode cX7_digest 109 = .ok (.iload_n 3, 1) := by decide +kernel
theorem dX7_digest_110 : decode cX7_digest 110 = .ok (.iconst 4, 1) := by decide +kernel
theorem dX7_digest_111 : decode cX7_digest 111 = .ok (.if_icmp .ge 23, 3) := by decide +kernel
theorem dX7_digest_114 : decode cX7_digest 114 = .ok (.lload_n 1, 1) := by decide +kernel
theorem dX7_digest_115 : decode cX7_digest 115 = .ok (.aload_n 0, 1) := by decide +kernel
theorem dX7_digest_116 : decode cX7_digest 116 = .ok (.getfield 10, 3) := by decide +kernel
theorem dX7_digest_119 : decode cX7_digest 119 = .ok (.getfield 109, 3) := by decide +kernel
theorem dX7_digest_122 : decode cX7_digest 122 = .ok (.iload_n 3, 1) := by decide +kernel
theorem dX7_digest_123 : decode cX7_digest 123 = .ok (.laload, 1) := by decide +kernel
theorem dX7_digest_124 : decode cX7_digest 124 = .ok (.invokestatic 255, 3) := by decide +kernel
theorem dX7_digest_127 : decode cX7_digest 127 = .ok (.lstore_n 1, 1) := by decide +kernel
theorem dX7_digest_128 : decode cX7_digest 128 = .ok (.iinc 3 1, 3) := by decide +kernel
theorem dX7_digest_131 : decode cX7_digest 131 = .ok (.goto (-22), 3) := by decide +kernel
theorem dX7_digest_134 : decode cX7_digest 134 = .ok (.iconst 0, 1) := by decide +kernel
theorem dX7_digest_135 : decode cX7_digest 135 = .ok (.istore_n 3, 1) := by decide +kernel
theorem dX7_digest_136 : decode cX7_digest 136 = .ok (.iload_n 3, 1) := by decide +kernel
theorem dX7_digest_137 : decode cX7_digest 137 = .ok (.aload_n 0, 1) := by decide +kernel
theorem dX7_digest_138 : decode cX7_digest 138 = .ok (.getfield 10, 3) := by decide +kernel
theorem dX7_digest_141 : decode cX7_digest 141 = .ok (.getfield 192, 3) := by decide +kernel
theorem dX7_digest_144 : decode cX7_digest 144 = .ok (.getfield 196, 3) := by decide +kernel
theorem dX7_digest_147 : decode cX7_digest 147 = .ok (.if_icmp .ge 79, 3) := by decide +kernel
theorem dX7_digest_150 : decode cX7_digest 150 = .ok (.lload_n 1, 1) := by decide +kernel
theorem dX7_digest_151 : decode cX7_digest 151 = .ok (.aload_n 0, 1) := by decide +kernel
theorem dX7_digest_152 : decode cX7_digest 152 = .ok (.getfield 10, 3) := by decide +kernel
theorem dX7_digest_155 : decode cX7_digest 155 = .ok (.getfield 192, 3) := by decide +kernel
theorem dX7_digest_158 : decode cX7_digest 158 = .ok (.getfield 258, 3) := by decide +kernel
theorem dX7_digest_161 : decode cX7_digest 161 = .ok (.iload_n 3, 1) := by decide +kernel
theorem dX7_digest_162 : decode cX7_digest 162 = .ok (.iaload, 1) := by decide +kernel
theorem dX7_digest_163 : decode cX7_digest 163 = .ok (.i2l, 1) := by decide +kernel
theorem dX7_digest_164 : decode cX7_digest 164 = .ok (.invokestatic 251, 3) := by decide +kernel
theorem dX7_digest_167 : decode cX7_digest 167 = .ok (.lstore_n 1, 1) := by decide +kernel
theorem dX7_digest_168 : decode cX7_digest 168 = .ok (.lload_n 1, 1) := by decide +kernel
theorem dX7_digest_169 : decode cX7_digest 169 = .ok (.aload_n 0, 1) := by decide +kernel
theorem dX7_digest_170 : decode cX7_digest 170 = .ok (.getfield 10, 3) := by decide +kernel
theorem dX7_digest_173 : decode cX7_digest 173 = .ok (.getfield 192, 3) := by decide +kernel
theorem dX7_digest_176 : decode cX7_digest 176 = .ok (.getfield 261, 3) := by decide +kernel
theorem dX7_digest_179 : decode cX7_digest 179 = .ok (.iload_n 3, 1) := by decide +kernel
theorem dX7_digest_180 : decode cX7_digest 180 = .ok (.iaload, 1) := by decide +kernel
theorem dX7_digest_181 : decode cX7_digest 181 = .ok (.i2l, 1) := by decide +kernel
theorem dX7_digest_182 : decode cX7_digest 182 = .ok (.invokestatic 251, 3) := by decide +kernel
theorem dX7_digest_185 : decode cX7_digest 185 = .ok (.lstore_n 1, 1) := by decide +kernel
theorem dX7_digest_186 : decode cX7_digest 186 = .ok (.lload_n 1, 1) := by decide +kernel
theorem dX7_digest_187 : decode cX7_digest 187 = .ok (.aload_n 0, 1) := by decide +kernel
theorem dX7_digest_188 : decode cX7_digest 188 = .ok (.getfield 10, 3) := by decide +kernel
theorem dX7_digest_191 : decode cX7_digest 191 = .ok (.getfield 192, 3) := by decide +kernel
theorem dX7_digest_194 : decode cX7_digest 194 = .ok (.getfield 264, 3) := by decide +kernel
theorem dX7_digest_197 : decode cX7_digest 197 = .ok (.iload_n 3, 1) := by decide +kernel
theorem dX7_digest_198 : decode cX7_digest 198 = .ok (.laload, 1) := by decide +kernel
theorem dX7_digest_199 : decode cX7_digest 199 = .ok (.invokestatic 255, 3) := by decide +kernel
theorem dX7_digest_202 : decode cX7_digest 202 = .ok (.lstore_n 1, 1) := by decide +kernel
theorem dX7_digest_203 : decode cX7_digest 203 = .ok (.lload_n 1, 1) := by decide +kernel
theorem dX7_digest_204 : decode cX7_digest 204 = .ok (.aload_n 0, 1) := by decide +kernel
theorem dX7_digest_205 : decode cX7_digest 205 = .ok (.getfield 10, 3) := by decide +kernel
theorem dX7_digest_208 : decode cX7_digest 208 = .ok (.getfield 192, 3) := by decide +kernel
theorem dX7_digest_211 : decode cX7_digest 211 = .ok (.getfield 267, 3) := by decide +kernel
theorem dX7_digest_214 : decode cX7_digest 214 = .ok (.iload_n 3, 1) := by decide +kernel
theorem dX7_digest_215 : decode cX7_digest 215 = .ok (.laload, 1) := by decide +kernel
theorem dX7_digest_216 : decode cX7_digest 216 = .ok (.invokestatic 255, 3) := by decide +kernel
theorem dX7_digest_219 : decode cX7_digest 219 = .ok (.lstore_n 1, 1) := by decide +kernel
theorem dX7_digest_220 : decode cX7_digest 220 = .ok (.iinc 3 1, 3) := by decide +kernel
theorem dX7_digest_223 : decode cX7_digest 223 = .ok (.goto (-87), 3) := by decide +kernel
theorem dX7_digest_226 : decode cX7_digest 226 = .ok (.lload_n 1, 1) := by decide +kernel
theorem dX7_digest_227 : decode cX7_digest 227 = .ok (.aload_n 0, 1) := by decide +kernel
theorem dX7_digest_228 : decode cX7_digest 228 = .ok (.getfield 44, 3) := by decide +kernel
theorem dX7_digest_231 : decode cX7_digest 231 = .ok (.getfield 230, 3) := by decide +kernel
theorem dX7_digest_234 : decode cX7_digest 234 = .ok (.invokestatic 251, 3) := by decide +kernel
theorem dX7_digest_237 : decode cX7_digest 237 = .ok (.aload_n 0, 1) := by decide +kernel
theorem dX7_digest_238 : decode cX7_digest 238 = .ok (.getfield 44, 3) := by decide +kernel
theorem dX7_digest_241 : decode cX7_digest 241 = .ok (.getfield 234, 3) := by decide +kernel
theorem dX7_digest_244 : decode cX7_digest 244 = .ok (.invokestatic 251, 3) := by decide +kernel
theorem dX7_digest_247 : decode cX7_digest 247 = .ok (.lreturn, 1) := by decide +kernel
theorem dX7_refuseBad_0 : decode cX7_refuseBad 0 = .ok (.aload_n 0, 1) := by decide +kernel
theorem dX7_refuseBad_1 : decode cX7_refuseBad 1 = .ok (.dup, 1) := by decide +kernel
theorem dX7_refuseBad_2 : decode cX7_refuseBad 2 = .ok (.getfield 237, 3) := by decide +kernel
theorem dX7_refuseBad_5 : decode cX7_refuseBad 5 = .ok (.iconst 1, 1) := by decide +kernel
theorem dX7_refuseBad_6 : decode cX7_refuseBad 6 = .ok (.iadd, 1) := by decide +kernel
theorem dX7_refuseBad_7 : decode cX7_refuseBad 7 = .ok (.putfield 237, 3) := by decide +kernel
theorem dX7_refuseBad_10 : decode cX7_refuseBad 10 = .ok (.iload_n 1, 1) := by decide +kernel
theorem dX7_refuseBad_11 : decode cX7_refuseBad 11 = .ok (.ireturn, 1) := by decide +kernel
theorem dX7_refuseNo_0 : decode cX7_refuseNo 0 = .ok (.aload_n 0, 1) := by decide +kernel
theorem dX7_refuseNo_1 : decode cX7_refuseNo 1 = .ok (.dup, 1) := by decide +kernel
theorem dX7_refuseNo_2 : decode cX7_refuseNo 2 = .ok (.getfield 240, 3) := by decide +kernel
theorem dX7_refuseNo_5 : decode cX7_refuseNo 5 = .ok (.iconst 1, 1) := by decide +kernel
theorem dX7_refuseNo_6 : decode cX7_refuseNo 6 = .ok (.iadd, 1) := by decide +kernel
theorem dX7_refuseNo_7 : decode cX7_refuseNo 7 = .ok (.putfield 240, 3) := by decide +kernel
theorem dX7_refuseNo_10 : decode cX7_refuseNo 10 = .ok (.bipush (-3), 2) := by decide +kernel
theorem dX7_refuseNo_12 : decode cX7_refuseNo 12 = .ok (.ireturn, 1) := by decide +kernel
theorem dX7_refuseFull_0 : decode cX7_refuseFull 0 = .ok (.aload_n 0, 1) := by decide +kernel
theorem dX7_refuseFull_1 : decode cX7_refuseFull 1 = .ok (.dup, 1) := by decide +kernel
theorem dX7_refuseFull_2 : decode cX7_refuseFull 2 = .ok (.getfield 243, 3) := by decide +kernel
theorem dX7_refuseFull_5 : decode cX7_refuseFull 5 = .ok (.iconst 1, 1) := by decide +kernel
theorem dX7_refuseFull_6 : decode cX7_refuseFull 6 = .ok (.iadd, 1) := by decide +kernel
theorem dX7_refuseFull_7 : decode cX7_refuseFull 7 = .ok (.putfield 243, 3) := by decide +kernel
theorem dX7_refuseFull_10 : decode cX7_refuseFull 10 = .ok (.bipush (-4), 2) := by decide +kernel
theorem dX7_refuseFull_12 : decode cX7_refuseFull 12 = .ok (.ireturn, 1) := by decide +kernel
theorem dX7_isBelow_0 : decode cX7_isBelow 0 = .ok (.iload_n 0, 1) := by decide +kernel
theorem dX7_isBelow_1 : decode cX7_isBelow 1 = .ok (.ifCond .lt 12, 3) := by decide +kernel
theorem dX7_isBelow_4 : decode cX7_isBelow 4 = .ok (.iload_n 0, 1) := by decide +kernel
theorem dX7_isBelow_5 : decode cX7_isBelow 5 = .ok (.iload_n 1, 1) := by decide +kernel
theorem dX7_isBelow_6 : decode cX7_isBelow 6 = .ok (.if_icmp .ge 7, 3) := by decide +kernel
theorem dX7_isBelow_9 : decode cX7_isBelow 9 = .ok (.iconst 1, 1) := by decide +kernel
theorem dX7_isBelow_10 : decode cX7_isBelow 10 = .ok (.goto 4, 3) := by decide +kernel
theorem dX7_isBelow_13 : decode cX7_isBelow 13 = .ok (.iconst 0, 1) := by decide +kernel
theorem dX7_isBelow_14 : decode cX7_isBelow 14 = .ok (.ireturn, 1) := by decide +kernel
theorem dX7_isRow_0 : decode cX7_isRow 0 = .ok (.iload_n 0, 1) := by decide +kernel
theorem dX7_isRow_1 : decode cX7_isRow 1 = .ok (.iconst 4, 1) := by decide +kernel
theorem dX7_isRow_2 : decode cX7_isRow 2 = .ok (.invokestatic 56, 3) := by decide +kernel
theorem dX7_isRow_5 : decode cX7_isRow 5 = .ok (.ireturn, 1) := by decide +kernel
theorem dX7_isRule_0 : decode cX7_isRule 0 = .ok (.iload_n 0, 1) := by decide +kernel
theorem dX7_isRule_1 : decode cX7_isRule 1 = .ok (.bipush 6, 2) := by decide +kernel
theorem dX7_isRule_3 : decode cX7_isRule 3 = .ok (.invokestatic 56, 3) := by decide +kernel
theorem dX7_isRule_6 : decode cX7_isRule 6 = .ok (.ifCond .eq 16, 3) := by decide +kernel
theorem dX7_isRule_9 : decode cX7_isRule 9 = .ok (.iload_n 1, 1) := by decide +kernel
theorem dX7_isRule_10 : decode cX7_isRule 10 = .ok (.bipush 16, 2) := by decide +kernel
theorem dX7_isRule_12 : decode cX7_isRule 12 = .ok (.invokestatic 56, 3) := by decide +kernel
theorem dX7_isRule_15 : decode cX7_isRule 15 = .ok (.ifCond .eq 7, 3) := by decide +kernel
theorem dX7_isRule_18 : decode cX7_isRule 18 = .ok (.iconst 1, 1) := by decide +kernel
theorem dX7_isRule_19 : decode cX7_isRule 19 = .ok (.goto 4, 3) := by decide +kernel
theorem dX7_isRule_22 : decode cX7_isRule 22 = .ok (.iconst 0, 1) := by decide +kernel
theorem dX7_isRule_23 : decode cX7_isRule 23 = .ok (.ireturn, 1) := by decide +kernel
theorem dX7_isFleet_0 : decode cX7_isFleet 0 = .ok (.iload_n 0, 1) := by decide +kernel
theorem dX7_isFleet_1 : decode cX7_isFleet 1 = .ok (.ldc_w 269, 3) := by decide +kernel
theorem dX7_isFleet_4 : decode cX7_isFleet 4 = .ok (.invokestatic 56, 3) := by decide +kernel
theorem dX7_isFleet_7 : decode cX7_isFleet 7 = .ok (.ifCond .eq 17, 3) := by decide +kernel
theorem dX7_isFleet_10 : decode cX7_isFleet 10 = .ok (.iload_n 1, 1) := by decide +kernel
theorem dX7_isFleet_11 : decode cX7_isFleet 11 = .ok (.ifCond .lt 13, 3) := by decide +kernel
theorem dX7_isFleet_14 : decode cX7_isFleet 14 = .ok (.iload_n 1, 1) := by decide +kernel
theorem dX7_isFleet_15 : decode cX7_isFleet 15 = .ok (.bipush 60, 2) := by decide +kernel
theorem dX7_isFleet_17 : decode cX7_isFleet 17 = .ok (.if_icmp .gt 7, 3) := by decide +kernel
theorem dX7_isFleet_20 : decode cX7_isFleet 20 = .ok (.iconst 1, 1) := by decide +kernel
theorem dX7_isFleet_21 : decode cX7_isFleet 21 = .ok (.goto 4, 3) := by decide +kernel
theorem dX7_isFleet_24 : decode cX7_isFleet 24 = .ok (.iconst 0, 1) := by decide +kernel
theorem dX7_isFleet_25 : decode cX7_isFleet 25 = .ok (.ireturn, 1) := by decide +kernel
theorem dX7_isBridge_0 : decode cX7_isBridge 0 = .ok (.iload_n 1, 1) := by decide +kernel
theorem dX7_isBridge_1 : decode cX7_isBridge 1 = .ok (.aload_n 0, 1) := by decide +kernel
theorem dX7_isBridge_2 : decode cX7_isBridge 2 = .ok (.getfield 10, 3) := by decide +kernel
theorem dX7_isBridge_5 : decode cX7_isBridge 5 = .ok (.getfield 64, 3) := by decide +kernel
theorem dX7_isBridge_8 : decode cX7_isBridge 8 = .ok (.invokestatic 56, 3) := by decide +kernel
theorem dX7_isBridge_11 : decode cX7_isBridge 11 = .ok (.ireturn, 1) := by decide +kernel
theorem dX7_lengthOrSyllable_0 : decode cX7_lengthOrSyllable 0 = .ok (.iload_n 2, 1) := by decide +kernel
theorem dX7_lengthOrSyllable_1 : decode cX7_lengthOrSyllable 1 = .ok (.iconst (-1), 1) := by decide +kernel
theorem dX7_lengthOrSyllable_2 : decode cX7_lengthOrSyllable 2 = .ok (.if_icmp .ne 8, 3) := by decide +kernel
theorem dX7_lengthOrSyllable_5 : decode cX7_lengthOrSyllable 5 = .ok (.lload_n 0, 1) := by decide +kernel
theorem dX7_lengthOrSyllable_6 : decode cX7_lengthOrSyllable 6 = .ok (.invokestatic 112, 3) := by decide +kernel
theorem dX7_lengthOrSyllable_9 : decode cX7_lengthOrSyllable 9 = .ok (.ireturn, 1) := by decide +kernel
theorem dX7_lengthOrSyllable_10 : decode cX7_lengthOrSyllable 10 = .ok (.iload_n 2, 1) := by decide +kernel
theorem dX7_lengthOrSyllable_11 : decode cX7_lengthOrSyllable 11 = .ok (.lload_n 0, 1) := by decide +kernel
theorem dX7_lengthOrSyllable_12 : decode cX7_lengthOrSyllable 12 = .ok (.invokestatic 112, 3) := by decide +kernel
theorem dX7_lengthOrSyllable_15 : decode cX7_lengthOrSyllable 15 = .ok (.if_icmp .ge 11, 3) := by decide +kernel
theorem dX7_lengthOrSyllable_18 : decode cX7_lengthOrSyllable 18 = .ok (.lload_n 0, 1) := by decide +kernel
theorem dX7_lengthOrSyllable_19 : decode cX7_lengthOrSyllable 19 = .ok (.iload_n 2, 1) := by decide +kernel
theorem dX7_lengthOrSyllable_20 : decode cX7_lengthOrSyllable 20 = .ok (.invokestatic 270, 3) := by decide +kernel
theorem dX7_lengthOrSyllable_23 : decode cX7_lengthOrSyllable 23 = .ok (.goto 5, 3) := by decide +kernel
theorem dX7_lengthOrSyllable_26 : decode cX7_lengthOrSyllable 26 = .ok (.bipush (-5), 2) := by decide +kernel
theorem dX7_lengthOrSyllable_28 : decode cX7_lengthOrSyllable 28 = .ok (.ireturn, 1) := by decide +kernel
theorem dX7_canSay_0 : decode cX7_canSay 0 = .ok (.iload_n 1, 1) := by decide +kernel
theorem dX7_canSay_1 : decode cX7_canSay 1 = .ok (.iload_n 0, 1) := by decide +kernel
theorem dX7_canSay_2 : decode cX7_canSay 2 = .ok (.iconst (-1), 1) := by decide +kernel
theorem dX7_canSay_3 : decode cX7_canSay 3 = .ok (.ixor, 1) := by decide +kernel
theorem dX7_canSay_4 : decode cX7_canSay 4 = .ok (.iand, 1) := by decide +kernel
theorem dX7_canSay_5 : decode cX7_canSay 5 = .ok (.ifCond .ne 7, 3) := by decide +kernel
theorem dX7_canSay_8 : decode cX7_canSay 8 = .ok (.iconst 1, 1) := by decide +kernel
theorem dX7_canSay_9 : decode cX7_canSay 9 = .ok (.goto 4, 3) := by decide +kernel
theorem dX7_canSay_12 : decode cX7_canSay 12 = .ok (.iconst 0, 1) := by decide +kernel
theorem dX7_canSay_13 : decode cX7_canSay 13 = .ok (.ireturn, 1) := by decide +kernel
theorem dX7_boatsSaying_0 : decode cX7_boatsSaying 0 = .ok (.iload_n 1, 1) := by decide +kernel
theorem dX7_boatsSaying_1 : decode cX7_boatsSaying 1 = .ok (.i2l, 1) := by decide +kernel
theorem dX7_boatsSaying_2 : decode cX7_boatsSaying 2 = .ok (.lstore_n 3, 1) := by decide +kernel
theorem dX7_boatsSaying_3 : decode cX7_boatsSaying 3 = .ok (.iconst 0, 1) := by decide +kernel
theorem dX7_boatsSaying_4 : decode cX7_boatsSaying 4 = .ok (.istore 5, 2) := by decide +kernel
theorem dX7_boatsSaying_6 : decode cX7_boatsSaying 6 = .ok (.iconst 0, 1) := by decide +kernel
theorem dX7_boatsSaying_7 : decode cX7_boatsSaying 7 = .ok (.istore 6, 2) := by decide +kernel
theorem dX7_boatsSaying_9 : decode cX7_boatsSaying 9 = .ok (.iload 6, 2) := by decide +kernel
theorem dX7_boatsSaying_11 : decode cX7_boatsSaying 11 = .ok (.iload_n 2, 1) := by decide +kernel
theorem dX7_boatsSaying_12 : decode cX7_boatsSaying 12 = .ok (.if_icmp .ge 54, 3) := by decide +kernel
theorem dX7_boatsSaying_15 : decode cX7_boatsSaying 15 = .ok (.lload_n 3, 1) := by decide +kernel
theorem dX7_boatsSaying_16 : decode cX7_boatsSaying 16 = .ok (.ldc2_w 273, 3) := by decide +kernel
theorem dX7_boatsSaying_19 : decode cX7_boatsSaying 19 = .ok (.lmul, 1) := by decide +kernel
theorem dX7_boatsSaying_20 : decode cX7_boatsSaying 20 = .ok (.ldc2_w 275, 3) := by decide +kernel
theorem dX7_boatsSaying_23 : decode cX7_boatsSaying 23 = .ok (.ladd, 1) := by decide +kernel
theorem dX7_boatsSaying_24 : decode cX7_boatsSaying 24 = .ok (.ldc2_w 277, 3) := by decide +kernel
theorem dX7_boatsSaying_27 : decode cX7_boatsSaying 27 = .ok (.lrem, 1) := by decide +kernel
theorem dX7_boatsSaying_28 : decode cX7_boatsSaying 28 = .ok (.lstore_n 3, 1) := by decide +kernel
theorem dX7_boatsSaying_29 : decode cX7_boatsSaying 29 = .ok (.lload_n 3, 1) := by decide +kernel
theorem dX7_boatsSaying_30 : decode cX7_boatsSaying 30 = .ok (.ldc2_w 279, 3) := by decide +kernel
theorem dX7_boatsSaying_33 : decode cX7_boatsSaying 33 = .ok (.ldiv, 1) := by decide +kernel
theorem dX7_boatsSaying_34 : decode cX7_boatsSaying 34 = .ok (.ldc2_w 281, 3) := by decide +kernel
theorem dX7_boatsSaying_37 : decode cX7_boatsSaying 37 = .ok (.lrem, 1) := by decide +kernel
theorem dX7_boatsSaying_38 : decode cX7_boatsSaying 38 = .ok (.l2i, 1) := by decide +kernel
theorem dX7_boatsSaying_39 : decode cX7_boatsSaying 39 = .ok (.istore 7, 2) := by decide +kernel
theorem dX7_boatsSaying_41 : decode cX7_boatsSaying 41 = .ok (.iload 5, 2) := by decide +kernel
theorem dX7_boatsSaying_43 : decode cX7_boatsSaying 43 = .ok (.iload 7, 2) := by decide +kernel
theorem dX7_boatsSaying_45 : decode cX7_boatsSaying 45 = .ok (.iload_n 0, 1) := by decide +kernel
theorem dX7_boatsSaying_46 : decode cX7_boatsSaying 46 = .ok (.invokestatic 162, 3) := by decide +kernel
theorem dX7_boatsSaying_49 : decode cX7_boatsSaying 49 = .ok (.ifCond .eq 7, 3) := by decide +kernel
theorem dX7_boatsSaying_52 : decode cX7_boatsSaying 52 = .ok (.iconst 1, 1) := by decide +kernel
theorem dX7_boatsSaying_53 : decode cX7_boatsSaying 53 = .ok (.goto 4, 3) := by decide +kernel
theorem dX7_boatsSaying_56 : decode cX7_boatsSaying 56 = .ok (.iconst 0, 1) := by decide +kernel
theorem dX7_boatsSaying_57 : decode cX7_boatsSaying 57 = .ok (.iadd, 1) := by decide +kernel
theorem dX7_boatsSaying_58 : decode cX7_boatsSaying 58 = .ok (.istore 5, 2) := by decide +kernel
theorem dX7_boatsSaying_60 : decode cX7_boatsSaying 60 = .ok (.iinc 6 1, 3) := by decide +kernel
theorem dX7_boatsSaying_63 : decode cX7_boatsSaying 63 = .ok (.goto (-54), 3) := by decide +kernel
theorem dX7_boatsSaying_66 : decode cX7_boatsSaying 66 = .ok (.iload 5, 2) := by decide +kernel
theorem dX7_boatsSaying_68 : decode cX7_boatsSaying 68 = .ok (.ireturn, 1) := by decide +kernel
theorem dX7_collectFitting_0 : decode cX7_collectFitting 0 = .ok (.iconst 0, 1) := by decide +kernel
theorem dX7_collectFitting_1 : decode cX7_collectFitting 1 = .ok (.istore_n 2, 1) := by decide +kernel
theorem dX7_collectFitting_2 : decode cX7_collectFitting 2 = .ok (.iconst 0, 1) := by decide +kernel
theorem dX7_collectFitting_3 : decode cX7_collectFitting 3 = .ok (.istore_n 3, 1) := by decide +kernel
theorem dX7_collectFitting_4 : decode cX7_collectFitting 4 = .ok (.iload_n 3, 1) := by decide +kernel
theorem dX7_collectFitting_5 : decode cX7_collectFitting 5 = .ok (.bipush 96, 2) := by decide +kernel
theorem dX7_collectFitting_7 : decode cX7_collectFitting 7 = .ok (.if_icmp .ge 34, 3) := by decide +kernel
theorem dX7_collectFitting_10 : decode cX7_collectFitting 10 = .ok (.aload_n 0, 1) := by decide +kernel
theorem dX7_collectFitting_11 : decode cX7_collectFitting 11 = .ok (.getfield 10, 3) := by decide +kernel
theorem dX7_collectFitting_14 : decode cX7_collectFitting 14 = .ok (.getfield 192, 3) := by decide +kernel
theorem dX7_collectFitting_17 : decode cX7_collectFitting 17 = .ok (.iload_n 1, 1) := by decide +kernel
theorem dX7_collectFitting_18 : decode cX7_collectFitting 18 = .ok (.iload_n 3, 1) := by decide +kernel
theorem dX7_collectFitting_19 : decode cX7_collectFitting 19 = .ok (.invokevirtual 283, 3) := by decide +kernel
theorem dX7_collectFitting_22 : decode cX7_collectFitting 22 = .ok (.ifCond .eq 13, 3) := by decide +kernel
theorem dX7_collectFitting_25 : decode cX7_collectFitting 25 = .ok (.aload_n 0, 1) := by decide +kernel
theorem dX7_collectFitting_26 : decode cX7_collectFitting 26 = .ok (.getfield 48, 3) := by decide +kernel
theorem dX7_collectFitting_29 : decode cX7_collectFitting 29 = .ok (.iload_n 2, 1) := by decide +kernel
theorem dX7_collectFitting_30 : decode cX7_collectFitting 30 = .ok (.iload_n 3, 1) := by decide +kernel
theorem dX7_collectFitting_31 : decode cX7_collectFitting 31 = .ok (.iastore, 1) := by decide +kernel
theorem dX7_collectFitting_32 : decode cX7_collectFitting 32 = .ok (.iinc 2 1, 3) := by decide +kernel
theorem dX7_collectFitting_35 : decode cX7_collectFitting 35 = .ok (.iinc 3 1, 3) := by decide +kernel
theorem dX7_collectFitting_38 : decode cX7_collectFitting 38 = .ok (.goto (-34), 3) := by decide +kernel
theorem dX7_collectFitting_41 : decode cX7_collectFitting 41 = .ok (.iload_n 2, 1) := by decide +kernel
theorem dX7_collectFitting_42 : decode cX7_collectFitting 42 = .ok (.ireturn, 1) := by decide +kernel
theorem dX7_mostAlike_0 : decode cX7_mostAlike 0 = .ok (.iconst 0, 1) := by decide +kernel
theorem dX7_mostAlike_1 : decode cX7_mostAlike 1 = .ok (.istore 4, 2) := by decide +kernel
theorem dX7_mostAlike_3 : decode cX7_mostAlike 3 = .ok (.iconst 0, 1) := by decide +kernel
theorem dX7_mostAlike_4 : decode cX7_mostAlike 4 = .ok (.istore 5, 2) := by decide +kernel
theorem dX7_mostAlike_6 : decode cX7_mostAlike 6 = .ok (.iload 5, 2) := by decide +kernel
theorem dX7_mostAlike_8 : decode cX7_mostAlike 8 = .ok (.iload_n 3, 1) := by decide +kernel
theorem dX7_mostAlike_9 : decode cX7_mostAlike 9 = .ok (.if_icmp .ge 90, 3) := by decide +kernel
theorem dX7_mostAlike_12 : decode cX7_mostAlike 12 = .ok (.aload_n 0, 1) := by decide +kernel
theorem dX7_mostAlike_13 : decode cX7_mostAlike 13 = .ok (.getfield 52, 3) := by decide +kernel
theorem dX7_mostAlike_16 : decode cX7_mostAlike 16 = .ok (.iload 5, 2) := by decide +kernel
theorem dX7_mostAlike_18 : decode cX7_mostAlike 18 = .ok (.lload_n 1, 1) := by decide +kernel
theorem dX7_mostAlike_19 : decode cX7_mostAlike 19 = .ok (.aload_n 0, 1) := by decide +kernel
theorem dX7_mostAlike_20 : decode cX7_mostAlike 20 = .ok (.getfield 48, 3) := by decide +kernel
theorem dX7_mostAlike_23 : decode cX7_mostAlike 23 = .ok (.iload 5, 2) := by decide +kernel
theorem dX7_mostAlike_25 : decode cX7_mostAlike 25 = .ok (.iaload, 1) := by decide +kernel
theorem dX7_mostAlike_26 : decode cX7_mostAlike 26 = .ok (.aload_n 0, 1) := by decide +kernel
theorem dX7_mostAlike_27 : decode cX7_mostAlike 27 = .ok (.getfield 10, 3) := by decide +kernel
theorem dX7_mostAlike_30 : decode cX7_mostAlike 30 = .ok (.getfield 94, 3) := by decide +kernel
theorem dX7_mostAlike_33 : decode cX7_mostAlike 33 = .ok (.invokestatic 286, 3) := by decide +kernel
theorem dX7_mostAlike_36 : decode cX7_mostAlike 36 = .ok (.lastore, 1) := by decide +kernel
theorem dX7_mostAlike_37 : decode cX7_mostAlike 37 = .ok (.iconst 0, 1) := by decide +kernel
theorem dX7_mostAlike_38 : decode cX7_mostAlike 38 = .ok (.istore 6, 2) := by decide +kernel
theorem dX7_mostAlike_40 : decode cX7_mostAlike 40 = .ok (.iconst 0, 1) := by decide +kernel
theorem dX7_mostAlike_41 : decode cX7_mostAlike 41 = .ok (.istore 7, 2) := by decide +kernel
theorem dX7_mostAlike_43 : decode cX7_mostAlike 43 = .ok (.iload 7, 2) := by decide +kernel
theorem dX7_mostAlike_45 : decode cX7_mostAlike 45 = .ok (.iload 5, 2) := by decide +kernel
theorem dX7_mostAlike_47 : decode cX7_mostAlike 47 = .ok (.if_icmp .gt 37, 3) := by decide +kernel
theorem dX7_mostAlike_50 : decode cX7_mostAlike 50 = .ok (.iload 6, 2) := by decide +kernel
theorem dX7_mostAlike_52 : decode cX7_mostAlike 52 = .ok (.aload_n 0, 1) := by decide +kernel
theorem dX7_mostAlike_53 : decode cX7_mostAlike 53 = .ok (.getfield 52, 3) := by decide +kernel
theorem dX7_mostAlike_56 : decode cX7_mostAlike 56 = .ok (.iload 7, 2) := by decide +kernel
theorem dX7_mostAlike_58 : decode cX7_mostAlike 58 = .ok (.laload, 1) := by decide +kernel
theorem dX7_mostAlike_59 : decode cX7_mostAlike 59 = .ok (.aload_n 0, 1) := by decide +kernel
theorem dX7_mostAlike_60 : decode cX7_mostAlike 60 = .ok (.getfield 52, 3) := by decide +kernel
theorem dX7_mostAlike_63 : decode cX7_mostAlike 63 = .ok (.iload 5, 2) := by decide +kernel
theorem dX7_mostAlike_65 : decode cX7_mostAlike 65 = .ok (.laload, 1) := by decide +kernel
theorem dX7_mostAlike_66 : decode cX7_mostAlike 66 = .ok (.lcmp, 1) := by decide +kernel
theorem dX7_mostAlike_67 : decode cX7_mostAlike 67 = .ok (.ifCond .ne 7, 3) := by decide +kernel
theorem dX7_mostAlike_70 : decode cX7_mostAlike 70 = .ok (.iconst 1, 1) := by decide +kernel
theorem dX7_mostAlike_71 : decode cX7_mostAlike 71 = .ok (.goto 4, 3) := by decide +kernel
theorem dX7_mostAlike_74 : decode cX7_mostAlike 74 = .ok (.iconst 0, 1) := by decide +kernel
theorem dX7_mostAlike_75 : decode cX7_mostAlike 75 = .ok (.iadd, 1) := by decide +kernel
theorem dX7_mostAlike_76 : decode cX7_mostAlike 76 = .ok (.istore 6, 2) := by decide +kernel
theorem dX7_mostAlike_78 : decode cX7_mostAlike 78 = .ok (.iinc 7 1, 3) := by decide +kernel
theorem dX7_mostAlike_81 : decode cX7_mostAlike 81 = .ok (.goto (-38), 3) := by decide +kernel
theorem dX7_mostAlike_84 : decode cX7_mostAlike 84 = .ok (.iload 4, 2) := by decide +kernel
theorem dX7_mostAlike_86 : decode cX7_mostAlike 86 = .ok (.iload 6, 2) := by decide +kernel
theorem dX7_mostAlike_88 : decode cX7_mostAlike 88 = .ok (.invokestatic 290, 3) := by decide +kernel
theorem dX7_mostAlike_91 : decode cX7_mostAlike 91 = .ok (.istore 4, 2) := by decide +kernel
theorem dX7_mostAlike_93 : decode cX7_mostAlike 93 = .ok (.iinc 5 1, 3) := by decide +kernel
theorem dX7_mostAlike_96 : decode cX7_mostAlike 96 = .ok (.goto (-90), 3) := by decide +kernel
theorem dX7_mostAlike_99 : decode cX7_mostAlike 99 = .ok (.iload 4, 2) := by decide +kernel
theorem dX7_mostAlike_101 : decode cX7_mostAlike 101 = .ok (.ireturn, 1) := by decide +kernel
theorem dX7_mixed_0 : decode cX7_mixed 0 = .ok (.ldc2_w 296, 3) := by decide +kernel
theorem dX7_mixed_3 : decode cX7_mixed 3 = .ok (.lload_n 0, 1) := by decide +kernel
theorem dX7_mixed_4 : decode cX7_mixed 4 = .ok (.lmul, 1) := by decide +kernel
theorem dX7_mixed_5 : decode cX7_mixed 5 = .ok (.lload_n 2, 1) := by decide +kernel
theorem dX7_mixed_6 : decode cX7_mixed 6 = .ok (.ladd, 1) := by decide +kernel
theorem dX7_mixed_7 : decode cX7_mixed 7 = .ok (.lreturn, 1) := by decide +kernel
theorem dX7_mixedName_0 : decode cX7_mixedName 0 = .ok (.lload_n 2, 1) := by decide +kernel
theorem dX7_mixedName_1 : decode cX7_mixedName 1 = .ok (.invokestatic 112, 3) := by decide +kernel
theorem dX7_mixedName_4 : decode cX7_mixedName 4 = .ok (.istore 4, 2) := by decide +kernel
theorem dX7_mixedName_6 : decode cX7_mixedName 6 = .ok (.lload_n 0, 1) := by decide +kernel
theorem dX7_mixedName_7 : decode cX7_mixedName 7 = .ok (.iload 4, 2) := by decide +kernel
theorem dX7_mixedName_9 : decode cX7_mixedName 9 = .ok (.i2l, 1) := by decide +kernel
theorem dX7_mixedName_10 : decode cX7_mixedName 10 = .ok (.invokestatic 251, 3) := by decide +kernel
theorem dX7_mixedName_13 : decode cX7_mixedName 13 = .ok (.lstore 5, 2) := by decide +kernel
theorem dX7_mixedName_15 : decode cX7_mixedName 15 = .ok (.iconst 0, 1) := by decide +kernel
theorem dX7_mixedName_16 : decode cX7_mixedName 16 = .ok (.istore 7, 2) := by decide +kernel
theorem dX7_mixedName_18 : decode cX7_mixedName 18 = .ok (.iload 7, 2) := by decide +kernel
theorem dX7_mixedName_20 : decode cX7_mixedName 20 = .ok (.iload 4, 2) := by decide +kernel
theorem dX7_mixedName_22 : decode cX7_mixedName 22 = .ok (.if_icmp .ge 23, 3) := by decide +kernel
theorem dX7_mixedName_25 : decode cX7_mixedName 25 = .ok (.lload 5, 2) := by decide +kernel
theorem dX7_mixedName_27 : decode cX7_mixedName 27 = .ok (.lload_n 2, 1) := by decide +kernel
theorem dX7_mixedName_28 : decode cX7_mixedName 28 = .ok (.iload 7, 2) := by decide +kernel
theorem dX7_mixedName_30 : decode cX7_mixedName 30 = .ok (.invokestatic 270, 3) := by decide +kernel
theorem dX7_mixedName_33 : decode cX7_mixedName 33 = .ok (.i2l, 1) := by decide +kernel
theorem dX7_mixedName_34 : decode cX7_mixedName 34 = .ok (.invokestatic 251, 3) := by decide +kernel
theorem dX7_mixedName_37 : decode cX7_mixedName 37 = .ok (.lstore 5, 2) := by decide +kernel
theorem dX7_mixedName_39 : decode cX7_mixedName 39 = .ok (.iinc 7 1, 3) := by decide +kernel
theorem dX7_mixedName_42 : decode cX7_mixedName 42 = .ok (.goto (-24), 3) := by decide +kernel
theorem dX7_mixedName_45 : decode cX7_mixedName 45 = .ok (.lload 5, 2) := by decide +kernel
theorem dX7_mixedName_47 : decode cX7_mixedName 47 = .ok (.lreturn, 1) := by decide +kernel
theorem dJ9_max_7cf53_0 : decode cJ9_max_7cf53 0 = .ok (.iload_n 0, 1) := by decide +kernel
theorem dJ9_max_7cf53_1 : decode cJ9_max_7cf53 1 = .ok (.iload_n 1, 1) := by decide +kernel
theorem dJ9_max_7cf53_2 : decode cJ9_max_7cf53 2 = .ok (.if_icmp .lt 7, 3) := by decide +kernel
theorem dJ9_max_7cf53_5 : decode cJ9_max_7cf53 5 = .ok (.iload_n 0, 1) := by decide +kernel
theorem dJ9_max_7cf53_6 : decode cJ9_max_7cf53 6 = .ok (.goto 4, 3) := by decide +kernel
theorem dJ9_max_7cf53_9 : decode cJ9_max_7cf53 9 = .ok (.iload_n 1, 1) := by decide +kernel
theorem dJ9_max_7cf53_10 : decode cJ9_max_7cf53 10 = .ok (.ireturn, 1) := by decide +kernel
theorem dJ0_length_8abf5_0 : decode cJ0_length_8abf5 0 = .ok (.aload_n 0, 1) := by decide +kernel
theorem dJ0_length_8abf5_1 : decode cJ0_length_8abf5 1 = .ok (.getfield 9, 3) := by decide +kernel
theorem dJ0_length_8abf5_4 : decode cJ0_length_8abf5 4 = .ok (.arraylength, 1) := by decide +kernel
theorem dJ0_length_8abf5_5 : decode cJ0_length_8abf5 5 = .ok (.aload_n 0, 1) := by decide +kernel
theorem dJ0_length_8abf5_6 : decode cJ0_length_8abf5 6 = .ok (.invokevirtual 335, 3) := by decide +kernel
theorem dJ0_length_8abf5_9 : decode cJ0_length_8abf5 9 = .ok (.ishr, 1) := by decide +kernel
theorem dJ0_length_8abf5_10 : decode cJ0_length_8abf5 10 = .ok (.ireturn, 1) := by decide +kernel
theorem dJ0_charAt_5068e_0 : decode cJ0_charAt_5068e 0 = .ok (.aload_n 0, 1) := by decide +kernel
theorem dJ0_charAt_5068e_1 : decode cJ0_charAt_5068e 1 = .ok (.invokevirtual 492, 3) := by decide +kernel
theorem dJ0_charAt_5068e_4 : decode cJ0_charAt_5068e 4 = .ok (.ifCond .eq 12, 3) := by decide +kernel
theorem dJ0_charAt_5068e_7 : decode cJ0_charAt_5068e 7 = .ok (.aload_n 0, 1) := by decide +kernel
theorem dJ0_charAt_5068e_8 : decode cJ0_charAt_5068e 8 = .ok (.getfield 9, 3) := by decide +kernel
theorem dJ0_charAt_5068e_11 : decode cJ0_charAt_5068e 11 = .ok (.iload_n 1, 1) := by decide +kernel
theorem dJ0_charAt_5068e_12 : decode cJ0_charAt_5068e 12 = .ok (.invokestatic 495, 3) := by decide +kernel
theorem dJ0_charAt_5068e_15 : decode cJ0_charAt_5068e 15 = .ok (.ireturn, 1) := by decide +kernel
theorem dJ0_charAt_5068e_16 : decode cJ0_charAt_5068e 16 = .ok (.aload_n 0, 1) := by decide +kernel
theorem dJ0_charAt_5068e_17 : decode cJ0_charAt_5068e 17 = .ok (.getfield 9, 3) := by decide +kernel
theorem dJ0_charAt_5068e_20 : decode cJ0_charAt_5068e 20 = .ok (.iload_n 1, 1) := by decide +kernel
theorem dJ0_charAt_5068e_21 : decode cJ0_charAt_5068e 21 = .ok (.invokestatic 498, 3) := by decide +kernel
theorem dJ0_charAt_5068e_24 : decode cJ0_charAt_5068e 24 = .ok (.ireturn, 1) := by decide +kernel
theorem dJ0_coder_7d493_0 : decode cJ0_coder_7d493 0 = .ok (.getstatic 38, 3) := by decide +kernel
theorem dJ0_coder_7d493_3 : decode cJ0_coder_7d493 3 = .ok (.ifCond .eq 10, 3) := by decide +kernel
theorem dJ0_coder_7d493_6 : decode cJ0_coder_7d493 6 = .ok (.aload_n 0, 1) := by decide +kernel
theorem dJ0_coder_7d493_7 : decode cJ0_coder_7d493 7 = .ok (.getfield 15, 3) := by decide +kernel
theorem dJ0_coder_7d493_10 : decode cJ0_coder_7d493 10 = .ok (.goto 4, 3) := by decide +kernel
theorem dJ0_coder_7d493_13 : decode cJ0_coder_7d493 13 = .ok (.iconst 1, 1) := by decide +kernel
theorem dJ0_coder_7d493_14 : decode cJ0_coder_7d493 14 = .ok (.ireturn, 1) := by decide +kernel
theorem dJ0_isLatin1_aae02_0 : decode cJ0_isLatin1_aae02 0 = .ok (.getstatic 38, 3) := by decide +kernel
theorem dJ0_isLatin1_aae02_3 : decode cJ0_isLatin1_aae02 3 = .ok (.ifCond .eq 14, 3) := by decide +kernel
theorem dJ0_isLatin1_aae02_6 : decode cJ0_isLatin1_aae02 6 = .ok (.aload_n 0, 1) := by decide +kernel
theorem dJ0_isLatin1_aae02_7 : decode cJ0_isLatin1_aae02 7 = .ok (.getfield 15, 3) := by decide +kernel
theorem dJ0_isLatin1_aae02_10 : decode cJ0_isLatin1_aae02 10 = .ok (.ifCond .ne 7, 3) := by decide +kernel
theorem dJ0_isLatin1_aae02_13 : decode cJ0_isLatin1_aae02 13 = .ok (.iconst 1, 1) := by decide +kernel
theorem dJ0_isLatin1_aae02_14 : decode cJ0_isLatin1_aae02 14 = .ok (.goto 4, 3) := by decide +kernel
theorem dJ0_isLatin1_aae02_17 : decode cJ0_isLatin1_aae02 17 = .ok (.iconst 0, 1) := by decide +kernel
theorem dJ0_isLatin1_aae02_18 : decode cJ0_isLatin1_aae02 18 = .ok (.ireturn, 1) := by decide +kernel
theorem dJ0_checkIndex_df160_0 : decode cJ0_checkIndex_df160 0 = .ok (.iload_n 0, 1) := by decide +kernel
theorem dJ0_checkIndex_df160_1 : decode cJ0_checkIndex_df160 1 = .ok (.iload_n 1, 1) := by decide +kernel
theorem dJ0_checkIndex_df160_2 : decode cJ0_checkIndex_df160 2 = .ok (.getstatic 1053, 3) := by decide +kernel
theorem dJ0_checkIndex_df160_5 : decode cJ0_checkIndex_df160 5 = .ok (.invokestatic 1059, 3) := by decide +kernel
theorem dJ0_checkIndex_df160_8 : decode cJ0_checkIndex_df160 8 = .ok (.pop, 1) := by decide +kernel
theorem dJ0_checkIndex_df160_9 : decode cJ0_checkIndex_df160 9 = .ok (.return_, 1) := by decide +kernel
theorem dJ1_charAt_3b067_0 : decode cJ1_charAt_3b067 0 = .ok (.iload_n 1, 1) := by decide +kernel
theorem dJ1_charAt_3b067_1 : decode cJ1_charAt_3b067 1 = .ok (.aload_n 0, 1) := by decide +kernel
theorem dJ1_charAt_3b067_2 : decode cJ1_charAt_3b067 2 = .ok (.arraylength, 1) := by decide +kernel
theorem dJ1_charAt_3b067_3 : decode cJ1_charAt_3b067 3 = .ok (.invokestatic 9, 3) := by decide +kernel
theorem dJ1_charAt_3b067_6 : decode cJ1_charAt_3b067 6 = .ok (.aload_n 0, 1) := by decide +kernel
theorem dJ1_charAt_3b067_7 : decode cJ1_charAt_3b067 7 = .ok (.iload_n 1, 1) := by decide +kernel
theorem dJ1_charAt_3b067_8 : decode cJ1_charAt_3b067 8 = .ok (.baload, 1) := by decide +kernel
theorem dJ1_charAt_3b067_9 : decode cJ1_charAt_3b067 9 = .ok (.sipush 255, 3) := by decide +kernel
theorem dJ1_charAt_3b067_12 : decode cJ1_charAt_3b067 12 = .ok (.iand, 1) := by decide +kernel
theorem dJ1_charAt_3b067_13 : decode cJ1_charAt_3b067 13 = .ok (.i2c, 1) := by decide +kernel
theorem dJ1_charAt_3b067_14 : decode cJ1_charAt_3b067 14 = .ok (.ireturn, 1) := by decide +kernel
theorem dJ2_getChar_3b067_0 : decode cJ2_getChar_3b067 0 = .ok (.getstatic 44, 3) := by decide +kernel
theorem dJ2_getChar_3b067_3 : decode cJ2_getChar_3b067 3 = .ok (.ifCond .ne 25, 3) := by decide +kernel
theorem dJ2_getChar_3b067_6 : decode cJ2_getChar_3b067 6 = .ok (.iload_n 1, 1) := by decide +kernel
theorem dJ2_getChar_3b067_7 : decode cJ2_getChar_3b067 7 = .ok (.ifCond .lt 11, 3) := by decide +kernel
theorem dJ2_getChar_3b067_10 : decode cJ2_getChar_3b067 10 = .ok (.iload_n 1, 1) := by decide +kernel
theorem dJ2_getChar_3b067_11 : decode cJ2_getChar_3b067 11 = .ok (.aload_n 0, 1) := by decide +kernel
theorem dJ2_getChar_3b067_12 : decode cJ2_getChar_3b067 12 = .ok (.invokestatic 48, 3) := by decide +kernel
theorem dJ2_getChar_3b067_15 : decode cJ2_getChar_3b067 15 = .ok (.if_icmp .lt 13, 3) := by decide +kernel
theorem dJ2_getChar_3b067_18 : decode cJ2_getChar_3b067 18 = .ok (.new 52, 3) := by decide +kernel
theorem dJ2_getChar_3b067_21 : decode cJ2_getChar_3b067 21 = .ok (.dup, 1) := by decide +kernel
theorem dJ2_getChar_3b067_22 : decode cJ2_getChar_3b067 22 = .ok (.ldc 54, 2) := by decide +kernel
theorem dJ2_getChar_3b067_24 : decode cJ2_getChar_3b067 24 = .ok (.invokespecial 56, 3) := by decide +kernel
theorem dJ2_getChar_3b067_27 : decode cJ2_getChar_3b067 27 = .ok (.athrow, 1) := by decide +kernel
theorem dJ2_getChar_3b067_28 : decode cJ2_getChar_3b067 28 = .ok (.iload_n 1, 1) := by decide +kernel
theorem dJ2_getChar_3b067_29 : decode cJ2_getChar_3b067 29 = .ok (.iconst 1, 1) := by decide +kernel
theorem dJ2_getChar_3b067_30 : decode cJ2_getChar_3b067 30 = .ok (.ishl, 1) := by decide +kernel
theorem dJ2_getChar_3b067_31 : decode cJ2_getChar_3b067 31 = .ok (.istore_n 1, 1) := by decide +kernel
theorem dJ2_getChar_3b067_32 : decode cJ2_getChar_3b067 32 = .ok (.aload_n 0, 1) := by decide +kernel
theorem dJ2_getChar_3b067_33 : decode cJ2_getChar_3b067 33 = .ok (.iload_n 1, 1) := by decide +kernel
theorem dJ2_getChar_3b067_34 : decode cJ2_getChar_3b067 34 = .ok (.iinc 1 1, 3) := by decide +kernel
theorem dJ2_getChar_3b067_37 : decode cJ2_getChar_3b067 37 = .ok (.baload, 1) := by decide +kernel
theorem dJ2_getChar_3b067_38 : decode cJ2_getChar_3b067 38 = .ok (.sipush 255, 3) := by decide +kernel
theorem dJ2_getChar_3b067_41 : decode cJ2_getChar_3b067 41 = .ok (.iand, 1) := by decide +kernel
theorem dJ2_getChar_3b067_42 : decode cJ2_getChar_3b067 42 = .ok (.getstatic 59, 3) := by decide +kernel
theorem dJ2_getChar_3b067_45 : decode cJ2_getChar_3b067 45 = .ok (.ishl, 1) := by decide +kernel
theorem dJ2_getChar_3b067_46 : decode cJ2_getChar_3b067 46 = .ok (.aload_n 0, 1) := by decide +kernel
theorem dJ2_getChar_3b067_47 : decode cJ2_getChar_3b067 47 = .ok (.iload_n 1, 1) := by decide +kernel
theorem dJ2_getChar_3b067_48 : decode cJ2_getChar_3b067 48 = .ok (.baload, 1) := by decide +kernel
theorem dJ2_getChar_3b067_49 : decode cJ2_getChar_3b067 49 = .ok (.sipush 255, 3) := by decide +kernel
theorem dJ2_getChar_3b067_52 : decode cJ2_getChar_3b067 52 = .ok (.iand, 1) := by decide +kernel
theorem dJ2_getChar_3b067_53 : decode cJ2_getChar_3b067 53 = .ok (.getstatic 63, 3) := by decide +kernel
theorem dJ2_getChar_3b067_56 : decode cJ2_getChar_3b067 56 = .ok (.ishl, 1) := by decide +kernel
theorem dJ2_getChar_3b067_57 : decode cJ2_getChar_3b067 57 = .ok (.ior, 1) := by decide +kernel
theorem dJ2_getChar_3b067_58 : decode cJ2_getChar_3b067 58 = .ok (.i2c, 1) := by decide +kernel
theorem dJ2_getChar_3b067_59 : decode cJ2_getChar_3b067 59 = .ok (.ireturn, 1) := by decide +kernel
theorem dJ2_length_9d52b_0 : decode cJ2_length_9d52b 0 = .ok (.aload_n 0, 1) := by decide +kernel
theorem dJ2_length_9d52b_1 : decode cJ2_length_9d52b 1 = .ok (.arraylength, 1) := by decide +kernel
theorem dJ2_length_9d52b_2 : decode cJ2_length_9d52b 2 = .ok (.iconst 1, 1) := by decide +kernel
theorem dJ2_length_9d52b_3 : decode cJ2_length_9d52b 3 = .ok (.ishr, 1) := by decide +kernel
theorem dJ2_length_9d52b_4 : decode cJ2_length_9d52b 4 = .ok (.ireturn, 1) := by decide +kernel
theorem dJ2_charAt_3b067_0 : decode cJ2_charAt_3b067 0 = .ok (.iload_n 1, 1) := by decide +kernel
theorem dJ2_charAt_3b067_1 : decode cJ2_charAt_3b067 1 = .ok (.aload_n 0, 1) := by decide +kernel
theorem dJ2_charAt_3b067_2 : decode cJ2_charAt_3b067 2 = .ok (.invokestatic 67, 3) := by decide +kernel
theorem dJ2_charAt_3b067_5 : decode cJ2_charAt_3b067 5 = .ok (.aload_n 0, 1) := by decide +kernel
theorem dJ2_charAt_3b067_6 : decode cJ2_charAt_3b067 6 = .ok (.iload_n 1, 1) := by decide +kernel
theorem dJ2_charAt_3b067_7 : decode cJ2_charAt_3b067 7 = .ok (.invokestatic 71, 3) := by decide +kernel
theorem dJ2_charAt_3b067_10 : decode cJ2_charAt_3b067 10 = .ok (.ireturn, 1) := by decide +kernel
theorem dJ2_checkIndex_2214a_0 : decode cJ2_checkIndex_2214a 0 = .ok (.iload_n 0, 1) := by decide +kernel
theorem dJ2_checkIndex_2214a_1 : decode cJ2_checkIndex_2214a 1 = .ok (.aload_n 1, 1) := by decide +kernel
theorem dJ2_checkIndex_2214a_2 : decode cJ2_checkIndex_2214a 2 = .ok (.invokestatic 48, 3) := by decide +kernel
theorem dJ2_checkIndex_2214a_5 : decode cJ2_checkIndex_2214a 5 = .ok (.invokestatic 414, 3) := by decide +kernel
theorem dJ2_checkIndex_2214a_8 : decode cJ2_checkIndex_2214a 8 = .ok (.return_, 1) := by decide +kernel
theorem dJ3_checkIndex_8e157_0 : decode cJ3_checkIndex_8e157 0 = .ok (.iload_n 0, 1) := by decide +kernel
theorem dJ3_checkIndex_8e157_1 : decode cJ3_checkIndex_8e157 1 = .ok (.ifCond .lt 8, 3) := by decide +kernel
theorem dJ3_checkIndex_8e157_4 : decode cJ3_checkIndex_8e157 4 = .ok (.iload_n 0, 1) := by decide +kernel
theorem dJ3_checkIndex_8e157_5 : decode cJ3_checkIndex_8e157 5 = .ok (.iload_n 1, 1) := by decide +kernel
theorem dJ3_checkIndex_8e157_6 : decode cJ3_checkIndex_8e157 6 = .ok (.if_icmp .lt 10, 3) := by decide +kernel
theorem dJ3_checkIndex_8e157_9 : decode cJ3_checkIndex_8e157 9 = .ok (.aload_n 2, 1) := by decide +kernel
theorem dJ3_checkIndex_8e157_10 : decode cJ3_checkIndex_8e157 10 = .ok (.iload_n 0, 1) := by decide +kernel
theorem dJ3_checkIndex_8e157_11 : decode cJ3_checkIndex_8e157 11 = .ok (.iload_n 1, 1) := by decide +kernel
theorem dJ3_checkIndex_8e157_12 : decode cJ3_checkIndex_8e157 12 = .ok (.invokestatic 95, 3) := by decide +kernel
theorem dJ3_checkIndex_8e157_15 : decode cJ3_checkIndex_8e157 15 = .ok (.athrow, 1) := by decide +kernel
theorem dJ3_checkIndex_8e157_16 : decode cJ3_checkIndex_8e157 16 = .ok (.iload_n 0, 1) := by decide +kernel
theorem dJ3_checkIndex_8e157_17 : decode cJ3_checkIndex_8e157 17 = .ok (.ireturn, 1) := by decide +kernel
end
section
theorem dX8_init_0 : decode cX8_init 0 = .ok (.aload_n 0, 1) := by decide +kernel
theorem dX8_init_1 : decode cX8_init 1 = .ok (.invokespecial 1, 3) := by decide +kernel
theorem dX8_init_4 : decode cX8_init 4 = .ok (.aload_n 0, 1) := by decide +kernel
theorem dX8_init_5 : decode cX8_init 5 = .ok (.sipush 188, 3) := by decide +kernel
theorem dX8_init_8 : decode cX8_init 8 = .ok (.newarray .int, 2) := by decide +kernel
theorem dX8_init_10 : decode cX8_init 10 = .ok (.putfield 7, 3) := by decide +kernel
theorem dX8_init_13 : decode cX8_init 13 = .ok (.aload_n 0, 1) := by decide +kernel
theorem dX8_init_14 : decode cX8_init 14 = .ok (.sipush 376, 3) := by decide +kernel
theorem dX8_init_17 : decode cX8_init 17 = .ok (.newarray .int, 2) := by decide +kernel
theorem dX8_init_19 : decode cX8_init 19 = .ok (.putfield 13, 3) := by decide +kernel
theorem dX8_init_22 : decode cX8_init 22 = .ok (.aload_n 0, 1) := by decide +kernel
theorem dX8_init_23 : decode cX8_init 23 = .ok (.bipush 20, 2) := by decide +kernel
theorem dX8_init_25 : decode cX8_init 25 = .ok (.newarray .long, 2) := by decide +kernel
theorem dX8_init_27 : decode cX8_init 27 = .ok (.putfield 16, 3) := by decide +kernel
theorem dX8_init_30 : decode cX8_init 30 = .ok (.aload_n 0, 1) := by decide +kernel
theorem dX8_init_31 : decode cX8_init 31 = .ok (.bipush 40, 2) := by decide +kernel
theorem dX8_init_33 : decode cX8_init 33 = .ok (.newarray .long, 2) := by decide +kernel
theorem dX8_init_35 : decode cX8_init 35 = .ok (.putfield 20, 3) := by decide +kernel
theorem dX8_init_38 : decode cX8_init 38 = .ok (.aload_n 0, 1) := by decide +kernel
theorem dX8_init_39 : decode cX8_init 39 = .ok (.iconst 2, 1) := by decide +kernel
theorem dX8_init_40 : decode cX8_init 40 = .ok (.newarray .boolean, 2) := by decide +kernel
theorem dX8_init_42 : decode cX8_init 42 = .ok (.putfield 23, 3) := by decide +kernel
theorem dX8_init_45 : decode cX8_init 45 = .ok (.aload_n 0, 1) := by decide +kernel
theorem dX8_init_46 : decode cX8_init 46 = .ok (.iconst 3, 1) := by decide +kernel
theorem dX8_init_47 : decode cX8_init 47 = .ok (.newarray .int, 2) := by decide +kernel
theorem dX8_init_49 : decode cX8_init 49 = .ok (.putfield 27, 3) := by decide +kernel
theorem dX8_init_52 : decode cX8_init 52 = .ok (.aload_n 0, 1) := by decide +kernel
theorem dX8_init_53 : decode cX8_init 53 = .ok (.lconst 1, 1) := by decide +kernel
theorem dX8_init_54 : decode cX8_init 54 = .ok (.putfield 30, 3) := by decide +kernel
theorem dX8_init_57 : decode cX8_init 57 = .ok (.aload_n 0, 1) := by decide +kernel
theorem dX8_init_58 : decode cX8_init 58 = .ok (.bipush 7, 2) := by decide +kernel
theorem dX8_init_60 : decode cX8_init 60 = .ok (.newarray .int, 2) := by decide +kernel
theorem dX8_init_62 : decode cX8_init 62 = .ok (.putfield 34, 3) := by decide +kernel
theorem dX8_init_65 : decode cX8_init 65 = .ok (.aload_n 0, 1) := by decide +kernel
theorem dX8_init_66 : decode cX8_init 66 = .ok (.bipush 7, 2) := by decide +kernel
theorem dX8_init_68 : decode cX8_init 68 = .ok (.newarray .int, 2) := by decide +kernel
theorem dX8_init_70 : decode cX8_init 70 = .ok (.putfield 37, 3) := by decide +kernel
theorem dX8_init_73 : decode cX8_init 73 = .ok (.aload_n 0, 1) := by decide +kernel
theorem dX8_init_74 : decode cX8_init 74 = .ok (.bipush 7, 2) := by decide +kernel
theorem dX8_init_76 : decode cX8_init 76 = .ok (.newarray .long, 2) := by decide +kernel
theorem dX8_init_78 : decode cX8_init 78 = .ok (.putfield 40, 3) := by decide +kernel
theorem dX8_init_81 : decode cX8_init 81 = .ok (.aload_n 0, 1) := by decide +kernel
theorem dX8_init_82 : decode cX8_init 82 = .ok (.bipush 7, 2) := by decide +kernel
theorem dX8_init_84 : decode cX8_init 84 = .ok (.newarray .int, 2) := by decide +kernel
theorem dX8_init_86 : decode cX8_init 86 = .ok (.putfield 43, 3) := by decide +kernel
theorem dX8_init_89 : decode cX8_init 89 = .ok (.aload_n 0, 1) := by decide +kernel
theorem dX8_init_90 : decode cX8_init 90 = .ok (.bipush 6, 2) := by decide +kernel
theorem dX8_init_92 : decode cX8_init 92 = .ok (.newarray .int, 2) := by decide +kernel
theorem dX8_init_94 : decode cX8_init 94 = .ok (.putfield 46, 3) := by decide +kernel
theorem dX8_init_97 : decode cX8_init 97 = .ok (.aload_n 0, 1) := by decide +kernel
theorem dX8_init_98 : decode cX8_init 98 = .ok (.bipush 96, 2) := by decide +kernel
theorem dX8_init_100 : decode cX8_init 100 = .ok (.newarray .boolean, 2) := by decide +kernel
theorem dX8_init_102 : decode cX8_init 102 = .ok (.putfield 49, 3) := by decide +kernel
theorem dX8_init_105 : decode cX8_init 105 = .ok (.aload_n 0, 1) := by decide +kernel
theorem dX8_init_106 : decode cX8_init 106 = .ok (.bipush 14, 2) := by decide +kernel
theorem dX8_init_108 : decode cX8_init 108 = .ok (.newarray .long, 2) := by decide +kernel
theorem dX8_init_110 : decode cX8_init 110 = .ok (.putfield 52, 3) := by decide +kernel
theorem dX8_init_113 : decode cX8_init 113 = .ok (.aload_n 0, 1) := by decide +kernel
theorem dX8_init_114 : decode cX8_init 114 = .ok (.sipush 150, 3) := by decide +kernel
theorem dX8_init_117 : decode cX8_init 117 = .ok (.newarray .int, 2) := by decide +kernel
theorem dX8_init_119 : decode cX8_init 119 = .ok (.putfield 55, 3) := by decide +kernel
theorem dX8_init_122 : decode cX8_init 122 = .ok (.aload_n 0, 1) := by decide +kernel
theorem dX8_init_123 : decode cX8_init 123 = .ok (.bipush 52, 2) := by decide +kernel
theorem dX8_init_125 : decode cX8_init 125 = .ok (.newarray .int, 2) := by decide +kernel
theorem dX8_init_127 : decode cX8_init 127 = .ok (.putfield 58, 3) := by decide +kernel
theorem dX8_init_130 : decode cX8_init 130 = .ok (.aload_n 0, 1) := by decide +kernel
theorem dX8_init_131 : decode cX8_init 131 = .ok (.iconst 4, 1) := by decide +kernel
theorem dX8_init_132 : decode cX8_init 132 = .ok (.newarray .long, 2) := by decide +kernel
theorem dX8_init_134 : decode cX8_init 134 = .ok (.putfield 61, 3) := by decide +kernel
theorem dX8_init_137 : decode cX8_init 137 = .ok (.aload_n 0, 1) := by decide +kernel
theorem dX8_init_138 : decode cX8_init 138 = .ok (.iconst 4, 1) := by decide +kernel
theorem dX8_init_139 : decode cX8_init 139 = .ok (.newarray .int, 2) := by decide +kernel
theorem dX8_init_141 : decode cX8_init 141 = .ok (.putfield 64, 3) := by decide +kernel
theorem dX8_init_144 : decode cX8_init 144 = .ok (.return_, 1) := by decide +kernel
theorem dX8_in_0 : decode cX8_in 0 = .ok (.lload_n 0, 1) := by decide +kernel
theorem dX8_in_1 : decode cX8_in 1 = .ok (.lload_n 2, 1) := by decide +kernel
theorem dX8_in_2 : decode cX8_in 2 = .ok (.lcmp, 1) := by decide +kernel
theorem dX8_in_3 : decode cX8_in 3 = .ok (.ifCond .lt 14, 3) := by decide +kernel
theorem dX8_in_6 : decode cX8_in 6 = .ok (.lload_n 0, 1) := by decide +kernel
theorem dX8_in_7 : decode cX8_in 7 = .ok (.lload 4, 2) := by decide +kernel
theorem dX8_in_9 : decode cX8_in 9 = .ok (.lcmp, 1) := by decide +kernel
theorem dX8_in_10 : decode cX8_in 10 = .ok (.ifCond .gt 7, 3) := by decide +kernel
theorem dX8_in_13 : decode cX8_in 13 = .ok (.iconst 1, 1) := by decide +kernel
theorem dX8_in_14 : decode cX8_in 14 = .ok (.goto 4, 3) := by decide +kernel
theorem dX8_in_17 : decode cX8_in 17 = .ok (.iconst 0, 1) := by decide +kernel
theorem dX8_in_18 : decode cX8_in 18 = .ok (.ireturn, 1) := by decide +kernel
theorem dX8_bad_0 : decode cX8_bad 0 = .ok (.aload_n 0, 1) := by decide +kernel
theorem dX8_bad_1 : decode cX8_bad 1 = .ok (.getfield 27, 3) := by decide +kernel
theorem dX8_bad_4 : decode cX8_bad 4 = .ok (.iconst 0, 1) := by decide +kernel
theorem dX8_bad_5 : decode cX8_bad 5 = .ok (.dup2, 1) := by decide +kernel
theorem dX8_bad_6 : decode cX8_bad 6 = .ok (.iaload, 1) := by decide +kernel
theorem dX8_bad_7 : decode cX8_bad 7 = .ok (.iconst 1, 1) := by decide +kernel
theorem dX8_bad_8 : decode cX8_bad 8 = .ok (.iadd, 1) := by decide +kernel
theorem dX8_bad_9 : decode cX8_bad 9 = .ok (.iastore, 1) := by decide +kernel
theorem dX8_bad_10 : decode cX8_bad 10 = .ok (.iload_n 1, 1) := by decide +kernel
theorem dX8_bad_11 : decode cX8_bad 11 = .ok (.ireturn, 1) := by decide +kernel
theorem dX8_no_0 : decode cX8_no 0 = .ok (.aload_n 0, 1) := by decide +kernel
theorem dX8_no_1 : decode cX8_no 1 = .ok (.getfield 27, 3) := by decide +kernel
theorem dX8_no_4 : decode cX8_no 4 = .ok (.iconst 1, 1) := by decide +kernel
theorem dX8_no_5 : decode cX8_no 5 = .ok (.dup2, 1) := by decide +kernel
theorem dX8_no_6 : decode cX8_no 6 = .ok (.iaload, 1) := by decide +kernel
theorem dX8_no_7 : decode cX8_no 7 = .ok (.iconst 1, 1) := by decide +kernel
theorem dX8_no_8 : decode cX8_no 8 = .ok (.iadd, 1) := by decide +kernel
theorem dX8_no_9 : decode cX8_no 9 = .ok (.iastore, 1) := by decide +kernel
theorem dX8_no_10 : decode cX8_no 10 = .ok (.bipush (-3), 2) := by decide +kernel
theorem dX8_no_12 : decode cX8_no 12 = .ok (.ireturn, 1) := by decide +kernel
theorem dX8_full_0 : decode cX8_full 0 = .ok (.aload_n 0, 1) := by decide +kernel
theorem dX8_full_1 : decode cX8_full 1 = .ok (.getfield 27, 3) := by decide +kernel
theorem dX8_full_4 : decode cX8_full 4 = .ok (.iconst 2, 1) := by decide +kernel
theorem dX8_full_5 : decode cX8_full 5 = .ok (.dup2, 1) := by decide +kernel
theorem dX8_full_6 : decode cX8_full 6 = .ok (.iaload, 1) := by decide +kernel
theorem dX8_full_7 : decode cX8_full 7 = .ok (.iconst 1, 1) := by decide +kernel
theorem dX8_full_8 : decode cX8_full 8 = .ok (.iadd, 1) := by decide +kernel
theorem dX8_full_9 : decode cX8_full 9 = .ok (.iastore, 1) := by decide +kernel
theorem dX8_full_10 : decode cX8_full 10 = .ok (.bipush (-4), 2) := by decide +kernel
theorem dX8_full_12 : decode cX8_full 12 = .ok (.ireturn, 1) := by decide +kernel
theorem dX8_many_0 : decode cX8_many 0 = .ok (.lload_n 0, 1) := by decide +kernel
theorem dX8_many_1 : decode cX8_many 1 = .ok (.bipush 48, 2) := by decide +kernel
theorem dX8_many_3 : decode cX8_many 3 = .ok (.lshr, 1) := by decide +kernel
theorem dX8_many_4 : decode cX8_many 4 = .ok (.l2i, 1) := by decide +kernel
theorem dX8_many_5 : decode cX8_many 5 = .ok (.ireturn, 1) := by decide +kernel
theorem dX8_syllable_0 : decode cX8_syllable 0 = .ok (.lload_n 0, 1) := by decide +kernel
theorem dX8_syllable_1 : decode cX8_syllable 1 = .ok (.iconst 4, 1) := by decide +kernel
theorem dX8_syllable_2 : decode cX8_syllable 2 = .ok (.iload_n 2, 1) := by decide +kernel
theorem dX8_syllable_3 : decode cX8_syllable 3 = .ok (.imul, 1) := by decide +kernel
theorem dX8_syllable_4 : decode cX8_syllable 4 = .ok (.lshr, 1) := by decide +kernel
theorem dX8_syllable_5 : decode cX8_syllable 5 = .ok (.ldc2_w 67, 3) := by decide +kernel
theorem dX8_syllable_8 : decode cX8_syllable 8 = .ok (.land, 1) := by decide +kernel
theorem dX8_syllable_9 : decode cX8_syllable 9 = .ok (.l2i, 1) := by decide +kernel
theorem dX8_syllable_10 : decode cX8_syllable 10 = .ok (.ireturn, 1) := by decide +kernel
theorem dX8_behind_0 : decode cX8_behind 0 = .ok (.lload_n 0, 1) := by decide +kernel
theorem dX8_behind_1 : decode cX8_behind 1 = .ok (.ldc2_w 69, 3) := by decide +kernel
theorem dX8_behind_4 : decode cX8_behind 4 = .ok (.ladd, 1) := by decide +kernel
theorem dX8_behind_5 : decode cX8_behind 5 = .ok (.iload_n 2, 1) := by decide +kernel
theorem dX8_behind_6 : decode cX8_behind 6 = .ok (.i2l, 1) := by decide +kernel
theorem dX8_behind_7 : decode cX8_behind 7 = .ok (.iconst 4, 1) := by decide +kernel
theorem dX8_behind_8 : decode cX8_behind 8 = .ok (.lload_n 0, 1) := by decide +kernel
theorem dX8_behind_9 : decode cX8_behind 9 = .ok (.invokestatic 71, 3) := by decide +kernel
theorem dX8_behind_12 : decode cX8_behind 12 = .ok (.imul, 1) := by decide +kernel
theorem dX8_behind_13 : decode cX8_behind 13 = .ok (.lshl, 1) := by decide +kernel
theorem dX8_behind_14 : decode cX8_behind 14 = .ok (.ladd, 1) := by decide +kernel
theorem dX8_behind_15 : decode cX8_behind 15 = .ok (.lreturn, 1) := by decide +kernel
theorem dX8_firstOnes_0 : decode cX8_firstOnes 0 = .ok (.iload_n 2, 1) := by decide +kernel
theorem dX8_firstOnes_1 : decode cX8_firstOnes 1 = .ok (.i2l, 1) := by decide +kernel
theorem dX8_firstOnes_2 : decode cX8_firstOnes 2 = .ok (.bipush 48, 2) := by decide +kernel
theorem dX8_firstOnes_4 : decode cX8_firstOnes 4 = .ok (.lshl, 1) := by decide +kernel
theorem dX8_firstOnes_5 : decode cX8_firstOnes 5 = .ok (.lload_n 0, 1) := by decide +kernel
theorem dX8_firstOnes_6 : decode cX8_firstOnes 6 = .ok (.lconst 1, 1) := by decide +kernel
theorem dX8_firstOnes_7 : decode cX8_firstOnes 7 = .ok (.iconst 4, 1) := by decide +kernel
theorem dX8_firstOnes_8 : decode cX8_firstOnes 8 = .ok (.iload_n 2, 1) := by decide +kernel
theorem dX8_firstOnes_9 : decode cX8_firstOnes 9 = .ok (.imul, 1) := by decide +kernel
theorem dX8_firstOnes_10 : decode cX8_firstOnes 10 = .ok (.lshl, 1) := by decide +kernel
theorem dX8_firstOnes_11 : decode cX8_firstOnes 11 = .ok (.lconst 1, 1) := by decide +kernel
theorem dX8_firstOnes_12 : decode cX8_firstOnes 12 = .ok (.lsub, 1) := by decide +kernel
theorem dX8_firstOnes_13 : decode cX8_firstOnes 13 = .ok (.land, 1) := by decide +kernel
theorem dX8_firstOnes_14 : decode cX8_firstOnes 14 = .ok (.ladd, 1) := by decide +kernel
theorem dX8_firstOnes_15 : decode cX8_firstOnes 15 = .ok (.lreturn, 1) := by decide +kernel
theorem dX8_sweet_0 : decode cX8_sweet 0 = .ok (.lload_n 0, 1) := by decide +kernel
theorem dX8_sweet_1 : decode cX8_sweet 1 = .ok (.invokestatic 71, 3) := by decide +kernel
theorem dX8_sweet_4 : decode cX8_sweet 4 = .ok (.bipush 12, 2) := by decide +kernel
theorem dX8_sweet_6 : decode cX8_sweet 6 = .ok (.if_icmp .ne 12, 3) := by decide +kernel
theorem dX8_sweet_9 : decode cX8_sweet 9 = .ok (.lload_n 0, 1) := by decide +kernel
theorem dX8_sweet_10 : decode cX8_sweet 10 = .ok (.bipush 11, 2) := by decide +kernel
theorem dX8_sweet_12 : decode cX8_sweet 12 = .ok (.invokestatic 75, 3) := by decide +kernel
theorem dX8_sweet_15 : decode cX8_sweet 15 = .ok (.goto 4, 3) := by decide +kernel
theorem dX8_sweet_18 : decode cX8_sweet 18 = .ok (.lload_n 0, 1) := by decide +kernel
theorem dX8_sweet_19 : decode cX8_sweet 19 = .ok (.iload_n 2, 1) := by decide +kernel
theorem dX8_sweet_20 : decode cX8_sweet 20 = .ok (.invokestatic 79, 3) := by decide +kernel
theorem dX8_sweet_23 : decode cX8_sweet 23 = .ok (.lreturn, 1) := by decide +kernel
theorem dX8_drop_0 : decode cX8_drop 0 = .ok (.lload_n 0, 1) := by decide +kernel
theorem dX8_drop_1 : decode cX8_drop 1 = .ok (.invokestatic 71, 3) := by decide +kernel
theorem dX8_drop_4 : decode cX8_drop 4 = .ok (.iload_n 2, 1) := by decide +kernel
theorem dX8_drop_5 : decode cX8_drop 5 = .ok (.iconst 3, 1) := by decide +kernel
theorem dX8_drop_6 : decode cX8_drop 6 = .ok (.irem, 1) := by decide +kernel
theorem dX8_drop_7 : decode cX8_drop 7 = .ok (.isub, 1) := by decide +kernel
theorem dX8_drop_8 : decode cX8_drop 8 = .ok (.iconst 1, 1) := by decide +kernel
theorem dX8_drop_9 : decode cX8_drop 9 = .ok (.isub, 1) := by decide +kernel
theorem dX8_drop_10 : decode cX8_drop 10 = .ok (.istore_n 3, 1) := by decide +kernel
theorem dX8_drop_11 : decode cX8_drop 11 = .ok (.lload_n 0, 1) := by decide +kernel
theorem dX8_drop_12 : decode cX8_drop 12 = .ok (.iload_n 3, 1) := by decide +kernel
theorem dX8_drop_13 : decode cX8_drop 13 = .ok (.ifCond .ge 7, 3) := by decide +kernel
theorem dX8_drop_16 : decode cX8_drop 16 = .ok (.iconst 0, 1) := by decide +kernel
theorem dX8_drop_17 : decode cX8_drop 17 = .ok (.goto 4, 3) := by decide +kernel
theorem dX8_drop_20 : decode cX8_drop 20 = .ok (.iload_n 3, 1) := by decide +kernel
theorem dX8_drop_21 : decode cX8_drop 21 = .ok (.invokestatic 75, 3) := by decide +kernel
theorem dX8_drop_24 : decode cX8_drop 24 = .ok (.lreturn, 1) := by decide +kernel
theorem dX8_turn_0 : decode cX8_turn 0 = .ok (.lconst 0, 1) := by decide +kernel
theorem dX8_turn_1 : decode cX8_turn 1 = .ok (.lstore_n 2, 1) := by decide +kernel
theorem dX8_turn_2 : decode cX8_turn 2 = .ok (.lload_n 0, 1) := by decide +kernel
theorem dX8_turn_3 : decode cX8_turn 3 = .ok (.invokestatic 71, 3) := by decide +kernel
theorem dX8_turn_6 : decode cX8_turn 6 = .ok (.iconst 1, 1) := by decide +kernel
theorem dX8_turn_7 : decode cX8_turn 7 = .ok (.isub, 1) := by decide +kernel
theorem dX8_turn_8 : decode cX8_turn 8 = .ok (.istore 4, 2) := by decide +kernel
theorem dX8_turn_10 : decode cX8_turn 10 = .ok (.iload 4, 2) := by decide +kernel
theorem dX8_turn_12 : decode cX8_turn 12 = .ok (.ifCond .lt 20, 3) := by decide +kernel
theorem dX8_turn_15 : decode cX8_turn 15 = .ok (.lload_n 2, 1) := by decide +kernel
theorem dX8_turn_16 : decode cX8_turn 16 = .ok (.lload_n 0, 1) := by decide +kernel
theorem dX8_turn_17 : decode cX8_turn 17 = .ok (.iload 4, 2) := by decide +kernel
theorem dX8_turn_19 : decode cX8_turn 19 = .ok (.invokestatic 82, 3) := by decide +kernel
theorem dX8_turn_22 : decode cX8_turn 22 = .ok (.invokestatic 79, 3) := by decide +kernel
theorem dX8_turn_25 : decode cX8_turn 25 = .ok (.lstore_n 2, 1) := by decide +kernel
theorem dX8_turn_26 : decode cX8_turn 26 = .ok (.iinc 4 (-1), 3) := by decide +kernel
theorem dX8_turn_29 : decode cX8_turn 29 = .ok (.goto (-19), 3) := by decide +kernel
theorem dX8_turn_32 : decode cX8_turn 32 = .ok (.lload_n 2, 1) := by decide +kernel
theorem dX8_turn_33 : decode cX8_turn 33 = .ok (.lreturn, 1) := by decide +kernel
theorem dX8_twice_0 : decode cX8_twice 0 = .ok (.lconst 0, 1) := by decide +kernel
theorem dX8_twice_1 : decode cX8_twice 1 = .ok (.lload_n 0, 1) := by decide +kernel
theorem dX8_twice_2 : decode cX8_twice 2 = .ok (.iconst 0, 1) := by decide +kernel
theorem dX8_twice_3 : decode cX8_twice 3 = .ok (.invokestatic 82, 3) := by decide +kernel
theorem dX8_twice_6 : decode cX8_twice 6 = .ok (.invokestatic 79, 3) := by decide +kernel
theorem dX8_twice_9 : decode cX8_twice 9 = .ok (.lstore_n 2, 1) := by decide +kernel
theorem dX8_twice_10 : decode cX8_twice 10 = .ok (.iconst 0, 1) := by decide +kernel
theorem dX8_twice_11 : decode cX8_twice 11 = .ok (.istore 4, 2) := by decide +kernel
theorem dX8_twice_13 : decode cX8_twice 13 = .ok (.iload 4, 2) := by decide +kernel
theorem dX8_twice_15 : decode cX8_twice 15 = .ok (.lload_n 0, 1) := by decide +kernel
theorem dX8_twice_16 : decode cX8_twice 16 = .ok (.invokestatic 71, 3) := by decide +kernel
theorem dX8_twice_19 : decode cX8_twice 19 = .ok (.if_icmp .ge 27, 3) := by decide +kernel
theorem dX8_twice_22 : decode cX8_twice 22 = .ok (.iload 4, 2) := by decide +kernel
theorem dX8_twice_24 : decode cX8_twice 24 = .ok (.bipush 11, 2) := by decide +kernel
theorem dX8_twice_26 : decode cX8_twice 26 = .ok (.if_icmp .ge 20, 3) := by decide +kernel
theorem dX8_twice_29 : decode cX8_twice 29 = .ok (.lload_n 2, 1) := by decide +kernel
theorem dX8_twice_30 : decode cX8_twice 30 = .ok (.lload_n 0, 1) := by decide +kernel
theorem dX8_twice_31 : decode cX8_twice 31 = .ok (.iload 4, 2) := by decide +kernel
theorem dX8_twice_33 : decode cX8_twice 33 = .ok (.invokestatic 82, 3) := by decide +kernel
theorem dX8_twice_36 : decode cX8_twice 36 = .ok (.invokestatic 79, 3) := by decide +kernel
theorem dX8_twice_39 : decode cX8_twice 39 = .ok (.lstore_n 2, 1) := by decide +kernel
theorem dX8_twice_40 : decode cX8_twice 40 = .ok (.iinc 4 1, 3) := by decide +kernel
theorem dX8_twice_43 : decode cX8_twice 43 = .ok (.goto (-30), 3) := by decide +kernel
theorem dX8_twice_46 : decode cX8_twice 46 = .ok (.lload_n 2, 1) := by decide +kernel
theorem dX8_twice_47 : decode cX8_twice 47 = .ok (.lreturn, 1) := by decide +kernel
theorem dX8_higher_0 : decode cX8_higher 0 = .ok (.lconst 0, 1) := by decide +kernel
theorem dX8_higher_1 : decode cX8_higher 1 = .ok (.lstore_n 3, 1) := by decide +kernel
theorem dX8_higher_2 : decode cX8_higher 2 = .ok (.iconst 0, 1) := by decide +kernel
theorem dX8_higher_3 : decode cX8_higher 3 = .ok (.istore 5, 2) := by decide +kernel
theorem dX8_higher_5 : decode cX8_higher 5 = .ok (.iload 5, 2) := by decide +kernel
theorem dX8_higher_7 : decode cX8_higher 7 = .ok (.lload_n 0, 1) := by decide +kernel
theorem dX8_higher_8 : decode cX8_higher 8 = .ok (.invokestatic 71, 3) := by decide +kernel
theorem dX8_higher_11 : decode cX8_higher 11 = .ok (.if_icmp .ge 25, 3) := by decide +kernel
theorem dX8_higher_14 : decode cX8_higher 14 = .ok (.lload_n 3, 1) := by decide +kernel
theorem dX8_higher_15 : decode cX8_higher 15 = .ok (.lload_n 0, 1) := by decide +kernel
theorem dX8_higher_16 : decode cX8_higher 16 = .ok (.iload 5, 2) := by decide +kernel
theorem dX8_higher_18 : decode cX8_higher 18 = .ok (.invokestatic 82, 3) := by decide +kernel
theorem dX8_higher_21 : decode cX8_higher 21 = .ok (.iload_n 2, 1) := by decide +kernel
theorem dX8_higher_22 : decode cX8_higher 22 = .ok (.iadd, 1) := by decide +kernel
theorem dX8_higher_23 : decode cX8_higher 23 = .ok (.bipush 16, 2) := by decide +kernel
theorem dX8_higher_25 : decode cX8_higher 25 = .ok (.irem, 1) := by decide +kernel
theorem dX8_higher_26 : decode cX8_higher 26 = .ok (.invokestatic 79, 3) := by decide +kernel
theorem dX8_higher_29 : decode cX8_higher 29 = .ok (.lstore_n 3, 1) := by decide +kernel
theorem dX8_higher_30 : decode cX8_higher 30 = .ok (.iinc 5 1, 3) := by decide +kernel
theorem dX8_higher_33 : decode cX8_higher 33 = .ok (.goto (-28), 3) := by decide +kernel
theorem dX8_higher_36 : decode cX8_higher 36 = .ok (.lload_n 3, 1) := by decide +kernel
theorem dX8_higher_37 : decode cX8_higher 37 = .ok (.lreturn, 1) := by decide +kernel
theorem dX8_becomes_0 : decode cX8_becomes 0 = .ok (.iload_n 0, 1) := by decide +kernel
theorem dX8_becomes_1 : decode cX8_becomes 1 = .ok (.tableswitch 81 1 5 #[35, 41, 47, 52, 61], 35) := by decide +kernel
theorem dX8_becomes_36 : decode cX8_becomes 36 = .ok (.lload_n 3, 1) := by decide +kernel
theorem dX8_becomes_37 : decode cX8_becomes 37 = .ok (.iload_n 1, 1) := by decide +kernel
theorem dX8_becomes_38 : decode cX8_becomes 38 = .ok (.invokestatic 86, 3) := by decide +kernel
theorem dX8_becomes_41 : decode cX8_becomes 41 = .ok (.lreturn, 1) := by decide +kernel
theorem dX8_becomes_42 : decode cX8_becomes 42 = .ok (.lload_n 3, 1) := by decide +kernel
theorem dX8_becomes_43 : decode cX8_becomes 43 = .ok (.iload_n 1, 1) := by decide +kernel
theorem dX8_becomes_44 : decode cX8_becomes 44 = .ok (.invokestatic 89, 3) := by decide +kernel
theorem dX8_becomes_47 : decode cX8_becomes 47 = .ok (.lreturn, 1) := by decide +kernel
theorem dX8_becomes_48 : decode cX8_becomes 48 = .ok (.lload_n 3, 1) := by decide +kernel
theorem dX8_becomes_49 : decode cX8_becomes 49 = .ok (.invokestatic 92, 3) := by decide +kernel
theorem dX8_becomes_52 : decode cX8_becomes 52 = .ok (.lreturn, 1) := by decide +kernel
theorem dX8_becomes_53 : decode cX8_becomes 53 = .ok (.lload_n 3, 1) := by decide +kernel
theorem dX8_becomes_54 : decode cX8_becomes 54 = .ok (.iload_n 1, 1) := by decide +kernel
theorem dX8_becomes_55 : decode cX8_becomes 55 = .ok (.invokestatic 86, 3) := by decide +kernel
theorem dX8_becomes_58 : decode cX8_becomes 58 = .ok (.invokestatic 96, 3) := by decide +kernel
theorem dX8_becomes_61 : decode cX8_becomes 61 = .ok (.lreturn, 1) := by decide +kernel
theorem dX8_becomes_62 : decode cX8_becomes 62 = .ok (.iload_n 2, 1) := by decide +kernel
theorem dX8_becomes_63 : decode cX8_becomes 63 = .ok (.iconst 4, 1) := by decide +kernel
theorem dX8_becomes_64 : decode cX8_becomes 64 = .ok (.irem, 1) := by decide +kernel
theorem dX8_becomes_65 : decode cX8_becomes 65 = .ok (.ifCond .ne 11, 3) := by decide +kernel
theorem dX8_becomes_68 : decode cX8_becomes 68 = .ok (.lload_n 3, 1) := by decide +kernel
theorem dX8_becomes_69 : decode cX8_becomes 69 = .ok (.iload_n 1, 1) := by decide +kernel
theorem dX8_becomes_70 : decode cX8_becomes 70 = .ok (.invokestatic 89, 3) := by decide +kernel
theorem dX8_becomes_73 : decode cX8_becomes 73 = .ok (.goto 8, 3) := by decide +kernel
theorem dX8_becomes_76 : decode cX8_becomes 76 = .ok (.lload_n 3, 1) := by decide +kernel
theorem dX8_becomes_77 : decode cX8_becomes 77 = .ok (.iload_n 1, 1) := by decide +kernel
theorem dX8_becomes_78 : decode cX8_becomes 78 = .ok (.invokestatic 99, 3) := by decide +kernel
theorem dX8_becomes_81 : decode cX8_becomes 81 = .ok (.lreturn, 1) := by decide +kernel
theorem dX8_becomes_82 : decode cX8_becomes 82 = .ok (.lload_n 3, 1) := by decide +kernel
theorem dX8_becomes_83 : decode cX8_becomes 83 = .ok (.lreturn, 1) := by decide +kernel
theorem dX8_begin_0 : decode cX8_begin 0 = .ok (.iconst 0, 1) := by decide +kernel
theorem dX8_begin_1 : decode cX8_begin 1 = .ok (.istore_n 2, 1) := by decide +kernel
theorem dX8_begin_2 : decode cX8_begin 2 = .ok (.iload_n 2, 1) := by decide +kernel
theorem dX8_begin_3 : decode cX8_begin 3 = .ok (.bipush 52, 2) := by decide +kernel
theorem dX8_begin_5 : decode cX8_begin 5 = .ok (.if_icmp .ge 13, 3) := by decide +kernel
theorem dX8_begin_8 : decode cX8_begin 8 = .ok (.aload_n 0, 1) := by decide +kernel
theorem dX8_begin_9 : decode cX8_begin 9 = .ok (.iload_n 2, 1) := by decide +kernel
theorem dX8_begin_10 : decode cX8_begin 10 = .ok (.iconst 0, 1) := by decide +kernel
theorem dX8_begin_11 : decode cX8_begin 11 = .ok (.iastore, 1) := by decide +kernel
theorem dX8_begin_12 : decode cX8_begin 12 = .ok (.iinc 2 1, 3) := by decide +kernel
theorem dX8_begin_15 : decode cX8_begin 15 = .ok (.goto (-13), 3) := by decide +kernel
theorem dX8_begin_18 : decode cX8_begin 18 = .ok (.aload_n 0, 1) := by decide +kernel
theorem dX8_begin_19 : decode cX8_begin 19 = .ok (.iconst 1, 1) := by decide +kernel
theorem dX8_begin_20 : decode cX8_begin 20 = .ok (.iload_n 1, 1) := by decide +kernel
theorem dX8_begin_21 : decode cX8_begin 21 = .ok (.iastore, 1) := by decide +kernel
theorem dX8_begin_22 : decode cX8_begin 22 = .ok (.return_, 1) := by decide +kernel
theorem dX8_bridges_0 : decode cX8_bridges 0 = .ok (.aload_n 0, 1) := by decide +kernel
theorem dX8_bridges_1 : decode cX8_bridges 1 = .ok (.getfield 7, 3) := by decide +kernel
theorem dX8_bridges_4 : decode cX8_bridges 4 = .ok (.iconst 0, 1) := by decide +kernel
theorem dX8_bridges_5 : decode cX8_bridges 5 = .ok (.iaload, 1) := by decide +kernel
theorem dX8_bridges_6 : decode cX8_bridges 6 = .ok (.ireturn, 1) := by decide +kernel
theorem dX8_isBridge_0 : decode cX8_isBridge 0 = .ok (.iload_n 1, 1) := by decide +kernel
theorem dX8_isBridge_1 : decode cX8_isBridge 1 = .ok (.i2l, 1) := by decide +kernel
theorem dX8_isBridge_2 : decode cX8_isBridge 2 = .ok (.lconst 0, 1) := by decide +kernel
theorem dX8_isBridge_3 : decode cX8_isBridge 3 = .ok (.aload_n 0, 1) := by decide +kernel
theorem dX8_isBridge_4 : decode cX8_isBridge 4 = .ok (.invokevirtual 102, 3) := by decide +kernel
theorem dX8_isBridge_7 : decode cX8_isBridge 7 = .ok (.iconst 1, 1) := by decide +kernel
theorem dX8_isBridge_8 : decode cX8_isBridge 8 = .ok (.isub, 1) := by decide +kernel
theorem dX8_isBridge_9 : decode cX8_isBridge 9 = .ok (.i2l, 1) := by decide +kernel
theorem dX8_isBridge_10 : decode cX8_isBridge 10 = .ok (.invokestatic 106, 3) := by decide +kernel
theorem dX8_isBridge_13 : decode cX8_isBridge 13 = .ok (.ireturn, 1) := by decide +kernel
theorem dX8_isPlace_0 : decode cX8_isPlace 0 = .ok (.iload_n 0, 1) := by decide +kernel
theorem dX8_isPlace_1 : decode cX8_isPlace 1 = .ok (.i2l, 1) := by decide +kernel
theorem dX8_isPlace_2 : decode cX8_isPlace 2 = .ok (.lconst 0, 1) := by decide +kernel
theorem dX8_isPlace_3 : decode cX8_isPlace 3 = .ok (.ldc2_w 110, 3) := by decide +kernel
theorem dX8_isPlace_6 : decode cX8_isPlace 6 = .ok (.invokestatic 106, 3) := by decide +kernel
theorem dX8_isPlace_9 : decode cX8_isPlace 9 = .ok (.ireturn, 1) := by decide +kernel
theorem dX8_isRow_0 : decode cX8_isRow 0 = .ok (.iload_n 0, 1) := by decide +kernel
theorem dX8_isRow_1 : decode cX8_isRow 1 = .ok (.i2l, 1) := by decide +kernel
theorem dX8_isRow_2 : decode cX8_isRow 2 = .ok (.lconst 0, 1) := by decide +kernel
theorem dX8_isRow_3 : decode cX8_isRow 3 = .ok (.ldc2_w 112, 3) := by decide +kernel
theorem dX8_isRow_6 : decode cX8_isRow 6 = .ok (.invokestatic 106, 3) := by decide +kernel
theorem dX8_isRow_9 : decode cX8_isRow 9 = .ok (.ireturn, 1) := by decide +kernel
theorem dX8_get_0 : decode cX8_get 0 = .ok (.aload_n 0, 1) := by decide +kernel
theorem dX8_get_1 : decode cX8_get 1 = .ok (.getfield 7, 3) := by decide +kernel
theorem dX8_get_4 : decode cX8_get 4 = .ok (.iconst 4, 1) := by decide +kernel
theorem dX8_get_5 : decode cX8_get 5 = .ok (.iconst 4, 1) := by decide +kernel
theorem dX8_get_6 : decode cX8_get 6 = .ok (.iload_n 1, 1) := by decide +kernel
theorem dX8_get_7 : decode cX8_get 7 = .ok (.imul, 1) := by decide +kernel
theorem dX8_get_8 : decode cX8_get 8 = .ok (.iadd, 1) := by decide +kernel
theorem dX8_get_9 : decode cX8_get 9 = .ok (.iload_n 2, 1) := by decide +kernel
theorem dX8_get_10 : decode cX8_get 10 = .ok (.iadd, 1) := by decide +kernel
theorem dX8_get_11 : decode cX8_get 11 = .ok (.iaload, 1) := by decide +kernel
theorem dX8_get_12 : decode cX8_get 12 = .ok (.ireturn, 1) := by decide +kernel
theorem dX8_river_0 : decode cX8_river 0 = .ok (.iload_n 1, 1) := by decide +kernel
theorem dX8_river_1 : decode cX8_river 1 = .ok (.i2l, 1) := by decide +kernel
theorem dX8_river_2 : decode cX8_river 2 = .ok (.lconst 0, 1) := by decide +kernel
theorem dX8_river_3 : decode cX8_river 3 = .ok (.ldc2_w 114, 3) := by decide +kernel
theorem dX8_river_6 : decode cX8_river 6 = .ok (.invokestatic 106, 3) := by decide +kernel
theorem dX8_river_9 : decode cX8_river 9 = .ok (.ifCond .ne 10, 3) := by decide +kernel
theorem dX8_river_12 : decode cX8_river 12 = .ok (.aload_n 0, 1) := by decide +kernel
theorem dX8_river_13 : decode cX8_river 13 = .ok (.bipush (-2), 2) := by decide +kernel
theorem dX8_river_15 : decode cX8_river 15 = .ok (.invokevirtual 116, 3) := by decide +kernel
theorem dX8_river_18 : decode cX8_river 18 = .ok (.ireturn, 1) := by decide +kernel
theorem dX8_river_19 : decode cX8_river 19 = .ok (.aload_n 0, 1) := by decide +kernel
theorem dX8_river_20 : decode cX8_river 20 = .ok (.invokevirtual 102, 3) := by decide +kernel
theorem dX8_river_23 : decode cX8_river 23 = .ok (.istore_n 2, 1) := by decide +kernel
theorem dX8_river_24 : decode cX8_river 24 = .ok (.aload_n 0, 1) := by decide +kernel
theorem dX8_river_25 : decode cX8_river 25 = .ok (.getfield 7, 3) := by decide +kernel
theorem dX8_river_28 : decode cX8_river 28 = .ok (.iload_n 1, 1) := by decide +kernel
theorem dX8_river_29 : decode cX8_river 29 = .ok (.invokestatic 120, 3) := by decide +kernel
theorem dX8_river_32 : decode cX8_river 32 = .ok (.iconst 0, 1) := by decide +kernel
theorem dX8_river_33 : decode cX8_river 33 = .ok (.istore_n 3, 1) := by decide +kernel
theorem dX8_river_34 : decode cX8_river 34 = .ok (.iload_n 3, 1) := by decide +kernel
theorem dX8_river_35 : decode cX8_river 35 = .ok (.iconst 4, 1) := by decide +kernel
theorem dX8_river_36 : decode cX8_river 36 = .ok (.if_icmp .ge 16, 3) := by decide +kernel
theorem dX8_river_39 : decode cX8_river 39 = .ok (.aload_n 0, 1) := by decide +kernel
theorem dX8_river_40 : decode cX8_river 40 = .ok (.getfield 16, 3) := by decide +kernel
theorem dX8_river_43 : decode cX8_river 43 = .ok (.iload_n 3, 1) := by decide +kernel
theorem dX8_river_44 : decode cX8_river 44 = .ok (.lconst 0, 1) := by decide +kernel
theorem dX8_river_45 : decode cX8_river 45 = .ok (.lastore, 1) := by decide +kernel
theorem dX8_river_46 : decode cX8_river 46 = .ok (.iinc 3 1, 3) := by decide +kernel
theorem dX8_river_49 : decode cX8_river 49 = .ok (.goto (-15), 3) := by decide +kernel
theorem dX8_river_52 : decode cX8_river 52 = .ok (.iload_n 2, 1) := by decide +kernel
theorem dX8_river_53 : decode cX8_river 53 = .ok (.ireturn, 1) := by decide +kernel
theorem dX8_layBridge_0 : decode cX8_layBridge 0 = .ok (.iconst 4, 1) := by decide +kernel
theorem dX8_layBridge_1 : decode cX8_layBridge 1 = .ok (.iconst 4, 1) := by decide +kernel
theorem dX8_layBridge_2 : decode cX8_layBridge 2 = .ok (.aload_n 0, 1) := by decide +kernel
theorem dX8_layBridge_3 : decode cX8_layBridge 3 = .ok (.iconst 0, 1) := by decide +kernel
theorem dX8_layBridge_4 : decode cX8_layBridge 4 = .ok (.iaload, 1) := by decide +kernel
theorem dX8_layBridge_5 : decode cX8_layBridge 5 = .ok (.imul, 1) := by decide +kernel
theorem dX8_layBridge_6 : decode cX8_layBridge 6 = .ok (.iadd, 1) := by decide +kernel
theorem dX8_layBridge_7 : decode cX8_layBridge 7 = .ok (.istore 5, 2) := by decide +kernel
theorem dX8_layBridge_9 : decode cX8_layBridge 9 = .ok (.aload_n 0, 1) := by decide +kernel
theorem dX8_layBridge_10 : decode cX8_layBridge 10 = .ok (.iload 5, 2) := by decide +kernel
theorem dX8_layBridge_12 : decode cX8_layBridge 12 = .ok (.iconst 0, 1) := by decide +kernel
theorem dX8_layBridge_13 : decode cX8_layBridge 13 = .ok (.iadd, 1) := by decide +kernel
theorem dX8_layBridge_14 : decode cX8_layBridge 14 = .ok (.iload_n 1, 1) := by decide +kernel
theorem dX8_layBridge_15 : decode cX8_layBridge 15 = .ok (.iastore, 1) := by decide +kernel
theorem dX8_layBridge_16 : decode cX8_layBridge 16 = .ok (.aload_n 0, 1) := by decide +kernel
theorem dX8_layBridge_17 : decode cX8_layBridge 17 = .ok (.iload 5, 2) := by decide +kernel
theorem dX8_layBridge_19 : decode cX8_layBridge 19 = .ok (.iconst 1, 1) := by decide +kernel
theorem dX8_layBridge_20 : decode cX8_layBridge 20 = .ok (.iadd, 1) := by decide +kernel
theorem dX8_layBridge_21 : decode cX8_layBridge 21 = .ok (.iload_n 2, 1) := by decide +kernel
theorem dX8_layBridge_22 : decode cX8_layBridge 22 = .ok (.iastore, 1) := by decide +kernel
theorem dX8_layBridge_23 : decode cX8_layBridge 23 = .ok (.aload_n 0, 1) := by decide +kernel
theorem dX8_layBridge_24 : decode cX8_layBridge 24 = .ok (.iload 5, 2) := by decide +kernel
theorem dX8_layBridge_26 : decode cX8_layBridge 26 = .ok (.iconst 2, 1) := by decide +kernel
theorem dX8_layBridge_27 : decode cX8_layBridge 27 = .ok (.iadd, 1) := by decide +kernel
theorem dX8_layBridge_28 : decode cX8_layBridge 28 = .ok (.iload_n 3, 1) := by decide +kernel
theorem dX8_layBridge_29 : decode cX8_layBridge 29 = .ok (.iastore, 1) := by decide +kernel
theorem dX8_layBridge_30 : decode cX8_layBridge 30 = .ok (.aload_n 0, 1) := by decide +kernel
theorem dX8_layBridge_31 : decode cX8_layBridge 31 = .ok (.iload 5, 2) := by decide +kernel
theorem dX8_layBridge_33 : decode cX8_layBridge 33 = .ok (.iconst 3, 1) := by decide +kernel
theorem dX8_layBridge_34 : decode cX8_layBridge 34 = .ok (.iadd, 1) := by decide +kernel
theorem dX8_layBridge_35 : decode cX8_layBridge 35 = .ok (.iload 4, 2) := by decide +kernel
theorem dX8_layBridge_37 : decode cX8_layBridge 37 = .ok (.iastore, 1) := by decide +kernel
theorem dX8_layBridge_38 : decode cX8_layBridge 38 = .ok (.aload_n 0, 1) := by decide +kernel
theorem dX8_layBridge_39 : decode cX8_layBridge 39 = .ok (.iconst 0, 1) := by decide +kernel
theorem dX8_layBridge_40 : decode cX8_layBridge 40 = .ok (.dup2, 1) := by decide +kernel
theorem dX8_layBridge_41 : decode cX8_layBridge 41 = .ok (.iaload, 1) := by decide +kernel
theorem dX8_layBridge_42 : decode cX8_layBridge 42 = .ok (.iconst 1, 1) := by decide +kernel
theorem dX8_layBridge_43 : decode cX8_layBridge 43 = .ok (.iadd, 1) := by decide +kernel
theorem dX8_layBridge_44 : decode cX8_layBridge 44 = .ok (.iastore, 1) := by decide +kernel
theorem dX8_layBridge_45 : decode cX8_layBridge 45 = .ok (.return_, 1) := by decide +kernel
theorem dX8_bridge_0 : decode cX8_bridge 0 = .ok (.iload_n 1, 1) := by decide +kernel
theorem dX8_bridge_1 : decode cX8_bridge 1 = .ok (.invokestatic 124, 3) := by decide +kernel
theorem dX8_bridge_4 : decode cX8_bridge 4 = .ok (.ifCond .eq 40, 3) := by decide +kernel
theorem dX8_bridge_7 : decode cX8_bridge 7 = .ok (.iload_n 2, 1) := by decide +kernel
theorem dX8_bridge_8 : decode cX8_bridge 8 = .ok (.invokestatic 124, 3) := by decide +kernel
theorem dX8_bridge_11 : decode cX8_bridge 11 = .ok (.ifCond .eq 33, 3) := by decide +kernel
theorem dX8_bridge_14 : decode cX8_bridge 14 = .ok (.iload_n 1, 1) := by decide +kernel
theorem dX8_bridge_15 : decode cX8_bridge 15 = .ok (.iload_n 2, 1) := by decide +kernel
theorem dX8_bridge_16 : decode cX8_bridge 16 = .ok (.if_icmp .eq 28, 3) := by decide +kernel
theorem dX8_bridge_19 : decode cX8_bridge 19 = .ok (.iload_n 3, 1) := by decide +kernel
theorem dX8_bridge_20 : decode cX8_bridge 20 = .ok (.i2l, 1) := by decide +kernel
theorem dX8_bridge_21 : decode cX8_bridge 21 = .ok (.lconst 0, 1) := by decide +kernel
theorem dX8_bridge_22 : decode cX8_bridge 22 = .ok (.ldc2_w 110, 3) := by decide +kernel
theorem dX8_bridge_25 : decode cX8_bridge 25 = .ok (.invokestatic 106, 3) := by decide +kernel
theorem dX8_bridge_28 : decode cX8_bridge 28 = .ok (.ifCond .eq 16, 3) := by decide +kernel
theorem dX8_bridge_31 : decode cX8_bridge 31 = .ok (.iload 4, 2) := by decide +kernel
theorem dX8_bridge_33 : decode cX8_bridge 33 = .ok (.i2l, 1) := by decide +kernel
theorem dX8_bridge_34 : decode cX8_bridge 34 = .ok (.lconst 0, 1) := by decide +kernel
theorem dX8_bridge_35 : decode cX8_bridge 35 = .ok (.ldc2_w 67, 3) := by decide +kernel
theorem dX8_bridge_38 : decode cX8_bridge 38 = .ok (.invokestatic 106, 3) := by decide +kernel
theorem dX8_bridge_41 : decode cX8_bridge 41 = .ok (.ifCond .ne 10, 3) := by decide +kernel
theorem dX8_bridge_44 : decode cX8_bridge 44 = .ok (.aload_n 0, 1) := by decide +kernel
theorem dX8_bridge_45 : decode cX8_bridge 45 = .ok (.bipush (-2), 2) := by decide +kernel
theorem dX8_bridge_47 : decode cX8_bridge 47 = .ok (.invokevirtual 116, 3) := by decide +kernel
theorem dX8_bridge_50 : decode cX8_bridge 50 = .ok (.ireturn, 1) := by decide +kernel
theorem dX8_bridge_51 : decode cX8_bridge 51 = .ok (.aload_n 0, 1) := by decide +kernel
theorem dX8_bridge_52 : decode cX8_bridge 52 = .ok (.invokevirtual 102, 3) := by decide +kernel
theorem dX8_bridge_55 : decode cX8_bridge 55 = .ok (.bipush 8, 2) := by decide +kernel
theorem dX8_bridge_57 : decode cX8_bridge 57 = .ok (.if_icmp .ne 8, 3) := by decide +kernel
theorem dX8_bridge_60 : decode cX8_bridge 60 = .ok (.aload_n 0, 1) := by decide +kernel
theorem dX8_bridge_61 : decode cX8_bridge 61 = .ok (.invokevirtual 128, 3) := by decide +kernel
theorem dX8_bridge_64 : decode cX8_bridge 64 = .ok (.ireturn, 1) := by decide +kernel
theorem dX8_bridge_65 : decode cX8_bridge 65 = .ok (.aload_n 0, 1) := by decide +kernel
theorem dX8_bridge_66 : decode cX8_bridge 66 = .ok (.getfield 7, 3) := by decide +kernel
theorem dX8_bridge_69 : decode cX8_bridge 69 = .ok (.iload_n 1, 1) := by decide +kernel
theorem dX8_bridge_70 : decode cX8_bridge 70 = .ok (.iload_n 2, 1) := by decide +kernel
theorem dX8_bridge_71 : decode cX8_bridge 71 = .ok (.iload_n 3, 1) := by decide +kernel
theorem dX8_bridge_72 : decode cX8_bridge 72 = .ok (.iload 4, 2) := by decide +kernel
theorem dX8_bridge_74 : decode cX8_bridge 74 = .ok (.invokestatic 131, 3) := by decide +kernel
theorem dX8_bridge_77 : decode cX8_bridge 77 = .ok (.aload_n 0, 1) := by decide +kernel
theorem dX8_bridge_78 : decode cX8_bridge 78 = .ok (.getfield 7, 3) := by decide +kernel
theorem dX8_bridge_81 : decode cX8_bridge 81 = .ok (.iconst 3, 1) := by decide +kernel
theorem dX8_bridge_82 : decode cX8_bridge 82 = .ok (.iconst 0, 1) := by decide +kernel
theorem dX8_bridge_83 : decode cX8_bridge 83 = .ok (.iastore, 1) := by decide +kernel
theorem dX8_bridge_84 : decode cX8_bridge 84 = .ok (.aload_n 0, 1) := by decide +kernel
theorem dX8_bridge_85 : decode cX8_bridge 85 = .ok (.invokevirtual 102, 3) := by decide +kernel
theorem dX8_bridge_88 : decode cX8_bridge 88 = .ok (.iconst 1, 1) := by decide +kernel
theorem dX8_bridge_89 : decode cX8_bridge 89 = .ok (.isub, 1) := by decide +kernel
theorem dX8_bridge_90 : decode cX8_bridge 90 = .ok (.ireturn, 1) := by decide +kernel
theorem dX8_keep_0 : decode cX8_keep 0 = .ok (.aload_n 0, 1) := by decide +kernel
theorem dX8_keep_1 : decode cX8_keep 1 = .ok (.getfield 7, 3) := by decide +kernel
theorem dX8_keep_4 : decode cX8_keep 4 = .ok (.iconst 3, 1) := by decide +kernel
theorem dX8_keep_5 : decode cX8_keep 5 = .ok (.iaload, 1) := by decide +kernel
theorem dX8_keep_6 : decode cX8_keep 6 = .ok (.bipush 8, 2) := by decide +kernel
theorem dX8_keep_8 : decode cX8_keep 8 = .ok (.if_icmp .ne 43, 3) := by decide +kernel
theorem dX8_keep_11 : decode cX8_keep 11 = .ok (.iconst 0, 1) := by decide +kernel
theorem dX8_keep_12 : decode cX8_keep 12 = .ok (.istore_n 1, 1) := by decide +kernel
theorem dX8_keep_13 : decode cX8_keep 13 = .ok (.iload_n 1, 1) := by decide +kernel
theorem dX8_keep_14 : decode cX8_keep 14 = .ok (.bipush 119, 2) := by decide +kernel
theorem dX8_keep_16 : decode cX8_keep 16 = .ok (.if_icmp .ge 27, 3) := by decide +kernel
theorem dX8_keep_19 : decode cX8_keep 19 = .ok (.aload_n 0, 1) := by decide +kernel
theorem dX8_keep_20 : decode cX8_keep 20 = .ok (.getfield 7, 3) := by decide +kernel
theorem dX8_keep_23 : decode cX8_keep 23 = .ok (.bipush 52, 2) := by decide +kernel
theorem dX8_keep_25 : decode cX8_keep 25 = .ok (.iload_n 1, 1) := by decide +kernel
theorem dX8_keep_26 : decode cX8_keep 26 = .ok (.iadd, 1) := by decide +kernel
theorem dX8_keep_27 : decode cX8_keep 27 = .ok (.aload_n 0, 1) := by decide +kernel
theorem dX8_keep_28 : decode cX8_keep 28 = .ok (.getfield 7, 3) := by decide +kernel
theorem dX8_keep_31 : decode cX8_keep 31 = .ok (.bipush 69, 2) := by decide +kernel
theorem dX8_keep_33 : decode cX8_keep 33 = .ok (.iload_n 1, 1) := by decide +kernel
theorem dX8_keep_34 : decode cX8_keep 34 = .ok (.iadd, 1) := by decide +kernel
theorem dX8_keep_35 : decode cX8_keep 35 = .ok (.iaload, 1) := by decide +kernel
theorem dX8_keep_36 : decode cX8_keep 36 = .ok (.iastore, 1) := by decide +kernel
theorem dX8_keep_37 : decode cX8_keep 37 = .ok (.iinc 1 1, 3) := by decide +kernel
theorem dX8_keep_40 : decode cX8_keep 40 = .ok (.goto (-27), 3) := by decide +kernel
theorem dX8_keep_43 : decode cX8_keep 43 = .ok (.aload_n 0, 1) := by decide +kernel
theorem dX8_keep_44 : decode cX8_keep 44 = .ok (.getfield 7, 3) := by decide +kernel
theorem dX8_keep_47 : decode cX8_keep 47 = .ok (.iconst 3, 1) := by decide +kernel
theorem dX8_keep_48 : decode cX8_keep 48 = .ok (.bipush 7, 2) := by decide +kernel
theorem dX8_keep_50 : decode cX8_keep 50 = .ok (.iastore, 1) := by decide +kernel
theorem dX8_keep_51 : decode cX8_keep 51 = .ok (.bipush 52, 2) := by decide +kernel
theorem dX8_keep_53 : decode cX8_keep 53 = .ok (.bipush 17, 2) := by decide +kernel
theorem dX8_keep_55 : decode cX8_keep 55 = .ok (.aload_n 0, 1) := by decide +kernel
theorem dX8_keep_56 : decode cX8_keep 56 = .ok (.getfield 7, 3) := by decide +kernel
theorem dX8_keep_59 : decode cX8_keep 59 = .ok (.iconst 3, 1) := by decide +kernel
theorem dX8_keep_60 : decode cX8_keep 60 = .ok (.iaload, 1) := by decide +kernel
theorem dX8_keep_61 : decode cX8_keep 61 = .ok (.imul, 1) := by decide +kernel
theorem dX8_keep_62 : decode cX8_keep 62 = .ok (.iadd, 1) := by decide +kernel
theorem dX8_keep_63 : decode cX8_keep 63 = .ok (.istore_n 1, 1) := by decide +kernel
theorem dX8_keep_64 : decode cX8_keep 64 = .ok (.iconst 0, 1) := by decide +kernel
theorem dX8_keep_65 : decode cX8_keep 65 = .ok (.istore_n 2, 1) := by decide +kernel
theorem dX8_keep_66 : decode cX8_keep 66 = .ok (.iload_n 2, 1) := by decide +kernel
theorem dX8_keep_67 : decode cX8_keep 67 = .ok (.bipush 8, 2) := by decide +kernel
theorem dX8_keep_69 : decode cX8_keep 69 = .ok (.if_icmp .ge 43, 3) := by decide +kernel
theorem dX8_keep_72 : decode cX8_keep 72 = .ok (.aload_n 0, 1) := by decide +kernel
theorem dX8_keep_73 : decode cX8_keep 73 = .ok (.getfield 7, 3) := by decide +kernel
theorem dX8_keep_76 : decode cX8_keep 76 = .ok (.iload_n 1, 1) := by decide +kernel
theorem dX8_keep_77 : decode cX8_keep 77 = .ok (.iconst 2, 1) := by decide +kernel
theorem dX8_keep_78 : decode cX8_keep 78 = .ok (.iload_n 2, 1) := by decide +kernel
theorem dX8_keep_79 : decode cX8_keep 79 = .ok (.imul, 1) := by decide +kernel
theorem dX8_keep_80 : decode cX8_keep 80 = .ok (.iadd, 1) := by decide +kernel
theorem dX8_keep_81 : decode cX8_keep 81 = .ok (.aload_n 0, 1) := by decide +kernel
theorem dX8_keep_82 : decode cX8_keep 82 = .ok (.iload_n 2, 1) := by decide +kernel
theorem dX8_keep_83 : decode cX8_keep 83 = .ok (.iconst 2, 1) := by decide +kernel
theorem dX8_keep_84 : decode cX8_keep 84 = .ok (.invokevirtual 135, 3) := by decide +kernel
theorem dX8_keep_87 : decode cX8_keep 87 = .ok (.iastore, 1) := by decide +kernel
theorem dX8_keep_88 : decode cX8_keep 88 = .ok (.aload_n 0, 1) := by decide +kernel
theorem dX8_keep_89 : decode cX8_keep 89 = .ok (.getfield 7, 3) := by decide +kernel
theorem dX8_keep_92 : decode cX8_keep 92 = .ok (.iload_n 1, 1) := by decide +kernel
theorem dX8_keep_93 : decode cX8_keep 93 = .ok (.iconst 2, 1) := by decide +kernel
theorem dX8_keep_94 : decode cX8_keep 94 = .ok (.iload_n 2, 1) := by decide +kernel
theorem dX8_keep_95 : decode cX8_keep 95 = .ok (.imul, 1) := by decide +kernel
theorem dX8_keep_96 : decode cX8_keep 96 = .ok (.iadd, 1) := by decide +kernel
theorem dX8_keep_97 : decode cX8_keep 97 = .ok (.iconst 1, 1) := by decide +kernel
theorem dX8_keep_98 : decode cX8_keep 98 = .ok (.iadd, 1) := by decide +kernel
theorem dX8_keep_99 : decode cX8_keep 99 = .ok (.aload_n 0, 1) := by decide +kernel
theorem dX8_keep_100 : decode cX8_keep 100 = .ok (.iload_n 2, 1) := by decide +kernel
theorem dX8_keep_101 : decode cX8_keep 101 = .ok (.iconst 3, 1) := by decide +kernel
theorem dX8_keep_102 : decode cX8_keep 102 = .ok (.invokevirtual 135, 3) := by decide +kernel
theorem dX8_keep_105 : decode cX8_keep 105 = .ok (.iastore, 1) := by decide +kernel
theorem dX8_keep_106 : decode cX8_keep 106 = .ok (.iinc 2 1, 3) := by decide +kernel
theorem dX8_keep_109 : decode cX8_keep 109 = .ok (.goto (-43), 3) := by decide +kernel
theorem dX8_keep_112 : decode cX8_keep 112 = .ok (.aload_n 0, 1) := by decide +kernel
theorem dX8_keep_113 : decode cX8_keep 113 = .ok (.getfield 7, 3) := by decide +kernel
theorem dX8_keep_116 : decode cX8_keep 116 = .ok (.iload_n 1, 1) := by decide +kernel
theorem dX8_keep_117 : decode cX8_keep 117 = .ok (.bipush 16, 2) := by decide +kernel
theorem dX8_keep_119 : decode cX8_keep 119 = .ok (.iadd, 1) := by decide +kernel
theorem dX8_keep_120 : decode cX8_keep 120 = .ok (.aload_n 0, 1) := by decide +kernel
theorem dX8_keep_121 : decode cX8_keep 121 = .ok (.getfield 7, 3) := by decide +kernel
theorem dX8_keep_124 : decode cX8_keep 124 = .ok (.iconst 1, 1) := by decide +kernel
theorem dX8_keep_125 : decode cX8_keep 125 = .ok (.iaload, 1) := by decide +kernel
theorem dX8_keep_126 : decode cX8_keep 126 = .ok (.iastore, 1) := by decide +kernel
theorem dX8_keep_127 : decode cX8_keep 127 = .ok (.aload_n 0, 1) := by decide +kernel
theorem dX8_keep_128 : decode cX8_keep 128 = .ok (.getfield 7, 3) := by decide +kernel
theorem dX8_keep_131 : decode cX8_keep 131 = .ok (.iconst 3, 1) := by decide +kernel
theorem dX8_keep_132 : decode cX8_keep 132 = .ok (.dup2, 1) := by decide +kernel
theorem dX8_keep_133 : decode cX8_keep 133 = .ok (.iaload, 1) := by decide +kernel
theorem dX8_keep_134 : decode cX8_keep 134 = .ok (.iconst 1, 1) := by decide +kernel
theorem dX8_keep_135 : decode cX8_keep 135 = .ok (.iadd, 1) := by decide +kernel
theorem dX8_keep_136 : decode cX8_keep 136 = .ok (.iastore, 1) := by decide +kernel
theorem dX8_keep_137 : decode cX8_keep 137 = .ok (.return_, 1) := by decide +kernel
theorem dX8_rule_0 : decode cX8_rule 0 = .ok (.aload_n 0, 1) := by decide +kernel
theorem dX8_rule_1 : decode cX8_rule 1 = .ok (.iload_n 1, 1) := by decide +kernel
theorem dX8_rule_2 : decode cX8_rule 2 = .ok (.invokevirtual 139, 3) := by decide +kernel
theorem dX8_rule_5 : decode cX8_rule 5 = .ok (.ifCond .eq 27, 3) := by decide +kernel
theorem dX8_rule_8 : decode cX8_rule 8 = .ok (.iload_n 2, 1) := by decide +kernel
theorem dX8_rule_9 : decode cX8_rule 9 = .ok (.i2l, 1) := by decide +kernel
theorem dX8_rule_10 : decode cX8_rule 10 = .ok (.lconst 0, 1) := by decide +kernel
theorem dX8_rule_11 : decode cX8_rule 11 = .ok (.ldc2_w 110, 3) := by decide +kernel
theorem dX8_rule_14 : decode cX8_rule 14 = .ok (.invokestatic 106, 3) := by decide +kernel
theorem dX8_rule_17 : decode cX8_rule 17 = .ok (.ifCond .eq 15, 3) := by decide +kernel
theorem dX8_rule_20 : decode cX8_rule 20 = .ok (.iload_n 3, 1) := by decide +kernel
theorem dX8_rule_21 : decode cX8_rule 21 = .ok (.i2l, 1) := by decide +kernel
theorem dX8_rule_22 : decode cX8_rule 22 = .ok (.lconst 0, 1) := by decide +kernel
theorem dX8_rule_23 : decode cX8_rule 23 = .ok (.ldc2_w 67, 3) := by decide +kernel
theorem dX8_rule_26 : decode cX8_rule 26 = .ok (.invokestatic 106, 3) := by decide +kernel
theorem dX8_rule_29 : decode cX8_rule 29 = .ok (.ifCond .ne 10, 3) := by decide +kernel
theorem dX8_rule_32 : decode cX8_rule 32 = .ok (.aload_n 0, 1) := by decide +kernel
theorem dX8_rule_33 : decode cX8_rule 33 = .ok (.bipush (-2), 2) := by decide +kernel
theorem dX8_rule_35 : decode cX8_rule 35 = .ok (.invokevirtual 116, 3) := by decide +kernel
theorem dX8_rule_38 : decode cX8_rule 38 = .ok (.ireturn, 1) := by decide +kernel
theorem dX8_rule_39 : decode cX8_rule 39 = .ok (.bipush 16, 2) := by decide +kernel
theorem dX8_rule_41 : decode cX8_rule 41 = .ok (.aload_n 0, 1) := by decide +kernel
theorem dX8_rule_42 : decode cX8_rule 42 = .ok (.iload_n 1, 1) := by decide +kernel
theorem dX8_rule_43 : decode cX8_rule 43 = .ok (.iconst 2, 1) := by decide +kernel
theorem dX8_rule_44 : decode cX8_rule 44 = .ok (.invokevirtual 135, 3) := by decide +kernel
theorem dX8_rule_47 : decode cX8_rule 47 = .ok (.imul, 1) := by decide +kernel
theorem dX8_rule_48 : decode cX8_rule 48 = .ok (.aload_n 0, 1) := by decide +kernel
theorem dX8_rule_49 : decode cX8_rule 49 = .ok (.iload_n 1, 1) := by decide +kernel
theorem dX8_rule_50 : decode cX8_rule 50 = .ok (.iconst 3, 1) := by decide +kernel
theorem dX8_rule_51 : decode cX8_rule 51 = .ok (.invokevirtual 135, 3) := by decide +kernel
theorem dX8_rule_54 : decode cX8_rule 54 = .ok (.iadd, 1) := by decide +kernel
theorem dX8_rule_55 : decode cX8_rule 55 = .ok (.istore 4, 2) := by decide +kernel
theorem dX8_rule_57 : decode cX8_rule 57 = .ok (.aload_n 0, 1) := by decide +kernel
theorem dX8_rule_58 : decode cX8_rule 58 = .ok (.invokevirtual 142, 3) := by decide +kernel
theorem dX8_rule_61 : decode cX8_rule 61 = .ok (.aload_n 0, 1) := by decide +kernel
theorem dX8_rule_62 : decode cX8_rule 62 = .ok (.getfield 7, 3) := by decide +kernel
theorem dX8_rule_65 : decode cX8_rule 65 = .ok (.iconst 4, 1) := by decide +kernel
theorem dX8_rule_66 : decode cX8_rule 66 = .ok (.iconst 4, 1) := by decide +kernel
theorem dX8_rule_67 : decode cX8_rule 67 = .ok (.iload_n 1, 1) := by decide +kernel
theorem dX8_rule_68 : decode cX8_rule 68 = .ok (.imul, 1) := by decide +kernel
theorem dX8_rule_69 : decode cX8_rule 69 = .ok (.iadd, 1) := by decide +kernel
theorem dX8_rule_70 : decode cX8_rule 70 = .ok (.iconst 2, 1) := by decide +kernel
theorem dX8_rule_71 : decode cX8_rule 71 = .ok (.iadd, 1) := by decide +kernel
theorem dX8_rule_72 : decode cX8_rule 72 = .ok (.iload_n 2, 1) := by decide +kernel
theorem dX8_rule_73 : decode cX8_rule 73 = .ok (.iastore, 1) := by decide +kernel
theorem dX8_rule_74 : decode cX8_rule 74 = .ok (.aload_n 0, 1) := by decide +kernel
theorem dX8_rule_75 : decode cX8_rule 75 = .ok (.getfield 7, 3) := by decide +kernel
theorem dX8_rule_78 : decode cX8_rule 78 = .ok (.iconst 4, 1) := by decide +kernel
theorem dX8_rule_79 : decode cX8_rule 79 = .ok (.iconst 4, 1) := by decide +kernel
theorem dX8_rule_80 : decode cX8_rule 80 = .ok (.iload_n 1, 1) := by decide +kernel
theorem dX8_rule_81 : decode cX8_rule 81 = .ok (.imul, 1) := by decide +kernel
theorem dX8_rule_82 : decode cX8_rule 82 = .ok (.iadd, 1) := by decide +kernel
theorem dX8_rule_83 : decode cX8_rule 83 = .ok (.iconst 3, 1) := by decide +kernel
theorem dX8_rule_84 : decode cX8_rule 84 = .ok (.iadd, 1) := by decide +kernel
theorem dX8_rule_85 : decode cX8_rule 85 = .ok (.iload_n 3, 1) := by decide +kernel
theorem dX8_rule_86 : decode cX8_rule 86 = .ok (.iastore, 1) := by decide +kernel
theorem dX8_rule_87 : decode cX8_rule 87 = .ok (.iload 4, 2) := by decide +kernel
theorem dX8_rule_89 : decode cX8_rule 89 = .ok (.ireturn, 1) := by decide +kernel
theorem dX8_month_0 : decode cX8_month 0 = .ok (.iload_n 1, 1) := by decide +kernel
theorem dX8_month_1 : decode cX8_month 1 = .ok (.i2l, 1) := by decide +kernel
theorem dX8_month_2 : decode cX8_month 2 = .ok (.lconst 1, 1) := by decide +kernel
theorem dX8_month_3 : decode cX8_month 3 = .ok (.ldc2_w 114, 3) := by decide +kernel
theorem dX8_month_6 : decode cX8_month 6 = .ok (.invokestatic 106, 3) := by decide +kernel
theorem dX8_month_9 : decode cX8_month 9 = .ok (.ifCond .ne 10, 3) := by decide +kernel
theorem dX8_month_12 : decode cX8_month 12 = .ok (.aload_n 0, 1) := by decide +kernel
theorem dX8_month_13 : decode cX8_month 13 = .ok (.bipush (-2), 2) := by decide +kernel
theorem dX8_month_15 : decode cX8_month 15 = .ok (.invokevirtual 116, 3) := by decide +kernel
theorem dX8_month_18 : decode cX8_month 18 = .ok (.ireturn, 1) := by decide +kernel
theorem dX8_month_19 : decode cX8_month 19 = .ok (.aload_n 0, 1) := by decide +kernel
theorem dX8_month_20 : decode cX8_month 20 = .ok (.invokevirtual 142, 3) := by decide +kernel
theorem dX8_month_23 : decode cX8_month 23 = .ok (.aload_n 0, 1) := by decide +kernel
theorem dX8_month_24 : decode cX8_month 24 = .ok (.getfield 7, 3) := by decide +kernel
theorem dX8_month_27 : decode cX8_month 27 = .ok (.iconst 1, 1) := by decide +kernel
theorem dX8_month_28 : decode cX8_month 28 = .ok (.aload_n 0, 1) := by decide +kernel
theorem dX8_month_29 : decode cX8_month 29 = .ok (.getfield 7, 3) := by decide +kernel
theorem dX8_month_32 : decode cX8_month 32 = .ok (.iconst 1, 1) := by decide +kernel
theorem dX8_month_33 : decode cX8_month 33 = .ok (.iaload, 1) := by decide +kernel
theorem dX8_month_34 : decode cX8_month 34 = .ok (.iload_n 1, 1) := by decide +kernel
theorem dX8_month_35 : decode cX8_month 35 = .ok (.iadd, 1) := by decide +kernel
theorem dX8_month_36 : decode cX8_month 36 = .ok (.bipush 12, 2) := by decide +kernel
theorem dX8_month_38 : decode cX8_month 38 = .ok (.irem, 1) := by decide +kernel
theorem dX8_month_39 : decode cX8_month 39 = .ok (.iastore, 1) := by decide +kernel
theorem dX8_month_40 : decode cX8_month 40 = .ok (.aload_n 0, 1) := by decide +kernel
theorem dX8_month_41 : decode cX8_month 41 = .ok (.getfield 7, 3) := by decide +kernel
theorem dX8_month_44 : decode cX8_month 44 = .ok (.iconst 1, 1) := by decide +kernel
theorem dX8_month_45 : decode cX8_month 45 = .ok (.iaload, 1) := by decide +kernel
theorem dX8_month_46 : decode cX8_month 46 = .ok (.ireturn, 1) := by decide +kernel
theorem dX8_undo_0 : decode cX8_undo 0 = .ok (.aload_n 0, 1) := by decide +kernel
theorem dX8_undo_1 : decode cX8_undo 1 = .ok (.getfield 7, 3) := by decide +kernel
theorem dX8_undo_4 : decode cX8_undo 4 = .ok (.iconst 3, 1) := by decide +kernel
theorem dX8_undo_5 : decode cX8_undo 5 = .ok (.iaload, 1) := by decide +kernel
theorem dX8_undo_6 : decode cX8_undo 6 = .ok (.ifCond .ne 8, 3) := by decide +kernel
theorem dX8_undo_9 : decode cX8_undo 9 = .ok (.aload_n 0, 1) := by decide +kernel
theorem dX8_undo_10 : decode cX8_undo 10 = .ok (.invokevirtual 145, 3) := by decide +kernel
theorem dX8_undo_13 : decode cX8_undo 13 = .ok (.ireturn, 1) := by decide +kernel
theorem dX8_undo_14 : decode cX8_undo 14 = .ok (.aload_n 0, 1) := by decide +kernel
theorem dX8_undo_15 : decode cX8_undo 15 = .ok (.getfield 7, 3) := by decide +kernel
theorem dX8_undo_18 : decode cX8_undo 18 = .ok (.iconst 3, 1) := by decide +kernel
theorem dX8_undo_19 : decode cX8_undo 19 = .ok (.dup2, 1) := by decide +kernel
theorem dX8_undo_20 : decode cX8_undo 20 = .ok (.iaload, 1) := by decide +kernel
theorem dX8_undo_21 : decode cX8_undo 21 = .ok (.iconst 1, 1) := by decide +kernel
theorem dX8_undo_22 : decode cX8_undo 22 = .ok (.isub, 1) := by decide +kernel
theorem dX8_undo_23 : decode cX8_undo 23 = .ok (.iastore, 1) := by decide +kernel
theorem dX8_undo_24 : decode cX8_undo 24 = .ok (.bipush 52, 2) := by decide +kernel
theorem dX8_undo_26 : decode cX8_undo 26 = .ok (.bipush 17, 2) := by decide +kernel
theorem dX8_undo_28 : decode cX8_undo 28 = .ok (.aload_n 0, 1) := by decide +kernel
theorem dX8_undo_29 : decode cX8_undo 29 = .ok (.getfield 7, 3) := by decide +kernel
theorem dX8_undo_32 : decode cX8_undo 32 = .ok (.iconst 3, 1) := by decide +kernel
theorem dX8_undo_33 : decode cX8_undo 33 = .ok (.iaload, 1) := by decide +kernel
theorem dX8_undo_34 : decode cX8_undo 34 = .ok (.imul, 1) := by decide +kernel
theorem dX8_undo_35 : decode cX8_undo 35 = .ok (.iadd, 1) := by decide +kernel
theorem dX8_undo_36 : decode cX8_undo 36 = .ok (.istore_n 1, 1) := by decide +kernel
theorem dX8_undo_37 : decode cX8_undo 37 = .ok (.iconst 0, 1) := by decide +kernel
theorem dX8_undo_38 : decode cX8_undo 38 = .ok (.istore_n 2, 1) := by decide +kernel
theorem dX8_undo_39 : decode cX8_undo 39 = .ok (.iload_n 2, 1) := by decide +kernel
theorem dX8_undo_40 : decode cX8_undo 40 = .ok (.bipush 8, 2) := by decide +kernel
theorem dX8_undo_42 : decode cX8_undo 42 = .ok (.if_icmp .ge 55, 3) := by decide +kernel
theorem dX8_undo_45 : decode cX8_undo 45 = .ok (.aload_n 0, 1) := by decide +kernel
theorem dX8_undo_46 : decode cX8_undo 46 = .ok (.getfield 7, 3) := by decide +kernel
theorem dX8_undo_49 : decode cX8_undo 49 = .ok (.iconst 4, 1) := by decide +kernel
theorem dX8_undo_50 : decode cX8_undo 50 = .ok (.iconst 4, 1) := by decide +kernel
theorem dX8_undo_51 : decode cX8_undo 51 = .ok (.iload_n 2, 1) := by decide +kernel
theorem dX8_undo_52 : decode cX8_undo 52 = .ok (.imul, 1) := by decide +kernel
theorem dX8_undo_53 : decode cX8_undo 53 = .ok (.iadd, 1) := by decide +kernel
theorem dX8_undo_54 : decode cX8_undo 54 = .ok (.iconst 2, 1) := by decide +kernel
theorem dX8_undo_55 : decode cX8_undo 55 = .ok (.iadd, 1) := by decide +kernel
theorem dX8_undo_56 : decode cX8_undo 56 = .ok (.aload_n 0, 1) := by decide +kernel
theorem dX8_undo_57 : decode cX8_undo 57 = .ok (.getfield 7, 3) := by decide +kernel
theorem dX8_undo_60 : decode cX8_undo 60 = .ok (.iload_n 1, 1) := by decide +kernel
theorem dX8_undo_61 : decode cX8_undo 61 = .ok (.iconst 2, 1) := by decide +kernel
theorem dX8_undo_62 : decode cX8_undo 62 = .ok (.iload_n 2, 1) := by decide +kernel
theorem dX8_undo_63 : decode cX8_undo 63 = .ok (.imul, 1) := by decide +kernel
theorem dX8_undo_64 : decode cX8_undo 64 = .ok (.iadd, 1) := by decide +kernel
theorem dX8_undo_65 : decode cX8_undo 65 = .ok (.iaload, 1) := by decide +kernel
theorem dX8_undo_66 : decode cX8_undo 66 = .ok (.iastore, 1) := by decide +kernel
theorem dX8_undo_67 : decode cX8_undo 67 = .ok (.aload_n 0, 1) := by decide +kernel
theorem dX8_undo_68 : decode cX8_undo 68 = .ok (.getfield 7, 3) := by decide +kernel
theorem dX8_undo_71 : decode cX8_undo 71 = .ok (.iconst 4, 1) := by decide +kernel
theorem dX8_undo_72 : decode cX8_undo 72 = .ok (.iconst 4, 1) := by decide +kernel
theorem dX8_undo_73 : decode cX8_undo 73 = .ok (.iload_n 2, 1) := by decide +kernel
theorem dX8_undo_74 : decode cX8_undo 74 = .ok (.imul, 1) := by decide +kernel
theorem dX8_undo_75 : decode cX8_undo 75 = .ok (.iadd, 1) := by decide +kernel
theorem dX8_undo_76 : decode cX8_undo 76 = .ok (.iconst 3, 1) := by decide +kernel
theorem dX8_undo_77 : decode cX8_undo 77 = .ok (.iadd, 1) := by decide +kernel
theorem dX8_undo_78 : decode cX8_undo 78 = .ok (.aload_n 0, 1) := by decide +kernel
theorem dX8_undo_79 : decode cX8_undo 79 = .ok (.getfield 7, 3) := by decide +kernel
theorem dX8_undo_82 : decode cX8_undo 82 = .ok (.iload_n 1, 1) := by decide +kernel
theorem dX8_undo_83 : decode cX8_undo 83 = .ok (.iconst 2, 1) := by decide +kernel
theorem dX8_undo_84 : decode cX8_undo 84 = .ok (.iload_n 2, 1) := by decide +kernel
theorem dX8_undo_85 : decode cX8_undo 85 = .ok (.imul, 1) := by decide +kernel
theorem dX8_undo_86 : decode cX8_undo 86 = .ok (.iadd, 1) := by decide +kernel
theorem dX8_undo_87 : decode cX8_undo 87 = .ok (.iconst 1, 1) := by decide +kernel
theorem dX8_undo_88 : decode cX8_undo 88 = .ok (.iadd, 1) := by decide +kernel
theorem dX8_undo_89 : decode cX8_undo 89 = .ok (.iaload, 1) := by decide +kernel
theorem dX8_undo_90 : decode cX8_undo 90 = .ok (.iastore, 1) := by decide +kernel
theorem dX8_undo_91 : decode cX8_undo 91 = .ok (.iinc 2 1, 3) := by decide +kernel
theorem dX8_undo_94 : decode cX8_undo 94 = .ok (.goto (-55), 3) := by decide +kernel
theorem dX8_undo_97 : decode cX8_undo 97 = .ok (.aload_n 0, 1) := by decide +kernel
theorem dX8_undo_98 : decode cX8_undo 98 = .ok (.getfield 7, 3) := by decide +kernel
theorem dX8_undo_101 : decode cX8_undo 101 = .ok (.iconst 1, 1) := by decide +kernel
theorem dX8_undo_102 : decode cX8_undo 102 = .ok (.aload_n 0, 1) := by decide +kernel
theorem dX8_undo_103 : decode cX8_undo 103 = .ok (.getfield 7, 3) := by decide +kernel
theorem dX8_undo_106 : decode cX8_undo 106 = .ok (.iload_n 1, 1) := by decide +kernel
theorem dX8_undo_107 : decode cX8_undo 107 = .ok (.bipush 16, 2) := by decide +kernel
theorem dX8_undo_109 : decode cX8_undo 109 = .ok (.iadd, 1) := by decide +kernel
theorem dX8_undo_110 : decode cX8_undo 110 = .ok (.iaload, 1) := by decide +kernel
theorem dX8_undo_111 : decode cX8_undo 111 = .ok (.iastore, 1) := by decide +kernel
theorem dX8_undo_112 : decode cX8_undo 112 = .ok (.aload_n 0, 1) := by decide +kernel
theorem dX8_undo_113 : decode cX8_undo 113 = .ok (.getfield 7, 3) := by decide +kernel
theorem dX8_undo_116 : decode cX8_undo 116 = .ok (.iconst 1, 1) := by decide +kernel
theorem dX8_undo_117 : decode cX8_undo 117 = .ok (.iaload, 1) := by decide +kernel
theorem dX8_undo_118 : decode cX8_undo 118 = .ok (.ireturn, 1) := by decide +kernel
theorem dX8_say_0 : decode cX8_say 0 = .ok (.iload_n 1, 1) := by decide +kernel
theorem dX8_say_1 : decode cX8_say 1 = .ok (.invokestatic 148, 3) := by decide +kernel
theorem dX8_say_4 : decode cX8_say 4 = .ok (.ifCond .eq 15, 3) := by decide +kernel
theorem dX8_say_7 : decode cX8_say 7 = .ok (.iload_n 2, 1) := by decide +kernel
theorem dX8_say_8 : decode cX8_say 8 = .ok (.i2l, 1) := by decide +kernel
theorem dX8_say_9 : decode cX8_say 9 = .ok (.lconst 0, 1) := by decide +kernel
theorem dX8_say_10 : decode cX8_say 10 = .ok (.ldc2_w 67, 3) := by decide +kernel
theorem dX8_say_13 : decode cX8_say 13 = .ok (.invokestatic 106, 3) := by decide +kernel
theorem dX8_say_16 : decode cX8_say 16 = .ok (.ifCond .ne 10, 3) := by decide +kernel
theorem dX8_say_19 : decode cX8_say 19 = .ok (.aload_n 0, 1) := by decide +kernel
theorem dX8_say_20 : decode cX8_say 20 = .ok (.bipush (-2), 2) := by decide +kernel
theorem dX8_say_22 : decode cX8_say 22 = .ok (.invokevirtual 116, 3) := by decide +kernel
theorem dX8_say_25 : decode cX8_say 25 = .ok (.ireturn, 1) := by decide +kernel
theorem dX8_say_26 : decode cX8_say 26 = .ok (.aload_n 0, 1) := by decide +kernel
theorem dX8_say_27 : decode cX8_say 27 = .ok (.getfield 16, 3) := by decide +kernel
theorem dX8_say_30 : decode cX8_say 30 = .ok (.iload_n 1, 1) := by decide +kernel
theorem dX8_say_31 : decode cX8_say 31 = .ok (.laload, 1) := by decide +kernel
theorem dX8_say_32 : decode cX8_say 32 = .ok (.invokestatic 71, 3) := by decide +kernel
theorem dX8_say_35 : decode cX8_say 35 = .ok (.bipush 12, 2) := by decide +kernel
theorem dX8_say_37 : decode cX8_say 37 = .ok (.if_icmp .ne 8, 3) := by decide +kernel
theorem dX8_say_40 : decode cX8_say 40 = .ok (.aload_n 0, 1) := by decide +kernel
theorem dX8_say_41 : decode cX8_say 41 = .ok (.invokevirtual 128, 3) := by decide +kernel
theorem dX8_say_44 : decode cX8_say 44 = .ok (.ireturn, 1) := by decide +kernel
theorem dX8_say_45 : decode cX8_say 45 = .ok (.aload_n 0, 1) := by decide +kernel
theorem dX8_say_46 : decode cX8_say 46 = .ok (.getfield 16, 3) := by decide +kernel
theorem dX8_say_49 : decode cX8_say 49 = .ok (.iload_n 1, 1) := by decide +kernel
theorem dX8_say_50 : decode cX8_say 50 = .ok (.aload_n 0, 1) := by decide +kernel
theorem dX8_say_51 : decode cX8_say 51 = .ok (.getfield 16, 3) := by decide +kernel
theorem dX8_say_54 : decode cX8_say 54 = .ok (.iload_n 1, 1) := by decide +kernel
theorem dX8_say_55 : decode cX8_say 55 = .ok (.laload, 1) := by decide +kernel
theorem dX8_say_56 : decode cX8_say 56 = .ok (.iload_n 2, 1) := by decide +kernel
theorem dX8_say_57 : decode cX8_say 57 = .ok (.invokestatic 79, 3) := by decide +kernel
theorem dX8_say_60 : decode cX8_say 60 = .ok (.lastore, 1) := by decide +kernel
theorem dX8_say_61 : decode cX8_say 61 = .ok (.aload_n 0, 1) := by decide +kernel
theorem dX8_say_62 : decode cX8_say 62 = .ok (.getfield 16, 3) := by decide +kernel
theorem dX8_say_65 : decode cX8_say 65 = .ok (.iload_n 1, 1) := by decide +kernel
theorem dX8_say_66 : decode cX8_say 66 = .ok (.laload, 1) := by decide +kernel
theorem dX8_say_67 : decode cX8_say 67 = .ok (.invokestatic 71, 3) := by decide +kernel
theorem dX8_say_70 : decode cX8_say 70 = .ok (.ireturn, 1) := by decide +kernel
theorem dX8_hush_0 : decode cX8_hush 0 = .ok (.iload_n 1, 1) := by decide +kernel
theorem dX8_hush_1 : decode cX8_hush 1 = .ok (.invokestatic 148, 3) := by decide +kernel
theorem dX8_hush_4 : decode cX8_hush 4 = .ok (.ifCond .ne 10, 3) := by decide +kernel
theorem dX8_hush_7 : decode cX8_hush 7 = .ok (.aload_n 0, 1) := by decide +kernel
theorem dX8_hush_8 : decode cX8_hush 8 = .ok (.bipush (-2), 2) := by decide +kernel
theorem dX8_hush_10 : decode cX8_hush 10 = .ok (.invokevirtual 116, 3) := by decide +kernel
theorem dX8_hush_13 : decode cX8_hush 13 = .ok (.ireturn, 1) := by decide +kernel
theorem dX8_hush_14 : decode cX8_hush 14 = .ok (.aload_n 0, 1) := by decide +kernel
theorem dX8_hush_15 : decode cX8_hush 15 = .ok (.getfield 16, 3) := by decide +kernel
theorem dX8_hush_18 : decode cX8_hush 18 = .ok (.iload_n 1, 1) := by decide +kernel
theorem dX8_hush_19 : decode cX8_hush 19 = .ok (.laload, 1) := by decide +kernel
theorem dX8_hush_20 : decode cX8_hush 20 = .ok (.invokestatic 71, 3) := by decide +kernel
theorem dX8_hush_23 : decode cX8_hush 23 = .ok (.istore_n 2, 1) := by decide +kernel
theorem dX8_hush_24 : decode cX8_hush 24 = .ok (.aload_n 0, 1) := by decide +kernel
theorem dX8_hush_25 : decode cX8_hush 25 = .ok (.getfield 16, 3) := by decide +kernel
theorem dX8_hush_28 : decode cX8_hush 28 = .ok (.iload_n 1, 1) := by decide +kernel
theorem dX8_hush_29 : decode cX8_hush 29 = .ok (.lconst 0, 1) := by decide +kernel
theorem dX8_hush_30 : decode cX8_hush 30 = .ok (.lastore, 1) := by decide +kernel
theorem dX8_hush_31 : decode cX8_hush 31 = .ok (.iload_n 2, 1) := by decide +kernel
theorem dX8_hush_32 : decode cX8_hush 32 = .ok (.ireturn, 1) := by decide +kernel
theorem dX8_of_0 : decode cX8_of 0 = .ok (.aload_n 0, 1) := by decide +kernel
theorem dX8_of_1 : decode cX8_of 1 = .ok (.iload_n 1, 1) := by decide +kernel
theorem dX8_of_2 : decode cX8_of 2 = .ok (.invokevirtual 139, 3) := by decide +kernel
theorem dX8_of_5 : decode cX8_of 5 = .ok (.ifCond .eq 24, 3) := by decide +kernel
theorem dX8_of_8 : decode cX8_of 8 = .ok (.iload_n 2, 1) := by decide +kernel
theorem dX8_of_9 : decode cX8_of 9 = .ok (.i2l, 1) := by decide +kernel
theorem dX8_of_10 : decode cX8_of 10 = .ok (.lconst 0, 1) := by decide +kernel
theorem dX8_of_11 : decode cX8_of 11 = .ok (.ldc2_w 112, 3) := by decide +kernel
theorem dX8_of_14 : decode cX8_of 14 = .ok (.invokestatic 106, 3) := by decide +kernel
theorem dX8_of_17 : decode cX8_of 17 = .ok (.ifCond .eq 12, 3) := by decide +kernel
theorem dX8_of_20 : decode cX8_of 20 = .ok (.aload_n 0, 1) := by decide +kernel
theorem dX8_of_21 : decode cX8_of 21 = .ok (.iload_n 1, 1) := by decide +kernel
theorem dX8_of_22 : decode cX8_of 22 = .ok (.iload_n 2, 1) := by decide +kernel
theorem dX8_of_23 : decode cX8_of 23 = .ok (.invokevirtual 135, 3) := by decide +kernel
theorem dX8_of_26 : decode cX8_of 26 = .ok (.goto 9, 3) := by decide +kernel
theorem dX8_of_29 : decode cX8_of 29 = .ok (.aload_n 0, 1) := by decide +kernel
theorem dX8_of_30 : decode cX8_of 30 = .ok (.bipush (-2), 2) := by decide +kernel
theorem dX8_of_32 : decode cX8_of 32 = .ok (.invokevirtual 116, 3) := by decide +kernel
theorem dX8_of_35 : decode cX8_of 35 = .ok (.ireturn, 1) := by decide +kernel
theorem dX8_told_0 : decode cX8_told 0 = .ok (.iload_n 2, 1) := by decide +kernel
theorem dX8_told_1 : decode cX8_told 1 = .ok (.iconst (-1), 1) := by decide +kernel
theorem dX8_told_2 : decode cX8_told 2 = .ok (.if_icmp .ne 10, 3) := by decide +kernel
theorem dX8_told_5 : decode cX8_told 5 = .ok (.lload_n 0, 1) := by decide +kernel
theorem dX8_told_6 : decode cX8_told 6 = .ok (.invokestatic 71, 3) := by decide +kernel
theorem dX8_told_9 : decode cX8_told 9 = .ok (.goto 21, 3) := by decide +kernel
theorem dX8_told_12 : decode cX8_told 12 = .ok (.iload_n 2, 1) := by decide +kernel
theorem dX8_told_13 : decode cX8_told 13 = .ok (.lload_n 0, 1) := by decide +kernel
theorem dX8_told_14 : decode cX8_told 14 = .ok (.invokestatic 71, 3) := by decide +kernel
theorem dX8_told_17 : decode cX8_told 17 = .ok (.if_icmp .ge 11, 3) := by decide +kernel
theorem dX8_told_20 : decode cX8_told 20 = .ok (.lload_n 0, 1) := by decide +kernel
theorem dX8_told_21 : decode cX8_told 21 = .ok (.iload_n 2, 1) := by decide +kernel
theorem dX8_told_22 : decode cX8_told 22 = .ok (.invokestatic 82, 3) := by decide +kernel
theorem dX8_told_25 : decode cX8_told 25 = .ok (.goto 5, 3) := by decide +kernel
theorem dX8_told_28 : decode cX8_told 28 = .ok (.bipush (-5), 2) := by decide +kernel
theorem dX8_told_30 : decode cX8_told 30 = .ok (.ireturn, 1) := by decide +kernel
theorem dX8_at_0 : decode cX8_at 0 = .ok (.iload_n 1, 1) := by decide +kernel
theorem dX8_at_1 : decode cX8_at 1 = .ok (.invokestatic 148, 3) := by decide +kernel
theorem dX8_at_4 : decode cX8_at 4 = .ok (.ifCond .eq 21, 3) := by decide +kernel
theorem dX8_at_7 : decode cX8_at 7 = .ok (.iload_n 2, 1) := by decide +kernel
theorem dX8_at_8 : decode cX8_at 8 = .ok (.iconst (-1), 1) := by decide +kernel
theorem dX8_at_9 : decode cX8_at 9 = .ok (.if_icmp .lt 16, 3) := by decide +kernel
theorem dX8_at_12 : decode cX8_at 12 = .ok (.aload_n 0, 1) := by decide +kernel
theorem dX8_at_13 : decode cX8_at 13 = .ok (.getfield 16, 3) := by decide +kernel
theorem dX8_at_16 : decode cX8_at 16 = .ok (.iload_n 1, 1) := by decide +kernel
theorem dX8_at_17 : decode cX8_at 17 = .ok (.laload, 1) := by decide +kernel
theorem dX8_at_18 : decode cX8_at 18 = .ok (.iload_n 2, 1) := by decide +kernel
theorem dX8_at_19 : decode cX8_at 19 = .ok (.invokestatic 151, 3) := by decide +kernel
theorem dX8_at_22 : decode cX8_at 22 = .ok (.goto 9, 3) := by decide +kernel
theorem dX8_at_25 : decode cX8_at 25 = .ok (.aload_n 0, 1) := by decide +kernel
theorem dX8_at_26 : decode cX8_at 26 = .ok (.bipush (-10), 2) := by decide +kernel
theorem dX8_at_28 : decode cX8_at 28 = .ok (.invokevirtual 116, 3) := by decide +kernel
theorem dX8_at_31 : decode cX8_at 31 = .ok (.ireturn, 1) := by decide +kernel
theorem dX8_behindBridge_0 : decode cX8_behindBridge 0 = .ok (.aload_n 0, 1) := by decide +kernel
theorem dX8_behindBridge_1 : decode cX8_behindBridge 1 = .ok (.iload_n 1, 1) := by decide +kernel
theorem dX8_behindBridge_2 : decode cX8_behindBridge 2 = .ok (.iconst 2, 1) := by decide +kernel
theorem dX8_behindBridge_3 : decode cX8_behindBridge 3 = .ok (.invokevirtual 135, 3) := by decide +kernel
theorem dX8_behindBridge_6 : decode cX8_behindBridge 6 = .ok (.aload_n 0, 1) := by decide +kernel
theorem dX8_behindBridge_7 : decode cX8_behindBridge 7 = .ok (.iload_n 1, 1) := by decide +kernel
theorem dX8_behindBridge_8 : decode cX8_behindBridge 8 = .ok (.iconst 3, 1) := by decide +kernel
theorem dX8_behindBridge_9 : decode cX8_behindBridge 9 = .ok (.invokevirtual 135, 3) := by decide +kernel
theorem dX8_behindBridge_12 : decode cX8_behindBridge 12 = .ok (.aload_n 0, 1) := by decide +kernel
theorem dX8_behindBridge_13 : decode cX8_behindBridge 13 = .ok (.getfield 7, 3) := by decide +kernel
theorem dX8_behindBridge_16 : decode cX8_behindBridge 16 = .ok (.iconst 1, 1) := by decide +kernel
theorem dX8_behindBridge_17 : decode cX8_behindBridge 17 = .ok (.iaload, 1) := by decide +kernel
theorem dX8_behindBridge_18 : decode cX8_behindBridge 18 = .ok (.lload_n 2, 1) := by decide +kernel
theorem dX8_behindBridge_19 : decode cX8_behindBridge 19 = .ok (.invokestatic 154, 3) := by decide +kernel
theorem dX8_behindBridge_22 : decode cX8_behindBridge 22 = .ok (.lreturn, 1) := by decide +kernel
theorem dX8_called_0 : decode cX8_called 0 = .ok (.iload_n 1, 1) := by decide +kernel
theorem dX8_called_1 : decode cX8_called 1 = .ok (.invokestatic 148, 3) := by decide +kernel
theorem dX8_called_4 : decode cX8_called 4 = .ok (.ifCond .eq 25, 3) := by decide +kernel
theorem dX8_called_7 : decode cX8_called 7 = .ok (.aload_n 0, 1) := by decide +kernel
theorem dX8_called_8 : decode cX8_called 8 = .ok (.iload_n 2, 1) := by decide +kernel
theorem dX8_called_9 : decode cX8_called 9 = .ok (.invokevirtual 139, 3) := by decide +kernel
theorem dX8_called_12 : decode cX8_called 12 = .ok (.ifCond .eq 17, 3) := by decide +kernel
theorem dX8_called_15 : decode cX8_called 15 = .ok (.aload_n 0, 1) := by decide +kernel
theorem dX8_called_16 : decode cX8_called 16 = .ok (.iload_n 3, 1) := by decide +kernel
theorem dX8_called_17 : decode cX8_called 17 = .ok (.invokevirtual 139, 3) := by decide +kernel
theorem dX8_called_20 : decode cX8_called 20 = .ok (.ifCond .eq 9, 3) := by decide +kernel
theorem dX8_called_23 : decode cX8_called 23 = .ok (.iload 4, 2) := by decide +kernel
theorem dX8_called_25 : decode cX8_called 25 = .ok (.iconst (-1), 1) := by decide +kernel
theorem dX8_called_26 : decode cX8_called 26 = .ok (.if_icmp .ge 10, 3) := by decide +kernel
theorem dX8_called_29 : decode cX8_called 29 = .ok (.aload_n 0, 1) := by decide +kernel
theorem dX8_called_30 : decode cX8_called 30 = .ok (.bipush (-10), 2) := by decide +kernel
theorem dX8_called_32 : decode cX8_called 32 = .ok (.invokevirtual 116, 3) := by decide +kernel
theorem dX8_called_35 : decode cX8_called 35 = .ok (.ireturn, 1) := by decide +kernel
theorem dX8_called_36 : decode cX8_called 36 = .ok (.aload_n 0, 1) := by decide +kernel
theorem dX8_called_37 : decode cX8_called 37 = .ok (.getfield 16, 3) := by decide +kernel
theorem dX8_called_40 : decode cX8_called 40 = .ok (.iload_n 1, 1) := by decide +kernel
theorem dX8_called_41 : decode cX8_called 41 = .ok (.laload, 1) := by decide +kernel
theorem dX8_called_42 : decode cX8_called 42 = .ok (.lstore 5, 2) := by decide +kernel
theorem dX8_called_44 : decode cX8_called 44 = .ok (.iload_n 2, 1) := by decide +kernel
theorem dX8_called_45 : decode cX8_called 45 = .ok (.istore 7, 2) := by decide +kernel
theorem dX8_called_47 : decode cX8_called 47 = .ok (.iload 7, 2) := by decide +kernel
theorem dX8_called_49 : decode cX8_called 49 = .ok (.iload_n 3, 1) := by decide +kernel
theorem dX8_called_50 : decode cX8_called 50 = .ok (.if_icmp .gt 19, 3) := by decide +kernel
theorem dX8_called_53 : decode cX8_called 53 = .ok (.aload_n 0, 1) := by decide +kernel
theorem dX8_called_54 : decode cX8_called 54 = .ok (.iload 7, 2) := by decide +kernel
theorem dX8_called_56 : decode cX8_called 56 = .ok (.lload 5, 2) := by decide +kernel
theorem dX8_called_58 : decode cX8_called 58 = .ok (.invokevirtual 158, 3) := by decide +kernel
theorem dX8_called_61 : decode cX8_called 61 = .ok (.lstore 5, 2) := by decide +kernel
theorem dX8_called_63 : decode cX8_called 63 = .ok (.iinc 7 1, 3) := by decide +kernel
theorem dX8_called_66 : decode cX8_called 66 = .ok (.goto (-19), 3) := by decide +kernel
theorem dX8_called_69 : decode cX8_called 69 = .ok (.lload 5, 2) := by decide +kernel
theorem dX8_called_71 : decode cX8_called 71 = .ok (.iload 4, 2) := by decide +kernel
theorem dX8_called_73 : decode cX8_called 73 = .ok (.invokestatic 151, 3) := by decide +kernel
theorem dX8_called_76 : decode cX8_called 76 = .ok (.ireturn, 1) := by decide +kernel
theorem dX8_nothing_0 : decode cX8_nothing 0 = .ok (.iload_n 1, 1) := by decide +kernel
theorem dX8_nothing_1 : decode cX8_nothing 1 = .ok (.invokestatic 148, 3) := by decide +kernel
theorem dX8_nothing_4 : decode cX8_nothing 4 = .ok (.ifCond .eq 11, 3) := by decide +kernel
theorem dX8_nothing_7 : decode cX8_nothing 7 = .ok (.aload_n 0, 1) := by decide +kernel
theorem dX8_nothing_8 : decode cX8_nothing 8 = .ok (.iload_n 2, 1) := by decide +kernel
theorem dX8_nothing_9 : decode cX8_nothing 9 = .ok (.invokevirtual 139, 3) := by decide +kernel
theorem dX8_nothing_12 : decode cX8_nothing 12 = .ok (.ifCond .ne 10, 3) := by decide +kernel
theorem dX8_nothing_15 : decode cX8_nothing 15 = .ok (.aload_n 0, 1) := by decide +kernel
theorem dX8_nothing_16 : decode cX8_nothing 16 = .ok (.bipush (-2), 2) := by decide +kernel
theorem dX8_nothing_18 : decode cX8_nothing 18 = .ok (.invokevirtual 116, 3) := by decide +kernel
theorem dX8_nothing_21 : decode cX8_nothing 21 = .ok (.ireturn, 1) := by decide +kernel
theorem dX8_nothing_22 : decode cX8_nothing 22 = .ok (.aload_n 0, 1) := by decide +kernel
theorem dX8_nothing_23 : decode cX8_nothing 23 = .ok (.getfield 16, 3) := by decide +kernel
theorem dX8_nothing_26 : decode cX8_nothing 26 = .ok (.iload_n 1, 1) := by decide +kernel
theorem dX8_nothing_27 : decode cX8_nothing 27 = .ok (.laload, 1) := by decide +kernel
theorem dX8_nothing_28 : decode cX8_nothing 28 = .ok (.lstore_n 3, 1) := by decide +kernel
theorem dX8_nothing_29 : decode cX8_nothing 29 = .ok (.iload_n 2, 1) := by decide +kernel
theorem dX8_nothing_30 : decode cX8_nothing 30 = .ok (.istore 5, 2) := by decide +kernel
theorem dX8_nothing_32 : decode cX8_nothing 32 = .ok (.iload 5, 2) := by decide +kernel
theorem dX8_nothing_34 : decode cX8_nothing 34 = .ok (.aload_n 0, 1) := by decide +kernel
theorem dX8_nothing_35 : decode cX8_nothing 35 = .ok (.invokevirtual 102, 3) := by decide +kernel
theorem dX8_nothing_38 : decode cX8_nothing 38 = .ok (.if_icmp .ge 26, 3) := by decide +kernel
theorem dX8_nothing_41 : decode cX8_nothing 41 = .ok (.aload_n 0, 1) := by decide +kernel
theorem dX8_nothing_42 : decode cX8_nothing 42 = .ok (.iload 5, 2) := by decide +kernel
theorem dX8_nothing_44 : decode cX8_nothing 44 = .ok (.lload_n 3, 1) := by decide +kernel
theorem dX8_nothing_45 : decode cX8_nothing 45 = .ok (.invokevirtual 158, 3) := by decide +kernel
theorem dX8_nothing_48 : decode cX8_nothing 48 = .ok (.lstore_n 3, 1) := by decide +kernel
theorem dX8_nothing_49 : decode cX8_nothing 49 = .ok (.lload_n 3, 1) := by decide +kernel
theorem dX8_nothing_50 : decode cX8_nothing 50 = .ok (.lconst 0, 1) := by decide +kernel
theorem dX8_nothing_51 : decode cX8_nothing 51 = .ok (.lcmp, 1) := by decide +kernel
theorem dX8_nothing_52 : decode cX8_nothing 52 = .ok (.ifCond .ne 6, 3) := by decide +kernel
theorem dX8_nothing_55 : decode cX8_nothing 55 = .ok (.iload 5, 2) := by decide +kernel
theorem dX8_nothing_57 : decode cX8_nothing 57 = .ok (.ireturn, 1) := by decide +kernel
theorem dX8_nothing_58 : decode cX8_nothing 58 = .ok (.iinc 5 1, 3) := by decide +kernel
theorem dX8_nothing_61 : decode cX8_nothing 61 = .ok (.goto (-29), 3) := by decide +kernel
theorem dX8_nothing_64 : decode cX8_nothing 64 = .ok (.iconst (-1), 1) := by decide +kernel
theorem dX8_nothing_65 : decode cX8_nothing 65 = .ok (.ireturn, 1) := by decide +kernel
theorem dX8_canSay_0 : decode cX8_canSay 0 = .ok (.iconst 1, 1) := by decide +kernel
theorem dX8_canSay_1 : decode cX8_canSay 1 = .ok (.istore_n 3, 1) := by decide +kernel
theorem dX8_canSay_2 : decode cX8_canSay 2 = .ok (.iconst 0, 1) := by decide +kernel
theorem dX8_canSay_3 : decode cX8_canSay 3 = .ok (.istore 4, 2) := by decide +kernel
theorem dX8_canSay_5 : decode cX8_canSay 5 = .ok (.iload 4, 2) := by decide +kernel
theorem dX8_canSay_7 : decode cX8_canSay 7 = .ok (.lload_n 1, 1) := by decide +kernel
theorem dX8_canSay_8 : decode cX8_canSay 8 = .ok (.invokestatic 71, 3) := by decide +kernel
theorem dX8_canSay_11 : decode cX8_canSay 11 = .ok (.if_icmp .ge 33, 3) := by decide +kernel
theorem dX8_canSay_14 : decode cX8_canSay 14 = .ok (.iload_n 3, 1) := by decide +kernel
theorem dX8_canSay_15 : decode cX8_canSay 15 = .ok (.ifCond .eq 21, 3) := by decide +kernel
theorem dX8_canSay_18 : decode cX8_canSay 18 = .ok (.iload_n 0, 1) := by decide +kernel
theorem dX8_canSay_19 : decode cX8_canSay 19 = .ok (.lload_n 1, 1) := by decide +kernel
theorem dX8_canSay_20 : decode cX8_canSay 20 = .ok (.iload 4, 2) := by decide +kernel
theorem dX8_canSay_22 : decode cX8_canSay 22 = .ok (.invokestatic 82, 3) := by decide +kernel
theorem dX8_canSay_25 : decode cX8_canSay 25 = .ok (.ishr, 1) := by decide +kernel
theorem dX8_canSay_26 : decode cX8_canSay 26 = .ok (.iconst 1, 1) := by decide +kernel
theorem dX8_canSay_27 : decode cX8_canSay 27 = .ok (.iand, 1) := by decide +kernel
theorem dX8_canSay_28 : decode cX8_canSay 28 = .ok (.iconst 1, 1) := by decide +kernel
theorem dX8_canSay_29 : decode cX8_canSay 29 = .ok (.if_icmp .ne 7, 3) := by decide +kernel
theorem dX8_canSay_32 : decode cX8_canSay 32 = .ok (.iconst 1, 1) := by decide +kernel
theorem dX8_canSay_33 : decode cX8_canSay 33 = .ok (.goto 4, 3) := by decide +kernel
theorem dX8_canSay_36 : decode cX8_canSay 36 = .ok (.iconst 0, 1) := by decide +kernel
theorem dX8_canSay_37 : decode cX8_canSay 37 = .ok (.istore_n 3, 1) := by decide +kernel
theorem dX8_canSay_38 : decode cX8_canSay 38 = .ok (.iinc 4 1, 3) := by decide +kernel
theorem dX8_canSay_41 : decode cX8_canSay 41 = .ok (.goto (-36), 3) := by decide +kernel
theorem dX8_canSay_44 : decode cX8_canSay 44 = .ok (.iload_n 3, 1) := by decide +kernel
theorem dX8_canSay_45 : decode cX8_canSay 45 = .ok (.ireturn, 1) := by decide +kernel
theorem dX8_boat_0 : decode cX8_boat 0 = .ok (.iload_n 1, 1) := by decide +kernel
theorem dX8_boat_1 : decode cX8_boat 1 = .ok (.invokestatic 148, 3) := by decide +kernel
theorem dX8_boat_4 : decode cX8_boat 4 = .ok (.ifCond .eq 43, 3) := by decide +kernel
theorem dX8_boat_7 : decode cX8_boat 7 = .ok (.iload_n 2, 1) := by decide +kernel
theorem dX8_boat_8 : decode cX8_boat 8 = .ok (.i2l, 1) := by decide +kernel
theorem dX8_boat_9 : decode cX8_boat 9 = .ok (.lconst 0, 1) := by decide +kernel
theorem dX8_boat_10 : decode cX8_boat 10 = .ok (.ldc2_w 162, 3) := by decide +kernel
theorem dX8_boat_13 : decode cX8_boat 13 = .ok (.invokestatic 106, 3) := by decide +kernel
theorem dX8_boat_16 : decode cX8_boat 16 = .ok (.ifCond .eq 31, 3) := by decide +kernel
theorem dX8_boat_19 : decode cX8_boat 19 = .ok (.aload_n 0, 1) := by decide +kernel
theorem dX8_boat_20 : decode cX8_boat 20 = .ok (.iload_n 3, 1) := by decide +kernel
theorem dX8_boat_21 : decode cX8_boat 21 = .ok (.invokevirtual 139, 3) := by decide +kernel
theorem dX8_boat_24 : decode cX8_boat 24 = .ok (.ifCond .eq 23, 3) := by decide +kernel
theorem dX8_boat_27 : decode cX8_boat 27 = .ok (.aload_n 0, 1) := by decide +kernel
theorem dX8_boat_28 : decode cX8_boat 28 = .ok (.iload 4, 2) := by decide +kernel
theorem dX8_boat_30 : decode cX8_boat 30 = .ok (.invokevirtual 139, 3) := by decide +kernel
theorem dX8_boat_33 : decode cX8_boat 33 = .ok (.ifCond .eq 14, 3) := by decide +kernel
theorem dX8_boat_36 : decode cX8_boat 36 = .ok (.iload 5, 2) := by decide +kernel
theorem dX8_boat_38 : decode cX8_boat 38 = .ok (.i2l, 1) := by decide +kernel
theorem dX8_boat_39 : decode cX8_boat 39 = .ok (.lconst 0, 1) := by decide +kernel
theorem dX8_boat_40 : decode cX8_boat 40 = .ok (.lconst 1, 1) := by decide +kernel
theorem dX8_boat_41 : decode cX8_boat 41 = .ok (.invokestatic 106, 3) := by decide +kernel
theorem dX8_boat_44 : decode cX8_boat 44 = .ok (.ifCond .ne 10, 3) := by decide +kernel
theorem dX8_boat_47 : decode cX8_boat 47 = .ok (.aload_n 0, 1) := by decide +kernel
theorem dX8_boat_48 : decode cX8_boat 48 = .ok (.bipush (-10), 2) := by decide +kernel
theorem dX8_boat_50 : decode cX8_boat 50 = .ok (.invokevirtual 116, 3) := by decide +kernel
theorem dX8_boat_53 : decode cX8_boat 53 = .ok (.ireturn, 1) := by decide +kernel
theorem dX8_boat_54 : decode cX8_boat 54 = .ok (.iconst 0, 1) := by decide +kernel
theorem dX8_boat_55 : decode cX8_boat 55 = .ok (.istore 6, 2) := by decide +kernel
theorem dX8_boat_57 : decode cX8_boat 57 = .ok (.aload_n 0, 1) := by decide +kernel
theorem dX8_boat_58 : decode cX8_boat 58 = .ok (.getfield 16, 3) := by decide +kernel
theorem dX8_boat_61 : decode cX8_boat 61 = .ok (.iload_n 1, 1) := by decide +kernel
theorem dX8_boat_62 : decode cX8_boat 62 = .ok (.laload, 1) := by decide +kernel
theorem dX8_boat_63 : decode cX8_boat 63 = .ok (.lstore 7, 2) := by decide +kernel
theorem dX8_boat_65 : decode cX8_boat 65 = .ok (.iload_n 3, 1) := by decide +kernel
theorem dX8_boat_66 : decode cX8_boat 66 = .ok (.istore 9, 2) := by decide +kernel
theorem dX8_boat_68 : decode cX8_boat 68 = .ok (.iload 9, 2) := by decide +kernel
theorem dX8_boat_70 : decode cX8_boat 70 = .ok (.iload 4, 2) := by decide +kernel
theorem dX8_boat_72 : decode cX8_boat 72 = .ok (.if_icmp .gt 51, 3) := by decide +kernel
theorem dX8_boat_75 : decode cX8_boat 75 = .ok (.aload_n 0, 1) := by decide +kernel
theorem dX8_boat_76 : decode cX8_boat 76 = .ok (.iload 9, 2) := by decide +kernel
theorem dX8_boat_78 : decode cX8_boat 78 = .ok (.lload 7, 2) := by decide +kernel
theorem dX8_boat_80 : decode cX8_boat 80 = .ok (.invokevirtual 158, 3) := by decide +kernel
theorem dX8_boat_83 : decode cX8_boat 83 = .ok (.lstore 7, 2) := by decide +kernel
theorem dX8_boat_85 : decode cX8_boat 85 = .ok (.iload_n 2, 1) := by decide +kernel
theorem dX8_boat_86 : decode cX8_boat 86 = .ok (.lload 7, 2) := by decide +kernel
theorem dX8_boat_88 : decode cX8_boat 88 = .ok (.invokestatic 164, 3) := by decide +kernel
theorem dX8_boat_91 : decode cX8_boat 91 = .ok (.ifCond .ne 16, 3) := by decide +kernel
theorem dX8_boat_94 : decode cX8_boat 94 = .ok (.iload 5, 2) := by decide +kernel
theorem dX8_boat_96 : decode cX8_boat 96 = .ok (.ifCond .ne 8, 3) := by decide +kernel
theorem dX8_boat_99 : decode cX8_boat 99 = .ok (.iload 9, 2) := by decide +kernel
theorem dX8_boat_101 : decode cX8_boat 101 = .ok (.goto 5, 3) := by decide +kernel
theorem dX8_boat_104 : decode cX8_boat 104 = .ok (.iload 6, 2) := by decide +kernel
theorem dX8_boat_106 : decode cX8_boat 106 = .ok (.ireturn, 1) := by decide +kernel
theorem dX8_boat_107 : decode cX8_boat 107 = .ok (.iload 6, 2) := by decide +kernel
theorem dX8_boat_109 : decode cX8_boat 109 = .ok (.lload 7, 2) := by decide +kernel
theorem dX8_boat_111 : decode cX8_boat 111 = .ok (.invokestatic 71, 3) := by decide +kernel
theorem dX8_boat_114 : decode cX8_boat 114 = .ok (.iadd, 1) := by decide +kernel
theorem dX8_boat_115 : decode cX8_boat 115 = .ok (.istore 6, 2) := by decide +kernel
theorem dX8_boat_117 : decode cX8_boat 117 = .ok (.iinc 9 1, 3) := by decide +kernel
theorem dX8_boat_120 : decode cX8_boat 120 = .ok (.goto (-52), 3) := by decide +kernel
theorem dX8_boat_123 : decode cX8_boat 123 = .ok (.iload 5, 2) := by decide +kernel
theorem dX8_boat_125 : decode cX8_boat 125 = .ok (.ifCond .ne 7, 3) := by decide +kernel
theorem dX8_boat_128 : decode cX8_boat 128 = .ok (.iconst (-1), 1) := by decide +kernel
theorem dX8_boat_129 : decode cX8_boat 129 = .ok (.goto 5, 3) := by decide +kernel
theorem dX8_boat_132 : decode cX8_boat 132 = .ok (.iload 6, 2) := by decide +kernel
theorem dX8_boat_134 : decode cX8_boat 134 = .ok (.ireturn, 1) := by decide +kernel
theorem dX8_beginWay_0 : decode cX8_beginWay 0 = .ok (.aload_n 0, 1) := by decide +kernel
theorem dX8_beginWay_1 : decode cX8_beginWay 1 = .ok (.iconst 0, 1) := by decide +kernel
theorem dX8_beginWay_2 : decode cX8_beginWay 2 = .ok (.putfield 168, 3) := by decide +kernel
theorem dX8_beginWay_5 : decode cX8_beginWay 5 = .ok (.aload_n 0, 1) := by decide +kernel
theorem dX8_beginWay_6 : decode cX8_beginWay 6 = .ok (.getfield 37, 3) := by decide +kernel
theorem dX8_beginWay_9 : decode cX8_beginWay 9 = .ok (.iconst 0, 1) := by decide +kernel
theorem dX8_beginWay_10 : decode cX8_beginWay 10 = .ok (.iload_n 3, 1) := by decide +kernel
theorem dX8_beginWay_11 : decode cX8_beginWay 11 = .ok (.iastore, 1) := by decide +kernel
theorem dX8_beginWay_12 : decode cX8_beginWay 12 = .ok (.aload_n 0, 1) := by decide +kernel
theorem dX8_beginWay_13 : decode cX8_beginWay 13 = .ok (.getfield 40, 3) := by decide +kernel
theorem dX8_beginWay_16 : decode cX8_beginWay 16 = .ok (.iconst 0, 1) := by decide +kernel
theorem dX8_beginWay_17 : decode cX8_beginWay 17 = .ok (.lload_n 1, 1) := by decide +kernel
theorem dX8_beginWay_18 : decode cX8_beginWay 18 = .ok (.lastore, 1) := by decide +kernel
theorem dX8_beginWay_19 : decode cX8_beginWay 19 = .ok (.aload_n 0, 1) := by decide +kernel
theorem dX8_beginWay_20 : decode cX8_beginWay 20 = .ok (.getfield 43, 3) := by decide +kernel
theorem dX8_beginWay_23 : decode cX8_beginWay 23 = .ok (.iconst 0, 1) := by decide +kernel
theorem dX8_beginWay_24 : decode cX8_beginWay 24 = .ok (.iconst 0, 1) := by decide +kernel
theorem dX8_beginWay_25 : decode cX8_beginWay 25 = .ok (.iastore, 1) := by decide +kernel
theorem dX8_beginWay_26 : decode cX8_beginWay 26 = .ok (.aload_n 0, 1) := by decide +kernel
theorem dX8_beginWay_27 : decode cX8_beginWay 27 = .ok (.getfield 34, 3) := by decide +kernel
theorem dX8_beginWay_30 : decode cX8_beginWay 30 = .ok (.iconst 0, 1) := by decide +kernel
theorem dX8_beginWay_31 : decode cX8_beginWay 31 = .ok (.iconst (-1), 1) := by decide +kernel
theorem dX8_beginWay_32 : decode cX8_beginWay 32 = .ok (.iastore, 1) := by decide +kernel
theorem dX8_beginWay_33 : decode cX8_beginWay 33 = .ok (.return_, 1) := by decide +kernel
theorem dX8_isGone_0 : decode cX8_isGone 0 = .ok (.iconst 0, 1) := by decide +kernel
theorem dX8_isGone_1 : decode cX8_isGone 1 = .ok (.istore_n 2, 1) := by decide +kernel
theorem dX8_isGone_2 : decode cX8_isGone 2 = .ok (.iconst 0, 1) := by decide +kernel
theorem dX8_isGone_3 : decode cX8_isGone 3 = .ok (.istore_n 3, 1) := by decide +kernel
theorem dX8_isGone_4 : decode cX8_isGone 4 = .ok (.iload_n 3, 1) := by decide +kernel
theorem dX8_isGone_5 : decode cX8_isGone 5 = .ok (.aload_n 0, 1) := by decide +kernel
theorem dX8_isGone_6 : decode cX8_isGone 6 = .ok (.getfield 168, 3) := by decide +kernel
theorem dX8_isGone_9 : decode cX8_isGone 9 = .ok (.if_icmp .ge 29, 3) := by decide +kernel
theorem dX8_isGone_12 : decode cX8_isGone 12 = .ok (.iload_n 2, 1) := by decide +kernel
theorem dX8_isGone_13 : decode cX8_isGone 13 = .ok (.ifCond .ne 13, 3) := by decide +kernel
theorem dX8_isGone_16 : decode cX8_isGone 16 = .ok (.aload_n 0, 1) := by decide +kernel
theorem dX8_isGone_17 : decode cX8_isGone 17 = .ok (.getfield 34, 3) := by decide +kernel
theorem dX8_isGone_20 : decode cX8_isGone 20 = .ok (.iload_n 3, 1) := by decide +kernel
theorem dX8_isGone_21 : decode cX8_isGone 21 = .ok (.iaload, 1) := by decide +kernel
theorem dX8_isGone_22 : decode cX8_isGone 22 = .ok (.iload_n 1, 1) := by decide +kernel
theorem dX8_isGone_23 : decode cX8_isGone 23 = .ok (.if_icmp .ne 7, 3) := by decide +kernel
theorem dX8_isGone_26 : decode cX8_isGone 26 = .ok (.iconst 1, 1) := by decide +kernel
theorem dX8_isGone_27 : decode cX8_isGone 27 = .ok (.goto 4, 3) := by decide +kernel
theorem dX8_isGone_30 : decode cX8_isGone 30 = .ok (.iconst 0, 1) := by decide +kernel
theorem dX8_isGone_31 : decode cX8_isGone 31 = .ok (.istore_n 2, 1) := by decide +kernel
theorem dX8_isGone_32 : decode cX8_isGone 32 = .ok (.iinc 3 1, 3) := by decide +kernel
theorem dX8_isGone_35 : decode cX8_isGone 35 = .ok (.goto (-31), 3) := by decide +kernel
theorem dX8_isGone_38 : decode cX8_isGone 38 = .ok (.iload_n 2, 1) := by decide +kernel
theorem dX8_isGone_39 : decode cX8_isGone 39 = .ok (.ireturn, 1) := by decide +kernel
theorem dX8_goOn_0 : decode cX8_goOn 0 = .ok (.aload_n 0, 1) := by decide +kernel
theorem dX8_goOn_1 : decode cX8_goOn 1 = .ok (.getfield 168, 3) := by decide +kernel
theorem dX8_goOn_4 : decode cX8_goOn 4 = .ok (.ifCond .lt 194, 3) := by decide +kernel
theorem dX8_goOn_7 : decode cX8_goOn 7 = .ok (.aload_n 0, 1) := by decide +kernel
theorem dX8_goOn_8 : decode cX8_goOn 8 = .ok (.getfield 34, 3) := by decide +kernel
theorem dX8_goOn_11 : decode cX8_goOn 11 = .ok (.aload_n 0, 1) := by decide +kernel
theorem dX8_goOn_12 : decode cX8_goOn 12 = .ok (.getfield 168, 3) := by decide +kernel
theorem dX8_goOn_15 : decode cX8_goOn 15 = .ok (.iaload, 1) := by decide +kernel
theorem dX8_goOn_16 : decode cX8_goOn 16 = .ok (.iconst 1, 1) := by decide +kernel
theorem dX8_goOn_17 : decode cX8_goOn 17 = .ok (.iadd, 1) := by decide +kernel
theorem dX8_goOn_18 : decode cX8_goOn 18 = .ok (.istore_n 1, 1) := by decide +kernel
theorem dX8_goOn_19 : decode cX8_goOn 19 = .ok (.iload_n 1, 1) := by decide +kernel
theorem dX8_goOn_20 : decode cX8_goOn 20 = .ok (.aload_n 0, 1) := by decide +kernel
theorem dX8_goOn_21 : decode cX8_goOn 21 = .ok (.invokevirtual 102, 3) := by decide +kernel
theorem dX8_goOn_24 : decode cX8_goOn 24 = .ok (.if_icmp .ge 35, 3) := by decide +kernel
theorem dX8_goOn_27 : decode cX8_goOn 27 = .ok (.aload_n 0, 1) := by decide +kernel
theorem dX8_goOn_28 : decode cX8_goOn 28 = .ok (.iload_n 1, 1) := by decide +kernel
theorem dX8_goOn_29 : decode cX8_goOn 29 = .ok (.iconst 0, 1) := by decide +kernel
theorem dX8_goOn_30 : decode cX8_goOn 30 = .ok (.invokevirtual 135, 3) := by decide +kernel
theorem dX8_goOn_33 : decode cX8_goOn 33 = .ok (.aload_n 0, 1) := by decide +kernel
theorem dX8_goOn_34 : decode cX8_goOn 34 = .ok (.getfield 37, 3) := by decide +kernel
theorem dX8_goOn_37 : decode cX8_goOn 37 = .ok (.aload_n 0, 1) := by decide +kernel
theorem dX8_goOn_38 : decode cX8_goOn 38 = .ok (.getfield 168, 3) := by decide +kernel
theorem dX8_goOn_41 : decode cX8_goOn 41 = .ok (.iaload, 1) := by decide +kernel
theorem dX8_goOn_42 : decode cX8_goOn 42 = .ok (.if_icmp .ne 11, 3) := by decide +kernel
theorem dX8_goOn_45 : decode cX8_goOn 45 = .ok (.aload_n 0, 1) := by decide +kernel
theorem dX8_goOn_46 : decode cX8_goOn 46 = .ok (.iload_n 1, 1) := by decide +kernel
theorem dX8_goOn_47 : decode cX8_goOn 47 = .ok (.invokevirtual 172, 3) := by decide +kernel
theorem dX8_goOn_50 : decode cX8_goOn 50 = .ok (.ifCond .eq 9, 3) := by decide +kernel
theorem dX8_goOn_53 : decode cX8_goOn 53 = .ok (.iinc 1 1, 3) := by decide +kernel
theorem dX8_goOn_56 : decode cX8_goOn 56 = .ok (.goto (-37), 3) := by decide +kernel
theorem dX8_goOn_59 : decode cX8_goOn 59 = .ok (.aload_n 0, 1) := by decide +kernel
theorem dX8_goOn_60 : decode cX8_goOn 60 = .ok (.getfield 168, 3) := by decide +kernel
theorem dX8_goOn_63 : decode cX8_goOn 63 = .ok (.bipush 6, 2) := by decide +kernel
theorem dX8_goOn_65 : decode cX8_goOn 65 = .ok (.if_icmp .ge 120, 3) := by decide +kernel
theorem dX8_goOn_68 : decode cX8_goOn 68 = .ok (.iload_n 1, 1) := by decide +kernel
theorem dX8_goOn_69 : decode cX8_goOn 69 = .ok (.aload_n 0, 1) := by decide +kernel
theorem dX8_goOn_70 : decode cX8_goOn 70 = .ok (.invokevirtual 102, 3) := by decide +kernel
theorem dX8_goOn_73 : decode cX8_goOn 73 = .ok (.if_icmp .ge 112, 3) := by decide +kernel
theorem dX8_goOn_76 : decode cX8_goOn 76 = .ok (.aload_n 0, 1) := by decide +kernel
theorem dX8_goOn_77 : decode cX8_goOn 77 = .ok (.getfield 34, 3) := by decide +kernel
theorem dX8_goOn_80 : decode cX8_goOn 80 = .ok (.aload_n 0, 1) := by decide +kernel
theorem dX8_goOn_81 : decode cX8_goOn 81 = .ok (.getfield 168, 3) := by decide +kernel
theorem dX8_goOn_84 : decode cX8_goOn 84 = .ok (.iload_n 1, 1) := by decide +kernel
theorem dX8_goOn_85 : decode cX8_goOn 85 = .ok (.iastore, 1) := by decide +kernel
theorem dX8_goOn_86 : decode cX8_goOn 86 = .ok (.aload_n 0, 1) := by decide +kernel
theorem dX8_goOn_87 : decode cX8_goOn 87 = .ok (.getfield 40, 3) := by decide +kernel
theorem dX8_goOn_90 : decode cX8_goOn 90 = .ok (.aload_n 0, 1) := by decide +kernel
theorem dX8_goOn_91 : decode cX8_goOn 91 = .ok (.getfield 168, 3) := by decide +kernel
theorem dX8_goOn_94 : decode cX8_goOn 94 = .ok (.iconst 1, 1) := by decide +kernel
theorem dX8_goOn_95 : decode cX8_goOn 95 = .ok (.iadd, 1) := by decide +kernel
theorem dX8_goOn_96 : decode cX8_goOn 96 = .ok (.aload_n 0, 1) := by decide +kernel
theorem dX8_goOn_97 : decode cX8_goOn 97 = .ok (.iload_n 1, 1) := by decide +kernel
theorem dX8_goOn_98 : decode cX8_goOn 98 = .ok (.aload_n 0, 1) := by decide +kernel
theorem dX8_goOn_99 : decode cX8_goOn 99 = .ok (.getfield 40, 3) := by decide +kernel
theorem dX8_goOn_102 : decode cX8_goOn 102 = .ok (.aload_n 0, 1) := by decide +kernel
theorem dX8_goOn_103 : decode cX8_goOn 103 = .ok (.getfield 168, 3) := by decide +kernel
theorem dX8_goOn_106 : decode cX8_goOn 106 = .ok (.laload, 1) := by decide +kernel
theorem dX8_goOn_107 : decode cX8_goOn 107 = .ok (.invokevirtual 158, 3) := by decide +kernel
theorem dX8_goOn_110 : decode cX8_goOn 110 = .ok (.lastore, 1) := by decide +kernel
theorem dX8_goOn_111 : decode cX8_goOn 111 = .ok (.aload_n 0, 1) := by decide +kernel
theorem dX8_goOn_112 : decode cX8_goOn 112 = .ok (.getfield 37, 3) := by decide +kernel
theorem dX8_goOn_115 : decode cX8_goOn 115 = .ok (.aload_n 0, 1) := by decide +kernel
theorem dX8_goOn_116 : decode cX8_goOn 116 = .ok (.getfield 168, 3) := by decide +kernel
theorem dX8_goOn_119 : decode cX8_goOn 119 = .ok (.iconst 1, 1) := by decide +kernel
theorem dX8_goOn_120 : decode cX8_goOn 120 = .ok (.iadd, 1) := by decide +kernel
theorem dX8_goOn_121 : decode cX8_goOn 121 = .ok (.aload_n 0, 1) := by decide +kernel
theorem dX8_goOn_122 : decode cX8_goOn 122 = .ok (.iload_n 1, 1) := by decide +kernel
theorem dX8_goOn_123 : decode cX8_goOn 123 = .ok (.iconst 1, 1) := by decide +kernel
theorem dX8_goOn_124 : decode cX8_goOn 124 = .ok (.invokevirtual 135, 3) := by decide +kernel
theorem dX8_goOn_127 : decode cX8_goOn 127 = .ok (.iastore, 1) := by decide +kernel
theorem dX8_goOn_128 : decode cX8_goOn 128 = .ok (.aload_n 0, 1) := by decide +kernel
theorem dX8_goOn_129 : decode cX8_goOn 129 = .ok (.getfield 43, 3) := by decide +kernel
theorem dX8_goOn_132 : decode cX8_goOn 132 = .ok (.aload_n 0, 1) := by decide +kernel
theorem dX8_goOn_133 : decode cX8_goOn 133 = .ok (.getfield 168, 3) := by decide +kernel
theorem dX8_goOn_136 : decode cX8_goOn 136 = .ok (.iconst 1, 1) := by decide +kernel
theorem dX8_goOn_137 : decode cX8_goOn 137 = .ok (.iadd, 1) := by decide +kernel
theorem dX8_goOn_138 : decode cX8_goOn 138 = .ok (.aload_n 0, 1) := by decide +kernel
theorem dX8_goOn_139 : decode cX8_goOn 139 = .ok (.getfield 43, 3) := by decide +kernel
theorem dX8_goOn_142 : decode cX8_goOn 142 = .ok (.aload_n 0, 1) := by decide +kernel
theorem dX8_goOn_143 : decode cX8_goOn 143 = .ok (.getfield 168, 3) := by decide +kernel
theorem dX8_goOn_146 : decode cX8_goOn 146 = .ok (.iaload, 1) := by decide +kernel
theorem dX8_goOn_147 : decode cX8_goOn 147 = .ok (.aload_n 0, 1) := by decide +kernel
theorem dX8_goOn_148 : decode cX8_goOn 148 = .ok (.getfield 40, 3) := by decide +kernel
theorem dX8_goOn_151 : decode cX8_goOn 151 = .ok (.aload_n 0, 1) := by decide +kernel
theorem dX8_goOn_152 : decode cX8_goOn 152 = .ok (.getfield 168, 3) := by decide +kernel
theorem dX8_goOn_155 : decode cX8_goOn 155 = .ok (.iconst 1, 1) := by decide +kernel
theorem dX8_goOn_156 : decode cX8_goOn 156 = .ok (.iadd, 1) := by decide +kernel
theorem dX8_goOn_157 : decode cX8_goOn 157 = .ok (.laload, 1) := by decide +kernel
theorem dX8_goOn_158 : decode cX8_goOn 158 = .ok (.invokestatic 71, 3) := by decide +kernel
theorem dX8_goOn_161 : decode cX8_goOn 161 = .ok (.iadd, 1) := by decide +kernel
theorem dX8_goOn_162 : decode cX8_goOn 162 = .ok (.iastore, 1) := by decide +kernel
theorem dX8_goOn_163 : decode cX8_goOn 163 = .ok (.aload_n 0, 1) := by decide +kernel
theorem dX8_goOn_164 : decode cX8_goOn 164 = .ok (.dup, 1) := by decide +kernel
theorem dX8_goOn_165 : decode cX8_goOn 165 = .ok (.getfield 168, 3) := by decide +kernel
theorem dX8_goOn_168 : decode cX8_goOn 168 = .ok (.iconst 1, 1) := by decide +kernel
theorem dX8_goOn_169 : decode cX8_goOn 169 = .ok (.iadd, 1) := by decide +kernel
theorem dX8_goOn_170 : decode cX8_goOn 170 = .ok (.putfield 168, 3) := by decide +kernel
theorem dX8_goOn_173 : decode cX8_goOn 173 = .ok (.aload_n 0, 1) := by decide +kernel
theorem dX8_goOn_174 : decode cX8_goOn 174 = .ok (.getfield 34, 3) := by decide +kernel
theorem dX8_goOn_177 : decode cX8_goOn 177 = .ok (.aload_n 0, 1) := by decide +kernel
theorem dX8_goOn_178 : decode cX8_goOn 178 = .ok (.getfield 168, 3) := by decide +kernel
theorem dX8_goOn_181 : decode cX8_goOn 181 = .ok (.iconst (-1), 1) := by decide +kernel
theorem dX8_goOn_182 : decode cX8_goOn 182 = .ok (.iastore, 1) := by decide +kernel
theorem dX8_goOn_183 : decode cX8_goOn 183 = .ok (.iconst 1, 1) := by decide +kernel
theorem dX8_goOn_184 : decode cX8_goOn 184 = .ok (.ireturn, 1) := by decide +kernel
theorem dX8_goOn_185 : decode cX8_goOn 185 = .ok (.aload_n 0, 1) := by decide +kernel
theorem dX8_goOn_186 : decode cX8_goOn 186 = .ok (.dup, 1) := by decide +kernel
theorem dX8_goOn_187 : decode cX8_goOn 187 = .ok (.getfield 168, 3) := by decide +kernel
theorem dX8_goOn_190 : decode cX8_goOn 190 = .ok (.iconst 1, 1) := by decide +kernel
theorem dX8_goOn_191 : decode cX8_goOn 191 = .ok (.isub, 1) := by decide +kernel
theorem dX8_goOn_192 : decode cX8_goOn 192 = .ok (.putfield 168, 3) := by decide +kernel
theorem dX8_goOn_195 : decode cX8_goOn 195 = .ok (.goto (-195), 3) := by decide +kernel
theorem dX8_goOn_198 : decode cX8_goOn 198 = .ok (.iconst 0, 1) := by decide +kernel
theorem dX8_goOn_199 : decode cX8_goOn 199 = .ok (.ireturn, 1) := by decide +kernel
theorem dX8_judge_0 : decode cX8_judge 0 = .ok (.aload_n 0, 1) := by decide +kernel
theorem dX8_judge_1 : decode cX8_judge 1 = .ok (.dup, 1) := by decide +kernel
theorem dX8_judge_2 : decode cX8_judge 2 = .ok (.getfield 175, 3) := by decide +kernel
theorem dX8_judge_5 : decode cX8_judge 5 = .ok (.iconst 1, 1) := by decide +kernel
theorem dX8_judge_6 : decode cX8_judge 6 = .ok (.iadd, 1) := by decide +kernel
theorem dX8_judge_7 : decode cX8_judge 7 = .ok (.putfield 175, 3) := by decide +kernel
theorem dX8_judge_10 : decode cX8_judge 10 = .ok (.aload_n 0, 1) := by decide +kernel
theorem dX8_judge_11 : decode cX8_judge 11 = .ok (.getfield 178, 3) := by decide +kernel
theorem dX8_judge_14 : decode cX8_judge 14 = .ok (.iconst (-1), 1) := by decide +kernel
theorem dX8_judge_15 : decode cX8_judge 15 = .ok (.if_icmp .eq 46, 3) := by decide +kernel
theorem dX8_judge_18 : decode cX8_judge 18 = .ok (.aload_n 0, 1) := by decide +kernel
theorem dX8_judge_19 : decode cX8_judge 19 = .ok (.getfield 43, 3) := by decide +kernel
theorem dX8_judge_22 : decode cX8_judge 22 = .ok (.aload_n 0, 1) := by decide +kernel
theorem dX8_judge_23 : decode cX8_judge 23 = .ok (.getfield 168, 3) := by decide +kernel
theorem dX8_judge_26 : decode cX8_judge 26 = .ok (.iaload, 1) := by decide +kernel
theorem dX8_judge_27 : decode cX8_judge 27 = .ok (.aload_n 0, 1) := by decide +kernel
theorem dX8_judge_28 : decode cX8_judge 28 = .ok (.getfield 181, 3) := by decide +kernel
theorem dX8_judge_31 : decode cX8_judge 31 = .ok (.if_icmp .lt 30, 3) := by decide +kernel
theorem dX8_judge_34 : decode cX8_judge 34 = .ok (.aload_n 0, 1) := by decide +kernel
theorem dX8_judge_35 : decode cX8_judge 35 = .ok (.getfield 43, 3) := by decide +kernel
theorem dX8_judge_38 : decode cX8_judge 38 = .ok (.aload_n 0, 1) := by decide +kernel
theorem dX8_judge_39 : decode cX8_judge 39 = .ok (.getfield 168, 3) := by decide +kernel
theorem dX8_judge_42 : decode cX8_judge 42 = .ok (.iaload, 1) := by decide +kernel
theorem dX8_judge_43 : decode cX8_judge 43 = .ok (.aload_n 0, 1) := by decide +kernel
theorem dX8_judge_44 : decode cX8_judge 44 = .ok (.getfield 181, 3) := by decide +kernel
theorem dX8_judge_47 : decode cX8_judge 47 = .ok (.if_icmp .ne 18, 3) := by decide +kernel
theorem dX8_judge_50 : decode cX8_judge 50 = .ok (.aload_n 0, 1) := by decide +kernel
theorem dX8_judge_51 : decode cX8_judge 51 = .ok (.getfield 168, 3) := by decide +kernel
theorem dX8_judge_54 : decode cX8_judge 54 = .ok (.aload_n 0, 1) := by decide +kernel
theorem dX8_judge_55 : decode cX8_judge 55 = .ok (.getfield 178, 3) := by decide +kernel
theorem dX8_judge_58 : decode cX8_judge 58 = .ok (.if_icmp .ge 7, 3) := by decide +kernel
theorem dX8_judge_61 : decode cX8_judge 61 = .ok (.iconst 1, 1) := by decide +kernel
theorem dX8_judge_62 : decode cX8_judge 62 = .ok (.goto 4, 3) := by decide +kernel
theorem dX8_judge_65 : decode cX8_judge 65 = .ok (.iconst 0, 1) := by decide +kernel
theorem dX8_judge_66 : decode cX8_judge 66 = .ok (.istore_n 1, 1) := by decide +kernel
theorem dX8_judge_67 : decode cX8_judge 67 = .ok (.iload_n 1, 1) := by decide +kernel
theorem dX8_judge_68 : decode cX8_judge 68 = .ok (.ifCond .eq 52, 3) := by decide +kernel
theorem dX8_judge_71 : decode cX8_judge 71 = .ok (.aload_n 0, 1) := by decide +kernel
theorem dX8_judge_72 : decode cX8_judge 72 = .ok (.aload_n 0, 1) := by decide +kernel
theorem dX8_judge_73 : decode cX8_judge 73 = .ok (.getfield 168, 3) := by decide +kernel
theorem dX8_judge_76 : decode cX8_judge 76 = .ok (.putfield 178, 3) := by decide +kernel
theorem dX8_judge_79 : decode cX8_judge 79 = .ok (.aload_n 0, 1) := by decide +kernel
theorem dX8_judge_80 : decode cX8_judge 80 = .ok (.aload_n 0, 1) := by decide +kernel
theorem dX8_judge_81 : decode cX8_judge 81 = .ok (.getfield 43, 3) := by decide +kernel
theorem dX8_judge_84 : decode cX8_judge 84 = .ok (.aload_n 0, 1) := by decide +kernel
theorem dX8_judge_85 : decode cX8_judge 85 = .ok (.getfield 168, 3) := by decide +kernel
theorem dX8_judge_88 : decode cX8_judge 88 = .ok (.iaload, 1) := by decide +kernel
theorem dX8_judge_89 : decode cX8_judge 89 = .ok (.putfield 181, 3) := by decide +kernel
theorem dX8_judge_92 : decode cX8_judge 92 = .ok (.iconst 0, 1) := by decide +kernel
theorem dX8_judge_93 : decode cX8_judge 93 = .ok (.istore_n 2, 1) := by decide +kernel
theorem dX8_judge_94 : decode cX8_judge 94 = .ok (.iload_n 2, 1) := by decide +kernel
theorem dX8_judge_95 : decode cX8_judge 95 = .ok (.aload_n 0, 1) := by decide +kernel
theorem dX8_judge_96 : decode cX8_judge 96 = .ok (.getfield 168, 3) := by decide +kernel
theorem dX8_judge_99 : decode cX8_judge 99 = .ok (.if_icmp .ge 21, 3) := by decide +kernel
theorem dX8_judge_102 : decode cX8_judge 102 = .ok (.aload_n 0, 1) := by decide +kernel
theorem dX8_judge_103 : decode cX8_judge 103 = .ok (.getfield 46, 3) := by decide +kernel
theorem dX8_judge_106 : decode cX8_judge 106 = .ok (.iload_n 2, 1) := by decide +kernel
theorem dX8_judge_107 : decode cX8_judge 107 = .ok (.aload_n 0, 1) := by decide +kernel
theorem dX8_judge_108 : decode cX8_judge 108 = .ok (.getfield 34, 3) := by decide +kernel
theorem dX8_judge_111 : decode cX8_judge 111 = .ok (.iload_n 2, 1) := by decide +kernel
theorem dX8_judge_112 : decode cX8_judge 112 = .ok (.iaload, 1) := by decide +kernel
theorem dX8_judge_113 : decode cX8_judge 113 = .ok (.iastore, 1) := by decide +kernel
theorem dX8_judge_114 : decode cX8_judge 114 = .ok (.iinc 2 1, 3) := by decide +kernel
theorem dX8_judge_117 : decode cX8_judge 117 = .ok (.goto (-23), 3) := by decide +kernel
theorem dX8_judge_120 : decode cX8_judge 120 = .ok (.return_, 1) := by decide +kernel
theorem dX8_layWays_0 : decode cX8_layWays 0 = .ok (.aload_n 0, 1) := by decide +kernel
theorem dX8_layWays_1 : decode cX8_layWays 1 = .ok (.iconst (-1), 1) := by decide +kernel
theorem dX8_layWays_2 : decode cX8_layWays 2 = .ok (.putfield 178, 3) := by decide +kernel
theorem dX8_layWays_5 : decode cX8_layWays 5 = .ok (.aload_n 0, 1) := by decide +kernel
theorem dX8_layWays_6 : decode cX8_layWays 6 = .ok (.iconst 0, 1) := by decide +kernel
theorem dX8_layWays_7 : decode cX8_layWays 7 = .ok (.putfield 181, 3) := by decide +kernel
theorem dX8_layWays_10 : decode cX8_layWays 10 = .ok (.aload_n 0, 1) := by decide +kernel
theorem dX8_layWays_11 : decode cX8_layWays 11 = .ok (.iconst 0, 1) := by decide +kernel
theorem dX8_layWays_12 : decode cX8_layWays 12 = .ok (.putfield 175, 3) := by decide +kernel
theorem dX8_layWays_15 : decode cX8_layWays 15 = .ok (.aload_n 0, 1) := by decide +kernel
theorem dX8_layWays_16 : decode cX8_layWays 16 = .ok (.aload_n 0, 1) := by decide +kernel
theorem dX8_layWays_17 : decode cX8_layWays 17 = .ok (.getfield 16, 3) := by decide +kernel
theorem dX8_layWays_20 : decode cX8_layWays 20 = .ok (.iload_n 1, 1) := by decide +kernel
theorem dX8_layWays_21 : decode cX8_layWays 21 = .ok (.laload, 1) := by decide +kernel
theorem dX8_layWays_22 : decode cX8_layWays 22 = .ok (.iload_n 2, 1) := by decide +kernel
theorem dX8_layWays_23 : decode cX8_layWays 23 = .ok (.invokevirtual 184, 3) := by decide +kernel
theorem dX8_layWays_26 : decode cX8_layWays 26 = .ok (.iconst 1, 1) := by decide +kernel
theorem dX8_layWays_27 : decode cX8_layWays 27 = .ok (.istore 4, 2) := by decide +kernel
theorem dX8_layWays_29 : decode cX8_layWays 29 = .ok (.iload 4, 2) := by decide +kernel
theorem dX8_layWays_31 : decode cX8_layWays 31 = .ok (.ifCond .eq 29, 3) := by decide +kernel
theorem dX8_layWays_34 : decode cX8_layWays 34 = .ok (.aload_n 0, 1) := by decide +kernel
theorem dX8_layWays_35 : decode cX8_layWays 35 = .ok (.getfield 37, 3) := by decide +kernel
theorem dX8_layWays_38 : decode cX8_layWays 38 = .ok (.aload_n 0, 1) := by decide +kernel
theorem dX8_layWays_39 : decode cX8_layWays 39 = .ok (.getfield 168, 3) := by decide +kernel
theorem dX8_layWays_42 : decode cX8_layWays 42 = .ok (.iaload, 1) := by decide +kernel
theorem dX8_layWays_43 : decode cX8_layWays 43 = .ok (.iload_n 3, 1) := by decide +kernel
theorem dX8_layWays_44 : decode cX8_layWays 44 = .ok (.if_icmp .ne 7, 3) := by decide +kernel
theorem dX8_layWays_47 : decode cX8_layWays 47 = .ok (.aload_n 0, 1) := by decide +kernel
theorem dX8_layWays_48 : decode cX8_layWays 48 = .ok (.invokevirtual 188, 3) := by decide +kernel
theorem dX8_layWays_51 : decode cX8_layWays 51 = .ok (.aload_n 0, 1) := by decide +kernel
theorem dX8_layWays_52 : decode cX8_layWays 52 = .ok (.invokevirtual 191, 3) := by decide +kernel
theorem dX8_layWays_55 : decode cX8_layWays 55 = .ok (.istore 4, 2) := by decide +kernel
theorem dX8_layWays_57 : decode cX8_layWays 57 = .ok (.goto (-28), 3) := by decide +kernel
theorem dX8_layWays_60 : decode cX8_layWays 60 = .ok (.return_, 1) := by decide +kernel
theorem dX8_way_0 : decode cX8_way 0 = .ok (.iload_n 1, 1) := by decide +kernel
theorem dX8_way_1 : decode cX8_way 1 = .ok (.invokestatic 148, 3) := by decide +kernel
theorem dX8_way_4 : decode cX8_way 4 = .ok (.ifCond .eq 23, 3) := by decide +kernel
theorem dX8_way_7 : decode cX8_way 7 = .ok (.iload_n 2, 1) := by decide +kernel
theorem dX8_way_8 : decode cX8_way 8 = .ok (.invokestatic 124, 3) := by decide +kernel
theorem dX8_way_11 : decode cX8_way 11 = .ok (.ifCond .eq 16, 3) := by decide +kernel
theorem dX8_way_14 : decode cX8_way 14 = .ok (.iload_n 3, 1) := by decide +kernel
theorem dX8_way_15 : decode cX8_way 15 = .ok (.invokestatic 124, 3) := by decide +kernel
theorem dX8_way_18 : decode cX8_way 18 = .ok (.ifCond .eq 9, 3) := by decide +kernel
theorem dX8_way_21 : decode cX8_way 21 = .ok (.iload 4, 2) := by decide +kernel
theorem dX8_way_23 : decode cX8_way 23 = .ok (.iconst (-1), 1) := by decide +kernel
theorem dX8_way_24 : decode cX8_way 24 = .ok (.if_icmp .ge 10, 3) := by decide +kernel
theorem dX8_way_27 : decode cX8_way 27 = .ok (.aload_n 0, 1) := by decide +kernel
theorem dX8_way_28 : decode cX8_way 28 = .ok (.bipush (-10), 2) := by decide +kernel
theorem dX8_way_30 : decode cX8_way 30 = .ok (.invokevirtual 116, 3) := by decide +kernel
theorem dX8_way_33 : decode cX8_way 33 = .ok (.ireturn, 1) := by decide +kernel
theorem dX8_way_34 : decode cX8_way 34 = .ok (.aload_n 0, 1) := by decide +kernel
theorem dX8_way_35 : decode cX8_way 35 = .ok (.iload_n 1, 1) := by decide +kernel
theorem dX8_way_36 : decode cX8_way 36 = .ok (.iload_n 2, 1) := by decide +kernel
theorem dX8_way_37 : decode cX8_way 37 = .ok (.iload_n 3, 1) := by decide +kernel
theorem dX8_way_38 : decode cX8_way 38 = .ok (.invokevirtual 195, 3) := by decide +kernel
theorem dX8_way_41 : decode cX8_way 41 = .ok (.aload_n 0, 1) := by decide +kernel
theorem dX8_way_42 : decode cX8_way 42 = .ok (.getfield 178, 3) := by decide +kernel
theorem dX8_way_45 : decode cX8_way 45 = .ok (.iconst (-1), 1) := by decide +kernel
theorem dX8_way_46 : decode cX8_way 46 = .ok (.if_icmp .ne 7, 3) := by decide +kernel
theorem dX8_way_49 : decode cX8_way 49 = .ok (.iconst (-1), 1) := by decide +kernel
theorem dX8_way_50 : decode cX8_way 50 = .ok (.goto 37, 3) := by decide +kernel
theorem dX8_way_53 : decode cX8_way 53 = .ok (.iload 4, 2) := by decide +kernel
theorem dX8_way_55 : decode cX8_way 55 = .ok (.iconst (-1), 1) := by decide +kernel
theorem dX8_way_56 : decode cX8_way 56 = .ok (.if_icmp .ne 10, 3) := by decide +kernel
theorem dX8_way_59 : decode cX8_way 59 = .ok (.aload_n 0, 1) := by decide +kernel
theorem dX8_way_60 : decode cX8_way 60 = .ok (.getfield 181, 3) := by decide +kernel
theorem dX8_way_63 : decode cX8_way 63 = .ok (.goto 24, 3) := by decide +kernel
theorem dX8_way_66 : decode cX8_way 66 = .ok (.iload 4, 2) := by decide +kernel
theorem dX8_way_68 : decode cX8_way 68 = .ok (.aload_n 0, 1) := by decide +kernel
theorem dX8_way_69 : decode cX8_way 69 = .ok (.getfield 178, 3) := by decide +kernel
theorem dX8_way_72 : decode cX8_way 72 = .ok (.if_icmp .ge 13, 3) := by decide +kernel
theorem dX8_way_75 : decode cX8_way 75 = .ok (.aload_n 0, 1) := by decide +kernel
theorem dX8_way_76 : decode cX8_way 76 = .ok (.getfield 46, 3) := by decide +kernel
theorem dX8_way_79 : decode cX8_way 79 = .ok (.iload 4, 2) := by decide +kernel
theorem dX8_way_81 : decode cX8_way 81 = .ok (.iaload, 1) := by decide +kernel
theorem dX8_way_82 : decode cX8_way 82 = .ok (.goto 5, 3) := by decide +kernel
theorem dX8_way_85 : decode cX8_way 85 = .ok (.bipush (-5), 2) := by decide +kernel
theorem dX8_way_87 : decode cX8_way 87 = .ok (.ireturn, 1) := by decide +kernel
theorem dX8_ways_0 : decode cX8_ways 0 = .ok (.iload_n 1, 1) := by decide +kernel
theorem dX8_ways_1 : decode cX8_ways 1 = .ok (.invokestatic 148, 3) := by decide +kernel
theorem dX8_ways_4 : decode cX8_ways 4 = .ok (.ifCond .eq 28, 3) := by decide +kernel
theorem dX8_ways_7 : decode cX8_ways 7 = .ok (.iload_n 2, 1) := by decide +kernel
theorem dX8_ways_8 : decode cX8_ways 8 = .ok (.invokestatic 124, 3) := by decide +kernel
theorem dX8_ways_11 : decode cX8_ways 11 = .ok (.ifCond .eq 21, 3) := by decide +kernel
theorem dX8_ways_14 : decode cX8_ways 14 = .ok (.iload_n 3, 1) := by decide +kernel
theorem dX8_ways_15 : decode cX8_ways 15 = .ok (.invokestatic 124, 3) := by decide +kernel
theorem dX8_ways_18 : decode cX8_ways 18 = .ok (.ifCond .eq 14, 3) := by decide +kernel
theorem dX8_ways_21 : decode cX8_ways 21 = .ok (.iload 4, 2) := by decide +kernel
theorem dX8_ways_23 : decode cX8_ways 23 = .ok (.i2l, 1) := by decide +kernel
theorem dX8_ways_24 : decode cX8_ways 24 = .ok (.lconst 0, 1) := by decide +kernel
theorem dX8_ways_25 : decode cX8_ways 25 = .ok (.lconst 1, 1) := by decide +kernel
theorem dX8_ways_26 : decode cX8_ways 26 = .ok (.invokestatic 106, 3) := by decide +kernel
theorem dX8_ways_29 : decode cX8_ways 29 = .ok (.ifCond .ne 10, 3) := by decide +kernel
theorem dX8_ways_32 : decode cX8_ways 32 = .ok (.aload_n 0, 1) := by decide +kernel
theorem dX8_ways_33 : decode cX8_ways 33 = .ok (.bipush (-2), 2) := by decide +kernel
theorem dX8_ways_35 : decode cX8_ways 35 = .ok (.invokevirtual 116, 3) := by decide +kernel
theorem dX8_ways_38 : decode cX8_ways 38 = .ok (.ireturn, 1) := by decide +kernel
theorem dX8_ways_39 : decode cX8_ways 39 = .ok (.aload_n 0, 1) := by decide +kernel
theorem dX8_ways_40 : decode cX8_ways 40 = .ok (.iload_n 1, 1) := by decide +kernel
theorem dX8_ways_41 : decode cX8_ways 41 = .ok (.iload_n 2, 1) := by decide +kernel
theorem dX8_ways_42 : decode cX8_ways 42 = .ok (.iload_n 3, 1) := by decide +kernel
theorem dX8_ways_43 : decode cX8_ways 43 = .ok (.invokevirtual 195, 3) := by decide +kernel
theorem dX8_ways_46 : decode cX8_ways 46 = .ok (.iload 4, 2) := by decide +kernel
theorem dX8_ways_48 : decode cX8_ways 48 = .ok (.ifCond .ne 10, 3) := by decide +kernel
theorem dX8_ways_51 : decode cX8_ways 51 = .ok (.aload_n 0, 1) := by decide +kernel
theorem dX8_ways_52 : decode cX8_ways 52 = .ok (.getfield 175, 3) := by decide +kernel
theorem dX8_ways_55 : decode cX8_ways 55 = .ok (.goto 7, 3) := by decide +kernel
theorem dX8_ways_58 : decode cX8_ways 58 = .ok (.aload_n 0, 1) := by decide +kernel
theorem dX8_ways_59 : decode cX8_ways 59 = .ok (.getfield 178, 3) := by decide +kernel
theorem dX8_ways_62 : decode cX8_ways 62 = .ok (.ireturn, 1) := by decide +kernel
theorem dX8_has_0 : decode cX8_has 0 = .ok (.iconst 0, 1) := by decide +kernel
theorem dX8_has_1 : decode cX8_has 1 = .ok (.istore 4, 2) := by decide +kernel
theorem dX8_has_3 : decode cX8_has 3 = .ok (.iconst 0, 1) := by decide +kernel
theorem dX8_has_4 : decode cX8_has 4 = .ok (.istore 5, 2) := by decide +kernel
theorem dX8_has_6 : decode cX8_has 6 = .ok (.iload 5, 2) := by decide +kernel
theorem dX8_has_8 : decode cX8_has 8 = .ok (.lload_n 2, 1) := by decide +kernel
theorem dX8_has_9 : decode cX8_has 9 = .ok (.invokestatic 71, 3) := by decide +kernel
theorem dX8_has_12 : decode cX8_has 12 = .ok (.iadd, 1) := by decide +kernel
theorem dX8_has_13 : decode cX8_has 13 = .ok (.lload_n 0, 1) := by decide +kernel
theorem dX8_has_14 : decode cX8_has 14 = .ok (.invokestatic 71, 3) := by decide +kernel
theorem dX8_has_17 : decode cX8_has 17 = .ok (.if_icmp .gt 77, 3) := by decide +kernel
theorem dX8_has_20 : decode cX8_has 20 = .ok (.iconst 1, 1) := by decide +kernel
theorem dX8_has_21 : decode cX8_has 21 = .ok (.istore 6, 2) := by decide +kernel
theorem dX8_has_23 : decode cX8_has 23 = .ok (.iconst 0, 1) := by decide +kernel
theorem dX8_has_24 : decode cX8_has 24 = .ok (.istore 7, 2) := by decide +kernel
theorem dX8_has_26 : decode cX8_has 26 = .ok (.iload 7, 2) := by decide +kernel
theorem dX8_has_28 : decode cX8_has 28 = .ok (.lload_n 2, 1) := by decide +kernel
theorem dX8_has_29 : decode cX8_has 29 = .ok (.invokestatic 71, 3) := by decide +kernel
theorem dX8_has_32 : decode cX8_has 32 = .ok (.if_icmp .ge 39, 3) := by decide +kernel
theorem dX8_has_35 : decode cX8_has 35 = .ok (.iload 6, 2) := by decide +kernel
theorem dX8_has_37 : decode cX8_has 37 = .ok (.ifCond .eq 25, 3) := by decide +kernel
theorem dX8_has_40 : decode cX8_has 40 = .ok (.lload_n 0, 1) := by decide +kernel
theorem dX8_has_41 : decode cX8_has 41 = .ok (.iload 5, 2) := by decide +kernel
theorem dX8_has_43 : decode cX8_has 43 = .ok (.iload 7, 2) := by decide +kernel
theorem dX8_has_45 : decode cX8_has 45 = .ok (.iadd, 1) := by decide +kernel
theorem dX8_has_46 : decode cX8_has 46 = .ok (.invokestatic 82, 3) := by decide +kernel
theorem dX8_has_49 : decode cX8_has 49 = .ok (.lload_n 2, 1) := by decide +kernel
theorem dX8_has_50 : decode cX8_has 50 = .ok (.iload 7, 2) := by decide +kernel
theorem dX8_has_52 : decode cX8_has 52 = .ok (.invokestatic 82, 3) := by decide +kernel
theorem dX8_has_55 : decode cX8_has 55 = .ok (.if_icmp .ne 7, 3) := by decide +kernel
theorem dX8_has_58 : decode cX8_has 58 = .ok (.iconst 1, 1) := by decide +kernel
theorem dX8_has_59 : decode cX8_has 59 = .ok (.goto 4, 3) := by decide +kernel
theorem dX8_has_62 : decode cX8_has 62 = .ok (.iconst 0, 1) := by decide +kernel
theorem dX8_has_63 : decode cX8_has 63 = .ok (.istore 6, 2) := by decide +kernel
theorem dX8_has_65 : decode cX8_has 65 = .ok (.iinc 7 1, 3) := by decide +kernel
theorem dX8_has_68 : decode cX8_has 68 = .ok (.goto (-42), 3) := by decide +kernel
theorem dX8_has_71 : decode cX8_has 71 = .ok (.iload 4, 2) := by decide +kernel
theorem dX8_has_73 : decode cX8_has 73 = .ok (.ifCond .ne 8, 3) := by decide +kernel
theorem dX8_has_76 : decode cX8_has 76 = .ok (.iload 6, 2) := by decide +kernel
theorem dX8_has_78 : decode cX8_has 78 = .ok (.ifCond .eq 7, 3) := by decide +kernel
theorem dX8_has_81 : decode cX8_has 81 = .ok (.iconst 1, 1) := by decide +kernel
theorem dX8_has_82 : decode cX8_has 82 = .ok (.goto 4, 3) := by decide +kernel
theorem dX8_has_85 : decode cX8_has 85 = .ok (.iconst 0, 1) := by decide +kernel
theorem dX8_has_86 : decode cX8_has 86 = .ok (.istore 4, 2) := by decide +kernel
theorem dX8_has_88 : decode cX8_has 88 = .ok (.iinc 5 1, 3) := by decide +kernel
theorem dX8_has_91 : decode cX8_has 91 = .ok (.goto (-85), 3) := by decide +kernel
theorem dX8_has_94 : decode cX8_has 94 = .ok (.iload 4, 2) := by decide +kernel
theorem dX8_has_96 : decode cX8_has 96 = .ok (.ireturn, 1) := by decide +kernel
theorem dX8_curse_0 : decode cX8_curse 0 = .ok (.iload_n 1, 1) := by decide +kernel
theorem dX8_curse_1 : decode cX8_curse 1 = .ok (.invokestatic 148, 3) := by decide +kernel
theorem dX8_curse_4 : decode cX8_curse 4 = .ok (.ifCond .eq 17, 3) := by decide +kernel
theorem dX8_curse_7 : decode cX8_curse 7 = .ok (.iload_n 2, 1) := by decide +kernel
theorem dX8_curse_8 : decode cX8_curse 8 = .ok (.invokestatic 148, 3) := by decide +kernel
theorem dX8_curse_11 : decode cX8_curse 11 = .ok (.ifCond .eq 10, 3) := by decide +kernel
theorem dX8_curse_14 : decode cX8_curse 14 = .ok (.iload_n 3, 1) := by decide +kernel
theorem dX8_curse_15 : decode cX8_curse 15 = .ok (.invokestatic 124, 3) := by decide +kernel
theorem dX8_curse_18 : decode cX8_curse 18 = .ok (.ifCond .ne 10, 3) := by decide +kernel
theorem dX8_curse_21 : decode cX8_curse 21 = .ok (.aload_n 0, 1) := by decide +kernel
theorem dX8_curse_22 : decode cX8_curse 22 = .ok (.bipush (-2), 2) := by decide +kernel
theorem dX8_curse_24 : decode cX8_curse 24 = .ok (.invokevirtual 116, 3) := by decide +kernel
theorem dX8_curse_27 : decode cX8_curse 27 = .ok (.ireturn, 1) := by decide +kernel
theorem dX8_curse_28 : decode cX8_curse 28 = .ok (.iconst (-1), 1) := by decide +kernel
theorem dX8_curse_29 : decode cX8_curse 29 = .ok (.istore 4, 2) := by decide +kernel
theorem dX8_curse_31 : decode cX8_curse 31 = .ok (.aload_n 0, 1) := by decide +kernel
theorem dX8_curse_32 : decode cX8_curse 32 = .ok (.aload_n 0, 1) := by decide +kernel
theorem dX8_curse_33 : decode cX8_curse 33 = .ok (.getfield 16, 3) := by decide +kernel
theorem dX8_curse_36 : decode cX8_curse 36 = .ok (.iload_n 1, 1) := by decide +kernel
theorem dX8_curse_37 : decode cX8_curse 37 = .ok (.laload, 1) := by decide +kernel
theorem dX8_curse_38 : decode cX8_curse 38 = .ok (.iload_n 3, 1) := by decide +kernel
theorem dX8_curse_39 : decode cX8_curse 39 = .ok (.invokevirtual 184, 3) := by decide +kernel
theorem dX8_curse_42 : decode cX8_curse 42 = .ok (.iconst 1, 1) := by decide +kernel
theorem dX8_curse_43 : decode cX8_curse 43 = .ok (.istore 5, 2) := by decide +kernel
theorem dX8_curse_45 : decode cX8_curse 45 = .ok (.iload 5, 2) := by decide +kernel
theorem dX8_curse_47 : decode cX8_curse 47 = .ok (.ifCond .eq 71, 3) := by decide +kernel
theorem dX8_curse_50 : decode cX8_curse 50 = .ok (.iload 4, 2) := by decide +kernel
theorem dX8_curse_52 : decode cX8_curse 52 = .ok (.iconst (-1), 1) := by decide +kernel
theorem dX8_curse_53 : decode cX8_curse 53 = .ok (.if_icmp .eq 12, 3) := by decide +kernel
theorem dX8_curse_56 : decode cX8_curse 56 = .ok (.aload_n 0, 1) := by decide +kernel
theorem dX8_curse_57 : decode cX8_curse 57 = .ok (.getfield 168, 3) := by decide +kernel
theorem dX8_curse_60 : decode cX8_curse 60 = .ok (.iload 4, 2) := by decide +kernel
theorem dX8_curse_62 : decode cX8_curse 62 = .ok (.if_icmp .ge 7, 3) := by decide +kernel
theorem dX8_curse_65 : decode cX8_curse 65 = .ok (.iconst 1, 1) := by decide +kernel
theorem dX8_curse_66 : decode cX8_curse 66 = .ok (.goto 4, 3) := by decide +kernel
theorem dX8_curse_69 : decode cX8_curse 69 = .ok (.iconst 0, 1) := by decide +kernel
theorem dX8_curse_70 : decode cX8_curse 70 = .ok (.istore 6, 2) := by decide +kernel
theorem dX8_curse_72 : decode cX8_curse 72 = .ok (.iload 6, 2) := by decide +kernel
theorem dX8_curse_74 : decode cX8_curse 74 = .ok (.ifCond .eq 31, 3) := by decide +kernel
theorem dX8_curse_77 : decode cX8_curse 77 = .ok (.aload_n 0, 1) := by decide +kernel
theorem dX8_curse_78 : decode cX8_curse 78 = .ok (.getfield 40, 3) := by decide +kernel
theorem dX8_curse_81 : decode cX8_curse 81 = .ok (.aload_n 0, 1) := by decide +kernel
theorem dX8_curse_82 : decode cX8_curse 82 = .ok (.getfield 168, 3) := by decide +kernel
theorem dX8_curse_85 : decode cX8_curse 85 = .ok (.laload, 1) := by decide +kernel
theorem dX8_curse_86 : decode cX8_curse 86 = .ok (.aload_n 0, 1) := by decide +kernel
theorem dX8_curse_87 : decode cX8_curse 87 = .ok (.getfield 16, 3) := by decide +kernel
theorem dX8_curse_90 : decode cX8_curse 90 = .ok (.iload_n 2, 1) := by decide +kernel
theorem dX8_curse_91 : decode cX8_curse 91 = .ok (.laload, 1) := by decide +kernel
theorem dX8_curse_92 : decode cX8_curse 92 = .ok (.invokestatic 199, 3) := by decide +kernel
theorem dX8_curse_95 : decode cX8_curse 95 = .ok (.ifCond .eq 10, 3) := by decide +kernel
theorem dX8_curse_98 : decode cX8_curse 98 = .ok (.aload_n 0, 1) := by decide +kernel
theorem dX8_curse_99 : decode cX8_curse 99 = .ok (.getfield 168, 3) := by decide +kernel
theorem dX8_curse_102 : decode cX8_curse 102 = .ok (.goto 5, 3) := by decide +kernel
theorem dX8_curse_105 : decode cX8_curse 105 = .ok (.iload 4, 2) := by decide +kernel
theorem dX8_curse_107 : decode cX8_curse 107 = .ok (.istore 4, 2) := by decide +kernel
theorem dX8_curse_109 : decode cX8_curse 109 = .ok (.aload_n 0, 1) := by decide +kernel
theorem dX8_curse_110 : decode cX8_curse 110 = .ok (.invokevirtual 191, 3) := by decide +kernel
theorem dX8_curse_113 : decode cX8_curse 113 = .ok (.istore 5, 2) := by decide +kernel
theorem dX8_curse_115 : decode cX8_curse 115 = .ok (.goto (-70), 3) := by decide +kernel
theorem dX8_curse_118 : decode cX8_curse 118 = .ok (.iload 4, 2) := by decide +kernel
theorem dX8_curse_120 : decode cX8_curse 120 = .ok (.ireturn, 1) := by decide +kernel
theorem dX8_nameOf_0 : decode cX8_nameOf 0 = .ok (.lconst 0, 1) := by decide +kernel
theorem dX8_nameOf_1 : decode cX8_nameOf 1 = .ok (.lstore_n 1, 1) := by decide +kernel
theorem dX8_nameOf_2 : decode cX8_nameOf 2 = .ok (.iload_n 0, 1) := by decide +kernel
theorem dX8_nameOf_3 : decode cX8_nameOf 3 = .ok (.bipush 16, 2) := by decide +kernel
theorem dX8_nameOf_5 : decode cX8_nameOf 5 = .ok (.if_icmp .le 26, 3) := by decide +kernel
theorem dX8_nameOf_8 : decode cX8_nameOf 8 = .ok (.lload_n 1, 1) := by decide +kernel
theorem dX8_nameOf_9 : decode cX8_nameOf 9 = .ok (.iload_n 0, 1) := by decide +kernel
theorem dX8_nameOf_10 : decode cX8_nameOf 10 = .ok (.bipush 17, 2) := by decide +kernel
theorem dX8_nameOf_12 : decode cX8_nameOf 12 = .ok (.idiv, 1) := by decide +kernel
theorem dX8_nameOf_13 : decode cX8_nameOf 13 = .ok (.iconst 1, 1) := by decide +kernel
theorem dX8_nameOf_14 : decode cX8_nameOf 14 = .ok (.isub, 1) := by decide +kernel
theorem dX8_nameOf_15 : decode cX8_nameOf 15 = .ok (.invokestatic 79, 3) := by decide +kernel
theorem dX8_nameOf_18 : decode cX8_nameOf 18 = .ok (.iload_n 0, 1) := by decide +kernel
theorem dX8_nameOf_19 : decode cX8_nameOf 19 = .ok (.bipush 17, 2) := by decide +kernel
theorem dX8_nameOf_21 : decode cX8_nameOf 21 = .ok (.irem, 1) := by decide +kernel
theorem dX8_nameOf_22 : decode cX8_nameOf 22 = .ok (.iconst 1, 1) := by decide +kernel
theorem dX8_nameOf_23 : decode cX8_nameOf 23 = .ok (.isub, 1) := by decide +kernel
theorem dX8_nameOf_24 : decode cX8_nameOf 24 = .ok (.invokestatic 79, 3) := by decide +kernel
theorem dX8_nameOf_27 : decode cX8_nameOf 27 = .ok (.lstore_n 1, 1) := by decide +kernel
theorem dX8_nameOf_28 : decode cX8_nameOf 28 = .ok (.goto 15, 3) := by decide +kernel
theorem dX8_nameOf_31 : decode cX8_nameOf 31 = .ok (.iload_n 0, 1) := by decide +kernel
theorem dX8_nameOf_32 : decode cX8_nameOf 32 = .ok (.ifCond .le 11, 3) := by decide +kernel
theorem dX8_nameOf_35 : decode cX8_nameOf 35 = .ok (.lload_n 1, 1) := by decide +kernel
theorem dX8_nameOf_36 : decode cX8_nameOf 36 = .ok (.iload_n 0, 1) := by decide +kernel
theorem dX8_nameOf_37 : decode cX8_nameOf 37 = .ok (.iconst 1, 1) := by decide +kernel
theorem dX8_nameOf_38 : decode cX8_nameOf 38 = .ok (.isub, 1) := by decide +kernel
theorem dX8_nameOf_39 : decode cX8_nameOf 39 = .ok (.invokestatic 79, 3) := by decide +kernel
theorem dX8_nameOf_42 : decode cX8_nameOf 42 = .ok (.lstore_n 1, 1) := by decide +kernel
theorem dX8_nameOf_43 : decode cX8_nameOf 43 = .ok (.lload_n 1, 1) := by decide +kernel
theorem dX8_nameOf_44 : decode cX8_nameOf 44 = .ok (.lreturn, 1) := by decide +kernel
theorem dX8_above_0 : decode cX8_above 0 = .ok (.aload_n 0, 1) := by decide +kernel
theorem dX8_above_1 : decode cX8_above 1 = .ok (.iload_n 1, 1) := by decide +kernel
theorem dX8_above_2 : decode cX8_above 2 = .ok (.invokevirtual 139, 3) := by decide +kernel
theorem dX8_above_5 : decode cX8_above 5 = .ok (.ifCond .eq 20, 3) := by decide +kernel
theorem dX8_above_8 : decode cX8_above 8 = .ok (.iload_n 2, 1) := by decide +kernel
theorem dX8_above_9 : decode cX8_above 9 = .ok (.invokestatic 148, 3) := by decide +kernel
theorem dX8_above_12 : decode cX8_above 12 = .ok (.ifCond .eq 13, 3) := by decide +kernel
theorem dX8_above_15 : decode cX8_above 15 = .ok (.iload_n 3, 1) := by decide +kernel
theorem dX8_above_16 : decode cX8_above 16 = .ok (.i2l, 1) := by decide +kernel
theorem dX8_above_17 : decode cX8_above 17 = .ok (.lconst 0, 1) := by decide +kernel
theorem dX8_above_18 : decode cX8_above 18 = .ok (.lconst 1, 1) := by decide +kernel
theorem dX8_above_19 : decode cX8_above 19 = .ok (.invokestatic 106, 3) := by decide +kernel
theorem dX8_above_22 : decode cX8_above 22 = .ok (.ifCond .ne 10, 3) := by decide +kernel
theorem dX8_above_25 : decode cX8_above 25 = .ok (.aload_n 0, 1) := by decide +kernel
theorem dX8_above_26 : decode cX8_above 26 = .ok (.bipush (-10), 2) := by decide +kernel
theorem dX8_above_28 : decode cX8_above 28 = .ok (.invokevirtual 116, 3) := by decide +kernel
theorem dX8_above_31 : decode cX8_above 31 = .ok (.ireturn, 1) := by decide +kernel
theorem dX8_above_32 : decode cX8_above 32 = .ok (.iconst 0, 1) := by decide +kernel
theorem dX8_above_33 : decode cX8_above 33 = .ok (.istore 4, 2) := by decide +kernel
theorem dX8_above_35 : decode cX8_above 35 = .ok (.iconst (-1), 1) := by decide +kernel
theorem dX8_above_36 : decode cX8_above 36 = .ok (.istore 5, 2) := by decide +kernel
theorem dX8_above_38 : decode cX8_above 38 = .ok (.iconst 0, 1) := by decide +kernel
theorem dX8_above_39 : decode cX8_above 39 = .ok (.istore 6, 2) := by decide +kernel
theorem dX8_above_41 : decode cX8_above 41 = .ok (.iload 6, 2) := by decide +kernel
theorem dX8_above_43 : decode cX8_above 43 = .ok (.sipush 289, 3) := by decide +kernel
theorem dX8_above_46 : decode cX8_above 46 = .ok (.if_icmp .ge 73, 3) := by decide +kernel
theorem dX8_above_49 : decode cX8_above 49 = .ok (.iload 6, 2) := by decide +kernel
theorem dX8_above_51 : decode cX8_above 51 = .ok (.bipush 17, 2) := by decide +kernel
theorem dX8_above_53 : decode cX8_above 53 = .ok (.if_icmp .lt 11, 3) := by decide +kernel
theorem dX8_above_56 : decode cX8_above 56 = .ok (.iload 6, 2) := by decide +kernel
theorem dX8_above_58 : decode cX8_above 58 = .ok (.bipush 17, 2) := by decide +kernel
theorem dX8_above_60 : decode cX8_above 60 = .ok (.irem, 1) := by decide +kernel
theorem dX8_above_61 : decode cX8_above 61 = .ok (.ifCond .le 7, 3) := by decide +kernel
theorem dX8_above_64 : decode cX8_above 64 = .ok (.iconst 1, 1) := by decide +kernel
theorem dX8_above_65 : decode cX8_above 65 = .ok (.goto 4, 3) := by decide +kernel
theorem dX8_above_68 : decode cX8_above 68 = .ok (.iconst 0, 1) := by decide +kernel
theorem dX8_above_69 : decode cX8_above 69 = .ok (.istore 7, 2) := by decide +kernel
theorem dX8_above_71 : decode cX8_above 71 = .ok (.iload 7, 2) := by decide +kernel
theorem dX8_above_73 : decode cX8_above 73 = .ok (.ifCond .eq 40, 3) := by decide +kernel
theorem dX8_above_76 : decode cX8_above 76 = .ok (.aload_n 0, 1) := by decide +kernel
theorem dX8_above_77 : decode cX8_above 77 = .ok (.iload_n 1, 1) := by decide +kernel
theorem dX8_above_78 : decode cX8_above 78 = .ok (.iload 6, 2) := by decide +kernel
theorem dX8_above_80 : decode cX8_above 80 = .ok (.invokestatic 203, 3) := by decide +kernel
theorem dX8_above_83 : decode cX8_above 83 = .ok (.invokevirtual 158, 3) := by decide +kernel
theorem dX8_above_86 : decode cX8_above 86 = .ok (.aload_n 0, 1) := by decide +kernel
theorem dX8_above_87 : decode cX8_above 87 = .ok (.getfield 16, 3) := by decide +kernel
theorem dX8_above_90 : decode cX8_above 90 = .ok (.iload_n 2, 1) := by decide +kernel
theorem dX8_above_91 : decode cX8_above 91 = .ok (.laload, 1) := by decide +kernel
theorem dX8_above_92 : decode cX8_above 92 = .ok (.lcmp, 1) := by decide +kernel
theorem dX8_above_93 : decode cX8_above 93 = .ok (.ifCond .ne 20, 3) := by decide +kernel
theorem dX8_above_96 : decode cX8_above 96 = .ok (.iload 4, 2) := by decide +kernel
theorem dX8_above_98 : decode cX8_above 98 = .ok (.ifCond .ne 8, 3) := by decide +kernel
theorem dX8_above_101 : decode cX8_above 101 = .ok (.iload 6, 2) := by decide +kernel
theorem dX8_above_103 : decode cX8_above 103 = .ok (.goto 5, 3) := by decide +kernel
theorem dX8_above_106 : decode cX8_above 106 = .ok (.iload 5, 2) := by decide +kernel
theorem dX8_above_108 : decode cX8_above 108 = .ok (.istore 5, 2) := by decide +kernel
theorem dX8_above_110 : decode cX8_above 110 = .ok (.iinc 4 1, 3) := by decide +kernel
theorem dX8_above_113 : decode cX8_above 113 = .ok (.iinc 6 1, 3) := by decide +kernel
theorem dX8_above_116 : decode cX8_above 116 = .ok (.goto (-75), 3) := by decide +kernel
theorem dX8_above_119 : decode cX8_above 119 = .ok (.iload_n 3, 1) := by decide +kernel
theorem dX8_above_120 : decode cX8_above 120 = .ok (.ifCond .ne 8, 3) := by decide +kernel
theorem dX8_above_123 : decode cX8_above 123 = .ok (.iload 4, 2) := by decide +kernel
theorem dX8_above_125 : decode cX8_above 125 = .ok (.goto 5, 3) := by decide +kernel
theorem dX8_above_128 : decode cX8_above 128 = .ok (.iload 5, 2) := by decide +kernel
theorem dX8_above_130 : decode cX8_above 130 = .ok (.ireturn, 1) := by decide +kernel
theorem dX8_note_0 : decode cX8_note 0 = .ok (.aload_n 0, 1) := by decide +kernel
theorem dX8_note_1 : decode cX8_note 1 = .ok (.iload_n 1, 1) := by decide +kernel
theorem dX8_note_2 : decode cX8_note 2 = .ok (.invokevirtual 139, 3) := by decide +kernel
theorem dX8_note_5 : decode cX8_note 5 = .ok (.ifCond .eq 17, 3) := by decide +kernel
theorem dX8_note_8 : decode cX8_note 8 = .ok (.iload_n 2, 1) := by decide +kernel
theorem dX8_note_9 : decode cX8_note 9 = .ok (.invokestatic 148, 3) := by decide +kernel
theorem dX8_note_12 : decode cX8_note 12 = .ok (.ifCond .eq 10, 3) := by decide +kernel
theorem dX8_note_15 : decode cX8_note 15 = .ok (.iload_n 3, 1) := by decide +kernel
theorem dX8_note_16 : decode cX8_note 16 = .ok (.invokestatic 148, 3) := by decide +kernel
theorem dX8_note_19 : decode cX8_note 19 = .ok (.ifCond .ne 10, 3) := by decide +kernel
theorem dX8_note_22 : decode cX8_note 22 = .ok (.aload_n 0, 1) := by decide +kernel
theorem dX8_note_23 : decode cX8_note 23 = .ok (.bipush (-2), 2) := by decide +kernel
theorem dX8_note_25 : decode cX8_note 25 = .ok (.invokevirtual 116, 3) := by decide +kernel
theorem dX8_note_28 : decode cX8_note 28 = .ok (.ireturn, 1) := by decide +kernel
theorem dX8_note_29 : decode cX8_note 29 = .ok (.aload_n 0, 1) := by decide +kernel
theorem dX8_note_30 : decode cX8_note 30 = .ok (.getfield 7, 3) := by decide +kernel
theorem dX8_note_33 : decode cX8_note 33 = .ok (.iconst 2, 1) := by decide +kernel
theorem dX8_note_34 : decode cX8_note 34 = .ok (.iaload, 1) := by decide +kernel
theorem dX8_note_35 : decode cX8_note 35 = .ok (.bipush 8, 2) := by decide +kernel
theorem dX8_note_37 : decode cX8_note 37 = .ok (.if_icmp .ne 8, 3) := by decide +kernel
theorem dX8_note_40 : decode cX8_note 40 = .ok (.aload_n 0, 1) := by decide +kernel
theorem dX8_note_41 : decode cX8_note 41 = .ok (.invokevirtual 128, 3) := by decide +kernel
theorem dX8_note_44 : decode cX8_note 44 = .ok (.ireturn, 1) := by decide +kernel
theorem dX8_note_45 : decode cX8_note 45 = .ok (.aload_n 0, 1) := by decide +kernel
theorem dX8_note_46 : decode cX8_note 46 = .ok (.getfield 7, 3) := by decide +kernel
theorem dX8_note_49 : decode cX8_note 49 = .ok (.iconst 2, 1) := by decide +kernel
theorem dX8_note_50 : decode cX8_note 50 = .ok (.iaload, 1) := by decide +kernel
theorem dX8_note_51 : decode cX8_note 51 = .ok (.istore 4, 2) := by decide +kernel
theorem dX8_note_53 : decode cX8_note 53 = .ok (.aload_n 0, 1) := by decide +kernel
theorem dX8_note_54 : decode cX8_note 54 = .ok (.getfield 7, 3) := by decide +kernel
theorem dX8_note_57 : decode cX8_note 57 = .ok (.bipush 36, 2) := by decide +kernel
theorem dX8_note_59 : decode cX8_note 59 = .ok (.iconst 2, 1) := by decide +kernel
theorem dX8_note_60 : decode cX8_note 60 = .ok (.iload 4, 2) := by decide +kernel
theorem dX8_note_62 : decode cX8_note 62 = .ok (.imul, 1) := by decide +kernel
theorem dX8_note_63 : decode cX8_note 63 = .ok (.iadd, 1) := by decide +kernel
theorem dX8_note_64 : decode cX8_note 64 = .ok (.iload_n 1, 1) := by decide +kernel
theorem dX8_note_65 : decode cX8_note 65 = .ok (.iastore, 1) := by decide +kernel
theorem dX8_note_66 : decode cX8_note 66 = .ok (.aload_n 0, 1) := by decide +kernel
theorem dX8_note_67 : decode cX8_note 67 = .ok (.getfield 7, 3) := by decide +kernel
theorem dX8_note_70 : decode cX8_note 70 = .ok (.bipush 36, 2) := by decide +kernel
theorem dX8_note_72 : decode cX8_note 72 = .ok (.iconst 2, 1) := by decide +kernel
end
section
theorem dX8_note_73 : decode cX8_note 73 = .ok (.iload 4, 2) := by decide +kernel
theorem dX8_note_75 : decode cX8_note 75 = .ok (.imul, 1) := by decide +kernel
theorem dX8_note_76 : decode cX8_note 76 = .ok (.iadd, 1) := by decide +kernel
theorem dX8_note_77 : decode cX8_note 77 = .ok (.iconst 1, 1) := by decide +kernel
theorem dX8_note_78 : decode cX8_note 78 = .ok (.iadd, 1) := by decide +kernel
theorem dX8_note_79 : decode cX8_note 79 = .ok (.aload_n 0, 1) := by decide +kernel
theorem dX8_note_80 : decode cX8_note 80 = .ok (.getfield 7, 3) := by decide +kernel
theorem dX8_note_83 : decode cX8_note 83 = .ok (.iconst 1, 1) := by decide +kernel
theorem dX8_note_84 : decode cX8_note 84 = .ok (.iaload, 1) := by decide +kernel
theorem dX8_note_85 : decode cX8_note 85 = .ok (.iastore, 1) := by decide +kernel
theorem dX8_note_86 : decode cX8_note 86 = .ok (.aload_n 0, 1) := by decide +kernel
theorem dX8_note_87 : decode cX8_note 87 = .ok (.getfield 16, 3) := by decide +kernel
theorem dX8_note_90 : decode cX8_note 90 = .ok (.iconst 4, 1) := by decide +kernel
theorem dX8_note_91 : decode cX8_note 91 = .ok (.iconst 2, 1) := by decide +kernel
theorem dX8_note_92 : decode cX8_note 92 = .ok (.iload 4, 2) := by decide +kernel
theorem dX8_note_94 : decode cX8_note 94 = .ok (.imul, 1) := by decide +kernel
theorem dX8_note_95 : decode cX8_note 95 = .ok (.iadd, 1) := by decide +kernel
theorem dX8_note_96 : decode cX8_note 96 = .ok (.aload_n 0, 1) := by decide +kernel
theorem dX8_note_97 : decode cX8_note 97 = .ok (.getfield 16, 3) := by decide +kernel
theorem dX8_note_100 : decode cX8_note 100 = .ok (.iload_n 2, 1) := by decide +kernel
theorem dX8_note_101 : decode cX8_note 101 = .ok (.laload, 1) := by decide +kernel
theorem dX8_note_102 : decode cX8_note 102 = .ok (.lastore, 1) := by decide +kernel
theorem dX8_note_103 : decode cX8_note 103 = .ok (.aload_n 0, 1) := by decide +kernel
theorem dX8_note_104 : decode cX8_note 104 = .ok (.getfield 16, 3) := by decide +kernel
theorem dX8_note_107 : decode cX8_note 107 = .ok (.iconst 4, 1) := by decide +kernel
theorem dX8_note_108 : decode cX8_note 108 = .ok (.iconst 2, 1) := by decide +kernel
theorem dX8_note_109 : decode cX8_note 109 = .ok (.iload 4, 2) := by decide +kernel
theorem dX8_note_111 : decode cX8_note 111 = .ok (.imul, 1) := by decide +kernel
theorem dX8_note_112 : decode cX8_note 112 = .ok (.iadd, 1) := by decide +kernel
theorem dX8_note_113 : decode cX8_note 113 = .ok (.iconst 1, 1) := by decide +kernel
theorem dX8_note_114 : decode cX8_note 114 = .ok (.iadd, 1) := by decide +kernel
theorem dX8_note_115 : decode cX8_note 115 = .ok (.aload_n 0, 1) := by decide +kernel
theorem dX8_note_116 : decode cX8_note 116 = .ok (.getfield 16, 3) := by decide +kernel
theorem dX8_note_119 : decode cX8_note 119 = .ok (.iload_n 3, 1) := by decide +kernel
theorem dX8_note_120 : decode cX8_note 120 = .ok (.laload, 1) := by decide +kernel
theorem dX8_note_121 : decode cX8_note 121 = .ok (.lastore, 1) := by decide +kernel
theorem dX8_note_122 : decode cX8_note 122 = .ok (.aload_n 0, 1) := by decide +kernel
theorem dX8_note_123 : decode cX8_note 123 = .ok (.getfield 7, 3) := by decide +kernel
theorem dX8_note_126 : decode cX8_note 126 = .ok (.iconst 2, 1) := by decide +kernel
theorem dX8_note_127 : decode cX8_note 127 = .ok (.dup2, 1) := by decide +kernel
theorem dX8_note_128 : decode cX8_note 128 = .ok (.iaload, 1) := by decide +kernel
theorem dX8_note_129 : decode cX8_note 129 = .ok (.iconst 1, 1) := by decide +kernel
theorem dX8_note_130 : decode cX8_note 130 = .ok (.iadd, 1) := by decide +kernel
theorem dX8_note_131 : decode cX8_note 131 = .ok (.iastore, 1) := by decide +kernel
theorem dX8_note_132 : decode cX8_note 132 = .ok (.aload_n 0, 1) := by decide +kernel
theorem dX8_note_133 : decode cX8_note 133 = .ok (.getfield 7, 3) := by decide +kernel
theorem dX8_note_136 : decode cX8_note 136 = .ok (.iconst 2, 1) := by decide +kernel
theorem dX8_note_137 : decode cX8_note 137 = .ok (.iaload, 1) := by decide +kernel
theorem dX8_note_138 : decode cX8_note 138 = .ok (.ireturn, 1) := by decide +kernel
theorem dX8_forget_0 : decode cX8_forget 0 = .ok (.aload_n 0, 1) := by decide +kernel
theorem dX8_forget_1 : decode cX8_forget 1 = .ok (.getfield 7, 3) := by decide +kernel
theorem dX8_forget_4 : decode cX8_forget 4 = .ok (.iconst 2, 1) := by decide +kernel
theorem dX8_forget_5 : decode cX8_forget 5 = .ok (.iaload, 1) := by decide +kernel
theorem dX8_forget_6 : decode cX8_forget 6 = .ok (.istore_n 1, 1) := by decide +kernel
theorem dX8_forget_7 : decode cX8_forget 7 = .ok (.aload_n 0, 1) := by decide +kernel
theorem dX8_forget_8 : decode cX8_forget 8 = .ok (.getfield 7, 3) := by decide +kernel
theorem dX8_forget_11 : decode cX8_forget 11 = .ok (.iconst 2, 1) := by decide +kernel
theorem dX8_forget_12 : decode cX8_forget 12 = .ok (.iconst 0, 1) := by decide +kernel
theorem dX8_forget_13 : decode cX8_forget 13 = .ok (.iastore, 1) := by decide +kernel
theorem dX8_forget_14 : decode cX8_forget 14 = .ok (.iload_n 1, 1) := by decide +kernel
theorem dX8_forget_15 : decode cX8_forget 15 = .ok (.ireturn, 1) := by decide +kernel
theorem dX8_doesFit_0 : decode cX8_doesFit 0 = .ok (.iconst 1, 1) := by decide +kernel
theorem dX8_doesFit_1 : decode cX8_doesFit 1 = .ok (.istore_n 3, 1) := by decide +kernel
theorem dX8_doesFit_2 : decode cX8_doesFit 2 = .ok (.iconst 0, 1) := by decide +kernel
theorem dX8_doesFit_3 : decode cX8_doesFit 3 = .ok (.istore 4, 2) := by decide +kernel
theorem dX8_doesFit_5 : decode cX8_doesFit 5 = .ok (.iload 4, 2) := by decide +kernel
theorem dX8_doesFit_7 : decode cX8_doesFit 7 = .ok (.aload_n 0, 1) := by decide +kernel
theorem dX8_doesFit_8 : decode cX8_doesFit 8 = .ok (.getfield 7, 3) := by decide +kernel
theorem dX8_doesFit_11 : decode cX8_doesFit 11 = .ok (.iconst 2, 1) := by decide +kernel
theorem dX8_doesFit_12 : decode cX8_doesFit 12 = .ok (.iaload, 1) := by decide +kernel
theorem dX8_doesFit_13 : decode cX8_doesFit 13 = .ok (.if_icmp .ge 100, 3) := by decide +kernel
theorem dX8_doesFit_16 : decode cX8_doesFit 16 = .ok (.aload_n 0, 1) := by decide +kernel
theorem dX8_doesFit_17 : decode cX8_doesFit 17 = .ok (.getfield 7, 3) := by decide +kernel
theorem dX8_doesFit_20 : decode cX8_doesFit 20 = .ok (.bipush 36, 2) := by decide +kernel
theorem dX8_doesFit_22 : decode cX8_doesFit 22 = .ok (.iconst 2, 1) := by decide +kernel
theorem dX8_doesFit_23 : decode cX8_doesFit 23 = .ok (.iload 4, 2) := by decide +kernel
theorem dX8_doesFit_25 : decode cX8_doesFit 25 = .ok (.imul, 1) := by decide +kernel
theorem dX8_doesFit_26 : decode cX8_doesFit 26 = .ok (.iadd, 1) := by decide +kernel
theorem dX8_doesFit_27 : decode cX8_doesFit 27 = .ok (.iaload, 1) := by decide +kernel
theorem dX8_doesFit_28 : decode cX8_doesFit 28 = .ok (.iload_n 1, 1) := by decide +kernel
theorem dX8_doesFit_29 : decode cX8_doesFit 29 = .ok (.if_icmp .ne 7, 3) := by decide +kernel
theorem dX8_doesFit_32 : decode cX8_doesFit 32 = .ok (.iconst 1, 1) := by decide +kernel
theorem dX8_doesFit_33 : decode cX8_doesFit 33 = .ok (.goto 4, 3) := by decide +kernel
theorem dX8_doesFit_36 : decode cX8_doesFit 36 = .ok (.iconst 0, 1) := by decide +kernel
theorem dX8_doesFit_37 : decode cX8_doesFit 37 = .ok (.istore 5, 2) := by decide +kernel
theorem dX8_doesFit_39 : decode cX8_doesFit 39 = .ok (.iload_n 3, 1) := by decide +kernel
theorem dX8_doesFit_40 : decode cX8_doesFit 40 = .ok (.ifCond .eq 65, 3) := by decide +kernel
theorem dX8_doesFit_43 : decode cX8_doesFit 43 = .ok (.iload 5, 2) := by decide +kernel
theorem dX8_doesFit_45 : decode cX8_doesFit 45 = .ok (.ifCond .eq 56, 3) := by decide +kernel
theorem dX8_doesFit_48 : decode cX8_doesFit 48 = .ok (.iload_n 2, 1) := by decide +kernel
theorem dX8_doesFit_49 : decode cX8_doesFit 49 = .ok (.bipush 16, 2) := by decide +kernel
theorem dX8_doesFit_51 : decode cX8_doesFit 51 = .ok (.idiv, 1) := by decide +kernel
theorem dX8_doesFit_52 : decode cX8_doesFit 52 = .ok (.iload_n 2, 1) := by decide +kernel
theorem dX8_doesFit_53 : decode cX8_doesFit 53 = .ok (.bipush 16, 2) := by decide +kernel
theorem dX8_doesFit_55 : decode cX8_doesFit 55 = .ok (.irem, 1) := by decide +kernel
theorem dX8_doesFit_56 : decode cX8_doesFit 56 = .ok (.aload_n 0, 1) := by decide +kernel
theorem dX8_doesFit_57 : decode cX8_doesFit 57 = .ok (.getfield 7, 3) := by decide +kernel
theorem dX8_doesFit_60 : decode cX8_doesFit 60 = .ok (.bipush 36, 2) := by decide +kernel
theorem dX8_doesFit_62 : decode cX8_doesFit 62 = .ok (.iconst 2, 1) := by decide +kernel
theorem dX8_doesFit_63 : decode cX8_doesFit 63 = .ok (.iload 4, 2) := by decide +kernel
theorem dX8_doesFit_65 : decode cX8_doesFit 65 = .ok (.imul, 1) := by decide +kernel
theorem dX8_doesFit_66 : decode cX8_doesFit 66 = .ok (.iadd, 1) := by decide +kernel
theorem dX8_doesFit_67 : decode cX8_doesFit 67 = .ok (.iconst 1, 1) := by decide +kernel
theorem dX8_doesFit_68 : decode cX8_doesFit 68 = .ok (.iadd, 1) := by decide +kernel
theorem dX8_doesFit_69 : decode cX8_doesFit 69 = .ok (.iaload, 1) := by decide +kernel
theorem dX8_doesFit_70 : decode cX8_doesFit 70 = .ok (.aload_n 0, 1) := by decide +kernel
theorem dX8_doesFit_71 : decode cX8_doesFit 71 = .ok (.getfield 16, 3) := by decide +kernel
theorem dX8_doesFit_74 : decode cX8_doesFit 74 = .ok (.iconst 4, 1) := by decide +kernel
theorem dX8_doesFit_75 : decode cX8_doesFit 75 = .ok (.iconst 2, 1) := by decide +kernel
theorem dX8_doesFit_76 : decode cX8_doesFit 76 = .ok (.iload 4, 2) := by decide +kernel
theorem dX8_doesFit_78 : decode cX8_doesFit 78 = .ok (.imul, 1) := by decide +kernel
theorem dX8_doesFit_79 : decode cX8_doesFit 79 = .ok (.iadd, 1) := by decide +kernel
theorem dX8_doesFit_80 : decode cX8_doesFit 80 = .ok (.laload, 1) := by decide +kernel
theorem dX8_doesFit_81 : decode cX8_doesFit 81 = .ok (.invokestatic 154, 3) := by decide +kernel
theorem dX8_doesFit_84 : decode cX8_doesFit 84 = .ok (.aload_n 0, 1) := by decide +kernel
theorem dX8_doesFit_85 : decode cX8_doesFit 85 = .ok (.getfield 16, 3) := by decide +kernel
theorem dX8_doesFit_88 : decode cX8_doesFit 88 = .ok (.iconst 4, 1) := by decide +kernel
theorem dX8_doesFit_89 : decode cX8_doesFit 89 = .ok (.iconst 2, 1) := by decide +kernel
theorem dX8_doesFit_90 : decode cX8_doesFit 90 = .ok (.iload 4, 2) := by decide +kernel
theorem dX8_doesFit_92 : decode cX8_doesFit 92 = .ok (.imul, 1) := by decide +kernel
theorem dX8_doesFit_93 : decode cX8_doesFit 93 = .ok (.iadd, 1) := by decide +kernel
theorem dX8_doesFit_94 : decode cX8_doesFit 94 = .ok (.iconst 1, 1) := by decide +kernel
theorem dX8_doesFit_95 : decode cX8_doesFit 95 = .ok (.iadd, 1) := by decide +kernel
theorem dX8_doesFit_96 : decode cX8_doesFit 96 = .ok (.laload, 1) := by decide +kernel
theorem dX8_doesFit_97 : decode cX8_doesFit 97 = .ok (.lcmp, 1) := by decide +kernel
theorem dX8_doesFit_98 : decode cX8_doesFit 98 = .ok (.ifCond .ne 7, 3) := by decide +kernel
theorem dX8_doesFit_101 : decode cX8_doesFit 101 = .ok (.iconst 1, 1) := by decide +kernel
theorem dX8_doesFit_102 : decode cX8_doesFit 102 = .ok (.goto 4, 3) := by decide +kernel
theorem dX8_doesFit_105 : decode cX8_doesFit 105 = .ok (.iconst 0, 1) := by decide +kernel
theorem dX8_doesFit_106 : decode cX8_doesFit 106 = .ok (.istore_n 3, 1) := by decide +kernel
theorem dX8_doesFit_107 : decode cX8_doesFit 107 = .ok (.iinc 4 1, 3) := by decide +kernel
theorem dX8_doesFit_110 : decode cX8_doesFit 110 = .ok (.goto (-105), 3) := by decide +kernel
theorem dX8_doesFit_113 : decode cX8_doesFit 113 = .ok (.iload_n 3, 1) := by decide +kernel
theorem dX8_doesFit_114 : decode cX8_doesFit 114 = .ok (.ireturn, 1) := by decide +kernel
theorem dX8_fits_0 : decode cX8_fits 0 = .ok (.aload_n 0, 1) := by decide +kernel
theorem dX8_fits_1 : decode cX8_fits 1 = .ok (.iload_n 1, 1) := by decide +kernel
theorem dX8_fits_2 : decode cX8_fits 2 = .ok (.invokevirtual 139, 3) := by decide +kernel
theorem dX8_fits_5 : decode cX8_fits 5 = .ok (.ifCond .eq 13, 3) := by decide +kernel
theorem dX8_fits_8 : decode cX8_fits 8 = .ok (.iload_n 2, 1) := by decide +kernel
theorem dX8_fits_9 : decode cX8_fits 9 = .ok (.i2l, 1) := by decide +kernel
theorem dX8_fits_10 : decode cX8_fits 10 = .ok (.lconst 0, 1) := by decide +kernel
theorem dX8_fits_11 : decode cX8_fits 11 = .ok (.lconst 1, 1) := by decide +kernel
theorem dX8_fits_12 : decode cX8_fits 12 = .ok (.invokestatic 106, 3) := by decide +kernel
theorem dX8_fits_15 : decode cX8_fits 15 = .ok (.ifCond .ne 10, 3) := by decide +kernel
theorem dX8_fits_18 : decode cX8_fits 18 = .ok (.aload_n 0, 1) := by decide +kernel
theorem dX8_fits_19 : decode cX8_fits 19 = .ok (.bipush (-10), 2) := by decide +kernel
theorem dX8_fits_21 : decode cX8_fits 21 = .ok (.invokevirtual 116, 3) := by decide +kernel
theorem dX8_fits_24 : decode cX8_fits 24 = .ok (.ireturn, 1) := by decide +kernel
theorem dX8_fits_25 : decode cX8_fits 25 = .ok (.iconst 0, 1) := by decide +kernel
theorem dX8_fits_26 : decode cX8_fits 26 = .ok (.istore_n 3, 1) := by decide +kernel
theorem dX8_fits_27 : decode cX8_fits 27 = .ok (.iconst (-1), 1) := by decide +kernel
theorem dX8_fits_28 : decode cX8_fits 28 = .ok (.istore 4, 2) := by decide +kernel
theorem dX8_fits_30 : decode cX8_fits 30 = .ok (.iconst 0, 1) := by decide +kernel
theorem dX8_fits_31 : decode cX8_fits 31 = .ok (.istore 5, 2) := by decide +kernel
theorem dX8_fits_33 : decode cX8_fits 33 = .ok (.iload 5, 2) := by decide +kernel
theorem dX8_fits_35 : decode cX8_fits 35 = .ok (.bipush 96, 2) := by decide +kernel
theorem dX8_fits_37 : decode cX8_fits 37 = .ok (.if_icmp .ge 35, 3) := by decide +kernel
theorem dX8_fits_40 : decode cX8_fits 40 = .ok (.aload_n 0, 1) := by decide +kernel
theorem dX8_fits_41 : decode cX8_fits 41 = .ok (.iload_n 1, 1) := by decide +kernel
theorem dX8_fits_42 : decode cX8_fits 42 = .ok (.iload 5, 2) := by decide +kernel
theorem dX8_fits_44 : decode cX8_fits 44 = .ok (.invokevirtual 207, 3) := by decide +kernel
theorem dX8_fits_47 : decode cX8_fits 47 = .ok (.ifCond .eq 19, 3) := by decide +kernel
theorem dX8_fits_50 : decode cX8_fits 50 = .ok (.iload_n 3, 1) := by decide +kernel
theorem dX8_fits_51 : decode cX8_fits 51 = .ok (.ifCond .ne 8, 3) := by decide +kernel
theorem dX8_fits_54 : decode cX8_fits 54 = .ok (.iload 5, 2) := by decide +kernel
theorem dX8_fits_56 : decode cX8_fits 56 = .ok (.goto 5, 3) := by decide +kernel
theorem dX8_fits_59 : decode cX8_fits 59 = .ok (.iload 4, 2) := by decide +kernel
theorem dX8_fits_61 : decode cX8_fits 61 = .ok (.istore 4, 2) := by decide +kernel
theorem dX8_fits_63 : decode cX8_fits 63 = .ok (.iinc 3 1, 3) := by decide +kernel
theorem dX8_fits_66 : decode cX8_fits 66 = .ok (.iinc 5 1, 3) := by decide +kernel
theorem dX8_fits_69 : decode cX8_fits 69 = .ok (.goto (-36), 3) := by decide +kernel
theorem dX8_fits_72 : decode cX8_fits 72 = .ok (.iload_n 2, 1) := by decide +kernel
theorem dX8_fits_73 : decode cX8_fits 73 = .ok (.ifCond .ne 7, 3) := by decide +kernel
theorem dX8_fits_76 : decode cX8_fits 76 = .ok (.iload_n 3, 1) := by decide +kernel
theorem dX8_fits_77 : decode cX8_fits 77 = .ok (.goto 5, 3) := by decide +kernel
theorem dX8_fits_80 : decode cX8_fits 80 = .ok (.iload 4, 2) := by decide +kernel
theorem dX8_fits_82 : decode cX8_fits 82 = .ok (.ireturn, 1) := by decide +kernel
theorem dX8_mostAlike_0 : decode cX8_mostAlike 0 = .ok (.iconst 0, 1) := by decide +kernel
theorem dX8_mostAlike_1 : decode cX8_mostAlike 1 = .ok (.istore_n 2, 1) := by decide +kernel
theorem dX8_mostAlike_2 : decode cX8_mostAlike 2 = .ok (.iconst 0, 1) := by decide +kernel
theorem dX8_mostAlike_3 : decode cX8_mostAlike 3 = .ok (.istore_n 3, 1) := by decide +kernel
theorem dX8_mostAlike_4 : decode cX8_mostAlike 4 = .ok (.iload_n 3, 1) := by decide +kernel
theorem dX8_mostAlike_5 : decode cX8_mostAlike 5 = .ok (.bipush 96, 2) := by decide +kernel
theorem dX8_mostAlike_7 : decode cX8_mostAlike 7 = .ok (.if_icmp .ge 126, 3) := by decide +kernel
theorem dX8_mostAlike_10 : decode cX8_mostAlike 10 = .ok (.iconst 0, 1) := by decide +kernel
theorem dX8_mostAlike_11 : decode cX8_mostAlike 11 = .ok (.istore 4, 2) := by decide +kernel
theorem dX8_mostAlike_13 : decode cX8_mostAlike 13 = .ok (.iload_n 3, 1) := by decide +kernel
theorem dX8_mostAlike_14 : decode cX8_mostAlike 14 = .ok (.bipush 16, 2) := by decide +kernel
theorem dX8_mostAlike_16 : decode cX8_mostAlike 16 = .ok (.idiv, 1) := by decide +kernel
theorem dX8_mostAlike_17 : decode cX8_mostAlike 17 = .ok (.iload_n 3, 1) := by decide +kernel
theorem dX8_mostAlike_18 : decode cX8_mostAlike 18 = .ok (.bipush 16, 2) := by decide +kernel
theorem dX8_mostAlike_20 : decode cX8_mostAlike 20 = .ok (.irem, 1) := by decide +kernel
theorem dX8_mostAlike_21 : decode cX8_mostAlike 21 = .ok (.aload_n 0, 1) := by decide +kernel
theorem dX8_mostAlike_22 : decode cX8_mostAlike 22 = .ok (.getfield 7, 3) := by decide +kernel
theorem dX8_mostAlike_25 : decode cX8_mostAlike 25 = .ok (.iconst 1, 1) := by decide +kernel
theorem dX8_mostAlike_26 : decode cX8_mostAlike 26 = .ok (.iaload, 1) := by decide +kernel
theorem dX8_mostAlike_27 : decode cX8_mostAlike 27 = .ok (.aload_n 0, 1) := by decide +kernel
theorem dX8_mostAlike_28 : decode cX8_mostAlike 28 = .ok (.getfield 16, 3) := by decide +kernel
theorem dX8_mostAlike_31 : decode cX8_mostAlike 31 = .ok (.iload_n 1, 1) := by decide +kernel
theorem dX8_mostAlike_32 : decode cX8_mostAlike 32 = .ok (.laload, 1) := by decide +kernel
theorem dX8_mostAlike_33 : decode cX8_mostAlike 33 = .ok (.invokestatic 154, 3) := by decide +kernel
theorem dX8_mostAlike_36 : decode cX8_mostAlike 36 = .ok (.lstore 5, 2) := by decide +kernel
theorem dX8_mostAlike_38 : decode cX8_mostAlike 38 = .ok (.iconst 0, 1) := by decide +kernel
theorem dX8_mostAlike_39 : decode cX8_mostAlike 39 = .ok (.istore 7, 2) := by decide +kernel
theorem dX8_mostAlike_41 : decode cX8_mostAlike 41 = .ok (.iload 7, 2) := by decide +kernel
theorem dX8_mostAlike_43 : decode cX8_mostAlike 43 = .ok (.bipush 96, 2) := by decide +kernel
theorem dX8_mostAlike_45 : decode cX8_mostAlike 45 = .ok (.if_icmp .ge 69, 3) := by decide +kernel
theorem dX8_mostAlike_48 : decode cX8_mostAlike 48 = .ok (.aload_n 0, 1) := by decide +kernel
theorem dX8_mostAlike_49 : decode cX8_mostAlike 49 = .ok (.getfield 49, 3) := by decide +kernel
theorem dX8_mostAlike_52 : decode cX8_mostAlike 52 = .ok (.iload_n 3, 1) := by decide +kernel
theorem dX8_mostAlike_53 : decode cX8_mostAlike 53 = .ok (.baload, 1) := by decide +kernel
theorem dX8_mostAlike_54 : decode cX8_mostAlike 54 = .ok (.ifCond .eq 60, 3) := by decide +kernel
theorem dX8_mostAlike_57 : decode cX8_mostAlike 57 = .ok (.iload 4, 2) := by decide +kernel
theorem dX8_mostAlike_59 : decode cX8_mostAlike 59 = .ok (.aload_n 0, 1) := by decide +kernel
theorem dX8_mostAlike_60 : decode cX8_mostAlike 60 = .ok (.getfield 49, 3) := by decide +kernel
theorem dX8_mostAlike_63 : decode cX8_mostAlike 63 = .ok (.iload 7, 2) := by decide +kernel
theorem dX8_mostAlike_65 : decode cX8_mostAlike 65 = .ok (.baload, 1) := by decide +kernel
theorem dX8_mostAlike_66 : decode cX8_mostAlike 66 = .ok (.ifCond .eq 38, 3) := by decide +kernel
theorem dX8_mostAlike_69 : decode cX8_mostAlike 69 = .ok (.iload 7, 2) := by decide +kernel
theorem dX8_mostAlike_71 : decode cX8_mostAlike 71 = .ok (.bipush 16, 2) := by decide +kernel
theorem dX8_mostAlike_73 : decode cX8_mostAlike 73 = .ok (.idiv, 1) := by decide +kernel
theorem dX8_mostAlike_74 : decode cX8_mostAlike 74 = .ok (.iload 7, 2) := by decide +kernel
theorem dX8_mostAlike_76 : decode cX8_mostAlike 76 = .ok (.bipush 16, 2) := by decide +kernel
theorem dX8_mostAlike_78 : decode cX8_mostAlike 78 = .ok (.irem, 1) := by decide +kernel
theorem dX8_mostAlike_79 : decode cX8_mostAlike 79 = .ok (.aload_n 0, 1) := by decide +kernel
theorem dX8_mostAlike_80 : decode cX8_mostAlike 80 = .ok (.getfield 7, 3) := by decide +kernel
theorem dX8_mostAlike_83 : decode cX8_mostAlike 83 = .ok (.iconst 1, 1) := by decide +kernel
theorem dX8_mostAlike_84 : decode cX8_mostAlike 84 = .ok (.iaload, 1) := by decide +kernel
theorem dX8_mostAlike_85 : decode cX8_mostAlike 85 = .ok (.aload_n 0, 1) := by decide +kernel
theorem dX8_mostAlike_86 : decode cX8_mostAlike 86 = .ok (.getfield 16, 3) := by decide +kernel
theorem dX8_mostAlike_89 : decode cX8_mostAlike 89 = .ok (.iload_n 1, 1) := by decide +kernel
theorem dX8_mostAlike_90 : decode cX8_mostAlike 90 = .ok (.laload, 1) := by decide +kernel
theorem dX8_mostAlike_91 : decode cX8_mostAlike 91 = .ok (.invokestatic 154, 3) := by decide +kernel
theorem dX8_mostAlike_94 : decode cX8_mostAlike 94 = .ok (.lload 5, 2) := by decide +kernel
theorem dX8_mostAlike_96 : decode cX8_mostAlike 96 = .ok (.lcmp, 1) := by decide +kernel
theorem dX8_mostAlike_97 : decode cX8_mostAlike 97 = .ok (.ifCond .ne 7, 3) := by decide +kernel
theorem dX8_mostAlike_100 : decode cX8_mostAlike 100 = .ok (.iconst 1, 1) := by decide +kernel
theorem dX8_mostAlike_101 : decode cX8_mostAlike 101 = .ok (.goto 4, 3) := by decide +kernel
theorem dX8_mostAlike_104 : decode cX8_mostAlike 104 = .ok (.iconst 0, 1) := by decide +kernel
theorem dX8_mostAlike_105 : decode cX8_mostAlike 105 = .ok (.iadd, 1) := by decide +kernel
theorem dX8_mostAlike_106 : decode cX8_mostAlike 106 = .ok (.istore 4, 2) := by decide +kernel
theorem dX8_mostAlike_108 : decode cX8_mostAlike 108 = .ok (.iinc 7 1, 3) := by decide +kernel
theorem dX8_mostAlike_111 : decode cX8_mostAlike 111 = .ok (.goto (-70), 3) := by decide +kernel
theorem dX8_mostAlike_114 : decode cX8_mostAlike 114 = .ok (.iload 4, 2) := by decide +kernel
theorem dX8_mostAlike_116 : decode cX8_mostAlike 116 = .ok (.iload_n 2, 1) := by decide +kernel
theorem dX8_mostAlike_117 : decode cX8_mostAlike 117 = .ok (.if_icmp .le 8, 3) := by decide +kernel
theorem dX8_mostAlike_120 : decode cX8_mostAlike 120 = .ok (.iload 4, 2) := by decide +kernel
theorem dX8_mostAlike_122 : decode cX8_mostAlike 122 = .ok (.goto 4, 3) := by decide +kernel
theorem dX8_mostAlike_125 : decode cX8_mostAlike 125 = .ok (.iload_n 2, 1) := by decide +kernel
theorem dX8_mostAlike_126 : decode cX8_mostAlike 126 = .ok (.istore_n 2, 1) := by decide +kernel
theorem dX8_mostAlike_127 : decode cX8_mostAlike 127 = .ok (.iinc 3 1, 3) := by decide +kernel
theorem dX8_mostAlike_130 : decode cX8_mostAlike 130 = .ok (.goto (-126), 3) := by decide +kernel
theorem dX8_mostAlike_133 : decode cX8_mostAlike 133 = .ok (.iload_n 2, 1) := by decide +kernel
theorem dX8_mostAlike_134 : decode cX8_mostAlike 134 = .ok (.ireturn, 1) := by decide +kernel
theorem dX8_tries_0 : decode cX8_tries 0 = .ok (.aload_n 0, 1) := by decide +kernel
theorem dX8_tries_1 : decode cX8_tries 1 = .ok (.iload_n 1, 1) := by decide +kernel
theorem dX8_tries_2 : decode cX8_tries 2 = .ok (.invokevirtual 139, 3) := by decide +kernel
theorem dX8_tries_5 : decode cX8_tries 5 = .ok (.ifCond .ne 10, 3) := by decide +kernel
theorem dX8_tries_8 : decode cX8_tries 8 = .ok (.aload_n 0, 1) := by decide +kernel
theorem dX8_tries_9 : decode cX8_tries 9 = .ok (.bipush (-2), 2) := by decide +kernel
theorem dX8_tries_11 : decode cX8_tries 11 = .ok (.invokevirtual 116, 3) := by decide +kernel
theorem dX8_tries_14 : decode cX8_tries 14 = .ok (.ireturn, 1) := by decide +kernel
theorem dX8_tries_15 : decode cX8_tries 15 = .ok (.iconst 0, 1) := by decide +kernel
theorem dX8_tries_16 : decode cX8_tries 16 = .ok (.istore_n 2, 1) := by decide +kernel
theorem dX8_tries_17 : decode cX8_tries 17 = .ok (.iload_n 2, 1) := by decide +kernel
theorem dX8_tries_18 : decode cX8_tries 18 = .ok (.bipush 96, 2) := by decide +kernel
theorem dX8_tries_20 : decode cX8_tries 20 = .ok (.if_icmp .ge 21, 3) := by decide +kernel
theorem dX8_tries_23 : decode cX8_tries 23 = .ok (.aload_n 0, 1) := by decide +kernel
theorem dX8_tries_24 : decode cX8_tries 24 = .ok (.getfield 49, 3) := by decide +kernel
theorem dX8_tries_27 : decode cX8_tries 27 = .ok (.iload_n 2, 1) := by decide +kernel
theorem dX8_tries_28 : decode cX8_tries 28 = .ok (.aload_n 0, 1) := by decide +kernel
theorem dX8_tries_29 : decode cX8_tries 29 = .ok (.iload_n 1, 1) := by decide +kernel
theorem dX8_tries_30 : decode cX8_tries 30 = .ok (.iload_n 2, 1) := by decide +kernel
theorem dX8_tries_31 : decode cX8_tries 31 = .ok (.invokevirtual 207, 3) := by decide +kernel
theorem dX8_tries_34 : decode cX8_tries 34 = .ok (.bastore, 1) := by decide +kernel
theorem dX8_tries_35 : decode cX8_tries 35 = .ok (.iinc 2 1, 3) := by decide +kernel
theorem dX8_tries_38 : decode cX8_tries 38 = .ok (.goto (-21), 3) := by decide +kernel
theorem dX8_tries_41 : decode cX8_tries 41 = .ok (.iconst (-1), 1) := by decide +kernel
theorem dX8_tries_42 : decode cX8_tries 42 = .ok (.istore_n 2, 1) := by decide +kernel
theorem dX8_tries_43 : decode cX8_tries 43 = .ok (.ldc 211, 2) := by decide +kernel
theorem dX8_tries_45 : decode cX8_tries 45 = .ok (.istore_n 3, 1) := by decide +kernel
theorem dX8_tries_46 : decode cX8_tries 46 = .ok (.iconst 0, 1) := by decide +kernel
theorem dX8_tries_47 : decode cX8_tries 47 = .ok (.istore 4, 2) := by decide +kernel
theorem dX8_tries_49 : decode cX8_tries 49 = .ok (.iload 4, 2) := by decide +kernel
theorem dX8_tries_51 : decode cX8_tries 51 = .ok (.iconst 4, 1) := by decide +kernel
theorem dX8_tries_52 : decode cX8_tries 52 = .ok (.if_icmp .ge 53, 3) := by decide +kernel
theorem dX8_tries_55 : decode cX8_tries 55 = .ok (.aload_n 0, 1) := by decide +kernel
theorem dX8_tries_56 : decode cX8_tries 56 = .ok (.iload 4, 2) := by decide +kernel
theorem dX8_tries_58 : decode cX8_tries 58 = .ok (.invokevirtual 212, 3) := by decide +kernel
theorem dX8_tries_61 : decode cX8_tries 61 = .ok (.istore 5, 2) := by decide +kernel
theorem dX8_tries_63 : decode cX8_tries 63 = .ok (.iload 5, 2) := by decide +kernel
theorem dX8_tries_65 : decode cX8_tries 65 = .ok (.ifCond .le 14, 3) := by decide +kernel
theorem dX8_tries_68 : decode cX8_tries 68 = .ok (.iload 5, 2) := by decide +kernel
theorem dX8_tries_70 : decode cX8_tries 70 = .ok (.iload_n 3, 1) := by decide +kernel
theorem dX8_tries_71 : decode cX8_tries 71 = .ok (.if_icmp .ge 8, 3) := by decide +kernel
theorem dX8_tries_74 : decode cX8_tries 74 = .ok (.iload 4, 2) := by decide +kernel
theorem dX8_tries_76 : decode cX8_tries 76 = .ok (.goto 4, 3) := by decide +kernel
theorem dX8_tries_79 : decode cX8_tries 79 = .ok (.iload_n 2, 1) := by decide +kernel
theorem dX8_tries_80 : decode cX8_tries 80 = .ok (.istore_n 2, 1) := by decide +kernel
theorem dX8_tries_81 : decode cX8_tries 81 = .ok (.iload 5, 2) := by decide +kernel
theorem dX8_tries_83 : decode cX8_tries 83 = .ok (.ifCond .le 14, 3) := by decide +kernel
theorem dX8_tries_86 : decode cX8_tries 86 = .ok (.iload 5, 2) := by decide +kernel
theorem dX8_tries_88 : decode cX8_tries 88 = .ok (.iload_n 3, 1) := by decide +kernel
theorem dX8_tries_89 : decode cX8_tries 89 = .ok (.if_icmp .ge 8, 3) := by decide +kernel
theorem dX8_tries_92 : decode cX8_tries 92 = .ok (.iload 5, 2) := by decide +kernel
theorem dX8_tries_94 : decode cX8_tries 94 = .ok (.goto 4, 3) := by decide +kernel
theorem dX8_tries_97 : decode cX8_tries 97 = .ok (.iload_n 3, 1) := by decide +kernel
theorem dX8_tries_98 : decode cX8_tries 98 = .ok (.istore_n 3, 1) := by decide +kernel
theorem dX8_tries_99 : decode cX8_tries 99 = .ok (.iinc 4 1, 3) := by decide +kernel
theorem dX8_tries_102 : decode cX8_tries 102 = .ok (.goto (-53), 3) := by decide +kernel
theorem dX8_tries_105 : decode cX8_tries 105 = .ok (.iload_n 2, 1) := by decide +kernel
theorem dX8_tries_106 : decode cX8_tries 106 = .ok (.ireturn, 1) := by decide +kernel
theorem dX8_renamed_0 : decode cX8_renamed 0 = .ok (.iload_n 1, 1) := by decide +kernel
theorem dX8_renamed_1 : decode cX8_renamed 1 = .ok (.invokestatic 148, 3) := by decide +kernel
theorem dX8_renamed_4 : decode cX8_renamed 4 = .ok (.ifCond .eq 11, 3) := by decide +kernel
theorem dX8_renamed_7 : decode cX8_renamed 7 = .ok (.aload_n 0, 1) := by decide +kernel
theorem dX8_renamed_8 : decode cX8_renamed 8 = .ok (.iload_n 2, 1) := by decide +kernel
theorem dX8_renamed_9 : decode cX8_renamed 9 = .ok (.invokevirtual 139, 3) := by decide +kernel
theorem dX8_renamed_12 : decode cX8_renamed 12 = .ok (.ifCond .ne 10, 3) := by decide +kernel
theorem dX8_renamed_15 : decode cX8_renamed 15 = .ok (.aload_n 0, 1) := by decide +kernel
theorem dX8_renamed_16 : decode cX8_renamed 16 = .ok (.bipush (-2), 2) := by decide +kernel
theorem dX8_renamed_18 : decode cX8_renamed 18 = .ok (.invokevirtual 116, 3) := by decide +kernel
theorem dX8_renamed_21 : decode cX8_renamed 21 = .ok (.ireturn, 1) := by decide +kernel
theorem dX8_renamed_22 : decode cX8_renamed 22 = .ok (.aload_n 0, 1) := by decide +kernel
theorem dX8_renamed_23 : decode cX8_renamed 23 = .ok (.getfield 16, 3) := by decide +kernel
theorem dX8_renamed_26 : decode cX8_renamed 26 = .ok (.iload_n 1, 1) := by decide +kernel
theorem dX8_renamed_27 : decode cX8_renamed 27 = .ok (.laload, 1) := by decide +kernel
theorem dX8_renamed_28 : decode cX8_renamed 28 = .ok (.lstore_n 3, 1) := by decide +kernel
theorem dX8_renamed_29 : decode cX8_renamed 29 = .ok (.iconst 0, 1) := by decide +kernel
theorem dX8_renamed_30 : decode cX8_renamed 30 = .ok (.istore 5, 2) := by decide +kernel
theorem dX8_renamed_32 : decode cX8_renamed 32 = .ok (.iload 5, 2) := by decide +kernel
theorem dX8_renamed_34 : decode cX8_renamed 34 = .ok (.bipush 60, 2) := by decide +kernel
theorem dX8_renamed_36 : decode cX8_renamed 36 = .ok (.if_icmp .ge 54, 3) := by decide +kernel
theorem dX8_renamed_39 : decode cX8_renamed 39 = .ok (.aload_n 0, 1) := by decide +kernel
theorem dX8_renamed_40 : decode cX8_renamed 40 = .ok (.iload_n 2, 1) := by decide +kernel
theorem dX8_renamed_41 : decode cX8_renamed 41 = .ok (.iconst 2, 1) := by decide +kernel
theorem dX8_renamed_42 : decode cX8_renamed 42 = .ok (.invokevirtual 135, 3) := by decide +kernel
theorem dX8_renamed_45 : decode cX8_renamed 45 = .ok (.aload_n 0, 1) := by decide +kernel
theorem dX8_renamed_46 : decode cX8_renamed 46 = .ok (.iload_n 2, 1) := by decide +kernel
theorem dX8_renamed_47 : decode cX8_renamed 47 = .ok (.iconst 3, 1) := by decide +kernel
theorem dX8_renamed_48 : decode cX8_renamed 48 = .ok (.invokevirtual 135, 3) := by decide +kernel
theorem dX8_renamed_51 : decode cX8_renamed 51 = .ok (.aload_n 0, 1) := by decide +kernel
theorem dX8_renamed_52 : decode cX8_renamed 52 = .ok (.getfield 7, 3) := by decide +kernel
theorem dX8_renamed_55 : decode cX8_renamed 55 = .ok (.iconst 1, 1) := by decide +kernel
theorem dX8_renamed_56 : decode cX8_renamed 56 = .ok (.iaload, 1) := by decide +kernel
theorem dX8_renamed_57 : decode cX8_renamed 57 = .ok (.iload 5, 2) := by decide +kernel
theorem dX8_renamed_59 : decode cX8_renamed 59 = .ok (.iadd, 1) := by decide +kernel
theorem dX8_renamed_60 : decode cX8_renamed 60 = .ok (.bipush 12, 2) := by decide +kernel
theorem dX8_renamed_62 : decode cX8_renamed 62 = .ok (.irem, 1) := by decide +kernel
theorem dX8_renamed_63 : decode cX8_renamed 63 = .ok (.lload_n 3, 1) := by decide +kernel
theorem dX8_renamed_64 : decode cX8_renamed 64 = .ok (.invokestatic 154, 3) := by decide +kernel
theorem dX8_renamed_67 : decode cX8_renamed 67 = .ok (.lstore_n 3, 1) := by decide +kernel
theorem dX8_renamed_68 : decode cX8_renamed 68 = .ok (.lload_n 3, 1) := by decide +kernel
theorem dX8_renamed_69 : decode cX8_renamed 69 = .ok (.aload_n 0, 1) := by decide +kernel
theorem dX8_renamed_70 : decode cX8_renamed 70 = .ok (.getfield 16, 3) := by decide +kernel
theorem dX8_renamed_73 : decode cX8_renamed 73 = .ok (.iload_n 1, 1) := by decide +kernel
theorem dX8_renamed_74 : decode cX8_renamed 74 = .ok (.laload, 1) := by decide +kernel
theorem dX8_renamed_75 : decode cX8_renamed 75 = .ok (.lcmp, 1) := by decide +kernel
theorem dX8_renamed_76 : decode cX8_renamed 76 = .ok (.ifCond .ne 8, 3) := by decide +kernel
theorem dX8_renamed_79 : decode cX8_renamed 79 = .ok (.iload 5, 2) := by decide +kernel
theorem dX8_renamed_81 : decode cX8_renamed 81 = .ok (.iconst 1, 1) := by decide +kernel
theorem dX8_renamed_82 : decode cX8_renamed 82 = .ok (.iadd, 1) := by decide +kernel
theorem dX8_renamed_83 : decode cX8_renamed 83 = .ok (.ireturn, 1) := by decide +kernel
theorem dX8_renamed_84 : decode cX8_renamed 84 = .ok (.iinc 5 1, 3) := by decide +kernel
theorem dX8_renamed_87 : decode cX8_renamed 87 = .ok (.goto (-55), 3) := by decide +kernel
theorem dX8_renamed_90 : decode cX8_renamed 90 = .ok (.iconst (-1), 1) := by decide +kernel
theorem dX8_renamed_91 : decode cX8_renamed 91 = .ok (.ireturn, 1) := by decide +kernel
theorem dX8_fraction_0 : decode cX8_fraction 0 = .ok (.lload_n 1, 1) := by decide +kernel
theorem dX8_fraction_1 : decode cX8_fraction 1 = .ok (.lstore 5, 2) := by decide +kernel
theorem dX8_fraction_3 : decode cX8_fraction 3 = .ok (.lload_n 3, 1) := by decide +kernel
theorem dX8_fraction_4 : decode cX8_fraction 4 = .ok (.lstore 7, 2) := by decide +kernel
theorem dX8_fraction_6 : decode cX8_fraction 6 = .ok (.lload 7, 2) := by decide +kernel
theorem dX8_fraction_8 : decode cX8_fraction 8 = .ok (.lconst 0, 1) := by decide +kernel
theorem dX8_fraction_9 : decode cX8_fraction 9 = .ok (.lcmp, 1) := by decide +kernel
theorem dX8_fraction_10 : decode cX8_fraction 10 = .ok (.ifCond .eq 21, 3) := by decide +kernel
theorem dX8_fraction_13 : decode cX8_fraction 13 = .ok (.lload 5, 2) := by decide +kernel
theorem dX8_fraction_15 : decode cX8_fraction 15 = .ok (.lload 7, 2) := by decide +kernel
theorem dX8_fraction_17 : decode cX8_fraction 17 = .ok (.lrem, 1) := by decide +kernel
theorem dX8_fraction_18 : decode cX8_fraction 18 = .ok (.lstore 9, 2) := by decide +kernel
theorem dX8_fraction_20 : decode cX8_fraction 20 = .ok (.lload 7, 2) := by decide +kernel
theorem dX8_fraction_22 : decode cX8_fraction 22 = .ok (.lstore 5, 2) := by decide +kernel
theorem dX8_fraction_24 : decode cX8_fraction 24 = .ok (.lload 9, 2) := by decide +kernel
theorem dX8_fraction_26 : decode cX8_fraction 26 = .ok (.lstore 7, 2) := by decide +kernel
theorem dX8_fraction_28 : decode cX8_fraction 28 = .ok (.goto (-22), 3) := by decide +kernel
theorem dX8_fraction_31 : decode cX8_fraction 31 = .ok (.aload_n 0, 1) := by decide +kernel
theorem dX8_fraction_32 : decode cX8_fraction 32 = .ok (.lload_n 1, 1) := by decide +kernel
theorem dX8_fraction_33 : decode cX8_fraction 33 = .ok (.lload 5, 2) := by decide +kernel
theorem dX8_fraction_35 : decode cX8_fraction 35 = .ok (.ldiv, 1) := by decide +kernel
theorem dX8_fraction_36 : decode cX8_fraction 36 = .ok (.putfield 215, 3) := by decide +kernel
theorem dX8_fraction_39 : decode cX8_fraction 39 = .ok (.aload_n 0, 1) := by decide +kernel
theorem dX8_fraction_40 : decode cX8_fraction 40 = .ok (.lload_n 3, 1) := by decide +kernel
theorem dX8_fraction_41 : decode cX8_fraction 41 = .ok (.lload 5, 2) := by decide +kernel
theorem dX8_fraction_43 : decode cX8_fraction 43 = .ok (.ldiv, 1) := by decide +kernel
theorem dX8_fraction_44 : decode cX8_fraction 44 = .ok (.putfield 30, 3) := by decide +kernel
theorem dX8_fraction_47 : decode cX8_fraction 47 = .ok (.return_, 1) := by decide +kernel
theorem dX8_stammer_0 : decode cX8_stammer 0 = .ok (.iload_n 1, 1) := by decide +kernel
theorem dX8_stammer_1 : decode cX8_stammer 1 = .ok (.invokestatic 148, 3) := by decide +kernel
theorem dX8_stammer_4 : decode cX8_stammer 4 = .ok (.ifCond .eq 36, 3) := by decide +kernel
theorem dX8_stammer_7 : decode cX8_stammer 7 = .ok (.aload_n 0, 1) := by decide +kernel
theorem dX8_stammer_8 : decode cX8_stammer 8 = .ok (.iload_n 2, 1) := by decide +kernel
theorem dX8_stammer_9 : decode cX8_stammer 9 = .ok (.invokevirtual 139, 3) := by decide +kernel
theorem dX8_stammer_12 : decode cX8_stammer 12 = .ok (.ifCond .eq 28, 3) := by decide +kernel
theorem dX8_stammer_15 : decode cX8_stammer 15 = .ok (.iload_n 3, 1) := by decide +kernel
theorem dX8_stammer_16 : decode cX8_stammer 16 = .ok (.i2l, 1) := by decide +kernel
theorem dX8_stammer_17 : decode cX8_stammer 17 = .ok (.lconst 0, 1) := by decide +kernel
theorem dX8_stammer_18 : decode cX8_stammer 18 = .ok (.ldc2_w 218, 3) := by decide +kernel
theorem dX8_stammer_21 : decode cX8_stammer 21 = .ok (.invokestatic 106, 3) := by decide +kernel
theorem dX8_stammer_24 : decode cX8_stammer 24 = .ok (.ifCond .eq 16, 3) := by decide +kernel
theorem dX8_stammer_27 : decode cX8_stammer 27 = .ok (.iload 4, 2) := by decide +kernel
theorem dX8_stammer_29 : decode cX8_stammer 29 = .ok (.i2l, 1) := by decide +kernel
theorem dX8_stammer_30 : decode cX8_stammer 30 = .ok (.lconst 0, 1) := by decide +kernel
theorem dX8_stammer_31 : decode cX8_stammer 31 = .ok (.ldc2_w 220, 3) := by decide +kernel
theorem dX8_stammer_34 : decode cX8_stammer 34 = .ok (.invokestatic 106, 3) := by decide +kernel
theorem dX8_stammer_37 : decode cX8_stammer 37 = .ok (.ifCond .ne 10, 3) := by decide +kernel
theorem dX8_stammer_40 : decode cX8_stammer 40 = .ok (.aload_n 0, 1) := by decide +kernel
theorem dX8_stammer_41 : decode cX8_stammer 41 = .ok (.bipush (-2), 2) := by decide +kernel
theorem dX8_stammer_43 : decode cX8_stammer 43 = .ok (.invokevirtual 116, 3) := by decide +kernel
theorem dX8_stammer_46 : decode cX8_stammer 46 = .ok (.ireturn, 1) := by decide +kernel
theorem dX8_stammer_47 : decode cX8_stammer 47 = .ok (.aload_n 0, 1) := by decide +kernel
theorem dX8_stammer_48 : decode cX8_stammer 48 = .ok (.iload_n 2, 1) := by decide +kernel
theorem dX8_stammer_49 : decode cX8_stammer 49 = .ok (.aload_n 0, 1) := by decide +kernel
theorem dX8_stammer_50 : decode cX8_stammer 50 = .ok (.getfield 16, 3) := by decide +kernel
theorem dX8_stammer_53 : decode cX8_stammer 53 = .ok (.iload_n 1, 1) := by decide +kernel
theorem dX8_stammer_54 : decode cX8_stammer 54 = .ok (.laload, 1) := by decide +kernel
theorem dX8_stammer_55 : decode cX8_stammer 55 = .ok (.invokevirtual 158, 3) := by decide +kernel
theorem dX8_stammer_58 : decode cX8_stammer 58 = .ok (.invokestatic 71, 3) := by decide +kernel
theorem dX8_stammer_61 : decode cX8_stammer 61 = .ok (.istore 5, 2) := by decide +kernel
theorem dX8_stammer_63 : decode cX8_stammer 63 = .ok (.lconst 1, 1) := by decide +kernel
theorem dX8_stammer_64 : decode cX8_stammer 64 = .ok (.lstore 6, 2) := by decide +kernel
theorem dX8_stammer_66 : decode cX8_stammer 66 = .ok (.iconst 0, 1) := by decide +kernel
theorem dX8_stammer_67 : decode cX8_stammer 67 = .ok (.istore 8, 2) := by decide +kernel
theorem dX8_stammer_69 : decode cX8_stammer 69 = .ok (.iload 8, 2) := by decide +kernel
theorem dX8_stammer_71 : decode cX8_stammer 71 = .ok (.bipush 14, 2) := by decide +kernel
theorem dX8_stammer_73 : decode cX8_stammer 73 = .ok (.if_icmp .ge 26, 3) := by decide +kernel
theorem dX8_stammer_76 : decode cX8_stammer 76 = .ok (.aload_n 0, 1) := by decide +kernel
theorem dX8_stammer_77 : decode cX8_stammer 77 = .ok (.getfield 52, 3) := by decide +kernel
theorem dX8_stammer_80 : decode cX8_stammer 80 = .ok (.iload 8, 2) := by decide +kernel
theorem dX8_stammer_82 : decode cX8_stammer 82 = .ok (.iload 8, 2) := by decide +kernel
theorem dX8_stammer_84 : decode cX8_stammer 84 = .ok (.ifCond .ne 7, 3) := by decide +kernel
theorem dX8_stammer_87 : decode cX8_stammer 87 = .ok (.lconst 1, 1) := by decide +kernel
theorem dX8_stammer_88 : decode cX8_stammer 88 = .ok (.goto 4, 3) := by decide +kernel
theorem dX8_stammer_91 : decode cX8_stammer 91 = .ok (.lconst 0, 1) := by decide +kernel
theorem dX8_stammer_92 : decode cX8_stammer 92 = .ok (.lastore, 1) := by decide +kernel
theorem dX8_stammer_93 : decode cX8_stammer 93 = .ok (.iinc 8 1, 3) := by decide +kernel
theorem dX8_stammer_96 : decode cX8_stammer 96 = .ok (.goto (-27), 3) := by decide +kernel
theorem dX8_stammer_99 : decode cX8_stammer 99 = .ok (.iconst 0, 1) := by decide +kernel
theorem dX8_stammer_100 : decode cX8_stammer 100 = .ok (.istore 8, 2) := by decide +kernel
theorem dX8_stammer_102 : decode cX8_stammer 102 = .ok (.iload 8, 2) := by decide +kernel
theorem dX8_stammer_104 : decode cX8_stammer 104 = .ok (.iload 5, 2) := by decide +kernel
theorem dX8_stammer_106 : decode cX8_stammer 106 = .ok (.if_icmp .ge 74, 3) := by decide +kernel
theorem dX8_stammer_109 : decode cX8_stammer 109 = .ok (.bipush 13, 2) := by decide +kernel
theorem dX8_stammer_111 : decode cX8_stammer 111 = .ok (.istore 9, 2) := by decide +kernel
theorem dX8_stammer_113 : decode cX8_stammer 113 = .ok (.iload 9, 2) := by decide +kernel
theorem dX8_stammer_115 : decode cX8_stammer 115 = .ok (.ifCond .lt 51, 3) := by decide +kernel
theorem dX8_stammer_118 : decode cX8_stammer 118 = .ok (.aload_n 0, 1) := by decide +kernel
theorem dX8_stammer_119 : decode cX8_stammer 119 = .ok (.getfield 52, 3) := by decide +kernel
theorem dX8_stammer_122 : decode cX8_stammer 122 = .ok (.iload 9, 2) := by decide +kernel
theorem dX8_stammer_124 : decode cX8_stammer 124 = .ok (.bipush 10, 2) := by decide +kernel
theorem dX8_stammer_126 : decode cX8_stammer 126 = .ok (.iload_n 3, 1) := by decide +kernel
theorem dX8_stammer_127 : decode cX8_stammer 127 = .ok (.isub, 1) := by decide +kernel
theorem dX8_stammer_128 : decode cX8_stammer 128 = .ok (.i2l, 1) := by decide +kernel
theorem dX8_stammer_129 : decode cX8_stammer 129 = .ok (.aload_n 0, 1) := by decide +kernel
theorem dX8_stammer_130 : decode cX8_stammer 130 = .ok (.getfield 52, 3) := by decide +kernel
theorem dX8_stammer_133 : decode cX8_stammer 133 = .ok (.iload 9, 2) := by decide +kernel
theorem dX8_stammer_135 : decode cX8_stammer 135 = .ok (.laload, 1) := by decide +kernel
theorem dX8_stammer_136 : decode cX8_stammer 136 = .ok (.lmul, 1) := by decide +kernel
theorem dX8_stammer_137 : decode cX8_stammer 137 = .ok (.iload 9, 2) := by decide +kernel
theorem dX8_stammer_139 : decode cX8_stammer 139 = .ok (.ifCond .le 18, 3) := by decide +kernel
theorem dX8_stammer_142 : decode cX8_stammer 142 = .ok (.iload_n 3, 1) := by decide +kernel
theorem dX8_stammer_143 : decode cX8_stammer 143 = .ok (.i2l, 1) := by decide +kernel
theorem dX8_stammer_144 : decode cX8_stammer 144 = .ok (.aload_n 0, 1) := by decide +kernel
theorem dX8_stammer_145 : decode cX8_stammer 145 = .ok (.getfield 52, 3) := by decide +kernel
theorem dX8_stammer_148 : decode cX8_stammer 148 = .ok (.iload 9, 2) := by decide +kernel
theorem dX8_stammer_150 : decode cX8_stammer 150 = .ok (.iconst 1, 1) := by decide +kernel
theorem dX8_stammer_151 : decode cX8_stammer 151 = .ok (.isub, 1) := by decide +kernel
theorem dX8_stammer_152 : decode cX8_stammer 152 = .ok (.laload, 1) := by decide +kernel
theorem dX8_stammer_153 : decode cX8_stammer 153 = .ok (.lmul, 1) := by decide +kernel
theorem dX8_stammer_154 : decode cX8_stammer 154 = .ok (.goto 4, 3) := by decide +kernel
theorem dX8_stammer_157 : decode cX8_stammer 157 = .ok (.lconst 0, 1) := by decide +kernel
theorem dX8_stammer_158 : decode cX8_stammer 158 = .ok (.ladd, 1) := by decide +kernel
theorem dX8_stammer_159 : decode cX8_stammer 159 = .ok (.lastore, 1) := by decide +kernel
theorem dX8_stammer_160 : decode cX8_stammer 160 = .ok (.iinc 9 (-1), 3) := by decide +kernel
theorem dX8_stammer_163 : decode cX8_stammer 163 = .ok (.goto (-50), 3) := by decide +kernel
theorem dX8_stammer_166 : decode cX8_stammer 166 = .ok (.lload 6, 2) := by decide +kernel
theorem dX8_stammer_168 : decode cX8_stammer 168 = .ok (.ldc2_w 218, 3) := by decide +kernel
theorem dX8_stammer_171 : decode cX8_stammer 171 = .ok (.lmul, 1) := by decide +kernel
theorem dX8_stammer_172 : decode cX8_stammer 172 = .ok (.lstore 6, 2) := by decide +kernel
theorem dX8_stammer_174 : decode cX8_stammer 174 = .ok (.iinc 8 1, 3) := by decide +kernel
theorem dX8_stammer_177 : decode cX8_stammer 177 = .ok (.goto (-75), 3) := by decide +kernel
theorem dX8_stammer_180 : decode cX8_stammer 180 = .ok (.aload_n 0, 1) := by decide +kernel
theorem dX8_stammer_181 : decode cX8_stammer 181 = .ok (.iload 4, 2) := by decide +kernel
theorem dX8_stammer_183 : decode cX8_stammer 183 = .ok (.iload 5, 2) := by decide +kernel
theorem dX8_stammer_185 : decode cX8_stammer 185 = .ok (.isub, 1) := by decide +kernel
theorem dX8_stammer_186 : decode cX8_stammer 186 = .ok (.i2l, 1) := by decide +kernel
theorem dX8_stammer_187 : decode cX8_stammer 187 = .ok (.lconst 0, 1) := by decide +kernel
theorem dX8_stammer_188 : decode cX8_stammer 188 = .ok (.iload 5, 2) := by decide +kernel
theorem dX8_stammer_190 : decode cX8_stammer 190 = .ok (.i2l, 1) := by decide +kernel
theorem dX8_stammer_191 : decode cX8_stammer 191 = .ok (.invokestatic 106, 3) := by decide +kernel
theorem dX8_stammer_194 : decode cX8_stammer 194 = .ok (.ifCond .eq 16, 3) := by decide +kernel
theorem dX8_stammer_197 : decode cX8_stammer 197 = .ok (.aload_n 0, 1) := by decide +kernel
theorem dX8_stammer_198 : decode cX8_stammer 198 = .ok (.getfield 52, 3) := by decide +kernel
theorem dX8_stammer_201 : decode cX8_stammer 201 = .ok (.iload 4, 2) := by decide +kernel
theorem dX8_stammer_203 : decode cX8_stammer 203 = .ok (.iload 5, 2) := by decide +kernel
theorem dX8_stammer_205 : decode cX8_stammer 205 = .ok (.isub, 1) := by decide +kernel
theorem dX8_stammer_206 : decode cX8_stammer 206 = .ok (.laload, 1) := by decide +kernel
theorem dX8_stammer_207 : decode cX8_stammer 207 = .ok (.goto 4, 3) := by decide +kernel
theorem dX8_stammer_210 : decode cX8_stammer 210 = .ok (.lconst 0, 1) := by decide +kernel
theorem dX8_stammer_211 : decode cX8_stammer 211 = .ok (.lload 6, 2) := by decide +kernel
theorem dX8_stammer_213 : decode cX8_stammer 213 = .ok (.invokevirtual 222, 3) := by decide +kernel
theorem dX8_stammer_216 : decode cX8_stammer 216 = .ok (.iconst 1, 1) := by decide +kernel
theorem dX8_stammer_217 : decode cX8_stammer 217 = .ok (.ireturn, 1) := by decide +kernel
theorem dX8_exchanged_0 : decode cX8_exchanged 0 = .ok (.iload_n 0, 1) := by decide +kernel
theorem dX8_exchanged_1 : decode cX8_exchanged 1 = .ok (.iload_n 1, 1) := by decide +kernel
theorem dX8_exchanged_2 : decode cX8_exchanged 2 = .ok (.if_icmp .ne 7, 3) := by decide +kernel
theorem dX8_exchanged_5 : decode cX8_exchanged 5 = .ok (.iload_n 2, 1) := by decide +kernel
theorem dX8_exchanged_6 : decode cX8_exchanged 6 = .ok (.goto 13, 3) := by decide +kernel
theorem dX8_exchanged_9 : decode cX8_exchanged 9 = .ok (.iload_n 0, 1) := by decide +kernel
theorem dX8_exchanged_10 : decode cX8_exchanged 10 = .ok (.iload_n 2, 1) := by decide +kernel
theorem dX8_exchanged_11 : decode cX8_exchanged 11 = .ok (.if_icmp .ne 7, 3) := by decide +kernel
theorem dX8_exchanged_14 : decode cX8_exchanged 14 = .ok (.iload_n 1, 1) := by decide +kernel
theorem dX8_exchanged_15 : decode cX8_exchanged 15 = .ok (.goto 4, 3) := by decide +kernel
theorem dX8_exchanged_18 : decode cX8_exchanged 18 = .ok (.iload_n 0, 1) := by decide +kernel
theorem dX8_exchanged_19 : decode cX8_exchanged 19 = .ok (.ireturn, 1) := by decide +kernel
theorem dX8_boatsBy_0 : decode cX8_boatsBy 0 = .ok (.iload_n 2, 1) := by decide +kernel
theorem dX8_boatsBy_1 : decode cX8_boatsBy 1 = .ok (.i2l, 1) := by decide +kernel
theorem dX8_boatsBy_2 : decode cX8_boatsBy 2 = .ok (.lstore 6, 2) := by decide +kernel
theorem dX8_boatsBy_4 : decode cX8_boatsBy 4 = .ok (.iconst 0, 1) := by decide +kernel
theorem dX8_boatsBy_5 : decode cX8_boatsBy 5 = .ok (.istore 8, 2) := by decide +kernel
theorem dX8_boatsBy_7 : decode cX8_boatsBy 7 = .ok (.iconst 0, 1) := by decide +kernel
theorem dX8_boatsBy_8 : decode cX8_boatsBy 8 = .ok (.istore 9, 2) := by decide +kernel
theorem dX8_boatsBy_10 : decode cX8_boatsBy 10 = .ok (.iload 9, 2) := by decide +kernel
theorem dX8_boatsBy_12 : decode cX8_boatsBy 12 = .ok (.iload_n 3, 1) := by decide +kernel
theorem dX8_boatsBy_13 : decode cX8_boatsBy 13 = .ok (.if_icmp .ge 113, 3) := by decide +kernel
theorem dX8_boatsBy_16 : decode cX8_boatsBy 16 = .ok (.lload 6, 2) := by decide +kernel
theorem dX8_boatsBy_18 : decode cX8_boatsBy 18 = .ok (.ldc2_w 226, 3) := by decide +kernel
theorem dX8_boatsBy_21 : decode cX8_boatsBy 21 = .ok (.lmul, 1) := by decide +kernel
theorem dX8_boatsBy_22 : decode cX8_boatsBy 22 = .ok (.ldc2_w 228, 3) := by decide +kernel
theorem dX8_boatsBy_25 : decode cX8_boatsBy 25 = .ok (.ladd, 1) := by decide +kernel
theorem dX8_boatsBy_26 : decode cX8_boatsBy 26 = .ok (.ldc2_w 230, 3) := by decide +kernel
theorem dX8_boatsBy_29 : decode cX8_boatsBy 29 = .ok (.lrem, 1) := by decide +kernel
theorem dX8_boatsBy_30 : decode cX8_boatsBy 30 = .ok (.lstore 6, 2) := by decide +kernel
theorem dX8_boatsBy_32 : decode cX8_boatsBy 32 = .ok (.lload 6, 2) := by decide +kernel
theorem dX8_boatsBy_34 : decode cX8_boatsBy 34 = .ok (.ldc2_w 232, 3) := by decide +kernel
theorem dX8_boatsBy_37 : decode cX8_boatsBy 37 = .ok (.ldiv, 1) := by decide +kernel
theorem dX8_boatsBy_38 : decode cX8_boatsBy 38 = .ok (.ldc2_w 234, 3) := by decide +kernel
theorem dX8_boatsBy_41 : decode cX8_boatsBy 41 = .ok (.lrem, 1) := by decide +kernel
theorem dX8_boatsBy_42 : decode cX8_boatsBy 42 = .ok (.l2i, 1) := by decide +kernel
theorem dX8_boatsBy_43 : decode cX8_boatsBy 43 = .ok (.istore 10, 2) := by decide +kernel
theorem dX8_boatsBy_45 : decode cX8_boatsBy 45 = .ok (.aload_n 0, 1) := by decide +kernel
theorem dX8_boatsBy_46 : decode cX8_boatsBy 46 = .ok (.getfield 16, 3) := by decide +kernel
theorem dX8_boatsBy_49 : decode cX8_boatsBy 49 = .ok (.iload_n 1, 1) := by decide +kernel
theorem dX8_boatsBy_50 : decode cX8_boatsBy 50 = .ok (.laload, 1) := by decide +kernel
theorem dX8_boatsBy_51 : decode cX8_boatsBy 51 = .ok (.lstore 11, 2) := by decide +kernel
theorem dX8_boatsBy_53 : decode cX8_boatsBy 53 = .ok (.iconst 1, 1) := by decide +kernel
theorem dX8_boatsBy_54 : decode cX8_boatsBy 54 = .ok (.istore 13, 2) := by decide +kernel
theorem dX8_boatsBy_56 : decode cX8_boatsBy 56 = .ok (.iconst 0, 1) := by decide +kernel
theorem dX8_boatsBy_57 : decode cX8_boatsBy 57 = .ok (.istore 14, 2) := by decide +kernel
theorem dX8_boatsBy_59 : decode cX8_boatsBy 59 = .ok (.iload 14, 2) := by decide +kernel
theorem dX8_boatsBy_61 : decode cX8_boatsBy 61 = .ok (.aload_n 0, 1) := by decide +kernel
theorem dX8_boatsBy_62 : decode cX8_boatsBy 62 = .ok (.invokevirtual 102, 3) := by decide +kernel
theorem dX8_boatsBy_65 : decode cX8_boatsBy 65 = .ok (.if_icmp .ge 40, 3) := by decide +kernel
theorem dX8_boatsBy_68 : decode cX8_boatsBy 68 = .ok (.iload 13, 2) := by decide +kernel
theorem dX8_boatsBy_70 : decode cX8_boatsBy 70 = .ok (.ifCond .eq 35, 3) := by decide +kernel
theorem dX8_boatsBy_73 : decode cX8_boatsBy 73 = .ok (.aload_n 0, 1) := by decide +kernel
theorem dX8_boatsBy_74 : decode cX8_boatsBy 74 = .ok (.iload 14, 2) := by decide +kernel
theorem dX8_boatsBy_76 : decode cX8_boatsBy 76 = .ok (.iload 4, 2) := by decide +kernel
theorem dX8_boatsBy_78 : decode cX8_boatsBy 78 = .ok (.iload 5, 2) := by decide +kernel
theorem dX8_boatsBy_80 : decode cX8_boatsBy 80 = .ok (.invokestatic 236, 3) := by decide +kernel
theorem dX8_boatsBy_83 : decode cX8_boatsBy 83 = .ok (.lload 11, 2) := by decide +kernel
theorem dX8_boatsBy_85 : decode cX8_boatsBy 85 = .ok (.invokevirtual 158, 3) := by decide +kernel
theorem dX8_boatsBy_88 : decode cX8_boatsBy 88 = .ok (.lstore 11, 2) := by decide +kernel
theorem dX8_boatsBy_90 : decode cX8_boatsBy 90 = .ok (.iload 10, 2) := by decide +kernel
theorem dX8_boatsBy_92 : decode cX8_boatsBy 92 = .ok (.lload 11, 2) := by decide +kernel
theorem dX8_boatsBy_94 : decode cX8_boatsBy 94 = .ok (.invokestatic 164, 3) := by decide +kernel
theorem dX8_boatsBy_97 : decode cX8_boatsBy 97 = .ok (.istore 13, 2) := by decide +kernel
theorem dX8_boatsBy_99 : decode cX8_boatsBy 99 = .ok (.iinc 14 1, 3) := by decide +kernel
theorem dX8_boatsBy_102 : decode cX8_boatsBy 102 = .ok (.goto (-43), 3) := by decide +kernel
theorem dX8_boatsBy_105 : decode cX8_boatsBy 105 = .ok (.iload 8, 2) := by decide +kernel
theorem dX8_boatsBy_107 : decode cX8_boatsBy 107 = .ok (.iload 13, 2) := by decide +kernel
theorem dX8_boatsBy_109 : decode cX8_boatsBy 109 = .ok (.ifCond .eq 7, 3) := by decide +kernel
theorem dX8_boatsBy_112 : decode cX8_boatsBy 112 = .ok (.iconst 1, 1) := by decide +kernel
theorem dX8_boatsBy_113 : decode cX8_boatsBy 113 = .ok (.goto 4, 3) := by decide +kernel
theorem dX8_boatsBy_116 : decode cX8_boatsBy 116 = .ok (.iconst 0, 1) := by decide +kernel
theorem dX8_boatsBy_117 : decode cX8_boatsBy 117 = .ok (.iadd, 1) := by decide +kernel
theorem dX8_boatsBy_118 : decode cX8_boatsBy 118 = .ok (.istore 8, 2) := by decide +kernel
theorem dX8_boatsBy_120 : decode cX8_boatsBy 120 = .ok (.iinc 9 1, 3) := by decide +kernel
theorem dX8_boatsBy_123 : decode cX8_boatsBy 123 = .ok (.goto (-113), 3) := by decide +kernel
theorem dX8_boatsBy_126 : decode cX8_boatsBy 126 = .ok (.iload 8, 2) := by decide +kernel
theorem dX8_boatsBy_128 : decode cX8_boatsBy 128 = .ok (.ireturn, 1) := by decide +kernel
theorem dX8_areBoats_0 : decode cX8_areBoats 0 = .ok (.iload_n 0, 1) := by decide +kernel
theorem dX8_areBoats_1 : decode cX8_areBoats 1 = .ok (.i2l, 1) := by decide +kernel
theorem dX8_areBoats_2 : decode cX8_areBoats 2 = .ok (.lconst 0, 1) := by decide +kernel
theorem dX8_areBoats_3 : decode cX8_areBoats 3 = .ok (.ldc2_w 240, 3) := by decide +kernel
theorem dX8_areBoats_6 : decode cX8_areBoats 6 = .ok (.invokestatic 106, 3) := by decide +kernel
theorem dX8_areBoats_9 : decode cX8_areBoats 9 = .ok (.ifCond .eq 19, 3) := by decide +kernel
theorem dX8_areBoats_12 : decode cX8_areBoats 12 = .ok (.iload_n 1, 1) := by decide +kernel
theorem dX8_areBoats_13 : decode cX8_areBoats 13 = .ok (.i2l, 1) := by decide +kernel
theorem dX8_areBoats_14 : decode cX8_areBoats 14 = .ok (.lconst 0, 1) := by decide +kernel
theorem dX8_areBoats_15 : decode cX8_areBoats 15 = .ok (.ldc2_w 242, 3) := by decide +kernel
theorem dX8_areBoats_18 : decode cX8_areBoats 18 = .ok (.invokestatic 106, 3) := by decide +kernel
theorem dX8_areBoats_21 : decode cX8_areBoats 21 = .ok (.ifCond .eq 7, 3) := by decide +kernel
theorem dX8_areBoats_24 : decode cX8_areBoats 24 = .ok (.iconst 1, 1) := by decide +kernel
theorem dX8_areBoats_25 : decode cX8_areBoats 25 = .ok (.goto 4, 3) := by decide +kernel
theorem dX8_areBoats_28 : decode cX8_areBoats 28 = .ok (.iconst 0, 1) := by decide +kernel
theorem dX8_areBoats_29 : decode cX8_areBoats 29 = .ok (.ireturn, 1) := by decide +kernel
theorem dX8_boats_0 : decode cX8_boats 0 = .ok (.iload_n 1, 1) := by decide +kernel
theorem dX8_boats_1 : decode cX8_boats 1 = .ok (.invokestatic 148, 3) := by decide +kernel
theorem dX8_boats_4 : decode cX8_boats 4 = .ok (.ifCond .eq 23, 3) := by decide +kernel
theorem dX8_boats_7 : decode cX8_boats 7 = .ok (.iload_n 2, 1) := by decide +kernel
theorem dX8_boats_8 : decode cX8_boats 8 = .ok (.iload_n 3, 1) := by decide +kernel
theorem dX8_boats_9 : decode cX8_boats 9 = .ok (.invokestatic 244, 3) := by decide +kernel
theorem dX8_boats_12 : decode cX8_boats 12 = .ok (.ifCond .eq 15, 3) := by decide +kernel
theorem dX8_boats_15 : decode cX8_boats 15 = .ok (.aload_n 0, 1) := by decide +kernel
theorem dX8_boats_16 : decode cX8_boats 16 = .ok (.iload_n 1, 1) := by decide +kernel
theorem dX8_boats_17 : decode cX8_boats 17 = .ok (.iload_n 2, 1) := by decide +kernel
theorem dX8_boats_18 : decode cX8_boats 18 = .ok (.iload_n 3, 1) := by decide +kernel
theorem dX8_boats_19 : decode cX8_boats 19 = .ok (.iconst (-1), 1) := by decide +kernel
theorem dX8_boats_20 : decode cX8_boats 20 = .ok (.iconst (-1), 1) := by decide +kernel
theorem dX8_boats_21 : decode cX8_boats 21 = .ok (.invokevirtual 247, 3) := by decide +kernel
theorem dX8_boats_24 : decode cX8_boats 24 = .ok (.goto 9, 3) := by decide +kernel
theorem dX8_boats_27 : decode cX8_boats 27 = .ok (.aload_n 0, 1) := by decide +kernel
theorem dX8_boats_28 : decode cX8_boats 28 = .ok (.bipush (-2), 2) := by decide +kernel
theorem dX8_boats_30 : decode cX8_boats 30 = .ok (.invokevirtual 116, 3) := by decide +kernel
theorem dX8_boats_33 : decode cX8_boats 33 = .ok (.ireturn, 1) := by decide +kernel
theorem dX8_flood_0 : decode cX8_flood 0 = .ok (.iload_n 1, 1) := by decide +kernel
theorem dX8_flood_1 : decode cX8_flood 1 = .ok (.invokestatic 148, 3) := by decide +kernel
theorem dX8_flood_4 : decode cX8_flood 4 = .ok (.ifCond .eq 29, 3) := by decide +kernel
theorem dX8_flood_7 : decode cX8_flood 7 = .ok (.iload_n 2, 1) := by decide +kernel
theorem dX8_flood_8 : decode cX8_flood 8 = .ok (.iload_n 3, 1) := by decide +kernel
theorem dX8_flood_9 : decode cX8_flood 9 = .ok (.invokestatic 244, 3) := by decide +kernel
theorem dX8_flood_12 : decode cX8_flood 12 = .ok (.ifCond .eq 21, 3) := by decide +kernel
theorem dX8_flood_15 : decode cX8_flood 15 = .ok (.aload_n 0, 1) := by decide +kernel
theorem dX8_flood_16 : decode cX8_flood 16 = .ok (.iload 4, 2) := by decide +kernel
theorem dX8_flood_18 : decode cX8_flood 18 = .ok (.invokevirtual 139, 3) := by decide +kernel
theorem dX8_flood_21 : decode cX8_flood 21 = .ok (.ifCond .eq 12, 3) := by decide +kernel
theorem dX8_flood_24 : decode cX8_flood 24 = .ok (.aload_n 0, 1) := by decide +kernel
theorem dX8_flood_25 : decode cX8_flood 25 = .ok (.iload 5, 2) := by decide +kernel
theorem dX8_flood_27 : decode cX8_flood 27 = .ok (.invokevirtual 139, 3) := by decide +kernel
theorem dX8_flood_30 : decode cX8_flood 30 = .ok (.ifCond .ne 10, 3) := by decide +kernel
theorem dX8_flood_33 : decode cX8_flood 33 = .ok (.aload_n 0, 1) := by decide +kernel
theorem dX8_flood_34 : decode cX8_flood 34 = .ok (.bipush (-100), 2) := by decide +kernel
theorem dX8_flood_36 : decode cX8_flood 36 = .ok (.invokevirtual 116, 3) := by decide +kernel
theorem dX8_flood_39 : decode cX8_flood 39 = .ok (.ireturn, 1) := by decide +kernel
theorem dX8_flood_40 : decode cX8_flood 40 = .ok (.aload_n 0, 1) := by decide +kernel
theorem dX8_flood_41 : decode cX8_flood 41 = .ok (.iload_n 1, 1) := by decide +kernel
theorem dX8_flood_42 : decode cX8_flood 42 = .ok (.iload_n 2, 1) := by decide +kernel
theorem dX8_flood_43 : decode cX8_flood 43 = .ok (.iload_n 3, 1) := by decide +kernel
theorem dX8_flood_44 : decode cX8_flood 44 = .ok (.iload 4, 2) := by decide +kernel
theorem dX8_flood_46 : decode cX8_flood 46 = .ok (.iload 5, 2) := by decide +kernel
theorem dX8_flood_48 : decode cX8_flood 48 = .ok (.invokevirtual 247, 3) := by decide +kernel
theorem dX8_flood_51 : decode cX8_flood 51 = .ok (.aload_n 0, 1) := by decide +kernel
theorem dX8_flood_52 : decode cX8_flood 52 = .ok (.iload_n 1, 1) := by decide +kernel
theorem dX8_flood_53 : decode cX8_flood 53 = .ok (.iload_n 2, 1) := by decide +kernel
theorem dX8_flood_54 : decode cX8_flood 54 = .ok (.iload_n 3, 1) := by decide +kernel
theorem dX8_flood_55 : decode cX8_flood 55 = .ok (.iconst (-1), 1) := by decide +kernel
theorem dX8_flood_56 : decode cX8_flood 56 = .ok (.iconst (-1), 1) := by decide +kernel
theorem dX8_flood_57 : decode cX8_flood 57 = .ok (.invokevirtual 247, 3) := by decide +kernel
theorem dX8_flood_60 : decode cX8_flood 60 = .ok (.isub, 1) := by decide +kernel
theorem dX8_flood_61 : decode cX8_flood 61 = .ok (.ireturn, 1) := by decide +kernel
theorem dX8_type_0 : decode cX8_type 0 = .ok (.iload_n 1, 1) := by decide +kernel
theorem dX8_type_1 : decode cX8_type 1 = .ok (.i2l, 1) := by decide +kernel
theorem dX8_type_2 : decode cX8_type 2 = .ok (.lconst 0, 1) := by decide +kernel
theorem dX8_type_3 : decode cX8_type 3 = .ok (.ldc2_w 251, 3) := by decide +kernel
theorem dX8_type_6 : decode cX8_type 6 = .ok (.invokestatic 106, 3) := by decide +kernel
theorem dX8_type_9 : decode cX8_type 9 = .ok (.ifCond .ne 10, 3) := by decide +kernel
theorem dX8_type_12 : decode cX8_type 12 = .ok (.aload_n 0, 1) := by decide +kernel
theorem dX8_type_13 : decode cX8_type 13 = .ok (.bipush (-2), 2) := by decide +kernel
theorem dX8_type_15 : decode cX8_type 15 = .ok (.invokevirtual 116, 3) := by decide +kernel
theorem dX8_type_18 : decode cX8_type 18 = .ok (.ireturn, 1) := by decide +kernel
theorem dX8_type_19 : decode cX8_type 19 = .ok (.aload_n 0, 1) := by decide +kernel
theorem dX8_type_20 : decode cX8_type 20 = .ok (.getfield 253, 3) := by decide +kernel
theorem dX8_type_23 : decode cX8_type 23 = .ok (.sipush 150, 3) := by decide +kernel
theorem dX8_type_26 : decode cX8_type 26 = .ok (.if_icmp .ne 8, 3) := by decide +kernel
theorem dX8_type_29 : decode cX8_type 29 = .ok (.aload_n 0, 1) := by decide +kernel
theorem dX8_type_30 : decode cX8_type 30 = .ok (.invokevirtual 128, 3) := by decide +kernel
theorem dX8_type_33 : decode cX8_type 33 = .ok (.ireturn, 1) := by decide +kernel
theorem dX8_type_34 : decode cX8_type 34 = .ok (.aload_n 0, 1) := by decide +kernel
theorem dX8_type_35 : decode cX8_type 35 = .ok (.getfield 55, 3) := by decide +kernel
theorem dX8_type_38 : decode cX8_type 38 = .ok (.aload_n 0, 1) := by decide +kernel
theorem dX8_type_39 : decode cX8_type 39 = .ok (.getfield 253, 3) := by decide +kernel
theorem dX8_type_42 : decode cX8_type 42 = .ok (.iload_n 1, 1) := by decide +kernel
theorem dX8_type_43 : decode cX8_type 43 = .ok (.iastore, 1) := by decide +kernel
theorem dX8_type_44 : decode cX8_type 44 = .ok (.aload_n 0, 1) := by decide +kernel
theorem dX8_type_45 : decode cX8_type 45 = .ok (.dup, 1) := by decide +kernel
theorem dX8_type_46 : decode cX8_type 46 = .ok (.getfield 253, 3) := by decide +kernel
theorem dX8_type_49 : decode cX8_type 49 = .ok (.iconst 1, 1) := by decide +kernel
theorem dX8_type_50 : decode cX8_type 50 = .ok (.iadd, 1) := by decide +kernel
theorem dX8_type_51 : decode cX8_type 51 = .ok (.putfield 253, 3) := by decide +kernel
theorem dX8_type_54 : decode cX8_type 54 = .ok (.aload_n 0, 1) := by decide +kernel
theorem dX8_type_55 : decode cX8_type 55 = .ok (.getfield 253, 3) := by decide +kernel
theorem dX8_type_58 : decode cX8_type 58 = .ok (.ireturn, 1) := by decide +kernel
theorem dX8_clear_0 : decode cX8_clear 0 = .ok (.aload_n 0, 1) := by decide +kernel
theorem dX8_clear_1 : decode cX8_clear 1 = .ok (.getfield 253, 3) := by decide +kernel
theorem dX8_clear_4 : decode cX8_clear 4 = .ok (.istore_n 1, 1) := by decide +kernel
theorem dX8_clear_5 : decode cX8_clear 5 = .ok (.aload_n 0, 1) := by decide +kernel
theorem dX8_clear_6 : decode cX8_clear 6 = .ok (.iconst 0, 1) := by decide +kernel
theorem dX8_clear_7 : decode cX8_clear 7 = .ok (.putfield 253, 3) := by decide +kernel
theorem dX8_clear_10 : decode cX8_clear 10 = .ok (.iload_n 1, 1) := by decide +kernel
theorem dX8_clear_11 : decode cX8_clear 11 = .ok (.ireturn, 1) := by decide +kernel
theorem dX8_isSmall_0 : decode cX8_isSmall 0 = .ok (.iload_n 0, 1) := by decide +kernel
theorem dX8_isSmall_1 : decode cX8_isSmall 1 = .ok (.i2l, 1) := by decide +kernel
theorem dX8_isSmall_2 : decode cX8_isSmall 2 = .ok (.ldc2_w 256, 3) := by decide +kernel
theorem dX8_isSmall_5 : decode cX8_isSmall 5 = .ok (.ldc2_w 258, 3) := by decide +kernel
theorem dX8_isSmall_8 : decode cX8_isSmall 8 = .ok (.invokestatic 106, 3) := by decide +kernel
theorem dX8_isSmall_11 : decode cX8_isSmall 11 = .ok (.ireturn, 1) := by decide +kernel
theorem dX8_isFigure_0 : decode cX8_isFigure 0 = .ok (.iload_n 0, 1) := by decide +kernel
theorem dX8_isFigure_1 : decode cX8_isFigure 1 = .ok (.i2l, 1) := by decide +kernel
theorem dX8_isFigure_2 : decode cX8_isFigure 2 = .ok (.ldc2_w 260, 3) := by decide +kernel
theorem dX8_isFigure_5 : decode cX8_isFigure 5 = .ok (.ldc2_w 262, 3) := by decide +kernel
theorem dX8_isFigure_8 : decode cX8_isFigure 8 = .ok (.invokestatic 106, 3) := by decide +kernel
theorem dX8_isFigure_11 : decode cX8_isFigure 11 = .ok (.ireturn, 1) := by decide +kernel
theorem dX8_lookAt_0 : decode cX8_lookAt 0 = .ok (.aload_n 0, 1) := by decide +kernel
theorem dX8_lookAt_1 : decode cX8_lookAt 1 = .ok (.iload_n 1, 1) := by decide +kernel
theorem dX8_lookAt_2 : decode cX8_lookAt 2 = .ok (.putfield 264, 3) := by decide +kernel
theorem dX8_lookAt_5 : decode cX8_lookAt 5 = .ok (.aload_n 0, 1) := by decide +kernel
theorem dX8_lookAt_6 : decode cX8_lookAt 6 = .ok (.getfield 264, 3) := by decide +kernel
theorem dX8_lookAt_9 : decode cX8_lookAt 9 = .ok (.aload_n 0, 1) := by decide +kernel
theorem dX8_lookAt_10 : decode cX8_lookAt 10 = .ok (.getfield 253, 3) := by decide +kernel
theorem dX8_lookAt_13 : decode cX8_lookAt 13 = .ok (.if_icmp .ge 30, 3) := by decide +kernel
theorem dX8_lookAt_16 : decode cX8_lookAt 16 = .ok (.aload_n 0, 1) := by decide +kernel
theorem dX8_lookAt_17 : decode cX8_lookAt 17 = .ok (.getfield 55, 3) := by decide +kernel
theorem dX8_lookAt_20 : decode cX8_lookAt 20 = .ok (.aload_n 0, 1) := by decide +kernel
theorem dX8_lookAt_21 : decode cX8_lookAt 21 = .ok (.getfield 264, 3) := by decide +kernel
theorem dX8_lookAt_24 : decode cX8_lookAt 24 = .ok (.iaload, 1) := by decide +kernel
theorem dX8_lookAt_25 : decode cX8_lookAt 25 = .ok (.bipush 32, 2) := by decide +kernel
theorem dX8_lookAt_27 : decode cX8_lookAt 27 = .ok (.if_icmp .ne 16, 3) := by decide +kernel
theorem dX8_lookAt_30 : decode cX8_lookAt 30 = .ok (.aload_n 0, 1) := by decide +kernel
theorem dX8_lookAt_31 : decode cX8_lookAt 31 = .ok (.dup, 1) := by decide +kernel
theorem dX8_lookAt_32 : decode cX8_lookAt 32 = .ok (.getfield 264, 3) := by decide +kernel
theorem dX8_lookAt_35 : decode cX8_lookAt 35 = .ok (.iconst 1, 1) := by decide +kernel
theorem dX8_lookAt_36 : decode cX8_lookAt 36 = .ok (.iadd, 1) := by decide +kernel
theorem dX8_lookAt_37 : decode cX8_lookAt 37 = .ok (.putfield 264, 3) := by decide +kernel
theorem dX8_lookAt_40 : decode cX8_lookAt 40 = .ok (.goto (-35), 3) := by decide +kernel
theorem dX8_lookAt_43 : decode cX8_lookAt 43 = .ok (.aload_n 0, 1) := by decide +kernel
theorem dX8_lookAt_44 : decode cX8_lookAt 44 = .ok (.iconst 0, 1) := by decide +kernel
theorem dX8_lookAt_45 : decode cX8_lookAt 45 = .ok (.putfield 267, 3) := by decide +kernel
theorem dX8_lookAt_48 : decode cX8_lookAt 48 = .ok (.aload_n 0, 1) := by decide +kernel
theorem dX8_lookAt_49 : decode cX8_lookAt 49 = .ok (.iconst 0, 1) := by decide +kernel
theorem dX8_lookAt_50 : decode cX8_lookAt 50 = .ok (.putfield 270, 3) := by decide +kernel
theorem dX8_lookAt_53 : decode cX8_lookAt 53 = .ok (.aload_n 0, 1) := by decide +kernel
theorem dX8_lookAt_54 : decode cX8_lookAt 54 = .ok (.iconst 0, 1) := by decide +kernel
theorem dX8_lookAt_55 : decode cX8_lookAt 55 = .ok (.putfield 273, 3) := by decide +kernel
theorem dX8_lookAt_58 : decode cX8_lookAt 58 = .ok (.aload_n 0, 1) := by decide +kernel
theorem dX8_lookAt_59 : decode cX8_lookAt 59 = .ok (.getfield 264, 3) := by decide +kernel
theorem dX8_lookAt_62 : decode cX8_lookAt 62 = .ok (.aload_n 0, 1) := by decide +kernel
theorem dX8_lookAt_63 : decode cX8_lookAt 63 = .ok (.getfield 253, 3) := by decide +kernel
theorem dX8_lookAt_66 : decode cX8_lookAt 66 = .ok (.if_icmp .ne 4, 3) := by decide +kernel
theorem dX8_lookAt_69 : decode cX8_lookAt 69 = .ok (.return_, 1) := by decide +kernel
theorem dX8_lookAt_70 : decode cX8_lookAt 70 = .ok (.aload_n 0, 1) := by decide +kernel
theorem dX8_lookAt_71 : decode cX8_lookAt 71 = .ok (.getfield 55, 3) := by decide +kernel
theorem dX8_lookAt_74 : decode cX8_lookAt 74 = .ok (.aload_n 0, 1) := by decide +kernel
theorem dX8_lookAt_75 : decode cX8_lookAt 75 = .ok (.getfield 264, 3) := by decide +kernel
theorem dX8_lookAt_78 : decode cX8_lookAt 78 = .ok (.iaload, 1) := by decide +kernel
theorem dX8_lookAt_79 : decode cX8_lookAt 79 = .ok (.istore_n 2, 1) := by decide +kernel
theorem dX8_lookAt_80 : decode cX8_lookAt 80 = .ok (.aload_n 0, 1) := by decide +kernel
theorem dX8_lookAt_81 : decode cX8_lookAt 81 = .ok (.iload_n 2, 1) := by decide +kernel
theorem dX8_lookAt_82 : decode cX8_lookAt 82 = .ok (.invokestatic 276, 3) := by decide +kernel
theorem dX8_lookAt_85 : decode cX8_lookAt 85 = .ok (.ifCond .eq 7, 3) := by decide +kernel
theorem dX8_lookAt_88 : decode cX8_lookAt 88 = .ok (.iconst 1, 1) := by decide +kernel
theorem dX8_lookAt_89 : decode cX8_lookAt 89 = .ok (.goto 25, 3) := by decide +kernel
theorem dX8_lookAt_92 : decode cX8_lookAt 92 = .ok (.iload_n 2, 1) := by decide +kernel
theorem dX8_lookAt_93 : decode cX8_lookAt 93 = .ok (.invokestatic 279, 3) := by decide +kernel
theorem dX8_lookAt_96 : decode cX8_lookAt 96 = .ok (.ifCond .eq 7, 3) := by decide +kernel
theorem dX8_lookAt_99 : decode cX8_lookAt 99 = .ok (.iconst 2, 1) := by decide +kernel
theorem dX8_lookAt_100 : decode cX8_lookAt 100 = .ok (.goto 14, 3) := by decide +kernel
theorem dX8_lookAt_103 : decode cX8_lookAt 103 = .ok (.iload_n 2, 1) := by decide +kernel
theorem dX8_lookAt_104 : decode cX8_lookAt 104 = .ok (.bipush 59, 2) := by decide +kernel
theorem dX8_lookAt_106 : decode cX8_lookAt 106 = .ok (.if_icmp .ne 7, 3) := by decide +kernel
theorem dX8_lookAt_109 : decode cX8_lookAt 109 = .ok (.iconst 3, 1) := by decide +kernel
theorem dX8_lookAt_110 : decode cX8_lookAt 110 = .ok (.goto 4, 3) := by decide +kernel
theorem dX8_lookAt_113 : decode cX8_lookAt 113 = .ok (.iconst 4, 1) := by decide +kernel
theorem dX8_lookAt_114 : decode cX8_lookAt 114 = .ok (.putfield 270, 3) := by decide +kernel
theorem dX8_lookAt_117 : decode cX8_lookAt 117 = .ok (.aload_n 0, 1) := by decide +kernel
theorem dX8_lookAt_118 : decode cX8_lookAt 118 = .ok (.iconst 1, 1) := by decide +kernel
theorem dX8_lookAt_119 : decode cX8_lookAt 119 = .ok (.putfield 267, 3) := by decide +kernel
theorem dX8_lookAt_122 : decode cX8_lookAt 122 = .ok (.aload_n 0, 1) := by decide +kernel
theorem dX8_lookAt_123 : decode cX8_lookAt 123 = .ok (.getfield 270, 3) := by decide +kernel
theorem dX8_lookAt_126 : decode cX8_lookAt 126 = .ok (.iconst 3, 1) := by decide +kernel
theorem dX8_lookAt_127 : decode cX8_lookAt 127 = .ok (.if_icmp .ge 7, 3) := by decide +kernel
theorem dX8_lookAt_130 : decode cX8_lookAt 130 = .ok (.iconst 1, 1) := by decide +kernel
theorem dX8_lookAt_131 : decode cX8_lookAt 131 = .ok (.goto 4, 3) := by decide +kernel
theorem dX8_lookAt_134 : decode cX8_lookAt 134 = .ok (.iconst 0, 1) := by decide +kernel
theorem dX8_lookAt_135 : decode cX8_lookAt 135 = .ok (.istore_n 3, 1) := by decide +kernel
theorem dX8_lookAt_136 : decode cX8_lookAt 136 = .ok (.iload_n 3, 1) := by decide +kernel
theorem dX8_lookAt_137 : decode cX8_lookAt 137 = .ok (.ifCond .eq 78, 3) := by decide +kernel
theorem dX8_lookAt_140 : decode cX8_lookAt 140 = .ok (.aload_n 0, 1) := by decide +kernel
theorem dX8_lookAt_141 : decode cX8_lookAt 141 = .ok (.getfield 264, 3) := by decide +kernel
theorem dX8_lookAt_144 : decode cX8_lookAt 144 = .ok (.aload_n 0, 1) := by decide +kernel
theorem dX8_lookAt_145 : decode cX8_lookAt 145 = .ok (.getfield 267, 3) := by decide +kernel
theorem dX8_lookAt_148 : decode cX8_lookAt 148 = .ok (.iadd, 1) := by decide +kernel
theorem dX8_lookAt_149 : decode cX8_lookAt 149 = .ok (.aload_n 0, 1) := by decide +kernel
theorem dX8_lookAt_150 : decode cX8_lookAt 150 = .ok (.getfield 253, 3) := by decide +kernel
theorem dX8_lookAt_153 : decode cX8_lookAt 153 = .ok (.if_icmp .ge 62, 3) := by decide +kernel
theorem dX8_lookAt_156 : decode cX8_lookAt 156 = .ok (.aload_n 0, 1) := by decide +kernel
theorem dX8_lookAt_157 : decode cX8_lookAt 157 = .ok (.getfield 55, 3) := by decide +kernel
theorem dX8_lookAt_160 : decode cX8_lookAt 160 = .ok (.aload_n 0, 1) := by decide +kernel
theorem dX8_lookAt_161 : decode cX8_lookAt 161 = .ok (.getfield 264, 3) := by decide +kernel
theorem dX8_lookAt_164 : decode cX8_lookAt 164 = .ok (.aload_n 0, 1) := by decide +kernel
theorem dX8_lookAt_165 : decode cX8_lookAt 165 = .ok (.getfield 267, 3) := by decide +kernel
theorem dX8_lookAt_168 : decode cX8_lookAt 168 = .ok (.iadd, 1) := by decide +kernel
theorem dX8_lookAt_169 : decode cX8_lookAt 169 = .ok (.iaload, 1) := by decide +kernel
theorem dX8_lookAt_170 : decode cX8_lookAt 170 = .ok (.istore 4, 2) := by decide +kernel
theorem dX8_lookAt_172 : decode cX8_lookAt 172 = .ok (.aload_n 0, 1) := by decide +kernel
theorem dX8_lookAt_173 : decode cX8_lookAt 173 = .ok (.getfield 270, 3) := by decide +kernel
theorem dX8_lookAt_176 : decode cX8_lookAt 176 = .ok (.iconst 1, 1) := by decide +kernel
theorem dX8_lookAt_177 : decode cX8_lookAt 177 = .ok (.if_icmp .ne 11, 3) := by decide +kernel
theorem dX8_lookAt_180 : decode cX8_lookAt 180 = .ok (.iload 4, 2) := by decide +kernel
theorem dX8_lookAt_182 : decode cX8_lookAt 182 = .ok (.invokestatic 276, 3) := by decide +kernel
theorem dX8_lookAt_185 : decode cX8_lookAt 185 = .ok (.goto 8, 3) := by decide +kernel
theorem dX8_lookAt_188 : decode cX8_lookAt 188 = .ok (.iload 4, 2) := by decide +kernel
theorem dX8_lookAt_190 : decode cX8_lookAt 190 = .ok (.invokestatic 279, 3) := by decide +kernel
theorem dX8_lookAt_193 : decode cX8_lookAt 193 = .ok (.istore_n 3, 1) := by decide +kernel
theorem dX8_lookAt_194 : decode cX8_lookAt 194 = .ok (.aload_n 0, 1) := by decide +kernel
theorem dX8_lookAt_195 : decode cX8_lookAt 195 = .ok (.dup, 1) := by decide +kernel
theorem dX8_lookAt_196 : decode cX8_lookAt 196 = .ok (.getfield 267, 3) := by decide +kernel
theorem dX8_lookAt_199 : decode cX8_lookAt 199 = .ok (.iload_n 3, 1) := by decide +kernel
theorem dX8_lookAt_200 : decode cX8_lookAt 200 = .ok (.ifCond .eq 7, 3) := by decide +kernel
theorem dX8_lookAt_203 : decode cX8_lookAt 203 = .ok (.iconst 1, 1) := by decide +kernel
theorem dX8_lookAt_204 : decode cX8_lookAt 204 = .ok (.goto 4, 3) := by decide +kernel
theorem dX8_lookAt_207 : decode cX8_lookAt 207 = .ok (.iconst 0, 1) := by decide +kernel
theorem dX8_lookAt_208 : decode cX8_lookAt 208 = .ok (.iadd, 1) := by decide +kernel
theorem dX8_lookAt_209 : decode cX8_lookAt 209 = .ok (.putfield 267, 3) := by decide +kernel
theorem dX8_lookAt_212 : decode cX8_lookAt 212 = .ok (.goto (-76), 3) := by decide +kernel
theorem dX8_lookAt_215 : decode cX8_lookAt 215 = .ok (.iconst 0, 1) := by decide +kernel
theorem dX8_lookAt_216 : decode cX8_lookAt 216 = .ok (.istore 4, 2) := by decide +kernel
theorem dX8_lookAt_218 : decode cX8_lookAt 218 = .ok (.iload 4, 2) := by decide +kernel
theorem dX8_lookAt_220 : decode cX8_lookAt 220 = .ok (.aload_n 0, 1) := by decide +kernel
theorem dX8_lookAt_221 : decode cX8_lookAt 221 = .ok (.getfield 267, 3) := by decide +kernel
theorem dX8_lookAt_224 : decode cX8_lookAt 224 = .ok (.if_icmp .ge 50, 3) := by decide +kernel
theorem dX8_lookAt_227 : decode cX8_lookAt 227 = .ok (.iload 4, 2) := by decide +kernel
theorem dX8_lookAt_229 : decode cX8_lookAt 229 = .ok (.iconst 2, 1) := by decide +kernel
theorem dX8_lookAt_230 : decode cX8_lookAt 230 = .ok (.if_icmp .ge 44, 3) := by decide +kernel
theorem dX8_lookAt_233 : decode cX8_lookAt 233 = .ok (.aload_n 0, 1) := by decide +kernel
theorem dX8_lookAt_234 : decode cX8_lookAt 234 = .ok (.getfield 270, 3) := by decide +kernel
theorem dX8_lookAt_237 : decode cX8_lookAt 237 = .ok (.iconst 2, 1) := by decide +kernel
theorem dX8_lookAt_238 : decode cX8_lookAt 238 = .ok (.if_icmp .ne 36, 3) := by decide +kernel
theorem dX8_lookAt_241 : decode cX8_lookAt 241 = .ok (.aload_n 0, 1) := by decide +kernel
theorem dX8_lookAt_242 : decode cX8_lookAt 242 = .ok (.bipush 10, 2) := by decide +kernel
theorem dX8_lookAt_244 : decode cX8_lookAt 244 = .ok (.aload_n 0, 1) := by decide +kernel
theorem dX8_lookAt_245 : decode cX8_lookAt 245 = .ok (.getfield 273, 3) := by decide +kernel
theorem dX8_lookAt_248 : decode cX8_lookAt 248 = .ok (.imul, 1) := by decide +kernel
theorem dX8_lookAt_249 : decode cX8_lookAt 249 = .ok (.aload_n 0, 1) := by decide +kernel
theorem dX8_lookAt_250 : decode cX8_lookAt 250 = .ok (.getfield 55, 3) := by decide +kernel
theorem dX8_lookAt_253 : decode cX8_lookAt 253 = .ok (.aload_n 0, 1) := by decide +kernel
theorem dX8_lookAt_254 : decode cX8_lookAt 254 = .ok (.getfield 264, 3) := by decide +kernel
theorem dX8_lookAt_257 : decode cX8_lookAt 257 = .ok (.iload 4, 2) := by decide +kernel
theorem dX8_lookAt_259 : decode cX8_lookAt 259 = .ok (.iadd, 1) := by decide +kernel
theorem dX8_lookAt_260 : decode cX8_lookAt 260 = .ok (.iaload, 1) := by decide +kernel
theorem dX8_lookAt_261 : decode cX8_lookAt 261 = .ok (.iadd, 1) := by decide +kernel
theorem dX8_lookAt_262 : decode cX8_lookAt 262 = .ok (.bipush 48, 2) := by decide +kernel
theorem dX8_lookAt_264 : decode cX8_lookAt 264 = .ok (.isub, 1) := by decide +kernel
theorem dX8_lookAt_265 : decode cX8_lookAt 265 = .ok (.putfield 273, 3) := by decide +kernel
theorem dX8_lookAt_268 : decode cX8_lookAt 268 = .ok (.iinc 4 1, 3) := by decide +kernel
theorem dX8_lookAt_271 : decode cX8_lookAt 271 = .ok (.goto (-53), 3) := by decide +kernel
theorem dX8_lookAt_274 : decode cX8_lookAt 274 = .ok (.aload_n 0, 1) := by decide +kernel
theorem dX8_lookAt_275 : decode cX8_lookAt 275 = .ok (.aload_n 0, 1) := by decide +kernel
theorem dX8_lookAt_276 : decode cX8_lookAt 276 = .ok (.getfield 270, 3) := by decide +kernel
theorem dX8_lookAt_279 : decode cX8_lookAt 279 = .ok (.iconst 2, 1) := by decide +kernel
theorem dX8_lookAt_280 : decode cX8_lookAt 280 = .ok (.if_icmp .ne 15, 3) := by decide +kernel
theorem dX8_lookAt_283 : decode cX8_lookAt 283 = .ok (.aload_n 0, 1) := by decide +kernel
theorem dX8_lookAt_284 : decode cX8_lookAt 284 = .ok (.getfield 267, 3) := by decide +kernel
theorem dX8_lookAt_287 : decode cX8_lookAt 287 = .ok (.iconst 2, 1) := by decide +kernel
theorem dX8_lookAt_288 : decode cX8_lookAt 288 = .ok (.if_icmp .le 7, 3) := by decide +kernel
theorem dX8_lookAt_291 : decode cX8_lookAt 291 = .ok (.iconst 4, 1) := by decide +kernel
theorem dX8_lookAt_292 : decode cX8_lookAt 292 = .ok (.goto 7, 3) := by decide +kernel
theorem dX8_lookAt_295 : decode cX8_lookAt 295 = .ok (.aload_n 0, 1) := by decide +kernel
theorem dX8_lookAt_296 : decode cX8_lookAt 296 = .ok (.getfield 270, 3) := by decide +kernel
theorem dX8_lookAt_299 : decode cX8_lookAt 299 = .ok (.putfield 270, 3) := by decide +kernel
theorem dX8_lookAt_302 : decode cX8_lookAt 302 = .ok (.return_, 1) := by decide +kernel
theorem dX8_goBehind_0 : decode cX8_goBehind 0 = .ok (.aload_n 0, 1) := by decide +kernel
theorem dX8_goBehind_1 : decode cX8_goBehind 1 = .ok (.aload_n 0, 1) := by decide +kernel
theorem dX8_goBehind_2 : decode cX8_goBehind 2 = .ok (.getfield 264, 3) := by decide +kernel
theorem dX8_goBehind_5 : decode cX8_goBehind 5 = .ok (.aload_n 0, 1) := by decide +kernel
theorem dX8_goBehind_6 : decode cX8_goBehind 6 = .ok (.getfield 267, 3) := by decide +kernel
theorem dX8_goBehind_9 : decode cX8_goBehind 9 = .ok (.iadd, 1) := by decide +kernel
theorem dX8_goBehind_10 : decode cX8_goBehind 10 = .ok (.invokevirtual 282, 3) := by decide +kernel
theorem dX8_goBehind_13 : decode cX8_goBehind 13 = .ok (.return_, 1) := by decide +kernel
theorem dX8_isWord_0 : decode cX8_isWord 0 = .ok (.aload_n 0, 1) := by decide +kernel
theorem dX8_isWord_1 : decode cX8_isWord 1 = .ok (.getfield 270, 3) := by decide +kernel
theorem dX8_isWord_4 : decode cX8_isWord 4 = .ok (.iconst 1, 1) := by decide +kernel
theorem dX8_isWord_5 : decode cX8_isWord 5 = .ok (.if_icmp .ne 15, 3) := by decide +kernel
theorem dX8_isWord_8 : decode cX8_isWord 8 = .ok (.aload_n 0, 1) := by decide +kernel
theorem dX8_isWord_9 : decode cX8_isWord 9 = .ok (.getfield 267, 3) := by decide +kernel
theorem dX8_isWord_12 : decode cX8_isWord 12 = .ok (.iload_n 1, 1) := by decide +kernel
theorem dX8_isWord_13 : decode cX8_isWord 13 = .ok (.if_icmp .ne 7, 3) := by decide +kernel
theorem dX8_isWord_16 : decode cX8_isWord 16 = .ok (.iconst 1, 1) := by decide +kernel
theorem dX8_isWord_17 : decode cX8_isWord 17 = .ok (.goto 4, 3) := by decide +kernel
theorem dX8_isWord_20 : decode cX8_isWord 20 = .ok (.iconst 0, 1) := by decide +kernel
theorem dX8_isWord_21 : decode cX8_isWord 21 = .ok (.istore 8, 2) := by decide +kernel
theorem dX8_isWord_23 : decode cX8_isWord 23 = .ok (.iconst 0, 1) := by decide +kernel
theorem dX8_isWord_24 : decode cX8_isWord 24 = .ok (.istore 9, 2) := by decide +kernel
theorem dX8_isWord_26 : decode cX8_isWord 26 = .ok (.iload 9, 2) := by decide +kernel
theorem dX8_isWord_28 : decode cX8_isWord 28 = .ok (.iload_n 1, 1) := by decide +kernel
theorem dX8_isWord_29 : decode cX8_isWord 29 = .ok (.if_icmp .ge 90, 3) := by decide +kernel
theorem dX8_isWord_32 : decode cX8_isWord 32 = .ok (.iload 8, 2) := by decide +kernel
theorem dX8_isWord_34 : decode cX8_isWord 34 = .ok (.ifCond .eq 85, 3) := by decide +kernel
theorem dX8_isWord_37 : decode cX8_isWord 37 = .ok (.aload_n 0, 1) := by decide +kernel
theorem dX8_isWord_38 : decode cX8_isWord 38 = .ok (.getfield 55, 3) := by decide +kernel
theorem dX8_isWord_41 : decode cX8_isWord 41 = .ok (.aload_n 0, 1) := by decide +kernel
theorem dX8_isWord_42 : decode cX8_isWord 42 = .ok (.getfield 264, 3) := by decide +kernel
theorem dX8_isWord_45 : decode cX8_isWord 45 = .ok (.iload 9, 2) := by decide +kernel
theorem dX8_isWord_47 : decode cX8_isWord 47 = .ok (.iadd, 1) := by decide +kernel
theorem dX8_isWord_48 : decode cX8_isWord 48 = .ok (.iaload, 1) := by decide +kernel
theorem dX8_isWord_49 : decode cX8_isWord 49 = .ok (.iload 9, 2) := by decide +kernel
theorem dX8_isWord_51 : decode cX8_isWord 51 = .ok (.ifCond .ne 7, 3) := by decide +kernel
theorem dX8_isWord_54 : decode cX8_isWord 54 = .ok (.iload_n 2, 1) := by decide +kernel
theorem dX8_isWord_55 : decode cX8_isWord 55 = .ok (.goto 48, 3) := by decide +kernel
theorem dX8_isWord_58 : decode cX8_isWord 58 = .ok (.iload 9, 2) := by decide +kernel
theorem dX8_isWord_60 : decode cX8_isWord 60 = .ok (.iconst 1, 1) := by decide +kernel
theorem dX8_isWord_61 : decode cX8_isWord 61 = .ok (.if_icmp .ne 7, 3) := by decide +kernel
theorem dX8_isWord_64 : decode cX8_isWord 64 = .ok (.iload_n 3, 1) := by decide +kernel
theorem dX8_isWord_65 : decode cX8_isWord 65 = .ok (.goto 38, 3) := by decide +kernel
theorem dX8_isWord_68 : decode cX8_isWord 68 = .ok (.iload 9, 2) := by decide +kernel
theorem dX8_isWord_70 : decode cX8_isWord 70 = .ok (.iconst 2, 1) := by decide +kernel
theorem dX8_isWord_71 : decode cX8_isWord 71 = .ok (.if_icmp .ne 8, 3) := by decide +kernel
theorem dX8_isWord_74 : decode cX8_isWord 74 = .ok (.iload 4, 2) := by decide +kernel
theorem dX8_isWord_76 : decode cX8_isWord 76 = .ok (.goto 27, 3) := by decide +kernel
theorem dX8_isWord_79 : decode cX8_isWord 79 = .ok (.iload 9, 2) := by decide +kernel
theorem dX8_isWord_81 : decode cX8_isWord 81 = .ok (.iconst 3, 1) := by decide +kernel
theorem dX8_isWord_82 : decode cX8_isWord 82 = .ok (.if_icmp .ne 8, 3) := by decide +kernel
theorem dX8_isWord_85 : decode cX8_isWord 85 = .ok (.iload 5, 2) := by decide +kernel
theorem dX8_isWord_87 : decode cX8_isWord 87 = .ok (.goto 16, 3) := by decide +kernel
theorem dX8_isWord_90 : decode cX8_isWord 90 = .ok (.iload 9, 2) := by decide +kernel
theorem dX8_isWord_92 : decode cX8_isWord 92 = .ok (.iconst 4, 1) := by decide +kernel
theorem dX8_isWord_93 : decode cX8_isWord 93 = .ok (.if_icmp .ne 8, 3) := by decide +kernel
theorem dX8_isWord_96 : decode cX8_isWord 96 = .ok (.iload 6, 2) := by decide +kernel
theorem dX8_isWord_98 : decode cX8_isWord 98 = .ok (.goto 5, 3) := by decide +kernel
theorem dX8_isWord_101 : decode cX8_isWord 101 = .ok (.iload 7, 2) := by decide +kernel
theorem dX8_isWord_103 : decode cX8_isWord 103 = .ok (.if_icmp .ne 7, 3) := by decide +kernel
theorem dX8_isWord_106 : decode cX8_isWord 106 = .ok (.iconst 1, 1) := by decide +kernel
theorem dX8_isWord_107 : decode cX8_isWord 107 = .ok (.goto 4, 3) := by decide +kernel
theorem dX8_isWord_110 : decode cX8_isWord 110 = .ok (.iconst 0, 1) := by decide +kernel
theorem dX8_isWord_111 : decode cX8_isWord 111 = .ok (.istore 8, 2) := by decide +kernel
theorem dX8_isWord_113 : decode cX8_isWord 113 = .ok (.iinc 9 1, 3) := by decide +kernel
theorem dX8_isWord_116 : decode cX8_isWord 116 = .ok (.goto (-90), 3) := by decide +kernel
theorem dX8_isWord_119 : decode cX8_isWord 119 = .ok (.iload 8, 2) := by decide +kernel
theorem dX8_isWord_121 : decode cX8_isWord 121 = .ok (.ireturn, 1) := by decide +kernel
theorem dX8_takes_0 : decode cX8_takes 0 = .ok (.aload_n 0, 1) := by decide +kernel
theorem dX8_takes_1 : decode cX8_takes 1 = .ok (.getfield 270, 3) := by decide +kernel
theorem dX8_takes_4 : decode cX8_takes 4 = .ok (.iconst 2, 1) := by decide +kernel
theorem dX8_takes_5 : decode cX8_takes 5 = .ok (.if_icmp .ne 18, 3) := by decide +kernel
theorem dX8_takes_8 : decode cX8_takes 8 = .ok (.aload_n 0, 1) := by decide +kernel
theorem dX8_takes_9 : decode cX8_takes 9 = .ok (.getfield 273, 3) := by decide +kernel
theorem dX8_takes_12 : decode cX8_takes 12 = .ok (.i2l, 1) := by decide +kernel
theorem dX8_takes_13 : decode cX8_takes 13 = .ok (.iload_n 2, 1) := by decide +kernel
theorem dX8_takes_14 : decode cX8_takes 14 = .ok (.i2l, 1) := by decide +kernel
theorem dX8_takes_15 : decode cX8_takes 15 = .ok (.iload_n 3, 1) := by decide +kernel
theorem dX8_takes_16 : decode cX8_takes 16 = .ok (.i2l, 1) := by decide +kernel
theorem dX8_takes_17 : decode cX8_takes 17 = .ok (.invokestatic 106, 3) := by decide +kernel
theorem dX8_takes_20 : decode cX8_takes 20 = .ok (.ifCond .ne 5, 3) := by decide +kernel
theorem dX8_takes_23 : decode cX8_takes 23 = .ok (.iconst 0, 1) := by decide +kernel
theorem dX8_takes_24 : decode cX8_takes 24 = .ok (.ireturn, 1) := by decide +kernel
theorem dX8_takes_25 : decode cX8_takes 25 = .ok (.aload_n 0, 1) := by decide +kernel
theorem dX8_takes_26 : decode cX8_takes 26 = .ok (.getfield 64, 3) := by decide +kernel
theorem dX8_takes_29 : decode cX8_takes 29 = .ok (.iload_n 1, 1) := by decide +kernel
theorem dX8_takes_30 : decode cX8_takes 30 = .ok (.aload_n 0, 1) := by decide +kernel
theorem dX8_takes_31 : decode cX8_takes 31 = .ok (.getfield 273, 3) := by decide +kernel
theorem dX8_takes_34 : decode cX8_takes 34 = .ok (.iastore, 1) := by decide +kernel
theorem dX8_takes_35 : decode cX8_takes 35 = .ok (.aload_n 0, 1) := by decide +kernel
theorem dX8_takes_36 : decode cX8_takes 36 = .ok (.invokevirtual 286, 3) := by decide +kernel
theorem dX8_takes_39 : decode cX8_takes 39 = .ok (.iconst 1, 1) := by decide +kernel
theorem dX8_takes_40 : decode cX8_takes 40 = .ok (.ireturn, 1) := by decide +kernel
theorem dX8_takesFirst_0 : decode cX8_takesFirst 0 = .ok (.aload_n 0, 1) := by decide +kernel
theorem dX8_takesFirst_1 : decode cX8_takesFirst 1 = .ok (.iconst 5, 1) := by decide +kernel
theorem dX8_takesFirst_2 : decode cX8_takesFirst 2 = .ok (.bipush 114, 2) := by decide +kernel
theorem dX8_takesFirst_4 : decode cX8_takesFirst 4 = .ok (.bipush 105, 2) := by decide +kernel
theorem dX8_takesFirst_6 : decode cX8_takesFirst 6 = .ok (.bipush 118, 2) := by decide +kernel
theorem dX8_takesFirst_8 : decode cX8_takesFirst 8 = .ok (.bipush 101, 2) := by decide +kernel
theorem dX8_takesFirst_10 : decode cX8_takesFirst 10 = .ok (.bipush 114, 2) := by decide +kernel
theorem dX8_takesFirst_12 : decode cX8_takesFirst 12 = .ok (.iconst 0, 1) := by decide +kernel
theorem dX8_takesFirst_13 : decode cX8_takesFirst 13 = .ok (.invokevirtual 289, 3) := by decide +kernel
theorem dX8_takesFirst_16 : decode cX8_takesFirst 16 = .ok (.ifCond .ne 5, 3) := by decide +kernel
theorem dX8_takesFirst_19 : decode cX8_takesFirst 19 = .ok (.iconst 0, 1) := by decide +kernel
theorem dX8_takesFirst_20 : decode cX8_takesFirst 20 = .ok (.ireturn, 1) := by decide +kernel
theorem dX8_takesFirst_21 : decode cX8_takesFirst 21 = .ok (.aload_n 0, 1) := by decide +kernel
theorem dX8_takesFirst_22 : decode cX8_takesFirst 22 = .ok (.invokevirtual 286, 3) := by decide +kernel
theorem dX8_takesFirst_25 : decode cX8_takesFirst 25 = .ok (.aload_n 0, 1) := by decide +kernel
theorem dX8_takesFirst_26 : decode cX8_takesFirst 26 = .ok (.iconst 0, 1) := by decide +kernel
theorem dX8_takesFirst_27 : decode cX8_takesFirst 27 = .ok (.iconst 0, 1) := by decide +kernel
theorem dX8_takesFirst_28 : decode cX8_takesFirst 28 = .ok (.bipush 11, 2) := by decide +kernel
theorem dX8_takesFirst_30 : decode cX8_takesFirst 30 = .ok (.invokevirtual 293, 3) := by decide +kernel
theorem dX8_takesFirst_33 : decode cX8_takesFirst 33 = .ok (.ifCond .ne 5, 3) := by decide +kernel
theorem dX8_takesFirst_36 : decode cX8_takesFirst 36 = .ok (.iconst 0, 1) := by decide +kernel
theorem dX8_takesFirst_37 : decode cX8_takesFirst 37 = .ok (.ireturn, 1) := by decide +kernel
theorem dX8_takesFirst_38 : decode cX8_takesFirst 38 = .ok (.aload_n 0, 1) := by decide +kernel
theorem dX8_takesFirst_39 : decode cX8_takesFirst 39 = .ok (.getfield 58, 3) := by decide +kernel
theorem dX8_takesFirst_42 : decode cX8_takesFirst 42 = .ok (.aload_n 0, 1) := by decide +kernel
theorem dX8_takesFirst_43 : decode cX8_takesFirst 43 = .ok (.getfield 64, 3) := by decide +kernel
theorem dX8_takesFirst_46 : decode cX8_takesFirst 46 = .ok (.iconst 0, 1) := by decide +kernel
theorem dX8_takesFirst_47 : decode cX8_takesFirst 47 = .ok (.iaload, 1) := by decide +kernel
theorem dX8_takesFirst_48 : decode cX8_takesFirst 48 = .ok (.invokestatic 120, 3) := by decide +kernel
theorem dX8_takesFirst_51 : decode cX8_takesFirst 51 = .ok (.iconst 0, 1) := by decide +kernel
theorem dX8_takesFirst_52 : decode cX8_takesFirst 52 = .ok (.istore_n 1, 1) := by decide +kernel
theorem dX8_takesFirst_53 : decode cX8_takesFirst 53 = .ok (.iload_n 1, 1) := by decide +kernel
theorem dX8_takesFirst_54 : decode cX8_takesFirst 54 = .ok (.iconst 4, 1) := by decide +kernel
theorem dX8_takesFirst_55 : decode cX8_takesFirst 55 = .ok (.if_icmp .ge 16, 3) := by decide +kernel
theorem dX8_takesFirst_58 : decode cX8_takesFirst 58 = .ok (.aload_n 0, 1) := by decide +kernel
theorem dX8_takesFirst_59 : decode cX8_takesFirst 59 = .ok (.getfield 61, 3) := by decide +kernel
theorem dX8_takesFirst_62 : decode cX8_takesFirst 62 = .ok (.iload_n 1, 1) := by decide +kernel
theorem dX8_takesFirst_63 : decode cX8_takesFirst 63 = .ok (.lconst 0, 1) := by decide +kernel
theorem dX8_takesFirst_64 : decode cX8_takesFirst 64 = .ok (.lastore, 1) := by decide +kernel
theorem dX8_takesFirst_65 : decode cX8_takesFirst 65 = .ok (.iinc 1 1, 3) := by decide +kernel
theorem dX8_takesFirst_68 : decode cX8_takesFirst 68 = .ok (.goto (-15), 3) := by decide +kernel
theorem dX8_takesFirst_71 : decode cX8_takesFirst 71 = .ok (.aload_n 0, 1) := by decide +kernel
theorem dX8_takesFirst_72 : decode cX8_takesFirst 72 = .ok (.getfield 270, 3) := by decide +kernel
theorem dX8_takesFirst_75 : decode cX8_takesFirst 75 = .ok (.iconst 3, 1) := by decide +kernel
theorem dX8_takesFirst_76 : decode cX8_takesFirst 76 = .ok (.if_icmp .ne 7, 3) := by decide +kernel
theorem dX8_takesFirst_79 : decode cX8_takesFirst 79 = .ok (.iconst 1, 1) := by decide +kernel
theorem dX8_takesFirst_80 : decode cX8_takesFirst 80 = .ok (.goto 4, 3) := by decide +kernel
theorem dX8_takesFirst_83 : decode cX8_takesFirst 83 = .ok (.iconst 0, 1) := by decide +kernel
theorem dX8_takesFirst_84 : decode cX8_takesFirst 84 = .ok (.ireturn, 1) := by decide +kernel
theorem dX8_takesBridge_0 : decode cX8_takesBridge 0 = .ok (.aload_n 0, 1) := by decide +kernel
theorem dX8_takesBridge_1 : decode cX8_takesBridge 1 = .ok (.getfield 58, 3) := by decide +kernel
theorem dX8_takesBridge_4 : decode cX8_takesBridge 4 = .ok (.iconst 0, 1) := by decide +kernel
theorem dX8_takesBridge_5 : decode cX8_takesBridge 5 = .ok (.iaload, 1) := by decide +kernel
theorem dX8_takesBridge_6 : decode cX8_takesBridge 6 = .ok (.bipush 8, 2) := by decide +kernel
theorem dX8_takesBridge_8 : decode cX8_takesBridge 8 = .ok (.if_icmp .ne 5, 3) := by decide +kernel
theorem dX8_takesBridge_11 : decode cX8_takesBridge 11 = .ok (.iconst 0, 1) := by decide +kernel
theorem dX8_takesBridge_12 : decode cX8_takesBridge 12 = .ok (.ireturn, 1) := by decide +kernel
theorem dX8_takesBridge_13 : decode cX8_takesBridge 13 = .ok (.aload_n 0, 1) := by decide +kernel
theorem dX8_takesBridge_14 : decode cX8_takesBridge 14 = .ok (.invokevirtual 286, 3) := by decide +kernel
theorem dX8_takesBridge_17 : decode cX8_takesBridge 17 = .ok (.aload_n 0, 1) := by decide +kernel
theorem dX8_takesBridge_18 : decode cX8_takesBridge 18 = .ok (.iconst 0, 1) := by decide +kernel
theorem dX8_takesBridge_19 : decode cX8_takesBridge 19 = .ok (.iconst 0, 1) := by decide +kernel
theorem dX8_takesBridge_20 : decode cX8_takesBridge 20 = .ok (.iconst 5, 1) := by decide +kernel
theorem dX8_takesBridge_21 : decode cX8_takesBridge 21 = .ok (.invokevirtual 293, 3) := by decide +kernel
theorem dX8_takesBridge_24 : decode cX8_takesBridge 24 = .ok (.ifCond .eq 55, 3) := by decide +kernel
theorem dX8_takesBridge_27 : decode cX8_takesBridge 27 = .ok (.aload_n 0, 1) := by decide +kernel
theorem dX8_takesBridge_28 : decode cX8_takesBridge 28 = .ok (.getfield 270, 3) := by decide +kernel
theorem dX8_takesBridge_31 : decode cX8_takesBridge 31 = .ok (.iconst 2, 1) := by decide +kernel
theorem dX8_takesBridge_32 : decode cX8_takesBridge 32 = .ok (.if_icmp .ne 16, 3) := by decide +kernel
theorem dX8_takesBridge_35 : decode cX8_takesBridge 35 = .ok (.aload_n 0, 1) := by decide +kernel
theorem dX8_takesBridge_36 : decode cX8_takesBridge 36 = .ok (.getfield 273, 3) := by decide +kernel
theorem dX8_takesBridge_39 : decode cX8_takesBridge 39 = .ok (.aload_n 0, 1) := by decide +kernel
theorem dX8_takesBridge_40 : decode cX8_takesBridge 40 = .ok (.getfield 64, 3) := by decide +kernel
theorem dX8_takesBridge_43 : decode cX8_takesBridge 43 = .ok (.iconst 0, 1) := by decide +kernel
theorem dX8_takesBridge_44 : decode cX8_takesBridge 44 = .ok (.iaload, 1) := by decide +kernel
theorem dX8_takesBridge_45 : decode cX8_takesBridge 45 = .ok (.if_icmp .eq 34, 3) := by decide +kernel
theorem dX8_takesBridge_48 : decode cX8_takesBridge 48 = .ok (.aload_n 0, 1) := by decide +kernel
theorem dX8_takesBridge_49 : decode cX8_takesBridge 49 = .ok (.iconst 1, 1) := by decide +kernel
theorem dX8_takesBridge_50 : decode cX8_takesBridge 50 = .ok (.iconst 0, 1) := by decide +kernel
theorem dX8_takesBridge_51 : decode cX8_takesBridge 51 = .ok (.iconst 5, 1) := by decide +kernel
theorem dX8_takesBridge_52 : decode cX8_takesBridge 52 = .ok (.invokevirtual 293, 3) := by decide +kernel
theorem dX8_takesBridge_55 : decode cX8_takesBridge 55 = .ok (.ifCond .eq 24, 3) := by decide +kernel
theorem dX8_takesBridge_58 : decode cX8_takesBridge 58 = .ok (.aload_n 0, 1) := by decide +kernel
theorem dX8_takesBridge_59 : decode cX8_takesBridge 59 = .ok (.iconst 2, 1) := by decide +kernel
theorem dX8_takesBridge_60 : decode cX8_takesBridge 60 = .ok (.iconst 0, 1) := by decide +kernel
theorem dX8_takesBridge_61 : decode cX8_takesBridge 61 = .ok (.iconst 5, 1) := by decide +kernel
theorem dX8_takesBridge_62 : decode cX8_takesBridge 62 = .ok (.invokevirtual 293, 3) := by decide +kernel
theorem dX8_takesBridge_65 : decode cX8_takesBridge 65 = .ok (.ifCond .eq 14, 3) := by decide +kernel
theorem dX8_takesBridge_68 : decode cX8_takesBridge 68 = .ok (.aload_n 0, 1) := by decide +kernel
theorem dX8_takesBridge_69 : decode cX8_takesBridge 69 = .ok (.iconst 3, 1) := by decide +kernel
theorem dX8_takesBridge_70 : decode cX8_takesBridge 70 = .ok (.iconst 0, 1) := by decide +kernel
theorem dX8_takesBridge_71 : decode cX8_takesBridge 71 = .ok (.bipush 15, 2) := by decide +kernel
theorem dX8_takesBridge_73 : decode cX8_takesBridge 73 = .ok (.invokevirtual 293, 3) := by decide +kernel
theorem dX8_takesBridge_76 : decode cX8_takesBridge 76 = .ok (.ifCond .ne 5, 3) := by decide +kernel
theorem dX8_takesBridge_79 : decode cX8_takesBridge 79 = .ok (.iconst 0, 1) := by decide +kernel
theorem dX8_takesBridge_80 : decode cX8_takesBridge 80 = .ok (.ireturn, 1) := by decide +kernel
theorem dX8_takesBridge_81 : decode cX8_takesBridge 81 = .ok (.aload_n 0, 1) := by decide +kernel
theorem dX8_takesBridge_82 : decode cX8_takesBridge 82 = .ok (.getfield 58, 3) := by decide +kernel
theorem dX8_takesBridge_85 : decode cX8_takesBridge 85 = .ok (.aload_n 0, 1) := by decide +kernel
theorem dX8_takesBridge_86 : decode cX8_takesBridge 86 = .ok (.getfield 64, 3) := by decide +kernel
theorem dX8_takesBridge_89 : decode cX8_takesBridge 89 = .ok (.iconst 0, 1) := by decide +kernel
theorem dX8_takesBridge_90 : decode cX8_takesBridge 90 = .ok (.iaload, 1) := by decide +kernel
theorem dX8_takesBridge_91 : decode cX8_takesBridge 91 = .ok (.aload_n 0, 1) := by decide +kernel
theorem dX8_takesBridge_92 : decode cX8_takesBridge 92 = .ok (.getfield 64, 3) := by decide +kernel
theorem dX8_takesBridge_95 : decode cX8_takesBridge 95 = .ok (.iconst 1, 1) := by decide +kernel
theorem dX8_takesBridge_96 : decode cX8_takesBridge 96 = .ok (.iaload, 1) := by decide +kernel
theorem dX8_takesBridge_97 : decode cX8_takesBridge 97 = .ok (.aload_n 0, 1) := by decide +kernel
theorem dX8_takesBridge_98 : decode cX8_takesBridge 98 = .ok (.getfield 64, 3) := by decide +kernel
theorem dX8_takesBridge_101 : decode cX8_takesBridge 101 = .ok (.iconst 2, 1) := by decide +kernel
theorem dX8_takesBridge_102 : decode cX8_takesBridge 102 = .ok (.iaload, 1) := by decide +kernel
theorem dX8_takesBridge_103 : decode cX8_takesBridge 103 = .ok (.aload_n 0, 1) := by decide +kernel
theorem dX8_takesBridge_104 : decode cX8_takesBridge 104 = .ok (.getfield 64, 3) := by decide +kernel
theorem dX8_takesBridge_107 : decode cX8_takesBridge 107 = .ok (.iconst 3, 1) := by decide +kernel
theorem dX8_takesBridge_108 : decode cX8_takesBridge 108 = .ok (.iaload, 1) := by decide +kernel
theorem dX8_takesBridge_109 : decode cX8_takesBridge 109 = .ok (.invokestatic 131, 3) := by decide +kernel
theorem dX8_takesBridge_112 : decode cX8_takesBridge 112 = .ok (.iconst 1, 1) := by decide +kernel
theorem dX8_takesBridge_113 : decode cX8_takesBridge 113 = .ok (.ireturn, 1) := by decide +kernel
theorem dX8_takesRow_0 : decode cX8_takesRow 0 = .ok (.aload_n 0, 1) := by decide +kernel
theorem dX8_takesRow_1 : decode cX8_takesRow 1 = .ok (.invokevirtual 286, 3) := by decide +kernel
theorem dX8_takesRow_4 : decode cX8_takesRow 4 = .ok (.aload_n 0, 1) := by decide +kernel
theorem dX8_takesRow_5 : decode cX8_takesRow 5 = .ok (.iconst 0, 1) := by decide +kernel
theorem dX8_takesRow_6 : decode cX8_takesRow 6 = .ok (.iconst 0, 1) := by decide +kernel
theorem dX8_takesRow_7 : decode cX8_takesRow 7 = .ok (.iconst 3, 1) := by decide +kernel
theorem dX8_takesRow_8 : decode cX8_takesRow 8 = .ok (.invokevirtual 293, 3) := by decide +kernel
theorem dX8_takesRow_11 : decode cX8_takesRow 11 = .ok (.ifCond .ne 5, 3) := by decide +kernel
theorem dX8_takesRow_14 : decode cX8_takesRow 14 = .ok (.iconst 0, 1) := by decide +kernel
theorem dX8_takesRow_15 : decode cX8_takesRow 15 = .ok (.ireturn, 1) := by decide +kernel
theorem dX8_takesRow_16 : decode cX8_takesRow 16 = .ok (.aload_n 0, 1) := by decide +kernel
theorem dX8_takesRow_17 : decode cX8_takesRow 17 = .ok (.getfield 64, 3) := by decide +kernel
theorem dX8_takesRow_20 : decode cX8_takesRow 20 = .ok (.iconst 0, 1) := by decide +kernel
theorem dX8_takesRow_21 : decode cX8_takesRow 21 = .ok (.iaload, 1) := by decide +kernel
theorem dX8_takesRow_22 : decode cX8_takesRow 22 = .ok (.istore_n 1, 1) := by decide +kernel
theorem dX8_takesRow_23 : decode cX8_takesRow 23 = .ok (.aload_n 0, 1) := by decide +kernel
theorem dX8_takesRow_24 : decode cX8_takesRow 24 = .ok (.getfield 61, 3) := by decide +kernel
theorem dX8_takesRow_27 : decode cX8_takesRow 27 = .ok (.iload_n 1, 1) := by decide +kernel
theorem dX8_takesRow_28 : decode cX8_takesRow 28 = .ok (.lconst 0, 1) := by decide +kernel
theorem dX8_takesRow_29 : decode cX8_takesRow 29 = .ok (.lastore, 1) := by decide +kernel
theorem dX8_takesRow_30 : decode cX8_takesRow 30 = .ok (.aload_n 0, 1) := by decide +kernel
theorem dX8_takesRow_31 : decode cX8_takesRow 31 = .ok (.getfield 270, 3) := by decide +kernel
theorem dX8_takesRow_34 : decode cX8_takesRow 34 = .ok (.iconst 2, 1) := by decide +kernel
theorem dX8_takesRow_35 : decode cX8_takesRow 35 = .ok (.if_icmp .ne 54, 3) := by decide +kernel
theorem dX8_takesRow_38 : decode cX8_takesRow 38 = .ok (.aload_n 0, 1) := by decide +kernel
theorem dX8_takesRow_39 : decode cX8_takesRow 39 = .ok (.getfield 61, 3) := by decide +kernel
theorem dX8_takesRow_42 : decode cX8_takesRow 42 = .ok (.iload_n 1, 1) := by decide +kernel
theorem dX8_takesRow_43 : decode cX8_takesRow 43 = .ok (.laload, 1) := by decide +kernel
theorem dX8_takesRow_44 : decode cX8_takesRow 44 = .ok (.invokestatic 71, 3) := by decide +kernel
theorem dX8_takesRow_47 : decode cX8_takesRow 47 = .ok (.bipush 12, 2) := by decide +kernel
theorem dX8_takesRow_49 : decode cX8_takesRow 49 = .ok (.if_icmp .eq 14, 3) := by decide +kernel
theorem dX8_takesRow_52 : decode cX8_takesRow 52 = .ok (.aload_n 0, 1) := by decide +kernel
theorem dX8_takesRow_53 : decode cX8_takesRow 53 = .ok (.iconst 1, 1) := by decide +kernel
theorem dX8_takesRow_54 : decode cX8_takesRow 54 = .ok (.iconst 0, 1) := by decide +kernel
theorem dX8_takesRow_55 : decode cX8_takesRow 55 = .ok (.bipush 15, 2) := by decide +kernel
theorem dX8_takesRow_57 : decode cX8_takesRow 57 = .ok (.invokevirtual 293, 3) := by decide +kernel
theorem dX8_takesRow_60 : decode cX8_takesRow 60 = .ok (.ifCond .ne 5, 3) := by decide +kernel
theorem dX8_takesRow_63 : decode cX8_takesRow 63 = .ok (.iconst 0, 1) := by decide +kernel
theorem dX8_takesRow_64 : decode cX8_takesRow 64 = .ok (.ireturn, 1) := by decide +kernel
theorem dX8_takesRow_65 : decode cX8_takesRow 65 = .ok (.aload_n 0, 1) := by decide +kernel
theorem dX8_takesRow_66 : decode cX8_takesRow 66 = .ok (.getfield 61, 3) := by decide +kernel
theorem dX8_takesRow_69 : decode cX8_takesRow 69 = .ok (.iload_n 1, 1) := by decide +kernel
theorem dX8_takesRow_70 : decode cX8_takesRow 70 = .ok (.aload_n 0, 1) := by decide +kernel
theorem dX8_takesRow_71 : decode cX8_takesRow 71 = .ok (.getfield 61, 3) := by decide +kernel
theorem dX8_takesRow_74 : decode cX8_takesRow 74 = .ok (.iload_n 1, 1) := by decide +kernel
theorem dX8_takesRow_75 : decode cX8_takesRow 75 = .ok (.laload, 1) := by decide +kernel
theorem dX8_takesRow_76 : decode cX8_takesRow 76 = .ok (.aload_n 0, 1) := by decide +kernel
theorem dX8_takesRow_77 : decode cX8_takesRow 77 = .ok (.getfield 64, 3) := by decide +kernel
theorem dX8_takesRow_80 : decode cX8_takesRow 80 = .ok (.iconst 1, 1) := by decide +kernel
theorem dX8_takesRow_81 : decode cX8_takesRow 81 = .ok (.iaload, 1) := by decide +kernel
theorem dX8_takesRow_82 : decode cX8_takesRow 82 = .ok (.invokestatic 79, 3) := by decide +kernel
theorem dX8_takesRow_85 : decode cX8_takesRow 85 = .ok (.lastore, 1) := by decide +kernel
theorem dX8_takesRow_86 : decode cX8_takesRow 86 = .ok (.goto (-56), 3) := by decide +kernel
theorem dX8_takesRow_89 : decode cX8_takesRow 89 = .ok (.iconst 1, 1) := by decide +kernel
theorem dX8_takesRow_90 : decode cX8_takesRow 90 = .ok (.ireturn, 1) := by decide +kernel
theorem dX8_takesItem_0 : decode cX8_takesItem 0 = .ok (.aload_n 0, 1) := by decide +kernel
theorem dX8_takesItem_1 : decode cX8_takesItem 1 = .ok (.bipush 6, 2) := by decide +kernel
theorem dX8_takesItem_3 : decode cX8_takesItem 3 = .ok (.bipush 98, 2) := by decide +kernel
theorem dX8_takesItem_5 : decode cX8_takesItem 5 = .ok (.bipush 114, 2) := by decide +kernel
theorem dX8_takesItem_7 : decode cX8_takesItem 7 = .ok (.bipush 105, 2) := by decide +kernel
theorem dX8_takesItem_9 : decode cX8_takesItem 9 = .ok (.bipush 100, 2) := by decide +kernel
theorem dX8_takesItem_11 : decode cX8_takesItem 11 = .ok (.bipush 103, 2) := by decide +kernel
theorem dX8_takesItem_13 : decode cX8_takesItem 13 = .ok (.bipush 101, 2) := by decide +kernel
theorem dX8_takesItem_15 : decode cX8_takesItem 15 = .ok (.invokevirtual 289, 3) := by decide +kernel
theorem dX8_takesItem_18 : decode cX8_takesItem 18 = .ok (.ifCond .eq 8, 3) := by decide +kernel
theorem dX8_takesItem_21 : decode cX8_takesItem 21 = .ok (.aload_n 0, 1) := by decide +kernel
theorem dX8_takesItem_22 : decode cX8_takesItem 22 = .ok (.invokevirtual 297, 3) := by decide +kernel
theorem dX8_takesItem_25 : decode cX8_takesItem 25 = .ok (.ireturn, 1) := by decide +kernel
theorem dX8_takesItem_26 : decode cX8_takesItem 26 = .ok (.aload_n 0, 1) := by decide +kernel
theorem dX8_takesItem_27 : decode cX8_takesItem 27 = .ok (.iconst 3, 1) := by decide +kernel
theorem dX8_takesItem_28 : decode cX8_takesItem 28 = .ok (.bipush 114, 2) := by decide +kernel
theorem dX8_takesItem_30 : decode cX8_takesItem 30 = .ok (.bipush 111, 2) := by decide +kernel
theorem dX8_takesItem_32 : decode cX8_takesItem 32 = .ok (.bipush 119, 2) := by decide +kernel
theorem dX8_takesItem_34 : decode cX8_takesItem 34 = .ok (.iconst 0, 1) := by decide +kernel
theorem dX8_takesItem_35 : decode cX8_takesItem 35 = .ok (.iconst 0, 1) := by decide +kernel
theorem dX8_takesItem_36 : decode cX8_takesItem 36 = .ok (.iconst 0, 1) := by decide +kernel
theorem dX8_takesItem_37 : decode cX8_takesItem 37 = .ok (.invokevirtual 289, 3) := by decide +kernel
theorem dX8_takesItem_40 : decode cX8_takesItem 40 = .ok (.ifCond .eq 14, 3) := by decide +kernel
theorem dX8_takesItem_43 : decode cX8_takesItem 43 = .ok (.aload_n 0, 1) := by decide +kernel
theorem dX8_takesItem_44 : decode cX8_takesItem 44 = .ok (.invokevirtual 300, 3) := by decide +kernel
theorem dX8_takesItem_47 : decode cX8_takesItem 47 = .ok (.ifCond .eq 7, 3) := by decide +kernel
theorem dX8_takesItem_50 : decode cX8_takesItem 50 = .ok (.iconst 1, 1) := by decide +kernel
theorem dX8_takesItem_51 : decode cX8_takesItem 51 = .ok (.goto 4, 3) := by decide +kernel
theorem dX8_takesItem_54 : decode cX8_takesItem 54 = .ok (.iconst 0, 1) := by decide +kernel
theorem dX8_takesItem_55 : decode cX8_takesItem 55 = .ok (.ireturn, 1) := by decide +kernel
theorem dX8_read_0 : decode cX8_read 0 = .ok (.aload_n 0, 1) := by decide +kernel
theorem dX8_read_1 : decode cX8_read 1 = .ok (.iconst 0, 1) := by decide +kernel
theorem dX8_read_2 : decode cX8_read 2 = .ok (.invokevirtual 282, 3) := by decide +kernel
theorem dX8_read_5 : decode cX8_read 5 = .ok (.aload_n 0, 1) := by decide +kernel
theorem dX8_read_6 : decode cX8_read 6 = .ok (.invokevirtual 303, 3) := by decide +kernel
theorem dX8_read_9 : decode cX8_read 9 = .ok (.ifCond .ne 11, 3) := by decide +kernel
theorem dX8_read_12 : decode cX8_read 12 = .ok (.bipush (-10), 2) := by decide +kernel
theorem dX8_read_14 : decode cX8_read 14 = .ok (.aload_n 0, 1) := by decide +kernel
theorem dX8_read_15 : decode cX8_read 15 = .ok (.getfield 264, 3) := by decide +kernel
theorem dX8_read_18 : decode cX8_read 18 = .ok (.isub, 1) := by decide +kernel
theorem dX8_read_19 : decode cX8_read 19 = .ok (.ireturn, 1) := by decide +kernel
theorem dX8_read_20 : decode cX8_read 20 = .ok (.aload_n 0, 1) := by decide +kernel
theorem dX8_read_21 : decode cX8_read 21 = .ok (.invokevirtual 286, 3) := by decide +kernel
theorem dX8_read_24 : decode cX8_read 24 = .ok (.iconst 1, 1) := by decide +kernel
theorem dX8_read_25 : decode cX8_read 25 = .ok (.istore_n 1, 1) := by decide +kernel
theorem dX8_read_26 : decode cX8_read 26 = .ok (.aload_n 0, 1) := by decide +kernel
theorem dX8_read_27 : decode cX8_read 27 = .ok (.getfield 270, 3) := by decide +kernel
theorem dX8_read_30 : decode cX8_read 30 = .ok (.ifCond .eq 36, 3) := by decide +kernel
theorem dX8_read_33 : decode cX8_read 33 = .ok (.aload_n 0, 1) := by decide +kernel
theorem dX8_read_34 : decode cX8_read 34 = .ok (.invokevirtual 306, 3) := by decide +kernel
theorem dX8_read_37 : decode cX8_read 37 = .ok (.ifCond .eq 11, 3) := by decide +kernel
theorem dX8_read_40 : decode cX8_read 40 = .ok (.aload_n 0, 1) := by decide +kernel
theorem dX8_read_41 : decode cX8_read 41 = .ok (.getfield 270, 3) := by decide +kernel
theorem dX8_read_44 : decode cX8_read 44 = .ok (.iconst 3, 1) := by decide +kernel
theorem dX8_read_45 : decode cX8_read 45 = .ok (.if_icmp .eq 11, 3) := by decide +kernel
theorem dX8_read_48 : decode cX8_read 48 = .ok (.bipush (-10), 2) := by decide +kernel
theorem dX8_read_50 : decode cX8_read 50 = .ok (.aload_n 0, 1) := by decide +kernel
theorem dX8_read_51 : decode cX8_read 51 = .ok (.getfield 264, 3) := by decide +kernel
theorem dX8_read_54 : decode cX8_read 54 = .ok (.isub, 1) := by decide +kernel
theorem dX8_read_55 : decode cX8_read 55 = .ok (.ireturn, 1) := by decide +kernel
theorem dX8_read_56 : decode cX8_read 56 = .ok (.aload_n 0, 1) := by decide +kernel
theorem dX8_read_57 : decode cX8_read 57 = .ok (.invokevirtual 286, 3) := by decide +kernel
theorem dX8_read_60 : decode cX8_read 60 = .ok (.iinc 1 1, 3) := by decide +kernel
theorem dX8_read_63 : decode cX8_read 63 = .ok (.goto (-37), 3) := by decide +kernel
theorem dX8_read_66 : decode cX8_read 66 = .ok (.iconst 0, 1) := by decide +kernel
theorem dX8_read_67 : decode cX8_read 67 = .ok (.istore_n 2, 1) := by decide +kernel
theorem dX8_read_68 : decode cX8_read 68 = .ok (.iload_n 2, 1) := by decide +kernel
theorem dX8_read_69 : decode cX8_read 69 = .ok (.bipush 52, 2) := by decide +kernel
theorem dX8_read_71 : decode cX8_read 71 = .ok (.if_icmp .ge 21, 3) := by decide +kernel
theorem dX8_read_74 : decode cX8_read 74 = .ok (.aload_n 0, 1) := by decide +kernel
theorem dX8_read_75 : decode cX8_read 75 = .ok (.getfield 7, 3) := by decide +kernel
theorem dX8_read_78 : decode cX8_read 78 = .ok (.iload_n 2, 1) := by decide +kernel
theorem dX8_read_79 : decode cX8_read 79 = .ok (.aload_n 0, 1) := by decide +kernel
theorem dX8_read_80 : decode cX8_read 80 = .ok (.getfield 58, 3) := by decide +kernel
theorem dX8_read_83 : decode cX8_read 83 = .ok (.iload_n 2, 1) := by decide +kernel
theorem dX8_read_84 : decode cX8_read 84 = .ok (.iaload, 1) := by decide +kernel
theorem dX8_read_85 : decode cX8_read 85 = .ok (.iastore, 1) := by decide +kernel
theorem dX8_read_86 : decode cX8_read 86 = .ok (.iinc 2 1, 3) := by decide +kernel
theorem dX8_read_89 : decode cX8_read 89 = .ok (.goto (-21), 3) := by decide +kernel
theorem dX8_read_92 : decode cX8_read 92 = .ok (.iconst 0, 1) := by decide +kernel
theorem dX8_read_93 : decode cX8_read 93 = .ok (.istore_n 2, 1) := by decide +kernel
theorem dX8_read_94 : decode cX8_read 94 = .ok (.iload_n 2, 1) := by decide +kernel
theorem dX8_read_95 : decode cX8_read 95 = .ok (.iconst 4, 1) := by decide +kernel
theorem dX8_read_96 : decode cX8_read 96 = .ok (.if_icmp .ge 21, 3) := by decide +kernel
theorem dX8_read_99 : decode cX8_read 99 = .ok (.aload_n 0, 1) := by decide +kernel
theorem dX8_read_100 : decode cX8_read 100 = .ok (.getfield 16, 3) := by decide +kernel
theorem dX8_read_103 : decode cX8_read 103 = .ok (.iload_n 2, 1) := by decide +kernel
theorem dX8_read_104 : decode cX8_read 104 = .ok (.aload_n 0, 1) := by decide +kernel
theorem dX8_read_105 : decode cX8_read 105 = .ok (.getfield 61, 3) := by decide +kernel
theorem dX8_read_108 : decode cX8_read 108 = .ok (.iload_n 2, 1) := by decide +kernel
theorem dX8_read_109 : decode cX8_read 109 = .ok (.laload, 1) := by decide +kernel
theorem dX8_read_110 : decode cX8_read 110 = .ok (.lastore, 1) := by decide +kernel
theorem dX8_read_111 : decode cX8_read 111 = .ok (.iinc 2 1, 3) := by decide +kernel
theorem dX8_read_114 : decode cX8_read 114 = .ok (.goto (-20), 3) := by decide +kernel
theorem dX8_read_117 : decode cX8_read 117 = .ok (.iload_n 1, 1) := by decide +kernel
theorem dX8_read_118 : decode cX8_read 118 = .ok (.ireturn, 1) := by decide +kernel
theorem dX8_part_0 : decode cX8_part 0 = .ok (.iload_n 1, 1) := by decide +kernel
theorem dX8_part_1 : decode cX8_part 1 = .ok (.ifCond .ne 10, 3) := by decide +kernel
theorem dX8_part_4 : decode cX8_part 4 = .ok (.aload_n 0, 1) := by decide +kernel
theorem dX8_part_5 : decode cX8_part 5 = .ok (.getfield 215, 3) := by decide +kernel
theorem dX8_part_8 : decode cX8_part 8 = .ok (.goto 22, 3) := by decide +kernel
theorem dX8_part_11 : decode cX8_part 11 = .ok (.iload_n 1, 1) := by decide +kernel
theorem dX8_part_12 : decode cX8_part 12 = .ok (.iconst 1, 1) := by decide +kernel
theorem dX8_part_13 : decode cX8_part 13 = .ok (.if_icmp .ne 10, 3) := by decide +kernel
theorem dX8_part_16 : decode cX8_part 16 = .ok (.aload_n 0, 1) := by decide +kernel
theorem dX8_part_17 : decode cX8_part 17 = .ok (.getfield 30, 3) := by decide +kernel
theorem dX8_part_20 : decode cX8_part 20 = .ok (.goto 10, 3) := by decide +kernel
theorem dX8_part_23 : decode cX8_part 23 = .ok (.aload_n 0, 1) := by decide +kernel
theorem dX8_part_24 : decode cX8_part 24 = .ok (.bipush (-2), 2) := by decide +kernel
theorem dX8_part_26 : decode cX8_part 26 = .ok (.invokevirtual 116, 3) := by decide +kernel
theorem dX8_part_29 : decode cX8_part 29 = .ok (.i2l, 1) := by decide +kernel
theorem dX8_part_30 : decode cX8_part 30 = .ok (.lreturn, 1) := by decide +kernel
theorem dX8_image_0 : decode cX8_image 0 = .ok (.iload_n 1, 1) := by decide +kernel
theorem dX8_image_1 : decode cX8_image 1 = .ok (.i2l, 1) := by decide +kernel
theorem dX8_image_2 : decode cX8_image 2 = .ok (.lconst 0, 1) := by decide +kernel
theorem dX8_image_3 : decode cX8_image 3 = .ok (.lconst 1, 1) := by decide +kernel
theorem dX8_image_4 : decode cX8_image 4 = .ok (.invokestatic 106, 3) := by decide +kernel
theorem dX8_image_7 : decode cX8_image 7 = .ok (.ifCond .ne 10, 3) := by decide +kernel
theorem dX8_image_10 : decode cX8_image 10 = .ok (.aload_n 0, 1) := by decide +kernel
theorem dX8_image_11 : decode cX8_image 11 = .ok (.bipush (-2), 2) := by decide +kernel
theorem dX8_image_13 : decode cX8_image 13 = .ok (.invokevirtual 116, 3) := by decide +kernel
theorem dX8_image_16 : decode cX8_image 16 = .ok (.ireturn, 1) := by decide +kernel
theorem dX8_image_17 : decode cX8_image 17 = .ok (.iconst 0, 1) := by decide +kernel
theorem dX8_image_18 : decode cX8_image 18 = .ok (.istore_n 2, 1) := by decide +kernel
theorem dX8_image_19 : decode cX8_image 19 = .ok (.iload_n 2, 1) := by decide +kernel
theorem dX8_image_20 : decode cX8_image 20 = .ok (.sipush 188, 3) := by decide +kernel
theorem dX8_image_23 : decode cX8_image 23 = .ok (.if_icmp .ge 27, 3) := by decide +kernel
theorem dX8_image_26 : decode cX8_image 26 = .ok (.aload_n 0, 1) := by decide +kernel
theorem dX8_image_27 : decode cX8_image 27 = .ok (.getfield 13, 3) := by decide +kernel
theorem dX8_image_30 : decode cX8_image 30 = .ok (.sipush 188, 3) := by decide +kernel
theorem dX8_image_33 : decode cX8_image 33 = .ok (.iload_n 1, 1) := by decide +kernel
theorem dX8_image_34 : decode cX8_image 34 = .ok (.imul, 1) := by decide +kernel
theorem dX8_image_35 : decode cX8_image 35 = .ok (.iload_n 2, 1) := by decide +kernel
theorem dX8_image_36 : decode cX8_image 36 = .ok (.iadd, 1) := by decide +kernel
theorem dX8_image_37 : decode cX8_image 37 = .ok (.aload_n 0, 1) := by decide +kernel
theorem dX8_image_38 : decode cX8_image 38 = .ok (.getfield 7, 3) := by decide +kernel
theorem dX8_image_41 : decode cX8_image 41 = .ok (.iload_n 2, 1) := by decide +kernel
theorem dX8_image_42 : decode cX8_image 42 = .ok (.iaload, 1) := by decide +kernel
theorem dX8_image_43 : decode cX8_image 43 = .ok (.iastore, 1) := by decide +kernel
theorem dX8_image_44 : decode cX8_image 44 = .ok (.iinc 2 1, 3) := by decide +kernel
theorem dX8_image_47 : decode cX8_image 47 = .ok (.goto (-28), 3) := by decide +kernel
theorem dX8_image_50 : decode cX8_image 50 = .ok (.iconst 0, 1) := by decide +kernel
theorem dX8_image_51 : decode cX8_image 51 = .ok (.istore_n 2, 1) := by decide +kernel
theorem dX8_image_52 : decode cX8_image 52 = .ok (.iload_n 2, 1) := by decide +kernel
theorem dX8_image_53 : decode cX8_image 53 = .ok (.bipush 20, 2) := by decide +kernel
theorem dX8_image_55 : decode cX8_image 55 = .ok (.if_icmp .ge 26, 3) := by decide +kernel
theorem dX8_image_58 : decode cX8_image 58 = .ok (.aload_n 0, 1) := by decide +kernel
theorem dX8_image_59 : decode cX8_image 59 = .ok (.getfield 20, 3) := by decide +kernel
theorem dX8_image_62 : decode cX8_image 62 = .ok (.bipush 20, 2) := by decide +kernel
theorem dX8_image_64 : decode cX8_image 64 = .ok (.iload_n 1, 1) := by decide +kernel
theorem dX8_image_65 : decode cX8_image 65 = .ok (.imul, 1) := by decide +kernel
theorem dX8_image_66 : decode cX8_image 66 = .ok (.iload_n 2, 1) := by decide +kernel
theorem dX8_image_67 : decode cX8_image 67 = .ok (.iadd, 1) := by decide +kernel
theorem dX8_image_68 : decode cX8_image 68 = .ok (.aload_n 0, 1) := by decide +kernel
theorem dX8_image_69 : decode cX8_image 69 = .ok (.getfield 16, 3) := by decide +kernel
theorem dX8_image_72 : decode cX8_image 72 = .ok (.iload_n 2, 1) := by decide +kernel
theorem dX8_image_73 : decode cX8_image 73 = .ok (.laload, 1) := by decide +kernel
theorem dX8_image_74 : decode cX8_image 74 = .ok (.lastore, 1) := by decide +kernel
theorem dX8_image_75 : decode cX8_image 75 = .ok (.iinc 2 1, 3) := by decide +kernel
theorem dX8_image_78 : decode cX8_image 78 = .ok (.goto (-26), 3) := by decide +kernel
theorem dX8_image_81 : decode cX8_image 81 = .ok (.aload_n 0, 1) := by decide +kernel
theorem dX8_image_82 : decode cX8_image 82 = .ok (.getfield 23, 3) := by decide +kernel
theorem dX8_image_85 : decode cX8_image 85 = .ok (.iload_n 1, 1) := by decide +kernel
theorem dX8_image_86 : decode cX8_image 86 = .ok (.iconst 1, 1) := by decide +kernel
theorem dX8_image_87 : decode cX8_image 87 = .ok (.bastore, 1) := by decide +kernel
theorem dX8_image_88 : decode cX8_image 88 = .ok (.iconst 1, 1) := by decide +kernel
theorem dX8_image_89 : decode cX8_image 89 = .ok (.ireturn, 1) := by decide +kernel
theorem dX8_from_0 : decode cX8_from 0 = .ok (.iload_n 1, 1) := by decide +kernel
theorem dX8_from_1 : decode cX8_from 1 = .ok (.i2l, 1) := by decide +kernel
theorem dX8_from_2 : decode cX8_from 2 = .ok (.lconst 0, 1) := by decide +kernel
theorem dX8_from_3 : decode cX8_from 3 = .ok (.lconst 1, 1) := by decide +kernel
theorem dX8_from_4 : decode cX8_from 4 = .ok (.invokestatic 106, 3) := by decide +kernel
theorem dX8_from_7 : decode cX8_from 7 = .ok (.ifCond .ne 10, 3) := by decide +kernel
theorem dX8_from_10 : decode cX8_from 10 = .ok (.aload_n 0, 1) := by decide +kernel
theorem dX8_from_11 : decode cX8_from 11 = .ok (.bipush (-2), 2) := by decide +kernel
theorem dX8_from_13 : decode cX8_from 13 = .ok (.invokevirtual 116, 3) := by decide +kernel
theorem dX8_from_16 : decode cX8_from 16 = .ok (.ireturn, 1) := by decide +kernel
theorem dX8_from_17 : decode cX8_from 17 = .ok (.aload_n 0, 1) := by decide +kernel
theorem dX8_from_18 : decode cX8_from 18 = .ok (.getfield 23, 3) := by decide +kernel
theorem dX8_from_21 : decode cX8_from 21 = .ok (.iload_n 1, 1) := by decide +kernel
theorem dX8_from_22 : decode cX8_from 22 = .ok (.baload, 1) := by decide +kernel
theorem dX8_from_23 : decode cX8_from 23 = .ok (.ifCond .ne 8, 3) := by decide +kernel
theorem dX8_from_26 : decode cX8_from 26 = .ok (.aload_n 0, 1) := by decide +kernel
theorem dX8_from_27 : decode cX8_from 27 = .ok (.invokevirtual 145, 3) := by decide +kernel
theorem dX8_from_30 : decode cX8_from 30 = .ok (.ireturn, 1) := by decide +kernel
theorem dX8_from_31 : decode cX8_from 31 = .ok (.iconst 0, 1) := by decide +kernel
theorem dX8_from_32 : decode cX8_from 32 = .ok (.istore_n 2, 1) := by decide +kernel
theorem dX8_from_33 : decode cX8_from 33 = .ok (.iload_n 2, 1) := by decide +kernel
theorem dX8_from_34 : decode cX8_from 34 = .ok (.sipush 188, 3) := by decide +kernel
theorem dX8_from_37 : decode cX8_from 37 = .ok (.if_icmp .ge 27, 3) := by decide +kernel
theorem dX8_from_40 : decode cX8_from 40 = .ok (.aload_n 0, 1) := by decide +kernel
theorem dX8_from_41 : decode cX8_from 41 = .ok (.getfield 7, 3) := by decide +kernel
theorem dX8_from_44 : decode cX8_from 44 = .ok (.iload_n 2, 1) := by decide +kernel
theorem dX8_from_45 : decode cX8_from 45 = .ok (.aload_n 0, 1) := by decide +kernel
theorem dX8_from_46 : decode cX8_from 46 = .ok (.getfield 13, 3) := by decide +kernel
theorem dX8_from_49 : decode cX8_from 49 = .ok (.sipush 188, 3) := by decide +kernel
theorem dX8_from_52 : decode cX8_from 52 = .ok (.iload_n 1, 1) := by decide +kernel
theorem dX8_from_53 : decode cX8_from 53 = .ok (.imul, 1) := by decide +kernel
theorem dX8_from_54 : decode cX8_from 54 = .ok (.iload_n 2, 1) := by decide +kernel
theorem dX8_from_55 : decode cX8_from 55 = .ok (.iadd, 1) := by decide +kernel
theorem dX8_from_56 : decode cX8_from 56 = .ok (.iaload, 1) := by decide +kernel
theorem dX8_from_57 : decode cX8_from 57 = .ok (.iastore, 1) := by decide +kernel
theorem dX8_from_58 : decode cX8_from 58 = .ok (.iinc 2 1, 3) := by decide +kernel
theorem dX8_from_61 : decode cX8_from 61 = .ok (.goto (-28), 3) := by decide +kernel
theorem dX8_from_64 : decode cX8_from 64 = .ok (.iconst 0, 1) := by decide +kernel
theorem dX8_from_65 : decode cX8_from 65 = .ok (.istore_n 2, 1) := by decide +kernel
theorem dX8_from_66 : decode cX8_from 66 = .ok (.iload_n 2, 1) := by decide +kernel
theorem dX8_from_67 : decode cX8_from 67 = .ok (.bipush 20, 2) := by decide +kernel
theorem dX8_from_69 : decode cX8_from 69 = .ok (.if_icmp .ge 26, 3) := by decide +kernel
theorem dX8_from_72 : decode cX8_from 72 = .ok (.aload_n 0, 1) := by decide +kernel
theorem dX8_from_73 : decode cX8_from 73 = .ok (.getfield 16, 3) := by decide +kernel
theorem dX8_from_76 : decode cX8_from 76 = .ok (.iload_n 2, 1) := by decide +kernel
theorem dX8_from_77 : decode cX8_from 77 = .ok (.aload_n 0, 1) := by decide +kernel
theorem dX8_from_78 : decode cX8_from 78 = .ok (.getfield 20, 3) := by decide +kernel
theorem dX8_from_81 : decode cX8_from 81 = .ok (.bipush 20, 2) := by decide +kernel
theorem dX8_from_83 : decode cX8_from 83 = .ok (.iload_n 1, 1) := by decide +kernel
theorem dX8_from_84 : decode cX8_from 84 = .ok (.imul, 1) := by decide +kernel
theorem dX8_from_85 : decode cX8_from 85 = .ok (.iload_n 2, 1) := by decide +kernel
theorem dX8_from_86 : decode cX8_from 86 = .ok (.iadd, 1) := by decide +kernel
theorem dX8_from_87 : decode cX8_from 87 = .ok (.laload, 1) := by decide +kernel
theorem dX8_from_88 : decode cX8_from 88 = .ok (.lastore, 1) := by decide +kernel
theorem dX8_from_89 : decode cX8_from 89 = .ok (.iinc 2 1, 3) := by decide +kernel
theorem dX8_from_92 : decode cX8_from 92 = .ok (.goto (-26), 3) := by decide +kernel
theorem dX8_from_95 : decode cX8_from 95 = .ok (.iconst 1, 1) := by decide +kernel
theorem dX8_from_96 : decode cX8_from 96 = .ok (.ireturn, 1) := by decide +kernel
theorem dX8_status_0 : decode cX8_status 0 = .ok (.iload_n 1, 1) := by decide +kernel
theorem dX8_status_1 : decode cX8_status 1 = .ok (.i2l, 1) := by decide +kernel
theorem dX8_status_2 : decode cX8_status 2 = .ok (.lconst 0, 1) := by decide +kernel
theorem dX8_status_3 : decode cX8_status 3 = .ok (.ldc2_w 309, 3) := by decide +kernel
theorem dX8_status_6 : decode cX8_status 6 = .ok (.invokestatic 106, 3) := by decide +kernel
theorem dX8_status_9 : decode cX8_status 9 = .ok (.ifCond .eq 12, 3) := by decide +kernel
theorem dX8_status_12 : decode cX8_status 12 = .ok (.aload_n 0, 1) := by decide +kernel
theorem dX8_status_13 : decode cX8_status 13 = .ok (.getfield 27, 3) := by decide +kernel
theorem dX8_status_16 : decode cX8_status 16 = .ok (.iload_n 1, 1) := by decide +kernel
theorem dX8_status_17 : decode cX8_status 17 = .ok (.iaload, 1) := by decide +kernel
theorem dX8_status_18 : decode cX8_status 18 = .ok (.goto 8, 3) := by decide +kernel
theorem dX8_status_21 : decode cX8_status 21 = .ok (.aload_n 0, 1) := by decide +kernel
theorem dX8_status_22 : decode cX8_status 22 = .ok (.iconst (-1), 1) := by decide +kernel
theorem dX8_status_23 : decode cX8_status 23 = .ok (.invokevirtual 116, 3) := by decide +kernel
theorem dX8_status_26 : decode cX8_status 26 = .ok (.ireturn, 1) := by decide +kernel
theorem dX8_counted_0 : decode cX8_counted 0 = .ok (.iload_n 1, 1) := by decide +kernel
theorem dX8_counted_1 : decode cX8_counted 1 = .ok (.iconst 4, 1) := by decide +kernel
theorem dX8_counted_2 : decode cX8_counted 2 = .ok (.if_icmp .ge 12, 3) := by decide +kernel
theorem dX8_counted_5 : decode cX8_counted 5 = .ok (.aload_n 0, 1) := by decide +kernel
theorem dX8_counted_6 : decode cX8_counted 6 = .ok (.getfield 7, 3) := by decide +kernel
theorem dX8_counted_9 : decode cX8_counted 9 = .ok (.iload_n 1, 1) := by decide +kernel
theorem dX8_counted_10 : decode cX8_counted 10 = .ok (.iaload, 1) := by decide +kernel
theorem dX8_counted_11 : decode cX8_counted 11 = .ok (.goto 7, 3) := by decide +kernel
theorem dX8_counted_14 : decode cX8_counted 14 = .ok (.aload_n 0, 1) := by decide +kernel
theorem dX8_counted_15 : decode cX8_counted 15 = .ok (.getfield 253, 3) := by decide +kernel
theorem dX8_counted_18 : decode cX8_counted 18 = .ok (.ireturn, 1) := by decide +kernel
theorem dX8_count_0 : decode cX8_count 0 = .ok (.iload_n 1, 1) := by decide +kernel
theorem dX8_count_1 : decode cX8_count 1 = .ok (.i2l, 1) := by decide +kernel
theorem dX8_count_2 : decode cX8_count 2 = .ok (.lconst 0, 1) := by decide +kernel
theorem dX8_count_3 : decode cX8_count 3 = .ok (.ldc2_w 311, 3) := by decide +kernel
theorem dX8_count_6 : decode cX8_count 6 = .ok (.invokestatic 106, 3) := by decide +kernel
theorem dX8_count_9 : decode cX8_count 9 = .ok (.ifCond .eq 11, 3) := by decide +kernel
theorem dX8_count_12 : decode cX8_count 12 = .ok (.aload_n 0, 1) := by decide +kernel
theorem dX8_count_13 : decode cX8_count 13 = .ok (.iload_n 1, 1) := by decide +kernel
theorem dX8_count_14 : decode cX8_count 14 = .ok (.invokevirtual 313, 3) := by decide +kernel
theorem dX8_count_17 : decode cX8_count 17 = .ok (.goto 9, 3) := by decide +kernel
theorem dX8_count_20 : decode cX8_count 20 = .ok (.aload_n 0, 1) := by decide +kernel
theorem dX8_count_21 : decode cX8_count 21 = .ok (.bipush (-2), 2) := by decide +kernel
theorem dX8_count_23 : decode cX8_count 23 = .ok (.invokevirtual 116, 3) := by decide +kernel
theorem dX8_count_26 : decode cX8_count 26 = .ok (.ireturn, 1) := by decide +kernel
theorem dX8_nameIn_0 : decode cX8_nameIn 0 = .ok (.ldc2_w 316, 3) := by decide +kernel
theorem dX8_nameIn_3 : decode cX8_nameIn 3 = .ok (.lload_n 0, 1) := by decide +kernel
theorem dX8_nameIn_4 : decode cX8_nameIn 4 = .ok (.lmul, 1) := by decide +kernel
theorem dX8_nameIn_5 : decode cX8_nameIn 5 = .ok (.lload_n 2, 1) := by decide +kernel
theorem dX8_nameIn_6 : decode cX8_nameIn 6 = .ok (.invokestatic 71, 3) := by decide +kernel
theorem dX8_nameIn_9 : decode cX8_nameIn 9 = .ok (.i2l, 1) := by decide +kernel
theorem dX8_nameIn_10 : decode cX8_nameIn 10 = .ok (.ladd, 1) := by decide +kernel
theorem dX8_nameIn_11 : decode cX8_nameIn 11 = .ok (.lstore 4, 2) := by decide +kernel
theorem dX8_nameIn_13 : decode cX8_nameIn 13 = .ok (.iconst 0, 1) := by decide +kernel
theorem dX8_nameIn_14 : decode cX8_nameIn 14 = .ok (.istore 6, 2) := by decide +kernel
theorem dX8_nameIn_16 : decode cX8_nameIn 16 = .ok (.iload 6, 2) := by decide +kernel
theorem dX8_nameIn_18 : decode cX8_nameIn 18 = .ok (.lload_n 2, 1) := by decide +kernel
theorem dX8_nameIn_19 : decode cX8_nameIn 19 = .ok (.invokestatic 71, 3) := by decide +kernel
theorem dX8_nameIn_22 : decode cX8_nameIn 22 = .ok (.if_icmp .ge 25, 3) := by decide +kernel
theorem dX8_nameIn_25 : decode cX8_nameIn 25 = .ok (.ldc2_w 316, 3) := by decide +kernel
theorem dX8_nameIn_28 : decode cX8_nameIn 28 = .ok (.lload 4, 2) := by decide +kernel
theorem dX8_nameIn_30 : decode cX8_nameIn 30 = .ok (.lmul, 1) := by decide +kernel
theorem dX8_nameIn_31 : decode cX8_nameIn 31 = .ok (.lload_n 2, 1) := by decide +kernel
theorem dX8_nameIn_32 : decode cX8_nameIn 32 = .ok (.iload 6, 2) := by decide +kernel
theorem dX8_nameIn_34 : decode cX8_nameIn 34 = .ok (.invokestatic 82, 3) := by decide +kernel
theorem dX8_nameIn_37 : decode cX8_nameIn 37 = .ok (.i2l, 1) := by decide +kernel
theorem dX8_nameIn_38 : decode cX8_nameIn 38 = .ok (.ladd, 1) := by decide +kernel
theorem dX8_nameIn_39 : decode cX8_nameIn 39 = .ok (.lstore 4, 2) := by decide +kernel
theorem dX8_nameIn_41 : decode cX8_nameIn 41 = .ok (.iinc 6 1, 3) := by decide +kernel
theorem dX8_nameIn_44 : decode cX8_nameIn 44 = .ok (.goto (-28), 3) := by decide +kernel
theorem dX8_nameIn_47 : decode cX8_nameIn 47 = .ok (.lload 4, 2) := by decide +kernel
theorem dX8_nameIn_49 : decode cX8_nameIn 49 = .ok (.lreturn, 1) := by decide +kernel
theorem dX8_digest_0 : decode cX8_digest 0 = .ok (.ldc2_w 318, 3) := by decide +kernel
theorem dX8_digest_3 : decode cX8_digest 3 = .ok (.lstore_n 1, 1) := by decide +kernel
theorem dX8_digest_4 : decode cX8_digest 4 = .ok (.iconst 0, 1) := by decide +kernel
theorem dX8_digest_5 : decode cX8_digest 5 = .ok (.istore_n 3, 1) := by decide +kernel
theorem dX8_digest_6 : decode cX8_digest 6 = .ok (.iload_n 3, 1) := by decide +kernel
theorem dX8_digest_7 : decode cX8_digest 7 = .ok (.iconst 5, 1) := by decide +kernel
theorem dX8_digest_8 : decode cX8_digest 8 = .ok (.if_icmp .ge 22, 3) := by decide +kernel
theorem dX8_digest_11 : decode cX8_digest 11 = .ok (.ldc2_w 316, 3) := by decide +kernel
theorem dX8_digest_14 : decode cX8_digest 14 = .ok (.lload_n 1, 1) := by decide +kernel
theorem dX8_digest_15 : decode cX8_digest 15 = .ok (.lmul, 1) := by decide +kernel
theorem dX8_digest_16 : decode cX8_digest 16 = .ok (.aload_n 0, 1) := by decide +kernel
theorem dX8_digest_17 : decode cX8_digest 17 = .ok (.iload_n 3, 1) := by decide +kernel
theorem dX8_digest_18 : decode cX8_digest 18 = .ok (.invokevirtual 313, 3) := by decide +kernel
theorem dX8_digest_21 : decode cX8_digest 21 = .ok (.i2l, 1) := by decide +kernel
theorem dX8_digest_22 : decode cX8_digest 22 = .ok (.ladd, 1) := by decide +kernel
theorem dX8_digest_23 : decode cX8_digest 23 = .ok (.lstore_n 1, 1) := by decide +kernel
theorem dX8_digest_24 : decode cX8_digest 24 = .ok (.iinc 3 1, 3) := by decide +kernel
theorem dX8_digest_27 : decode cX8_digest 27 = .ok (.goto (-21), 3) := by decide +kernel
theorem dX8_digest_30 : decode cX8_digest 30 = .ok (.iconst 0, 1) := by decide +kernel
theorem dX8_digest_31 : decode cX8_digest 31 = .ok (.istore_n 3, 1) := by decide +kernel
theorem dX8_digest_32 : decode cX8_digest 32 = .ok (.iload_n 3, 1) := by decide +kernel
theorem dX8_digest_33 : decode cX8_digest 33 = .ok (.iconst 4, 1) := by decide +kernel
theorem dX8_digest_34 : decode cX8_digest 34 = .ok (.aload_n 0, 1) := by decide +kernel
theorem dX8_digest_35 : decode cX8_digest 35 = .ok (.invokevirtual 102, 3) := by decide +kernel
theorem dX8_digest_38 : decode cX8_digest 38 = .ok (.imul, 1) := by decide +kernel
theorem dX8_digest_39 : decode cX8_digest 39 = .ok (.if_icmp .ge 25, 3) := by decide +kernel
theorem dX8_digest_42 : decode cX8_digest 42 = .ok (.ldc2_w 316, 3) := by decide +kernel
theorem dX8_digest_45 : decode cX8_digest 45 = .ok (.lload_n 1, 1) := by decide +kernel
theorem dX8_digest_46 : decode cX8_digest 46 = .ok (.lmul, 1) := by decide +kernel
theorem dX8_digest_47 : decode cX8_digest 47 = .ok (.aload_n 0, 1) := by decide +kernel
theorem dX8_digest_48 : decode cX8_digest 48 = .ok (.getfield 7, 3) := by decide +kernel
theorem dX8_digest_51 : decode cX8_digest 51 = .ok (.iconst 4, 1) := by decide +kernel
theorem dX8_digest_52 : decode cX8_digest 52 = .ok (.iload_n 3, 1) := by decide +kernel
theorem dX8_digest_53 : decode cX8_digest 53 = .ok (.iadd, 1) := by decide +kernel
theorem dX8_digest_54 : decode cX8_digest 54 = .ok (.iaload, 1) := by decide +kernel
theorem dX8_digest_55 : decode cX8_digest 55 = .ok (.i2l, 1) := by decide +kernel
theorem dX8_digest_56 : decode cX8_digest 56 = .ok (.ladd, 1) := by decide +kernel
theorem dX8_digest_57 : decode cX8_digest 57 = .ok (.lstore_n 1, 1) := by decide +kernel
theorem dX8_digest_58 : decode cX8_digest 58 = .ok (.iinc 3 1, 3) := by decide +kernel
theorem dX8_digest_61 : decode cX8_digest 61 = .ok (.goto (-29), 3) := by decide +kernel
theorem dX8_digest_64 : decode cX8_digest 64 = .ok (.iconst 0, 1) := by decide +kernel
theorem dX8_digest_65 : decode cX8_digest 65 = .ok (.istore_n 3, 1) := by decide +kernel
theorem dX8_digest_66 : decode cX8_digest 66 = .ok (.iload_n 3, 1) := by decide +kernel
theorem dX8_digest_67 : decode cX8_digest 67 = .ok (.iconst 4, 1) := by decide +kernel
theorem dX8_digest_68 : decode cX8_digest 68 = .ok (.if_icmp .ge 20, 3) := by decide +kernel
theorem dX8_digest_71 : decode cX8_digest 71 = .ok (.lload_n 1, 1) := by decide +kernel
theorem dX8_digest_72 : decode cX8_digest 72 = .ok (.aload_n 0, 1) := by decide +kernel
theorem dX8_digest_73 : decode cX8_digest 73 = .ok (.getfield 16, 3) := by decide +kernel
theorem dX8_digest_76 : decode cX8_digest 76 = .ok (.iload_n 3, 1) := by decide +kernel
theorem dX8_digest_77 : decode cX8_digest 77 = .ok (.laload, 1) := by decide +kernel
theorem dX8_digest_78 : decode cX8_digest 78 = .ok (.invokestatic 320, 3) := by decide +kernel
theorem dX8_digest_81 : decode cX8_digest 81 = .ok (.lstore_n 1, 1) := by decide +kernel
theorem dX8_digest_82 : decode cX8_digest 82 = .ok (.iinc 3 1, 3) := by decide +kernel
theorem dX8_digest_85 : decode cX8_digest 85 = .ok (.goto (-19), 3) := by decide +kernel
theorem dX8_digest_88 : decode cX8_digest 88 = .ok (.iconst 0, 1) := by decide +kernel
theorem dX8_digest_89 : decode cX8_digest 89 = .ok (.istore_n 3, 1) := by decide +kernel
theorem dX8_digest_90 : decode cX8_digest 90 = .ok (.iload_n 3, 1) := by decide +kernel
theorem dX8_digest_91 : decode cX8_digest 91 = .ok (.aload_n 0, 1) := by decide +kernel
theorem dX8_digest_92 : decode cX8_digest 92 = .ok (.getfield 7, 3) := by decide +kernel
theorem dX8_digest_95 : decode cX8_digest 95 = .ok (.iconst 2, 1) := by decide +kernel
theorem dX8_digest_96 : decode cX8_digest 96 = .ok (.iaload, 1) := by decide +kernel
theorem dX8_digest_97 : decode cX8_digest 97 = .ok (.if_icmp .ge 77, 3) := by decide +kernel
theorem dX8_digest_100 : decode cX8_digest 100 = .ok (.ldc2_w 316, 3) := by decide +kernel
theorem dX8_digest_103 : decode cX8_digest 103 = .ok (.ldc2_w 316, 3) := by decide +kernel
theorem dX8_digest_106 : decode cX8_digest 106 = .ok (.lload_n 1, 1) := by decide +kernel
theorem dX8_digest_107 : decode cX8_digest 107 = .ok (.lmul, 1) := by decide +kernel
theorem dX8_digest_108 : decode cX8_digest 108 = .ok (.aload_n 0, 1) := by decide +kernel
theorem dX8_digest_109 : decode cX8_digest 109 = .ok (.getfield 7, 3) := by decide +kernel
theorem dX8_digest_112 : decode cX8_digest 112 = .ok (.bipush 36, 2) := by decide +kernel
theorem dX8_digest_114 : decode cX8_digest 114 = .ok (.iconst 2, 1) := by decide +kernel
theorem dX8_digest_115 : decode cX8_digest 115 = .ok (.iload_n 3, 1) := by decide +kernel
theorem dX8_digest_116 : decode cX8_digest 116 = .ok (.imul, 1) := by decide +kernel
theorem dX8_digest_117 : decode cX8_digest 117 = .ok (.iadd, 1) := by decide +kernel
theorem dX8_digest_118 : decode cX8_digest 118 = .ok (.iaload, 1) := by decide +kernel
theorem dX8_digest_119 : decode cX8_digest 119 = .ok (.i2l, 1) := by decide +kernel
theorem dX8_digest_120 : decode cX8_digest 120 = .ok (.ladd, 1) := by decide +kernel
theorem dX8_digest_121 : decode cX8_digest 121 = .ok (.lmul, 1) := by decide +kernel
theorem dX8_digest_122 : decode cX8_digest 122 = .ok (.aload_n 0, 1) := by decide +kernel
theorem dX8_digest_123 : decode cX8_digest 123 = .ok (.getfield 7, 3) := by decide +kernel
theorem dX8_digest_126 : decode cX8_digest 126 = .ok (.bipush 36, 2) := by decide +kernel
theorem dX8_digest_128 : decode cX8_digest 128 = .ok (.iconst 2, 1) := by decide +kernel
theorem dX8_digest_129 : decode cX8_digest 129 = .ok (.iload_n 3, 1) := by decide +kernel
theorem dX8_digest_130 : decode cX8_digest 130 = .ok (.imul, 1) := by decide +kernel
theorem dX8_digest_131 : decode cX8_digest 131 = .ok (.iadd, 1) := by decide +kernel
theorem dX8_digest_132 : decode cX8_digest 132 = .ok (.iconst 1, 1) := by decide +kernel
theorem dX8_digest_133 : decode cX8_digest 133 = .ok (.iadd, 1) := by decide +kernel
theorem dX8_digest_134 : decode cX8_digest 134 = .ok (.iaload, 1) := by decide +kernel
theorem dX8_digest_135 : decode cX8_digest 135 = .ok (.i2l, 1) := by decide +kernel
theorem dX8_digest_136 : decode cX8_digest 136 = .ok (.ladd, 1) := by decide +kernel
theorem dX8_digest_137 : decode cX8_digest 137 = .ok (.lstore_n 1, 1) := by decide +kernel
theorem dX8_digest_138 : decode cX8_digest 138 = .ok (.lload_n 1, 1) := by decide +kernel
theorem dX8_digest_139 : decode cX8_digest 139 = .ok (.aload_n 0, 1) := by decide +kernel
theorem dX8_digest_140 : decode cX8_digest 140 = .ok (.getfield 16, 3) := by decide +kernel
theorem dX8_digest_143 : decode cX8_digest 143 = .ok (.iconst 4, 1) := by decide +kernel
theorem dX8_digest_144 : decode cX8_digest 144 = .ok (.iconst 2, 1) := by decide +kernel
theorem dX8_digest_145 : decode cX8_digest 145 = .ok (.iload_n 3, 1) := by decide +kernel
theorem dX8_digest_146 : decode cX8_digest 146 = .ok (.imul, 1) := by decide +kernel
theorem dX8_digest_147 : decode cX8_digest 147 = .ok (.iadd, 1) := by decide +kernel
theorem dX8_digest_148 : decode cX8_digest 148 = .ok (.laload, 1) := by decide +kernel
theorem dX8_digest_149 : decode cX8_digest 149 = .ok (.invokestatic 320, 3) := by decide +kernel
theorem dX8_digest_152 : decode cX8_digest 152 = .ok (.aload_n 0, 1) := by decide +kernel
theorem dX8_digest_153 : decode cX8_digest 153 = .ok (.getfield 16, 3) := by decide +kernel
theorem dX8_digest_156 : decode cX8_digest 156 = .ok (.iconst 4, 1) := by decide +kernel
theorem dX8_digest_157 : decode cX8_digest 157 = .ok (.iconst 2, 1) := by decide +kernel
theorem dX8_digest_158 : decode cX8_digest 158 = .ok (.iload_n 3, 1) := by decide +kernel
theorem dX8_digest_159 : decode cX8_digest 159 = .ok (.imul, 1) := by decide +kernel
theorem dX8_digest_160 : decode cX8_digest 160 = .ok (.iadd, 1) := by decide +kernel
theorem dX8_digest_161 : decode cX8_digest 161 = .ok (.iconst 1, 1) := by decide +kernel
theorem dX8_digest_162 : decode cX8_digest 162 = .ok (.iadd, 1) := by decide +kernel
theorem dX8_digest_163 : decode cX8_digest 163 = .ok (.laload, 1) := by decide +kernel
theorem dX8_digest_164 : decode cX8_digest 164 = .ok (.invokestatic 320, 3) := by decide +kernel
theorem dX8_digest_167 : decode cX8_digest 167 = .ok (.lstore_n 1, 1) := by decide +kernel
theorem dX8_digest_168 : decode cX8_digest 168 = .ok (.iinc 3 1, 3) := by decide +kernel
theorem dX8_digest_171 : decode cX8_digest 171 = .ok (.goto (-81), 3) := by decide +kernel
theorem dX8_digest_174 : decode cX8_digest 174 = .ok (.ldc2_w 316, 3) := by decide +kernel
theorem dX8_digest_177 : decode cX8_digest 177 = .ok (.ldc2_w 316, 3) := by decide +kernel
theorem dX8_digest_180 : decode cX8_digest 180 = .ok (.lload_n 1, 1) := by decide +kernel
theorem dX8_digest_181 : decode cX8_digest 181 = .ok (.lmul, 1) := by decide +kernel
theorem dX8_digest_182 : decode cX8_digest 182 = .ok (.aload_n 0, 1) := by decide +kernel
theorem dX8_digest_183 : decode cX8_digest 183 = .ok (.getfield 215, 3) := by decide +kernel
theorem dX8_digest_186 : decode cX8_digest 186 = .ok (.ladd, 1) := by decide +kernel
theorem dX8_digest_187 : decode cX8_digest 187 = .ok (.lmul, 1) := by decide +kernel
theorem dX8_digest_188 : decode cX8_digest 188 = .ok (.aload_n 0, 1) := by decide +kernel
theorem dX8_digest_189 : decode cX8_digest 189 = .ok (.getfield 30, 3) := by decide +kernel
theorem dX8_digest_192 : decode cX8_digest 192 = .ok (.ladd, 1) := by decide +kernel
theorem dX8_digest_193 : decode cX8_digest 193 = .ok (.lreturn, 1) := by decide +kernel
end
section
/-! the memory of all cells, ints and longs, by cell and place; the world that holds it; the judgement G; its rows -/
abbrev Mem : Type := (Nat → Nat → Int32) × (Nat → Nat → Int64)
abbrev En : Type := (Nat → Nat) × va_G × (ClassId × ClassId × ClassId × ClassId) × ((Nat → Nat) × (Nat → Nat))
def rI (M : Mem) (k : Nat) (f : Nat → Int32) : Mem := (fun q => if q = k then f else M.1 q, M.2)
def rL (M : Mem) (k : Nat) (f : Nat → Int64) : Mem := (M.1, fun q => if q = k then f else M.2 q)
def mI (M : Mem) (k i : Nat) (v : Int32) : Mem := rI M k (upd (M.1 k) i v)
def mL (M : Mem) (k i : Nat) (v : Int64) : Mem := rL M k (vp_updL (M.2 k) i v)
def nCell : Nat := 81
def cels (E : En) (f : Nat → Int32) (g : Nat → Int64) : List va_E := [
  .inr (5, [.ref (E.1 1), .ref (E.1 14), .ref (E.1 53), .ref (E.1 54), .ref (E.1 55), .ref (E.1 57), .ref (E.1 60), .ref (E.1 61), .ref (E.1 62), .int (f 9), .int (f 10), .int (f 11)]),
  .inr (3, [.ref (E.1 2), .ref (E.1 3), .ref (E.1 4), .ref (E.1 5), .ref (E.1 6), .ref (E.1 7), .int (f 6), .int (f 7), .int (f 8), .ref (E.1 12), .ref (E.1 13)]),
  .inl (E.2.2.1.1, 8, .inl f),
  .inl (E.2.2.1.1, 8, .inl f),
  .inl (E.2.2.1.1, 8, .inl f),
  .inl (E.2.2.1.1, 8, .inl f),
  .inl (E.2.2.1.2.1, 4, .inr (.inl g)),
  .inr (1, [.ref (E.1 8), .ref (E.1 9), .ref (E.1 10), .ref (E.1 11), .int (f 4)]),
  .inl (E.2.2.1.1, 8, .inl f),
  .inl (E.2.2.1.1, 8, .inl f),
  .inl (E.2.2.1.2.1, 8, .inr (.inl g)),
  .inl (E.2.2.1.2.1, 8, .inr (.inl g)),
  .inl (E.2.2.1.1, 8, .inl f),
  .inl (E.2.2.1.1, 8, .inl f),
  .inr (3, [.ref (E.1 15), .ref (E.1 16), .ref (E.1 17), .ref (E.1 18), .ref (E.1 19), .ref (E.1 20), .int (f 6), .int (f 7), .int (f 8), .ref (E.1 25), .ref (E.1 26)]),
  .inl (E.2.2.1.1, 8, .inl f),
  .inl (E.2.2.1.1, 8, .inl f),
  .inl (E.2.2.1.1, 8, .inl f),
  .inl (E.2.2.1.1, 8, .inl f),
  .inl (E.2.2.1.2.1, 4, .inr (.inl g)),
  .inr (1, [.ref (E.1 21), .ref (E.1 22), .ref (E.1 23), .ref (E.1 24), .int (f 4)]),
  .inl (E.2.2.1.1, 8, .inl f),
  .inl (E.2.2.1.1, 8, .inl f),
  .inl (E.2.2.1.2.1, 8, .inr (.inl g)),
  .inl (E.2.2.1.2.1, 8, .inr (.inl g)),
  .inl (E.2.2.1.1, 8, .inl f),
  .inl (E.2.2.1.1, 8, .inl f),
  .inr (3, [.ref (E.1 28), .ref (E.1 29), .ref (E.1 30), .ref (E.1 31), .ref (E.1 32), .ref (E.1 33), .int (f 6), .int (f 7), .int (f 8), .ref (E.1 38), .ref (E.1 39)]),
  .inl (E.2.2.1.1, 8, .inl f),
  .inl (E.2.2.1.1, 8, .inl f),
  .inl (E.2.2.1.1, 8, .inl f),
  .inl (E.2.2.1.1, 8, .inl f),
  .inl (E.2.2.1.2.1, 4, .inr (.inl g)),
  .inr (1, [.ref (E.1 34), .ref (E.1 35), .ref (E.1 36), .ref (E.1 37), .int (f 4)]),
  .inl (E.2.2.1.1, 8, .inl f),
  .inl (E.2.2.1.1, 8, .inl f),
  .inl (E.2.2.1.2.1, 8, .inr (.inl g)),
  .inl (E.2.2.1.2.1, 8, .inr (.inl g)),
  .inl (E.2.2.1.1, 8, .inl f),
  .inl (E.2.2.1.1, 8, .inl f),
  .inr (3, [.ref (E.1 41), .ref (E.1 42), .ref (E.1 43), .ref (E.1 44), .ref (E.1 45), .ref (E.1 46), .int (f 6), .int (f 7), .int (f 8), .ref (E.1 51), .ref (E.1 52)]),
  .inl (E.2.2.1.1, 8, .inl f),
  .inl (E.2.2.1.1, 8, .inl f),
  .inl (E.2.2.1.1, 8, .inl f),
  .inl (E.2.2.1.1, 8, .inl f),
  .inl (E.2.2.1.2.1, 4, .inr (.inl g)),
  .inr (1, [.ref (E.1 47), .ref (E.1 48), .ref (E.1 49), .ref (E.1 50), .int (f 4)]),
  .inl (E.2.2.1.1, 8, .inl f),
  .inl (E.2.2.1.1, 8, .inl f),
  .inl (E.2.2.1.2.1, 8, .inr (.inl g)),
  .inl (E.2.2.1.2.1, 8, .inr (.inl g)),
  .inl (E.2.2.1.1, 8, .inl f),
  .inl (E.2.2.1.1, 8, .inl f),
  .inl (E.2.2.1.2.2.2, 2, .inr (.inr (.inr (.inr (fun i => if i = 0 then some (E.1 27) else some (E.1 40)))))),
  .inl (E.2.2.1.2.2.1, 2, .inl f),
  .inr (2, [.int (f 0), .ref (E.1 56), .int (f 2), .int (f 3), .int (f 4), .int (f 5)]),
  .inl (E.2.2.1.1, 150, .inl f),
  .inr (4, [.ref (E.1 58), .int (f 1), .int (f 2), .int (f 3), .ref (E.1 59), .int (f 5)]),
  .inl (E.2.2.1.1, 6, .inl f),
  .inl (E.2.2.1.1, 6, .inl f),
  .inr (0, [.long (g 0), .long (g 1)]),
  .inl (E.2.2.1.1, 96, .inl f),
  .inl (E.2.2.1.2.1, 96, .inr (.inl g)),
  .inr (6, [.ref (E.1 64), .ref (E.1 65), .ref (E.1 66), .ref (E.1 67), .ref (E.1 68), .ref (E.1 69), .long (g 6), .long (g 7), .ref (E.1 70), .ref (E.1 71), .ref (E.1 72), .ref (E.1 73), .int (f 12), .ref (E.1 74), .int (f 14), .int (f 15), .int (f 16), .ref (E.1 75), .ref (E.1 76), .ref (E.1 77), .int (f 20), .int (f 21), .int (f 22), .int (f 23), .int (f 24), .ref (E.1 78), .ref (E.1 79), .ref (E.1 80)]),
  .inl (E.2.2.1.1, 188, .inl f),
  .inl (E.2.2.1.1, 376, .inl f),
  .inl (E.2.2.1.2.1, 20, .inr (.inl g)),
  .inl (E.2.2.1.2.1, 40, .inr (.inl g)),
  .inl (E.2.2.1.2.2.1, 2, .inl f),
  .inl (E.2.2.1.1, 3, .inl f),
  .inl (E.2.2.1.1, 7, .inl f),
  .inl (E.2.2.1.1, 7, .inl f),
  .inl (E.2.2.1.2.1, 7, .inr (.inl g)),
  .inl (E.2.2.1.1, 7, .inl f),
  .inl (E.2.2.1.1, 6, .inl f),
  .inl (E.2.2.1.2.2.1, 96, .inl f),
  .inl (E.2.2.1.2.1, 14, .inr (.inl g)),
  .inl (E.2.2.1.1, 150, .inl f),
  .inl (E.2.2.1.1, 52, .inl f),
  .inl (E.2.2.1.2.1, 4, .inr (.inl g)),
  .inl (E.2.2.1.1, 4, .inl f)]
def cel (E : En) (k : Nat) (f : Nat → Int32) (g : Nat → Int64) : va_E := (cels E f g).getD k (.inr (0, []))
theorem cel_0 (E : En) (f : Nat → Int32) (g : Nat → Int64) : cel E 0 f g = .inr (5, [.ref (E.1 1), .ref (E.1 14), .ref (E.1 53), .ref (E.1 54), .ref (E.1 55), .ref (E.1 57), .ref (E.1 60), .ref (E.1 61), .ref (E.1 62), .int (f 9), .int (f 10), .int (f 11)]) := rfl
theorem cel_1 (E : En) (f : Nat → Int32) (g : Nat → Int64) : cel E 1 f g = .inr (3, [.ref (E.1 2), .ref (E.1 3), .ref (E.1 4), .ref (E.1 5), .ref (E.1 6), .ref (E.1 7), .int (f 6), .int (f 7), .int (f 8), .ref (E.1 12), .ref (E.1 13)]) := rfl
theorem cel_2 (E : En) (f : Nat → Int32) (g : Nat → Int64) : cel E 2 f g = .inl (E.2.2.1.1, 8, .inl f) := rfl
theorem cel_3 (E : En) (f : Nat → Int32) (g : Nat → Int64) : cel E 3 f g = .inl (E.2.2.1.1, 8, .inl f) := rfl
theorem cel_4 (E : En) (f : Nat → Int32) (g : Nat → Int64) : cel E 4 f g = .inl (E.2.2.1.1, 8, .inl f) := rfl
theorem cel_5 (E : En) (f : Nat → Int32) (g : Nat → Int64) : cel E 5 f g = .inl (E.2.2.1.1, 8, .inl f) := rfl
theorem cel_6 (E : En) (f : Nat → Int32) (g : Nat → Int64) : cel E 6 f g = .inl (E.2.2.1.2.1, 4, .inr (.inl g)) := rfl
theorem cel_7 (E : En) (f : Nat → Int32) (g : Nat → Int64) : cel E 7 f g = .inr (1, [.ref (E.1 8), .ref (E.1 9), .ref (E.1 10), .ref (E.1 11), .int (f 4)]) := rfl
theorem cel_8 (E : En) (f : Nat → Int32) (g : Nat → Int64) : cel E 8 f g = .inl (E.2.2.1.1, 8, .inl f) := rfl
theorem cel_9 (E : En) (f : Nat → Int32) (g : Nat → Int64) : cel E 9 f g = .inl (E.2.2.1.1, 8, .inl f) := rfl
theorem cel_10 (E : En) (f : Nat → Int32) (g : Nat → Int64) : cel E 10 f g = .inl (E.2.2.1.2.1, 8, .inr (.inl g)) := rfl
theorem cel_11 (E : En) (f : Nat → Int32) (g : Nat → Int64) : cel E 11 f g = .inl (E.2.2.1.2.1, 8, .inr (.inl g)) := rfl
theorem cel_12 (E : En) (f : Nat → Int32) (g : Nat → Int64) : cel E 12 f g = .inl (E.2.2.1.1, 8, .inl f) := rfl
theorem cel_13 (E : En) (f : Nat → Int32) (g : Nat → Int64) : cel E 13 f g = .inl (E.2.2.1.1, 8, .inl f) := rfl
theorem cel_14 (E : En) (f : Nat → Int32) (g : Nat → Int64) : cel E 14 f g = .inr (3, [.ref (E.1 15), .ref (E.1 16), .ref (E.1 17), .ref (E.1 18), .ref (E.1 19), .ref (E.1 20), .int (f 6), .int (f 7), .int (f 8), .ref (E.1 25), .ref (E.1 26)]) := rfl
theorem cel_15 (E : En) (f : Nat → Int32) (g : Nat → Int64) : cel E 15 f g = .inl (E.2.2.1.1, 8, .inl f) := rfl
theorem cel_16 (E : En) (f : Nat → Int32) (g : Nat → Int64) : cel E 16 f g = .inl (E.2.2.1.1, 8, .inl f) := rfl
theorem cel_17 (E : En) (f : Nat → Int32) (g : Nat → Int64) : cel E 17 f g = .inl (E.2.2.1.1, 8, .inl f) := rfl
theorem cel_18 (E : En) (f : Nat → Int32) (g : Nat → Int64) : cel E 18 f g = .inl (E.2.2.1.1, 8, .inl f) := rfl
theorem cel_19 (E : En) (f : Nat → Int32) (g : Nat → Int64) : cel E 19 f g = .inl (E.2.2.1.2.1, 4, .inr (.inl g)) := rfl
theorem cel_20 (E : En) (f : Nat → Int32) (g : Nat → Int64) : cel E 20 f g = .inr (1, [.ref (E.1 21), .ref (E.1 22), .ref (E.1 23), .ref (E.1 24), .int (f 4)]) := rfl
theorem cel_21 (E : En) (f : Nat → Int32) (g : Nat → Int64) : cel E 21 f g = .inl (E.2.2.1.1, 8, .inl f) := rfl
theorem cel_22 (E : En) (f : Nat → Int32) (g : Nat → Int64) : cel E 22 f g = .inl (E.2.2.1.1, 8, .inl f) := rfl
theorem cel_23 (E : En) (f : Nat → Int32) (g : Nat → Int64) : cel E 23 f g = .inl (E.2.2.1.2.1, 8, .inr (.inl g)) := rfl
theorem cel_24 (E : En) (f : Nat → Int32) (g : Nat → Int64) : cel E 24 f g = .inl (E.2.2.1.2.1, 8, .inr (.inl g)) := rfl
theorem cel_25 (E : En) (f : Nat → Int32) (g : Nat → Int64) : cel E 25 f g = .inl (E.2.2.1.1, 8, .inl f) := rfl
theorem cel_26 (E : En) (f : Nat → Int32) (g : Nat → Int64) : cel E 26 f g = .inl (E.2.2.1.1, 8, .inl f) := rfl
theorem cel_27 (E : En) (f : Nat → Int32) (g : Nat → Int64) : cel E 27 f g = .inr (3, [.ref (E.1 28), .ref (E.1 29), .ref (E.1 30), .ref (E.1 31), .ref (E.1 32), .ref (E.1 33), .int (f 6), .int (f 7), .int (f 8), .ref (E.1 38), .ref (E.1 39)]) := rfl
theorem cel_28 (E : En) (f : Nat → Int32) (g : Nat → Int64) : cel E 28 f g = .inl (E.2.2.1.1, 8, .inl f) := rfl
theorem cel_29 (E : En) (f : Nat → Int32) (g : Nat → Int64) : cel E 29 f g = .inl (E.2.2.1.1, 8, .inl f) := rfl
theorem cel_30 (E : En) (f : Nat → Int32) (g : Nat → Int64) : cel E 30 f g = .inl (E.2.2.1.1, 8, .inl f) := rfl
theorem cel_31 (E : En) (f : Nat → Int32) (g : Nat → Int64) : cel E 31 f g = .inl (E.2.2.1.1, 8, .inl f) := rfl
theorem cel_32 (E : En) (f : Nat → Int32) (g : Nat → Int64) : cel E 32 f g = .inl (E.2.2.1.2.1, 4, .inr (.inl g)) := rfl
theorem cel_33 (E : En) (f : Nat → Int32) (g : Nat → Int64) : cel E 33 f g = .inr (1, [.ref (E.1 34), .ref (E.1 35), .ref (E.1 36), .ref (E.1 37), .int (f 4)]) := rfl
theorem cel_34 (E : En) (f : Nat → Int32) (g : Nat → Int64) : cel E 34 f g = .inl (E.2.2.1.1, 8, .inl f) := rfl
theorem cel_35 (E : En) (f : Nat → Int32) (g : Nat → Int64) : cel E 35 f g = .inl (E.2.2.1.1, 8, .inl f) := rfl
theorem cel_36 (E : En) (f : Nat → Int32) (g : Nat → Int64) : cel E 36 f g = .inl (E.2.2.1.2.1, 8, .inr (.inl g)) := rfl
theorem cel_37 (E : En) (f : Nat → Int32) (g : Nat → Int64) : cel E 37 f g = .inl (E.2.2.1.2.1, 8, .inr (.inl g)) := rfl
theorem cel_38 (E : En) (f : Nat → Int32) (g : Nat → Int64) : cel E 38 f g = .inl (E.2.2.1.1, 8, .inl f) := rfl
theorem cel_39 (E : En) (f : Nat → Int32) (g : Nat → Int64) : cel E 39 f g = .inl (E.2.2.1.1, 8, .inl f) := rfl
theorem cel_40 (E : En) (f : Nat → Int32) (g : Nat → Int64) : cel E 40 f g = .inr (3, [.ref (E.1 41), .ref (E.1 42), .ref (E.1 43), .ref (E.1 44), .ref (E.1 45), .ref (E.1 46), .int (f 6), .int (f 7), .int (f 8), .ref (E.1 51), .ref (E.1 52)]) := rfl
theorem cel_41 (E : En) (f : Nat → Int32) (g : Nat → Int64) : cel E 41 f g = .inl (E.2.2.1.1, 8, .inl f) := rfl
theorem cel_42 (E : En) (f : Nat → Int32) (g : Nat → Int64) : cel E 42 f g = .inl (E.2.2.1.1, 8, .inl f) := rfl
theorem cel_43 (E : En) (f : Nat → Int32) (g : Nat → Int64) : cel E 43 f g = .inl (E.2.2.1.1, 8, .inl f) := rfl
theorem cel_44 (E : En) (f : Nat → Int32) (g : Nat → Int64) : cel E 44 f g = .inl (E.2.2.1.1, 8, .inl f) := rfl
theorem cel_45 (E : En) (f : Nat → Int32) (g : Nat → Int64) : cel E 45 f g = .inl (E.2.2.1.2.1, 4, .inr (.inl g)) := rfl
theorem cel_46 (E : En) (f : Nat → Int32) (g : Nat → Int64) : cel E 46 f g = .inr (1, [.ref (E.1 47), .ref (E.1 48), .ref (E.1 49), .ref (E.1 50), .int (f 4)]) := rfl
theorem cel_47 (E : En) (f : Nat → Int32) (g : Nat → Int64) : cel E 47 f g = .inl (E.2.2.1.1, 8, .inl f) := rfl
theorem cel_48 (E : En) (f : Nat → Int32) (g : Nat → Int64) : cel E 48 f g = .inl (E.2.2.1.1, 8, .inl f) := rfl
theorem cel_49 (E : En) (f : Nat → Int32) (g : Nat → Int64) : cel E 49 f g = .inl (E.2.2.1.2.1, 8, .inr (.inl g)) := rfl
theorem cel_50 (E : En) (f : Nat → Int32) (g : Nat → Int64) : cel E 50 f g = .inl (E.2.2.1.2.1, 8, .inr (.inl g)) := rfl
theorem cel_51 (E : En) (f : Nat → Int32) (g : Nat → Int64) : cel E 51 f g = .inl (E.2.2.1.1, 8, .inl f) := rfl
theorem cel_52 (E : En) (f : Nat → Int32) (g : Nat → Int64) : cel E 52 f g = .inl (E.2.2.1.1, 8, .inl f) := rfl
theorem cel_53 (E : En) (f : Nat → Int32) (g : Nat → Int64) : cel E 53 f g = .inl (E.2.2.1.2.2.2, 2, .inr (.inr (.inr (.inr (fun i => if i = 0 then some (E.1 27) else some (E.1 40)))))) := rfl
theorem cel_54 (E : En) (f : Nat → Int32) (g : Nat → Int64) : cel E 54 f g = .inl (E.2.2.1.2.2.1, 2, .inl f) := rfl
theorem cel_55 (E : En) (f : Nat → Int32) (g : Nat → Int64) : cel E 55 f g = .inr (2, [.int (f 0), .ref (E.1 56), .int (f 2), .int (f 3), .int (f 4), .int (f 5)]) := rfl
theorem cel_56 (E : En) (f : Nat → Int32) (g : Nat → Int64) : cel E 56 f g = .inl (E.2.2.1.1, 150, .inl f) := rfl
theorem cel_57 (E : En) (f : Nat → Int32) (g : Nat → Int64) : cel E 57 f g = .inr (4, [.ref (E.1 58), .int (f 1), .int (f 2), .int (f 3), .ref (E.1 59), .int (f 5)]) := rfl
theorem cel_58 (E : En) (f : Nat → Int32) (g : Nat → Int64) : cel E 58 f g = .inl (E.2.2.1.1, 6, .inl f) := rfl
theorem cel_59 (E : En) (f : Nat → Int32) (g : Nat → Int64) : cel E 59 f g = .inl (E.2.2.1.1, 6, .inl f) := rfl
theorem cel_60 (E : En) (f : Nat → Int32) (g : Nat → Int64) : cel E 60 f g = .inr (0, [.long (g 0), .long (g 1)]) := rfl
theorem cel_61 (E : En) (f : Nat → Int32) (g : Nat → Int64) : cel E 61 f g = .inl (E.2.2.1.1, 96, .inl f) := rfl
theorem cel_62 (E : En) (f : Nat → Int32) (g : Nat → Int64) : cel E 62 f g = .inl (E.2.2.1.2.1, 96, .inr (.inl g)) := rfl
theorem cel_63 (E : En) (f : Nat → Int32) (g : Nat → Int64) : cel E 63 f g = .inr (6, [.ref (E.1 64), .ref (E.1 65), .ref (E.1 66), .ref (E.1 67), .ref (E.1 68), .ref (E.1 69), .long (g 6), .long (g 7), .ref (E.1 70), .ref (E.1 71), .ref (E.1 72), .ref (E.1 73), .int (f 12), .ref (E.1 74), .int (f 14), .int (f 15), .int (f 16), .ref (E.1 75), .ref (E.1 76), .ref (E.1 77), .int (f 20), .int (f 21), .int (f 22), .int (f 23), .int (f 24), .ref (E.1 78), .ref (E.1 79), .ref (E.1 80)]) := rfl
theorem cel_64 (E : En) (f : Nat → Int32) (g : Nat → Int64) : cel E 64 f g = .inl (E.2.2.1.1, 188, .inl f) := rfl
theorem cel_65 (E : En) (f : Nat → Int32) (g : Nat → Int64) : cel E 65 f g = .inl (E.2.2.1.1, 376, .inl f) := rfl
theorem cel_66 (E : En) (f : Nat → Int32) (g : Nat → Int64) : cel E 66 f g = .inl (E.2.2.1.2.1, 20, .inr (.inl g)) := rfl
theorem cel_67 (E : En) (f : Nat → Int32) (g : Nat → Int64) : cel E 67 f g = .inl (E.2.2.1.2.1, 40, .inr (.inl g)) := rfl
theorem cel_68 (E : En) (f : Nat → Int32) (g : Nat → Int64) : cel E 68 f g = .inl (E.2.2.1.2.2.1, 2, .inl f) := rfl
theorem cel_69 (E : En) (f : Nat → Int32) (g : Nat → Int64) : cel E 69 f g = .inl (E.2.2.1.1, 3, .inl f) := rfl
theorem cel_70 (E : En) (f : Nat → Int32) (g : Nat → Int64) : cel E 70 f g = .inl (E.2.2.1.1, 7, .inl f) := rfl
theorem cel_71 (E : En) (f : Nat → Int32) (g : Nat → Int64) : cel E 71 f g = .inl (E.2.2.1.1, 7, .inl f) := rfl
theorem cel_72 (E : En) (f : Nat → Int32) (g : Nat → Int64) : cel E 72 f g = .inl (E.2.2.1.2.1, 7, .inr (.inl g)) := rfl
theorem cel_73 (E : En) (f : Nat → Int32) (g : Nat → Int64) : cel E 73 f g = .inl (E.2.2.1.1, 7, .inl f) := rfl
theorem cel_74 (E : En) (f : Nat → Int32) (g : Nat → Int64) : cel E 74 f g = .inl (E.2.2.1.1, 6, .inl f) := rfl
theorem cel_75 (E : En) (f : Nat → Int32) (g : Nat → Int64) : cel E 75 f g = .inl (E.2.2.1.2.2.1, 96, .inl f) := rfl
theorem cel_76 (E : En) (f : Nat → Int32) (g : Nat → Int64) : cel E 76 f g = .inl (E.2.2.1.2.1, 14, .inr (.inl g)) := rfl
theorem cel_77 (E : En) (f : Nat → Int32) (g : Nat → Int64) : cel E 77 f g = .inl (E.2.2.1.1, 150, .inl f) := rfl
theorem cel_78 (E : En) (f : Nat → Int32) (g : Nat → Int64) : cel E 78 f g = .inl (E.2.2.1.1, 52, .inl f) := rfl
theorem cel_79 (E : En) (f : Nat → Int32) (g : Nat → Int64) : cel E 79 f g = .inl (E.2.2.1.2.1, 4, .inr (.inl g)) := rfl
theorem cel_80 (E : En) (f : Nat → Int32) (g : Nat → Int64) : cel E 80 f g = .inl (E.2.2.1.1, 4, .inl f) := rfl
def wl (E : En) (M : Mem) : va_W := (List.range nCell).map (fun k => (E.1 k, cel E k (M.1 k) (M.2 k)))
theorem wl_get {E : En} {M : Mem} {k : Nat} (hk : k < nCell) : (wl E M)[k]? = some (E.1 k, cel E k (M.1 k) (M.2 k)) := by
  simp [wl, hk]
theorem wl_len (E : En) (M : Mem) : (wl E M).length = nCell := by simp [wl]
theorem wl_set {E : En} {M M2 : Mem} {k : Nat} {e : va_E} (he : cel E k (M2.1 k) (M2.2 k) = e) (h1 : ∀ q, q ≠ k → M2.1 q = M.1 q) (h2 : ∀ q, q ≠ k → M2.2 q = M.2 q) : (wl E M).set k (E.1 k, e) = wl E M2 := by
  apply List.ext_getElem?
  intro j
  rw [List.getElem?_set]
  by_cases hj : k = j
  · subst hj
    by_cases hk : k < nCell
    · rw [if_pos rfl, if_pos (by rw [wl_len]; exact hk), wl_get hk, he]
    · simp [wl, hk]
  · rw [if_neg hj]
    by_cases hk : j < nCell
    · rw [wl_get hk, wl_get hk, h1 j (fun q => hj q.symm), h2 j (fun q => hj q.symm)]
    · simp [wl, hk]
theorem rI_ne {M : Mem} {k : Nat} {f : Nat → Int32} {q : Nat} (h : q ≠ k) : (rI M k f).1 q = M.1 q := if_neg h
theorem rI_eq {M : Mem} {k : Nat} {f : Nat → Int32} : (rI M k f).1 k = f := if_pos rfl
theorem rI_2 {M : Mem} {k : Nat} {f : Nat → Int32} : (rI M k f).2 = M.2 := rfl
theorem rL_ne {M : Mem} {k : Nat} {f : Nat → Int64} {q : Nat} (h : q ≠ k) : (rL M k f).2 q = M.2 q := if_neg h
theorem rL_eq {M : Mem} {k : Nat} {f : Nat → Int64} : (rL M k f).2 k = f := if_pos rfl
theorem rL_1 {M : Mem} {k : Nat} {f : Nat → Int64} : (rL M k f).1 = M.1 := rfl
theorem wl_rI {E : En} {M : Mem} {k : Nat} {f : Nat → Int32} {e : va_E} (he : cel E k f (M.2 k) = e) : (wl E M).set k (E.1 k, e) = wl E (rI M k f) :=
  wl_set (by rw [rI_eq]; exact he) (fun q h => rI_ne h) (fun q h => rfl)
theorem wl_rL {E : En} {M : Mem} {k : Nat} {f : Nat → Int64} {e : va_E} (he : cel E k (M.1 k) f = e) : (wl E M).set k (E.1 k, e) = wl E (rL M k f) :=
  wl_set (by rw [rL_eq]; exact he) (fun q h => rfl) (fun q h => rL_ne h)
def Av (E : En) : Nat → Prop := fun q => ∃ k, k < nCell ∧ q = E.1 k
def inj (E : En) : Prop := ∀ i j, i < nCell → j < nCell → E.1 i = E.1 j → i = j
theorem wl_at {E : En} {M : Mem} {k : Nat} {q : Nat × va_E} (h : (wl E M)[k]? = some q) : k < nCell ∧ q = (E.1 k, cel E k (M.1 k) (M.2 k)) := by
  have hk : k < nCell := by
    have := (List.getElem?_eq_some_iff.mp h).1
    rwa [wl_len] at this
  rw [wl_get hk] at h
  exact ⟨hk, (Option.some.inj h).symm⟩
theorem wl_D {E : En} (hi : inj E) (M : Mem) : va_D (Av E) (wl E M) := by
  refine ⟨fun i j p q h1 h2 e => ?_, fun k q h => ?_⟩
  · obtain ⟨a1, rfl⟩ := wl_at h1
    obtain ⟨a2, rfl⟩ := wl_at h2
    exact hi i j a1 a2 e
  · obtain ⟨a1, rfl⟩ := wl_at h
    exact ⟨k, a1, rfl⟩
def tysE (E : En) : List (ClassId × FieldType) := [(E.2.2.1.1, .int), (E.2.2.1.2.1, .long), (E.2.2.1.2.2.1, .boolean), (E.2.2.1.2.2.2, .object "BridgeNames$River")]
/-- the tables' words that a callee may be told -/
def TB : List Cond := lw_tbl.filter goodWord
theorem tb_at {w : Cond} (i : Nat) (h : lw_tbl[i]? = some w) (hg : goodWord w = true) : w ∈ TB := List.mem_filter.mpr ⟨List.mem_of_getElem? h, hg⟩
theorem tb_in {w : Cond} (h : w ∈ TB) : w ∈ lw_tbl := (List.mem_filter.mp h).1
theorem tb_good {w : Cond} (h : w ∈ TB) : (w.onTables && w.keeps) = true ∨ ∃ ty, w = .arrayClass ty := good_of_word (List.mem_filter.mp h).2
/-- what is told of the text's three words and of two statics -/
def sLen : List Nat := [5, 6, 3]
def sByt : List (List Int32) := [[114, 105, 118, 101, 114], [98, 114, 105, 100, 103, 101], [114, 111, 119]]
def SO (E : En) (U : State) (H : Heap) : Prop :=
  vk_S 3 sLen sByt E.2.2.2.1 E.2.2.2.2 (Av E) U H ∧ vk_R "BridgeNames$Reader" 88 "river" (E.2.2.2.1 0) U ∧ vk_R "BridgeNames$Reader" 94 "bridge" (E.2.2.2.1 1) U ∧ vk_R "BridgeNames$Reader" 96 "row" (E.2.2.2.1 2) U
  ∧ va_Z "java/lang/String" "COMPACT_STRINGS" "Z" (.int 1) (Av E) U H ∧ ∃ v : Value, (v = .null ∨ ∃ q, v = .ref q) ∧ va_Z "jdk/internal/util/Preconditions" "SIOOBE_FORMATTER" "Ljava/util/function/BiFunction;" v (Av E) U H
theorem SO.warm {E : En} {s U : State} {H : Heap} (hW : s.WarmedH U.vm) (h : SO E s H) : SO E U H := by
  obtain ⟨h1, h2, h3, h4, h5, v, h6, h7⟩ := h
  exact ⟨h1.moved hW.alike, h2.warm hW, h3.warm hW, h4.warm hW, h5.moved hW.alike, v, h6, h7.moved hW.alike⟩
theorem SO.same {E : En} {s U : State} {H : Heap} (hv : U.vm = s.vm) (h : SO E s H) : SO E U H := by
  obtain ⟨h1, h2, h3, h4, h5, v, h6, h7⟩ := h
  have ha : s.vm.Alike U.vm := by rw [hv]; exact Vm.Alike.refl _
  exact ⟨h1.moved ha, h2.same hv, h3.same hv, h4.same hv, h5.moved ha, v, h6, h7.moved ha⟩
theorem SO.kept {E : En} {s : State} {H H1 : Heap} (h : SO E s H) (hq : ∀ a : Nat, a < H.size → ¬ Av E a → H1[a]? = H[a]?) : SO E s H1 := by
  obtain ⟨h1, h2, h3, h4, h5, v, h6, h7⟩ := h
  exact ⟨h1.kept hq, h2, h3, h4, h5.kept hq, v, h6, h7.kept hq⟩
/-- a state that holds the memory -/
def Hol (E : En) (M : Mem) (U : State) : Prop := va_P E.2.1 vwCl (wl E M) U.heap ∧ va_K E.2.1 vwCl (tysE E) U ∧ inj E ∧ SO E U U.heap
def Qm (E : En) (res : Option Value × Mem) : Array Value → State → Outcome → State → Prop := fun _ st o t => o = .returned res.1 ∧ va_P E.2.1 vwCl (wl E res.2) t.heap ∧ va_F (Av E) st t
def rmOf (fr lo : Nat) : Room := { frames := fr, cells := 0, slots := 0, locals := lo }
/-- a method's contract: from the memory M and these arguments it comes to this result -/
def Cn (l : Launch) (y : MethodName) (cc : ByteArray) (nL : Nat) (ret : Option FieldType) (fr lo : Nat) (As : En → List Value) (M : Mem) (res : Option Value × Mem) : Prop :=
  ∀ E : En, Met l y (.code y cc nL ret :: TB) (rmOf fr lo) (va_Pc (As E) (Hol E M)) (Qm E res) 0 0 (Av E)
abbrev Cx : Type := En × Program × Launch × Env × Room × State × MethodId × Array Value × List Frame × Method × Code
abbrev Cx.s (X : Cx) : State := X.2.2.2.2.2.1
abbrev Cx.R (X : Cx) : Room := X.2.2.2.2.1
abbrev Cx.meth (X : Cx) : Method := X.2.2.2.2.2.2.2.2.2.1
abbrev Cx.l (X : Cx) : Launch := X.2.2.1
/-- what stands at every place of a method's body -/
def Ck (X : Cx) (own : String) (cc : ByteArray) (nL fr lo : Nat) : Prop := match X with
  | (E, p, _, _, R, s, m, args, _, meth, c) => p.tables.exec = Jvm.exec ∧ c.code = cc ∧ c.maxLocals = nL ∧ s.vm.findClass own = some m.cls ∧ (∀ w ∈ TB, w.before args s = true) ∧ va_K E.2.1 vwCl (tysE E) s ∧ inj E ∧ SO E s s.heap ∧ fr ≤ R.frames ∧ lo ≤ R.locals ∧ meth.locks = false
/-- the locals: place by place, what is known of them -/
def lvr (ls : Array Slot) (nL : Nat) (L : List (Option Value)) : Prop := ls.size = nL ∧ lv_wf ls ∧ ∀ (i : Nat) (v : Value), L[i]? = some (some v) → ls[i]? = some (.val v)
def lp (L : List (Option Value)) : List (Nat × Value) := L.zipIdx.filterMap (fun q => q.1.map (fun v => (q.2, v)))
theorem mem_lp {L : List (Option Value)} {i : Nat} {v : Value} : (i, v) ∈ lp L ↔ L[i]? = some (some v) := by
  unfold lp
  rw [List.mem_filterMap]
  constructor
  · rintro ⟨⟨o, j⟩, hm, he⟩
    cases o with
    | none => simp at he
    | some w =>
      simp at he
      obtain ⟨rfl, rfl⟩ := he
      exact List.mk_mem_zipIdx_iff_getElem?.mp hm
  · intro h
    exact ⟨(some v, i), List.mk_mem_zipIdx_iff_getElem?.mpr h, rfl⟩
theorem lvr.has {ls : Array Slot} {nL : Nat} {L : List (Option Value)} (h : lvr ls nL L) : lv_has ls nL (lp L) := ⟨h.1, h.2.1, fun q hq => h.2.2 q.1 q.2 (mem_lp.mp hq)⟩
/-- behind a store -/
def lok1 (L L2 : List (Option Value)) (i : Nat) (v : Value) : Prop := ∀ (j : Nat) (w : Value), L2[j]? = some (some w) → (j = i ∧ w = v) ∨ (j ≠ i ∧ L[j]? = some (some w) ∧ ¬ (j + 1 = i ∧ w.category = 2))
def lok2 (L L2 : List (Option Value)) (i : Nat) (v : Value) : Prop := ∀ (j : Nat) (w : Value), L2[j]? = some (some w) → (j = i ∧ w = v) ∨ (j ≠ i ∧ j ≠ i + 1 ∧ L[j]? = some (some w) ∧ ¬ (j + 1 = i ∧ w.category = 2))
theorem lvr_st1 {ls2 : Array Slot} {nL i : Nat} {L L2 : List (Option Value)} {v : Value} (h : lv_has ls2 nL ((i, v) :: (lp L).filter (fun q => !(q.1 == i) && !(q.1 + 1 == i && q.2.category == 2)))) (ho : lok1 L L2 i v) : lvr ls2 nL L2 := by
  refine ⟨h.1, h.2.1, fun j w hj => ?_⟩
  rcases ho j w hj with ⟨rfl, rfl⟩ | ⟨h1, h2, h3⟩
  · exact h.2.2 (j, w) List.mem_cons_self
  · refine h.2.2 (j, w) (List.mem_cons_of_mem _ (List.mem_filter.mpr ⟨mem_lp.mpr h2, ?_⟩))
    simp only [Bool.and_eq_true, Bool.not_eq_true', beq_eq_false_iff_ne, Bool.and_eq_false_imp, beq_iff_eq]
    exact ⟨h1, fun e c => h3 ⟨e, c⟩⟩
theorem lvr_st2 {ls2 : Array Slot} {nL i : Nat} {L L2 : List (Option Value)} {v : Value} (h : lv_has ls2 nL ((i, v) :: (lp L).filter (fun q => !(q.1 == i) && (!(q.1 == i + 1) && !(q.1 + 1 == i && q.2.category == 2))))) (ho : lok2 L L2 i v) : lvr ls2 nL L2 := by
  refine ⟨h.1, h.2.1, fun j w hj => ?_⟩
  rcases ho j w hj with ⟨rfl, rfl⟩ | ⟨h1, h4, h2, h3⟩
  · exact h.2.2 (j, w) List.mem_cons_self
  · refine h.2.2 (j, w) (List.mem_cons_of_mem _ (List.mem_filter.mpr ⟨mem_lp.mpr h2, ?_⟩))
    simp only [Bool.and_eq_true, Bool.not_eq_true', beq_eq_false_iff_ne, Bool.and_eq_false_imp, beq_iff_eq]
    exact ⟨h1, h4, fun e c => h3 ⟨e, c⟩⟩
/-- no long in this place -/
def lnl (o : Option Value) : Prop := ∀ w, o = some w → w.category = 1
theorem lnl_n : lnl none := fun _ h => by cases h
theorem lnl_i {x : Int32} : lnl (some (.int x)) := fun _ h => by cases h; rfl
theorem lnl_r {x : Nat} : lnl (some (.ref x)) := fun _ h => by cases h; rfl
theorem lok1_of {L : List (Option Value)} {i : Nat} {v : Value} (hi : i < L.length) (hp : 0 < i → lnl (L[i - 1]?.getD none)) : lok1 L (L.set i (some v)) i v := by
  intro j w hj
  rw [List.getElem?_set] at hj
  by_cases e : i = j
  · subst e
    rw [if_pos rfl, if_pos hi] at hj
    cases hj
    exact Or.inl ⟨rfl, rfl⟩
  · rw [if_neg e] at hj
    refine Or.inr ⟨fun q => e q.symm, hj, fun ⟨h1, h2⟩ => ?_⟩
    have h3 := hp (by omega) w (by rw [show i - 1 = j by omega, hj]; rfl)
    omega
theorem lok2_of {L : List (Option Value)} {i : Nat} {v : Value} (hi : i + 1 < L.length) (hp : 0 < i → lnl (L[i - 1]?.getD none)) : lok2 L ((L.set i (some v)).set (i + 1) none) i v := by
  intro j w hj
  rw [List.getElem?_set] at hj
  by_cases e1 : i + 1 = j
  · subst e1
    rw [if_pos rfl] at hj
    split at hj <;> cases hj
  · rw [if_neg e1, List.getElem?_set] at hj
    by_cases e : i = j
    · subst e
      rw [if_pos rfl, if_pos (by omega)] at hj
      cases hj
      exact Or.inl ⟨rfl, rfl⟩
    · rw [if_neg e] at hj
      refine Or.inr ⟨fun q => e q.symm, fun q => e1 q.symm, hj, fun ⟨h1, h2⟩ => ?_⟩
      have h3 := hp (by omega) w (by rw [show i - 1 = j by omega, hj]; rfl)
      omega
def lsub : List (Option Value) → List (Option Value) → Prop
  | a :: l, b :: l2 => (b = none ∨ a = b) ∧ lsub l l2
  | _, [] => True
  | [], _ :: _ => False
theorem lsub_get : ∀ {L L2 : List (Option Value)}, lsub L L2 → ∀ (i : Nat) (v : Value), L2[i]? = some (some v) → L[i]? = some (some v)
  | a :: l, b :: l2, h, 0, v, e => by
    rcases h.1 with h1 | h1
    · subst h1; simp at e
    · subst h1; exact e
  | a :: l, b :: l2, h, i + 1, v, e => by
    simp only [List.getElem?_cons_succ] at e ⊢
    exact lsub_get h.2 i v e
  | _, [], _, i, v, e => by simp at e
  | [], _ :: _, h, _, _, _ => h.elim
/-- THE JUDGEMENT: at this place, with these locals, this stack and this memory, the method comes to the result -/
def G (X : Cx) (res : Option Value × Mem) (own : String) (cc : ByteArray) (nL fr lo : Nat) (pc : Nat) (L : List (Option Value)) (st : List Value) (M : Mem) : Prop :=
  Ck X own cc nL fr lo → ∀ (H : Heap) (locs : List Loc) (ls : Array Slot), va_P X.1.2.1 vwCl (wl X.1 M) H → va_S (Av X.1) X.s.heap H locs → lvr ls nL L →
    W X.2.1 X.2.2.1 X.2.2.2.1 X.R X.s X.2.2.2.2.2.2.1 X.2.2.2.2.2.2.2.1 X.2.2.2.2.2.2.2.2.1 X.meth X.2.2.2.2.2.2.2.2.2.2 H locs 0 0 (MQ X.2.2.2.2.2.2.2.2.1 (Qm X.1 res) X.2.2.2.2.2.2.2.1 X.s 0 0 (Av X.1)) (F0 X.2.2.2.2.2.2.1 pc ls st)
section GR
variable {X : Cx} {res : Option Value × Mem} {own : String} {cc : ByteArray} {nL fr lo pc : Nat} {L : List (Option Value)} {st : List Value} {M : Mem}
theorem g_weak {L2 : List (Option Value)} (h : lsub L L2) (k : G X res own cc nL fr lo pc L2 st M) : G X res own cc nL fr lo pc L st M := fun C H locs ls hP hS hl => k C H locs ls hP hS ⟨hl.1, hl.2.1, fun i v hv => hl.2.2 i v (lsub_get h i v hv)⟩

theorem g_iadd {x y : Int32} (d : decode cc pc = .ok (.iadd, 1))  (k : G X res own cc nL fr lo (pc + 1) L (.int (x + y) :: st) M) : G X res own cc nL fr lo pc L (.int y :: .int x :: st) M := fun C H locs ls hP hS hl => lv_iadd C.1 C.2.1 d  (k C H locs ls hP hS hl)
theorem g_isub {x y : Int32} (d : decode cc pc = .ok (.isub, 1))  (k : G X res own cc nL fr lo (pc + 1) L (.int (x - y) :: st) M) : G X res own cc nL fr lo pc L (.int y :: .int x :: st) M := fun C H locs ls hP hS hl => lv_isub C.1 C.2.1 d  (k C H locs ls hP hS hl)
theorem g_imul {x y : Int32} (d : decode cc pc = .ok (.imul, 1))  (k : G X res own cc nL fr lo (pc + 1) L (.int (x * y) :: st) M) : G X res own cc nL fr lo pc L (.int y :: .int x :: st) M := fun C H locs ls hP hS hl => lv_imul C.1 C.2.1 d  (k C H locs ls hP hS hl)
theorem g_iand {x y : Int32} (d : decode cc pc = .ok (.iand, 1))  (k : G X res own cc nL fr lo (pc + 1) L (.int (x &&& y) :: st) M) : G X res own cc nL fr lo pc L (.int y :: .int x :: st) M := fun C H locs ls hP hS hl => lv_iand C.1 C.2.1 d  (k C H locs ls hP hS hl)
theorem g_ior {x y : Int32} (d : decode cc pc = .ok (.ior, 1))  (k : G X res own cc nL fr lo (pc + 1) L (.int (x ||| y) :: st) M) : G X res own cc nL fr lo pc L (.int y :: .int x :: st) M := fun C H locs ls hP hS hl => lv_ior C.1 C.2.1 d  (k C H locs ls hP hS hl)
theorem g_ixor {x y : Int32} (d : decode cc pc = .ok (.ixor, 1))  (k : G X res own cc nL fr lo (pc + 1) L (.int (x ^^^ y) :: st) M) : G X res own cc nL fr lo pc L (.int y :: .int x :: st) M := fun C H locs ls hP hS hl => lv_ixor C.1 C.2.1 d  (k C H locs ls hP hS hl)
theorem g_ishl {x y : Int32} (d : decode cc pc = .ok (.ishl, 1))  (k : G X res own cc nL fr lo (pc + 1) L (.int (x <<< (y &&& 31)) :: st) M) : G X res own cc nL fr lo pc L (.int y :: .int x :: st) M := fun C H locs ls hP hS hl => lv_ishl C.1 C.2.1 d  (k C H locs ls hP hS hl)
theorem g_ishr {x y : Int32} (d : decode cc pc = .ok (.ishr, 1))  (k : G X res own cc nL fr lo (pc + 1) L (.int (x >>> (y &&& 31)) :: st) M) : G X res own cc nL fr lo pc L (.int y :: .int x :: st) M := fun C H locs ls hP hS hl => lv_ishr C.1 C.2.1 d  (k C H locs ls hP hS hl)
theorem g_idiv {x y : Int32} (d : decode cc pc = .ok (.idiv, 1)) (hne : ¬ y = 0) (k : G X res own cc nL fr lo (pc + 1) L (.int (x / y) :: st) M) : G X res own cc nL fr lo pc L (.int y :: .int x :: st) M := fun C H locs ls hP hS hl => lv_idiv C.1 C.2.1 d hne (k C H locs ls hP hS hl)
theorem g_irem {x y : Int32} (d : decode cc pc = .ok (.irem, 1)) (hne : ¬ y = 0) (k : G X res own cc nL fr lo (pc + 1) L (.int (x - x / y * y) :: st) M) : G X res own cc nL fr lo pc L (.int y :: .int x :: st) M := fun C H locs ls hP hS hl => lv_irem C.1 C.2.1 d hne (k C H locs ls hP hS hl)
theorem g_ladd {x y : Int64} (d : decode cc pc = .ok (.ladd, 1))  (k : G X res own cc nL fr lo (pc + 1) L (.long (x + y) :: st) M) : G X res own cc nL fr lo pc L (.long y :: .long x :: st) M := fun C H locs ls hP hS hl => lv_ladd C.1 C.2.1 d  (k C H locs ls hP hS hl)
theorem g_lsub {x y : Int64} (d : decode cc pc = .ok (.lsub, 1))  (k : G X res own cc nL fr lo (pc + 1) L (.long (x - y) :: st) M) : G X res own cc nL fr lo pc L (.long y :: .long x :: st) M := fun C H locs ls hP hS hl => lv_lsub C.1 C.2.1 d  (k C H locs ls hP hS hl)
theorem g_lmul {x y : Int64} (d : decode cc pc = .ok (.lmul, 1))  (k : G X res own cc nL fr lo (pc + 1) L (.long (x * y) :: st) M) : G X res own cc nL fr lo pc L (.long y :: .long x :: st) M := fun C H locs ls hP hS hl => lv_lmul C.1 C.2.1 d  (k C H locs ls hP hS hl)
theorem g_land {x y : Int64} (d : decode cc pc = .ok (.land, 1))  (k : G X res own cc nL fr lo (pc + 1) L (.long (x &&& y) :: st) M) : G X res own cc nL fr lo pc L (.long y :: .long x :: st) M := fun C H locs ls hP hS hl => lv_land C.1 C.2.1 d  (k C H locs ls hP hS hl)
theorem g_lor {x y : Int64} (d : decode cc pc = .ok (.lor, 1))  (k : G X res own cc nL fr lo (pc + 1) L (.long (x ||| y) :: st) M) : G X res own cc nL fr lo pc L (.long y :: .long x :: st) M := fun C H locs ls hP hS hl => lv_lor C.1 C.2.1 d  (k C H locs ls hP hS hl)
theorem g_ldiv {x y : Int64} (d : decode cc pc = .ok (.ldiv, 1)) (hne : ¬ y = 0) (k : G X res own cc nL fr lo (pc + 1) L (.long (x / y) :: st) M) : G X res own cc nL fr lo pc L (.long y :: .long x :: st) M := fun C H locs ls hP hS hl => lv_ldiv C.1 C.2.1 d hne (k C H locs ls hP hS hl)
theorem g_lrem {x y : Int64} (d : decode cc pc = .ok (.lrem, 1)) (hne : ¬ y = 0) (k : G X res own cc nL fr lo (pc + 1) L (.long (x - x / y * y) :: st) M) : G X res own cc nL fr lo pc L (.long y :: .long x :: st) M := fun C H locs ls hP hS hl => lv_lrem C.1 C.2.1 d hne (k C H locs ls hP hS hl)
theorem g_lcmp {x y : Int64} (d : decode cc pc = .ok (.lcmp, 1))  (k : G X res own cc nL fr lo (pc + 1) L (.int (lg_cmp x y) :: st) M) : G X res own cc nL fr lo pc L (.long y :: .long x :: st) M := fun C H locs ls hP hS hl => W.lcmp C.1 C.2.1 d  (k C H locs ls hP hS hl)
theorem g_i2l {x : Int32} (d : decode cc pc = .ok (.i2l, 1))  (k : G X res own cc nL fr lo (pc + 1) L (.long x.toInt64 :: st) M) : G X res own cc nL fr lo pc L (.int x :: st) M := fun C H locs ls hP hS hl => lv_i2l C.1 C.2.1 d rfl (k C H locs ls hP hS hl)
theorem g_l2i {x : Int64} (d : decode cc pc = .ok (.l2i, 1))  (k : G X res own cc nL fr lo (pc + 1) L (.int x.toInt32 :: st) M) : G X res own cc nL fr lo pc L (.long x :: st) M := fun C H locs ls hP hS hl => lv_l2i C.1 C.2.1 d rfl (k C H locs ls hP hS hl)
theorem g_lushr {x : Int64} {y : Int32} (d : decode cc pc = .ok (.lushr, 1))  (k : G X res own cc nL fr lo (pc + 1) L (.long (x.toUInt64 >>> (y.toInt64.toUInt64 &&& Int64.toUInt64 63)).toInt64 :: st) M) : G X res own cc nL fr lo pc L (.int y :: .long x :: st) M := fun C H locs ls hP hS hl => lv_lushr C.1 C.2.1 d rfl (k C H locs ls hP hS hl)
theorem g_lshl {x : Int64} {y : Int32} (d : decode cc pc = .ok (.lshl, 1))  (k : G X res own cc nL fr lo (pc + 1) L (.long (x <<< (y.toInt64 &&& 63)) :: st) M) : G X res own cc nL fr lo pc L (.int y :: .long x :: st) M := fun C H locs ls hP hS hl => lv_lshl C.1 C.2.1 d rfl (k C H locs ls hP hS hl)
theorem g_lshr {x : Int64} {y : Int32} (d : decode cc pc = .ok (.lshr, 1))  (k : G X res own cc nL fr lo (pc + 1) L (.long (x >>> (y.toInt64 &&& 63)) :: st) M) : G X res own cc nL fr lo pc L (.int y :: .long x :: st) M := fun C H locs ls hP hS hl => lv_lshr C.1 C.2.1 d rfl (k C H locs ls hP hS hl)
theorem g_i2c {x : Int32} (d : decode cc pc = .ok (.i2c, 1))  (k : G X res own cc nL fr lo (pc + 1) L (.int (x.toUInt32 % 65536).toInt32 :: st) M) : G X res own cc nL fr lo pc L (.int x :: st) M := fun C H locs ls hP hS hl => lv_i2c C.1 C.2.1 d rfl (k C H locs ls hP hS hl)
theorem g_iconst {n : Int} {v : Int32} (d : decode cc pc = .ok (.iconst n, 1)) (hv : Int32.ofInt n = v) (k : G X res own cc nL fr lo (pc + 1) L (.int v :: st) M) : G X res own cc nL fr lo pc L (st) M := fun C H locs ls hP hS hl => lv_iconst C.1 C.2.1 d hv (k C H locs ls hP hS hl)
theorem g_bipush {n : Int} {v : Int32} (d : decode cc pc = .ok (.bipush n, 2)) (hv : (Int8.ofInt n).toInt32 = v) (k : G X res own cc nL fr lo (pc + 2) L (.int v :: st) M) : G X res own cc nL fr lo pc L (st) M := fun C H locs ls hP hS hl => lv_bipush C.1 C.2.1 d hv (k C H locs ls hP hS hl)
theorem g_sipush {n : Int} {v : Int32} (d : decode cc pc = .ok (.sipush n, 3)) (hv : (Int16.ofInt n).toInt32 = v) (k : G X res own cc nL fr lo (pc + 3) L (.int v :: st) M) : G X res own cc nL fr lo pc L (st) M := fun C H locs ls hP hS hl => lv_sipush C.1 C.2.1 d hv (k C H locs ls hP hS hl)
theorem g_lconst {n : Fin 2} {v : Int64} (d : decode cc pc = .ok (.lconst n, 1)) (hv : Int64.ofNat (n : Nat) = v) (k : G X res own cc nL fr lo (pc + 1) L (.long v :: st) M) : G X res own cc nL fr lo pc L (st) M := fun C H locs ls hP hS hl => lv_lconst C.1 C.2.1 d hv (k C H locs ls hP hS hl)
theorem g_dup {va : Value} (d : decode cc pc = .ok (.dup, 1)) (hva : va.category = 1) (k : G X res own cc nL fr lo (pc + 1) L (va :: va :: st) M) : G X res own cc nL fr lo pc L (va :: st) M := fun C H locs ls hP hS hl => lv_dup C.1 C.2.1 d hva (k C H locs ls hP hS hl)
theorem g_pop {va : Value} (d : decode cc pc = .ok (.pop, 1)) (hva : va.category = 1) (k : G X res own cc nL fr lo (pc + 1) L (st) M) : G X res own cc nL fr lo pc L (va :: st) M := fun C H locs ls hP hS hl => lv_pop C.1 C.2.1 d hva (k C H locs ls hP hS hl)
theorem g_dup2 {va vb : Value} (d : decode cc pc = .ok (.dup2, 1)) (hva : va.category = 1) (hvb : vb.category = 1) (k : G X res own cc nL fr lo (pc + 1) L (va :: vb :: va :: vb :: st) M) : G X res own cc nL fr lo pc L (va :: vb :: st) M := fun C H locs ls hP hS hl => lv_dup2_11 C.1 C.2.1 d hva hvb (k C H locs ls hP hS hl)
theorem g_iload_n {i : Fin 4} {x : Int32} (d : decode cc pc = .ok (.iload_n i, 1)) (hL : L[(i : Nat)]? = some (some (.int x))) (k : G X res own cc nL fr lo (pc + 1) L (.int x :: st) M) : G X res own cc nL fr lo pc L st M := fun C H locs ls hP hS hl => lv_iload_n C.1 C.2.1 d rfl (hl.2.2 _ _ hL) (k C H locs ls hP hS hl)
theorem g_iload {i : Nat} {x : Int32} (d : decode cc pc = .ok (.iload i, 2)) (hL : L[i]? = some (some (.int x))) (k : G X res own cc nL fr lo (pc + 2) L (.int x :: st) M) : G X res own cc nL fr lo pc L st M := fun C H locs ls hP hS hl => lv_iload C.1 C.2.1 d (hl.2.2 _ _ hL) (k C H locs ls hP hS hl)
theorem g_lload_n {i : Fin 4} {x : Int64} (d : decode cc pc = .ok (.lload_n i, 1)) (hL : L[(i : Nat)]? = some (some (.long x))) (k : G X res own cc nL fr lo (pc + 1) L (.long x :: st) M) : G X res own cc nL fr lo pc L st M := fun C H locs ls hP hS hl => lv_lload_n C.1 C.2.1 d rfl (hl.2.2 _ _ hL) (k C H locs ls hP hS hl)
theorem g_lload {i : Nat} {x : Int64} (d : decode cc pc = .ok (.lload i, 2)) (hL : L[i]? = some (some (.long x))) (k : G X res own cc nL fr lo (pc + 2) L (.long x :: st) M) : G X res own cc nL fr lo pc L st M := fun C H locs ls hP hS hl => lv_lload C.1 C.2.1 d (hl.2.2 _ _ hL) (k C H locs ls hP hS hl)
theorem g_aload_n {i : Fin 4} {x : Nat} (d : decode cc pc = .ok (.aload_n i, 1)) (hL : L[(i : Nat)]? = some (some (.ref x))) (k : G X res own cc nL fr lo (pc + 1) L (.ref x :: st) M) : G X res own cc nL fr lo pc L st M := fun C H locs ls hP hS hl => lv_aload_n C.1 C.2.1 d rfl (hl.2.2 _ _ hL) (k C H locs ls hP hS hl)
theorem g_aload {i : Nat} {x : Nat} (d : decode cc pc = .ok (.aload i, 2)) (hL : L[i]? = some (some (.ref x))) (k : G X res own cc nL fr lo (pc + 2) L (.ref x :: st) M) : G X res own cc nL fr lo pc L st M := fun C H locs ls hP hS hl => lv_aload C.1 C.2.1 d (hl.2.2 _ _ hL) (k C H locs ls hP hS hl)
theorem g_ist_n {i : Fin 4} {j : Nat} {x : Int32} {L2 : List (Option Value)} (d : decode cc pc = .ok (.istore_n i, 1)) (hj : (i : Nat) = j) (hn : j < nL) (ho : lok1 L L2 j (.int x)) (k : G X res own cc nL fr lo (pc + 1) L2 st M) : G X res own cc nL fr lo pc L (.int x :: st) M := fun C H locs ls hP hS hl => lv_istore_n C.1 C.2.1 d hj hl.has hn rfl (fun ls2 h2 => k C H locs ls2 hP hS (lvr_st1 h2 ho))
theorem g_ist {i : Nat} {x : Int32} {L2 : List (Option Value)} (d : decode cc pc = .ok (.istore i, 2)) (hn : i < nL) (ho : lok1 L L2 i (.int x)) (k : G X res own cc nL fr lo (pc + 2) L2 st M) : G X res own cc nL fr lo pc L (.int x :: st) M := fun C H locs ls hP hS hl => lv_istore C.1 C.2.1 d hl.has hn rfl (fun ls2 h2 => k C H locs ls2 hP hS (lvr_st1 h2 ho))
theorem g_lst_n {i : Fin 4} {j : Nat} {x : Int64} {L2 : List (Option Value)} (d : decode cc pc = .ok (.lstore_n i, 1)) (hj : (i : Nat) = j) (hn : j + 1 < nL) (ho : lok2 L L2 j (.long x)) (k : G X res own cc nL fr lo (pc + 1) L2 st M) : G X res own cc nL fr lo pc L (.long x :: st) M := fun C H locs ls hP hS hl => lv_lstore_n C.1 C.2.1 d hj hl.has hn rfl (fun ls2 h2 => k C H locs ls2 hP hS (lvr_st2 h2 ho))
theorem g_lst {i : Nat} {x : Int64} {L2 : List (Option Value)} (d : decode cc pc = .ok (.lstore i, 2)) (hn : i + 1 < nL) (ho : lok2 L L2 i (.long x)) (k : G X res own cc nL fr lo (pc + 2) L2 st M) : G X res own cc nL fr lo pc L (.long x :: st) M := fun C H locs ls hP hS hl => lv_lstore C.1 C.2.1 d hl.has hn rfl (fun ls2 h2 => k C H locs ls2 hP hS (lvr_st2 h2 ho))
theorem g_ast_n {i : Fin 4} {j : Nat} {x : Nat} {L2 : List (Option Value)} (d : decode cc pc = .ok (.astore_n i, 1)) (hj : (i : Nat) = j) (hn : j < nL) (ho : lok1 L L2 j (.ref x)) (k : G X res own cc nL fr lo (pc + 1) L2 st M) : G X res own cc nL fr lo pc L (.ref x :: st) M := fun C H locs ls hP hS hl => lv_astore_n C.1 C.2.1 d hj hl.has hn rfl (fun ls2 h2 => k C H locs ls2 hP hS (lvr_st1 h2 ho))
theorem g_ast {i : Nat} {x : Nat} {L2 : List (Option Value)} (d : decode cc pc = .ok (.astore i, 2)) (hn : i < nL) (ho : lok1 L L2 i (.ref x)) (k : G X res own cc nL fr lo (pc + 2) L2 st M) : G X res own cc nL fr lo pc L (.ref x :: st) M := fun C H locs ls hP hS hl => lv_astore C.1 C.2.1 d hl.has hn rfl (fun ls2 h2 => k C H locs ls2 hP hS (lvr_st1 h2 ho))
theorem g_iincg {i : Nat} {n : Int} {x v : Int32} {L2 : List (Option Value)} (d : decode cc pc = .ok (.iinc i n, 3)) (hn : i < nL) (hL : L[i]? = some (some (.int x))) (hv : x + Int32.ofInt n = v) (ho : lok1 L L2 i (.int v)) (k : G X res own cc nL fr lo (pc + 3) L2 st M) : G X res own cc nL fr lo pc L st M := fun C H locs ls hP hS hl => by
  obtain ⟨q, hq⟩ := List.getElem?_of_mem (mem_lp.mpr hL)
  exact lv_iinc (k := q) C.1 C.2.1 d hl.has hq hv hn rfl (fun ls2 h2 => k C H locs ls2 hP hS (lvr_st1 h2 ho))
theorem g_if_eq {x : Int32} {off : Int} {tgt : Nat} (d : decode cc pc = .ok (.ifCond .eq off, 3)) (ht : (pc : Int) + off = (tgt : Int)) (kt : x = 0 → G X res own cc nL fr lo tgt L st M) (kf : ¬ x = 0 → G X res own cc nL fr lo (pc + 3) L st M) : G X res own cc nL fr lo pc L (.int x :: st) M := fun C H locs ls hP hS hl => lv_if_eq C.1 C.2.1 d ht (fun h => kt h C H locs ls hP hS hl) (fun h => kf h C H locs ls hP hS hl)
theorem g_if_ne {x : Int32} {off : Int} {tgt : Nat} (d : decode cc pc = .ok (.ifCond .ne off, 3)) (ht : (pc : Int) + off = (tgt : Int)) (kt : ¬ x = 0 → G X res own cc nL fr lo tgt L st M) (kf : x = 0 → G X res own cc nL fr lo (pc + 3) L st M) : G X res own cc nL fr lo pc L (.int x :: st) M := fun C H locs ls hP hS hl => lv_if_ne C.1 C.2.1 d ht (fun h => kt h C H locs ls hP hS hl) (fun h => kf h C H locs ls hP hS hl)
theorem g_if_lt {x : Int32} {off : Int} {tgt : Nat} (d : decode cc pc = .ok (.ifCond .lt off, 3)) (ht : (pc : Int) + off = (tgt : Int)) (kt : x < 0 → G X res own cc nL fr lo tgt L st M) (kf : ¬ x < 0 → G X res own cc nL fr lo (pc + 3) L st M) : G X res own cc nL fr lo pc L (.int x :: st) M := fun C H locs ls hP hS hl => lv_if_lt C.1 C.2.1 d ht (fun h => kt h C H locs ls hP hS hl) (fun h => kf h C H locs ls hP hS hl)
theorem g_if_ge {x : Int32} {off : Int} {tgt : Nat} (d : decode cc pc = .ok (.ifCond .ge off, 3)) (ht : (pc : Int) + off = (tgt : Int)) (kt : 0 ≤ x → G X res own cc nL fr lo tgt L st M) (kf : ¬ 0 ≤ x → G X res own cc nL fr lo (pc + 3) L st M) : G X res own cc nL fr lo pc L (.int x :: st) M := fun C H locs ls hP hS hl => lv_if_ge C.1 C.2.1 d ht (fun h => kt h C H locs ls hP hS hl) (fun h => kf h C H locs ls hP hS hl)
theorem g_if_gt {x : Int32} {off : Int} {tgt : Nat} (d : decode cc pc = .ok (.ifCond .gt off, 3)) (ht : (pc : Int) + off = (tgt : Int)) (kt : 0 < x → G X res own cc nL fr lo tgt L st M) (kf : ¬ 0 < x → G X res own cc nL fr lo (pc + 3) L st M) : G X res own cc nL fr lo pc L (.int x :: st) M := fun C H locs ls hP hS hl => lv_if_gt C.1 C.2.1 d ht (fun h => kt h C H locs ls hP hS hl) (fun h => kf h C H locs ls hP hS hl)
theorem g_if_le {x : Int32} {off : Int} {tgt : Nat} (d : decode cc pc = .ok (.ifCond .le off, 3)) (ht : (pc : Int) + off = (tgt : Int)) (kt : x ≤ 0 → G X res own cc nL fr lo tgt L st M) (kf : ¬ x ≤ 0 → G X res own cc nL fr lo (pc + 3) L st M) : G X res own cc nL fr lo pc L (.int x :: st) M := fun C H locs ls hP hS hl => lv_if_le C.1 C.2.1 d ht (fun h => kt h C H locs ls hP hS hl) (fun h => kf h C H locs ls hP hS hl)
theorem g_icmp_eq {x y : Int32} {off : Int} {tgt : Nat} (d : decode cc pc = .ok (.if_icmp .eq off, 3)) (ht : (pc : Int) + off = (tgt : Int)) (kt : x = y → G X res own cc nL fr lo tgt L st M) (kf : ¬ x = y → G X res own cc nL fr lo (pc + 3) L st M) : G X res own cc nL fr lo pc L (.int y :: .int x :: st) M := fun C H locs ls hP hS hl => lv_icmp_eq C.1 C.2.1 d ht (fun h => kt h C H locs ls hP hS hl) (fun h => kf h C H locs ls hP hS hl)
theorem g_icmp_ne {x y : Int32} {off : Int} {tgt : Nat} (d : decode cc pc = .ok (.if_icmp .ne off, 3)) (ht : (pc : Int) + off = (tgt : Int)) (kt : ¬ x = y → G X res own cc nL fr lo tgt L st M) (kf : x = y → G X res own cc nL fr lo (pc + 3) L st M) : G X res own cc nL fr lo pc L (.int y :: .int x :: st) M := fun C H locs ls hP hS hl => lv_icmp_ne C.1 C.2.1 d ht (fun h => kt h C H locs ls hP hS hl) (fun h => kf h C H locs ls hP hS hl)
theorem g_icmp_lt {x y : Int32} {off : Int} {tgt : Nat} (d : decode cc pc = .ok (.if_icmp .lt off, 3)) (ht : (pc : Int) + off = (tgt : Int)) (kt : x < y → G X res own cc nL fr lo tgt L st M) (kf : ¬ x < y → G X res own cc nL fr lo (pc + 3) L st M) : G X res own cc nL fr lo pc L (.int y :: .int x :: st) M := fun C H locs ls hP hS hl => lv_icmp_lt C.1 C.2.1 d ht (fun h => kt h C H locs ls hP hS hl) (fun h => kf h C H locs ls hP hS hl)
theorem g_icmp_ge {x y : Int32} {off : Int} {tgt : Nat} (d : decode cc pc = .ok (.if_icmp .ge off, 3)) (ht : (pc : Int) + off = (tgt : Int)) (kt : y ≤ x → G X res own cc nL fr lo tgt L st M) (kf : ¬ y ≤ x → G X res own cc nL fr lo (pc + 3) L st M) : G X res own cc nL fr lo pc L (.int y :: .int x :: st) M := fun C H locs ls hP hS hl => lv_icmp_ge C.1 C.2.1 d ht (fun h => kt h C H locs ls hP hS hl) (fun h => kf h C H locs ls hP hS hl)
theorem g_icmp_gt {x y : Int32} {off : Int} {tgt : Nat} (d : decode cc pc = .ok (.if_icmp .gt off, 3)) (ht : (pc : Int) + off = (tgt : Int)) (kt : y < x → G X res own cc nL fr lo tgt L st M) (kf : ¬ y < x → G X res own cc nL fr lo (pc + 3) L st M) : G X res own cc nL fr lo pc L (.int y :: .int x :: st) M := fun C H locs ls hP hS hl => lv_icmp_gt C.1 C.2.1 d ht (fun h => kt h C H locs ls hP hS hl) (fun h => kf h C H locs ls hP hS hl)
theorem g_icmp_le {x y : Int32} {off : Int} {tgt : Nat} (d : decode cc pc = .ok (.if_icmp .le off, 3)) (ht : (pc : Int) + off = (tgt : Int)) (kt : x ≤ y → G X res own cc nL fr lo tgt L st M) (kf : ¬ x ≤ y → G X res own cc nL fr lo (pc + 3) L st M) : G X res own cc nL fr lo pc L (.int y :: .int x :: st) M := fun C H locs ls hP hS hl => lv_icmp_le C.1 C.2.1 d ht (fun h => kt h C H locs ls hP hS hl) (fun h => kf h C H locs ls hP hS hl)
theorem g_goto {off : Int} {tgt : Nat} (d : decode cc pc = .ok (.goto off, 3)) (ht : (pc : Int) + off = (tgt : Int)) (k : G X res own cc nL fr lo tgt L st M) : G X res own cc nL fr lo pc L st M := fun C H locs ls hP hS hl => lv_goto C.1 C.2.1 d ht (k C H locs ls hP hS hl)
theorem lok1_0 {v0 : Option Value} {t : List (Option Value)} {x : Int32} : lok1 (v0 :: t) (some (.int x) :: t) 0 (.int x) := lok1_of (L := v0 :: t) (i := 0) (by simp) (fun h => absurd h (by omega))
theorem g_ist0 {v0 : Option Value} {t : List (Option Value)} {x : Int32} (d : decode cc pc = .ok (.istore_n 0, 1)) (hn : 0 < nL) (k : G X res own cc nL fr lo (pc + 1) (some (.int x) :: t) st M) : G X res own cc nL fr lo pc (v0 :: t) (.int x :: st) M := g_ist_n d rfl hn (lok1_0 ) k
theorem lok2_0 {v0 u : Option Value} {t : List (Option Value)} {x : Int64} : lok2 (v0 :: u :: t) (some (.long x) :: none :: t) 0 (.long x) := lok2_of (L := v0 :: u :: t) (i := 0) (by simp) (fun h => absurd h (by omega))
theorem g_lst0 {v0 u : Option Value} {t : List (Option Value)} {x : Int64} (d : decode cc pc = .ok (.lstore_n 0, 1)) (hn : 0 + 1 < nL) (k : G X res own cc nL fr lo (pc + 1) (some (.long x) :: none :: t) st M) : G X res own cc nL fr lo pc (v0 :: u :: t) (.long x :: st) M := g_lst_n d rfl hn (lok2_0 ) k
theorem g_iinc0 {t : List (Option Value)} {n : Int} {x v : Int32} (d : decode cc pc = .ok (.iinc 0 n, 3)) (hn : 0 < nL) (hv : x + Int32.ofInt n = v) (k : G X res own cc nL fr lo (pc + 3) (some (.int v) :: t) st M) : G X res own cc nL fr lo pc (some (.int x) :: t) st M := g_iincg d hn rfl hv (lok1_0 ) k
theorem lok1_1 {v0 v1 : Option Value} {t : List (Option Value)} {x : Int32} (hp : lnl v0) : lok1 (v0 :: v1 :: t) (v0 :: some (.int x) :: t) 1 (.int x) := lok1_of (L := v0 :: v1 :: t) (i := 1) (by simp) (fun _ => hp)
theorem g_ist1 {v0 v1 : Option Value} {t : List (Option Value)} {x : Int32} (d : decode cc pc = .ok (.istore_n 1, 1)) (hn : 1 < nL) (hp : lnl v0) (k : G X res own cc nL fr lo (pc + 1) (v0 :: some (.int x) :: t) st M) : G X res own cc nL fr lo pc (v0 :: v1 :: t) (.int x :: st) M := g_ist_n d rfl hn (lok1_1 hp) k
theorem lok2_1 {v0 v1 u : Option Value} {t : List (Option Value)} {x : Int64} (hp : lnl v0) : lok2 (v0 :: v1 :: u :: t) (v0 :: some (.long x) :: none :: t) 1 (.long x) := lok2_of (L := v0 :: v1 :: u :: t) (i := 1) (by simp) (fun _ => hp)
theorem g_lst1 {v0 v1 u : Option Value} {t : List (Option Value)} {x : Int64} (d : decode cc pc = .ok (.lstore_n 1, 1)) (hn : 1 + 1 < nL) (hp : lnl v0) (k : G X res own cc nL fr lo (pc + 1) (v0 :: some (.long x) :: none :: t) st M) : G X res own cc nL fr lo pc (v0 :: v1 :: u :: t) (.long x :: st) M := g_lst_n d rfl hn (lok2_1 hp) k
theorem g_iinc1 {v0 : Option Value} {t : List (Option Value)} {n : Int} {x v : Int32} (d : decode cc pc = .ok (.iinc 1 n, 3)) (hn : 1 < nL) (hp : lnl v0) (hv : x + Int32.ofInt n = v) (k : G X res own cc nL fr lo (pc + 3) (v0 :: some (.int v) :: t) st M) : G X res own cc nL fr lo pc (v0 :: some (.int x) :: t) st M := g_iincg d hn rfl hv (lok1_1 hp) k
theorem lok1_2 {v0 v1 v2 : Option Value} {t : List (Option Value)} {x : Int32} (hp : lnl v1) : lok1 (v0 :: v1 :: v2 :: t) (v0 :: v1 :: some (.int x) :: t) 2 (.int x) := lok1_of (L := v0 :: v1 :: v2 :: t) (i := 2) (by simp) (fun _ => hp)
theorem g_ist2 {v0 v1 v2 : Option Value} {t : List (Option Value)} {x : Int32} (d : decode cc pc = .ok (.istore_n 2, 1)) (hn : 2 < nL) (hp : lnl v1) (k : G X res own cc nL fr lo (pc + 1) (v0 :: v1 :: some (.int x) :: t) st M) : G X res own cc nL fr lo pc (v0 :: v1 :: v2 :: t) (.int x :: st) M := g_ist_n d rfl hn (lok1_2 hp) k
theorem lok2_2 {v0 v1 v2 u : Option Value} {t : List (Option Value)} {x : Int64} (hp : lnl v1) : lok2 (v0 :: v1 :: v2 :: u :: t) (v0 :: v1 :: some (.long x) :: none :: t) 2 (.long x) := lok2_of (L := v0 :: v1 :: v2 :: u :: t) (i := 2) (by simp) (fun _ => hp)
theorem g_lst2 {v0 v1 v2 u : Option Value} {t : List (Option Value)} {x : Int64} (d : decode cc pc = .ok (.lstore_n 2, 1)) (hn : 2 + 1 < nL) (hp : lnl v1) (k : G X res own cc nL fr lo (pc + 1) (v0 :: v1 :: some (.long x) :: none :: t) st M) : G X res own cc nL fr lo pc (v0 :: v1 :: v2 :: u :: t) (.long x :: st) M := g_lst_n d rfl hn (lok2_2 hp) k
theorem g_iinc2 {v0 v1 : Option Value} {t : List (Option Value)} {n : Int} {x v : Int32} (d : decode cc pc = .ok (.iinc 2 n, 3)) (hn : 2 < nL) (hp : lnl v1) (hv : x + Int32.ofInt n = v) (k : G X res own cc nL fr lo (pc + 3) (v0 :: v1 :: some (.int v) :: t) st M) : G X res own cc nL fr lo pc (v0 :: v1 :: some (.int x) :: t) st M := g_iincg d hn rfl hv (lok1_2 hp) k
theorem lok1_3 {v0 v1 v2 v3 : Option Value} {t : List (Option Value)} {x : Int32} (hp : lnl v2) : lok1 (v0 :: v1 :: v2 :: v3 :: t) (v0 :: v1 :: v2 :: some (.int x) :: t) 3 (.int x) := lok1_of (L := v0 :: v1 :: v2 :: v3 :: t) (i := 3) (by simp) (fun _ => hp)
theorem g_ist3 {v0 v1 v2 v3 : Option Value} {t : List (Option Value)} {x : Int32} (d : decode cc pc = .ok (.istore_n 3, 1)) (hn : 3 < nL) (hp : lnl v2) (k : G X res own cc nL fr lo (pc + 1) (v0 :: v1 :: v2 :: some (.int x) :: t) st M) : G X res own cc nL fr lo pc (v0 :: v1 :: v2 :: v3 :: t) (.int x :: st) M := g_ist_n d rfl hn (lok1_3 hp) k
theorem lok2_3 {v0 v1 v2 v3 u : Option Value} {t : List (Option Value)} {x : Int64} (hp : lnl v2) : lok2 (v0 :: v1 :: v2 :: v3 :: u :: t) (v0 :: v1 :: v2 :: some (.long x) :: none :: t) 3 (.long x) := lok2_of (L := v0 :: v1 :: v2 :: v3 :: u :: t) (i := 3) (by simp) (fun _ => hp)
theorem g_lst3 {v0 v1 v2 v3 u : Option Value} {t : List (Option Value)} {x : Int64} (d : decode cc pc = .ok (.lstore_n 3, 1)) (hn : 3 + 1 < nL) (hp : lnl v2) (k : G X res own cc nL fr lo (pc + 1) (v0 :: v1 :: v2 :: some (.long x) :: none :: t) st M) : G X res own cc nL fr lo pc (v0 :: v1 :: v2 :: v3 :: u :: t) (.long x :: st) M := g_lst_n d rfl hn (lok2_3 hp) k
theorem g_iinc3 {v0 v1 v2 : Option Value} {t : List (Option Value)} {n : Int} {x v : Int32} (d : decode cc pc = .ok (.iinc 3 n, 3)) (hn : 3 < nL) (hp : lnl v2) (hv : x + Int32.ofInt n = v) (k : G X res own cc nL fr lo (pc + 3) (v0 :: v1 :: v2 :: some (.int v) :: t) st M) : G X res own cc nL fr lo pc (v0 :: v1 :: v2 :: some (.int x) :: t) st M := g_iincg d hn rfl hv (lok1_3 hp) k
theorem lok1_4 {v0 v1 v2 v3 v4 : Option Value} {t : List (Option Value)} {x : Int32} (hp : lnl v3) : lok1 (v0 :: v1 :: v2 :: v3 :: v4 :: t) (v0 :: v1 :: v2 :: v3 :: some (.int x) :: t) 4 (.int x) := lok1_of (L := v0 :: v1 :: v2 :: v3 :: v4 :: t) (i := 4) (by simp) (fun _ => hp)
theorem g_ist4 {v0 v1 v2 v3 v4 : Option Value} {t : List (Option Value)} {x : Int32} (d : decode cc pc = .ok (.istore 4, 2)) (hn : 4 < nL) (hp : lnl v3) (k : G X res own cc nL fr lo (pc + 2) (v0 :: v1 :: v2 :: v3 :: some (.int x) :: t) st M) : G X res own cc nL fr lo pc (v0 :: v1 :: v2 :: v3 :: v4 :: t) (.int x :: st) M := g_ist d hn (lok1_4 hp) k
theorem lok2_4 {v0 v1 v2 v3 v4 u : Option Value} {t : List (Option Value)} {x : Int64} (hp : lnl v3) : lok2 (v0 :: v1 :: v2 :: v3 :: v4 :: u :: t) (v0 :: v1 :: v2 :: v3 :: some (.long x) :: none :: t) 4 (.long x) := lok2_of (L := v0 :: v1 :: v2 :: v3 :: v4 :: u :: t) (i := 4) (by simp) (fun _ => hp)
theorem g_lst4 {v0 v1 v2 v3 v4 u : Option Value} {t : List (Option Value)} {x : Int64} (d : decode cc pc = .ok (.lstore 4, 2)) (hn : 4 + 1 < nL) (hp : lnl v3) (k : G X res own cc nL fr lo (pc + 2) (v0 :: v1 :: v2 :: v3 :: some (.long x) :: none :: t) st M) : G X res own cc nL fr lo pc (v0 :: v1 :: v2 :: v3 :: v4 :: u :: t) (.long x :: st) M := g_lst d hn (lok2_4 hp) k
theorem g_iinc4 {v0 v1 v2 v3 : Option Value} {t : List (Option Value)} {n : Int} {x v : Int32} (d : decode cc pc = .ok (.iinc 4 n, 3)) (hn : 4 < nL) (hp : lnl v3) (hv : x + Int32.ofInt n = v) (k : G X res own cc nL fr lo (pc + 3) (v0 :: v1 :: v2 :: v3 :: some (.int v) :: t) st M) : G X res own cc nL fr lo pc (v0 :: v1 :: v2 :: v3 :: some (.int x) :: t) st M := g_iincg d hn rfl hv (lok1_4 hp) k
theorem lok1_5 {v0 v1 v2 v3 v4 v5 : Option Value} {t : List (Option Value)} {x : Int32} (hp : lnl v4) : lok1 (v0 :: v1 :: v2 :: v3 :: v4 :: v5 :: t) (v0 :: v1 :: v2 :: v3 :: v4 :: some (.int x) :: t) 5 (.int x) := lok1_of (L := v0 :: v1 :: v2 :: v3 :: v4 :: v5 :: t) (i := 5) (by simp) (fun _ => hp)
theorem g_ist5 {v0 v1 v2 v3 v4 v5 : Option Value} {t : List (Option Value)} {x : Int32} (d : decode cc pc = .ok (.istore 5, 2)) (hn : 5 < nL) (hp : lnl v4) (k : G X res own cc nL fr lo (pc + 2) (v0 :: v1 :: v2 :: v3 :: v4 :: some (.int x) :: t) st M) : G X res own cc nL fr lo pc (v0 :: v1 :: v2 :: v3 :: v4 :: v5 :: t) (.int x :: st) M := g_ist d hn (lok1_5 hp) k
theorem lok2_5 {v0 v1 v2 v3 v4 v5 u : Option Value} {t : List (Option Value)} {x : Int64} (hp : lnl v4) : lok2 (v0 :: v1 :: v2 :: v3 :: v4 :: v5 :: u :: t) (v0 :: v1 :: v2 :: v3 :: v4 :: some (.long x) :: none :: t) 5 (.long x) := lok2_of (L := v0 :: v1 :: v2 :: v3 :: v4 :: v5 :: u :: t) (i := 5) (by simp) (fun _ => hp)
theorem g_lst5 {v0 v1 v2 v3 v4 v5 u : Option Value} {t : List (Option Value)} {x : Int64} (d : decode cc pc = .ok (.lstore 5, 2)) (hn : 5 + 1 < nL) (hp : lnl v4) (k : G X res own cc nL fr lo (pc + 2) (v0 :: v1 :: v2 :: v3 :: v4 :: some (.long x) :: none :: t) st M) : G X res own cc nL fr lo pc (v0 :: v1 :: v2 :: v3 :: v4 :: v5 :: u :: t) (.long x :: st) M := g_lst d hn (lok2_5 hp) k
theorem g_iinc5 {v0 v1 v2 v3 v4 : Option Value} {t : List (Option Value)} {n : Int} {x v : Int32} (d : decode cc pc = .ok (.iinc 5 n, 3)) (hn : 5 < nL) (hp : lnl v4) (hv : x + Int32.ofInt n = v) (k : G X res own cc nL fr lo (pc + 3) (v0 :: v1 :: v2 :: v3 :: v4 :: some (.int v) :: t) st M) : G X res own cc nL fr lo pc (v0 :: v1 :: v2 :: v3 :: v4 :: some (.int x) :: t) st M := g_iincg d hn rfl hv (lok1_5 hp) k
theorem lok1_6 {v0 v1 v2 v3 v4 v5 v6 : Option Value} {t : List (Option Value)} {x : Int32} (hp : lnl v5) : lok1 (v0 :: v1 :: v2 :: v3 :: v4 :: v5 :: v6 :: t) (v0 :: v1 :: v2 :: v3 :: v4 :: v5 :: some (.int x) :: t) 6 (.int x) := lok1_of (L := v0 :: v1 :: v2 :: v3 :: v4 :: v5 :: v6 :: t) (i := 6) (by simp) (fun _ => hp)
theorem g_ist6 {v0 v1 v2 v3 v4 v5 v6 : Option Value} {t : List (Option Value)} {x : Int32} (d : decode cc pc = .ok (.istore 6, 2)) (hn : 6 < nL) (hp : lnl v5) (k : G X res own cc nL fr lo (pc + 2) (v0 :: v1 :: v2 :: v3 :: v4 :: v5 :: some (.int x) :: t) st M) : G X res own cc nL fr lo pc (v0 :: v1 :: v2 :: v3 :: v4 :: v5 :: v6 :: t) (.int x :: st) M := g_ist d hn (lok1_6 hp) k
theorem lok2_6 {v0 v1 v2 v3 v4 v5 v6 u : Option Value} {t : List (Option Value)} {x : Int64} (hp : lnl v5) : lok2 (v0 :: v1 :: v2 :: v3 :: v4 :: v5 :: v6 :: u :: t) (v0 :: v1 :: v2 :: v3 :: v4 :: v5 :: some (.long x) :: none :: t) 6 (.long x) := lok2_of (L := v0 :: v1 :: v2 :: v3 :: v4 :: v5 :: v6 :: u :: t) (i := 6) (by simp) (fun _ => hp)
theorem g_lst6 {v0 v1 v2 v3 v4 v5 v6 u : Option Value} {t : List (Option Value)} {x : Int64} (d : decode cc pc = .ok (.lstore 6, 2)) (hn : 6 + 1 < nL) (hp : lnl v5) (k : G X res own cc nL fr lo (pc + 2) (v0 :: v1 :: v2 :: v3 :: v4 :: v5 :: some (.long x) :: none :: t) st M) : G X res own cc nL fr lo pc (v0 :: v1 :: v2 :: v3 :: v4 :: v5 :: v6 :: u :: t) (.long x :: st) M := g_lst d hn (lok2_6 hp) k
theorem g_iinc6 {v0 v1 v2 v3 v4 v5 : Option Value} {t : List (Option Value)} {n : Int} {x v : Int32} (d : decode cc pc = .ok (.iinc 6 n, 3)) (hn : 6 < nL) (hp : lnl v5) (hv : x + Int32.ofInt n = v) (k : G X res own cc nL fr lo (pc + 3) (v0 :: v1 :: v2 :: v3 :: v4 :: v5 :: some (.int v) :: t) st M) : G X res own cc nL fr lo pc (v0 :: v1 :: v2 :: v3 :: v4 :: v5 :: some (.int x) :: t) st M := g_iincg d hn rfl hv (lok1_6 hp) k
theorem lok1_7 {v0 v1 v2 v3 v4 v5 v6 v7 : Option Value} {t : List (Option Value)} {x : Int32} (hp : lnl v6) : lok1 (v0 :: v1 :: v2 :: v3 :: v4 :: v5 :: v6 :: v7 :: t) (v0 :: v1 :: v2 :: v3 :: v4 :: v5 :: v6 :: some (.int x) :: t) 7 (.int x) := lok1_of (L := v0 :: v1 :: v2 :: v3 :: v4 :: v5 :: v6 :: v7 :: t) (i := 7) (by simp) (fun _ => hp)
theorem g_ist7 {v0 v1 v2 v3 v4 v5 v6 v7 : Option Value} {t : List (Option Value)} {x : Int32} (d : decode cc pc = .ok (.istore 7, 2)) (hn : 7 < nL) (hp : lnl v6) (k : G X res own cc nL fr lo (pc + 2) (v0 :: v1 :: v2 :: v3 :: v4 :: v5 :: v6 :: some (.int x) :: t) st M) : G X res own cc nL fr lo pc (v0 :: v1 :: v2 :: v3 :: v4 :: v5 :: v6 :: v7 :: t) (.int x :: st) M := g_ist d hn (lok1_7 hp) k
theorem lok2_7 {v0 v1 v2 v3 v4 v5 v6 v7 u : Option Value} {t : List (Option Value)} {x : Int64} (hp : lnl v6) : lok2 (v0 :: v1 :: v2 :: v3 :: v4 :: v5 :: v6 :: v7 :: u :: t) (v0 :: v1 :: v2 :: v3 :: v4 :: v5 :: v6 :: some (.long x) :: none :: t) 7 (.long x) := lok2_of (L := v0 :: v1 :: v2 :: v3 :: v4 :: v5 :: v6 :: v7 :: u :: t) (i := 7) (by simp) (fun _ => hp)
theorem g_lst7 {v0 v1 v2 v3 v4 v5 v6 v7 u : Option Value} {t : List (Option Value)} {x : Int64} (d : decode cc pc = .ok (.lstore 7, 2)) (hn : 7 + 1 < nL) (hp : lnl v6) (k : G X res own cc nL fr lo (pc + 2) (v0 :: v1 :: v2 :: v3 :: v4 :: v5 :: v6 :: some (.long x) :: none :: t) st M) : G X res own cc nL fr lo pc (v0 :: v1 :: v2 :: v3 :: v4 :: v5 :: v6 :: v7 :: u :: t) (.long x :: st) M := g_lst d hn (lok2_7 hp) k
theorem g_iinc7 {v0 v1 v2 v3 v4 v5 v6 : Option Value} {t : List (Option Value)} {n : Int} {x v : Int32} (d : decode cc pc = .ok (.iinc 7 n, 3)) (hn : 7 < nL) (hp : lnl v6) (hv : x + Int32.ofInt n = v) (k : G X res own cc nL fr lo (pc + 3) (v0 :: v1 :: v2 :: v3 :: v4 :: v5 :: v6 :: some (.int v) :: t) st M) : G X res own cc nL fr lo pc (v0 :: v1 :: v2 :: v3 :: v4 :: v5 :: v6 :: some (.int x) :: t) st M := g_iincg d hn rfl hv (lok1_7 hp) k
theorem lok1_8 {v0 v1 v2 v3 v4 v5 v6 v7 v8 : Option Value} {t : List (Option Value)} {x : Int32} (hp : lnl v7) : lok1 (v0 :: v1 :: v2 :: v3 :: v4 :: v5 :: v6 :: v7 :: v8 :: t) (v0 :: v1 :: v2 :: v3 :: v4 :: v5 :: v6 :: v7 :: some (.int x) :: t) 8 (.int x) := lok1_of (L := v0 :: v1 :: v2 :: v3 :: v4 :: v5 :: v6 :: v7 :: v8 :: t) (i := 8) (by simp) (fun _ => hp)
theorem g_ist8 {v0 v1 v2 v3 v4 v5 v6 v7 v8 : Option Value} {t : List (Option Value)} {x : Int32} (d : decode cc pc = .ok (.istore 8, 2)) (hn : 8 < nL) (hp : lnl v7) (k : G X res own cc nL fr lo (pc + 2) (v0 :: v1 :: v2 :: v3 :: v4 :: v5 :: v6 :: v7 :: some (.int x) :: t) st M) : G X res own cc nL fr lo pc (v0 :: v1 :: v2 :: v3 :: v4 :: v5 :: v6 :: v7 :: v8 :: t) (.int x :: st) M := g_ist d hn (lok1_8 hp) k
theorem lok2_8 {v0 v1 v2 v3 v4 v5 v6 v7 v8 u : Option Value} {t : List (Option Value)} {x : Int64} (hp : lnl v7) : lok2 (v0 :: v1 :: v2 :: v3 :: v4 :: v5 :: v6 :: v7 :: v8 :: u :: t) (v0 :: v1 :: v2 :: v3 :: v4 :: v5 :: v6 :: v7 :: some (.long x) :: none :: t) 8 (.long x) := lok2_of (L := v0 :: v1 :: v2 :: v3 :: v4 :: v5 :: v6 :: v7 :: v8 :: u :: t) (i := 8) (by simp) (fun _ => hp)
theorem g_lst8 {v0 v1 v2 v3 v4 v5 v6 v7 v8 u : Option Value} {t : List (Option Value)} {x : Int64} (d : decode cc pc = .ok (.lstore 8, 2)) (hn : 8 + 1 < nL) (hp : lnl v7) (k : G X res own cc nL fr lo (pc + 2) (v0 :: v1 :: v2 :: v3 :: v4 :: v5 :: v6 :: v7 :: some (.long x) :: none :: t) st M) : G X res own cc nL fr lo pc (v0 :: v1 :: v2 :: v3 :: v4 :: v5 :: v6 :: v7 :: v8 :: u :: t) (.long x :: st) M := g_lst d hn (lok2_8 hp) k
theorem g_iinc8 {v0 v1 v2 v3 v4 v5 v6 v7 : Option Value} {t : List (Option Value)} {n : Int} {x v : Int32} (d : decode cc pc = .ok (.iinc 8 n, 3)) (hn : 8 < nL) (hp : lnl v7) (hv : x + Int32.ofInt n = v) (k : G X res own cc nL fr lo (pc + 3) (v0 :: v1 :: v2 :: v3 :: v4 :: v5 :: v6 :: v7 :: some (.int v) :: t) st M) : G X res own cc nL fr lo pc (v0 :: v1 :: v2 :: v3 :: v4 :: v5 :: v6 :: v7 :: some (.int x) :: t) st M := g_iincg d hn rfl hv (lok1_8 hp) k
theorem lok1_9 {v0 v1 v2 v3 v4 v5 v6 v7 v8 v9 : Option Value} {t : List (Option Value)} {x : Int32} (hp : lnl v8) : lok1 (v0 :: v1 :: v2 :: v3 :: v4 :: v5 :: v6 :: v7 :: v8 :: v9 :: t) (v0 :: v1 :: v2 :: v3 :: v4 :: v5 :: v6 :: v7 :: v8 :: some (.int x) :: t) 9 (.int x) := lok1_of (L := v0 :: v1 :: v2 :: v3 :: v4 :: v5 :: v6 :: v7 :: v8 :: v9 :: t) (i := 9) (by simp) (fun _ => hp)
theorem g_ist9 {v0 v1 v2 v3 v4 v5 v6 v7 v8 v9 : Option Value} {t : List (Option Value)} {x : Int32} (d : decode cc pc = .ok (.istore 9, 2)) (hn : 9 < nL) (hp : lnl v8) (k : G X res own cc nL fr lo (pc + 2) (v0 :: v1 :: v2 :: v3 :: v4 :: v5 :: v6 :: v7 :: v8 :: some (.int x) :: t) st M) : G X res own cc nL fr lo pc (v0 :: v1 :: v2 :: v3 :: v4 :: v5 :: v6 :: v7 :: v8 :: v9 :: t) (.int x :: st) M := g_ist d hn (lok1_9 hp) k
theorem lok2_9 {v0 v1 v2 v3 v4 v5 v6 v7 v8 v9 u : Option Value} {t : List (Option Value)} {x : Int64} (hp : lnl v8) : lok2 (v0 :: v1 :: v2 :: v3 :: v4 :: v5 :: v6 :: v7 :: v8 :: v9 :: u :: t) (v0 :: v1 :: v2 :: v3 :: v4 :: v5 :: v6 :: v7 :: v8 :: some (.long x) :: none :: t) 9 (.long x) := lok2_of (L := v0 :: v1 :: v2 :: v3 :: v4 :: v5 :: v6 :: v7 :: v8 :: v9 :: u :: t) (i := 9) (by simp) (fun _ => hp)
theorem g_lst9 {v0 v1 v2 v3 v4 v5 v6 v7 v8 v9 u : Option Value} {t : List (Option Value)} {x : Int64} (d : decode cc pc = .ok (.lstore 9, 2)) (hn : 9 + 1 < nL) (hp : lnl v8) (k : G X res own cc nL fr lo (pc + 2) (v0 :: v1 :: v2 :: v3 :: v4 :: v5 :: v6 :: v7 :: v8 :: some (.long x) :: none :: t) st M) : G X res own cc nL fr lo pc (v0 :: v1 :: v2 :: v3 :: v4 :: v5 :: v6 :: v7 :: v8 :: v9 :: u :: t) (.long x :: st) M := g_lst d hn (lok2_9 hp) k
theorem g_iinc9 {v0 v1 v2 v3 v4 v5 v6 v7 v8 : Option Value} {t : List (Option Value)} {n : Int} {x v : Int32} (d : decode cc pc = .ok (.iinc 9 n, 3)) (hn : 9 < nL) (hp : lnl v8) (hv : x + Int32.ofInt n = v) (k : G X res own cc nL fr lo (pc + 3) (v0 :: v1 :: v2 :: v3 :: v4 :: v5 :: v6 :: v7 :: v8 :: some (.int v) :: t) st M) : G X res own cc nL fr lo pc (v0 :: v1 :: v2 :: v3 :: v4 :: v5 :: v6 :: v7 :: v8 :: some (.int x) :: t) st M := g_iincg d hn rfl hv (lok1_9 hp) k
theorem lok1_10 {v0 v1 v2 v3 v4 v5 v6 v7 v8 v9 v10 : Option Value} {t : List (Option Value)} {x : Int32} (hp : lnl v9) : lok1 (v0 :: v1 :: v2 :: v3 :: v4 :: v5 :: v6 :: v7 :: v8 :: v9 :: v10 :: t) (v0 :: v1 :: v2 :: v3 :: v4 :: v5 :: v6 :: v7 :: v8 :: v9 :: some (.int x) :: t) 10 (.int x) := lok1_of (L := v0 :: v1 :: v2 :: v3 :: v4 :: v5 :: v6 :: v7 :: v8 :: v9 :: v10 :: t) (i := 10) (by simp) (fun _ => hp)
theorem g_ist10 {v0 v1 v2 v3 v4 v5 v6 v7 v8 v9 v10 : Option Value} {t : List (Option Value)} {x : Int32} (d : decode cc pc = .ok (.istore 10, 2)) (hn : 10 < nL) (hp : lnl v9) (k : G X res own cc nL fr lo (pc + 2) (v0 :: v1 :: v2 :: v3 :: v4 :: v5 :: v6 :: v7 :: v8 :: v9 :: some (.int x) :: t) st M) : G X res own cc nL fr lo pc (v0 :: v1 :: v2 :: v3 :: v4 :: v5 :: v6 :: v7 :: v8 :: v9 :: v10 :: t) (.int x :: st) M := g_ist d hn (lok1_10 hp) k
theorem lok2_10 {v0 v1 v2 v3 v4 v5 v6 v7 v8 v9 v10 u : Option Value} {t : List (Option Value)} {x : Int64} (hp : lnl v9) : lok2 (v0 :: v1 :: v2 :: v3 :: v4 :: v5 :: v6 :: v7 :: v8 :: v9 :: v10 :: u :: t) (v0 :: v1 :: v2 :: v3 :: v4 :: v5 :: v6 :: v7 :: v8 :: v9 :: some (.long x) :: none :: t) 10 (.long x) := lok2_of (L := v0 :: v1 :: v2 :: v3 :: v4 :: v5 :: v6 :: v7 :: v8 :: v9 :: v10 :: u :: t) (i := 10) (by simp) (fun _ => hp)
theorem g_lst10 {v0 v1 v2 v3 v4 v5 v6 v7 v8 v9 v10 u : Option Value} {t : List (Option Value)} {x : Int64} (d : decode cc pc = .ok (.lstore 10, 2)) (hn : 10 + 1 < nL) (hp : lnl v9) (k : G X res own cc nL fr lo (pc + 2) (v0 :: v1 :: v2 :: v3 :: v4 :: v5 :: v6 :: v7 :: v8 :: v9 :: some (.long x) :: none :: t) st M) : G X res own cc nL fr lo pc (v0 :: v1 :: v2 :: v3 :: v4 :: v5 :: v6 :: v7 :: v8 :: v9 :: v10 :: u :: t) (.long x :: st) M := g_lst d hn (lok2_10 hp) k
theorem g_iinc10 {v0 v1 v2 v3 v4 v5 v6 v7 v8 v9 : Option Value} {t : List (Option Value)} {n : Int} {x v : Int32} (d : decode cc pc = .ok (.iinc 10 n, 3)) (hn : 10 < nL) (hp : lnl v9) (hv : x + Int32.ofInt n = v) (k : G X res own cc nL fr lo (pc + 3) (v0 :: v1 :: v2 :: v3 :: v4 :: v5 :: v6 :: v7 :: v8 :: v9 :: some (.int v) :: t) st M) : G X res own cc nL fr lo pc (v0 :: v1 :: v2 :: v3 :: v4 :: v5 :: v6 :: v7 :: v8 :: v9 :: some (.int x) :: t) st M := g_iincg d hn rfl hv (lok1_10 hp) k
theorem lok1_11 {v0 v1 v2 v3 v4 v5 v6 v7 v8 v9 v10 v11 : Option Value} {t : List (Option Value)} {x : Int32} (hp : lnl v10) : lok1 (v0 :: v1 :: v2 :: v3 :: v4 :: v5 :: v6 :: v7 :: v8 :: v9 :: v10 :: v11 :: t) (v0 :: v1 :: v2 :: v3 :: v4 :: v5 :: v6 :: v7 :: v8 :: v9 :: v10 :: some (.int x) :: t) 11 (.int x) := lok1_of (L := v0 :: v1 :: v2 :: v3 :: v4 :: v5 :: v6 :: v7 :: v8 :: v9 :: v10 :: v11 :: t) (i := 11) (by simp) (fun _ => hp)
theorem g_ist11 {v0 v1 v2 v3 v4 v5 v6 v7 v8 v9 v10 v11 : Option Value} {t : List (Option Value)} {x : Int32} (d : decode cc pc = .ok (.istore 11, 2)) (hn : 11 < nL) (hp : lnl v10) (k : G X res own cc nL fr lo (pc + 2) (v0 :: v1 :: v2 :: v3 :: v4 :: v5 :: v6 :: v7 :: v8 :: v9 :: v10 :: some (.int x) :: t) st M) : G X res own cc nL fr lo pc (v0 :: v1 :: v2 :: v3 :: v4 :: v5 :: v6 :: v7 :: v8 :: v9 :: v10 :: v11 :: t) (.int x :: st) M := g_ist d hn (lok1_11 hp) k
theorem lok2_11 {v0 v1 v2 v3 v4 v5 v6 v7 v8 v9 v10 v11 u : Option Value} {t : List (Option Value)} {x : Int64} (hp : lnl v10) : lok2 (v0 :: v1 :: v2 :: v3 :: v4 :: v5 :: v6 :: v7 :: v8 :: v9 :: v10 :: v11 :: u :: t) (v0 :: v1 :: v2 :: v3 :: v4 :: v5 :: v6 :: v7 :: v8 :: v9 :: v10 :: some (.long x) :: none :: t) 11 (.long x) := lok2_of (L := v0 :: v1 :: v2 :: v3 :: v4 :: v5 :: v6 :: v7 :: v8 :: v9 :: v10 :: v11 :: u :: t) (i := 11) (by simp) (fun _ => hp)
theorem g_lst11 {v0 v1 v2 v3 v4 v5 v6 v7 v8 v9 v10 v11 u : Option Value} {t : List (Option Value)} {x : Int64} (d : decode cc pc = .ok (.lstore 11, 2)) (hn : 11 + 1 < nL) (hp : lnl v10) (k : G X res own cc nL fr lo (pc + 2) (v0 :: v1 :: v2 :: v3 :: v4 :: v5 :: v6 :: v7 :: v8 :: v9 :: v10 :: some (.long x) :: none :: t) st M) : G X res own cc nL fr lo pc (v0 :: v1 :: v2 :: v3 :: v4 :: v5 :: v6 :: v7 :: v8 :: v9 :: v10 :: v11 :: u :: t) (.long x :: st) M := g_lst d hn (lok2_11 hp) k
theorem g_iinc11 {v0 v1 v2 v3 v4 v5 v6 v7 v8 v9 v10 : Option Value} {t : List (Option Value)} {n : Int} {x v : Int32} (d : decode cc pc = .ok (.iinc 11 n, 3)) (hn : 11 < nL) (hp : lnl v10) (hv : x + Int32.ofInt n = v) (k : G X res own cc nL fr lo (pc + 3) (v0 :: v1 :: v2 :: v3 :: v4 :: v5 :: v6 :: v7 :: v8 :: v9 :: v10 :: some (.int v) :: t) st M) : G X res own cc nL fr lo pc (v0 :: v1 :: v2 :: v3 :: v4 :: v5 :: v6 :: v7 :: v8 :: v9 :: v10 :: some (.int x) :: t) st M := g_iincg d hn rfl hv (lok1_11 hp) k
theorem lok1_12 {v0 v1 v2 v3 v4 v5 v6 v7 v8 v9 v10 v11 v12 : Option Value} {t : List (Option Value)} {x : Int32} (hp : lnl v11) : lok1 (v0 :: v1 :: v2 :: v3 :: v4 :: v5 :: v6 :: v7 :: v8 :: v9 :: v10 :: v11 :: v12 :: t) (v0 :: v1 :: v2 :: v3 :: v4 :: v5 :: v6 :: v7 :: v8 :: v9 :: v10 :: v11 :: some (.int x) :: t) 12 (.int x) := lok1_of (L := v0 :: v1 :: v2 :: v3 :: v4 :: v5 :: v6 :: v7 :: v8 :: v9 :: v10 :: v11 :: v12 :: t) (i := 12) (by simp) (fun _ => hp)
theorem g_ist12 {v0 v1 v2 v3 v4 v5 v6 v7 v8 v9 v10 v11 v12 : Option Value} {t : List (Option Value)} {x : Int32} (d : decode cc pc = .ok (.istore 12, 2)) (hn : 12 < nL) (hp : lnl v11) (k : G X res own cc nL fr lo (pc + 2) (v0 :: v1 :: v2 :: v3 :: v4 :: v5 :: v6 :: v7 :: v8 :: v9 :: v10 :: v11 :: some (.int x) :: t) st M) : G X res own cc nL fr lo pc (v0 :: v1 :: v2 :: v3 :: v4 :: v5 :: v6 :: v7 :: v8 :: v9 :: v10 :: v11 :: v12 :: t) (.int x :: st) M := g_ist d hn (lok1_12 hp) k
theorem lok2_12 {v0 v1 v2 v3 v4 v5 v6 v7 v8 v9 v10 v11 v12 u : Option Value} {t : List (Option Value)} {x : Int64} (hp : lnl v11) : lok2 (v0 :: v1 :: v2 :: v3 :: v4 :: v5 :: v6 :: v7 :: v8 :: v9 :: v10 :: v11 :: v12 :: u :: t) (v0 :: v1 :: v2 :: v3 :: v4 :: v5 :: v6 :: v7 :: v8 :: v9 :: v10 :: v11 :: some (.long x) :: none :: t) 12 (.long x) := lok2_of (L := v0 :: v1 :: v2 :: v3 :: v4 :: v5 :: v6 :: v7 :: v8 :: v9 :: v10 :: v11 :: v12 :: u :: t) (i := 12) (by simp) (fun _ => hp)
theorem g_lst12 {v0 v1 v2 v3 v4 v5 v6 v7 v8 v9 v10 v11 v12 u : Option Value} {t : List (Option Value)} {x : Int64} (d : decode cc pc = .ok (.lstore 12, 2)) (hn : 12 + 1 < nL) (hp : lnl v11) (k : G X res own cc nL fr lo (pc + 2) (v0 :: v1 :: v2 :: v3 :: v4 :: v5 :: v6 :: v7 :: v8 :: v9 :: v10 :: v11 :: some (.long x) :: none :: t) st M) : G X res own cc nL fr lo pc (v0 :: v1 :: v2 :: v3 :: v4 :: v5 :: v6 :: v7 :: v8 :: v9 :: v10 :: v11 :: v12 :: u :: t) (.long x :: st) M := g_lst d hn (lok2_12 hp) k
theorem g_iinc12 {v0 v1 v2 v3 v4 v5 v6 v7 v8 v9 v10 v11 : Option Value} {t : List (Option Value)} {n : Int} {x v : Int32} (d : decode cc pc = .ok (.iinc 12 n, 3)) (hn : 12 < nL) (hp : lnl v11) (hv : x + Int32.ofInt n = v) (k : G X res own cc nL fr lo (pc + 3) (v0 :: v1 :: v2 :: v3 :: v4 :: v5 :: v6 :: v7 :: v8 :: v9 :: v10 :: v11 :: some (.int v) :: t) st M) : G X res own cc nL fr lo pc (v0 :: v1 :: v2 :: v3 :: v4 :: v5 :: v6 :: v7 :: v8 :: v9 :: v10 :: v11 :: some (.int x) :: t) st M := g_iincg d hn rfl hv (lok1_12 hp) k
theorem lok1_13 {v0 v1 v2 v3 v4 v5 v6 v7 v8 v9 v10 v11 v12 v13 : Option Value} {t : List (Option Value)} {x : Int32} (hp : lnl v12) : lok1 (v0 :: v1 :: v2 :: v3 :: v4 :: v5 :: v6 :: v7 :: v8 :: v9 :: v10 :: v11 :: v12 :: v13 :: t) (v0 :: v1 :: v2 :: v3 :: v4 :: v5 :: v6 :: v7 :: v8 :: v9 :: v10 :: v11 :: v12 :: some (.int x) :: t) 13 (.int x) := lok1_of (L := v0 :: v1 :: v2 :: v3 :: v4 :: v5 :: v6 :: v7 :: v8 :: v9 :: v10 :: v11 :: v12 :: v13 :: t) (i := 13) (by simp) (fun _ => hp)
theorem g_ist13 {v0 v1 v2 v3 v4 v5 v6 v7 v8 v9 v10 v11 v12 v13 : Option Value} {t : List (Option Value)} {x : Int32} (d : decode cc pc = .ok (.istore 13, 2)) (hn : 13 < nL) (hp : lnl v12) (k : G X res own cc nL fr lo (pc + 2) (v0 :: v1 :: v2 :: v3 :: v4 :: v5 :: v6 :: v7 :: v8 :: v9 :: v10 :: v11 :: v12 :: some (.int x) :: t) st M) : G X res own cc nL fr lo pc (v0 :: v1 :: v2 :: v3 :: v4 :: v5 :: v6 :: v7 :: v8 :: v9 :: v10 :: v11 :: v12 :: v13 :: t) (.int x :: st) M := g_ist d hn (lok1_13 hp) k
theorem lok2_13 {v0 v1 v2 v3 v4 v5 v6 v7 v8 v9 v10 v11 v12 v13 u : Option Value} {t : List (Option Value)} {x : Int64} (hp : lnl v12) : lok2 (v0 :: v1 :: v2 :: v3 :: v4 :: v5 :: v6 :: v7 :: v8 :: v9 :: v10 :: v11 :: v12 :: v13 :: u :: t) (v0 :: v1 :: v2 :: v3 :: v4 :: v5 :: v6 :: v7 :: v8 :: v9 :: v10 :: v11 :: v12 :: some (.long x) :: none :: t) 13 (.long x) := lok2_of (L := v0 :: v1 :: v2 :: v3 :: v4 :: v5 :: v6 :: v7 :: v8 :: v9 :: v10 :: v11 :: v12 :: v13 :: u :: t) (i := 13) (by simp) (fun _ => hp)
theorem g_lst13 {v0 v1 v2 v3 v4 v5 v6 v7 v8 v9 v10 v11 v12 v13 u : Option Value} {t : List (Option Value)} {x : Int64} (d : decode cc pc = .ok (.lstore 13, 2)) (hn : 13 + 1 < nL) (hp : lnl v12) (k : G X res own cc nL fr lo (pc + 2) (v0 :: v1 :: v2 :: v3 :: v4 :: v5 :: v6 :: v7 :: v8 :: v9 :: v10 :: v11 :: v12 :: some (.long x) :: none :: t) st M) : G X res own cc nL fr lo pc (v0 :: v1 :: v2 :: v3 :: v4 :: v5 :: v6 :: v7 :: v8 :: v9 :: v10 :: v11 :: v12 :: v13 :: u :: t) (.long x :: st) M := g_lst d hn (lok2_13 hp) k
theorem g_iinc13 {v0 v1 v2 v3 v4 v5 v6 v7 v8 v9 v10 v11 v12 : Option Value} {t : List (Option Value)} {n : Int} {x v : Int32} (d : decode cc pc = .ok (.iinc 13 n, 3)) (hn : 13 < nL) (hp : lnl v12) (hv : x + Int32.ofInt n = v) (k : G X res own cc nL fr lo (pc + 3) (v0 :: v1 :: v2 :: v3 :: v4 :: v5 :: v6 :: v7 :: v8 :: v9 :: v10 :: v11 :: v12 :: some (.int v) :: t) st M) : G X res own cc nL fr lo pc (v0 :: v1 :: v2 :: v3 :: v4 :: v5 :: v6 :: v7 :: v8 :: v9 :: v10 :: v11 :: v12 :: some (.int x) :: t) st M := g_iincg d hn rfl hv (lok1_13 hp) k
theorem lok1_14 {v0 v1 v2 v3 v4 v5 v6 v7 v8 v9 v10 v11 v12 v13 v14 : Option Value} {t : List (Option Value)} {x : Int32} (hp : lnl v13) : lok1 (v0 :: v1 :: v2 :: v3 :: v4 :: v5 :: v6 :: v7 :: v8 :: v9 :: v10 :: v11 :: v12 :: v13 :: v14 :: t) (v0 :: v1 :: v2 :: v3 :: v4 :: v5 :: v6 :: v7 :: v8 :: v9 :: v10 :: v11 :: v12 :: v13 :: some (.int x) :: t) 14 (.int x) := lok1_of (L := v0 :: v1 :: v2 :: v3 :: v4 :: v5 :: v6 :: v7 :: v8 :: v9 :: v10 :: v11 :: v12 :: v13 :: v14 :: t) (i := 14) (by simp) (fun _ => hp)
theorem g_ist14 {v0 v1 v2 v3 v4 v5 v6 v7 v8 v9 v10 v11 v12 v13 v14 : Option Value} {t : List (Option Value)} {x : Int32} (d : decode cc pc = .ok (.istore 14, 2)) (hn : 14 < nL) (hp : lnl v13) (k : G X res own cc nL fr lo (pc + 2) (v0 :: v1 :: v2 :: v3 :: v4 :: v5 :: v6 :: v7 :: v8 :: v9 :: v10 :: v11 :: v12 :: v13 :: some (.int x) :: t) st M) : G X res own cc nL fr lo pc (v0 :: v1 :: v2 :: v3 :: v4 :: v5 :: v6 :: v7 :: v8 :: v9 :: v10 :: v11 :: v12 :: v13 :: v14 :: t) (.int x :: st) M := g_ist d hn (lok1_14 hp) k
theorem lok2_14 {v0 v1 v2 v3 v4 v5 v6 v7 v8 v9 v10 v11 v12 v13 v14 u : Option Value} {t : List (Option Value)} {x : Int64} (hp : lnl v13) : lok2 (v0 :: v1 :: v2 :: v3 :: v4 :: v5 :: v6 :: v7 :: v8 :: v9 :: v10 :: v11 :: v12 :: v13 :: v14 :: u :: t) (v0 :: v1 :: v2 :: v3 :: v4 :: v5 :: v6 :: v7 :: v8 :: v9 :: v10 :: v11 :: v12 :: v13 :: some (.long x) :: none :: t) 14 (.long x) := lok2_of (L := v0 :: v1 :: v2 :: v3 :: v4 :: v5 :: v6 :: v7 :: v8 :: v9 :: v10 :: v11 :: v12 :: v13 :: v14 :: u :: t) (i := 14) (by simp) (fun _ => hp)
theorem g_lst14 {v0 v1 v2 v3 v4 v5 v6 v7 v8 v9 v10 v11 v12 v13 v14 u : Option Value} {t : List (Option Value)} {x : Int64} (d : decode cc pc = .ok (.lstore 14, 2)) (hn : 14 + 1 < nL) (hp : lnl v13) (k : G X res own cc nL fr lo (pc + 2) (v0 :: v1 :: v2 :: v3 :: v4 :: v5 :: v6 :: v7 :: v8 :: v9 :: v10 :: v11 :: v12 :: v13 :: some (.long x) :: none :: t) st M) : G X res own cc nL fr lo pc (v0 :: v1 :: v2 :: v3 :: v4 :: v5 :: v6 :: v7 :: v8 :: v9 :: v10 :: v11 :: v12 :: v13 :: v14 :: u :: t) (.long x :: st) M := g_lst d hn (lok2_14 hp) k
theorem g_iinc14 {v0 v1 v2 v3 v4 v5 v6 v7 v8 v9 v10 v11 v12 v13 : Option Value} {t : List (Option Value)} {n : Int} {x v : Int32} (d : decode cc pc = .ok (.iinc 14 n, 3)) (hn : 14 < nL) (hp : lnl v13) (hv : x + Int32.ofInt n = v) (k : G X res own cc nL fr lo (pc + 3) (v0 :: v1 :: v2 :: v3 :: v4 :: v5 :: v6 :: v7 :: v8 :: v9 :: v10 :: v11 :: v12 :: v13 :: some (.int v) :: t) st M) : G X res own cc nL fr lo pc (v0 :: v1 :: v2 :: v3 :: v4 :: v5 :: v6 :: v7 :: v8 :: v9 :: v10 :: v11 :: v12 :: v13 :: some (.int x) :: t) st M := g_iincg d hn rfl hv (lok1_14 hp) k
theorem lok1_15 {v0 v1 v2 v3 v4 v5 v6 v7 v8 v9 v10 v11 v12 v13 v14 v15 : Option Value} {t : List (Option Value)} {x : Int32} (hp : lnl v14) : lok1 (v0 :: v1 :: v2 :: v3 :: v4 :: v5 :: v6 :: v7 :: v8 :: v9 :: v10 :: v11 :: v12 :: v13 :: v14 :: v15 :: t) (v0 :: v1 :: v2 :: v3 :: v4 :: v5 :: v6 :: v7 :: v8 :: v9 :: v10 :: v11 :: v12 :: v13 :: v14 :: some (.int x) :: t) 15 (.int x) := lok1_of (L := v0 :: v1 :: v2 :: v3 :: v4 :: v5 :: v6 :: v7 :: v8 :: v9 :: v10 :: v11 :: v12 :: v13 :: v14 :: v15 :: t) (i := 15) (by simp) (fun _ => hp)
theorem g_ist15 {v0 v1 v2 v3 v4 v5 v6 v7 v8 v9 v10 v11 v12 v13 v14 v15 : Option Value} {t : List (Option Value)} {x : Int32} (d : decode cc pc = .ok (.istore 15, 2)) (hn : 15 < nL) (hp : lnl v14) (k : G X res own cc nL fr lo (pc + 2) (v0 :: v1 :: v2 :: v3 :: v4 :: v5 :: v6 :: v7 :: v8 :: v9 :: v10 :: v11 :: v12 :: v13 :: v14 :: some (.int x) :: t) st M) : G X res own cc nL fr lo pc (v0 :: v1 :: v2 :: v3 :: v4 :: v5 :: v6 :: v7 :: v8 :: v9 :: v10 :: v11 :: v12 :: v13 :: v14 :: v15 :: t) (.int x :: st) M := g_ist d hn (lok1_15 hp) k
theorem lok2_15 {v0 v1 v2 v3 v4 v5 v6 v7 v8 v9 v10 v11 v12 v13 v14 v15 u : Option Value} {t : List (Option Value)} {x : Int64} (hp : lnl v14) : lok2 (v0 :: v1 :: v2 :: v3 :: v4 :: v5 :: v6 :: v7 :: v8 :: v9 :: v10 :: v11 :: v12 :: v13 :: v14 :: v15 :: u :: t) (v0 :: v1 :: v2 :: v3 :: v4 :: v5 :: v6 :: v7 :: v8 :: v9 :: v10 :: v11 :: v12 :: v13 :: v14 :: some (.long x) :: none :: t) 15 (.long x) := lok2_of (L := v0 :: v1 :: v2 :: v3 :: v4 :: v5 :: v6 :: v7 :: v8 :: v9 :: v10 :: v11 :: v12 :: v13 :: v14 :: v15 :: u :: t) (i := 15) (by simp) (fun _ => hp)
theorem g_lst15 {v0 v1 v2 v3 v4 v5 v6 v7 v8 v9 v10 v11 v12 v13 v14 v15 u : Option Value} {t : List (Option Value)} {x : Int64} (d : decode cc pc = .ok (.lstore 15, 2)) (hn : 15 + 1 < nL) (hp : lnl v14) (k : G X res own cc nL fr lo (pc + 2) (v0 :: v1 :: v2 :: v3 :: v4 :: v5 :: v6 :: v7 :: v8 :: v9 :: v10 :: v11 :: v12 :: v13 :: v14 :: some (.long x) :: none :: t) st M) : G X res own cc nL fr lo pc (v0 :: v1 :: v2 :: v3 :: v4 :: v5 :: v6 :: v7 :: v8 :: v9 :: v10 :: v11 :: v12 :: v13 :: v14 :: v15 :: u :: t) (.long x :: st) M := g_lst d hn (lok2_15 hp) k
theorem g_iinc15 {v0 v1 v2 v3 v4 v5 v6 v7 v8 v9 v10 v11 v12 v13 v14 : Option Value} {t : List (Option Value)} {n : Int} {x v : Int32} (d : decode cc pc = .ok (.iinc 15 n, 3)) (hn : 15 < nL) (hp : lnl v14) (hv : x + Int32.ofInt n = v) (k : G X res own cc nL fr lo (pc + 3) (v0 :: v1 :: v2 :: v3 :: v4 :: v5 :: v6 :: v7 :: v8 :: v9 :: v10 :: v11 :: v12 :: v13 :: v14 :: some (.int v) :: t) st M) : G X res own cc nL fr lo pc (v0 :: v1 :: v2 :: v3 :: v4 :: v5 :: v6 :: v7 :: v8 :: v9 :: v10 :: v11 :: v12 :: v13 :: v14 :: some (.int x) :: t) st M := g_iincg d hn rfl hv (lok1_15 hp) k
end GR
section GH
variable {X : Cx} {res : Option Value × Mem} {own : String} {cc : ByteArray} {nL fr lo pc : Nat} {L : List (Option Value)} {st : List Value} {M : Mem}
theorem g_ldc {index : Nat} {v : Int32} (hc : Cond.constant own index v ∈ TB) (d : decode cc pc = .ok (.ldc index, 2)) (k : G X res own cc nL fr lo (pc + 2) L (.int v :: st) M) : G X res own cc nL fr lo pc L st M := fun C H locs ls hP hS hl => lv_ldc C.1 C.2.1 C.2.2.2.1 (C.2.2.2.2.1 _ hc) d (k C H locs ls hP hS hl)
theorem g_ldc2 {index : Nat} {v : Int64} (hc : Cond.constantLong own index v ∈ TB) (d : decode cc pc = .ok (.ldc2_w index, 3)) (k : G X res own cc nL fr lo (pc + 3) L (.long v :: st) M) : G X res own cc nL fr lo pc L st M := fun C H locs ls hP hS hl => lv_ldc2 C.1 C.2.1 C.2.2.2.1 (C.2.2.2.2.1 _ hc) d (k C H locs ls hP hS hl)
/-- a field is read -/
theorem g_get {C0 : String} {T : u_T} {N ci index j kk : Nat} {fs : List Value} {v : Value} (hk : kk < nCell) (hc : cel X.1 kk (M.1 kk) (M.2 kk) = .inr (ci, fs)) (hcl : vwCl[ci]? = some (C0, T, N)) (hin : ∀ w ∈ u_ws C0 T N, w ∈ TB) (hlink : Cond.fieldLink own index (T j).1 (T j).2.1 (T j).2.2.1 ∈ TB) (hj : j < N) (hv : fs[j]? = some v) (d : decode cc pc = .ok (.getfield index, 3))
    (k : G X res own cc nL fr lo (pc + 3) L (v :: st) M) : G X res own cc nL fr lo pc L (.ref (X.1.1 kk) :: st) M := fun C H locs ls hP hS hl =>
  va_get (D := X.1.2.1) (ref := (T j).1) C.1 C.2.1 C.2.2.2.2.1 hin C.2.2.2.1 C.2.2.2.2.2.1 hP kk (by rw [wl_get hk, hc]) hcl j hj (C.2.2.2.2.1 _ hlink) (fun _ h => h) hv d (k C H locs ls hP hS hl)
/-- a field is written -/
theorem g_putI {C0 : String} {T : u_T} {N ci index j kk : Nat} {fs : List Value} {x : Int32} {ty0 : Nat → FieldType} (hk : kk < nCell) (hc : cel X.1 kk (M.1 kk) (M.2 kk) = .inr (ci, fs)) (hc2 : cel X.1 kk (upd (M.1 kk) j x) (M.2 kk) = .inr (ci, fs.set j (.int x))) (hcl : vwCl[ci]? = some (C0, T, N)) (hin : ∀ w ∈ u_ws C0 T N, w ∈ TB) (hty : ∀ k, k < N → parseFieldDescriptor (T k).2.2.1 = some (ty0 k)) (hnm : ∀ a, a < N → ∀ b, b < N → a ≠ b → (T a).2.1 ≠ (T b).2.1) (hlink : Cond.fieldLink own index (T j).1 (T j).2.1 (T j).2.2.1 ∈ TB) (hj : j < N) (hjl : j < fs.length) (hfin : (T j).2.2.2 = false) (hd : parseFieldDescriptor (T j).2.2.1 = some .int) (d : decode cc pc = .ok (.putfield index, 3))
    (k : G X res own cc nL fr lo (pc + 3) L st (mI M kk j x)) : G X res own cc nL fr lo pc L (.int x :: .ref (X.1.1 kk) :: st) M := fun C H locs ls hP hS hl =>
  va_put (D := X.1.2.1) (ref := (T j).1) (ty := .int) C.1 C.2.1 C.2.2.2.2.1 hin ty0 hty hnm C.2.2.2.1 C.2.2.2.2.2.1 hP (wl_D C.2.2.2.2.2.2.1 M) hS kk (by rw [wl_get hk, hc]) hcl j hj (C.2.2.2.2.1 _ hlink) (fun _ h => h) hfin hd rfl rfl hjl d
    (fun H1 locs1 hP1 _ hS1 => k C H1 locs1 ls (by rw [wl_rI hc2] at hP1; exact hP1) hS1 hl)
theorem g_putL {C0 : String} {T : u_T} {N ci index j kk : Nat} {fs : List Value} {x : Int64} {ty0 : Nat → FieldType} (hk : kk < nCell) (hc : cel X.1 kk (M.1 kk) (M.2 kk) = .inr (ci, fs)) (hc2 : cel X.1 kk (M.1 kk) (vp_updL (M.2 kk) j x) = .inr (ci, fs.set j (.long x))) (hcl : vwCl[ci]? = some (C0, T, N)) (hin : ∀ w ∈ u_ws C0 T N, w ∈ TB) (hty : ∀ k, k < N → parseFieldDescriptor (T k).2.2.1 = some (ty0 k)) (hnm : ∀ a, a < N → ∀ b, b < N → a ≠ b → (T a).2.1 ≠ (T b).2.1) (hlink : Cond.fieldLink own index (T j).1 (T j).2.1 (T j).2.2.1 ∈ TB) (hj : j < N) (hjl : j < fs.length) (hfin : (T j).2.2.2 = false) (hd : parseFieldDescriptor (T j).2.2.1 = some .long) (d : decode cc pc = .ok (.putfield index, 3))
    (k : G X res own cc nL fr lo (pc + 3) L st (mL M kk j x)) : G X res own cc nL fr lo pc L (.long x :: .ref (X.1.1 kk) :: st) M := fun C H locs ls hP hS hl =>
  va_put (D := X.1.2.1) (ref := (T j).1) (ty := .long) C.1 C.2.1 C.2.2.2.2.1 hin ty0 hty hnm C.2.2.2.1 C.2.2.2.2.2.1 hP (wl_D C.2.2.2.2.2.2.1 M) hS kk (by rw [wl_get hk, hc]) hcl j hj (C.2.2.2.2.1 _ hlink) (fun _ h => h) hfin hd rfl rfl hjl d
    (fun H1 locs1 hP1 _ hS1 => k C H1 locs1 ls (by rw [wl_rL hc2] at hP1; exact hP1) hS1 hl)
/-- arrays -/
theorem g_iaload {kk n j : Nat} {i : Int32} (hk : kk < nCell) (hc : ∀ f g, cel X.1 kk f g = .inl (X.1.2.2.1.1, n, .inl f)) (hin : vp_in i n) (hj : i.toNatClampNeg = j) (d : decode cc pc = .ok (.iaload, 1))
    (k : G X res own cc nL fr lo (pc + 1) L (.int (M.1 kk j) :: st) M) : G X res own cc nL fr lo pc L (.int i :: .ref (X.1.1 kk) :: st) M := fun C H locs ls hP hS hl => by
  subst hj
  exact va_iald C.1 C.2.1 C.2.2.2.2.2.1 hP kk 0 (by rw [wl_get hk, hc]) rfl hin d (k C H locs ls hP hS hl)
theorem g_zaload {kk n j : Nat} {i : Int32} (hk : kk < nCell) (hc : ∀ f g, cel X.1 kk f g = .inl (X.1.2.2.1.2.2.1, n, .inl f)) (hin : vp_in i n) (hj : i.toNatClampNeg = j) (d : decode cc pc = .ok (.baload, 1))
    (k : G X res own cc nL fr lo (pc + 1) L (.int (M.1 kk j) :: st) M) : G X res own cc nL fr lo pc L (.int i :: .ref (X.1.1 kk) :: st) M := fun C H locs ls hP hS hl => by
  subst hj
  exact va_zald C.1 C.2.1 C.2.2.2.2.2.1 hP kk 2 (by rw [wl_get hk, hc]) rfl hin d (k C H locs ls hP hS hl)
theorem g_laload {kk n j : Nat} {i : Int32} (hk : kk < nCell) (hc : ∀ f g, cel X.1 kk f g = .inl (X.1.2.2.1.2.1, n, .inr (.inl g))) (hin : vp_in i n) (hj : i.toNatClampNeg = j) (d : decode cc pc = .ok (.laload, 1))
    (k : G X res own cc nL fr lo (pc + 1) L (.long (M.2 kk j) :: st) M) : G X res own cc nL fr lo pc L (.int i :: .ref (X.1.1 kk) :: st) M := fun C H locs ls hP hS hl => by
  subst hj
  exact va_lald C.1 C.2.1 C.2.2.2.2.2.1 hP kk 1 (by rw [wl_get hk, hc]) rfl hin d (k C H locs ls hP hS hl)
theorem g_iastore {kk n j : Nat} {i x : Int32} (hk : kk < nCell) (hc : ∀ f g, cel X.1 kk f g = .inl (X.1.2.2.1.1, n, .inl f)) (hin : vp_in i n) (hj : i.toNatClampNeg = j) (d : decode cc pc = .ok (.iastore, 1))
    (k : G X res own cc nL fr lo (pc + 1) L st (mI M kk j x)) : G X res own cc nL fr lo pc L (.int x :: .int i :: .ref (X.1.1 kk) :: st) M := fun C H locs ls hP hS hl => by
  subst hj
  exact va_iast C.1 C.2.1 C.2.2.2.2.2.1 hP (wl_D C.2.2.2.2.2.2.1 M) hS kk 0 (by rw [wl_get hk, hc]) rfl hin d (fun H1 locs1 hP1 _ hS1 => k C H1 locs1 ls (by rw [wl_rI (f := upd (M.1 kk) i.toNatClampNeg x) (hc _ _)] at hP1; exact hP1) hS1 hl)
theorem g_zastore {kk n j : Nat} {i x : Int32} (hk : kk < nCell) (hc : ∀ f g, cel X.1 kk f g = .inl (X.1.2.2.1.2.2.1, n, .inl f)) (hin : vp_in i n) (hj : i.toNatClampNeg = j) (d : decode cc pc = .ok (.bastore, 1))
    (k : G X res own cc nL fr lo (pc + 1) L st (mI M kk j (vp_nar .boolean x))) : G X res own cc nL fr lo pc L (.int x :: .int i :: .ref (X.1.1 kk) :: st) M := fun C H locs ls hP hS hl => by
  subst hj
  exact va_zast C.1 C.2.1 C.2.2.2.2.2.1 hP (wl_D C.2.2.2.2.2.2.1 M) hS kk 2 (by rw [wl_get hk, hc]) rfl hin d (fun H1 locs1 hP1 _ hS1 => k C H1 locs1 ls (by rw [wl_rI (f := upd (M.1 kk) i.toNatClampNeg (vp_nar .boolean x)) (hc _ _)] at hP1; exact hP1) hS1 hl)
theorem g_lastore {kk n j : Nat} {i : Int32} {x : Int64} (hk : kk < nCell) (hc : ∀ f g, cel X.1 kk f g = .inl (X.1.2.2.1.2.1, n, .inr (.inl g))) (hin : vp_in i n) (hj : i.toNatClampNeg = j) (d : decode cc pc = .ok (.lastore, 1))
    (k : G X res own cc nL fr lo (pc + 1) L st (mL M kk j x)) : G X res own cc nL fr lo pc L (.long x :: .int i :: .ref (X.1.1 kk) :: st) M := fun C H locs ls hP hS hl => by
  subst hj
  exact va_last C.1 C.2.1 C.2.2.2.2.2.1 hP (wl_D C.2.2.2.2.2.2.1 M) hS kk 1 (by rw [wl_get hk, hc]) rfl hin d (fun H1 locs1 hP1 _ hS1 => k C H1 locs1 ls (by rw [wl_rL (f := vp_updL (M.2 kk) i.toNatClampNeg x) (hc _ _)] at hP1; exact hP1) hS1 hl)
/-- the row of images -/
theorem g_aaload {i : Int32} (hin : vp_in i 2) (d : decode cc pc = .ok (.aaload, 1))
    (k0 : i = 0 → G X res own cc nL fr lo (pc + 1) L (.ref (X.1.1 27) :: st) M) (k1 : ¬ i = 0 → G X res own cc nL fr lo (pc + 1) L (.ref (X.1.1 40) :: st) M) : G X res own cc nL fr lo pc L (.int i :: .ref (X.1.1 53) :: st) M := fun C H locs ls hP hS hl => by
  refine va_aldq C.1 C.2.1 C.2.2.2.2.2.1 hP 53 3 (by rw [wl_get (by decide), cel_53]) rfl hin d ?_
  obtain ⟨j, hj, rfl⟩ := vp_in_of hin (by decide)
  rw [nI_clamp (by omega)]
  by_cases h : j = 0
  · subst h
    exact k0 rfl C H locs ls hP hS hl
  · rw [if_neg h]
    exact k1 (nI_ne0 (by omega) (by omega)) C H locs ls hP hS hl
/-- System.arraycopy with known numbers -/
theorem g_copyI {index k0 k1 n0 n1 : Nat} {sp dp n : Int32} (hlink : Cond.methodLink own index arraycopyName ∈ TB) (hnat : Cond.native arraycopyName ∈ TB) (hstat : Cond.static arraycopyName ∈ TB) (hini : Cond.initialized "java/lang/System" ∈ TB) (hk0 : k0 < nCell) (hc0 : ∀ f g, cel X.1 k0 f g = .inl (X.1.2.2.1.1, n0, .inl f)) (hk1 : k1 < nCell) (hc1 : ∀ f g, cel X.1 k1 f g = .inl (X.1.2.2.1.1, n1, .inl f))
    (h1 : ¬ sp < 0) (h2 : ¬ dp < 0) (h3 : ¬ n < 0) (h4 : sp.toNatClampNeg + n.toNatClampNeg ≤ n0) (h5 : dp.toNatClampNeg + n.toNatClampNeg ≤ n1) (hfr : 1 ≤ fr) (hlo : (st.map fun v => v.category).sum + (nativeFrameWords "java/lang/System" "arraycopy" 5 + 11) ≤ lo) (d : decode cc pc = .ok (.invokestatic index, 3))
    (k : G X res own cc nL fr lo (pc + 3) L st (rI M k1 (va_cpy (M.1 k0) (M.1 k1) sp.toNatClampNeg dp.toNatClampNeg n.toNatClampNeg))) : G X res own cc nL fr lo pc L (.int n :: .int dp :: .ref (X.1.1 k1) :: .int sp :: .ref (X.1.1 k0) :: st) M := fun C H locs ls hP hS hl =>
  va_copyi C.1 C.2.1 (C.2.2.1.trans hl.1.symm) C.2.2.2.1 (C.2.2.2.2.1 _ hlink) (C.2.2.2.2.1 _ hnat) (C.2.2.2.2.1 _ hstat) (C.2.2.2.2.1 _ hini) C.2.2.2.2.2.1 hP (wl_D C.2.2.2.2.2.2.1 M) hS k0 k1 0 0 (by rw [wl_get hk0, hc0]) (by rw [wl_get hk1, hc1]) rfl rfl rfl h1 h2 h3 h4 h5 (fun _ _ => rfl) (Nat.le_trans hfr C.2.2.2.2.2.2.2.2.1) (Nat.le_trans hlo C.2.2.2.2.2.2.2.2.2.1) d
    (fun H1 locs1 hP1 _ hS1 => k C H1 locs1 ls (by rw [wl_rI (hc1 _ _)] at hP1; exact hP1) hS1 hl)
theorem g_copyL {index k0 k1 n0 n1 : Nat} {sp dp n : Int32} (hlink : Cond.methodLink own index arraycopyName ∈ TB) (hnat : Cond.native arraycopyName ∈ TB) (hstat : Cond.static arraycopyName ∈ TB) (hini : Cond.initialized "java/lang/System" ∈ TB) (hk0 : k0 < nCell) (hc0 : ∀ f g, cel X.1 k0 f g = .inl (X.1.2.2.1.2.1, n0, .inr (.inl g))) (hk1 : k1 < nCell) (hc1 : ∀ f g, cel X.1 k1 f g = .inl (X.1.2.2.1.2.1, n1, .inr (.inl g)))
    (h1 : ¬ sp < 0) (h2 : ¬ dp < 0) (h3 : ¬ n < 0) (h4 : sp.toNatClampNeg + n.toNatClampNeg ≤ n0) (h5 : dp.toNatClampNeg + n.toNatClampNeg ≤ n1) (hfr : 1 ≤ fr) (hlo : (st.map fun v => v.category).sum + (nativeFrameWords "java/lang/System" "arraycopy" 5 + 11) ≤ lo) (d : decode cc pc = .ok (.invokestatic index, 3))
    (k : G X res own cc nL fr lo (pc + 3) L st (rL M k1 (va_cpy (M.2 k0) (M.2 k1) sp.toNatClampNeg dp.toNatClampNeg n.toNatClampNeg))) : G X res own cc nL fr lo pc L (.int n :: .int dp :: .ref (X.1.1 k1) :: .int sp :: .ref (X.1.1 k0) :: st) M := fun C H locs ls hP hS hl =>
  va_copyl C.1 C.2.1 (C.2.2.1.trans hl.1.symm) C.2.2.2.1 (C.2.2.2.2.1 _ hlink) (C.2.2.2.2.1 _ hnat) (C.2.2.2.2.1 _ hstat) (C.2.2.2.2.1 _ hini) C.2.2.2.2.2.1 hP (wl_D C.2.2.2.2.2.2.1 M) hS k0 k1 1 1 (by rw [wl_get hk0, hc0]) (by rw [wl_get hk1, hc1]) rfl rfl rfl h1 h2 h3 h4 h5 (fun _ _ => rfl) (Nat.le_trans hfr C.2.2.2.2.2.2.2.2.1) (Nat.le_trans hlo C.2.2.2.2.2.2.2.2.2.1) d
    (fun H1 locs1 hP1 _ hS1 => k C H1 locs1 ls (by rw [wl_rL (hc1 _ _)] at hP1; exact hP1) hS1 hl)
/-- Math.max -/
theorem g_max {index : Nat} {x y : Int32} (hlink : Cond.methodLink own index Lib.Math.max.name ∈ TB) (hstat : Cond.static Lib.Math.max.name ∈ TB) (hini : Cond.initialized "java/lang/Math" ∈ TB) (hcode : Cond.code Lib.Math.max.name Lib.Math.max.code 2 (some .int) ∈ TB) (hfr : 1 ≤ fr) (hlo : (st.map fun v => v.category).sum + 13 ≤ lo) (d : decode cc pc = .ok (.invokestatic index, 3))
    (k : G X res own cc nL fr lo (pc + 3) L (.int (if x < y then y else x) :: st) M) : G X res own cc nL fr lo pc L (.int y :: .int x :: st) M := fun C H locs ls hP hS hl =>
  va_mmax C.1 C.2.1 (C.2.2.1.trans hl.1.symm) C.2.2.2.1 (C.2.2.2.2.1 _ hlink) (C.2.2.2.2.1 _ hstat) (C.2.2.2.2.1 _ hini) (C.2.2.2.2.1 _ hcode) (Nat.le_trans hfr C.2.2.2.2.2.2.2.2.1) (Nat.le_trans hlo C.2.2.2.2.2.2.2.2.2.1) (Nat.zero_le _) (Nat.zero_le _) d (k C H locs ls hP hS hl)
/-- a switch by a table -/
theorem g_tabOut {dflt lo9 hi9 : Int} {offs : Array Int} {len : Nat} {x : Int32} {tgt : Nat} (d : decode cc pc = .ok (.tableswitch dflt lo9 hi9 offs, len)) (h : x.toInt < lo9 ∨ hi9 < x.toInt) (ht : (pc : Int) + dflt = (tgt : Int)) (k : G X res own cc nL fr lo tgt L st M) : G X res own cc nL fr lo pc L (.int x :: st) M := fun C H locs ls hP hS hl => lv_tableOut C.1 C.2.1 d h ht (k C H locs ls hP hS hl)
theorem g_tabIn {dflt lo9 hi9 : Int} {offs : Array Int} {len : Nat} {x : Int32} {off : Int} {tgt : Nat} (d : decode cc pc = .ok (.tableswitch dflt lo9 hi9 offs, len)) (h1 : ¬ x.toInt < lo9) (h2 : ¬ hi9 < x.toInt) (ho : offs[(x.toInt - lo9).toNat]? = some off) (ht : (pc : Int) + off = (tgt : Int)) (k : G X res own cc nL fr lo tgt L st M) : G X res own cc nL fr lo pc L (.int x :: st) M := fun C H locs ls hP hS hl => lv_tableIn C.1 C.2.1 d h1 h2 ho ht (k C H locs ls hP hS hl)
theorem g_look {dflt : Int} {ps : Array (Int × Int)} {len : Nat} {x : Int32} {off : Int} {tgt : Nat} (d : decode cc pc = .ok (.lookupswitch dflt ps, len)) (hp : (ps.toList.zip (ps.toList.drop 1)).all (fun (a, next) => a.1 < next.1) = true) (ho : Op.lookupswitch.offset ps.toList dflt x.toInt = off) (ht : (pc : Int) + off = (tgt : Int)) (k : G X res own cc nL fr lo tgt L st M) : G X res own cc nL fr lo pc L (.int x :: st) M := fun C H locs ls hP hS hl => lv_lookup C.1 C.2.1 d hp ho ht (k C H locs ls hP hS hl)
/-- the ends -/
theorem g_iret {v : Int32} (hr : X.meth.sig.returnType = some .int) (d : decode cc pc = .ok (.ireturn, 1)) : G X (some (.int v), M) own cc nL fr lo pc L [.int v] M := fun C H locs ls hP hS hl => W.iret C.1 C.2.1 hr (fun t ht _ => ⟨rfl, by rw [ht]; exact hP, hS.F ht⟩) hS.2.2 d C.2.2.2.2.2.2.2.2.2.2
theorem g_lret {v : Int64} (hr : X.meth.sig.returnType = some .long) (d : decode cc pc = .ok (.lreturn, 1)) : G X (some (.long v), M) own cc nL fr lo pc L [.long v] M := fun C H locs ls hP hS hl => W.lret C.1 C.2.1 hr (fun t ht _ => ⟨rfl, by rw [ht]; exact hP, hS.F ht⟩) hS.2.2 d C.2.2.2.2.2.2.2.2.2.2
theorem g_zret {v : Int32} (hr : X.meth.sig.returnType = some .boolean) (hv : v = 0 ∨ v = 1) (d : decode cc pc = .ok (.ireturn, 1)) : G X (some (.int v), M) own cc nL fr lo pc L [.int v] M := fun C H locs ls hP hS hl => W.zret C.1 C.2.1 hr (by rcases hv with rfl | rfl <;> decide) (fun t ht _ => ⟨rfl, by rw [ht]; exact hP, hS.F ht⟩) hS.2.2 d C.2.2.2.2.2.2.2.2.2.2
theorem g_vret (hr : X.meth.sig.returnType = none) (d : decode cc pc = .ok (.return_, 1)) : G X (none, M) own cc nL fr lo pc L [] M := fun C H locs ls hP hS hl => W.vret C.1 C.2.1 hr (fun t ht _ => ⟨rfl, by rw [ht]; exact hP, hS.F ht⟩) hS.2.2 d C.2.2.2.2.2.2.2.2.2.2
end GH
end
section
/-! entry, calls, and how a pure function's value is followed -/
def sv : Slot → Option Value
  | .val v => some v
  | _ => none
def la (nL : Nat) (vs : List Value) : List (Option Value) := (lg_sl vs ++ List.replicate (nL - (lg_sl vs).length) Slot.unset).map sv
theorem la_lvr {nL : Nat} {vs : List Value} (h : (lg_sl vs).length ≤ nL) : lvr ((lg_sl vs ++ List.replicate (nL - (lg_sl vs).length) Slot.unset).toArray) nL (la nL vs) := by
  obtain ⟨h1, h2, -⟩ := lv_entry vs h
  refine ⟨h1, h2, fun i v hv => ?_⟩
  unfold la at hv
  rw [List.getElem?_map] at hv
  rw [List.getElem?_toArray]
  cases hs : (lg_sl vs ++ List.replicate (nL - (lg_sl vs).length) Slot.unset)[i]? with
  | none => rw [hs] at hv; cases hv
  | some z =>
    rw [hs] at hv
    cases z <;> simp [sv] at hv
    rw [hv]
theorem cn_of {l : Launch} {y : MethodName} {cc : ByteArray} {nL : Nat} {ret : Option FieldType} {fr lo : Nat} {As : En → List Value} {M : Mem} {res : Option Value × Mem} (own : String) (Lx : En → List (Option Value)) (hy : plainName y.cls = true) (hown : y.cls = own) (hlen : ∀ E, (lg_sl (As E)).length ≤ nL) (hL : ∀ E, la nL (As E) = Lx E)
    (body : ∀ X : Cx, X.meth.sig.returnType = ret → G X res own cc nL fr lo 0 (Lx X.1) [] M) : Cn l y cc nL ret fr lo As M res := by
  intro E
  refine Met.ofW (cc := cc) (maxL := nL) (ret := ret) hy rfl ?_
  intro p e s m args below meth c s₁ B hml hv
  obtain ⟨rfl, hP, hK, hinj, hSO⟩ := hv
  have K := body (E, p, l, e, rmOf fr lo, s, m, (As E).toArray, below, meth, c) B.returns
  have hts := atoms_spec (ws := Cond.code y cc nL ret :: TB) B.pre
  rw [lg_entry_eq]
  refine K ⟨B.exec, B.bytes, hml, ?_, fun w hw => hts w (List.mem_cons_of_mem _ hw), hK, hinj, hSO, Nat.le_refl _, Nat.le_refl _, B.notSynchronized⟩ s.heap [] _ hP va_S.rf ?_
  · rw [← hown]; exact findClass_of_methodNamed B.named
  · rw [← hL]; exact la_lvr (hlen E)
theorem ite_t {α : Type} {c : Prop} {i : Decidable c} {A B r : α} (hc : c) (hf : @ite α c i A B = r) : A = r := by rw [← hf, if_pos hc]
theorem ite_f {α : Type} {c : Prop} {i : Decidable c} {A B r : α} (hc : ¬ c) (hf : @ite α c i A B = r) : B = r := by rw [← hf, if_neg hc]
theorem bnd {α β : Type} {o : Option α} {k : α → Option β} {r : β} (h : o.bind k = some r) : ∃ a, o = some a ∧ k a = some r := by
  cases o with
  | none => cases h
  | some a => exact ⟨a, rfl, h⟩
def ck {α : Type} (i : Int32) (n : Nat) (k : Option α) : Option α := if i < 0 ∨ n ≤ i.toNatClampNeg then none else k
theorem ck_s {α : Type} {i : Int32} {n : Nat} {k : Option α} {r : α} (h : ck i n k = some r) : vp_in i n ∧ k = some r := by
  unfold ck at h
  split at h
  · cases h
  · rename_i q; exact ⟨q, h⟩
def ckB {α : Type} (v : Int32) (k : Option α) : Option α := if v = 0 ∨ v = 1 then k else none
theorem ckB_s {α : Type} {v : Int32} {k : Option α} {r : α} (h : ckB v k = some r) : (v = 0 ∨ v = 1) ∧ k = some r := by
  unfold ckB at h
  split at h
  · rename_i q; exact ⟨q, h⟩
  · cases h
def ckN {α : Type} (v : Int32) (k : Option α) : Option α := if v = 0 then none else k
theorem ckN_s {α : Type} {v : Int32} {k : Option α} {r : α} (h : ckN v k = some r) : (¬ v = 0) ∧ k = some r := by
  unfold ckN at h
  split at h
  · cases h
  · rename_i q; exact ⟨q, h⟩
def ckM {α : Type} (v : Int64) (k : Option α) : Option α := if v = 0 then none else k
theorem ckM_s {α : Type} {v : Int64} {k : Option α} {r : α} (h : ckM v k = some r) : (¬ v = 0) ∧ k = some r := by
  unfold ckM at h
  split at h
  · cases h
  · rename_i q; exact ⟨q, h⟩
theorem lsk {a : Option Value} {l l2 : List (Option Value)} (h : lsub l l2) : lsub (a :: l) (a :: l2) := ⟨Or.inr rfl, h⟩
theorem lsd {a : Option Value} {l l2 : List (Option Value)} (h : lsub l l2) : lsub (a :: l) (none :: l2) := ⟨Or.inl rfl, h⟩
theorem lsz : lsub [] [] := trivial
theorem g_weakr {X : Cx} {res : Option Value × Mem} {own : String} {cc : ByteArray} {nL fr lo pc : Nat} {L L2 : List (Option Value)} {st : List Value} {M : Mem} (k : G X res own cc nL fr lo pc L2 st M) (h : lsub L L2) : G X res own cc nL fr lo pc L st M := g_weak h k
/-- how often a loop may turn in what follows -/
def fu : Nat := 2000
/-- what the tables say of a call -/
def CWs (own : String) (index : Nat) (y : MethodName) (cc : ByteArray) (nL : Nat) (ret : Option FieldType) (n : Nat) : Prop :=
  Cond.methodLink own index y ∈ TB ∧ Cond.static y ∈ TB ∧ Cond.initialized y.cls ∈ TB ∧ Cond.code y cc nL ret ∈ TB ∧ (y.cls ≠ "java/lang/invoke/MethodHandle" ∧ y.cls ≠ "java/lang/invoke/VarHandle" ∧ (parseMethodDescriptor y.desc).map (fun d => d.parameters.length) = some n)
def CWv (own : String) (index : Nat) (y : MethodName) (cc : ByteArray) (nL : Nat) (ret : Option FieldType) (n : Nat) : Prop :=
  Cond.methodLink own index y ∈ TB ∧ Cond.instanceMethod y ∈ TB ∧ Cond.selects y.cls y y ∈ TB ∧ Cond.initialized y.cls ∈ TB ∧ Cond.code y cc nL ret ∈ TB ∧ (y.cls ≠ "java/lang/invoke/MethodHandle" ∧ y.cls ≠ "java/lang/invoke/VarHandle" ∧ (parseMethodDescriptor y.desc).map (fun d => d.parameters.length) = some n)
theorem tb_goodIn {y : MethodName} {cc : ByteArray} {nL : Nat} {ret : Option FieldType} (h : Cond.code y cc nL ret ∈ TB) : GoodIn TB (.code y cc nL ret :: TB) := fun w hw => by
  rcases List.mem_cons.mp hw with rfl | h2
  · exact ⟨h, tb_good h⟩
  · exact ⟨h2, tb_good h2⟩
theorem hol_blind {E : En} {M : Mem} {As : List Value} : FrameBlind (va_Pc As (Hol E M)) := by
  rintro a U g mk ⟨h1, h2, h3, h4, h5⟩
  exact ⟨h1, h2, va_K.moved (u := U) (U := U.calling g mk a) (Vm.Alike.refl U.vm) h3, h4, SO.same (s := U) (U := U.calling g mk a) rfl h5⟩
section GC
variable {X : Cx} {res : Option Value × Mem} {own : String} {cc : ByteArray} {nL fr lo pc : Nat} {L : List (Option Value)} {st stk : List Value} {M M1 : Mem}
theorem g_run {Qa : State → Outcome → State → Prop} {r : Option Value} {H : Heap} {locs : List Loc} {ls : Array Slot} (hQ : ∀ st t v, Qa st (.returned v) t → v = r ∧ va_P X.1.2.1 vwCl (wl X.1 M1) t.heap ∧ va_F (Av X.1) st t)
    (run : va_Run X.2.1 X.2.2.1 X.2.2.2.1 X.R X.s X.2.2.2.2.2.2.1 X.2.2.2.2.2.2.2.1 X.2.2.2.2.2.2.2.2.1 X.meth X.2.2.2.2.2.2.2.2.2.2 H locs 0 0 0 0 (F0 X.2.2.2.2.2.2.1 pc ls stk) st Qa (Av X.1)) (C : Ck X own cc nL fr lo) (hS : va_S (Av X.1) X.s.heap H locs) (hl : lvr ls nL L)
    (k : G X res own cc nL fr lo (pc + 3) L (r.toList ++ st) M1) : W X.2.1 X.2.2.1 X.2.2.2.1 X.R X.s X.2.2.2.2.2.2.1 X.2.2.2.2.2.2.2.1 X.2.2.2.2.2.2.2.2.1 X.meth X.2.2.2.2.2.2.2.2.2.2 H locs 0 0 (MQ X.2.2.2.2.2.2.2.2.1 (Qm X.1 res) X.2.2.2.2.2.2.2.1 X.s 0 0 (Av X.1)) (F0 X.2.2.2.2.2.2.1 pc ls stk) := by
  intro T hT XS
  obtain ⟨v, st₀, t, T', L', h0, X', hL, e1, e2, hq, go⟩ := run T hT XS
  obtain ⟨rfl, hP1, hz, hk⟩ := hQ _ _ _ hq
  rw [h0] at hz hk
  obtain ⟨t2, a1, b1⟩ := k C T'.heap (locs ++ L') ls (by rw [e1]; exact hP1) ⟨Nat.le_trans hS.1 (by rw [e1]; exact hz), fun q h1 h2 => by rw [e1, hk q (Nat.lt_of_lt_of_le h1 hS.1) h2]; exact hS.2.1 q h1 h2, fun q hq => by
      rcases List.mem_append.mp hq with h | h
      · exact hS.2.2 q h
      · exact hL q h⟩ hl T' rfl X'
  exact ⟨t2, go t2 a1, b1⟩
theorem hol_at {As : List Value} {H : Heap} {locs : List Loc} (C : Ck X own cc nL fr lo) (hP : va_P X.1.2.1 vwCl (wl X.1 M) H) (hS : va_S (Av X.1) X.s.heap H locs) : ∀ U : State, U.heap = H → X.s.WarmedH U.vm → va_Pc As (Hol X.1 M) As.toArray U := fun U hU hW =>
  ⟨rfl, by rw [hU]; exact hP, va_K.moved hW.alike C.2.2.2.2.2.1, C.2.2.2.2.2.2.1, by rw [hU]; exact SO.warm hW (C.2.2.2.2.2.2.2.1.kept hS.2.1)⟩
theorem g_callS {y : MethodName} {cc2 : ByteArray} {nL2 index n fr2 lo2 : Nat} {ret : Option FieldType} {As : En → List Value} {r : Option Value} (hM : Cn X.2.2.1 y cc2 nL2 ret fr2 lo2 As M (r, M1)) (hw : CWs own index y cc2 nL2 ret n) (hn : (As X.1).length = n) (hst : stk = (As X.1).reverse ++ st) (hR : fr2 + 1 ≤ fr ∧ 8 + (nL2 + 11) + lo2 ≤ lo) (hsum : (st.map fun v => v.category).sum ≤ 8) (d : decode cc pc = .ok (.invokestatic index, 3))
    (k : G X res own cc nL fr lo (pc + 3) L (r.toList ++ st) M1) : G X res own cc nL fr lo pc L stk M := fun C H locs ls hP hS hl => by
  have cb := callB_of (R := X.R) (s := X.s) (args := X.2.2.2.2.2.2.2.1) (own := own) (index := index) (y := y) (rm := rmOf fr2 lo2) (mc := 0) (ms := 0) n C.2.2.2.2.1 (tb_goodIn hw.2.2.2.1) rfl rfl rfl (C.2.2.2.2.1 _ hw.2.2.1) (C.2.2.2.2.1 _ hw.1) hw.2.2.2.2 ⟨Nat.le_trans hR.1 C.2.2.2.2.2.2.2.2.1, Nat.le_trans hR.2 C.2.2.2.2.2.2.2.2.2.1⟩
  exact g_run (r := r) (M1 := M1) (fun st t v h => ⟨Outcome.returned.inj h.1, h.2.1, h.2.2⟩) (va_runS (As := As X.1) (rest := st) ⟨C.1, C.2.1, C.2.2.1, C.2.2.2.1, C.2.2.2.2.1⟩ (hM X.1) ⟨cb, C.2.2.2.2.1 _ hw.2.1⟩ ⟨hol_blind, hol_at C hP hS⟩ rfl hn hl.1 hst (lv_room hsum) d ⟨Nat.zero_le _, Nat.zero_le _⟩) C hS hl k
theorem g_callW {y : MethodName} {cc2 : ByteArray} {nL2 index n fr2 lo2 b : Nat} {ret : Option FieldType} {As : En → List Value} {Bs : List Value} {r : Option Value} (hM : Cn X.2.2.1 y cc2 nL2 ret fr2 lo2 As M (r, M1)) (hw : CWv own index y cc2 nL2 ret n) (hA : As X.1 = .ref b :: Bs) (hn : Bs.length = n) (hst : stk = Bs.reverse ++ .ref b :: st) (hR : fr2 + 1 ≤ fr ∧ 8 + (nL2 + 11) + lo2 ≤ lo) (hsum : (st.map fun v => v.category).sum ≤ 8) (d : decode cc pc = .ok (.invokevirtual index, 3))
    (hrec : Ck X own cc nL fr lo → ∀ (H : Heap) (locs : List Loc), va_P X.1.2.1 vwCl (wl X.1 M) H → va_S (Av X.1) X.s.heap H locs → ∃ cell : Cell, H[b]? = some cell ∧ cell.vm.isStatics = false ∧ X.s.vm.findClass y.cls = some cell.cls)
    (k : G X res own cc nL fr lo (pc + 3) L (r.toList ++ st) M1) : G X res own cc nL fr lo pc L stk M := fun C H locs ls hP hS hl => by
  have cb := callB_of (R := X.R) (s := X.s) (args := X.2.2.2.2.2.2.2.1) (own := own) (index := index) (y := y) (rm := rmOf fr2 lo2) (mc := 0) (ms := 0) n C.2.2.2.2.1 (tb_goodIn hw.2.2.2.2.1) rfl rfl rfl (C.2.2.2.2.1 _ hw.2.2.2.1) (C.2.2.2.2.1 _ hw.1) hw.2.2.2.2.2 ⟨Nat.le_trans hR.1 C.2.2.2.2.2.2.2.2.1, Nat.le_trans hR.2 C.2.2.2.2.2.2.2.2.2.1⟩
  have hM1 := hM X.1
  rw [hA] at hM1
  exact g_run (r := r) (M1 := M1) (fun st t v h => ⟨Outcome.returned.inj h.1, h.2.1, h.2.2⟩) (va_runV (C := y.cls) (As := Bs) (rest := st) ⟨C.1, C.2.1, C.2.2.1, C.2.2.2.1, C.2.2.2.2.1⟩ hM1 ⟨cb, C.2.2.2.2.1 _ hw.2.1, C.2.2.2.2.1 _ hw.2.2.1⟩ ⟨hol_blind, hrec C H locs hP hS, hol_at C hP hS⟩ rfl hn hl.1 hst (lv_room hsum) d ⟨Nat.zero_le _, Nat.zero_le _⟩) C hS hl k
theorem gr_recv {kk ci N : Nat} {C0 : String} {T : u_T} {fs : List Value} (hk : kk < nCell) (hc : cel X.1 kk (M.1 kk) (M.2 kk) = .inr (ci, fs)) (hcl : vwCl[ci]? = some (C0, T, N)) (C : Ck X own cc nL fr lo) {H : Heap} (hP : va_P X.1.2.1 vwCl (wl X.1 M) H) : ∃ cell : Cell, H[X.1.1 kk]? = some cell ∧ cell.vm.isStatics = false ∧ X.s.vm.findClass C0 = some cell.cls :=
  va_recv (q := (C0, T, N)) C.2.2.2.2.2.1 hP hcl (show (wl X.1 M)[kk]? = some (X.1.1 kk, .inr (ci, fs)) by rw [wl_get hk, hc])
end GC
section GE
variable {X : Cx} {own : String} {cc : ByteArray} {nL fr lo pc : Nat} {L : List (Option Value)} {M M1 : Mem}
theorem g_iret_t {v r : Int32} (hr : X.meth.sig.returnType = some .int) (hf : v = r) (d : decode cc pc = .ok (.ireturn, 1)) : G X (some (.int r), M) own cc nL fr lo pc L [.int v] M := by subst hf; exact g_iret hr d
theorem g_iret_p {v r : Int32} (hr : X.meth.sig.returnType = some .int) (hf : some v = some r) (d : decode cc pc = .ok (.ireturn, 1)) : G X (some (.int r), M) own cc nL fr lo pc L [.int v] M := by cases hf; exact g_iret hr d
theorem g_iret_w {v r : Int32} (hr : X.meth.sig.returnType = some .int) (hf : some (v, M) = some (r, M1)) (d : decode cc pc = .ok (.ireturn, 1)) : G X (some (.int r), M1) own cc nL fr lo pc L [.int v] M := by cases hf; exact g_iret hr d
theorem g_lret_t {v r : Int64} (hr : X.meth.sig.returnType = some .long) (hf : v = r) (d : decode cc pc = .ok (.lreturn, 1)) : G X (some (.long r), M) own cc nL fr lo pc L [.long v] M := by subst hf; exact g_lret hr d
theorem g_lret_p {v r : Int64} (hr : X.meth.sig.returnType = some .long) (hf : some v = some r) (d : decode cc pc = .ok (.lreturn, 1)) : G X (some (.long r), M) own cc nL fr lo pc L [.long v] M := by cases hf; exact g_lret hr d
theorem g_lret_w {v r : Int64} (hr : X.meth.sig.returnType = some .long) (hf : some (v, M) = some (r, M1)) (d : decode cc pc = .ok (.lreturn, 1)) : G X (some (.long r), M1) own cc nL fr lo pc L [.long v] M := by cases hf; exact g_lret hr d
theorem g_zret_t {v r : Int32} (hr : X.meth.sig.returnType = some .boolean) (hv : v = 0 ∨ v = 1) (hf : v = r) (d : decode cc pc = .ok (.ireturn, 1)) : G X (some (.int r), M) own cc nL fr lo pc L [.int v] M := by subst hf; exact g_zret hr hv d
theorem g_zret_p {v r : Int32} (hr : X.meth.sig.returnType = some .boolean) (hv : v = 0 ∨ v = 1) (hf : some v = some r) (d : decode cc pc = .ok (.ireturn, 1)) : G X (some (.int r), M) own cc nL fr lo pc L [.int v] M := by cases hf; exact g_zret hr hv d
theorem g_zret_w {v r : Int32} (hr : X.meth.sig.returnType = some .boolean) (hv : v = 0 ∨ v = 1) (hf : some (v, M) = some (r, M1)) (d : decode cc pc = .ok (.ireturn, 1)) : G X (some (.int r), M1) own cc nL fr lo pc L [.int v] M := by cases hf; exact g_zret hr hv d
theorem g_vret_w (hr : X.meth.sig.returnType = none) (hf : some M = some M1) (d : decode cc pc = .ok (.return_, 1)) : G X (none, M1) own cc nL fr lo pc L [] M := by cases hf; exact g_vret hr d
end GE
end
section
/-! what the tables say of fields, constants and calls; a call by its signature -/
theorem inX7 : ∀ w ∈ u_ws RX7 TX7 12, w ∈ TB := fun w hw => List.mem_filter.mpr ⟨(show ∀ w ∈ u_ws RX7 TX7 12, w ∈ lw_tbl by decide +kernel) w hw, (show ∀ w ∈ u_ws RX7 TX7 12, goodWord w = true by decide +kernel) w hw⟩
theorem fl_X7_237 : Cond.fieldLink RX7 237 (TX7 9).1 (TX7 9).2.1 (TX7 9).2.2.1 ∈ TB := tb_at 236 (by decide +kernel) (by decide +kernel)
theorem pI_0_9 (E : En) (f : Nat → Int32) (g : Nat → Int64) (x : Int32) : cel E 0 (upd f 9 x) g = .inr (5, [.ref (E.1 1), .ref (E.1 14), .ref (E.1 53), .ref (E.1 54), .ref (E.1 55), .ref (E.1 57), .ref (E.1 60), .ref (E.1 61), .ref (E.1 62), .int (f 9), .int (f 10), .int (f 11)].set 9 (.int x)) := rfl
theorem inX4 : ∀ w ∈ u_ws RX4 TX4 11, w ∈ TB := fun w hw => List.mem_filter.mpr ⟨(show ∀ w ∈ u_ws RX4 TX4 11, w ∈ lw_tbl by decide +kernel) w hw, (show ∀ w ∈ u_ws RX4 TX4 11, goodWord w = true by decide +kernel) w hw⟩
theorem fl_X4_31 : Cond.fieldLink RX4 31 (TX4 5).1 (TX4 5).2.1 (TX4 5).2.2.1 ∈ TB := tb_at 120 (by decide +kernel) (by decide +kernel)
theorem pI_7_4 (E : En) (f : Nat → Int32) (g : Nat → Int64) (x : Int32) : cel E 7 (upd f 4 x) g = .inr (1, [.ref (E.1 8), .ref (E.1 9), .ref (E.1 10), .ref (E.1 11), .int (f 4)].set 4 (.int x)) := rfl
theorem inX2 : ∀ w ∈ u_ws RX2 TX2 5, w ∈ TB := fun w hw => List.mem_filter.mpr ⟨(show ∀ w ∈ u_ws RX2 TX2 5, w ∈ lw_tbl by decide +kernel) w hw, (show ∀ w ∈ u_ws RX2 TX2 5, goodWord w = true by decide +kernel) w hw⟩
theorem fl_X4_43 : Cond.fieldLink RX4 43 (TX2 4).1 (TX2 4).2.1 (TX2 4).2.2.1 ∈ TB := tb_at 92 (by decide +kernel) (by decide +kernel)
theorem pI_1_6 (E : En) (f : Nat → Int32) (g : Nat → Int64) (x : Int32) : cel E 1 (upd f 6 x) g = .inr (3, [.ref (E.1 2), .ref (E.1 3), .ref (E.1 4), .ref (E.1 5), .ref (E.1 6), .ref (E.1 7), .int (f 6), .int (f 7), .int (f 8), .ref (E.1 12), .ref (E.1 13)].set 6 (.int x)) := rfl
theorem fl_X4_47 : Cond.fieldLink RX4 47 (TX4 6).1 (TX4 6).2.1 (TX4 6).2.2.1 ∈ TB := tb_at 123 (by decide +kernel) (by decide +kernel)
theorem pI_1_7 (E : En) (f : Nat → Int32) (g : Nat → Int64) (x : Int32) : cel E 1 (upd f 7 x) g = .inr (3, [.ref (E.1 2), .ref (E.1 3), .ref (E.1 4), .ref (E.1 5), .ref (E.1 6), .ref (E.1 7), .int (f 6), .int (f 7), .int (f 8), .ref (E.1 12), .ref (E.1 13)].set 7 (.int x)) := rfl
theorem fl_X4_50 : Cond.fieldLink RX4 50 (TX4 7).1 (TX4 7).2.1 (TX4 7).2.2.1 ∈ TB := tb_at 126 (by decide +kernel) (by decide +kernel)
theorem pI_1_8 (E : En) (f : Nat → Int32) (g : Nat → Int64) (x : Int32) : cel E 1 (upd f 8 x) g = .inr (3, [.ref (E.1 2), .ref (E.1 3), .ref (E.1 4), .ref (E.1 5), .ref (E.1 6), .ref (E.1 7), .int (f 6), .int (f 7), .int (f 8), .ref (E.1 12), .ref (E.1 13)].set 8 (.int x)) := rfl
theorem fl_X4_53 : Cond.fieldLink RX4 53 (TX4 8).1 (TX4 8).2.1 (TX4 8).2.2.1 ∈ TB := tb_at 128 (by decide +kernel) (by decide +kernel)
theorem fl_X4_24 : Cond.fieldLink RX4 24 (TX4 4).1 (TX4 4).2.1 (TX4 4).2.2.1 ∈ TB := tb_at 117 (by decide +kernel) (by decide +kernel)
theorem cs_X7_56 : CWs RX7 56 yX7_isBelow cX7_isBelow 2 (some .boolean) 2 := ⟨tb_at 268 (by decide +kernel) (by decide +kernel), tb_at 269 (by decide +kernel) (by decide +kernel), tb_at 48 (by decide +kernel) (by decide +kernel), tb_at 270 (by decide +kernel) (by decide +kernel), by decide +kernel, by decide +kernel, by decide +kernel⟩
theorem fl_X7_10 : Cond.fieldLink RX7 10 (TX7 0).1 (TX7 0).2.1 (TX7 0).2.2.1 ∈ TB := tb_at 227 (by decide +kernel) (by decide +kernel)
theorem fl_X7_64 : Cond.fieldLink RX7 64 (TX4 6).1 (TX4 6).2.1 (TX4 6).2.2.1 ∈ TB := tb_at 122 (by decide +kernel) (by decide +kernel)
theorem cv_X7_68 : CWv RX7 68 yX4_restart cX4_restart 3 none 1 := ⟨tb_at 275 (by decide +kernel) (by decide +kernel), tb_at 276 (by decide +kernel) (by decide +kernel), tb_at 277 (by decide +kernel) (by decide +kernel), tb_at 49 (by decide +kernel) (by decide +kernel), tb_at 278 (by decide +kernel) (by decide +kernel), by decide +kernel, by decide +kernel, by decide +kernel⟩
theorem cv_X7_60 : CWv RX7 60 yX7_refuseBad cX7_refuseBad 2 (some .int) 1 := ⟨tb_at 271 (by decide +kernel) (by decide +kernel), tb_at 273 (by decide +kernel) (by decide +kernel), tb_at 0 (by decide +kernel) (by decide +kernel), tb_at 48 (by decide +kernel) (by decide +kernel), tb_at 274 (by decide +kernel) (by decide +kernel), by decide +kernel, by decide +kernel, by decide +kernel⟩
theorem fl_X7_243 : Cond.fieldLink RX7 243 (TX7 11).1 (TX7 11).2.1 (TX7 11).2.2.1 ∈ TB := tb_at 238 (by decide +kernel) (by decide +kernel)
theorem pI_0_11 (E : En) (f : Nat → Int32) (g : Nat → Int64) (x : Int32) : cel E 0 (upd f 11 x) g = .inr (5, [.ref (E.1 1), .ref (E.1 14), .ref (E.1 53), .ref (E.1 54), .ref (E.1 55), .ref (E.1 57), .ref (E.1 60), .ref (E.1 61), .ref (E.1 62), .int (f 9), .int (f 10), .int (f 11)].set 11 (.int x)) := rfl
theorem fl_X4_9 : Cond.fieldLink RX4 9 (TX4 0).1 (TX4 0).2.1 (TX4 0).2.2.1 ∈ TB := tb_at 107 (by decide +kernel) (by decide +kernel)
theorem fl_X4_15 : Cond.fieldLink RX4 15 (TX4 1).1 (TX4 1).2.1 (TX4 1).2.2.1 ∈ TB := tb_at 110 (by decide +kernel) (by decide +kernel)
theorem fl_X4_18 : Cond.fieldLink RX4 18 (TX4 2).1 (TX4 2).2.1 (TX4 2).2.2.1 ∈ TB := tb_at 113 (by decide +kernel) (by decide +kernel)
theorem fl_X4_21 : Cond.fieldLink RX4 21 (TX4 3).1 (TX4 3).2.1 (TX4 3).2.2.1 ∈ TB := tb_at 115 (by decide +kernel) (by decide +kernel)
theorem cs_X7_72 : CWs RX7 72 yX7_isRule cX7_isRule 2 (some .boolean) 2 := ⟨tb_at 283 (by decide +kernel) (by decide +kernel), tb_at 284 (by decide +kernel) (by decide +kernel), tb_at 48 (by decide +kernel) (by decide +kernel), tb_at 285 (by decide +kernel) (by decide +kernel), by decide +kernel, by decide +kernel, by decide +kernel⟩
theorem cv_X7_79 : CWv RX7 79 yX4_build cX4_build 6 (some .int) 4 := ⟨tb_at 290 (by decide +kernel) (by decide +kernel), tb_at 291 (by decide +kernel) (by decide +kernel), tb_at 292 (by decide +kernel) (by decide +kernel), tb_at 49 (by decide +kernel) (by decide +kernel), tb_at 293 (by decide +kernel) (by decide +kernel), by decide +kernel, by decide +kernel, by decide +kernel⟩
theorem cv_X7_75 : CWv RX7 75 yX7_refuseFull cX7_refuseFull 1 (some .int) 0 := ⟨tb_at 286 (by decide +kernel) (by decide +kernel), tb_at 288 (by decide +kernel) (by decide +kernel), tb_at 1 (by decide +kernel) (by decide +kernel), tb_at 48 (by decide +kernel) (by decide +kernel), tb_at 289 (by decide +kernel) (by decide +kernel), by decide +kernel, by decide +kernel, by decide +kernel⟩
theorem fl_X4_35 : Cond.fieldLink RX4 35 (TX4 9).1 (TX4 9).2.1 (TX4 9).2.2.1 ∈ TB := tb_at 130 (by decide +kernel) (by decide +kernel)
theorem fl_X4_38 : Cond.fieldLink RX4 38 (TX4 10).1 (TX4 10).2.1 (TX4 10).2.2.1 ∈ TB := tb_at 131 (by decide +kernel) (by decide +kernel)
theorem ac_X4_56 : Cond.methodLink RX4 56 arraycopyName ∈ TB := tb_at 310 (by decide +kernel) (by decide +kernel)
theorem ac_nat : Cond.native arraycopyName ∈ TB := tb_at 312 (by decide +kernel) (by decide +kernel)
theorem ac_st : Cond.static arraycopyName ∈ TB := tb_at 311 (by decide +kernel) (by decide +kernel)
theorem ac_in : Cond.initialized "java/lang/System" ∈ TB := tb_at 55 (by decide +kernel) (by decide +kernel)
theorem cv_X4_66 : CWv RX4 66 yX4_remember cX4_remember 3 none 2 := ⟨tb_at 306 (by decide +kernel) (by decide +kernel), tb_at 308 (by decide +kernel) (by decide +kernel), tb_at 3 (by decide +kernel) (by decide +kernel), tb_at 49 (by decide +kernel) (by decide +kernel), tb_at 309 (by decide +kernel) (by decide +kernel), by decide +kernel, by decide +kernel, by decide +kernel⟩
theorem cv_X7_83 : CWv RX7 83 yX7_isBridge cX7_isBridge 2 (some .boolean) 1 := ⟨tb_at 298 (by decide +kernel) (by decide +kernel), tb_at 300 (by decide +kernel) (by decide +kernel), tb_at 2 (by decide +kernel) (by decide +kernel), tb_at 48 (by decide +kernel) (by decide +kernel), tb_at 301 (by decide +kernel) (by decide +kernel), by decide +kernel, by decide +kernel, by decide +kernel⟩
theorem cv_X7_87 : CWv RX7 87 yX4_retell cX4_retell 5 (some .int) 3 := ⟨tb_at 302 (by decide +kernel) (by decide +kernel), tb_at 303 (by decide +kernel) (by decide +kernel), tb_at 304 (by decide +kernel) (by decide +kernel), tb_at 49 (by decide +kernel) (by decide +kernel), tb_at 305 (by decide +kernel) (by decide +kernel), by decide +kernel, by decide +kernel, by decide +kernel⟩
theorem cv_X7_91 : CWv RX7 91 yX4_letPass cX4_letPass 2 none 1 := ⟨tb_at 317 (by decide +kernel) (by decide +kernel), tb_at 318 (by decide +kernel) (by decide +kernel), tb_at 319 (by decide +kernel) (by decide +kernel), tb_at 49 (by decide +kernel) (by decide +kernel), tb_at 320 (by decide +kernel) (by decide +kernel), by decide +kernel, by decide +kernel, by decide +kernel⟩
theorem fl_X7_94 : Cond.fieldLink RX7 94 (TX4 7).1 (TX4 7).2.1 (TX4 7).2.2.1 ∈ TB := tb_at 127 (by decide +kernel) (by decide +kernel)
theorem fl_X7_240 : Cond.fieldLink RX7 240 (TX7 10).1 (TX7 10).2.1 (TX7 10).2.2.1 ∈ TB := tb_at 237 (by decide +kernel) (by decide +kernel)
theorem pI_0_10 (E : En) (f : Nat → Int32) (g : Nat → Int64) (x : Int32) : cel E 0 (upd f 10 x) g = .inr (5, [.ref (E.1 1), .ref (E.1 14), .ref (E.1 53), .ref (E.1 54), .ref (E.1 55), .ref (E.1 57), .ref (E.1 60), .ref (E.1 61), .ref (E.1 62), .int (f 9), .int (f 10), .int (f 11)].set 10 (.int x)) := rfl
theorem fl_X7_97 : Cond.fieldLink RX7 97 (TX4 8).1 (TX4 8).2.1 (TX4 8).2.2.1 ∈ TB := tb_at 129 (by decide +kernel) (by decide +kernel)
theorem cv_X7_103 : CWv RX7 103 yX4_takeBack cX4_takeBack 3 none 0 := ⟨tb_at 329 (by decide +kernel) (by decide +kernel), tb_at 330 (by decide +kernel) (by decide +kernel), tb_at 331 (by decide +kernel) (by decide +kernel), tb_at 49 (by decide +kernel) (by decide +kernel), tb_at 332 (by decide +kernel) (by decide +kernel), by decide +kernel, by decide +kernel, by decide +kernel⟩
theorem cv_X7_100 : CWv RX7 100 yX7_refuseNo cX7_refuseNo 1 (some .int) 0 := ⟨tb_at 325 (by decide +kernel) (by decide +kernel), tb_at 327 (by decide +kernel) (by decide +kernel), tb_at 4 (by decide +kernel) (by decide +kernel), tb_at 48 (by decide +kernel) (by decide +kernel), tb_at 328 (by decide +kernel) (by decide +kernel), by decide +kernel, by decide +kernel, by decide +kernel⟩
theorem cl_X1_11 : Cond.constantLong RX1 11 (15) ∈ TB := tb_at 343 (by decide +kernel) (by decide +kernel)
theorem cs_X7_106 : CWs RX7 106 yX7_isRow cX7_isRow 1 (some .boolean) 1 := ⟨tb_at 337 (by decide +kernel) (by decide +kernel), tb_at 338 (by decide +kernel) (by decide +kernel), tb_at 48 (by decide +kernel) (by decide +kernel), tb_at 339 (by decide +kernel) (by decide +kernel), by decide +kernel, by decide +kernel, by decide +kernel⟩
theorem fl_X7_109 : Cond.fieldLink RX7 109 (TX4 4).1 (TX4 4).2.1 (TX4 4).2.2.1 ∈ TB := tb_at 118 (by decide +kernel) (by decide +kernel)
theorem cs_X7_112 : CWs RX7 112 yX1_length cX1_length 2 (some .int) 1 := ⟨tb_at 340 (by decide +kernel) (by decide +kernel), tb_at 341 (by decide +kernel) (by decide +kernel), tb_at 56 (by decide +kernel) (by decide +kernel), tb_at 342 (by decide +kernel) (by decide +kernel), by decide +kernel, by decide +kernel, by decide +kernel⟩
theorem cs_X7_118 : CWs RX7 118 yX1_longer cX1_longer 4 (some .long) 2 := ⟨tb_at 344 (by decide +kernel) (by decide +kernel), tb_at 345 (by decide +kernel) (by decide +kernel), tb_at 56 (by decide +kernel) (by decide +kernel), tb_at 346 (by decide +kernel) (by decide +kernel), by decide +kernel, by decide +kernel, by decide +kernel⟩
theorem inX3 : ∀ w ∈ u_ws RX3 TX3 6, w ∈ TB := fun w hw => List.mem_filter.mpr ⟨(show ∀ w ∈ u_ws RX3 TX3 6, w ∈ lw_tbl by decide +kernel) w hw, (show ∀ w ∈ u_ws RX3 TX3 6, goodWord w = true by decide +kernel) w hw⟩
theorem fl_X3_15 : Cond.fieldLink RX3 15 (TX3 0).1 (TX3 0).2.1 (TX3 0).2.2.1 ∈ TB := tb_at 162 (by decide +kernel) (by decide +kernel)
theorem fl_X3_9 : Cond.fieldLink RX3 9 (TX3 1).1 (TX3 1).2.1 (TX3 1).2.2.1 ∈ TB := tb_at 164 (by decide +kernel) (by decide +kernel)
theorem pI_55_0 (E : En) (f : Nat → Int32) (g : Nat → Int64) (x : Int32) : cel E 55 (upd f 0 x) g = .inr (2, [.int (f 0), .ref (E.1 56), .int (f 2), .int (f 3), .int (f 4), .int (f 5)].set 0 (.int x)) := rfl
theorem fl_X7_30 : Cond.fieldLink RX7 30 (TX7 4).1 (TX7 4).2.1 (TX7 4).2.2.1 ∈ TB := tb_at 231 (by decide +kernel) (by decide +kernel)
theorem fl_X7_122 : Cond.fieldLink RX7 122 (TX3 0).1 (TX3 0).2.1 (TX3 0).2.2.1 ∈ TB := tb_at 163 (by decide +kernel) (by decide +kernel)
theorem cv_X7_124 : CWv RX7 124 yX3_put cX3_put 2 none 1 := ⟨tb_at 355 (by decide +kernel) (by decide +kernel), tb_at 356 (by decide +kernel) (by decide +kernel), tb_at 357 (by decide +kernel) (by decide +kernel), tb_at 51 (by decide +kernel) (by decide +kernel), tb_at 358 (by decide +kernel) (by decide +kernel), by decide +kernel, by decide +kernel, by decide +kernel⟩
theorem fl_X3_19 : Cond.fieldLink RX3 19 (TX3 4).1 (TX3 4).2.1 (TX3 4).2.2.1 ∈ TB := tb_at 167 (by decide +kernel) (by decide +kernel)
theorem fl_X3_38 : Cond.fieldLink RX3 38 (TX3 3).1 (TX3 3).2.1 (TX3 3).2.2.1 ∈ TB := tb_at 166 (by decide +kernel) (by decide +kernel)
theorem cv_X3_90 : CWv RX3 90 yX3_isWord cX3_isWord 3 (some .boolean) 1 := ⟨tb_at 384 (by decide +kernel) (by decide +kernel), tb_at 386 (by decide +kernel) (by decide +kernel), tb_at 8 (by decide +kernel) (by decide +kernel), tb_at 51 (by decide +kernel) (by decide +kernel), tb_at 387 (by decide +kernel) (by decide +kernel), by decide +kernel, by decide +kernel, by decide +kernel⟩
theorem pI_55_2 (E : En) (f : Nat → Int32) (g : Nat → Int64) (x : Int32) : cel E 55 (upd f 2 x) g = .inr (2, [.int (f 0), .ref (E.1 56), .int (f 2), .int (f 3), .int (f 4), .int (f 5)].set 2 (.int x)) := rfl
theorem fl_X3_29 : Cond.fieldLink RX3 29 (TX3 2).1 (TX3 2).2.1 (TX3 2).2.2.1 ∈ TB := tb_at 165 (by decide +kernel) (by decide +kernel)
theorem cv_X3_75 : CWv RX3 75 yX3_isLetter cX3_isLetter 2 (some .boolean) 1 := ⟨tb_at 375 (by decide +kernel) (by decide +kernel), tb_at 377 (by decide +kernel) (by decide +kernel), tb_at 6 (by decide +kernel) (by decide +kernel), tb_at 51 (by decide +kernel) (by decide +kernel), tb_at 378 (by decide +kernel) (by decide +kernel), by decide +kernel, by decide +kernel, by decide +kernel⟩
theorem pI_55_4 (E : En) (f : Nat → Int32) (g : Nat → Int64) (x : Int32) : cel E 55 (upd f 4 x) g = .inr (2, [.int (f 0), .ref (E.1 56), .int (f 2), .int (f 3), .int (f 4), .int (f 5)].set 4 (.int x)) := rfl
theorem pI_55_5 (E : En) (f : Nat → Int32) (g : Nat → Int64) (x : Int32) : cel E 55 (upd f 5 x) g = .inr (2, [.int (f 0), .ref (E.1 56), .int (f 2), .int (f 3), .int (f 4), .int (f 5)].set 5 (.int x)) := rfl
theorem fl_X3_72 : Cond.fieldLink RX3 72 (TX3 5).1 (TX3 5).2.1 (TX3 5).2.2.1 ∈ TB := tb_at 168 (by decide +kernel) (by decide +kernel)
theorem cv_X3_82 : CWv RX3 82 yX3_isFigure cX3_isFigure 2 (some .boolean) 1 := ⟨tb_at 438 (by decide +kernel) (by decide +kernel), tb_at 440 (by decide +kernel) (by decide +kernel), tb_at 9 (by decide +kernel) (by decide +kernel), tb_at 51 (by decide +kernel) (by decide +kernel), tb_at 441 (by decide +kernel) (by decide +kernel), by decide +kernel, by decide +kernel, by decide +kernel⟩
theorem pI_55_3 (E : En) (f : Nat → Int32) (g : Nat → Int64) (x : Int32) : cel E 55 (upd f 3 x) g = .inr (2, [.int (f 0), .ref (E.1 56), .int (f 2), .int (f 3), .int (f 4), .int (f 5)].set 3 (.int x)) := rfl
theorem cv_X3_85 : CWv RX3 85 yX3_stepNumber cX3_stepNumber 1 none 0 := ⟨tb_at 442 (by decide +kernel) (by decide +kernel), tb_at 444 (by decide +kernel) (by decide +kernel), tb_at 10 (by decide +kernel) (by decide +kernel), tb_at 51 (by decide +kernel) (by decide +kernel), tb_at 445 (by decide +kernel) (by decide +kernel), by decide +kernel, by decide +kernel, by decide +kernel⟩
theorem cv_X3_79 : CWv RX3 79 yX3_stepWord cX3_stepWord 1 none 0 := ⟨tb_at 379 (by decide +kernel) (by decide +kernel), tb_at 381 (by decide +kernel) (by decide +kernel), tb_at 7 (by decide +kernel) (by decide +kernel), tb_at 51 (by decide +kernel) (by decide +kernel), tb_at 382 (by decide +kernel) (by decide +kernel), by decide +kernel, by decide +kernel, by decide +kernel⟩
theorem cv_X3_22 : CWv RX3 22 yX3_step cX3_step 1 none 0 := ⟨tb_at 371 (by decide +kernel) (by decide +kernel), tb_at 373 (by decide +kernel) (by decide +kernel), tb_at 5 (by decide +kernel) (by decide +kernel), tb_at 51 (by decide +kernel) (by decide +kernel), tb_at 374 (by decide +kernel) (by decide +kernel), by decide +kernel, by decide +kernel, by decide +kernel⟩
theorem pI_20_4 (E : En) (f : Nat → Int32) (g : Nat → Int64) (x : Int32) : cel E 20 (upd f 4 x) g = .inr (1, [.ref (E.1 21), .ref (E.1 22), .ref (E.1 23), .ref (E.1 24), .int (f 4)].set 4 (.int x)) := rfl
theorem pI_14_6 (E : En) (f : Nat → Int32) (g : Nat → Int64) (x : Int32) : cel E 14 (upd f 6 x) g = .inr (3, [.ref (E.1 15), .ref (E.1 16), .ref (E.1 17), .ref (E.1 18), .ref (E.1 19), .ref (E.1 20), .int (f 6), .int (f 7), .int (f 8), .ref (E.1 25), .ref (E.1 26)].set 6 (.int x)) := rfl
theorem pI_14_7 (E : En) (f : Nat → Int32) (g : Nat → Int64) (x : Int32) : cel E 14 (upd f 7 x) g = .inr (3, [.ref (E.1 15), .ref (E.1 16), .ref (E.1 17), .ref (E.1 18), .ref (E.1 19), .ref (E.1 20), .int (f 6), .int (f 7), .int (f 8), .ref (E.1 25), .ref (E.1 26)].set 7 (.int x)) := rfl
theorem pI_14_8 (E : En) (f : Nat → Int32) (g : Nat → Int64) (x : Int32) : cel E 14 (upd f 8 x) g = .inr (3, [.ref (E.1 15), .ref (E.1 16), .ref (E.1 17), .ref (E.1 18), .ref (E.1 19), .ref (E.1 20), .int (f 6), .int (f 7), .int (f 8), .ref (E.1 25), .ref (E.1 26)].set 8 (.int x)) := rfl
theorem cv_X3_41 : CWv RX3 41 yX3_takeNumber cX3_takeNumber 4 (some .int) 2 := ⟨tb_at 450 (by decide +kernel) (by decide +kernel), tb_at 452 (by decide +kernel) (by decide +kernel), tb_at 12 (by decide +kernel) (by decide +kernel), tb_at 51 (by decide +kernel) (by decide +kernel), tb_at 453 (by decide +kernel) (by decide +kernel), by decide +kernel, by decide +kernel, by decide +kernel⟩
theorem cv_X3_45 : CWv RX3 45 yX4_restart cX4_restart 3 none 1 := ⟨tb_at 454 (by decide +kernel) (by decide +kernel), tb_at 276 (by decide +kernel) (by decide +kernel), tb_at 277 (by decide +kernel) (by decide +kernel), tb_at 49 (by decide +kernel) (by decide +kernel), tb_at 278 (by decide +kernel) (by decide +kernel), by decide +kernel, by decide +kernel, by decide +kernel⟩
theorem cv_X3_51 : CWv RX3 51 yX3_takeStop cX3_takeStop 1 (some .boolean) 0 := ⟨tb_at 455 (by decide +kernel) (by decide +kernel), tb_at 457 (by decide +kernel) (by decide +kernel), tb_at 13 (by decide +kernel) (by decide +kernel), tb_at 51 (by decide +kernel) (by decide +kernel), tb_at 458 (by decide +kernel) (by decide +kernel), by decide +kernel, by decide +kernel, by decide +kernel⟩
theorem fl_X3_55 : Cond.fieldLink RX3 55 (TX4 6).1 (TX4 6).2.1 (TX4 6).2.2.1 ∈ TB := tb_at 125 (by decide +kernel) (by decide +kernel)
theorem cv_X3_58 : CWv RX3 58 yX4_build cX4_build 6 (some .int) 4 := ⟨tb_at 463 (by decide +kernel) (by decide +kernel), tb_at 291 (by decide +kernel) (by decide +kernel), tb_at 292 (by decide +kernel) (by decide +kernel), tb_at 49 (by decide +kernel) (by decide +kernel), tb_at 293 (by decide +kernel) (by decide +kernel), by decide +kernel, by decide +kernel, by decide +kernel⟩
theorem fl_X3_68 : Cond.fieldLink RX3 68 (TX4 4).1 (TX4 4).2.1 (TX4 4).2.2.1 ∈ TB := tb_at 119 (by decide +kernel) (by decide +kernel)
theorem cs_X3_64 : CWs RX3 64 yX1_longer cX1_longer 4 (some .long) 2 := ⟨tb_at 468 (by decide +kernel) (by decide +kernel), tb_at 345 (by decide +kernel) (by decide +kernel), tb_at 56 (by decide +kernel) (by decide +kernel), tb_at 346 (by decide +kernel) (by decide +kernel), by decide +kernel, by decide +kernel, by decide +kernel⟩
theorem cv_X3_25 : CWv RX3 25 yX3_readRiver cX3_readRiver 3 (some .boolean) 1 := ⟨tb_at 446 (by decide +kernel) (by decide +kernel), tb_at 448 (by decide +kernel) (by decide +kernel), tb_at 11 (by decide +kernel) (by decide +kernel), tb_at 51 (by decide +kernel) (by decide +kernel), tb_at 449 (by decide +kernel) (by decide +kernel), by decide +kernel, by decide +kernel, by decide +kernel⟩
theorem cv_X3_35 : CWv RX3 35 yX3_readRow cX3_readRow 7 (some .boolean) 1 := ⟨tb_at 464 (by decide +kernel) (by decide +kernel), tb_at 466 (by decide +kernel) (by decide +kernel), tb_at 15 (by decide +kernel) (by decide +kernel), tb_at 51 (by decide +kernel) (by decide +kernel), tb_at 467 (by decide +kernel) (by decide +kernel), by decide +kernel, by decide +kernel, by decide +kernel⟩
theorem cv_X3_32 : CWv RX3 32 yX3_readBridge cX3_readBridge 6 (some .boolean) 1 := ⟨tb_at 459 (by decide +kernel) (by decide +kernel), tb_at 461 (by decide +kernel) (by decide +kernel), tb_at 14 (by decide +kernel) (by decide +kernel), tb_at 51 (by decide +kernel) (by decide +kernel), tb_at 462 (by decide +kernel) (by decide +kernel), by decide +kernel, by decide +kernel, by decide +kernel⟩
theorem fl_X2_9 : Cond.fieldLink RX2 9 (TX2 0).1 (TX2 0).2.1 (TX2 0).2.2.1 ∈ TB := tb_at 83 (by decide +kernel) (by decide +kernel)
theorem ac_X2_29 : Cond.methodLink RX2 29 arraycopyName ∈ TB := tb_at 481 (by decide +kernel) (by decide +kernel)
theorem fl_X2_15 : Cond.fieldLink RX2 15 (TX2 1).1 (TX2 1).2.1 (TX2 1).2.2.1 ∈ TB := tb_at 85 (by decide +kernel) (by decide +kernel)
theorem fl_X2_18 : Cond.fieldLink RX2 18 (TX2 2).1 (TX2 2).2.1 (TX2 2).2.2.1 ∈ TB := tb_at 87 (by decide +kernel) (by decide +kernel)
theorem fl_X2_22 : Cond.fieldLink RX2 22 (TX2 3).1 (TX2 3).2.1 (TX2 3).2.2.1 ∈ TB := tb_at 89 (by decide +kernel) (by decide +kernel)
theorem fl_X2_25 : Cond.fieldLink RX2 25 (TX2 4).1 (TX2 4).2.1 (TX2 4).2.2.1 ∈ TB := tb_at 91 (by decide +kernel) (by decide +kernel)
theorem cv_X4_62 : CWv RX4 62 yX2_copyOf cX2_copyOf 2 none 1 := ⟨tb_at 477 (by decide +kernel) (by decide +kernel), tb_at 478 (by decide +kernel) (by decide +kernel), tb_at 479 (by decide +kernel) (by decide +kernel), tb_at 50 (by decide +kernel) (by decide +kernel), tb_at 480 (by decide +kernel) (by decide +kernel), by decide +kernel, by decide +kernel, by decide +kernel⟩
theorem fl_X7_16 : Cond.fieldLink RX7 16 (TX7 1).1 (TX7 1).2.1 (TX7 1).2.2.1 ∈ TB := tb_at 228 (by decide +kernel) (by decide +kernel)
theorem cv_X7_127 : CWv RX7 127 yX3_readInto cX3_readInto 5 (some .int) 1 := ⟨tb_at 367 (by decide +kernel) (by decide +kernel), tb_at 368 (by decide +kernel) (by decide +kernel), tb_at 369 (by decide +kernel) (by decide +kernel), tb_at 51 (by decide +kernel) (by decide +kernel), tb_at 370 (by decide +kernel) (by decide +kernel), by decide +kernel, by decide +kernel, by decide +kernel⟩
theorem cv_X7_134 : CWv RX7 134 yX4_copyOf cX4_copyOf 2 none 1 := ⟨tb_at 473 (by decide +kernel) (by decide +kernel), tb_at 474 (by decide +kernel) (by decide +kernel), tb_at 475 (by decide +kernel) (by decide +kernel), tb_at 49 (by decide +kernel) (by decide +kernel), tb_at 476 (by decide +kernel) (by decide +kernel), by decide +kernel, by decide +kernel, by decide +kernel⟩
theorem cv_X7_131 : CWv RX7 131 yX3_faultPlace cX3_faultPlace 1 (some .int) 0 := ⟨tb_at 469 (by decide +kernel) (by decide +kernel), tb_at 470 (by decide +kernel) (by decide +kernel), tb_at 471 (by decide +kernel) (by decide +kernel), tb_at 51 (by decide +kernel) (by decide +kernel), tb_at 472 (by decide +kernel) (by decide +kernel), by decide +kernel, by decide +kernel, by decide +kernel⟩
theorem fl_X7_138 : Cond.fieldLink RX7 138 (TX4 0).1 (TX4 0).2.1 (TX4 0).2.2.1 ∈ TB := tb_at 109 (by decide +kernel) (by decide +kernel)
theorem fl_X7_141 : Cond.fieldLink RX7 141 (TX4 1).1 (TX4 1).2.1 (TX4 1).2.2.1 ∈ TB := tb_at 112 (by decide +kernel) (by decide +kernel)
theorem fl_X7_144 : Cond.fieldLink RX7 144 (TX4 2).1 (TX4 2).2.1 (TX4 2).2.2.1 ∈ TB := tb_at 114 (by decide +kernel) (by decide +kernel)
theorem fl_X7_147 : Cond.fieldLink RX7 147 (TX4 3).1 (TX4 3).2.1 (TX4 3).2.2.1 ∈ TB := tb_at 116 (by decide +kernel) (by decide +kernel)
theorem cs_X7_270 : CWs RX7 270 yX1_syllable cX1_syllable 3 (some .int) 2 := ⟨tb_at 494 (by decide +kernel) (by decide +kernel), tb_at 495 (by decide +kernel) (by decide +kernel), tb_at 56 (by decide +kernel) (by decide +kernel), tb_at 496 (by decide +kernel) (by decide +kernel), by decide +kernel, by decide +kernel, by decide +kernel⟩
theorem cs_X7_150 : CWs RX7 150 yX7_lengthOrSyllable cX7_lengthOrSyllable 3 (some .int) 2 := ⟨tb_at 491 (by decide +kernel) (by decide +kernel), tb_at 492 (by decide +kernel) (by decide +kernel), tb_at 48 (by decide +kernel) (by decide +kernel), tb_at 493 (by decide +kernel) (by decide +kernel), by decide +kernel, by decide +kernel, by decide +kernel⟩
theorem cl_X1_13 : Cond.constantLong RX1 13 (-16) ∈ TB := tb_at 517 (by decide +kernel) (by decide +kernel)
theorem cs_X5_29 : CWs RX5 29 yX5_plain cX5_plain 2 (some .long) 1 := ⟨tb_at 511 (by decide +kernel) (by decide +kernel), tb_at 512 (by decide +kernel) (by decide +kernel), tb_at 61 (by decide +kernel) (by decide +kernel), tb_at 513 (by decide +kernel) (by decide +kernel), by decide +kernel, by decide +kernel, by decide +kernel⟩
theorem cs_X5_44 : CWs RX5 44 yX1_length cX1_length 2 (some .int) 1 := ⟨tb_at 522 (by decide +kernel) (by decide +kernel), tb_at 341 (by decide +kernel) (by decide +kernel), tb_at 56 (by decide +kernel) (by decide +kernel), tb_at 342 (by decide +kernel) (by decide +kernel), by decide +kernel, by decide +kernel, by decide +kernel⟩
theorem cs_X5_38 : CWs RX5 38 yX1_cut cX1_cut 5 (some .long) 2 := ⟨tb_at 514 (by decide +kernel) (by decide +kernel), tb_at 515 (by decide +kernel) (by decide +kernel), tb_at 56 (by decide +kernel) (by decide +kernel), tb_at 516 (by decide +kernel) (by decide +kernel), by decide +kernel, by decide +kernel, by decide +kernel⟩
theorem cs_X1_19 : CWs RX1 19 yX1_length cX1_length 2 (some .int) 1 := ⟨tb_at 529 (by decide +kernel) (by decide +kernel), tb_at 341 (by decide +kernel) (by decide +kernel), tb_at 56 (by decide +kernel) (by decide +kernel), tb_at 342 (by decide +kernel) (by decide +kernel), by decide +kernel, by decide +kernel, by decide +kernel⟩
theorem cs_X1_23 : CWs RX1 23 yX1_syllable cX1_syllable 3 (some .int) 2 := ⟨tb_at 530 (by decide +kernel) (by decide +kernel), tb_at 495 (by decide +kernel) (by decide +kernel), tb_at 56 (by decide +kernel) (by decide +kernel), tb_at 496 (by decide +kernel) (by decide +kernel), by decide +kernel, by decide +kernel, by decide +kernel⟩
theorem cs_X1_27 : CWs RX1 27 yX1_longer cX1_longer 4 (some .long) 2 := ⟨tb_at 531 (by decide +kernel) (by decide +kernel), tb_at 345 (by decide +kernel) (by decide +kernel), tb_at 56 (by decide +kernel) (by decide +kernel), tb_at 346 (by decide +kernel) (by decide +kernel), by decide +kernel, by decide +kernel, by decide +kernel⟩
theorem cs_X5_58 : CWs RX5 58 yX1_raised cX1_raised 7 (some .long) 2 := ⟨tb_at 543 (by decide +kernel) (by decide +kernel), tb_at 544 (by decide +kernel) (by decide +kernel), tb_at 56 (by decide +kernel) (by decide +kernel), tb_at 545 (by decide +kernel) (by decide +kernel), by decide +kernel, by decide +kernel, by decide +kernel⟩
theorem cs_X5_15 : CWs RX5 15 yX5_drop cX5_drop 5 (some .long) 2 := ⟨tb_at 519 (by decide +kernel) (by decide +kernel), tb_at 520 (by decide +kernel) (by decide +kernel), tb_at 61 (by decide +kernel) (by decide +kernel), tb_at 521 (by decide +kernel) (by decide +kernel), by decide +kernel, by decide +kernel, by decide +kernel⟩
theorem cs_X5_41 : CWs RX5 41 yX1_longer cX1_longer 4 (some .long) 2 := ⟨tb_at 518 (by decide +kernel) (by decide +kernel), tb_at 345 (by decide +kernel) (by decide +kernel), tb_at 56 (by decide +kernel) (by decide +kernel), tb_at 346 (by decide +kernel) (by decide +kernel), by decide +kernel, by decide +kernel, by decide +kernel⟩
theorem cs_X1_15 : CWs RX1 15 yX1_cut cX1_cut 5 (some .long) 2 := ⟨tb_at 539 (by decide +kernel) (by decide +kernel), tb_at 515 (by decide +kernel) (by decide +kernel), tb_at 56 (by decide +kernel) (by decide +kernel), tb_at 516 (by decide +kernel) (by decide +kernel), by decide +kernel, by decide +kernel, by decide +kernel⟩
theorem cs_X5_9 : CWs RX5 9 yX5_sweet cX5_sweet 3 (some .long) 2 := ⟨tb_at 508 (by decide +kernel) (by decide +kernel), tb_at 509 (by decide +kernel) (by decide +kernel), tb_at 61 (by decide +kernel) (by decide +kernel), tb_at 510 (by decide +kernel) (by decide +kernel), by decide +kernel, by decide +kernel, by decide +kernel⟩
theorem cs_X5_51 : CWs RX5 51 yX1_syllable cX1_syllable 3 (some .int) 2 := ⟨tb_at 535 (by decide +kernel) (by decide +kernel), tb_at 495 (by decide +kernel) (by decide +kernel), tb_at 56 (by decide +kernel) (by decide +kernel), tb_at 496 (by decide +kernel) (by decide +kernel), by decide +kernel, by decide +kernel, by decide +kernel⟩
theorem cs_X5_55 : CWs RX5 55 yX1_led cX1_led 7 (some .long) 2 := ⟨tb_at 536 (by decide +kernel) (by decide +kernel), tb_at 537 (by decide +kernel) (by decide +kernel), tb_at 56 (by decide +kernel) (by decide +kernel), tb_at 538 (by decide +kernel) (by decide +kernel), by decide +kernel, by decide +kernel, by decide +kernel⟩
theorem cs_X5_48 : CWs RX5 48 yX1_turned cX1_turned 5 (some .long) 1 := ⟨tb_at 526 (by decide +kernel) (by decide +kernel), tb_at 527 (by decide +kernel) (by decide +kernel), tb_at 56 (by decide +kernel) (by decide +kernel), tb_at 528 (by decide +kernel) (by decide +kernel), by decide +kernel, by decide +kernel, by decide +kernel⟩
theorem cs_X5_18 : CWs RX5 18 yX5_turn cX5_turn 2 (some .long) 1 := ⟨tb_at 523 (by decide +kernel) (by decide +kernel), tb_at 524 (by decide +kernel) (by decide +kernel), tb_at 61 (by decide +kernel) (by decide +kernel), tb_at 525 (by decide +kernel) (by decide +kernel), by decide +kernel, by decide +kernel, by decide +kernel⟩
theorem cs_X5_22 : CWs RX5 22 yX5_twice cX5_twice 5 (some .long) 2 := ⟨tb_at 532 (by decide +kernel) (by decide +kernel), tb_at 533 (by decide +kernel) (by decide +kernel), tb_at 61 (by decide +kernel) (by decide +kernel), tb_at 534 (by decide +kernel) (by decide +kernel), by decide +kernel, by decide +kernel, by decide +kernel⟩
theorem cs_X5_25 : CWs RX5 25 yX5_feast cX5_feast 5 (some .long) 3 := ⟨tb_at 540 (by decide +kernel) (by decide +kernel), tb_at 541 (by decide +kernel) (by decide +kernel), tb_at 61 (by decide +kernel) (by decide +kernel), tb_at 542 (by decide +kernel) (by decide +kernel), by decide +kernel, by decide +kernel, by decide +kernel⟩
theorem cs_X4_70 : CWs RX4 70 yX5_applied cX5_applied 5 (some .long) 4 := ⟨tb_at 505 (by decide +kernel) (by decide +kernel), tb_at 506 (by decide +kernel) (by decide +kernel), tb_at 61 (by decide +kernel) (by decide +kernel), tb_at 507 (by decide +kernel) (by decide +kernel), by decide +kernel, by decide +kernel, by decide +kernel⟩
theorem cv_X7_154 : CWv RX7 154 yX4_behind cX4_behind 4 (some .long) 2 := ⟨tb_at 501 (by decide +kernel) (by decide +kernel), tb_at 502 (by decide +kernel) (by decide +kernel), tb_at 503 (by decide +kernel) (by decide +kernel), tb_at 49 (by decide +kernel) (by decide +kernel), tb_at 504 (by decide +kernel) (by decide +kernel), by decide +kernel, by decide +kernel, by decide +kernel⟩
theorem ct_X7_158 : Cond.constant RX7 158 (65535) ∈ TB := tb_at 554 (by decide +kernel) (by decide +kernel)
theorem cs_X7_159 : CWs RX7 159 yX1_sounds cX1_sounds 5 (some .int) 1 := ⟨tb_at 555 (by decide +kernel) (by decide +kernel), tb_at 556 (by decide +kernel) (by decide +kernel), tb_at 56 (by decide +kernel) (by decide +kernel), tb_at 557 (by decide +kernel) (by decide +kernel), by decide +kernel, by decide +kernel, by decide +kernel⟩
theorem cs_X7_162 : CWs RX7 162 yX7_canSay cX7_canSay 2 (some .boolean) 2 := ⟨tb_at 558 (by decide +kernel) (by decide +kernel), tb_at 559 (by decide +kernel) (by decide +kernel), tb_at 48 (by decide +kernel) (by decide +kernel), tb_at 560 (by decide +kernel) (by decide +kernel), by decide +kernel, by decide +kernel, by decide +kernel⟩
theorem inX6 : ∀ w ∈ u_ws RX6 TX6 6, w ∈ TB := fun w hw => List.mem_filter.mpr ⟨(show ∀ w ∈ u_ws RX6 TX6 6, w ∈ lw_tbl by decide +kernel) w hw, (show ∀ w ∈ u_ws RX6 TX6 6, goodWord w = true by decide +kernel) w hw⟩
theorem fl_X6_55 : Cond.fieldLink RX6 55 (TX6 2).1 (TX6 2).2.1 (TX6 2).2.2.1 ∈ TB := tb_at 193 (by decide +kernel) (by decide +kernel)
theorem fl_X6_22 : Cond.fieldLink RX6 22 (TX6 3).1 (TX6 3).2.1 (TX6 3).2.2.1 ∈ TB := tb_at 195 (by decide +kernel) (by decide +kernel)
theorem pI_57_2 (E : En) (f : Nat → Int32) (g : Nat → Int64) (x : Int32) : cel E 57 (upd f 2 x) g = .inr (4, [.ref (E.1 58), .int (f 1), .int (f 2), .int (f 3), .ref (E.1 59), .int (f 5)].set 2 (.int x)) := rfl
theorem pI_57_1 (E : En) (f : Nat → Int32) (g : Nat → Int64) (x : Int32) : cel E 57 (upd f 1 x) g = .inr (4, [.ref (E.1 58), .int (f 1), .int (f 2), .int (f 3), .ref (E.1 59), .int (f 5)].set 1 (.int x)) := rfl
theorem fl_X6_58 : Cond.fieldLink RX6 58 (TX6 1).1 (TX6 1).2.1 (TX6 1).2.2.1 ∈ TB := tb_at 191 (by decide +kernel) (by decide +kernel)
theorem fl_X6_15 : Cond.fieldLink RX6 15 (TX6 4).1 (TX6 4).2.1 (TX6 4).2.2.1 ∈ TB := tb_at 197 (by decide +kernel) (by decide +kernel)
theorem fl_X6_9 : Cond.fieldLink RX6 9 (TX6 0).1 (TX6 0).2.1 (TX6 0).2.2.1 ∈ TB := tb_at 189 (by decide +kernel) (by decide +kernel)
theorem ac_X6_61 : Cond.methodLink RX6 61 arraycopyName ∈ TB := tb_at 577 (by decide +kernel) (by decide +kernel)
theorem pI_57_3 (E : En) (f : Nat → Int32) (g : Nat → Int64) (x : Int32) : cel E 57 (upd f 3 x) g = .inr (4, [.ref (E.1 58), .int (f 1), .int (f 2), .int (f 3), .ref (E.1 59), .int (f 5)].set 3 (.int x)) := rfl
theorem fl_X6_75 : Cond.fieldLink RX6 75 (TX4 0).1 (TX4 0).2.1 (TX4 0).2.2.1 ∈ TB := tb_at 108 (by decide +kernel) (by decide +kernel)
theorem fl_X6_18 : Cond.fieldLink RX6 18 (TX6 5).1 (TX6 5).2.1 (TX6 5).2.2.1 ∈ TB := tb_at 198 (by decide +kernel) (by decide +kernel)
theorem fl_X6_33 : Cond.fieldLink RX6 33 (TX4 6).1 (TX4 6).2.1 (TX4 6).2.2.1 ∈ TB := tb_at 124 (by decide +kernel) (by decide +kernel)
theorem cs_X6_38 : CWs RX6 38 yX6_isOpen cX6_isOpen 4 (some .boolean) 4 := ⟨tb_at 578 (by decide +kernel) (by decide +kernel), tb_at 579 (by decide +kernel) (by decide +kernel), tb_at 52 (by decide +kernel) (by decide +kernel), tb_at 580 (by decide +kernel) (by decide +kernel), by decide +kernel, by decide +kernel, by decide +kernel⟩
theorem cv_X6_42 : CWv RX6 42 yX4_behind cX4_behind 4 (some .long) 2 := ⟨tb_at 581 (by decide +kernel) (by decide +kernel), tb_at 502 (by decide +kernel) (by decide +kernel), tb_at 503 (by decide +kernel) (by decide +kernel), tb_at 49 (by decide +kernel) (by decide +kernel), tb_at 504 (by decide +kernel) (by decide +kernel), by decide +kernel, by decide +kernel, by decide +kernel⟩
theorem fl_X6_46 : Cond.fieldLink RX6 46 (TX4 1).1 (TX4 1).2.1 (TX4 1).2.2.1 ∈ TB := tb_at 111 (by decide +kernel) (by decide +kernel)
theorem cs_X6_49 : CWs RX6 49 yX1_length cX1_length 2 (some .int) 1 := ⟨tb_at 582 (by decide +kernel) (by decide +kernel), tb_at 341 (by decide +kernel) (by decide +kernel), tb_at 56 (by decide +kernel) (by decide +kernel), tb_at 342 (by decide +kernel) (by decide +kernel), by decide +kernel, by decide +kernel, by decide +kernel⟩
theorem cv_X6_25 : CWv RX6 25 yX6_goOn cX6_goOn 11 none 6 := ⟨tb_at 569 (by decide +kernel) (by decide +kernel), tb_at 571 (by decide +kernel) (by decide +kernel), tb_at 16 (by decide +kernel) (by decide +kernel), tb_at 52 (by decide +kernel) (by decide +kernel), tb_at 572 (by decide +kernel) (by decide +kernel), by decide +kernel, by decide +kernel, by decide +kernel⟩
theorem cv_X6_29 : CWv RX6 29 yX6_arrive cX6_arrive 4 none 2 := ⟨tb_at 573 (by decide +kernel) (by decide +kernel), tb_at 575 (by decide +kernel) (by decide +kernel), tb_at 17 (by decide +kernel) (by decide +kernel), tb_at 52 (by decide +kernel) (by decide +kernel), tb_at 576 (by decide +kernel) (by decide +kernel), by decide +kernel, by decide +kernel, by decide +kernel⟩
theorem pI_57_5 (E : En) (f : Nat → Int32) (g : Nat → Int64) (x : Int32) : cel E 57 (upd f 5 x) g = .inr (4, [.ref (E.1 58), .int (f 1), .int (f 2), .int (f 3), .ref (E.1 59), .int (f 5)].set 5 (.int x)) := rfl
theorem fl_X7_37 : Cond.fieldLink RX7 37 (TX7 5).1 (TX7 5).2.1 (TX7 5).2.2.1 ∈ TB := tb_at 232 (by decide +kernel) (by decide +kernel)
theorem cv_X7_165 : CWv RX7 165 yX6_findWays cX6_findWays 6 none 4 := ⟨tb_at 565 (by decide +kernel) (by decide +kernel), tb_at 566 (by decide +kernel) (by decide +kernel), tb_at 567 (by decide +kernel) (by decide +kernel), tb_at 52 (by decide +kernel) (by decide +kernel), tb_at 568 (by decide +kernel) (by decide +kernel), by decide +kernel, by decide +kernel, by decide +kernel⟩
theorem fl_X7_169 : Cond.fieldLink RX7 169 (TX6 3).1 (TX6 3).2.1 (TX6 3).2.2.1 ∈ TB := tb_at 196 (by decide +kernel) (by decide +kernel)
theorem fl_X7_175 : Cond.fieldLink RX7 175 (TX6 1).1 (TX6 1).2.1 (TX6 1).2.2.1 ∈ TB := tb_at 192 (by decide +kernel) (by decide +kernel)
theorem fl_X7_178 : Cond.fieldLink RX7 178 (TX6 0).1 (TX6 0).2.1 (TX6 0).2.2.1 ∈ TB := tb_at 190 (by decide +kernel) (by decide +kernel)
theorem fl_X7_172 : Cond.fieldLink RX7 172 (TX6 2).1 (TX6 2).2.1 (TX6 2).2.2.1 ∈ TB := tb_at 194 (by decide +kernel) (by decide +kernel)
theorem cs_X1_30 : CWs RX1 30 yX1_isAt cX1_isAt 7 (some .boolean) 3 := ⟨tb_at 600 (by decide +kernel) (by decide +kernel), tb_at 601 (by decide +kernel) (by decide +kernel), tb_at 56 (by decide +kernel) (by decide +kernel), tb_at 602 (by decide +kernel) (by decide +kernel), by decide +kernel, by decide +kernel, by decide +kernel⟩
theorem cs_X6_71 : CWs RX6 71 yX1_holds cX1_holds 6 (some .boolean) 2 := ⟨tb_at 597 (by decide +kernel) (by decide +kernel), tb_at 598 (by decide +kernel) (by decide +kernel), tb_at 56 (by decide +kernel) (by decide +kernel), tb_at 599 (by decide +kernel) (by decide +kernel), by decide +kernel, by decide +kernel, by decide +kernel⟩
theorem cs_X6_67 : CWs RX6 67 yX6_fewest cX6_fewest 13 (some .int) 6 := ⟨tb_at 594 (by decide +kernel) (by decide +kernel), tb_at 595 (by decide +kernel) (by decide +kernel), tb_at 52 (by decide +kernel) (by decide +kernel), tb_at 596 (by decide +kernel) (by decide +kernel), by decide +kernel, by decide +kernel, by decide +kernel⟩
theorem cs_X7_181 : CWs RX7 181 yX6_fewestToCurse cX6_fewestToCurse 6 (some .int) 4 := ⟨tb_at 591 (by decide +kernel) (by decide +kernel), tb_at 592 (by decide +kernel) (by decide +kernel), tb_at 52 (by decide +kernel) (by decide +kernel), tb_at 593 (by decide +kernel) (by decide +kernel), by decide +kernel, by decide +kernel, by decide +kernel⟩
theorem cs_X7_185 : CWs RX7 185 yX1_isCode cX1_isCode 1 (some .boolean) 1 := ⟨tb_at 607 (by decide +kernel) (by decide +kernel), tb_at 608 (by decide +kernel) (by decide +kernel), tb_at 56 (by decide +kernel) (by decide +kernel), tb_at 609 (by decide +kernel) (by decide +kernel), by decide +kernel, by decide +kernel, by decide +kernel⟩
theorem cs_X7_188 : CWs RX7 188 yX1_ofCode cX1_ofCode 1 (some .long) 1 := ⟨tb_at 610 (by decide +kernel) (by decide +kernel), tb_at 611 (by decide +kernel) (by decide +kernel), tb_at 56 (by decide +kernel) (by decide +kernel), tb_at 612 (by decide +kernel) (by decide +kernel), by decide +kernel, by decide +kernel, by decide +kernel⟩
theorem fl_X7_192 : Cond.fieldLink RX7 192 (TX4 5).1 (TX4 5).2.1 (TX4 5).2.2.1 ∈ TB := tb_at 121 (by decide +kernel) (by decide +kernel)
theorem fl_X7_196 : Cond.fieldLink RX7 196 (TX2 4).1 (TX2 4).2.1 (TX2 4).2.2.1 ∈ TB := tb_at 93 (by decide +kernel) (by decide +kernel)
theorem cv_X7_201 : CWv RX7 201 yX2_put cX2_put 7 none 4 := ⟨tb_at 617 (by decide +kernel) (by decide +kernel), tb_at 618 (by decide +kernel) (by decide +kernel), tb_at 619 (by decide +kernel) (by decide +kernel), tb_at 50 (by decide +kernel) (by decide +kernel), tb_at 620 (by decide +kernel) (by decide +kernel), by decide +kernel, by decide +kernel, by decide +kernel⟩
theorem cs_X5_32 : CWs RX5 32 yX5_applied cX5_applied 5 (some .long) 4 := ⟨tb_at 640 (by decide +kernel) (by decide +kernel), tb_at 506 (by decide +kernel) (by decide +kernel), tb_at 61 (by decide +kernel) (by decide +kernel), tb_at 507 (by decide +kernel) (by decide +kernel), by decide +kernel, by decide +kernel, by decide +kernel⟩
theorem cs_X2_35 : CWs RX2 35 yX5_appliedPair cX5_appliedPair 4 (some .long) 3 := ⟨tb_at 637 (by decide +kernel) (by decide +kernel), tb_at 638 (by decide +kernel) (by decide +kernel), tb_at 61 (by decide +kernel) (by decide +kernel), tb_at 639 (by decide +kernel) (by decide +kernel), by decide +kernel, by decide +kernel, by decide +kernel⟩
theorem cv_X7_283 : CWv RX7 283 yX2_agreeWith cX2_agreeWith 4 (some .boolean) 2 := ⟨tb_at 633 (by decide +kernel) (by decide +kernel), tb_at 634 (by decide +kernel) (by decide +kernel), tb_at 635 (by decide +kernel) (by decide +kernel), tb_at 50 (by decide +kernel) (by decide +kernel), tb_at 636 (by decide +kernel) (by decide +kernel), by decide +kernel, by decide +kernel, by decide +kernel⟩
theorem fl_X7_48 : Cond.fieldLink RX7 48 (TX7 7).1 (TX7 7).2.1 (TX7 7).2.2.1 ∈ TB := tb_at 234 (by decide +kernel) (by decide +kernel)
theorem cv_X7_204 : CWv RX7 204 yX7_collectFitting cX7_collectFitting 4 (some .int) 1 := ⟨tb_at 629 (by decide +kernel) (by decide +kernel), tb_at 631 (by decide +kernel) (by decide +kernel), tb_at 18 (by decide +kernel) (by decide +kernel), tb_at 48 (by decide +kernel) (by decide +kernel), tb_at 632 (by decide +kernel) (by decide +kernel), by decide +kernel, by decide +kernel, by decide +kernel⟩
theorem fl_X7_52 : Cond.fieldLink RX7 52 (TX7 8).1 (TX7 8).2.1 (TX7 8).2.2.1 ∈ TB := tb_at 235 (by decide +kernel) (by decide +kernel)
theorem cs_X7_286 : CWs RX7 286 yX5_appliedPair cX5_appliedPair 4 (some .long) 3 := ⟨tb_at 649 (by decide +kernel) (by decide +kernel), tb_at 638 (by decide +kernel) (by decide +kernel), tb_at 61 (by decide +kernel) (by decide +kernel), tb_at 639 (by decide +kernel) (by decide +kernel), by decide +kernel, by decide +kernel, by decide +kernel⟩
theorem mx_X7_290 : Cond.methodLink RX7 290 Lib.Math.max.name ∈ TB := tb_at 650 (by decide +kernel) (by decide +kernel)
theorem mx_st : Cond.static Lib.Math.max.name ∈ TB := tb_at 651 (by decide +kernel) (by decide +kernel)
theorem mx_in : Cond.initialized "java/lang/Math" ∈ TB := tb_at 62 (by decide +kernel) (by decide +kernel)
theorem mx_co : Cond.code Lib.Math.max.name Lib.Math.max.code 2 (some .int) ∈ TB := tb_at 652 (by decide +kernel) (by decide +kernel)
theorem cv_X7_207 : CWv RX7 207 yX7_mostAlike cX7_mostAlike 8 (some .int) 2 := ⟨tb_at 645 (by decide +kernel) (by decide +kernel), tb_at 647 (by decide +kernel) (by decide +kernel), tb_at 19 (by decide +kernel) (by decide +kernel), tb_at 48 (by decide +kernel) (by decide +kernel), tb_at 648 (by decide +kernel) (by decide +kernel), by decide +kernel, by decide +kernel, by decide +kernel⟩
theorem cs_X7_210 : CWs RX7 210 yX5_applied cX5_applied 5 (some .long) 4 := ⟨tb_at 657 (by decide +kernel) (by decide +kernel), tb_at 506 (by decide +kernel) (by decide +kernel), tb_at 61 (by decide +kernel) (by decide +kernel), tb_at 507 (by decide +kernel) (by decide +kernel), by decide +kernel, by decide +kernel, by decide +kernel⟩
theorem cs_X0_27 : CWs RX0 27 yX0_commonPart cX0_commonPart 11 (some .long) 2 := ⟨tb_at 670 (by decide +kernel) (by decide +kernel), tb_at 671 (by decide +kernel) (by decide +kernel), tb_at 53 (by decide +kernel) (by decide +kernel), tb_at 672 (by decide +kernel) (by decide +kernel), by decide +kernel, by decide +kernel, by decide +kernel⟩
theorem pL_60_0 (E : En) (f : Nat → Int32) (g : Nat → Int64) (x : Int64) : cel E 60 f (vp_updL g 0 x) = .inr (0, [.long (g 0), .long (g 1)].set 0 (.long x)) := rfl
theorem inX0 : ∀ w ∈ u_ws RX0 TX0 2, w ∈ TB := fun w hw => List.mem_filter.mpr ⟨(show ∀ w ∈ u_ws RX0 TX0 2, w ∈ lw_tbl by decide +kernel) w hw, (show ∀ w ∈ u_ws RX0 TX0 2, goodWord w = true by decide +kernel) w hw⟩
theorem fl_X0_7 : Cond.fieldLink RX0 7 (TX0 0).1 (TX0 0).2.1 (TX0 0).2.2.1 ∈ TB := tb_at 218 (by decide +kernel) (by decide +kernel)
theorem pL_60_1 (E : En) (f : Nat → Int32) (g : Nat → Int64) (x : Int64) : cel E 60 f (vp_updL g 1 x) = .inr (0, [.long (g 0), .long (g 1)].set 1 (.long x)) := rfl
theorem fl_X0_13 : Cond.fieldLink RX0 13 (TX0 1).1 (TX0 1).2.1 (TX0 1).2.2.1 ∈ TB := tb_at 220 (by decide +kernel) (by decide +kernel)
theorem cv_X0_16 : CWv RX0 16 yX0_setLowest cX0_setLowest 7 none 2 := ⟨tb_at 666 (by decide +kernel) (by decide +kernel), tb_at 668 (by decide +kernel) (by decide +kernel), tb_at 20 (by decide +kernel) (by decide +kernel), tb_at 53 (by decide +kernel) (by decide +kernel), tb_at 669 (by decide +kernel) (by decide +kernel), by decide +kernel, by decide +kernel, by decide +kernel⟩
theorem cs_X0_20 : CWs RX0 20 yX0_chosen cX0_chosen 5 (some .long) 2 := ⟨tb_at 673 (by decide +kernel) (by decide +kernel), tb_at 674 (by decide +kernel) (by decide +kernel), tb_at 53 (by decide +kernel) (by decide +kernel), tb_at 675 (by decide +kernel) (by decide +kernel), by decide +kernel, by decide +kernel, by decide +kernel⟩
theorem cs_X0_24 : CWs RX0 24 yX0_power cX0_power 5 (some .long) 2 := ⟨tb_at 676 (by decide +kernel) (by decide +kernel), tb_at 677 (by decide +kernel) (by decide +kernel), tb_at 53 (by decide +kernel) (by decide +kernel), tb_at 678 (by decide +kernel) (by decide +kernel), by decide +kernel, by decide +kernel, by decide +kernel⟩
theorem fl_X7_44 : Cond.fieldLink RX7 44 (TX7 6).1 (TX7 6).2.1 (TX7 6).2.2.1 ∈ TB := tb_at 233 (by decide +kernel) (by decide +kernel)
theorem cv_X7_216 : CWv RX7 216 yX0_setChance cX0_setChance 7 none 4 := ⟨tb_at 662 (by decide +kernel) (by decide +kernel), tb_at 663 (by decide +kernel) (by decide +kernel), tb_at 664 (by decide +kernel) (by decide +kernel), tb_at 53 (by decide +kernel) (by decide +kernel), tb_at 665 (by decide +kernel) (by decide +kernel), by decide +kernel, by decide +kernel, by decide +kernel⟩
theorem ct_X7_269 : Cond.constant RX7 269 (1000000) ∈ TB := tb_at 686 (by decide +kernel) (by decide +kernel)
theorem cv_X4_76 : CWv RX4 76 yX4_behind cX4_behind 4 (some .long) 2 := ⟨tb_at 691 (by decide +kernel) (by decide +kernel), tb_at 502 (by decide +kernel) (by decide +kernel), tb_at 503 (by decide +kernel) (by decide +kernel), tb_at 49 (by decide +kernel) (by decide +kernel), tb_at 504 (by decide +kernel) (by decide +kernel), by decide +kernel, by decide +kernel, by decide +kernel⟩
theorem cs_X4_80 : CWs RX4 80 yX1_sounds cX1_sounds 5 (some .int) 1 := ⟨tb_at 692 (by decide +kernel) (by decide +kernel), tb_at 556 (by decide +kernel) (by decide +kernel), tb_at 56 (by decide +kernel) (by decide +kernel), tb_at 557 (by decide +kernel) (by decide +kernel), by decide +kernel, by decide +kernel, by decide +kernel⟩
theorem cl_X7_273 : Cond.constantLong RX7 273 (1103515245) ∈ TB := tb_at 696 (by decide +kernel) (by decide +kernel)
theorem cl_X7_275 : Cond.constantLong RX7 275 (12345) ∈ TB := tb_at 697 (by decide +kernel) (by decide +kernel)
theorem cl_X7_277 : Cond.constantLong RX7 277 (2147483648) ∈ TB := tb_at 698 (by decide +kernel) (by decide +kernel)
theorem cl_X7_279 : Cond.constantLong RX7 279 (32768) ∈ TB := tb_at 699 (by decide +kernel) (by decide +kernel)
theorem cl_X7_281 : Cond.constantLong RX7 281 (65536) ∈ TB := tb_at 700 (by decide +kernel) (by decide +kernel)
theorem cs_X7_220 : CWs RX7 220 yX7_isFleet cX7_isFleet 2 (some .boolean) 2 := ⟨tb_at 683 (by decide +kernel) (by decide +kernel), tb_at 684 (by decide +kernel) (by decide +kernel), tb_at 48 (by decide +kernel) (by decide +kernel), tb_at 685 (by decide +kernel) (by decide +kernel), by decide +kernel, by decide +kernel, by decide +kernel⟩
theorem cv_X7_223 : CWv RX7 223 yX4_allSounds cX4_allSounds 10 (some .int) 3 := ⟨tb_at 687 (by decide +kernel) (by decide +kernel), tb_at 688 (by decide +kernel) (by decide +kernel), tb_at 689 (by decide +kernel) (by decide +kernel), tb_at 49 (by decide +kernel) (by decide +kernel), tb_at 690 (by decide +kernel) (by decide +kernel), by decide +kernel, by decide +kernel, by decide +kernel⟩
theorem cs_X7_227 : CWs RX7 227 yX7_boatsSaying cX7_boatsSaying 8 (some .int) 3 := ⟨tb_at 693 (by decide +kernel) (by decide +kernel), tb_at 694 (by decide +kernel) (by decide +kernel), tb_at 48 (by decide +kernel) (by decide +kernel), tb_at 695 (by decide +kernel) (by decide +kernel), by decide +kernel, by decide +kernel, by decide +kernel⟩
theorem fl_X7_230 : Cond.fieldLink RX7 230 (TX0 0).1 (TX0 0).2.1 (TX0 0).2.2.1 ∈ TB := tb_at 219 (by decide +kernel) (by decide +kernel)
theorem fl_X7_234 : Cond.fieldLink RX7 234 (TX0 1).1 (TX0 1).2.1 (TX0 1).2.2.1 ∈ TB := tb_at 221 (by decide +kernel) (by decide +kernel)
theorem pI_33_4 (E : En) (f : Nat → Int32) (g : Nat → Int64) (x : Int32) : cel E 33 (upd f 4 x) g = .inr (1, [.ref (E.1 34), .ref (E.1 35), .ref (E.1 36), .ref (E.1 37), .int (f 4)].set 4 (.int x)) := rfl
theorem pI_27_6 (E : En) (f : Nat → Int32) (g : Nat → Int64) (x : Int32) : cel E 27 (upd f 6 x) g = .inr (3, [.ref (E.1 28), .ref (E.1 29), .ref (E.1 30), .ref (E.1 31), .ref (E.1 32), .ref (E.1 33), .int (f 6), .int (f 7), .int (f 8), .ref (E.1 38), .ref (E.1 39)].set 6 (.int x)) := rfl
theorem pI_27_7 (E : En) (f : Nat → Int32) (g : Nat → Int64) (x : Int32) : cel E 27 (upd f 7 x) g = .inr (3, [.ref (E.1 28), .ref (E.1 29), .ref (E.1 30), .ref (E.1 31), .ref (E.1 32), .ref (E.1 33), .int (f 6), .int (f 7), .int (f 8), .ref (E.1 38), .ref (E.1 39)].set 7 (.int x)) := rfl
theorem pI_27_8 (E : En) (f : Nat → Int32) (g : Nat → Int64) (x : Int32) : cel E 27 (upd f 8 x) g = .inr (3, [.ref (E.1 28), .ref (E.1 29), .ref (E.1 30), .ref (E.1 31), .ref (E.1 32), .ref (E.1 33), .int (f 6), .int (f 7), .int (f 8), .ref (E.1 38), .ref (E.1 39)].set 8 (.int x)) := rfl
theorem pI_46_4 (E : En) (f : Nat → Int32) (g : Nat → Int64) (x : Int32) : cel E 46 (upd f 4 x) g = .inr (1, [.ref (E.1 47), .ref (E.1 48), .ref (E.1 49), .ref (E.1 50), .int (f 4)].set 4 (.int x)) := rfl
theorem pI_40_6 (E : En) (f : Nat → Int32) (g : Nat → Int64) (x : Int32) : cel E 40 (upd f 6 x) g = .inr (3, [.ref (E.1 41), .ref (E.1 42), .ref (E.1 43), .ref (E.1 44), .ref (E.1 45), .ref (E.1 46), .int (f 6), .int (f 7), .int (f 8), .ref (E.1 51), .ref (E.1 52)].set 6 (.int x)) := rfl
theorem pI_40_7 (E : En) (f : Nat → Int32) (g : Nat → Int64) (x : Int32) : cel E 40 (upd f 7 x) g = .inr (3, [.ref (E.1 41), .ref (E.1 42), .ref (E.1 43), .ref (E.1 44), .ref (E.1 45), .ref (E.1 46), .int (f 6), .int (f 7), .int (f 8), .ref (E.1 51), .ref (E.1 52)].set 7 (.int x)) := rfl
theorem pI_40_8 (E : En) (f : Nat → Int32) (g : Nat → Int64) (x : Int32) : cel E 40 (upd f 8 x) g = .inr (3, [.ref (E.1 41), .ref (E.1 42), .ref (E.1 43), .ref (E.1 44), .ref (E.1 45), .ref (E.1 46), .int (f 6), .int (f 7), .int (f 8), .ref (E.1 51), .ref (E.1 52)].set 8 (.int x)) := rfl
theorem fl_X7_19 : Cond.fieldLink RX7 19 (TX7 2).1 (TX7 2).2.1 (TX7 2).2.2.1 ∈ TB := tb_at 229 (by decide +kernel) (by decide +kernel)
theorem fl_X7_23 : Cond.fieldLink RX7 23 (TX7 3).1 (TX7 3).2.1 (TX7 3).2.2.1 ∈ TB := tb_at 230 (by decide +kernel) (by decide +kernel)
theorem cl_X7_296 : Cond.constantLong RX7 296 (31) ∈ TB := tb_at 734 (by decide +kernel) (by decide +kernel)
theorem cs_X7_251 : CWs RX7 251 yX7_mixed cX7_mixed 4 (some .long) 2 := ⟨tb_at 731 (by decide +kernel) (by decide +kernel), tb_at 732 (by decide +kernel) (by decide +kernel), tb_at 48 (by decide +kernel) (by decide +kernel), tb_at 733 (by decide +kernel) (by decide +kernel), by decide +kernel, by decide +kernel, by decide +kernel⟩
theorem cl_X7_246 : Cond.constantLong RX7 246 (1009) ∈ TB := tb_at 729 (by decide +kernel) (by decide +kernel)
theorem fl_X7_258 : Cond.fieldLink RX7 258 (TX2 0).1 (TX2 0).2.1 (TX2 0).2.2.1 ∈ TB := tb_at 84 (by decide +kernel) (by decide +kernel)
theorem fl_X7_261 : Cond.fieldLink RX7 261 (TX2 1).1 (TX2 1).2.1 (TX2 1).2.2.1 ∈ TB := tb_at 86 (by decide +kernel) (by decide +kernel)
theorem fl_X7_264 : Cond.fieldLink RX7 264 (TX2 2).1 (TX2 2).2.1 (TX2 2).2.2.1 ∈ TB := tb_at 88 (by decide +kernel) (by decide +kernel)
theorem cs_X7_255 : CWs RX7 255 yX7_mixedName cX7_mixedName 8 (some .long) 2 := ⟨tb_at 735 (by decide +kernel) (by decide +kernel), tb_at 736 (by decide +kernel) (by decide +kernel), tb_at 48 (by decide +kernel) (by decide +kernel), tb_at 737 (by decide +kernel) (by decide +kernel), by decide +kernel, by decide +kernel, by decide +kernel⟩
theorem fl_X7_267 : Cond.fieldLink RX7 267 (TX2 3).1 (TX2 3).2.1 (TX2 3).2.2.1 ∈ TB := tb_at 90 (by decide +kernel) (by decide +kernel)
theorem cv_X7_248 : CWv RX7 248 yX7_count cX7_count 2 (some .int) 1 := ⟨tb_at 730 (by decide +kernel) (by decide +kernel), tb_at 722 (by decide +kernel) (by decide +kernel), tb_at 723 (by decide +kernel) (by decide +kernel), tb_at 48 (by decide +kernel) (by decide +kernel), tb_at 724 (by decide +kernel) (by decide +kernel), by decide +kernel, by decide +kernel, by decide +kernel⟩
theorem inX8 : ∀ w ∈ u_ws RX8 TX8 28, w ∈ TB := fun w hw => List.mem_filter.mpr ⟨(show ∀ w ∈ u_ws RX8 TX8 28, w ∈ lw_tbl by decide +kernel) w hw, (show ∀ w ∈ u_ws RX8 TX8 28, goodWord w = true by decide +kernel) w hw⟩
theorem fl_X8_27 : Cond.fieldLink RX8 27 (TX8 5).1 (TX8 5).2.1 (TX8 5).2.2.1 ∈ TB := tb_at 749 (by decide +kernel) (by decide +kernel)
theorem fl_X8_7 : Cond.fieldLink RX8 7 (TX8 0).1 (TX8 0).2.1 (TX8 0).2.2.1 ∈ TB := tb_at 744 (by decide +kernel) (by decide +kernel)
theorem cl_X8_114 : Cond.constantLong RX8 114 (11) ∈ TB := tb_at 833 (by decide +kernel) (by decide +kernel)
theorem cs_X8_106 : CWs RX8 106 yX8_in cX8_in 6 (some .boolean) 3 := ⟨tb_at 834 (by decide +kernel) (by decide +kernel), tb_at 835 (by decide +kernel) (by decide +kernel), tb_at 54 (by decide +kernel) (by decide +kernel), tb_at 836 (by decide +kernel) (by decide +kernel), by decide +kernel, by decide +kernel, by decide +kernel⟩
theorem cv_X8_102 : CWv RX8 102 yX8_bridges cX8_bridges 1 (some .int) 0 := ⟨tb_at 841 (by decide +kernel) (by decide +kernel), tb_at 843 (by decide +kernel) (by decide +kernel), tb_at 22 (by decide +kernel) (by decide +kernel), tb_at 54 (by decide +kernel) (by decide +kernel), tb_at 844 (by decide +kernel) (by decide +kernel), by decide +kernel, by decide +kernel, by decide +kernel⟩
theorem cs_X8_120 : CWs RX8 120 yX8_begin cX8_begin 3 none 2 := ⟨tb_at 845 (by decide +kernel) (by decide +kernel), tb_at 846 (by decide +kernel) (by decide +kernel), tb_at 54 (by decide +kernel) (by decide +kernel), tb_at 847 (by decide +kernel) (by decide +kernel), by decide +kernel, by decide +kernel, by decide +kernel⟩
theorem fl_X8_16 : Cond.fieldLink RX8 16 (TX8 2).1 (TX8 2).2.1 (TX8 2).2.2.1 ∈ TB := tb_at 746 (by decide +kernel) (by decide +kernel)
theorem cv_X8_116 : CWv RX8 116 yX8_bad cX8_bad 2 (some .int) 1 := ⟨tb_at 837 (by decide +kernel) (by decide +kernel), tb_at 839 (by decide +kernel) (by decide +kernel), tb_at 21 (by decide +kernel) (by decide +kernel), tb_at 54 (by decide +kernel) (by decide +kernel), tb_at 840 (by decide +kernel) (by decide +kernel), by decide +kernel, by decide +kernel, by decide +kernel⟩
theorem cl_X8_110 : Cond.constantLong RX8 110 (5) ∈ TB := tb_at 855 (by decide +kernel) (by decide +kernel)
theorem cs_X8_124 : CWs RX8 124 yX8_isPlace cX8_isPlace 1 (some .boolean) 1 := ⟨tb_at 852 (by decide +kernel) (by decide +kernel), tb_at 853 (by decide +kernel) (by decide +kernel), tb_at 54 (by decide +kernel) (by decide +kernel), tb_at 854 (by decide +kernel) (by decide +kernel), by decide +kernel, by decide +kernel, by decide +kernel⟩
theorem cl_X8_67 : Cond.constantLong RX8 67 (15) ∈ TB := tb_at 856 (by decide +kernel) (by decide +kernel)
theorem cs_X8_131 : CWs RX8 131 yX8_layBridge cX8_layBridge 6 none 5 := ⟨tb_at 861 (by decide +kernel) (by decide +kernel), tb_at 862 (by decide +kernel) (by decide +kernel), tb_at 54 (by decide +kernel) (by decide +kernel), tb_at 863 (by decide +kernel) (by decide +kernel), by decide +kernel, by decide +kernel, by decide +kernel⟩
theorem cv_X8_128 : CWv RX8 128 yX8_full cX8_full 1 (some .int) 0 := ⟨tb_at 857 (by decide +kernel) (by decide +kernel), tb_at 859 (by decide +kernel) (by decide +kernel), tb_at 23 (by decide +kernel) (by decide +kernel), tb_at 54 (by decide +kernel) (by decide +kernel), tb_at 860 (by decide +kernel) (by decide +kernel), by decide +kernel, by decide +kernel, by decide +kernel⟩
theorem cv_X8_135 : CWv RX8 135 yX8_get cX8_get 3 (some .int) 2 := ⟨tb_at 872 (by decide +kernel) (by decide +kernel), tb_at 874 (by decide +kernel) (by decide +kernel), tb_at 25 (by decide +kernel) (by decide +kernel), tb_at 54 (by decide +kernel) (by decide +kernel), tb_at 875 (by decide +kernel) (by decide +kernel), by decide +kernel, by decide +kernel, by decide +kernel⟩
theorem cv_X8_139 : CWv RX8 139 yX8_isBridge cX8_isBridge 2 (some .boolean) 1 := ⟨tb_at 868 (by decide +kernel) (by decide +kernel), tb_at 870 (by decide +kernel) (by decide +kernel), tb_at 24 (by decide +kernel) (by decide +kernel), tb_at 54 (by decide +kernel) (by decide +kernel), tb_at 871 (by decide +kernel) (by decide +kernel), by decide +kernel, by decide +kernel, by decide +kernel⟩
theorem cv_X8_142 : CWv RX8 142 yX8_keep cX8_keep 3 none 0 := ⟨tb_at 876 (by decide +kernel) (by decide +kernel), tb_at 878 (by decide +kernel) (by decide +kernel), tb_at 26 (by decide +kernel) (by decide +kernel), tb_at 54 (by decide +kernel) (by decide +kernel), tb_at 879 (by decide +kernel) (by decide +kernel), by decide +kernel, by decide +kernel, by decide +kernel⟩
theorem cv_X8_145 : CWv RX8 145 yX8_no cX8_no 1 (some .int) 0 := ⟨tb_at 888 (by decide +kernel) (by decide +kernel), tb_at 890 (by decide +kernel) (by decide +kernel), tb_at 27 (by decide +kernel) (by decide +kernel), tb_at 54 (by decide +kernel) (by decide +kernel), tb_at 891 (by decide +kernel) (by decide +kernel), by decide +kernel, by decide +kernel, by decide +kernel⟩
theorem cl_X8_112 : Cond.constantLong RX8 112 (3) ∈ TB := tb_at 899 (by decide +kernel) (by decide +kernel)
theorem cl_X8_69 : Cond.constantLong RX8 69 (281474976710656) ∈ TB := tb_at 906 (by decide +kernel) (by decide +kernel)
theorem cs_X8_71 : CWs RX8 71 yX8_many cX8_many 2 (some .int) 1 := ⟨tb_at 900 (by decide +kernel) (by decide +kernel), tb_at 901 (by decide +kernel) (by decide +kernel), tb_at 54 (by decide +kernel) (by decide +kernel), tb_at 902 (by decide +kernel) (by decide +kernel), by decide +kernel, by decide +kernel, by decide +kernel⟩
theorem cs_X8_148 : CWs RX8 148 yX8_isRow cX8_isRow 1 (some .boolean) 1 := ⟨tb_at 896 (by decide +kernel) (by decide +kernel), tb_at 897 (by decide +kernel) (by decide +kernel), tb_at 54 (by decide +kernel) (by decide +kernel), tb_at 898 (by decide +kernel) (by decide +kernel), by decide +kernel, by decide +kernel, by decide +kernel⟩
theorem cs_X8_79 : CWs RX8 79 yX8_behind cX8_behind 3 (some .long) 2 := ⟨tb_at 903 (by decide +kernel) (by decide +kernel), tb_at 904 (by decide +kernel) (by decide +kernel), tb_at 54 (by decide +kernel) (by decide +kernel), tb_at 905 (by decide +kernel) (by decide +kernel), by decide +kernel, by decide +kernel, by decide +kernel⟩
theorem cl_X8_251 : Cond.constantLong RX8 251 (127) ∈ TB := tb_at 1076 (by decide +kernel) (by decide +kernel)
theorem fl_X8_253 : Cond.fieldLink RX8 253 (TX8 20).1 (TX8 20).2.1 (TX8 20).2.2.1 ∈ TB := tb_at 764 (by decide +kernel) (by decide +kernel)
theorem fl_X8_55 : Cond.fieldLink RX8 55 (TX8 19).1 (TX8 19).2.1 (TX8 19).2.2.1 ∈ TB := tb_at 763 (by decide +kernel) (by decide +kernel)
theorem pI_63_20 (E : En) (f : Nat → Int32) (g : Nat → Int64) (x : Int32) : cel E 63 (upd f 20 x) g = .inr (6, [.ref (E.1 64), .ref (E.1 65), .ref (E.1 66), .ref (E.1 67), .ref (E.1 68), .ref (E.1 69), .long (g 6), .long (g 7), .ref (E.1 70), .ref (E.1 71), .ref (E.1 72), .ref (E.1 73), .int (f 12), .ref (E.1 74), .int (f 14), .int (f 15), .int (f 16), .ref (E.1 75), .ref (E.1 76), .ref (E.1 77), .int (f 20), .int (f 21), .int (f 22), .int (f 23), .int (f 24), .ref (E.1 78), .ref (E.1 79), .ref (E.1 80)].set 20 (.int x)) := rfl
theorem cl_X8_256 : Cond.constantLong RX8 256 (97) ∈ TB := tb_at 1092 (by decide +kernel) (by decide +kernel)
theorem cl_X8_258 : Cond.constantLong RX8 258 (122) ∈ TB := tb_at 1093 (by decide +kernel) (by decide +kernel)
theorem cl_X8_260 : Cond.constantLong RX8 260 (48) ∈ TB := tb_at 1097 (by decide +kernel) (by decide +kernel)
theorem cl_X8_262 : Cond.constantLong RX8 262 (57) ∈ TB := tb_at 1098 (by decide +kernel) (by decide +kernel)
theorem pI_63_21 (E : En) (f : Nat → Int32) (g : Nat → Int64) (x : Int32) : cel E 63 (upd f 21 x) g = .inr (6, [.ref (E.1 64), .ref (E.1 65), .ref (E.1 66), .ref (E.1 67), .ref (E.1 68), .ref (E.1 69), .long (g 6), .long (g 7), .ref (E.1 70), .ref (E.1 71), .ref (E.1 72), .ref (E.1 73), .int (f 12), .ref (E.1 74), .int (f 14), .int (f 15), .int (f 16), .ref (E.1 75), .ref (E.1 76), .ref (E.1 77), .int (f 20), .int (f 21), .int (f 22), .int (f 23), .int (f 24), .ref (E.1 78), .ref (E.1 79), .ref (E.1 80)].set 21 (.int x)) := rfl
theorem fl_X8_264 : Cond.fieldLink RX8 264 (TX8 21).1 (TX8 21).2.1 (TX8 21).2.2.1 ∈ TB := tb_at 765 (by decide +kernel) (by decide +kernel)
theorem pI_63_22 (E : En) (f : Nat → Int32) (g : Nat → Int64) (x : Int32) : cel E 63 (upd f 22 x) g = .inr (6, [.ref (E.1 64), .ref (E.1 65), .ref (E.1 66), .ref (E.1 67), .ref (E.1 68), .ref (E.1 69), .long (g 6), .long (g 7), .ref (E.1 70), .ref (E.1 71), .ref (E.1 72), .ref (E.1 73), .int (f 12), .ref (E.1 74), .int (f 14), .int (f 15), .int (f 16), .ref (E.1 75), .ref (E.1 76), .ref (E.1 77), .int (f 20), .int (f 21), .int (f 22), .int (f 23), .int (f 24), .ref (E.1 78), .ref (E.1 79), .ref (E.1 80)].set 22 (.int x)) := rfl
theorem fl_X8_267 : Cond.fieldLink RX8 267 (TX8 22).1 (TX8 22).2.1 (TX8 22).2.2.1 ∈ TB := tb_at 766 (by decide +kernel) (by decide +kernel)
theorem pI_63_23 (E : En) (f : Nat → Int32) (g : Nat → Int64) (x : Int32) : cel E 63 (upd f 23 x) g = .inr (6, [.ref (E.1 64), .ref (E.1 65), .ref (E.1 66), .ref (E.1 67), .ref (E.1 68), .ref (E.1 69), .long (g 6), .long (g 7), .ref (E.1 70), .ref (E.1 71), .ref (E.1 72), .ref (E.1 73), .int (f 12), .ref (E.1 74), .int (f 14), .int (f 15), .int (f 16), .ref (E.1 75), .ref (E.1 76), .ref (E.1 77), .int (f 20), .int (f 21), .int (f 22), .int (f 23), .int (f 24), .ref (E.1 78), .ref (E.1 79), .ref (E.1 80)].set 23 (.int x)) := rfl
theorem fl_X8_270 : Cond.fieldLink RX8 270 (TX8 23).1 (TX8 23).2.1 (TX8 23).2.2.1 ∈ TB := tb_at 767 (by decide +kernel) (by decide +kernel)
theorem pI_63_24 (E : En) (f : Nat → Int32) (g : Nat → Int64) (x : Int32) : cel E 63 (upd f 24 x) g = .inr (6, [.ref (E.1 64), .ref (E.1 65), .ref (E.1 66), .ref (E.1 67), .ref (E.1 68), .ref (E.1 69), .long (g 6), .long (g 7), .ref (E.1 70), .ref (E.1 71), .ref (E.1 72), .ref (E.1 73), .int (f 12), .ref (E.1 74), .int (f 14), .int (f 15), .int (f 16), .ref (E.1 75), .ref (E.1 76), .ref (E.1 77), .int (f 20), .int (f 21), .int (f 22), .int (f 23), .int (f 24), .ref (E.1 78), .ref (E.1 79), .ref (E.1 80)].set 24 (.int x)) := rfl
theorem fl_X8_273 : Cond.fieldLink RX8 273 (TX8 24).1 (TX8 24).2.1 (TX8 24).2.2.1 ∈ TB := tb_at 768 (by decide +kernel) (by decide +kernel)
theorem cs_X8_276 : CWs RX8 276 yX8_isSmall cX8_isSmall 1 (some .boolean) 1 := ⟨tb_at 1089 (by decide +kernel) (by decide +kernel), tb_at 1090 (by decide +kernel) (by decide +kernel), tb_at 54 (by decide +kernel) (by decide +kernel), tb_at 1091 (by decide +kernel) (by decide +kernel), by decide +kernel, by decide +kernel, by decide +kernel⟩
theorem cs_X8_279 : CWs RX8 279 yX8_isFigure cX8_isFigure 1 (some .boolean) 1 := ⟨tb_at 1094 (by decide +kernel) (by decide +kernel), tb_at 1095 (by decide +kernel) (by decide +kernel), tb_at 54 (by decide +kernel) (by decide +kernel), tb_at 1096 (by decide +kernel) (by decide +kernel), by decide +kernel, by decide +kernel, by decide +kernel⟩
theorem cv_X8_282 : CWv RX8 282 yX8_lookAt cX8_lookAt 5 none 1 := ⟨tb_at 1085 (by decide +kernel) (by decide +kernel), tb_at 1087 (by decide +kernel) (by decide +kernel), tb_at 38 (by decide +kernel) (by decide +kernel), tb_at 54 (by decide +kernel) (by decide +kernel), tb_at 1088 (by decide +kernel) (by decide +kernel), by decide +kernel, by decide +kernel, by decide +kernel⟩
theorem fl_X8_64 : Cond.fieldLink RX8 64 (TX8 27).1 (TX8 27).2.1 (TX8 27).2.2.1 ∈ TB := tb_at 771 (by decide +kernel) (by decide +kernel)
theorem cv_X8_286 : CWv RX8 286 yX8_goBehind cX8_goBehind 1 none 0 := ⟨tb_at 1107 (by decide +kernel) (by decide +kernel), tb_at 1109 (by decide +kernel) (by decide +kernel), tb_at 41 (by decide +kernel) (by decide +kernel), tb_at 54 (by decide +kernel) (by decide +kernel), tb_at 1110 (by decide +kernel) (by decide +kernel), by decide +kernel, by decide +kernel, by decide +kernel⟩
theorem cv_X8_289 : CWv RX8 289 yX8_isWord cX8_isWord 10 (some .boolean) 7 := ⟨tb_at 1103 (by decide +kernel) (by decide +kernel), tb_at 1105 (by decide +kernel) (by decide +kernel), tb_at 40 (by decide +kernel) (by decide +kernel), tb_at 54 (by decide +kernel) (by decide +kernel), tb_at 1106 (by decide +kernel) (by decide +kernel), by decide +kernel, by decide +kernel, by decide +kernel⟩
theorem cv_X8_293 : CWv RX8 293 yX8_takes cX8_takes 4 (some .boolean) 3 := ⟨tb_at 1111 (by decide +kernel) (by decide +kernel), tb_at 1113 (by decide +kernel) (by decide +kernel), tb_at 42 (by decide +kernel) (by decide +kernel), tb_at 54 (by decide +kernel) (by decide +kernel), tb_at 1114 (by decide +kernel) (by decide +kernel), by decide +kernel, by decide +kernel, by decide +kernel⟩
theorem fl_X8_58 : Cond.fieldLink RX8 58 (TX8 25).1 (TX8 25).2.1 (TX8 25).2.2.1 ∈ TB := tb_at 769 (by decide +kernel) (by decide +kernel)
theorem fl_X8_61 : Cond.fieldLink RX8 61 (TX8 26).1 (TX8 26).2.1 (TX8 26).2.2.1 ∈ TB := tb_at 770 (by decide +kernel) (by decide +kernel)
theorem cv_X8_300 : CWv RX8 300 yX8_takesRow cX8_takesRow 2 (some .boolean) 0 := ⟨tb_at 1123 (by decide +kernel) (by decide +kernel), tb_at 1125 (by decide +kernel) (by decide +kernel), tb_at 45 (by decide +kernel) (by decide +kernel), tb_at 54 (by decide +kernel) (by decide +kernel), tb_at 1126 (by decide +kernel) (by decide +kernel), by decide +kernel, by decide +kernel, by decide +kernel⟩
theorem cv_X8_297 : CWv RX8 297 yX8_takesBridge cX8_takesBridge 1 (some .boolean) 0 := ⟨tb_at 1119 (by decide +kernel) (by decide +kernel), tb_at 1121 (by decide +kernel) (by decide +kernel), tb_at 44 (by decide +kernel) (by decide +kernel), tb_at 54 (by decide +kernel) (by decide +kernel), tb_at 1122 (by decide +kernel) (by decide +kernel), by decide +kernel, by decide +kernel, by decide +kernel⟩
theorem cv_X8_303 : CWv RX8 303 yX8_takesFirst cX8_takesFirst 2 (some .boolean) 0 := ⟨tb_at 1099 (by decide +kernel) (by decide +kernel), tb_at 1101 (by decide +kernel) (by decide +kernel), tb_at 39 (by decide +kernel) (by decide +kernel), tb_at 54 (by decide +kernel) (by decide +kernel), tb_at 1102 (by decide +kernel) (by decide +kernel), by decide +kernel, by decide +kernel, by decide +kernel⟩
theorem cv_X8_306 : CWv RX8 306 yX8_takesItem cX8_takesItem 1 (some .boolean) 0 := ⟨tb_at 1115 (by decide +kernel) (by decide +kernel), tb_at 1117 (by decide +kernel) (by decide +kernel), tb_at 43 (by decide +kernel) (by decide +kernel), tb_at 54 (by decide +kernel) (by decide +kernel), tb_at 1118 (by decide +kernel) (by decide +kernel), by decide +kernel, by decide +kernel, by decide +kernel⟩
theorem cs_X8_82 : CWs RX8 82 yX8_syllable cX8_syllable 3 (some .int) 2 := ⟨tb_at 922 (by decide +kernel) (by decide +kernel), tb_at 923 (by decide +kernel) (by decide +kernel), tb_at 54 (by decide +kernel) (by decide +kernel), tb_at 924 (by decide +kernel) (by decide +kernel), by decide +kernel, by decide +kernel, by decide +kernel⟩
theorem cs_X8_151 : CWs RX8 151 yX8_told cX8_told 3 (some .int) 2 := ⟨tb_at 919 (by decide +kernel) (by decide +kernel), tb_at 920 (by decide +kernel) (by decide +kernel), tb_at 54 (by decide +kernel) (by decide +kernel), tb_at 921 (by decide +kernel) (by decide +kernel), by decide +kernel, by decide +kernel, by decide +kernel⟩
theorem cs_X8_75 : CWs RX8 75 yX8_firstOnes cX8_firstOnes 3 (some .long) 2 := ⟨tb_at 939 (by decide +kernel) (by decide +kernel), tb_at 940 (by decide +kernel) (by decide +kernel), tb_at 54 (by decide +kernel) (by decide +kernel), tb_at 941 (by decide +kernel) (by decide +kernel), by decide +kernel, by decide +kernel, by decide +kernel⟩
theorem cs_X8_86 : CWs RX8 86 yX8_sweet cX8_sweet 3 (some .long) 2 := ⟨tb_at 936 (by decide +kernel) (by decide +kernel), tb_at 937 (by decide +kernel) (by decide +kernel), tb_at 54 (by decide +kernel) (by decide +kernel), tb_at 938 (by decide +kernel) (by decide +kernel), by decide +kernel, by decide +kernel, by decide +kernel⟩
theorem cs_X8_89 : CWs RX8 89 yX8_drop cX8_drop 4 (some .long) 2 := ⟨tb_at 942 (by decide +kernel) (by decide +kernel), tb_at 943 (by decide +kernel) (by decide +kernel), tb_at 54 (by decide +kernel) (by decide +kernel), tb_at 944 (by decide +kernel) (by decide +kernel), by decide +kernel, by decide +kernel, by decide +kernel⟩
theorem cs_X8_92 : CWs RX8 92 yX8_turn cX8_turn 5 (some .long) 1 := ⟨tb_at 945 (by decide +kernel) (by decide +kernel), tb_at 946 (by decide +kernel) (by decide +kernel), tb_at 54 (by decide +kernel) (by decide +kernel), tb_at 947 (by decide +kernel) (by decide +kernel), by decide +kernel, by decide +kernel, by decide +kernel⟩
theorem cs_X8_96 : CWs RX8 96 yX8_twice cX8_twice 5 (some .long) 1 := ⟨tb_at 948 (by decide +kernel) (by decide +kernel), tb_at 949 (by decide +kernel) (by decide +kernel), tb_at 54 (by decide +kernel) (by decide +kernel), tb_at 950 (by decide +kernel) (by decide +kernel), by decide +kernel, by decide +kernel, by decide +kernel⟩
theorem cs_X8_99 : CWs RX8 99 yX8_higher cX8_higher 6 (some .long) 2 := ⟨tb_at 951 (by decide +kernel) (by decide +kernel), tb_at 952 (by decide +kernel) (by decide +kernel), tb_at 54 (by decide +kernel) (by decide +kernel), tb_at 953 (by decide +kernel) (by decide +kernel), by decide +kernel, by decide +kernel, by decide +kernel⟩
theorem cs_X8_154 : CWs RX8 154 yX8_becomes cX8_becomes 5 (some .long) 4 := ⟨tb_at 933 (by decide +kernel) (by decide +kernel), tb_at 934 (by decide +kernel) (by decide +kernel), tb_at 54 (by decide +kernel) (by decide +kernel), tb_at 935 (by decide +kernel) (by decide +kernel), by decide +kernel, by decide +kernel, by decide +kernel⟩
theorem cv_X8_158 : CWv RX8 158 yX8_behindBridge cX8_behindBridge 4 (some .long) 2 := ⟨tb_at 929 (by decide +kernel) (by decide +kernel), tb_at 931 (by decide +kernel) (by decide +kernel), tb_at 28 (by decide +kernel) (by decide +kernel), tb_at 54 (by decide +kernel) (by decide +kernel), tb_at 932 (by decide +kernel) (by decide +kernel), by decide +kernel, by decide +kernel, by decide +kernel⟩
theorem cl_X8_162 : Cond.constantLong RX8 162 (65535) ∈ TB := tb_at 962 (by decide +kernel) (by decide +kernel)
theorem cs_X8_164 : CWs RX8 164 yX8_canSay cX8_canSay 5 (some .boolean) 2 := ⟨tb_at 963 (by decide +kernel) (by decide +kernel), tb_at 964 (by decide +kernel) (by decide +kernel), tb_at 54 (by decide +kernel) (by decide +kernel), tb_at 965 (by decide +kernel) (by decide +kernel), by decide +kernel, by decide +kernel, by decide +kernel⟩
theorem pI_63_12 (E : En) (f : Nat → Int32) (g : Nat → Int64) (x : Int32) : cel E 63 (upd f 12 x) g = .inr (6, [.ref (E.1 64), .ref (E.1 65), .ref (E.1 66), .ref (E.1 67), .ref (E.1 68), .ref (E.1 69), .long (g 6), .long (g 7), .ref (E.1 70), .ref (E.1 71), .ref (E.1 72), .ref (E.1 73), .int (f 12), .ref (E.1 74), .int (f 14), .int (f 15), .int (f 16), .ref (E.1 75), .ref (E.1 76), .ref (E.1 77), .int (f 20), .int (f 21), .int (f 22), .int (f 23), .int (f 24), .ref (E.1 78), .ref (E.1 79), .ref (E.1 80)].set 12 (.int x)) := rfl
theorem fl_X8_168 : Cond.fieldLink RX8 168 (TX8 12).1 (TX8 12).2.1 (TX8 12).2.2.1 ∈ TB := tb_at 756 (by decide +kernel) (by decide +kernel)
theorem fl_X8_37 : Cond.fieldLink RX8 37 (TX8 9).1 (TX8 9).2.1 (TX8 9).2.2.1 ∈ TB := tb_at 753 (by decide +kernel) (by decide +kernel)
theorem fl_X8_40 : Cond.fieldLink RX8 40 (TX8 10).1 (TX8 10).2.1 (TX8 10).2.2.1 ∈ TB := tb_at 754 (by decide +kernel) (by decide +kernel)
theorem fl_X8_43 : Cond.fieldLink RX8 43 (TX8 11).1 (TX8 11).2.1 (TX8 11).2.2.1 ∈ TB := tb_at 755 (by decide +kernel) (by decide +kernel)
theorem fl_X8_34 : Cond.fieldLink RX8 34 (TX8 8).1 (TX8 8).2.1 (TX8 8).2.2.1 ∈ TB := tb_at 752 (by decide +kernel) (by decide +kernel)
theorem fl_X8_175 : Cond.fieldLink RX8 175 (TX8 16).1 (TX8 16).2.1 (TX8 16).2.2.1 ∈ TB := tb_at 760 (by decide +kernel) (by decide +kernel)
theorem pI_63_16 (E : En) (f : Nat → Int32) (g : Nat → Int64) (x : Int32) : cel E 63 (upd f 16 x) g = .inr (6, [.ref (E.1 64), .ref (E.1 65), .ref (E.1 66), .ref (E.1 67), .ref (E.1 68), .ref (E.1 69), .long (g 6), .long (g 7), .ref (E.1 70), .ref (E.1 71), .ref (E.1 72), .ref (E.1 73), .int (f 12), .ref (E.1 74), .int (f 14), .int (f 15), .int (f 16), .ref (E.1 75), .ref (E.1 76), .ref (E.1 77), .int (f 20), .int (f 21), .int (f 22), .int (f 23), .int (f 24), .ref (E.1 78), .ref (E.1 79), .ref (E.1 80)].set 16 (.int x)) := rfl
theorem fl_X8_178 : Cond.fieldLink RX8 178 (TX8 14).1 (TX8 14).2.1 (TX8 14).2.2.1 ∈ TB := tb_at 758 (by decide +kernel) (by decide +kernel)
theorem pI_63_14 (E : En) (f : Nat → Int32) (g : Nat → Int64) (x : Int32) : cel E 63 (upd f 14 x) g = .inr (6, [.ref (E.1 64), .ref (E.1 65), .ref (E.1 66), .ref (E.1 67), .ref (E.1 68), .ref (E.1 69), .long (g 6), .long (g 7), .ref (E.1 70), .ref (E.1 71), .ref (E.1 72), .ref (E.1 73), .int (f 12), .ref (E.1 74), .int (f 14), .int (f 15), .int (f 16), .ref (E.1 75), .ref (E.1 76), .ref (E.1 77), .int (f 20), .int (f 21), .int (f 22), .int (f 23), .int (f 24), .ref (E.1 78), .ref (E.1 79), .ref (E.1 80)].set 14 (.int x)) := rfl
theorem pI_63_15 (E : En) (f : Nat → Int32) (g : Nat → Int64) (x : Int32) : cel E 63 (upd f 15 x) g = .inr (6, [.ref (E.1 64), .ref (E.1 65), .ref (E.1 66), .ref (E.1 67), .ref (E.1 68), .ref (E.1 69), .long (g 6), .long (g 7), .ref (E.1 70), .ref (E.1 71), .ref (E.1 72), .ref (E.1 73), .int (f 12), .ref (E.1 74), .int (f 14), .int (f 15), .int (f 16), .ref (E.1 75), .ref (E.1 76), .ref (E.1 77), .int (f 20), .int (f 21), .int (f 22), .int (f 23), .int (f 24), .ref (E.1 78), .ref (E.1 79), .ref (E.1 80)].set 15 (.int x)) := rfl
theorem fl_X8_181 : Cond.fieldLink RX8 181 (TX8 15).1 (TX8 15).2.1 (TX8 15).2.2.1 ∈ TB := tb_at 759 (by decide +kernel) (by decide +kernel)
theorem fl_X8_46 : Cond.fieldLink RX8 46 (TX8 13).1 (TX8 13).2.1 (TX8 13).2.2.1 ∈ TB := tb_at 757 (by decide +kernel) (by decide +kernel)
theorem cv_X8_172 : CWv RX8 172 yX8_isGone cX8_isGone 4 (some .boolean) 1 := ⟨tb_at 986 (by decide +kernel) (by decide +kernel), tb_at 988 (by decide +kernel) (by decide +kernel), tb_at 33 (by decide +kernel) (by decide +kernel), tb_at 54 (by decide +kernel) (by decide +kernel), tb_at 989 (by decide +kernel) (by decide +kernel), by decide +kernel, by decide +kernel, by decide +kernel⟩
theorem cv_X8_184 : CWv RX8 184 yX8_beginWay cX8_beginWay 4 none 2 := ⟨tb_at 974 (by decide +kernel) (by decide +kernel), tb_at 976 (by decide +kernel) (by decide +kernel), tb_at 30 (by decide +kernel) (by decide +kernel), tb_at 54 (by decide +kernel) (by decide +kernel), tb_at 977 (by decide +kernel) (by decide +kernel), by decide +kernel, by decide +kernel, by decide +kernel⟩
theorem cv_X8_191 : CWv RX8 191 yX8_goOn cX8_goOn 2 (some .boolean) 0 := ⟨tb_at 982 (by decide +kernel) (by decide +kernel), tb_at 984 (by decide +kernel) (by decide +kernel), tb_at 32 (by decide +kernel) (by decide +kernel), tb_at 54 (by decide +kernel) (by decide +kernel), tb_at 985 (by decide +kernel) (by decide +kernel), by decide +kernel, by decide +kernel, by decide +kernel⟩
theorem cv_X8_188 : CWv RX8 188 yX8_judge cX8_judge 3 none 0 := ⟨tb_at 978 (by decide +kernel) (by decide +kernel), tb_at 980 (by decide +kernel) (by decide +kernel), tb_at 31 (by decide +kernel) (by decide +kernel), tb_at 54 (by decide +kernel) (by decide +kernel), tb_at 981 (by decide +kernel) (by decide +kernel), by decide +kernel, by decide +kernel, by decide +kernel⟩
theorem cv_X8_195 : CWv RX8 195 yX8_layWays cX8_layWays 5 none 3 := ⟨tb_at 970 (by decide +kernel) (by decide +kernel), tb_at 972 (by decide +kernel) (by decide +kernel), tb_at 29 (by decide +kernel) (by decide +kernel), tb_at 54 (by decide +kernel) (by decide +kernel), tb_at 973 (by decide +kernel) (by decide +kernel), by decide +kernel, by decide +kernel, by decide +kernel⟩
theorem cs_X8_199 : CWs RX8 199 yX8_has cX8_has 8 (some .boolean) 2 := ⟨tb_at 998 (by decide +kernel) (by decide +kernel), tb_at 999 (by decide +kernel) (by decide +kernel), tb_at 54 (by decide +kernel) (by decide +kernel), tb_at 1000 (by decide +kernel) (by decide +kernel), by decide +kernel, by decide +kernel, by decide +kernel⟩
theorem cs_X8_203 : CWs RX8 203 yX8_nameOf cX8_nameOf 3 (some .long) 1 := ⟨tb_at 1005 (by decide +kernel) (by decide +kernel), tb_at 1006 (by decide +kernel) (by decide +kernel), tb_at 54 (by decide +kernel) (by decide +kernel), tb_at 1007 (by decide +kernel) (by decide +kernel), by decide +kernel, by decide +kernel, by decide +kernel⟩
theorem cv_X8_207 : CWv RX8 207 yX8_doesFit cX8_doesFit 6 (some .boolean) 2 := ⟨tb_at 1020 (by decide +kernel) (by decide +kernel), tb_at 1022 (by decide +kernel) (by decide +kernel), tb_at 34 (by decide +kernel) (by decide +kernel), tb_at 54 (by decide +kernel) (by decide +kernel), tb_at 1023 (by decide +kernel) (by decide +kernel), by decide +kernel, by decide +kernel, by decide +kernel⟩
theorem fl_X8_49 : Cond.fieldLink RX8 49 (TX8 17).1 (TX8 17).2.1 (TX8 17).2.2.1 ∈ TB := tb_at 761 (by decide +kernel) (by decide +kernel)
theorem ct_X8_211 : Cond.constant RX8 211 (1000000) ∈ TB := tb_at 1028 (by decide +kernel) (by decide +kernel)
theorem cv_X8_212 : CWv RX8 212 yX8_mostAlike cX8_mostAlike 8 (some .int) 1 := ⟨tb_at 1029 (by decide +kernel) (by decide +kernel), tb_at 1031 (by decide +kernel) (by decide +kernel), tb_at 35 (by decide +kernel) (by decide +kernel), tb_at 54 (by decide +kernel) (by decide +kernel), tb_at 1032 (by decide +kernel) (by decide +kernel), by decide +kernel, by decide +kernel, by decide +kernel⟩
theorem pL_63_6 (E : En) (f : Nat → Int32) (g : Nat → Int64) (x : Int64) : cel E 63 f (vp_updL g 6 x) = .inr (6, [.ref (E.1 64), .ref (E.1 65), .ref (E.1 66), .ref (E.1 67), .ref (E.1 68), .ref (E.1 69), .long (g 6), .long (g 7), .ref (E.1 70), .ref (E.1 71), .ref (E.1 72), .ref (E.1 73), .int (f 12), .ref (E.1 74), .int (f 14), .int (f 15), .int (f 16), .ref (E.1 75), .ref (E.1 76), .ref (E.1 77), .int (f 20), .int (f 21), .int (f 22), .int (f 23), .int (f 24), .ref (E.1 78), .ref (E.1 79), .ref (E.1 80)].set 6 (.long x)) := rfl
theorem fl_X8_215 : Cond.fieldLink RX8 215 (TX8 6).1 (TX8 6).2.1 (TX8 6).2.2.1 ∈ TB := tb_at 750 (by decide +kernel) (by decide +kernel)
theorem pL_63_7 (E : En) (f : Nat → Int32) (g : Nat → Int64) (x : Int64) : cel E 63 f (vp_updL g 7 x) = .inr (6, [.ref (E.1 64), .ref (E.1 65), .ref (E.1 66), .ref (E.1 67), .ref (E.1 68), .ref (E.1 69), .long (g 6), .long (g 7), .ref (E.1 70), .ref (E.1 71), .ref (E.1 72), .ref (E.1 73), .int (f 12), .ref (E.1 74), .int (f 14), .int (f 15), .int (f 16), .ref (E.1 75), .ref (E.1 76), .ref (E.1 77), .int (f 20), .int (f 21), .int (f 22), .int (f 23), .int (f 24), .ref (E.1 78), .ref (E.1 79), .ref (E.1 80)].set 7 (.long x)) := rfl
theorem fl_X8_30 : Cond.fieldLink RX8 30 (TX8 7).1 (TX8 7).2.1 (TX8 7).2.2.1 ∈ TB := tb_at 751 (by decide +kernel) (by decide +kernel)
theorem cl_X8_218 : Cond.constantLong RX8 218 (10) ∈ TB := tb_at 1041 (by decide +kernel) (by decide +kernel)
theorem cl_X8_220 : Cond.constantLong RX8 220 (24) ∈ TB := tb_at 1042 (by decide +kernel) (by decide +kernel)
theorem cv_X8_222 : CWv RX8 222 yX8_fraction cX8_fraction 11 none 2 := ⟨tb_at 1043 (by decide +kernel) (by decide +kernel), tb_at 1045 (by decide +kernel) (by decide +kernel), tb_at 36 (by decide +kernel) (by decide +kernel), tb_at 54 (by decide +kernel) (by decide +kernel), tb_at 1046 (by decide +kernel) (by decide +kernel), by decide +kernel, by decide +kernel, by decide +kernel⟩
theorem fl_X8_52 : Cond.fieldLink RX8 52 (TX8 18).1 (TX8 18).2.1 (TX8 18).2.2.1 ∈ TB := tb_at 762 (by decide +kernel) (by decide +kernel)
theorem cl_X8_240 : Cond.constantLong RX8 240 (999999) ∈ TB := tb_at 1054 (by decide +kernel) (by decide +kernel)
theorem cl_X8_242 : Cond.constantLong RX8 242 (60) ∈ TB := tb_at 1055 (by decide +kernel) (by decide +kernel)
theorem cl_X8_226 : Cond.constantLong RX8 226 (1103515245) ∈ TB := tb_at 1060 (by decide +kernel) (by decide +kernel)
theorem cl_X8_228 : Cond.constantLong RX8 228 (12345) ∈ TB := tb_at 1061 (by decide +kernel) (by decide +kernel)
theorem cl_X8_230 : Cond.constantLong RX8 230 (2147483648) ∈ TB := tb_at 1062 (by decide +kernel) (by decide +kernel)
theorem cl_X8_232 : Cond.constantLong RX8 232 (32768) ∈ TB := tb_at 1063 (by decide +kernel) (by decide +kernel)
theorem cl_X8_234 : Cond.constantLong RX8 234 (65536) ∈ TB := tb_at 1064 (by decide +kernel) (by decide +kernel)
theorem cs_X8_236 : CWs RX8 236 yX8_exchanged cX8_exchanged 3 (some .int) 3 := ⟨tb_at 1065 (by decide +kernel) (by decide +kernel), tb_at 1066 (by decide +kernel) (by decide +kernel), tb_at 54 (by decide +kernel) (by decide +kernel), tb_at 1067 (by decide +kernel) (by decide +kernel), by decide +kernel, by decide +kernel, by decide +kernel⟩
theorem cs_X8_244 : CWs RX8 244 yX8_areBoats cX8_areBoats 2 (some .boolean) 2 := ⟨tb_at 1051 (by decide +kernel) (by decide +kernel), tb_at 1052 (by decide +kernel) (by decide +kernel), tb_at 54 (by decide +kernel) (by decide +kernel), tb_at 1053 (by decide +kernel) (by decide +kernel), by decide +kernel, by decide +kernel, by decide +kernel⟩
theorem cv_X8_247 : CWv RX8 247 yX8_boatsBy cX8_boatsBy 15 (some .int) 5 := ⟨tb_at 1056 (by decide +kernel) (by decide +kernel), tb_at 1058 (by decide +kernel) (by decide +kernel), tb_at 37 (by decide +kernel) (by decide +kernel), tb_at 54 (by decide +kernel) (by decide +kernel), tb_at 1059 (by decide +kernel) (by decide +kernel), by decide +kernel, by decide +kernel, by decide +kernel⟩
theorem fl_X8_23 : Cond.fieldLink RX8 23 (TX8 4).1 (TX8 4).2.1 (TX8 4).2.2.1 ∈ TB := tb_at 748 (by decide +kernel) (by decide +kernel)
theorem fl_X8_20 : Cond.fieldLink RX8 20 (TX8 3).1 (TX8 3).2.1 (TX8 3).2.2.1 ∈ TB := tb_at 747 (by decide +kernel) (by decide +kernel)
theorem fl_X8_13 : Cond.fieldLink RX8 13 (TX8 1).1 (TX8 1).2.1 (TX8 1).2.2.1 ∈ TB := tb_at 745 (by decide +kernel) (by decide +kernel)
theorem cl_X8_309 : Cond.constantLong RX8 309 (2) ∈ TB := tb_at 1143 (by decide +kernel) (by decide +kernel)
theorem cl_X8_311 : Cond.constantLong RX8 311 (4) ∈ TB := tb_at 1148 (by decide +kernel) (by decide +kernel)
theorem cv_X8_313 : CWv RX8 313 yX8_counted cX8_counted 2 (some .int) 1 := ⟨tb_at 1149 (by decide +kernel) (by decide +kernel), tb_at 1151 (by decide +kernel) (by decide +kernel), tb_at 46 (by decide +kernel) (by decide +kernel), tb_at 54 (by decide +kernel) (by decide +kernel), tb_at 1152 (by decide +kernel) (by decide +kernel), by decide +kernel, by decide +kernel, by decide +kernel⟩
theorem cl_X8_316 : Cond.constantLong RX8 316 (31) ∈ TB := tb_at 1158 (by decide +kernel) (by decide +kernel)
theorem cl_X8_318 : Cond.constantLong RX8 318 (1009) ∈ TB := tb_at 1157 (by decide +kernel) (by decide +kernel)
theorem cs_X8_320 : CWs RX8 320 yX8_nameIn cX8_nameIn 7 (some .long) 2 := ⟨tb_at 1159 (by decide +kernel) (by decide +kernel), tb_at 1160 (by decide +kernel) (by decide +kernel), tb_at 54 (by decide +kernel) (by decide +kernel), tb_at 1161 (by decide +kernel) (by decide +kernel), by decide +kernel, by decide +kernel, by decide +kernel⟩
theorem g_cS_II_I {X : Cx} {res : Option Value × Mem} {own : String} {cc : ByteArray} {nL fr lo pc : Nat} {L : List (Option Value)} {st : List Value} {M M1 : Mem} {y : MethodName} {cc2 : ByteArray} {nL2 index fr2 lo2 : Nat} {ret : Option FieldType} {x0 : Int32} {x1 : Int32} {r : Int32} (hM : Cn X.2.2.1 y cc2 nL2 ret fr2 lo2 (fun E => [.int x0, .int x1]) M (some (.int r), M1)) (hw : CWs own index y cc2 nL2 ret 2) (hR : fr2 + 1 ≤ fr ∧ 8 + (nL2 + 11) + lo2 ≤ lo) (hsum : (st.map fun v => v.category).sum ≤ 8) (d : decode cc pc = .ok (.invokestatic index, 3)) (k : G X res own cc nL fr lo (pc + 3) L (.int r :: st) M1) : G X res own cc nL fr lo pc L (.int x1 :: .int x0 :: st) M := g_callS hM hw rfl rfl hR hsum d k
theorem g_cV_I_V {X : Cx} {res : Option Value × Mem} {own : String} {cc : ByteArray} {nL fr lo pc : Nat} {L : List (Option Value)} {st : List Value} {M M1 : Mem} {y : MethodName} {cc2 : ByteArray} {nL2 index fr2 lo2 : Nat} {ret : Option FieldType} {x0 : Int32}  {kk ci N : Nat} {T : u_T} {fs : List Value} (hM : Cn X.2.2.1 y cc2 nL2 ret fr2 lo2 (fun E => [.ref (E.1 kk), .int x0]) M (none, M1)) (hw : CWv own index y cc2 nL2 ret 1) (hk : kk < nCell) (hc : cel X.1 kk (M.1 kk) (M.2 kk) = .inr (ci, fs)) (hcl : vwCl[ci]? = some (y.cls, T, N)) (hR : fr2 + 1 ≤ fr ∧ 8 + (nL2 + 11) + lo2 ≤ lo) (hsum : (st.map fun v => v.category).sum ≤ 8) (d : decode cc pc = .ok (.invokevirtual index, 3)) (k : G X res own cc nL fr lo (pc + 3) L (st) M1) : G X res own cc nL fr lo pc L (.int x0 :: .ref (X.1.1 kk) :: st) M := g_callW (Bs := [.int x0]) hM hw rfl rfl rfl hR hsum d (fun C H locs hP _ => gr_recv hk hc hcl C hP) k
theorem g_cV_I_I {X : Cx} {res : Option Value × Mem} {own : String} {cc : ByteArray} {nL fr lo pc : Nat} {L : List (Option Value)} {st : List Value} {M M1 : Mem} {y : MethodName} {cc2 : ByteArray} {nL2 index fr2 lo2 : Nat} {ret : Option FieldType} {x0 : Int32} {r : Int32} {kk ci N : Nat} {T : u_T} {fs : List Value} (hM : Cn X.2.2.1 y cc2 nL2 ret fr2 lo2 (fun E => [.ref (E.1 kk), .int x0]) M (some (.int r), M1)) (hw : CWv own index y cc2 nL2 ret 1) (hk : kk < nCell) (hc : cel X.1 kk (M.1 kk) (M.2 kk) = .inr (ci, fs)) (hcl : vwCl[ci]? = some (y.cls, T, N)) (hR : fr2 + 1 ≤ fr ∧ 8 + (nL2 + 11) + lo2 ≤ lo) (hsum : (st.map fun v => v.category).sum ≤ 8) (d : decode cc pc = .ok (.invokevirtual index, 3)) (k : G X res own cc nL fr lo (pc + 3) L (.int r :: st) M1) : G X res own cc nL fr lo pc L (.int x0 :: .ref (X.1.1 kk) :: st) M := g_callW (Bs := [.int x0]) hM hw rfl rfl rfl hR hsum d (fun C H locs hP _ => gr_recv hk hc hcl C hP) k
theorem g_cV_IIII_I {X : Cx} {res : Option Value × Mem} {own : String} {cc : ByteArray} {nL fr lo pc : Nat} {L : List (Option Value)} {st : List Value} {M M1 : Mem} {y : MethodName} {cc2 : ByteArray} {nL2 index fr2 lo2 : Nat} {ret : Option FieldType} {x0 : Int32} {x1 : Int32} {x2 : Int32} {x3 : Int32} {r : Int32} {kk ci N : Nat} {T : u_T} {fs : List Value} (hM : Cn X.2.2.1 y cc2 nL2 ret fr2 lo2 (fun E => [.ref (E.1 kk), .int x0, .int x1, .int x2, .int x3]) M (some (.int r), M1)) (hw : CWv own index y cc2 nL2 ret 4) (hk : kk < nCell) (hc : cel X.1 kk (M.1 kk) (M.2 kk) = .inr (ci, fs)) (hcl : vwCl[ci]? = some (y.cls, T, N)) (hR : fr2 + 1 ≤ fr ∧ 8 + (nL2 + 11) + lo2 ≤ lo) (hsum : (st.map fun v => v.category).sum ≤ 8) (d : decode cc pc = .ok (.invokevirtual index, 3)) (k : G X res own cc nL fr lo (pc + 3) L (.int r :: st) M1) : G X res own cc nL fr lo pc L (.int x3 :: .int x2 :: .int x1 :: .int x0 :: .ref (X.1.1 kk) :: st) M := g_callW (Bs := [.int x0, .int x1, .int x2, .int x3]) hM hw rfl rfl rfl hR hsum d (fun C H locs hP _ => gr_recv hk hc hcl C hP) k
theorem g_cV_0_I {X : Cx} {res : Option Value × Mem} {own : String} {cc : ByteArray} {nL fr lo pc : Nat} {L : List (Option Value)} {st : List Value} {M M1 : Mem} {y : MethodName} {cc2 : ByteArray} {nL2 index fr2 lo2 : Nat} {ret : Option FieldType}  {r : Int32} {kk ci N : Nat} {T : u_T} {fs : List Value} (hM : Cn X.2.2.1 y cc2 nL2 ret fr2 lo2 (fun E => [.ref (E.1 kk)]) M (some (.int r), M1)) (hw : CWv own index y cc2 nL2 ret 0) (hk : kk < nCell) (hc : cel X.1 kk (M.1 kk) (M.2 kk) = .inr (ci, fs)) (hcl : vwCl[ci]? = some (y.cls, T, N)) (hR : fr2 + 1 ≤ fr ∧ 8 + (nL2 + 11) + lo2 ≤ lo) (hsum : (st.map fun v => v.category).sum ≤ 8) (d : decode cc pc = .ok (.invokevirtual index, 3)) (k : G X res own cc nL fr lo (pc + 3) L (.int r :: st) M1) : G X res own cc nL fr lo pc L (.ref (X.1.1 kk) :: st) M := g_callW (Bs := []) hM hw rfl rfl rfl hR hsum d (fun C H locs hP _ => gr_recv hk hc hcl C hP) k
theorem g_cV_II_V {X : Cx} {res : Option Value × Mem} {own : String} {cc : ByteArray} {nL fr lo pc : Nat} {L : List (Option Value)} {st : List Value} {M M1 : Mem} {y : MethodName} {cc2 : ByteArray} {nL2 index fr2 lo2 : Nat} {ret : Option FieldType} {x0 : Int32} {x1 : Int32}  {kk ci N : Nat} {T : u_T} {fs : List Value} (hM : Cn X.2.2.1 y cc2 nL2 ret fr2 lo2 (fun E => [.ref (E.1 kk), .int x0, .int x1]) M (none, M1)) (hw : CWv own index y cc2 nL2 ret 2) (hk : kk < nCell) (hc : cel X.1 kk (M.1 kk) (M.2 kk) = .inr (ci, fs)) (hcl : vwCl[ci]? = some (y.cls, T, N)) (hR : fr2 + 1 ≤ fr ∧ 8 + (nL2 + 11) + lo2 ≤ lo) (hsum : (st.map fun v => v.category).sum ≤ 8) (d : decode cc pc = .ok (.invokevirtual index, 3)) (k : G X res own cc nL fr lo (pc + 3) L (st) M1) : G X res own cc nL fr lo pc L (.int x1 :: .int x0 :: .ref (X.1.1 kk) :: st) M := g_callW (Bs := [.int x0, .int x1]) hM hw rfl rfl rfl hR hsum d (fun C H locs hP _ => gr_recv hk hc hcl C hP) k
theorem g_cV_III_I {X : Cx} {res : Option Value × Mem} {own : String} {cc : ByteArray} {nL fr lo pc : Nat} {L : List (Option Value)} {st : List Value} {M M1 : Mem} {y : MethodName} {cc2 : ByteArray} {nL2 index fr2 lo2 : Nat} {ret : Option FieldType} {x0 : Int32} {x1 : Int32} {x2 : Int32} {r : Int32} {kk ci N : Nat} {T : u_T} {fs : List Value} (hM : Cn X.2.2.1 y cc2 nL2 ret fr2 lo2 (fun E => [.ref (E.1 kk), .int x0, .int x1, .int x2]) M (some (.int r), M1)) (hw : CWv own index y cc2 nL2 ret 3) (hk : kk < nCell) (hc : cel X.1 kk (M.1 kk) (M.2 kk) = .inr (ci, fs)) (hcl : vwCl[ci]? = some (y.cls, T, N)) (hR : fr2 + 1 ≤ fr ∧ 8 + (nL2 + 11) + lo2 ≤ lo) (hsum : (st.map fun v => v.category).sum ≤ 8) (d : decode cc pc = .ok (.invokevirtual index, 3)) (k : G X res own cc nL fr lo (pc + 3) L (.int r :: st) M1) : G X res own cc nL fr lo pc L (.int x2 :: .int x1 :: .int x0 :: .ref (X.1.1 kk) :: st) M := g_callW (Bs := [.int x0, .int x1, .int x2]) hM hw rfl rfl rfl hR hsum d (fun C H locs hP _ => gr_recv hk hc hcl C hP) k
theorem g_cV_0_V {X : Cx} {res : Option Value × Mem} {own : String} {cc : ByteArray} {nL fr lo pc : Nat} {L : List (Option Value)} {st : List Value} {M M1 : Mem} {y : MethodName} {cc2 : ByteArray} {nL2 index fr2 lo2 : Nat} {ret : Option FieldType}   {kk ci N : Nat} {T : u_T} {fs : List Value} (hM : Cn X.2.2.1 y cc2 nL2 ret fr2 lo2 (fun E => [.ref (E.1 kk)]) M (none, M1)) (hw : CWv own index y cc2 nL2 ret 0) (hk : kk < nCell) (hc : cel X.1 kk (M.1 kk) (M.2 kk) = .inr (ci, fs)) (hcl : vwCl[ci]? = some (y.cls, T, N)) (hR : fr2 + 1 ≤ fr ∧ 8 + (nL2 + 11) + lo2 ≤ lo) (hsum : (st.map fun v => v.category).sum ≤ 8) (d : decode cc pc = .ok (.invokevirtual index, 3)) (k : G X res own cc nL fr lo (pc + 3) L (st) M1) : G X res own cc nL fr lo pc L (.ref (X.1.1 kk) :: st) M := g_callW (Bs := []) hM hw rfl rfl rfl hR hsum d (fun C H locs hP _ => gr_recv hk hc hcl C hP) k
theorem g_cS_I_I {X : Cx} {res : Option Value × Mem} {own : String} {cc : ByteArray} {nL fr lo pc : Nat} {L : List (Option Value)} {st : List Value} {M M1 : Mem} {y : MethodName} {cc2 : ByteArray} {nL2 index fr2 lo2 : Nat} {ret : Option FieldType} {x0 : Int32} {r : Int32} (hM : Cn X.2.2.1 y cc2 nL2 ret fr2 lo2 (fun E => [.int x0]) M (some (.int r), M1)) (hw : CWs own index y cc2 nL2 ret 1) (hR : fr2 + 1 ≤ fr ∧ 8 + (nL2 + 11) + lo2 ≤ lo) (hsum : (st.map fun v => v.category).sum ≤ 8) (d : decode cc pc = .ok (.invokestatic index, 3)) (k : G X res own cc nL fr lo (pc + 3) L (.int r :: st) M1) : G X res own cc nL fr lo pc L (.int x0 :: st) M := g_callS hM hw rfl rfl hR hsum d k
theorem g_cS_J_I {X : Cx} {res : Option Value × Mem} {own : String} {cc : ByteArray} {nL fr lo pc : Nat} {L : List (Option Value)} {st : List Value} {M M1 : Mem} {y : MethodName} {cc2 : ByteArray} {nL2 index fr2 lo2 : Nat} {ret : Option FieldType} {x0 : Int64} {r : Int32} (hM : Cn X.2.2.1 y cc2 nL2 ret fr2 lo2 (fun E => [.long x0]) M (some (.int r), M1)) (hw : CWs own index y cc2 nL2 ret 1) (hR : fr2 + 1 ≤ fr ∧ 8 + (nL2 + 11) + lo2 ≤ lo) (hsum : (st.map fun v => v.category).sum ≤ 8) (d : decode cc pc = .ok (.invokestatic index, 3)) (k : G X res own cc nL fr lo (pc + 3) L (.int r :: st) M1) : G X res own cc nL fr lo pc L (.long x0 :: st) M := g_callS hM hw rfl rfl hR hsum d k
theorem g_cS_JI_J {X : Cx} {res : Option Value × Mem} {own : String} {cc : ByteArray} {nL fr lo pc : Nat} {L : List (Option Value)} {st : List Value} {M M1 : Mem} {y : MethodName} {cc2 : ByteArray} {nL2 index fr2 lo2 : Nat} {ret : Option FieldType} {x0 : Int64} {x1 : Int32} {r : Int64} (hM : Cn X.2.2.1 y cc2 nL2 ret fr2 lo2 (fun E => [.long x0, .int x1]) M (some (.long r), M1)) (hw : CWs own index y cc2 nL2 ret 2) (hR : fr2 + 1 ≤ fr ∧ 8 + (nL2 + 11) + lo2 ≤ lo) (hsum : (st.map fun v => v.category).sum ≤ 8) (d : decode cc pc = .ok (.invokestatic index, 3)) (k : G X res own cc nL fr lo (pc + 3) L (.long r :: st) M1) : G X res own cc nL fr lo pc L (.int x1 :: .long x0 :: st) M := g_callS hM hw rfl rfl hR hsum d k
theorem g_cV_R_I {X : Cx} {res : Option Value × Mem} {own : String} {cc : ByteArray} {nL fr lo pc : Nat} {L : List (Option Value)} {st : List Value} {M M1 : Mem} {y : MethodName} {cc2 : ByteArray} {nL2 index fr2 lo2 : Nat} {ret : Option FieldType} {x0 : Nat} {r : Int32} {kk ci N : Nat} {T : u_T} {fs : List Value} (hM : Cn X.2.2.1 y cc2 nL2 ret fr2 lo2 (fun E => [.ref (E.1 kk), .ref (E.1 x0)]) M (some (.int r), M1)) (hw : CWv own index y cc2 nL2 ret 1) (hk : kk < nCell) (hc : cel X.1 kk (M.1 kk) (M.2 kk) = .inr (ci, fs)) (hcl : vwCl[ci]? = some (y.cls, T, N)) (hR : fr2 + 1 ≤ fr ∧ 8 + (nL2 + 11) + lo2 ≤ lo) (hsum : (st.map fun v => v.category).sum ≤ 8) (d : decode cc pc = .ok (.invokevirtual index, 3)) (k : G X res own cc nL fr lo (pc + 3) L (.int r :: st) M1) : G X res own cc nL fr lo pc L (.ref (X.1.1 x0) :: .ref (X.1.1 kk) :: st) M := g_callW (Bs := [.ref (X.1.1 x0)]) hM hw rfl rfl rfl hR hsum d (fun C H locs hP _ => gr_recv hk hc hcl C hP) k
theorem g_cV_II_I {X : Cx} {res : Option Value × Mem} {own : String} {cc : ByteArray} {nL fr lo pc : Nat} {L : List (Option Value)} {st : List Value} {M M1 : Mem} {y : MethodName} {cc2 : ByteArray} {nL2 index fr2 lo2 : Nat} {ret : Option FieldType} {x0 : Int32} {x1 : Int32} {r : Int32} {kk ci N : Nat} {T : u_T} {fs : List Value} (hM : Cn X.2.2.1 y cc2 nL2 ret fr2 lo2 (fun E => [.ref (E.1 kk), .int x0, .int x1]) M (some (.int r), M1)) (hw : CWv own index y cc2 nL2 ret 2) (hk : kk < nCell) (hc : cel X.1 kk (M.1 kk) (M.2 kk) = .inr (ci, fs)) (hcl : vwCl[ci]? = some (y.cls, T, N)) (hR : fr2 + 1 ≤ fr ∧ 8 + (nL2 + 11) + lo2 ≤ lo) (hsum : (st.map fun v => v.category).sum ≤ 8) (d : decode cc pc = .ok (.invokevirtual index, 3)) (k : G X res own cc nL fr lo (pc + 3) L (.int r :: st) M1) : G X res own cc nL fr lo pc L (.int x1 :: .int x0 :: .ref (X.1.1 kk) :: st) M := g_callW (Bs := [.int x0, .int x1]) hM hw rfl rfl rfl hR hsum d (fun C H locs hP _ => gr_recv hk hc hcl C hP) k
theorem g_cV_R_V {X : Cx} {res : Option Value × Mem} {own : String} {cc : ByteArray} {nL fr lo pc : Nat} {L : List (Option Value)} {st : List Value} {M M1 : Mem} {y : MethodName} {cc2 : ByteArray} {nL2 index fr2 lo2 : Nat} {ret : Option FieldType} {x0 : Nat}  {kk ci N : Nat} {T : u_T} {fs : List Value} (hM : Cn X.2.2.1 y cc2 nL2 ret fr2 lo2 (fun E => [.ref (E.1 kk), .ref (E.1 x0)]) M (none, M1)) (hw : CWv own index y cc2 nL2 ret 1) (hk : kk < nCell) (hc : cel X.1 kk (M.1 kk) (M.2 kk) = .inr (ci, fs)) (hcl : vwCl[ci]? = some (y.cls, T, N)) (hR : fr2 + 1 ≤ fr ∧ 8 + (nL2 + 11) + lo2 ≤ lo) (hsum : (st.map fun v => v.category).sum ≤ 8) (d : decode cc pc = .ok (.invokevirtual index, 3)) (k : G X res own cc nL fr lo (pc + 3) L (st) M1) : G X res own cc nL fr lo pc L (.ref (X.1.1 x0) :: .ref (X.1.1 kk) :: st) M := g_callW (Bs := [.ref (X.1.1 x0)]) hM hw rfl rfl rfl hR hsum d (fun C H locs hP _ => gr_recv hk hc hcl C hP) k
theorem g_cS_JI_I {X : Cx} {res : Option Value × Mem} {own : String} {cc : ByteArray} {nL fr lo pc : Nat} {L : List (Option Value)} {st : List Value} {M M1 : Mem} {y : MethodName} {cc2 : ByteArray} {nL2 index fr2 lo2 : Nat} {ret : Option FieldType} {x0 : Int64} {x1 : Int32} {r : Int32} (hM : Cn X.2.2.1 y cc2 nL2 ret fr2 lo2 (fun E => [.long x0, .int x1]) M (some (.int r), M1)) (hw : CWs own index y cc2 nL2 ret 2) (hR : fr2 + 1 ≤ fr ∧ 8 + (nL2 + 11) + lo2 ≤ lo) (hsum : (st.map fun v => v.category).sum ≤ 8) (d : decode cc pc = .ok (.invokestatic index, 3)) (k : G X res own cc nL fr lo (pc + 3) L (.int r :: st) M1) : G X res own cc nL fr lo pc L (.int x1 :: .long x0 :: st) M := g_callS hM hw rfl rfl hR hsum d k
theorem g_cS_J_J {X : Cx} {res : Option Value × Mem} {own : String} {cc : ByteArray} {nL fr lo pc : Nat} {L : List (Option Value)} {st : List Value} {M M1 : Mem} {y : MethodName} {cc2 : ByteArray} {nL2 index fr2 lo2 : Nat} {ret : Option FieldType} {x0 : Int64} {r : Int64} (hM : Cn X.2.2.1 y cc2 nL2 ret fr2 lo2 (fun E => [.long x0]) M (some (.long r), M1)) (hw : CWs own index y cc2 nL2 ret 1) (hR : fr2 + 1 ≤ fr ∧ 8 + (nL2 + 11) + lo2 ≤ lo) (hsum : (st.map fun v => v.category).sum ≤ 8) (d : decode cc pc = .ok (.invokestatic index, 3)) (k : G X res own cc nL fr lo (pc + 3) L (.long r :: st) M1) : G X res own cc nL fr lo pc L (.long x0 :: st) M := g_callS hM hw rfl rfl hR hsum d k
theorem g_cS_JII_J {X : Cx} {res : Option Value × Mem} {own : String} {cc : ByteArray} {nL fr lo pc : Nat} {L : List (Option Value)} {st : List Value} {M M1 : Mem} {y : MethodName} {cc2 : ByteArray} {nL2 index fr2 lo2 : Nat} {ret : Option FieldType} {x0 : Int64} {x1 : Int32} {x2 : Int32} {r : Int64} (hM : Cn X.2.2.1 y cc2 nL2 ret fr2 lo2 (fun E => [.long x0, .int x1, .int x2]) M (some (.long r), M1)) (hw : CWs own index y cc2 nL2 ret 3) (hR : fr2 + 1 ≤ fr ∧ 8 + (nL2 + 11) + lo2 ≤ lo) (hsum : (st.map fun v => v.category).sum ≤ 8) (d : decode cc pc = .ok (.invokestatic index, 3)) (k : G X res own cc nL fr lo (pc + 3) L (.long r :: st) M1) : G X res own cc nL fr lo pc L (.int x2 :: .int x1 :: .long x0 :: st) M := g_callS hM hw rfl rfl hR hsum d k
theorem g_cS_JIII_J {X : Cx} {res : Option Value × Mem} {own : String} {cc : ByteArray} {nL fr lo pc : Nat} {L : List (Option Value)} {st : List Value} {M M1 : Mem} {y : MethodName} {cc2 : ByteArray} {nL2 index fr2 lo2 : Nat} {ret : Option FieldType} {x0 : Int64} {x1 : Int32} {x2 : Int32} {x3 : Int32} {r : Int64} (hM : Cn X.2.2.1 y cc2 nL2 ret fr2 lo2 (fun E => [.long x0, .int x1, .int x2, .int x3]) M (some (.long r), M1)) (hw : CWs own index y cc2 nL2 ret 4) (hR : fr2 + 1 ≤ fr ∧ 8 + (nL2 + 11) + lo2 ≤ lo) (hsum : (st.map fun v => v.category).sum ≤ 8) (d : decode cc pc = .ok (.invokestatic index, 3)) (k : G X res own cc nL fr lo (pc + 3) L (.long r :: st) M1) : G X res own cc nL fr lo pc L (.int x3 :: .int x2 :: .int x1 :: .long x0 :: st) M := g_callS hM hw rfl rfl hR hsum d k
theorem g_cV_IJ_J {X : Cx} {res : Option Value × Mem} {own : String} {cc : ByteArray} {nL fr lo pc : Nat} {L : List (Option Value)} {st : List Value} {M M1 : Mem} {y : MethodName} {cc2 : ByteArray} {nL2 index fr2 lo2 : Nat} {ret : Option FieldType} {x0 : Int32} {x1 : Int64} {r : Int64} {kk ci N : Nat} {T : u_T} {fs : List Value} (hM : Cn X.2.2.1 y cc2 nL2 ret fr2 lo2 (fun E => [.ref (E.1 kk), .int x0, .long x1]) M (some (.long r), M1)) (hw : CWv own index y cc2 nL2 ret 2) (hk : kk < nCell) (hc : cel X.1 kk (M.1 kk) (M.2 kk) = .inr (ci, fs)) (hcl : vwCl[ci]? = some (y.cls, T, N)) (hR : fr2 + 1 ≤ fr ∧ 8 + (nL2 + 11) + lo2 ≤ lo) (hsum : (st.map fun v => v.category).sum ≤ 8) (d : decode cc pc = .ok (.invokevirtual index, 3)) (k : G X res own cc nL fr lo (pc + 3) L (.long r :: st) M1) : G X res own cc nL fr lo pc L (.long x1 :: .int x0 :: .ref (X.1.1 kk) :: st) M := g_callW (Bs := [.int x0, .long x1]) hM hw rfl rfl rfl hR hsum d (fun C H locs hP _ => gr_recv hk hc hcl C hP) k
theorem g_cS_RIII_I {X : Cx} {res : Option Value × Mem} {own : String} {cc : ByteArray} {nL fr lo pc : Nat} {L : List (Option Value)} {st : List Value} {M M1 : Mem} {y : MethodName} {cc2 : ByteArray} {nL2 index fr2 lo2 : Nat} {ret : Option FieldType} {x0 : Nat} {x1 : Int32} {x2 : Int32} {x3 : Int32} {r : Int32} (hM : Cn X.2.2.1 y cc2 nL2 ret fr2 lo2 (fun E => [.ref (E.1 x0), .int x1, .int x2, .int x3]) M (some (.int r), M1)) (hw : CWs own index y cc2 nL2 ret 4) (hR : fr2 + 1 ≤ fr ∧ 8 + (nL2 + 11) + lo2 ≤ lo) (hsum : (st.map fun v => v.category).sum ≤ 8) (d : decode cc pc = .ok (.invokestatic index, 3)) (k : G X res own cc nL fr lo (pc + 3) L (.int r :: st) M1) : G X res own cc nL fr lo pc L (.int x3 :: .int x2 :: .int x1 :: .ref (X.1.1 x0) :: st) M := g_callS hM hw rfl rfl hR hsum d k
theorem g_cV_RIJIII_V {X : Cx} {res : Option Value × Mem} {own : String} {cc : ByteArray} {nL fr lo pc : Nat} {L : List (Option Value)} {st : List Value} {M M1 : Mem} {y : MethodName} {cc2 : ByteArray} {nL2 index fr2 lo2 : Nat} {ret : Option FieldType} {x0 : Nat} {x1 : Int32} {x2 : Int64} {x3 : Int32} {x4 : Int32} {x5 : Int32}  {kk ci N : Nat} {T : u_T} {fs : List Value} (hM : Cn X.2.2.1 y cc2 nL2 ret fr2 lo2 (fun E => [.ref (E.1 kk), .ref (E.1 x0), .int x1, .long x2, .int x3, .int x4, .int x5]) M (none, M1)) (hw : CWv own index y cc2 nL2 ret 6) (hk : kk < nCell) (hc : cel X.1 kk (M.1 kk) (M.2 kk) = .inr (ci, fs)) (hcl : vwCl[ci]? = some (y.cls, T, N)) (hR : fr2 + 1 ≤ fr ∧ 8 + (nL2 + 11) + lo2 ≤ lo) (hsum : (st.map fun v => v.category).sum ≤ 8) (d : decode cc pc = .ok (.invokevirtual index, 3)) (k : G X res own cc nL fr lo (pc + 3) L (st) M1) : G X res own cc nL fr lo pc L (.int x5 :: .int x4 :: .int x3 :: .long x2 :: .int x1 :: .ref (X.1.1 x0) :: .ref (X.1.1 kk) :: st) M := g_callW (Bs := [.ref (X.1.1 x0), .int x1, .long x2, .int x3, .int x4, .int x5]) hM hw rfl rfl rfl hR hsum d (fun C H locs hP _ => gr_recv hk hc hcl C hP) k
theorem g_cV_RJII_V {X : Cx} {res : Option Value × Mem} {own : String} {cc : ByteArray} {nL fr lo pc : Nat} {L : List (Option Value)} {st : List Value} {M M1 : Mem} {y : MethodName} {cc2 : ByteArray} {nL2 index fr2 lo2 : Nat} {ret : Option FieldType} {x0 : Nat} {x1 : Int64} {x2 : Int32} {x3 : Int32}  {kk ci N : Nat} {T : u_T} {fs : List Value} (hM : Cn X.2.2.1 y cc2 nL2 ret fr2 lo2 (fun E => [.ref (E.1 kk), .ref (E.1 x0), .long x1, .int x2, .int x3]) M (none, M1)) (hw : CWv own index y cc2 nL2 ret 4) (hk : kk < nCell) (hc : cel X.1 kk (M.1 kk) (M.2 kk) = .inr (ci, fs)) (hcl : vwCl[ci]? = some (y.cls, T, N)) (hR : fr2 + 1 ≤ fr ∧ 8 + (nL2 + 11) + lo2 ≤ lo) (hsum : (st.map fun v => v.category).sum ≤ 8) (d : decode cc pc = .ok (.invokevirtual index, 3)) (k : G X res own cc nL fr lo (pc + 3) L (st) M1) : G X res own cc nL fr lo pc L (.int x3 :: .int x2 :: .long x1 :: .ref (X.1.1 x0) :: .ref (X.1.1 kk) :: st) M := g_callW (Bs := [.ref (X.1.1 x0), .long x1, .int x2, .int x3]) hM hw rfl rfl rfl hR hsum d (fun C H locs hP _ => gr_recv hk hc hcl C hP) k
theorem g_cS_JIJ_I {X : Cx} {res : Option Value × Mem} {own : String} {cc : ByteArray} {nL fr lo pc : Nat} {L : List (Option Value)} {st : List Value} {M M1 : Mem} {y : MethodName} {cc2 : ByteArray} {nL2 index fr2 lo2 : Nat} {ret : Option FieldType} {x0 : Int64} {x1 : Int32} {x2 : Int64} {r : Int32} (hM : Cn X.2.2.1 y cc2 nL2 ret fr2 lo2 (fun E => [.long x0, .int x1, .long x2]) M (some (.int r), M1)) (hw : CWs own index y cc2 nL2 ret 3) (hR : fr2 + 1 ≤ fr ∧ 8 + (nL2 + 11) + lo2 ≤ lo) (hsum : (st.map fun v => v.category).sum ≤ 8) (d : decode cc pc = .ok (.invokestatic index, 3)) (k : G X res own cc nL fr lo (pc + 3) L (.int r :: st) M1) : G X res own cc nL fr lo pc L (.long x2 :: .int x1 :: .long x0 :: st) M := g_callS hM hw rfl rfl hR hsum d k
theorem g_cS_JJ_I {X : Cx} {res : Option Value × Mem} {own : String} {cc : ByteArray} {nL fr lo pc : Nat} {L : List (Option Value)} {st : List Value} {M M1 : Mem} {y : MethodName} {cc2 : ByteArray} {nL2 index fr2 lo2 : Nat} {ret : Option FieldType} {x0 : Int64} {x1 : Int64} {r : Int32} (hM : Cn X.2.2.1 y cc2 nL2 ret fr2 lo2 (fun E => [.long x0, .long x1]) M (some (.int r), M1)) (hw : CWs own index y cc2 nL2 ret 2) (hR : fr2 + 1 ≤ fr ∧ 8 + (nL2 + 11) + lo2 ≤ lo) (hsum : (st.map fun v => v.category).sum ≤ 8) (d : decode cc pc = .ok (.invokestatic index, 3)) (k : G X res own cc nL fr lo (pc + 3) L (.int r :: st) M1) : G X res own cc nL fr lo pc L (.long x1 :: .long x0 :: st) M := g_callS hM hw rfl rfl hR hsum d k
theorem g_cS_RIJJII_I {X : Cx} {res : Option Value × Mem} {own : String} {cc : ByteArray} {nL fr lo pc : Nat} {L : List (Option Value)} {st : List Value} {M M1 : Mem} {y : MethodName} {cc2 : ByteArray} {nL2 index fr2 lo2 : Nat} {ret : Option FieldType} {x0 : Nat} {x1 : Int32} {x2 : Int64} {x3 : Int64} {x4 : Int32} {x5 : Int32} {r : Int32} (hM : Cn X.2.2.1 y cc2 nL2 ret fr2 lo2 (fun E => [.ref (E.1 x0), .int x1, .long x2, .long x3, .int x4, .int x5]) M (some (.int r), M1)) (hw : CWs own index y cc2 nL2 ret 6) (hR : fr2 + 1 ≤ fr ∧ 8 + (nL2 + 11) + lo2 ≤ lo) (hsum : (st.map fun v => v.category).sum ≤ 8) (d : decode cc pc = .ok (.invokestatic index, 3)) (k : G X res own cc nL fr lo (pc + 3) L (.int r :: st) M1) : G X res own cc nL fr lo pc L (.int x5 :: .int x4 :: .long x3 :: .long x2 :: .int x1 :: .ref (X.1.1 x0) :: st) M := g_callS hM hw rfl rfl hR hsum d k
theorem g_cS_RJJI_I {X : Cx} {res : Option Value × Mem} {own : String} {cc : ByteArray} {nL fr lo pc : Nat} {L : List (Option Value)} {st : List Value} {M M1 : Mem} {y : MethodName} {cc2 : ByteArray} {nL2 index fr2 lo2 : Nat} {ret : Option FieldType} {x0 : Nat} {x1 : Int64} {x2 : Int64} {x3 : Int32} {r : Int32} (hM : Cn X.2.2.1 y cc2 nL2 ret fr2 lo2 (fun E => [.ref (E.1 x0), .long x1, .long x2, .int x3]) M (some (.int r), M1)) (hw : CWs own index y cc2 nL2 ret 4) (hR : fr2 + 1 ≤ fr ∧ 8 + (nL2 + 11) + lo2 ≤ lo) (hsum : (st.map fun v => v.category).sum ≤ 8) (d : decode cc pc = .ok (.invokestatic index, 3)) (k : G X res own cc nL fr lo (pc + 3) L (.int r :: st) M1) : G X res own cc nL fr lo pc L (.int x3 :: .long x2 :: .long x1 :: .ref (X.1.1 x0) :: st) M := g_callS hM hw rfl rfl hR hsum d k
theorem g_cS_I_J {X : Cx} {res : Option Value × Mem} {own : String} {cc : ByteArray} {nL fr lo pc : Nat} {L : List (Option Value)} {st : List Value} {M M1 : Mem} {y : MethodName} {cc2 : ByteArray} {nL2 index fr2 lo2 : Nat} {ret : Option FieldType} {x0 : Int32} {r : Int64} (hM : Cn X.2.2.1 y cc2 nL2 ret fr2 lo2 (fun E => [.int x0]) M (some (.long r), M1)) (hw : CWs own index y cc2 nL2 ret 1) (hR : fr2 + 1 ≤ fr ∧ 8 + (nL2 + 11) + lo2 ≤ lo) (hsum : (st.map fun v => v.category).sum ≤ 8) (d : decode cc pc = .ok (.invokestatic index, 3)) (k : G X res own cc nL fr lo (pc + 3) L (.long r :: st) M1) : G X res own cc nL fr lo pc L (.int x0 :: st) M := g_callS hM hw rfl rfl hR hsum d k
theorem g_cV_IIJJ_V {X : Cx} {res : Option Value × Mem} {own : String} {cc : ByteArray} {nL fr lo pc : Nat} {L : List (Option Value)} {st : List Value} {M M1 : Mem} {y : MethodName} {cc2 : ByteArray} {nL2 index fr2 lo2 : Nat} {ret : Option FieldType} {x0 : Int32} {x1 : Int32} {x2 : Int64} {x3 : Int64}  {kk ci N : Nat} {T : u_T} {fs : List Value} (hM : Cn X.2.2.1 y cc2 nL2 ret fr2 lo2 (fun E => [.ref (E.1 kk), .int x0, .int x1, .long x2, .long x3]) M (none, M1)) (hw : CWv own index y cc2 nL2 ret 4) (hk : kk < nCell) (hc : cel X.1 kk (M.1 kk) (M.2 kk) = .inr (ci, fs)) (hcl : vwCl[ci]? = some (y.cls, T, N)) (hR : fr2 + 1 ≤ fr ∧ 8 + (nL2 + 11) + lo2 ≤ lo) (hsum : (st.map fun v => v.category).sum ≤ 8) (d : decode cc pc = .ok (.invokevirtual index, 3)) (k : G X res own cc nL fr lo (pc + 3) L (st) M1) : G X res own cc nL fr lo pc L (.long x3 :: .long x2 :: .int x1 :: .int x0 :: .ref (X.1.1 kk) :: st) M := g_callW (Bs := [.int x0, .int x1, .long x2, .long x3]) hM hw rfl rfl rfl hR hsum d (fun C H locs hP _ => gr_recv hk hc hcl C hP) k
theorem g_cV_JI_I {X : Cx} {res : Option Value × Mem} {own : String} {cc : ByteArray} {nL fr lo pc : Nat} {L : List (Option Value)} {st : List Value} {M M1 : Mem} {y : MethodName} {cc2 : ByteArray} {nL2 index fr2 lo2 : Nat} {ret : Option FieldType} {x0 : Int64} {x1 : Int32} {r : Int32} {kk ci N : Nat} {T : u_T} {fs : List Value} (hM : Cn X.2.2.1 y cc2 nL2 ret fr2 lo2 (fun E => [.ref (E.1 kk), .long x0, .int x1]) M (some (.int r), M1)) (hw : CWv own index y cc2 nL2 ret 2) (hk : kk < nCell) (hc : cel X.1 kk (M.1 kk) (M.2 kk) = .inr (ci, fs)) (hcl : vwCl[ci]? = some (y.cls, T, N)) (hR : fr2 + 1 ≤ fr ∧ 8 + (nL2 + 11) + lo2 ≤ lo) (hsum : (st.map fun v => v.category).sum ≤ 8) (d : decode cc pc = .ok (.invokevirtual index, 3)) (k : G X res own cc nL fr lo (pc + 3) L (.int r :: st) M1) : G X res own cc nL fr lo pc L (.int x1 :: .long x0 :: .ref (X.1.1 kk) :: st) M := g_callW (Bs := [.long x0, .int x1]) hM hw rfl rfl rfl hR hsum d (fun C H locs hP _ => gr_recv hk hc hcl C hP) k
theorem g_cS_JJ_J {X : Cx} {res : Option Value × Mem} {own : String} {cc : ByteArray} {nL fr lo pc : Nat} {L : List (Option Value)} {st : List Value} {M M1 : Mem} {y : MethodName} {cc2 : ByteArray} {nL2 index fr2 lo2 : Nat} {ret : Option FieldType} {x0 : Int64} {x1 : Int64} {r : Int64} (hM : Cn X.2.2.1 y cc2 nL2 ret fr2 lo2 (fun E => [.long x0, .long x1]) M (some (.long r), M1)) (hw : CWs own index y cc2 nL2 ret 2) (hR : fr2 + 1 ≤ fr ∧ 8 + (nL2 + 11) + lo2 ≤ lo) (hsum : (st.map fun v => v.category).sum ≤ 8) (d : decode cc pc = .ok (.invokestatic index, 3)) (k : G X res own cc nL fr lo (pc + 3) L (.long r :: st) M1) : G X res own cc nL fr lo pc L (.long x1 :: .long x0 :: st) M := g_callS hM hw rfl rfl hR hsum d k
theorem g_cV_JJ_V {X : Cx} {res : Option Value × Mem} {own : String} {cc : ByteArray} {nL fr lo pc : Nat} {L : List (Option Value)} {st : List Value} {M M1 : Mem} {y : MethodName} {cc2 : ByteArray} {nL2 index fr2 lo2 : Nat} {ret : Option FieldType} {x0 : Int64} {x1 : Int64}  {kk ci N : Nat} {T : u_T} {fs : List Value} (hM : Cn X.2.2.1 y cc2 nL2 ret fr2 lo2 (fun E => [.ref (E.1 kk), .long x0, .long x1]) M (none, M1)) (hw : CWv own index y cc2 nL2 ret 2) (hk : kk < nCell) (hc : cel X.1 kk (M.1 kk) (M.2 kk) = .inr (ci, fs)) (hcl : vwCl[ci]? = some (y.cls, T, N)) (hR : fr2 + 1 ≤ fr ∧ 8 + (nL2 + 11) + lo2 ≤ lo) (hsum : (st.map fun v => v.category).sum ≤ 8) (d : decode cc pc = .ok (.invokevirtual index, 3)) (k : G X res own cc nL fr lo (pc + 3) L (st) M1) : G X res own cc nL fr lo pc L (.long x1 :: .long x0 :: .ref (X.1.1 kk) :: st) M := g_callW (Bs := [.long x0, .long x1]) hM hw rfl rfl rfl hR hsum d (fun C H locs hP _ => gr_recv hk hc hcl C hP) k
theorem g_cS_II_J {X : Cx} {res : Option Value × Mem} {own : String} {cc : ByteArray} {nL fr lo pc : Nat} {L : List (Option Value)} {st : List Value} {M M1 : Mem} {y : MethodName} {cc2 : ByteArray} {nL2 index fr2 lo2 : Nat} {ret : Option FieldType} {x0 : Int32} {x1 : Int32} {r : Int64} (hM : Cn X.2.2.1 y cc2 nL2 ret fr2 lo2 (fun E => [.int x0, .int x1]) M (some (.long r), M1)) (hw : CWs own index y cc2 nL2 ret 2) (hR : fr2 + 1 ≤ fr ∧ 8 + (nL2 + 11) + lo2 ≤ lo) (hsum : (st.map fun v => v.category).sum ≤ 8) (d : decode cc pc = .ok (.invokestatic index, 3)) (k : G X res own cc nL fr lo (pc + 3) L (.long r :: st) M1) : G X res own cc nL fr lo pc L (.int x1 :: .int x0 :: st) M := g_callS hM hw rfl rfl hR hsum d k
theorem g_cV_IIII_V {X : Cx} {res : Option Value × Mem} {own : String} {cc : ByteArray} {nL fr lo pc : Nat} {L : List (Option Value)} {st : List Value} {M M1 : Mem} {y : MethodName} {cc2 : ByteArray} {nL2 index fr2 lo2 : Nat} {ret : Option FieldType} {x0 : Int32} {x1 : Int32} {x2 : Int32} {x3 : Int32}  {kk ci N : Nat} {T : u_T} {fs : List Value} (hM : Cn X.2.2.1 y cc2 nL2 ret fr2 lo2 (fun E => [.ref (E.1 kk), .int x0, .int x1, .int x2, .int x3]) M (none, M1)) (hw : CWv own index y cc2 nL2 ret 4) (hk : kk < nCell) (hc : cel X.1 kk (M.1 kk) (M.2 kk) = .inr (ci, fs)) (hcl : vwCl[ci]? = some (y.cls, T, N)) (hR : fr2 + 1 ≤ fr ∧ 8 + (nL2 + 11) + lo2 ≤ lo) (hsum : (st.map fun v => v.category).sum ≤ 8) (d : decode cc pc = .ok (.invokevirtual index, 3)) (k : G X res own cc nL fr lo (pc + 3) L (st) M1) : G X res own cc nL fr lo pc L (.int x3 :: .int x2 :: .int x1 :: .int x0 :: .ref (X.1.1 kk) :: st) M := g_callW (Bs := [.int x0, .int x1, .int x2, .int x3]) hM hw rfl rfl rfl hR hsum d (fun C H locs hP _ => gr_recv hk hc hcl C hP) k
theorem g_cV_JII_I {X : Cx} {res : Option Value × Mem} {own : String} {cc : ByteArray} {nL fr lo pc : Nat} {L : List (Option Value)} {st : List Value} {M M1 : Mem} {y : MethodName} {cc2 : ByteArray} {nL2 index fr2 lo2 : Nat} {ret : Option FieldType} {x0 : Int64} {x1 : Int32} {x2 : Int32} {r : Int32} {kk ci N : Nat} {T : u_T} {fs : List Value} (hM : Cn X.2.2.1 y cc2 nL2 ret fr2 lo2 (fun E => [.ref (E.1 kk), .long x0, .int x1, .int x2]) M (some (.int r), M1)) (hw : CWv own index y cc2 nL2 ret 3) (hk : kk < nCell) (hc : cel X.1 kk (M.1 kk) (M.2 kk) = .inr (ci, fs)) (hcl : vwCl[ci]? = some (y.cls, T, N)) (hR : fr2 + 1 ≤ fr ∧ 8 + (nL2 + 11) + lo2 ≤ lo) (hsum : (st.map fun v => v.category).sum ≤ 8) (d : decode cc pc = .ok (.invokevirtual index, 3)) (k : G X res own cc nL fr lo (pc + 3) L (.int r :: st) M1) : G X res own cc nL fr lo pc L (.int x2 :: .int x1 :: .long x0 :: .ref (X.1.1 kk) :: st) M := g_callW (Bs := [.long x0, .int x1, .int x2]) hM hw rfl rfl rfl hR hsum d (fun C H locs hP _ => gr_recv hk hc hcl C hP) k
theorem g_cS_III_I {X : Cx} {res : Option Value × Mem} {own : String} {cc : ByteArray} {nL fr lo pc : Nat} {L : List (Option Value)} {st : List Value} {M M1 : Mem} {y : MethodName} {cc2 : ByteArray} {nL2 index fr2 lo2 : Nat} {ret : Option FieldType} {x0 : Int32} {x1 : Int32} {x2 : Int32} {r : Int32} (hM : Cn X.2.2.1 y cc2 nL2 ret fr2 lo2 (fun E => [.int x0, .int x1, .int x2]) M (some (.int r), M1)) (hw : CWs own index y cc2 nL2 ret 3) (hR : fr2 + 1 ≤ fr ∧ 8 + (nL2 + 11) + lo2 ≤ lo) (hsum : (st.map fun v => v.category).sum ≤ 8) (d : decode cc pc = .ok (.invokestatic index, 3)) (k : G X res own cc nL fr lo (pc + 3) L (.int r :: st) M1) : G X res own cc nL fr lo pc L (.int x2 :: .int x1 :: .int x0 :: st) M := g_callS hM hw rfl rfl hR hsum d k
theorem g_cS_JJJ_I {X : Cx} {res : Option Value × Mem} {own : String} {cc : ByteArray} {nL fr lo pc : Nat} {L : List (Option Value)} {st : List Value} {M M1 : Mem} {y : MethodName} {cc2 : ByteArray} {nL2 index fr2 lo2 : Nat} {ret : Option FieldType} {x0 : Int64} {x1 : Int64} {x2 : Int64} {r : Int32} (hM : Cn X.2.2.1 y cc2 nL2 ret fr2 lo2 (fun E => [.long x0, .long x1, .long x2]) M (some (.int r), M1)) (hw : CWs own index y cc2 nL2 ret 3) (hR : fr2 + 1 ≤ fr ∧ 8 + (nL2 + 11) + lo2 ≤ lo) (hsum : (st.map fun v => v.category).sum ≤ 8) (d : decode cc pc = .ok (.invokestatic index, 3)) (k : G X res own cc nL fr lo (pc + 3) L (.int r :: st) M1) : G X res own cc nL fr lo pc L (.long x2 :: .long x1 :: .long x0 :: st) M := g_callS hM hw rfl rfl hR hsum d k
theorem g_cS_RI_V {X : Cx} {res : Option Value × Mem} {own : String} {cc : ByteArray} {nL fr lo pc : Nat} {L : List (Option Value)} {st : List Value} {M M1 : Mem} {y : MethodName} {cc2 : ByteArray} {nL2 index fr2 lo2 : Nat} {ret : Option FieldType} {x0 : Nat} {x1 : Int32}  (hM : Cn X.2.2.1 y cc2 nL2 ret fr2 lo2 (fun E => [.ref (E.1 x0), .int x1]) M (none, M1)) (hw : CWs own index y cc2 nL2 ret 2) (hR : fr2 + 1 ≤ fr ∧ 8 + (nL2 + 11) + lo2 ≤ lo) (hsum : (st.map fun v => v.category).sum ≤ 8) (d : decode cc pc = .ok (.invokestatic index, 3)) (k : G X res own cc nL fr lo (pc + 3) L (st) M1) : G X res own cc nL fr lo pc L (.int x1 :: .ref (X.1.1 x0) :: st) M := g_callS hM hw rfl rfl hR hsum d k
theorem g_cS_RIIII_V {X : Cx} {res : Option Value × Mem} {own : String} {cc : ByteArray} {nL fr lo pc : Nat} {L : List (Option Value)} {st : List Value} {M M1 : Mem} {y : MethodName} {cc2 : ByteArray} {nL2 index fr2 lo2 : Nat} {ret : Option FieldType} {x0 : Nat} {x1 : Int32} {x2 : Int32} {x3 : Int32} {x4 : Int32}  (hM : Cn X.2.2.1 y cc2 nL2 ret fr2 lo2 (fun E => [.ref (E.1 x0), .int x1, .int x2, .int x3, .int x4]) M (none, M1)) (hw : CWs own index y cc2 nL2 ret 5) (hR : fr2 + 1 ≤ fr ∧ 8 + (nL2 + 11) + lo2 ≤ lo) (hsum : (st.map fun v => v.category).sum ≤ 8) (d : decode cc pc = .ok (.invokestatic index, 3)) (k : G X res own cc nL fr lo (pc + 3) L (st) M1) : G X res own cc nL fr lo pc L (.int x4 :: .int x3 :: .int x2 :: .int x1 :: .ref (X.1.1 x0) :: st) M := g_callS hM hw rfl rfl hR hsum d k
theorem g_cV_IIIIIII_I {X : Cx} {res : Option Value × Mem} {own : String} {cc : ByteArray} {nL fr lo pc : Nat} {L : List (Option Value)} {st : List Value} {M M1 : Mem} {y : MethodName} {cc2 : ByteArray} {nL2 index fr2 lo2 : Nat} {ret : Option FieldType} {x0 : Int32} {x1 : Int32} {x2 : Int32} {x3 : Int32} {x4 : Int32} {x5 : Int32} {x6 : Int32} {r : Int32} {kk ci N : Nat} {T : u_T} {fs : List Value} (hM : Cn X.2.2.1 y cc2 nL2 ret fr2 lo2 (fun E => [.ref (E.1 kk), .int x0, .int x1, .int x2, .int x3, .int x4, .int x5, .int x6]) M (some (.int r), M1)) (hw : CWv own index y cc2 nL2 ret 7) (hk : kk < nCell) (hc : cel X.1 kk (M.1 kk) (M.2 kk) = .inr (ci, fs)) (hcl : vwCl[ci]? = some (y.cls, T, N)) (hR : fr2 + 1 ≤ fr ∧ 8 + (nL2 + 11) + lo2 ≤ lo) (hsum : (st.map fun v => v.category).sum ≤ 8) (d : decode cc pc = .ok (.invokevirtual index, 3)) (k : G X res own cc nL fr lo (pc + 3) L (.int r :: st) M1) : G X res own cc nL fr lo pc L (.int x6 :: .int x5 :: .int x4 :: .int x3 :: .int x2 :: .int x1 :: .int x0 :: .ref (X.1.1 kk) :: st) M := g_callW (Bs := [.int x0, .int x1, .int x2, .int x3, .int x4, .int x5, .int x6]) hM hw rfl rfl rfl hR hsum d (fun C H locs hP _ => gr_recv hk hc hcl C hP) k
theorem g_cS_IIIJ_J {X : Cx} {res : Option Value × Mem} {own : String} {cc : ByteArray} {nL fr lo pc : Nat} {L : List (Option Value)} {st : List Value} {M M1 : Mem} {y : MethodName} {cc2 : ByteArray} {nL2 index fr2 lo2 : Nat} {ret : Option FieldType} {x0 : Int32} {x1 : Int32} {x2 : Int32} {x3 : Int64} {r : Int64} (hM : Cn X.2.2.1 y cc2 nL2 ret fr2 lo2 (fun E => [.int x0, .int x1, .int x2, .long x3]) M (some (.long r), M1)) (hw : CWs own index y cc2 nL2 ret 4) (hR : fr2 + 1 ≤ fr ∧ 8 + (nL2 + 11) + lo2 ≤ lo) (hsum : (st.map fun v => v.category).sum ≤ 8) (d : decode cc pc = .ok (.invokestatic index, 3)) (k : G X res own cc nL fr lo (pc + 3) L (.long r :: st) M1) : G X res own cc nL fr lo pc L (.long x3 :: .int x2 :: .int x1 :: .int x0 :: st) M := g_callS hM hw rfl rfl hR hsum d k
theorem g_cS_IJ_I {X : Cx} {res : Option Value × Mem} {own : String} {cc : ByteArray} {nL fr lo pc : Nat} {L : List (Option Value)} {st : List Value} {M M1 : Mem} {y : MethodName} {cc2 : ByteArray} {nL2 index fr2 lo2 : Nat} {ret : Option FieldType} {x0 : Int32} {x1 : Int64} {r : Int32} (hM : Cn X.2.2.1 y cc2 nL2 ret fr2 lo2 (fun E => [.int x0, .long x1]) M (some (.int r), M1)) (hw : CWs own index y cc2 nL2 ret 2) (hR : fr2 + 1 ≤ fr ∧ 8 + (nL2 + 11) + lo2 ≤ lo) (hsum : (st.map fun v => v.category).sum ≤ 8) (d : decode cc pc = .ok (.invokestatic index, 3)) (k : G X res own cc nL fr lo (pc + 3) L (.int r :: st) M1) : G X res own cc nL fr lo pc L (.long x1 :: .int x0 :: st) M := g_callS hM hw rfl rfl hR hsum d k
theorem g_cV_JI_V {X : Cx} {res : Option Value × Mem} {own : String} {cc : ByteArray} {nL fr lo pc : Nat} {L : List (Option Value)} {st : List Value} {M M1 : Mem} {y : MethodName} {cc2 : ByteArray} {nL2 index fr2 lo2 : Nat} {ret : Option FieldType} {x0 : Int64} {x1 : Int32}  {kk ci N : Nat} {T : u_T} {fs : List Value} (hM : Cn X.2.2.1 y cc2 nL2 ret fr2 lo2 (fun E => [.ref (E.1 kk), .long x0, .int x1]) M (none, M1)) (hw : CWv own index y cc2 nL2 ret 2) (hk : kk < nCell) (hc : cel X.1 kk (M.1 kk) (M.2 kk) = .inr (ci, fs)) (hcl : vwCl[ci]? = some (y.cls, T, N)) (hR : fr2 + 1 ≤ fr ∧ 8 + (nL2 + 11) + lo2 ≤ lo) (hsum : (st.map fun v => v.category).sum ≤ 8) (d : decode cc pc = .ok (.invokevirtual index, 3)) (k : G X res own cc nL fr lo (pc + 3) L (st) M1) : G X res own cc nL fr lo pc L (.int x1 :: .long x0 :: .ref (X.1.1 kk) :: st) M := g_callW (Bs := [.long x0, .int x1]) hM hw rfl rfl rfl hR hsum d (fun C H locs hP _ => gr_recv hk hc hcl C hP) k
theorem g_cV_III_V {X : Cx} {res : Option Value × Mem} {own : String} {cc : ByteArray} {nL fr lo pc : Nat} {L : List (Option Value)} {st : List Value} {M M1 : Mem} {y : MethodName} {cc2 : ByteArray} {nL2 index fr2 lo2 : Nat} {ret : Option FieldType} {x0 : Int32} {x1 : Int32} {x2 : Int32}  {kk ci N : Nat} {T : u_T} {fs : List Value} (hM : Cn X.2.2.1 y cc2 nL2 ret fr2 lo2 (fun E => [.ref (E.1 kk), .int x0, .int x1, .int x2]) M (none, M1)) (hw : CWv own index y cc2 nL2 ret 3) (hk : kk < nCell) (hc : cel X.1 kk (M.1 kk) (M.2 kk) = .inr (ci, fs)) (hcl : vwCl[ci]? = some (y.cls, T, N)) (hR : fr2 + 1 ≤ fr ∧ 8 + (nL2 + 11) + lo2 ≤ lo) (hsum : (st.map fun v => v.category).sum ≤ 8) (d : decode cc pc = .ok (.invokevirtual index, 3)) (k : G X res own cc nL fr lo (pc + 3) L (st) M1) : G X res own cc nL fr lo pc L (.int x2 :: .int x1 :: .int x0 :: .ref (X.1.1 kk) :: st) M := g_callW (Bs := [.int x0, .int x1, .int x2]) hM hw rfl rfl rfl hR hsum d (fun C H locs hP _ => gr_recv hk hc hcl C hP) k
theorem g_cV_IIIII_I {X : Cx} {res : Option Value × Mem} {own : String} {cc : ByteArray} {nL fr lo pc : Nat} {L : List (Option Value)} {st : List Value} {M M1 : Mem} {y : MethodName} {cc2 : ByteArray} {nL2 index fr2 lo2 : Nat} {ret : Option FieldType} {x0 : Int32} {x1 : Int32} {x2 : Int32} {x3 : Int32} {x4 : Int32} {r : Int32} {kk ci N : Nat} {T : u_T} {fs : List Value} (hM : Cn X.2.2.1 y cc2 nL2 ret fr2 lo2 (fun E => [.ref (E.1 kk), .int x0, .int x1, .int x2, .int x3, .int x4]) M (some (.int r), M1)) (hw : CWv own index y cc2 nL2 ret 5) (hk : kk < nCell) (hc : cel X.1 kk (M.1 kk) (M.2 kk) = .inr (ci, fs)) (hcl : vwCl[ci]? = some (y.cls, T, N)) (hR : fr2 + 1 ≤ fr ∧ 8 + (nL2 + 11) + lo2 ≤ lo) (hsum : (st.map fun v => v.category).sum ≤ 8) (d : decode cc pc = .ok (.invokevirtual index, 3)) (k : G X res own cc nL fr lo (pc + 3) L (.int r :: st) M1) : G X res own cc nL fr lo pc L (.int x4 :: .int x3 :: .int x2 :: .int x1 :: .int x0 :: .ref (X.1.1 kk) :: st) M := g_callW (Bs := [.int x0, .int x1, .int x2, .int x3, .int x4]) hM hw rfl rfl rfl hR hsum d (fun C H locs hP _ => gr_recv hk hc hcl C hP) k
end

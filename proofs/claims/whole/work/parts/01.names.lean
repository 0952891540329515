-- ===== PART A: goes FIRST, ahead of the names: the tables' words, and 'selects' of the private methods out of them =====
/-- a private method of a class that the tables say can be made, by its rows of tables_1 -/
def lw_okq (q : MethodName × Nat) : Prop := (q.1.cls ≠ "java/lang/invoke/MethodHandle" ∧ q.1.cls ≠ "java/lang/invoke/VarHandle") ∧ Cond.instantiable q.1.cls q.2 ∈ tables_1 ∧ Cond.privateMethod q.1 ∈ tables_1 ∧ Cond.instanceMethod q.1 ∈ tables_1
theorem lw_p0 : lw_okq (⟨"HandsPicture$Reader", "advance", "()V"⟩, 7) := ⟨⟨by decide +kernel, by decide +kernel⟩, List.mem_of_getElem? (i := 31) (by decide +kernel), List.mem_of_getElem? (i := 388) (by decide +kernel), List.mem_of_getElem? (i := 389) (by decide +kernel)⟩
theorem lw_p1 : lw_okq (⟨"HandsPicture$Reader", "endOfRun", "(III)I"⟩, 7) := ⟨⟨by decide +kernel, by decide +kernel⟩, List.mem_of_getElem? (i := 31) (by decide +kernel), List.mem_of_getElem? (i := 392) (by decide +kernel), List.mem_of_getElem? (i := 393) (by decide +kernel)⟩
theorem lw_p2 : lw_okq (⟨"HandsPicture$Reader", "takeWord", "()V"⟩, 7) := ⟨⟨by decide +kernel, by decide +kernel⟩, List.mem_of_getElem? (i := 31) (by decide +kernel), List.mem_of_getElem? (i := 397) (by decide +kernel), List.mem_of_getElem? (i := 398) (by decide +kernel)⟩
theorem lw_p3 : lw_okq (⟨"HandsPicture$Reader", "spells", "(Ljava/lang/String;)Z"⟩, 7) := ⟨⟨by decide +kernel, by decide +kernel⟩, List.mem_of_getElem? (i := 31) (by decide +kernel), List.mem_of_getElem? (i := 412) (by decide +kernel), List.mem_of_getElem? (i := 413) (by decide +kernel)⟩
theorem lw_p4 : lw_okq (⟨"HandsPicture$Reader", "takeNumber", "()V"⟩, 7) := ⟨⟨by decide +kernel, by decide +kernel⟩, List.mem_of_getElem? (i := 31) (by decide +kernel), List.mem_of_getElem? (i := 464) (by decide +kernel), List.mem_of_getElem? (i := 465) (by decide +kernel)⟩
theorem lw_p5 : lw_okq (⟨"HandsPicture$Reader", "takeSign", "()V"⟩, 7) := ⟨⟨by decide +kernel, by decide +kernel⟩, List.mem_of_getElem? (i := 31) (by decide +kernel), List.mem_of_getElem? (i := 468) (by decide +kernel), List.mem_of_getElem? (i := 469) (by decide +kernel)⟩
theorem lw_p6 : lw_okq (⟨"HandsPicture$Reader", "readLaw", "(LHandsPicture$Laws;)Z"⟩, 7) := ⟨⟨by decide +kernel, by decide +kernel⟩, List.mem_of_getElem? (i := 31) (by decide +kernel), List.mem_of_getElem? (i := 472) (by decide +kernel), List.mem_of_getElem? (i := 473) (by decide +kernel)⟩
theorem lw_p7 : lw_okq (⟨"HandsPicture$Reader", "isWord", "(I)Z"⟩, 7) := ⟨⟨by decide +kernel, by decide +kernel⟩, List.mem_of_getElem? (i := 31) (by decide +kernel), List.mem_of_getElem? (i := 476) (by decide +kernel), List.mem_of_getElem? (i := 477) (by decide +kernel)⟩
theorem lw_p8 : lw_okq (⟨"HandsPicture$Reader", "isNumber", "(II)Z"⟩, 7) := ⟨⟨by decide +kernel, by decide +kernel⟩, List.mem_of_getElem? (i := 31) (by decide +kernel), List.mem_of_getElem? (i := 480) (by decide +kernel), List.mem_of_getElem? (i := 481) (by decide +kernel)⟩
theorem lw_p9 : lw_okq (⟨"HandsPicture$Reader", "readEnds", "(LHandsPicture$Laws;Z)Z"⟩, 7) := ⟨⟨by decide +kernel, by decide +kernel⟩, List.mem_of_getElem? (i := 31) (by decide +kernel), List.mem_of_getElem? (i := 488) (by decide +kernel), List.mem_of_getElem? (i := 489) (by decide +kernel)⟩
theorem lw_p10 : lw_okq (⟨"HandsPicture", "isLaw", "(I)Z"⟩, 12) := ⟨⟨by decide +kernel, by decide +kernel⟩, List.mem_of_getElem? (i := 23) (by decide +kernel), List.mem_of_getElem? (i := 525) (by decide +kernel), List.mem_of_getElem? (i := 526) (by decide +kernel)⟩
theorem lw_p11 : lw_okq (⟨"HandsPicture", "isChange", "(I)Z"⟩, 12) := ⟨⟨by decide +kernel, by decide +kernel⟩, List.mem_of_getElem? (i := 23) (by decide +kernel), List.mem_of_getElem? (i := 567) (by decide +kernel), List.mem_of_getElem? (i := 568) (by decide +kernel)⟩
theorem lw_p12 : lw_okq (⟨"HandsPicture$Story", "counts", "(III)Z"⟩, 12) := ⟨⟨by decide +kernel, by decide +kernel⟩, List.mem_of_getElem? (i := 60) (by decide +kernel), List.mem_of_getElem? (i := 637) (by decide +kernel), List.mem_of_getElem? (i := 638) (by decide +kernel)⟩
theorem lw_p13 : lw_okq (⟨"HandsPicture$Story", "isUndone", "(III)Z"⟩, 12) := ⟨⟨by decide +kernel, by decide +kernel⟩, List.mem_of_getElem? (i := 60) (by decide +kernel), List.mem_of_getElem? (i := 642) (by decide +kernel), List.mem_of_getElem? (i := 643) (by decide +kernel)⟩
theorem lw_p14 : lw_okq (⟨"HandsPicture$Story", "apply", "(LHandsPicture$Picture;I)V"⟩, 12) := ⟨⟨by decide +kernel, by decide +kernel⟩, List.mem_of_getElem? (i := 60) (by decide +kernel), List.mem_of_getElem? (i := 646) (by decide +kernel), List.mem_of_getElem? (i := 647) (by decide +kernel)⟩
theorem lw_p15 : lw_okq (⟨"HandsPicture$Story", "isStandingMove", "(II)Z"⟩, 12) := ⟨⟨by decide +kernel, by decide +kernel⟩, List.mem_of_getElem? (i := 60) (by decide +kernel), List.mem_of_getElem? (i := 678) (by decide +kernel), List.mem_of_getElem? (i := 679) (by decide +kernel)⟩
def lw_privs_1 : List (MethodName × Nat) := [(⟨"HandsPicture$Reader", "advance", "()V"⟩, 7), (⟨"HandsPicture$Reader", "endOfRun", "(III)I"⟩, 7), (⟨"HandsPicture$Reader", "takeWord", "()V"⟩, 7), (⟨"HandsPicture$Reader", "spells", "(Ljava/lang/String;)Z"⟩, 7), (⟨"HandsPicture$Reader", "takeNumber", "()V"⟩, 7), (⟨"HandsPicture$Reader", "takeSign", "()V"⟩, 7), (⟨"HandsPicture$Reader", "readLaw", "(LHandsPicture$Laws;)Z"⟩, 7), (⟨"HandsPicture$Reader", "isWord", "(I)Z"⟩, 7), (⟨"HandsPicture$Reader", "isNumber", "(II)Z"⟩, 7), (⟨"HandsPicture$Reader", "readEnds", "(LHandsPicture$Laws;Z)Z"⟩, 7), (⟨"HandsPicture", "isLaw", "(I)Z"⟩, 12), (⟨"HandsPicture", "isChange", "(I)Z"⟩, 12), (⟨"HandsPicture$Story", "counts", "(III)Z"⟩, 12), (⟨"HandsPicture$Story", "isUndone", "(III)Z"⟩, 12), (⟨"HandsPicture$Story", "apply", "(LHandsPicture$Picture;I)V"⟩, 12), (⟨"HandsPicture$Story", "isStandingMove", "(II)Z"⟩, 12)]
theorem lw_r1 : ∀ q ∈ lw_privs_1, lw_okq q := List.forall_mem_cons.mpr ⟨lw_p0, List.forall_mem_cons.mpr ⟨lw_p1, List.forall_mem_cons.mpr ⟨lw_p2, List.forall_mem_cons.mpr ⟨lw_p3, List.forall_mem_cons.mpr ⟨lw_p4, List.forall_mem_cons.mpr ⟨lw_p5, List.forall_mem_cons.mpr ⟨lw_p6, List.forall_mem_cons.mpr ⟨lw_p7, List.forall_mem_cons.mpr ⟨lw_p8, List.forall_mem_cons.mpr ⟨lw_p9, List.forall_mem_cons.mpr ⟨lw_p10, List.forall_mem_cons.mpr ⟨lw_p11, List.forall_mem_cons.mpr ⟨lw_p12, List.forall_mem_cons.mpr ⟨lw_p13, List.forall_mem_cons.mpr ⟨lw_p14, List.forall_mem_cons.mpr ⟨lw_p15, fun _ h => absurd h List.not_mem_nil⟩⟩⟩⟩⟩⟩⟩⟩⟩⟩⟩⟩⟩⟩⟩⟩
theorem lw_p16 : lw_okq (⟨"HandsPicture$Story", "meetsEarlier", "(II)Z"⟩, 12) := ⟨⟨by decide +kernel, by decide +kernel⟩, List.mem_of_getElem? (i := 60) (by decide +kernel), List.mem_of_getElem? (i := 682) (by decide +kernel), List.mem_of_getElem? (i := 683) (by decide +kernel)⟩
theorem lw_p17 : lw_okq (⟨"HandsPicture", "settleFor", "(II)V"⟩, 12) := ⟨⟨by decide +kernel, by decide +kernel⟩, List.mem_of_getElem? (i := 23) (by decide +kernel), List.mem_of_getElem? (i := 707) (by decide +kernel), List.mem_of_getElem? (i := 708) (by decide +kernel)⟩
theorem lw_p18 : lw_okq (⟨"HandsPicture", "countingFor", "(II)I"⟩, 12) := ⟨⟨by decide +kernel, by decide +kernel⟩, List.mem_of_getElem? (i := 23) (by decide +kernel), List.mem_of_getElem? (i := 715) (by decide +kernel), List.mem_of_getElem? (i := 716) (by decide +kernel)⟩
theorem lw_p19 : lw_okq (⟨"HandsPicture", "showLast", "(I)V"⟩, 12) := ⟨⟨by decide +kernel, by decide +kernel⟩, List.mem_of_getElem? (i := 23) (by decide +kernel), List.mem_of_getElem? (i := 719) (by decide +kernel), List.mem_of_getElem? (i := 720) (by decide +kernel)⟩
theorem lw_p20 : lw_okq (⟨"HandsPicture$Gaps", "fillApart", "(I)V"⟩, 1) := ⟨⟨by decide +kernel, by decide +kernel⟩, List.mem_of_getElem? (i := 138) (by decide +kernel), List.mem_of_getElem? (i := 748) (by decide +kernel), List.mem_of_getElem? (i := 749) (by decide +kernel)⟩
theorem lw_p21 : lw_okq (⟨"HandsPicture$Gaps", "ask", "(III)Z"⟩, 1) := ⟨⟨by decide +kernel, by decide +kernel⟩, List.mem_of_getElem? (i := 138) (by decide +kernel), List.mem_of_getElem? (i := 773) (by decide +kernel), List.mem_of_getElem? (i := 774) (by decide +kernel)⟩
theorem lw_p22 : lw_okq (⟨"HandsPicture$Axis", "gatherWishes", "(LHandsPicture$Laws;I)V"⟩, 10) := ⟨⟨by decide +kernel, by decide +kernel⟩, List.mem_of_getElem? (i := 132) (by decide +kernel), List.mem_of_getElem? (i := 778) (by decide +kernel), List.mem_of_getElem? (i := 779) (by decide +kernel)⟩
theorem lw_p23 : lw_okq (⟨"HandsPicture$Axis", "tryWishes", "(LHandsPicture$Laws;I[I)V"⟩, 10) := ⟨⟨by decide +kernel, by decide +kernel⟩, List.mem_of_getElem? (i := 132) (by decide +kernel), List.mem_of_getElem? (i := 783) (by decide +kernel), List.mem_of_getElem? (i := 784) (by decide +kernel)⟩
theorem lw_p24 : lw_okq (⟨"HandsPicture$Axis", "canHold", "(LHandsPicture$Laws;I)Z"⟩, 10) := ⟨⟨by decide +kernel, by decide +kernel⟩, List.mem_of_getElem? (i := 132) (by decide +kernel), List.mem_of_getElem? (i := 791) (by decide +kernel), List.mem_of_getElem? (i := 792) (by decide +kernel)⟩
theorem lw_p25 : lw_okq (⟨"HandsPicture$Axis", "moveLeast", "([I)V"⟩, 10) := ⟨⟨by decide +kernel, by decide +kernel⟩, List.mem_of_getElem? (i := 132) (by decide +kernel), List.mem_of_getElem? (i := 803) (by decide +kernel), List.mem_of_getElem? (i := 804) (by decide +kernel)⟩
theorem lw_p26 : lw_okq (⟨"HandsPicture$Axis", "bestRise", "([I)I"⟩, 10) := ⟨⟨by decide +kernel, by decide +kernel⟩, List.mem_of_getElem? (i := 132) (by decide +kernel), List.mem_of_getElem? (i := 811) (by decide +kernel), List.mem_of_getElem? (i := 812) (by decide +kernel)⟩
theorem lw_p27 : lw_okq (⟨"HandsPicture$Axis", "distance", "([I)I"⟩, 10) := ⟨⟨by decide +kernel, by decide +kernel⟩, List.mem_of_getElem? (i := 132) (by decide +kernel), List.mem_of_getElem? (i := 819) (by decide +kernel), List.mem_of_getElem? (i := 820) (by decide +kernel)⟩
theorem lw_p28 : lw_okq (⟨"HandsPicture$Axis", "comesFirst", "()Z"⟩, 10) := ⟨⟨by decide +kernel, by decide +kernel⟩, List.mem_of_getElem? (i := 132) (by decide +kernel), List.mem_of_getElem? (i := 826) (by decide +kernel), List.mem_of_getElem? (i := 827) (by decide +kernel)⟩
theorem lw_p29 : lw_okq (⟨"HandsPicture$Quarrels", "shortest", "(LHandsPicture$Laws;III)I"⟩, 2) := ⟨⟨by decide +kernel, by decide +kernel⟩, List.mem_of_getElem? (i := 200) (by decide +kernel), List.mem_of_getElem? (i := 884) (by decide +kernel), List.mem_of_getElem? (i := 885) (by decide +kernel)⟩
theorem lw_p30 : lw_okq (⟨"HandsPicture$Quarrels", "goOn", "(LHandsPicture$Laws;I)V"⟩, 2) := ⟨⟨by decide +kernel, by decide +kernel⟩, List.mem_of_getElem? (i := 200) (by decide +kernel), List.mem_of_getElem? (i := 889) (by decide +kernel), List.mem_of_getElem? (i := 890) (by decide +kernel)⟩
theorem lw_p31 : lw_okq (⟨"HandsPicture$Quarrels", "walk", "(III)V"⟩, 2) := ⟨⟨by decide +kernel, by decide +kernel⟩, List.mem_of_getElem? (i := 200) (by decide +kernel), List.mem_of_getElem? (i := 897) (by decide +kernel), List.mem_of_getElem? (i := 898) (by decide +kernel)⟩
def lw_privs_2 : List (MethodName × Nat) := [(⟨"HandsPicture$Story", "meetsEarlier", "(II)Z"⟩, 12), (⟨"HandsPicture", "settleFor", "(II)V"⟩, 12), (⟨"HandsPicture", "countingFor", "(II)I"⟩, 12), (⟨"HandsPicture", "showLast", "(I)V"⟩, 12), (⟨"HandsPicture$Gaps", "fillApart", "(I)V"⟩, 1), (⟨"HandsPicture$Gaps", "ask", "(III)Z"⟩, 1), (⟨"HandsPicture$Axis", "gatherWishes", "(LHandsPicture$Laws;I)V"⟩, 10), (⟨"HandsPicture$Axis", "tryWishes", "(LHandsPicture$Laws;I[I)V"⟩, 10), (⟨"HandsPicture$Axis", "canHold", "(LHandsPicture$Laws;I)Z"⟩, 10), (⟨"HandsPicture$Axis", "moveLeast", "([I)V"⟩, 10), (⟨"HandsPicture$Axis", "bestRise", "([I)I"⟩, 10), (⟨"HandsPicture$Axis", "distance", "([I)I"⟩, 10), (⟨"HandsPicture$Axis", "comesFirst", "()Z"⟩, 10), (⟨"HandsPicture$Quarrels", "shortest", "(LHandsPicture$Laws;III)I"⟩, 2), (⟨"HandsPicture$Quarrels", "goOn", "(LHandsPicture$Laws;I)V"⟩, 2), (⟨"HandsPicture$Quarrels", "walk", "(III)V"⟩, 2)]
theorem lw_r2 : ∀ q ∈ lw_privs_2, lw_okq q := List.forall_mem_cons.mpr ⟨lw_p16, List.forall_mem_cons.mpr ⟨lw_p17, List.forall_mem_cons.mpr ⟨lw_p18, List.forall_mem_cons.mpr ⟨lw_p19, List.forall_mem_cons.mpr ⟨lw_p20, List.forall_mem_cons.mpr ⟨lw_p21, List.forall_mem_cons.mpr ⟨lw_p22, List.forall_mem_cons.mpr ⟨lw_p23, List.forall_mem_cons.mpr ⟨lw_p24, List.forall_mem_cons.mpr ⟨lw_p25, List.forall_mem_cons.mpr ⟨lw_p26, List.forall_mem_cons.mpr ⟨lw_p27, List.forall_mem_cons.mpr ⟨lw_p28, List.forall_mem_cons.mpr ⟨lw_p29, List.forall_mem_cons.mpr ⟨lw_p30, List.forall_mem_cons.mpr ⟨lw_p31, fun _ h => absurd h List.not_mem_nil⟩⟩⟩⟩⟩⟩⟩⟩⟩⟩⟩⟩⟩⟩⟩⟩
theorem lw_p32 : lw_okq (⟨"HandsPicture$Quarrels", "isTooFar", "(I)Z"⟩, 2) := ⟨⟨by decide +kernel, by decide +kernel⟩, List.mem_of_getElem? (i := 200) (by decide +kernel), List.mem_of_getElem? (i := 902) (by decide +kernel), List.mem_of_getElem? (i := 903) (by decide +kernel)⟩
theorem lw_p33 : lw_okq (⟨"HandsPicture", "isForcedBy", "(II)Z"⟩, 12) := ⟨⟨by decide +kernel, by decide +kernel⟩, List.mem_of_getElem? (i := 23) (by decide +kernel), List.mem_of_getElem? (i := 915) (by decide +kernel), List.mem_of_getElem? (i := 916) (by decide +kernel)⟩
theorem lw_p34 : lw_okq (⟨"HandsPicture", "isLine", "(I)Z"⟩, 12) := ⟨⟨by decide +kernel, by decide +kernel⟩, List.mem_of_getElem? (i := 23) (by decide +kernel), List.mem_of_getElem? (i := 964) (by decide +kernel), List.mem_of_getElem? (i := 965) (by decide +kernel)⟩
theorem lw_p35 : lw_okq (⟨"HandsPicture$Kinds", "partInk", "()I"⟩, 3) := ⟨⟨by decide +kernel, by decide +kernel⟩, List.mem_of_getElem? (i := 244) (by decide +kernel), List.mem_of_getElem? (i := 994) (by decide +kernel), List.mem_of_getElem? (i := 995) (by decide +kernel)⟩
theorem lw_p36 : lw_okq (⟨"HandsPicture$Kinds", "lineInk", "()I"⟩, 3) := ⟨⟨by decide +kernel, by decide +kernel⟩, List.mem_of_getElem? (i := 244) (by decide +kernel), List.mem_of_getElem? (i := 998) (by decide +kernel), List.mem_of_getElem? (i := 999) (by decide +kernel)⟩
theorem lw_p37 : lw_okq (⟨"HandsPicture$Kinds", "arcInk", "()I"⟩, 3) := ⟨⟨by decide +kernel, by decide +kernel⟩, List.mem_of_getElem? (i := 244) (by decide +kernel), List.mem_of_getElem? (i := 1003) (by decide +kernel), List.mem_of_getElem? (i := 1004) (by decide +kernel)⟩
theorem lw_p38 : lw_okq (⟨"HandsPicture$Kinds", "dashInk", "()I"⟩, 3) := ⟨⟨by decide +kernel, by decide +kernel⟩, List.mem_of_getElem? (i := 244) (by decide +kernel), List.mem_of_getElem? (i := 1008) (by decide +kernel), List.mem_of_getElem? (i := 1009) (by decide +kernel)⟩
theorem lw_p39 : lw_okq (⟨"HandsPicture$Kinds", "useInk", "()I"⟩, 3) := ⟨⟨by decide +kernel, by decide +kernel⟩, List.mem_of_getElem? (i := 244) (by decide +kernel), List.mem_of_getElem? (i := 1013) (by decide +kernel), List.mem_of_getElem? (i := 1014) (by decide +kernel)⟩
theorem lw_p40 : lw_okq (⟨"HandsPicture$Lines", "drawTaken", "()V"⟩, 8) := ⟨⟨by decide +kernel, by decide +kernel⟩, List.mem_of_getElem? (i := 213) (by decide +kernel), List.mem_of_getElem? (i := 1027) (by decide +kernel), List.mem_of_getElem? (i := 1028) (by decide +kernel)⟩
theorem lw_p41 : lw_okq (⟨"HandsPicture$Lines", "takenHas", "(II)Z"⟩, 8) := ⟨⟨by decide +kernel, by decide +kernel⟩, List.mem_of_getElem? (i := 213) (by decide +kernel), List.mem_of_getElem? (i := 1051) (by decide +kernel), List.mem_of_getElem? (i := 1052) (by decide +kernel)⟩
theorem lw_p42 : lw_okq (⟨"HandsPicture$Words", "breakFrom", "(II)V"⟩, 4) := ⟨⟨by decide +kernel, by decide +kernel⟩, List.mem_of_getElem? (i := 260) (by decide +kernel), List.mem_of_getElem? (i := 1075) (by decide +kernel), List.mem_of_getElem? (i := 1076) (by decide +kernel)⟩
theorem lw_p43 : lw_okq (⟨"HandsPictureModel", "next", "()V"⟩, 42) := ⟨⟨by decide +kernel, by decide +kernel⟩, List.mem_of_getElem? (i := 1115) (by decide +kernel), List.mem_of_getElem? (i := 1265) (by decide +kernel), List.mem_of_getElem? (i := 1266) (by decide +kernel)⟩
theorem lw_p44 : lw_okq (⟨"HandsPictureModel", "here", "()I"⟩, 42) := ⟨⟨by decide +kernel, by decide +kernel⟩, List.mem_of_getElem? (i := 1115) (by decide +kernel), List.mem_of_getElem? (i := 1269) (by decide +kernel), List.mem_of_getElem? (i := 1270) (by decide +kernel)⟩
theorem lw_p45 : lw_okq (⟨"HandsPictureModel", "wordOf", "(II)I"⟩, 42) := ⟨⟨by decide +kernel, by decide +kernel⟩, List.mem_of_getElem? (i := 1115) (by decide +kernel), List.mem_of_getElem? (i := 1273) (by decide +kernel), List.mem_of_getElem? (i := 1274) (by decide +kernel)⟩
theorem lw_p46 : lw_okq (⟨"HandsPictureModel", "readLaw", "(I)V"⟩, 42) := ⟨⟨by decide +kernel, by decide +kernel⟩, List.mem_of_getElem? (i := 1115) (by decide +kernel), List.mem_of_getElem? (i := 1285) (by decide +kernel), List.mem_of_getElem? (i := 1286) (by decide +kernel)⟩
theorem lw_p47 : lw_okq (⟨"HandsPictureModel", "due", "(Z)I"⟩, 42) := ⟨⟨by decide +kernel, by decide +kernel⟩, List.mem_of_getElem? (i := 1115) (by decide +kernel), List.mem_of_getElem? (i := 1289) (by decide +kernel), List.mem_of_getElem? (i := 1290) (by decide +kernel)⟩
def lw_privs_3 : List (MethodName × Nat) := [(⟨"HandsPicture$Quarrels", "isTooFar", "(I)Z"⟩, 2), (⟨"HandsPicture", "isForcedBy", "(II)Z"⟩, 12), (⟨"HandsPicture", "isLine", "(I)Z"⟩, 12), (⟨"HandsPicture$Kinds", "partInk", "()I"⟩, 3), (⟨"HandsPicture$Kinds", "lineInk", "()I"⟩, 3), (⟨"HandsPicture$Kinds", "arcInk", "()I"⟩, 3), (⟨"HandsPicture$Kinds", "dashInk", "()I"⟩, 3), (⟨"HandsPicture$Kinds", "useInk", "()I"⟩, 3), (⟨"HandsPicture$Lines", "drawTaken", "()V"⟩, 8), (⟨"HandsPicture$Lines", "takenHas", "(II)Z"⟩, 8), (⟨"HandsPicture$Words", "breakFrom", "(II)V"⟩, 4), (⟨"HandsPictureModel", "next", "()V"⟩, 42), (⟨"HandsPictureModel", "here", "()I"⟩, 42), (⟨"HandsPictureModel", "wordOf", "(II)I"⟩, 42), (⟨"HandsPictureModel", "readLaw", "(I)V"⟩, 42), (⟨"HandsPictureModel", "due", "(Z)I"⟩, 42)]
theorem lw_r3 : ∀ q ∈ lw_privs_3, lw_okq q := List.forall_mem_cons.mpr ⟨lw_p32, List.forall_mem_cons.mpr ⟨lw_p33, List.forall_mem_cons.mpr ⟨lw_p34, List.forall_mem_cons.mpr ⟨lw_p35, List.forall_mem_cons.mpr ⟨lw_p36, List.forall_mem_cons.mpr ⟨lw_p37, List.forall_mem_cons.mpr ⟨lw_p38, List.forall_mem_cons.mpr ⟨lw_p39, List.forall_mem_cons.mpr ⟨lw_p40, List.forall_mem_cons.mpr ⟨lw_p41, List.forall_mem_cons.mpr ⟨lw_p42, List.forall_mem_cons.mpr ⟨lw_p43, List.forall_mem_cons.mpr ⟨lw_p44, List.forall_mem_cons.mpr ⟨lw_p45, List.forall_mem_cons.mpr ⟨lw_p46, List.forall_mem_cons.mpr ⟨lw_p47, fun _ h => absurd h List.not_mem_nil⟩⟩⟩⟩⟩⟩⟩⟩⟩⟩⟩⟩⟩⟩⟩⟩
theorem lw_p48 : lw_okq (⟨"HandsPictureModel", "number", "(II)I"⟩, 42) := ⟨⟨by decide +kernel, by decide +kernel⟩, List.mem_of_getElem? (i := 1115) (by decide +kernel), List.mem_of_getElem? (i := 1293) (by decide +kernel), List.mem_of_getElem? (i := 1294) (by decide +kernel)⟩
theorem lw_p49 : lw_okq (⟨"HandsPictureModel", "isLaw", "(I)Z"⟩, 42) := ⟨⟨by decide +kernel, by decide +kernel⟩, List.mem_of_getElem? (i := 1115) (by decide +kernel), List.mem_of_getElem? (i := 1301) (by decide +kernel), List.mem_of_getElem? (i := 1302) (by decide +kernel)⟩
theorem lw_p50 : lw_okq (⟨"HandsPictureModel", "add", "(IIIII)I"⟩, 42) := ⟨⟨by decide +kernel, by decide +kernel⟩, List.mem_of_getElem? (i := 1115) (by decide +kernel), List.mem_of_getElem? (i := 1315) (by decide +kernel), List.mem_of_getElem? (i := 1316) (by decide +kernel)⟩
theorem lw_p51 : lw_okq (⟨"HandsPictureModel", "isSeen", "(II)Z"⟩, 42) := ⟨⟨by decide +kernel, by decide +kernel⟩, List.mem_of_getElem? (i := 1115) (by decide +kernel), List.mem_of_getElem? (i := 1319) (by decide +kernel), List.mem_of_getElem? (i := 1320) (by decide +kernel)⟩
theorem lw_p52 : lw_okq (⟨"HandsPictureModel", "isChange", "(I)Z"⟩, 42) := ⟨⟨by decide +kernel, by decide +kernel⟩, List.mem_of_getElem? (i := 1115) (by decide +kernel), List.mem_of_getElem? (i := 1331) (by decide +kernel), List.mem_of_getElem? (i := 1332) (by decide +kernel)⟩
theorem lw_p53 : lw_okq (⟨"HandsPictureModel", "isBack", "(III)Z"⟩, 42) := ⟨⟨by decide +kernel, by decide +kernel⟩, List.mem_of_getElem? (i := 1115) (by decide +kernel), List.mem_of_getElem? (i := 1336) (by decide +kernel), List.mem_of_getElem? (i := 1337) (by decide +kernel)⟩
theorem lw_p54 : lw_okq (⟨"HandsPictureModel", "picture", "(II)V"⟩, 42) := ⟨⟨by decide +kernel, by decide +kernel⟩, List.mem_of_getElem? (i := 1115) (by decide +kernel), List.mem_of_getElem? (i := 1359) (by decide +kernel), List.mem_of_getElem? (i := 1360) (by decide +kernel)⟩
theorem lw_p55 : lw_okq (⟨"HandsPictureModel", "isLater", "(II)Z"⟩, 42) := ⟨⟨by decide +kernel, by decide +kernel⟩, List.mem_of_getElem? (i := 1115) (by decide +kernel), List.mem_of_getElem? (i := 1363) (by decide +kernel), List.mem_of_getElem? (i := 1364) (by decide +kernel)⟩
theorem lw_p56 : lw_okq (⟨"HandsPictureModel", "isMove", "(II)Z"⟩, 42) := ⟨⟨by decide +kernel, by decide +kernel⟩, List.mem_of_getElem? (i := 1115) (by decide +kernel), List.mem_of_getElem? (i := 1375) (by decide +kernel), List.mem_of_getElem? (i := 1376) (by decide +kernel)⟩
theorem lw_p57 : lw_okq (⟨"HandsPictureModel", "settle", "(II)Z"⟩, 42) := ⟨⟨by decide +kernel, by decide +kernel⟩, List.mem_of_getElem? (i := 1115) (by decide +kernel), List.mem_of_getElem? (i := 1390) (by decide +kernel), List.mem_of_getElem? (i := 1391) (by decide +kernel)⟩
theorem lw_p58 : lw_okq (⟨"HandsPictureModel", "counting", "(IZ)I"⟩, 42) := ⟨⟨by decide +kernel, by decide +kernel⟩, List.mem_of_getElem? (i := 1115) (by decide +kernel), List.mem_of_getElem? (i := 1394) (by decide +kernel), List.mem_of_getElem? (i := 1395) (by decide +kernel)⟩
theorem lw_p59 : lw_okq (⟨"HandsPictureModel", "findBest", "(IIZI)Z"⟩, 42) := ⟨⟨by decide +kernel, by decide +kernel⟩, List.mem_of_getElem? (i := 1115) (by decide +kernel), List.mem_of_getElem? (i := 1398) (by decide +kernel), List.mem_of_getElem? (i := 1399) (by decide +kernel)⟩
theorem lw_p60 : lw_okq (⟨"HandsPictureModel", "weightOf", "(I)I"⟩, 42) := ⟨⟨by decide +kernel, by decide +kernel⟩, List.mem_of_getElem? (i := 1115) (by decide +kernel), List.mem_of_getElem? (i := 1402) (by decide +kernel), List.mem_of_getElem? (i := 1403) (by decide +kernel)⟩
theorem lw_p61 : lw_okq (⟨"HandsPictureModel", "isTall", "(I)Z"⟩, 42) := ⟨⟨by decide +kernel, by decide +kernel⟩, List.mem_of_getElem? (i := 1115) (by decide +kernel), List.mem_of_getElem? (i := 1406) (by decide +kernel), List.mem_of_getElem? (i := 1407) (by decide +kernel)⟩
theorem lw_p62 : lw_okq (⟨"HandsPictureModel", "findLeast", "(IZI)Z"⟩, 42) := ⟨⟨by decide +kernel, by decide +kernel⟩, List.mem_of_getElem? (i := 1115) (by decide +kernel), List.mem_of_getElem? (i := 1410) (by decide +kernel), List.mem_of_getElem? (i := 1411) (by decide +kernel)⟩
theorem lw_p63 : lw_okq (⟨"HandsPictureModel", "isEven", "(I)Z"⟩, 42) := ⟨⟨by decide +kernel, by decide +kernel⟩, List.mem_of_getElem? (i := 1115) (by decide +kernel), List.mem_of_getElem? (i := 1414) (by decide +kernel), List.mem_of_getElem? (i := 1415) (by decide +kernel)⟩
def lw_privs_4 : List (MethodName × Nat) := [(⟨"HandsPictureModel", "number", "(II)I"⟩, 42), (⟨"HandsPictureModel", "isLaw", "(I)Z"⟩, 42), (⟨"HandsPictureModel", "add", "(IIIII)I"⟩, 42), (⟨"HandsPictureModel", "isSeen", "(II)Z"⟩, 42), (⟨"HandsPictureModel", "isChange", "(I)Z"⟩, 42), (⟨"HandsPictureModel", "isBack", "(III)Z"⟩, 42), (⟨"HandsPictureModel", "picture", "(II)V"⟩, 42), (⟨"HandsPictureModel", "isLater", "(II)Z"⟩, 42), (⟨"HandsPictureModel", "isMove", "(II)Z"⟩, 42), (⟨"HandsPictureModel", "settle", "(II)Z"⟩, 42), (⟨"HandsPictureModel", "counting", "(IZ)I"⟩, 42), (⟨"HandsPictureModel", "findBest", "(IIZI)Z"⟩, 42), (⟨"HandsPictureModel", "weightOf", "(I)I"⟩, 42), (⟨"HandsPictureModel", "isTall", "(I)Z"⟩, 42), (⟨"HandsPictureModel", "findLeast", "(IZI)Z"⟩, 42), (⟨"HandsPictureModel", "isEven", "(I)Z"⟩, 42)]
theorem lw_r4 : ∀ q ∈ lw_privs_4, lw_okq q := List.forall_mem_cons.mpr ⟨lw_p48, List.forall_mem_cons.mpr ⟨lw_p49, List.forall_mem_cons.mpr ⟨lw_p50, List.forall_mem_cons.mpr ⟨lw_p51, List.forall_mem_cons.mpr ⟨lw_p52, List.forall_mem_cons.mpr ⟨lw_p53, List.forall_mem_cons.mpr ⟨lw_p54, List.forall_mem_cons.mpr ⟨lw_p55, List.forall_mem_cons.mpr ⟨lw_p56, List.forall_mem_cons.mpr ⟨lw_p57, List.forall_mem_cons.mpr ⟨lw_p58, List.forall_mem_cons.mpr ⟨lw_p59, List.forall_mem_cons.mpr ⟨lw_p60, List.forall_mem_cons.mpr ⟨lw_p61, List.forall_mem_cons.mpr ⟨lw_p62, List.forall_mem_cons.mpr ⟨lw_p63, fun _ h => absurd h List.not_mem_nil⟩⟩⟩⟩⟩⟩⟩⟩⟩⟩⟩⟩⟩⟩⟩⟩
theorem lw_p64 : lw_okq (⟨"HandsPictureModel", "climb", "(IZI)V"⟩, 42) := ⟨⟨by decide +kernel, by decide +kernel⟩, List.mem_of_getElem? (i := 1115) (by decide +kernel), List.mem_of_getElem? (i := 1418) (by decide +kernel), List.mem_of_getElem? (i := 1419) (by decide +kernel)⟩
theorem lw_p65 : lw_okq (⟨"HandsPictureModel", "movedBy", "(Z)I"⟩, 42) := ⟨⟨by decide +kernel, by decide +kernel⟩, List.mem_of_getElem? (i := 1115) (by decide +kernel), List.mem_of_getElem? (i := 1422) (by decide +kernel), List.mem_of_getElem? (i := 1423) (by decide +kernel)⟩
theorem lw_p66 : lw_okq (⟨"HandsPictureModel", "shift", "(II)V"⟩, 42) := ⟨⟨by decide +kernel, by decide +kernel⟩, List.mem_of_getElem? (i := 1115) (by decide +kernel), List.mem_of_getElem? (i := 1426) (by decide +kernel), List.mem_of_getElem? (i := 1427) (by decide +kernel)⟩
theorem lw_p67 : lw_okq (⟨"HandsPictureModel", "isOnSheet", "(I)Z"⟩, 42) := ⟨⟨by decide +kernel, by decide +kernel⟩, List.mem_of_getElem? (i := 1115) (by decide +kernel), List.mem_of_getElem? (i := 1430) (by decide +kernel), List.mem_of_getElem? (i := 1431) (by decide +kernel)⟩
theorem lw_p68 : lw_okq (⟨"HandsPictureModel", "holdAll", "(IZ)Z"⟩, 42) := ⟨⟨by decide +kernel, by decide +kernel⟩, List.mem_of_getElem? (i := 1115) (by decide +kernel), List.mem_of_getElem? (i := 1434) (by decide +kernel), List.mem_of_getElem? (i := 1435) (by decide +kernel)⟩
theorem lw_p69 : lw_okq (⟨"HandsPictureModel", "holds", "(I)Z"⟩, 42) := ⟨⟨by decide +kernel, by decide +kernel⟩, List.mem_of_getElem? (i := 1115) (by decide +kernel), List.mem_of_getElem? (i := 1438) (by decide +kernel), List.mem_of_getElem? (i := 1439) (by decide +kernel)⟩
theorem lw_p70 : lw_okq (⟨"HandsPictureModel", "isFirst", "(I)Z"⟩, 42) := ⟨⟨by decide +kernel, by decide +kernel⟩, List.mem_of_getElem? (i := 1115) (by decide +kernel), List.mem_of_getElem? (i := 1445) (by decide +kernel), List.mem_of_getElem? (i := 1446) (by decide +kernel)⟩
theorem lw_p71 : lw_okq (⟨"HandsPictureModel", "canBe", "(II)Z"⟩, 42) := ⟨⟨by decide +kernel, by decide +kernel⟩, List.mem_of_getElem? (i := 1115) (by decide +kernel), List.mem_of_getElem? (i := 1457) (by decide +kernel), List.mem_of_getElem? (i := 1458) (by decide +kernel)⟩
theorem lw_p72 : lw_okq (⟨"HandsPictureModel", "lawsIn", "(I)I"⟩, 42) := ⟨⟨by decide +kernel, by decide +kernel⟩, List.mem_of_getElem? (i := 1115) (by decide +kernel), List.mem_of_getElem? (i := 1461) (by decide +kernel), List.mem_of_getElem? (i := 1462) (by decide +kernel)⟩
theorem lw_p73 : lw_okq (⟨"HandsPictureModel", "findFar", "(IZ)Z"⟩, 42) := ⟨⟨by decide +kernel, by decide +kernel⟩, List.mem_of_getElem? (i := 1115) (by decide +kernel), List.mem_of_getElem? (i := 1469) (by decide +kernel), List.mem_of_getElem? (i := 1470) (by decide +kernel)⟩
theorem lw_p74 : lw_okq (⟨"HandsPictureModel", "heapOf", "(II)I"⟩, 42) := ⟨⟨by decide +kernel, by decide +kernel⟩, List.mem_of_getElem? (i := 1115) (by decide +kernel), List.mem_of_getElem? (i := 1478) (by decide +kernel), List.mem_of_getElem? (i := 1479) (by decide +kernel)⟩
theorem lw_p75 : lw_okq (⟨"HandsPictureModel", "evenOnes", "(IZ)I"⟩, 42) := ⟨⟨by decide +kernel, by decide +kernel⟩, List.mem_of_getElem? (i := 1115) (by decide +kernel), List.mem_of_getElem? (i := 1482) (by decide +kernel), List.mem_of_getElem? (i := 1483) (by decide +kernel)⟩
theorem lw_p76 : lw_okq (⟨"HandsPictureModel", "greatest", "(I)I"⟩, 42) := ⟨⟨by decide +kernel, by decide +kernel⟩, List.mem_of_getElem? (i := 1115) (by decide +kernel), List.mem_of_getElem? (i := 1494) (by decide +kernel), List.mem_of_getElem? (i := 1495) (by decide +kernel)⟩
theorem lw_p77 : lw_okq (⟨"HandsPictureModel", "wideOf", "(I)I"⟩, 42) := ⟨⟨by decide +kernel, by decide +kernel⟩, List.mem_of_getElem? (i := 1115) (by decide +kernel), List.mem_of_getElem? (i := 1498) (by decide +kernel), List.mem_of_getElem? (i := 1499) (by decide +kernel)⟩
theorem lw_p78 : lw_okq (⟨"HandsPictureModel", "highOf", "(I)I"⟩, 42) := ⟨⟨by decide +kernel, by decide +kernel⟩, List.mem_of_getElem? (i := 1115) (by decide +kernel), List.mem_of_getElem? (i := 1505) (by decide +kernel), List.mem_of_getElem? (i := 1506) (by decide +kernel)⟩
theorem lw_p79 : lw_okq (⟨"HandsPictureModel", "wipe", "()V"⟩, 42) := ⟨⟨by decide +kernel, by decide +kernel⟩, List.mem_of_getElem? (i := 1115) (by decide +kernel), List.mem_of_getElem? (i := 1520) (by decide +kernel), List.mem_of_getElem? (i := 1521) (by decide +kernel)⟩
def lw_privs_5 : List (MethodName × Nat) := [(⟨"HandsPictureModel", "climb", "(IZI)V"⟩, 42), (⟨"HandsPictureModel", "movedBy", "(Z)I"⟩, 42), (⟨"HandsPictureModel", "shift", "(II)V"⟩, 42), (⟨"HandsPictureModel", "isOnSheet", "(I)Z"⟩, 42), (⟨"HandsPictureModel", "holdAll", "(IZ)Z"⟩, 42), (⟨"HandsPictureModel", "holds", "(I)Z"⟩, 42), (⟨"HandsPictureModel", "isFirst", "(I)Z"⟩, 42), (⟨"HandsPictureModel", "canBe", "(II)Z"⟩, 42), (⟨"HandsPictureModel", "lawsIn", "(I)I"⟩, 42), (⟨"HandsPictureModel", "findFar", "(IZ)Z"⟩, 42), (⟨"HandsPictureModel", "heapOf", "(II)I"⟩, 42), (⟨"HandsPictureModel", "evenOnes", "(IZ)I"⟩, 42), (⟨"HandsPictureModel", "greatest", "(I)I"⟩, 42), (⟨"HandsPictureModel", "wideOf", "(I)I"⟩, 42), (⟨"HandsPictureModel", "highOf", "(I)I"⟩, 42), (⟨"HandsPictureModel", "wipe", "()V"⟩, 42)]
theorem lw_r5 : ∀ q ∈ lw_privs_5, lw_okq q := List.forall_mem_cons.mpr ⟨lw_p64, List.forall_mem_cons.mpr ⟨lw_p65, List.forall_mem_cons.mpr ⟨lw_p66, List.forall_mem_cons.mpr ⟨lw_p67, List.forall_mem_cons.mpr ⟨lw_p68, List.forall_mem_cons.mpr ⟨lw_p69, List.forall_mem_cons.mpr ⟨lw_p70, List.forall_mem_cons.mpr ⟨lw_p71, List.forall_mem_cons.mpr ⟨lw_p72, List.forall_mem_cons.mpr ⟨lw_p73, List.forall_mem_cons.mpr ⟨lw_p74, List.forall_mem_cons.mpr ⟨lw_p75, List.forall_mem_cons.mpr ⟨lw_p76, List.forall_mem_cons.mpr ⟨lw_p77, List.forall_mem_cons.mpr ⟨lw_p78, List.forall_mem_cons.mpr ⟨lw_p79, fun _ h => absurd h List.not_mem_nil⟩⟩⟩⟩⟩⟩⟩⟩⟩⟩⟩⟩⟩⟩⟩⟩
theorem lw_p80 : lw_okq (⟨"HandsPictureModel", "draw", "(I)V"⟩, 42) := ⟨⟨by decide +kernel, by decide +kernel⟩, List.mem_of_getElem? (i := 1115) (by decide +kernel), List.mem_of_getElem? (i := 1524) (by decide +kernel), List.mem_of_getElem? (i := 1525) (by decide +kernel)⟩
theorem lw_p81 : lw_okq (⟨"HandsPictureModel", "dotsDrawn", "()I"⟩, 42) := ⟨⟨by decide +kernel, by decide +kernel⟩, List.mem_of_getElem? (i := 1115) (by decide +kernel), List.mem_of_getElem? (i := 1531) (by decide +kernel), List.mem_of_getElem? (i := 1532) (by decide +kernel)⟩
theorem lw_p82 : lw_okq (⟨"HandsPictureModel", "breakRows", "(I)Z"⟩, 42) := ⟨⟨by decide +kernel, by decide +kernel⟩, List.mem_of_getElem? (i := 1115) (by decide +kernel), List.mem_of_getElem? (i := 1547) (by decide +kernel), List.mem_of_getElem? (i := 1548) (by decide +kernel)⟩
def lw_privs_6 : List (MethodName × Nat) := [(⟨"HandsPictureModel", "draw", "(I)V"⟩, 42), (⟨"HandsPictureModel", "dotsDrawn", "()I"⟩, 42), (⟨"HandsPictureModel", "breakRows", "(I)Z"⟩, 42)]
theorem lw_r6 : ∀ q ∈ lw_privs_6, lw_okq q := List.forall_mem_cons.mpr ⟨lw_p80, List.forall_mem_cons.mpr ⟨lw_p81, List.forall_mem_cons.mpr ⟨lw_p82, fun _ h => absurd h List.not_mem_nil⟩⟩⟩
def lw_privs : List (MethodName × Nat) := lw_privs_1 ++ (lw_privs_2 ++ (lw_privs_3 ++ (lw_privs_4 ++ (lw_privs_5 ++ (lw_privs_6)))))
def lw_tbl : List Cond := k2_sels lw_privs ++ tables_1
theorem lw_privs_ok : ∀ q ∈ lw_privs, lw_okq q := by
  show ∀ q ∈ lw_privs_1 ++ (lw_privs_2 ++ (lw_privs_3 ++ (lw_privs_4 ++ (lw_privs_5 ++ (lw_privs_6))))), lw_okq q
  exact List.forall_mem_append.mpr ⟨lw_r1, List.forall_mem_append.mpr ⟨lw_r2, List.forall_mem_append.mpr ⟨lw_r3, List.forall_mem_append.mpr ⟨lw_r4, List.forall_mem_append.mpr ⟨lw_r5, lw_r6⟩⟩⟩⟩⟩
def RX0 : String := "HandsPicture$Axis"
def TX0 : u_T := fun k => match k with
  | 0 => ("HandsPicture$Axis", "firm", "LHandsPicture$Gaps;", true)
  | 1 => ("HandsPicture$Axis", "trial", "LHandsPicture$Gaps;", true)
  | 2 => ("HandsPicture$Axis", "wishes", "[I", true)
  | 3 => ("HandsPicture$Axis", "values", "[I", true)
  | 4 => ("HandsPicture$Axis", "best", "[I", true)
  | 5 => ("HandsPicture$Axis", "dragged", "[I", true)
  | 6 => ("HandsPicture$Axis", "cost", "[I", true)
  | 7 => ("HandsPicture$Axis", "wishCount", "I", false)
  | 8 => ("HandsPicture$Axis", "bestWeight", "I", false)
  | _ => ("HandsPicture$Axis", "bestMoved", "I", false)
def tyX0 : Nat → FieldType := fun k => match k with
  | 0 => .object "HandsPicture$Gaps"
  | 1 => .object "HandsPicture$Gaps"
  | 2 => .array .int
  | 3 => .array .int
  | 4 => .array .int
  | 5 => .array .int
  | 6 => .array .int
  | 7 => .int
  | 8 => .int
  | _ => .int
theorem nmX0 : ∀ a, a < 10 → ∀ b, b < 10 → a ≠ b → (TX0 a).2.1 ≠ (TX0 b).2.1 := by decide +kernel
theorem tyX0_ok : ∀ k, k < 10 → parseFieldDescriptor (TX0 k).2.2.1 = some (tyX0 k) := by decide +kernel
abbrev cX0_init : ByteArray := prog_2_method_1_code
def yX0_init : MethodName := ⟨RX0, "<init>", "()V"⟩
abbrev cX0_best : ByteArray := prog_2_method_2_code
def yX0_best : MethodName := ⟨RX0, "best", "()[I"⟩
abbrev cX0_weight : ByteArray := prog_2_method_3_code
def yX0_weight : MethodName := ⟨RX0, "weight", "()I"⟩
abbrev cX0_moved : ByteArray := prog_2_method_4_code
def yX0_moved : MethodName := ⟨RX0, "moved", "()I"⟩
abbrev cX0_settle : ByteArray := prog_2_method_5_code
def yX0_settle : MethodName := ⟨RX0, "settle", "(LHandsPicture$Laws;II[I)Z"⟩
abbrev cX0_gatherWishes : ByteArray := prog_2_method_6_code
def yX0_gatherWishes : MethodName := ⟨RX0, "gatherWishes", "(LHandsPicture$Laws;I)V"⟩
abbrev cX0_tryWishes : ByteArray := prog_2_method_7_code
def yX0_tryWishes : MethodName := ⟨RX0, "tryWishes", "(LHandsPicture$Laws;I[I)V"⟩
abbrev cX0_canHold : ByteArray := prog_2_method_8_code
def yX0_canHold : MethodName := ⟨RX0, "canHold", "(LHandsPicture$Laws;I)Z"⟩
abbrev cX0_moveLeast : ByteArray := prog_2_method_9_code
def yX0_moveLeast : MethodName := ⟨RX0, "moveLeast", "([I)V"⟩
abbrev cX0_bestRise : ByteArray := prog_2_method_10_code
def yX0_bestRise : MethodName := ⟨RX0, "bestRise", "([I)I"⟩
abbrev cX0_distance : ByteArray := prog_2_method_11_code
def yX0_distance : MethodName := ⟨RX0, "distance", "([I)I"⟩
abbrev cX0_comesFirst : ByteArray := prog_2_method_12_code
def yX0_comesFirst : MethodName := ⟨RX0, "comesFirst", "()Z"⟩
def RX1 : String := "HandsPicture$Gaps"
def TX1 : u_T := fun k => match k with
  | _ => ("HandsPicture$Gaps", "least", "[I", true)
def tyX1 : Nat → FieldType := fun k => match k with
  | _ => .array .int
theorem nmX1 : ∀ a, a < 1 → ∀ b, b < 1 → a ≠ b → (TX1 a).2.1 ≠ (TX1 b).2.1 := by decide +kernel
theorem tyX1_ok : ∀ k, k < 1 → parseFieldDescriptor (TX1 k).2.2.1 = some (tyX1 k) := by decide +kernel
abbrev cX1_init : ByteArray := prog_3_method_1_code
def yX1_init : MethodName := ⟨RX1, "<init>", "()V"⟩
abbrev cX1_openPlane : ByteArray := prog_3_method_2_code
def yX1_openPlane : MethodName := ⟨RX1, "openPlane", "()V"⟩
abbrev cX1_openSheet : ByteArray := prog_3_method_3_code
def yX1_openSheet : MethodName := ⟨RX1, "openSheet", "(I)V"⟩
abbrev cX1_fillApart : ByteArray := prog_3_method_4_code
def yX1_fillApart : MethodName := ⟨RX1, "fillApart", "(I)V"⟩
abbrev cX1_copyFrom : ByteArray := prog_3_method_5_code
def yX1_copyFrom : MethodName := ⟨RX1, "copyFrom", "(LHandsPicture$Gaps;)V"⟩
abbrev cX1_askAll : ByteArray := prog_3_method_6_code
def yX1_askAll : MethodName := ⟨RX1, "askAll", "(LHandsPicture$Laws;I)Z"⟩
abbrev cX1_askLaw : ByteArray := prog_3_method_7_code
def yX1_askLaw : MethodName := ⟨RX1, "askLaw", "(LHandsPicture$Laws;I)Z"⟩
abbrev cX1_ask : ByteArray := prog_3_method_8_code
def yX1_ask : MethodName := ⟨RX1, "ask", "(III)Z"⟩
abbrev cX1_forces : ByteArray := prog_3_method_9_code
def yX1_forces : MethodName := ⟨RX1, "forces", "(LHandsPicture$Laws;I)Z"⟩
abbrev cX1_lowest : ByteArray := prog_3_method_10_code
def yX1_lowest : MethodName := ⟨RX1, "lowest", "(I)I"⟩
abbrev cX1_drags : ByteArray := prog_3_method_11_code
def yX1_drags : MethodName := ⟨RX1, "drags", "(I[I)I"⟩
def RX2 : String := "HandsPicture$Kinds"
def TX2 : u_T := fun k => match k with
  | 0 => ("HandsPicture$Kinds", "greater", "I", false)
  | 1 => ("HandsPicture$Kinds", "lesser", "I", false)
  | _ => ("HandsPicture$Kinds", "traced", "J", false)
def tyX2 : Nat → FieldType := fun k => match k with
  | 0 => .int
  | 1 => .int
  | _ => .long
theorem nmX2 : ∀ a, a < 3 → ∀ b, b < 3 → a ≠ b → (TX2 a).2.1 ≠ (TX2 b).2.1 := by decide +kernel
theorem tyX2_ok : ∀ k, k < 3 → parseFieldDescriptor (TX2 k).2.2.1 = some (tyX2 k) := by decide +kernel
abbrev cX2_init : ByteArray := prog_4_method_1_code
def yX2_init : MethodName := ⟨RX2, "<init>", "()V"⟩
abbrev cX2_traced : ByteArray := prog_4_method_2_code
def yX2_traced : MethodName := ⟨RX2, "traced", "()J"⟩
abbrev cX2_inkOf : ByteArray := prog_4_method_3_code
def yX2_inkOf : MethodName := ⟨RX2, "inkOf", "(III)I"⟩
abbrev cX2_partInk : ByteArray := prog_4_method_4_code
def yX2_partInk : MethodName := ⟨RX2, "partInk", "()I"⟩
abbrev cX2_lineInk : ByteArray := prog_4_method_5_code
def yX2_lineInk : MethodName := ⟨RX2, "lineInk", "()I"⟩
abbrev cX2_arcInk : ByteArray := prog_4_method_6_code
def yX2_arcInk : MethodName := ⟨RX2, "arcInk", "()I"⟩
abbrev cX2_dashInk : ByteArray := prog_4_method_7_code
def yX2_dashInk : MethodName := ⟨RX2, "dashInk", "()I"⟩
abbrev cX2_useInk : ByteArray := prog_4_method_8_code
def yX2_useInk : MethodName := ⟨RX2, "useInk", "()I"⟩
def RX3 : String := "HandsPicture$Laws"
def TX3 : u_T := fun k => match k with
  | 0 => ("HandsPicture$Laws", "word", "[I", true)
  | 1 => ("HandsPicture$Laws", "first", "[I", true)
  | 2 => ("HandsPicture$Laws", "second", "[I", true)
  | 3 => ("HandsPicture$Laws", "gap", "[I", true)
  | 4 => ("HandsPicture$Laws", "weight", "[I", true)
  | 5 => ("HandsPicture$Laws", "where", "[I", true)
  | 6 => ("HandsPicture$Laws", "firmOnes", "I", false)
  | 7 => ("HandsPicture$Laws", "stiffOnes", "I", false)
  | 8 => ("HandsPicture$Laws", "acrossOnes", "I", false)
  | _ => ("HandsPicture$Laws", "size", "I", false)
def tyX3 : Nat → FieldType := fun k => match k with
  | 0 => .array .int
  | 1 => .array .int
  | 2 => .array .int
  | 3 => .array .int
  | 4 => .array .int
  | 5 => .array .int
  | 6 => .int
  | 7 => .int
  | 8 => .int
  | _ => .int
theorem nmX3 : ∀ a, a < 10 → ∀ b, b < 10 → a ≠ b → (TX3 a).2.1 ≠ (TX3 b).2.1 := by decide +kernel
theorem tyX3_ok : ∀ k, k < 10 → parseFieldDescriptor (TX3 k).2.2.1 = some (tyX3 k) := by decide +kernel
abbrev cX3_init : ByteArray := prog_5_method_1_code
def yX3_init : MethodName := ⟨RX3, "<init>", "()V"⟩
abbrev cX3_size : ByteArray := prog_5_method_2_code
def yX3_size : MethodName := ⟨RX3, "size", "()I"⟩
abbrev cX3_all : ByteArray := prog_5_method_3_code
def yX3_all : MethodName := ⟨RX3, "all", "()I"⟩
abbrev cX3_empty : ByteArray := prog_5_method_4_code
def yX3_empty : MethodName := ⟨RX3, "empty", "()V"⟩
abbrev cX3_open : ByteArray := prog_5_method_5_code
def yX3_open : MethodName := ⟨RX3, "open", "(III)V"⟩
abbrev cX3_close : ByteArray := prog_5_method_6_code
def yX3_close : MethodName := ⟨RX3, "close", "(III)V"⟩
abbrev cX3_tell : ByteArray := prog_5_method_7_code
def yX3_tell : MethodName := ⟨RX3, "tell", "(II)I"⟩
abbrev cX3_first : ByteArray := prog_5_method_8_code
def yX3_first : MethodName := ⟨RX3, "first", "(I)I"⟩
abbrev cX3_second : ByteArray := prog_5_method_9_code
def yX3_second : MethodName := ⟨RX3, "second", "(I)I"⟩
abbrev cX3_gap : ByteArray := prog_5_method_10_code
def yX3_gap : MethodName := ⟨RX3, "gap", "(I)I"⟩
abbrev cX3_weight : ByteArray := prog_5_method_11_code
def yX3_weight : MethodName := ⟨RX3, "weight", "(I)I"⟩
abbrev cX3_axis : ByteArray := prog_5_method_12_code
def yX3_axis : MethodName := ⟨RX3, "axis", "(I)I"⟩
abbrev cX3_isStiff : ByteArray := prog_5_method_13_code
def yX3_isStiff : MethodName := ⟨RX3, "isStiff", "(I)Z"⟩
abbrev cX3_counting : ByteArray := prog_5_method_14_code
def yX3_counting : MethodName := ⟨RX3, "counting", "(II)I"⟩
abbrev cX3_firm : ByteArray := prog_5_method_15_code
def yX3_firm : MethodName := ⟨RX3, "firm", "(I)I"⟩
abbrev cX3_stiff : ByteArray := prog_5_method_16_code
def yX3_stiff : MethodName := ⟨RX3, "stiff", "(I)I"⟩
abbrev cX3_ofAxis : ByteArray := prog_5_method_17_code
def yX3_ofAxis : MethodName := ⟨RX3, "ofAxis", "(II)I"⟩
abbrev cX3_holds : ByteArray := prog_5_method_18_code
def yX3_holds : MethodName := ⟨RX3, "holds", "(I[I)Z"⟩
abbrev cX3_spread : ByteArray := prog_5_method_19_code
def yX3_spread : MethodName := ⟨RX3, "spread", "(II)I"⟩
abbrev cX3_heaps : ByteArray := prog_5_method_20_code
def yX3_heaps : MethodName := ⟨RX3, "heaps", "(II)I"⟩
def RX4 : String := "HandsPicture$Lines"
def TX4 : u_T := fun k => match k with
  | 0 => ("HandsPicture$Lines", "from", "[I", true)
  | 1 => ("HandsPicture$Lines", "to", "[I", true)
  | 2 => ("HandsPicture$Lines", "board", "[I", true)
  | 3 => ("HandsPicture$Lines", "size", "I", false)
  | 4 => ("HandsPicture$Lines", "startX", "I", false)
  | 5 => ("HandsPicture$Lines", "startY", "I", false)
  | 6 => ("HandsPicture$Lines", "stepX", "I", false)
  | _ => ("HandsPicture$Lines", "stepY", "I", false)
def tyX4 : Nat → FieldType := fun k => match k with
  | 0 => .array .int
  | 1 => .array .int
  | 2 => .array .int
  | 3 => .int
  | 4 => .int
  | 5 => .int
  | 6 => .int
  | _ => .int
theorem nmX4 : ∀ a, a < 8 → ∀ b, b < 8 → a ≠ b → (TX4 a).2.1 ≠ (TX4 b).2.1 := by decide +kernel
theorem tyX4_ok : ∀ k, k < 8 → parseFieldDescriptor (TX4 k).2.2.1 = some (tyX4 k) := by decide +kernel
abbrev cX4_init : ByteArray := prog_6_method_1_code
def yX4_init : MethodName := ⟨RX4, "<init>", "()V"⟩
abbrev cX4_size : ByteArray := prog_6_method_2_code
def yX4_size : MethodName := ⟨RX4, "size", "()I"⟩
abbrev cX4_isFull : ByteArray := prog_6_method_3_code
def yX4_isFull : MethodName := ⟨RX4, "isFull", "()Z"⟩
abbrev cX4_add : ByteArray := prog_6_method_4_code
def yX4_add : MethodName := ⟨RX4, "add", "(II)I"⟩
abbrev cX4_take : ByteArray := prog_6_method_5_code
def yX4_take : MethodName := ⟨RX4, "take", "(ILHandsPicture$Picture;)V"⟩
abbrev cX4_greater : ByteArray := prog_6_method_6_code
def yX4_greater : MethodName := ⟨RX4, "greater", "()I"⟩
abbrev cX4_lesser : ByteArray := prog_6_method_7_code
def yX4_lesser : MethodName := ⟨RX4, "lesser", "()I"⟩
abbrev cX4_dotCount : ByteArray := prog_6_method_8_code
def yX4_dotCount : MethodName := ⟨RX4, "dotCount", "()I"⟩
abbrev cX4_unlikeDots : ByteArray := prog_6_method_9_code
def yX4_unlikeDots : MethodName := ⟨RX4, "unlikeDots", "(LHandsPicture$Picture;)I"⟩
abbrev cX4_drawTaken : ByteArray := prog_6_method_10_code
def yX4_drawTaken : MethodName := ⟨RX4, "drawTaken", "()V"⟩
abbrev cX4_through : ByteArray := prog_6_method_11_code
def yX4_through : MethodName := ⟨RX4, "through", "(LHandsPicture$Picture;II)I"⟩
abbrev cX4_takenHas : ByteArray := prog_6_method_12_code
def yX4_takenHas : MethodName := ⟨RX4, "takenHas", "(II)Z"⟩
abbrev cX4_part : ByteArray := prog_6_method_13_code
def yX4_part : MethodName := ⟨RX4, "part", "(III)I"⟩
def RX5 : String := "HandsPicture$Picture"
def TX5 : u_T := fun k => match k with
  | 0 => ("HandsPicture$Picture", "xs", "[I", true)
  | 1 => ("HandsPicture$Picture", "ys", "[I", true)
  | 2 => ("HandsPicture$Picture", "movedAt", "[I", true)
  | 3 => ("HandsPicture$Picture", "laidAt", "[I", true)
  | _ => ("HandsPicture$Picture", "lawsOn", "I", false)
def tyX5 : Nat → FieldType := fun k => match k with
  | 0 => .array .int
  | 1 => .array .int
  | 2 => .array .int
  | 3 => .array .int
  | _ => .int
theorem nmX5 : ∀ a, a < 5 → ∀ b, b < 5 → a ≠ b → (TX5 a).2.1 ≠ (TX5 b).2.1 := by decide +kernel
theorem tyX5_ok : ∀ k, k < 5 → parseFieldDescriptor (TX5 k).2.2.1 = some (tyX5 k) := by decide +kernel
abbrev cX5_init : ByteArray := prog_7_method_1_code
def yX5_init : MethodName := ⟨RX5, "<init>", "()V"⟩
abbrev cX5_along : ByteArray := prog_7_method_2_code
def yX5_along : MethodName := ⟨RX5, "along", "(I)[I"⟩
abbrev cX5_lawsOn : ByteArray := prog_7_method_3_code
def yX5_lawsOn : MethodName := ⟨RX5, "lawsOn", "()I"⟩
abbrev cX5_begin : ByteArray := prog_7_method_4_code
def yX5_begin : MethodName := ⟨RX5, "begin", "(I)V"⟩
abbrev cX5_place : ByteArray := prog_7_method_5_code
def yX5_place : MethodName := ⟨RX5, "place", "(IIII)V"⟩
abbrev cX5_layLaw : ByteArray := prog_7_method_6_code
def yX5_layLaw : MethodName := ⟨RX5, "layLaw", "(IZI)V"⟩
abbrev cX5_differences : ByteArray := prog_7_method_7_code
def yX5_differences : MethodName := ⟨RX5, "differences", "(LHandsPicture$Picture;)I"⟩
def RX6 : String := "HandsPicture$Quarrels"
def TX6 : u_T := fun k => match k with
  | 0 => ("HandsPicture$Quarrels", "farthest", "[I", false)
  | _ => ("HandsPicture$Quarrels", "longer", "[I", false)
def tyX6 : Nat → FieldType := fun k => match k with
  | 0 => .array .int
  | _ => .array .int
theorem nmX6 : ∀ a, a < 2 → ∀ b, b < 2 → a ≠ b → (TX6 a).2.1 ≠ (TX6 b).2.1 := by decide +kernel
theorem tyX6_ok : ∀ k, k < 2 → parseFieldDescriptor (TX6 k).2.2.1 = some (tyX6 k) := by decide +kernel
abbrev cX6_init : ByteArray := prog_8_method_1_code
def yX6_init : MethodName := ⟨RX6, "<init>", "()V"⟩
abbrev cX6_fewest : ByteArray := prog_8_method_2_code
def yX6_fewest : MethodName := ⟨RX6, "fewest", "(LHandsPicture$Laws;III)I"⟩
abbrev cX6_leastSet : ByteArray := prog_8_method_3_code
def yX6_leastSet : MethodName := ⟨RX6, "leastSet", "(LHandsPicture$Laws;III)I"⟩
abbrev cX6_shortest : ByteArray := prog_8_method_4_code
def yX6_shortest : MethodName := ⟨RX6, "shortest", "(LHandsPicture$Laws;III)I"⟩
abbrev cX6_goOn : ByteArray := prog_8_method_5_code
def yX6_goOn : MethodName := ⟨RX6, "goOn", "(LHandsPicture$Laws;I)V"⟩
abbrev cX6_walk : ByteArray := prog_8_method_6_code
def yX6_walk : MethodName := ⟨RX6, "walk", "(III)V"⟩
abbrev cX6_isTooFar : ByteArray := prog_8_method_7_code
def yX6_isTooFar : MethodName := ⟨RX6, "isTooFar", "(I)Z"⟩
def RX7 : String := "HandsPicture$Reader"
def TX7 : u_T := fun k => match k with
  | 0 => ("HandsPicture$Reader", "text", "[I", true)
  | 1 => ("HandsPicture$Reader", "length", "I", false)
  | 2 => ("HandsPicture$Reader", "next", "I", false)
  | 3 => ("HandsPicture$Reader", "start", "I", false)
  | 4 => ("HandsPicture$Reader", "token", "I", false)
  | 5 => ("HandsPicture$Reader", "value", "I", false)
  | _ => ("HandsPicture$Reader", "wishes", "I", false)
def tyX7 : Nat → FieldType := fun k => match k with
  | 0 => .array .int
  | 1 => .int
  | 2 => .int
  | 3 => .int
  | 4 => .int
  | 5 => .int
  | _ => .int
theorem nmX7 : ∀ a, a < 7 → ∀ b, b < 7 → a ≠ b → (TX7 a).2.1 ≠ (TX7 b).2.1 := by decide +kernel
theorem tyX7_ok : ∀ k, k < 7 → parseFieldDescriptor (TX7 k).2.2.1 = some (tyX7 k) := by decide +kernel
abbrev cX7_init : ByteArray := prog_9_method_1_code
def yX7_init : MethodName := ⟨RX7, "<init>", "()V"⟩
abbrev cX7_length : ByteArray := prog_9_method_2_code
def yX7_length : MethodName := ⟨RX7, "length", "()I"⟩
abbrev cX7_append : ByteArray := prog_9_method_3_code
def yX7_append : MethodName := ⟨RX7, "append", "(I)V"⟩
abbrev cX7_empty : ByteArray := prog_9_method_4_code
def yX7_empty : MethodName := ⟨RX7, "empty", "()V"⟩
abbrev cX7_readInto : ByteArray := prog_9_method_5_code
def yX7_readInto : MethodName := ⟨RX7, "readInto", "(LHandsPicture$Laws;)I"⟩
abbrev cX7_readLaw : ByteArray := prog_9_method_6_code
def yX7_readLaw : MethodName := ⟨RX7, "readLaw", "(LHandsPicture$Laws;)Z"⟩
abbrev cX7_readEnds : ByteArray := prog_9_method_7_code
def yX7_readEnds : MethodName := ⟨RX7, "readEnds", "(LHandsPicture$Laws;Z)Z"⟩
abbrev cX7_isWord : ByteArray := prog_9_method_8_code
def yX7_isWord : MethodName := ⟨RX7, "isWord", "(I)Z"⟩
abbrev cX7_isNumber : ByteArray := prog_9_method_9_code
def yX7_isNumber : MethodName := ⟨RX7, "isNumber", "(II)Z"⟩
abbrev cX7_advance : ByteArray := prog_9_method_10_code
def yX7_advance : MethodName := ⟨RX7, "advance", "()V"⟩
abbrev cX7_endOfRun : ByteArray := prog_9_method_11_code
def yX7_endOfRun : MethodName := ⟨RX7, "endOfRun", "(III)I"⟩
abbrev cX7_takeWord : ByteArray := prog_9_method_12_code
def yX7_takeWord : MethodName := ⟨RX7, "takeWord", "()V"⟩
abbrev cX7_nameOf : ByteArray := prog_9_method_13_code
def yX7_nameOf : MethodName := ⟨RX7, "nameOf", "(I)Ljava/lang/String;"⟩
abbrev cX7_spells : ByteArray := prog_9_method_14_code
def yX7_spells : MethodName := ⟨RX7, "spells", "(Ljava/lang/String;)Z"⟩
abbrev cX7_takeNumber : ByteArray := prog_9_method_15_code
def yX7_takeNumber : MethodName := ⟨RX7, "takeNumber", "()V"⟩
abbrev cX7_takeSign : ByteArray := prog_9_method_16_code
def yX7_takeSign : MethodName := ⟨RX7, "takeSign", "()V"⟩
def RX8 : String := "HandsPicture$Setting"
def TX8 : u_T := fun k => match k with
  | 0 => ("HandsPicture$Setting", "across", "LHandsPicture$Axis;", true)
  | 1 => ("HandsPicture$Setting", "down", "LHandsPicture$Axis;", true)
  | 2 => ("HandsPicture$Setting", "hand", "I", false)
  | 3 => ("HandsPicture$Setting", "size", "I", false)
  | 4 => ("HandsPicture$Setting", "counting", "I", false)
  | _ => ("HandsPicture$Setting", "exists", "Z", false)
def tyX8 : Nat → FieldType := fun k => match k with
  | 0 => .object "HandsPicture$Axis"
  | 1 => .object "HandsPicture$Axis"
  | 2 => .int
  | 3 => .int
  | 4 => .int
  | _ => .boolean
theorem nmX8 : ∀ a, a < 6 → ∀ b, b < 6 → a ≠ b → (TX8 a).2.1 ≠ (TX8 b).2.1 := by decide +kernel
theorem tyX8_ok : ∀ k, k < 6 → parseFieldDescriptor (TX8 k).2.2.1 = some (tyX8 k) := by decide +kernel
abbrev cX8_init : ByteArray := prog_10_method_1_code
def yX8_init : MethodName := ⟨RX8, "<init>", "()V"⟩
abbrev cX8_forget : ByteArray := prog_10_method_2_code
def yX8_forget : MethodName := ⟨RX8, "forget", "()V"⟩
abbrev cX8_isOf : ByteArray := prog_10_method_3_code
def yX8_isOf : MethodName := ⟨RX8, "isOf", "(II)Z"⟩
abbrev cX8_settle : ByteArray := prog_10_method_4_code
def yX8_settle : MethodName := ⟨RX8, "settle", "(IILHandsPicture$Laws;ILHandsPicture$Picture;)V"⟩
abbrev cX8_exists : ByteArray := prog_10_method_5_code
def yX8_exists : MethodName := ⟨RX8, "exists", "()Z"⟩
abbrev cX8_along : ByteArray := prog_10_method_6_code
def yX8_along : MethodName := ⟨RX8, "along", "(I)[I"⟩
abbrev cX8_weight : ByteArray := prog_10_method_7_code
def yX8_weight : MethodName := ⟨RX8, "weight", "()I"⟩
abbrev cX8_moved : ByteArray := prog_10_method_8_code
def yX8_moved : MethodName := ⟨RX8, "moved", "()I"⟩
abbrev cX8_holding : ByteArray := prog_10_method_9_code
def yX8_holding : MethodName := ⟨RX8, "holding", "(LHandsPicture$Laws;)I"⟩
def RX9 : String := "HandsPicture$Story"
def TX9 : u_T := fun k => match k with
  | 0 => ("HandsPicture$Story", "maker", "[I", true)
  | 1 => ("HandsPicture$Story", "deed", "[I", true)
  | 2 => ("HandsPicture$Story", "target", "[I", true)
  | 3 => ("HandsPicture$Story", "toX", "[I", true)
  | 4 => ("HandsPicture$Story", "toY", "[I", true)
  | 5 => ("HandsPicture$Story", "stamp", "[I", true)
  | 6 => ("HandsPicture$Story", "backedBy", "[I", true)
  | 7 => ("HandsPicture$Story", "makerSaw", "[J", true)
  | 8 => ("HandsPicture$Story", "seen", "[J", true)
  | 9 => ("HandsPicture$Story", "latest", "[I", true)
  | 10 => ("HandsPicture$Story", "size", "I", false)
  | _ => ("HandsPicture$Story", "lawsFrom", "I", false)
def tyX9 : Nat → FieldType := fun k => match k with
  | 0 => .array .int
  | 1 => .array .int
  | 2 => .array .int
  | 3 => .array .int
  | 4 => .array .int
  | 5 => .array .int
  | 6 => .array .int
  | 7 => .array .long
  | 8 => .array .long
  | 9 => .array .int
  | 10 => .int
  | _ => .int
theorem nmX9 : ∀ a, a < 12 → ∀ b, b < 12 → a ≠ b → (TX9 a).2.1 ≠ (TX9 b).2.1 := by decide +kernel
theorem tyX9_ok : ∀ k, k < 12 → parseFieldDescriptor (TX9 k).2.2.1 = some (tyX9 k) := by decide +kernel
abbrev cX9_init : ByteArray := prog_11_method_1_code
def yX9_init : MethodName := ⟨RX9, "<init>", "()V"⟩
abbrev cX9_size : ByteArray := prog_11_method_2_code
def yX9_size : MethodName := ⟨RX9, "size", "()I"⟩
abbrev cX9_isFull : ByteArray := prog_11_method_3_code
def yX9_isFull : MethodName := ⟨RX9, "isFull", "()Z"⟩
abbrev cX9_forgetLaws : ByteArray := prog_11_method_4_code
def yX9_forgetLaws : MethodName := ⟨RX9, "forgetLaws", "()V"⟩
abbrev cX9_add : ByteArray := prog_11_method_5_code
def yX9_add : MethodName := ⟨RX9, "add", "(III)I"⟩
abbrev cX9_addMove : ByteArray := prog_11_method_6_code
def yX9_addMove : MethodName := ⟨RX9, "addMove", "(IIII)I"⟩
abbrev cX9_addBack : ByteArray := prog_11_method_7_code
def yX9_addBack : MethodName := ⟨RX9, "addBack", "(II)I"⟩
abbrev cX9_mayTakeBack : ByteArray := prog_11_method_8_code
def yX9_mayTakeBack : MethodName := ⟨RX9, "mayTakeBack", "(II)Z"⟩
abbrev cX9_isTakenBack : ByteArray := prog_11_method_9_code
def yX9_isTakenBack : MethodName := ⟨RX9, "isTakenBack", "(I)Z"⟩
abbrev cX9_meetHands : ByteArray := prog_11_method_10_code
def yX9_meetHands : MethodName := ⟨RX9, "meetHands", "(II)I"⟩
abbrev cX9_isSeen : ByteArray := prog_11_method_11_code
def yX9_isSeen : MethodName := ⟨RX9, "isSeen", "(II)Z"⟩
abbrev cX9_greatestStamp : ByteArray := prog_11_method_12_code
def yX9_greatestStamp : MethodName := ⟨RX9, "greatestStamp", "()I"⟩
abbrev cX9_tell : ByteArray := prog_11_method_13_code
def yX9_tell : MethodName := ⟨RX9, "tell", "(II)I"⟩
abbrev cX9_show : ByteArray := prog_11_method_14_code
def yX9_show : MethodName := ⟨RX9, "show", "(LHandsPicture$Picture;III)V"⟩
abbrev cX9_counts : ByteArray := prog_11_method_15_code
def yX9_counts : MethodName := ⟨RX9, "counts", "(III)Z"⟩
abbrev cX9_isUndone : ByteArray := prog_11_method_16_code
def yX9_isUndone : MethodName := ⟨RX9, "isUndone", "(III)Z"⟩
abbrev cX9_apply : ByteArray := prog_11_method_17_code
def yX9_apply : MethodName := ⟨RX9, "apply", "(LHandsPicture$Picture;I)V"⟩
abbrev cX9_doublyMoved : ByteArray := prog_11_method_18_code
def yX9_doublyMoved : MethodName := ⟨RX9, "doublyMoved", "(I)I"⟩
abbrev cX9_meetsEarlier : ByteArray := prog_11_method_19_code
def yX9_meetsEarlier : MethodName := ⟨RX9, "meetsEarlier", "(II)Z"⟩
abbrev cX9_isStandingMove : ByteArray := prog_11_method_20_code
def yX9_isStandingMove : MethodName := ⟨RX9, "isStandingMove", "(II)Z"⟩
def RX10 : String := "HandsPicture$Words"
def TX10 : u_T := fun k => match k with
  | 0 => ("HandsPicture$Words", "width", "[I", true)
  | 1 => ("HandsPicture$Words", "least", "[I", true)
  | 2 => ("HandsPicture$Words", "nextRow", "[I", true)
  | _ => ("HandsPicture$Words", "size", "I", false)
def tyX10 : Nat → FieldType := fun k => match k with
  | 0 => .array .int
  | 1 => .array .int
  | 2 => .array .int
  | _ => .int
theorem nmX10 : ∀ a, a < 4 → ∀ b, b < 4 → a ≠ b → (TX10 a).2.1 ≠ (TX10 b).2.1 := by decide +kernel
theorem tyX10_ok : ∀ k, k < 4 → parseFieldDescriptor (TX10 k).2.2.1 = some (tyX10 k) := by decide +kernel
abbrev cX10_init : ByteArray := prog_12_method_1_code
def yX10_init : MethodName := ⟨RX10, "<init>", "()V"⟩
abbrev cX10_size : ByteArray := prog_12_method_2_code
def yX10_size : MethodName := ⟨RX10, "size", "()I"⟩
abbrev cX10_isFull : ByteArray := prog_12_method_3_code
def yX10_isFull : MethodName := ⟨RX10, "isFull", "()Z"⟩
abbrev cX10_add : ByteArray := prog_12_method_4_code
def yX10_add : MethodName := ⟨RX10, "add", "(I)I"⟩
abbrev cX10_breakFor : ByteArray := prog_12_method_5_code
def yX10_breakFor : MethodName := ⟨RX10, "breakFor", "(I)Z"⟩
abbrev cX10_breakFrom : ByteArray := prog_12_method_6_code
def yX10_breakFrom : MethodName := ⟨RX10, "breakFrom", "(II)V"⟩
abbrev cX10_squares : ByteArray := prog_12_method_7_code
def yX10_squares : MethodName := ⟨RX10, "squares", "()I"⟩
abbrev cX10_rowCount : ByteArray := prog_12_method_8_code
def yX10_rowCount : MethodName := ⟨RX10, "rowCount", "()I"⟩
abbrev cX10_firstOfRow : ByteArray := prog_12_method_9_code
def yX10_firstOfRow : MethodName := ⟨RX10, "firstOfRow", "(I)I"⟩
def RX11 : String := "HandsPicture"
def TX11 : u_T := fun k => match k with
  | 0 => ("HandsPicture", "reader", "LHandsPicture$Reader;", true)
  | 1 => ("HandsPicture", "story", "LHandsPicture$Story;", true)
  | 2 => ("HandsPicture", "here", "LHandsPicture$Picture;", true)
  | 3 => ("HandsPicture", "there", "LHandsPicture$Picture;", true)
  | 4 => ("HandsPicture", "setting", "LHandsPicture$Setting;", true)
  | 5 => ("HandsPicture", "plane", "LHandsPicture$Gaps;", true)
  | 6 => ("HandsPicture", "quarrels", "LHandsPicture$Quarrels;", true)
  | 7 => ("HandsPicture", "lines", "LHandsPicture$Lines;", true)
  | 8 => ("HandsPicture", "kinds", "LHandsPicture$Kinds;", true)
  | 9 => ("HandsPicture", "words", "LHandsPicture$Words;", true)
  | 10 => ("HandsPicture", "book", "LHandsPicture$Laws;", false)
  | _ => ("HandsPicture", "draft", "LHandsPicture$Laws;", false)
def tyX11 : Nat → FieldType := fun k => match k with
  | 0 => .object "HandsPicture$Reader"
  | 1 => .object "HandsPicture$Story"
  | 2 => .object "HandsPicture$Picture"
  | 3 => .object "HandsPicture$Picture"
  | 4 => .object "HandsPicture$Setting"
  | 5 => .object "HandsPicture$Gaps"
  | 6 => .object "HandsPicture$Quarrels"
  | 7 => .object "HandsPicture$Lines"
  | 8 => .object "HandsPicture$Kinds"
  | 9 => .object "HandsPicture$Words"
  | 10 => .object "HandsPicture$Laws"
  | _ => .object "HandsPicture$Laws"
theorem nmX11 : ∀ a, a < 12 → ∀ b, b < 12 → a ≠ b → (TX11 a).2.1 ≠ (TX11 b).2.1 := by decide +kernel
theorem tyX11_ok : ∀ k, k < 12 → parseFieldDescriptor (TX11 k).2.2.1 = some (tyX11 k) := by decide +kernel
abbrev cX11_init : ByteArray := prog_1_method_1_code
def yX11_init : MethodName := ⟨RX11, "<init>", "()V"⟩
abbrev cX11_type : ByteArray := prog_1_method_2_code
def yX11_type : MethodName := ⟨RX11, "type", "(JI)I"⟩
abbrev cX11_clear : ByteArray := prog_1_method_3_code
def yX11_clear : MethodName := ⟨RX11, "clear", "()I"⟩
abbrev cX11_laws : ByteArray := prog_1_method_4_code
def yX11_laws : MethodName := ⟨RX11, "laws", "()I"⟩
abbrev cX11_law : ByteArray := prog_1_method_5_code
def yX11_law : MethodName := ⟨RX11, "law", "(II)I"⟩
abbrev cX11_move : ByteArray := prog_1_method_6_code
def yX11_move : MethodName := ⟨RX11, "move", "(IIII)I"⟩
abbrev cX11_lay : ByteArray := prog_1_method_7_code
def yX11_lay : MethodName := ⟨RX11, "lay", "(III)I"⟩
abbrev cX11_back : ByteArray := prog_1_method_8_code
def yX11_back : MethodName := ⟨RX11, "back", "(II)I"⟩
abbrev cX11_join : ByteArray := prog_1_method_9_code
def yX11_join : MethodName := ⟨RX11, "join", "(II)I"⟩
abbrev cX11_change : ByteArray := prog_1_method_10_code
def yX11_change : MethodName := ⟨RX11, "change", "(II)I"⟩
abbrev cX11_sees : ByteArray := prog_1_method_11_code
def yX11_sees : MethodName := ⟨RX11, "sees", "(II)I"⟩
abbrev cX11_stands : ByteArray := prog_1_method_12_code
def yX11_stands : MethodName := ⟨RX11, "stands", "(IIII)I"⟩
abbrev cX11_on : ByteArray := prog_1_method_13_code
def yX11_on : MethodName := ⟨RX11, "on", "(II)I"⟩
abbrev cX11_both : ByteArray := prog_1_method_14_code
def yX11_both : MethodName := ⟨RX11, "both", "(I)I"⟩
abbrev cX11_unlike : ByteArray := prog_1_method_15_code
def yX11_unlike : MethodName := ⟨RX11, "unlike", "(II)I"⟩
abbrev cX11_set : ByteArray := prog_1_method_16_code
def yX11_set : MethodName := ⟨RX11, "set", "(IIII)I"⟩
abbrev cX11_about : ByteArray := prog_1_method_17_code
def yX11_about : MethodName := ⟨RX11, "about", "(III)I"⟩
abbrev cX11_quarrel : ByteArray := prog_1_method_18_code
def yX11_quarrel : MethodName := ⟨RX11, "quarrel", "(III)I"⟩
abbrev cX11_forced : ByteArray := prog_1_method_19_code
def yX11_forced : MethodName := ⟨RX11, "forced", "(III)I"⟩
abbrev cX11_knot : ByteArray := prog_1_method_20_code
def yX11_knot : MethodName := ⟨RX11, "knot", "(IIII)I"⟩
abbrev cX11_line : ByteArray := prog_1_method_21_code
def yX11_line : MethodName := ⟨RX11, "line", "(II)I"⟩
abbrev cX11_ink : ByteArray := prog_1_method_22_code
def yX11_ink : MethodName := ⟨RX11, "ink", "(III)I"⟩
abbrev cX11_dots : ByteArray := prog_1_method_23_code
def yX11_dots : MethodName := ⟨RX11, "dots", "(II)I"⟩
abbrev cX11_meet : ByteArray := prog_1_method_24_code
def yX11_meet : MethodName := ⟨RX11, "meet", "(III)I"⟩
abbrev cX11_word : ByteArray := prog_1_method_25_code
def yX11_word : MethodName := ⟨RX11, "word", "(I)I"⟩
abbrev cX11_rows : ByteArray := prog_1_method_26_code
def yX11_rows : MethodName := ⟨RX11, "rows", "(II)I"⟩
abbrev cX11_row : ByteArray := prog_1_method_27_code
def yX11_row : MethodName := ⟨RX11, "row", "(II)I"⟩
abbrev cX11_count : ByteArray := prog_1_method_28_code
def yX11_count : MethodName := ⟨RX11, "count", "(I)I"⟩
abbrev cX11_trace : ByteArray := prog_1_method_29_code
def yX11_trace : MethodName := ⟨RX11, "trace", "()J"⟩
abbrev cX11_within : ByteArray := prog_1_method_30_code
def yX11_within : MethodName := ⟨RX11, "within", "(III)Z"⟩
abbrev cX11_isHand : ByteArray := prog_1_method_31_code
def yX11_isHand : MethodName := ⟨RX11, "isHand", "(I)Z"⟩
abbrev cX11_isPoint : ByteArray := prog_1_method_32_code
def yX11_isPoint : MethodName := ⟨RX11, "isPoint", "(I)Z"⟩
abbrev cX11_isPlace : ByteArray := prog_1_method_33_code
def yX11_isPlace : MethodName := ⟨RX11, "isPlace", "(I)Z"⟩
abbrev cX11_isSheet : ByteArray := prog_1_method_34_code
def yX11_isSheet : MethodName := ⟨RX11, "isSheet", "(I)Z"⟩
abbrev cX11_isLaw : ByteArray := prog_1_method_35_code
def yX11_isLaw : MethodName := ⟨RX11, "isLaw", "(I)Z"⟩
abbrev cX11_isChange : ByteArray := prog_1_method_36_code
def yX11_isChange : MethodName := ⟨RX11, "isChange", "(I)Z"⟩
abbrev cX11_isLine : ByteArray := prog_1_method_37_code
def yX11_isLine : MethodName := ⟨RX11, "isLine", "(I)Z"⟩
abbrev cX11_showLast : ByteArray := prog_1_method_38_code
def yX11_showLast : MethodName := ⟨RX11, "showLast", "(I)V"⟩
abbrev cX11_countingFor : ByteArray := prog_1_method_39_code
def yX11_countingFor : MethodName := ⟨RX11, "countingFor", "(II)I"⟩
abbrev cX11_settleFor : ByteArray := prog_1_method_40_code
def yX11_settleFor : MethodName := ⟨RX11, "settleFor", "(II)V"⟩
abbrev cX11_isForcedBy : ByteArray := prog_1_method_41_code
def yX11_isForcedBy : MethodName := ⟨RX11, "isForcedBy", "(II)Z"⟩
def RX12 : String := "HandsPictureModel"
def TX12 : u_T := fun k => match k with
  | 0 => ("HandsPictureModel", "trace", "J", false)
  | 1 => ("HandsPictureModel", "text", "[B", true)
  | 2 => ("HandsPictureModel", "typed", "I", false)
  | 3 => ("HandsPictureModel", "laws", "I", false)
  | 4 => ("HandsPictureModel", "word", "[I", true)
  | 5 => ("HandsPictureModel", "one", "[I", true)
  | 6 => ("HandsPictureModel", "two", "[I", true)
  | 7 => ("HandsPictureModel", "by", "[I", true)
  | 8 => ("HandsPictureModel", "weight", "[I", true)
  | 9 => ("HandsPictureModel", "below", "[I", true)
  | 10 => ("HandsPictureModel", "at", "I", false)
  | 11 => ("HandsPictureModel", "start", "I", false)
  | 12 => ("HandsPictureModel", "sort", "I", false)
  | 13 => ("HandsPictureModel", "value", "I", false)
  | 14 => ("HandsPictureModel", "fault", "I", false)
  | 15 => ("HandsPictureModel", "wishes", "I", false)
  | 16 => ("HandsPictureModel", "mark", "I", false)
  | 17 => ("HandsPictureModel", "changes", "I", false)
  | 18 => ("HandsPictureModel", "maker", "[I", true)
  | 19 => ("HandsPictureModel", "kind", "[I", true)
  | 20 => ("HandsPictureModel", "what0", "[I", true)
  | 21 => ("HandsPictureModel", "toX", "[I", true)
  | 22 => ("HandsPictureModel", "toY", "[I", true)
  | 23 => ("HandsPictureModel", "stamp", "[I", true)
  | 24 => ("HandsPictureModel", "saw", "[J", true)
  | 25 => ("HandsPictureModel", "seen", "[J", true)
  | 26 => ("HandsPictureModel", "stood", "[I", true)
  | 27 => ("HandsPictureModel", "lawsOn", "I", false)
  | 28 => ("HandsPictureModel", "stoodOther", "[I", true)
  | 29 => ("HandsPictureModel", "v", "[I", true)
  | 30 => ("HandsPictureModel", "best", "[I", true)
  | 31 => ("HandsPictureModel", "bestWeight", "I", false)
  | 32 => ("HandsPictureModel", "bestMoved", "I", false)
  | 33 => ("HandsPictureModel", "far", "[I", true)
  | 34 => ("HandsPictureModel", "lines", "I", false)
  | 35 => ("HandsPictureModel", "lineFrom", "[I", true)
  | 36 => ("HandsPictureModel", "lineTo", "[I", true)
  | 37 => ("HandsPictureModel", "dot", "[Z", true)
  | 38 => ("HandsPictureModel", "words", "I", false)
  | 39 => ("HandsPictureModel", "width", "[I", true)
  | 40 => ("HandsPictureModel", "least", "[I", true)
  | _ => ("HandsPictureModel", "taken", "[I", true)
def tyX12 : Nat → FieldType := fun k => match k with
  | 0 => .long
  | 1 => .array .byte
  | 2 => .int
  | 3 => .int
  | 4 => .array .int
  | 5 => .array .int
  | 6 => .array .int
  | 7 => .array .int
  | 8 => .array .int
  | 9 => .array .int
  | 10 => .int
  | 11 => .int
  | 12 => .int
  | 13 => .int
  | 14 => .int
  | 15 => .int
  | 16 => .int
  | 17 => .int
  | 18 => .array .int
  | 19 => .array .int
  | 20 => .array .int
  | 21 => .array .int
  | 22 => .array .int
  | 23 => .array .int
  | 24 => .array .long
  | 25 => .array .long
  | 26 => .array .int
  | 27 => .int
  | 28 => .array .int
  | 29 => .array .int
  | 30 => .array .int
  | 31 => .int
  | 32 => .int
  | 33 => .array .int
  | 34 => .int
  | 35 => .array .int
  | 36 => .array .int
  | 37 => .array .boolean
  | 38 => .int
  | 39 => .array .int
  | 40 => .array .int
  | _ => .array .int
theorem nmX12 : ∀ a, a < 42 → ∀ b, b < 42 → a ≠ b → (TX12 a).2.1 ≠ (TX12 b).2.1 := by decide +kernel
theorem tyX12_ok : ∀ k, k < 42 → parseFieldDescriptor (TX12 k).2.2.1 = some (tyX12 k) := by decide +kernel
abbrev cX12_init : ByteArray := prog_14_method_1_code
def yX12_init : MethodName := ⟨RX12, "<init>", "()V"⟩
abbrev cX12_in : ByteArray := prog_14_method_3_code
def yX12_in : MethodName := ⟨RX12, "in", "(III)Z"⟩
abbrev cX12_type : ByteArray := prog_14_method_4_code
def yX12_type : MethodName := ⟨RX12, "type", "(JI)I"⟩
abbrev cX12_clear : ByteArray := prog_14_method_5_code
def yX12_clear : MethodName := ⟨RX12, "clear", "()I"⟩
abbrev cX12_here : ByteArray := prog_14_method_6_code
def yX12_here : MethodName := ⟨RX12, "here", "()I"⟩
abbrev cX12_more : ByteArray := prog_14_method_7_code
def yX12_more : MethodName := ⟨RX12, "more", "(JI)J"⟩
abbrev cX12_code : ByteArray := prog_14_method_8_code
def yX12_code : MethodName := ⟨RX12, "code", "(IIIII)J"⟩
abbrev cX12_wordOf : ByteArray := prog_14_method_9_code
def yX12_wordOf : MethodName := ⟨RX12, "wordOf", "(II)I"⟩
abbrev cX12_next : ByteArray := prog_14_method_10_code
def yX12_next : MethodName := ⟨RX12, "next", "()V"⟩
abbrev cX12_due : ByteArray := prog_14_method_11_code
def yX12_due : MethodName := ⟨RX12, "due", "(Z)I"⟩
abbrev cX12_number : ByteArray := prog_14_method_12_code
def yX12_number : MethodName := ⟨RX12, "number", "(II)I"⟩
abbrev cX12_readLaw : ByteArray := prog_14_method_13_code
def yX12_readLaw : MethodName := ⟨RX12, "readLaw", "(I)V"⟩
abbrev cX12_laws : ByteArray := prog_14_method_14_code
def yX12_laws : MethodName := ⟨RX12, "laws", "()I"⟩
abbrev cX12_isLaw : ByteArray := prog_14_method_15_code
def yX12_isLaw : MethodName := ⟨RX12, "isLaw", "(I)Z"⟩
abbrev cX12_law : ByteArray := prog_14_method_16_code
def yX12_law : MethodName := ⟨RX12, "law", "(II)I"⟩
abbrev cX12_isHand : ByteArray := prog_14_method_17_code
def yX12_isHand : MethodName := ⟨RX12, "isHand", "(I)Z"⟩
abbrev cX12_isPoint : ByteArray := prog_14_method_18_code
def yX12_isPoint : MethodName := ⟨RX12, "isPoint", "(I)Z"⟩
abbrev cX12_isChange : ByteArray := prog_14_method_19_code
def yX12_isChange : MethodName := ⟨RX12, "isChange", "(I)Z"⟩
abbrev cX12_isSeen : ByteArray := prog_14_method_20_code
def yX12_isSeen : MethodName := ⟨RX12, "isSeen", "(II)Z"⟩
abbrev cX12_add : ByteArray := prog_14_method_21_code
def yX12_add : MethodName := ⟨RX12, "add", "(IIIII)I"⟩
abbrev cX12_move : ByteArray := prog_14_method_22_code
def yX12_move : MethodName := ⟨RX12, "move", "(IIII)I"⟩
abbrev cX12_lay : ByteArray := prog_14_method_23_code
def yX12_lay : MethodName := ⟨RX12, "lay", "(III)I"⟩
abbrev cX12_isBack : ByteArray := prog_14_method_24_code
def yX12_isBack : MethodName := ⟨RX12, "isBack", "(III)Z"⟩
abbrev cX12_back : ByteArray := prog_14_method_25_code
def yX12_back : MethodName := ⟨RX12, "back", "(II)I"⟩
abbrev cX12_bitsIn : ByteArray := prog_14_method_26_code
def yX12_bitsIn : MethodName := ⟨RX12, "bitsIn", "(J)I"⟩
abbrev cX12_join : ByteArray := prog_14_method_27_code
def yX12_join : MethodName := ⟨RX12, "join", "(II)I"⟩
abbrev cX12_change : ByteArray := prog_14_method_28_code
def yX12_change : MethodName := ⟨RX12, "change", "(II)I"⟩
abbrev cX12_sees : ByteArray := prog_14_method_29_code
def yX12_sees : MethodName := ⟨RX12, "sees", "(II)I"⟩
abbrev cX12_isLater : ByteArray := prog_14_method_30_code
def yX12_isLater : MethodName := ⟨RX12, "isLater", "(II)Z"⟩
abbrev cX12_picture : ByteArray := prog_14_method_31_code
def yX12_picture : MethodName := ⟨RX12, "picture", "(II)V"⟩
abbrev cX12_stands : ByteArray := prog_14_method_32_code
def yX12_stands : MethodName := ⟨RX12, "stands", "(IIII)I"⟩
abbrev cX12_on : ByteArray := prog_14_method_33_code
def yX12_on : MethodName := ⟨RX12, "on", "(II)I"⟩
abbrev cX12_isMove : ByteArray := prog_14_method_34_code
def yX12_isMove : MethodName := ⟨RX12, "isMove", "(II)Z"⟩
abbrev cX12_both : ByteArray := prog_14_method_35_code
def yX12_both : MethodName := ⟨RX12, "both", "(I)I"⟩
abbrev cX12_unlike : ByteArray := prog_14_method_36_code
def yX12_unlike : MethodName := ⟨RX12, "unlike", "(II)I"⟩
abbrev cX12_isTall : ByteArray := prog_14_method_37_code
def yX12_isTall : MethodName := ⟨RX12, "isTall", "(I)Z"⟩
abbrev cX12_isEven : ByteArray := prog_14_method_38_code
def yX12_isEven : MethodName := ⟨RX12, "isEven", "(I)Z"⟩
abbrev cX12_counting : ByteArray := prog_14_method_39_code
def yX12_counting : MethodName := ⟨RX12, "counting", "(IZ)I"⟩
abbrev cX12_holds : ByteArray := prog_14_method_40_code
def yX12_holds : MethodName := ⟨RX12, "holds", "(I)Z"⟩
abbrev cX12_holdAll : ByteArray := prog_14_method_41_code
def yX12_holdAll : MethodName := ⟨RX12, "holdAll", "(IZ)Z"⟩
abbrev cX12_findLeast : ByteArray := prog_14_method_42_code
def yX12_findLeast : MethodName := ⟨RX12, "findLeast", "(IZI)Z"⟩
abbrev cX12_movedBy : ByteArray := prog_14_method_43_code
def yX12_movedBy : MethodName := ⟨RX12, "movedBy", "(Z)I"⟩
abbrev cX12_isOnSheet : ByteArray := prog_14_method_44_code
def yX12_isOnSheet : MethodName := ⟨RX12, "isOnSheet", "(I)Z"⟩
abbrev cX12_shift : ByteArray := prog_14_method_45_code
def yX12_shift : MethodName := ⟨RX12, "shift", "(II)V"⟩
abbrev cX12_pointsIn : ByteArray := prog_14_method_46_code
def yX12_pointsIn : MethodName := ⟨RX12, "pointsIn", "(I)I"⟩
abbrev cX12_climb : ByteArray := prog_14_method_47_code
def yX12_climb : MethodName := ⟨RX12, "climb", "(IZI)V"⟩
abbrev cX12_weightOf : ByteArray := prog_14_method_48_code
def yX12_weightOf : MethodName := ⟨RX12, "weightOf", "(I)I"⟩
abbrev cX12_isFirst : ByteArray := prog_14_method_49_code
def yX12_isFirst : MethodName := ⟨RX12, "isFirst", "(I)Z"⟩
abbrev cX12_findBest : ByteArray := prog_14_method_50_code
def yX12_findBest : MethodName := ⟨RX12, "findBest", "(IIZI)Z"⟩
abbrev cX12_settle : ByteArray := prog_14_method_51_code
def yX12_settle : MethodName := ⟨RX12, "settle", "(II)Z"⟩
abbrev cX12_isSize : ByteArray := prog_14_method_52_code
def yX12_isSize : MethodName := ⟨RX12, "isSize", "(I)Z"⟩
abbrev cX12_set : ByteArray := prog_14_method_53_code
def yX12_set : MethodName := ⟨RX12, "set", "(IIII)I"⟩
abbrev cX12_about : ByteArray := prog_14_method_54_code
def yX12_about : MethodName := ⟨RX12, "about", "(III)I"⟩
abbrev cX12_canBe : ByteArray := prog_14_method_55_code
def yX12_canBe : MethodName := ⟨RX12, "canBe", "(II)Z"⟩
abbrev cX12_lawsIn : ByteArray := prog_14_method_56_code
def yX12_lawsIn : MethodName := ⟨RX12, "lawsIn", "(I)I"⟩
abbrev cX12_quarrel : ByteArray := prog_14_method_57_code
def yX12_quarrel : MethodName := ⟨RX12, "quarrel", "(III)I"⟩
abbrev cX12_findFar : ByteArray := prog_14_method_58_code
def yX12_findFar : MethodName := ⟨RX12, "findFar", "(IZ)Z"⟩
abbrev cX12_forced : ByteArray := prog_14_method_59_code
def yX12_forced : MethodName := ⟨RX12, "forced", "(III)I"⟩
abbrev cX12_heapOf : ByteArray := prog_14_method_60_code
def yX12_heapOf : MethodName := ⟨RX12, "heapOf", "(II)I"⟩
abbrev cX12_evenOnes : ByteArray := prog_14_method_61_code
def yX12_evenOnes : MethodName := ⟨RX12, "evenOnes", "(IZ)I"⟩
abbrev cX12_knot : ByteArray := prog_14_method_62_code
def yX12_knot : MethodName := ⟨RX12, "knot", "(IIII)I"⟩
abbrev cX12_line : ByteArray := prog_14_method_63_code
def yX12_line : MethodName := ⟨RX12, "line", "(II)I"⟩
abbrev cX12_size : ByteArray := prog_14_method_64_code
def yX12_size : MethodName := ⟨RX12, "size", "(I)I"⟩
abbrev cX12_wideOf : ByteArray := prog_14_method_65_code
def yX12_wideOf : MethodName := ⟨RX12, "wideOf", "(I)I"⟩
abbrev cX12_highOf : ByteArray := prog_14_method_66_code
def yX12_highOf : MethodName := ⟨RX12, "highOf", "(I)I"⟩
abbrev cX12_greater : ByteArray := prog_14_method_67_code
def yX12_greater : MethodName := ⟨RX12, "greater", "(II)I"⟩
abbrev cX12_greatest : ByteArray := prog_14_method_68_code
def yX12_greatest : MethodName := ⟨RX12, "greatest", "(I)I"⟩
abbrev cX12_ink : ByteArray := prog_14_method_69_code
def yX12_ink : MethodName := ⟨RX12, "ink", "(III)I"⟩
abbrev cX12_along : ByteArray := prog_14_method_70_code
def yX12_along : MethodName := ⟨RX12, "along", "(IIII)I"⟩
abbrev cX12_draw : ByteArray := prog_14_method_71_code
def yX12_draw : MethodName := ⟨RX12, "draw", "(I)V"⟩
abbrev cX12_dotsDrawn : ByteArray := prog_14_method_72_code
def yX12_dotsDrawn : MethodName := ⟨RX12, "dotsDrawn", "()I"⟩
abbrev cX12_wipe : ByteArray := prog_14_method_73_code
def yX12_wipe : MethodName := ⟨RX12, "wipe", "()V"⟩
abbrev cX12_dots : ByteArray := prog_14_method_74_code
def yX12_dots : MethodName := ⟨RX12, "dots", "(II)I"⟩
abbrev cX12_meet : ByteArray := prog_14_method_75_code
def yX12_meet : MethodName := ⟨RX12, "meet", "(III)I"⟩
abbrev cX12_word : ByteArray := prog_14_method_76_code
def yX12_word : MethodName := ⟨RX12, "word", "(I)I"⟩
abbrev cX12_breakRows : ByteArray := prog_14_method_77_code
def yX12_breakRows : MethodName := ⟨RX12, "breakRows", "(I)Z"⟩
abbrev cX12_rows : ByteArray := prog_14_method_78_code
def yX12_rows : MethodName := ⟨RX12, "rows", "(II)I"⟩
abbrev cX12_row : ByteArray := prog_14_method_79_code
def yX12_row : MethodName := ⟨RX12, "row", "(II)I"⟩
abbrev cX12_count : ByteArray := prog_14_method_80_code
def yX12_count : MethodName := ⟨RX12, "count", "(I)I"⟩
abbrev cX12_trace : ByteArray := prog_14_method_81_code
def yX12_trace : MethodName := ⟨RX12, "trace", "()J"⟩
def RJ6 : String := "java/lang/Integer"
abbrev cJ6_bitCount_0f7a4 : ByteArray := prog_15_method_49_code
def yJ6_bitCount_0f7a4 : MethodName := ⟨RJ6, "bitCount", "(I)I"⟩
def RJ13 : String := "java/lang/Long"
abbrev cJ13_bitCount_95d88 : ByteArray := prog_16_method_50_code
def yJ13_bitCount_95d88 : MethodName := ⟨RJ13, "bitCount", "(J)I"⟩
def RJ9 : String := "java/lang/Math"
abbrev cJ9_floorDiv_7cf53 : ByteArray := prog_17_method_47_code
def yJ9_floorDiv_7cf53 : MethodName := ⟨RJ9, "floorDiv", "(II)I"⟩
abbrev cJ9_abs_0f7a4 : ByteArray := prog_17_method_59_code
def yJ9_abs_0f7a4 : MethodName := ⟨RJ9, "abs", "(I)I"⟩
abbrev cJ9_max_7cf53 : ByteArray := prog_17_method_65_code
def yJ9_max_7cf53 : MethodName := ⟨RJ9, "max", "(II)I"⟩
abbrev cJ9_min_7cf53 : ByteArray := prog_17_method_69_code
def yJ9_min_7cf53 : MethodName := ⟨RJ9, "min", "(II)I"⟩
def RJ0 : String := "java/lang/String"
abbrev cJ0_length_8abf5 : ByteArray := prog_18_method_54_code
def yJ0_length_8abf5 : MethodName := ⟨RJ0, "length", "()I"⟩
abbrev cJ0_charAt_5068e : ByteArray := prog_18_method_56_code
def yJ0_charAt_5068e : MethodName := ⟨RJ0, "charAt", "(I)C"⟩
abbrev cJ0_coder_7d493 : ByteArray := prog_18_method_152_code
def yJ0_coder_7d493 : MethodName := ⟨RJ0, "coder", "()B"⟩
abbrev cJ0_isLatin1_aae02 : ByteArray := prog_18_method_154_code
def yJ0_isLatin1_aae02 : MethodName := ⟨RJ0, "isLatin1", "()Z"⟩
abbrev cJ0_checkIndex_df160 : ByteArray := prog_18_method_155_code
def yJ0_checkIndex_df160 : MethodName := ⟨RJ0, "checkIndex", "(II)V"⟩
def RJ1 : String := "java/lang/StringLatin1"
abbrev cJ1_charAt_3b067 : ByteArray := prog_19_method_2_code
def yJ1_charAt_3b067 : MethodName := ⟨RJ1, "charAt", "([BI)C"⟩
def RJ2 : String := "java/lang/StringUTF16"
abbrev cJ2_getChar_3b067 : ByteArray := prog_20_method_5_code
def yJ2_getChar_3b067 : MethodName := ⟨RJ2, "getChar", "([BI)C"⟩
abbrev cJ2_length_9d52b : ByteArray := prog_20_method_6_code
def yJ2_length_9d52b : MethodName := ⟨RJ2, "length", "([B)I"⟩
abbrev cJ2_charAt_3b067 : ByteArray := prog_20_method_83_code
def yJ2_charAt_3b067 : MethodName := ⟨RJ2, "charAt", "([BI)C"⟩
abbrev cJ2_checkIndex_2214a : ByteArray := prog_20_method_91_code
def yJ2_checkIndex_2214a : MethodName := ⟨RJ2, "checkIndex", "(I[B)V"⟩
def RJ10 : String := "java/lang/System"
def RJ3 : String := "jdk/internal/util/Preconditions"
abbrev cJ3_checkIndex_8e157 : ByteArray := prog_22_method_11_code
def yJ3_checkIndex_8e157 : MethodName := ⟨RJ3, "checkIndex", "(IILjava/util/function/BiFunction;)I"⟩
def RL : String := "HandsPictureLaw"
abbrev cL_law : ByteArray := code
def yL_law : MethodName := ⟨RL, "law", "([I)Z"⟩
abbrev vwCl : List vw_C := [(RX0, TX0, 10), (RX1, TX1, 1), (RX2, TX2, 3), (RX3, TX3, 10), (RX4, TX4, 8), (RX5, TX5, 5), (RX6, TX6, 2), (RX7, TX7, 7), (RX8, TX8, 6), (RX9, TX9, 12), (RX10, TX10, 4), (RX11, TX11, 12), (RX12, TX12, 42)]

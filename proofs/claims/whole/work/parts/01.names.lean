/-- a private method of a class that the tables say can be made, by its rows of tables_1 -/
def lw_okq (q : MethodName × Nat) : Prop := (q.1.cls ≠ "java/lang/invoke/MethodHandle" ∧ q.1.cls ≠ "java/lang/invoke/VarHandle") ∧ Cond.instantiable q.1.cls q.2 ∈ tables_1 ∧ Cond.privateMethod q.1 ∈ tables_1 ∧ Cond.instanceMethod q.1 ∈ tables_1
theorem lw_p0 : lw_okq (⟨"SlipDrawer$Words", "split", "(I)V"⟩, 10) := ⟨⟨by decide +kernel, by decide +kernel⟩, List.mem_of_getElem? (i := 48) (by decide +kernel), List.mem_of_getElem? (i := 235) (by decide +kernel), List.mem_of_getElem? (i := 236) (by decide +kernel)⟩
theorem lw_p1 : lw_okq (⟨"SlipDrawer$Words", "keyOfLetters", "(III)J"⟩, 10) := ⟨⟨by decide +kernel, by decide +kernel⟩, List.mem_of_getElem? (i := 48) (by decide +kernel), List.mem_of_getElem? (i := 246) (by decide +kernel), List.mem_of_getElem? (i := 247) (by decide +kernel)⟩
theorem lw_p2 : lw_okq (⟨"SlipDrawer", "countMakings", "()I"⟩, 12) := ⟨⟨by decide +kernel, by decide +kernel⟩, List.mem_of_getElem? (i := 21) (by decide +kernel), List.mem_of_getElem? (i := 351) (by decide +kernel), List.mem_of_getElem? (i := 352) (by decide +kernel)⟩
theorem lw_p3 : lw_okq (⟨"SlipDrawer", "takeScript", "(I)I"⟩, 12) := ⟨⟨by decide +kernel, by decide +kernel⟩, List.mem_of_getElem? (i := 21) (by decide +kernel), List.mem_of_getElem? (i := 359) (by decide +kernel), List.mem_of_getElem? (i := 360) (by decide +kernel)⟩
theorem lw_p4 : lw_okq (⟨"SlipDrawer$Tokens", "endOf", "(I)I"⟩, 4) := ⟨⟨by decide +kernel, by decide +kernel⟩, List.mem_of_getElem? (i := 402) (by decide +kernel), List.mem_of_getElem? (i := 458) (by decide +kernel), List.mem_of_getElem? (i := 459) (by decide +kernel)⟩
theorem lw_p5 : lw_okq (⟨"SlipDrawer$Tokens", "tokenOf", "(II)I"⟩, 4) := ⟨⟨by decide +kernel, by decide +kernel⟩, List.mem_of_getElem? (i := 402) (by decide +kernel), List.mem_of_getElem? (i := 468) (by decide +kernel), List.mem_of_getElem? (i := 469) (by decide +kernel)⟩
theorem lw_p6 : lw_okq (⟨"SlipDrawer$Tokens", "ownWord", "(II)I"⟩, 4) := ⟨⟨by decide +kernel, by decide +kernel⟩, List.mem_of_getElem? (i := 402) (by decide +kernel), List.mem_of_getElem? (i := 472) (by decide +kernel), List.mem_of_getElem? (i := 473) (by decide +kernel)⟩
theorem lw_p7 : lw_okq (⟨"SlipDrawer$Tokens", "isOwnWordAt", "(III)Z"⟩, 4) := ⟨⟨by decide +kernel, by decide +kernel⟩, List.mem_of_getElem? (i := 402) (by decide +kernel), List.mem_of_getElem? (i := 525) (by decide +kernel), List.mem_of_getElem? (i := 526) (by decide +kernel)⟩
theorem lw_p8 : lw_okq (⟨"SlipDrawer$Tokens", "valueOf", "(II)I"⟩, 4) := ⟨⟨by decide +kernel, by decide +kernel⟩, List.mem_of_getElem? (i := 402) (by decide +kernel), List.mem_of_getElem? (i := 530) (by decide +kernel), List.mem_of_getElem? (i := 531) (by decide +kernel)⟩
theorem lw_p9 : lw_okq (⟨"SlipDrawer$Reader", "readStatement", "()V"⟩, 6) := ⟨⟨by decide +kernel, by decide +kernel⟩, List.mem_of_getElem? (i := 363) (by decide +kernel), List.mem_of_getElem? (i := 537) (by decide +kernel), List.mem_of_getElem? (i := 538) (by decide +kernel)⟩
theorem lw_p10 : lw_okq (⟨"SlipDrawer$Reader", "fail", "(I)V"⟩, 6) := ⟨⟨by decide +kernel, by decide +kernel⟩, List.mem_of_getElem? (i := 363) (by decide +kernel), List.mem_of_getElem? (i := 544) (by decide +kernel), List.mem_of_getElem? (i := 545) (by decide +kernel)⟩
theorem lw_p11 : lw_okq (⟨"SlipDrawer$Reader", "pass", "()V"⟩, 6) := ⟨⟨by decide +kernel, by decide +kernel⟩, List.mem_of_getElem? (i := 363) (by decide +kernel), List.mem_of_getElem? (i := 548) (by decide +kernel), List.mem_of_getElem? (i := 549) (by decide +kernel)⟩
theorem lw_p12 : lw_okq (⟨"SlipDrawer$Reader", "readSum", "(I)V"⟩, 6) := ⟨⟨by decide +kernel, by decide +kernel⟩, List.mem_of_getElem? (i := 363) (by decide +kernel), List.mem_of_getElem? (i := 552) (by decide +kernel), List.mem_of_getElem? (i := 553) (by decide +kernel)⟩
theorem lw_p13 : lw_okq (⟨"SlipDrawer$Reader", "readProduct", "(I)V"⟩, 6) := ⟨⟨by decide +kernel, by decide +kernel⟩, List.mem_of_getElem? (i := 363) (by decide +kernel), List.mem_of_getElem? (i := 556) (by decide +kernel), List.mem_of_getElem? (i := 557) (by decide +kernel)⟩
theorem lw_p14 : lw_okq (⟨"SlipDrawer$Reader", "readPart", "(I)V"⟩, 6) := ⟨⟨by decide +kernel, by decide +kernel⟩, List.mem_of_getElem? (i := 363) (by decide +kernel), List.mem_of_getElem? (i := 560) (by decide +kernel), List.mem_of_getElem? (i := 561) (by decide +kernel)⟩
theorem lw_p15 : lw_okq (⟨"SlipDrawer$Reader", "passOpening", "(II)V"⟩, 6) := ⟨⟨by decide +kernel, by decide +kernel⟩, List.mem_of_getElem? (i := 363) (by decide +kernel), List.mem_of_getElem? (i := 568) (by decide +kernel), List.mem_of_getElem? (i := 569) (by decide +kernel)⟩
def lw_privs_1 : List (MethodName × Nat) := [(⟨"SlipDrawer$Words", "split", "(I)V"⟩, 10), (⟨"SlipDrawer$Words", "keyOfLetters", "(III)J"⟩, 10), (⟨"SlipDrawer", "countMakings", "()I"⟩, 12), (⟨"SlipDrawer", "takeScript", "(I)I"⟩, 12), (⟨"SlipDrawer$Tokens", "endOf", "(I)I"⟩, 4), (⟨"SlipDrawer$Tokens", "tokenOf", "(II)I"⟩, 4), (⟨"SlipDrawer$Tokens", "ownWord", "(II)I"⟩, 4), (⟨"SlipDrawer$Tokens", "isOwnWordAt", "(III)Z"⟩, 4), (⟨"SlipDrawer$Tokens", "valueOf", "(II)I"⟩, 4), (⟨"SlipDrawer$Reader", "readStatement", "()V"⟩, 6), (⟨"SlipDrawer$Reader", "fail", "(I)V"⟩, 6), (⟨"SlipDrawer$Reader", "pass", "()V"⟩, 6), (⟨"SlipDrawer$Reader", "readSum", "(I)V"⟩, 6), (⟨"SlipDrawer$Reader", "readProduct", "(I)V"⟩, 6), (⟨"SlipDrawer$Reader", "readPart", "(I)V"⟩, 6), (⟨"SlipDrawer$Reader", "passOpening", "(II)V"⟩, 6)]
theorem lw_r1 : ∀ q ∈ lw_privs_1, lw_okq q := List.forall_mem_cons.mpr ⟨lw_p0, List.forall_mem_cons.mpr ⟨lw_p1, List.forall_mem_cons.mpr ⟨lw_p2, List.forall_mem_cons.mpr ⟨lw_p3, List.forall_mem_cons.mpr ⟨lw_p4, List.forall_mem_cons.mpr ⟨lw_p5, List.forall_mem_cons.mpr ⟨lw_p6, List.forall_mem_cons.mpr ⟨lw_p7, List.forall_mem_cons.mpr ⟨lw_p8, List.forall_mem_cons.mpr ⟨lw_p9, List.forall_mem_cons.mpr ⟨lw_p10, List.forall_mem_cons.mpr ⟨lw_p11, List.forall_mem_cons.mpr ⟨lw_p12, List.forall_mem_cons.mpr ⟨lw_p13, List.forall_mem_cons.mpr ⟨lw_p14, List.forall_mem_cons.mpr ⟨lw_p15, fun _ h => absurd h List.not_mem_nil⟩⟩⟩⟩⟩⟩⟩⟩⟩⟩⟩⟩⟩⟩⟩⟩
theorem lw_p16 : lw_okq (⟨"SlipDrawer$Reader", "passOnly", "(I)V"⟩, 6) := ⟨⟨by decide +kernel, by decide +kernel⟩, List.mem_of_getElem? (i := 363) (by decide +kernel), List.mem_of_getElem? (i := 572) (by decide +kernel), List.mem_of_getElem? (i := 573) (by decide +kernel)⟩
theorem lw_p17 : lw_okq (⟨"SlipDrawer$Reader", "readTest", "(I)V"⟩, 6) := ⟨⟨by decide +kernel, by decide +kernel⟩, List.mem_of_getElem? (i := 363) (by decide +kernel), List.mem_of_getElem? (i := 576) (by decide +kernel), List.mem_of_getElem? (i := 577) (by decide +kernel)⟩
theorem lw_p18 : lw_okq (⟨"SlipDrawer$Reader", "readBoth", "(I)V"⟩, 6) := ⟨⟨by decide +kernel, by decide +kernel⟩, List.mem_of_getElem? (i := 363) (by decide +kernel), List.mem_of_getElem? (i := 580) (by decide +kernel), List.mem_of_getElem? (i := 581) (by decide +kernel)⟩
theorem lw_p19 : lw_okq (⟨"SlipDrawer$Reader", "readFact", "(I)V"⟩, 6) := ⟨⟨by decide +kernel, by decide +kernel⟩, List.mem_of_getElem? (i := 363) (by decide +kernel), List.mem_of_getElem? (i := 584) (by decide +kernel), List.mem_of_getElem? (i := 585) (by decide +kernel)⟩
theorem lw_p20 : lw_okq (⟨"SlipDrawer", "readyRow", "(I)LSlipDrawer$Meant;"⟩, 12) := ⟨⟨by decide +kernel, by decide +kernel⟩, List.mem_of_getElem? (i := 21) (by decide +kernel), List.mem_of_getElem? (i := 604) (by decide +kernel), List.mem_of_getElem? (i := 605) (by decide +kernel)⟩
theorem lw_p21 : lw_okq (⟨"SlipDrawer", "isRow", "(I)Z"⟩, 12) := ⟨⟨by decide +kernel, by decide +kernel⟩, List.mem_of_getElem? (i := 21) (by decide +kernel), List.mem_of_getElem? (i := 608) (by decide +kernel), List.mem_of_getElem? (i := 609) (by decide +kernel)⟩
theorem lw_p22 : lw_okq (⟨"SlipDrawer$Meant", "add", "(III)V"⟩, 16) := ⟨⟨by decide +kernel, by decide +kernel⟩, List.mem_of_getElem? (i := 262) (by decide +kernel), List.mem_of_getElem? (i := 620) (by decide +kernel), List.mem_of_getElem? (i := 621) (by decide +kernel)⟩
theorem lw_p23 : lw_okq (⟨"SlipDrawer$Meant", "canTake", "(III)Z"⟩, 16) := ⟨⟨by decide +kernel, by decide +kernel⟩, List.mem_of_getElem? (i := 262) (by decide +kernel), List.mem_of_getElem? (i := 624) (by decide +kernel), List.mem_of_getElem? (i := 625) (by decide +kernel)⟩
theorem lw_p24 : lw_okq (⟨"SlipDrawer$Meant", "frontAt", "(II)I"⟩, 16) := ⟨⟨by decide +kernel, by decide +kernel⟩, List.mem_of_getElem? (i := 262) (by decide +kernel), List.mem_of_getElem? (i := 657) (by decide +kernel), List.mem_of_getElem? (i := 658) (by decide +kernel)⟩
theorem lw_p25 : lw_okq (⟨"SlipDrawer$Meant", "backAt", "(II)I"⟩, 16) := ⟨⟨by decide +kernel, by decide +kernel⟩, List.mem_of_getElem? (i := 262) (by decide +kernel), List.mem_of_getElem? (i := 661) (by decide +kernel), List.mem_of_getElem? (i := 662) (by decide +kernel)⟩
theorem lw_p26 : lw_okq (⟨"SlipDrawer$Meant", "describeChange", "(II)V"⟩, 16) := ⟨⟨by decide +kernel, by decide +kernel⟩, List.mem_of_getElem? (i := 262) (by decide +kernel), List.mem_of_getElem? (i := 674) (by decide +kernel), List.mem_of_getElem? (i := 675) (by decide +kernel)⟩
theorem lw_p27 : lw_okq (⟨"SlipDrawer$Meant", "keyOfSaid", "(I)J"⟩, 16) := ⟨⟨by decide +kernel, by decide +kernel⟩, List.mem_of_getElem? (i := 262) (by decide +kernel), List.mem_of_getElem? (i := 682) (by decide +kernel), List.mem_of_getElem? (i := 683) (by decide +kernel)⟩
theorem lw_p28 : lw_okq (⟨"SlipDrawer$Meant", "isSaidAlike", "(II)Z"⟩, 16) := ⟨⟨by decide +kernel, by decide +kernel⟩, List.mem_of_getElem? (i := 262) (by decide +kernel), List.mem_of_getElem? (i := 697) (by decide +kernel), List.mem_of_getElem? (i := 698) (by decide +kernel)⟩
theorem lw_p29 : lw_okq (⟨"SlipDrawer", "weighFor", "(LSlipDrawer$Meant;I)V"⟩, 12) := ⟨⟨by decide +kernel, by decide +kernel⟩, List.mem_of_getElem? (i := 21) (by decide +kernel), List.mem_of_getElem? (i := 713) (by decide +kernel), List.mem_of_getElem? (i := 714) (by decide +kernel)⟩
theorem lw_p30 : lw_okq (⟨"SlipDrawer$Meant", "tellFacts", "(I[I)V"⟩, 16) := ⟨⟨by decide +kernel, by decide +kernel⟩, List.mem_of_getElem? (i := 262) (by decide +kernel), List.mem_of_getElem? (i := 721) (by decide +kernel), List.mem_of_getElem? (i := 722) (by decide +kernel)⟩
theorem lw_p31 : lw_okq (⟨"SlipDrawer$Machine", "plainValue", "(I)I"⟩, 2) := ⟨⟨by decide +kernel, by decide +kernel⟩, List.mem_of_getElem? (i := 98) (by decide +kernel), List.mem_of_getElem? (i := 740) (by decide +kernel), List.mem_of_getElem? (i := 741) (by decide +kernel)⟩
def lw_privs_2 : List (MethodName × Nat) := [(⟨"SlipDrawer$Reader", "passOnly", "(I)V"⟩, 6), (⟨"SlipDrawer$Reader", "readTest", "(I)V"⟩, 6), (⟨"SlipDrawer$Reader", "readBoth", "(I)V"⟩, 6), (⟨"SlipDrawer$Reader", "readFact", "(I)V"⟩, 6), (⟨"SlipDrawer", "readyRow", "(I)LSlipDrawer$Meant;"⟩, 12), (⟨"SlipDrawer", "isRow", "(I)Z"⟩, 12), (⟨"SlipDrawer$Meant", "add", "(III)V"⟩, 16), (⟨"SlipDrawer$Meant", "canTake", "(III)Z"⟩, 16), (⟨"SlipDrawer$Meant", "frontAt", "(II)I"⟩, 16), (⟨"SlipDrawer$Meant", "backAt", "(II)I"⟩, 16), (⟨"SlipDrawer$Meant", "describeChange", "(II)V"⟩, 16), (⟨"SlipDrawer$Meant", "keyOfSaid", "(I)J"⟩, 16), (⟨"SlipDrawer$Meant", "isSaidAlike", "(II)Z"⟩, 16), (⟨"SlipDrawer", "weighFor", "(LSlipDrawer$Meant;I)V"⟩, 12), (⟨"SlipDrawer$Meant", "tellFacts", "(I[I)V"⟩, 16), (⟨"SlipDrawer$Machine", "plainValue", "(I)I"⟩, 2)]
theorem lw_r2 : ∀ q ∈ lw_privs_2, lw_okq q := List.forall_mem_cons.mpr ⟨lw_p16, List.forall_mem_cons.mpr ⟨lw_p17, List.forall_mem_cons.mpr ⟨lw_p18, List.forall_mem_cons.mpr ⟨lw_p19, List.forall_mem_cons.mpr ⟨lw_p20, List.forall_mem_cons.mpr ⟨lw_p21, List.forall_mem_cons.mpr ⟨lw_p22, List.forall_mem_cons.mpr ⟨lw_p23, List.forall_mem_cons.mpr ⟨lw_p24, List.forall_mem_cons.mpr ⟨lw_p25, List.forall_mem_cons.mpr ⟨lw_p26, List.forall_mem_cons.mpr ⟨lw_p27, List.forall_mem_cons.mpr ⟨lw_p28, List.forall_mem_cons.mpr ⟨lw_p29, List.forall_mem_cons.mpr ⟨lw_p30, List.forall_mem_cons.mpr ⟨lw_p31, fun _ h => absurd h List.not_mem_nil⟩⟩⟩⟩⟩⟩⟩⟩⟩⟩⟩⟩⟩⟩⟩⟩
theorem lw_p32 : lw_okq (⟨"SlipDrawer", "weighedRow", "(II)LSlipDrawer$Meant;"⟩, 12) := ⟨⟨by decide +kernel, by decide +kernel⟩, List.mem_of_getElem? (i := 21) (by decide +kernel), List.mem_of_getElem? (i := 768) (by decide +kernel), List.mem_of_getElem? (i := 769) (by decide +kernel)⟩
theorem lw_p33 : lw_okq (⟨"SlipDrawer", "isMaking", "(I)Z"⟩, 12) := ⟨⟨by decide +kernel, by decide +kernel⟩, List.mem_of_getElem? (i := 21) (by decide +kernel), List.mem_of_getElem? (i := 772) (by decide +kernel), List.mem_of_getElem? (i := 773) (by decide +kernel)⟩
theorem lw_p34 : lw_okq (⟨"SlipDrawer$Meant", "gives", "(ILSlipDrawer$Speech;)Z"⟩, 16) := ⟨⟨by decide +kernel, by decide +kernel⟩, List.mem_of_getElem? (i := 262) (by decide +kernel), List.mem_of_getElem? (i := 837) (by decide +kernel), List.mem_of_getElem? (i := 838) (by decide +kernel)⟩
theorem lw_p35 : lw_okq (⟨"SlipDrawer", "fullyWeighedRow", "(I)LSlipDrawer$Meant;"⟩, 12) := ⟨⟨by decide +kernel, by decide +kernel⟩, List.mem_of_getElem? (i := 21) (by decide +kernel), List.mem_of_getElem? (i := 912) (by decide +kernel), List.mem_of_getElem? (i := 913) (by decide +kernel)⟩
theorem lw_p36 : lw_okq (⟨"SlipDrawer", "partedByAll", "(LSlipDrawer$Meant;)I"⟩, 12) := ⟨⟨by decide +kernel, by decide +kernel⟩, List.mem_of_getElem? (i := 21) (by decide +kernel), List.mem_of_getElem? (i := 956) (by decide +kernel), List.mem_of_getElem? (i := 957) (by decide +kernel)⟩
theorem lw_p37 : lw_okq (⟨"SlipDrawer$Picture", "put", "(I)V"⟩, 2) := ⟨⟨by decide +kernel, by decide +kernel⟩, List.mem_of_getElem? (i := 154) (by decide +kernel), List.mem_of_getElem? (i := 980) (by decide +kernel), List.mem_of_getElem? (i := 981) (by decide +kernel)⟩
theorem lw_p38 : lw_okq (⟨"SlipDrawerModel", "isOfLetters", "(I)Z"⟩, 82) := ⟨⟨by decide +kernel, by decide +kernel⟩, List.mem_of_getElem? (i := 1005) (by decide +kernel), List.mem_of_getElem? (i := 1276) (by decide +kernel), List.mem_of_getElem? (i := 1277) (by decide +kernel)⟩
theorem lw_p39 : lw_okq (⟨"SlipDrawerModel", "isOnTape", "(II)Z"⟩, 82) := ⟨⟨by decide +kernel, by decide +kernel⟩, List.mem_of_getElem? (i := 1005) (by decide +kernel), List.mem_of_getElem? (i := 1285) (by decide +kernel), List.mem_of_getElem? (i := 1286) (by decide +kernel)⟩
theorem lw_p40 : lw_okq (⟨"SlipDrawerModel", "reads", "(I)I"⟩, 82) := ⟨⟨by decide +kernel, by decide +kernel⟩, List.mem_of_getElem? (i := 1005) (by decide +kernel), List.mem_of_getElem? (i := 1305) (by decide +kernel), List.mem_of_getElem? (i := 1306) (by decide +kernel)⟩
theorem lw_p41 : lw_okq (⟨"SlipDrawerModel", "look", "()I"⟩, 82) := ⟨⟨by decide +kernel, by decide +kernel⟩, List.mem_of_getElem? (i := 1005) (by decide +kernel), List.mem_of_getElem? (i := 1309) (by decide +kernel), List.mem_of_getElem? (i := 1310) (by decide +kernel)⟩
theorem lw_p42 : lw_okq (⟨"SlipDrawerModel", "statement", "()V"⟩, 82) := ⟨⟨by decide +kernel, by decide +kernel⟩, List.mem_of_getElem? (i := 1005) (by decide +kernel), List.mem_of_getElem? (i := 1313) (by decide +kernel), List.mem_of_getElem? (i := 1314) (by decide +kernel)⟩
theorem lw_p43 : lw_okq (⟨"SlipDrawerModel", "fail", "(II)V"⟩, 82) := ⟨⟨by decide +kernel, by decide +kernel⟩, List.mem_of_getElem? (i := 1005) (by decide +kernel), List.mem_of_getElem? (i := 1317) (by decide +kernel), List.mem_of_getElem? (i := 1318) (by decide +kernel)⟩
theorem lw_p44 : lw_okq (⟨"SlipDrawerModel", "kindHere", "()I"⟩, 82) := ⟨⟨by decide +kernel, by decide +kernel⟩, List.mem_of_getElem? (i := 1005) (by decide +kernel), List.mem_of_getElem? (i := 1321) (by decide +kernel), List.mem_of_getElem? (i := 1322) (by decide +kernel)⟩
theorem lw_p45 : lw_okq (⟨"SlipDrawerModel", "takes", "([C)Z"⟩, 82) := ⟨⟨by decide +kernel, by decide +kernel⟩, List.mem_of_getElem? (i := 1005) (by decide +kernel), List.mem_of_getElem? (i := 1325) (by decide +kernel), List.mem_of_getElem? (i := 1326) (by decide +kernel)⟩
theorem lw_p46 : lw_okq (⟨"SlipDrawerModel", "isHere", "([C)Z"⟩, 82) := ⟨⟨by decide +kernel, by decide +kernel⟩, List.mem_of_getElem? (i := 1005) (by decide +kernel), List.mem_of_getElem? (i := 1329) (by decide +kernel), List.mem_of_getElem? (i := 1330) (by decide +kernel)⟩
theorem lw_p47 : lw_okq (⟨"SlipDrawerModel", "sums", "()V"⟩, 82) := ⟨⟨by decide +kernel, by decide +kernel⟩, List.mem_of_getElem? (i := 1005) (by decide +kernel), List.mem_of_getElem? (i := 1336) (by decide +kernel), List.mem_of_getElem? (i := 1337) (by decide +kernel)⟩
def lw_privs_3 : List (MethodName × Nat) := [(⟨"SlipDrawer", "weighedRow", "(II)LSlipDrawer$Meant;"⟩, 12), (⟨"SlipDrawer", "isMaking", "(I)Z"⟩, 12), (⟨"SlipDrawer$Meant", "gives", "(ILSlipDrawer$Speech;)Z"⟩, 16), (⟨"SlipDrawer", "fullyWeighedRow", "(I)LSlipDrawer$Meant;"⟩, 12), (⟨"SlipDrawer", "partedByAll", "(LSlipDrawer$Meant;)I"⟩, 12), (⟨"SlipDrawer$Picture", "put", "(I)V"⟩, 2), (⟨"SlipDrawerModel", "isOfLetters", "(I)Z"⟩, 82), (⟨"SlipDrawerModel", "isOnTape", "(II)Z"⟩, 82), (⟨"SlipDrawerModel", "reads", "(I)I"⟩, 82), (⟨"SlipDrawerModel", "look", "()I"⟩, 82), (⟨"SlipDrawerModel", "statement", "()V"⟩, 82), (⟨"SlipDrawerModel", "fail", "(II)V"⟩, 82), (⟨"SlipDrawerModel", "kindHere", "()I"⟩, 82), (⟨"SlipDrawerModel", "takes", "([C)Z"⟩, 82), (⟨"SlipDrawerModel", "isHere", "([C)Z"⟩, 82), (⟨"SlipDrawerModel", "sums", "()V"⟩, 82)]
theorem lw_r3 : ∀ q ∈ lw_privs_3, lw_okq q := List.forall_mem_cons.mpr ⟨lw_p32, List.forall_mem_cons.mpr ⟨lw_p33, List.forall_mem_cons.mpr ⟨lw_p34, List.forall_mem_cons.mpr ⟨lw_p35, List.forall_mem_cons.mpr ⟨lw_p36, List.forall_mem_cons.mpr ⟨lw_p37, List.forall_mem_cons.mpr ⟨lw_p38, List.forall_mem_cons.mpr ⟨lw_p39, List.forall_mem_cons.mpr ⟨lw_p40, List.forall_mem_cons.mpr ⟨lw_p41, List.forall_mem_cons.mpr ⟨lw_p42, List.forall_mem_cons.mpr ⟨lw_p43, List.forall_mem_cons.mpr ⟨lw_p44, List.forall_mem_cons.mpr ⟨lw_p45, List.forall_mem_cons.mpr ⟨lw_p46, List.forall_mem_cons.mpr ⟨lw_p47, fun _ h => absurd h List.not_mem_nil⟩⟩⟩⟩⟩⟩⟩⟩⟩⟩⟩⟩⟩⟩⟩⟩
theorem lw_p48 : lw_okq (⟨"SlipDrawerModel", "onePart", "()V"⟩, 82) := ⟨⟨by decide +kernel, by decide +kernel⟩, List.mem_of_getElem? (i := 1005) (by decide +kernel), List.mem_of_getElem? (i := 1340) (by decide +kernel), List.mem_of_getElem? (i := 1341) (by decide +kernel)⟩
theorem lw_p49 : lw_okq (⟨"SlipDrawerModel", "opens", "(II)V"⟩, 82) := ⟨⟨by decide +kernel, by decide +kernel⟩, List.mem_of_getElem? (i := 1005) (by decide +kernel), List.mem_of_getElem? (i := 1344) (by decide +kernel), List.mem_of_getElem? (i := 1345) (by decide +kernel)⟩
theorem lw_p50 : lw_okq (⟨"SlipDrawerModel", "asks", "([C)V"⟩, 82) := ⟨⟨by decide +kernel, by decide +kernel⟩, List.mem_of_getElem? (i := 1005) (by decide +kernel), List.mem_of_getElem? (i := 1348) (by decide +kernel), List.mem_of_getElem? (i := 1349) (by decide +kernel)⟩
theorem lw_p51 : lw_okq (⟨"SlipDrawerModel", "asksSign", "(I)V"⟩, 82) := ⟨⟨by decide +kernel, by decide +kernel⟩, List.mem_of_getElem? (i := 1005) (by decide +kernel), List.mem_of_getElem? (i := 1352) (by decide +kernel), List.mem_of_getElem? (i := 1353) (by decide +kernel)⟩
theorem lw_p52 : lw_okq (⟨"SlipDrawerModel", "takesSign", "(I)Z"⟩, 82) := ⟨⟨by decide +kernel, by decide +kernel⟩, List.mem_of_getElem? (i := 1005) (by decide +kernel), List.mem_of_getElem? (i := 1356) (by decide +kernel), List.mem_of_getElem? (i := 1357) (by decide +kernel)⟩
theorem lw_p53 : lw_okq (⟨"SlipDrawerModel", "number", "(II)I"⟩, 82) := ⟨⟨by decide +kernel, by decide +kernel⟩, List.mem_of_getElem? (i := 1005) (by decide +kernel), List.mem_of_getElem? (i := 1360) (by decide +kernel), List.mem_of_getElem? (i := 1361) (by decide +kernel)⟩
theorem lw_p54 : lw_okq (⟨"SlipDrawerModel", "code", "(I)V"⟩, 82) := ⟨⟨by decide +kernel, by decide +kernel⟩, List.mem_of_getElem? (i := 1005) (by decide +kernel), List.mem_of_getElem? (i := 1367) (by decide +kernel), List.mem_of_getElem? (i := 1368) (by decide +kernel)⟩
theorem lw_p55 : lw_okq (⟨"SlipDrawerModel", "goesOn", "()Z"⟩, 82) := ⟨⟨by decide +kernel, by decide +kernel⟩, List.mem_of_getElem? (i := 1005) (by decide +kernel), List.mem_of_getElem? (i := 1371) (by decide +kernel), List.mem_of_getElem? (i := 1372) (by decide +kernel)⟩
theorem lw_p56 : lw_okq (⟨"SlipDrawerModel", "mark", "()I"⟩, 82) := ⟨⟨by decide +kernel, by decide +kernel⟩, List.mem_of_getElem? (i := 1005) (by decide +kernel), List.mem_of_getElem? (i := 1375) (by decide +kernel), List.mem_of_getElem? (i := 1376) (by decide +kernel)⟩
theorem lw_p57 : lw_okq (⟨"SlipDrawerModel", "isMark", "(I)Z"⟩, 82) := ⟨⟨by decide +kernel, by decide +kernel⟩, List.mem_of_getElem? (i := 1005) (by decide +kernel), List.mem_of_getElem? (i := 1379) (by decide +kernel), List.mem_of_getElem? (i := 1380) (by decide +kernel)⟩
theorem lw_p58 : lw_okq (⟨"SlipDrawerModel", "dropsToMark", "()V"⟩, 82) := ⟨⟨by decide +kernel, by decide +kernel⟩, List.mem_of_getElem? (i := 1005) (by decide +kernel), List.mem_of_getElem? (i := 1383) (by decide +kernel), List.mem_of_getElem? (i := 1384) (by decide +kernel)⟩
theorem lw_p59 : lw_okq (⟨"SlipDrawerModel", "drops", "()V"⟩, 82) := ⟨⟨by decide +kernel, by decide +kernel⟩, List.mem_of_getElem? (i := 1005) (by decide +kernel), List.mem_of_getElem? (i := 1387) (by decide +kernel), List.mem_of_getElem? (i := 1388) (by decide +kernel)⟩
theorem lw_p60 : lw_okq (⟨"SlipDrawerModel", "isOn", "(I)Z"⟩, 82) := ⟨⟨by decide +kernel, by decide +kernel⟩, List.mem_of_getElem? (i := 1005) (by decide +kernel), List.mem_of_getElem? (i := 1391) (by decide +kernel), List.mem_of_getElem? (i := 1392) (by decide +kernel)⟩
theorem lw_p61 : lw_okq (⟨"SlipDrawerModel", "test", "()V"⟩, 82) := ⟨⟨by decide +kernel, by decide +kernel⟩, List.mem_of_getElem? (i := 1005) (by decide +kernel), List.mem_of_getElem? (i := 1395) (by decide +kernel), List.mem_of_getElem? (i := 1396) (by decide +kernel)⟩
theorem lw_p62 : lw_okq (⟨"SlipDrawerModel", "fact", "()V"⟩, 82) := ⟨⟨by decide +kernel, by decide +kernel⟩, List.mem_of_getElem? (i := 1005) (by decide +kernel), List.mem_of_getElem? (i := 1399) (by decide +kernel), List.mem_of_getElem? (i := 1400) (by decide +kernel)⟩
theorem lw_p63 : lw_okq (⟨"SlipDrawerModel", "dropsNots", "()V"⟩, 82) := ⟨⟨by decide +kernel, by decide +kernel⟩, List.mem_of_getElem? (i := 1005) (by decide +kernel), List.mem_of_getElem? (i := 1403) (by decide +kernel), List.mem_of_getElem? (i := 1404) (by decide +kernel)⟩
def lw_privs_4 : List (MethodName × Nat) := [(⟨"SlipDrawerModel", "onePart", "()V"⟩, 82), (⟨"SlipDrawerModel", "opens", "(II)V"⟩, 82), (⟨"SlipDrawerModel", "asks", "([C)V"⟩, 82), (⟨"SlipDrawerModel", "asksSign", "(I)V"⟩, 82), (⟨"SlipDrawerModel", "takesSign", "(I)Z"⟩, 82), (⟨"SlipDrawerModel", "number", "(II)I"⟩, 82), (⟨"SlipDrawerModel", "code", "(I)V"⟩, 82), (⟨"SlipDrawerModel", "goesOn", "()Z"⟩, 82), (⟨"SlipDrawerModel", "mark", "()I"⟩, 82), (⟨"SlipDrawerModel", "isMark", "(I)Z"⟩, 82), (⟨"SlipDrawerModel", "dropsToMark", "()V"⟩, 82), (⟨"SlipDrawerModel", "drops", "()V"⟩, 82), (⟨"SlipDrawerModel", "isOn", "(I)Z"⟩, 82), (⟨"SlipDrawerModel", "test", "()V"⟩, 82), (⟨"SlipDrawerModel", "fact", "()V"⟩, 82), (⟨"SlipDrawerModel", "dropsNots", "()V"⟩, 82)]
theorem lw_r4 : ∀ q ∈ lw_privs_4, lw_okq q := List.forall_mem_cons.mpr ⟨lw_p48, List.forall_mem_cons.mpr ⟨lw_p49, List.forall_mem_cons.mpr ⟨lw_p50, List.forall_mem_cons.mpr ⟨lw_p51, List.forall_mem_cons.mpr ⟨lw_p52, List.forall_mem_cons.mpr ⟨lw_p53, List.forall_mem_cons.mpr ⟨lw_p54, List.forall_mem_cons.mpr ⟨lw_p55, List.forall_mem_cons.mpr ⟨lw_p56, List.forall_mem_cons.mpr ⟨lw_p57, List.forall_mem_cons.mpr ⟨lw_p58, List.forall_mem_cons.mpr ⟨lw_p59, List.forall_mem_cons.mpr ⟨lw_p60, List.forall_mem_cons.mpr ⟨lw_p61, List.forall_mem_cons.mpr ⟨lw_p62, List.forall_mem_cons.mpr ⟨lw_p63, fun _ h => absurd h List.not_mem_nil⟩⟩⟩⟩⟩⟩⟩⟩⟩⟩⟩⟩⟩⟩⟩⟩
theorem lw_p64 : lw_okq (⟨"SlipDrawerModel", "goesOnTest", "()Z"⟩, 82) := ⟨⟨by decide +kernel, by decide +kernel⟩, List.mem_of_getElem? (i := 1005) (by decide +kernel), List.mem_of_getElem? (i := 1407) (by decide +kernel), List.mem_of_getElem? (i := 1408) (by decide +kernel)⟩
theorem lw_p65 : lw_okq (⟨"SlipDrawerModel", "hasSquare", "()Z"⟩, 82) := ⟨⟨by decide +kernel, by decide +kernel⟩, List.mem_of_getElem? (i := 1005) (by decide +kernel), List.mem_of_getElem? (i := 1411) (by decide +kernel), List.mem_of_getElem? (i := 1412) (by decide +kernel)⟩
theorem lw_p66 : lw_okq (⟨"SlipDrawerModel", "isRow", "(I)Z"⟩, 82) := ⟨⟨by decide +kernel, by decide +kernel⟩, List.mem_of_getElem? (i := 1005) (by decide +kernel), List.mem_of_getElem? (i := 1427) (by decide +kernel), List.mem_of_getElem? (i := 1428) (by decide +kernel)⟩
theorem lw_p67 : lw_okq (⟨"SlipDrawerModel", "laysOut", "(I)V"⟩, 82) := ⟨⟨by decide +kernel, by decide +kernel⟩, List.mem_of_getElem? (i := 1005) (by decide +kernel), List.mem_of_getElem? (i := 1431) (by decide +kernel), List.mem_of_getElem? (i := 1432) (by decide +kernel)⟩
theorem lw_p68 : lw_okq (⟨"SlipDrawerModel", "lists", "(IIII)V"⟩, 82) := ⟨⟨by decide +kernel, by decide +kernel⟩, List.mem_of_getElem? (i := 1005) (by decide +kernel), List.mem_of_getElem? (i := 1435) (by decide +kernel), List.mem_of_getElem? (i := 1436) (by decide +kernel)⟩
theorem lw_p69 : lw_okq (⟨"SlipDrawerModel", "saysAt", "(III)V"⟩, 82) := ⟨⟨by decide +kernel, by decide +kernel⟩, List.mem_of_getElem? (i := 1005) (by decide +kernel), List.mem_of_getElem? (i := 1439) (by decide +kernel), List.mem_of_getElem? (i := 1440) (by decide +kernel)⟩
theorem lw_p70 : lw_okq (⟨"SlipDrawerModel", "wordAt", "(II)I"⟩, 82) := ⟨⟨by decide +kernel, by decide +kernel⟩, List.mem_of_getElem? (i := 1005) (by decide +kernel), List.mem_of_getElem? (i := 1443) (by decide +kernel), List.mem_of_getElem? (i := 1444) (by decide +kernel)⟩
theorem lw_p71 : lw_okq (⟨"SlipDrawerModel", "wholePiece", "(I)V"⟩, 82) := ⟨⟨by decide +kernel, by decide +kernel⟩, List.mem_of_getElem? (i := 1005) (by decide +kernel), List.mem_of_getElem? (i := 1447) (by decide +kernel), List.mem_of_getElem? (i := 1448) (by decide +kernel)⟩
theorem lw_p72 : lw_okq (⟨"SlipDrawerModel", "adds", "(I)V"⟩, 82) := ⟨⟨by decide +kernel, by decide +kernel⟩, List.mem_of_getElem? (i := 1005) (by decide +kernel), List.mem_of_getElem? (i := 1451) (by decide +kernel), List.mem_of_getElem? (i := 1452) (by decide +kernel)⟩
theorem lw_p73 : lw_okq (⟨"SlipDrawerModel", "joinsPiece", "(II)V"⟩, 82) := ⟨⟨by decide +kernel, by decide +kernel⟩, List.mem_of_getElem? (i := 1005) (by decide +kernel), List.mem_of_getElem? (i := 1455) (by decide +kernel), List.mem_of_getElem? (i := 1456) (by decide +kernel)⟩
theorem lw_p74 : lw_okq (⟨"SlipDrawerModel", "farFrom", "(I)I"⟩, 82) := ⟨⟨by decide +kernel, by decide +kernel⟩, List.mem_of_getElem? (i := 1005) (by decide +kernel), List.mem_of_getElem? (i := 1459) (by decide +kernel), List.mem_of_getElem? (i := 1460) (by decide +kernel)⟩
theorem lw_p75 : lw_okq (⟨"SlipDrawerModel", "pieceWord", "()I"⟩, 82) := ⟨⟨by decide +kernel, by decide +kernel⟩, List.mem_of_getElem? (i := 1005) (by decide +kernel), List.mem_of_getElem? (i := 1463) (by decide +kernel), List.mem_of_getElem? (i := 1464) (by decide +kernel)⟩
theorem lw_p76 : lw_okq (⟨"SlipDrawerModel", "isPiece", "(I)Z"⟩, 82) := ⟨⟨by decide +kernel, by decide +kernel⟩, List.mem_of_getElem? (i := 1005) (by decide +kernel), List.mem_of_getElem? (i := 1467) (by decide +kernel), List.mem_of_getElem? (i := 1468) (by decide +kernel)⟩
theorem lw_p77 : lw_okq (⟨"SlipDrawerModel", "listsKind", "(II)V"⟩, 82) := ⟨⟨by decide +kernel, by decide +kernel⟩, List.mem_of_getElem? (i := 1005) (by decide +kernel), List.mem_of_getElem? (i := 1471) (by decide +kernel), List.mem_of_getElem? (i := 1472) (by decide +kernel)⟩
theorem lw_p78 : lw_okq (⟨"SlipDrawerModel", "mayTake", "(III)Z"⟩, 82) := ⟨⟨by decide +kernel, by decide +kernel⟩, List.mem_of_getElem? (i := 1005) (by decide +kernel), List.mem_of_getElem? (i := 1475) (by decide +kernel), List.mem_of_getElem? (i := 1476) (by decide +kernel)⟩
theorem lw_p79 : lw_okq (⟨"SlipDrawerModel", "isNear", "(II)Z"⟩, 82) := ⟨⟨by decide +kernel, by decide +kernel⟩, List.mem_of_getElem? (i := 1005) (by decide +kernel), List.mem_of_getElem? (i := 1479) (by decide +kernel), List.mem_of_getElem? (i := 1480) (by decide +kernel)⟩
def lw_privs_5 : List (MethodName × Nat) := [(⟨"SlipDrawerModel", "goesOnTest", "()Z"⟩, 82), (⟨"SlipDrawerModel", "hasSquare", "()Z"⟩, 82), (⟨"SlipDrawerModel", "isRow", "(I)Z"⟩, 82), (⟨"SlipDrawerModel", "laysOut", "(I)V"⟩, 82), (⟨"SlipDrawerModel", "lists", "(IIII)V"⟩, 82), (⟨"SlipDrawerModel", "saysAt", "(III)V"⟩, 82), (⟨"SlipDrawerModel", "wordAt", "(II)I"⟩, 82), (⟨"SlipDrawerModel", "wholePiece", "(I)V"⟩, 82), (⟨"SlipDrawerModel", "adds", "(I)V"⟩, 82), (⟨"SlipDrawerModel", "joinsPiece", "(II)V"⟩, 82), (⟨"SlipDrawerModel", "farFrom", "(I)I"⟩, 82), (⟨"SlipDrawerModel", "pieceWord", "()I"⟩, 82), (⟨"SlipDrawerModel", "isPiece", "(I)Z"⟩, 82), (⟨"SlipDrawerModel", "listsKind", "(II)V"⟩, 82), (⟨"SlipDrawerModel", "mayTake", "(III)Z"⟩, 82), (⟨"SlipDrawerModel", "isNear", "(II)Z"⟩, 82)]
theorem lw_r5 : ∀ q ∈ lw_privs_5, lw_okq q := List.forall_mem_cons.mpr ⟨lw_p64, List.forall_mem_cons.mpr ⟨lw_p65, List.forall_mem_cons.mpr ⟨lw_p66, List.forall_mem_cons.mpr ⟨lw_p67, List.forall_mem_cons.mpr ⟨lw_p68, List.forall_mem_cons.mpr ⟨lw_p69, List.forall_mem_cons.mpr ⟨lw_p70, List.forall_mem_cons.mpr ⟨lw_p71, List.forall_mem_cons.mpr ⟨lw_p72, List.forall_mem_cons.mpr ⟨lw_p73, List.forall_mem_cons.mpr ⟨lw_p74, List.forall_mem_cons.mpr ⟨lw_p75, List.forall_mem_cons.mpr ⟨lw_p76, List.forall_mem_cons.mpr ⟨lw_p77, List.forall_mem_cons.mpr ⟨lw_p78, List.forall_mem_cons.mpr ⟨lw_p79, fun _ h => absurd h List.not_mem_nil⟩⟩⟩⟩⟩⟩⟩⟩⟩⟩⟩⟩⟩⟩⟩⟩
theorem lw_p80 : lw_okq (⟨"SlipDrawerModel", "hasSameOnset", "(II)Z"⟩, 82) := ⟨⟨by decide +kernel, by decide +kernel⟩, List.mem_of_getElem? (i := 1005) (by decide +kernel), List.mem_of_getElem? (i := 1483) (by decide +kernel), List.mem_of_getElem? (i := 1484) (by decide +kernel)⟩
theorem lw_p81 : lw_okq (⟨"SlipDrawerModel", "isTaking", "(II)Z"⟩, 82) := ⟨⟨by decide +kernel, by decide +kernel⟩, List.mem_of_getElem? (i := 1005) (by decide +kernel), List.mem_of_getElem? (i := 1491) (by decide +kernel), List.mem_of_getElem? (i := 1492) (by decide +kernel)⟩
theorem lw_p82 : lw_okq (⟨"SlipDrawerModel", "heard", "(I)I"⟩, 82) := ⟨⟨by decide +kernel, by decide +kernel⟩, List.mem_of_getElem? (i := 1005) (by decide +kernel), List.mem_of_getElem? (i := 1495) (by decide +kernel), List.mem_of_getElem? (i := 1496) (by decide +kernel)⟩
theorem lw_p83 : lw_okq (⟨"SlipDrawerModel", "tellsOf", "(II)J"⟩, 82) := ⟨⟨by decide +kernel, by decide +kernel⟩, List.mem_of_getElem? (i := 1005) (by decide +kernel), List.mem_of_getElem? (i := 1499) (by decide +kernel), List.mem_of_getElem? (i := 1500) (by decide +kernel)⟩
theorem lw_p84 : lw_okq (⟨"SlipDrawerModel", "tells", "(IIII)J"⟩, 82) := ⟨⟨by decide +kernel, by decide +kernel⟩, List.mem_of_getElem? (i := 1005) (by decide +kernel), List.mem_of_getElem? (i := 1503) (by decide +kernel), List.mem_of_getElem? (i := 1504) (by decide +kernel)⟩
theorem lw_p85 : lw_okq (⟨"SlipDrawerModel", "puts", "(J)V"⟩, 82) := ⟨⟨by decide +kernel, by decide +kernel⟩, List.mem_of_getElem? (i := 1005) (by decide +kernel), List.mem_of_getElem? (i := 1507) (by decide +kernel), List.mem_of_getElem? (i := 1508) (by decide +kernel)⟩
theorem lw_p86 : lw_okq (⟨"SlipDrawerModel", "partOf", "(II)J"⟩, 82) := ⟨⟨by decide +kernel, by decide +kernel⟩, List.mem_of_getElem? (i := 1005) (by decide +kernel), List.mem_of_getElem? (i := 1511) (by decide +kernel), List.mem_of_getElem? (i := 1512) (by decide +kernel)⟩
theorem lw_p87 : lw_okq (⟨"SlipDrawerModel", "source", "(I)I"⟩, 82) := ⟨⟨by decide +kernel, by decide +kernel⟩, List.mem_of_getElem? (i := 1005) (by decide +kernel), List.mem_of_getElem? (i := 1515) (by decide +kernel), List.mem_of_getElem? (i := 1516) (by decide +kernel)⟩
theorem lw_p88 : lw_okq (⟨"SlipDrawerModel", "joins", "(I)V"⟩, 82) := ⟨⟨by decide +kernel, by decide +kernel⟩, List.mem_of_getElem? (i := 1005) (by decide +kernel), List.mem_of_getElem? (i := 1519) (by decide +kernel), List.mem_of_getElem? (i := 1520) (by decide +kernel)⟩
theorem lw_p89 : lw_okq (⟨"SlipDrawerModel", "isKind", "(I)Z"⟩, 82) := ⟨⟨by decide +kernel, by decide +kernel⟩, List.mem_of_getElem? (i := 1005) (by decide +kernel), List.mem_of_getElem? (i := 1536) (by decide +kernel), List.mem_of_getElem? (i := 1537) (by decide +kernel)⟩
theorem lw_p90 : lw_okq (⟨"SlipDrawerModel", "isMaking", "(I)Z"⟩, 82) := ⟨⟨by decide +kernel, by decide +kernel⟩, List.mem_of_getElem? (i := 1005) (by decide +kernel), List.mem_of_getElem? (i := 1544) (by decide +kernel), List.mem_of_getElem? (i := 1545) (by decide +kernel)⟩
theorem lw_p91 : lw_okq (⟨"SlipDrawerModel", "weighs", "(II)I"⟩, 82) := ⟨⟨by decide +kernel, by decide +kernel⟩, List.mem_of_getElem? (i := 1005) (by decide +kernel), List.mem_of_getElem? (i := 1548) (by decide +kernel), List.mem_of_getElem? (i := 1549) (by decide +kernel)⟩
theorem lw_p92 : lw_okq (⟨"SlipDrawerModel", "becomesSaid", "(I)I"⟩, 82) := ⟨⟨by decide +kernel, by decide +kernel⟩, List.mem_of_getElem? (i := 1005) (by decide +kernel), List.mem_of_getElem? (i := 1557) (by decide +kernel), List.mem_of_getElem? (i := 1558) (by decide +kernel)⟩
theorem lw_p93 : lw_okq (⟨"SlipDrawerModel", "givesSaid", "(I)Z"⟩, 82) := ⟨⟨by decide +kernel, by decide +kernel⟩, List.mem_of_getElem? (i := 1005) (by decide +kernel), List.mem_of_getElem? (i := 1581) (by decide +kernel), List.mem_of_getElem? (i := 1582) (by decide +kernel)⟩
theorem lw_p94 : lw_okq (⟨"SlipDrawerModel", "gives", "(I[III)Z"⟩, 82) := ⟨⟨by decide +kernel, by decide +kernel⟩, List.mem_of_getElem? (i := 1005) (by decide +kernel), List.mem_of_getElem? (i := 1585) (by decide +kernel), List.mem_of_getElem? (i := 1586) (by decide +kernel)⟩
theorem lw_p95 : lw_okq (⟨"SlipDrawerModel", "noteWeight", "(II)I"⟩, 82) := ⟨⟨by decide +kernel, by decide +kernel⟩, List.mem_of_getElem? (i := 1005) (by decide +kernel), List.mem_of_getElem? (i := 1631) (by decide +kernel), List.mem_of_getElem? (i := 1632) (by decide +kernel)⟩
def lw_privs_6 : List (MethodName × Nat) := [(⟨"SlipDrawerModel", "hasSameOnset", "(II)Z"⟩, 82), (⟨"SlipDrawerModel", "isTaking", "(II)Z"⟩, 82), (⟨"SlipDrawerModel", "heard", "(I)I"⟩, 82), (⟨"SlipDrawerModel", "tellsOf", "(II)J"⟩, 82), (⟨"SlipDrawerModel", "tells", "(IIII)J"⟩, 82), (⟨"SlipDrawerModel", "puts", "(J)V"⟩, 82), (⟨"SlipDrawerModel", "partOf", "(II)J"⟩, 82), (⟨"SlipDrawerModel", "source", "(I)I"⟩, 82), (⟨"SlipDrawerModel", "joins", "(I)V"⟩, 82), (⟨"SlipDrawerModel", "isKind", "(I)Z"⟩, 82), (⟨"SlipDrawerModel", "isMaking", "(I)Z"⟩, 82), (⟨"SlipDrawerModel", "weighs", "(II)I"⟩, 82), (⟨"SlipDrawerModel", "becomesSaid", "(I)I"⟩, 82), (⟨"SlipDrawerModel", "givesSaid", "(I)Z"⟩, 82), (⟨"SlipDrawerModel", "gives", "(I[III)Z"⟩, 82), (⟨"SlipDrawerModel", "noteWeight", "(II)I"⟩, 82)]
theorem lw_r6 : ∀ q ∈ lw_privs_6, lw_okq q := List.forall_mem_cons.mpr ⟨lw_p80, List.forall_mem_cons.mpr ⟨lw_p81, List.forall_mem_cons.mpr ⟨lw_p82, List.forall_mem_cons.mpr ⟨lw_p83, List.forall_mem_cons.mpr ⟨lw_p84, List.forall_mem_cons.mpr ⟨lw_p85, List.forall_mem_cons.mpr ⟨lw_p86, List.forall_mem_cons.mpr ⟨lw_p87, List.forall_mem_cons.mpr ⟨lw_p88, List.forall_mem_cons.mpr ⟨lw_p89, List.forall_mem_cons.mpr ⟨lw_p90, List.forall_mem_cons.mpr ⟨lw_p91, List.forall_mem_cons.mpr ⟨lw_p92, List.forall_mem_cons.mpr ⟨lw_p93, List.forall_mem_cons.mpr ⟨lw_p94, List.forall_mem_cons.mpr ⟨lw_p95, fun _ h => absurd h List.not_mem_nil⟩⟩⟩⟩⟩⟩⟩⟩⟩⟩⟩⟩⟩⟩⟩⟩
theorem lw_p96 : lw_okq (⟨"SlipDrawerModel", "givesNote", "(II)Z"⟩, 82) := ⟨⟨by decide +kernel, by decide +kernel⟩, List.mem_of_getElem? (i := 1005) (by decide +kernel), List.mem_of_getElem? (i := 1635) (by decide +kernel), List.mem_of_getElem? (i := 1636) (by decide +kernel)⟩
theorem lw_p97 : lw_okq (⟨"SlipDrawerModel", "apartOn", "(III)I"⟩, 82) := ⟨⟨by decide +kernel, by decide +kernel⟩, List.mem_of_getElem? (i := 1005) (by decide +kernel), List.mem_of_getElem? (i := 1659) (by decide +kernel), List.mem_of_getElem? (i := 1660) (by decide +kernel)⟩
theorem lw_p98 : lw_okq (⟨"SlipDrawerModel", "hasSense", "(II)Z"⟩, 82) := ⟨⟨by decide +kernel, by decide +kernel⟩, List.mem_of_getElem? (i := 1005) (by decide +kernel), List.mem_of_getElem? (i := 1672) (by decide +kernel), List.mem_of_getElem? (i := 1673) (by decide +kernel)⟩
theorem lw_p99 : lw_okq (⟨"SlipDrawerModel", "writes", "(I)V"⟩, 82) := ⟨⟨by decide +kernel, by decide +kernel⟩, List.mem_of_getElem? (i := 1005) (by decide +kernel), List.mem_of_getElem? (i := 1684) (by decide +kernel), List.mem_of_getElem? (i := 1685) (by decide +kernel)⟩
theorem lw_p100 : lw_okq (⟨"SlipDrawerModel", "noteEnd", "(II)I"⟩, 82) := ⟨⟨by decide +kernel, by decide +kernel⟩, List.mem_of_getElem? (i := 1005) (by decide +kernel), List.mem_of_getElem? (i := 1699) (by decide +kernel), List.mem_of_getElem? (i := 1700) (by decide +kernel)⟩
def lw_privs_7 : List (MethodName × Nat) := [(⟨"SlipDrawerModel", "givesNote", "(II)Z"⟩, 82), (⟨"SlipDrawerModel", "apartOn", "(III)I"⟩, 82), (⟨"SlipDrawerModel", "hasSense", "(II)Z"⟩, 82), (⟨"SlipDrawerModel", "writes", "(I)V"⟩, 82), (⟨"SlipDrawerModel", "noteEnd", "(II)I"⟩, 82)]
theorem lw_r7 : ∀ q ∈ lw_privs_7, lw_okq q := List.forall_mem_cons.mpr ⟨lw_p96, List.forall_mem_cons.mpr ⟨lw_p97, List.forall_mem_cons.mpr ⟨lw_p98, List.forall_mem_cons.mpr ⟨lw_p99, List.forall_mem_cons.mpr ⟨lw_p100, fun _ h => absurd h List.not_mem_nil⟩⟩⟩⟩⟩
def lw_privs : List (MethodName × Nat) := lw_privs_1 ++ (lw_privs_2 ++ (lw_privs_3 ++ (lw_privs_4 ++ (lw_privs_5 ++ (lw_privs_6 ++ (lw_privs_7))))))
def lw_tbl : List Cond := k2_sels lw_privs ++ tables_1
theorem lw_privs_ok : ∀ q ∈ lw_privs, lw_okq q := by
  show ∀ q ∈ lw_privs_1 ++ (lw_privs_2 ++ (lw_privs_3 ++ (lw_privs_4 ++ (lw_privs_5 ++ (lw_privs_6 ++ (lw_privs_7)))))), lw_okq q
  exact List.forall_mem_append.mpr ⟨lw_r1, List.forall_mem_append.mpr ⟨lw_r2, List.forall_mem_append.mpr ⟨lw_r3, List.forall_mem_append.mpr ⟨lw_r4, List.forall_mem_append.mpr ⟨lw_r5, List.forall_mem_append.mpr ⟨lw_r6, lw_r7⟩⟩⟩⟩⟩⟩
section
def RX0 : String := "SlipDrawer$Machine"
def TX0 : u_T := fun k => match k with
  | 0 => ("SlipDrawer$Machine", "facts", "[I", true)
  | _ => ("SlipDrawer$Machine", "stack", "[I", true)
def tyX0 : Nat → FieldType := fun k => match k with
  | 0 => .array .int
  | _ => .array .int
theorem nmX0 : ∀ a, a < 2 → ∀ b, b < 2 → a ≠ b → (TX0 a).2.1 ≠ (TX0 b).2.1 := by decide +kernel
theorem tyX0_ok : ∀ k, k < 2 → parseFieldDescriptor (TX0 k).2.2.1 = some (tyX0 k) := by decide +kernel
def RX1 : String := "SlipDrawer$Meant"
def TX1 : u_T := fun k => match k with
  | 0 => ("SlipDrawer$Meant", "words", "LSlipDrawer$Words;", true)
  | 1 => ("SlipDrawer$Meant", "line", "[I", true)
  | 2 => ("SlipDrawer$Meant", "wordsSeen", "I", false)
  | 3 => ("SlipDrawer$Meant", "count", "I", false)
  | 4 => ("SlipDrawer$Meant", "kindOf", "[B", true)
  | 5 => ("SlipDrawer$Meant", "placeOf", "[B", true)
  | 6 => ("SlipDrawer$Meant", "otherOf", "[B", true)
  | 7 => ("SlipDrawer$Meant", "farOf", "[B", true)
  | 8 => ("SlipDrawer$Meant", "isReal", "[Z", true)
  | 9 => ("SlipDrawer$Meant", "sensesOf", "[I", true)
  | 10 => ("SlipDrawer$Meant", "keys", "[J", true)
  | 11 => ("SlipDrawer$Meant", "leaders", "[I", true)
  | 12 => ("SlipDrawer$Meant", "isWeighed", "[Z", true)
  | 13 => ("SlipDrawer$Meant", "totalBy", "[I", true)
  | 14 => ("SlipDrawer$Meant", "weightsBy", "[[I", true)
  | _ => ("SlipDrawer$Meant", "sharedBy", "[[I", true)
def tyX1 : Nat → FieldType := fun k => match k with
  | 0 => .object "SlipDrawer$Words"
  | 1 => .array .int
  | 2 => .int
  | 3 => .int
  | 4 => .array .byte
  | 5 => .array .byte
  | 6 => .array .byte
  | 7 => .array .byte
  | 8 => .array .boolean
  | 9 => .array .int
  | 10 => .array .long
  | 11 => .array .int
  | 12 => .array .boolean
  | 13 => .array .int
  | 14 => .array (.array .int)
  | _ => .array (.array .int)
theorem nmX1 : ∀ a, a < 16 → ∀ b, b < 16 → a ≠ b → (TX1 a).2.1 ≠ (TX1 b).2.1 := by decide +kernel
theorem tyX1_ok : ∀ k, k < 16 → parseFieldDescriptor (TX1 k).2.2.1 = some (tyX1 k) := by decide +kernel
def RX2 : String := "SlipDrawer$Notes"
def TX2 : u_T := fun k => match k with
  | 0 => ("SlipDrawer$Notes", "rowOf", "[I", true)
  | 1 => ("SlipDrawer$Notes", "texts", "[LSlipDrawer$Speech;", true)
  | _ => ("SlipDrawer$Notes", "count", "I", false)
def tyX2 : Nat → FieldType := fun k => match k with
  | 0 => .array .int
  | 1 => .array (.object "SlipDrawer$Speech")
  | _ => .int
theorem nmX2 : ∀ a, a < 3 → ∀ b, b < 3 → a ≠ b → (TX2 a).2.1 ≠ (TX2 b).2.1 := by decide +kernel
theorem tyX2_ok : ∀ k, k < 3 → parseFieldDescriptor (TX2 k).2.2.1 = some (tyX2 k) := by decide +kernel
def RX3 : String := "SlipDrawer$Picture"
def TX3 : u_T := fun k => match k with
  | 0 => ("SlipDrawer$Picture", "octets", "[B", true)
  | _ => ("SlipDrawer$Picture", "length", "I", false)
def tyX3 : Nat → FieldType := fun k => match k with
  | 0 => .array .byte
  | _ => .int
theorem nmX3 : ∀ a, a < 2 → ∀ b, b < 2 → a ≠ b → (TX3 a).2.1 ≠ (TX3 b).2.1 := by decide +kernel
theorem tyX3_ok : ∀ k, k < 2 → parseFieldDescriptor (TX3 k).2.2.1 = some (tyX3 k) := by decide +kernel
def RX4 : String := "SlipDrawer$Reader"
def TX4 : u_T := fun k => match k with
  | 0 => ("SlipDrawer$Reader", "script", "LSlipDrawer$Script;", true)
  | 1 => ("SlipDrawer$Reader", "faultKind", "I", false)
  | 2 => ("SlipDrawer$Reader", "faultPlace", "I", false)
  | 3 => ("SlipDrawer$Reader", "tokens", "LSlipDrawer$Tokens;", true)
  | 4 => ("SlipDrawer$Reader", "at", "I", false)
  | _ => ("SlipDrawer$Reader", "token", "I", false)
def tyX4 : Nat → FieldType := fun k => match k with
  | 0 => .object "SlipDrawer$Script"
  | 1 => .int
  | 2 => .int
  | 3 => .object "SlipDrawer$Tokens"
  | 4 => .int
  | _ => .int
theorem nmX4 : ∀ a, a < 6 → ∀ b, b < 6 → a ≠ b → (TX4 a).2.1 ≠ (TX4 b).2.1 := by decide +kernel
theorem tyX4_ok : ∀ k, k < 6 → parseFieldDescriptor (TX4 k).2.2.1 = some (tyX4 k) := by decide +kernel
def RX5 : String := "SlipDrawer$Script"
def TX5 : u_T := fun k => match k with
  | 0 => ("SlipDrawer$Script", "code", "[I", true)
  | 1 => ("SlipDrawer$Script", "length", "I", false)
  | 2 => ("SlipDrawer$Script", "kindOf", "[I", true)
  | 3 => ("SlipDrawer$Script", "sumFrom", "[I", true)
  | 4 => ("SlipDrawer$Script", "testFrom", "[I", true)
  | 5 => ("SlipDrawer$Script", "testTo", "[I", true)
  | _ => ("SlipDrawer$Script", "count", "I", false)
def tyX5 : Nat → FieldType := fun k => match k with
  | 0 => .array .int
  | 1 => .int
  | 2 => .array .int
  | 3 => .array .int
  | 4 => .array .int
  | 5 => .array .int
  | _ => .int
theorem nmX5 : ∀ a, a < 7 → ∀ b, b < 7 → a ≠ b → (TX5 a).2.1 ≠ (TX5 b).2.1 := by decide +kernel
theorem tyX5_ok : ∀ k, k < 7 → parseFieldDescriptor (TX5 k).2.2.1 = some (tyX5 k) := by decide +kernel
def RX6 : String := "SlipDrawer$Speech"
def TX6 : u_T := fun k => match k with
  | 0 => ("SlipDrawer$Speech", "bytes", "[B", true)
  | _ => ("SlipDrawer$Speech", "length", "I", false)
def tyX6 : Nat → FieldType := fun k => match k with
  | 0 => .array .byte
  | _ => .int
theorem nmX6 : ∀ a, a < 2 → ∀ b, b < 2 → a ≠ b → (TX6 a).2.1 ≠ (TX6 b).2.1 := by decide +kernel
theorem tyX6_ok : ∀ k, k < 2 → parseFieldDescriptor (TX6 k).2.2.1 = some (tyX6 k) := by decide +kernel
def RX7 : String := "SlipDrawer$Tape"
def TX7 : u_T := fun k => match k with
  | 0 => ("SlipDrawer$Tape", "bytes", "[B", true)
  | _ => ("SlipDrawer$Tape", "length", "I", false)
def tyX7 : Nat → FieldType := fun k => match k with
  | 0 => .array .byte
  | _ => .int
theorem nmX7 : ∀ a, a < 2 → ∀ b, b < 2 → a ≠ b → (TX7 a).2.1 ≠ (TX7 b).2.1 := by decide +kernel
theorem tyX7_ok : ∀ k, k < 2 → parseFieldDescriptor (TX7 k).2.2.1 = some (tyX7 k) := by decide +kernel
def RX8 : String := "SlipDrawer$Tokens"
def TX8 : u_T := fun k => match k with
  | 0 => ("SlipDrawer$Tokens", "tape", "LSlipDrawer$Tape;", true)
  | 1 => ("SlipDrawer$Tokens", "tokens", "[I", true)
  | 2 => ("SlipDrawer$Tokens", "starts", "[I", true)
  | _ => ("SlipDrawer$Tokens", "count", "I", false)
def tyX8 : Nat → FieldType := fun k => match k with
  | 0 => .object "SlipDrawer$Tape"
  | 1 => .array .int
  | 2 => .array .int
  | _ => .int
theorem nmX8 : ∀ a, a < 4 → ∀ b, b < 4 → a ≠ b → (TX8 a).2.1 ≠ (TX8 b).2.1 := by decide +kernel
theorem tyX8_ok : ∀ k, k < 4 → parseFieldDescriptor (TX8 k).2.2.1 = some (tyX8 k) := by decide +kernel
def RX9 : String := "SlipDrawer$Words"
def TX9 : u_T := fun k => match k with
  | 0 => ("SlipDrawer$Words", "letters", "[B", true)
  | 1 => ("SlipDrawer$Words", "lengthOf", "[I", true)
  | 2 => ("SlipDrawer$Words", "onsetOf", "[I", true)
  | 3 => ("SlipDrawer$Words", "sortOf", "[I", true)
  | 4 => ("SlipDrawer$Words", "senseOf", "[I", true)
  | 5 => ("SlipDrawer$Words", "oftenOf", "[I", true)
  | 6 => ("SlipDrawer$Words", "onsetKeys", "[J", true)
  | 7 => ("SlipDrawer$Words", "restKeys", "[J", true)
  | 8 => ("SlipDrawer$Words", "powers", "[J", true)
  | _ => ("SlipDrawer$Words", "count", "I", false)
def tyX9 : Nat → FieldType := fun k => match k with
  | 0 => .array .byte
  | 1 => .array .int
  | 2 => .array .int
  | 3 => .array .int
  | 4 => .array .int
  | 5 => .array .int
  | 6 => .array .long
  | 7 => .array .long
  | 8 => .array .long
  | _ => .int
theorem nmX9 : ∀ a, a < 10 → ∀ b, b < 10 → a ≠ b → (TX9 a).2.1 ≠ (TX9 b).2.1 := by decide +kernel
theorem tyX9_ok : ∀ k, k < 10 → parseFieldDescriptor (TX9 k).2.2.1 = some (tyX9 k) := by decide +kernel
def RX10 : String := "SlipDrawer"
def TX10 : u_T := fun k => match k with
  | 0 => ("SlipDrawer", "tape", "LSlipDrawer$Tape;", true)
  | 1 => ("SlipDrawer", "words", "LSlipDrawer$Words;", true)
  | 2 => ("SlipDrawer", "rows", "[LSlipDrawer$Meant;", true)
  | 3 => ("SlipDrawer", "rowCount", "I", false)
  | 4 => ("SlipDrawer", "scripts", "[LSlipDrawer$Script;", true)
  | 5 => ("SlipDrawer", "machine", "LSlipDrawer$Machine;", true)
  | 6 => ("SlipDrawer", "slots", "[I", true)
  | 7 => ("SlipDrawer", "faultKind", "I", false)
  | 8 => ("SlipDrawer", "faultPlace", "I", false)
  | 9 => ("SlipDrawer", "said", "LSlipDrawer$Speech;", true)
  | 10 => ("SlipDrawer", "list", "LSlipDrawer$Notes;", true)
  | _ => ("SlipDrawer", "picture", "LSlipDrawer$Picture;", true)
def tyX10 : Nat → FieldType := fun k => match k with
  | 0 => .object "SlipDrawer$Tape"
  | 1 => .object "SlipDrawer$Words"
  | 2 => .array (.object "SlipDrawer$Meant")
  | 3 => .int
  | 4 => .array (.object "SlipDrawer$Script")
  | 5 => .object "SlipDrawer$Machine"
  | 6 => .array .int
  | 7 => .int
  | 8 => .int
  | 9 => .object "SlipDrawer$Speech"
  | 10 => .object "SlipDrawer$Notes"
  | _ => .object "SlipDrawer$Picture"
theorem nmX10 : ∀ a, a < 12 → ∀ b, b < 12 → a ≠ b → (TX10 a).2.1 ≠ (TX10 b).2.1 := by decide +kernel
theorem tyX10_ok : ∀ k, k < 12 → parseFieldDescriptor (TX10 k).2.2.1 = some (tyX10 k) := by decide +kernel
def RX11 : String := "SlipDrawerModel"
def TX11 : u_T := fun k => match k with
  | 0 => ("SlipDrawerModel", "tape", "[I", true)
  | 1 => ("SlipDrawerModel", "taped", "I", false)
  | 2 => ("SlipDrawerModel", "at", "I", false)
  | 3 => ("SlipDrawerModel", "end", "I", false)
  | 4 => ("SlipDrawerModel", "ended", "I", false)
  | 5 => ("SlipDrawerModel", "bad", "I", false)
  | 6 => ("SlipDrawerModel", "badPlace", "I", false)
  | 7 => ("SlipDrawerModel", "fault", "I", false)
  | 8 => ("SlipDrawerModel", "faultPlace", "I", false)
  | 9 => ("SlipDrawerModel", "noneWord", "[C", true)
  | 10 => ("SlipDrawerModel", "earlyWord", "[C", true)
  | 11 => ("SlipDrawerModel", "lateWord", "[C", true)
  | 12 => ("SlipDrawerModel", "swapWord", "[C", true)
  | 13 => ("SlipDrawerModel", "tradeWord", "[C", true)
  | 14 => ("SlipDrawerModel", "blendWord", "[C", true)
  | 15 => ("SlipDrawerModel", "nearWord", "[C", true)
  | 16 => ("SlipDrawerModel", "senseWord", "[C", true)
  | 17 => ("SlipDrawerModel", "lostWord", "[C", true)
  | 18 => ("SlipDrawerModel", "whenWord", "[C", true)
  | 19 => ("SlipDrawerModel", "orWord", "[C", true)
  | 20 => ("SlipDrawerModel", "andWord", "[C", true)
  | 21 => ("SlipDrawerModel", "notWord", "[C", true)
  | 22 => ("SlipDrawerModel", "allWord", "[C", true)
  | 23 => ("SlipDrawerModel", "realWord", "[C", true)
  | 24 => ("SlipDrawerModel", "gapWord", "[C", true)
  | 25 => ("SlipDrawerModel", "placeWord", "[C", true)
  | 26 => ("SlipDrawerModel", "wordsWord", "[C", true)
  | 27 => ("SlipDrawerModel", "oftenWord", "[C", true)
  | 28 => ("SlipDrawerModel", "ownWord", "[C", true)
  | 29 => ("SlipDrawerModel", "sortWord", "[C", true)
  | 30 => ("SlipDrawerModel", "farWord", "[C", true)
  | 31 => ("SlipDrawerModel", "minWord", "[C", true)
  | 32 => ("SlipDrawerModel", "maxWord", "[C", true)
  | 33 => ("SlipDrawerModel", "words", "I", false)
  | 34 => ("SlipDrawerModel", "letters", "[I", true)
  | 35 => ("SlipDrawerModel", "sizes", "[I", true)
  | 36 => ("SlipDrawerModel", "onsets", "[I", true)
  | 37 => ("SlipDrawerModel", "sorts", "[I", true)
  | 38 => ("SlipDrawerModel", "senses", "[I", true)
  | 39 => ("SlipDrawerModel", "often", "[I", true)
  | 40 => ("SlipDrawerModel", "rows", "I", false)
  | 41 => ("SlipDrawerModel", "rowSize", "[I", true)
  | 42 => ("SlipDrawerModel", "rowWord", "[I", true)
  | 43 => ("SlipDrawerModel", "isThere", "[Z", true)
  | 44 => ("SlipDrawerModel", "rules", "[I", true)
  | 45 => ("SlipDrawerModel", "kindOf", "[I", true)
  | 46 => ("SlipDrawerModel", "sumFrom", "[I", true)
  | 47 => ("SlipDrawerModel", "sumEnd", "[I", true)
  | 48 => ("SlipDrawerModel", "testEnd", "[I", true)
  | 49 => ("SlipDrawerModel", "codes", "[I", true)
  | 50 => ("SlipDrawerModel", "coded", "I", false)
  | 51 => ("SlipDrawerModel", "wait", "[I", true)
  | 52 => ("SlipDrawerModel", "waits", "I", false)
  | 53 => ("SlipDrawerModel", "open", "I", false)
  | 54 => ("SlipDrawerModel", "base", "I", false)
  | 55 => ("SlipDrawerModel", "listed", "I", false)
  | 56 => ("SlipDrawerModel", "listedRow", "I", false)
  | 57 => ("SlipDrawerModel", "kinds", "[I", true)
  | 58 => ("SlipDrawerModel", "places", "[I", true)
  | 59 => ("SlipDrawerModel", "others", "[I", true)
  | 60 => ("SlipDrawerModel", "spelt", "[I", true)
  | 61 => ("SlipDrawerModel", "speltSize", "[I", true)
  | 62 => ("SlipDrawerModel", "gaps", "[I", true)
  | 63 => ("SlipDrawerModel", "fars", "[I", true)
  | 64 => ("SlipDrawerModel", "isReal", "[Z", true)
  | 65 => ("SlipDrawerModel", "pieceSize", "I", false)
  | 66 => ("SlipDrawerModel", "piece", "[I", true)
  | 67 => ("SlipDrawerModel", "listedWords", "I", false)
  | 68 => ("SlipDrawerModel", "pile", "[J", true)
  | 69 => ("SlipDrawerModel", "piled", "I", false)
  | 70 => ("SlipDrawerModel", "weights", "[I", true)
  | 71 => ("SlipDrawerModel", "saidSize", "I", false)
  | 72 => ("SlipDrawerModel", "said", "[I", true)
  | 73 => ("SlipDrawerModel", "notes", "I", false)
  | 74 => ("SlipDrawerModel", "noteRow", "[I", true)
  | 75 => ("SlipDrawerModel", "noteSize", "[I", true)
  | 76 => ("SlipDrawerModel", "noted", "[I", true)
  | 77 => ("SlipDrawerModel", "noteTotal", "I", false)
  | 78 => ("SlipDrawerModel", "firstWeights", "[I", true)
  | 79 => ("SlipDrawerModel", "isDone", "[Z", true)
  | 80 => ("SlipDrawerModel", "octet", "[I", true)
  | _ => ("SlipDrawerModel", "octets", "I", false)
def tyX11 : Nat → FieldType := fun k => match k with
  | 0 => .array .int
  | 1 => .int
  | 2 => .int
  | 3 => .int
  | 4 => .int
  | 5 => .int
  | 6 => .int
  | 7 => .int
  | 8 => .int
  | 9 => .array .char
  | 10 => .array .char
  | 11 => .array .char
  | 12 => .array .char
  | 13 => .array .char
  | 14 => .array .char
  | 15 => .array .char
  | 16 => .array .char
  | 17 => .array .char
  | 18 => .array .char
  | 19 => .array .char
  | 20 => .array .char
  | 21 => .array .char
  | 22 => .array .char
  | 23 => .array .char
  | 24 => .array .char
  | 25 => .array .char
  | 26 => .array .char
  | 27 => .array .char
  | 28 => .array .char
  | 29 => .array .char
  | 30 => .array .char
  | 31 => .array .char
  | 32 => .array .char
  | 33 => .int
  | 34 => .array .int
  | 35 => .array .int
  | 36 => .array .int
  | 37 => .array .int
  | 38 => .array .int
  | 39 => .array .int
  | 40 => .int
  | 41 => .array .int
  | 42 => .array .int
  | 43 => .array .boolean
  | 44 => .array .int
  | 45 => .array .int
  | 46 => .array .int
  | 47 => .array .int
  | 48 => .array .int
  | 49 => .array .int
  | 50 => .int
  | 51 => .array .int
  | 52 => .int
  | 53 => .int
  | 54 => .int
  | 55 => .int
  | 56 => .int
  | 57 => .array .int
  | 58 => .array .int
  | 59 => .array .int
  | 60 => .array .int
  | 61 => .array .int
  | 62 => .array .int
  | 63 => .array .int
  | 64 => .array .boolean
  | 65 => .int
  | 66 => .array .int
  | 67 => .int
  | 68 => .array .long
  | 69 => .int
  | 70 => .array .int
  | 71 => .int
  | 72 => .array .int
  | 73 => .int
  | 74 => .array .int
  | 75 => .array .int
  | 76 => .array .int
  | 77 => .int
  | 78 => .array .int
  | 79 => .array .boolean
  | 80 => .array .int
  | _ => .int
theorem nmX11 : ∀ a, a < 82 → ∀ b, b < 82 → a ≠ b → (TX11 a).2.1 ≠ (TX11 b).2.1 := by decide +kernel
theorem tyX11_ok : ∀ k, k < 82 → parseFieldDescriptor (TX11 k).2.2.1 = some (tyX11 k) := by decide +kernel
abbrev vwCl : List vw_C := [(RX0, TX0, 2), (RX1, TX1, 16), (RX2, TX2, 3), (RX3, TX3, 2), (RX4, TX4, 6), (RX5, TX5, 7), (RX6, TX6, 2), (RX7, TX7, 2), (RX8, TX8, 4), (RX9, TX9, 10), (RX10, TX10, 12), (RX11, TX11, 82)]
end

section
-- ===== PART A: goes FIRST, ahead of the names: the tables' words, and 'selects' of the private methods out of them =====
/-- a private method of a class that the tables say can be made, by its rows of tables_1 -/
def lw_okq (q : MethodName × Nat) : Prop := (q.1.cls ≠ "java/lang/invoke/MethodHandle" ∧ q.1.cls ≠ "java/lang/invoke/VarHandle") ∧ Cond.instantiable q.1.cls q.2 ∈ tables_1 ∧ Cond.privateMethod q.1 ∈ tables_1 ∧ Cond.instanceMethod q.1 ∈ tables_1
theorem lw_p0 : lw_okq (⟨"AnchorChains", "saveState", "()V"⟩, 12) := ⟨⟨by decide +kernel, by decide +kernel⟩, List.mem_of_getElem? (i := 22) (by decide +kernel), List.mem_of_getElem? (i := 316) (by decide +kernel), List.mem_of_getElem? (i := 317) (by decide +kernel)⟩
theorem lw_p1 : lw_okq (⟨"AnchorChains$History", "dropOldest", "()V"⟩, 2) := ⟨⟨by decide +kernel, by decide +kernel⟩, List.mem_of_getElem? (i := 89) (by decide +kernel), List.mem_of_getElem? (i := 324) (by decide +kernel), List.mem_of_getElem? (i := 325) (by decide +kernel)⟩
theorem lw_p2 : lw_okq (⟨"AnchorChains", "refresh", "()V"⟩, 12) := ⟨⟨by decide +kernel, by decide +kernel⟩, List.mem_of_getElem? (i := 22) (by decide +kernel), List.mem_of_getElem? (i := 350) (by decide +kernel), List.mem_of_getElem? (i := 351) (by decide +kernel)⟩
theorem lw_p3 : lw_okq (⟨"AnchorChains$Chain", "countUpTo", "(LAnchorChains$Anchors;)V"⟩, 5) := ⟨⟨by decide +kernel, by decide +kernel⟩, List.mem_of_getElem? (i := 160) (by decide +kernel), List.mem_of_getElem? (i := 388) (by decide +kernel), List.mem_of_getElem? (i := 389) (by decide +kernel)⟩
theorem lw_p4 : lw_okq (⟨"AnchorChains$Chain", "countFrom", "(LAnchorChains$Anchors;)V"⟩, 5) := ⟨⟨by decide +kernel, by decide +kernel⟩, List.mem_of_getElem? (i := 160) (by decide +kernel), List.mem_of_getElem? (i := 399) (by decide +kernel), List.mem_of_getElem? (i := 400) (by decide +kernel)⟩
theorem lw_p5 : lw_okq (⟨"AnchorChains$Chain", "pick", "(LAnchorChains$Anchors;)V"⟩, 5) := ⟨⟨by decide +kernel, by decide +kernel⟩, List.mem_of_getElem? (i := 160) (by decide +kernel), List.mem_of_getElem? (i := 403) (by decide +kernel), List.mem_of_getElem? (i := 404) (by decide +kernel)⟩
theorem lw_p6 : lw_okq (⟨"AnchorChains$Chain", "mostOfAll", "(LAnchorChains$Anchors;)I"⟩, 5) := ⟨⟨by decide +kernel, by decide +kernel⟩, List.mem_of_getElem? (i := 160) (by decide +kernel), List.mem_of_getElem? (i := 407) (by decide +kernel), List.mem_of_getElem? (i := 408) (by decide +kernel)⟩
theorem lw_p7 : lw_okq (⟨"AnchorChains$Lineup", "forget", "()V"⟩, 8) := ⟨⟨by decide +kernel, by decide +kernel⟩, List.mem_of_getElem? (i := 119) (by decide +kernel), List.mem_of_getElem? (i := 411) (by decide +kernel), List.mem_of_getElem? (i := 412) (by decide +kernel)⟩
theorem lw_p8 : lw_okq (⟨"AnchorChains$Lineup", "closeGap", "(LAnchorChains$State;IIII)V"⟩, 8) := ⟨⟨by decide +kernel, by decide +kernel⟩, List.mem_of_getElem? (i := 119) (by decide +kernel), List.mem_of_getElem? (i := 417) (by decide +kernel), List.mem_of_getElem? (i := 418) (by decide +kernel)⟩
theorem lw_p9 : lw_okq (⟨"AnchorChains$Grid", "store", "(IIII)V"⟩, 6) := ⟨⟨by decide +kernel, by decide +kernel⟩, List.mem_of_getElem? (i := 189) (by decide +kernel), List.mem_of_getElem? (i := 435) (by decide +kernel), List.mem_of_getElem? (i := 436) (by decide +kernel)⟩
theorem lw_p10 : lw_okq (⟨"AnchorChains$Grid", "fillCell", "(LAnchorChains$State;II)V"⟩, 6) := ⟨⟨by decide +kernel, by decide +kernel⟩, List.mem_of_getElem? (i := 189) (by decide +kernel), List.mem_of_getElem? (i := 439) (by decide +kernel), List.mem_of_getElem? (i := 440) (by decide +kernel)⟩
theorem lw_p11 : lw_okq (⟨"AnchorChains$Grid", "costAt", "(II)I"⟩, 6) := ⟨⟨by decide +kernel, by decide +kernel⟩, List.mem_of_getElem? (i := 189) (by decide +kernel), List.mem_of_getElem? (i := 445) (by decide +kernel), List.mem_of_getElem? (i := 446) (by decide +kernel)⟩
theorem lw_p12 : lw_okq (⟨"AnchorChains$Lineup", "pairGap", "()V"⟩, 8) := ⟨⟨by decide +kernel, by decide +kernel⟩, List.mem_of_getElem? (i := 119) (by decide +kernel), List.mem_of_getElem? (i := 452) (by decide +kernel), List.mem_of_getElem? (i := 453) (by decide +kernel)⟩
theorem lw_p13 : lw_okq (⟨"AnchorChains$Lineup", "pairPlaces", "(II)V"⟩, 8) := ⟨⟨by decide +kernel, by decide +kernel⟩, List.mem_of_getElem? (i := 119) (by decide +kernel), List.mem_of_getElem? (i := 460) (by decide +kernel), List.mem_of_getElem? (i := 461) (by decide +kernel)⟩
theorem lw_p14 : lw_okq (⟨"AnchorChains$Lineup", "pairWord", "(II)V"⟩, 8) := ⟨⟨by decide +kernel, by decide +kernel⟩, List.mem_of_getElem? (i := 119) (by decide +kernel), List.mem_of_getElem? (i := 464) (by decide +kernel), List.mem_of_getElem? (i := 465) (by decide +kernel)⟩
theorem lw_p15 : lw_okq (⟨"AnchorChains", "bestWordLength", "()I"⟩, 12) := ⟨⟨by decide +kernel, by decide +kernel⟩, List.mem_of_getElem? (i := 22) (by decide +kernel), List.mem_of_getElem? (i := 511) (by decide +kernel), List.mem_of_getElem? (i := 512) (by decide +kernel)⟩
def lw_privs_1 : List (MethodName × Nat) := [(⟨"AnchorChains", "saveState", "()V"⟩, 12), (⟨"AnchorChains$History", "dropOldest", "()V"⟩, 2), (⟨"AnchorChains", "refresh", "()V"⟩, 12), (⟨"AnchorChains$Chain", "countUpTo", "(LAnchorChains$Anchors;)V"⟩, 5), (⟨"AnchorChains$Chain", "countFrom", "(LAnchorChains$Anchors;)V"⟩, 5), (⟨"AnchorChains$Chain", "pick", "(LAnchorChains$Anchors;)V"⟩, 5), (⟨"AnchorChains$Chain", "mostOfAll", "(LAnchorChains$Anchors;)I"⟩, 5), (⟨"AnchorChains$Lineup", "forget", "()V"⟩, 8), (⟨"AnchorChains$Lineup", "closeGap", "(LAnchorChains$State;IIII)V"⟩, 8), (⟨"AnchorChains$Grid", "store", "(IIII)V"⟩, 6), (⟨"AnchorChains$Grid", "fillCell", "(LAnchorChains$State;II)V"⟩, 6), (⟨"AnchorChains$Grid", "costAt", "(II)I"⟩, 6), (⟨"AnchorChains$Lineup", "pairGap", "()V"⟩, 8), (⟨"AnchorChains$Lineup", "pairPlaces", "(II)V"⟩, 8), (⟨"AnchorChains$Lineup", "pairWord", "(II)V"⟩, 8), (⟨"AnchorChains", "bestWordLength", "()I"⟩, 12)]
theorem lw_r1 : ∀ q ∈ lw_privs_1, lw_okq q := List.forall_mem_cons.mpr ⟨lw_p0, List.forall_mem_cons.mpr ⟨lw_p1, List.forall_mem_cons.mpr ⟨lw_p2, List.forall_mem_cons.mpr ⟨lw_p3, List.forall_mem_cons.mpr ⟨lw_p4, List.forall_mem_cons.mpr ⟨lw_p5, List.forall_mem_cons.mpr ⟨lw_p6, List.forall_mem_cons.mpr ⟨lw_p7, List.forall_mem_cons.mpr ⟨lw_p8, List.forall_mem_cons.mpr ⟨lw_p9, List.forall_mem_cons.mpr ⟨lw_p10, List.forall_mem_cons.mpr ⟨lw_p11, List.forall_mem_cons.mpr ⟨lw_p12, List.forall_mem_cons.mpr ⟨lw_p13, List.forall_mem_cons.mpr ⟨lw_p14, List.forall_mem_cons.mpr ⟨lw_p15, fun _ h => absurd h List.not_mem_nil⟩⟩⟩⟩⟩⟩⟩⟩⟩⟩⟩⟩⟩⟩⟩⟩
theorem lw_p16 : lw_okq (⟨"AnchorChains", "shareOfLikeSigns", "()D"⟩, 12) := ⟨⟨by decide +kernel, by decide +kernel⟩, List.mem_of_getElem? (i := 22) (by decide +kernel), List.mem_of_getElem? (i := 533) (by decide +kernel), List.mem_of_getElem? (i := 534) (by decide +kernel)⟩
theorem lw_p17 : lw_okq (⟨"AnchorChains", "numberOf", "(I)I"⟩, 12) := ⟨⟨by decide +kernel, by decide +kernel⟩, List.mem_of_getElem? (i := 22) (by decide +kernel), List.mem_of_getElem? (i := 553) (by decide +kernel), List.mem_of_getElem? (i := 554) (by decide +kernel)⟩
theorem lw_p18 : lw_okq (⟨"AnchorChains", "foldRow", "(JI)J"⟩, 12) := ⟨⟨by decide +kernel, by decide +kernel⟩, List.mem_of_getElem? (i := 22) (by decide +kernel), List.mem_of_getElem? (i := 579) (by decide +kernel), List.mem_of_getElem? (i := 580) (by decide +kernel)⟩
theorem lw_p19 : lw_okq (⟨"AnchorChains$Row", "againLength", "(I)I"⟩, 2) := ⟨⟨by decide +kernel, by decide +kernel⟩, List.mem_of_getElem? (i := 36) (by decide +kernel), List.mem_of_getElem? (i := 593) (by decide +kernel), List.mem_of_getElem? (i := 594) (by decide +kernel)⟩
theorem lw_p20 : lw_okq (⟨"AnchorChains$Row", "alikeFrom", "(II)I"⟩, 2) := ⟨⟨by decide +kernel, by decide +kernel⟩, List.mem_of_getElem? (i := 36) (by decide +kernel), List.mem_of_getElem? (i := 597) (by decide +kernel), List.mem_of_getElem? (i := 598) (by decide +kernel)⟩
theorem lw_p21 : lw_okq (⟨"AnchorChains$Row", "placesOfStretch", "(II)I"⟩, 2) := ⟨⟨by decide +kernel, by decide +kernel⟩, List.mem_of_getElem? (i := 36) (by decide +kernel), List.mem_of_getElem? (i := 601) (by decide +kernel), List.mem_of_getElem? (i := 602) (by decide +kernel)⟩
theorem lw_p22 : lw_okq (⟨"AnchorChains", "foldAnchors", "(J)J"⟩, 12) := ⟨⟨by decide +kernel, by decide +kernel⟩, List.mem_of_getElem? (i := 22) (by decide +kernel), List.mem_of_getElem? (i := 605) (by decide +kernel), List.mem_of_getElem? (i := 606) (by decide +kernel)⟩
theorem lw_p23 : lw_okq (⟨"AnchorChains", "foldGaps", "(J)J"⟩, 12) := ⟨⟨by decide +kernel, by decide +kernel⟩, List.mem_of_getElem? (i := 22) (by decide +kernel), List.mem_of_getElem? (i := 617) (by decide +kernel), List.mem_of_getElem? (i := 618) (by decide +kernel)⟩
theorem lw_p24 : lw_okq (⟨"AnchorChains", "costWithSetting", "(II)I"⟩, 12) := ⟨⟨by decide +kernel, by decide +kernel⟩, List.mem_of_getElem? (i := 22) (by decide +kernel), List.mem_of_getElem? (i := 625) (by decide +kernel), List.mem_of_getElem? (i := 626) (by decide +kernel)⟩
theorem lw_p25 : lw_okq (⟨"AnchorChains", "costWithSign", "(III)I"⟩, 12) := ⟨⟨by decide +kernel, by decide +kernel⟩, List.mem_of_getElem? (i := 22) (by decide +kernel), List.mem_of_getElem? (i := 633) (by decide +kernel), List.mem_of_getElem? (i := 634) (by decide +kernel)⟩
theorem lw_p26 : lw_okq (⟨"AnchorChains", "foldText", "(J)J"⟩, 12) := ⟨⟨by decide +kernel, by decide +kernel⟩, List.mem_of_getElem? (i := 22) (by decide +kernel), List.mem_of_getElem? (i := 643) (by decide +kernel), List.mem_of_getElem? (i := 644) (by decide +kernel)⟩
theorem lw_p27 : lw_okq (⟨"java/lang/Throwable", "fillInStackTrace", "(I)Ljava/lang/Throwable;"⟩, 6) := ⟨⟨by decide +kernel, by decide +kernel⟩, List.mem_of_getElem? (i := 702) (by decide +kernel), List.mem_of_getElem? (i := 700) (by decide +kernel), List.mem_of_getElem? (i := 701) (by decide +kernel)⟩
theorem lw_p28 : lw_okq (⟨"AnchorChains", "isPlace", "(II)Z"⟩, 12) := ⟨⟨by decide +kernel, by decide +kernel⟩, List.mem_of_getElem? (i := 22) (by decide +kernel), List.mem_of_getElem? (i := 778) (by decide +kernel), List.mem_of_getElem? (i := 779) (by decide +kernel)⟩
theorem lw_p29 : lw_okq (⟨"AnchorChains", "snapshotOf", "(I)LAnchorChains$State;"⟩, 12) := ⟨⟨by decide +kernel, by decide +kernel⟩, List.mem_of_getElem? (i := 22) (by decide +kernel), List.mem_of_getElem? (i := 886) (by decide +kernel), List.mem_of_getElem? (i := 887) (by decide +kernel)⟩
theorem lw_p30 : lw_okq (⟨"AnchorChainsModel", "signs", "(I)I"⟩, 30) := ⟨⟨by decide +kernel, by decide +kernel⟩, List.mem_of_getElem? (i := 991) (by decide +kernel), List.mem_of_getElem? (i := 1102) (by decide +kernel), List.mem_of_getElem? (i := 1103) (by decide +kernel)⟩
theorem lw_p31 : lw_okq (⟨"AnchorChainsModel", "save", "()V"⟩, 30) := ⟨⟨by decide +kernel, by decide +kernel⟩, List.mem_of_getElem? (i := 991) (by decide +kernel), List.mem_of_getElem? (i := 1109) (by decide +kernel), List.mem_of_getElem? (i := 1110) (by decide +kernel)⟩
def lw_privs_2 : List (MethodName × Nat) := [(⟨"AnchorChains", "shareOfLikeSigns", "()D"⟩, 12), (⟨"AnchorChains", "numberOf", "(I)I"⟩, 12), (⟨"AnchorChains", "foldRow", "(JI)J"⟩, 12), (⟨"AnchorChains$Row", "againLength", "(I)I"⟩, 2), (⟨"AnchorChains$Row", "alikeFrom", "(II)I"⟩, 2), (⟨"AnchorChains$Row", "placesOfStretch", "(II)I"⟩, 2), (⟨"AnchorChains", "foldAnchors", "(J)J"⟩, 12), (⟨"AnchorChains", "foldGaps", "(J)J"⟩, 12), (⟨"AnchorChains", "costWithSetting", "(II)I"⟩, 12), (⟨"AnchorChains", "costWithSign", "(III)I"⟩, 12), (⟨"AnchorChains", "foldText", "(J)J"⟩, 12), (⟨"java/lang/Throwable", "fillInStackTrace", "(I)Ljava/lang/Throwable;"⟩, 6), (⟨"AnchorChains", "isPlace", "(II)Z"⟩, 12), (⟨"AnchorChains", "snapshotOf", "(I)LAnchorChains$State;"⟩, 12), (⟨"AnchorChainsModel", "signs", "(I)I"⟩, 30), (⟨"AnchorChainsModel", "save", "()V"⟩, 30)]
theorem lw_r2 : ∀ q ∈ lw_privs_2, lw_okq q := List.forall_mem_cons.mpr ⟨lw_p16, List.forall_mem_cons.mpr ⟨lw_p17, List.forall_mem_cons.mpr ⟨lw_p18, List.forall_mem_cons.mpr ⟨lw_p19, List.forall_mem_cons.mpr ⟨lw_p20, List.forall_mem_cons.mpr ⟨lw_p21, List.forall_mem_cons.mpr ⟨lw_p22, List.forall_mem_cons.mpr ⟨lw_p23, List.forall_mem_cons.mpr ⟨lw_p24, List.forall_mem_cons.mpr ⟨lw_p25, List.forall_mem_cons.mpr ⟨lw_p26, List.forall_mem_cons.mpr ⟨lw_p27, List.forall_mem_cons.mpr ⟨lw_p28, List.forall_mem_cons.mpr ⟨lw_p29, List.forall_mem_cons.mpr ⟨lw_p30, List.forall_mem_cons.mpr ⟨lw_p31, fun _ h => absurd h List.not_mem_nil⟩⟩⟩⟩⟩⟩⟩⟩⟩⟩⟩⟩⟩⟩⟩⟩
theorem lw_p32 : lw_okq (⟨"AnchorChainsModel", "at", "(II)I"⟩, 30) := ⟨⟨by decide +kernel, by decide +kernel⟩, List.mem_of_getElem? (i := 991) (by decide +kernel), List.mem_of_getElem? (i := 1113) (by decide +kernel), List.mem_of_getElem? (i := 1114) (by decide +kernel)⟩
theorem lw_p33 : lw_okq (⟨"AnchorChainsModel", "lay", "(III)V"⟩, 30) := ⟨⟨by decide +kernel, by decide +kernel⟩, List.mem_of_getElem? (i := 991) (by decide +kernel), List.mem_of_getElem? (i := 1117) (by decide +kernel), List.mem_of_getElem? (i := 1118) (by decide +kernel)⟩
theorem lw_p34 : lw_okq (⟨"AnchorChainsModel", "isPlace", "(II)Z"⟩, 30) := ⟨⟨by decide +kernel, by decide +kernel⟩, List.mem_of_getElem? (i := 991) (by decide +kernel), List.mem_of_getElem? (i := 1125) (by decide +kernel), List.mem_of_getElem? (i := 1126) (by decide +kernel)⟩
theorem lw_p35 : lw_okq (⟨"AnchorChainsModel", "layAnchors", "()V"⟩, 30) := ⟨⟨by decide +kernel, by decide +kernel⟩, List.mem_of_getElem? (i := 991) (by decide +kernel), List.mem_of_getElem? (i := 1145) (by decide +kernel), List.mem_of_getElem? (i := 1146) (by decide +kernel)⟩
theorem lw_p36 : lw_okq (⟨"AnchorChainsModel", "onlyPlace", "(IIZ)I"⟩, 30) := ⟨⟨by decide +kernel, by decide +kernel⟩, List.mem_of_getElem? (i := 991) (by decide +kernel), List.mem_of_getElem? (i := 1149) (by decide +kernel), List.mem_of_getElem? (i := 1150) (by decide +kernel)⟩
theorem lw_p37 : lw_okq (⟨"AnchorChainsModel", "stands", "(IIIZ)Z"⟩, 30) := ⟨⟨by decide +kernel, by decide +kernel⟩, List.mem_of_getElem? (i := 991) (by decide +kernel), List.mem_of_getElem? (i := 1153) (by decide +kernel), List.mem_of_getElem? (i := 1154) (by decide +kernel)⟩
theorem lw_p38 : lw_okq (⟨"AnchorChainsModel", "rightUpTo", "()I"⟩, 30) := ⟨⟨by decide +kernel, by decide +kernel⟩, List.mem_of_getElem? (i := 991) (by decide +kernel), List.mem_of_getElem? (i := 1179) (by decide +kernel), List.mem_of_getElem? (i := 1180) (by decide +kernel)⟩
theorem lw_p39 : lw_okq (⟨"AnchorChainsModel", "takes", "(I)Z"⟩, 30) := ⟨⟨by decide +kernel, by decide +kernel⟩, List.mem_of_getElem? (i := 991) (by decide +kernel), List.mem_of_getElem? (i := 1183) (by decide +kernel), List.mem_of_getElem? (i := 1184) (by decide +kernel)⟩
theorem lw_p40 : lw_okq (⟨"AnchorChainsModel", "anchorNow", "(II)I"⟩, 30) := ⟨⟨by decide +kernel, by decide +kernel⟩, List.mem_of_getElem? (i := 991) (by decide +kernel), List.mem_of_getElem? (i := 1214) (by decide +kernel), List.mem_of_getElem? (i := 1215) (by decide +kernel)⟩
theorem lw_p41 : lw_okq (⟨"AnchorChainsModel", "layChain", "()V"⟩, 30) := ⟨⟨by decide +kernel, by decide +kernel⟩, List.mem_of_getElem? (i := 991) (by decide +kernel), List.mem_of_getElem? (i := 1218) (by decide +kernel), List.mem_of_getElem? (i := 1219) (by decide +kernel)⟩
theorem lw_p42 : lw_okq (⟨"AnchorChainsModel", "fit", "(II)Z"⟩, 30) := ⟨⟨by decide +kernel, by decide +kernel⟩, List.mem_of_getElem? (i := 991) (by decide +kernel), List.mem_of_getElem? (i := 1222) (by decide +kernel), List.mem_of_getElem? (i := 1223) (by decide +kernel)⟩
theorem lw_p43 : lw_okq (⟨"AnchorChainsModel", "turnedNow", "(II)I"⟩, 30) := ⟨⟨by decide +kernel, by decide +kernel⟩, List.mem_of_getElem? (i := 991) (by decide +kernel), List.mem_of_getElem? (i := 1230) (by decide +kernel), List.mem_of_getElem? (i := 1231) (by decide +kernel)⟩
theorem lw_p44 : lw_okq (⟨"AnchorChainsModel", "stretchOf", "(I)I"⟩, 30) := ⟨⟨by decide +kernel, by decide +kernel⟩, List.mem_of_getElem? (i := 991) (by decide +kernel), List.mem_of_getElem? (i := 1234) (by decide +kernel), List.mem_of_getElem? (i := 1235) (by decide +kernel)⟩
theorem lw_p45 : lw_okq (⟨"AnchorChainsModel", "gapNow", "(II)I"⟩, 30) := ⟨⟨by decide +kernel, by decide +kernel⟩, List.mem_of_getElem? (i := 991) (by decide +kernel), List.mem_of_getElem? (i := 1242) (by decide +kernel), List.mem_of_getElem? (i := 1243) (by decide +kernel)⟩
theorem lw_p46 : lw_okq (⟨"AnchorChainsModel", "layAll", "()V"⟩, 30) := ⟨⟨by decide +kernel, by decide +kernel⟩, List.mem_of_getElem? (i := 991) (by decide +kernel), List.mem_of_getElem? (i := 1246) (by decide +kernel), List.mem_of_getElem? (i := 1247) (by decide +kernel)⟩
theorem lw_p47 : lw_okq (⟨"AnchorChainsModel", "addGap", "(IIII)V"⟩, 30) := ⟨⟨by decide +kernel, by decide +kernel⟩, List.mem_of_getElem? (i := 991) (by decide +kernel), List.mem_of_getElem? (i := 1250) (by decide +kernel), List.mem_of_getElem? (i := 1251) (by decide +kernel)⟩
def lw_privs_3 : List (MethodName × Nat) := [(⟨"AnchorChainsModel", "at", "(II)I"⟩, 30), (⟨"AnchorChainsModel", "lay", "(III)V"⟩, 30), (⟨"AnchorChainsModel", "isPlace", "(II)Z"⟩, 30), (⟨"AnchorChainsModel", "layAnchors", "()V"⟩, 30), (⟨"AnchorChainsModel", "onlyPlace", "(IIZ)I"⟩, 30), (⟨"AnchorChainsModel", "stands", "(IIIZ)Z"⟩, 30), (⟨"AnchorChainsModel", "rightUpTo", "()I"⟩, 30), (⟨"AnchorChainsModel", "takes", "(I)Z"⟩, 30), (⟨"AnchorChainsModel", "anchorNow", "(II)I"⟩, 30), (⟨"AnchorChainsModel", "layChain", "()V"⟩, 30), (⟨"AnchorChainsModel", "fit", "(II)Z"⟩, 30), (⟨"AnchorChainsModel", "turnedNow", "(II)I"⟩, 30), (⟨"AnchorChainsModel", "stretchOf", "(I)I"⟩, 30), (⟨"AnchorChainsModel", "gapNow", "(II)I"⟩, 30), (⟨"AnchorChainsModel", "layAll", "()V"⟩, 30), (⟨"AnchorChainsModel", "addGap", "(IIII)V"⟩, 30)]
theorem lw_r3 : ∀ q ∈ lw_privs_3, lw_okq q := List.forall_mem_cons.mpr ⟨lw_p32, List.forall_mem_cons.mpr ⟨lw_p33, List.forall_mem_cons.mpr ⟨lw_p34, List.forall_mem_cons.mpr ⟨lw_p35, List.forall_mem_cons.mpr ⟨lw_p36, List.forall_mem_cons.mpr ⟨lw_p37, List.forall_mem_cons.mpr ⟨lw_p38, List.forall_mem_cons.mpr ⟨lw_p39, List.forall_mem_cons.mpr ⟨lw_p40, List.forall_mem_cons.mpr ⟨lw_p41, List.forall_mem_cons.mpr ⟨lw_p42, List.forall_mem_cons.mpr ⟨lw_p43, List.forall_mem_cons.mpr ⟨lw_p44, List.forall_mem_cons.mpr ⟨lw_p45, List.forall_mem_cons.mpr ⟨lw_p46, List.forall_mem_cons.mpr ⟨lw_p47, fun _ h => absurd h List.not_mem_nil⟩⟩⟩⟩⟩⟩⟩⟩⟩⟩⟩⟩⟩⟩⟩⟩
theorem lw_p48 : lw_okq (⟨"AnchorChainsModel", "layLeast", "(IIIII)V"⟩, 30) := ⟨⟨by decide +kernel, by decide +kernel⟩, List.mem_of_getElem? (i := 991) (by decide +kernel), List.mem_of_getElem? (i := 1257) (by decide +kernel), List.mem_of_getElem? (i := 1258) (by decide +kernel)⟩
theorem lw_p49 : lw_okq (⟨"AnchorChainsModel", "goBack", "(IIII)V"⟩, 30) := ⟨⟨by decide +kernel, by decide +kernel⟩, List.mem_of_getElem? (i := 991) (by decide +kernel), List.mem_of_getElem? (i := 1262) (by decide +kernel), List.mem_of_getElem? (i := 1263) (by decide +kernel)⟩
theorem lw_p50 : lw_okq (⟨"AnchorChainsModel", "lineUp", "(II)V"⟩, 30) := ⟨⟨by decide +kernel, by decide +kernel⟩, List.mem_of_getElem? (i := 991) (by decide +kernel), List.mem_of_getElem? (i := 1266) (by decide +kernel), List.mem_of_getElem? (i := 1267) (by decide +kernel)⟩
theorem lw_p51 : lw_okq (⟨"AnchorChainsModel", "partnerNow", "(II)I"⟩, 30) := ⟨⟨by decide +kernel, by decide +kernel⟩, List.mem_of_getElem? (i := 991) (by decide +kernel), List.mem_of_getElem? (i := 1274) (by decide +kernel), List.mem_of_getElem? (i := 1275) (by decide +kernel)⟩
theorem lw_p52 : lw_okq (⟨"AnchorChainsModel", "doubledNow", "(II)I"⟩, 30) := ⟨⟨by decide +kernel, by decide +kernel⟩, List.mem_of_getElem? (i := 991) (by decide +kernel), List.mem_of_getElem? (i := 1282) (by decide +kernel), List.mem_of_getElem? (i := 1283) (by decide +kernel)⟩
theorem lw_p53 : lw_okq (⟨"AnchorChainsModel", "standings", "(III)I"⟩, 30) := ⟨⟨by decide +kernel, by decide +kernel⟩, List.mem_of_getElem? (i := 991) (by decide +kernel), List.mem_of_getElem? (i := 1286) (by decide +kernel), List.mem_of_getElem? (i := 1287) (by decide +kernel)⟩
theorem lw_p54 : lw_okq (⟨"AnchorChainsModel", "counted", "(I)I"⟩, 30) := ⟨⟨by decide +kernel, by decide +kernel⟩, List.mem_of_getElem? (i := 991) (by decide +kernel), List.mem_of_getElem? (i := 1294) (by decide +kernel), List.mem_of_getElem? (i := 1295) (by decide +kernel)⟩
theorem lw_p55 : lw_okq (⟨"AnchorChainsModel", "costNow", "()I"⟩, 30) := ⟨⟨by decide +kernel, by decide +kernel⟩, List.mem_of_getElem? (i := 991) (by decide +kernel), List.mem_of_getElem? (i := 1298) (by decide +kernel), List.mem_of_getElem? (i := 1299) (by decide +kernel)⟩
theorem lw_p56 : lw_okq (⟨"AnchorChainsModel", "freeCost", "()I"⟩, 30) := ⟨⟨by decide +kernel, by decide +kernel⟩, List.mem_of_getElem? (i := 991) (by decide +kernel), List.mem_of_getElem? (i := 1302) (by decide +kernel), List.mem_of_getElem? (i := 1303) (by decide +kernel)⟩
theorem lw_p57 : lw_okq (⟨"AnchorChainsModel", "turnedStretches", "(Z)I"⟩, 30) := ⟨⟨by decide +kernel, by decide +kernel⟩, List.mem_of_getElem? (i := 991) (by decide +kernel), List.mem_of_getElem? (i := 1306) (by decide +kernel), List.mem_of_getElem? (i := 1307) (by decide +kernel)⟩
theorem lw_p58 : lw_okq (⟨"AnchorChainsModel", "likeOnes", "()I"⟩, 30) := ⟨⟨by decide +kernel, by decide +kernel⟩, List.mem_of_getElem? (i := 991) (by decide +kernel), List.mem_of_getElem? (i := 1310) (by decide +kernel), List.mem_of_getElem? (i := 1311) (by decide +kernel)⟩
theorem lw_p59 : lw_okq (⟨"AnchorChainsModel", "leftOut", "(I)I"⟩, 30) := ⟨⟨by decide +kernel, by decide +kernel⟩, List.mem_of_getElem? (i := 991) (by decide +kernel), List.mem_of_getElem? (i := 1314) (by decide +kernel), List.mem_of_getElem? (i := 1315) (by decide +kernel)⟩
theorem lw_p60 : lw_okq (⟨"AnchorChainsModel", "laidCount", "(I)I"⟩, 30) := ⟨⟨by decide +kernel, by decide +kernel⟩, List.mem_of_getElem? (i := 991) (by decide +kernel), List.mem_of_getElem? (i := 1318) (by decide +kernel), List.mem_of_getElem? (i := 1319) (by decide +kernel)⟩
theorem lw_p61 : lw_okq (⟨"AnchorChainsModel", "setThen", "(II)I"⟩, 30) := ⟨⟨by decide +kernel, by decide +kernel⟩, List.mem_of_getElem? (i := 991) (by decide +kernel), List.mem_of_getElem? (i := 1330) (by decide +kernel), List.mem_of_getElem? (i := 1331) (by decide +kernel)⟩
theorem lw_p62 : lw_okq (⟨"AnchorChainsModel", "changedThen", "(III)I"⟩, 30) := ⟨⟨by decide +kernel, by decide +kernel⟩, List.mem_of_getElem? (i := 991) (by decide +kernel), List.mem_of_getElem? (i := 1338) (by decide +kernel), List.mem_of_getElem? (i := 1339) (by decide +kernel)⟩
theorem lw_p63 : lw_okq (⟨"AnchorChainsModel", "bestNow", "()I"⟩, 30) := ⟨⟨by decide +kernel, by decide +kernel⟩, List.mem_of_getElem? (i := 991) (by decide +kernel), List.mem_of_getElem? (i := 1346) (by decide +kernel), List.mem_of_getElem? (i := 1347) (by decide +kernel)⟩
def lw_privs_4 : List (MethodName × Nat) := [(⟨"AnchorChainsModel", "layLeast", "(IIIII)V"⟩, 30), (⟨"AnchorChainsModel", "goBack", "(IIII)V"⟩, 30), (⟨"AnchorChainsModel", "lineUp", "(II)V"⟩, 30), (⟨"AnchorChainsModel", "partnerNow", "(II)I"⟩, 30), (⟨"AnchorChainsModel", "doubledNow", "(II)I"⟩, 30), (⟨"AnchorChainsModel", "standings", "(III)I"⟩, 30), (⟨"AnchorChainsModel", "counted", "(I)I"⟩, 30), (⟨"AnchorChainsModel", "costNow", "()I"⟩, 30), (⟨"AnchorChainsModel", "freeCost", "()I"⟩, 30), (⟨"AnchorChainsModel", "turnedStretches", "(Z)I"⟩, 30), (⟨"AnchorChainsModel", "likeOnes", "()I"⟩, 30), (⟨"AnchorChainsModel", "leftOut", "(I)I"⟩, 30), (⟨"AnchorChainsModel", "laidCount", "(I)I"⟩, 30), (⟨"AnchorChainsModel", "setThen", "(II)I"⟩, 30), (⟨"AnchorChainsModel", "changedThen", "(III)I"⟩, 30), (⟨"AnchorChainsModel", "bestNow", "()I"⟩, 30)]
theorem lw_r4 : ∀ q ∈ lw_privs_4, lw_okq q := List.forall_mem_cons.mpr ⟨lw_p48, List.forall_mem_cons.mpr ⟨lw_p49, List.forall_mem_cons.mpr ⟨lw_p50, List.forall_mem_cons.mpr ⟨lw_p51, List.forall_mem_cons.mpr ⟨lw_p52, List.forall_mem_cons.mpr ⟨lw_p53, List.forall_mem_cons.mpr ⟨lw_p54, List.forall_mem_cons.mpr ⟨lw_p55, List.forall_mem_cons.mpr ⟨lw_p56, List.forall_mem_cons.mpr ⟨lw_p57, List.forall_mem_cons.mpr ⟨lw_p58, List.forall_mem_cons.mpr ⟨lw_p59, List.forall_mem_cons.mpr ⟨lw_p60, List.forall_mem_cons.mpr ⟨lw_p61, List.forall_mem_cons.mpr ⟨lw_p62, List.forall_mem_cons.mpr ⟨lw_p63, fun _ h => absurd h List.not_mem_nil⟩⟩⟩⟩⟩⟩⟩⟩⟩⟩⟩⟩⟩⟩⟩⟩
theorem lw_p64 : lw_okq (⟨"AnchorChainsModel", "share", "()D"⟩, 30) := ⟨⟨by decide +kernel, by decide +kernel⟩, List.mem_of_getElem? (i := 991) (by decide +kernel), List.mem_of_getElem? (i := 1354) (by decide +kernel), List.mem_of_getElem? (i := 1355) (by decide +kernel)⟩
theorem lw_p65 : lw_okq (⟨"AnchorChainsModel", "mix", "(J)V"⟩, 30) := ⟨⟨by decide +kernel, by decide +kernel⟩, List.mem_of_getElem? (i := 991) (by decide +kernel), List.mem_of_getElem? (i := 1364) (by decide +kernel), List.mem_of_getElem? (i := 1365) (by decide +kernel)⟩
theorem lw_p66 : lw_okq (⟨"AnchorChainsModel", "mixRow", "(I)V"⟩, 30) := ⟨⟨by decide +kernel, by decide +kernel⟩, List.mem_of_getElem? (i := 991) (by decide +kernel), List.mem_of_getElem? (i := 1369) (by decide +kernel), List.mem_of_getElem? (i := 1370) (by decide +kernel)⟩
def lw_privs_5 : List (MethodName × Nat) := [(⟨"AnchorChainsModel", "share", "()D"⟩, 30), (⟨"AnchorChainsModel", "mix", "(J)V"⟩, 30), (⟨"AnchorChainsModel", "mixRow", "(I)V"⟩, 30)]
theorem lw_r5 : ∀ q ∈ lw_privs_5, lw_okq q := List.forall_mem_cons.mpr ⟨lw_p64, List.forall_mem_cons.mpr ⟨lw_p65, List.forall_mem_cons.mpr ⟨lw_p66, fun _ h => absurd h List.not_mem_nil⟩⟩⟩
def lw_privs : List (MethodName × Nat) := lw_privs_1 ++ (lw_privs_2 ++ (lw_privs_3 ++ (lw_privs_4 ++ (lw_privs_5))))
def lw_tbl : List Cond := k2_sels lw_privs ++ tables_1
theorem lw_privs_ok : ∀ q ∈ lw_privs, lw_okq q := by
  show ∀ q ∈ lw_privs_1 ++ (lw_privs_2 ++ (lw_privs_3 ++ (lw_privs_4 ++ (lw_privs_5)))), lw_okq q
  exact List.forall_mem_append.mpr ⟨lw_r1, List.forall_mem_append.mpr ⟨lw_r2, List.forall_mem_append.mpr ⟨lw_r3, List.forall_mem_append.mpr ⟨lw_r4, lw_r5⟩⟩⟩⟩
/-- the streams that the claim lets the run draw from -/
abbrev lw_cs : List Choice := [Jvm.Choice.named "NaN.bits"]
theorem lw_bits : nanBits ∈ lw_cs := by first | decide | exact List.mem_cons_self | simp [lw_cs, nanBits]
end
section
/-! ===== BEGIN words of one list among another's, by their places ===== -/
theorem goodIn_r {big : List Cond} (ws : List Cond) (ps : List Nat) (hp : ws = ps.filterMap (fun i => big[i]?)) (h : ws.all goodWord = true) : GoodIn big ws := by
  intro w hw
  have h1 := List.all_eq_true.mp h w hw
  rw [hp] at hw
  obtain ⟨i, -, hi⟩ := List.mem_filterMap.mp hw
  have hm : w ∈ big := by first | exact List.mem_of_getElem? hi | exact List.getElem?_mem hi
  exact ⟨hm, good_of_word h1⟩
theorem goodIn_app {big a b : List Cond} (ha : GoodIn big a) (hb : GoodIn big b) : GoodIn big (a ++ b) := fun w h => (List.mem_append.mp h).elim (ha w) (hb w)
theorem goodIn_ca {big a b : List Cond} {c : Cond} (ha : GoodIn big (c :: a)) (hb : GoodIn big b) : GoodIn big (c :: (a ++ b)) := fun w h => (List.mem_cons.mp h).elim (fun e => ha w (List.mem_cons.mpr (Or.inl e))) (fun h => (List.mem_append.mp h).elim (fun h => ha w (List.mem_cons.mpr (Or.inr h))) (hb w))
theorem goodIn_sub {big ws : List Cond} (hm : ∀ w ∈ ws, w ∈ big) (h : ws.all goodWord = true) : GoodIn big ws := fun w hw => ⟨hm w hw, good_of_word (List.all_eq_true.mp h w hw)⟩
/-! ===== END ===== -/

/-! ===== BEGIN exceptions that leave a method, and their catching by the caller (launches without stack traces) ===== -/
section VXA
/-! The laws vx_back, vx_callV, vx_callS, vx_callSW, vx_throw0, vx_throwS follow proofs of the library, with one case more: JvmDerived/Free/Laws.lean (Back.of_free), Shelf42/LK1.lean (callV, callS), Shelf/KitTraced.lean (throwNew0V, throwNewS). -/
/-- where a method has thrown q: the class by its name, the cell, what was written, the world -/
def vx_T (XC : String → State → State → Prop) (st : State) (q : Addr) (t : State) (mc ms : Nat) (free : Addr → Prop) : Prop :=
  ∃ (E : String) (ce : Cell) (L : List Loc), XC E st t ∧ t.heap[q]? = some ce ∧ ce.vm = .none ∧ st.vm.findClass E = some ce.cls ∧ st.WarmedH t.vm ∧ st.sameButNew ({ t with vm := st.vm } : State) L mc ms ∧ ∀ z ∈ L, free z.base
def vx_Q (Qc : Array Value → State → Outcome → State → Prop) (XC : String → State → State → Prop) (mc ms : Nat) (free : Addr → Prop) : Array Value → State → Outcome → State → Prop := fun a st o t =>
  (Qc a st o t ∧ ∃ L, FrameEnd st o t L mc ms ∧ ∀ q ∈ L, free q.base) ∨ ∃ q, o = .threw q ∧ vx_T XC st q t mc ms free
/-- a callee that returns or throws -/
def vx_Met (l : Launch) (y : MethodName) (ws : List Cond) (rm : Room) (Pc : Array Value → State → Prop) (Qc : Array Value → State → Outcome → State → Prop) (XC : String → State → State → Prop) (mc ms : Nat) (free : Addr → Prop) : Prop :=
  MetFree l y (headSpec ws rm) Pc (fun _ _ _ _ _ => True) (vx_Q Qc XC mc ms free)
def vx_Post (XC : String → State → State → Prop) (mc ms : Nat) (free : Addr → Prop) : Pt → Array Value → Addr → Pt → Prop := fun A a q B =>
  ∃ (g : JFrame) (mk : MethodId) (t : State) (L : List Loc) (E : String) (ce : Cell), B.U.heap = t.heap ∧ B.U.vm = t.vm ∧ XC E (A.U.calling g mk a) t ∧ t.heap[q]? = some ce ∧ ce.vm = .none ∧ A.U.vm.findClass E = some ce.cls ∧ B.locs = A.locs ++ L ∧ (∀ z ∈ L, free z.base) ∧ B.cells = A.cells + mc ∧ B.slots = A.slots + ms
def vx_Back (l : Launch) (R : Room) (p : Program) (e : Env) (below : List Frame) (s : State) (sargs : Array Value) (y : MethodName) (len W9 : Nat)
    (Pre : Pt → Array Value → Prop) (Post : Pt → Array Value → Option Value → Pt → Prop) (PostX : Pt → Array Value → Addr → Pt → Prop) : Prop :=
  ∀ (m : MethodId) (meth : Method) (c : Code) (A : Pt) (g : JFrame) (ig : Instr) (mk : MethodId) (a : Array Value),
    Stand p l e R s m sargs below meth c A.U A.locs A.cells A.slots → g.method = m → g.locals.size = c.maxLocals → decode c.code g.pc = .ok (ig, len) →
    2 * g.monitorRoom + (g.stack.map fun v => v.category).sum ≤ W9 → A.U.methodNamed? y = some mk → Pre A a →
    (∃ (v : Option Value) (B : Pt), Stand p l e R s m sargs below meth c B.U B.locs B.cells B.slots ∧ Post A a v B ∧
      Steps p.tables e below (doInvoke e (A.U.setTop g) [] mk a).1 (B.U.setTop { g with pc := g.pc + len, stack := v.toList ++ g.stack })) ∨
    (∃ (q : Addr) (B : Pt), Stand p l e R s m sargs below meth c B.U B.locs B.cells B.slots ∧ PostX A a q B ∧
      Steps p.tables e below (doInvoke e (A.U.setTop g) [] mk a).1 ((B.U.setTop g).pushFrame (.throwing q)))
section Payer
variable {l : Launch} {R : Room} {p : Program} {e : Env} {below : List Frame} {s : State} {sargs : Array Value} {y : MethodName} {len W9 : Nat}
theorem vx_back {ws : List Cond} {rm : Room} {Pc : Array Value → State → Prop} {Qc : Array Value → State → Outcome → State → Prop} {XC : String → State → State → Prop} {mc ms : Nat} {free : Addr → Prop} {bytes : ByteArray} {maxL : Nat} {ret : Option FieldType}
    (hM : vx_Met l y ws rm Pc Qc XC mc ms free) (hblind : FrameBlind Pc) (hrc : rm.cells = mc) (hrs : rm.slots = ms)
    (hframes : rm.frames + 1 ≤ R.frames) (hlocals : W9 + (maxL + 11) + rm.locals ≤ R.locals)
    (hws : ∀ w ∈ ws, ∀ a' U, s.WarmedH U.vm → w.before a' U = true) (hcode : Cond.code y bytes maxL ret ∈ ws) (hinit : ∀ a' U, s.WarmedH U.vm → (Cond.initialized y.cls).before a' U = true) :
    vx_Back l R p e below s sargs y len W9 (PreOf R mc ms Pc) (PostOf Qc mc ms free) (vx_Post XC mc ms free) := by
  intro m meth c A g ig mk a X hg hsize hdg hW hn hp
  have h1 : (headSpec ws rm).pre.before a A.U = true := atoms_intro fun w hw => hws w hw _ _ X.warmed
  have h2 : (Cond.code y bytes maxL ret).before a A.U = true := hws _ hcode _ _ X.warmed
  have h3 : (Cond.initialized y.cls).before a A.U = true := hinit _ _ X.warmed
  have h4 : A.cells + (headSpec ws rm).room.cells ≤ R.cells := by rw [show (headSpec ws rm).room.cells = mc from hrc]; exact hp.1
  have h5 : A.slots + (headSpec ws rm).room.slots ≤ R.slots := by rw [show (headSpec ws rm).room.slots = ms from hrs]; exact hp.2.1
  have hPc : Pc a (A.U.calling g mk a) := hblind _ _ _ _ hp.2.2
  obtain ⟨U, Ls, c0, s0⟩ := A
  dsimp only [Pt.U, Pt.locs, Pt.cells, Pt.slots] at h1 h2 h3 h4 h5 X hn hPc ⊢
  obtain ⟨methY, cY, hmY, hcY, -, hlY, -, -, -, -⟩ := Cond.code_spec hn h2
  obtain ⟨kY, hkY, -⟩ := className_of_methodNamed hn
  have hinitY : kY.init = .initialized := Cond.initialized_spec (findClass_of_methodNamed hn) hkY h3
  have h : At U g.method c below := by rw [hg]; exact X.here
  have hlocals9 : W9 + (maxL + 11) + (headSpec ws rm).room.locals ≤ R.locals := hlocals
  have happ : (headSpec ws rm).appliesLoose y e.platform (U.calling g mk a) = true :=
    Spec.appliesLoose_calling (g := g) h hdg hn hkY hinitY
      (X.room_calling (g := g) (R' := (headSpec ws rm).room) hsize hmY hcY hframes (by rw [hlY]; omega) h4 h5) h1
  obtain ⟨mid, hmid⟩ := h.above
  have hfr : (U.setTop g).frames = (.java g :: mid) ++ below := by rw [State.frames_setTop' g h.top, hmid]; rfl
  obtain ⟨o, s₂, hsteps, -, hend, hq⟩ := Steps.callFree hM p X.admits X.cas X.clock (acts := []) hfr happ hPc trivial
  have hq' : vx_Q Qc XC mc ms free a (U.calling g mk a) o s₂ := hq
  rw [State.frames_setTop' g h.top] at hend
  obtain ⟨g₀, hg0⟩ := Option.isSome_iff_exists.mp h.top
  obtain ⟨r, hr⟩ := State.topJava?_eq_some.mp hg0
  have hr' : (({ U with heap := s₂.heap, slotsUsed := s₂.slotsUsed } : State).setVm s₂.vm).frames = .java g₀ :: r := hr
  rcases hq' with ⟨hqc, L, hfe, hL⟩ | ⟨q, rfl, E, ce, L, hx, hce, hcv, hcl, hW₂, hsm, hL⟩
  · obtain ⟨⟨v, rfl⟩, hW₂, e2, q2, q3, q4, q5, q6⟩ := id hfe
    have e3 : s₂ = ({ (U.calling g mk a).setFrames s₂.frames with heap := s₂.heap, slotsUsed := s₂.slotsUsed } : State).setVm s₂.vm := by
      have : s₂ = ({ s₂ with vm := (U.calling g mk a).vm } : State).setVm s₂.vm := rfl
      rw [e2] at this
      exact this
    obtain ⟨c₂, i₂, len₂, hc₂, hd₂, hf₂⟩ := hend
    have hW' : U.WarmedH s₂.vm := hW₂
    have hcc : c₂ = c := by
      have h1 : s₂.code? g.method = U.code? g.method := by
        rw [State.code?_eq, State.code?_eq, hW'.alike.method?]
      exact Option.some.inj (hc₂.symm.trans (h1.trans h.code))
    subst hcc
    have hlen : len₂ = len := by rw [hdg] at hd₂; cases hd₂; rfl
    subst hlen
    have hs₂ : s₂ = (({ U with heap := s₂.heap, slotsUsed := s₂.slotsUsed } : State).setVm s₂.vm).setTop { g with pc := g.pc + len₂, stack := v.toList ++ g.stack } := by
      refine e3.trans ?_
      rw [hf₂, State.calling_eq h.top, State.setFrames_setFrames, State.setTop_of_frames _ hr', hr]
      rfl
    have hsame : U.sameButNew ({ U with heap := s₂.heap, slotsUsed := s₂.slotsUsed } : State) L mc ms := by
      refine ⟨?_, q2, q3, q4, q5, q6⟩
      obtain ⟨t, ht, -⟩ := State.frames_cons hr
      show ({ U with heap := s₂.heap, slotsUsed := s₂.slotsUsed } : State) = { U.setFrames U.frames with heap := s₂.heap, slotsUsed := s₂.slotsUsed }
      rw [State.setFrames_self ht]
    subst hg
    refine Or.inl ⟨v, ⟨(({ U with heap := s₂.heap, slotsUsed := s₂.slotsUsed } : State).setVm s₂.vm), Ls ++ L, c0 + mc, s0 + ms⟩,
      ⟨X.admits, X.cas, X.clock, X.frames, X.room, X.hears, X.method, X.code, (X.here.setHeapUsed s₂.heap s₂.slotsUsed).setVm hW'.alike, X.tail, State.WarmedH.trans X.warmed hW', X.limits, X.bytes, X.same.trans (hsame.setVm s.vm)⟩,
      ⟨g, mk, s₂, L, rfl, rfl, hqc, rfl, hL, rfl, rfl⟩, ?_⟩
    show Steps p.tables e below _ ((({ U with heap := s₂.heap, slotsUsed := s₂.slotsUsed } : State).setVm s₂.vm).setTop { g with pc := g.pc + len₂, stack := v.toList ++ g.stack })
    rw [← hs₂]
    exact hsteps
  · obtain ⟨e2, q2, q3, q4, q5, q6⟩ := id hsm
    have e3 : s₂ = ({ (U.calling g mk a).setFrames s₂.frames with heap := s₂.heap, slotsUsed := s₂.slotsUsed } : State).setVm s₂.vm := by
      have : s₂ = ({ s₂ with vm := (U.calling g mk a).vm } : State).setVm s₂.vm := rfl
      rw [e2] at this
      exact this
    have hf₂ : s₂.frames = .throwing q :: .java g :: U.frames.tail := hend
    have hW' : U.WarmedH s₂.vm := hW₂
    have hs₂ : s₂ = ((({ U with heap := s₂.heap, slotsUsed := s₂.slotsUsed } : State).setVm s₂.vm).setTop g).pushFrame (.throwing q) := by
      refine e3.trans ?_
      rw [hf₂, State.calling_eq h.top, State.setFrames_setFrames, State.pushFrame, State.frames_setTop _ hr', State.setTop_of_frames _ hr', State.setFrames_setFrames, hr]
      rfl
    have hsame : U.sameButNew ({ U with heap := s₂.heap, slotsUsed := s₂.slotsUsed } : State) L mc ms := by
      refine ⟨?_, q2, q3, q4, q5, q6⟩
      obtain ⟨t, ht, -⟩ := State.frames_cons hr
      show ({ U with heap := s₂.heap, slotsUsed := s₂.slotsUsed } : State) = { U.setFrames U.frames with heap := s₂.heap, slotsUsed := s₂.slotsUsed }
      rw [State.setFrames_self ht]
    subst hg
    refine Or.inr ⟨q, ⟨(({ U with heap := s₂.heap, slotsUsed := s₂.slotsUsed } : State).setVm s₂.vm), Ls ++ L, c0 + mc, s0 + ms⟩,
      ⟨X.admits, X.cas, X.clock, X.frames, X.room, X.hears, X.method, X.code, (X.here.setHeapUsed s₂.heap s₂.slotsUsed).setVm hW'.alike, X.tail, State.WarmedH.trans X.warmed hW', X.limits, X.bytes, X.same.trans (hsame.setVm s.vm)⟩,
      ⟨g, mk, s₂, L, E, ce, rfl, rfl, hx, hce, hcv, hcl, rfl, hL, rfl, rfl⟩, ?_⟩
    show Steps p.tables e below _ (((({ U with heap := s₂.heap, slotsUsed := s₂.slotsUsed } : State).setVm s₂.vm).setTop g).pushFrame (.throwing q))
    rw [← hs₂]
    exact hsteps
end Payer
section Calls
variable {p : Program} {l : Launch} {e : Env} {R : Room} {s : State} {m : MethodId} {args : Array Value} {below : List Frame} {meth : Method} {c : Code} {T : State} {locs : List Loc} {cells slots : Nat}
theorem vx_callV (X : Stand p l e R s m args below meth c T locs cells slots) (hexec : p.tables.exec = Jvm.exec) {own C : String} {index : Nat} {y : MethodName} {bytes : ByteArray} {maxL : Nat} {ret : Option FieldType}
    (hown : s.vm.findClass own = some m.cls) (hlink : (Cond.methodLink own index y).before args s = true) (hinst : (Cond.instanceMethod y).before args s = true) (hsel : (Cond.selects C y y).before args s = true)
    (hcode : (Cond.code y bytes maxL ret).before args s = true) (hy : y.cls ≠ "java/lang/invoke/MethodHandle" ∧ y.cls ≠ "java/lang/invoke/VarHandle")
    {W9 : Nat} {Pre : Pt → Array Value → Prop} {Post : Pt → Array Value → Option Value → Pt → Prop} {PostX : Pt → Array Value → Addr → Pt → Prop} (hK : vx_Back l R p e below s args y 3 W9 Pre Post PostX)
    {b : Addr} {cellB : Cell} (hcell : T.heap[b]? = some cellB) (hobj : cellB.vm.isStatics = false) (hcls : s.vm.findClass C = some cellB.cls)
    {g : JFrame} (hg : g.method = m) (hsize : g.locals.size = c.maxLocals) {argsL rest : List Value} (hlen : ∀ sig, parseMethodDescriptor y.desc = some sig → argsL.length = sig.parameters.length)
    (hstack : g.stack = argsL.reverse ++ .ref b :: rest) (hW : 2 * g.monitorRoom + (rest.map fun v => v.category).sum ≤ W9) (hdg : decode c.code g.pc = .ok (.invokevirtual index, 3))
    (hpre : ∀ vm₁, s.WarmedH vm₁ → Pre ⟨T.setVm vm₁, locs, cells, slots⟩ (Value.ref b :: argsL).toArray) :
    (∃ (v : Option Value) (vm₁ : Vm) (B : Pt), s.WarmedH vm₁ ∧ Stand p l e R s m args below meth c B.U B.locs B.cells B.slots ∧ Post ⟨T.setVm vm₁, locs, cells, slots⟩ (Value.ref b :: argsL).toArray v B ∧
      ∀ target, Steps p.tables e below (B.U.setTop { g with pc := g.pc + 3, stack := v.toList ++ rest }) target → Steps p.tables e below (T.setTop g) target) ∨
    (∃ (q : Addr) (vm₁ : Vm) (B : Pt), s.WarmedH vm₁ ∧ Stand p l e R s m args below meth c B.U B.locs B.cells B.slots ∧ PostX ⟨T.setVm vm₁, locs, cells, slots⟩ (Value.ref b :: argsL).toArray q B ∧
      Steps p.tables e below (T.setTop g) ((B.U.setTop { g with stack := rest }).pushFrame (.throwing q))) := by
  obtain ⟨mk, methM, hnamed, hmethM, hstM, habM⟩ := Cond.instanceMethod_spec hinst
  obtain ⟨methM', cM, hmethM', -, -, -, -, -, -, hsigM⟩ := Cond.code_spec hnamed hcode
  cases hmethM.symm.trans hmethM'
  obtain ⟨c2, r2, m2, q1, q2, q3, q4, kP, hkP, hkPi⟩ := Cond.selects_spec hsel
  cases hcls.symm.trans q1
  cases (State.methodFound?_of_named hnamed hy).symm.trans q2
  cases hnamed.symm.trans q3
  have hselP : selectMethod e.platform s.vm cellB.cls mk = .method mk := by rw [Launch.admits_selectMethod X.admits]; exact q4
  obtain ⟨vm₁, X₁, hstep₁⟩ := X.invokevirtual hexec hown hlink hnamed hmethM hstM hkP hkPi hy (a := b) (cell := cellB) hcell
    (fun z h => by rw [h] at hobj; cases hobj) hselP hmethM habM hkP hkPi (g := g) hg (argsL := argsL) (rest := rest) (hlen _ hsigM) hstack hdg
  rcases hK m meth c ⟨T.setVm vm₁, locs, cells, slots⟩ { g with stack := rest } (.invokevirtual index) mk (Value.ref b :: argsL).toArray X₁ hg hsize hdg hW (X₁.named hnamed) (hpre vm₁ X₁.warmed) with ⟨v, B, X', hpost, hsteps⟩ | ⟨q, B, X', hpost, hsteps⟩
  · exact Or.inl ⟨v, vm₁, B, X₁.warmed, X', hpost, fun target h => hstep₁ _ fun acts => by rw [doInvoke_state]; exact hsteps.trans h⟩
  · exact Or.inr ⟨q, vm₁, B, X₁.warmed, X', hpost, hstep₁ _ fun acts => by rw [doInvoke_state]; exact hsteps⟩
theorem vx_callS (X : Stand p l e R s m args below meth c T locs cells slots) (hexec : p.tables.exec = Jvm.exec) {own : String} {index : Nat} {y : MethodName} {bytes : ByteArray} {maxL : Nat} {ret : Option FieldType}
    (hown : s.vm.findClass own = some m.cls) (hlink : (Cond.methodLink own index y).before args s = true) (hstat : (Cond.static y).before args s = true) (hinit : (Cond.initialized y.cls).before args s = true)
    (hcode : (Cond.code y bytes maxL ret).before args s = true) (hy : y.cls ≠ "java/lang/invoke/MethodHandle" ∧ y.cls ≠ "java/lang/invoke/VarHandle")
    {W9 : Nat} {Pre : Pt → Array Value → Prop} {Post : Pt → Array Value → Option Value → Pt → Prop} {PostX : Pt → Array Value → Addr → Pt → Prop} (hK : vx_Back l R p e below s args y 3 W9 Pre Post PostX)
    {g : JFrame} (hg : g.method = m) (hsize : g.locals.size = c.maxLocals) {argsL rest : List Value} (hlen : ∀ sig, parseMethodDescriptor y.desc = some sig → argsL.length = sig.parameters.length)
    (hstack : g.stack = argsL.reverse ++ rest) (hW : 2 * g.monitorRoom + (rest.map fun v => v.category).sum ≤ W9) (hdg : decode c.code g.pc = .ok (.invokestatic index, 3))
    (hpre : ∀ vm₁, s.WarmedH vm₁ → Pre ⟨T.setVm vm₁, locs, cells, slots⟩ argsL.toArray) :
    (∃ (v : Option Value) (vm₁ : Vm) (B : Pt), s.WarmedH vm₁ ∧ Stand p l e R s m args below meth c B.U B.locs B.cells B.slots ∧ Post ⟨T.setVm vm₁, locs, cells, slots⟩ argsL.toArray v B ∧
      ∀ target, Steps p.tables e below (B.U.setTop { g with pc := g.pc + 3, stack := v.toList ++ rest }) target → Steps p.tables e below (T.setTop g) target) ∨
    (∃ (q : Addr) (vm₁ : Vm) (B : Pt), s.WarmedH vm₁ ∧ Stand p l e R s m args below meth c B.U B.locs B.cells B.slots ∧ PostX ⟨T.setVm vm₁, locs, cells, slots⟩ argsL.toArray q B ∧
      Steps p.tables e below (T.setTop g) ((B.U.setTop { g with stack := rest }).pushFrame (.throwing q))) := by
  obtain ⟨mk, hnamed⟩ := Cond.code_named hcode
  obtain ⟨methM, cM, hmethM, -, -, -, -, -, -, hsigM⟩ := Cond.code_spec hnamed hcode
  have hstatic : methM.isStatic = true := Cond.static_spec hnamed hmethM hstat
  obtain ⟨kP, hkP, -⟩ := className_of_methodNamed hnamed
  have hinitP : kP.init = .initialized := Cond.initialized_spec (findClass_of_methodNamed hnamed) hkP hinit
  obtain ⟨vm₁, X₁, hstep₁⟩ := X.invokestatic hexec hown hlink hnamed hmethM hstatic hkP hinitP hy (g := g) hg (argsL := argsL) (rest := rest) (hlen _ hsigM) hstack hdg
  rcases hK m meth c ⟨T.setVm vm₁, locs, cells, slots⟩ { g with stack := rest } (.invokestatic index) mk argsL.toArray X₁ hg hsize hdg hW (X₁.named hnamed) (hpre vm₁ X₁.warmed) with ⟨v, B, X', hpost, hsteps⟩ | ⟨q, B, X', hpost, hsteps⟩
  · exact Or.inl ⟨v, vm₁, B, X₁.warmed, X', hpost, fun target h => hstep₁ _ fun acts => by rw [doInvoke_state]; exact hsteps.trans h⟩
  · exact Or.inr ⟨q, vm₁, B, X₁.warmed, X', hpost, hstep₁ _ fun acts => by rw [doInvoke_state]; exact hsteps⟩
end Calls
theorem vx_cls {s : State} {T : State} {vm₁ : Vm} {E : String} {k : ClassId} (hW : s.WarmedH vm₁) (h : (T.setVm vm₁).vm.findClass E = some k) : s.vm.findClass E = some k := by
  have h1 : vm₁.findClass E = some k := h
  rw [hW.alike.findClass] at h1
  exact h1
/-- the method's frame g, with q thrown over it -/
def vx_W (p : Program) (l : Launch) (e : Env) (R : Room) (s : State) (m : MethodId) (args : Array Value) (below : List Frame) (meth : Method) (c : Code) (H : Heap) (locs : List Loc) (cells slots : Nat) (Q : State → Prop) (g : JFrame) (q : Addr) : Prop :=
  ∀ T : State, T.heap = H → Stand p l e R s m args below meth c T locs cells slots → ∃ t, Steps p.tables e below ((T.setTop g).pushFrame (.throwing q)) t ∧ Q t
def vx_Run (p : Program) (l : Launch) (e : Env) (R : Room) (s : State) (m : MethodId) (args : Array Value) (below : List Frame) (meth : Method) (c : Code) (H : Heap) (locs : List Loc) (cells slots mc ms : Nat) (g : JFrame) (rest : List Value) (Qa : State → Outcome → State → Prop) (XC : String → State → State → Prop) (free : Addr → Prop) : Prop :=
  ∀ T : State, T.heap = H → Stand p l e R s m args below meth c T locs cells slots →
    (∃ (v : Option Value) (st₀ t T' : State) (L : List Loc), st₀.heap = H ∧ Stand p l e R s m args below meth c T' (locs ++ L) (cells + mc) (slots + ms) ∧ (∀ q ∈ L, free q.base) ∧ T'.heap = t.heap ∧ T'.vm = t.vm ∧ Qa st₀ (.returned v) t ∧
      Goes p e below T g T' { g with pc := g.pc + 3, stack := v.toList ++ rest }) ∨
    (∃ (q : Addr) (st₀ t T' : State) (L : List Loc) (E : String) (ce : Cell), st₀.heap = H ∧ Stand p l e R s m args below meth c T' (locs ++ L) (cells + mc) (slots + ms) ∧ (∀ z ∈ L, free z.base) ∧ T'.heap = t.heap ∧ T'.vm = t.vm ∧ XC E st₀ t ∧ t.heap[q]? = some ce ∧ ce.vm = .none ∧ s.vm.findClass E = some ce.cls ∧
      Steps p.tables e below (T.setTop g) ((T'.setTop { g with stack := rest }).pushFrame (.throwing q)))
def vx_X {S : Type} (px : S → Prop) (B : String → S → State → Prop) (A : Nat → Prop) : String → State → State → Prop := fun E st t => ∃ u : S, px u ∧ B E u t ∧ va_F A st t
section Runs
variable {p : Program} {l : Launch} {e : Env} {R : Room} {s : State} {m : MethodId} {args : Array Value} {below : List Frame} {meth : Method} {c : Code} {H : Heap} {locs : List Loc} {cells slots : Nat}
variable {y : MethodName} {bytes cc : ByteArray} {maxL nL mc ms n index : Nat} {ret : Option FieldType} {ws : List Cond} {rm : Room} {Pc : Array Value → State → Prop} {Qc : Array Value → State → Outcome → State → Prop} {XC : String → State → State → Prop} {free : Addr → Prop} {Ts : List Cond} {own C : String} {b : Addr} {As rest : List Value} {g : JFrame}
theorem vx_callBack (cb : CallB R s args own index y bytes maxL ret ws rm mc ms n) (hM : vx_Met l y ws rm Pc Qc XC mc ms free) (hbl : FrameBlind Pc) : vx_Back l R p e below s args y 3 8 (PreOf R mc ms Pc) (PostOf Qc mc ms free) (vx_Post XC mc ms free) := by
  obtain ⟨hrc, hrs, hfr, hlo, hws, hcw, -, hini, -⟩ := cb
  exact vx_back (bytes := bytes) (maxL := maxL) (ret := ret) hM hbl hrc hrs hfr hlo hws hcw (fun a' U hW => word_at hW (Or.inl (by first | rfl | simp [Cond.onTables, Cond.keeps, Cond.steady])) hini)
theorem vx_runV (S : CallFix p m c cc nL s args Ts own) (hM : vx_Met l y ws rm Pc Qc XC mc ms free) (cw : CallW R s args own C index y bytes maxL ret ws rm mc ms n) (hp : PreV s H C b Pc As)
    (hg : g.method = m) (hn : As.length = n) (hsize : g.locals.size = nL) (hstack : g.stack = As.reverse ++ .ref b :: rest) (hW : 2 * g.monitorRoom + (rest.map fun v => v.category).sum ≤ 8) (hdg : decode cc g.pc = .ok (.invokevirtual index, 3)) (hf : cells + mc ≤ R.cells ∧ slots + ms ≤ R.slots) :
    vx_Run p l e R s m args below meth c H locs cells slots mc ms g rest (Qc (Value.ref b :: As).toArray) XC free := by
  have hK : vx_Back l R p e below s args y 3 8 (PreOf R mc ms Pc) (PostOf Qc mc ms free) (vx_Post XC mc ms free) := vx_callBack cw.1 hM hp.1
  obtain ⟨⟨-, -, -, -, -, -, hcode, -, hy, hlen, hl⟩, hin, hse⟩ := cw
  obtain ⟨hx, hb, hml, ho, -⟩ := S
  obtain ⟨-, ⟨cellB, hcB, hoB, hclB⟩, hPc⟩ := hp
  intro T hT X
  rcases vx_callV X hx (C := C) (bytes := bytes) (maxL := maxL) (ret := ret) ho hl hin hse hcode hy hK (by rw [hT]; exact hcB) hoB hclB hg (hsize.trans hml.symm) (argsL := As) (rest := rest) (fun sig h => hn.trans (hlen sig h)) hstack hW (by rw [hb]; exact hdg)
    (fun vm₁ hW₁ => ⟨hf.1, hf.2, hPc (T.setVm vm₁) hT hW₁⟩) with ⟨v, vm₁, ⟨U', l2, c2, s2⟩, hW₁, X', ⟨g', mk, t, L, e1, e2, hq, h1, hL, h2, h3⟩, st⟩ | ⟨q, vm₁, ⟨U', l2, c2, s2⟩, hW₁, X', ⟨g', mk, t, L, E, ce, e1, e2, hq, hce, hcv, hcl, h1, hL, h2, h3⟩, st⟩
  · dsimp only [Pt.U, Pt.locs, Pt.cells, Pt.slots] at X' e1 e2 h1 h2 h3 st
    subst h1; subst h2; subst h3
    exact Or.inl ⟨v, (T.setVm vm₁).calling g' mk (Value.ref b :: As).toArray, t, U', L, hT, X', hL, e1, e2, hq, st⟩
  · dsimp only [Pt.U, Pt.locs, Pt.cells, Pt.slots] at X' e1 e2 h1 h2 h3 st hcl
    subst h1; subst h2; subst h3
    exact Or.inr ⟨q, (T.setVm vm₁).calling g' mk (Value.ref b :: As).toArray, t, U', L, E, ce, hT, X', hL, e1, e2, hq, hce, hcv, vx_cls hW₁ hcl, st⟩
theorem vx_runS (S : CallFix p m c cc nL s args Ts own) (hM : vx_Met l y ws rm Pc Qc XC mc ms free) (cw : CallB R s args own index y bytes maxL ret ws rm mc ms n ∧ (Cond.static y).before args s = true) (hp : PreS s H Pc As)
    (hg : g.method = m) (hn : As.length = n) (hsize : g.locals.size = nL) (hstack : g.stack = As.reverse ++ rest) (hW : 2 * g.monitorRoom + (rest.map fun v => v.category).sum ≤ 8) (hdg : decode cc g.pc = .ok (.invokestatic index, 3)) (hf : cells + mc ≤ R.cells ∧ slots + ms ≤ R.slots) :
    vx_Run p l e R s m args below meth c H locs cells slots mc ms g rest (Qc As.toArray) XC free := by
  have hK : vx_Back l R p e below s args y 3 8 (PreOf R mc ms Pc) (PostOf Qc mc ms free) (vx_Post XC mc ms free) := vx_callBack cw.1 hM hp.1
  obtain ⟨⟨-, -, -, -, -, -, hcode, hini, hy, hlen, hl⟩, hstt⟩ := cw
  obtain ⟨hx, hb, hml, ho, -⟩ := S
  intro T hT X
  rcases vx_callS X hx (bytes := bytes) (maxL := maxL) (ret := ret) ho hl hstt hini hcode hy hK hg (hsize.trans hml.symm) (argsL := As) (rest := rest) (fun sig h => hn.trans (hlen sig h)) hstack hW (by rw [hb]; exact hdg)
    (fun vm₁ hW₁ => ⟨hf.1, hf.2, hp.2 (T.setVm vm₁) hT hW₁⟩) with ⟨v, vm₁, ⟨U', l2, c2, s2⟩, hW₁, X', ⟨g', mk, t, L, e1, e2, hq, h1, hL, h2, h3⟩, st⟩ | ⟨q, vm₁, ⟨U', l2, c2, s2⟩, hW₁, X', ⟨g', mk, t, L, E, ce, e1, e2, hq, hce, hcv, hcl, h1, hL, h2, h3⟩, st⟩
  · dsimp only [Pt.U, Pt.locs, Pt.cells, Pt.slots] at X' e1 e2 h1 h2 h3 st
    subst h1; subst h2; subst h3
    exact Or.inl ⟨v, (T.setVm vm₁).calling g' mk As.toArray, t, U', L, hT, X', hL, e1, e2, hq, st⟩
  · dsimp only [Pt.U, Pt.locs, Pt.cells, Pt.slots] at X' e1 e2 h1 h2 h3 st hcl
    subst h1; subst h2; subst h3
    exact Or.inr ⟨q, (T.setVm vm₁).calling g' mk As.toArray, t, U', L, E, ce, hT, X', hL, e1, e2, hq, hce, hcv, vx_cls hW₁ hcl, st⟩
end Runs
section Rows
variable {p : Program} {l : Launch} {e : Env} {R : Room} {s : State} {m : MethodId} {args : Array Value} {below : List Frame} {meth : Method} {c : Code} {H : Heap} {locs : List Loc} {cells slots : Nat} {Q : State → Prop}
variable {mc ms : Nat} {free : Addr → Prop} {A0 A1 : Nat → Prop} {H0 : Heap} {a : Array Value} {pc : Nat} {ls : Array Slot} {st0 rest : List Value}
theorem vx_keep {st₀ t T' : State} {L : List Loc} (h0 : st₀.heap = H) (e1 : T'.heap = t.heap) (hS : va_S A0 H0 H locs) (hA : ∀ q, q < H.size → A1 q → A0 q) (hf : ∀ q, free q → A0 q) (hL : ∀ q ∈ L, free q.base) (hF : va_F A1 st₀ t) :
    H.size ≤ T'.heap.size ∧ (∀ q : Nat, q < H.size → ¬ A1 q → T'.heap[q]? = H[q]?) ∧ va_S A0 H0 T'.heap (locs ++ L) := by
  obtain ⟨hz, hk⟩ := hF
  rw [h0] at hz hk
  exact ⟨by rw [e1]; exact hz, fun q h1 h2 => by rw [e1]; exact hk q h1 h2,
    ⟨Nat.le_trans hS.1 (by rw [e1]; exact hz), fun q h1 h2 => by rw [e1, hk q (Nat.lt_of_lt_of_le h1 hS.1) (fun z => h2 (hA q (Nat.lt_of_lt_of_le h1 hS.1) z))]; exact hS.2.1 q h1 h2, fun q hq => by
      rcases List.mem_append.mp hq with h | h
      · exact hS.2.2 q h
      · exact hf _ (hL q h)⟩⟩
theorem vx_calli {S SX : Type} {post : Int32 → S → Prop} {px : SX → Prop} {B : S → State → Prop} {BX : String → SX → State → Prop} {AX : Nat → Prop} (hr : vx_Run p l e R s m args below meth c H locs cells slots mc ms (F0 m pc ls st0) rest (va_Qi post B A1 a) (vx_X px BX AX) free) (hS : va_S A0 H0 H locs) (hA : ∀ q, q < H.size → A1 q → A0 q) (hf : ∀ q, free q → A0 q) (hAX : ∀ q, q < H.size → AX q → A0 q)
    (kx : ∀ (E : String) (ce : Cell) (q9 : Addr) (u : SX) (t : State) (H1 : Heap) (locs1 : List Loc), t.heap = H1 → s.vm.Alike t.vm → px u → BX E u t → H.size ≤ H1.size → (∀ q : Nat, q < H.size → ¬ AX q → H1[q]? = H[q]?) → va_S A0 H0 H1 locs1 → H1[q9]? = some ce → ce.vm = .none → s.vm.findClass E = some ce.cls → vx_W p l e R s m args below meth c H1 locs1 (cells + mc) (slots + ms) Q (F0 m pc ls rest) q9)
    (kk : ∀ (r : Int32) (u : S) (t : State) (H1 : Heap) (locs1 : List Loc), t.heap = H1 → s.vm.Alike t.vm → post r u → B u t → H.size ≤ H1.size → (∀ q : Nat, q < H.size → ¬ A1 q → H1[q]? = H[q]?) → va_S A0 H0 H1 locs1 → W p l e R s m args below meth c H1 locs1 (cells + mc) (slots + ms) Q (F0 m (pc + 3) ls (.int r :: rest))) : W p l e R s m args below meth c H locs cells slots Q (F0 m pc ls st0) := by
  intro T hT X
  rcases hr T hT X with ⟨v, st₀, t, T', L, h0, X', hL, e1, e2, ⟨⟨r, u, hv, hp, hb⟩, hF⟩, st⟩ | ⟨q, st₀, t, T', L, E, ce, h0, X', hL, e1, e2, ⟨u, hp, hb, hF⟩, hce, hcv, hcl, st⟩
  · cases hv
    obtain ⟨k1, k2, k3⟩ := vx_keep h0 e1 hS hA hf hL hF
    obtain ⟨t2, a1, b1⟩ := kk r u t T'.heap (locs ++ L) e1.symm (by rw [← e2]; exact X'.warmed.alike) hp hb k1 k2 k3 T' rfl X'
    exact ⟨t2, st t2 a1, b1⟩
  · obtain ⟨k1, k2, k3⟩ := vx_keep h0 e1 hS hAX hf hL hF
    obtain ⟨t2, a1, b1⟩ := kx E ce q u t T'.heap (locs ++ L) e1.symm (by rw [← e2]; exact X'.warmed.alike) hp hb k1 k2 k3 (by rw [e1]; exact hce) hcv hcl T' rfl X'
    exact ⟨t2, st.trans a1, b1⟩
theorem vx_calll {S SX : Type} {post : Int64 → S → Prop} {px : SX → Prop} {B : S → State → Prop} {BX : String → SX → State → Prop} {AX : Nat → Prop} (hr : vx_Run p l e R s m args below meth c H locs cells slots mc ms (F0 m pc ls st0) rest (va_Ql post B A1 a) (vx_X px BX AX) free) (hS : va_S A0 H0 H locs) (hA : ∀ q, q < H.size → A1 q → A0 q) (hf : ∀ q, free q → A0 q) (hAX : ∀ q, q < H.size → AX q → A0 q)
    (kx : ∀ (E : String) (ce : Cell) (q9 : Addr) (u : SX) (t : State) (H1 : Heap) (locs1 : List Loc), t.heap = H1 → s.vm.Alike t.vm → px u → BX E u t → H.size ≤ H1.size → (∀ q : Nat, q < H.size → ¬ AX q → H1[q]? = H[q]?) → va_S A0 H0 H1 locs1 → H1[q9]? = some ce → ce.vm = .none → s.vm.findClass E = some ce.cls → vx_W p l e R s m args below meth c H1 locs1 (cells + mc) (slots + ms) Q (F0 m pc ls rest) q9)
    (kk : ∀ (r : Int64) (u : S) (t : State) (H1 : Heap) (locs1 : List Loc), t.heap = H1 → s.vm.Alike t.vm → post r u → B u t → H.size ≤ H1.size → (∀ q : Nat, q < H.size → ¬ A1 q → H1[q]? = H[q]?) → va_S A0 H0 H1 locs1 → W p l e R s m args below meth c H1 locs1 (cells + mc) (slots + ms) Q (F0 m (pc + 3) ls (.long r :: rest))) : W p l e R s m args below meth c H locs cells slots Q (F0 m pc ls st0) := by
  intro T hT X
  rcases hr T hT X with ⟨v, st₀, t, T', L, h0, X', hL, e1, e2, ⟨⟨r, u, hv, hp, hb⟩, hF⟩, st⟩ | ⟨q, st₀, t, T', L, E, ce, h0, X', hL, e1, e2, ⟨u, hp, hb, hF⟩, hce, hcv, hcl, st⟩
  · cases hv
    obtain ⟨k1, k2, k3⟩ := vx_keep h0 e1 hS hA hf hL hF
    obtain ⟨t2, a1, b1⟩ := kk r u t T'.heap (locs ++ L) e1.symm (by rw [← e2]; exact X'.warmed.alike) hp hb k1 k2 k3 T' rfl X'
    exact ⟨t2, st t2 a1, b1⟩
  · obtain ⟨k1, k2, k3⟩ := vx_keep h0 e1 hS hAX hf hL hF
    obtain ⟨t2, a1, b1⟩ := kx E ce q u t T'.heap (locs ++ L) e1.symm (by rw [← e2]; exact X'.warmed.alike) hp hb k1 k2 k3 (by rw [e1]; exact hce) hcv hcl T' rfl X'
    exact ⟨t2, st.trans a1, b1⟩
theorem vx_callf {S SX : Type} {post : UInt32 → S → Prop} {px : SX → Prop} {B : S → State → Prop} {BX : String → SX → State → Prop} {AX : Nat → Prop} (hr : vx_Run p l e R s m args below meth c H locs cells slots mc ms (F0 m pc ls st0) rest (va_Qf post B A1 a) (vx_X px BX AX) free) (hS : va_S A0 H0 H locs) (hA : ∀ q, q < H.size → A1 q → A0 q) (hf : ∀ q, free q → A0 q) (hAX : ∀ q, q < H.size → AX q → A0 q)
    (kx : ∀ (E : String) (ce : Cell) (q9 : Addr) (u : SX) (t : State) (H1 : Heap) (locs1 : List Loc), t.heap = H1 → s.vm.Alike t.vm → px u → BX E u t → H.size ≤ H1.size → (∀ q : Nat, q < H.size → ¬ AX q → H1[q]? = H[q]?) → va_S A0 H0 H1 locs1 → H1[q9]? = some ce → ce.vm = .none → s.vm.findClass E = some ce.cls → vx_W p l e R s m args below meth c H1 locs1 (cells + mc) (slots + ms) Q (F0 m pc ls rest) q9)
    (kk : ∀ (r : UInt32) (u : S) (t : State) (H1 : Heap) (locs1 : List Loc), t.heap = H1 → s.vm.Alike t.vm → post r u → B u t → H.size ≤ H1.size → (∀ q : Nat, q < H.size → ¬ A1 q → H1[q]? = H[q]?) → va_S A0 H0 H1 locs1 → W p l e R s m args below meth c H1 locs1 (cells + mc) (slots + ms) Q (F0 m (pc + 3) ls (.float r :: rest))) : W p l e R s m args below meth c H locs cells slots Q (F0 m pc ls st0) := by
  intro T hT X
  rcases hr T hT X with ⟨v, st₀, t, T', L, h0, X', hL, e1, e2, ⟨⟨r, u, hv, hp, hb⟩, hF⟩, st⟩ | ⟨q, st₀, t, T', L, E, ce, h0, X', hL, e1, e2, ⟨u, hp, hb, hF⟩, hce, hcv, hcl, st⟩
  · cases hv
    obtain ⟨k1, k2, k3⟩ := vx_keep h0 e1 hS hA hf hL hF
    obtain ⟨t2, a1, b1⟩ := kk r u t T'.heap (locs ++ L) e1.symm (by rw [← e2]; exact X'.warmed.alike) hp hb k1 k2 k3 T' rfl X'
    exact ⟨t2, st t2 a1, b1⟩
  · obtain ⟨k1, k2, k3⟩ := vx_keep h0 e1 hS hAX hf hL hF
    obtain ⟨t2, a1, b1⟩ := kx E ce q u t T'.heap (locs ++ L) e1.symm (by rw [← e2]; exact X'.warmed.alike) hp hb k1 k2 k3 (by rw [e1]; exact hce) hcv hcl T' rfl X'
    exact ⟨t2, st.trans a1, b1⟩
theorem vx_calld {S SX : Type} {post : UInt64 → S → Prop} {px : SX → Prop} {B : S → State → Prop} {BX : String → SX → State → Prop} {AX : Nat → Prop} (hr : vx_Run p l e R s m args below meth c H locs cells slots mc ms (F0 m pc ls st0) rest (va_Qd post B A1 a) (vx_X px BX AX) free) (hS : va_S A0 H0 H locs) (hA : ∀ q, q < H.size → A1 q → A0 q) (hf : ∀ q, free q → A0 q) (hAX : ∀ q, q < H.size → AX q → A0 q)
    (kx : ∀ (E : String) (ce : Cell) (q9 : Addr) (u : SX) (t : State) (H1 : Heap) (locs1 : List Loc), t.heap = H1 → s.vm.Alike t.vm → px u → BX E u t → H.size ≤ H1.size → (∀ q : Nat, q < H.size → ¬ AX q → H1[q]? = H[q]?) → va_S A0 H0 H1 locs1 → H1[q9]? = some ce → ce.vm = .none → s.vm.findClass E = some ce.cls → vx_W p l e R s m args below meth c H1 locs1 (cells + mc) (slots + ms) Q (F0 m pc ls rest) q9)
    (kk : ∀ (r : UInt64) (u : S) (t : State) (H1 : Heap) (locs1 : List Loc), t.heap = H1 → s.vm.Alike t.vm → post r u → B u t → H.size ≤ H1.size → (∀ q : Nat, q < H.size → ¬ A1 q → H1[q]? = H[q]?) → va_S A0 H0 H1 locs1 → W p l e R s m args below meth c H1 locs1 (cells + mc) (slots + ms) Q (F0 m (pc + 3) ls (.double r :: rest))) : W p l e R s m args below meth c H locs cells slots Q (F0 m pc ls st0) := by
  intro T hT X
  rcases hr T hT X with ⟨v, st₀, t, T', L, h0, X', hL, e1, e2, ⟨⟨r, u, hv, hp, hb⟩, hF⟩, st⟩ | ⟨q, st₀, t, T', L, E, ce, h0, X', hL, e1, e2, ⟨u, hp, hb, hF⟩, hce, hcv, hcl, st⟩
  · cases hv
    obtain ⟨k1, k2, k3⟩ := vx_keep h0 e1 hS hA hf hL hF
    obtain ⟨t2, a1, b1⟩ := kk r u t T'.heap (locs ++ L) e1.symm (by rw [← e2]; exact X'.warmed.alike) hp hb k1 k2 k3 T' rfl X'
    exact ⟨t2, st t2 a1, b1⟩
  · obtain ⟨k1, k2, k3⟩ := vx_keep h0 e1 hS hAX hf hL hF
    obtain ⟨t2, a1, b1⟩ := kx E ce q u t T'.heap (locs ++ L) e1.symm (by rw [← e2]; exact X'.warmed.alike) hp hb k1 k2 k3 (by rw [e1]; exact hce) hcv hcl T' rfl X'
    exact ⟨t2, st.trans a1, b1⟩
theorem vx_callv {S SX : Type} {post : S → Prop} {px : SX → Prop} {B : S → State → Prop} {BX : String → SX → State → Prop} {AX : Nat → Prop} (hr : vx_Run p l e R s m args below meth c H locs cells slots mc ms (F0 m pc ls st0) rest (va_Qv post B A1 a) (vx_X px BX AX) free) (hS : va_S A0 H0 H locs) (hA : ∀ q, q < H.size → A1 q → A0 q) (hf : ∀ q, free q → A0 q) (hAX : ∀ q, q < H.size → AX q → A0 q)
    (kx : ∀ (E : String) (ce : Cell) (q9 : Addr) (u : SX) (t : State) (H1 : Heap) (locs1 : List Loc), t.heap = H1 → s.vm.Alike t.vm → px u → BX E u t → H.size ≤ H1.size → (∀ q : Nat, q < H.size → ¬ AX q → H1[q]? = H[q]?) → va_S A0 H0 H1 locs1 → H1[q9]? = some ce → ce.vm = .none → s.vm.findClass E = some ce.cls → vx_W p l e R s m args below meth c H1 locs1 (cells + mc) (slots + ms) Q (F0 m pc ls rest) q9)
    (kk : ∀ (u : S) (t : State) (H1 : Heap) (locs1 : List Loc), t.heap = H1 → s.vm.Alike t.vm → post u → B u t → H.size ≤ H1.size → (∀ q : Nat, q < H.size → ¬ A1 q → H1[q]? = H[q]?) → va_S A0 H0 H1 locs1 → W p l e R s m args below meth c H1 locs1 (cells + mc) (slots + ms) Q (F0 m (pc + 3) ls (rest))) : W p l e R s m args below meth c H locs cells slots Q (F0 m pc ls st0) := by
  intro T hT X
  rcases hr T hT X with ⟨v, st₀, t, T', L, h0, X', hL, e1, e2, ⟨⟨u, hv, hp, hb⟩, hF⟩, st⟩ | ⟨q, st₀, t, T', L, E, ce, h0, X', hL, e1, e2, ⟨u, hp, hb, hF⟩, hce, hcv, hcl, st⟩
  · cases hv
    obtain ⟨k1, k2, k3⟩ := vx_keep h0 e1 hS hA hf hL hF
    obtain ⟨t2, a1, b1⟩ := kk u t T'.heap (locs ++ L) e1.symm (by rw [← e2]; exact X'.warmed.alike) hp hb k1 k2 k3 T' rfl X'
    exact ⟨t2, st t2 a1, b1⟩
  · obtain ⟨k1, k2, k3⟩ := vx_keep h0 e1 hS hAX hf hL hF
    obtain ⟨t2, a1, b1⟩ := kx E ce q u t T'.heap (locs ++ L) e1.symm (by rw [← e2]; exact X'.warmed.alike) hp hb k1 k2 k3 (by rw [e1]; exact hce) hcv hcl T' rfl X'
    exact ⟨t2, st.trans a1, b1⟩
/-- caught by the row x of this method's table; the rows ahead don't take it -/
theorem vx_catch {own name : String} {E : String} {ce : Cell} {q : Addr} (hown : s.vm.findClass own = some m.cls) (pre : List ExceptionTableEntry) (x : ExceptionTableEntry) (suf : List ExceptionTableEntry) (hsplit : c.exceptionTable.toList = pre ++ x :: suf)
    (hpass : ∀ z ∈ pre, covers z pc = false ∨ (z.catchType ≠ 0 ∧ ∃ nm : String, (Cond.classLink own z.catchType nm).before args s = true ∧ va_Nc E nm s)) (hx : covers x pc = true) (h0 : x.catchType ≠ 0)
    (hlink : (Cond.classLink own x.catchType name).before args s = true) (hcast : (Cond.castable E name).before args s = true) (hcell : H[q]? = some ce) (hv : ce.vm = .none) (hcl : s.vm.findClass E = some ce.cls)
    (kk : W p l e R s m args below meth c H locs cells slots Q (F0 m x.handlerPc ls [.ref q])) : vx_W p l e R s m args below meth c H locs cells slots Q (F0 m pc ls rest) q := by
  intro T hT X
  have hpl : e.platform.magicAccessors = ({} : Platform).magicAccessors := by rw [X.admits.platform]
  obtain ⟨c3, c4, hc3, hc4, hasg⟩ := Cond.castable_spec hcast
  cases Option.some.inj (hc3.symm.trans hcl)
  obtain ⟨c5, hc5, hcl5⟩ := Cond.classLink_spec hown hlink e.platform hpl
  cases Option.some.inj (hc4.symm.trans hc5)
  obtain ⟨vm', X', st⟩ := X.thenCaughtThrough q (g := F0 m pc ls rest) rfl (Steps.refl _) (by rw [hT]; exact hcell) (by rw [hv]; rfl) (by obtain ⟨k9, h9, -⟩ := Vm.findClass_spec hcl; exact ⟨k9, h9⟩) pre x suf hsplit
    (fun z hz => by
      rcases hpass z hz with h | ⟨hz0, nm, hl1, hn1⟩
      · exact Or.inl h
      · obtain ⟨c6, hc6, hcl6⟩ := Cond.classLink_spec hown hl1 e.platform hpl
        obtain ⟨a8, b8, h1, h2, h3⟩ := hn1
        cases Option.some.inj (h1.symm.trans hcl)
        cases Option.some.inj (h2.symm.trans hc6)
        exact Or.inr ⟨hz0, _, hcl6, h3⟩) hx (Or.inr ⟨h0, c4, hcl5, hasg⟩)
  obtain ⟨t, a1, b1⟩ := kk (T.setVm vm') hT X'
  exact ⟨t, st.trans a1, b1⟩
end Rows
section Ends
variable {p : Program} {l : Launch} {e : Env} {R : Room} {s : State} {m : MethodId} {args : Array Value} {below : List Frame} {meth : Method} {c : Code} {H : Heap} {locs : List Loc} {cells slots : Nat} {Q : State → Prop}
variable {mc ms : Nat} {free : Addr → Prop} {A0 A1 : Nat → Prop} {H0 : Heap} {a : Array Value} {ls : Array Slot} {st0 rest : List Value}
variable {Qc : Array Value → State → Outcome → State → Prop} {XC : String → State → State → Prop}
/-- what a body that may throw owes at its end -/
def vx_MQ (below : List Frame) (Qc : Array Value → State → Outcome → State → Prop) (XC : String → State → State → Prop) (a : Array Value) (s : State) (mc ms : Nat) (free : Addr → Prop) : State → Prop := fun t =>
  ∃ o, t.status = .running ∧ Ended t below o ∧ vx_Q Qc XC mc ms free a s o t
theorem vx_ret {g : JFrame} {mc ms : Nat} (k : W p l e R s m args below meth c H locs cells slots (MQ below Qc args s mc ms free) g) : W p l e R s m args below meth c H locs cells slots (vx_MQ below Qc XC args s mc ms free) g := by
  intro T hT X
  obtain ⟨t, a1, o, b1, b2, b3, b4⟩ := k T hT X
  exact ⟨t, a1, o, b1, b2, Or.inl ⟨b3, b4⟩⟩
/-- not caught here: it goes on to the caller -/
theorem vx_widen {g : JFrame} {q : Addr} {k n : Nat} (h1 : cells ≤ k) (h2 : slots ≤ n) (kk : vx_W p l e R s m args below meth c H locs k n Q g q) : vx_W p l e R s m args below meth c H locs cells slots Q g q := fun T hT X => kk T hT (stand_widen X h1 h2)
theorem vx_out {pc : Nat} {E : String} {ce : Cell} {q : Addr} {mc ms : Nat} (hout : ∀ x ∈ c.exceptionTable.toList, covers x pc = false) (hlocks : meth.locks = false) (hcell : H[q]? = some ce) (hv : ce.vm = .none) (hcl : s.vm.findClass E = some ce.cls)
    (hx : ∀ t : State, t.heap = H → s.vm.Alike t.vm → XC E s t) (hf : ∀ z ∈ locs, free z.base) (hc : cells ≤ mc) (hs : slots ≤ ms) :
    vx_W p l e R s m args below meth c H locs cells slots (vx_MQ below Qc XC args s mc ms free) (F0 m pc ls rest) q := by
  intro T hT X
  obtain ⟨st1, hrun, hend, hW, hsm⟩ := X.leaveThrown q (g := F0 m pc ls rest) rfl rfl rfl hout hlocks
  have hcell9 : (T.setFrames (.throwing q :: below)).heap[q]? = some ce := by
    show T.heap[q]? = some ce
    rw [hT]; exact hcell
  exact ⟨_, st1, .threw q, hrun, hend, Or.inr ⟨q, rfl, E, ce, locs, hx _ hT hW.alike, hcell9, hv, hcl, hW, hsm.mono hc hs, hf⟩⟩
theorem vx_frame {U : State} {k n : Nat} (h : s.sameButNew ({ U with vm := s.vm } : State) locs k n) : s.heap.size ≤ U.heap.size ∧ ∀ q : Nat, q < s.heap.size → (∀ z ∈ locs, z.base ≠ q) → U.heap[q]? = s.heap[q]? := by
  obtain ⟨-, h2, -, -, -, h6⟩ := h
  refine ⟨h2, fun q hq hz => ?_⟩
  obtain ⟨c9, e1, e2, e3, e4⟩ := h6 q _ (Array.getElem?_eq_getElem hq)
  have hs : c9.slots = (s.heap[q]).slots := Array.ext_getElem? fun i => e4 i fun hm => hz _ hm rfl
  have h9 : c9 = s.heap[q] := by
    rw [hs] at e2
    exact e2
  have e5 : U.heap[q]? = some c9 := e1
  rw [e5, h9, Array.getElem?_eq_getElem hq]
/-- the words of a throw but the four that speak of the heap -/
def vx_no (w : Cond) : Bool := decide (w ≠ .isRef (.static Bundle.tN "UNASSIGNED_STACK" Bundle.steD)) && decide (w ≠ .isRef (.static Bundle.tN "SUPPRESSED_SENTINEL" Bundle.listD)) && decide (w ≠ .laysStatic Bundle.tN "UNASSIGNED_STACK" Bundle.steD) && decide (w ≠ .laysStatic Bundle.tN "SUPPRESSED_SENTINEL" Bundle.listD)
def vx_at0 (own : String) (ic : Nat) (X : String) (names : List String) : List Cond := (Bundle.ownAtoms0 own ic X names).filter vx_no
def vx_atS (own : String) (ic : Nat) (X : String) (names : List String) : List Cond := (Bundle.ownAtoms own ic X names).filter vx_no
/-- a word that the tables alone decide, or a good one -/
def vx_ot (w : Cond) : Bool := w.onTables || goodWord w
theorem vx_ot_at {args a' : Array Value} {s U : State} {w : Cond} (hW : s.WarmedH U.vm) (hvm : s.vm = U.vm) (hg : vx_ot w = true) (h : w.before args s = true) : w.before a' U = true := by
  simp only [vx_ot, Bool.or_eq_true] at hg
  rcases hg with hg | hg
  · exact va_tabs hg hvm h
  · exact word_at hW (good_of_word hg) h
/-- a list's words: the good ones out of the method's own list, the others by premises of their own -/
theorem vx_hat {args : Array Value} {s : State} {L B : List Cond} (h1 : ∀ w ∈ L.filter goodWord, w.before args s = true) (h2 : ∀ w ∈ L.filter (fun w => !goodWord w), w ∈ B) (h3 : ∀ w ∈ B, w.before args s = true) : ∀ w ∈ L, w.before args s = true := by
  intro w hw
  by_cases g : goodWord w = true
  · exact h1 w (List.mem_filter.mpr ⟨hw, g⟩)
  · refine h3 w (h2 w (List.mem_filter.mpr ⟨hw, ?_⟩))
    show (!goodWord w) = true
    cases hgw : goodWord w
    · rfl
    · exact absurd hgw g
theorem vx_c {args : Array Value} {s : State} {w : Cond} {B : List Cond} (h : w.before args s = true) (t : ∀ w ∈ B, w.before args s = true) : ∀ w' ∈ w :: B, w'.before args s = true := fun w' h' => (List.mem_cons.mp h').elim (fun e => by rw [e]; exact h) (t w')
theorem vx_n {args : Array Value} {s : State} : ∀ w ∈ ([] : List Cond), w.before args s = true := fun _ h => nomatch h
theorem vx_own {args : Array Value} {s : State} {L : List Cond} (h1 : ∀ w ∈ L.filter vx_no, w.before args s = true)
    (hU : (Cond.isRef (.static Bundle.tN "UNASSIGNED_STACK" Bundle.steD)).before args s = true) (hN : (Cond.isRef (.static Bundle.tN "SUPPRESSED_SENTINEL" Bundle.listD)).before args s = true)
    (lU : (Cond.laysStatic Bundle.tN "UNASSIGNED_STACK" Bundle.steD).before args s = true) (lN : (Cond.laysStatic Bundle.tN "SUPPRESSED_SENTINEL" Bundle.listD).before args s = true) : ∀ w ∈ L, w.before args s = true := by
  intro w hw
  by_cases e1 : w = .isRef (.static Bundle.tN "UNASSIGNED_STACK" Bundle.steD)
  · rw [e1]; exact hU
  · by_cases e2 : w = .isRef (.static Bundle.tN "SUPPRESSED_SENTINEL" Bundle.listD)
    · rw [e2]; exact hN
    · by_cases e3 : w = .laysStatic Bundle.tN "UNASSIGNED_STACK" Bundle.steD
      · rw [e3]; exact lU
      · by_cases e4 : w = .laysStatic Bundle.tN "SUPPRESSED_SENTINEL" Bundle.listD
        · rw [e4]; exact lN
        · exact h1 w (List.mem_filter.mpr ⟨hw, by unfold vx_no; rw [decide_eq_true e1, decide_eq_true e2, decide_eq_true e3, decide_eq_true e4]; rfl⟩)
/-- where a static field lies, its class's statics cell in H -/
def vx_L (C n d : String) (A : Nat → Prop) (U : State) (H : Heap) : Prop := ∃ (c : ClassId) (k : Class) (i : Nat) (f : Field) (a : Nat) (cell : Cell), U.vm.findClass C = some c ∧ U.fieldFound? C n d = some (c, k, i, f) ∧ f.isStatic = true ∧ k.statics = some a ∧ H[a]? = some cell ∧ cell.vm.isStatics = true ∧ cell.cls = c ∧ f.slot < cell.slots.size ∧ k.staticTypes[f.slot]? = some f.type ∧ ¬ A a
theorem vx_L.moved {C n d : String} {A : Nat → Prop} {u U : State} {H : Heap} (hvm : u.vm.Alike U.vm) (h : vx_L C n d A u H) : vx_L C n d A U H := by
  obtain ⟨c, k, i, f, a, cell, h1, h2, h3, h4, h5, h6, h7, h8, h9, h10⟩ := h
  obtain ⟨k', hi', he⟩ := State.fieldFound?_setVm hvm h2
  exact ⟨c, k', i, f, a, cell, by rw [hvm.findClass]; exact h1, hi', h3, by rw [he]; exact h4, h5, h6, h7, h8, by rw [he]; exact h9, h10⟩
theorem vx_L.kept {C n d : String} {A : Nat → Prop} {U : State} {H H1 : Heap} (h : vx_L C n d A U H) (hq : ∀ a : Nat, a < H.size → ¬ A a → H1[a]? = H[a]?) : vx_L C n d A U H1 := by
  obtain ⟨c, k, i, f, a, cell, h1, h2, h3, h4, h5, h6, h7, h8, h9, h10⟩ := h
  exact ⟨c, k, i, f, a, cell, h1, h2, h3, h4, by rw [hq a (Array.getElem?_eq_some_iff.mp h5).1 h10]; exact h5, h6, h7, h8, h9, h10⟩
theorem vx_L.narrow {C n d : String} {A B : Nat → Prop} {U : State} {H : Heap} (h : vx_L C n d A U H) (hAB : ∀ q, B q → A q) : vx_L C n d B U H := by
  obtain ⟨c, k, i, f, a, cell, h1, h2, h3, h4, h5, h6, h7, h8, h9, h10⟩ := h
  exact ⟨c, k, i, f, a, cell, h1, h2, h3, h4, h5, h6, h7, h8, h9, fun z => h10 (hAB _ z)⟩
theorem vx_L.word {C n d : String} {A : Nat → Prop} {s : State} {args : Array Value} (h : vx_L C n d A s s.heap) : (Cond.laysStatic C n d).before args s = true := by
  obtain ⟨c, k, i, f, a, cell, h1, h2, h3, h4, h5, h6, h7, h8, h9, -⟩ := h
  show (Cond.laysStatic C n d).holds args s none s [] = true
  exact Cond.laysStatic_of h1 h2 h3 h4 h5 h6 h7 h8 h9
/-- .. and what it holds: null or some reference -/
def vx_Zq (C n d : String) (A : Nat → Prop) (U : State) (H : Heap) : Prop := va_Zq C n d A U H ∧ vx_L C n d A U H
theorem vx_Zq.moved {C n d : String} {A : Nat → Prop} {u U : State} {H : Heap} (hvm : u.vm.Alike U.vm) (h : vx_Zq C n d A u H) : vx_Zq C n d A U H := ⟨va_Zq.moved hvm h.1, vx_L.moved hvm h.2⟩
theorem vx_Zq.kept {C n d : String} {A : Nat → Prop} {U : State} {H H1 : Heap} (h : vx_Zq C n d A U H) (hq : ∀ a : Nat, a < H.size → ¬ A a → H1[a]? = H[a]?) : vx_Zq C n d A U H1 := ⟨va_Zq.kept h.1 hq, vx_L.kept h.2 hq⟩
theorem vx_Zq.narrow {C n d : String} {A B : Nat → Prop} {U : State} {H : Heap} (h : vx_Zq C n d A U H) (hAB : ∀ q, B q → A q) : vx_Zq C n d B U H := ⟨va_Zq.narrow h.1 hAB, vx_L.narrow h.2 hAB⟩
theorem vx_Zqof {args : Array Value} {s : State} {C n d : String} {A : Nat → Prop} (hl : (Cond.laysStatic C n d).before args s = true) (hini : (Cond.initialized C).before args s = true) (h : (Cond.isRef (.static C n d)).before args s = true) (hA : ∀ a : Nat, a < s.heap.size → ¬ A a) : vx_Zq C n d A s s.heap := by
  refine ⟨va_Zqof hl hini h hA, ?_⟩
  obtain ⟨c, k, i, f, a, cell, h1, h2, h3, h4, h5, h6, h7, h8, h9⟩ := Cond.laysStatic_spec hl
  exact ⟨c, k, i, f, a, cell, h1, h2, h3, h4, h5, h6, h7, h8, h9, hA a (Array.getElem?_eq_some_iff.mp h5).1⟩
theorem vx_isRef {C n d : String} {v : Value} {A : Nat → Prop} {s : State} {args : Array Value} (h : va_Z C n d v A s s.heap) (hv : v.isRef = true) : (Cond.isRef (.static C n d)).before args s = true := by
  obtain ⟨cf, kf, fi, f, a, cell, h1, h2, h3, h4, h5, h6, h7, -⟩ := h
  have he : (Term.static C n d).eval args s none [] s = some v := by
    simp [Term.eval, State.fieldNamed?, h1, h2, h4, h5, h6, h7]
  simp only [Cond.before, Cond.holds, Cond.value, he]
  cases v <;> simp_all [Value.isRef]
theorem vx_isRefq {C n d : String} {A : Nat → Prop} {s : State} {args : Array Value} (h : va_Zq C n d A s s.heap) : (Cond.isRef (.static C n d)).before args s = true := by
  rcases h with h | ⟨t, h⟩
  · exact vx_isRef h rfl
  · exact vx_isRef h rfl
/-- the same frame, seen from here: as if the method were called anew in this heap -/
theorem vx_rebase {T : State} (X : Stand p l e R s m args below meth c T locs cells slots) {R' : Room} (hf : R'.frames ≤ R.frames) (hl : R'.locals ≤ R.locals) (hc : cells + R'.cells ≤ R.cells) (hs : slots + R'.slots ≤ R.slots) :
    Stand p l e R' ((T.setVm s.vm).setFrames (.invoking m args :: below)) m args below meth c T [] 0 0 := by
  have htop : (T.setVm s.vm).topJava?.isSome := X.here.top
  have hF : ((T.setVm s.vm).setFrames (.invoking m args :: below)).frames = .invoking m args :: below := State.frames_setFrames _ (State.cur_lt_of_top htop)
  obtain ⟨g₀, hg0⟩ := Option.isSome_iff_exists.mp htop
  obtain ⟨r, hr⟩ := State.topJava?_eq_some.mp hg0
  have hl9 : e.platform.stackLimits (T.setVm s.vm).me = e.platform.stackLimits s.me := X.limits
  have hb9 : (T.setVm s.vm).me.stackBytes = s.me.stackBytes := X.bytes
  refine ⟨X.admits, X.cas, X.clock, hF, ?_, X.hears, X.method, X.code, X.here, X.tail, X.warmed, ?_, ?_, ?_⟩
  · have h := X.room
    have hU : ((T.setVm s.vm).setFrames (.invoking m args :: below)).localsInUse = s.localsInUse := by
      rw [State.localsInUse_invoking hF (meth := meth) (c := c) X.method X.code, State.localsInUse_invoking X.frames X.method X.code]
    simp only [State.hasRoom, Bool.and_eq_true, decide_eq_true_eq] at h ⊢
    obtain ⟨⟨⟨⟨h1, h2, h3, h4, h5, h6⟩, h7⟩, h8⟩, h9⟩ := h
    rw [X.frames, List.length_cons] at h2 h3
    have q1 := X.heapSize
    have q2 := X.used
    simp only [hF, hU, List.length_cons, State.stackLimits_setFrames, State.stackBytes_setFrames, hl9, hb9]
    refine ⟨⟨⟨⟨by omega, by omega, by omega, by omega, by omega, h6⟩, ?_⟩, ?_⟩, X.book⟩
    · show T.heap.size + R'.cells ≤ e.platform.maxCells
      omega
    · show T.slotsUsed + R'.slots ≤ e.platform.maxSlots
      omega
  · rw [State.stackLimits_setFrames]; rfl
  · rw [State.stackBytes_setFrames]; rfl
  · refine ⟨?_, Nat.le_refl _, Nat.le_refl _, ?_, ?_, fun a c9 h9 => ⟨c9, h9, rfl, rfl, fun _ _ => rfl⟩⟩
    · obtain ⟨t, ht, -⟩ := State.frames_cons hr
      show T.setVm s.vm = { ((T.setVm s.vm).setFrames (.invoking m args :: below)).setFrames (T.setVm s.vm).frames with heap := T.heap, slotsUsed := T.slotsUsed }
      rw [State.setFrames_setFrames, State.setFrames_self ht]
      rfl
    · show T.slotsUsed = T.slotsUsed + ((T.heap.toList.drop T.heap.size).map (·.slots.size)).sum
      rw [List.drop_eq_nil_of_le (Nat.le_of_eq Array.length_toList)]
      rfl
    · show ((T.heap.toList.drop T.heap.size).map (·.slots.size)).sum ≤ 0
      rw [List.drop_eq_nil_of_le (Nat.le_of_eq Array.length_toList)]
      exact Nat.le_refl _
/-- 'throw new E()': new; dup; invokespecial; athrow -/
theorem vx_throw0 {cc : ByteArray} {pc : Nat} (hexec : p.tables.exec = Jvm.exec) (hb : c.code = cc) (hl : l.stackTraces = false) {own cls : String} {names : List String} {ik ic mc ms : Nat} {A : Nat → Prop}
    (hown : s.vm.findClass own = some m.cls) (hcls : Bundle.fit cls = true) (hnames : ∀ n ∈ names, Bundle.fit n = true)
    (hk : (Cond.classLink own ik cls).before args s = true) (hini : (Cond.initialized cls).before args s = true) (hat : ∀ w ∈ vx_at0 own ic cls names, w.before args s = true)
    (hgood : ∀ w ∈ Cond.classLink own ik cls :: Cond.initialized cls :: vx_at0 own ic cls names, vx_ot w = true)
    (hU : vx_Zq Bundle.tN "UNASSIGNED_STACK" Bundle.steD A s s.heap) (hN : vx_Zq Bundle.tN "SUPPRESSED_SENTINEL" Bundle.listD A s s.heap) (hS : va_S A s.heap H locs) (hsize : ls.size = c.maxLocals)
    (d0 : decode cc pc = .ok (.new ik, 3)) (d3 : decode cc (pc + 3) = .ok (.dup, 1)) (d4 : decode cc (pc + 4) = .ok (.invokespecial ic, 3)) (d7 : decode cc (pc + 7) = .ok (.athrow, 1))
    (hout : ∀ x ∈ c.exceptionTable.toList, covers x (pc + 7) = false)
    (hRframes : names.length + 3 < R.frames) (hRlocals : (rest.map fun v => v.category).sum + (13 * (names.length + 1) + 42) ≤ R.locals) (hRcells : cells + 1 ≤ R.cells) (hRslots : slots + 6 ≤ R.slots) (hlocks : meth.locks = false)
    (hx : ∀ t : State, s.vm.Alike t.vm → H.size ≤ t.heap.size → (∀ q : Nat, q < H.size → t.heap[q]? = H[q]?) → XC cls s t)
    (hf : ∀ z ∈ locs, free z.base) (hc : cells + 1 ≤ mc) (hs : slots + 6 ≤ ms) :
    W p l e R s m args below meth c H locs cells slots (vx_MQ below Qc XC args s mc ms free) (F0 m pc ls rest) := by
  intro T hT X
  have htr : e.platform.stackTraces = false := (show e.platform.stackTraces = l.stackTraces by rw [X.admits.platform]).trans hl
  have Y := vx_rebase X (R' := { frames := R.frames, locals := R.locals, cells := 1, slots := 6 }) (Nat.le_refl _) (Nat.le_refl _) hRcells hRslots
  obtain ⟨s', hA⟩ : ∃ z, z = (T.setVm s.vm).setFrames (.invoking m args :: below) := ⟨_, rfl⟩
  rw [← hA] at Y
  have hvm : s'.vm = s.vm := by rw [hA]; rfl
  have hhp : s'.heap = H := by rw [hA]; exact hT
  have hW0 : s.WarmedH s'.vm := by rw [hvm]; exact State.WarmedH.refl s
  have hat' : ∀ w ∈ vx_at0 own ic cls names, w.before args s' = true := fun w hw => vx_ot_at hW0 hvm.symm (hgood w (List.mem_cons_of_mem _ (List.mem_cons_of_mem _ hw))) (hat w hw)
  have hk' : (Cond.classLink own ik cls).before args s' = true := vx_ot_at hW0 hvm.symm (hgood _ List.mem_cons_self) hk
  have hini' : (Cond.initialized cls).before args s' = true := vx_ot_at hW0 hvm.symm (hgood _ (List.mem_cons_of_mem _ List.mem_cons_self)) hini
  have hU' : vx_Zq Bundle.tN "UNASSIGNED_STACK" Bundle.steD A s' s'.heap := by rw [hhp]; exact vx_Zq.moved hW0.alike (hU.kept hS.2.1)
  have hN' : vx_Zq Bundle.tN "SUPPRESSED_SENTINEL" Bundle.listD A s' s'.heap := by rw [hhp]; exact vx_Zq.moved hW0.alike (hN.kept hS.2.1)
  have h : ∀ w ∈ Bundle.ownAtoms0 own ic cls names, w.before args s' = true := vx_own hat' (vx_isRefq hU'.1) (vx_isRefq hN'.1) hU'.2.word hN'.2.word
  have hown' : s'.vm.findClass own = some m.cls := by rw [hvm]; exact hown
  have hins : (Cond.instantiable cls 6).before args s' = true := h _ (by simp [Bundle.ownAtoms0])
  obtain ⟨vm₁, cX, kX, hfX, hkX, -, -, X₁, st1⟩ := Y.newCold hexec (own := own) (C := cls) (index := ik) (n := 6) hown' hk' hins hini'
    (g := F0 m pc ls rest) rfl (by rw [hb]; exact d0) (Nat.le_refl _) (Nat.le_refl _)
  generalize hT1 : (T.setVm vm₁).pushCell { cls := cX, slots := kX.instanceTypes.map defaultValue, vm := .none } = T1 at X₁ st1
  have hcat : (Value.ref T.heap.size).category = 1 := rfl
  have hcellA : T1.heap[T.heap.size]? = some (freshCell cX kX) := by rw [← hT1]; exact State.heap_pushCell_size _ _
  have d3' : decode c.code (pc + 3) = .ok (.dup, 1) := by rw [hb]; exact d3
  obtain ⟨U, hsteps, hrun, hend, hW, hsame, ce, hce, hO⟩ := X₁.ctorThrow0 hexec htr (own := own) (cls := cls) (names := names) (ic := ic) hown' hcls hnames h (fun x hx => nomatch hx) hfX hkX hcellA (by rw [hhp, hT]; exact Nat.le_refl _)
    (g := { method := m, pc := pc + 4, locals := ls, stack := .ref T.heap.size :: .ref T.heap.size :: rest, locked := none }) rfl hsize rfl rfl (rest := rest) rfl
    (by rw [hb]; exact d4) (by rw [hb]; exact d7) hout hRframes (by simp only [List.map_cons, List.sum_cons, hcat]; omega) hlocks
  obtain ⟨f1, f2⟩ := vx_frame hsame
  rw [hhp] at f1 f2
  have hWs : s.WarmedH U.vm := State.WarmedH.trans hW0 hW
  have hcl : s.vm.findClass cls = some ce.cls := by
    have h9 := hO.cls
    rw [hvm] at h9
    exact h9
  have hall : s.sameButNew ({ U with vm := s.vm } : State) locs mc ms := by
    subst hA
    obtain ⟨e1, e2⟩ := hsame
    rw [State.setFrames_setFrames] at e1
    have h2 : (T.setVm s.vm).sameButNew ({ U with vm := s.vm } : State) [] (0 + 1) (0 + 6) := ⟨e1, e2⟩
    have h3 := X.same.trans h2
    rw [List.append_nil] at h3
    exact h3.mono hc hs
  refine ⟨U, ?_, .threw T.heap.size, hrun, hend, Or.inr ⟨T.heap.size, rfl, cls, ce, locs, hx U hWs.alike f1 (fun q hq => f2 q hq (fun z hz => nomatch hz)), hce, hO.vm, hcl, hWs, hall, hf⟩⟩
  refine st1 _ ?_
  show Steps p.tables e below (T1.setTop { method := m, pc := pc + 3, locals := ls, stack := .ref T.heap.size :: rest, locked := none }) _
  jvm_step X₁.here [X₁.here.top, hexec, d3', Value.category]
  exact hsteps
/-- 'throw new E("text")': new; dup; ldc; invokespecial; athrow -/
theorem vx_throwS {cc : ByteArray} {pc : Nat} (hexec : p.tables.exec = Jvm.exec) (hb : c.code = cc) (hl : l.stackTraces = false) {own cls text : String} {names : List String} {ik is ic mc ms sa : Nat} {A : Nat → Prop}
    (hown : s.vm.findClass own = some m.cls) (hcls : Bundle.fit cls = true) (hnames : ∀ n ∈ names, Bundle.fit n = true)
    (hk : (Cond.classLink own ik cls).before args s = true) (hini : (Cond.initialized cls).before args s = true) (hstr : vk_R own is text sa s) (hat : ∀ w ∈ vx_atS own ic cls names, w.before args s = true)
    (hgood : ∀ w ∈ Cond.classLink own ik cls :: Cond.initialized cls :: vx_atS own ic cls names, vx_ot w = true)
    (hU : vx_Zq Bundle.tN "UNASSIGNED_STACK" Bundle.steD A s s.heap) (hN : vx_Zq Bundle.tN "SUPPRESSED_SENTINEL" Bundle.listD A s s.heap) (hS : va_S A s.heap H locs) (hsize : ls.size = c.maxLocals)
    (d0 : decode cc pc = .ok (.new ik, 3)) (d3 : decode cc (pc + 3) = .ok (.dup, 1)) (d4 : decode cc (pc + 4) = .ok (.ldc is, 2)) (d6 : decode cc (pc + 6) = .ok (.invokespecial ic, 3)) (d9 : decode cc (pc + 9) = .ok (.athrow, 1))
    (hout : ∀ x ∈ c.exceptionTable.toList, covers x (pc + 9) = false)
    (hRframes : names.length + 3 < R.frames) (hRlocals : (rest.map fun v => v.category).sum + (13 * (names.length + 1) + 43) ≤ R.locals) (hRcells : cells + 1 ≤ R.cells) (hRslots : slots + 6 ≤ R.slots) (hlocks : meth.locks = false)
    (hx : ∀ t : State, s.vm.Alike t.vm → H.size ≤ t.heap.size → (∀ q : Nat, q < H.size → t.heap[q]? = H[q]?) → XC cls s t)
    (hf : ∀ z ∈ locs, free z.base) (hc : cells + 1 ≤ mc) (hs : slots + 6 ≤ ms) :
    W p l e R s m args below meth c H locs cells slots (vx_MQ below Qc XC args s mc ms free) (F0 m pc ls rest) := by
  intro T hT X
  have htr : e.platform.stackTraces = false := (show e.platform.stackTraces = l.stackTraces by rw [X.admits.platform]).trans hl
  have Y := vx_rebase X (R' := { frames := R.frames, locals := R.locals, cells := 1, slots := 6 }) (Nat.le_refl _) (Nat.le_refl _) hRcells hRslots
  obtain ⟨s', hA⟩ : ∃ z, z = (T.setVm s.vm).setFrames (.invoking m args :: below) := ⟨_, rfl⟩
  rw [← hA] at Y
  have hvm : s'.vm = s.vm := by rw [hA]; rfl
  have hhp : s'.heap = H := by rw [hA]; exact hT
  have hW0 : s.WarmedH s'.vm := by rw [hvm]; exact State.WarmedH.refl s
  have hat' : ∀ w ∈ vx_atS own ic cls names, w.before args s' = true := fun w hw => vx_ot_at hW0 hvm.symm (hgood w (List.mem_cons_of_mem _ (List.mem_cons_of_mem _ hw))) (hat w hw)
  have hk' : (Cond.classLink own ik cls).before args s' = true := vx_ot_at hW0 hvm.symm (hgood _ List.mem_cons_self) hk
  have hini' : (Cond.initialized cls).before args s' = true := vx_ot_at hW0 hvm.symm (hgood _ (List.mem_cons_of_mem _ List.mem_cons_self)) hini
  have hU' : vx_Zq Bundle.tN "UNASSIGNED_STACK" Bundle.steD A s' s'.heap := by rw [hhp]; exact vx_Zq.moved hW0.alike (hU.kept hS.2.1)
  have hN' : vx_Zq Bundle.tN "SUPPRESSED_SENTINEL" Bundle.listD A s' s'.heap := by rw [hhp]; exact vx_Zq.moved hW0.alike (hN.kept hS.2.1)
  have h : ∀ w ∈ Bundle.ownAtoms own ic cls names, w.before args s' = true := vx_own hat' (vx_isRefq hU'.1) (vx_isRefq hN'.1) hU'.2.word hN'.2.word
  have hown' : s'.vm.findClass own = some m.cls := by rw [hvm]; exact hown
  have hins : (Cond.instantiable cls 6).before args s' = true := h _ (by simp [Bundle.ownAtoms])
  obtain ⟨vm₁, cX, kX, hfX, hkX, -, -, X₁, st1⟩ := Y.newCold hexec (own := own) (C := cls) (index := ik) (n := 6) hown' hk' hins hini'
    (g := F0 m pc ls rest) rfl (by rw [hb]; exact d0) (Nat.le_refl _) (Nat.le_refl _)
  generalize hT1 : (T.setVm vm₁).pushCell { cls := cX, slots := kX.instanceTypes.map defaultValue, vm := .none } = T1 at X₁ st1
  have hcat : (Value.ref T.heap.size).category = 1 := rfl
  have hcellA : T1.heap[T.heap.size]? = some (freshCell cX kX) := by rw [← hT1]; exact State.heap_pushCell_size _ _
  have d3' : decode c.code (pc + 3) = .ok (.dup, 1) := by rw [hb]; exact d3
  have d4' : decode c.code (pc + 4) = .ok (.ldc is, 2) := by rw [hb]; exact d4
  have hstr' : vk_R own is text sa s' := vk_R.warm hW0 hstr
  obtain ⟨U, hsteps, hrun, hend, hW, hsame, ce, hce, hO⟩ := X₁.ctorThrowS hexec htr (own := own) (cls := cls) (names := names) (ic := ic) hown' hcls hnames h (fun x hx => nomatch hx) hfX hkX hcellA (by rw [hhp, hT]; exact Nat.le_refl _) (msg := .ref sa) rfl
    (g := { method := m, pc := pc + 6, locals := ls, stack := .ref sa :: .ref T.heap.size :: .ref T.heap.size :: rest, locked := none }) rfl hsize rfl rfl (rest := rest) rfl
    (by rw [hb]; exact d6) (by rw [hb]; exact d9) hout hRframes (by simp only [List.map_cons, List.sum_cons, hcat]; omega) hlocks
  obtain ⟨f1, f2⟩ := vx_frame hsame
  rw [hhp] at f1 f2
  have hWs : s.WarmedH U.vm := State.WarmedH.trans hW0 hW
  have hcl : s.vm.findClass cls = some ce.cls := by
    have h9 := hO.cls
    rw [hvm] at h9
    exact h9
  have hall : s.sameButNew ({ U with vm := s.vm } : State) locs mc ms := by
    subst hA
    obtain ⟨e1, e2⟩ := hsame
    rw [State.setFrames_setFrames] at e1
    have h2 : (T.setVm s.vm).sameButNew ({ U with vm := s.vm } : State) [] (0 + 1) (0 + 6) := ⟨e1, e2⟩
    have h3 := X.same.trans h2
    rw [List.append_nil] at h3
    exact h3.mono hc hs
  refine ⟨U, ?_, .threw T.heap.size, hrun, hend, Or.inr ⟨T.heap.size, rfl, cls, ce, locs, hx U hWs.alike f1 (fun q hq => f2 q hq (fun z hz => nomatch hz)), hce, hO.vm, hcl, hWs, hall, hf⟩⟩
  refine st1 _ ?_
  show Steps p.tables e below (T1.setTop { method := m, pc := pc + 3, locals := ls, stack := .ref T.heap.size :: rest, locked := none }) _
  jvm_step X₁.here [X₁.here.top, hexec, d3', Value.category]
  exact X₁.ldcString hexec (own := own) (text := text) (index := is) (a := sa) hown' hstr'.1 hstr'.2
    (g := { method := m, pc := pc + 4, locals := ls, stack := .ref T.heap.size :: .ref T.heap.size :: rest, locked := none }) rfl d4' _ hsteps
/-- 'throw new E("text")', the text by a wide index -/
theorem vx_throwSW {cc : ByteArray} {pc : Nat} (hexec : p.tables.exec = Jvm.exec) (hb : c.code = cc) (hl : l.stackTraces = false) {own cls text : String} {names : List String} {ik is ic mc ms sa : Nat} {A : Nat → Prop}
    (hown : s.vm.findClass own = some m.cls) (hcls : Bundle.fit cls = true) (hnames : ∀ n ∈ names, Bundle.fit n = true)
    (hk : (Cond.classLink own ik cls).before args s = true) (hini : (Cond.initialized cls).before args s = true) (hstr : vk_R own is text sa s) (hat : ∀ w ∈ vx_atS own ic cls names, w.before args s = true)
    (hgood : ∀ w ∈ Cond.classLink own ik cls :: Cond.initialized cls :: vx_atS own ic cls names, vx_ot w = true)
    (hU : vx_Zq Bundle.tN "UNASSIGNED_STACK" Bundle.steD A s s.heap) (hN : vx_Zq Bundle.tN "SUPPRESSED_SENTINEL" Bundle.listD A s s.heap) (hS : va_S A s.heap H locs) (hsize : ls.size = c.maxLocals)
    (d0 : decode cc pc = .ok (.new ik, 3)) (d3 : decode cc (pc + 3) = .ok (.dup, 1)) (d4 : decode cc (pc + 4) = .ok (.ldc_w is, 3)) (d7 : decode cc (pc + 7) = .ok (.invokespecial ic, 3)) (d10 : decode cc (pc + 10) = .ok (.athrow, 1))
    (hout : ∀ x ∈ c.exceptionTable.toList, covers x (pc + 10) = false)
    (hRframes : names.length + 3 < R.frames) (hRlocals : (rest.map fun v => v.category).sum + (13 * (names.length + 1) + 43) ≤ R.locals) (hRcells : cells + 1 ≤ R.cells) (hRslots : slots + 6 ≤ R.slots) (hlocks : meth.locks = false)
    (hx : ∀ t : State, s.vm.Alike t.vm → H.size ≤ t.heap.size → (∀ q : Nat, q < H.size → t.heap[q]? = H[q]?) → XC cls s t)
    (hf : ∀ z ∈ locs, free z.base) (hc : cells + 1 ≤ mc) (hs : slots + 6 ≤ ms) :
    W p l e R s m args below meth c H locs cells slots (vx_MQ below Qc XC args s mc ms free) (F0 m pc ls rest) := by
  intro T hT X
  have htr : e.platform.stackTraces = false := (show e.platform.stackTraces = l.stackTraces by rw [X.admits.platform]).trans hl
  have Y := vx_rebase X (R' := { frames := R.frames, locals := R.locals, cells := 1, slots := 6 }) (Nat.le_refl _) (Nat.le_refl _) hRcells hRslots
  obtain ⟨s', hA⟩ : ∃ z, z = (T.setVm s.vm).setFrames (.invoking m args :: below) := ⟨_, rfl⟩
  rw [← hA] at Y
  have hvm : s'.vm = s.vm := by rw [hA]; rfl
  have hhp : s'.heap = H := by rw [hA]; exact hT
  have hW0 : s.WarmedH s'.vm := by rw [hvm]; exact State.WarmedH.refl s
  have hat' : ∀ w ∈ vx_atS own ic cls names, w.before args s' = true := fun w hw => vx_ot_at hW0 hvm.symm (hgood w (List.mem_cons_of_mem _ (List.mem_cons_of_mem _ hw))) (hat w hw)
  have hk' : (Cond.classLink own ik cls).before args s' = true := vx_ot_at hW0 hvm.symm (hgood _ List.mem_cons_self) hk
  have hini' : (Cond.initialized cls).before args s' = true := vx_ot_at hW0 hvm.symm (hgood _ (List.mem_cons_of_mem _ List.mem_cons_self)) hini
  have hU' : vx_Zq Bundle.tN "UNASSIGNED_STACK" Bundle.steD A s' s'.heap := by rw [hhp]; exact vx_Zq.moved hW0.alike (hU.kept hS.2.1)
  have hN' : vx_Zq Bundle.tN "SUPPRESSED_SENTINEL" Bundle.listD A s' s'.heap := by rw [hhp]; exact vx_Zq.moved hW0.alike (hN.kept hS.2.1)
  have h : ∀ w ∈ Bundle.ownAtoms own ic cls names, w.before args s' = true := vx_own hat' (vx_isRefq hU'.1) (vx_isRefq hN'.1) hU'.2.word hN'.2.word
  have hown' : s'.vm.findClass own = some m.cls := by rw [hvm]; exact hown
  have hins : (Cond.instantiable cls 6).before args s' = true := h _ (by simp [Bundle.ownAtoms])
  obtain ⟨vm₁, cX, kX, hfX, hkX, -, -, X₁, st1⟩ := Y.newCold hexec (own := own) (C := cls) (index := ik) (n := 6) hown' hk' hins hini'
    (g := F0 m pc ls rest) rfl (by rw [hb]; exact d0) (Nat.le_refl _) (Nat.le_refl _)
  generalize hT1 : (T.setVm vm₁).pushCell { cls := cX, slots := kX.instanceTypes.map defaultValue, vm := .none } = T1 at X₁ st1
  have hcat : (Value.ref T.heap.size).category = 1 := rfl
  have hcellA : T1.heap[T.heap.size]? = some (freshCell cX kX) := by rw [← hT1]; exact State.heap_pushCell_size _ _
  have d3' : decode c.code (pc + 3) = .ok (.dup, 1) := by rw [hb]; exact d3
  have d4' : decode c.code (pc + 4) = .ok (.ldc_w is, 3) := by rw [hb]; exact d4
  have hstr' : vk_R own is text sa s' := vk_R.warm hW0 hstr
  obtain ⟨U, hsteps, hrun, hend, hW, hsame, ce, hce, hO⟩ := X₁.ctorThrowS hexec htr (own := own) (cls := cls) (names := names) (ic := ic) hown' hcls hnames h (fun x hx => nomatch hx) hfX hkX hcellA (by rw [hhp, hT]; exact Nat.le_refl _) (msg := .ref sa) rfl
    (g := { method := m, pc := pc + 7, locals := ls, stack := .ref sa :: .ref T.heap.size :: .ref T.heap.size :: rest, locked := none }) rfl hsize rfl rfl (rest := rest) rfl
    (by rw [hb]; exact d7) (by rw [hb]; exact d10) hout hRframes (by simp only [List.map_cons, List.sum_cons, hcat]; omega) hlocks
  obtain ⟨f1, f2⟩ := vx_frame hsame
  rw [hhp] at f1 f2
  have hWs : s.WarmedH U.vm := State.WarmedH.trans hW0 hW
  have hcl : s.vm.findClass cls = some ce.cls := by
    have h9 := hO.cls
    rw [hvm] at h9
    exact h9
  have hall : s.sameButNew ({ U with vm := s.vm } : State) locs mc ms := by
    subst hA
    obtain ⟨e1, e2⟩ := hsame
    rw [State.setFrames_setFrames] at e1
    have h2 : (T.setVm s.vm).sameButNew ({ U with vm := s.vm } : State) [] (0 + 1) (0 + 6) := ⟨e1, e2⟩
    have h3 := X.same.trans h2
    rw [List.append_nil] at h3
    exact h3.mono hc hs
  refine ⟨U, ?_, .threw T.heap.size, hrun, hend, Or.inr ⟨T.heap.size, rfl, cls, ce, locs, hx U hWs.alike f1 (fun q hq => f2 q hq (fun z hz => nomatch hz)), hce, hO.vm, hcl, hWs, hall, hf⟩⟩
  refine st1 _ ?_
  show Steps p.tables e below (T1.setTop { method := m, pc := pc + 3, locals := ls, stack := .ref T.heap.size :: rest, locked := none }) _
  jvm_step X₁.here [X₁.here.top, hexec, d3', Value.category]
  exact X₁.ldcStringW hexec (own := own) (text := text) (index := is) (a := sa) hown' hstr'.1 hstr'.2
    (g := { method := m, pc := pc + 4, locals := ls, stack := .ref T.heap.size :: .ref T.heap.size :: rest, locked := none }) rfl d4' _ hsteps
end Ends
section Bodies
variable {l : Launch}
theorem vx_ofW {y : MethodName} {ws ws' : List Cond} {rm : Room} {Pc : Array Value → State → Prop} {Qc : Array Value → State → Outcome → State → Prop} {XC : String → State → State → Prop} {mc ms : Nat} {free : Addr → Prop} {cc : ByteArray} {maxL : Nat} {ret : Option FieldType}
    (hy : plainName y.cls = true) (hw : ws = Cond.code y cc maxL ret :: ws')
    (body : ∀ p e s m args below meth c s₁, BodyLoose p l y (headSpec ws rm) cc maxL ret e s m args below meth c s₁ → c.maxLocals = maxL → (∀ x ∈ c.exceptionTable.toList, False) → Pc args s →
      W p l e (headSpec ws rm).room s m args below meth c s.heap [] 0 0 (vx_MQ below Qc XC args s mc ms free) (entryFrame m args maxL)) : vx_Met l y ws rm Pc Qc XC mc ms free := by
  refine MetFree.of_bodyS (code := cc) (maxLocals := maxL) (ret := ret) hy ?_ ?_
  · intro args s m h hn
    obtain ⟨meth, c, h1, h2, h3, h4, h5, h6, -, -⟩ := Cond.code_spec hn (atoms_spec (ws := ws) h _ (by rw [hw]; exact List.mem_cons_self))
    exact ⟨meth, c, h1, h2, h3, h4, h5, h6⟩
  · intro p e s m args below meth c s₁ B hml hP _
    have hh0 : s₁.heap = s.heap := by rw [B.state]; rfl
    have ht : ∀ x ∈ c.exceptionTable.toList, False := by
      obtain ⟨meth9, c9, h1, h2, -, -, -, -, h7, -⟩ := Cond.code_spec B.named (atoms_spec (ws := ws) B.pre _ (by rw [hw]; exact List.mem_cons_self))
      cases Option.some.inj (h1.symm.trans B.method)
      cases Option.some.inj (h2.symm.trans (Stand.of_body B).code)
      intro x hx
      rw [Array.isEmpty_iff.mp h7] at hx
      cases hx
    obtain ⟨t, a1, o, b1, b2, b3⟩ := body p e s m args below meth c s₁ B hml ht hP s₁ hh0 (Stand.of_body B)
    exact ⟨t, o, a1, b1, b2, b3⟩
/-- the table of a body with handlers -/
theorem vx_table {p : Program} {x y : MethodName} {S : Spec} {cc bytes : ByteArray} {maxL maxL' : Nat} {ret ret' : Option FieldType} {e : Env} {s s₁ : State} {m : MethodId} {args : Array Value} {below : List Frame} {meth : Method} {c : Code} {hh : List (Nat × Nat × Nat × Nat)}
    (B : BodyLoose p l y S cc maxL ret e s m args below meth c s₁) (h : (Cond.codeWith y bytes maxL' ret' hh).before args s = true) : c.exceptionTable.toList = tableOf hh := by
  obtain ⟨m9, meth9, c9, hn9, h1, h2, -, -, h6, -⟩ := Cond.codeWith_spec h
  cases Option.some.inj (hn9.symm.trans B.named)
  cases Option.some.inj (h1.symm.trans B.method)
  cases Option.some.inj (h2.symm.trans (Stand.of_body B).code)
  rw [← h6, table_eq]
end Bodies
end VXA
/-! ===== END ===== -/
/-! ===== BEGIN a static call of a method with an exception table ===== -/
section VXS
variable {p : Program} {l : Launch} {e : Env} {R : Room} {s : State} {m : MethodId} {args : Array Value} {below : List Frame} {meth : Method} {c : Code} {T : State} {H : Heap} {locs : List Loc} {cells slots : Nat}
abbrev vx_CSW (R : Room) (s : State) (args : Array Value) (own : String) (index : Nat) (y : MethodName) (bytes : ByteArray) (maxL : Nat) (ret : Option FieldType) (hh : List (Nat × Nat × Nat × Nat)) (ws : List Cond) (rm : Room) (mc ms n : Nat) : Prop :=
  (rm.cells = mc ∧ rm.slots = ms ∧ rm.frames + 1 ≤ R.frames ∧ 8 + (maxL + 11) + rm.locals ≤ R.locals ∧ (∀ w ∈ ws, ∀ (a' : Array Value) (U : State), s.WarmedH U.vm → w.before a' U = true) ∧ Cond.codeWith y bytes maxL ret hh ∈ ws) ∧
  (Cond.codeWith y bytes maxL ret hh).before args s = true ∧ (Cond.initialized y.cls).before args s = true ∧ (y.cls ≠ "java/lang/invoke/MethodHandle" ∧ y.cls ≠ "java/lang/invoke/VarHandle") ∧
  (∀ sig, parseMethodDescriptor y.desc = some sig → n = sig.parameters.length) ∧ (Cond.methodLink own index y).before args s = true ∧ (Cond.static y).before args s = true
theorem vx_cwSW {own : String} {index maxL mc ms : Nat} {y : MethodName} {bytes : ByteArray} {ret : Option FieldType} {hh : List (Nat × Nat × Nat × Nat)} {Ts ws ws' : List Cond} {rm : Room} (n : Nat) (ht : ∀ w ∈ Ts, w.before args s = true) (hT : GoodIn Ts (va_wsS own index y ws)) (hw : ws = Cond.codeWith y bytes maxL ret hh :: ws') (hrc : rm.cells = mc) (hrs : rm.slots = ms)
    (hd : y.cls ≠ "java/lang/invoke/MethodHandle" ∧ y.cls ≠ "java/lang/invoke/VarHandle" ∧ (parseMethodDescriptor y.desc).map (fun d => d.parameters.length) = some n) (hR : rm.frames + 1 ≤ R.frames ∧ 8 + (maxL + 11) + rm.locals ≤ R.locals) :
    vx_CSW R s args own index y bytes maxL ret hh ws rm mc ms n := by
  have ok : ∀ w ∈ va_wsS own index y ws, w.before args s = true := fun w h => ht w (hT w h).1
  have hG : GoodIn Ts ws := fun w h => hT w (by unfold va_wsS; exact List.mem_append_right _ h)
  have hc : Cond.codeWith y bytes maxL ret hh ∈ ws := by rw [hw]; exact List.mem_cons_self
  refine ⟨⟨hrc, hrs, hR.1, hR.2, pay_in ht hG, hc⟩, ht _ (hG _ hc).1, ok _ (by simp [va_wsS]), ⟨hd.1, hd.2.1⟩, fun sig h => ?_, ok _ (by simp [va_wsS]), ok _ (by simp [va_wsS])⟩
  have h2 := hd.2.2
  rw [h] at h2
  exact (Option.some.inj h2).symm
theorem vx_callSW (X : Stand p l e R s m args below meth c T locs cells slots) (hexec : p.tables.exec = Jvm.exec) {own : String} {index : Nat} {y : MethodName} {bytes : ByteArray} {maxL : Nat} {ret : Option FieldType} {hh : List (Nat × Nat × Nat × Nat)}
    (hown : s.vm.findClass own = some m.cls) (hlink : (Cond.methodLink own index y).before args s = true) (hstat : (Cond.static y).before args s = true) (hinit : (Cond.initialized y.cls).before args s = true)
    (hcode : (Cond.codeWith y bytes maxL ret hh).before args s = true) (hy : y.cls ≠ "java/lang/invoke/MethodHandle" ∧ y.cls ≠ "java/lang/invoke/VarHandle")
    {W9 : Nat} {Pre : Pt → Array Value → Prop} {Post : Pt → Array Value → Option Value → Pt → Prop} (hK : Back l R p e below s args y 3 W9 Pre Post)
    {g : JFrame} (hg : g.method = m) (hsize : g.locals.size = c.maxLocals) {argsL rest : List Value} (hlen : ∀ sig, parseMethodDescriptor y.desc = some sig → argsL.length = sig.parameters.length)
    (hstack : g.stack = argsL.reverse ++ rest) (hW : 2 * g.monitorRoom + (rest.map fun v => v.category).sum ≤ W9) (hdg : decode c.code g.pc = .ok (.invokestatic index, 3))
    (hpre : ∀ vm₁, s.WarmedH vm₁ → Pre ⟨T.setVm vm₁, locs, cells, slots⟩ argsL.toArray) :
    ∃ (v : Option Value) (vm₁ : Vm) (B : Pt), s.WarmedH vm₁ ∧ Stand p l e R s m args below meth c B.U B.locs B.cells B.slots ∧ Post ⟨T.setVm vm₁, locs, cells, slots⟩ argsL.toArray v B ∧
      ∀ target, Steps p.tables e below (B.U.setTop { g with pc := g.pc + 3, stack := v.toList ++ rest }) target → Steps p.tables e below (T.setTop g) target := by
  obtain ⟨mk, methM, cM, hnamed, hmethM, -, -, -, -, -, -, hsigM⟩ := Cond.codeWith_spec hcode
  have hstatic : methM.isStatic = true := Cond.static_spec hnamed hmethM hstat
  obtain ⟨kP, hkP, -⟩ := className_of_methodNamed hnamed
  have hinitP : kP.init = .initialized := Cond.initialized_spec (findClass_of_methodNamed hnamed) hkP hinit
  obtain ⟨vm₁, X₁, hstep₁⟩ := X.invokestatic hexec hown hlink hnamed hmethM hstatic hkP hinitP hy (g := g) hg (argsL := argsL) (rest := rest) (hlen _ hsigM) hstack hdg
  obtain ⟨v, B, X', hpost, hsteps⟩ := hK m meth c ⟨T.setVm vm₁, locs, cells, slots⟩ { g with stack := rest } (.invokestatic index) mk argsL.toArray X₁ hg hsize hdg hW (X₁.named hnamed) (hpre vm₁ X₁.warmed)
  exact ⟨v, vm₁, B, X₁.warmed, X', hpost, fun target h => hstep₁ _ fun acts => by rw [doInvoke_state]; exact hsteps.trans h⟩
theorem vx_runSW {y : MethodName} {bytes cc : ByteArray} {maxL nL mc ms n index : Nat} {ret : Option FieldType} {hh : List (Nat × Nat × Nat × Nat)} {ws : List Cond} {rm : Room} {Pc : Array Value → State → Prop} {Qc : Array Value → State → Outcome → State → Prop} {free : Addr → Prop} {Ts : List Cond} {own : String} {As rest : List Value} {g : JFrame}
    (S : CallFix p m c cc nL s args Ts own) (hM : Met l y ws rm Pc Qc mc ms free) (cw : vx_CSW R s args own index y bytes maxL ret hh ws rm mc ms n) (hp : PreS s H Pc As)
    (hg : g.method = m) (hn : As.length = n) (hsize : g.locals.size = nL) (hstack : g.stack = As.reverse ++ rest) (hW : 2 * g.monitorRoom + (rest.map fun v => v.category).sum ≤ 8) (hdg : decode cc g.pc = .ok (.invokestatic index, 3)) (hf : cells + mc ≤ R.cells ∧ slots + ms ≤ R.slots) :
    va_Run p l e R s m args below meth c H locs cells slots mc ms g rest (Qc As.toArray) (free) := by
  obtain ⟨⟨hrc, hrs, hfr, hlo, hws, hcw⟩, hcode, hini, hy, hlen, hl, hstt⟩ := cw
  have hK : Back l R p e below s args y 3 8 (PreOf R mc ms Pc) (PostOf Qc mc ms free) := va_backW (hh := hh) (bytes := bytes) (maxL := maxL) (ret := ret) hM hp.1 hrc hrs hfr hlo hws hcw (fun a' U hW => word_at hW (Or.inl (by first | rfl | simp [Cond.onTables, Cond.keeps, Cond.steady])) hini)
  obtain ⟨hx, hb, hml, ho, -⟩ := S
  intro T hT X
  obtain ⟨v, vm₁, ⟨U', l2, c2, s2⟩, hW₁, X', ⟨g', mk, t, L, e1, e2, hq, h1, hL, h2, h3⟩, st⟩ := vx_callSW X hx (hh := hh) (bytes := bytes) (maxL := maxL) (ret := ret) ho hl hstt hini hcode hy hK hg (hsize.trans hml.symm) (argsL := As) (rest := rest) (fun sig h => hn.trans (hlen sig h)) hstack hW (by rw [hb]; exact hdg)
    (fun vm₁ hW₁ => ⟨hf.1, hf.2, hp.2 (T.setVm vm₁) hT hW₁⟩)
  dsimp only [Pt.U, Pt.locs, Pt.cells, Pt.slots] at X' e1 e2 h1 h2 h3 st
  subst h1; subst h2; subst h3
  exact ⟨v, (T.setVm vm₁).calling g' mk As.toArray, t, U', L, hT, X', hL, e1, e2, hq, st⟩
/-- not caught here, past rows that name other classes: it goes on to the caller -/
theorem vx_outP {p : Program} {l : Launch} {e : Env} {R : Room} {s : State} {m : MethodId} {args : Array Value} {below : List Frame} {meth : Method} {c : Code} {H : Heap} {locs : List Loc} {cells slots : Nat} {free : Addr → Prop} {ls : Array Slot} {rest : List Value} {Qc : Array Value → State → Outcome → State → Prop} {XC : String → State → State → Prop}
    {pc : Nat} {own E : String} {ce : Cell} {q : Addr} {mc ms : Nat} (hown : s.vm.findClass own = some m.cls) (hlocks : meth.locks = false)
    (hpass : ∀ z ∈ c.exceptionTable.toList, covers z pc = false ∨ (z.catchType ≠ 0 ∧ ∃ nm : String, (Cond.classLink own z.catchType nm).before args s = true ∧ va_Nc E nm s)) (hcell : H[q]? = some ce) (hv : ce.vm = .none) (hcl : s.vm.findClass E = some ce.cls)
    (hx : ∀ t : State, t.heap = H → s.vm.Alike t.vm → XC E s t) (hf : ∀ z ∈ locs, free z.base) (hc : cells ≤ mc) (hs : slots ≤ ms) :
    vx_W p l e R s m args below meth c H locs cells slots (vx_MQ below Qc XC args s mc ms free) (F0 m pc ls rest) q := by
  intro T hT X
  have hpl : e.platform.magicAccessors = ({} : Platform).magicAccessors := by rw [X.admits.platform]
  obtain ⟨vm', hW', X', st⟩ := X.outThrough hlocks q (g := F0 m pc ls rest) rfl rfl rfl (cell := ce) (by rw [hT]; exact hcell) (by rw [hv]; rfl)
    (by obtain ⟨k9, h9, -⟩ := Vm.findClass_spec hcl; exact ⟨k9, h9⟩) (fun z hz => by
      rcases hpass z hz with h | ⟨hz0, nm, hl1, hn1⟩
      · exact Or.inl h
      · obtain ⟨c6, hc6, hcl6⟩ := Cond.classLink_spec hown hl1 e.platform hpl
        obtain ⟨a8, b8, h1, h2, h3⟩ := hn1
        cases Option.some.inj (h1.symm.trans hcl)
        cases Option.some.inj (h2.symm.trans hc6)
        exact Or.inr ⟨hz0, _, hcl6, h3⟩)
  obtain ⟨g₀, hfr⟩ := X'.frames_eq
  have hcell9 : ((T.setVm vm').setFrames (.throwing q :: below)).heap[q]? = some ce := by
    show T.heap[q]? = some ce
    rw [hT]; exact hcell
  have hend : Ended ((T.setVm vm').setFrames (.throwing q :: below)) below (.threw q) := State.frames_setFrames _ (State.cur_lt_of_frames hfr)
  refine ⟨(T.setVm vm').setFrames (.throwing q :: below), ?_, .threw q, X'.here.running, hend, Or.inr ⟨q, rfl, E, ce, locs, hx _ hT (X'.ends _).1.alike, hcell9, hv, hcl, (X'.ends _).1, (X'.ends _).2.mono hc hs, hf⟩⟩
  rw [X.pushThrowing_eq]
  exact st
/-- a thing of a world lies in the heap -/
theorem vx_lt {D : va_G} {cl : List vw_C} {ws : va_W} {H1 : Heap} (h : va_P D cl ws H1) {k : Nat} {q : Nat × va_E} (hk : ws[k]? = some q) : q.1 < H1.size := (h k q hk).lt
end VXS
/-! ===== END ===== -/
/-! ===== BEGIN methods with a table of their own: called by a name, returning or throwing ===== -/
section VXH
/-! vx_backW, vx_callVX, vx_callSX, vx_callVW, vx_runVW, vx_runVX, vx_runSX, vx_ofWH follow the same proofs as their sisters above (Free/Laws.lean, Shelf42/LK1.lean); vx_outP calls Shelf42/NT130.lean (outThrough). -/
section
variable {l : Launch} {R : Room} {p : Program} {e : Env} {below : List Frame} {s : State} {sargs : Array Value} {y : MethodName} {len W9 : Nat}
theorem vx_backW {ws : List Cond} {rm : Room} {Pc : Array Value → State → Prop} {Qc : Array Value → State → Outcome → State → Prop} {XC : String → State → State → Prop} {mc ms : Nat} {free : Addr → Prop} {bytes : ByteArray} {maxL : Nat} {ret : Option FieldType} {hh : List (Nat × Nat × Nat × Nat)}
    (hM : vx_Met l y ws rm Pc Qc XC mc ms free) (hblind : FrameBlind Pc) (hrc : rm.cells = mc) (hrs : rm.slots = ms)
    (hframes : rm.frames + 1 ≤ R.frames) (hlocals : W9 + (maxL + 11) + rm.locals ≤ R.locals)
    (hws : ∀ w ∈ ws, ∀ a' U, s.WarmedH U.vm → w.before a' U = true) (hcode : Cond.codeWith y bytes maxL ret hh ∈ ws) (hinit : ∀ a' U, s.WarmedH U.vm → (Cond.initialized y.cls).before a' U = true) :
    vx_Back l R p e below s sargs y len W9 (PreOf R mc ms Pc) (PostOf Qc mc ms free) (vx_Post XC mc ms free) := by
  intro m meth c A g ig mk a X hg hsize hdg hW hn hp
  have h1 : (headSpec ws rm).pre.before a A.U = true := atoms_intro fun w hw => hws w hw _ _ X.warmed
  have h2 : (Cond.codeWith y bytes maxL ret hh).before a A.U = true := hws _ hcode _ _ X.warmed
  have h3 : (Cond.initialized y.cls).before a A.U = true := hinit _ _ X.warmed
  have h4 : A.cells + (headSpec ws rm).room.cells ≤ R.cells := by rw [show (headSpec ws rm).room.cells = mc from hrc]; exact hp.1
  have h5 : A.slots + (headSpec ws rm).room.slots ≤ R.slots := by rw [show (headSpec ws rm).room.slots = ms from hrs]; exact hp.2.1
  have hPc : Pc a (A.U.calling g mk a) := hblind _ _ _ _ hp.2.2
  obtain ⟨U, Ls, c0, s0⟩ := A
  dsimp only [Pt.U, Pt.locs, Pt.cells, Pt.slots] at h1 h2 h3 h4 h5 X hn hPc ⊢
  obtain ⟨m9, methY, cY, hn9, hmY, hcY, -, hlY, -⟩ := Cond.codeWith_spec h2
  cases Option.some.inj (hn9.symm.trans hn)
  obtain ⟨kY, hkY, -⟩ := className_of_methodNamed hn
  have hinitY : kY.init = .initialized := Cond.initialized_spec (findClass_of_methodNamed hn) hkY h3
  have h : At U g.method c below := by rw [hg]; exact X.here
  have hlocals9 : W9 + (maxL + 11) + (headSpec ws rm).room.locals ≤ R.locals := hlocals
  have happ : (headSpec ws rm).appliesLoose y e.platform (U.calling g mk a) = true :=
    Spec.appliesLoose_calling (g := g) h hdg hn hkY hinitY
      (X.room_calling (g := g) (R' := (headSpec ws rm).room) hsize hmY hcY hframes (by rw [hlY]; omega) h4 h5) h1
  obtain ⟨mid, hmid⟩ := h.above
  have hfr : (U.setTop g).frames = (.java g :: mid) ++ below := by rw [State.frames_setTop' g h.top, hmid]; rfl
  obtain ⟨o, s₂, hsteps, -, hend, hq⟩ := Steps.callFree hM p X.admits X.cas X.clock (acts := []) hfr happ hPc trivial
  have hq' : vx_Q Qc XC mc ms free a (U.calling g mk a) o s₂ := hq
  rw [State.frames_setTop' g h.top] at hend
  obtain ⟨g₀, hg0⟩ := Option.isSome_iff_exists.mp h.top
  obtain ⟨r, hr⟩ := State.topJava?_eq_some.mp hg0
  have hr' : (({ U with heap := s₂.heap, slotsUsed := s₂.slotsUsed } : State).setVm s₂.vm).frames = .java g₀ :: r := hr
  rcases hq' with ⟨hqc, L, hfe, hL⟩ | ⟨q, rfl, E, ce, L, hx, hce, hcv, hcl, hW₂, hsm, hL⟩
  · obtain ⟨⟨v, rfl⟩, hW₂, e2, q2, q3, q4, q5, q6⟩ := id hfe
    have e3 : s₂ = ({ (U.calling g mk a).setFrames s₂.frames with heap := s₂.heap, slotsUsed := s₂.slotsUsed } : State).setVm s₂.vm := by
      have : s₂ = ({ s₂ with vm := (U.calling g mk a).vm } : State).setVm s₂.vm := rfl
      rw [e2] at this
      exact this
    obtain ⟨c₂, i₂, len₂, hc₂, hd₂, hf₂⟩ := hend
    have hW' : U.WarmedH s₂.vm := hW₂
    have hcc : c₂ = c := by
      have h1 : s₂.code? g.method = U.code? g.method := by
        rw [State.code?_eq, State.code?_eq, hW'.alike.method?]
      exact Option.some.inj (hc₂.symm.trans (h1.trans h.code))
    subst hcc
    have hlen : len₂ = len := by rw [hdg] at hd₂; cases hd₂; rfl
    subst hlen
    have hs₂ : s₂ = (({ U with heap := s₂.heap, slotsUsed := s₂.slotsUsed } : State).setVm s₂.vm).setTop { g with pc := g.pc + len₂, stack := v.toList ++ g.stack } := by
      refine e3.trans ?_
      rw [hf₂, State.calling_eq h.top, State.setFrames_setFrames, State.setTop_of_frames _ hr', hr]
      rfl
    have hsame : U.sameButNew ({ U with heap := s₂.heap, slotsUsed := s₂.slotsUsed } : State) L mc ms := by
      refine ⟨?_, q2, q3, q4, q5, q6⟩
      obtain ⟨t, ht, -⟩ := State.frames_cons hr
      show ({ U with heap := s₂.heap, slotsUsed := s₂.slotsUsed } : State) = { U.setFrames U.frames with heap := s₂.heap, slotsUsed := s₂.slotsUsed }
      rw [State.setFrames_self ht]
    subst hg
    refine Or.inl ⟨v, ⟨(({ U with heap := s₂.heap, slotsUsed := s₂.slotsUsed } : State).setVm s₂.vm), Ls ++ L, c0 + mc, s0 + ms⟩,
      ⟨X.admits, X.cas, X.clock, X.frames, X.room, X.hears, X.method, X.code, (X.here.setHeapUsed s₂.heap s₂.slotsUsed).setVm hW'.alike, X.tail, State.WarmedH.trans X.warmed hW', X.limits, X.bytes, X.same.trans (hsame.setVm s.vm)⟩,
      ⟨g, mk, s₂, L, rfl, rfl, hqc, rfl, hL, rfl, rfl⟩, ?_⟩
    show Steps p.tables e below _ ((({ U with heap := s₂.heap, slotsUsed := s₂.slotsUsed } : State).setVm s₂.vm).setTop { g with pc := g.pc + len₂, stack := v.toList ++ g.stack })
    rw [← hs₂]
    exact hsteps
  · obtain ⟨e2, q2, q3, q4, q5, q6⟩ := id hsm
    have e3 : s₂ = ({ (U.calling g mk a).setFrames s₂.frames with heap := s₂.heap, slotsUsed := s₂.slotsUsed } : State).setVm s₂.vm := by
      have : s₂ = ({ s₂ with vm := (U.calling g mk a).vm } : State).setVm s₂.vm := rfl
      rw [e2] at this
      exact this
    have hf₂ : s₂.frames = .throwing q :: .java g :: U.frames.tail := hend
    have hW' : U.WarmedH s₂.vm := hW₂
    have hs₂ : s₂ = ((({ U with heap := s₂.heap, slotsUsed := s₂.slotsUsed } : State).setVm s₂.vm).setTop g).pushFrame (.throwing q) := by
      refine e3.trans ?_
      rw [hf₂, State.calling_eq h.top, State.setFrames_setFrames, State.pushFrame, State.frames_setTop _ hr', State.setTop_of_frames _ hr', State.setFrames_setFrames, hr]
      rfl
    have hsame : U.sameButNew ({ U with heap := s₂.heap, slotsUsed := s₂.slotsUsed } : State) L mc ms := by
      refine ⟨?_, q2, q3, q4, q5, q6⟩
      obtain ⟨t, ht, -⟩ := State.frames_cons hr
      show ({ U with heap := s₂.heap, slotsUsed := s₂.slotsUsed } : State) = { U.setFrames U.frames with heap := s₂.heap, slotsUsed := s₂.slotsUsed }
      rw [State.setFrames_self ht]
    subst hg
    refine Or.inr ⟨q, ⟨(({ U with heap := s₂.heap, slotsUsed := s₂.slotsUsed } : State).setVm s₂.vm), Ls ++ L, c0 + mc, s0 + ms⟩,
      ⟨X.admits, X.cas, X.clock, X.frames, X.room, X.hears, X.method, X.code, (X.here.setHeapUsed s₂.heap s₂.slotsUsed).setVm hW'.alike, X.tail, State.WarmedH.trans X.warmed hW', X.limits, X.bytes, X.same.trans (hsame.setVm s.vm)⟩,
      ⟨g, mk, s₂, L, E, ce, rfl, rfl, hx, hce, hcv, hcl, rfl, hL, rfl, rfl⟩, ?_⟩
    show Steps p.tables e below _ (((({ U with heap := s₂.heap, slotsUsed := s₂.slotsUsed } : State).setVm s₂.vm).setTop g).pushFrame (.throwing q))
    rw [← hs₂]
    exact hsteps
end
variable {p : Program} {l : Launch} {e : Env} {R : Room} {s : State} {m : MethodId} {args : Array Value} {below : List Frame} {meth : Method} {c : Code} {T : State} {H : Heap} {locs : List Loc} {cells slots : Nat}
theorem vx_callVX (X : Stand p l e R s m args below meth c T locs cells slots) (hexec : p.tables.exec = Jvm.exec) {own C : String} {index : Nat} {y : MethodName} {bytes : ByteArray} {maxL : Nat} {ret : Option FieldType} {hh : List (Nat × Nat × Nat × Nat)}
    (hown : s.vm.findClass own = some m.cls) (hlink : (Cond.methodLink own index y).before args s = true) (hinst : (Cond.instanceMethod y).before args s = true) (hsel : (Cond.selects C y y).before args s = true)
    (hcode : (Cond.codeWith y bytes maxL ret hh).before args s = true) (hy : y.cls ≠ "java/lang/invoke/MethodHandle" ∧ y.cls ≠ "java/lang/invoke/VarHandle")
    {W9 : Nat} {Pre : Pt → Array Value → Prop} {Post : Pt → Array Value → Option Value → Pt → Prop} {PostX : Pt → Array Value → Addr → Pt → Prop} (hK : vx_Back l R p e below s args y 3 W9 Pre Post PostX)
    {b : Addr} {cellB : Cell} (hcell : T.heap[b]? = some cellB) (hobj : cellB.vm.isStatics = false) (hcls : s.vm.findClass C = some cellB.cls)
    {g : JFrame} (hg : g.method = m) (hsize : g.locals.size = c.maxLocals) {argsL rest : List Value} (hlen : ∀ sig, parseMethodDescriptor y.desc = some sig → argsL.length = sig.parameters.length)
    (hstack : g.stack = argsL.reverse ++ .ref b :: rest) (hW : 2 * g.monitorRoom + (rest.map fun v => v.category).sum ≤ W9) (hdg : decode c.code g.pc = .ok (.invokevirtual index, 3))
    (hpre : ∀ vm₁, s.WarmedH vm₁ → Pre ⟨T.setVm vm₁, locs, cells, slots⟩ (Value.ref b :: argsL).toArray) :
    (∃ (v : Option Value) (vm₁ : Vm) (B : Pt), s.WarmedH vm₁ ∧ Stand p l e R s m args below meth c B.U B.locs B.cells B.slots ∧ Post ⟨T.setVm vm₁, locs, cells, slots⟩ (Value.ref b :: argsL).toArray v B ∧
      ∀ target, Steps p.tables e below (B.U.setTop { g with pc := g.pc + 3, stack := v.toList ++ rest }) target → Steps p.tables e below (T.setTop g) target) ∨
    (∃ (q : Addr) (vm₁ : Vm) (B : Pt), s.WarmedH vm₁ ∧ Stand p l e R s m args below meth c B.U B.locs B.cells B.slots ∧ PostX ⟨T.setVm vm₁, locs, cells, slots⟩ (Value.ref b :: argsL).toArray q B ∧
      Steps p.tables e below (T.setTop g) ((B.U.setTop { g with stack := rest }).pushFrame (.throwing q))) := by
  obtain ⟨mk, methM, hnamed, hmethM, hstM, habM⟩ := Cond.instanceMethod_spec hinst
  obtain ⟨m8, methM', cM, hn8, hmethM', -, -, -, -, -, -, hsigM⟩ := Cond.codeWith_spec hcode
  cases Option.some.inj (hn8.symm.trans hnamed)
  cases hmethM.symm.trans hmethM'
  obtain ⟨c2, r2, m2, q1, q2, q3, q4, kP, hkP, hkPi⟩ := Cond.selects_spec hsel
  cases hcls.symm.trans q1
  cases (State.methodFound?_of_named hnamed hy).symm.trans q2
  cases hnamed.symm.trans q3
  have hselP : selectMethod e.platform s.vm cellB.cls mk = .method mk := by rw [Launch.admits_selectMethod X.admits]; exact q4
  obtain ⟨vm₁, X₁, hstep₁⟩ := X.invokevirtual hexec hown hlink hnamed hmethM hstM hkP hkPi hy (a := b) (cell := cellB) hcell
    (fun z h => by rw [h] at hobj; cases hobj) hselP hmethM habM hkP hkPi (g := g) hg (argsL := argsL) (rest := rest) (hlen _ hsigM) hstack hdg
  rcases hK m meth c ⟨T.setVm vm₁, locs, cells, slots⟩ { g with stack := rest } (.invokevirtual index) mk (Value.ref b :: argsL).toArray X₁ hg hsize hdg hW (X₁.named hnamed) (hpre vm₁ X₁.warmed) with ⟨v, B, X', hpost, hsteps⟩ | ⟨q, B, X', hpost, hsteps⟩
  · exact Or.inl ⟨v, vm₁, B, X₁.warmed, X', hpost, fun target h => hstep₁ _ fun acts => by rw [doInvoke_state]; exact hsteps.trans h⟩
  · exact Or.inr ⟨q, vm₁, B, X₁.warmed, X', hpost, hstep₁ _ fun acts => by rw [doInvoke_state]; exact hsteps⟩
theorem vx_callSX (X : Stand p l e R s m args below meth c T locs cells slots) (hexec : p.tables.exec = Jvm.exec) {own : String} {index : Nat} {y : MethodName} {bytes : ByteArray} {maxL : Nat} {ret : Option FieldType} {hh : List (Nat × Nat × Nat × Nat)}
    (hown : s.vm.findClass own = some m.cls) (hlink : (Cond.methodLink own index y).before args s = true) (hstat : (Cond.static y).before args s = true) (hinit : (Cond.initialized y.cls).before args s = true)
    (hcode : (Cond.codeWith y bytes maxL ret hh).before args s = true) (hy : y.cls ≠ "java/lang/invoke/MethodHandle" ∧ y.cls ≠ "java/lang/invoke/VarHandle")
    {W9 : Nat} {Pre : Pt → Array Value → Prop} {Post : Pt → Array Value → Option Value → Pt → Prop} {PostX : Pt → Array Value → Addr → Pt → Prop} (hK : vx_Back l R p e below s args y 3 W9 Pre Post PostX)
    {g : JFrame} (hg : g.method = m) (hsize : g.locals.size = c.maxLocals) {argsL rest : List Value} (hlen : ∀ sig, parseMethodDescriptor y.desc = some sig → argsL.length = sig.parameters.length)
    (hstack : g.stack = argsL.reverse ++ rest) (hW : 2 * g.monitorRoom + (rest.map fun v => v.category).sum ≤ W9) (hdg : decode c.code g.pc = .ok (.invokestatic index, 3))
    (hpre : ∀ vm₁, s.WarmedH vm₁ → Pre ⟨T.setVm vm₁, locs, cells, slots⟩ argsL.toArray) :
    (∃ (v : Option Value) (vm₁ : Vm) (B : Pt), s.WarmedH vm₁ ∧ Stand p l e R s m args below meth c B.U B.locs B.cells B.slots ∧ Post ⟨T.setVm vm₁, locs, cells, slots⟩ argsL.toArray v B ∧
      ∀ target, Steps p.tables e below (B.U.setTop { g with pc := g.pc + 3, stack := v.toList ++ rest }) target → Steps p.tables e below (T.setTop g) target) ∨
    (∃ (q : Addr) (vm₁ : Vm) (B : Pt), s.WarmedH vm₁ ∧ Stand p l e R s m args below meth c B.U B.locs B.cells B.slots ∧ PostX ⟨T.setVm vm₁, locs, cells, slots⟩ argsL.toArray q B ∧
      Steps p.tables e below (T.setTop g) ((B.U.setTop { g with stack := rest }).pushFrame (.throwing q))) := by
  obtain ⟨mk, methM, cM, hnamed, hmethM, -, -, -, -, -, -, hsigM⟩ := Cond.codeWith_spec hcode
  have hstatic : methM.isStatic = true := Cond.static_spec hnamed hmethM hstat
  obtain ⟨kP, hkP, -⟩ := className_of_methodNamed hnamed
  have hinitP : kP.init = .initialized := Cond.initialized_spec (findClass_of_methodNamed hnamed) hkP hinit
  obtain ⟨vm₁, X₁, hstep₁⟩ := X.invokestatic hexec hown hlink hnamed hmethM hstatic hkP hinitP hy (g := g) hg (argsL := argsL) (rest := rest) (hlen _ hsigM) hstack hdg
  rcases hK m meth c ⟨T.setVm vm₁, locs, cells, slots⟩ { g with stack := rest } (.invokestatic index) mk argsL.toArray X₁ hg hsize hdg hW (X₁.named hnamed) (hpre vm₁ X₁.warmed) with ⟨v, B, X', hpost, hsteps⟩ | ⟨q, B, X', hpost, hsteps⟩
  · exact Or.inl ⟨v, vm₁, B, X₁.warmed, X', hpost, fun target h => hstep₁ _ fun acts => by rw [doInvoke_state]; exact hsteps.trans h⟩
  · exact Or.inr ⟨q, vm₁, B, X₁.warmed, X', hpost, hstep₁ _ fun acts => by rw [doInvoke_state]; exact hsteps⟩
theorem vx_callVW (X : Stand p l e R s m args below meth c T locs cells slots) (hexec : p.tables.exec = Jvm.exec) {own C : String} {index : Nat} {y : MethodName} {bytes : ByteArray} {maxL : Nat} {ret : Option FieldType} {hh : List (Nat × Nat × Nat × Nat)}
    (hown : s.vm.findClass own = some m.cls) (hlink : (Cond.methodLink own index y).before args s = true) (hinst : (Cond.instanceMethod y).before args s = true) (hsel : (Cond.selects C y y).before args s = true)
    (hcode : (Cond.codeWith y bytes maxL ret hh).before args s = true) (hy : y.cls ≠ "java/lang/invoke/MethodHandle" ∧ y.cls ≠ "java/lang/invoke/VarHandle")
    {W9 : Nat} {Pre : Pt → Array Value → Prop} {Post : Pt → Array Value → Option Value → Pt → Prop} (hK : Back l R p e below s args y 3 W9 Pre Post)
    {b : Addr} {cellB : Cell} (hcell : T.heap[b]? = some cellB) (hobj : cellB.vm.isStatics = false) (hcls : s.vm.findClass C = some cellB.cls)
    {g : JFrame} (hg : g.method = m) (hsize : g.locals.size = c.maxLocals) {argsL rest : List Value} (hlen : ∀ sig, parseMethodDescriptor y.desc = some sig → argsL.length = sig.parameters.length)
    (hstack : g.stack = argsL.reverse ++ .ref b :: rest) (hW : 2 * g.monitorRoom + (rest.map fun v => v.category).sum ≤ W9) (hdg : decode c.code g.pc = .ok (.invokevirtual index, 3))
    (hpre : ∀ vm₁, s.WarmedH vm₁ → Pre ⟨T.setVm vm₁, locs, cells, slots⟩ (Value.ref b :: argsL).toArray) :
    ∃ (v : Option Value) (vm₁ : Vm) (B : Pt), s.WarmedH vm₁ ∧ Stand p l e R s m args below meth c B.U B.locs B.cells B.slots ∧ Post ⟨T.setVm vm₁, locs, cells, slots⟩ (Value.ref b :: argsL).toArray v B ∧
      ∀ target, Steps p.tables e below (B.U.setTop { g with pc := g.pc + 3, stack := v.toList ++ rest }) target → Steps p.tables e below (T.setTop g) target := by
  obtain ⟨mk, methM, hnamed, hmethM, hstM, habM⟩ := Cond.instanceMethod_spec hinst
  obtain ⟨m8, methM', cM, hn8, hmethM', -, -, -, -, -, -, hsigM⟩ := Cond.codeWith_spec hcode
  cases Option.some.inj (hn8.symm.trans hnamed)
  cases hmethM.symm.trans hmethM'
  obtain ⟨c2, r2, m2, q1, q2, q3, q4, kP, hkP, hkPi⟩ := Cond.selects_spec hsel
  cases hcls.symm.trans q1
  cases (State.methodFound?_of_named hnamed hy).symm.trans q2
  cases hnamed.symm.trans q3
  have hselP : selectMethod e.platform s.vm cellB.cls mk = .method mk := by rw [Launch.admits_selectMethod X.admits]; exact q4
  obtain ⟨vm₁, X₁, hstep₁⟩ := X.invokevirtual hexec hown hlink hnamed hmethM hstM hkP hkPi hy (a := b) (cell := cellB) hcell
    (fun z h => by rw [h] at hobj; cases hobj) hselP hmethM habM hkP hkPi (g := g) hg (argsL := argsL) (rest := rest) (hlen _ hsigM) hstack hdg
  obtain ⟨v, B, X', hpost, hsteps⟩ := hK m meth c ⟨T.setVm vm₁, locs, cells, slots⟩ { g with stack := rest } (.invokevirtual index) mk (Value.ref b :: argsL).toArray X₁ hg hsize hdg hW (X₁.named hnamed) (hpre vm₁ X₁.warmed)
  exact ⟨v, vm₁, B, X₁.warmed, X', hpost, fun target h => hstep₁ _ fun acts => by rw [doInvoke_state]; exact hsteps.trans h⟩
abbrev vx_CVW (R : Room) (s : State) (args : Array Value) (own C : String) (index : Nat) (y : MethodName) (bytes : ByteArray) (maxL : Nat) (ret : Option FieldType) (hh : List (Nat × Nat × Nat × Nat)) (ws : List Cond) (rm : Room) (mc ms n : Nat) : Prop :=
  (rm.cells = mc ∧ rm.slots = ms ∧ rm.frames + 1 ≤ R.frames ∧ 8 + (maxL + 11) + rm.locals ≤ R.locals ∧ (∀ w ∈ ws, ∀ (a' : Array Value) (U : State), s.WarmedH U.vm → w.before a' U = true) ∧ Cond.codeWith y bytes maxL ret hh ∈ ws) ∧
  (Cond.codeWith y bytes maxL ret hh).before args s = true ∧ (Cond.initialized y.cls).before args s = true ∧ (y.cls ≠ "java/lang/invoke/MethodHandle" ∧ y.cls ≠ "java/lang/invoke/VarHandle") ∧
  (∀ sig, parseMethodDescriptor y.desc = some sig → n = sig.parameters.length) ∧ (Cond.methodLink own index y).before args s = true ∧ (Cond.instanceMethod y).before args s = true ∧ (Cond.selects C y y).before args s = true
theorem vx_cwVW {own C : String} {index maxL mc ms : Nat} {y : MethodName} {bytes : ByteArray} {ret : Option FieldType} {hh : List (Nat × Nat × Nat × Nat)} {Ts ws ws' : List Cond} {rm : Room} (n : Nat) (ht : ∀ w ∈ Ts, w.before args s = true) (hT : GoodIn Ts (wsV own index C y ws)) (hw : ws = Cond.codeWith y bytes maxL ret hh :: ws') (hrc : rm.cells = mc) (hrs : rm.slots = ms)
    (hd : y.cls = C ∧ y.cls ≠ "java/lang/invoke/MethodHandle" ∧ y.cls ≠ "java/lang/invoke/VarHandle" ∧ (parseMethodDescriptor y.desc).map (fun d => d.parameters.length) = some n) (hR : rm.frames + 1 ≤ R.frames ∧ 8 + (maxL + 11) + rm.locals ≤ R.locals) :
    vx_CVW R s args own C index y bytes maxL ret hh ws rm mc ms n := by
  obtain ⟨hC, hd⟩ := hd
  subst hC
  have ok : ∀ w ∈ wsV own index y.cls y ws, w.before args s = true := fun w h => ht w (hT w h).1
  have hG : GoodIn Ts ws := fun w h => hT w (by unfold wsV; exact List.mem_append_right _ h)
  have hc : Cond.codeWith y bytes maxL ret hh ∈ ws := by rw [hw]; exact List.mem_cons_self
  refine ⟨⟨hrc, hrs, hR.1, hR.2, pay_in ht hG, hc⟩, ht _ (hG _ hc).1, ok _ (by simp [wsV]), ⟨hd.1, hd.2.1⟩, fun sig h => ?_, ok _ (by simp [wsV]), ok _ (by simp [wsV]), ok _ (by simp [wsV])⟩
  have h2 := hd.2.2
  rw [h] at h2
  exact (Option.some.inj h2).symm
theorem vx_runVW {y : MethodName} {bytes cc : ByteArray} {maxL nL mc ms n index : Nat} {ret : Option FieldType} {hh : List (Nat × Nat × Nat × Nat)} {ws : List Cond} {rm : Room} {Pc : Array Value → State → Prop} {Qc : Array Value → State → Outcome → State → Prop} {free : Addr → Prop} {Ts : List Cond} {own C : String} {b : Addr} {As rest : List Value} {g : JFrame}
    (S : CallFix p m c cc nL s args Ts own) (hM : Met l y ws rm Pc Qc mc ms free) (cw : vx_CVW R s args own C index y bytes maxL ret hh ws rm mc ms n) (hp : PreV s H C b Pc As)
    (hg : g.method = m) (hn : As.length = n) (hsize : g.locals.size = nL) (hstack : g.stack = As.reverse ++ .ref b :: rest) (hW : 2 * g.monitorRoom + (rest.map fun v => v.category).sum ≤ 8) (hdg : decode cc g.pc = .ok (.invokevirtual index, 3)) (hf : cells + mc ≤ R.cells ∧ slots + ms ≤ R.slots) :
    va_Run p l e R s m args below meth c H locs cells slots mc ms g rest (Qc (Value.ref b :: As).toArray) free := by
  obtain ⟨⟨hrc, hrs, hfr, hlo, hws, hcw⟩, hcode, hini, hy, hlen, hl, hin, hse⟩ := cw
  have hK : Back l R p e below s args y 3 8 (PreOf R mc ms Pc) (PostOf Qc mc ms free) := va_backW (hh := hh) (bytes := bytes) (maxL := maxL) (ret := ret) hM hp.1 hrc hrs hfr hlo hws hcw (fun a' U hW => word_at hW (Or.inl (by first | rfl | simp [Cond.onTables, Cond.keeps, Cond.steady])) hini)
  obtain ⟨hx, hb, hml, ho, -⟩ := S
  obtain ⟨-, ⟨cellB, hcB, hoB, hclB⟩, hPc⟩ := hp
  intro T hT X
  obtain ⟨v, vm₁, ⟨U', l2, c2, s2⟩, hW₁, X', ⟨g', mk, t, L, e1, e2, hq, h1, hL, h2, h3⟩, st⟩ := vx_callVW X hx (C := C) (hh := hh) (bytes := bytes) (maxL := maxL) (ret := ret) ho hl hin hse hcode hy hK (by rw [hT]; exact hcB) hoB hclB hg (hsize.trans hml.symm) (argsL := As) (rest := rest) (fun sig h => hn.trans (hlen sig h)) hstack hW (by rw [hb]; exact hdg)
    (fun vm₁ hW₁ => ⟨hf.1, hf.2, hPc (T.setVm vm₁) hT hW₁⟩)
  dsimp only [Pt.U, Pt.locs, Pt.cells, Pt.slots] at X' e1 e2 h1 h2 h3 st
  subst h1; subst h2; subst h3
  exact ⟨v, (T.setVm vm₁).calling g' mk (Value.ref b :: As).toArray, t, U', L, hT, X', hL, e1, e2, hq, st⟩
section
variable {y : MethodName} {bytes cc : ByteArray} {maxL nL mc ms n index : Nat} {ret : Option FieldType} {ws : List Cond} {rm : Room} {Pc : Array Value → State → Prop} {Qc : Array Value → State → Outcome → State → Prop} {XC : String → State → State → Prop} {free : Addr → Prop} {Ts : List Cond} {own C : String} {b : Addr} {As rest : List Value} {g : JFrame}
theorem vx_runVX {hh : List (Nat × Nat × Nat × Nat)} (S : CallFix p m c cc nL s args Ts own) (hM : vx_Met l y ws rm Pc Qc XC mc ms free) (cw : vx_CVW R s args own C index y bytes maxL ret hh ws rm mc ms n) (hp : PreV s H C b Pc As)
    (hg : g.method = m) (hn : As.length = n) (hsize : g.locals.size = nL) (hstack : g.stack = As.reverse ++ .ref b :: rest) (hW : 2 * g.monitorRoom + (rest.map fun v => v.category).sum ≤ 8) (hdg : decode cc g.pc = .ok (.invokevirtual index, 3)) (hf : cells + mc ≤ R.cells ∧ slots + ms ≤ R.slots) :
    vx_Run p l e R s m args below meth c H locs cells slots mc ms g rest (Qc (Value.ref b :: As).toArray) XC free := by
  obtain ⟨⟨hrc, hrs, hfr, hlo, hws, hcw⟩, hcode, hini, hy, hlen, hl, hin, hse⟩ := cw
  have hK : vx_Back l R p e below s args y 3 8 (PreOf R mc ms Pc) (PostOf Qc mc ms free) (vx_Post XC mc ms free) := vx_backW (hh := hh) (bytes := bytes) (maxL := maxL) (ret := ret) hM hp.1 hrc hrs hfr hlo hws hcw (fun a' U hW => word_at hW (Or.inl (by first | rfl | simp [Cond.onTables, Cond.keeps, Cond.steady])) hini)
  obtain ⟨hx, hb, hml, ho, -⟩ := S
  obtain ⟨-, ⟨cellB, hcB, hoB, hclB⟩, hPc⟩ := hp
  intro T hT X
  rcases vx_callVX X hx (C := C) (hh := hh) (bytes := bytes) (maxL := maxL) (ret := ret) ho hl hin hse hcode hy hK (by rw [hT]; exact hcB) hoB hclB hg (hsize.trans hml.symm) (argsL := As) (rest := rest) (fun sig h => hn.trans (hlen sig h)) hstack hW (by rw [hb]; exact hdg)
    (fun vm₁ hW₁ => ⟨hf.1, hf.2, hPc (T.setVm vm₁) hT hW₁⟩) with ⟨v, vm₁, ⟨U', l2, c2, s2⟩, hW₁, X', ⟨g', mk, t, L, e1, e2, hq, h1, hL, h2, h3⟩, st⟩ | ⟨q, vm₁, ⟨U', l2, c2, s2⟩, hW₁, X', ⟨g', mk, t, L, E, ce, e1, e2, hq, hce, hcv, hcl, h1, hL, h2, h3⟩, st⟩
  · dsimp only [Pt.U, Pt.locs, Pt.cells, Pt.slots] at X' e1 e2 h1 h2 h3 st
    subst h1; subst h2; subst h3
    exact Or.inl ⟨v, (T.setVm vm₁).calling g' mk (Value.ref b :: As).toArray, t, U', L, hT, X', hL, e1, e2, hq, st⟩
  · dsimp only [Pt.U, Pt.locs, Pt.cells, Pt.slots] at X' e1 e2 h1 h2 h3 st hcl
    subst h1; subst h2; subst h3
    exact Or.inr ⟨q, (T.setVm vm₁).calling g' mk (Value.ref b :: As).toArray, t, U', L, E, ce, hT, X', hL, e1, e2, hq, hce, hcv, vx_cls hW₁ hcl, st⟩
theorem vx_runSX {hh : List (Nat × Nat × Nat × Nat)} (S : CallFix p m c cc nL s args Ts own) (hM : vx_Met l y ws rm Pc Qc XC mc ms free) (cw : vx_CSW R s args own index y bytes maxL ret hh ws rm mc ms n) (hp : PreS s H Pc As)
    (hg : g.method = m) (hn : As.length = n) (hsize : g.locals.size = nL) (hstack : g.stack = As.reverse ++ rest) (hW : 2 * g.monitorRoom + (rest.map fun v => v.category).sum ≤ 8) (hdg : decode cc g.pc = .ok (.invokestatic index, 3)) (hf : cells + mc ≤ R.cells ∧ slots + ms ≤ R.slots) :
    vx_Run p l e R s m args below meth c H locs cells slots mc ms g rest (Qc As.toArray) XC free := by
  obtain ⟨⟨hrc, hrs, hfr, hlo, hws, hcw⟩, hcode, hini, hy, hlen, hl, hstt⟩ := cw
  have hK : vx_Back l R p e below s args y 3 8 (PreOf R mc ms Pc) (PostOf Qc mc ms free) (vx_Post XC mc ms free) := vx_backW (hh := hh) (bytes := bytes) (maxL := maxL) (ret := ret) hM hp.1 hrc hrs hfr hlo hws hcw (fun a' U hW => word_at hW (Or.inl (by first | rfl | simp [Cond.onTables, Cond.keeps, Cond.steady])) hini)
  obtain ⟨hx, hb, hml, ho, -⟩ := S
  intro T hT X
  rcases vx_callSX X hx (hh := hh) (bytes := bytes) (maxL := maxL) (ret := ret) ho hl hstt hini hcode hy hK hg (hsize.trans hml.symm) (argsL := As) (rest := rest) (fun sig h => hn.trans (hlen sig h)) hstack hW (by rw [hb]; exact hdg)
    (fun vm₁ hW₁ => ⟨hf.1, hf.2, hp.2 (T.setVm vm₁) hT hW₁⟩) with ⟨v, vm₁, ⟨U', l2, c2, s2⟩, hW₁, X', ⟨g', mk, t, L, e1, e2, hq, h1, hL, h2, h3⟩, st⟩ | ⟨q, vm₁, ⟨U', l2, c2, s2⟩, hW₁, X', ⟨g', mk, t, L, E, ce, e1, e2, hq, hce, hcv, hcl, h1, hL, h2, h3⟩, st⟩
  · dsimp only [Pt.U, Pt.locs, Pt.cells, Pt.slots] at X' e1 e2 h1 h2 h3 st
    subst h1; subst h2; subst h3
    exact Or.inl ⟨v, (T.setVm vm₁).calling g' mk As.toArray, t, U', L, hT, X', hL, e1, e2, hq, st⟩
  · dsimp only [Pt.U, Pt.locs, Pt.cells, Pt.slots] at X' e1 e2 h1 h2 h3 st hcl
    subst h1; subst h2; subst h3
    exact Or.inr ⟨q, (T.setVm vm₁).calling g' mk As.toArray, t, U', L, E, ce, hT, X', hL, e1, e2, hq, hce, hcv, vx_cls hW₁ hcl, st⟩
end
end VXH
theorem vx_ofWH {l : Launch} {y : MethodName} {ws ws' : List Cond} {rm : Room} {Pc : Array Value → State → Prop} {Qc : Array Value → State → Outcome → State → Prop} {XC : String → State → State → Prop} {mc ms : Nat} {free : Addr → Prop} {cc : ByteArray} {maxL : Nat} {ret : Option FieldType} {hh : List (Nat × Nat × Nat × Nat)}
    (hy : plainName y.cls = true) (hw : ws = Cond.codeWith y cc maxL ret hh :: ws')
    (body : ∀ p e s m args below meth c s₁, BodyLoose p l y (headSpec ws rm) cc maxL ret e s m args below meth c s₁ → c.maxLocals = maxL → Pc args s →
      W p l e (headSpec ws rm).room s m args below meth c s.heap [] 0 0 (vx_MQ below Qc XC args s mc ms free) (entryFrame m args maxL)) : vx_Met l y ws rm Pc Qc XC mc ms free := by
  refine MetFree.of_bodyS (code := cc) (maxLocals := maxL) (ret := ret) hy ?_ ?_
  · intro args s m h hn
    obtain ⟨m9, meth, c, hn9, h1, h2, h3, h4, -, h5, h6, -⟩ := Cond.codeWith_spec (atoms_spec (ws := ws) h _ (by rw [hw]; exact List.mem_cons_self))
    cases hn.symm.trans hn9
    exact ⟨meth, c, h1, h2, h3, h4, h5, h6⟩
  · intro p e s m args below meth c s₁ B hml hP _
    have hh0 : s₁.heap = s.heap := by rw [B.state]; rfl
    obtain ⟨t, a1, o, b1, b2, b3⟩ := body p e s m args below meth c s₁ B hml hP s₁ hh0 (Stand.of_body B)
    exact ⟨t, o, a1, b1, b2, b3⟩
/-! ===== END ===== -/
end
section
def RX0 : String := "AnchorChains$Anchors"
def TX0 : u_T := fun k => match k with
  | 0 => ("AnchorChains$Anchors", "upperPlaces", "LAnchorChains$Cells;", true)
  | 1 => ("AnchorChains$Anchors", "lowerPlaces", "LAnchorChains$Cells;", true)
  | 2 => ("AnchorChains$Anchors", "many", "I", false)
  | 3 => ("AnchorChains$Anchors", "wordLength", "I", false)
  | 4 => ("AnchorChains$Anchors", "upperWords", "LAnchorChains$Cells;", true)
  | _ => ("AnchorChains$Anchors", "lowerWords", "LAnchorChains$Cells;", true)
def tyX0 : Nat → FieldType := fun k => match k with
  | 0 => .object "AnchorChains$Cells"
  | 1 => .object "AnchorChains$Cells"
  | 2 => .int
  | 3 => .int
  | 4 => .object "AnchorChains$Cells"
  | _ => .object "AnchorChains$Cells"
abbrev wsX00 : List Cond := u_ws RX0 TX0 6
theorem nmX0 : ∀ a, a < 6 → ∀ b, b < 6 → a ≠ b → (TX0 a).2.1 ≠ (TX0 b).2.1 := by decide +kernel
theorem tyX0_ok : ∀ k, k < 6 → parseFieldDescriptor (TX0 k).2.2.1 = some (tyX0 k) := by decide +kernel
abbrev cX0_init : ByteArray := prog_2_method_1_code
def yX0_init : MethodName := ⟨RX0, "<init>", "()V"⟩
abbrev cX0_find : ByteArray := prog_2_method_2_code
def yX0_find : MethodName := ⟨RX0, "find", "(LAnchorChains$State;Z)V"⟩
abbrev cX0_times : ByteArray := prog_2_method_3_code
def yX0_times : MethodName := ⟨RX0, "times", "(LAnchorChains$Cells;II)I"⟩
abbrev cX0_firstPlace : ByteArray := prog_2_method_4_code
def yX0_firstPlace : MethodName := ⟨RX0, "firstPlace", "(LAnchorChains$Cells;II)I"⟩
abbrev cX0_fit : ByteArray := prog_2_method_5_code
def yX0_fit : MethodName := ⟨RX0, "fit", "(II)Z"⟩
def RX1 : String := "AnchorChains$Cells"
def TX1 : u_T := fun k => match k with
  | _ => ("AnchorChains$Cells", "numbers", "[I", true)
def tyX1 : Nat → FieldType := fun k => match k with
  | _ => .array .int
abbrev wsX10 : List Cond := u_ws RX1 TX1 1
theorem nmX1 : ∀ a, a < 1 → ∀ b, b < 1 → a ≠ b → (TX1 a).2.1 ≠ (TX1 b).2.1 := by decide +kernel
theorem tyX1_ok : ∀ k, k < 1 → parseFieldDescriptor (TX1 k).2.2.1 = some (tyX1 k) := by decide +kernel
abbrev cX1_init : ByteArray := prog_3_method_1_code
def yX1_init : MethodName := ⟨RX1, "<init>", "(I)V"⟩
abbrev cX1_at : ByteArray := prog_3_method_2_code
def yX1_at : MethodName := ⟨RX1, "at", "(I)I"⟩
abbrev cX1_store : ByteArray := prog_3_method_3_code
def yX1_store : MethodName := ⟨RX1, "store", "(II)V"⟩
def RX2 : String := "AnchorChains$Chain"
def TX2 : u_T := fun k => match k with
  | 0 => ("AnchorChains$Chain", "members", "LAnchorChains$Cells;", true)
  | 1 => ("AnchorChains$Chain", "placeInChain", "LAnchorChains$Cells;", true)
  | 2 => ("AnchorChains$Chain", "mostUpTo", "LAnchorChains$Cells;", true)
  | 3 => ("AnchorChains$Chain", "mostFrom", "LAnchorChains$Cells;", true)
  | _ => ("AnchorChains$Chain", "many", "I", false)
def tyX2 : Nat → FieldType := fun k => match k with
  | 0 => .object "AnchorChains$Cells"
  | 1 => .object "AnchorChains$Cells"
  | 2 => .object "AnchorChains$Cells"
  | 3 => .object "AnchorChains$Cells"
  | _ => .int
abbrev wsX20 : List Cond := u_ws RX2 TX2 5
theorem nmX2 : ∀ a, a < 5 → ∀ b, b < 5 → a ≠ b → (TX2 a).2.1 ≠ (TX2 b).2.1 := by decide +kernel
theorem tyX2_ok : ∀ k, k < 5 → parseFieldDescriptor (TX2 k).2.2.1 = some (tyX2 k) := by decide +kernel
abbrev cX2_init : ByteArray := prog_4_method_1_code
def yX2_init : MethodName := ⟨RX2, "<init>", "()V"⟩
abbrev cX2_find : ByteArray := prog_4_method_2_code
def yX2_find : MethodName := ⟨RX2, "find", "(LAnchorChains$Anchors;)V"⟩
abbrev cX2_countUpTo : ByteArray := prog_4_method_3_code
def yX2_countUpTo : MethodName := ⟨RX2, "countUpTo", "(LAnchorChains$Anchors;)V"⟩
abbrev cX2_countFrom : ByteArray := prog_4_method_4_code
def yX2_countFrom : MethodName := ⟨RX2, "countFrom", "(LAnchorChains$Anchors;)V"⟩
abbrev cX2_mostOfAll : ByteArray := prog_4_method_5_code
def yX2_mostOfAll : MethodName := ⟨RX2, "mostOfAll", "(LAnchorChains$Anchors;)I"⟩
abbrev cX2_pick : ByteArray := prog_4_method_6_code
def yX2_pick : MethodName := ⟨RX2, "pick", "(LAnchorChains$Anchors;)V"⟩
def RX3 : String := "AnchorChains$Grid"
def TX3 : u_T := fun k => match k with
  | 0 => ("AnchorChains$Grid", "costs", "[I", true)
  | 1 => ("AnchorChains$Grid", "steps", "[I", true)
  | 2 => ("AnchorChains$Grid", "upperFrom", "I", false)
  | 3 => ("AnchorChains$Grid", "upperMany", "I", false)
  | 4 => ("AnchorChains$Grid", "lowerFrom", "I", false)
  | _ => ("AnchorChains$Grid", "lowerMany", "I", false)
def tyX3 : Nat → FieldType := fun k => match k with
  | 0 => .array .int
  | 1 => .array .int
  | 2 => .int
  | 3 => .int
  | 4 => .int
  | _ => .int
abbrev wsX30 : List Cond := u_ws RX3 TX3 6
theorem nmX3 : ∀ a, a < 6 → ∀ b, b < 6 → a ≠ b → (TX3 a).2.1 ≠ (TX3 b).2.1 := by decide +kernel
theorem tyX3_ok : ∀ k, k < 6 → parseFieldDescriptor (TX3 k).2.2.1 = some (tyX3 k) := by decide +kernel
abbrev cX3_init : ByteArray := prog_5_method_1_code
def yX3_init : MethodName := ⟨RX3, "<init>", "()V"⟩
abbrev cX3_layParts : ByteArray := prog_5_method_2_code
def yX3_layParts : MethodName := ⟨RX3, "layParts", "(IIII)V"⟩
abbrev cX3_costAt : ByteArray := prog_5_method_3_code
def yX3_costAt : MethodName := ⟨RX3, "costAt", "(II)I"⟩
abbrev cX3_stepAt : ByteArray := prog_5_method_4_code
def yX3_stepAt : MethodName := ⟨RX3, "stepAt", "(II)I"⟩
abbrev cX3_store : ByteArray := prog_5_method_5_code
def yX3_store : MethodName := ⟨RX3, "store", "(IIII)V"⟩
abbrev cX3_fill : ByteArray := prog_5_method_6_code
def yX3_fill : MethodName := ⟨RX3, "fill", "(LAnchorChains$State;I)I"⟩
abbrev cX3_fillCell : ByteArray := prog_5_method_7_code
def yX3_fillCell : MethodName := ⟨RX3, "fillCell", "(LAnchorChains$State;II)V"⟩
def RX4 : String := "AnchorChains$History"
def TX4 : u_T := fun k => match k with
  | 0 => ("AnchorChains$History", "cells", "LAnchorChains$Cells;", true)
  | _ => ("AnchorChains$History", "many", "I", false)
def tyX4 : Nat → FieldType := fun k => match k with
  | 0 => .object "AnchorChains$Cells"
  | _ => .int
abbrev wsX40 : List Cond := u_ws RX4 TX4 2
theorem nmX4 : ∀ a, a < 2 → ∀ b, b < 2 → a ≠ b → (TX4 a).2.1 ≠ (TX4 b).2.1 := by decide +kernel
theorem tyX4_ok : ∀ k, k < 2 → parseFieldDescriptor (TX4 k).2.2.1 = some (tyX4 k) := by decide +kernel
abbrev cX4_init : ByteArray := prog_6_method_1_code
def yX4_init : MethodName := ⟨RX4, "<init>", "()V"⟩
abbrev cX4_size : ByteArray := prog_6_method_2_code
def yX4_size : MethodName := ⟨RX4, "size", "()I"⟩
abbrev cX4_save : ByteArray := prog_6_method_3_code
def yX4_save : MethodName := ⟨RX4, "save", "(LAnchorChains$State;)V"⟩
abbrev cX4_dropOldest : ByteArray := prog_6_method_4_code
def yX4_dropOldest : MethodName := ⟨RX4, "dropOldest", "()V"⟩
abbrev cX4_giveBack : ByteArray := prog_6_method_5_code
def yX4_giveBack : MethodName := ⟨RX4, "giveBack", "(LAnchorChains$State;)V"⟩
def RX5 : String := "AnchorChains$Lineup"
def TX5 : u_T := fun k => match k with
  | 0 => ("AnchorChains$Lineup", "anchors", "LAnchorChains$Anchors;", true)
  | 1 => ("AnchorChains$Lineup", "chain", "LAnchorChains$Chain;", true)
  | 2 => ("AnchorChains$Lineup", "gaps", "I", false)
  | 3 => ("AnchorChains$Lineup", "cost", "I", false)
  | 4 => ("AnchorChains$Lineup", "grid", "LAnchorChains$Grid;", true)
  | 5 => ("AnchorChains$Lineup", "gapProperties", "LAnchorChains$Cells;", true)
  | 6 => ("AnchorChains$Lineup", "upperPartners", "LAnchorChains$Cells;", true)
  | _ => ("AnchorChains$Lineup", "lowerPartners", "LAnchorChains$Cells;", true)
def tyX5 : Nat → FieldType := fun k => match k with
  | 0 => .object "AnchorChains$Anchors"
  | 1 => .object "AnchorChains$Chain"
  | 2 => .int
  | 3 => .int
  | 4 => .object "AnchorChains$Grid"
  | 5 => .object "AnchorChains$Cells"
  | 6 => .object "AnchorChains$Cells"
  | _ => .object "AnchorChains$Cells"
abbrev wsX50 : List Cond := u_ws RX5 TX5 8
theorem nmX5 : ∀ a, a < 8 → ∀ b, b < 8 → a ≠ b → (TX5 a).2.1 ≠ (TX5 b).2.1 := by decide +kernel
theorem tyX5_ok : ∀ k, k < 8 → parseFieldDescriptor (TX5 k).2.2.1 = some (tyX5 k) := by decide +kernel
abbrev cX5_init : ByteArray := prog_7_method_1_code
def yX5_init : MethodName := ⟨RX5, "<init>", "()V"⟩
abbrev cX5_build : ByteArray := prog_7_method_2_code
def yX5_build : MethodName := ⟨RX5, "build", "(LAnchorChains$State;)I"⟩
abbrev cX5_forget : ByteArray := prog_7_method_3_code
def yX5_forget : MethodName := ⟨RX5, "forget", "()V"⟩
abbrev cX5_pairPlaces : ByteArray := prog_7_method_4_code
def yX5_pairPlaces : MethodName := ⟨RX5, "pairPlaces", "(II)V"⟩
abbrev cX5_pairWord : ByteArray := prog_7_method_5_code
def yX5_pairWord : MethodName := ⟨RX5, "pairWord", "(II)V"⟩
abbrev cX5_closeGap : ByteArray := prog_7_method_6_code
def yX5_closeGap : MethodName := ⟨RX5, "closeGap", "(LAnchorChains$State;IIII)V"⟩
abbrev cX5_pairGap : ByteArray := prog_7_method_7_code
def yX5_pairGap : MethodName := ⟨RX5, "pairGap", "()V"⟩
abbrev cX5_freeCost : ByteArray := prog_7_method_8_code
def yX5_freeCost : MethodName := ⟨RX5, "freeCost", "(LAnchorChains$State;)I"⟩
abbrev cX5_partnersOf : ByteArray := prog_7_method_9_code
def yX5_partnersOf : MethodName := ⟨RX5, "partnersOf", "(I)LAnchorChains$Cells;"⟩
abbrev cX5_anchorProperty : ByteArray := prog_7_method_10_code
def yX5_anchorProperty : MethodName := ⟨RX5, "anchorProperty", "(II)I"⟩
abbrev cX5_gapProperty : ByteArray := prog_7_method_11_code
def yX5_gapProperty : MethodName := ⟨RX5, "gapProperty", "(II)I"⟩
abbrev cX5_likePairs : ByteArray := prog_7_method_12_code
def yX5_likePairs : MethodName := ⟨RX5, "likePairs", "(LAnchorChains$State;)I"⟩
abbrev cX5_leftOut : ByteArray := prog_7_method_13_code
def yX5_leftOut : MethodName := ⟨RX5, "leftOut", "(II)I"⟩
def RX6 : String := "AnchorChains$Row"
def TX6 : u_T := fun k => match k with
  | 0 => ("AnchorChains$Row", "signs", "[I", true)
  | _ => ("AnchorChains$Row", "many", "I", false)
def tyX6 : Nat → FieldType := fun k => match k with
  | 0 => .array .int
  | _ => .int
abbrev wsX60 : List Cond := u_ws RX6 TX6 2
theorem nmX6 : ∀ a, a < 2 → ∀ b, b < 2 → a ≠ b → (TX6 a).2.1 ≠ (TX6 b).2.1 := by decide +kernel
theorem tyX6_ok : ∀ k, k < 2 → parseFieldDescriptor (TX6 k).2.2.1 = some (tyX6 k) := by decide +kernel
abbrev cX6_init : ByteArray := prog_8_method_1_code
def yX6_init : MethodName := ⟨RX6, "<init>", "()V"⟩
abbrev cX6_size : ByteArray := prog_8_method_2_code
def yX6_size : MethodName := ⟨RX6, "size", "()I"⟩
abbrev cX6_has : ByteArray := prog_8_method_3_code
def yX6_has : MethodName := ⟨RX6, "has", "(I)Z"⟩
abbrev cX6_signAt : ByteArray := prog_8_method_4_code
def yX6_signAt : MethodName := ⟨RX6, "signAt", "(I)I"⟩
abbrev cX6_write : ByteArray := prog_8_method_5_code
def yX6_write : MethodName := ⟨RX6, "write", "(II)V"⟩
abbrev cX6_clear : ByteArray := prog_8_method_6_code
def yX6_clear : MethodName := ⟨RX6, "clear", "()V"⟩
abbrev cX6_extend : ByteArray := prog_8_method_7_code
def yX6_extend : MethodName := ⟨RX6, "extend", "(I)V"⟩
abbrev cX6_insert : ByteArray := prog_8_method_8_code
def yX6_insert : MethodName := ⟨RX6, "insert", "(II)V"⟩
abbrev cX6_remove : ByteArray := prog_8_method_9_code
def yX6_remove : MethodName := ⟨RX6, "remove", "(II)V"⟩
abbrev cX6_reverse : ByteArray := prog_8_method_10_code
def yX6_reverse : MethodName := ⟨RX6, "reverse", "(II)I"⟩
abbrev cX6_takeRow : ByteArray := prog_8_method_11_code
def yX6_takeRow : MethodName := ⟨RX6, "takeRow", "(LAnchorChains$Row;)V"⟩
abbrev cX6_wordAt : ByteArray := prog_8_method_12_code
def yX6_wordAt : MethodName := ⟨RX6, "wordAt", "(IIZ)I"⟩
abbrev cX6_listWords : ByteArray := prog_8_method_13_code
def yX6_listWords : MethodName := ⟨RX6, "listWords", "(LAnchorChains$Cells;IZ)I"⟩
abbrev cX6_alikeFrom : ByteArray := prog_8_method_14_code
def yX6_alikeFrom : MethodName := ⟨RX6, "alikeFrom", "(II)I"⟩
abbrev cX6_againLength : ByteArray := prog_8_method_15_code
def yX6_againLength : MethodName := ⟨RX6, "againLength", "(I)I"⟩
abbrev cX6_stretchProperty : ByteArray := prog_8_method_16_code
def yX6_stretchProperty : MethodName := ⟨RX6, "stretchProperty", "(I)I"⟩
abbrev cX6_placesOfStretch : ByteArray := prog_8_method_17_code
def yX6_placesOfStretch : MethodName := ⟨RX6, "placesOfStretch", "(II)I"⟩
def RX7 : String := "AnchorChains$State"
def TX7 : u_T := fun k => match k with
  | 0 => ("AnchorChains$State", "upper", "LAnchorChains$Row;", true)
  | 1 => ("AnchorChains$State", "lower", "LAnchorChains$Row;", true)
  | _ => ("AnchorChains$State", "settings", "LAnchorChains$Cells;", true)
def tyX7 : Nat → FieldType := fun k => match k with
  | 0 => .object "AnchorChains$Row"
  | 1 => .object "AnchorChains$Row"
  | _ => .object "AnchorChains$Cells"
abbrev wsX70 : List Cond := u_ws RX7 TX7 3
theorem nmX7 : ∀ a, a < 3 → ∀ b, b < 3 → a ≠ b → (TX7 a).2.1 ≠ (TX7 b).2.1 := by decide +kernel
theorem tyX7_ok : ∀ k, k < 3 → parseFieldDescriptor (TX7 k).2.2.1 = some (tyX7 k) := by decide +kernel
abbrev cX7_init : ByteArray := prog_9_method_1_code
def yX7_init : MethodName := ⟨RX7, "<init>", "()V"⟩
abbrev cX7_rowOf : ByteArray := prog_9_method_2_code
def yX7_rowOf : MethodName := ⟨RX7, "rowOf", "(I)LAnchorChains$Row;"⟩
abbrev cX7_signs : ByteArray := prog_9_method_3_code
def yX7_signs : MethodName := ⟨RX7, "signs", "()I"⟩
abbrev cX7_exchangeRows : ByteArray := prog_9_method_4_code
def yX7_exchangeRows : MethodName := ⟨RX7, "exchangeRows", "()V"⟩
abbrev cX7_takeRows : ByteArray := prog_9_method_5_code
def yX7_takeRows : MethodName := ⟨RX7, "takeRows", "(LAnchorChains$State;)V"⟩
abbrev cX7_takeAll : ByteArray := prog_9_method_6_code
def yX7_takeAll : MethodName := ⟨RX7, "takeAll", "(LAnchorChains$State;)V"⟩
abbrev cX7_writeTo : ByteArray := prog_9_method_7_code
def yX7_writeTo : MethodName := ⟨RX7, "writeTo", "(LAnchorChains$Cells;I)V"⟩
abbrev cX7_readFrom : ByteArray := prog_9_method_8_code
def yX7_readFrom : MethodName := ⟨RX7, "readFrom", "(LAnchorChains$Cells;I)V"⟩
def RX8 : String := "AnchorChains$Text"
def TX8 : u_T := fun k => match k with
  | 0 => ("AnchorChains$Text", "codes", "LAnchorChains$Cells;", true)
  | _ => ("AnchorChains$Text", "many", "I", false)
def tyX8 : Nat → FieldType := fun k => match k with
  | 0 => .object "AnchorChains$Cells"
  | _ => .int
abbrev wsX80 : List Cond := u_ws RX8 TX8 2
theorem nmX8 : ∀ a, a < 2 → ∀ b, b < 2 → a ≠ b → (TX8 a).2.1 ≠ (TX8 b).2.1 := by decide +kernel
theorem tyX8_ok : ∀ k, k < 2 → parseFieldDescriptor (TX8 k).2.2.1 = some (tyX8 k) := by decide +kernel
abbrev cX8_init : ByteArray := prog_10_method_1_code
def yX8_init : MethodName := ⟨RX8, "<init>", "()V"⟩
abbrev cX8_size : ByteArray := prog_10_method_2_code
def yX8_size : MethodName := ⟨RX8, "size", "()I"⟩
abbrev cX8_codeAt : ByteArray := prog_10_method_3_code
def yX8_codeAt : MethodName := ⟨RX8, "codeAt", "(I)I"⟩
abbrev cX8_add : ByteArray := prog_10_method_4_code
def yX8_add : MethodName := ⟨RX8, "add", "(I)V"⟩
abbrev cX8_clear : ByteArray := prog_10_method_5_code
def yX8_clear : MethodName := ⟨RX8, "clear", "()V"⟩
abbrev cX8_isLetter : ByteArray := prog_10_method_6_code
def yX8_isLetter : MethodName := ⟨RX8, "isLetter", "(I)Z"⟩
abbrev cX8_isNumber : ByteArray := prog_10_method_7_code
def yX8_isNumber : MethodName := ⟨RX8, "isNumber", "(I)Z"⟩
abbrev cX8_faultPlace : ByteArray := prog_10_method_8_code
def yX8_faultPlace : MethodName := ⟨RX8, "faultPlace", "()I"⟩
abbrev cX8_isPairOfRows : ByteArray := prog_10_method_9_code
def yX8_isPairOfRows : MethodName := ⟨RX8, "isPairOfRows", "()Z"⟩
abbrev cX8_writeRows : ByteArray := prog_10_method_10_code
def yX8_writeRows : MethodName := ⟨RX8, "writeRows", "(LAnchorChains$State;)V"⟩
abbrev cX8_repeatLast : ByteArray := prog_10_method_11_code
def yX8_repeatLast : MethodName := ⟨RX8, "repeatLast", "(LAnchorChains$Row;I)V"⟩
def RX9 : String := "AnchorChains$Turnings"
def TX9 : u_T := fun k => match k with
  | 0 => ("AnchorChains$Turnings", "anchors", "LAnchorChains$Anchors;", true)
  | 1 => ("AnchorChains$Turnings", "stretches", "I", false)
  | 2 => ("AnchorChains$Turnings", "longest", "I", false)
  | _ => ("AnchorChains$Turnings", "stretchOf", "LAnchorChains$Cells;", true)
def tyX9 : Nat → FieldType := fun k => match k with
  | 0 => .object "AnchorChains$Anchors"
  | 1 => .int
  | 2 => .int
  | _ => .object "AnchorChains$Cells"
abbrev wsX90 : List Cond := u_ws RX9 TX9 4
theorem nmX9 : ∀ a, a < 4 → ∀ b, b < 4 → a ≠ b → (TX9 a).2.1 ≠ (TX9 b).2.1 := by decide +kernel
theorem tyX9_ok : ∀ k, k < 4 → parseFieldDescriptor (TX9 k).2.2.1 = some (tyX9 k) := by decide +kernel
abbrev cX9_init : ByteArray := prog_11_method_1_code
def yX9_init : MethodName := ⟨RX9, "<init>", "()V"⟩
abbrev cX9_find : ByteArray := prog_11_method_2_code
def yX9_find : MethodName := ⟨RX9, "find", "(LAnchorChains$State;)V"⟩
abbrev cX9_property : ByteArray := prog_11_method_3_code
def yX9_property : MethodName := ⟨RX9, "property", "(II)I"⟩
def RX10 : String := "AnchorChains"
def TX10 : u_T := fun k => match k with
  | 0 => ("AnchorChains", "now", "LAnchorChains$State;", true)
  | 1 => ("AnchorChains", "trial", "LAnchorChains$State;", true)
  | 2 => ("AnchorChains", "firstSnapshot", "LAnchorChains$State;", true)
  | 3 => ("AnchorChains", "secondSnapshot", "LAnchorChains$State;", true)
  | 4 => ("AnchorChains", "firstTaken", "Z", false)
  | 5 => ("AnchorChains", "secondTaken", "Z", false)
  | 6 => ("AnchorChains", "history", "LAnchorChains$History;", true)
  | 7 => ("AnchorChains", "text", "LAnchorChains$Text;", true)
  | 8 => ("AnchorChains", "lineup", "LAnchorChains$Lineup;", true)
  | 9 => ("AnchorChains", "trialLineup", "LAnchorChains$Lineup;", true)
  | 10 => ("AnchorChains", "turnings", "LAnchorChains$Turnings;", true)
  | _ => ("AnchorChains", "stale", "Z", false)
def tyX10 : Nat → FieldType := fun k => match k with
  | 0 => .object "AnchorChains$State"
  | 1 => .object "AnchorChains$State"
  | 2 => .object "AnchorChains$State"
  | 3 => .object "AnchorChains$State"
  | 4 => .boolean
  | 5 => .boolean
  | 6 => .object "AnchorChains$History"
  | 7 => .object "AnchorChains$Text"
  | 8 => .object "AnchorChains$Lineup"
  | 9 => .object "AnchorChains$Lineup"
  | 10 => .object "AnchorChains$Turnings"
  | _ => .boolean
abbrev wsX100 : List Cond := u_ws RX10 TX10 12
theorem nmX10 : ∀ a, a < 12 → ∀ b, b < 12 → a ≠ b → (TX10 a).2.1 ≠ (TX10 b).2.1 := by decide +kernel
theorem tyX10_ok : ∀ k, k < 12 → parseFieldDescriptor (TX10 k).2.2.1 = some (tyX10 k) := by decide +kernel
abbrev cX10_init : ByteArray := prog_1_method_1_code
def yX10_init : MethodName := ⟨RX10, "<init>", "()V"⟩
abbrev cX10_put : ByteArray := prog_1_method_2_code
def yX10_put : MethodName := ⟨RX10, "put", "(III)I"⟩
abbrev cX10_take : ByteArray := prog_1_method_3_code
def yX10_take : MethodName := ⟨RX10, "take", "(III)I"⟩
abbrev cX10_change : ByteArray := prog_1_method_4_code
def yX10_change : MethodName := ⟨RX10, "change", "(III)I"⟩
abbrev cX10_turn : ByteArray := prog_1_method_5_code
def yX10_turn : MethodName := ⟨RX10, "turn", "(III)I"⟩
abbrev cX10_copy : ByteArray := prog_1_method_6_code
def yX10_copy : MethodName := ⟨RX10, "copy", "(IIII)I"⟩
abbrev cX10_exchange : ByteArray := prog_1_method_7_code
def yX10_exchange : MethodName := ⟨RX10, "exchange", "()I"⟩
abbrev cX10_set : ByteArray := prog_1_method_8_code
def yX10_set : MethodName := ⟨RX10, "set", "(II)I"⟩
abbrev cX10_append : ByteArray := prog_1_method_9_code
def yX10_append : MethodName := ⟨RX10, "append", "(I)I"⟩
abbrev cX10_clearBuffer : ByteArray := prog_1_method_10_code
def yX10_clearBuffer : MethodName := ⟨RX10, "clearBuffer", "()I"⟩
abbrev cX10_firstError : ByteArray := prog_1_method_11_code
def yX10_firstError : MethodName := ⟨RX10, "firstError", "()I"⟩
abbrev cX10_read : ByteArray := prog_1_method_12_code
def yX10_read : MethodName := ⟨RX10, "read", "()I"⟩
abbrev cX10_keep : ByteArray := prog_1_method_13_code
def yX10_keep : MethodName := ⟨RX10, "keep", "(I)I"⟩
abbrev cX10_restore : ByteArray := prog_1_method_14_code
def yX10_restore : MethodName := ⟨RX10, "restore", "(I)I"⟩
abbrev cX10_undo : ByteArray := prog_1_method_15_code
def yX10_undo : MethodName := ⟨RX10, "undo", "()I"⟩
abbrev cX10_sign : ByteArray := prog_1_method_16_code
def yX10_sign : MethodName := ⟨RX10, "sign", "(II)I"⟩
abbrev cX10_anchor : ByteArray := prog_1_method_17_code
def yX10_anchor : MethodName := ⟨RX10, "anchor", "(II)I"⟩
abbrev cX10_turned : ByteArray := prog_1_method_18_code
def yX10_turned : MethodName := ⟨RX10, "turned", "(II)I"⟩
abbrev cX10_gap : ByteArray := prog_1_method_19_code
def yX10_gap : MethodName := ⟨RX10, "gap", "(II)I"⟩
abbrev cX10_partner : ByteArray := prog_1_method_20_code
def yX10_partner : MethodName := ⟨RX10, "partner", "(II)I"⟩
abbrev cX10_doubled : ByteArray := prog_1_method_21_code
def yX10_doubled : MethodName := ⟨RX10, "doubled", "(II)I"⟩
abbrev cX10_count : ByteArray := prog_1_method_22_code
def yX10_count : MethodName := ⟨RX10, "count", "(I)I"⟩
abbrev cX10_setting : ByteArray := prog_1_method_23_code
def yX10_setting : MethodName := ⟨RX10, "setting", "(I)I"⟩
abbrev cX10_ifSet : ByteArray := prog_1_method_24_code
def yX10_ifSet : MethodName := ⟨RX10, "ifSet", "(II)I"⟩
abbrev cX10_ifChanged : ByteArray := prog_1_method_25_code
def yX10_ifChanged : MethodName := ⟨RX10, "ifChanged", "(III)I"⟩
abbrev cX10_bestLength : ByteArray := prog_1_method_26_code
def yX10_bestLength : MethodName := ⟨RX10, "bestLength", "()I"⟩
abbrev cX10_likeShare : ByteArray := prog_1_method_27_code
def yX10_likeShare : MethodName := ⟨RX10, "likeShare", "()D"⟩
abbrev cX10_digest : ByteArray := prog_1_method_28_code
def yX10_digest : MethodName := ⟨RX10, "digest", "()J"⟩
abbrev cX10_isRow : ByteArray := prog_1_method_29_code
def yX10_isRow : MethodName := ⟨RX10, "isRow", "(I)Z"⟩
abbrev cX10_isPlace : ByteArray := prog_1_method_30_code
def yX10_isPlace : MethodName := ⟨RX10, "isPlace", "(II)Z"⟩
abbrev cX10_isSign : ByteArray := prog_1_method_31_code
def yX10_isSign : MethodName := ⟨RX10, "isSign", "(I)Z"⟩
abbrev cX10_isSetting : ByteArray := prog_1_method_32_code
def yX10_isSetting : MethodName := ⟨RX10, "isSetting", "(I)Z"⟩
abbrev cX10_isValueOf : ByteArray := prog_1_method_33_code
def yX10_isValueOf : MethodName := ⟨RX10, "isValueOf", "(II)Z"⟩
abbrev cX10_isSnapshot : ByteArray := prog_1_method_34_code
def yX10_isSnapshot : MethodName := ⟨RX10, "isSnapshot", "(I)Z"⟩
abbrev cX10_snapshotOf : ByteArray := prog_1_method_35_code
def yX10_snapshotOf : MethodName := ⟨RX10, "snapshotOf", "(I)LAnchorChains$State;"⟩
abbrev cX10_saveState : ByteArray := prog_1_method_36_code
def yX10_saveState : MethodName := ⟨RX10, "saveState", "()V"⟩
abbrev cX10_refresh : ByteArray := prog_1_method_37_code
def yX10_refresh : MethodName := ⟨RX10, "refresh", "()V"⟩
abbrev cX10_numberOf : ByteArray := prog_1_method_38_code
def yX10_numberOf : MethodName := ⟨RX10, "numberOf", "(I)I"⟩
abbrev cX10_shareOfLikeSigns : ByteArray := prog_1_method_39_code
def yX10_shareOfLikeSigns : MethodName := ⟨RX10, "shareOfLikeSigns", "()D"⟩
abbrev cX10_costWithSetting : ByteArray := prog_1_method_40_code
def yX10_costWithSetting : MethodName := ⟨RX10, "costWithSetting", "(II)I"⟩
abbrev cX10_costWithSign : ByteArray := prog_1_method_41_code
def yX10_costWithSign : MethodName := ⟨RX10, "costWithSign", "(III)I"⟩
abbrev cX10_bestWordLength : ByteArray := prog_1_method_42_code
def yX10_bestWordLength : MethodName := ⟨RX10, "bestWordLength", "()I"⟩
abbrev cX10_fold : ByteArray := prog_1_method_43_code
def yX10_fold : MethodName := ⟨RX10, "fold", "(JJ)J"⟩
abbrev cX10_foldRow : ByteArray := prog_1_method_44_code
def yX10_foldRow : MethodName := ⟨RX10, "foldRow", "(JI)J"⟩
abbrev cX10_foldAnchors : ByteArray := prog_1_method_45_code
def yX10_foldAnchors : MethodName := ⟨RX10, "foldAnchors", "(J)J"⟩
abbrev cX10_foldGaps : ByteArray := prog_1_method_46_code
def yX10_foldGaps : MethodName := ⟨RX10, "foldGaps", "(J)J"⟩
abbrev cX10_foldText : ByteArray := prog_1_method_47_code
def yX10_foldText : MethodName := ⟨RX10, "foldText", "(J)J"⟩
abbrev cX10_bitsOfShare : ByteArray := prog_1_method_48_code
def yX10_bitsOfShare : MethodName := ⟨RX10, "bitsOfShare", "(D)J"⟩
def RX11 : String := "AnchorChainsModel"
def TX11 : u_T := fun k => match k with
  | 0 => ("AnchorChainsModel", "z", "[I", true)
  | 1 => ("AnchorChainsModel", "states", "I", false)
  | 2 => ("AnchorChainsModel", "history", "[I", true)
  | 3 => ("AnchorChainsModel", "snaps", "[I", true)
  | 4 => ("AnchorChainsModel", "taken", "[I", true)
  | 5 => ("AnchorChainsModel", "length", "I", false)
  | 6 => ("AnchorChainsModel", "text", "[I", true)
  | 7 => ("AnchorChainsModel", "thrown", "I", false)
  | 8 => ("AnchorChainsModel", "upper", "[I", true)
  | 9 => ("AnchorChainsModel", "lower", "[I", true)
  | 10 => ("AnchorChainsModel", "anchors", "I", false)
  | 11 => ("AnchorChainsModel", "turnedUpper", "[I", true)
  | 12 => ("AnchorChainsModel", "turnedLower", "[I", true)
  | 13 => ("AnchorChainsModel", "turnedOnes", "I", false)
  | 14 => ("AnchorChainsModel", "onward", "[I", true)
  | 15 => ("AnchorChainsModel", "upTo", "[I", true)
  | 16 => ("AnchorChainsModel", "placeInChain", "[I", true)
  | 17 => ("AnchorChainsModel", "chain", "[I", true)
  | 18 => ("AnchorChainsModel", "linked", "I", false)
  | 19 => ("AnchorChainsModel", "gapPlace", "[I", true)
  | 20 => ("AnchorChainsModel", "gapSigns", "[I", true)
  | 21 => ("AnchorChainsModel", "gapCost", "[I", true)
  | 22 => ("AnchorChainsModel", "gaps", "I", false)
  | 23 => ("AnchorChainsModel", "partners", "[I", true)
  | 24 => ("AnchorChainsModel", "least", "[I", true)
  | 25 => ("AnchorChainsModel", "told", "[I", true)
  | 26 => ("AnchorChainsModel", "toldMany", "[I", true)
  | 27 => ("AnchorChainsModel", "rowRead", "I", false)
  | 28 => ("AnchorChainsModel", "isOpen", "Z", false)
  | _ => ("AnchorChainsModel", "hash", "J", false)
def tyX11 : Nat → FieldType := fun k => match k with
  | 0 => .array .int
  | 1 => .int
  | 2 => .array .int
  | 3 => .array .int
  | 4 => .array .int
  | 5 => .int
  | 6 => .array .int
  | 7 => .int
  | 8 => .array .int
  | 9 => .array .int
  | 10 => .int
  | 11 => .array .int
  | 12 => .array .int
  | 13 => .int
  | 14 => .array .int
  | 15 => .array .int
  | 16 => .array .int
  | 17 => .array .int
  | 18 => .int
  | 19 => .array .int
  | 20 => .array .int
  | 21 => .array .int
  | 22 => .int
  | 23 => .array .int
  | 24 => .array .int
  | 25 => .array .int
  | 26 => .array .int
  | 27 => .int
  | 28 => .boolean
  | _ => .long
abbrev wsX110 : List Cond := u_ws RX11 TX11 30
theorem nmX11 : ∀ a, a < 30 → ∀ b, b < 30 → a ≠ b → (TX11 a).2.1 ≠ (TX11 b).2.1 := by decide +kernel
theorem tyX11_ok : ∀ k, k < 30 → parseFieldDescriptor (TX11 k).2.2.1 = some (tyX11 k) := by decide +kernel
abbrev cX11_init : ByteArray := prog_13_method_1_code
def yX11_init : MethodName := ⟨RX11, "<init>", "()V"⟩
abbrev cX11_thrown : ByteArray := prog_13_method_2_code
def yX11_thrown : MethodName := ⟨RX11, "thrown", "()I"⟩
abbrev cX11_within : ByteArray := prog_13_method_3_code
def yX11_within : MethodName := ⟨RX11, "within", "(III)Z"⟩
abbrev cX11_save : ByteArray := prog_13_method_4_code
def yX11_save : MethodName := ⟨RX11, "save", "()V"⟩
abbrev cX11_signs : ByteArray := prog_13_method_5_code
def yX11_signs : MethodName := ⟨RX11, "signs", "(I)I"⟩
abbrev cX11_at : ByteArray := prog_13_method_6_code
def yX11_at : MethodName := ⟨RX11, "at", "(II)I"⟩
abbrev cX11_lay : ByteArray := prog_13_method_7_code
def yX11_lay : MethodName := ⟨RX11, "lay", "(III)V"⟩
abbrev cX11_isRow : ByteArray := prog_13_method_8_code
def yX11_isRow : MethodName := ⟨RX11, "isRow", "(I)Z"⟩
abbrev cX11_isPlace : ByteArray := prog_13_method_9_code
def yX11_isPlace : MethodName := ⟨RX11, "isPlace", "(II)Z"⟩
abbrev cX11_isSign : ByteArray := prog_13_method_10_code
def yX11_isSign : MethodName := ⟨RX11, "isSign", "(I)Z"⟩
abbrev cX11_stands : ByteArray := prog_13_method_11_code
def yX11_stands : MethodName := ⟨RX11, "stands", "(IIIZ)Z"⟩
abbrev cX11_onlyPlace : ByteArray := prog_13_method_12_code
def yX11_onlyPlace : MethodName := ⟨RX11, "onlyPlace", "(IIZ)I"⟩
abbrev cX11_layAnchors : ByteArray := prog_13_method_13_code
def yX11_layAnchors : MethodName := ⟨RX11, "layAnchors", "()V"⟩
abbrev cX11_fit : ByteArray := prog_13_method_14_code
def yX11_fit : MethodName := ⟨RX11, "fit", "(II)Z"⟩
abbrev cX11_layChain : ByteArray := prog_13_method_15_code
def yX11_layChain : MethodName := ⟨RX11, "layChain", "()V"⟩
abbrev cX11_layLeast : ByteArray := prog_13_method_16_code
def yX11_layLeast : MethodName := ⟨RX11, "layLeast", "(IIIII)V"⟩
abbrev cX11_bandFor : ByteArray := prog_13_method_17_code
def yX11_bandFor : MethodName := ⟨RX11, "bandFor", "(III)I"⟩
abbrev cX11_lineUp : ByteArray := prog_13_method_18_code
def yX11_lineUp : MethodName := ⟨RX11, "lineUp", "(II)V"⟩
abbrev cX11_goBack : ByteArray := prog_13_method_19_code
def yX11_goBack : MethodName := ⟨RX11, "goBack", "(IIII)V"⟩
abbrev cX11_addGap : ByteArray := prog_13_method_20_code
def yX11_addGap : MethodName := ⟨RX11, "addGap", "(IIII)V"⟩
abbrev cX11_layAll : ByteArray := prog_13_method_21_code
def yX11_layAll : MethodName := ⟨RX11, "layAll", "()V"⟩
abbrev cX11_costNow : ByteArray := prog_13_method_22_code
def yX11_costNow : MethodName := ⟨RX11, "costNow", "()I"⟩
abbrev cX11_freeCost : ByteArray := prog_13_method_23_code
def yX11_freeCost : MethodName := ⟨RX11, "freeCost", "()I"⟩
abbrev cX11_put : ByteArray := prog_13_method_24_code
def yX11_put : MethodName := ⟨RX11, "put", "(III)I"⟩
abbrev cX11_take : ByteArray := prog_13_method_25_code
def yX11_take : MethodName := ⟨RX11, "take", "(III)I"⟩
abbrev cX11_change : ByteArray := prog_13_method_26_code
def yX11_change : MethodName := ⟨RX11, "change", "(III)I"⟩
abbrev cX11_turn : ByteArray := prog_13_method_27_code
def yX11_turn : MethodName := ⟨RX11, "turn", "(III)I"⟩
abbrev cX11_copy : ByteArray := prog_13_method_28_code
def yX11_copy : MethodName := ⟨RX11, "copy", "(IIII)I"⟩
abbrev cX11_exchange : ByteArray := prog_13_method_29_code
def yX11_exchange : MethodName := ⟨RX11, "exchange", "()I"⟩
abbrev cX11_isSetting : ByteArray := prog_13_method_30_code
def yX11_isSetting : MethodName := ⟨RX11, "isSetting", "(I)Z"⟩
abbrev cX11_isValue : ByteArray := prog_13_method_31_code
def yX11_isValue : MethodName := ⟨RX11, "isValue", "(II)Z"⟩
abbrev cX11_set : ByteArray := prog_13_method_32_code
def yX11_set : MethodName := ⟨RX11, "set", "(II)I"⟩
abbrev cX11_append : ByteArray := prog_13_method_33_code
def yX11_append : MethodName := ⟨RX11, "append", "(I)I"⟩
abbrev cX11_clearBuffer : ByteArray := prog_13_method_34_code
def yX11_clearBuffer : MethodName := ⟨RX11, "clearBuffer", "()I"⟩
abbrev cX11_takes : ByteArray := prog_13_method_35_code
def yX11_takes : MethodName := ⟨RX11, "takes", "(I)Z"⟩
abbrev cX11_rightUpTo : ByteArray := prog_13_method_36_code
def yX11_rightUpTo : MethodName := ⟨RX11, "rightUpTo", "()I"⟩
abbrev cX11_firstError : ByteArray := prog_13_method_37_code
def yX11_firstError : MethodName := ⟨RX11, "firstError", "()I"⟩
abbrev cX11_read : ByteArray := prog_13_method_38_code
def yX11_read : MethodName := ⟨RX11, "read", "()I"⟩
abbrev cX11_isSnapshot : ByteArray := prog_13_method_39_code
def yX11_isSnapshot : MethodName := ⟨RX11, "isSnapshot", "(I)Z"⟩
abbrev cX11_keep : ByteArray := prog_13_method_40_code
def yX11_keep : MethodName := ⟨RX11, "keep", "(I)I"⟩
abbrev cX11_restore : ByteArray := prog_13_method_41_code
def yX11_restore : MethodName := ⟨RX11, "restore", "(I)I"⟩
abbrev cX11_undo : ByteArray := prog_13_method_42_code
def yX11_undo : MethodName := ⟨RX11, "undo", "()I"⟩
abbrev cX11_sign : ByteArray := prog_13_method_43_code
def yX11_sign : MethodName := ⟨RX11, "sign", "(II)I"⟩
abbrev cX11_anchorNow : ByteArray := prog_13_method_44_code
def yX11_anchorNow : MethodName := ⟨RX11, "anchorNow", "(II)I"⟩
abbrev cX11_anchor : ByteArray := prog_13_method_45_code
def yX11_anchor : MethodName := ⟨RX11, "anchor", "(II)I"⟩
abbrev cX11_stretchOf : ByteArray := prog_13_method_46_code
def yX11_stretchOf : MethodName := ⟨RX11, "stretchOf", "(I)I"⟩
abbrev cX11_turnedNow : ByteArray := prog_13_method_47_code
def yX11_turnedNow : MethodName := ⟨RX11, "turnedNow", "(II)I"⟩
abbrev cX11_turned : ByteArray := prog_13_method_48_code
def yX11_turned : MethodName := ⟨RX11, "turned", "(II)I"⟩
abbrev cX11_gapNow : ByteArray := prog_13_method_49_code
def yX11_gapNow : MethodName := ⟨RX11, "gapNow", "(II)I"⟩
abbrev cX11_gap : ByteArray := prog_13_method_50_code
def yX11_gap : MethodName := ⟨RX11, "gap", "(II)I"⟩
abbrev cX11_partnerNow : ByteArray := prog_13_method_51_code
def yX11_partnerNow : MethodName := ⟨RX11, "partnerNow", "(II)I"⟩
abbrev cX11_partner : ByteArray := prog_13_method_52_code
def yX11_partner : MethodName := ⟨RX11, "partner", "(II)I"⟩
abbrev cX11_standings : ByteArray := prog_13_method_53_code
def yX11_standings : MethodName := ⟨RX11, "standings", "(III)I"⟩
abbrev cX11_doubledNow : ByteArray := prog_13_method_54_code
def yX11_doubledNow : MethodName := ⟨RX11, "doubledNow", "(II)I"⟩
abbrev cX11_doubled : ByteArray := prog_13_method_55_code
def yX11_doubled : MethodName := ⟨RX11, "doubled", "(II)I"⟩
abbrev cX11_turnedStretches : ByteArray := prog_13_method_56_code
def yX11_turnedStretches : MethodName := ⟨RX11, "turnedStretches", "(Z)I"⟩
abbrev cX11_likeOnes : ByteArray := prog_13_method_57_code
def yX11_likeOnes : MethodName := ⟨RX11, "likeOnes", "()I"⟩
abbrev cX11_leftOut : ByteArray := prog_13_method_58_code
def yX11_leftOut : MethodName := ⟨RX11, "leftOut", "(I)I"⟩
abbrev cX11_laidCount : ByteArray := prog_13_method_59_code
def yX11_laidCount : MethodName := ⟨RX11, "laidCount", "(I)I"⟩
abbrev cX11_counted : ByteArray := prog_13_method_60_code
def yX11_counted : MethodName := ⟨RX11, "counted", "(I)I"⟩
abbrev cX11_count : ByteArray := prog_13_method_61_code
def yX11_count : MethodName := ⟨RX11, "count", "(I)I"⟩
abbrev cX11_setting : ByteArray := prog_13_method_62_code
def yX11_setting : MethodName := ⟨RX11, "setting", "(I)I"⟩
abbrev cX11_setThen : ByteArray := prog_13_method_63_code
def yX11_setThen : MethodName := ⟨RX11, "setThen", "(II)I"⟩
abbrev cX11_ifSet : ByteArray := prog_13_method_64_code
def yX11_ifSet : MethodName := ⟨RX11, "ifSet", "(II)I"⟩
abbrev cX11_changedThen : ByteArray := prog_13_method_65_code
def yX11_changedThen : MethodName := ⟨RX11, "changedThen", "(III)I"⟩
abbrev cX11_ifChanged : ByteArray := prog_13_method_66_code
def yX11_ifChanged : MethodName := ⟨RX11, "ifChanged", "(III)I"⟩
abbrev cX11_bestNow : ByteArray := prog_13_method_67_code
def yX11_bestNow : MethodName := ⟨RX11, "bestNow", "()I"⟩
abbrev cX11_bestLength : ByteArray := prog_13_method_68_code
def yX11_bestLength : MethodName := ⟨RX11, "bestLength", "()I"⟩
abbrev cX11_share : ByteArray := prog_13_method_69_code
def yX11_share : MethodName := ⟨RX11, "share", "()D"⟩
abbrev cX11_likeShare : ByteArray := prog_13_method_70_code
def yX11_likeShare : MethodName := ⟨RX11, "likeShare", "()D"⟩
abbrev cX11_mix : ByteArray := prog_13_method_71_code
def yX11_mix : MethodName := ⟨RX11, "mix", "(J)V"⟩
abbrev cX11_mixRow : ByteArray := prog_13_method_72_code
def yX11_mixRow : MethodName := ⟨RX11, "mixRow", "(I)V"⟩
abbrev cX11_digest : ByteArray := prog_13_method_73_code
def yX11_digest : MethodName := ⟨RX11, "digest", "()J"⟩
def RJxe99ae : String := "java/lang/Double"
def TJxe99ae : u_T := fun k => match k with
  | _ => ("", "", "", false)
def tyJxe99ae : Nat → FieldType := fun k => match k with
  | _ => .int
abbrev wsJxe99ae0 : List Cond := u_ws RJxe99ae TJxe99ae 0
theorem nmJxe99ae : ∀ a, a < 0 → ∀ b, b < 0 → a ≠ b → (TJxe99ae a).2.1 ≠ (TJxe99ae b).2.1 := by decide +kernel
theorem tyJxe99ae_ok : ∀ k, k < 0 → parseFieldDescriptor (TJxe99ae k).2.2.1 = some (tyJxe99ae k) := by decide +kernel
abbrev cJxe99ae_isNaN_b9ae7 : ByteArray := prog_14_method_6_code
def yJxe99ae_isNaN_b9ae7 : MethodName := ⟨RJxe99ae, "isNaN", "(D)Z"⟩
abbrev cJxe99ae_doubleToLongBits_ccdee : ByteArray := prog_14_method_23_code
def yJxe99ae_doubleToLongBits_ccdee : MethodName := ⟨RJxe99ae, "doubleToLongBits", "(D)J"⟩
def RJ9 : String := "java/lang/Math"
def TJ9 : u_T := fun k => match k with
  | _ => ("", "", "", false)
def tyJ9 : Nat → FieldType := fun k => match k with
  | _ => .int
abbrev wsJ90 : List Cond := u_ws RJ9 TJ9 0
theorem nmJ9 : ∀ a, a < 0 → ∀ b, b < 0 → a ≠ b → (TJ9 a).2.1 ≠ (TJ9 b).2.1 := by decide +kernel
theorem tyJ9_ok : ∀ k, k < 0 → parseFieldDescriptor (TJ9 k).2.2.1 = some (tyJ9 k) := by decide +kernel
abbrev cJ9_abs_0f7a4 : ByteArray := prog_19_method_59_code
def yJ9_abs_0f7a4 : MethodName := ⟨RJ9, "abs", "(I)I"⟩
abbrev cJ9_max_7cf53 : ByteArray := prog_19_method_65_code
def yJ9_max_7cf53 : MethodName := ⟨RJ9, "max", "(II)I"⟩
abbrev cJ9_min_7cf53 : ByteArray := prog_19_method_69_code
def yJ9_min_7cf53 : MethodName := ⟨RJ9, "min", "(II)I"⟩
def RJ0 : String := "java/lang/String"
def TJ0 : u_T := fun k => match k with
  | _ => ("", "", "", false)
def tyJ0 : Nat → FieldType := fun k => match k with
  | _ => .int
abbrev wsJ00 : List Cond := u_ws RJ0 TJ0 0
theorem nmJ0 : ∀ a, a < 0 → ∀ b, b < 0 → a ≠ b → (TJ0 a).2.1 ≠ (TJ0 b).2.1 := by decide +kernel
theorem tyJ0_ok : ∀ k, k < 0 → parseFieldDescriptor (TJ0 k).2.2.1 = some (tyJ0 k) := by decide +kernel
def RL : String := "AnchorChainsLaw"
abbrev cL_put : ByteArray := method_3_code
def yL_put : MethodName := ⟨RL, "put", "(LAnchorChains;III[J)I"⟩
abbrev cL_take : ByteArray := method_4_code
def yL_take : MethodName := ⟨RL, "take", "(LAnchorChains;III[J)I"⟩
abbrev cL_change : ByteArray := method_5_code
def yL_change : MethodName := ⟨RL, "change", "(LAnchorChains;III[J)I"⟩
abbrev cL_turn : ByteArray := method_6_code
def yL_turn : MethodName := ⟨RL, "turn", "(LAnchorChains;III[J)I"⟩
abbrev cL_copy : ByteArray := method_7_code
def yL_copy : MethodName := ⟨RL, "copy", "(LAnchorChains;IIII[J)I"⟩
abbrev cL_set : ByteArray := method_8_code
def yL_set : MethodName := ⟨RL, "set", "(LAnchorChains;II[J)I"⟩
abbrev cL_append : ByteArray := method_9_code
def yL_append : MethodName := ⟨RL, "append", "(LAnchorChains;I[J)I"⟩
abbrev cL_read : ByteArray := method_10_code
def yL_read : MethodName := ⟨RL, "read", "(LAnchorChains;[J)I"⟩
abbrev cL_keep : ByteArray := method_11_code
def yL_keep : MethodName := ⟨RL, "keep", "(LAnchorChains;I[J)I"⟩
abbrev cL_restore : ByteArray := method_12_code
def yL_restore : MethodName := ⟨RL, "restore", "(LAnchorChains;I[J)I"⟩
abbrev cL_undo : ByteArray := method_13_code
def yL_undo : MethodName := ⟨RL, "undo", "(LAnchorChains;[J)I"⟩
abbrev cL_sign : ByteArray := method_14_code
def yL_sign : MethodName := ⟨RL, "sign", "(LAnchorChains;II[J)I"⟩
abbrev cL_anchor : ByteArray := method_15_code
def yL_anchor : MethodName := ⟨RL, "anchor", "(LAnchorChains;II[J)I"⟩
abbrev cL_turned : ByteArray := method_16_code
def yL_turned : MethodName := ⟨RL, "turned", "(LAnchorChains;II[J)I"⟩
abbrev cL_gap : ByteArray := method_17_code
def yL_gap : MethodName := ⟨RL, "gap", "(LAnchorChains;II[J)I"⟩
abbrev cL_partner : ByteArray := method_18_code
def yL_partner : MethodName := ⟨RL, "partner", "(LAnchorChains;II[J)I"⟩
abbrev cL_doubled : ByteArray := method_19_code
def yL_doubled : MethodName := ⟨RL, "doubled", "(LAnchorChains;II[J)I"⟩
abbrev cL_count : ByteArray := method_20_code
def yL_count : MethodName := ⟨RL, "count", "(LAnchorChains;I[J)I"⟩
abbrev cL_setting : ByteArray := method_21_code
def yL_setting : MethodName := ⟨RL, "setting", "(LAnchorChains;I[J)I"⟩
abbrev cL_ifSet : ByteArray := method_22_code
def yL_ifSet : MethodName := ⟨RL, "ifSet", "(LAnchorChains;II[J)I"⟩
abbrev cL_ifChanged : ByteArray := method_23_code
def yL_ifChanged : MethodName := ⟨RL, "ifChanged", "(LAnchorChains;III[J)I"⟩
abbrev cL_law : ByteArray := code
def yL_law : MethodName := ⟨RL, "law", "([I)Z"⟩
abbrev vwCl : List vw_C := [(RX0, TX0, 6), (RX1, TX1, 1), (RX2, TX2, 5), (RX3, TX3, 6), (RX4, TX4, 2), (RX5, TX5, 8), (RX6, TX6, 2), (RX7, TX7, 3), (RX8, TX8, 2), (RX9, TX9, 4), (RX10, TX10, 12), (RX11, TX11, 30)]
end
section
def zkds : List (Nat × Nat) := [(10, 0), (7, 0), (6, 0), (100, 24), (6, 0), (100, 24), (1, 0), (100, 4), (7, 0), (6, 0), (100, 24), (6, 0), (100, 24), (1, 0), (100, 4), (7, 0), (6, 0), (100, 24), (6, 0), (100, 24), (1, 0), (100, 4), (7, 0), (6, 0), (100, 24), (6, 0), (100, 24), (1, 0), (100, 4), (4, 0), (1, 0), (100, 324), (8, 0), (1, 0), (100, 60), (5, 0), (0, 0), (1, 0), (100, 24), (1, 0), (100, 24), (1, 0), (100, 24), (1, 0), (100, 24), (2, 0), (1, 0), (100, 24), (1, 0), (100, 24), (1, 0), (100, 24), (1, 0), (100, 24), (3, 0), (100, 625), (100, 625), (1, 0), (100, 125), (1, 0), (100, 24), (1, 0), (100, 24), (5, 0), (0, 0), (1, 0), (100, 24), (1, 0), (100, 24), (1, 0), (100, 24), (1, 0), (100, 24), (2, 0), (1, 0), (100, 24), (1, 0), (100, 24), (1, 0), (100, 24), (1, 0), (100, 24), (3, 0), (100, 625), (100, 625), (1, 0), (100, 125), (1, 0), (100, 24), (1, 0), (100, 24), (9, 0), (0, 0), (1, 0), (100, 24), (1, 0), (100, 24), (1, 0), (100, 24), (1, 0), (100, 24), (1, 0), (100, 24), (11, 0), (100, 54), (100, 324), (100, 100), (100, 2), (100, 60), (100, 24), (100, 24), (100, 24), (100, 24), (100, 24), (100, 24), (100, 24), (100, 24), (100, 50), (100, 50), (100, 25), (100, 48), (100, 625), (100, 48), (100, 2), (101, 1)]
def zfds : List (List Nat) := [[2, 4, 0, 0, 6, 8], [2], [2, 4, 6, 8, 0], [2, 3, 0, 0, 0, 0], [2, 0], [2, 11, 0, 0, 20, 23, 25, 27], [2, 0], [2, 4, 6], [2, 0], [2, 0, 0, 11], [2, 9, 16, 23, 0, 0, 30, 33, 36, 64, 92, 0], [2, 0, 3, 4, 5, 0, 6, 0, 7, 8, 0, 9, 10, 0, 11, 12, 13, 14, 0, 15, 16, 17, 0, 18, 19, 20, 21, 0, 0, 1]]
/-- the words of all methods: the tables' words that a call may hand on -/
def wsL_law : List Cond := lw_tbl.filter goodWord
theorem zin {i : Nat} {w : Cond} (h : lw_tbl[i]? = some w) (hg : goodWord w = true) : w ∈ wsL_law := List.mem_filter.mpr ⟨List.mem_of_getElem? h, hg⟩
theorem zbig : ∀ w ∈ wsL_law, w ∈ wsL_law ∧ ((w.onTables && w.keeps) = true ∨ ∃ ty, w = .arrayClass ty) := fun w h => ⟨h, good_of_word (List.mem_filter.mp h).2⟩
/-! the world of class and reference as ONE memory: 125 cells at addresses ad 0 .. ad 124; what they hold is read off a function of cell and place -/
abbrev zmem : Type := (Nat → Nat → Int32) × (Nat → Nat → Int64)
abbrev zgeo : Type := (Nat → ClassId) × (Nat → Nat → Nat) × ClassId × ClassId × (Nat → Nat)
def zD (g : zgeo) : va_G := (g.1, g.2.1)
def zI (g : zgeo) : ClassId := g.2.2.1
def zJ (g : zgeo) : ClassId := g.2.2.2.1
def zA (g : zgeo) : Nat → Nat := g.2.2.2.2
def zT (g : zgeo) : List (ClassId × FieldType) := [(zI g, .int), (zJ g, .long)]
def zkd (i : Nat) : Nat × Nat := zkds.getD i (200, 0)
def zf (c : Nat) : List Nat := zfds.getD c []
def zfv (g : zgeo) (σ : zmem) (i k d : Nat) : Value := if d = 0 then .int (σ.1 i k) else if d = 1 then .long (σ.2 i k) else .ref (zA g (i + (d - 1)))
def zob (g : zgeo) (σ : zmem) (i c : Nat) : List Value := (List.range (zf c).length).map (fun k => zfv g σ i k ((zf c).getD k 0))
def zce (g : zgeo) (σ : zmem) (i : Nat) : va_E := if (zkd i).1 = 100 then .inl (zI g, (zkd i).2, .inl (σ.1 i)) else if (zkd i).1 = 101 then .inl (zJ g, (zkd i).2, .inr (.inl (σ.2 i))) else .inr ((zkd i).1, zob g σ i (zkd i).1)
def zwl (g : zgeo) (σ : zmem) : va_W := (List.range 125).map (fun i => (zA g i, zce g σ i))
def zup {α : Type} (f : Nat → Nat → α) (i k : Nat) (v : α) : Nat → Nat → α := fun a b => if a = i ∧ b = k then v else f a b
def zst (σ : zmem) (i k : Nat) (v : Int32) : zmem := (zup σ.1 i k v, σ.2)
def zsl (σ : zmem) (i k : Nat) (v : Int64) : zmem := (σ.1, zup σ.2 i k v)
def zrd (σ : zmem) (i : Nat) (j : Int32) : Option Int32 := if j < 0 ∨ (zkd i).2 ≤ j.toNatClampNeg then none else some (σ.1 i j.toNatClampNeg)
def zwr (σ : zmem) (i : Nat) (j v : Int32) : Option zmem := if j < 0 ∨ (zkd i).2 ≤ j.toNatClampNeg then none else some (zst σ i j.toNatClampNeg v)
def zrl (σ : zmem) (i : Nat) (j : Int32) : Option Int64 := if j < 0 ∨ (zkd i).2 ≤ j.toNatClampNeg then none else some (σ.2 i j.toNatClampNeg)
def zwL (σ : zmem) (i : Nat) (j : Int32) (v : Int64) : Option zmem := if j < 0 ∨ (zkd i).2 ≤ j.toNatClampNeg then none else some (zsl σ i j.toNatClampNeg v)
/-- a truth value -/
def zbo (v : Int32) : Option Int32 := if v = 0 ∨ v = 1 then some v else none
/-- a double that is a number -/
def zdn (v : UInt64) : Option UInt64 := if v &&& 0x7fffffffffffffff ≤ 0x7ff0000000000000 then some v else none
theorem zrd_some {σ : zmem} {i : Nat} {j v : Int32} (h : zrd σ i j = some v) : vp_in j (zkd i).2 ∧ v = σ.1 i j.toNatClampNeg := by
  unfold zrd at h
  split at h
  · cases h
  · next hn => exact ⟨hn, (Option.some.inj h).symm⟩
theorem zwr_some {σ σ' : zmem} {i : Nat} {j v : Int32} (h : zwr σ i j v = some σ') : vp_in j (zkd i).2 ∧ σ' = zst σ i j.toNatClampNeg v := by
  unfold zwr at h
  split at h
  · cases h
  · next hn => exact ⟨hn, (Option.some.inj h).symm⟩
theorem zrl_some {σ : zmem} {i : Nat} {j : Int32} {v : Int64} (h : zrl σ i j = some v) : vp_in j (zkd i).2 ∧ v = σ.2 i j.toNatClampNeg := by
  unfold zrl at h
  split at h
  · cases h
  · next hn => exact ⟨hn, (Option.some.inj h).symm⟩
theorem zwL_some {σ σ' : zmem} {i : Nat} {j : Int32} {v : Int64} (h : zwL σ i j v = some σ') : vp_in j (zkd i).2 ∧ σ' = zsl σ i j.toNatClampNeg v := by
  unfold zwL at h
  split at h
  · cases h
  · next hn => exact ⟨hn, (Option.some.inj h).symm⟩
theorem zbo_some {v w : Int32} (h : zbo v = some w) : (v = 0 ∨ v = 1) ∧ w = v := by
  unfold zbo at h
  split at h
  · next hn => exact ⟨hn, (Option.some.inj h).symm⟩
  · cases h
theorem zdn_some {v w : UInt64} (h : zdn v = some w) : vf_n64 v ∧ w = v := by
  unfold zdn at h
  split at h
  · next hn => exact ⟨hn, (Option.some.inj h).symm⟩
  · cases h
theorem zb_some {α β : Type} {x : Option α} {f : α → Option β} {r : β} (h : x.bind f = some r) : ∃ y, x = some y ∧ f y = some r := by
  cases x with
  | none => cases h
  | some y => exact ⟨y, rfl, h⟩
theorem zkd_lt {i c n : Nat} (h : zkd i = (c, n)) (hc : c < 200) : i < 125 := by
  by_cases hi : i < 125
  · exact hi
  · exfalso
    unfold zkd at h
    have h9 : zkds.length = 125 := by decide +kernel
    rw [List.getD_eq_getElem?_getD, List.getElem?_eq_none (by omega)] at h
    cases h
    omega
theorem zwl_get {g : zgeo} {σ : zmem} {i : Nat} (h : i < 125) : (zwl g σ)[i]? = some (zA g i, zce g σ i) := by
  unfold zwl
  rw [List.getElem?_map, List.getElem?_range h]
  rfl
theorem zwl_len {g : zgeo} {σ : zmem} : (zwl g σ).length = 125 := by simp [zwl]
theorem zwl_key {g : zgeo} {σ : zmem} {k : Nat} {q : Nat × va_E} (h : (zwl g σ)[k]? = some q) : k < 125 ∧ q = (zA g k, zce g σ k) := by
  have hk : k < 125 := by
    have := (List.getElem?_eq_some_iff.mp h).1
    rwa [zwl_len] at this
  rw [zwl_get hk] at h
  exact ⟨hk, (Option.some.inj h).symm⟩
theorem zob_get {g : zgeo} {σ : zmem} {i c k d : Nat} (hk : k < (zf c).length) (hd : (zf c).getD k 0 = d) : (zob g σ i c)[k]? = some (zfv g σ i k d) := by
  unfold zob
  rw [List.getElem?_map, List.getElem?_range hk]
  show some (zfv g σ i k ((zf c).getD k 0)) = _
  rw [hd]
theorem zce_ob {g : zgeo} {σ : zmem} {i c n : Nat} (h : zkd i = (c, n)) (hc : c < 100) : zce g σ i = .inr (c, zob g σ i c) := by
  unfold zce
  rw [h]
  rw [if_neg (by show ¬ c = 100; omega), if_neg (by show ¬ c = 101; omega)]
theorem zce_ar {g : zgeo} {σ : zmem} {i n : Nat} (h : zkd i = (100, n)) : zce g σ i = .inl (zI g, n, .inl (σ.1 i)) := by
  unfold zce
  rw [h]
  rfl
theorem zce_la {g : zgeo} {σ : zmem} {i n : Nat} (h : zkd i = (101, n)) : zce g σ i = .inl (zJ g, n, .inr (.inl (σ.2 i))) := by
  unfold zce
  rw [h]
  rfl
theorem zce_eq {g : zgeo} {σ σ' : zmem} {i : Nat} (h1 : σ'.1 i = σ.1 i) (h2 : σ'.2 i = σ.2 i) : zce g σ' i = zce g σ i := by
  have h3 : ∀ c, zob g σ' i c = zob g σ i c := fun c => by
    unfold zob
    refine List.map_congr_left fun k _ => ?_
    unfold zfv
    rw [h1, h2]
  unfold zce
  rw [h1, h2, h3]
theorem zup_ne {α : Type} {f : Nat → Nat → α} {i k j : Nat} {v : α} (h : j ≠ i) : zup f i k v j = f j := by
  funext b
  unfold zup
  rw [if_neg (fun q => h q.1)]
theorem zup_row {f : Nat → Nat → Int32} {i k : Nat} {v : Int32} : zup f i k v i = upd (f i) k v := by
  funext b
  unfold zup upd
  by_cases h : b = k
  · rw [if_pos ⟨rfl, h⟩, if_pos h]
  · rw [if_neg (fun q => h q.2), if_neg h]
theorem zup_rowL {f : Nat → Nat → Int64} {i k : Nat} {v : Int64} : zup f i k v i = vp_updL (f i) k v := by
  funext b
  unfold zup vp_updL
  by_cases h : b = k
  · rw [if_pos ⟨rfl, h⟩, if_pos h]
  · rw [if_neg (fun q => h q.2), if_neg h]
theorem zup_same {α : Type} {f : Nat → Nat → α} {i k j : Nat} {v : α} (h : j ≠ k) : zup f i k v i j = f i j := by
  unfold zup
  rw [if_neg (fun q => h q.2)]
theorem zup_at {α : Type} {f : Nat → Nat → α} {i k : Nat} {v : α} : zup f i k v i k = v := by
  unfold zup
  rw [if_pos ⟨rfl, rfl⟩]
theorem zwl_set {g : zgeo} {σ σ' : zmem} {i : Nat} {e : va_E} (hi : i < 125) (he : e = zce g σ' i) (h : ∀ j, j ≠ i → zce g σ' j = zce g σ j) : (zwl g σ).set i (zA g i, e) = zwl g σ' := by
  refine List.ext_getElem? fun k => ?_
  by_cases hk : k < 125
  · by_cases hki : k = i
    · subst hki
      rw [List.getElem?_set_self (by rw [zwl_len]; exact hk), zwl_get hk, he]
    · rw [List.getElem?_set_ne (Ne.symm hki), zwl_get hk, zwl_get hk, h k hki]
  · rw [List.getElem?_eq_none (by rw [List.length_set, zwl_len]; omega), List.getElem?_eq_none (by rw [zwl_len]; omega)]
theorem zob_set {g : zgeo} {σ σ' : zmem} {i c k d : Nat} (hk : k < (zf c).length) (hd : (zf c).getD k 0 = d) (h1 : ∀ j, j ≠ k → σ'.1 i j = σ.1 i j) (h2 : ∀ j, j ≠ k → σ'.2 i j = σ.2 i j) : zob g σ' i c = (zob g σ i c).set k (zfv g σ' i k d) := by
  refine List.ext_getElem? fun j => ?_
  by_cases hj : j < (zf c).length
  · by_cases hjk : j = k
    · subst hjk
      rw [List.getElem?_set_self (by simp [zob]; exact hk), zob_get hk hd]
    · rw [List.getElem?_set_ne (Ne.symm hjk), zob_get hj rfl, zob_get hj rfl]
      unfold zfv
      rw [h1 j hjk, h2 j hjk]
  · rw [List.getElem?_eq_none (by simp [zob]; omega), List.getElem?_eq_none (by simp [zob]; omega)]
/-- the world at a point of a walk -/
def zIV (g : zgeo) (σ : zmem) (A : Nat → Prop) (H0 H : Heap) (locs : List Loc) : Prop := va_P (zD g) vwCl (zwl g σ) H ∧ va_D A (zwl g σ) ∧ va_S A H0 H locs
/-- the one field that a nest mate reaches -/
def zNw (U : State) : Prop := va_Nw (.fieldLinkNest RX7 38 RX6 "many" "I" "AnchorChains") U
/-- what a method's walk knows of its own method -/
def zMC (own : String) (cc : ByteArray) (nL : Nat) (ret : Option FieldType) (g : zgeo) (p : Program) (m : MethodId) (c : Code) (s : State) (args : Array Value) (meth : Method) : Prop :=
  CallFix p m c cc nL s args wsL_law own ∧ meth.sig.returnType = ret ∧ meth.locks = false ∧ va_K (zD g) vwCl (zT g) s ∧ zNw s
/-- what is known of a class by its number -/
def zCK (ci : Nat) (C : String) (T : u_T) (N : Nat) (ty : Nat → FieldType) : Prop := vwCl[ci]? = some (C, T, N) ∧ (∀ w ∈ u_ws C T N, w ∈ wsL_law) ∧ (∀ k, k < N → parseFieldDescriptor (T k).2.2.1 = some (ty k)) ∧ (∀ a, a < N → ∀ b, b < N → a ≠ b → (T a).2.1 ≠ (T b).2.1) ∧ (zf ci).length = N ∧ ci < 100
/-- a field's link: class and place, its kind in the layout -/
def zFL (own : String) (idx ci k d : Nat) : Prop := ∃ (C : String) (T : u_T) (N : Nat) (ty : Nat → FieldType), zCK ci C T N ty ∧ k < N ∧ (zf ci).getD k 0 = d ∧ Cond.fieldLink own idx (T k).1 (T k).2.1 (T k).2.2.1 ∈ wsL_law
def zFW (own : String) (idx ci k d : Nat) (t : FieldType) : Prop := ∃ (C : String) (T : u_T) (N : Nat) (ty : Nat → FieldType), zCK ci C T N ty ∧ k < N ∧ (zf ci).getD k 0 = d ∧ Cond.fieldLink own idx (T k).1 (T k).2.1 (T k).2.2.1 ∈ wsL_law ∧ (T k).2.2.2 = false ∧ parseFieldDescriptor (T k).2.2.1 = some t
abbrev zwm (y : MethodName) (cc : ByteArray) (n : Nat) (r : Option FieldType) : List Cond := Cond.code y cc n r :: wsL_law
def zrm (f n : Nat) : Room := { frames := f, cells := 0, slots := 0, locals := n }
def zAA (g : zgeo) : Nat → Prop := fun q => ∃ i, i < 125 ∧ q = zA g i
def zPW (g : zgeo) (σ : zmem) (U : State) : Prop := va_P (zD g) vwCl (zwl g σ) U.heap ∧ va_K (zD g) vwCl (zT g) U ∧ va_D (fun _ => True) (zwl g σ) ∧ zNw U
abbrev zQI (g : zgeo) (r : Int32) (σ : zmem) := va_Qi (fun v (_ : Unit) => v = r) (fun _ => zPW g σ) (zAA g)
abbrev zQL (g : zgeo) (r : Int64) (σ : zmem) := va_Ql (fun v (_ : Unit) => v = r) (fun _ => zPW g σ) (zAA g)
abbrev zQD (g : zgeo) (r : UInt64) (σ : zmem) := va_Qd (fun v (_ : Unit) => v = r) (fun _ => zPW g σ) (zAA g)
abbrev zQV (g : zgeo) (σ : zmem) := va_Qv (fun (_ : Unit) => True) (fun _ => zPW g σ) (zAA g)
abbrev zQR (g : zgeo) (r : Nat) (σ : zmem) := va_Qr (fun (_ : Unit) => True) (fun _ a t => a = zA g r ∧ zPW g σ t) (zAA g)
/-- the contracts: at these arguments and this memory the method returns this, and leaves that memory -/
def zCt (Q : Array Value → State → Outcome → State → Prop) (l : Launch) (g : zgeo) (y : MethodName) (cc : ByteArray) (nL : Nat) (ret : Option FieldType) (f n : Nat) (as : List Value) (σ : zmem) : Prop := Met l y (zwm y cc nL ret) (zrm f n) (va_Pc as (zPW g σ)) Q 0 0 (zAA g)
set_option maxRecDepth 20000 in
theorem zin0 : ∀ w ∈ u_ws RX0 TX0 6, w ∈ wsL_law := fun w h => List.mem_filter.mpr ⟨(goodIn_r _ [213, 215, 217, 219, 221, 223] (by decide +kernel) (by decide +kernel) w h).1, List.all_eq_true.mp (show (u_ws RX0 TX0 6).all goodWord = true by decide +kernel) w h⟩
theorem zK0 : zCK 0 RX0 TX0 6 tyX0 := ⟨rfl, zin0, tyX0_ok, nmX0, by decide, by decide⟩
set_option maxRecDepth 20000 in
theorem zin1 : ∀ w ∈ u_ws RX1 TX1 1, w ∈ wsL_law := fun w h => List.mem_filter.mpr ⟨(goodIn_r _ [124] (by decide +kernel) (by decide +kernel) w h).1, List.all_eq_true.mp (show (u_ws RX1 TX1 1).all goodWord = true by decide +kernel) w h⟩
theorem zK1 : zCK 1 RX1 TX1 1 tyX1 := ⟨rfl, zin1, tyX1_ok, nmX1, by decide, by decide⟩
set_option maxRecDepth 20000 in
theorem zin2 : ∀ w ∈ u_ws RX2 TX2 5, w ∈ wsL_law := fun w h => List.mem_filter.mpr ⟨(goodIn_r _ [244, 246, 248, 250, 252] (by decide +kernel) (by decide +kernel) w h).1, List.all_eq_true.mp (show (u_ws RX2 TX2 5).all goodWord = true by decide +kernel) w h⟩
theorem zK2 : zCK 2 RX2 TX2 5 tyX2 := ⟨rfl, zin2, tyX2_ok, nmX2, by decide, by decide⟩
set_option maxRecDepth 20000 in
theorem zin3 : ∀ w ∈ u_ws RX3 TX3 6, w ∈ wsL_law := fun w h => List.mem_filter.mpr ⟨(goodIn_r _ [271, 273, 275, 277, 279, 281] (by decide +kernel) (by decide +kernel) w h).1, List.all_eq_true.mp (show (u_ws RX3 TX3 6).all goodWord = true by decide +kernel) w h⟩
theorem zK3 : zCK 3 RX3 TX3 6 tyX3 := ⟨rfl, zin3, tyX3_ok, nmX3, by decide, by decide⟩
set_option maxRecDepth 20000 in
theorem zin4 : ∀ w ∈ u_ws RX4 TX4 2, w ∈ wsL_law := fun w h => List.mem_filter.mpr ⟨(goodIn_r _ [165, 167] (by decide +kernel) (by decide +kernel) w h).1, List.all_eq_true.mp (show (u_ws RX4 TX4 2).all goodWord = true by decide +kernel) w h⟩
theorem zK4 : zCK 4 RX4 TX4 2 tyX4 := ⟨rfl, zin4, tyX4_ok, nmX4, by decide, by decide⟩
set_option maxRecDepth 20000 in
theorem zin5 : ∀ w ∈ u_ws RX5 TX5 8, w ∈ wsL_law := fun w h => List.mem_filter.mpr ⟨(goodIn_r _ [298, 300, 302, 304, 306, 308, 310, 312] (by decide +kernel) (by decide +kernel) w h).1, List.all_eq_true.mp (show (u_ws RX5 TX5 8).all goodWord = true by decide +kernel) w h⟩
theorem zK5 : zCK 5 RX5 TX5 8 tyX5 := ⟨rfl, zin5, tyX5_ok, nmX5, by decide, by decide⟩
set_option maxRecDepth 20000 in
theorem zin6 : ∀ w ∈ u_ws RX6 TX6 2, w ∈ wsL_law := fun w h => List.mem_filter.mpr ⟨(goodIn_r _ [111, 113] (by decide +kernel) (by decide +kernel) w h).1, List.all_eq_true.mp (show (u_ws RX6 TX6 2).all goodWord = true by decide +kernel) w h⟩
theorem zK6 : zCK 6 RX6 TX6 2 tyX6 := ⟨rfl, zin6, tyX6_ok, nmX6, by decide, by decide⟩
set_option maxRecDepth 20000 in
theorem zin7 : ∀ w ∈ u_ws RX7 TX7 3, w ∈ wsL_law := fun w h => List.mem_filter.mpr ⟨(goodIn_r _ [148, 150, 152] (by decide +kernel) (by decide +kernel) w h).1, List.all_eq_true.mp (show (u_ws RX7 TX7 3).all goodWord = true by decide +kernel) w h⟩
theorem zK7 : zCK 7 RX7 TX7 3 tyX7 := ⟨rfl, zin7, tyX7_ok, nmX7, by decide, by decide⟩
set_option maxRecDepth 20000 in
theorem zin8 : ∀ w ∈ u_ws RX8 TX8 2, w ∈ wsL_law := fun w h => List.mem_filter.mpr ⟨(goodIn_r _ [180, 182] (by decide +kernel) (by decide +kernel) w h).1, List.all_eq_true.mp (show (u_ws RX8 TX8 2).all goodWord = true by decide +kernel) w h⟩
theorem zK8 : zCK 8 RX8 TX8 2 tyX8 := ⟨rfl, zin8, tyX8_ok, nmX8, by decide, by decide⟩
set_option maxRecDepth 20000 in
theorem zin9 : ∀ w ∈ u_ws RX9 TX9 4, w ∈ wsL_law := fun w h => List.mem_filter.mpr ⟨(goodIn_r _ [332, 334, 336, 338] (by decide +kernel) (by decide +kernel) w h).1, List.all_eq_true.mp (show (u_ws RX9 TX9 4).all goodWord = true by decide +kernel) w h⟩
theorem zK9 : zCK 9 RX9 TX9 4 tyX9 := ⟨rfl, zin9, tyX9_ok, nmX9, by decide, by decide⟩
set_option maxRecDepth 20000 in
theorem zin10 : ∀ w ∈ u_ws RX10 TX10 12, w ∈ wsL_law := fun w h => List.mem_filter.mpr ⟨(goodIn_r _ [353, 355, 357, 359, 361, 363, 365, 367, 369, 371, 373, 375] (by decide +kernel) (by decide +kernel) w h).1, List.all_eq_true.mp (show (u_ws RX10 TX10 12).all goodWord = true by decide +kernel) w h⟩
theorem zK10 : zCK 10 RX10 TX10 12 tyX10 := ⟨rfl, zin10, tyX10_ok, nmX10, by decide, by decide⟩
set_option maxRecDepth 20000 in
theorem zin11 : ∀ w ∈ u_ws RX11 TX11 30, w ∈ wsL_law := fun w h => List.mem_filter.mpr ⟨(goodIn_r _ [1093, 1095, 1097, 1099, 1101, 1103, 1105, 1107, 1109, 1111, 1113, 1115, 1117, 1119, 1121, 1123, 1125, 1127, 1129, 1131, 1133, 1135, 1137, 1139, 1141, 1143, 1145, 1147, 1149, 1151] (by decide +kernel) (by decide +kernel) w h).1, List.all_eq_true.mp (show (u_ws RX11 TX11 30).all goodWord = true by decide +kernel) w h⟩
theorem zK11 : zCK 11 RX11 TX11 30 tyX11 := ⟨rfl, zin11, tyX11_ok, nmX11, by decide, by decide⟩
section ZR
variable {p : Program} {l : Launch} {e : Env} {R : Room} {s : State} {m : MethodId} {args : Array Value} {below : List Frame} {meth : Method} {c : Code} {H : Heap} {locs : List Loc} {cells slots : Nat} {Q : State → Prop}
variable {own : String} {cc : ByteArray} {nL : Nat} {ret : Option FieldType} {g : zgeo} {σ : zmem} {A : Nat → Prop} {H0 : Heap} {pc : Nat} {ls : Array Slot} {rest : List Value}
theorem zIV.app (I : zIV g σ A H0 H locs) : ∀ q, zAA g q → A q := fun q ⟨i, hi, hq⟩ => by rw [hq]; exact I.2.1.2 i _ (zwl_get hi)
theorem zgetI (M : zMC own cc nL ret g p m c s args meth) (I : zIV g σ A H0 H locs) {i ci k idx : Nat} (hi : zkd i = (ci, 0)) (F : zFL own idx ci k 0) (hdg : decode cc pc = .ok (.getfield idx, 3))
    (kk : W p l e R s m args below meth c H locs cells slots Q (F0 m (pc + 3) ls (.int (σ.1 i k) :: rest))) : W p l e R s m args below meth c H locs cells slots Q (F0 m pc ls (.ref (zA g i) :: rest)) := by
  obtain ⟨⟨hx, hb, hml, hown, hts⟩, -, -, hK, hNw⟩ := M
  obtain ⟨C, T, N, ty, ⟨k1, k2, k3, k4, k5, k6⟩, hk, hd, hw⟩ := F
  have he := zwl_get (g := g) (σ := σ) (zkd_lt hi (by omega))
  rw [zce_ob hi k6] at he
  exact va_get hx hb hts k2 hown hK I.1 i he k1 k hk (hts _ hw) (fun _ h => h) (v := .int (σ.1 i k)) (zob_get (by rw [k5]; exact hk) hd) hdg kk
theorem zgetL (M : zMC own cc nL ret g p m c s args meth) (I : zIV g σ A H0 H locs) {i ci k idx : Nat} (hi : zkd i = (ci, 0)) (F : zFL own idx ci k 1) (hdg : decode cc pc = .ok (.getfield idx, 3))
    (kk : W p l e R s m args below meth c H locs cells slots Q (F0 m (pc + 3) ls (.long (σ.2 i k) :: rest))) : W p l e R s m args below meth c H locs cells slots Q (F0 m pc ls (.ref (zA g i) :: rest)) := by
  obtain ⟨⟨hx, hb, hml, hown, hts⟩, -, -, hK, hNw⟩ := M
  obtain ⟨C, T, N, ty, ⟨k1, k2, k3, k4, k5, k6⟩, hk, hd, hw⟩ := F
  have he := zwl_get (g := g) (σ := σ) (zkd_lt hi (by omega))
  rw [zce_ob hi k6] at he
  exact va_get hx hb hts k2 hown hK I.1 i he k1 k hk (hts _ hw) (fun _ h => h) (v := .long (σ.2 i k)) (zob_get (by rw [k5]; exact hk) hd) hdg kk
theorem zgetR (M : zMC own cc nL ret g p m c s args meth) (I : zIV g σ A H0 H locs) {i ci k idx o : Nat} (hi : zkd i = (ci, 0)) (F : zFL own idx ci k (o + 2)) (hdg : decode cc pc = .ok (.getfield idx, 3)) {j : Nat} (hj : j = i + (o + 1))
    (kk : W p l e R s m args below meth c H locs cells slots Q (F0 m (pc + 3) ls (.ref (zA g j) :: rest))) : W p l e R s m args below meth c H locs cells slots Q (F0 m pc ls (.ref (zA g i) :: rest)) := by
  obtain ⟨⟨hx, hb, hml, hown, hts⟩, -, -, hK, hNw⟩ := M
  obtain ⟨C, T, N, ty, ⟨k1, k2, k3, k4, k5, k6⟩, hk, hd, hw⟩ := F
  have he := zwl_get (g := g) (σ := σ) (zkd_lt hi (by omega))
  rw [zce_ob hi k6] at he
  subst hj
  exact va_get hx hb hts k2 hown hK I.1 i he k1 k hk (hts _ hw) (fun _ h => h) (v := .ref (zA g (i + (o + 1)))) (zob_get (by rw [k5]; exact hk) hd) hdg kk
theorem zst_ce {i k j : Nat} {v : Int32} (h : j ≠ i) : zce g (zst σ i k v) j = zce g σ j := zce_eq (zup_ne h) rfl
theorem zsl_ce {i k j : Nat} {v : Int64} (h : j ≠ i) : zce g (zsl σ i k v) j = zce g σ j := zce_eq rfl (zup_ne h)
theorem zputV (M : zMC own cc nL ret g p m c s args meth) (I : zIV g σ A H0 H locs) {i ci k idx d : Nat} {t : FieldType} {v : Value} {σ' : zmem} (hi : zkd i = (ci, 0)) (F : zFW own idx ci k d t) (hn : narrow t v = v) (hfit : fits t v = true) (hv : zfv g σ' i k d = v)
    (h1 : ∀ j, j ≠ k → σ'.1 i j = σ.1 i j) (h2 : ∀ j, j ≠ k → σ'.2 i j = σ.2 i j) (h3 : ∀ j, j ≠ i → zce g σ' j = zce g σ j) (hdg : decode cc pc = .ok (.putfield idx, 3))
    (kk : ∀ H locs, zIV g σ' A H0 H locs → W p l e R s m args below meth c H locs cells slots Q (F0 m (pc + 3) ls rest)) : W p l e R s m args below meth c H locs cells slots Q (F0 m pc ls (v :: .ref (zA g i) :: rest)) := by
  obtain ⟨⟨hx, hb, hml, hown, hts⟩, -, -, hK, hNw⟩ := M
  obtain ⟨C, T, N, ty, ⟨k1, k2, k3, k4, k5, k6⟩, hk, hd, hw, hfin, hpd⟩ := F
  have hlt := zkd_lt hi (by omega)
  have he := zwl_get (g := g) (σ := σ) hlt
  rw [zce_ob hi k6] at he
  refine va_put hx hb hts k2 ty k3 k4 hown hK I.1 I.2.1 I.2.2 i he k1 k hk (hts _ hw) (fun _ h => h) hfin hpd hn hfit (by simp [zob]; rw [k5]; exact hk) hdg (fun H1 locs1 hP hD hS => ?_)
  have e : (zwl g σ).set i (zA g i, .inr (ci, (zob g σ i ci).set k v)) = zwl g σ' := by
    refine zwl_set hlt ?_ h3
    rw [zce_ob hi k6, zob_set (by rw [k5]; exact hk) hd h1 h2, hv]
  rw [e] at hP hD
  exact kk H1 locs1 ⟨hP, hD, hS⟩
theorem zgetN (M : zMC RX7 cc nL ret g p m c s args meth) (I : zIV g σ A H0 H locs) {i : Nat} (hi : zkd i = (6, 0)) (hdg : decode cc pc = .ok (.getfield 38, 3))
    (kk : W p l e R s m args below meth c H locs cells slots Q (F0 m (pc + 3) ls (.int (σ.1 i 1) :: rest))) : W p l e R s m args below meth c H locs cells slots Q (F0 m pc ls (.ref (zA g i) :: rest)) := by
  obtain ⟨⟨hx, hb, hml, hown, hts⟩, -, -, hK, hNw⟩ := M
  obtain ⟨k1, k2, k3, k4, k5, k6⟩ := zK6
  have he := zwl_get (g := g) (σ := σ) (zkd_lt hi (by omega))
  rw [zce_ob hi k6] at he
  exact va_getN (host := "AnchorChains") hx hb hts k2 hown hK I.1 i he k1 1 (show 1 < 2 by decide) (va_Nw.use rfl hNw) (fun _ h => h) (v := .int (σ.1 i 1)) (zob_get (by rw [k5]; decide) (by decide)) hdg kk
theorem zputN (M : zMC RX7 cc nL ret g p m c s args meth) (I : zIV g σ A H0 H locs) {i : Nat} {v : Int32} (hi : zkd i = (6, 0)) (hdg : decode cc pc = .ok (.putfield 38, 3))
    (kk : ∀ H locs, zIV g (zst σ i 1 v) A H0 H locs → W p l e R s m args below meth c H locs cells slots Q (F0 m (pc + 3) ls rest)) : W p l e R s m args below meth c H locs cells slots Q (F0 m pc ls (.int v :: .ref (zA g i) :: rest)) := by
  obtain ⟨⟨hx, hb, hml, hown, hts⟩, -, -, hK, hNw⟩ := M
  obtain ⟨k1, k2, k3, k4, k5, k6⟩ := zK6
  have hlt := zkd_lt hi (by omega)
  have he := zwl_get (g := g) (σ := σ) hlt
  rw [zce_ob hi k6] at he
  refine va_putN (host := "AnchorChains") (ty := .int) hx hb hts k2 tyX6 k3 k4 hown hK I.1 I.2.1 I.2.2 i he k1 1 (show 1 < 2 by decide) (va_Nw.use rfl hNw) (fun _ h => h) rfl (by decide) rfl rfl (by simp [zob]; rw [k5]; decide) hdg (fun H1 locs1 hP hD hS => ?_)
  have e : (zwl g σ).set i (zA g i, .inr (6, (zob g σ i 6).set 1 (.int v))) = zwl g (zst σ i 1 v) := by
    refine zwl_set hlt ?_ (fun _ h => zst_ce h)
    rw [zce_ob hi k6, zob_set (σ := σ) (σ' := zst σ i 1 v) (k := 1) (d := 0) (by rw [k5]; decide) (by decide) (fun j h => zup_same h) (fun _ _ => rfl)]
    rw [show zfv g (zst σ i 1 v) i 1 0 = Value.int v from (show Value.int (zup σ.1 i 1 v i 1) = _ by rw [zup_at])]
  rw [e] at hP hD
  exact kk H1 locs1 ⟨hP, hD, hS⟩
theorem zputI (M : zMC own cc nL ret g p m c s args meth) (I : zIV g σ A H0 H locs) {i ci k idx : Nat} {v : Int32} (hi : zkd i = (ci, 0)) (F : zFW own idx ci k 0 .int) (hdg : decode cc pc = .ok (.putfield idx, 3))
    (kk : ∀ H locs, zIV g (zst σ i k v) A H0 H locs → W p l e R s m args below meth c H locs cells slots Q (F0 m (pc + 3) ls rest)) : W p l e R s m args below meth c H locs cells slots Q (F0 m pc ls (.int v :: .ref (zA g i) :: rest)) :=
  zputV (σ' := zst σ i k v) M I hi F rfl rfl (show Value.int (zup σ.1 i k v i k) = _ by rw [zup_at]) (fun _ h => zup_same h) (fun _ _ => rfl) (fun _ h => zst_ce h) hdg kk
theorem zputZ (M : zMC own cc nL ret g p m c s args meth) (I : zIV g σ A H0 H locs) {i ci k idx : Nat} {v : Int32} (hv : v = 0 ∨ v = 1) (hi : zkd i = (ci, 0)) (F : zFW own idx ci k 0 .boolean) (hdg : decode cc pc = .ok (.putfield idx, 3))
    (kk : ∀ H locs, zIV g (zst σ i k v) A H0 H locs → W p l e R s m args below meth c H locs cells slots Q (F0 m (pc + 3) ls rest)) : W p l e R s m args below meth c H locs cells slots Q (F0 m pc ls (.int v :: .ref (zA g i) :: rest)) :=
  zputV (σ' := zst σ i k v) M I hi F (by rcases hv with rfl | rfl <;> decide) (by rcases hv with rfl | rfl <;> decide) (show Value.int (zup σ.1 i k v i k) = _ by rw [zup_at]) (fun _ h => zup_same h) (fun _ _ => rfl) (fun _ h => zst_ce h) hdg kk
theorem zputL (M : zMC own cc nL ret g p m c s args meth) (I : zIV g σ A H0 H locs) {i ci k idx : Nat} {v : Int64} (hi : zkd i = (ci, 0)) (F : zFW own idx ci k 1 .long) (hdg : decode cc pc = .ok (.putfield idx, 3))
    (kk : ∀ H locs, zIV g (zsl σ i k v) A H0 H locs → W p l e R s m args below meth c H locs cells slots Q (F0 m (pc + 3) ls rest)) : W p l e R s m args below meth c H locs cells slots Q (F0 m pc ls (.long v :: .ref (zA g i) :: rest)) :=
  zputV (σ' := zsl σ i k v) M I hi F rfl rfl (show Value.long (zup σ.2 i k v i k) = _ by rw [zup_at]) (fun _ _ => rfl) (fun _ h => zup_same h) (fun _ h => zsl_ce h) hdg kk
theorem zkd_len {i t n : Nat} (h : zkd i = (t, n)) : (zkd i).2 = n := by rw [h]
theorem ziald (M : zMC own cc nL ret g p m c s args meth) (I : zIV g σ A H0 H locs) {i n : Nat} {j v : Int32} (hi : zkd i = (100, n)) (hv : zrd σ i j = some v) (hdg : decode cc pc = .ok (.iaload, 1))
    (kk : W p l e R s m args below meth c H locs cells slots Q (F0 m (pc + 1) ls (.int v :: rest))) : W p l e R s m args below meth c H locs cells slots Q (F0 m pc ls (.int j :: .ref (zA g i) :: rest)) := by
  obtain ⟨⟨hx, hb, hml, hown, hts⟩, -, -, hK, hNw⟩ := M
  obtain ⟨hin, rfl⟩ := zrd_some hv
  rw [zkd_len hi] at hin
  have he := zwl_get (g := g) (σ := σ) (zkd_lt hi (by omega))
  rw [zce_ar hi] at he
  exact va_iald hx hb hK I.1 i 0 he rfl hin hdg kk
theorem zlald (M : zMC own cc nL ret g p m c s args meth) (I : zIV g σ A H0 H locs) {i n : Nat} {j : Int32} {v : Int64} (hi : zkd i = (101, n)) (hv : zrl σ i j = some v) (hdg : decode cc pc = .ok (.laload, 1))
    (kk : W p l e R s m args below meth c H locs cells slots Q (F0 m (pc + 1) ls (.long v :: rest))) : W p l e R s m args below meth c H locs cells slots Q (F0 m pc ls (.int j :: .ref (zA g i) :: rest)) := by
  obtain ⟨⟨hx, hb, hml, hown, hts⟩, -, -, hK, hNw⟩ := M
  obtain ⟨hin, rfl⟩ := zrl_some hv
  rw [zkd_len hi] at hin
  have he := zwl_get (g := g) (σ := σ) (zkd_lt hi (by omega))
  rw [zce_la hi] at he
  exact va_lald hx hb hK I.1 i 1 he rfl hin hdg kk
theorem ziast (M : zMC own cc nL ret g p m c s args meth) (I : zIV g σ A H0 H locs) {i n : Nat} {j v : Int32} {σ' : zmem} (hi : zkd i = (100, n)) (hv : zwr σ i j v = some σ') (hdg : decode cc pc = .ok (.iastore, 1))
    (kk : ∀ H locs, zIV g σ' A H0 H locs → W p l e R s m args below meth c H locs cells slots Q (F0 m (pc + 1) ls rest)) : W p l e R s m args below meth c H locs cells slots Q (F0 m pc ls (.int v :: .int j :: .ref (zA g i) :: rest)) := by
  obtain ⟨⟨hx, hb, hml, hown, hts⟩, -, -, hK, hNw⟩ := M
  obtain ⟨hin, rfl⟩ := zwr_some hv
  rw [zkd_len hi] at hin
  have hlt := zkd_lt hi (by omega)
  have he := zwl_get (g := g) (σ := σ) hlt
  rw [zce_ar hi] at he
  refine va_iast hx hb hK I.1 I.2.1 I.2.2 i 0 he rfl hin hdg (fun H1 locs1 hP hD hS => ?_)
  have e : (zwl g σ).set i (zA g i, .inl (zI g, n, .inl (upd (σ.1 i) j.toNatClampNeg v))) = zwl g (zst σ i j.toNatClampNeg v) := by
    refine zwl_set hlt ?_ (fun _ h => zst_ce h)
    rw [zce_ar hi]
    show _ = Sum.inl (zI g, n, Sum.inl (zup σ.1 i _ v i))
    rw [zup_row]
  rw [e] at hP hD
  exact kk H1 locs1 ⟨hP, hD, hS⟩
theorem zlast (M : zMC own cc nL ret g p m c s args meth) (I : zIV g σ A H0 H locs) {i n : Nat} {j : Int32} {v : Int64} {σ' : zmem} (hi : zkd i = (101, n)) (hv : zwL σ i j v = some σ') (hdg : decode cc pc = .ok (.lastore, 1))
    (kk : ∀ H locs, zIV g σ' A H0 H locs → W p l e R s m args below meth c H locs cells slots Q (F0 m (pc + 1) ls rest)) : W p l e R s m args below meth c H locs cells slots Q (F0 m pc ls (.long v :: .int j :: .ref (zA g i) :: rest)) := by
  obtain ⟨⟨hx, hb, hml, hown, hts⟩, -, -, hK, hNw⟩ := M
  obtain ⟨hin, rfl⟩ := zwL_some hv
  rw [zkd_len hi] at hin
  have hlt := zkd_lt hi (by omega)
  have he := zwl_get (g := g) (σ := σ) hlt
  rw [zce_la hi] at he
  refine va_last hx hb hK I.1 I.2.1 I.2.2 i 1 he rfl hin hdg (fun H1 locs1 hP hD hS => ?_)
  have e : (zwl g σ).set i (zA g i, .inl (zJ g, n, .inr (.inl (vp_updL (σ.2 i) j.toNatClampNeg v)))) = zwl g (zsl σ i j.toNatClampNeg v) := by
    refine zwl_set hlt ?_ (fun _ h => zsl_ce h)
    rw [zce_la hi]
    show _ = Sum.inl (zJ g, n, Sum.inr (Sum.inl (zup σ.2 i _ v i)))
    rw [zup_rowL]
  rw [e] at hP hD
  exact kk H1 locs1 ⟨hP, hD, hS⟩
theorem zalen (M : zMC own cc nL ret g p m c s args meth) (I : zIV g σ A H0 H locs) {i n : Nat} (hi : zkd i = (100, n)) (hdg : decode cc pc = .ok (.arraylength, 1))
    (kk : W p l e R s m args below meth c H locs cells slots Q (F0 m (pc + 1) ls (.int (nI (zkd i).2) :: rest))) : W p l e R s m args below meth c H locs cells slots Q (F0 m pc ls (.ref (zA g i) :: rest)) := by
  obtain ⟨⟨hx, hb, hml, hown, hts⟩, -, -, hK, hNw⟩ := M
  have he := zwl_get (g := g) (σ := σ) (zkd_lt hi (by omega))
  rw [zce_ar hi] at he
  rw [zkd_len hi] at kk
  exact va_alen hx hb hK I.1 i 0 he rfl rfl hdg kk
/-- the world behind a call, out of the callee's end -/
theorem zIV_call (hK : va_K (zD g) vwCl (zT g) s) {σ' : zmem} {t : State} {H1 : Heap} {locs1 : List Loc} (I : zIV g σ A H0 H locs) (ht : t.heap = H1) (hB : zPW g σ' t) (hS : va_S A H0 H1 locs1) : zIV g σ' A H0 H1 locs1 := by
  obtain ⟨h1, h2, h3, -⟩ := hB
  rw [ht] at h1
  exact ⟨h1, h3.weaken (fun k q hq _ => by obtain ⟨hk, rfl⟩ := zwl_key hq; exact I.2.1.2 k (zA g k, zce g σ k) (zwl_get hk)), hS⟩
theorem zPW_of (hK : va_K (zD g) vwCl (zT g) s) (hNw : zNw s) (I : zIV g σ A H0 H locs) {U : State} (hU : U.heap = H) (hW : s.WarmedH U.vm) : zPW g σ U := ⟨by rw [hU]; exact I.1, va_K.moved hW.alike hK, I.2.1.weaken (fun _ _ _ _ => trivial), va_Nw.warmF hW hNw⟩
theorem zblind {as : List Value} : FrameBlind (va_Pc as (zPW g σ)) := fun a U k mk q => by
  obtain ⟨q0, qP, qK, qD, qN⟩ := q
  exact ⟨q0, qP, va_K.moved (u := U) (U := U.calling k mk a) (Vm.Alike.refl U.vm) qK, qD, va_Nw.same (U := U.calling k mk a) rfl rfl qN⟩
/-- a call's words: instance methods, static ones -/
def zLV (own : String) (idx : Nat) (C : String) (y : MethodName) (cy : ByteArray) (nY : Nat) (rY : Option FieldType) (k : Nat) : Prop :=
  (Cond.methodLink own idx y ∈ wsL_law ∧ Cond.instanceMethod y ∈ wsL_law ∧ Cond.selects C y y ∈ wsL_law ∧ Cond.initialized C ∈ wsL_law ∧ Cond.code y cy nY rY ∈ wsL_law) ∧
  (y.cls = C ∧ y.cls ≠ "java/lang/invoke/MethodHandle" ∧ y.cls ≠ "java/lang/invoke/VarHandle" ∧ (parseMethodDescriptor y.desc).map (fun d => d.parameters.length) = some k)
def zLS (own : String) (idx : Nat) (y : MethodName) (cy : ByteArray) (nY : Nat) (rY : Option FieldType) (k : Nat) : Prop :=
  (Cond.methodLink own idx y ∈ wsL_law ∧ Cond.static y ∈ wsL_law ∧ Cond.initialized own ∈ wsL_law ∧ Cond.code y cy nY rY ∈ wsL_law) ∧
  (y.cls = own ∧ y.cls ≠ "java/lang/invoke/MethodHandle" ∧ y.cls ≠ "java/lang/invoke/VarHandle" ∧ (parseMethodDescriptor y.desc).map (fun d => d.parameters.length) = some k)
theorem zLV_in {idx : Nat} {C : String} {y : MethodName} {cy : ByteArray} {nY : Nat} {rY : Option FieldType} {k : Nat} (h : zLV own idx C y cy nY rY k) : GoodIn wsL_law (wsV own idx C y (zwm y cy nY rY)) := by
  obtain ⟨⟨h1, h2, h3, h4, h5⟩, -⟩ := h
  intro w hw
  refine zbig w ?_
  rcases List.mem_append.mp hw with hw | hw
  · simp only [List.mem_cons, List.not_mem_nil, or_false] at hw
    rcases hw with rfl | rfl | rfl | rfl <;> assumption
  · rcases List.mem_cons.mp hw with rfl | hw
    · exact h5
    · exact hw
theorem zLS_in {idx : Nat} {y : MethodName} {cy : ByteArray} {nY : Nat} {rY : Option FieldType} {k : Nat} (h : zLS own idx y cy nY rY k) : GoodIn wsL_law (wsS own idx y (zwm y cy nY rY)) := by
  obtain ⟨⟨h1, h2, h3, h4⟩, -⟩ := h
  intro w hw
  refine zbig w ?_
  rcases List.mem_append.mp hw with hw | hw
  · simp only [List.mem_cons, List.not_mem_nil, or_false] at hw
    rcases hw with rfl | rfl | rfl <;> assumption
  · rcases List.mem_cons.mp hw with rfl | hw
    · exact h4
    · exact hw
variable {y : MethodName} {cy : ByteArray} {nY idx k f n : Nat} {rY : Option FieldType} {as st : List Value} {σ' : zmem}
theorem zrunV (M : zMC own cc nL ret g p m c s args meth) (I : zIV g σ A H0 H locs) {i ci : Nat} {C : String} {T : u_T} {N : Nat} {Qc : Array Value → State → Outcome → State → Prop} (hM : zCt Qc l g y cy nY rY f n (.ref (zA g i) :: as) σ) (hi : zkd i = (ci, 0)) (hc : vwCl[ci]? = some (C, T, N)) (hci : ci < 100) (hL : zLV own idx C y cy nY rY k)
    (hR : f + 1 ≤ R.frames ∧ 8 + (nY + 11) + n ≤ R.locals) (hcs : cells ≤ R.cells ∧ slots ≤ R.slots) (hlen : as.length = k) (hst : st = as.reverse ++ .ref (zA g i) :: rest) (hcat : (rest.map fun v => v.category).sum ≤ 8) (hls : ls.size = nL) (hdg : decode cc pc = .ok (.invokevirtual idx, 3)) :
    va_Run p l e R s m args below meth c H locs cells slots 0 0 (F0 m pc ls st) rest (Qc (Value.ref (zA g i) :: as).toArray) (zAA g) := by
  obtain ⟨⟨hx, hb, hml, hown, hts⟩, -, -, hK, hNw⟩ := M
  have he := zwl_get (g := g) (σ := σ) (zkd_lt hi (by omega))
  rw [zce_ob hi hci] at he
  exact va_runV (C := C) ⟨hx, hb, hml, hown, hts⟩ hM (cwV k hts (zLV_in hL) rfl rfl rfl hL.2 hR) ⟨zblind, va_recv hK I.1 hc he, fun U hU hW => ⟨rfl, zPW_of hK hNw I hU hW⟩⟩ rfl hlen hls hst (lv_room hcat) hdg hcs
theorem zrunS (M : zMC own cc nL ret g p m c s args meth) (I : zIV g σ A H0 H locs) {Qc : Array Value → State → Outcome → State → Prop} (hM : zCt Qc l g y cy nY rY f n as σ) (hL : zLS own idx y cy nY rY k)
    (hR : f + 1 ≤ R.frames ∧ 8 + (nY + 11) + n ≤ R.locals) (hcs : cells ≤ R.cells ∧ slots ≤ R.slots) (hlen : as.length = k) (hst : st = as.reverse ++ rest) (hcat : (rest.map fun v => v.category).sum ≤ 8) (hls : ls.size = nL) (hdg : decode cc pc = .ok (.invokestatic idx, 3)) :
    va_Run p l e R s m args below meth c H locs cells slots 0 0 (F0 m pc ls st) rest (Qc as.toArray) (zAA g) := by
  obtain ⟨⟨hx, hb, hml, hown, hts⟩, -, -, hK, hNw⟩ := M
  exact va_runS ⟨hx, hb, hml, hown, hts⟩ hM (cwS k hts (zLS_in hL) rfl rfl rfl hL.2 hR) ⟨zblind, fun U hU hW => ⟨rfl, zPW_of hK hNw I hU hW⟩⟩ rfl hlen hls hst (lv_room hcat) hdg hcs
variable {a : Array Value}
theorem zcallI (M : zMC own cc nL ret g p m c s args meth) (I : zIV g σ A H0 H locs) {r : Int32} (hr : va_Run p l e R s m args below meth c H locs cells slots 0 0 (F0 m pc ls st) rest (zQI g r σ' a) (zAA g))
    (kk : ∀ H locs, zIV g σ' A H0 H locs → W p l e R s m args below meth c H locs cells slots Q (F0 m (pc + 3) ls (.int r :: rest))) : W p l e R s m args below meth c H locs cells slots Q (F0 m pc ls st) :=
  va_calli hr I.2.2 (fun q _ h => I.app q h) (fun q h => I.app q h) (fun r' u t H1 locs1 ht hvm hw hB hz hk hS => by subst hw; exact kk H1 locs1 (zIV_call M.2.2.2.1 I ht hB hS))
theorem zcallL (M : zMC own cc nL ret g p m c s args meth) (I : zIV g σ A H0 H locs) {r : Int64} (hr : va_Run p l e R s m args below meth c H locs cells slots 0 0 (F0 m pc ls st) rest (zQL g r σ' a) (zAA g))
    (kk : ∀ H locs, zIV g σ' A H0 H locs → W p l e R s m args below meth c H locs cells slots Q (F0 m (pc + 3) ls (.long r :: rest))) : W p l e R s m args below meth c H locs cells slots Q (F0 m pc ls st) :=
  va_calll hr I.2.2 (fun q _ h => I.app q h) (fun q h => I.app q h) (fun r' u t H1 locs1 ht hvm hw hB hz hk hS => by subst hw; exact kk H1 locs1 (zIV_call M.2.2.2.1 I ht hB hS))
theorem zcallD (M : zMC own cc nL ret g p m c s args meth) (I : zIV g σ A H0 H locs) {r : UInt64} (hr : va_Run p l e R s m args below meth c H locs cells slots 0 0 (F0 m pc ls st) rest (zQD g r σ' a) (zAA g))
    (kk : ∀ H locs, zIV g σ' A H0 H locs → W p l e R s m args below meth c H locs cells slots Q (F0 m (pc + 3) ls (.double r :: rest))) : W p l e R s m args below meth c H locs cells slots Q (F0 m pc ls st) :=
  va_calld hr I.2.2 (fun q _ h => I.app q h) (fun q h => I.app q h) (fun r' u t H1 locs1 ht hvm hw hB hz hk hS => by subst hw; exact kk H1 locs1 (zIV_call M.2.2.2.1 I ht hB hS))
theorem zcallU (M : zMC own cc nL ret g p m c s args meth) (I : zIV g σ A H0 H locs) (hr : va_Run p l e R s m args below meth c H locs cells slots 0 0 (F0 m pc ls st) rest (zQV g σ' a) (zAA g))
    (kk : ∀ H locs, zIV g σ' A H0 H locs → W p l e R s m args below meth c H locs cells slots Q (F0 m (pc + 3) ls rest)) : W p l e R s m args below meth c H locs cells slots Q (F0 m pc ls st) :=
  va_callv hr I.2.2 (fun q _ h => I.app q h) (fun q h => I.app q h) (fun u t H1 locs1 ht hvm hw hB hz hk hS => kk H1 locs1 (zIV_call M.2.2.2.1 I ht hB hS))
theorem zcallR (M : zMC own cc nL ret g p m c s args meth) (I : zIV g σ A H0 H locs) {r : Nat} (hr : va_Run p l e R s m args below meth c H locs cells slots 0 0 (F0 m pc ls st) rest (zQR g r σ' a) (zAA g))
    (kk : ∀ H locs, zIV g σ' A H0 H locs → W p l e R s m args below meth c H locs cells slots Q (F0 m (pc + 3) ls (.ref (zA g r) :: rest))) : W p l e R s m args below meth c H locs cells slots Q (F0 m pc ls st) :=
  va_callr hr I.2.2 (fun q _ h => I.app q h) (fun q h => I.app q h) (fun u ra t H1 locs1 ht hvm hw hB hz hk hS => by obtain ⟨rfl, hB⟩ := hB; exact kk H1 locs1 (zIV_call M.2.2.2.1 I ht hB hS))
/-- the ends -/
theorem zretI (M : zMC own cc nL (some .int) g p m c s args meth) (I : zIV g σ (zAA g) s.heap H locs) {v : Int32} (hdg : decode cc pc = .ok (.ireturn, 1)) : W p l e R s m args below meth c H locs 0 0 (MQ below (zQI g v σ) args s 0 0 (zAA g)) (F0 m pc ls [.int v]) := by
  obtain ⟨⟨hx, hb, hml, hown, hts⟩, hr, hlocks, hK, hNw⟩ := M
  exact W.iret hx hb hr (fun t ht hW => ⟨⟨v, (), rfl, rfl, zPW_of hK hNw I ht hW⟩, I.2.2.F ht⟩) I.2.2.2.2 hdg hlocks
theorem zretZ (M : zMC own cc nL (some .boolean) g p m c s args meth) (I : zIV g σ (zAA g) s.heap H locs) {v : Int32} (hv : v = 0 ∨ v = 1) (hdg : decode cc pc = .ok (.ireturn, 1)) : W p l e R s m args below meth c H locs 0 0 (MQ below (zQI g v σ) args s 0 0 (zAA g)) (F0 m pc ls [.int v]) := by
  obtain ⟨⟨hx, hb, hml, hown, hts⟩, hr, hlocks, hK, hNw⟩ := M
  exact W.zret hx hb hr (by rcases hv with rfl | rfl <;> decide) (fun t ht hW => ⟨⟨v, (), rfl, rfl, zPW_of hK hNw I ht hW⟩, I.2.2.F ht⟩) I.2.2.2.2 hdg hlocks
theorem zretL (M : zMC own cc nL (some .long) g p m c s args meth) (I : zIV g σ (zAA g) s.heap H locs) {v : Int64} (hdg : decode cc pc = .ok (.lreturn, 1)) : W p l e R s m args below meth c H locs 0 0 (MQ below (zQL g v σ) args s 0 0 (zAA g)) (F0 m pc ls [.long v]) := by
  obtain ⟨⟨hx, hb, hml, hown, hts⟩, hr, hlocks, hK, hNw⟩ := M
  exact W.lret hx hb hr (fun t ht hW => ⟨⟨v, (), rfl, rfl, zPW_of hK hNw I ht hW⟩, I.2.2.F ht⟩) I.2.2.2.2 hdg hlocks
theorem zretD (M : zMC own cc nL (some .double) g p m c s args meth) (I : zIV g σ (zAA g) s.heap H locs) {v : UInt64} (hdg : decode cc pc = .ok (.dreturn, 1)) : W p l e R s m args below meth c H locs 0 0 (MQ below (zQD g v σ) args s 0 0 (zAA g)) (F0 m pc ls [.double v]) := by
  obtain ⟨⟨hx, hb, hml, hown, hts⟩, hr, hlocks, hK, hNw⟩ := M
  exact W.dret hx hb hr (fun t ht hW => ⟨⟨v, (), rfl, rfl, zPW_of hK hNw I ht hW⟩, I.2.2.F ht⟩) I.2.2.2.2 hdg hlocks
theorem zretV (M : zMC own cc nL none g p m c s args meth) (I : zIV g σ (zAA g) s.heap H locs) (hdg : decode cc pc = .ok (.return_, 1)) : W p l e R s m args below meth c H locs 0 0 (MQ below (zQV g σ) args s 0 0 (zAA g)) (F0 m pc ls []) := by
  obtain ⟨⟨hx, hb, hml, hown, hts⟩, hr, hlocks, hK, hNw⟩ := M
  exact W.vret hx hb hr (fun t ht hW => ⟨⟨(), rfl, trivial, zPW_of hK hNw I ht hW⟩, I.2.2.F ht⟩) I.2.2.2.2 hdg hlocks
theorem zretR {C : String} (M : zMC own cc nL (some (.object C)) g p m c s args meth) (I : zIV g σ (zAA g) s.heap H locs) {r : Nat} (hdg : decode cc pc = .ok (.areturn, 1)) : W p l e R s m args below meth c H locs 0 0 (MQ below (zQR g r σ) args s 0 0 (zAA g)) (F0 m pc ls [.ref (zA g r)]) := by
  obtain ⟨⟨hx, hb, hml, hown, hts⟩, hr, hlocks, hK, hNw⟩ := M
  exact W.aret hx hb hr (Or.inl ⟨_, rfl⟩) (Or.inr ⟨_, rfl⟩) (fun t ht hW => ⟨⟨(), zA g r, rfl, trivial, rfl, zPW_of hK hNw I ht hW⟩, I.2.2.F ht⟩) I.2.2.2.2 hdg hlocks
end ZR
/-- a contract out of its walk -/
theorem zopen {Qc : Array Value → State → Outcome → State → Prop} {l : Launch} {g : zgeo} {y : MethodName} {cc : ByteArray} {nL : Nat} {ret : Option FieldType} {f n : Nat} {as : List Value} {σ : zmem} (hy : plainName y.cls = true) (hlen : (lg_sl as).length ≤ nL)
    (body : ∀ (p : Program) (e : Env) (s : State) (m : MethodId) (below : List Frame) (meth : Method) (c : Code), zMC y.cls cc nL ret g p m c s as.toArray meth → ∀ ls : Array Slot, lv_has ls nL (lv_args 0 as) → zIV g σ (zAA g) s.heap s.heap [] →
      W p l e (zrm f n) s m as.toArray below meth c s.heap [] 0 0 (MQ below Qc as.toArray s 0 0 (zAA g)) (F0 m 0 ls [])) : zCt Qc l g y cc nL ret f n as σ := by
  refine Met.ofW (cc := cc) (maxL := nL) (ret := ret) hy rfl ?_
  intro p e s m args below meth c s₁ B hml hv
  obtain ⟨rfl, hP, hK, hD, hNw⟩ := hv
  have hts := atoms_spec (ws := zwm y cc nL ret) B.pre
  have hts : ∀ w ∈ wsL_law, w.before _ s = true := fun w h => hts w (List.mem_cons_of_mem _ h)
  have hown : s.vm.findClass y.cls = some m.cls := findClass_of_methodNamed B.named
  have hl := lv_entry as (n := nL) hlen
  rw [lg_entry_eq]
  exact body p e s m below meth c ⟨⟨B.exec, B.bytes, hml, hown, hts⟩, B.returns, B.notSynchronized, hK, hNw⟩ _ hl ⟨hP, hD.weaken (fun k q hq _ => by obtain ⟨hk, rfl⟩ := zwl_key hq; exact ⟨k, hk, rfl⟩), va_S.rf⟩
theorem zfl_X0_14 : zFL RX0 14 0 0 2 := ⟨_, _, _, _, zK0, by decide, by decide, (zin (i := 199) (by decide +kernel) rfl)⟩
theorem zfl_X0_20 : zFL RX0 20 0 1 4 := ⟨_, _, _, _, zK0, by decide, by decide, (zin (i := 202) (by decide +kernel) rfl)⟩
theorem zfl_X0_23 : zFL RX0 23 0 2 0 := ⟨_, _, _, _, zK0, by decide, by decide, (zin (i := 205) (by decide +kernel) rfl)⟩
theorem zfw_X0_23 : zFW RX0 23 0 2 0 .int := ⟨_, _, _, _, zK0, by decide, by decide, (zin (i := 205) (by decide +kernel) rfl), rfl, by decide⟩
theorem zfl_X0_27 : zFL RX0 27 0 3 0 := ⟨_, _, _, _, zK0, by decide, by decide, (zin (i := 209) (by decide +kernel) rfl)⟩
theorem zfw_X0_27 : zFW RX0 27 0 3 0 .int := ⟨_, _, _, _, zK0, by decide, by decide, (zin (i := 209) (by decide +kernel) rfl), rfl, by decide⟩
theorem zfl_X0_30 : zFL RX0 30 0 4 6 := ⟨_, _, _, _, zK0, by decide, by decide, (zin (i := 211) (by decide +kernel) rfl)⟩
theorem zfl_X0_33 : zFL RX0 33 0 5 8 := ⟨_, _, _, _, zK0, by decide, by decide, (zin (i := 212) (by decide +kernel) rfl)⟩
theorem zfl_X0_36 : zFL RX0 36 7 2 6 := ⟨_, _, _, _, zK7, by decide, by decide, (zin (i := 144) (by decide +kernel) rfl)⟩
theorem zfl_X0_45 : zFL RX0 45 7 0 2 := ⟨_, _, _, _, zK7, by decide, by decide, (zin (i := 132) (by decide +kernel) rfl)⟩
theorem zfl_X0_55 : zFL RX0 55 7 1 4 := ⟨_, _, _, _, zK7, by decide, by decide, (zin (i := 138) (by decide +kernel) rfl)⟩
theorem zfl_X1_9 : zFL RX1 9 1 0 2 := ⟨_, _, _, _, zK1, by decide, by decide, (zin (i := 123) (by decide +kernel) rfl)⟩
theorem zfl_X10_10 : zFL RX10 10 10 0 2 := ⟨_, _, _, _, zK10, by decide, by decide, (zin (i := 341) (by decide +kernel) rfl)⟩
theorem zfl_X10_16 : zFL RX10 16 10 1 9 := ⟨_, _, _, _, zK10, by decide, by decide, (zin (i := 342) (by decide +kernel) rfl)⟩
theorem zfl_X10_19 : zFL RX10 19 10 2 16 := ⟨_, _, _, _, zK10, by decide, by decide, (zin (i := 343) (by decide +kernel) rfl)⟩
theorem zfl_X10_22 : zFL RX10 22 10 3 23 := ⟨_, _, _, _, zK10, by decide, by decide, (zin (i := 344) (by decide +kernel) rfl)⟩
theorem zfl_X10_25 : zFL RX10 25 10 4 0 := ⟨_, _, _, _, zK10, by decide, by decide, (zin (i := 345) (by decide +kernel) rfl)⟩
theorem zfw_X10_25 : zFW RX10 25 10 4 0 .boolean := ⟨_, _, _, _, zK10, by decide, by decide, (zin (i := 345) (by decide +kernel) rfl), rfl, by decide⟩
theorem zfl_X10_29 : zFL RX10 29 10 5 0 := ⟨_, _, _, _, zK10, by decide, by decide, (zin (i := 346) (by decide +kernel) rfl)⟩
theorem zfw_X10_29 : zFW RX10 29 10 5 0 .boolean := ⟨_, _, _, _, zK10, by decide, by decide, (zin (i := 346) (by decide +kernel) rfl), rfl, by decide⟩
theorem zfl_X10_35 : zFL RX10 35 10 6 30 := ⟨_, _, _, _, zK10, by decide, by decide, (zin (i := 347) (by decide +kernel) rfl)⟩
theorem zfl_X10_42 : zFL RX10 42 10 7 33 := ⟨_, _, _, _, zK10, by decide, by decide, (zin (i := 348) (by decide +kernel) rfl)⟩
theorem zfl_X10_49 : zFL RX10 49 10 8 36 := ⟨_, _, _, _, zK10, by decide, by decide, (zin (i := 349) (by decide +kernel) rfl)⟩
theorem zfl_X10_53 : zFL RX10 53 10 9 64 := ⟨_, _, _, _, zK10, by decide, by decide, (zin (i := 350) (by decide +kernel) rfl)⟩
theorem zfl_X10_59 : zFL RX10 59 10 10 92 := ⟨_, _, _, _, zK10, by decide, by decide, (zin (i := 351) (by decide +kernel) rfl)⟩
theorem zfl_X10_63 : zFL RX10 63 10 11 0 := ⟨_, _, _, _, zK10, by decide, by decide, (zin (i := 352) (by decide +kernel) rfl)⟩
theorem zfw_X10_63 : zFW RX10 63 10 11 0 .boolean := ⟨_, _, _, _, zK10, by decide, by decide, (zin (i := 352) (by decide +kernel) rfl), rfl, by decide⟩
theorem zfl_X10_141 : zFL RX10 141 5 0 2 := ⟨_, _, _, _, zK5, by decide, by decide, (zin (i := 287) (by decide +kernel) rfl)⟩
theorem zfl_X10_145 : zFL RX10 145 0 2 0 := ⟨_, _, _, _, zK0, by decide, by decide, (zin (i := 208) (by decide +kernel) rfl)⟩
theorem zfl_X10_161 : zFL RX10 161 7 2 6 := ⟨_, _, _, _, zK7, by decide, by decide, (zin (i := 147) (by decide +kernel) rfl)⟩
theorem zfl_X10_227 : zFL RX10 227 9 0 2 := ⟨_, _, _, _, zK9, by decide, by decide, (zin (i := 326) (by decide +kernel) rfl)⟩
theorem zfl_X10_283 : zFL RX10 283 7 0 2 := ⟨_, _, _, _, zK7, by decide, by decide, (zin (i := 136) (by decide +kernel) rfl)⟩
theorem zfl_X10_307 : zFL RX10 307 7 1 4 := ⟨_, _, _, _, zK7, by decide, by decide, (zin (i := 142) (by decide +kernel) rfl)⟩
theorem zfl_X10_310 : zFL RX10 310 5 1 11 := ⟨_, _, _, _, zK5, by decide, by decide, (zin (i := 289) (by decide +kernel) rfl)⟩
theorem zfl_X10_314 : zFL RX10 314 2 4 0 := ⟨_, _, _, _, zK2, by decide, by decide, (zin (i := 243) (by decide +kernel) rfl)⟩
theorem zfl_X10_317 : zFL RX10 317 5 2 0 := ⟨_, _, _, _, zK5, by decide, by decide, (zin (i := 291) (by decide +kernel) rfl)⟩
theorem zfl_X10_320 : zFL RX10 320 5 3 0 := ⟨_, _, _, _, zK5, by decide, by decide, (zin (i := 293) (by decide +kernel) rfl)⟩
theorem zfl_X10_326 : zFL RX10 326 9 1 0 := ⟨_, _, _, _, zK9, by decide, by decide, (zin (i := 328) (by decide +kernel) rfl)⟩
theorem zfl_X10_329 : zFL RX10 329 9 2 0 := ⟨_, _, _, _, zK9, by decide, by decide, (zin (i := 330) (by decide +kernel) rfl)⟩
theorem zfl_X11_7 : zFL RX11 7 11 0 2 := ⟨_, _, _, _, zK11, by decide, by decide, (zin (i := 1063) (by decide +kernel) rfl)⟩
theorem zfl_X11_13 : zFL RX11 13 11 2 3 := ⟨_, _, _, _, zK11, by decide, by decide, (zin (i := 1065) (by decide +kernel) rfl)⟩
theorem zfl_X11_16 : zFL RX11 16 11 3 4 := ⟨_, _, _, _, zK11, by decide, by decide, (zin (i := 1066) (by decide +kernel) rfl)⟩
theorem zfl_X11_19 : zFL RX11 19 11 4 5 := ⟨_, _, _, _, zK11, by decide, by decide, (zin (i := 1067) (by decide +kernel) rfl)⟩
theorem zfl_X11_22 : zFL RX11 22 11 6 6 := ⟨_, _, _, _, zK11, by decide, by decide, (zin (i := 1069) (by decide +kernel) rfl)⟩
theorem zfl_X11_25 : zFL RX11 25 11 8 7 := ⟨_, _, _, _, zK11, by decide, by decide, (zin (i := 1071) (by decide +kernel) rfl)⟩
theorem zfl_X11_28 : zFL RX11 28 11 9 8 := ⟨_, _, _, _, zK11, by decide, by decide, (zin (i := 1072) (by decide +kernel) rfl)⟩
theorem zfl_X11_31 : zFL RX11 31 11 11 9 := ⟨_, _, _, _, zK11, by decide, by decide, (zin (i := 1074) (by decide +kernel) rfl)⟩
theorem zfl_X11_34 : zFL RX11 34 11 12 10 := ⟨_, _, _, _, zK11, by decide, by decide, (zin (i := 1075) (by decide +kernel) rfl)⟩
theorem zfl_X11_37 : zFL RX11 37 11 14 11 := ⟨_, _, _, _, zK11, by decide, by decide, (zin (i := 1077) (by decide +kernel) rfl)⟩
theorem zfl_X11_40 : zFL RX11 40 11 15 12 := ⟨_, _, _, _, zK11, by decide, by decide, (zin (i := 1078) (by decide +kernel) rfl)⟩
theorem zfl_X11_43 : zFL RX11 43 11 16 13 := ⟨_, _, _, _, zK11, by decide, by decide, (zin (i := 1079) (by decide +kernel) rfl)⟩
theorem zfl_X11_46 : zFL RX11 46 11 17 14 := ⟨_, _, _, _, zK11, by decide, by decide, (zin (i := 1080) (by decide +kernel) rfl)⟩
theorem zfl_X11_49 : zFL RX11 49 11 19 15 := ⟨_, _, _, _, zK11, by decide, by decide, (zin (i := 1082) (by decide +kernel) rfl)⟩
theorem zfl_X11_52 : zFL RX11 52 11 20 16 := ⟨_, _, _, _, zK11, by decide, by decide, (zin (i := 1083) (by decide +kernel) rfl)⟩
theorem zfl_X11_55 : zFL RX11 55 11 21 17 := ⟨_, _, _, _, zK11, by decide, by decide, (zin (i := 1084) (by decide +kernel) rfl)⟩
theorem zfl_X11_58 : zFL RX11 58 11 23 18 := ⟨_, _, _, _, zK11, by decide, by decide, (zin (i := 1086) (by decide +kernel) rfl)⟩
theorem zfl_X11_61 : zFL RX11 61 11 24 19 := ⟨_, _, _, _, zK11, by decide, by decide, (zin (i := 1087) (by decide +kernel) rfl)⟩
theorem zfl_X11_64 : zFL RX11 64 11 25 20 := ⟨_, _, _, _, zK11, by decide, by decide, (zin (i := 1088) (by decide +kernel) rfl)⟩
theorem zfl_X11_67 : zFL RX11 67 11 26 21 := ⟨_, _, _, _, zK11, by decide, by decide, (zin (i := 1089) (by decide +kernel) rfl)⟩
theorem zfl_X11_70 : zFL RX11 70 11 7 0 := ⟨_, _, _, _, zK11, by decide, by decide, (zin (i := 1070) (by decide +kernel) rfl)⟩
theorem zfw_X11_70 : zFW RX11 70 11 7 0 .int := ⟨_, _, _, _, zK11, by decide, by decide, (zin (i := 1070) (by decide +kernel) rfl), rfl, by decide⟩
theorem zfl_X11_74 : zFL RX11 74 11 1 0 := ⟨_, _, _, _, zK11, by decide, by decide, (zin (i := 1064) (by decide +kernel) rfl)⟩
theorem zfw_X11_74 : zFW RX11 74 11 1 0 .int := ⟨_, _, _, _, zK11, by decide, by decide, (zin (i := 1064) (by decide +kernel) rfl), rfl, by decide⟩
theorem zfl_X11_97 : zFL RX11 97 11 10 0 := ⟨_, _, _, _, zK11, by decide, by decide, (zin (i := 1073) (by decide +kernel) rfl)⟩
theorem zfw_X11_97 : zFW RX11 97 11 10 0 .int := ⟨_, _, _, _, zK11, by decide, by decide, (zin (i := 1073) (by decide +kernel) rfl), rfl, by decide⟩
theorem zfl_X11_100 : zFL RX11 100 11 13 0 := ⟨_, _, _, _, zK11, by decide, by decide, (zin (i := 1076) (by decide +kernel) rfl)⟩
theorem zfw_X11_100 : zFW RX11 100 11 13 0 .int := ⟨_, _, _, _, zK11, by decide, by decide, (zin (i := 1076) (by decide +kernel) rfl), rfl, by decide⟩
theorem zfl_X11_114 : zFL RX11 114 11 18 0 := ⟨_, _, _, _, zK11, by decide, by decide, (zin (i := 1081) (by decide +kernel) rfl)⟩
theorem zfw_X11_114 : zFW RX11 114 11 18 0 .int := ⟨_, _, _, _, zK11, by decide, by decide, (zin (i := 1081) (by decide +kernel) rfl), rfl, by decide⟩
theorem zfl_X11_122 : zFL RX11 122 11 22 0 := ⟨_, _, _, _, zK11, by decide, by decide, (zin (i := 1085) (by decide +kernel) rfl)⟩
theorem zfw_X11_122 : zFW RX11 122 11 22 0 .int := ⟨_, _, _, _, zK11, by decide, by decide, (zin (i := 1085) (by decide +kernel) rfl), rfl, by decide⟩
theorem zfl_X11_165 : zFL RX11 165 11 5 0 := ⟨_, _, _, _, zK11, by decide, by decide, (zin (i := 1068) (by decide +kernel) rfl)⟩
theorem zfw_X11_165 : zFW RX11 165 11 5 0 .int := ⟨_, _, _, _, zK11, by decide, by decide, (zin (i := 1068) (by decide +kernel) rfl), rfl, by decide⟩
theorem zfl_X11_168 : zFL RX11 168 11 28 0 := ⟨_, _, _, _, zK11, by decide, by decide, (zin (i := 1091) (by decide +kernel) rfl)⟩
theorem zfw_X11_168 : zFW RX11 168 11 28 0 .boolean := ⟨_, _, _, _, zK11, by decide, by decide, (zin (i := 1091) (by decide +kernel) rfl), rfl, by decide⟩
theorem zfl_X11_172 : zFL RX11 172 11 27 0 := ⟨_, _, _, _, zK11, by decide, by decide, (zin (i := 1090) (by decide +kernel) rfl)⟩
theorem zfw_X11_172 : zFW RX11 172 11 27 0 .int := ⟨_, _, _, _, zK11, by decide, by decide, (zin (i := 1090) (by decide +kernel) rfl), rfl, by decide⟩
theorem zfl_X11_245 : zFL RX11 245 11 29 1 := ⟨_, _, _, _, zK11, by decide, by decide, (zin (i := 1092) (by decide +kernel) rfl)⟩
theorem zfw_X11_245 : zFW RX11 245 11 29 1 .long := ⟨_, _, _, _, zK11, by decide, by decide, (zin (i := 1092) (by decide +kernel) rfl), rfl, by decide⟩
theorem zfl_X2_14 : zFL RX2 14 2 0 2 := ⟨_, _, _, _, zK2, by decide, by decide, (zin (i := 234) (by decide +kernel) rfl)⟩
theorem zfl_X2_20 : zFL RX2 20 2 1 4 := ⟨_, _, _, _, zK2, by decide, by decide, (zin (i := 236) (by decide +kernel) rfl)⟩
theorem zfl_X2_23 : zFL RX2 23 2 2 6 := ⟨_, _, _, _, zK2, by decide, by decide, (zin (i := 238) (by decide +kernel) rfl)⟩
theorem zfl_X2_26 : zFL RX2 26 2 3 8 := ⟨_, _, _, _, zK2, by decide, by decide, (zin (i := 240) (by decide +kernel) rfl)⟩
theorem zfl_X2_29 : zFL RX2 29 2 4 0 := ⟨_, _, _, _, zK2, by decide, by decide, (zin (i := 241) (by decide +kernel) rfl)⟩
theorem zfw_X2_29 : zFW RX2 29 2 4 0 .int := ⟨_, _, _, _, zK2, by decide, by decide, (zin (i := 241) (by decide +kernel) rfl), rfl, by decide⟩
theorem zfl_X2_43 : zFL RX2 43 0 2 0 := ⟨_, _, _, _, zK0, by decide, by decide, (zin (i := 207) (by decide +kernel) rfl)⟩
theorem zfl_X3_11 : zFL RX3 11 3 0 2 := ⟨_, _, _, _, zK3, by decide, by decide, (zin (i := 261) (by decide +kernel) rfl)⟩
theorem zfl_X3_15 : zFL RX3 15 3 1 3 := ⟨_, _, _, _, zK3, by decide, by decide, (zin (i := 262) (by decide +kernel) rfl)⟩
theorem zfl_X3_18 : zFL RX3 18 3 2 0 := ⟨_, _, _, _, zK3, by decide, by decide, (zin (i := 263) (by decide +kernel) rfl)⟩
theorem zfw_X3_18 : zFW RX3 18 3 2 0 .int := ⟨_, _, _, _, zK3, by decide, by decide, (zin (i := 263) (by decide +kernel) rfl), rfl, by decide⟩
theorem zfl_X3_22 : zFL RX3 22 3 3 0 := ⟨_, _, _, _, zK3, by decide, by decide, (zin (i := 265) (by decide +kernel) rfl)⟩
theorem zfw_X3_22 : zFW RX3 22 3 3 0 .int := ⟨_, _, _, _, zK3, by decide, by decide, (zin (i := 265) (by decide +kernel) rfl), rfl, by decide⟩
theorem zfl_X3_25 : zFL RX3 25 3 4 0 := ⟨_, _, _, _, zK3, by decide, by decide, (zin (i := 267) (by decide +kernel) rfl)⟩
theorem zfw_X3_25 : zFW RX3 25 3 4 0 .int := ⟨_, _, _, _, zK3, by decide, by decide, (zin (i := 267) (by decide +kernel) rfl), rfl, by decide⟩
theorem zfl_X3_28 : zFL RX3 28 3 5 0 := ⟨_, _, _, _, zK3, by decide, by decide, (zin (i := 269) (by decide +kernel) rfl)⟩
theorem zfw_X3_28 : zFW RX3 28 3 5 0 .int := ⟨_, _, _, _, zK3, by decide, by decide, (zin (i := 269) (by decide +kernel) rfl), rfl, by decide⟩
theorem zfl_X3_50 : zFL RX3 50 7 2 6 := ⟨_, _, _, _, zK7, by decide, by decide, (zin (i := 146) (by decide +kernel) rfl)⟩
theorem zfl_X3_61 : zFL RX3 61 7 0 2 := ⟨_, _, _, _, zK7, by decide, by decide, (zin (i := 134) (by decide +kernel) rfl)⟩
theorem zfl_X3_70 : zFL RX3 70 7 1 4 := ⟨_, _, _, _, zK7, by decide, by decide, (zin (i := 140) (by decide +kernel) rfl)⟩
theorem zfl_X4_16 : zFL RX4 16 4 0 2 := ⟨_, _, _, _, zK4, by decide, by decide, (zin (i := 163) (by decide +kernel) rfl)⟩
theorem zfl_X4_22 : zFL RX4 22 4 1 0 := ⟨_, _, _, _, zK4, by decide, by decide, (zin (i := 164) (by decide +kernel) rfl)⟩
theorem zfw_X4_22 : zFW RX4 22 4 1 0 .int := ⟨_, _, _, _, zK4, by decide, by decide, (zin (i := 164) (by decide +kernel) rfl), rfl, by decide⟩
theorem zfl_X5_12 : zFL RX5 12 5 0 2 := ⟨_, _, _, _, zK5, by decide, by decide, (zin (i := 286) (by decide +kernel) rfl)⟩
theorem zfl_X5_21 : zFL RX5 21 5 1 11 := ⟨_, _, _, _, zK5, by decide, by decide, (zin (i := 288) (by decide +kernel) rfl)⟩
theorem zfl_X5_25 : zFL RX5 25 5 2 0 := ⟨_, _, _, _, zK5, by decide, by decide, (zin (i := 290) (by decide +kernel) rfl)⟩
theorem zfw_X5_25 : zFW RX5 25 5 2 0 .int := ⟨_, _, _, _, zK5, by decide, by decide, (zin (i := 290) (by decide +kernel) rfl), rfl, by decide⟩
theorem zfl_X5_29 : zFL RX5 29 5 3 0 := ⟨_, _, _, _, zK5, by decide, by decide, (zin (i := 292) (by decide +kernel) rfl)⟩
theorem zfw_X5_29 : zFW RX5 29 5 3 0 .int := ⟨_, _, _, _, zK5, by decide, by decide, (zin (i := 292) (by decide +kernel) rfl), rfl, by decide⟩
theorem zfl_X5_35 : zFL RX5 35 5 4 20 := ⟨_, _, _, _, zK5, by decide, by decide, (zin (i := 294) (by decide +kernel) rfl)⟩
theorem zfl_X5_44 : zFL RX5 44 5 5 23 := ⟨_, _, _, _, zK5, by decide, by decide, (zin (i := 295) (by decide +kernel) rfl)⟩
theorem zfl_X5_48 : zFL RX5 48 5 6 25 := ⟨_, _, _, _, zK5, by decide, by decide, (zin (i := 296) (by decide +kernel) rfl)⟩
theorem zfl_X5_51 : zFL RX5 51 5 7 27 := ⟨_, _, _, _, zK5, by decide, by decide, (zin (i := 297) (by decide +kernel) rfl)⟩
theorem zfl_X5_64 : zFL RX5 64 2 4 0 := ⟨_, _, _, _, zK2, by decide, by decide, (zin (i := 242) (by decide +kernel) rfl)⟩
theorem zfl_X5_67 : zFL RX5 67 0 0 2 := ⟨_, _, _, _, zK0, by decide, by decide, (zin (i := 200) (by decide +kernel) rfl)⟩
theorem zfl_X5_70 : zFL RX5 70 2 0 2 := ⟨_, _, _, _, zK2, by decide, by decide, (zin (i := 235) (by decide +kernel) rfl)⟩
theorem zfl_X5_77 : zFL RX5 77 0 1 4 := ⟨_, _, _, _, zK0, by decide, by decide, (zin (i := 204) (by decide +kernel) rfl)⟩
theorem zfl_X5_88 : zFL RX5 88 0 3 0 := ⟨_, _, _, _, zK0, by decide, by decide, (zin (i := 210) (by decide +kernel) rfl)⟩
theorem zfl_X5_91 : zFL RX5 91 7 0 2 := ⟨_, _, _, _, zK7, by decide, by decide, (zin (i := 133) (by decide +kernel) rfl)⟩
theorem zfl_X5_103 : zFL RX5 103 7 1 4 := ⟨_, _, _, _, zK7, by decide, by decide, (zin (i := 139) (by decide +kernel) rfl)⟩
theorem zfl_X5_116 : zFL RX5 116 7 2 6 := ⟨_, _, _, _, zK7, by decide, by decide, (zin (i := 145) (by decide +kernel) rfl)⟩
theorem zfl_X5_135 : zFL RX5 135 3 3 0 := ⟨_, _, _, _, zK3, by decide, by decide, (zin (i := 266) (by decide +kernel) rfl)⟩
theorem zfl_X5_138 : zFL RX5 138 3 5 0 := ⟨_, _, _, _, zK3, by decide, by decide, (zin (i := 270) (by decide +kernel) rfl)⟩
theorem zfl_X5_144 : zFL RX5 144 3 2 0 := ⟨_, _, _, _, zK3, by decide, by decide, (zin (i := 264) (by decide +kernel) rfl)⟩
theorem zfl_X5_147 : zFL RX5 147 3 4 0 := ⟨_, _, _, _, zK3, by decide, by decide, (zin (i := 268) (by decide +kernel) rfl)⟩
theorem zfl_X5_150 : zFL RX5 150 2 1 4 := ⟨_, _, _, _, zK2, by decide, by decide, (zin (i := 237) (by decide +kernel) rfl)⟩
theorem zfl_X5_153 : zFL RX5 153 2 2 6 := ⟨_, _, _, _, zK2, by decide, by decide, (zin (i := 239) (by decide +kernel) rfl)⟩
theorem zfl_X6_9 : zFL RX6 9 6 0 2 := ⟨_, _, _, _, zK6, by decide, by decide, (zin (i := 108) (by decide +kernel) rfl)⟩
theorem zfl_X6_15 : zFL RX6 15 6 1 0 := ⟨_, _, _, _, zK6, by decide, by decide, (zin (i := 109) (by decide +kernel) rfl)⟩
theorem zfw_X6_15 : zFW RX6 15 6 1 0 .int := ⟨_, _, _, _, zK6, by decide, by decide, (zin (i := 109) (by decide +kernel) rfl), rfl, by decide⟩
theorem zfl_X7_12 : zFL RX7 12 7 0 2 := ⟨_, _, _, _, zK7, by decide, by decide, (zin (i := 131) (by decide +kernel) rfl)⟩
theorem zfl_X7_18 : zFL RX7 18 7 1 4 := ⟨_, _, _, _, zK7, by decide, by decide, (zin (i := 137) (by decide +kernel) rfl)⟩
theorem zfl_X7_26 : zFL RX7 26 7 2 6 := ⟨_, _, _, _, zK7, by decide, by decide, (zin (i := 143) (by decide +kernel) rfl)⟩
theorem zfl_X8_14 : zFL RX8 14 8 0 2 := ⟨_, _, _, _, zK8, by decide, by decide, (zin (i := 178) (by decide +kernel) rfl)⟩
theorem zfl_X8_20 : zFL RX8 20 8 1 0 := ⟨_, _, _, _, zK8, by decide, by decide, (zin (i := 179) (by decide +kernel) rfl)⟩
theorem zfw_X8_20 : zFW RX8 20 8 1 0 .int := ⟨_, _, _, _, zK8, by decide, by decide, (zin (i := 179) (by decide +kernel) rfl), rfl, by decide⟩
theorem zfl_X8_43 : zFL RX8 43 7 0 2 := ⟨_, _, _, _, zK7, by decide, by decide, (zin (i := 135) (by decide +kernel) rfl)⟩
theorem zfl_X8_54 : zFL RX8 54 7 1 4 := ⟨_, _, _, _, zK7, by decide, by decide, (zin (i := 141) (by decide +kernel) rfl)⟩
theorem zfl_X9_12 : zFL RX9 12 9 0 2 := ⟨_, _, _, _, zK9, by decide, by decide, (zin (i := 325) (by decide +kernel) rfl)⟩
theorem zfl_X9_18 : zFL RX9 18 9 1 0 := ⟨_, _, _, _, zK9, by decide, by decide, (zin (i := 327) (by decide +kernel) rfl)⟩
theorem zfw_X9_18 : zFW RX9 18 9 1 0 .int := ⟨_, _, _, _, zK9, by decide, by decide, (zin (i := 327) (by decide +kernel) rfl), rfl, by decide⟩
theorem zfl_X9_22 : zFL RX9 22 9 2 0 := ⟨_, _, _, _, zK9, by decide, by decide, (zin (i := 329) (by decide +kernel) rfl)⟩
theorem zfw_X9_22 : zFW RX9 22 9 2 0 .int := ⟨_, _, _, _, zK9, by decide, by decide, (zin (i := 329) (by decide +kernel) rfl), rfl, by decide⟩
theorem zfl_X9_30 : zFL RX9 30 9 3 11 := ⟨_, _, _, _, zK9, by decide, by decide, (zin (i := 331) (by decide +kernel) rfl)⟩
theorem zfl_X9_38 : zFL RX9 38 0 2 0 := ⟨_, _, _, _, zK0, by decide, by decide, (zin (i := 206) (by decide +kernel) rfl)⟩
theorem zfl_X9_41 : zFL RX9 41 0 1 4 := ⟨_, _, _, _, zK0, by decide, by decide, (zin (i := 203) (by decide +kernel) rfl)⟩
theorem zfl_X9_58 : zFL RX9 58 0 0 2 := ⟨_, _, _, _, zK0, by decide, by decide, (zin (i := 201) (by decide +kernel) rfl)⟩
theorem zlv_L_7 : zLV RL 7 RX10 yX10_put cX10_put 4 (some .int) 3 := ⟨⟨(zin (i := 723) (by decide +kernel) rfl), (zin (i := 724) (by decide +kernel) rfl), (zin (i := 725) (by decide +kernel) rfl), (zin (i := 68) (by decide +kernel) rfl), (zin (i := 726) (by decide +kernel) rfl)⟩, rfl, by decide, by decide, by decide +kernel⟩
theorem zlv_L_19 : zLV RL 19 RX10 yX10_take cX10_take 4 (some .int) 3 := ⟨⟨(zin (i := 840) (by decide +kernel) rfl), (zin (i := 841) (by decide +kernel) rfl), (zin (i := 842) (by decide +kernel) rfl), (zin (i := 68) (by decide +kernel) rfl), (zin (i := 843) (by decide +kernel) rfl)⟩, rfl, by decide, by decide, by decide +kernel⟩
theorem zlv_L_22 : zLV RL 22 RX10 yX10_change cX10_change 5 (some .int) 3 := ⟨⟨(zin (i := 857) (by decide +kernel) rfl), (zin (i := 858) (by decide +kernel) rfl), (zin (i := 859) (by decide +kernel) rfl), (zin (i := 68) (by decide +kernel) rfl), (zin (i := 860) (by decide +kernel) rfl)⟩, rfl, by decide, by decide, by decide +kernel⟩
theorem zlv_L_25 : zLV RL 25 RX10 yX10_turn cX10_turn 4 (some .int) 3 := ⟨⟨(zin (i := 864) (by decide +kernel) rfl), (zin (i := 865) (by decide +kernel) rfl), (zin (i := 866) (by decide +kernel) rfl), (zin (i := 68) (by decide +kernel) rfl), (zin (i := 867) (by decide +kernel) rfl)⟩, rfl, by decide, by decide, by decide +kernel⟩
theorem zlv_L_28 : zLV RL 28 RX10 yX10_copy cX10_copy 6 (some .int) 4 := ⟨⟨(zin (i := 876) (by decide +kernel) rfl), (zin (i := 877) (by decide +kernel) rfl), (zin (i := 878) (by decide +kernel) rfl), (zin (i := 68) (by decide +kernel) rfl), (zin (i := 879) (by decide +kernel) rfl)⟩, rfl, by decide, by decide, by decide +kernel⟩
theorem zlv_L_32 : zLV RL 32 RX10 yX10_set cX10_set 4 (some .int) 2 := ⟨⟨(zin (i := 888) (by decide +kernel) rfl), (zin (i := 889) (by decide +kernel) rfl), (zin (i := 890) (by decide +kernel) rfl), (zin (i := 68) (by decide +kernel) rfl), (zin (i := 891) (by decide +kernel) rfl)⟩, rfl, by decide, by decide, by decide +kernel⟩
theorem zlv_L_36 : zLV RL 36 RX10 yX10_append cX10_append 2 (some .int) 1 := ⟨⟨(zin (i := 903) (by decide +kernel) rfl), (zin (i := 904) (by decide +kernel) rfl), (zin (i := 905) (by decide +kernel) rfl), (zin (i := 68) (by decide +kernel) rfl), (zin (i := 906) (by decide +kernel) rfl)⟩, rfl, by decide, by decide, by decide +kernel⟩
theorem zlv_L_40 : zLV RL 40 RX10 yX10_read cX10_read 1 (some .int) 0 := ⟨⟨(zin (i := 917) (by decide +kernel) rfl), (zin (i := 918) (by decide +kernel) rfl), (zin (i := 919) (by decide +kernel) rfl), (zin (i := 68) (by decide +kernel) rfl), (zin (i := 920) (by decide +kernel) rfl)⟩, rfl, by decide, by decide, by decide +kernel⟩
theorem zlv_L_44 : zLV RL 44 RX10 yX10_keep cX10_keep 2 (some .int) 1 := ⟨⟨(zin (i := 944) (by decide +kernel) rfl), (zin (i := 945) (by decide +kernel) rfl), (zin (i := 946) (by decide +kernel) rfl), (zin (i := 68) (by decide +kernel) rfl), (zin (i := 947) (by decide +kernel) rfl)⟩, rfl, by decide, by decide, by decide +kernel⟩
theorem zlv_L_47 : zLV RL 47 RX10 yX10_restore cX10_restore 2 (some .int) 1 := ⟨⟨(zin (i := 960) (by decide +kernel) rfl), (zin (i := 961) (by decide +kernel) rfl), (zin (i := 962) (by decide +kernel) rfl), (zin (i := 68) (by decide +kernel) rfl), (zin (i := 963) (by decide +kernel) rfl)⟩, rfl, by decide, by decide, by decide +kernel⟩
theorem zlv_L_50 : zLV RL 50 RX10 yX10_undo cX10_undo 1 (some .int) 0 := ⟨⟨(zin (i := 968) (by decide +kernel) rfl), (zin (i := 969) (by decide +kernel) rfl), (zin (i := 970) (by decide +kernel) rfl), (zin (i := 68) (by decide +kernel) rfl), (zin (i := 971) (by decide +kernel) rfl)⟩, rfl, by decide, by decide, by decide +kernel⟩
theorem zlv_L_53 : zLV RL 53 RX10 yX10_sign cX10_sign 3 (some .int) 2 := ⟨⟨(zin (i := 984) (by decide +kernel) rfl), (zin (i := 985) (by decide +kernel) rfl), (zin (i := 986) (by decide +kernel) rfl), (zin (i := 68) (by decide +kernel) rfl), (zin (i := 987) (by decide +kernel) rfl)⟩, rfl, by decide, by decide, by decide +kernel⟩
theorem zlv_L_56 : zLV RL 56 RX10 yX10_anchor cX10_anchor 3 (some .int) 2 := ⟨⟨(zin (i := 991) (by decide +kernel) rfl), (zin (i := 992) (by decide +kernel) rfl), (zin (i := 993) (by decide +kernel) rfl), (zin (i := 68) (by decide +kernel) rfl), (zin (i := 994) (by decide +kernel) rfl)⟩, rfl, by decide, by decide, by decide +kernel⟩
theorem zlv_L_59 : zLV RL 59 RX10 yX10_turned cX10_turned 3 (some .int) 2 := ⟨⟨(zin (i := 1000) (by decide +kernel) rfl), (zin (i := 1001) (by decide +kernel) rfl), (zin (i := 1002) (by decide +kernel) rfl), (zin (i := 68) (by decide +kernel) rfl), (zin (i := 1003) (by decide +kernel) rfl)⟩, rfl, by decide, by decide, by decide +kernel⟩
theorem zlv_L_62 : zLV RL 62 RX10 yX10_gap cX10_gap 3 (some .int) 2 := ⟨⟨(zin (i := 1008) (by decide +kernel) rfl), (zin (i := 1009) (by decide +kernel) rfl), (zin (i := 1010) (by decide +kernel) rfl), (zin (i := 68) (by decide +kernel) rfl), (zin (i := 1011) (by decide +kernel) rfl)⟩, rfl, by decide, by decide, by decide +kernel⟩
theorem zlv_L_65 : zLV RL 65 RX10 yX10_partner cX10_partner 3 (some .int) 2 := ⟨⟨(zin (i := 1016) (by decide +kernel) rfl), (zin (i := 1017) (by decide +kernel) rfl), (zin (i := 1018) (by decide +kernel) rfl), (zin (i := 68) (by decide +kernel) rfl), (zin (i := 1019) (by decide +kernel) rfl)⟩, rfl, by decide, by decide, by decide +kernel⟩
theorem zlv_L_68 : zLV RL 68 RX10 yX10_doubled cX10_doubled 3 (some .int) 2 := ⟨⟨(zin (i := 1023) (by decide +kernel) rfl), (zin (i := 1024) (by decide +kernel) rfl), (zin (i := 1025) (by decide +kernel) rfl), (zin (i := 68) (by decide +kernel) rfl), (zin (i := 1026) (by decide +kernel) rfl)⟩, rfl, by decide, by decide, by decide +kernel⟩
theorem zlv_L_71 : zLV RL 71 RX10 yX10_count cX10_count 2 (some .int) 1 := ⟨⟨(zin (i := 1031) (by decide +kernel) rfl), (zin (i := 1032) (by decide +kernel) rfl), (zin (i := 1033) (by decide +kernel) rfl), (zin (i := 68) (by decide +kernel) rfl), (zin (i := 1034) (by decide +kernel) rfl)⟩, rfl, by decide, by decide, by decide +kernel⟩
theorem zlv_L_74 : zLV RL 74 RX10 yX10_setting cX10_setting 2 (some .int) 1 := ⟨⟨(zin (i := 1039) (by decide +kernel) rfl), (zin (i := 1040) (by decide +kernel) rfl), (zin (i := 1041) (by decide +kernel) rfl), (zin (i := 68) (by decide +kernel) rfl), (zin (i := 1042) (by decide +kernel) rfl)⟩, rfl, by decide, by decide, by decide +kernel⟩
theorem zlv_L_77 : zLV RL 77 RX10 yX10_ifSet cX10_ifSet 3 (some .int) 2 := ⟨⟨(zin (i := 1046) (by decide +kernel) rfl), (zin (i := 1047) (by decide +kernel) rfl), (zin (i := 1048) (by decide +kernel) rfl), (zin (i := 68) (by decide +kernel) rfl), (zin (i := 1049) (by decide +kernel) rfl)⟩, rfl, by decide, by decide, by decide +kernel⟩
theorem zlv_L_80 : zLV RL 80 RX10 yX10_ifChanged cX10_ifChanged 4 (some .int) 3 := ⟨⟨(zin (i := 1053) (by decide +kernel) rfl), (zin (i := 1054) (by decide +kernel) rfl), (zin (i := 1055) (by decide +kernel) rfl), (zin (i := 68) (by decide +kernel) rfl), (zin (i := 1056) (by decide +kernel) rfl)⟩, rfl, by decide, by decide, by decide +kernel⟩
theorem zlv_L_92 : zLV RL 92 RX11 yX11_put cX11_put 5 (some .int) 3 := ⟨⟨(zin (i := 1158) (by decide +kernel) rfl), (zin (i := 1159) (by decide +kernel) rfl), (zin (i := 1160) (by decide +kernel) rfl), (zin (i := 79) (by decide +kernel) rfl), (zin (i := 1161) (by decide +kernel) rfl)⟩, rfl, by decide, by decide, by decide +kernel⟩
theorem zlv_L_93 : zLV RL 93 RX11 yX11_thrown cX11_thrown 1 (some .int) 0 := ⟨⟨(zin (i := 1154) (by decide +kernel) rfl), (zin (i := 1155) (by decide +kernel) rfl), (zin (i := 1156) (by decide +kernel) rfl), (zin (i := 79) (by decide +kernel) rfl), (zin (i := 1157) (by decide +kernel) rfl)⟩, rfl, by decide, by decide, by decide +kernel⟩
theorem zlv_L_98 : zLV RL 98 RX11 yX11_take cX11_take 5 (some .int) 3 := ⟨⟨(zin (i := 1187) (by decide +kernel) rfl), (zin (i := 1188) (by decide +kernel) rfl), (zin (i := 1189) (by decide +kernel) rfl), (zin (i := 79) (by decide +kernel) rfl), (zin (i := 1190) (by decide +kernel) rfl)⟩, rfl, by decide, by decide, by decide +kernel⟩
theorem zlv_L_101 : zLV RL 101 RX11 yX11_change cX11_change 5 (some .int) 3 := ⟨⟨(zin (i := 1195) (by decide +kernel) rfl), (zin (i := 1196) (by decide +kernel) rfl), (zin (i := 1197) (by decide +kernel) rfl), (zin (i := 79) (by decide +kernel) rfl), (zin (i := 1198) (by decide +kernel) rfl)⟩, rfl, by decide, by decide, by decide +kernel⟩
theorem zlv_L_104 : zLV RL 104 RX11 yX11_turn cX11_turn 7 (some .int) 3 := ⟨⟨(zin (i := 1199) (by decide +kernel) rfl), (zin (i := 1200) (by decide +kernel) rfl), (zin (i := 1201) (by decide +kernel) rfl), (zin (i := 79) (by decide +kernel) rfl), (zin (i := 1202) (by decide +kernel) rfl)⟩, rfl, by decide, by decide, by decide +kernel⟩
theorem zlv_L_108 : zLV RL 108 RX11 yX11_copy cX11_copy 7 (some .int) 4 := ⟨⟨(zin (i := 1203) (by decide +kernel) rfl), (zin (i := 1204) (by decide +kernel) rfl), (zin (i := 1205) (by decide +kernel) rfl), (zin (i := 79) (by decide +kernel) rfl), (zin (i := 1206) (by decide +kernel) rfl)⟩, rfl, by decide, by decide, by decide +kernel⟩
theorem zlv_L_109 : zLV RL 109 RX10 yX10_exchange cX10_exchange 1 (some .int) 0 := ⟨⟨(zin (i := 378) (by decide +kernel) rfl), (zin (i := 379) (by decide +kernel) rfl), (zin (i := 380) (by decide +kernel) rfl), (zin (i := 68) (by decide +kernel) rfl), (zin (i := 381) (by decide +kernel) rfl)⟩, rfl, by decide, by decide, by decide +kernel⟩
theorem zlv_L_112 : zLV RL 112 RX11 yX11_exchange cX11_exchange 3 (some .int) 0 := ⟨⟨(zin (i := 1207) (by decide +kernel) rfl), (zin (i := 1208) (by decide +kernel) rfl), (zin (i := 1209) (by decide +kernel) rfl), (zin (i := 79) (by decide +kernel) rfl), (zin (i := 1210) (by decide +kernel) rfl)⟩, rfl, by decide, by decide, by decide +kernel⟩
theorem zlv_L_116 : zLV RL 116 RX11 yX11_set cX11_set 4 (some .int) 2 := ⟨⟨(zin (i := 1223) (by decide +kernel) rfl), (zin (i := 1224) (by decide +kernel) rfl), (zin (i := 1225) (by decide +kernel) rfl), (zin (i := 79) (by decide +kernel) rfl), (zin (i := 1226) (by decide +kernel) rfl)⟩, rfl, by decide, by decide, by decide +kernel⟩
theorem zlv_L_120 : zLV RL 120 RX11 yX11_append cX11_append 2 (some .int) 1 := ⟨⟨(zin (i := 1233) (by decide +kernel) rfl), (zin (i := 1234) (by decide +kernel) rfl), (zin (i := 1235) (by decide +kernel) rfl), (zin (i := 79) (by decide +kernel) rfl), (zin (i := 1236) (by decide +kernel) rfl)⟩, rfl, by decide, by decide, by decide +kernel⟩
theorem zlv_L_121 : zLV RL 121 RX10 yX10_clearBuffer cX10_clearBuffer 2 (some .int) 0 := ⟨⟨(zin (i := 546) (by decide +kernel) rfl), (zin (i := 547) (by decide +kernel) rfl), (zin (i := 548) (by decide +kernel) rfl), (zin (i := 68) (by decide +kernel) rfl), (zin (i := 549) (by decide +kernel) rfl)⟩, rfl, by decide, by decide, by decide +kernel⟩
theorem zlv_L_124 : zLV RL 124 RX11 yX11_clearBuffer cX11_clearBuffer 2 (some .int) 0 := ⟨⟨(zin (i := 1237) (by decide +kernel) rfl), (zin (i := 1238) (by decide +kernel) rfl), (zin (i := 1239) (by decide +kernel) rfl), (zin (i := 79) (by decide +kernel) rfl), (zin (i := 1240) (by decide +kernel) rfl)⟩, rfl, by decide, by decide, by decide +kernel⟩
theorem zlv_L_125 : zLV RL 125 RX10 yX10_firstError cX10_firstError 1 (some .int) 0 := ⟨⟨(zin (i := 558) (by decide +kernel) rfl), (zin (i := 559) (by decide +kernel) rfl), (zin (i := 560) (by decide +kernel) rfl), (zin (i := 68) (by decide +kernel) rfl), (zin (i := 561) (by decide +kernel) rfl)⟩, rfl, by decide, by decide, by decide +kernel⟩
theorem zlv_L_128 : zLV RL 128 RX11 yX11_firstError cX11_firstError 1 (some .int) 0 := ⟨⟨(zin (i := 1241) (by decide +kernel) rfl), (zin (i := 1242) (by decide +kernel) rfl), (zin (i := 1243) (by decide +kernel) rfl), (zin (i := 79) (by decide +kernel) rfl), (zin (i := 1244) (by decide +kernel) rfl)⟩, rfl, by decide, by decide, by decide +kernel⟩
theorem zlv_L_132 : zLV RL 132 RX11 yX11_read cX11_read 3 (some .int) 0 := ⟨⟨(zin (i := 1253) (by decide +kernel) rfl), (zin (i := 1254) (by decide +kernel) rfl), (zin (i := 1255) (by decide +kernel) rfl), (zin (i := 79) (by decide +kernel) rfl), (zin (i := 1256) (by decide +kernel) rfl)⟩, rfl, by decide, by decide, by decide +kernel⟩
theorem zlv_L_135 : zLV RL 135 RX11 yX11_keep cX11_keep 3 (some .int) 1 := ⟨⟨(zin (i := 1257) (by decide +kernel) rfl), (zin (i := 1258) (by decide +kernel) rfl), (zin (i := 1259) (by decide +kernel) rfl), (zin (i := 79) (by decide +kernel) rfl), (zin (i := 1260) (by decide +kernel) rfl)⟩, rfl, by decide, by decide, by decide +kernel⟩
theorem zlv_L_138 : zLV RL 138 RX11 yX11_restore cX11_restore 3 (some .int) 1 := ⟨⟨(zin (i := 1264) (by decide +kernel) rfl), (zin (i := 1265) (by decide +kernel) rfl), (zin (i := 1266) (by decide +kernel) rfl), (zin (i := 79) (by decide +kernel) rfl), (zin (i := 1267) (by decide +kernel) rfl)⟩, rfl, by decide, by decide, by decide +kernel⟩
theorem zlv_L_141 : zLV RL 141 RX11 yX11_undo cX11_undo 2 (some .int) 0 := ⟨⟨(zin (i := 1268) (by decide +kernel) rfl), (zin (i := 1269) (by decide +kernel) rfl), (zin (i := 1270) (by decide +kernel) rfl), (zin (i := 79) (by decide +kernel) rfl), (zin (i := 1271) (by decide +kernel) rfl)⟩, rfl, by decide, by decide, by decide +kernel⟩
theorem zlv_L_144 : zLV RL 144 RX11 yX11_sign cX11_sign 3 (some .int) 2 := ⟨⟨(zin (i := 1272) (by decide +kernel) rfl), (zin (i := 1273) (by decide +kernel) rfl), (zin (i := 1274) (by decide +kernel) rfl), (zin (i := 79) (by decide +kernel) rfl), (zin (i := 1275) (by decide +kernel) rfl)⟩, rfl, by decide, by decide, by decide +kernel⟩
theorem zlv_L_147 : zLV RL 147 RX11 yX11_anchor cX11_anchor 3 (some .int) 2 := ⟨⟨(zin (i := 1276) (by decide +kernel) rfl), (zin (i := 1277) (by decide +kernel) rfl), (zin (i := 1278) (by decide +kernel) rfl), (zin (i := 79) (by decide +kernel) rfl), (zin (i := 1279) (by decide +kernel) rfl)⟩, rfl, by decide, by decide, by decide +kernel⟩
theorem zlv_L_150 : zLV RL 150 RX11 yX11_turned cX11_turned 3 (some .int) 2 := ⟨⟨(zin (i := 1292) (by decide +kernel) rfl), (zin (i := 1293) (by decide +kernel) rfl), (zin (i := 1294) (by decide +kernel) rfl), (zin (i := 79) (by decide +kernel) rfl), (zin (i := 1295) (by decide +kernel) rfl)⟩, rfl, by decide, by decide, by decide +kernel⟩
theorem zlv_L_153 : zLV RL 153 RX11 yX11_gap cX11_gap 3 (some .int) 2 := ⟨⟨(zin (i := 1304) (by decide +kernel) rfl), (zin (i := 1305) (by decide +kernel) rfl), (zin (i := 1306) (by decide +kernel) rfl), (zin (i := 79) (by decide +kernel) rfl), (zin (i := 1307) (by decide +kernel) rfl)⟩, rfl, by decide, by decide, by decide +kernel⟩
theorem zlv_L_156 : zLV RL 156 RX11 yX11_partner cX11_partner 3 (some .int) 2 := ⟨⟨(zin (i := 1336) (by decide +kernel) rfl), (zin (i := 1337) (by decide +kernel) rfl), (zin (i := 1338) (by decide +kernel) rfl), (zin (i := 79) (by decide +kernel) rfl), (zin (i := 1339) (by decide +kernel) rfl)⟩, rfl, by decide, by decide, by decide +kernel⟩
theorem zlv_L_159 : zLV RL 159 RX11 yX11_doubled cX11_doubled 3 (some .int) 2 := ⟨⟨(zin (i := 1344) (by decide +kernel) rfl), (zin (i := 1345) (by decide +kernel) rfl), (zin (i := 1346) (by decide +kernel) rfl), (zin (i := 79) (by decide +kernel) rfl), (zin (i := 1347) (by decide +kernel) rfl)⟩, rfl, by decide, by decide, by decide +kernel⟩
theorem zlv_L_162 : zLV RL 162 RX11 yX11_count cX11_count 2 (some .int) 1 := ⟨⟨(zin (i := 1356) (by decide +kernel) rfl), (zin (i := 1357) (by decide +kernel) rfl), (zin (i := 1358) (by decide +kernel) rfl), (zin (i := 79) (by decide +kernel) rfl), (zin (i := 1359) (by decide +kernel) rfl)⟩, rfl, by decide, by decide, by decide +kernel⟩
theorem zlv_L_165 : zLV RL 165 RX11 yX11_setting cX11_setting 2 (some .int) 1 := ⟨⟨(zin (i := 1388) (by decide +kernel) rfl), (zin (i := 1389) (by decide +kernel) rfl), (zin (i := 1390) (by decide +kernel) rfl), (zin (i := 79) (by decide +kernel) rfl), (zin (i := 1391) (by decide +kernel) rfl)⟩, rfl, by decide, by decide, by decide +kernel⟩
theorem zlv_L_168 : zLV RL 168 RX11 yX11_ifSet cX11_ifSet 3 (some .int) 2 := ⟨⟨(zin (i := 1392) (by decide +kernel) rfl), (zin (i := 1393) (by decide +kernel) rfl), (zin (i := 1394) (by decide +kernel) rfl), (zin (i := 79) (by decide +kernel) rfl), (zin (i := 1395) (by decide +kernel) rfl)⟩, rfl, by decide, by decide, by decide +kernel⟩
theorem zlv_L_171 : zLV RL 171 RX11 yX11_ifChanged cX11_ifChanged 4 (some .int) 3 := ⟨⟨(zin (i := 1400) (by decide +kernel) rfl), (zin (i := 1401) (by decide +kernel) rfl), (zin (i := 1402) (by decide +kernel) rfl), (zin (i := 79) (by decide +kernel) rfl), (zin (i := 1403) (by decide +kernel) rfl)⟩, rfl, by decide, by decide, by decide +kernel⟩
theorem zlv_L_172 : zLV RL 172 RX10 yX10_bestLength cX10_bestLength 1 (some .int) 0 := ⟨⟨(zin (i := 573) (by decide +kernel) rfl), (zin (i := 574) (by decide +kernel) rfl), (zin (i := 575) (by decide +kernel) rfl), (zin (i := 68) (by decide +kernel) rfl), (zin (i := 576) (by decide +kernel) rfl)⟩, rfl, by decide, by decide, by decide +kernel⟩
theorem zlv_L_175 : zLV RL 175 RX11 yX11_bestLength cX11_bestLength 1 (some .int) 0 := ⟨⟨(zin (i := 1408) (by decide +kernel) rfl), (zin (i := 1409) (by decide +kernel) rfl), (zin (i := 1410) (by decide +kernel) rfl), (zin (i := 79) (by decide +kernel) rfl), (zin (i := 1411) (by decide +kernel) rfl)⟩, rfl, by decide, by decide, by decide +kernel⟩
theorem zlv_L_176 : zLV RL 176 RX10 yX10_likeShare cX10_likeShare 1 (some .double) 0 := ⟨⟨(zin (i := 595) (by decide +kernel) rfl), (zin (i := 596) (by decide +kernel) rfl), (zin (i := 597) (by decide +kernel) rfl), (zin (i := 68) (by decide +kernel) rfl), (zin (i := 598) (by decide +kernel) rfl)⟩, rfl, by decide, by decide, by decide +kernel⟩
theorem zlv_L_180 : zLV RL 180 RX11 yX11_likeShare cX11_likeShare 1 (some .double) 0 := ⟨⟨(zin (i := 1416) (by decide +kernel) rfl), (zin (i := 1417) (by decide +kernel) rfl), (zin (i := 1418) (by decide +kernel) rfl), (zin (i := 79) (by decide +kernel) rfl), (zin (i := 1419) (by decide +kernel) rfl)⟩, rfl, by decide, by decide, by decide +kernel⟩
theorem zlv_L_181 : zLV RL 181 RX10 yX10_digest cX10_digest 4 (some .long) 0 := ⟨⟨(zin (i := 614) (by decide +kernel) rfl), (zin (i := 615) (by decide +kernel) rfl), (zin (i := 616) (by decide +kernel) rfl), (zin (i := 68) (by decide +kernel) rfl), (zin (i := 617) (by decide +kernel) rfl)⟩, rfl, by decide, by decide, by decide +kernel⟩
theorem zlv_L_185 : zLV RL 185 RX11 yX11_digest cX11_digest 5 (some .long) 0 := ⟨⟨(zin (i := 1425) (by decide +kernel) rfl), (zin (i := 1426) (by decide +kernel) rfl), (zin (i := 1427) (by decide +kernel) rfl), (zin (i := 79) (by decide +kernel) rfl), (zin (i := 1428) (by decide +kernel) rfl)⟩, rfl, by decide, by decide, by decide +kernel⟩
theorem zlv_X0_41 : zLV RX0 41 RX1 yX1_at cX1_at 2 (some .int) 1 := ⟨⟨(zin (i := 428) (by decide +kernel) rfl), (zin (i := 395) (by decide +kernel) rfl), (zin (i := 396) (by decide +kernel) rfl), (zin (i := 71) (by decide +kernel) rfl), (zin (i := 397) (by decide +kernel) rfl)⟩, rfl, by decide, by decide, by decide +kernel⟩
theorem zlv_X0_49 : zLV RX0 49 RX6 yX6_listWords cX6_listWords 6 (some .int) 3 := ⟨⟨(zin (i := 429) (by decide +kernel) rfl), (zin (i := 430) (by decide +kernel) rfl), (zin (i := 431) (by decide +kernel) rfl), (zin (i := 70) (by decide +kernel) rfl), (zin (i := 432) (by decide +kernel) rfl)⟩, rfl, by decide, by decide, by decide +kernel⟩
theorem zlv_X0_58 : zLV RX0 58 RX6 yX6_wordAt cX6_wordAt 7 (some .int) 3 := ⟨⟨(zin (i := 442) (by decide +kernel) rfl), (zin (i := 437) (by decide +kernel) rfl), (zin (i := 438) (by decide +kernel) rfl), (zin (i := 70) (by decide +kernel) rfl), (zin (i := 439) (by decide +kernel) rfl)⟩, rfl, by decide, by decide, by decide +kernel⟩
theorem zls_X0_62 : zLS RX0 62 yX0_times cX0_times 5 (some .int) 3 := ⟨⟨(zin (i := 443) (by decide +kernel) rfl), (zin (i := 444) (by decide +kernel) rfl), (zin (i := 75) (by decide +kernel) rfl), (zin (i := 445) (by decide +kernel) rfl)⟩, rfl, by decide, by decide, by decide +kernel⟩
theorem zlv_X0_66 : zLV RX0 66 RX1 yX1_store cX1_store 3 none 2 := ⟨⟨(zin (i := 446) (by decide +kernel) rfl), (zin (i := 128) (by decide +kernel) rfl), (zin (i := 129) (by decide +kernel) rfl), (zin (i := 71) (by decide +kernel) rfl), (zin (i := 130) (by decide +kernel) rfl)⟩, rfl, by decide, by decide, by decide +kernel⟩
theorem zls_X0_70 : zLS RX0 70 yX0_firstPlace cX0_firstPlace 4 (some .int) 3 := ⟨⟨(zin (i := 447) (by decide +kernel) rfl), (zin (i := 448) (by decide +kernel) rfl), (zin (i := 75) (by decide +kernel) rfl), (zin (i := 449) (by decide +kernel) rfl)⟩, rfl, by decide, by decide, by decide +kernel⟩
theorem zls_X10_66 : zLS RX10 66 yX10_isRow cX10_isRow 1 (some .boolean) 1 := ⟨⟨(zin (i := 727) (by decide +kernel) rfl), (zin (i := 728) (by decide +kernel) rfl), (zin (i := 68) (by decide +kernel) rfl), (zin (i := 729) (by decide +kernel) rfl)⟩, rfl, by decide, by decide, by decide +kernel⟩
theorem zlv_X10_70 : zLV RX10 70 RX7 yX7_rowOf cX7_rowOf 2 (some (.object "AnchorChains$Row")) 1 := ⟨⟨(zin (i := 649) (by decide +kernel) rfl), (zin (i := 650) (by decide +kernel) rfl), (zin (i := 651) (by decide +kernel) rfl), (zin (i := 69) (by decide +kernel) rfl), (zin (i := 652) (by decide +kernel) rfl)⟩, rfl, by decide, by decide, by decide +kernel⟩
theorem zlv_X10_74 : zLV RX10 74 RX6 yX6_size cX6_size 1 (some .int) 0 := ⟨⟨(zin (i := 623) (by decide +kernel) rfl), (zin (i := 535) (by decide +kernel) rfl), (zin (i := 536) (by decide +kernel) rfl), (zin (i := 70) (by decide +kernel) rfl), (zin (i := 537) (by decide +kernel) rfl)⟩, rfl, by decide, by decide, by decide +kernel⟩
theorem zls_X10_87 : zLS RX10 87 yX10_isSign cX10_isSign 1 (some .boolean) 1 := ⟨⟨(zin (i := 798) (by decide +kernel) rfl), (zin (i := 799) (by decide +kernel) rfl), (zin (i := 68) (by decide +kernel) rfl), (zin (i := 800) (by decide +kernel) rfl)⟩, rfl, by decide, by decide, by decide +kernel⟩
theorem zlv_X10_100 : zLV RX10 100 RX10 yX10_saveState cX10_saveState 1 none 0 := ⟨⟨(zin (i := 382) (by decide +kernel) rfl), (zin (i := 384) (by decide +kernel) rfl), (zin (i := 0) (by decide +kernel) rfl), (zin (i := 68) (by decide +kernel) rfl), (zin (i := 385) (by decide +kernel) rfl)⟩, rfl, by decide, by decide, by decide +kernel⟩
theorem zlv_X10_103 : zLV RX10 103 RX6 yX6_insert cX6_insert 4 none 2 := ⟨⟨(zin (i := 833) (by decide +kernel) rfl), (zin (i := 834) (by decide +kernel) rfl), (zin (i := 835) (by decide +kernel) rfl), (zin (i := 70) (by decide +kernel) rfl), (zin (i := 836) (by decide +kernel) rfl)⟩, rfl, by decide, by decide, by decide +kernel⟩
theorem zlv_X10_107 : zLV RX10 107 RX10 yX10_isPlace cX10_isPlace 3 (some .boolean) 2 := ⟨⟨(zin (i := 844) (by decide +kernel) rfl), (zin (i := 846) (by decide +kernel) rfl), (zin (i := 28) (by decide +kernel) rfl), (zin (i := 68) (by decide +kernel) rfl), (zin (i := 847) (by decide +kernel) rfl)⟩, rfl, by decide, by decide, by decide +kernel⟩
theorem zlv_X10_113 : zLV RX10 113 RX6 yX6_remove cX6_remove 4 none 2 := ⟨⟨(zin (i := 849) (by decide +kernel) rfl), (zin (i := 850) (by decide +kernel) rfl), (zin (i := 851) (by decide +kernel) rfl), (zin (i := 70) (by decide +kernel) rfl), (zin (i := 852) (by decide +kernel) rfl)⟩, rfl, by decide, by decide, by decide +kernel⟩
theorem zlv_X10_116 : zLV RX10 116 RX6 yX6_signAt cX6_signAt 2 (some .int) 1 := ⟨⟨(zin (i := 653) (by decide +kernel) rfl), (zin (i := 404) (by decide +kernel) rfl), (zin (i := 405) (by decide +kernel) rfl), (zin (i := 70) (by decide +kernel) rfl), (zin (i := 406) (by decide +kernel) rfl)⟩, rfl, by decide, by decide, by decide +kernel⟩
theorem zlv_X10_120 : zLV RX10 120 RX6 yX6_write cX6_write 3 none 2 := ⟨⟨(zin (i := 703) (by decide +kernel) rfl), (zin (i := 413) (by decide +kernel) rfl), (zin (i := 414) (by decide +kernel) rfl), (zin (i := 70) (by decide +kernel) rfl), (zin (i := 415) (by decide +kernel) rfl)⟩, rfl, by decide, by decide, by decide +kernel⟩
theorem zlv_X10_125 : zLV RX10 125 RX6 yX6_reverse cX6_reverse 8 (some .int) 2 := ⟨⟨(zin (i := 869) (by decide +kernel) rfl), (zin (i := 870) (by decide +kernel) rfl), (zin (i := 871) (by decide +kernel) rfl), (zin (i := 70) (by decide +kernel) rfl), (zin (i := 872) (by decide +kernel) rfl)⟩, rfl, by decide, by decide, by decide +kernel⟩
theorem zlv_X10_131 : zLV RX10 131 RX6 yX6_extend cX6_extend 2 none 1 := ⟨⟨(zin (i := 881) (by decide +kernel) rfl), (zin (i := 882) (by decide +kernel) rfl), (zin (i := 883) (by decide +kernel) rfl), (zin (i := 70) (by decide +kernel) rfl), (zin (i := 884) (by decide +kernel) rfl)⟩, rfl, by decide, by decide, by decide +kernel⟩
theorem zlv_X10_135 : zLV RX10 135 RX7 yX7_exchangeRows cX7_exchangeRows 4 none 0 := ⟨⟨(zin (i := 408) (by decide +kernel) rfl), (zin (i := 409) (by decide +kernel) rfl), (zin (i := 410) (by decide +kernel) rfl), (zin (i := 69) (by decide +kernel) rfl), (zin (i := 411) (by decide +kernel) rfl)⟩, rfl, by decide, by decide, by decide +kernel⟩
theorem zlv_X10_138 : zLV RX10 138 RX10 yX10_refresh cX10_refresh 1 none 0 := ⟨⟨(zin (i := 416) (by decide +kernel) rfl), (zin (i := 418) (by decide +kernel) rfl), (zin (i := 2) (by decide +kernel) rfl), (zin (i := 68) (by decide +kernel) rfl), (zin (i := 419) (by decide +kernel) rfl)⟩, rfl, by decide, by decide, by decide +kernel⟩
theorem zls_X10_151 : zLS RX10 151 yX10_isSetting cX10_isSetting 1 (some .boolean) 1 := ⟨⟨(zin (i := 892) (by decide +kernel) rfl), (zin (i := 893) (by decide +kernel) rfl), (zin (i := 68) (by decide +kernel) rfl), (zin (i := 894) (by decide +kernel) rfl)⟩, rfl, by decide, by decide, by decide +kernel⟩
theorem zls_X10_156 : zLS RX10 156 yX10_isValueOf cX10_isValueOf 2 (some .boolean) 2 := ⟨⟨(zin (i := 896) (by decide +kernel) rfl), (zin (i := 897) (by decide +kernel) rfl), (zin (i := 68) (by decide +kernel) rfl), (zin (i := 898) (by decide +kernel) rfl)⟩, rfl, by decide, by decide, by decide +kernel⟩
theorem zlv_X10_165 : zLV RX10 165 RX1 yX1_at cX1_at 2 (some .int) 1 := ⟨⟨(zin (i := 644) (by decide +kernel) rfl), (zin (i := 395) (by decide +kernel) rfl), (zin (i := 396) (by decide +kernel) rfl), (zin (i := 71) (by decide +kernel) rfl), (zin (i := 397) (by decide +kernel) rfl)⟩, rfl, by decide, by decide, by decide +kernel⟩
theorem zlv_X10_170 : zLV RX10 170 RX1 yX1_store cX1_store 3 none 2 := ⟨⟨(zin (i := 594) (by decide +kernel) rfl), (zin (i := 128) (by decide +kernel) rfl), (zin (i := 129) (by decide +kernel) rfl), (zin (i := 71) (by decide +kernel) rfl), (zin (i := 130) (by decide +kernel) rfl)⟩, rfl, by decide, by decide, by decide +kernel⟩
theorem zlv_X10_175 : zLV RX10 175 RX8 yX8_size cX8_size 1 (some .int) 0 := ⟨⟨(zin (i := 550) (by decide +kernel) rfl), (zin (i := 551) (by decide +kernel) rfl), (zin (i := 552) (by decide +kernel) rfl), (zin (i := 73) (by decide +kernel) rfl), (zin (i := 553) (by decide +kernel) rfl)⟩, rfl, by decide, by decide, by decide +kernel⟩
theorem zlv_X10_178 : zLV RX10 178 RX8 yX8_add cX8_add 2 none 1 := ⟨⟨(zin (i := 909) (by decide +kernel) rfl), (zin (i := 910) (by decide +kernel) rfl), (zin (i := 911) (by decide +kernel) rfl), (zin (i := 73) (by decide +kernel) rfl), (zin (i := 912) (by decide +kernel) rfl)⟩, rfl, by decide, by decide, by decide +kernel⟩
theorem zlv_X10_181 : zLV RX10 181 RX8 yX8_clear cX8_clear 1 none 0 := ⟨⟨(zin (i := 554) (by decide +kernel) rfl), (zin (i := 555) (by decide +kernel) rfl), (zin (i := 556) (by decide +kernel) rfl), (zin (i := 73) (by decide +kernel) rfl), (zin (i := 557) (by decide +kernel) rfl)⟩, rfl, by decide, by decide, by decide +kernel⟩
theorem zlv_X10_184 : zLV RX10 184 RX8 yX8_faultPlace cX8_faultPlace 6 (some .int) 0 := ⟨⟨(zin (i := 562) (by decide +kernel) rfl), (zin (i := 563) (by decide +kernel) rfl), (zin (i := 564) (by decide +kernel) rfl), (zin (i := 73) (by decide +kernel) rfl), (zin (i := 565) (by decide +kernel) rfl)⟩, rfl, by decide, by decide, by decide +kernel⟩
theorem zlv_X10_187 : zLV RX10 187 RX8 yX8_isPairOfRows cX8_isPairOfRows 3 (some .boolean) 0 := ⟨⟨(zin (i := 921) (by decide +kernel) rfl), (zin (i := 922) (by decide +kernel) rfl), (zin (i := 923) (by decide +kernel) rfl), (zin (i := 73) (by decide +kernel) rfl), (zin (i := 924) (by decide +kernel) rfl)⟩, rfl, by decide, by decide, by decide +kernel⟩
theorem zlv_X10_193 : zLV RX10 193 RX8 yX8_writeRows cX8_writeRows 5 none 1 := ⟨⟨(zin (i := 927) (by decide +kernel) rfl), (zin (i := 928) (by decide +kernel) rfl), (zin (i := 929) (by decide +kernel) rfl), (zin (i := 73) (by decide +kernel) rfl), (zin (i := 930) (by decide +kernel) rfl)⟩, rfl, by decide, by decide, by decide +kernel⟩
theorem zls_X10_197 : zLS RX10 197 yX10_isSnapshot cX10_isSnapshot 1 (some .boolean) 1 := ⟨⟨(zin (i := 948) (by decide +kernel) rfl), (zin (i := 949) (by decide +kernel) rfl), (zin (i := 68) (by decide +kernel) rfl), (zin (i := 950) (by decide +kernel) rfl)⟩, rfl, by decide, by decide, by decide +kernel⟩
theorem zlv_X10_202 : zLV RX10 202 RX10 yX10_snapshotOf cX10_snapshotOf 2 (some (.object "AnchorChains$State")) 1 := ⟨⟨(zin (i := 952) (by decide +kernel) rfl), (zin (i := 954) (by decide +kernel) rfl), (zin (i := 29) (by decide +kernel) rfl), (zin (i := 68) (by decide +kernel) rfl), (zin (i := 955) (by decide +kernel) rfl)⟩, rfl, by decide, by decide, by decide +kernel⟩
theorem zlv_X10_206 : zLV RX10 206 RX7 yX7_takeRows cX7_takeRows 2 none 1 := ⟨⟨(zin (i := 956) (by decide +kernel) rfl), (zin (i := 586) (by decide +kernel) rfl), (zin (i := 587) (by decide +kernel) rfl), (zin (i := 69) (by decide +kernel) rfl), (zin (i := 588) (by decide +kernel) rfl)⟩, rfl, by decide, by decide, by decide +kernel⟩
theorem zlv_X10_209 : zLV RX10 209 RX7 yX7_signs cX7_signs 1 (some .int) 0 := ⟨⟨(zin (i := 603) (by decide +kernel) rfl), (zin (i := 604) (by decide +kernel) rfl), (zin (i := 605) (by decide +kernel) rfl), (zin (i := 69) (by decide +kernel) rfl), (zin (i := 606) (by decide +kernel) rfl)⟩, rfl, by decide, by decide, by decide +kernel⟩
theorem zlv_X10_214 : zLV RX10 214 RX4 yX4_size cX4_size 1 (some .int) 0 := ⟨⟨(zin (i := 636) (by decide +kernel) rfl), (zin (i := 637) (by decide +kernel) rfl), (zin (i := 638) (by decide +kernel) rfl), (zin (i := 72) (by decide +kernel) rfl), (zin (i := 639) (by decide +kernel) rfl)⟩, rfl, by decide, by decide, by decide +kernel⟩
theorem zlv_X10_217 : zLV RX10 217 RX4 yX4_giveBack cX4_giveBack 2 none 1 := ⟨⟨(zin (i := 973) (by decide +kernel) rfl), (zin (i := 974) (by decide +kernel) rfl), (zin (i := 975) (by decide +kernel) rfl), (zin (i := 72) (by decide +kernel) rfl), (zin (i := 976) (by decide +kernel) rfl)⟩, rfl, by decide, by decide, by decide +kernel⟩
theorem zlv_X10_224 : zLV RX10 224 RX5 yX5_anchorProperty cX5_anchorProperty 3 (some .int) 2 := ⟨⟨(zin (i := 675) (by decide +kernel) rfl), (zin (i := 676) (by decide +kernel) rfl), (zin (i := 677) (by decide +kernel) rfl), (zin (i := 74) (by decide +kernel) rfl), (zin (i := 678) (by decide +kernel) rfl)⟩, rfl, by decide, by decide, by decide +kernel⟩
theorem zlv_X10_230 : zLV RX10 230 RX9 yX9_property cX9_property 3 (some .int) 2 := ⟨⟨(zin (i := 679) (by decide +kernel) rfl), (zin (i := 680) (by decide +kernel) rfl), (zin (i := 681) (by decide +kernel) rfl), (zin (i := 78) (by decide +kernel) rfl), (zin (i := 682) (by decide +kernel) rfl)⟩, rfl, by decide, by decide, by decide +kernel⟩
theorem zlv_X10_235 : zLV RX10 235 RX5 yX5_gapProperty cX5_gapProperty 3 (some .int) 2 := ⟨⟨(zin (i := 687) (by decide +kernel) rfl), (zin (i := 688) (by decide +kernel) rfl), (zin (i := 689) (by decide +kernel) rfl), (zin (i := 74) (by decide +kernel) rfl), (zin (i := 690) (by decide +kernel) rfl)⟩, rfl, by decide, by decide, by decide +kernel⟩
theorem zlv_X10_238 : zLV RX10 238 RX5 yX5_partnersOf cX5_partnersOf 2 (some (.object "AnchorChains$Cells")) 1 := ⟨⟨(zin (i := 654) (by decide +kernel) rfl), (zin (i := 633) (by decide +kernel) rfl), (zin (i := 634) (by decide +kernel) rfl), (zin (i := 74) (by decide +kernel) rfl), (zin (i := 635) (by decide +kernel) rfl)⟩, rfl, by decide, by decide, by decide +kernel⟩
theorem zlv_X10_244 : zLV RX10 244 RX6 yX6_stretchProperty cX6_stretchProperty 6 (some .int) 1 := ⟨⟨(zin (i := 655) (by decide +kernel) rfl), (zin (i := 656) (by decide +kernel) rfl), (zin (i := 657) (by decide +kernel) rfl), (zin (i := 70) (by decide +kernel) rfl), (zin (i := 658) (by decide +kernel) rfl)⟩, rfl, by decide, by decide, by decide +kernel⟩
theorem zlv_X10_249 : zLV RX10 249 RX10 yX10_numberOf cX10_numberOf 2 (some .int) 1 := ⟨⟨(zin (i := 619) (by decide +kernel) rfl), (zin (i := 621) (by decide +kernel) rfl), (zin (i := 17) (by decide +kernel) rfl), (zin (i := 68) (by decide +kernel) rfl), (zin (i := 622) (by decide +kernel) rfl)⟩, rfl, by decide, by decide, by decide +kernel⟩
theorem zlv_X10_252 : zLV RX10 252 RX10 yX10_costWithSetting cX10_costWithSetting 3 (some .int) 2 := ⟨⟨(zin (i := 691) (by decide +kernel) rfl), (zin (i := 693) (by decide +kernel) rfl), (zin (i := 24) (by decide +kernel) rfl), (zin (i := 68) (by decide +kernel) rfl), (zin (i := 694) (by decide +kernel) rfl)⟩, rfl, by decide, by decide, by decide +kernel⟩
theorem zlv_X10_255 : zLV RX10 255 RX10 yX10_costWithSign cX10_costWithSign 4 (some .int) 3 := ⟨⟨(zin (i := 699) (by decide +kernel) rfl), (zin (i := 701) (by decide +kernel) rfl), (zin (i := 25) (by decide +kernel) rfl), (zin (i := 68) (by decide +kernel) rfl), (zin (i := 702) (by decide +kernel) rfl)⟩, rfl, by decide, by decide, by decide +kernel⟩
theorem zlv_X10_259 : zLV RX10 259 RX10 yX10_bestWordLength cX10_bestWordLength 5 (some .int) 0 := ⟨⟨(zin (i := 577) (by decide +kernel) rfl), (zin (i := 579) (by decide +kernel) rfl), (zin (i := 15) (by decide +kernel) rfl), (zin (i := 68) (by decide +kernel) rfl), (zin (i := 580) (by decide +kernel) rfl)⟩, rfl, by decide, by decide, by decide +kernel⟩
theorem zlv_X10_262 : zLV RX10 262 RX10 yX10_shareOfLikeSigns cX10_shareOfLikeSigns 2 (some .double) 0 := ⟨⟨(zin (i := 599) (by decide +kernel) rfl), (zin (i := 601) (by decide +kernel) rfl), (zin (i := 16) (by decide +kernel) rfl), (zin (i := 68) (by decide +kernel) rfl), (zin (i := 602) (by decide +kernel) rfl)⟩, rfl, by decide, by decide, by decide +kernel⟩
theorem zls_X10_268 : zLS RX10 268 yX10_fold cX10_fold 4 (some .long) 2 := ⟨⟨(zin (i := 640) (by decide +kernel) rfl), (zin (i := 641) (by decide +kernel) rfl), (zin (i := 68) (by decide +kernel) rfl), (zin (i := 642) (by decide +kernel) rfl)⟩, rfl, by decide, by decide, by decide +kernel⟩
theorem zlv_X10_272 : zLV RX10 272 RX10 yX10_foldRow cX10_foldRow 8 (some .long) 2 := ⟨⟨(zin (i := 645) (by decide +kernel) rfl), (zin (i := 647) (by decide +kernel) rfl), (zin (i := 18) (by decide +kernel) rfl), (zin (i := 68) (by decide +kernel) rfl), (zin (i := 648) (by decide +kernel) rfl)⟩, rfl, by decide, by decide, by decide +kernel⟩
theorem zlv_X10_276 : zLV RX10 276 RX10 yX10_foldAnchors cX10_foldAnchors 7 (some .long) 1 := ⟨⟨(zin (i := 671) (by decide +kernel) rfl), (zin (i := 673) (by decide +kernel) rfl), (zin (i := 22) (by decide +kernel) rfl), (zin (i := 68) (by decide +kernel) rfl), (zin (i := 674) (by decide +kernel) rfl)⟩, rfl, by decide, by decide, by decide +kernel⟩
theorem zlv_X10_280 : zLV RX10 280 RX10 yX10_foldGaps cX10_foldGaps 7 (some .long) 1 := ⟨⟨(zin (i := 683) (by decide +kernel) rfl), (zin (i := 685) (by decide +kernel) rfl), (zin (i := 23) (by decide +kernel) rfl), (zin (i := 68) (by decide +kernel) rfl), (zin (i := 686) (by decide +kernel) rfl)⟩, rfl, by decide, by decide, by decide +kernel⟩
theorem zlv_X10_287 : zLV RX10 287 RX6 yX6_has cX6_has 2 (some .boolean) 1 := ⟨⟨(zin (i := 695) (by decide +kernel) rfl), (zin (i := 696) (by decide +kernel) rfl), (zin (i := 697) (by decide +kernel) rfl), (zin (i := 70) (by decide +kernel) rfl), (zin (i := 698) (by decide +kernel) rfl)⟩, rfl, by decide, by decide, by decide +kernel⟩
theorem zls_X10_290 : zLS RX10 290 yX10_bitsOfShare cX10_bitsOfShare 8 (some .long) 1 := ⟨⟨(zin (i := 704) (by decide +kernel) rfl), (zin (i := 705) (by decide +kernel) rfl), (zin (i := 68) (by decide +kernel) rfl), (zin (i := 706) (by decide +kernel) rfl)⟩, rfl, by decide, by decide, by decide +kernel⟩
theorem zlv_X10_294 : zLV RX10 294 RX10 yX10_foldText cX10_foldText 6 (some .long) 1 := ⟨⟨(zin (i := 709) (by decide +kernel) rfl), (zin (i := 711) (by decide +kernel) rfl), (zin (i := 26) (by decide +kernel) rfl), (zin (i := 68) (by decide +kernel) rfl), (zin (i := 712) (by decide +kernel) rfl)⟩, rfl, by decide, by decide, by decide +kernel⟩
theorem zlv_X10_297 : zLV RX10 297 RX4 yX4_save cX4_save 2 none 1 := ⟨⟨(zin (i := 386) (by decide +kernel) rfl), (zin (i := 387) (by decide +kernel) rfl), (zin (i := 388) (by decide +kernel) rfl), (zin (i := 72) (by decide +kernel) rfl), (zin (i := 389) (by decide +kernel) rfl)⟩, rfl, by decide, by decide, by decide +kernel⟩
theorem zlv_X10_300 : zLV RX10 300 RX5 yX5_build cX5_build 7 (some .int) 1 := ⟨⟨(zin (i := 420) (by decide +kernel) rfl), (zin (i := 421) (by decide +kernel) rfl), (zin (i := 422) (by decide +kernel) rfl), (zin (i := 74) (by decide +kernel) rfl), (zin (i := 423) (by decide +kernel) rfl)⟩, rfl, by decide, by decide, by decide +kernel⟩
theorem zlv_X10_304 : zLV RX10 304 RX9 yX9_find cX9_find 5 none 1 := ⟨⟨(zin (i := 538) (by decide +kernel) rfl), (zin (i := 539) (by decide +kernel) rfl), (zin (i := 540) (by decide +kernel) rfl), (zin (i := 78) (by decide +kernel) rfl), (zin (i := 541) (by decide +kernel) rfl)⟩, rfl, by decide, by decide, by decide +kernel⟩
theorem zlv_X10_323 : zLV RX10 323 RX5 yX5_freeCost cX5_freeCost 2 (some .int) 1 := ⟨⟨(zin (i := 624) (by decide +kernel) rfl), (zin (i := 625) (by decide +kernel) rfl), (zin (i := 626) (by decide +kernel) rfl), (zin (i := 74) (by decide +kernel) rfl), (zin (i := 627) (by decide +kernel) rfl)⟩, rfl, by decide, by decide, by decide +kernel⟩
theorem zlv_X10_332 : zLV RX10 332 RX5 yX5_likePairs cX5_likePairs 5 (some .int) 1 := ⟨⟨(zin (i := 608) (by decide +kernel) rfl), (zin (i := 609) (by decide +kernel) rfl), (zin (i := 610) (by decide +kernel) rfl), (zin (i := 74) (by decide +kernel) rfl), (zin (i := 611) (by decide +kernel) rfl)⟩, rfl, by decide, by decide, by decide +kernel⟩
theorem zlv_X10_335 : zLV RX10 335 RX5 yX5_leftOut cX5_leftOut 5 (some .int) 2 := ⟨⟨(zin (i := 628) (by decide +kernel) rfl), (zin (i := 629) (by decide +kernel) rfl), (zin (i := 630) (by decide +kernel) rfl), (zin (i := 74) (by decide +kernel) rfl), (zin (i := 631) (by decide +kernel) rfl)⟩, rfl, by decide, by decide, by decide +kernel⟩
theorem zlv_X10_340 : zLV RX10 340 RX7 yX7_takeAll cX7_takeAll 3 none 1 := ⟨⟨(zin (i := 581) (by decide +kernel) rfl), (zin (i := 582) (by decide +kernel) rfl), (zin (i := 583) (by decide +kernel) rfl), (zin (i := 69) (by decide +kernel) rfl), (zin (i := 584) (by decide +kernel) rfl)⟩, rfl, by decide, by decide, by decide +kernel⟩
theorem zlv_X10_345 : zLV RX10 345 RX8 yX8_codeAt cX8_codeAt 2 (some .int) 1 := ⟨⟨(zin (i := 713) (by decide +kernel) rfl), (zin (i := 714) (by decide +kernel) rfl), (zin (i := 715) (by decide +kernel) rfl), (zin (i := 73) (by decide +kernel) rfl), (zin (i := 716) (by decide +kernel) rfl)⟩, rfl, by decide, by decide, by decide +kernel⟩
theorem zls_X11_77 : zLS RX11 77 yX11_within cX11_within 3 (some .boolean) 3 := ⟨⟨(zin (i := 1165) (by decide +kernel) rfl), (zin (i := 1166) (by decide +kernel) rfl), (zin (i := 79) (by decide +kernel) rfl), (zin (i := 1167) (by decide +kernel) rfl)⟩, rfl, by decide, by decide, by decide +kernel⟩
theorem zls_X11_81 : zLS RX11 81 yX11_isRow cX11_isRow 1 (some .boolean) 1 := ⟨⟨(zin (i := 1162) (by decide +kernel) rfl), (zin (i := 1163) (by decide +kernel) rfl), (zin (i := 79) (by decide +kernel) rfl), (zin (i := 1164) (by decide +kernel) rfl)⟩, rfl, by decide, by decide, by decide +kernel⟩
theorem zlv_X11_85 : zLV RX11 85 RX11 yX11_signs cX11_signs 2 (some .int) 1 := ⟨⟨(zin (i := 1168) (by decide +kernel) rfl), (zin (i := 1170) (by decide +kernel) rfl), (zin (i := 30) (by decide +kernel) rfl), (zin (i := 79) (by decide +kernel) rfl), (zin (i := 1171) (by decide +kernel) rfl)⟩, rfl, by decide, by decide, by decide +kernel⟩
theorem zlv_X11_89 : zLV RX11 89 RX11 yX11_at cX11_at 3 (some .int) 2 := ⟨⟨(zin (i := 1179) (by decide +kernel) rfl), (zin (i := 1181) (by decide +kernel) rfl), (zin (i := 32) (by decide +kernel) rfl), (zin (i := 79) (by decide +kernel) rfl), (zin (i := 1182) (by decide +kernel) rfl)⟩, rfl, by decide, by decide, by decide +kernel⟩
theorem zlv_X11_93 : zLV RX11 93 RX11 yX11_stands cX11_stands 7 (some .boolean) 4 := ⟨⟨(zin (i := 1219) (by decide +kernel) rfl), (zin (i := 1221) (by decide +kernel) rfl), (zin (i := 37) (by decide +kernel) rfl), (zin (i := 79) (by decide +kernel) rfl), (zin (i := 1222) (by decide +kernel) rfl)⟩, rfl, by decide, by decide, by decide +kernel⟩
theorem zlv_X11_103 : zLV RX11 103 RX11 yX11_onlyPlace cX11_onlyPlace 7 (some .int) 3 := ⟨⟨(zin (i := 1215) (by decide +kernel) rfl), (zin (i := 1217) (by decide +kernel) rfl), (zin (i := 36) (by decide +kernel) rfl), (zin (i := 79) (by decide +kernel) rfl), (zin (i := 1218) (by decide +kernel) rfl)⟩, rfl, by decide, by decide, by decide +kernel⟩
theorem zlv_X11_107 : zLV RX11 107 RX11 yX11_layAnchors cX11_layAnchors 5 none 0 := ⟨⟨(zin (i := 1211) (by decide +kernel) rfl), (zin (i := 1213) (by decide +kernel) rfl), (zin (i := 35) (by decide +kernel) rfl), (zin (i := 79) (by decide +kernel) rfl), (zin (i := 1214) (by decide +kernel) rfl)⟩, rfl, by decide, by decide, by decide +kernel⟩
theorem zlv_X11_110 : zLV RX11 110 RX11 yX11_fit cX11_fit 6 (some .boolean) 2 := ⟨⟨(zin (i := 1288) (by decide +kernel) rfl), (zin (i := 1290) (by decide +kernel) rfl), (zin (i := 42) (by decide +kernel) rfl), (zin (i := 79) (by decide +kernel) rfl), (zin (i := 1291) (by decide +kernel) rfl)⟩, rfl, by decide, by decide, by decide +kernel⟩
theorem zlv_X11_118 : zLV RX11 118 RX11 yX11_lineUp cX11_lineUp 3 none 2 := ⟨⟨(zin (i := 1332) (by decide +kernel) rfl), (zin (i := 1334) (by decide +kernel) rfl), (zin (i := 50) (by decide +kernel) rfl), (zin (i := 79) (by decide +kernel) rfl), (zin (i := 1335) (by decide +kernel) rfl)⟩, rfl, by decide, by decide, by decide +kernel⟩
theorem zls_X11_125 : zLS RX11 125 yX11_bandFor cX11_bandFor 4 (some .int) 3 := ⟨⟨(zin (i := 1320) (by decide +kernel) rfl), (zin (i := 1321) (by decide +kernel) rfl), (zin (i := 79) (by decide +kernel) rfl), (zin (i := 1322) (by decide +kernel) rfl)⟩, rfl, by decide, by decide, by decide +kernel⟩
theorem zlv_X11_129 : zLV RX11 129 RX11 yX11_layLeast cX11_layLeast 12 none 5 := ⟨⟨(zin (i := 1323) (by decide +kernel) rfl), (zin (i := 1325) (by decide +kernel) rfl), (zin (i := 48) (by decide +kernel) rfl), (zin (i := 79) (by decide +kernel) rfl), (zin (i := 1326) (by decide +kernel) rfl)⟩, rfl, by decide, by decide, by decide +kernel⟩
theorem zlv_X11_133 : zLV RX11 133 RX11 yX11_goBack cX11_goBack 10 none 4 := ⟨⟨(zin (i := 1328) (by decide +kernel) rfl), (zin (i := 1330) (by decide +kernel) rfl), (zin (i := 49) (by decide +kernel) rfl), (zin (i := 79) (by decide +kernel) rfl), (zin (i := 1331) (by decide +kernel) rfl)⟩, rfl, by decide, by decide, by decide +kernel⟩
theorem zlv_X11_137 : zLV RX11 137 RX11 yX11_layChain cX11_layChain 4 none 0 := ⟨⟨(zin (i := 1284) (by decide +kernel) rfl), (zin (i := 1286) (by decide +kernel) rfl), (zin (i := 41) (by decide +kernel) rfl), (zin (i := 79) (by decide +kernel) rfl), (zin (i := 1287) (by decide +kernel) rfl)⟩, rfl, by decide, by decide, by decide +kernel⟩
theorem zlv_X11_140 : zLV RX11 140 RX11 yX11_addGap cX11_addGap 5 none 4 := ⟨⟨(zin (i := 1316) (by decide +kernel) rfl), (zin (i := 1318) (by decide +kernel) rfl), (zin (i := 47) (by decide +kernel) rfl), (zin (i := 79) (by decide +kernel) rfl), (zin (i := 1319) (by decide +kernel) rfl)⟩, rfl, by decide, by decide, by decide +kernel⟩
theorem zlv_X11_143 : zLV RX11 143 RX11 yX11_layAll cX11_layAll 7 none 0 := ⟨⟨(zin (i := 1312) (by decide +kernel) rfl), (zin (i := 1314) (by decide +kernel) rfl), (zin (i := 46) (by decide +kernel) rfl), (zin (i := 79) (by decide +kernel) rfl), (zin (i := 1315) (by decide +kernel) rfl)⟩, rfl, by decide, by decide, by decide +kernel⟩
theorem zls_X11_146 : zLS RX11 146 yX11_isSign cX11_isSign 1 (some .boolean) 1 := ⟨⟨(zin (i := 1172) (by decide +kernel) rfl), (zin (i := 1173) (by decide +kernel) rfl), (zin (i := 79) (by decide +kernel) rfl), (zin (i := 1174) (by decide +kernel) rfl)⟩, rfl, by decide, by decide, by decide +kernel⟩
theorem zlv_X11_149 : zLV RX11 149 RX11 yX11_save cX11_save 2 none 0 := ⟨⟨(zin (i := 1175) (by decide +kernel) rfl), (zin (i := 1177) (by decide +kernel) rfl), (zin (i := 31) (by decide +kernel) rfl), (zin (i := 79) (by decide +kernel) rfl), (zin (i := 1178) (by decide +kernel) rfl)⟩, rfl, by decide, by decide, by decide +kernel⟩
theorem zlv_X11_152 : zLV RX11 152 RX11 yX11_lay cX11_lay 4 none 3 := ⟨⟨(zin (i := 1183) (by decide +kernel) rfl), (zin (i := 1185) (by decide +kernel) rfl), (zin (i := 33) (by decide +kernel) rfl), (zin (i := 79) (by decide +kernel) rfl), (zin (i := 1186) (by decide +kernel) rfl)⟩, rfl, by decide, by decide, by decide +kernel⟩
theorem zlv_X11_156 : zLV RX11 156 RX11 yX11_isPlace cX11_isPlace 3 (some .boolean) 2 := ⟨⟨(zin (i := 1191) (by decide +kernel) rfl), (zin (i := 1193) (by decide +kernel) rfl), (zin (i := 34) (by decide +kernel) rfl), (zin (i := 79) (by decide +kernel) rfl), (zin (i := 1194) (by decide +kernel) rfl)⟩, rfl, by decide, by decide, by decide +kernel⟩
theorem zls_X11_159 : zLS RX11 159 yX11_isSetting cX11_isSetting 1 (some .boolean) 1 := ⟨⟨(zin (i := 1227) (by decide +kernel) rfl), (zin (i := 1228) (by decide +kernel) rfl), (zin (i := 79) (by decide +kernel) rfl), (zin (i := 1229) (by decide +kernel) rfl)⟩, rfl, by decide, by decide, by decide +kernel⟩
theorem zls_X11_162 : zLS RX11 162 yX11_isValue cX11_isValue 2 (some .boolean) 2 := ⟨⟨(zin (i := 1230) (by decide +kernel) rfl), (zin (i := 1231) (by decide +kernel) rfl), (zin (i := 79) (by decide +kernel) rfl), (zin (i := 1232) (by decide +kernel) rfl)⟩, rfl, by decide, by decide, by decide +kernel⟩
theorem zlv_X11_175 : zLV RX11 175 RX11 yX11_takes cX11_takes 7 (some .boolean) 1 := ⟨⟨(zin (i := 1249) (by decide +kernel) rfl), (zin (i := 1251) (by decide +kernel) rfl), (zin (i := 39) (by decide +kernel) rfl), (zin (i := 79) (by decide +kernel) rfl), (zin (i := 1252) (by decide +kernel) rfl)⟩, rfl, by decide, by decide, by decide +kernel⟩
theorem zlv_X11_178 : zLV RX11 178 RX11 yX11_rightUpTo cX11_rightUpTo 2 (some .int) 0 := ⟨⟨(zin (i := 1245) (by decide +kernel) rfl), (zin (i := 1247) (by decide +kernel) rfl), (zin (i := 38) (by decide +kernel) rfl), (zin (i := 79) (by decide +kernel) rfl), (zin (i := 1248) (by decide +kernel) rfl)⟩, rfl, by decide, by decide, by decide +kernel⟩
theorem zls_X11_182 : zLS RX11 182 yX11_isSnapshot cX11_isSnapshot 1 (some .boolean) 1 := ⟨⟨(zin (i := 1261) (by decide +kernel) rfl), (zin (i := 1262) (by decide +kernel) rfl), (zin (i := 79) (by decide +kernel) rfl), (zin (i := 1263) (by decide +kernel) rfl)⟩, rfl, by decide, by decide, by decide +kernel⟩
theorem zlv_X11_185 : zLV RX11 185 RX11 yX11_anchorNow cX11_anchorNow 3 (some .int) 2 := ⟨⟨(zin (i := 1280) (by decide +kernel) rfl), (zin (i := 1282) (by decide +kernel) rfl), (zin (i := 40) (by decide +kernel) rfl), (zin (i := 79) (by decide +kernel) rfl), (zin (i := 1283) (by decide +kernel) rfl)⟩, rfl, by decide, by decide, by decide +kernel⟩
theorem zlv_X11_188 : zLV RX11 188 RX11 yX11_stretchOf cX11_stretchOf 4 (some .int) 1 := ⟨⟨(zin (i := 1300) (by decide +kernel) rfl), (zin (i := 1302) (by decide +kernel) rfl), (zin (i := 44) (by decide +kernel) rfl), (zin (i := 79) (by decide +kernel) rfl), (zin (i := 1303) (by decide +kernel) rfl)⟩, rfl, by decide, by decide, by decide +kernel⟩
theorem zlv_X11_191 : zLV RX11 191 RX11 yX11_turnedNow cX11_turnedNow 3 (some .int) 2 := ⟨⟨(zin (i := 1296) (by decide +kernel) rfl), (zin (i := 1298) (by decide +kernel) rfl), (zin (i := 43) (by decide +kernel) rfl), (zin (i := 79) (by decide +kernel) rfl), (zin (i := 1299) (by decide +kernel) rfl)⟩, rfl, by decide, by decide, by decide +kernel⟩
theorem zlv_X11_194 : zLV RX11 194 RX11 yX11_gapNow cX11_gapNow 3 (some .int) 2 := ⟨⟨(zin (i := 1308) (by decide +kernel) rfl), (zin (i := 1310) (by decide +kernel) rfl), (zin (i := 45) (by decide +kernel) rfl), (zin (i := 79) (by decide +kernel) rfl), (zin (i := 1311) (by decide +kernel) rfl)⟩, rfl, by decide, by decide, by decide +kernel⟩
theorem zlv_X11_197 : zLV RX11 197 RX11 yX11_partnerNow cX11_partnerNow 3 (some .int) 2 := ⟨⟨(zin (i := 1340) (by decide +kernel) rfl), (zin (i := 1342) (by decide +kernel) rfl), (zin (i := 51) (by decide +kernel) rfl), (zin (i := 79) (by decide +kernel) rfl), (zin (i := 1343) (by decide +kernel) rfl)⟩, rfl, by decide, by decide, by decide +kernel⟩
theorem zlv_X11_200 : zLV RX11 200 RX11 yX11_standings cX11_standings 8 (some .int) 3 := ⟨⟨(zin (i := 1352) (by decide +kernel) rfl), (zin (i := 1354) (by decide +kernel) rfl), (zin (i := 53) (by decide +kernel) rfl), (zin (i := 79) (by decide +kernel) rfl), (zin (i := 1355) (by decide +kernel) rfl)⟩, rfl, by decide, by decide, by decide +kernel⟩
theorem zlv_X11_203 : zLV RX11 203 RX11 yX11_doubledNow cX11_doubledNow 6 (some .int) 2 := ⟨⟨(zin (i := 1348) (by decide +kernel) rfl), (zin (i := 1350) (by decide +kernel) rfl), (zin (i := 52) (by decide +kernel) rfl), (zin (i := 79) (by decide +kernel) rfl), (zin (i := 1351) (by decide +kernel) rfl)⟩, rfl, by decide, by decide, by decide +kernel⟩
theorem zlv_X11_206 : zLV RX11 206 RX11 yX11_costNow cX11_costNow 3 (some .int) 0 := ⟨⟨(zin (i := 1364) (by decide +kernel) rfl), (zin (i := 1366) (by decide +kernel) rfl), (zin (i := 55) (by decide +kernel) rfl), (zin (i := 79) (by decide +kernel) rfl), (zin (i := 1367) (by decide +kernel) rfl)⟩, rfl, by decide, by decide, by decide +kernel⟩
theorem zlv_X11_209 : zLV RX11 209 RX11 yX11_freeCost cX11_freeCost 1 (some .int) 0 := ⟨⟨(zin (i := 1368) (by decide +kernel) rfl), (zin (i := 1370) (by decide +kernel) rfl), (zin (i := 56) (by decide +kernel) rfl), (zin (i := 79) (by decide +kernel) rfl), (zin (i := 1371) (by decide +kernel) rfl)⟩, rfl, by decide, by decide, by decide +kernel⟩
theorem zlv_X11_212 : zLV RX11 212 RX11 yX11_turnedStretches cX11_turnedStretches 7 (some .int) 1 := ⟨⟨(zin (i := 1372) (by decide +kernel) rfl), (zin (i := 1374) (by decide +kernel) rfl), (zin (i := 57) (by decide +kernel) rfl), (zin (i := 79) (by decide +kernel) rfl), (zin (i := 1375) (by decide +kernel) rfl)⟩, rfl, by decide, by decide, by decide +kernel⟩
theorem zlv_X11_216 : zLV RX11 216 RX11 yX11_likeOnes cX11_likeOnes 3 (some .int) 0 := ⟨⟨(zin (i := 1376) (by decide +kernel) rfl), (zin (i := 1378) (by decide +kernel) rfl), (zin (i := 58) (by decide +kernel) rfl), (zin (i := 79) (by decide +kernel) rfl), (zin (i := 1379) (by decide +kernel) rfl)⟩, rfl, by decide, by decide, by decide +kernel⟩
theorem zlv_X11_219 : zLV RX11 219 RX11 yX11_leftOut cX11_leftOut 4 (some .int) 1 := ⟨⟨(zin (i := 1380) (by decide +kernel) rfl), (zin (i := 1382) (by decide +kernel) rfl), (zin (i := 59) (by decide +kernel) rfl), (zin (i := 79) (by decide +kernel) rfl), (zin (i := 1383) (by decide +kernel) rfl)⟩, rfl, by decide, by decide, by decide +kernel⟩
theorem zlv_X11_222 : zLV RX11 222 RX11 yX11_laidCount cX11_laidCount 2 (some .int) 1 := ⟨⟨(zin (i := 1384) (by decide +kernel) rfl), (zin (i := 1386) (by decide +kernel) rfl), (zin (i := 60) (by decide +kernel) rfl), (zin (i := 79) (by decide +kernel) rfl), (zin (i := 1387) (by decide +kernel) rfl)⟩, rfl, by decide, by decide, by decide +kernel⟩
theorem zlv_X11_225 : zLV RX11 225 RX11 yX11_counted cX11_counted 2 (some .int) 1 := ⟨⟨(zin (i := 1360) (by decide +kernel) rfl), (zin (i := 1362) (by decide +kernel) rfl), (zin (i := 54) (by decide +kernel) rfl), (zin (i := 79) (by decide +kernel) rfl), (zin (i := 1363) (by decide +kernel) rfl)⟩, rfl, by decide, by decide, by decide +kernel⟩
theorem zlv_X11_228 : zLV RX11 228 RX11 yX11_setThen cX11_setThen 5 (some .int) 2 := ⟨⟨(zin (i := 1396) (by decide +kernel) rfl), (zin (i := 1398) (by decide +kernel) rfl), (zin (i := 61) (by decide +kernel) rfl), (zin (i := 79) (by decide +kernel) rfl), (zin (i := 1399) (by decide +kernel) rfl)⟩, rfl, by decide, by decide, by decide +kernel⟩
theorem zlv_X11_231 : zLV RX11 231 RX11 yX11_changedThen cX11_changedThen 6 (some .int) 3 := ⟨⟨(zin (i := 1404) (by decide +kernel) rfl), (zin (i := 1406) (by decide +kernel) rfl), (zin (i := 62) (by decide +kernel) rfl), (zin (i := 79) (by decide +kernel) rfl), (zin (i := 1407) (by decide +kernel) rfl)⟩, rfl, by decide, by decide, by decide +kernel⟩
theorem zlv_X11_234 : zLV RX11 234 RX11 yX11_bestNow cX11_bestNow 5 (some .int) 0 := ⟨⟨(zin (i := 1412) (by decide +kernel) rfl), (zin (i := 1414) (by decide +kernel) rfl), (zin (i := 63) (by decide +kernel) rfl), (zin (i := 79) (by decide +kernel) rfl), (zin (i := 1415) (by decide +kernel) rfl)⟩, rfl, by decide, by decide, by decide +kernel⟩
theorem zlv_X11_239 : zLV RX11 239 RX11 yX11_share cX11_share 2 (some .double) 0 := ⟨⟨(zin (i := 1420) (by decide +kernel) rfl), (zin (i := 1422) (by decide +kernel) rfl), (zin (i := 64) (by decide +kernel) rfl), (zin (i := 79) (by decide +kernel) rfl), (zin (i := 1423) (by decide +kernel) rfl)⟩, rfl, by decide, by decide, by decide +kernel⟩
theorem zlv_X11_249 : zLV RX11 249 RX11 yX11_mix cX11_mix 3 none 1 := ⟨⟨(zin (i := 1430) (by decide +kernel) rfl), (zin (i := 1432) (by decide +kernel) rfl), (zin (i := 65) (by decide +kernel) rfl), (zin (i := 79) (by decide +kernel) rfl), (zin (i := 1433) (by decide +kernel) rfl)⟩, rfl, by decide, by decide, by decide +kernel⟩
theorem zlv_X11_255 : zLV RX11 255 RX11 yX11_mixRow cX11_mixRow 3 none 1 := ⟨⟨(zin (i := 1435) (by decide +kernel) rfl), (zin (i := 1437) (by decide +kernel) rfl), (zin (i := 66) (by decide +kernel) rfl), (zin (i := 79) (by decide +kernel) rfl), (zin (i := 1438) (by decide +kernel) rfl)⟩, rfl, by decide, by decide, by decide +kernel⟩
theorem zlv_X2_33 : zLV RX2 33 RX2 yX2_countUpTo cX2_countUpTo 5 none 1 := ⟨⟨(zin (i := 454) (by decide +kernel) rfl), (zin (i := 456) (by decide +kernel) rfl), (zin (i := 3) (by decide +kernel) rfl), (zin (i := 76) (by decide +kernel) rfl), (zin (i := 457) (by decide +kernel) rfl)⟩, rfl, by decide, by decide, by decide +kernel⟩
theorem zlv_X2_37 : zLV RX2 37 RX2 yX2_countFrom cX2_countFrom 5 none 1 := ⟨⟨(zin (i := 465) (by decide +kernel) rfl), (zin (i := 467) (by decide +kernel) rfl), (zin (i := 4) (by decide +kernel) rfl), (zin (i := 76) (by decide +kernel) rfl), (zin (i := 468) (by decide +kernel) rfl)⟩, rfl, by decide, by decide, by decide +kernel⟩
theorem zlv_X2_40 : zLV RX2 40 RX2 yX2_pick cX2_pick 6 none 1 := ⟨⟨(zin (i := 469) (by decide +kernel) rfl), (zin (i := 471) (by decide +kernel) rfl), (zin (i := 5) (by decide +kernel) rfl), (zin (i := 76) (by decide +kernel) rfl), (zin (i := 472) (by decide +kernel) rfl)⟩, rfl, by decide, by decide, by decide +kernel⟩
theorem zlv_X2_46 : zLV RX2 46 RX0 yX0_fit cX0_fit 5 (some .boolean) 2 := ⟨⟨(zin (i := 458) (by decide +kernel) rfl), (zin (i := 459) (by decide +kernel) rfl), (zin (i := 460) (by decide +kernel) rfl), (zin (i := 75) (by decide +kernel) rfl), (zin (i := 461) (by decide +kernel) rfl)⟩, rfl, by decide, by decide, by decide +kernel⟩
theorem zlv_X2_50 : zLV RX2 50 RX1 yX1_at cX1_at 2 (some .int) 1 := ⟨⟨(zin (i := 462) (by decide +kernel) rfl), (zin (i := 395) (by decide +kernel) rfl), (zin (i := 396) (by decide +kernel) rfl), (zin (i := 71) (by decide +kernel) rfl), (zin (i := 397) (by decide +kernel) rfl)⟩, rfl, by decide, by decide, by decide +kernel⟩
theorem zlv_X2_60 : zLV RX2 60 RX1 yX1_store cX1_store 3 none 2 := ⟨⟨(zin (i := 464) (by decide +kernel) rfl), (zin (i := 128) (by decide +kernel) rfl), (zin (i := 129) (by decide +kernel) rfl), (zin (i := 71) (by decide +kernel) rfl), (zin (i := 130) (by decide +kernel) rfl)⟩, rfl, by decide, by decide, by decide +kernel⟩
theorem zlv_X2_64 : zLV RX2 64 RX2 yX2_mostOfAll cX2_mostOfAll 4 (some .int) 1 := ⟨⟨(zin (i := 473) (by decide +kernel) rfl), (zin (i := 475) (by decide +kernel) rfl), (zin (i := 6) (by decide +kernel) rfl), (zin (i := 76) (by decide +kernel) rfl), (zin (i := 476) (by decide +kernel) rfl)⟩, rfl, by decide, by decide, by decide +kernel⟩
theorem zlv_X3_38 : zLV RX3 38 RX3 yX3_store cX3_store 5 none 4 := ⟨⟨(zin (i := 501) (by decide +kernel) rfl), (zin (i := 503) (by decide +kernel) rfl), (zin (i := 9) (by decide +kernel) rfl), (zin (i := 77) (by decide +kernel) rfl), (zin (i := 504) (by decide +kernel) rfl)⟩, rfl, by decide, by decide, by decide +kernel⟩
theorem zlv_X3_42 : zLV RX3 42 RX3 yX3_fillCell cX3_fillCell 10 none 3 := ⟨⟨(zin (i := 505) (by decide +kernel) rfl), (zin (i := 507) (by decide +kernel) rfl), (zin (i := 10) (by decide +kernel) rfl), (zin (i := 77) (by decide +kernel) rfl), (zin (i := 508) (by decide +kernel) rfl)⟩, rfl, by decide, by decide, by decide +kernel⟩
theorem zlv_X3_46 : zLV RX3 46 RX3 yX3_costAt cX3_costAt 3 (some .int) 2 := ⟨⟨(zin (i := 511) (by decide +kernel) rfl), (zin (i := 513) (by decide +kernel) rfl), (zin (i := 11) (by decide +kernel) rfl), (zin (i := 77) (by decide +kernel) rfl), (zin (i := 514) (by decide +kernel) rfl)⟩, rfl, by decide, by decide, by decide +kernel⟩
theorem zlv_X3_56 : zLV RX3 56 RX1 yX1_at cX1_at 2 (some .int) 1 := ⟨⟨(zin (i := 509) (by decide +kernel) rfl), (zin (i := 395) (by decide +kernel) rfl), (zin (i := 396) (by decide +kernel) rfl), (zin (i := 71) (by decide +kernel) rfl), (zin (i := 397) (by decide +kernel) rfl)⟩, rfl, by decide, by decide, by decide +kernel⟩
theorem zlv_X3_65 : zLV RX3 65 RX6 yX6_signAt cX6_signAt 2 (some .int) 1 := ⟨⟨(zin (i := 510) (by decide +kernel) rfl), (zin (i := 404) (by decide +kernel) rfl), (zin (i := 405) (by decide +kernel) rfl), (zin (i := 70) (by decide +kernel) rfl), (zin (i := 406) (by decide +kernel) rfl)⟩, rfl, by decide, by decide, by decide +kernel⟩
theorem zlv_X4_26 : zLV RX4 26 RX4 yX4_dropOldest cX4_dropOldest 2 none 0 := ⟨⟨(zin (i := 390) (by decide +kernel) rfl), (zin (i := 392) (by decide +kernel) rfl), (zin (i := 1) (by decide +kernel) rfl), (zin (i := 72) (by decide +kernel) rfl), (zin (i := 393) (by decide +kernel) rfl)⟩, rfl, by decide, by decide, by decide +kernel⟩
theorem zlv_X4_29 : zLV RX4 29 RX7 yX7_writeTo cX7_writeTo 4 none 2 := ⟨⟨(zin (i := 399) (by decide +kernel) rfl), (zin (i := 400) (by decide +kernel) rfl), (zin (i := 401) (by decide +kernel) rfl), (zin (i := 69) (by decide +kernel) rfl), (zin (i := 402) (by decide +kernel) rfl)⟩, rfl, by decide, by decide, by decide +kernel⟩
theorem zlv_X4_33 : zLV RX4 33 RX1 yX1_at cX1_at 2 (some .int) 1 := ⟨⟨(zin (i := 394) (by decide +kernel) rfl), (zin (i := 395) (by decide +kernel) rfl), (zin (i := 396) (by decide +kernel) rfl), (zin (i := 71) (by decide +kernel) rfl), (zin (i := 397) (by decide +kernel) rfl)⟩, rfl, by decide, by decide, by decide +kernel⟩
theorem zlv_X4_37 : zLV RX4 37 RX1 yX1_store cX1_store 3 none 2 := ⟨⟨(zin (i := 398) (by decide +kernel) rfl), (zin (i := 128) (by decide +kernel) rfl), (zin (i := 129) (by decide +kernel) rfl), (zin (i := 71) (by decide +kernel) rfl), (zin (i := 130) (by decide +kernel) rfl)⟩, rfl, by decide, by decide, by decide +kernel⟩
theorem zlv_X4_41 : zLV RX4 41 RX7 yX7_readFrom cX7_readFrom 4 none 2 := ⟨⟨(zin (i := 977) (by decide +kernel) rfl), (zin (i := 978) (by decide +kernel) rfl), (zin (i := 979) (by decide +kernel) rfl), (zin (i := 69) (by decide +kernel) rfl), (zin (i := 980) (by decide +kernel) rfl)⟩, rfl, by decide, by decide, by decide +kernel⟩
theorem zlv_X5_54 : zLV RX5 54 RX0 yX0_find cX0_find 8 none 2 := ⟨⟨(zin (i := 424) (by decide +kernel) rfl), (zin (i := 425) (by decide +kernel) rfl), (zin (i := 426) (by decide +kernel) rfl), (zin (i := 75) (by decide +kernel) rfl), (zin (i := 427) (by decide +kernel) rfl)⟩, rfl, by decide, by decide, by decide +kernel⟩
theorem zlv_X5_58 : zLV RX5 58 RX2 yX2_find cX2_find 2 none 1 := ⟨⟨(zin (i := 450) (by decide +kernel) rfl), (zin (i := 451) (by decide +kernel) rfl), (zin (i := 452) (by decide +kernel) rfl), (zin (i := 76) (by decide +kernel) rfl), (zin (i := 453) (by decide +kernel) rfl)⟩, rfl, by decide, by decide, by decide +kernel⟩
theorem zlv_X5_61 : zLV RX5 61 RX5 yX5_forget cX5_forget 2 none 0 := ⟨⟨(zin (i := 477) (by decide +kernel) rfl), (zin (i := 479) (by decide +kernel) rfl), (zin (i := 7) (by decide +kernel) rfl), (zin (i := 74) (by decide +kernel) rfl), (zin (i := 480) (by decide +kernel) rfl)⟩, rfl, by decide, by decide, by decide +kernel⟩
theorem zlv_X5_73 : zLV RX5 73 RX1 yX1_at cX1_at 2 (some .int) 1 := ⟨⟨(zin (i := 482) (by decide +kernel) rfl), (zin (i := 395) (by decide +kernel) rfl), (zin (i := 396) (by decide +kernel) rfl), (zin (i := 71) (by decide +kernel) rfl), (zin (i := 397) (by decide +kernel) rfl)⟩, rfl, by decide, by decide, by decide +kernel⟩
theorem zlv_X5_80 : zLV RX5 80 RX5 yX5_closeGap cX5_closeGap 11 none 5 := ⟨⟨(zin (i := 483) (by decide +kernel) rfl), (zin (i := 485) (by decide +kernel) rfl), (zin (i := 8) (by decide +kernel) rfl), (zin (i := 74) (by decide +kernel) rfl), (zin (i := 486) (by decide +kernel) rfl)⟩, rfl, by decide, by decide, by decide +kernel⟩
theorem zlv_X5_84 : zLV RX5 84 RX5 yX5_pairWord cX5_pairWord 4 none 2 := ⟨⟨(zin (i := 530) (by decide +kernel) rfl), (zin (i := 532) (by decide +kernel) rfl), (zin (i := 14) (by decide +kernel) rfl), (zin (i := 74) (by decide +kernel) rfl), (zin (i := 533) (by decide +kernel) rfl)⟩, rfl, by decide, by decide, by decide +kernel⟩
theorem zlv_X5_97 : zLV RX5 97 RX6 yX6_size cX6_size 1 (some .int) 0 := ⟨⟨(zin (i := 534) (by decide +kernel) rfl), (zin (i := 535) (by decide +kernel) rfl), (zin (i := 536) (by decide +kernel) rfl), (zin (i := 70) (by decide +kernel) rfl), (zin (i := 537) (by decide +kernel) rfl)⟩, rfl, by decide, by decide, by decide +kernel⟩
theorem zlv_X5_106 : zLV RX5 106 RX1 yX1_store cX1_store 3 none 2 := ⟨⟨(zin (i := 481) (by decide +kernel) rfl), (zin (i := 128) (by decide +kernel) rfl), (zin (i := 129) (by decide +kernel) rfl), (zin (i := 71) (by decide +kernel) rfl), (zin (i := 130) (by decide +kernel) rfl)⟩, rfl, by decide, by decide, by decide +kernel⟩
theorem zlv_X5_109 : zLV RX5 109 RX5 yX5_pairPlaces cX5_pairPlaces 3 none 2 := ⟨⟨(zin (i := 526) (by decide +kernel) rfl), (zin (i := 528) (by decide +kernel) rfl), (zin (i := 13) (by decide +kernel) rfl), (zin (i := 74) (by decide +kernel) rfl), (zin (i := 529) (by decide +kernel) rfl)⟩, rfl, by decide, by decide, by decide +kernel⟩
theorem zlv_X5_112 : zLV RX5 112 RX3 yX3_layParts cX3_layParts 5 none 4 := ⟨⟨(zin (i := 487) (by decide +kernel) rfl), (zin (i := 488) (by decide +kernel) rfl), (zin (i := 489) (by decide +kernel) rfl), (zin (i := 77) (by decide +kernel) rfl), (zin (i := 490) (by decide +kernel) rfl)⟩, rfl, by decide, by decide, by decide +kernel⟩
theorem zlv_X5_128 : zLV RX5 128 RX3 yX3_fill cX3_fill 5 (some .int) 2 := ⟨⟨(zin (i := 495) (by decide +kernel) rfl), (zin (i := 496) (by decide +kernel) rfl), (zin (i := 497) (by decide +kernel) rfl), (zin (i := 77) (by decide +kernel) rfl), (zin (i := 498) (by decide +kernel) rfl)⟩, rfl, by decide, by decide, by decide +kernel⟩
theorem zlv_X5_132 : zLV RX5 132 RX5 yX5_pairGap cX5_pairGap 5 none 0 := ⟨⟨(zin (i := 518) (by decide +kernel) rfl), (zin (i := 520) (by decide +kernel) rfl), (zin (i := 12) (by decide +kernel) rfl), (zin (i := 74) (by decide +kernel) rfl), (zin (i := 521) (by decide +kernel) rfl)⟩, rfl, by decide, by decide, by decide +kernel⟩
theorem zlv_X5_141 : zLV RX5 141 RX3 yX3_stepAt cX3_stepAt 3 (some .int) 2 := ⟨⟨(zin (i := 522) (by decide +kernel) rfl), (zin (i := 523) (by decide +kernel) rfl), (zin (i := 524) (by decide +kernel) rfl), (zin (i := 77) (by decide +kernel) rfl), (zin (i := 525) (by decide +kernel) rfl)⟩, rfl, by decide, by decide, by decide +kernel⟩
theorem zlv_X5_156 : zLV RX5 156 RX6 yX6_signAt cX6_signAt 2 (some .int) 1 := ⟨⟨(zin (i := 612) (by decide +kernel) rfl), (zin (i := 404) (by decide +kernel) rfl), (zin (i := 405) (by decide +kernel) rfl), (zin (i := 70) (by decide +kernel) rfl), (zin (i := 406) (by decide +kernel) rfl)⟩, rfl, by decide, by decide, by decide +kernel⟩
theorem zlv_X5_159 : zLV RX5 159 RX5 yX5_partnersOf cX5_partnersOf 2 (some (.object "AnchorChains$Cells")) 1 := ⟨⟨(zin (i := 632) (by decide +kernel) rfl), (zin (i := 633) (by decide +kernel) rfl), (zin (i := 634) (by decide +kernel) rfl), (zin (i := 74) (by decide +kernel) rfl), (zin (i := 635) (by decide +kernel) rfl)⟩, rfl, by decide, by decide, by decide +kernel⟩
theorem zlv_X6_19 : zLV RX6 19 RX6 yX6_write cX6_write 3 none 2 := ⟨⟨(zin (i := 593) (by decide +kernel) rfl), (zin (i := 413) (by decide +kernel) rfl), (zin (i := 414) (by decide +kernel) rfl), (zin (i := 70) (by decide +kernel) rfl), (zin (i := 415) (by decide +kernel) rfl)⟩, rfl, by decide, by decide, by decide +kernel⟩
theorem zlv_X6_23 : zLV RX6 23 RX6 yX6_signAt cX6_signAt 2 (some .int) 1 := ⟨⟨(zin (i := 440) (by decide +kernel) rfl), (zin (i := 404) (by decide +kernel) rfl), (zin (i := 405) (by decide +kernel) rfl), (zin (i := 70) (by decide +kernel) rfl), (zin (i := 406) (by decide +kernel) rfl)⟩, rfl, by decide, by decide, by decide +kernel⟩
theorem zlv_X6_27 : zLV RX6 27 RX6 yX6_has cX6_has 2 (some .boolean) 1 := ⟨⟨(zin (i := 853) (by decide +kernel) rfl), (zin (i := 696) (by decide +kernel) rfl), (zin (i := 697) (by decide +kernel) rfl), (zin (i := 70) (by decide +kernel) rfl), (zin (i := 698) (by decide +kernel) rfl)⟩, rfl, by decide, by decide, by decide +kernel⟩
theorem zlv_X6_37 : zLV RX6 37 RX6 yX6_wordAt cX6_wordAt 7 (some .int) 3 := ⟨⟨(zin (i := 436) (by decide +kernel) rfl), (zin (i := 437) (by decide +kernel) rfl), (zin (i := 438) (by decide +kernel) rfl), (zin (i := 70) (by decide +kernel) rfl), (zin (i := 439) (by decide +kernel) rfl)⟩, rfl, by decide, by decide, by decide +kernel⟩
theorem zlv_X6_41 : zLV RX6 41 RX1 yX1_store cX1_store 3 none 2 := ⟨⟨(zin (i := 441) (by decide +kernel) rfl), (zin (i := 128) (by decide +kernel) rfl), (zin (i := 129) (by decide +kernel) rfl), (zin (i := 71) (by decide +kernel) rfl), (zin (i := 130) (by decide +kernel) rfl)⟩, rfl, by decide, by decide, by decide +kernel⟩
theorem zlv_X6_46 : zLV RX6 46 RX6 yX6_alikeFrom cX6_alikeFrom 5 (some .int) 2 := ⟨⟨(zin (i := 663) (by decide +kernel) rfl), (zin (i := 665) (by decide +kernel) rfl), (zin (i := 20) (by decide +kernel) rfl), (zin (i := 70) (by decide +kernel) rfl), (zin (i := 666) (by decide +kernel) rfl)⟩, rfl, by decide, by decide, by decide +kernel⟩
theorem zlv_X6_49 : zLV RX6 49 RX6 yX6_againLength cX6_againLength 4 (some .int) 1 := ⟨⟨(zin (i := 659) (by decide +kernel) rfl), (zin (i := 661) (by decide +kernel) rfl), (zin (i := 19) (by decide +kernel) rfl), (zin (i := 70) (by decide +kernel) rfl), (zin (i := 662) (by decide +kernel) rfl)⟩, rfl, by decide, by decide, by decide +kernel⟩
theorem zlv_X6_52 : zLV RX6 52 RX6 yX6_placesOfStretch cX6_placesOfStretch 5 (some .int) 2 := ⟨⟨(zin (i := 667) (by decide +kernel) rfl), (zin (i := 669) (by decide +kernel) rfl), (zin (i := 21) (by decide +kernel) rfl), (zin (i := 70) (by decide +kernel) rfl), (zin (i := 670) (by decide +kernel) rfl)⟩, rfl, by decide, by decide, by decide +kernel⟩
theorem zlv_X7_30 : zLV RX7 30 RX1 yX1_store cX1_store 3 none 2 := ⟨⟨(zin (i := 127) (by decide +kernel) rfl), (zin (i := 128) (by decide +kernel) rfl), (zin (i := 129) (by decide +kernel) rfl), (zin (i := 71) (by decide +kernel) rfl), (zin (i := 130) (by decide +kernel) rfl)⟩, rfl, by decide, by decide, by decide +kernel⟩
theorem zlv_X7_34 : zLV RX7 34 RX6 yX6_size cX6_size 1 (some .int) 0 := ⟨⟨(zin (i := 607) (by decide +kernel) rfl), (zin (i := 535) (by decide +kernel) rfl), (zin (i := 536) (by decide +kernel) rfl), (zin (i := 70) (by decide +kernel) rfl), (zin (i := 537) (by decide +kernel) rfl)⟩, rfl, by decide, by decide, by decide +kernel⟩
theorem zlv_X7_42 : zLV RX7 42 RX6 yX6_signAt cX6_signAt 2 (some .int) 1 := ⟨⟨(zin (i := 403) (by decide +kernel) rfl), (zin (i := 404) (by decide +kernel) rfl), (zin (i := 405) (by decide +kernel) rfl), (zin (i := 70) (by decide +kernel) rfl), (zin (i := 406) (by decide +kernel) rfl)⟩, rfl, by decide, by decide, by decide +kernel⟩
theorem zlv_X7_46 : zLV RX7 46 RX6 yX6_write cX6_write 3 none 2 := ⟨⟨(zin (i := 412) (by decide +kernel) rfl), (zin (i := 413) (by decide +kernel) rfl), (zin (i := 414) (by decide +kernel) rfl), (zin (i := 70) (by decide +kernel) rfl), (zin (i := 415) (by decide +kernel) rfl)⟩, rfl, by decide, by decide, by decide +kernel⟩
theorem zlv_X7_49 : zLV RX7 49 RX6 yX6_takeRow cX6_takeRow 3 none 1 := ⟨⟨(zin (i := 589) (by decide +kernel) rfl), (zin (i := 590) (by decide +kernel) rfl), (zin (i := 591) (by decide +kernel) rfl), (zin (i := 70) (by decide +kernel) rfl), (zin (i := 592) (by decide +kernel) rfl)⟩, rfl, by decide, by decide, by decide +kernel⟩
theorem zlv_X7_53 : zLV RX7 53 RX7 yX7_takeRows cX7_takeRows 2 none 1 := ⟨⟨(zin (i := 585) (by decide +kernel) rfl), (zin (i := 586) (by decide +kernel) rfl), (zin (i := 587) (by decide +kernel) rfl), (zin (i := 69) (by decide +kernel) rfl), (zin (i := 588) (by decide +kernel) rfl)⟩, rfl, by decide, by decide, by decide +kernel⟩
theorem zlv_X7_57 : zLV RX7 57 RX1 yX1_at cX1_at 2 (some .int) 1 := ⟨⟨(zin (i := 407) (by decide +kernel) rfl), (zin (i := 395) (by decide +kernel) rfl), (zin (i := 396) (by decide +kernel) rfl), (zin (i := 71) (by decide +kernel) rfl), (zin (i := 397) (by decide +kernel) rfl)⟩, rfl, by decide, by decide, by decide +kernel⟩
theorem zlv_X8_24 : zLV RX8 24 RX1 yX1_at cX1_at 2 (some .int) 1 := ⟨⟨(zin (i := 566) (by decide +kernel) rfl), (zin (i := 395) (by decide +kernel) rfl), (zin (i := 396) (by decide +kernel) rfl), (zin (i := 71) (by decide +kernel) rfl), (zin (i := 397) (by decide +kernel) rfl)⟩, rfl, by decide, by decide, by decide +kernel⟩
theorem zlv_X8_28 : zLV RX8 28 RX1 yX1_store cX1_store 3 none 2 := ⟨⟨(zin (i := 913) (by decide +kernel) rfl), (zin (i := 128) (by decide +kernel) rfl), (zin (i := 129) (by decide +kernel) rfl), (zin (i := 71) (by decide +kernel) rfl), (zin (i := 130) (by decide +kernel) rfl)⟩, rfl, by decide, by decide, by decide +kernel⟩
theorem zls_X8_32 : zLS RX8 32 yX8_isLetter cX8_isLetter 1 (some .boolean) 1 := ⟨⟨(zin (i := 567) (by decide +kernel) rfl), (zin (i := 568) (by decide +kernel) rfl), (zin (i := 73) (by decide +kernel) rfl), (zin (i := 569) (by decide +kernel) rfl)⟩, rfl, by decide, by decide, by decide +kernel⟩
theorem zls_X8_36 : zLS RX8 36 yX8_isNumber cX8_isNumber 1 (some .boolean) 1 := ⟨⟨(zin (i := 570) (by decide +kernel) rfl), (zin (i := 571) (by decide +kernel) rfl), (zin (i := 73) (by decide +kernel) rfl), (zin (i := 572) (by decide +kernel) rfl)⟩, rfl, by decide, by decide, by decide +kernel⟩
theorem zlv_X8_39 : zLV RX8 39 RX8 yX8_faultPlace cX8_faultPlace 6 (some .int) 0 := ⟨⟨(zin (i := 925) (by decide +kernel) rfl), (zin (i := 563) (by decide +kernel) rfl), (zin (i := 564) (by decide +kernel) rfl), (zin (i := 73) (by decide +kernel) rfl), (zin (i := 565) (by decide +kernel) rfl)⟩, rfl, by decide, by decide, by decide +kernel⟩
theorem zlv_X8_49 : zLV RX8 49 RX6 yX6_clear cX6_clear 1 none 0 := ⟨⟨(zin (i := 931) (by decide +kernel) rfl), (zin (i := 932) (by decide +kernel) rfl), (zin (i := 933) (by decide +kernel) rfl), (zin (i := 70) (by decide +kernel) rfl), (zin (i := 934) (by decide +kernel) rfl)⟩, rfl, by decide, by decide, by decide +kernel⟩
theorem zlv_X8_57 : zLV RX8 57 RX6 yX6_extend cX6_extend 2 none 1 := ⟨⟨(zin (i := 935) (by decide +kernel) rfl), (zin (i := 882) (by decide +kernel) rfl), (zin (i := 883) (by decide +kernel) rfl), (zin (i := 70) (by decide +kernel) rfl), (zin (i := 884) (by decide +kernel) rfl)⟩, rfl, by decide, by decide, by decide +kernel⟩
theorem zls_X8_60 : zLS RX8 60 yX8_repeatLast cX8_repeatLast 4 none 2 := ⟨⟨(zin (i := 936) (by decide +kernel) rfl), (zin (i := 937) (by decide +kernel) rfl), (zin (i := 73) (by decide +kernel) rfl), (zin (i := 938) (by decide +kernel) rfl)⟩, rfl, by decide, by decide, by decide +kernel⟩
theorem zlv_X8_64 : zLV RX8 64 RX6 yX6_size cX6_size 1 (some .int) 0 := ⟨⟨(zin (i := 939) (by decide +kernel) rfl), (zin (i := 535) (by decide +kernel) rfl), (zin (i := 536) (by decide +kernel) rfl), (zin (i := 70) (by decide +kernel) rfl), (zin (i := 537) (by decide +kernel) rfl)⟩, rfl, by decide, by decide, by decide +kernel⟩
theorem zlv_X8_67 : zLV RX8 67 RX6 yX6_signAt cX6_signAt 2 (some .int) 1 := ⟨⟨(zin (i := 940) (by decide +kernel) rfl), (zin (i := 404) (by decide +kernel) rfl), (zin (i := 405) (by decide +kernel) rfl), (zin (i := 70) (by decide +kernel) rfl), (zin (i := 406) (by decide +kernel) rfl)⟩, rfl, by decide, by decide, by decide +kernel⟩
theorem zlv_X9_34 : zLV RX9 34 RX0 yX0_find cX0_find 8 none 2 := ⟨⟨(zin (i := 542) (by decide +kernel) rfl), (zin (i := 425) (by decide +kernel) rfl), (zin (i := 426) (by decide +kernel) rfl), (zin (i := 75) (by decide +kernel) rfl), (zin (i := 427) (by decide +kernel) rfl)⟩, rfl, by decide, by decide, by decide +kernel⟩
theorem zlv_X9_44 : zLV RX9 44 RX1 yX1_at cX1_at 2 (some .int) 1 := ⟨⟨(zin (i := 543) (by decide +kernel) rfl), (zin (i := 395) (by decide +kernel) rfl), (zin (i := 396) (by decide +kernel) rfl), (zin (i := 71) (by decide +kernel) rfl), (zin (i := 397) (by decide +kernel) rfl)⟩, rfl, by decide, by decide, by decide +kernel⟩
theorem zlv_X9_54 : zLV RX9 54 RX1 yX1_store cX1_store 3 none 2 := ⟨⟨(zin (i := 545) (by decide +kernel) rfl), (zin (i := 128) (by decide +kernel) rfl), (zin (i := 129) (by decide +kernel) rfl), (zin (i := 71) (by decide +kernel) rfl), (zin (i := 130) (by decide +kernel) rfl)⟩, rfl, by decide, by decide, by decide +kernel⟩
theorem zi_1 (x : Int32) : x + Int32.ofInt 1 = x + 1 := rfl
theorem zi_5 (x : Int32) : x + Int32.ofInt 5 = x + 5 := rfl
theorem zi_m1 (x : Int32) : x + Int32.ofInt (-1) = x - 1 := by rw [Int32.sub_eq_add_neg]; rfl
theorem zif_t {α : Type} {c : Prop} [Decidable c] {a b : Option α} {r : Option α} (h : (if c then a else b) = r) (hc : c) : a = r := by rw [if_pos hc] at h; exact h
theorem zif_f {α : Type} {c : Prop} [Decidable c] {a b : Option α} {r : Option α} (h : (if c then a else b) = r) (hc : ¬ c) : b = r := by rw [if_neg hc] at h; exact h
def zmax (x y : Int32) : Int32 := if x < y then y else x
def zmin (x y : Int32) : Int32 := if y < x then y else x
def zabs (x : Int32) : Int32 := if 0 ≤ x then x else 0 - x
theorem ztoInt {x : Int32} {k : Int32} {n : Int} (h : ¬ x = k) (hk : k.toInt = n) : ¬ x.toInt = n := fun q => h (Int32.toInt_inj.mp (q.trans hk.symm))
theorem ztab_3 {x : Int32} (h0 : ¬ x = (0 : Int32)) (h1 : ¬ x = (1 : Int32)) (h2 : ¬ x = (2 : Int32)) : x.toInt < 0 ∨ 2 < x.toInt := by
  have q0 := ztoInt h0 (show (0 : Int32).toInt = 0 by decide)
  have q1 := ztoInt h1 (show (1 : Int32).toInt = 1 by decide)
  have q2 := ztoInt h2 (show (2 : Int32).toInt = 2 by decide)
  omega
theorem ztab_4 {x : Int32} (h0 : ¬ x = (0 : Int32)) (h1 : ¬ x = (1 : Int32)) (h2 : ¬ x = (2 : Int32)) (h3 : ¬ x = (3 : Int32)) : x.toInt < 0 ∨ 3 < x.toInt := by
  have q0 := ztoInt h0 (show (0 : Int32).toInt = 0 by decide)
  have q1 := ztoInt h1 (show (1 : Int32).toInt = 1 by decide)
  have q2 := ztoInt h2 (show (2 : Int32).toInt = 2 by decide)
  have q3 := ztoInt h3 (show (3 : Int32).toInt = 3 by decide)
  omega
theorem ztab_15 {x : Int32} (h0 : ¬ x = (0 : Int32)) (h1 : ¬ x = (1 : Int32)) (h2 : ¬ x = (2 : Int32)) (h3 : ¬ x = (3 : Int32)) (h4 : ¬ x = (4 : Int32)) (h5 : ¬ x = (5 : Int32)) (h6 : ¬ x = (6 : Int32)) (h7 : ¬ x = (7 : Int32)) (h8 : ¬ x = (8 : Int32)) (h9 : ¬ x = (9 : Int32)) (h10 : ¬ x = (10 : Int32)) (h11 : ¬ x = (11 : Int32)) (h12 : ¬ x = (12 : Int32)) (h13 : ¬ x = (13 : Int32)) (h14 : ¬ x = (14 : Int32)) : x.toInt < 0 ∨ 14 < x.toInt := by
  have q0 := ztoInt h0 (show (0 : Int32).toInt = 0 by decide)
  have q1 := ztoInt h1 (show (1 : Int32).toInt = 1 by decide)
  have q2 := ztoInt h2 (show (2 : Int32).toInt = 2 by decide)
  have q3 := ztoInt h3 (show (3 : Int32).toInt = 3 by decide)
  have q4 := ztoInt h4 (show (4 : Int32).toInt = 4 by decide)
  have q5 := ztoInt h5 (show (5 : Int32).toInt = 5 by decide)
  have q6 := ztoInt h6 (show (6 : Int32).toInt = 6 by decide)
  have q7 := ztoInt h7 (show (7 : Int32).toInt = 7 by decide)
  have q8 := ztoInt h8 (show (8 : Int32).toInt = 8 by decide)
  have q9 := ztoInt h9 (show (9 : Int32).toInt = 9 by decide)
  have q10 := ztoInt h10 (show (10 : Int32).toInt = 10 by decide)
  have q11 := ztoInt h11 (show (11 : Int32).toInt = 11 by decide)
  have q12 := ztoInt h12 (show (12 : Int32).toInt = 12 by decide)
  have q13 := ztoInt h13 (show (13 : Int32).toInt = 13 by decide)
  have q14 := ztoInt h14 (show (14 : Int32).toInt = 14 by decide)
  omega
theorem zlook_2 {x : Int32} {a b d : Int} (h0 : ¬ x = (0 : Int32)) (h1 : ¬ x = (1 : Int32)) : Op.lookupswitch.offset [(0, a), (1, b)] d x.toInt = d := (lv_osw h0 (by decide)).trans ((lv_osw h1 (by decide)).trans rfl)
theorem zc_0 : zkd 0 = (10, 0) := by decide
theorem zc_1 : zkd 1 = (7, 0) := by decide
theorem zc_2 : zkd 2 = (6, 0) := by decide
theorem zc_3 : zkd 3 = (100, 24) := by decide
theorem zc_4 : zkd 4 = (6, 0) := by decide
theorem zc_5 : zkd 5 = (100, 24) := by decide
theorem zc_6 : zkd 6 = (1, 0) := by decide
theorem zc_7 : zkd 7 = (100, 4) := by decide
theorem zc_8 : zkd 8 = (7, 0) := by decide
theorem zc_9 : zkd 9 = (6, 0) := by decide
theorem zc_10 : zkd 10 = (100, 24) := by decide
theorem zc_11 : zkd 11 = (6, 0) := by decide
theorem zc_12 : zkd 12 = (100, 24) := by decide
theorem zc_13 : zkd 13 = (1, 0) := by decide
theorem zc_14 : zkd 14 = (100, 4) := by decide
theorem zc_15 : zkd 15 = (7, 0) := by decide
theorem zc_16 : zkd 16 = (6, 0) := by decide
theorem zc_17 : zkd 17 = (100, 24) := by decide
theorem zc_18 : zkd 18 = (6, 0) := by decide
theorem zc_19 : zkd 19 = (100, 24) := by decide
theorem zc_20 : zkd 20 = (1, 0) := by decide
theorem zc_21 : zkd 21 = (100, 4) := by decide
theorem zc_22 : zkd 22 = (7, 0) := by decide
theorem zc_23 : zkd 23 = (6, 0) := by decide
theorem zc_24 : zkd 24 = (100, 24) := by decide
theorem zc_25 : zkd 25 = (6, 0) := by decide
theorem zc_26 : zkd 26 = (100, 24) := by decide
theorem zc_27 : zkd 27 = (1, 0) := by decide
theorem zc_28 : zkd 28 = (100, 4) := by decide
theorem zc_29 : zkd 29 = (4, 0) := by decide
theorem zc_30 : zkd 30 = (1, 0) := by decide
theorem zc_31 : zkd 31 = (100, 324) := by decide
theorem zc_32 : zkd 32 = (8, 0) := by decide
theorem zc_33 : zkd 33 = (1, 0) := by decide
theorem zc_34 : zkd 34 = (100, 60) := by decide
theorem zc_35 : zkd 35 = (5, 0) := by decide
theorem zc_36 : zkd 36 = (0, 0) := by decide
theorem zc_37 : zkd 37 = (1, 0) := by decide
theorem zc_38 : zkd 38 = (100, 24) := by decide
theorem zc_39 : zkd 39 = (1, 0) := by decide
theorem zc_40 : zkd 40 = (100, 24) := by decide
theorem zc_41 : zkd 41 = (1, 0) := by decide
theorem zc_42 : zkd 42 = (100, 24) := by decide
theorem zc_43 : zkd 43 = (1, 0) := by decide
theorem zc_44 : zkd 44 = (100, 24) := by decide
theorem zc_45 : zkd 45 = (2, 0) := by decide
theorem zc_46 : zkd 46 = (1, 0) := by decide
theorem zc_47 : zkd 47 = (100, 24) := by decide
theorem zc_48 : zkd 48 = (1, 0) := by decide
theorem zc_49 : zkd 49 = (100, 24) := by decide
theorem zc_50 : zkd 50 = (1, 0) := by decide
theorem zc_51 : zkd 51 = (100, 24) := by decide
theorem zc_52 : zkd 52 = (1, 0) := by decide
theorem zc_53 : zkd 53 = (100, 24) := by decide
theorem zc_54 : zkd 54 = (3, 0) := by decide
theorem zc_55 : zkd 55 = (100, 625) := by decide
theorem zc_56 : zkd 56 = (100, 625) := by decide
theorem zc_57 : zkd 57 = (1, 0) := by decide
theorem zc_58 : zkd 58 = (100, 125) := by decide
theorem zc_59 : zkd 59 = (1, 0) := by decide
theorem zc_60 : zkd 60 = (100, 24) := by decide
theorem zc_61 : zkd 61 = (1, 0) := by decide
theorem zc_62 : zkd 62 = (100, 24) := by decide
theorem zc_63 : zkd 63 = (5, 0) := by decide
theorem zc_64 : zkd 64 = (0, 0) := by decide
theorem zc_65 : zkd 65 = (1, 0) := by decide
theorem zc_66 : zkd 66 = (100, 24) := by decide
theorem zc_67 : zkd 67 = (1, 0) := by decide
theorem zc_68 : zkd 68 = (100, 24) := by decide
theorem zc_69 : zkd 69 = (1, 0) := by decide
theorem zc_70 : zkd 70 = (100, 24) := by decide
theorem zc_71 : zkd 71 = (1, 0) := by decide
theorem zc_72 : zkd 72 = (100, 24) := by decide
theorem zc_73 : zkd 73 = (2, 0) := by decide
theorem zc_74 : zkd 74 = (1, 0) := by decide
theorem zc_75 : zkd 75 = (100, 24) := by decide
theorem zc_76 : zkd 76 = (1, 0) := by decide
theorem zc_77 : zkd 77 = (100, 24) := by decide
theorem zc_78 : zkd 78 = (1, 0) := by decide
theorem zc_79 : zkd 79 = (100, 24) := by decide
theorem zc_80 : zkd 80 = (1, 0) := by decide
theorem zc_81 : zkd 81 = (100, 24) := by decide
theorem zc_82 : zkd 82 = (3, 0) := by decide
theorem zc_83 : zkd 83 = (100, 625) := by decide
theorem zc_84 : zkd 84 = (100, 625) := by decide
theorem zc_85 : zkd 85 = (1, 0) := by decide
theorem zc_86 : zkd 86 = (100, 125) := by decide
theorem zc_87 : zkd 87 = (1, 0) := by decide
theorem zc_88 : zkd 88 = (100, 24) := by decide
theorem zc_89 : zkd 89 = (1, 0) := by decide
theorem zc_90 : zkd 90 = (100, 24) := by decide
theorem zc_91 : zkd 91 = (9, 0) := by decide
theorem zc_92 : zkd 92 = (0, 0) := by decide
theorem zc_93 : zkd 93 = (1, 0) := by decide
theorem zc_94 : zkd 94 = (100, 24) := by decide
theorem zc_95 : zkd 95 = (1, 0) := by decide
theorem zc_96 : zkd 96 = (100, 24) := by decide
theorem zc_97 : zkd 97 = (1, 0) := by decide
theorem zc_98 : zkd 98 = (100, 24) := by decide
theorem zc_99 : zkd 99 = (1, 0) := by decide
theorem zc_100 : zkd 100 = (100, 24) := by decide
theorem zc_101 : zkd 101 = (1, 0) := by decide
theorem zc_102 : zkd 102 = (100, 24) := by decide
theorem zc_103 : zkd 103 = (11, 0) := by decide
theorem zc_104 : zkd 104 = (100, 54) := by decide
theorem zc_105 : zkd 105 = (100, 324) := by decide
theorem zc_106 : zkd 106 = (100, 100) := by decide
theorem zc_107 : zkd 107 = (100, 2) := by decide
theorem zc_108 : zkd 108 = (100, 60) := by decide
theorem zc_109 : zkd 109 = (100, 24) := by decide
theorem zc_110 : zkd 110 = (100, 24) := by decide
theorem zc_111 : zkd 111 = (100, 24) := by decide
theorem zc_112 : zkd 112 = (100, 24) := by decide
theorem zc_113 : zkd 113 = (100, 24) := by decide
theorem zc_114 : zkd 114 = (100, 24) := by decide
theorem zc_115 : zkd 115 = (100, 24) := by decide
theorem zc_116 : zkd 116 = (100, 24) := by decide
theorem zc_117 : zkd 117 = (100, 50) := by decide
theorem zc_118 : zkd 118 = (100, 50) := by decide
theorem zc_119 : zkd 119 = (100, 25) := by decide
theorem zc_120 : zkd 120 = (100, 48) := by decide
theorem zc_121 : zkd 121 = (100, 625) := by decide
theorem zc_122 : zkd 122 = (100, 48) := by decide
theorem zc_123 : zkd 123 = (100, 2) := by decide
theorem zc_124 : zkd 124 = (101, 1) := by decide
theorem zs_0_0 {i : Nat} (h : zkd i = (0, 0)) : zkd (i + 1) = (1, 0) := (show ∀ i, i < 125 → zkd i = (0, 0) → zkd (i + 1) = (1, 0) by decide +kernel) i (zkd_lt h (by decide)) h
theorem zs_0_1 {i : Nat} (h : zkd i = (0, 0)) : zkd (i + 3) = (1, 0) := (show ∀ i, i < 125 → zkd i = (0, 0) → zkd (i + 3) = (1, 0) by decide +kernel) i (zkd_lt h (by decide)) h
theorem zs_0_4 {i : Nat} (h : zkd i = (0, 0)) : zkd (i + 5) = (1, 0) := (show ∀ i, i < 125 → zkd i = (0, 0) → zkd (i + 5) = (1, 0) by decide +kernel) i (zkd_lt h (by decide)) h
theorem zs_0_5 {i : Nat} (h : zkd i = (0, 0)) : zkd (i + 7) = (1, 0) := (show ∀ i, i < 125 → zkd i = (0, 0) → zkd (i + 7) = (1, 0) by decide +kernel) i (zkd_lt h (by decide)) h
theorem zs_1_0 {i : Nat} (h : zkd i = (1, 0)) : zkd (i + 1) = (100, (zkd (i + 1)).2) := (show ∀ i, i < 125 → zkd i = (1, 0) → zkd (i + 1) = (100, (zkd (i + 1)).2) by decide +kernel) i (zkd_lt h (by decide)) h
theorem zs_2_0 {i : Nat} (h : zkd i = (2, 0)) : zkd (i + 1) = (1, 0) := (show ∀ i, i < 125 → zkd i = (2, 0) → zkd (i + 1) = (1, 0) by decide +kernel) i (zkd_lt h (by decide)) h
theorem zs_2_1 {i : Nat} (h : zkd i = (2, 0)) : zkd (i + 3) = (1, 0) := (show ∀ i, i < 125 → zkd i = (2, 0) → zkd (i + 3) = (1, 0) by decide +kernel) i (zkd_lt h (by decide)) h
theorem zs_2_2 {i : Nat} (h : zkd i = (2, 0)) : zkd (i + 5) = (1, 0) := (show ∀ i, i < 125 → zkd i = (2, 0) → zkd (i + 5) = (1, 0) by decide +kernel) i (zkd_lt h (by decide)) h
theorem zs_2_3 {i : Nat} (h : zkd i = (2, 0)) : zkd (i + 7) = (1, 0) := (show ∀ i, i < 125 → zkd i = (2, 0) → zkd (i + 7) = (1, 0) by decide +kernel) i (zkd_lt h (by decide)) h
theorem zs_3_0 {i : Nat} (h : zkd i = (3, 0)) : zkd (i + 1) = (100, 625) := (show ∀ i, i < 125 → zkd i = (3, 0) → zkd (i + 1) = (100, 625) by decide +kernel) i (zkd_lt h (by decide)) h
theorem zs_3_1 {i : Nat} (h : zkd i = (3, 0)) : zkd (i + 2) = (100, 625) := (show ∀ i, i < 125 → zkd i = (3, 0) → zkd (i + 2) = (100, 625) by decide +kernel) i (zkd_lt h (by decide)) h
theorem zs_4_0 {i : Nat} (h : zkd i = (4, 0)) : zkd (i + 1) = (1, 0) := (show ∀ i, i < 125 → zkd i = (4, 0) → zkd (i + 1) = (1, 0) by decide +kernel) i (zkd_lt h (by decide)) h
theorem zs_5_0 {i : Nat} (h : zkd i = (5, 0)) : zkd (i + 1) = (0, 0) := (show ∀ i, i < 125 → zkd i = (5, 0) → zkd (i + 1) = (0, 0) by decide +kernel) i (zkd_lt h (by decide)) h
theorem zs_5_1 {i : Nat} (h : zkd i = (5, 0)) : zkd (i + 10) = (2, 0) := (show ∀ i, i < 125 → zkd i = (5, 0) → zkd (i + 10) = (2, 0) by decide +kernel) i (zkd_lt h (by decide)) h
theorem zs_5_4 {i : Nat} (h : zkd i = (5, 0)) : zkd (i + 19) = (3, 0) := (show ∀ i, i < 125 → zkd i = (5, 0) → zkd (i + 19) = (3, 0) by decide +kernel) i (zkd_lt h (by decide)) h
theorem zs_5_5 {i : Nat} (h : zkd i = (5, 0)) : zkd (i + 22) = (1, 0) := (show ∀ i, i < 125 → zkd i = (5, 0) → zkd (i + 22) = (1, 0) by decide +kernel) i (zkd_lt h (by decide)) h
theorem zs_5_6 {i : Nat} (h : zkd i = (5, 0)) : zkd (i + 24) = (1, 0) := (show ∀ i, i < 125 → zkd i = (5, 0) → zkd (i + 24) = (1, 0) by decide +kernel) i (zkd_lt h (by decide)) h
theorem zs_5_7 {i : Nat} (h : zkd i = (5, 0)) : zkd (i + 26) = (1, 0) := (show ∀ i, i < 125 → zkd i = (5, 0) → zkd (i + 26) = (1, 0) by decide +kernel) i (zkd_lt h (by decide)) h
theorem zs_6_0 {i : Nat} (h : zkd i = (6, 0)) : zkd (i + 1) = (100, 24) := (show ∀ i, i < 125 → zkd i = (6, 0) → zkd (i + 1) = (100, 24) by decide +kernel) i (zkd_lt h (by decide)) h
theorem zs_7_0 {i : Nat} (h : zkd i = (7, 0)) : zkd (i + 1) = (6, 0) := (show ∀ i, i < 125 → zkd i = (7, 0) → zkd (i + 1) = (6, 0) by decide +kernel) i (zkd_lt h (by decide)) h
theorem zs_7_1 {i : Nat} (h : zkd i = (7, 0)) : zkd (i + 3) = (6, 0) := (show ∀ i, i < 125 → zkd i = (7, 0) → zkd (i + 3) = (6, 0) by decide +kernel) i (zkd_lt h (by decide)) h
theorem zs_7_2 {i : Nat} (h : zkd i = (7, 0)) : zkd (i + 5) = (1, 0) := (show ∀ i, i < 125 → zkd i = (7, 0) → zkd (i + 5) = (1, 0) by decide +kernel) i (zkd_lt h (by decide)) h
theorem zs_8_0 {i : Nat} (h : zkd i = (8, 0)) : zkd (i + 1) = (1, 0) := (show ∀ i, i < 125 → zkd i = (8, 0) → zkd (i + 1) = (1, 0) by decide +kernel) i (zkd_lt h (by decide)) h
theorem zs_9_0 {i : Nat} (h : zkd i = (9, 0)) : zkd (i + 1) = (0, 0) := (show ∀ i, i < 125 → zkd i = (9, 0) → zkd (i + 1) = (0, 0) by decide +kernel) i (zkd_lt h (by decide)) h
theorem zs_9_3 {i : Nat} (h : zkd i = (9, 0)) : zkd (i + 10) = (1, 0) := (show ∀ i, i < 125 → zkd i = (9, 0) → zkd (i + 10) = (1, 0) by decide +kernel) i (zkd_lt h (by decide)) h
end

section
/-- a private method of a class that the tables say can be made, by its rows of tables_1 -/
def lw_okq (q : MethodName × Nat) : Prop := (q.1.cls ≠ "java/lang/invoke/MethodHandle" ∧ q.1.cls ≠ "java/lang/invoke/VarHandle") ∧ Cond.instantiable q.1.cls q.2 ∈ tables_1 ∧ Cond.privateMethod q.1 ∈ tables_1 ∧ Cond.instanceMethod q.1 ∈ tables_1
theorem lw_p0 : lw_okq (⟨"PieceMoulds", "answered", "(I)I"⟩, 14) := ⟨⟨by decide +kernel, by decide +kernel⟩, List.mem_of_getElem? (i := 23) (by decide +kernel), List.mem_of_getElem? (i := 330) (by decide +kernel), List.mem_of_getElem? (i := 331) (by decide +kernel)⟩
theorem lw_p1 : lw_okq (⟨"PieceMoulds$Casting", "letMetalCome", "()V"⟩, 7) := ⟨⟨by decide +kernel, by decide +kernel⟩, List.mem_of_getElem? (i := 51) (by decide +kernel), List.mem_of_getElem? (i := 379) (by decide +kernel), List.mem_of_getElem? (i := 380) (by decide +kernel)⟩
theorem lw_p2 : lw_okq (⟨"PieceMoulds$Casting", "startFlood", "()V"⟩, 7) := ⟨⟨by decide +kernel, by decide +kernel⟩, List.mem_of_getElem? (i := 51) (by decide +kernel), List.mem_of_getElem? (i := 383) (by decide +kernel), List.mem_of_getElem? (i := 384) (by decide +kernel)⟩
theorem lw_p3 : lw_okq (⟨"PieceMoulds$Casting", "reach", "(II)V"⟩, 7) := ⟨⟨by decide +kernel, by decide +kernel⟩, List.mem_of_getElem? (i := 51) (by decide +kernel), List.mem_of_getElem? (i := 396) (by decide +kernel), List.mem_of_getElem? (i := 397) (by decide +kernel)⟩
theorem lw_p4 : lw_okq (⟨"PieceMoulds$Casting", "isReached", "(II)Z"⟩, 7) := ⟨⟨by decide +kernel, by decide +kernel⟩, List.mem_of_getElem? (i := 51) (by decide +kernel), List.mem_of_getElem? (i := 404) (by decide +kernel), List.mem_of_getElem? (i := 405) (by decide +kernel)⟩
theorem lw_p5 : lw_okq (⟨"PieceMoulds$Casting", "flood", "(I)V"⟩, 7) := ⟨⟨by decide +kernel, by decide +kernel⟩, List.mem_of_getElem? (i := 51) (by decide +kernel), List.mem_of_getElem? (i := 409) (by decide +kernel), List.mem_of_getElem? (i := 410) (by decide +kernel)⟩
theorem lw_p6 : lw_okq (⟨"PieceMoulds$Casting", "fateWithAir", "(II)I"⟩, 7) := ⟨⟨by decide +kernel, by decide +kernel⟩, List.mem_of_getElem? (i := 51) (by decide +kernel), List.mem_of_getElem? (i := 417) (by decide +kernel), List.mem_of_getElem? (i := 418) (by decide +kernel)⟩
theorem lw_p7 : lw_okq (⟨"PieceMoulds$Casting", "letAirOut", "()V"⟩, 7) := ⟨⟨by decide +kernel, by decide +kernel⟩, List.mem_of_getElem? (i := 51) (by decide +kernel), List.mem_of_getElem? (i := 421) (by decide +kernel), List.mem_of_getElem? (i := 422) (by decide +kernel)⟩
theorem lw_p8 : lw_okq (⟨"PieceMoulds$Casting", "castRow", "(I)V"⟩, 7) := ⟨⟨by decide +kernel, by decide +kernel⟩, List.mem_of_getElem? (i := 51) (by decide +kernel), List.mem_of_getElem? (i := 425) (by decide +kernel), List.mem_of_getElem? (i := 426) (by decide +kernel)⟩
theorem lw_p9 : lw_okq (⟨"PieceMoulds$Casting", "isMetal", "(II)Z"⟩, 7) := ⟨⟨by decide +kernel, by decide +kernel⟩, List.mem_of_getElem? (i := 51) (by decide +kernel), List.mem_of_getElem? (i := 442) (by decide +kernel), List.mem_of_getElem? (i := 443) (by decide +kernel)⟩
theorem lw_p10 : lw_okq (⟨"PieceMoulds$Casting", "stretch", "(III)I"⟩, 7) := ⟨⟨by decide +kernel, by decide +kernel⟩, List.mem_of_getElem? (i := 51) (by decide +kernel), List.mem_of_getElem? (i := 466) (by decide +kernel), List.mem_of_getElem? (i := 467) (by decide +kernel)⟩
theorem lw_p11 : lw_okq (⟨"PieceMoulds$Stripping", "lookFromEdge", "(I)V"⟩, 7) := ⟨⟨by decide +kernel, by decide +kernel⟩, List.mem_of_getElem? (i := 80) (by decide +kernel), List.mem_of_getElem? (i := 492) (by decide +kernel), List.mem_of_getElem? (i := 493) (by decide +kernel)⟩
theorem lw_p12 : lw_okq (⟨"PieceMoulds$Stripping", "lookBack", "(III)V"⟩, 7) := ⟨⟨by decide +kernel, by decide +kernel⟩, List.mem_of_getElem? (i := 80) (by decide +kernel), List.mem_of_getElem? (i := 501) (by decide +kernel), List.mem_of_getElem? (i := 502) (by decide +kernel)⟩
theorem lw_p13 : lw_okq (⟨"PieceMoulds$Stripping", "takeLowestOff", "(I)Z"⟩, 7) := ⟨⟨by decide +kernel, by decide +kernel⟩, List.mem_of_getElem? (i := 80) (by decide +kernel), List.mem_of_getElem? (i := 510) (by decide +kernel), List.mem_of_getElem? (i := 511) (by decide +kernel)⟩
theorem lw_p14 : lw_okq (⟨"PieceMoulds$Stripping", "lowestWay", "(I)I"⟩, 7) := ⟨⟨by decide +kernel, by decide +kernel⟩, List.mem_of_getElem? (i := 80) (by decide +kernel), List.mem_of_getElem? (i := 514) (by decide +kernel), List.mem_of_getElem? (i := 515) (by decide +kernel)⟩
theorem lw_p15 : lw_okq (⟨"PieceMoulds", "howManyPieces", "(I)I"⟩, 14) := ⟨⟨by decide +kernel, by decide +kernel⟩, List.mem_of_getElem? (i := 23) (by decide +kernel), List.mem_of_getElem? (i := 518) (by decide +kernel), List.mem_of_getElem? (i := 519) (by decide +kernel)⟩
def lw_privs_1 : List (MethodName × Nat) := [(⟨"PieceMoulds", "answered", "(I)I"⟩, 14), (⟨"PieceMoulds$Casting", "letMetalCome", "()V"⟩, 7), (⟨"PieceMoulds$Casting", "startFlood", "()V"⟩, 7), (⟨"PieceMoulds$Casting", "reach", "(II)V"⟩, 7), (⟨"PieceMoulds$Casting", "isReached", "(II)Z"⟩, 7), (⟨"PieceMoulds$Casting", "flood", "(I)V"⟩, 7), (⟨"PieceMoulds$Casting", "fateWithAir", "(II)I"⟩, 7), (⟨"PieceMoulds$Casting", "letAirOut", "()V"⟩, 7), (⟨"PieceMoulds$Casting", "castRow", "(I)V"⟩, 7), (⟨"PieceMoulds$Casting", "isMetal", "(II)Z"⟩, 7), (⟨"PieceMoulds$Casting", "stretch", "(III)I"⟩, 7), (⟨"PieceMoulds$Stripping", "lookFromEdge", "(I)V"⟩, 7), (⟨"PieceMoulds$Stripping", "lookBack", "(III)V"⟩, 7), (⟨"PieceMoulds$Stripping", "takeLowestOff", "(I)Z"⟩, 7), (⟨"PieceMoulds$Stripping", "lowestWay", "(I)I"⟩, 7), (⟨"PieceMoulds", "howManyPieces", "(I)I"⟩, 14)]
theorem lw_r1 : ∀ q ∈ lw_privs_1, lw_okq q := List.forall_mem_cons.mpr ⟨lw_p0, List.forall_mem_cons.mpr ⟨lw_p1, List.forall_mem_cons.mpr ⟨lw_p2, List.forall_mem_cons.mpr ⟨lw_p3, List.forall_mem_cons.mpr ⟨lw_p4, List.forall_mem_cons.mpr ⟨lw_p5, List.forall_mem_cons.mpr ⟨lw_p6, List.forall_mem_cons.mpr ⟨lw_p7, List.forall_mem_cons.mpr ⟨lw_p8, List.forall_mem_cons.mpr ⟨lw_p9, List.forall_mem_cons.mpr ⟨lw_p10, List.forall_mem_cons.mpr ⟨lw_p11, List.forall_mem_cons.mpr ⟨lw_p12, List.forall_mem_cons.mpr ⟨lw_p13, List.forall_mem_cons.mpr ⟨lw_p14, List.forall_mem_cons.mpr ⟨lw_p15, fun _ h => absurd h List.not_mem_nil⟩⟩⟩⟩⟩⟩⟩⟩⟩⟩⟩⟩⟩⟩⟩⟩
theorem lw_p16 : lw_okq (⟨"PieceMoulds$Mixer", "lastOfLots", "()I"⟩, 12) := ⟨⟨by decide +kernel, by decide +kernel⟩, List.mem_of_getElem? (i := 156) (by decide +kernel), List.mem_of_getElem? (i := 574) (by decide +kernel), List.mem_of_getElem? (i := 575) (by decide +kernel)⟩
theorem lw_p17 : lw_okq (⟨"PieceMoulds$Mixer", "weigh", "()V"⟩, 12) := ⟨⟨by decide +kernel, by decide +kernel⟩, List.mem_of_getElem? (i := 156) (by decide +kernel), List.mem_of_getElem? (i := 586) (by decide +kernel), List.mem_of_getElem? (i := 587) (by decide +kernel)⟩
theorem lw_p18 : lw_okq (⟨"PieceMoulds$Mixer", "foresee", "(I)V"⟩, 12) := ⟨⟨by decide +kernel, by decide +kernel⟩, List.mem_of_getElem? (i := 156) (by decide +kernel), List.mem_of_getElem? (i := 606) (by decide +kernel), List.mem_of_getElem? (i := 607) (by decide +kernel)⟩
theorem lw_p19 : lw_okq (⟨"PieceMoulds$Mixer", "foreseeFrom", "(III)V"⟩, 12) := ⟨⟨by decide +kernel, by decide +kernel⟩, List.mem_of_getElem? (i := 156) (by decide +kernel), List.mem_of_getElem? (i := 614) (by decide +kernel), List.mem_of_getElem? (i := 615) (by decide +kernel)⟩
theorem lw_p20 : lw_okq (⟨"PieceMoulds$Mixer", "search", "(II)V"⟩, 12) := ⟨⟨by decide +kernel, by decide +kernel⟩, List.mem_of_getElem? (i := 156) (by decide +kernel), List.mem_of_getElem? (i := 618) (by decide +kernel), List.mem_of_getElem? (i := 619) (by decide +kernel)⟩
theorem lw_p21 : lw_okq (⟨"PieceMoulds$Mixer", "shareOut", "(I)V"⟩, 12) := ⟨⟨by decide +kernel, by decide +kernel⟩, List.mem_of_getElem? (i := 156) (by decide +kernel), List.mem_of_getElem? (i := 622) (by decide +kernel), List.mem_of_getElem? (i := 623) (by decide +kernel)⟩
theorem lw_p22 : lw_okq (⟨"PieceMoulds$Mixer", "narrow", "(III)V"⟩, 12) := ⟨⟨by decide +kernel, by decide +kernel⟩, List.mem_of_getElem? (i := 156) (by decide +kernel), List.mem_of_getElem? (i := 626) (by decide +kernel), List.mem_of_getElem? (i := 627) (by decide +kernel)⟩
theorem lw_p23 : lw_okq (⟨"PieceMoulds$Mixer", "keepRow", "()V"⟩, 12) := ⟨⟨by decide +kernel, by decide +kernel⟩, List.mem_of_getElem? (i := 156) (by decide +kernel), List.mem_of_getElem? (i := 633) (by decide +kernel), List.mem_of_getElem? (i := 634) (by decide +kernel)⟩
theorem lw_p24 : lw_okq (⟨"PieceMoulds$Mixer", "goOn", "(III)V"⟩, 12) := ⟨⟨by decide +kernel, by decide +kernel⟩, List.mem_of_getElem? (i := 156) (by decide +kernel), List.mem_of_getElem? (i := 640) (by decide +kernel), List.mem_of_getElem? (i := 641) (by decide +kernel)⟩
theorem lw_p25 : lw_okq (⟨"PieceMoulds$Mixer", "staysBelow", "(III)Z"⟩, 12) := ⟨⟨by decide +kernel, by decide +kernel⟩, List.mem_of_getElem? (i := 156) (by decide +kernel), List.mem_of_getElem? (i := 644) (by decide +kernel), List.mem_of_getElem? (i := 645) (by decide +kernel)⟩
theorem lw_p26 : lw_okq (⟨"PieceMoulds$RuleReader", "advance", "()V"⟩, 3) := ⟨⟨by decide +kernel, by decide +kernel⟩, List.mem_of_getElem? (i := 201) (by decide +kernel), List.mem_of_getElem? (i := 733) (by decide +kernel), List.mem_of_getElem? (i := 734) (by decide +kernel)⟩
theorem lw_p27 : lw_okq (⟨"PieceMoulds$RuleReader", "isAtEnd", "()Z"⟩, 3) := ⟨⟨by decide +kernel, by decide +kernel⟩, List.mem_of_getElem? (i := 201) (by decide +kernel), List.mem_of_getElem? (i := 749) (by decide +kernel), List.mem_of_getElem? (i := 750) (by decide +kernel)⟩
theorem lw_p28 : lw_okq (⟨"PieceMoulds$RuleReader", "readRule", "(LPieceMoulds$RuleBook;)Z"⟩, 3) := ⟨⟨by decide +kernel, by decide +kernel⟩, List.mem_of_getElem? (i := 201) (by decide +kernel), List.mem_of_getElem? (i := 753) (by decide +kernel), List.mem_of_getElem? (i := 754) (by decide +kernel)⟩
theorem lw_p29 : lw_okq (⟨"PieceMoulds$RuleReader", "kindHere", "()I"⟩, 3) := ⟨⟨by decide +kernel, by decide +kernel⟩, List.mem_of_getElem? (i := 201) (by decide +kernel), List.mem_of_getElem? (i := 757) (by decide +kernel), List.mem_of_getElem? (i := 758) (by decide +kernel)⟩
theorem lw_p30 : lw_okq (⟨"PieceMoulds$RuleReader", "isWord", "(Ljava/lang/String;)Z"⟩, 3) := ⟨⟨by decide +kernel, by decide +kernel⟩, List.mem_of_getElem? (i := 201) (by decide +kernel), List.mem_of_getElem? (i := 773) (by decide +kernel), List.mem_of_getElem? (i := 774) (by decide +kernel)⟩
theorem lw_p31 : lw_okq (⟨"PieceMoulds$RuleReader", "skipWord", "(Ljava/lang/String;)Z"⟩, 3) := ⟨⟨by decide +kernel, by decide +kernel⟩, List.mem_of_getElem? (i := 201) (by decide +kernel), List.mem_of_getElem? (i := 837) (by decide +kernel), List.mem_of_getElem? (i := 838) (by decide +kernel)⟩
def lw_privs_2 : List (MethodName × Nat) := [(⟨"PieceMoulds$Mixer", "lastOfLots", "()I"⟩, 12), (⟨"PieceMoulds$Mixer", "weigh", "()V"⟩, 12), (⟨"PieceMoulds$Mixer", "foresee", "(I)V"⟩, 12), (⟨"PieceMoulds$Mixer", "foreseeFrom", "(III)V"⟩, 12), (⟨"PieceMoulds$Mixer", "search", "(II)V"⟩, 12), (⟨"PieceMoulds$Mixer", "shareOut", "(I)V"⟩, 12), (⟨"PieceMoulds$Mixer", "narrow", "(III)V"⟩, 12), (⟨"PieceMoulds$Mixer", "keepRow", "()V"⟩, 12), (⟨"PieceMoulds$Mixer", "goOn", "(III)V"⟩, 12), (⟨"PieceMoulds$Mixer", "staysBelow", "(III)Z"⟩, 12), (⟨"PieceMoulds$RuleReader", "advance", "()V"⟩, 3), (⟨"PieceMoulds$RuleReader", "isAtEnd", "()Z"⟩, 3), (⟨"PieceMoulds$RuleReader", "readRule", "(LPieceMoulds$RuleBook;)Z"⟩, 3), (⟨"PieceMoulds$RuleReader", "kindHere", "()I"⟩, 3), (⟨"PieceMoulds$RuleReader", "isWord", "(Ljava/lang/String;)Z"⟩, 3), (⟨"PieceMoulds$RuleReader", "skipWord", "(Ljava/lang/String;)Z"⟩, 3)]
theorem lw_r2 : ∀ q ∈ lw_privs_2, lw_okq q := List.forall_mem_cons.mpr ⟨lw_p16, List.forall_mem_cons.mpr ⟨lw_p17, List.forall_mem_cons.mpr ⟨lw_p18, List.forall_mem_cons.mpr ⟨lw_p19, List.forall_mem_cons.mpr ⟨lw_p20, List.forall_mem_cons.mpr ⟨lw_p21, List.forall_mem_cons.mpr ⟨lw_p22, List.forall_mem_cons.mpr ⟨lw_p23, List.forall_mem_cons.mpr ⟨lw_p24, List.forall_mem_cons.mpr ⟨lw_p25, List.forall_mem_cons.mpr ⟨lw_p26, List.forall_mem_cons.mpr ⟨lw_p27, List.forall_mem_cons.mpr ⟨lw_p28, List.forall_mem_cons.mpr ⟨lw_p29, List.forall_mem_cons.mpr ⟨lw_p30, List.forall_mem_cons.mpr ⟨lw_p31, fun _ h => absurd h List.not_mem_nil⟩⟩⟩⟩⟩⟩⟩⟩⟩⟩⟩⟩⟩⟩⟩⟩
theorem lw_p32 : lw_okq (⟨"PieceMoulds$RuleReader", "readNumber", "(I)I"⟩, 3) := ⟨⟨by decide +kernel, by decide +kernel⟩, List.mem_of_getElem? (i := 201) (by decide +kernel), List.mem_of_getElem? (i := 841) (by decide +kernel), List.mem_of_getElem? (i := 842) (by decide +kernel)⟩
theorem lw_p33 : lw_okq (⟨"PieceMoulds$Judge", "isOutside", "(III)Z"⟩, 3) := ⟨⟨by decide +kernel, by decide +kernel⟩, List.mem_of_getElem? (i := 217) (by decide +kernel), List.mem_of_getElem? (i := 889) (by decide +kernel), List.mem_of_getElem? (i := 890) (by decide +kernel)⟩
theorem lw_p34 : lw_okq (⟨"PieceMoulds$Vessels", "compareWithOthers", "(II)V"⟩, 8) := ⟨⟨by decide +kernel, by decide +kernel⟩, List.mem_of_getElem? (i := 233) (by decide +kernel), List.mem_of_getElem? (i := 974) (by decide +kernel), List.mem_of_getElem? (i := 975) (by decide +kernel)⟩
theorem lw_p35 : lw_okq (⟨"PieceMoulds$Vessels", "isLiker", "(II)Z"⟩, 8) := ⟨⟨by decide +kernel, by decide +kernel⟩, List.mem_of_getElem? (i := 233) (by decide +kernel), List.mem_of_getElem? (i := 981) (by decide +kernel), List.mem_of_getElem? (i := 982) (by decide +kernel)⟩
theorem lw_p36 : lw_okq (⟨"PieceMouldsModel", "told", "(I)I"⟩, 44) := ⟨⟨by decide +kernel, by decide +kernel⟩, List.mem_of_getElem? (i := 1004) (by decide +kernel), List.mem_of_getElem? (i := 1152) (by decide +kernel), List.mem_of_getElem? (i := 1153) (by decide +kernel)⟩
theorem lw_p37 : lw_okq (⟨"PieceMouldsModel", "forget", "()V"⟩, 44) := ⟨⟨by decide +kernel, by decide +kernel⟩, List.mem_of_getElem? (i := 1004) (by decide +kernel), List.mem_of_getElem? (i := 1156) (by decide +kernel), List.mem_of_getElem? (i := 1157) (by decide +kernel)⟩
theorem lw_p38 : lw_okq (⟨"PieceMouldsModel", "isCell", "(II)Z"⟩, 44) := ⟨⟨by decide +kernel, by decide +kernel⟩, List.mem_of_getElem? (i := 1004) (by decide +kernel), List.mem_of_getElem? (i := 1167) (by decide +kernel), List.mem_of_getElem? (i := 1168) (by decide +kernel)⟩
theorem lw_p39 : lw_okq (⟨"PieceMouldsModel", "pourMould", "()V"⟩, 44) := ⟨⟨by decide +kernel, by decide +kernel⟩, List.mem_of_getElem? (i := 1004) (by decide +kernel), List.mem_of_getElem? (i := 1175) (by decide +kernel), List.mem_of_getElem? (i := 1176) (by decide +kernel)⟩
theorem lw_p40 : lw_okq (⟨"PieceMouldsModel", "join", "(I)V"⟩, 44) := ⟨⟨by decide +kernel, by decide +kernel⟩, List.mem_of_getElem? (i := 1004) (by decide +kernel), List.mem_of_getElem? (i := 1179) (by decide +kernel), List.mem_of_getElem? (i := 1180) (by decide +kernel)⟩
theorem lw_p41 : lw_okq (⟨"PieceMouldsModel", "melt", "(II)Z"⟩, 44) := ⟨⟨by decide +kernel, by decide +kernel⟩, List.mem_of_getElem? (i := 1004) (by decide +kernel), List.mem_of_getElem? (i := 1183) (by decide +kernel), List.mem_of_getElem? (i := 1184) (by decide +kernel)⟩
theorem lw_p42 : lw_okq (⟨"PieceMouldsModel", "isHollow", "(I)Z"⟩, 44) := ⟨⟨by decide +kernel, by decide +kernel⟩, List.mem_of_getElem? (i := 1004) (by decide +kernel), List.mem_of_getElem? (i := 1187) (by decide +kernel), List.mem_of_getElem? (i := 1188) (by decide +kernel)⟩
theorem lw_p43 : lw_okq (⟨"PieceMouldsModel", "has", "(III)Z"⟩, 44) := ⟨⟨by decide +kernel, by decide +kernel⟩, List.mem_of_getElem? (i := 1004) (by decide +kernel), List.mem_of_getElem? (i := 1191) (by decide +kernel), List.mem_of_getElem? (i := 1192) (by decide +kernel)⟩
theorem lw_p44 : lw_okq (⟨"PieceMouldsModel", "isCast", "(II)Z"⟩, 44) := ⟨⟨by decide +kernel, by decide +kernel⟩, List.mem_of_getElem? (i := 1004) (by decide +kernel), List.mem_of_getElem? (i := 1199) (by decide +kernel), List.mem_of_getElem? (i := 1200) (by decide +kernel)⟩
theorem lw_p45 : lw_okq (⟨"PieceMouldsModel", "wallOf", "()I"⟩, 44) := ⟨⟨by decide +kernel, by decide +kernel⟩, List.mem_of_getElem? (i := 1004) (by decide +kernel), List.mem_of_getElem? (i := 1207) (by decide +kernel), List.mem_of_getElem? (i := 1208) (by decide +kernel)⟩
theorem lw_p46 : lw_okq (⟨"PieceMouldsModel", "wallAt", "(II)I"⟩, 44) := ⟨⟨by decide +kernel, by decide +kernel⟩, List.mem_of_getElem? (i := 1004) (by decide +kernel), List.mem_of_getElem? (i := 1211) (by decide +kernel), List.mem_of_getElem? (i := 1212) (by decide +kernel)⟩
theorem lw_p47 : lw_okq (⟨"PieceMouldsModel", "cellsOf", "(I)I"⟩, 44) := ⟨⟨by decide +kernel, by decide +kernel⟩, List.mem_of_getElem? (i := 1004) (by decide +kernel), List.mem_of_getElem? (i := 1220) (by decide +kernel), List.mem_of_getElem? (i := 1221) (by decide +kernel)⟩
def lw_privs_3 : List (MethodName × Nat) := [(⟨"PieceMoulds$RuleReader", "readNumber", "(I)I"⟩, 3), (⟨"PieceMoulds$Judge", "isOutside", "(III)Z"⟩, 3), (⟨"PieceMoulds$Vessels", "compareWithOthers", "(II)V"⟩, 8), (⟨"PieceMoulds$Vessels", "isLiker", "(II)Z"⟩, 8), (⟨"PieceMouldsModel", "told", "(I)I"⟩, 44), (⟨"PieceMouldsModel", "forget", "()V"⟩, 44), (⟨"PieceMouldsModel", "isCell", "(II)Z"⟩, 44), (⟨"PieceMouldsModel", "pourMould", "()V"⟩, 44), (⟨"PieceMouldsModel", "join", "(I)V"⟩, 44), (⟨"PieceMouldsModel", "melt", "(II)Z"⟩, 44), (⟨"PieceMouldsModel", "isHollow", "(I)Z"⟩, 44), (⟨"PieceMouldsModel", "has", "(III)Z"⟩, 44), (⟨"PieceMouldsModel", "isCast", "(II)Z"⟩, 44), (⟨"PieceMouldsModel", "wallOf", "()I"⟩, 44), (⟨"PieceMouldsModel", "wallAt", "(II)I"⟩, 44), (⟨"PieceMouldsModel", "cellsOf", "(I)I"⟩, 44)]
theorem lw_r3 : ∀ q ∈ lw_privs_3, lw_okq q := List.forall_mem_cons.mpr ⟨lw_p32, List.forall_mem_cons.mpr ⟨lw_p33, List.forall_mem_cons.mpr ⟨lw_p34, List.forall_mem_cons.mpr ⟨lw_p35, List.forall_mem_cons.mpr ⟨lw_p36, List.forall_mem_cons.mpr ⟨lw_p37, List.forall_mem_cons.mpr ⟨lw_p38, List.forall_mem_cons.mpr ⟨lw_p39, List.forall_mem_cons.mpr ⟨lw_p40, List.forall_mem_cons.mpr ⟨lw_p41, List.forall_mem_cons.mpr ⟨lw_p42, List.forall_mem_cons.mpr ⟨lw_p43, List.forall_mem_cons.mpr ⟨lw_p44, List.forall_mem_cons.mpr ⟨lw_p45, List.forall_mem_cons.mpr ⟨lw_p46, List.forall_mem_cons.mpr ⟨lw_p47, fun _ h => absurd h List.not_mem_nil⟩⟩⟩⟩⟩⟩⟩⟩⟩⟩⟩⟩⟩⟩⟩⟩
theorem lw_p48 : lw_okq (⟨"PieceMouldsModel", "drawOff", "()V"⟩, 44) := ⟨⟨by decide +kernel, by decide +kernel⟩, List.mem_of_getElem? (i := 1004) (by decide +kernel), List.mem_of_getElem? (i := 1228) (by decide +kernel), List.mem_of_getElem? (i := 1229) (by decide +kernel)⟩
theorem lw_p49 : lw_okq (⟨"PieceMouldsModel", "canGo", "(II)Z"⟩, 44) := ⟨⟨by decide +kernel, by decide +kernel⟩, List.mem_of_getElem? (i := 1004) (by decide +kernel), List.mem_of_getElem? (i := 1232) (by decide +kernel), List.mem_of_getElem? (i := 1233) (by decide +kernel)⟩
theorem lw_p50 : lw_okq (⟨"PieceMouldsModel", "priceOf", "(IIII)I"⟩, 44) := ⟨⟨by decide +kernel, by decide +kernel⟩, List.mem_of_getElem? (i := 1004) (by decide +kernel), List.mem_of_getElem? (i := 1246) (by decide +kernel), List.mem_of_getElem? (i := 1247) (by decide +kernel)⟩
theorem lw_p51 : lw_okq (⟨"PieceMouldsModel", "four", "(I)V"⟩, 44) := ⟨⟨by decide +kernel, by decide +kernel⟩, List.mem_of_getElem? (i := 1004) (by decide +kernel), List.mem_of_getElem? (i := 1266) (by decide +kernel), List.mem_of_getElem? (i := 1267) (by decide +kernel)⟩
theorem lw_p52 : lw_okq (⟨"PieceMouldsModel", "next", "()V"⟩, 44) := ⟨⟨by decide +kernel, by decide +kernel⟩, List.mem_of_getElem? (i := 1004) (by decide +kernel), List.mem_of_getElem? (i := 1278) (by decide +kernel), List.mem_of_getElem? (i := 1279) (by decide +kernel)⟩
theorem lw_p53 : lw_okq (⟨"PieceMouldsModel", "readRule", "()V"⟩, 44) := ⟨⟨by decide +kernel, by decide +kernel⟩, List.mem_of_getElem? (i := 1004) (by decide +kernel), List.mem_of_getElem? (i := 1292) (by decide +kernel), List.mem_of_getElem? (i := 1293) (by decide +kernel)⟩
theorem lw_p54 : lw_okq (⟨"PieceMouldsModel", "sortAt", "()I"⟩, 44) := ⟨⟨by decide +kernel, by decide +kernel⟩, List.mem_of_getElem? (i := 1004) (by decide +kernel), List.mem_of_getElem? (i := 1296) (by decide +kernel), List.mem_of_getElem? (i := 1297) (by decide +kernel)⟩
theorem lw_p55 : lw_okq (⟨"PieceMouldsModel", "isWord", "(IIIIIII)Z"⟩, 44) := ⟨⟨by decide +kernel, by decide +kernel⟩, List.mem_of_getElem? (i := 1004) (by decide +kernel), List.mem_of_getElem? (i := 1300) (by decide +kernel), List.mem_of_getElem? (i := 1301) (by decide +kernel)⟩
theorem lw_p56 : lw_okq (⟨"PieceMouldsModel", "must", "(Z)V"⟩, 44) := ⟨⟨by decide +kernel, by decide +kernel⟩, List.mem_of_getElem? (i := 1004) (by decide +kernel), List.mem_of_getElem? (i := 1304) (by decide +kernel), List.mem_of_getElem? (i := 1305) (by decide +kernel)⟩
theorem lw_p57 : lw_okq (⟨"PieceMouldsModel", "number", "(J)I"⟩, 44) := ⟨⟨by decide +kernel, by decide +kernel⟩, List.mem_of_getElem? (i := 1004) (by decide +kernel), List.mem_of_getElem? (i := 1308) (by decide +kernel), List.mem_of_getElem? (i := 1309) (by decide +kernel)⟩
theorem lw_p58 : lw_okq (⟨"PieceMouldsModel", "isBroken", "(I)Z"⟩, 44) := ⟨⟨by decide +kernel, by decide +kernel⟩, List.mem_of_getElem? (i := 1004) (by decide +kernel), List.mem_of_getElem? (i := 1321) (by decide +kernel), List.mem_of_getElem? (i := 1322) (by decide +kernel)⟩
theorem lw_p59 : lw_okq (⟨"PieceMouldsModel", "isVessel", "(I)Z"⟩, 44) := ⟨⟨by decide +kernel, by decide +kernel⟩, List.mem_of_getElem? (i := 1004) (by decide +kernel), List.mem_of_getElem? (i := 1334) (by decide +kernel), List.mem_of_getElem? (i := 1335) (by decide +kernel)⟩
theorem lw_p60 : lw_okq (⟨"PieceMouldsModel", "likeness", "(II)I"⟩, 44) := ⟨⟨by decide +kernel, by decide +kernel⟩, List.mem_of_getElem? (i := 1004) (by decide +kernel), List.mem_of_getElem? (i := 1338) (by decide +kernel), List.mem_of_getElem? (i := 1339) (by decide +kernel)⟩
theorem lw_p61 : lw_okq (⟨"PieceMouldsModel", "shopOf", "(II)I"⟩, 44) := ⟨⟨by decide +kernel, by decide +kernel⟩, List.mem_of_getElem? (i := 1004) (by decide +kernel), List.mem_of_getElem? (i := 1352) (by decide +kernel), List.mem_of_getElem? (i := 1353) (by decide +kernel)⟩
def lw_privs_4 : List (MethodName × Nat) := [(⟨"PieceMouldsModel", "drawOff", "()V"⟩, 44), (⟨"PieceMouldsModel", "canGo", "(II)Z"⟩, 44), (⟨"PieceMouldsModel", "priceOf", "(IIII)I"⟩, 44), (⟨"PieceMouldsModel", "four", "(I)V"⟩, 44), (⟨"PieceMouldsModel", "next", "()V"⟩, 44), (⟨"PieceMouldsModel", "readRule", "()V"⟩, 44), (⟨"PieceMouldsModel", "sortAt", "()I"⟩, 44), (⟨"PieceMouldsModel", "isWord", "(IIIIIII)Z"⟩, 44), (⟨"PieceMouldsModel", "must", "(Z)V"⟩, 44), (⟨"PieceMouldsModel", "number", "(J)I"⟩, 44), (⟨"PieceMouldsModel", "isBroken", "(I)Z"⟩, 44), (⟨"PieceMouldsModel", "isVessel", "(I)Z"⟩, 44), (⟨"PieceMouldsModel", "likeness", "(II)I"⟩, 44), (⟨"PieceMouldsModel", "shopOf", "(II)I"⟩, 44)]
theorem lw_r4 : ∀ q ∈ lw_privs_4, lw_okq q := List.forall_mem_cons.mpr ⟨lw_p48, List.forall_mem_cons.mpr ⟨lw_p49, List.forall_mem_cons.mpr ⟨lw_p50, List.forall_mem_cons.mpr ⟨lw_p51, List.forall_mem_cons.mpr ⟨lw_p52, List.forall_mem_cons.mpr ⟨lw_p53, List.forall_mem_cons.mpr ⟨lw_p54, List.forall_mem_cons.mpr ⟨lw_p55, List.forall_mem_cons.mpr ⟨lw_p56, List.forall_mem_cons.mpr ⟨lw_p57, List.forall_mem_cons.mpr ⟨lw_p58, List.forall_mem_cons.mpr ⟨lw_p59, List.forall_mem_cons.mpr ⟨lw_p60, List.forall_mem_cons.mpr ⟨lw_p61, fun _ h => absurd h List.not_mem_nil⟩⟩⟩⟩⟩⟩⟩⟩⟩⟩⟩⟩⟩⟩
def lw_privs : List (MethodName × Nat) := lw_privs_1 ++ (lw_privs_2 ++ (lw_privs_3 ++ (lw_privs_4)))
def lw_tbl : List Cond := k2_sels lw_privs ++ tables_1
theorem lw_privs_ok : ∀ q ∈ lw_privs, lw_okq q := by
  show ∀ q ∈ lw_privs_1 ++ (lw_privs_2 ++ (lw_privs_3 ++ (lw_privs_4))), lw_okq q
  exact List.forall_mem_append.mpr ⟨lw_r1, List.forall_mem_append.mpr ⟨lw_r2, List.forall_mem_append.mpr ⟨lw_r3, lw_r4⟩⟩⟩
end
section
def TT : List Cond := lw_tbl.filter goodWord
theorem TT_in {w : Cond} (i : Nat) (h : lw_tbl[i]? = some w) (hg : goodWord w = true) : w ∈ TT := List.mem_filter.mpr ⟨List.mem_of_getElem? h, hg⟩
theorem TT_good {w : Cond} (h : w ∈ TT) : goodWord w = true := (List.mem_filter.mp h).2
theorem TT_tbl {w : Cond} (h : w ∈ TT) : w ∈ lw_tbl := (List.mem_filter.mp h).1
def RX0 : String := "PieceMoulds$Batch"
def RX1 : String := "PieceMoulds$Casting"
def RX2 : String := "PieceMoulds$Grid"
def RX3 : String := "PieceMoulds$Judge"
def RX4 : String := "PieceMoulds$Lots"
def RX5 : String := "PieceMoulds$Mixer"
def RX6 : String := "PieceMoulds$RuleBook"
def RX7 : String := "PieceMoulds$RuleReader"
def RX8 : String := "PieceMoulds$Stripping"
def RX9 : String := "PieceMoulds$Tape"
def RX10 : String := "PieceMoulds$Vessels"
def RX11 : String := "PieceMoulds"
def RX12 : String := "PieceMouldsModel"
def RJ6 : String := "java/lang/Integer"
def RJ9 : String := "java/lang/Math"
def RJ0 : String := "java/lang/String"
def RJ1 : String := "java/lang/StringLatin1"
def RJ2 : String := "java/lang/StringUTF16"
def RJ10 : String := "java/lang/System"
def RJ7 : String := "java/util/Arrays"
def RJ3 : String := "jdk/internal/util/Preconditions"
def RL : String := "PieceMouldsLaw"
def TX0 : u_T := fun k => match k with
  | 0 => ("PieceMoulds$Batch", "lots", "LPieceMoulds$Lots;", true)
  | _ => ("PieceMoulds$Batch", "units", "[I", true)
def tyX0 : Nat → FieldType := fun k => match k with
  | 0 => .object "PieceMoulds$Lots"
  | _ => .array .int
theorem nmX0 : ∀ a, a < 2 → ∀ b, b < 2 → a ≠ b → (TX0 a).2.1 ≠ (TX0 b).2.1 := by decide +kernel
theorem tyX0_ok : ∀ k, k < 2 → parseFieldDescriptor (TX0 k).2.2.1 = some (tyX0 k) := by decide +kernel
theorem inX0 : ∀ w ∈ u_ws RX0 TX0 2, w ∈ TT := by decide +kernel
def TX1 : u_T := fun k => match k with
  | 0 => ("PieceMoulds$Casting", "grid", "LPieceMoulds$Grid;", true)
  | 1 => ("PieceMoulds$Casting", "fates", "[I", true)
  | 2 => ("PieceMoulds$Casting", "reached", "[Z", true)
  | 3 => ("PieceMoulds$Casting", "queue", "[I", true)
  | 4 => ("PieceMoulds$Casting", "queued", "I", false)
  | 5 => ("PieceMoulds$Casting", "spread", "I", false)
  | _ => ("PieceMoulds$Casting", "edition", "I", false)
def tyX1 : Nat → FieldType := fun k => match k with
  | 0 => .object "PieceMoulds$Grid"
  | 1 => .array .int
  | 2 => .array .boolean
  | 3 => .array .int
  | 4 => .int
  | 5 => .int
  | _ => .int
theorem nmX1 : ∀ a, a < 7 → ∀ b, b < 7 → a ≠ b → (TX1 a).2.1 ≠ (TX1 b).2.1 := by decide +kernel
theorem tyX1_ok : ∀ k, k < 7 → parseFieldDescriptor (TX1 k).2.2.1 = some (tyX1 k) := by decide +kernel
theorem inX1 : ∀ w ∈ u_ws RX1 TX1 7, w ∈ TT := by decide +kernel
def TX2 : u_T := fun k => match k with
  | 0 => ("PieceMoulds$Grid", "sorts", "[I", true)
  | 1 => ("PieceMoulds$Grid", "width", "I", false)
  | 2 => ("PieceMoulds$Grid", "height", "I", false)
  | _ => ("PieceMoulds$Grid", "edition", "I", false)
def tyX2 : Nat → FieldType := fun k => match k with
  | 0 => .array .int
  | 1 => .int
  | 2 => .int
  | _ => .int
theorem nmX2 : ∀ a, a < 4 → ∀ b, b < 4 → a ≠ b → (TX2 a).2.1 ≠ (TX2 b).2.1 := by decide +kernel
theorem tyX2_ok : ∀ k, k < 4 → parseFieldDescriptor (TX2 k).2.2.1 = some (tyX2 k) := by decide +kernel
theorem inX2 : ∀ w ∈ u_ws RX2 TX2 4, w ∈ TT := by decide +kernel
def TX3 : u_T := fun k => match k with
  | 0 => ("PieceMoulds$Judge", "casting", "LPieceMoulds$Casting;", true)
  | 1 => ("PieceMoulds$Judge", "stripping", "LPieceMoulds$Stripping;", true)
  | _ => ("PieceMoulds$Judge", "batch", "LPieceMoulds$Batch;", true)
def tyX3 : Nat → FieldType := fun k => match k with
  | 0 => .object "PieceMoulds$Casting"
  | 1 => .object "PieceMoulds$Stripping"
  | _ => .object "PieceMoulds$Batch"
theorem nmX3 : ∀ a, a < 3 → ∀ b, b < 3 → a ≠ b → (TX3 a).2.1 ≠ (TX3 b).2.1 := by decide +kernel
theorem tyX3_ok : ∀ k, k < 3 → parseFieldDescriptor (TX3 k).2.2.1 = some (tyX3 k) := by decide +kernel
theorem inX3 : ∀ w ∈ u_ws RX3 TX3 3, w ∈ TT := by decide +kernel
def TX4 : u_T := fun k => match k with
  | 0 => ("PieceMoulds$Lots", "tins", "[I", true)
  | 1 => ("PieceMoulds$Lots", "leads", "[I", true)
  | 2 => ("PieceMoulds$Lots", "prices", "[I", true)
  | 3 => ("PieceMoulds$Lots", "units", "[I", true)
  | _ => ("PieceMoulds$Lots", "length", "I", false)
def tyX4 : Nat → FieldType := fun k => match k with
  | 0 => .array .int
  | 1 => .array .int
  | 2 => .array .int
  | 3 => .array .int
  | _ => .int
theorem nmX4 : ∀ a, a < 5 → ∀ b, b < 5 → a ≠ b → (TX4 a).2.1 ≠ (TX4 b).2.1 := by decide +kernel
theorem tyX4_ok : ∀ k, k < 5 → parseFieldDescriptor (TX4 k).2.2.1 = some (tyX4 k) := by decide +kernel
theorem inX4 : ∀ w ∈ u_ws RX4 TX4 5, w ∈ TT := by decide +kernel
def TX5 : u_T := fun k => match k with
  | 0 => ("PieceMoulds$Mixer", "lots", "LPieceMoulds$Lots;", true)
  | 1 => ("PieceMoulds$Mixer", "weights", "[[I", true)
  | 2 => ("PieceMoulds$Mixer", "leastOf", "[[I", true)
  | 3 => ("PieceMoulds$Mixer", "sums", "[[I", true)
  | 4 => ("PieceMoulds$Mixer", "ceilings", "[I", true)
  | 5 => ("PieceMoulds$Mixer", "behind", "[I", true)
  | 6 => ("PieceMoulds$Mixer", "row", "[I", true)
  | 7 => ("PieceMoulds$Mixer", "bestRow", "[I", true)
  | 8 => ("PieceMoulds$Mixer", "last", "I", false)
  | 9 => ("PieceMoulds$Mixer", "low", "I", false)
  | 10 => ("PieceMoulds$Mixer", "high", "I", false)
  | _ => ("PieceMoulds$Mixer", "isFound", "Z", false)
def tyX5 : Nat → FieldType := fun k => match k with
  | 0 => .object "PieceMoulds$Lots"
  | 1 => .array (.array .int)
  | 2 => .array (.array .int)
  | 3 => .array (.array .int)
  | 4 => .array .int
  | 5 => .array .int
  | 6 => .array .int
  | 7 => .array .int
  | 8 => .int
  | 9 => .int
  | 10 => .int
  | _ => .boolean
theorem nmX5 : ∀ a, a < 12 → ∀ b, b < 12 → a ≠ b → (TX5 a).2.1 ≠ (TX5 b).2.1 := by decide +kernel
theorem tyX5_ok : ∀ k, k < 12 → parseFieldDescriptor (TX5 k).2.2.1 = some (tyX5 k) := by decide +kernel
theorem inX5 : ∀ w ∈ u_ws RX5 TX5 12, w ∈ TT := by decide +kernel
def TX6 : u_T := fun k => match k with
  | 0 => ("PieceMoulds$RuleBook", "kinds", "[I", true)
  | 1 => ("PieceMoulds$RuleBook", "firsts", "[I", true)
  | 2 => ("PieceMoulds$RuleBook", "seconds", "[I", true)
  | _ => ("PieceMoulds$RuleBook", "length", "I", false)
def tyX6 : Nat → FieldType := fun k => match k with
  | 0 => .array .int
  | 1 => .array .int
  | 2 => .array .int
  | _ => .int
theorem nmX6 : ∀ a, a < 4 → ∀ b, b < 4 → a ≠ b → (TX6 a).2.1 ≠ (TX6 b).2.1 := by decide +kernel
theorem tyX6_ok : ∀ k, k < 4 → parseFieldDescriptor (TX6 k).2.2.1 = some (tyX6 k) := by decide +kernel
theorem inX6 : ∀ w ∈ u_ws RX6 TX6 4, w ∈ TT := by decide +kernel
def TX7 : u_T := fun k => match k with
  | 0 => ("PieceMoulds$RuleReader", "tape", "LPieceMoulds$Tape;", true)
  | 1 => ("PieceMoulds$RuleReader", "start", "I", false)
  | _ => ("PieceMoulds$RuleReader", "stop", "I", false)
def tyX7 : Nat → FieldType := fun k => match k with
  | 0 => .object "PieceMoulds$Tape"
  | 1 => .int
  | _ => .int
theorem nmX7 : ∀ a, a < 3 → ∀ b, b < 3 → a ≠ b → (TX7 a).2.1 ≠ (TX7 b).2.1 := by decide +kernel
theorem tyX7_ok : ∀ k, k < 3 → parseFieldDescriptor (TX7 k).2.2.1 = some (tyX7 k) := by decide +kernel
theorem inX7 : ∀ w ∈ u_ws RX7 TX7 3, w ∈ TT := by decide +kernel
def TX8 : u_T := fun k => match k with
  | 0 => ("PieceMoulds$Stripping", "grid", "LPieceMoulds$Grid;", true)
  | 1 => ("PieceMoulds$Stripping", "inTheWay", "[I", true)
  | 2 => ("PieceMoulds$Stripping", "order", "[I", true)
  | 3 => ("PieceMoulds$Stripping", "ways", "[I", true)
  | 4 => ("PieceMoulds$Stripping", "there", "I", false)
  | 5 => ("PieceMoulds$Stripping", "gone", "I", false)
  | _ => ("PieceMoulds$Stripping", "edition", "I", false)
def tyX8 : Nat → FieldType := fun k => match k with
  | 0 => .object "PieceMoulds$Grid"
  | 1 => .array .int
  | 2 => .array .int
  | 3 => .array .int
  | 4 => .int
  | 5 => .int
  | _ => .int
theorem nmX8 : ∀ a, a < 7 → ∀ b, b < 7 → a ≠ b → (TX8 a).2.1 ≠ (TX8 b).2.1 := by decide +kernel
theorem tyX8_ok : ∀ k, k < 7 → parseFieldDescriptor (TX8 k).2.2.1 = some (tyX8 k) := by decide +kernel
theorem inX8 : ∀ w ∈ u_ws RX8 TX8 7, w ∈ TT := by decide +kernel
def TX9 : u_T := fun k => match k with
  | 0 => ("PieceMoulds$Tape", "bytes", "[I", true)
  | _ => ("PieceMoulds$Tape", "length", "I", false)
def tyX9 : Nat → FieldType := fun k => match k with
  | 0 => .array .int
  | _ => .int
theorem nmX9 : ∀ a, a < 2 → ∀ b, b < 2 → a ≠ b → (TX9 a).2.1 ≠ (TX9 b).2.1 := by decide +kernel
theorem tyX9_ok : ∀ k, k < 2 → parseFieldDescriptor (TX9 k).2.2.1 = some (tyX9 k) := by decide +kernel
theorem inX9 : ∀ w ∈ u_ws RX9 TX9 2, w ∈ TT := by decide +kernel
def TX10 : u_T := fun k => match k with
  | 0 => ("PieceMoulds$Vessels", "marks", "[I", true)
  | 1 => ("PieceMoulds$Vessels", "toldVessels", "[I", true)
  | 2 => ("PieceMoulds$Vessels", "toldWorkshops", "[I", true)
  | 3 => ("PieceMoulds$Vessels", "toldYears", "[I", true)
  | 4 => ("PieceMoulds$Vessels", "likenesses", "[I", true)
  | 5 => ("PieceMoulds$Vessels", "others", "[I", true)
  | 6 => ("PieceMoulds$Vessels", "length", "I", false)
  | _ => ("PieceMoulds$Vessels", "told", "I", false)
def tyX10 : Nat → FieldType := fun k => match k with
  | 0 => .array .int
  | 1 => .array .int
  | 2 => .array .int
  | 3 => .array .int
  | 4 => .array .int
  | 5 => .array .int
  | 6 => .int
  | _ => .int
theorem nmX10 : ∀ a, a < 8 → ∀ b, b < 8 → a ≠ b → (TX10 a).2.1 ≠ (TX10 b).2.1 := by decide +kernel
theorem tyX10_ok : ∀ k, k < 8 → parseFieldDescriptor (TX10 k).2.2.1 = some (tyX10 k) := by decide +kernel
theorem inX10 : ∀ w ∈ u_ws RX10 TX10 8, w ∈ TT := by decide +kernel
def TX11 : u_T := fun k => match k with
  | 0 => ("PieceMoulds", "grid", "LPieceMoulds$Grid;", true)
  | 1 => ("PieceMoulds", "casting", "LPieceMoulds$Casting;", true)
  | 2 => ("PieceMoulds", "stripping", "LPieceMoulds$Stripping;", true)
  | 3 => ("PieceMoulds", "lots", "LPieceMoulds$Lots;", true)
  | 4 => ("PieceMoulds", "mixer", "LPieceMoulds$Mixer;", true)
  | 5 => ("PieceMoulds", "batch", "LPieceMoulds$Batch;", true)
  | 6 => ("PieceMoulds", "tape", "LPieceMoulds$Tape;", true)
  | 7 => ("PieceMoulds", "reader", "LPieceMoulds$RuleReader;", true)
  | 8 => ("PieceMoulds", "judge", "LPieceMoulds$Judge;", true)
  | 9 => ("PieceMoulds", "vessels", "LPieceMoulds$Vessels;", true)
  | 10 => ("PieceMoulds", "kept", "LPieceMoulds$RuleBook;", false)
  | 11 => ("PieceMoulds", "draft", "LPieceMoulds$RuleBook;", false)
  | 12 => ("PieceMoulds", "faultPlace", "I", false)
  | _ => ("PieceMoulds", "refusal", "I", false)
def tyX11 : Nat → FieldType := fun k => match k with
  | 0 => .object "PieceMoulds$Grid"
  | 1 => .object "PieceMoulds$Casting"
  | 2 => .object "PieceMoulds$Stripping"
  | 3 => .object "PieceMoulds$Lots"
  | 4 => .object "PieceMoulds$Mixer"
  | 5 => .object "PieceMoulds$Batch"
  | 6 => .object "PieceMoulds$Tape"
  | 7 => .object "PieceMoulds$RuleReader"
  | 8 => .object "PieceMoulds$Judge"
  | 9 => .object "PieceMoulds$Vessels"
  | 10 => .object "PieceMoulds$RuleBook"
  | 11 => .object "PieceMoulds$RuleBook"
  | 12 => .int
  | _ => .int
theorem nmX11 : ∀ a, a < 14 → ∀ b, b < 14 → a ≠ b → (TX11 a).2.1 ≠ (TX11 b).2.1 := by decide +kernel
theorem tyX11_ok : ∀ k, k < 14 → parseFieldDescriptor (TX11 k).2.2.1 = some (tyX11 k) := by decide +kernel
theorem inX11 : ∀ w ∈ u_ws RX11 TX11 14, w ∈ TT := by decide +kernel
def TX12 : u_T := fun k => match k with
  | 0 => ("PieceMouldsModel", "thrown", "I", false)
  | 1 => ("PieceMouldsModel", "status", "I", false)
  | 2 => ("PieceMouldsModel", "wide", "I", false)
  | 3 => ("PieceMouldsModel", "high", "I", false)
  | 4 => ("PieceMouldsModel", "sorts", "[I", true)
  | 5 => ("PieceMouldsModel", "repaired", "[Z", true)
  | 6 => ("PieceMouldsModel", "repairs", "I", false)
  | 7 => ("PieceMouldsModel", "became", "[I", true)
  | 8 => ("PieceMouldsModel", "joined", "[I", true)
  | 9 => ("PieceMouldsModel", "isThere", "[Z", true)
  | 10 => ("PieceMouldsModel", "isOff", "[Z", true)
  | 11 => ("PieceMouldsModel", "offPiece", "[I", true)
  | 12 => ("PieceMouldsModel", "offWay", "[I", true)
  | 13 => ("PieceMouldsModel", "offMany", "I", false)
  | 14 => ("PieceMouldsModel", "pieces", "I", false)
  | 15 => ("PieceMouldsModel", "lots", "I", false)
  | 16 => ("PieceMouldsModel", "tins", "[I", true)
  | 17 => ("PieceMouldsModel", "leads", "[I", true)
  | 18 => ("PieceMouldsModel", "costs", "[I", true)
  | 19 => ("PieceMouldsModel", "units", "[I", true)
  | 20 => ("PieceMouldsModel", "kept", "[I", true)
  | 21 => ("PieceMouldsModel", "keptUnits", "I", false)
  | 22 => ("PieceMouldsModel", "row", "[I", true)
  | 23 => ("PieceMouldsModel", "best", "[I", true)
  | 24 => ("PieceMouldsModel", "ruleMany", "I", false)
  | 25 => ("PieceMouldsModel", "rSort", "[I", true)
  | 26 => ("PieceMouldsModel", "rA", "[I", true)
  | 27 => ("PieceMouldsModel", "rB", "[I", true)
  | 28 => ("PieceMouldsModel", "nRule", "[I", true)
  | 29 => ("PieceMouldsModel", "nMany", "I", false)
  | 30 => ("PieceMouldsModel", "tape", "[I", true)
  | 31 => ("PieceMouldsModel", "taped", "I", false)
  | 32 => ("PieceMouldsModel", "from", "I", false)
  | 33 => ("PieceMouldsModel", "to", "I", false)
  | 34 => ("PieceMouldsModel", "sort", "I", false)
  | 35 => ("PieceMouldsModel", "worth", "J", false)
  | 36 => ("PieceMouldsModel", "fault", "I", false)
  | 37 => ("PieceMouldsModel", "bad", "Z", false)
  | 38 => ("PieceMouldsModel", "vessels", "I", false)
  | 39 => ("PieceMouldsModel", "marks", "[I", true)
  | 40 => ("PieceMouldsModel", "tolds", "I", false)
  | 41 => ("PieceMouldsModel", "tVessel", "[I", true)
  | 42 => ("PieceMouldsModel", "tShop", "[I", true)
  | _ => ("PieceMouldsModel", "tKnown", "[I", true)
def tyX12 : Nat → FieldType := fun k => match k with
  | 0 => .int
  | 1 => .int
  | 2 => .int
  | 3 => .int
  | 4 => .array .int
  | 5 => .array .boolean
  | 6 => .int
  | 7 => .array .int
  | 8 => .array .int
  | 9 => .array .boolean
  | 10 => .array .boolean
  | 11 => .array .int
  | 12 => .array .int
  | 13 => .int
  | 14 => .int
  | 15 => .int
  | 16 => .array .int
  | 17 => .array .int
  | 18 => .array .int
  | 19 => .array .int
  | 20 => .array .int
  | 21 => .int
  | 22 => .array .int
  | 23 => .array .int
  | 24 => .int
  | 25 => .array .int
  | 26 => .array .int
  | 27 => .array .int
  | 28 => .array .int
  | 29 => .int
  | 30 => .array .int
  | 31 => .int
  | 32 => .int
  | 33 => .int
  | 34 => .int
  | 35 => .long
  | 36 => .int
  | 37 => .boolean
  | 38 => .int
  | 39 => .array .int
  | 40 => .int
  | 41 => .array .int
  | 42 => .array .int
  | _ => .array .int
theorem nmX12 : ∀ a, a < 44 → ∀ b, b < 44 → a ≠ b → (TX12 a).2.1 ≠ (TX12 b).2.1 := by decide +kernel
theorem tyX12_ok : ∀ k, k < 44 → parseFieldDescriptor (TX12 k).2.2.1 = some (tyX12 k) := by decide +kernel
theorem inX12 : ∀ w ∈ u_ws RX12 TX12 44, w ∈ TT := by decide +kernel
abbrev cX0_init : ByteArray := prog_2_method_1_code
def yX0_init : MethodName := ⟨RX0, "<init>", "(LPieceMoulds$Lots;)V"⟩
abbrev cX0_clear : ByteArray := prog_2_method_2_code
def yX0_clear : MethodName := ⟨RX0, "clear", "()V"⟩
abbrev cX0_put : ByteArray := prog_2_method_3_code
def yX0_put : MethodName := ⟨RX0, "put", "(II)V"⟩
abbrev cX0_isThere : ByteArray := prog_2_method_4_code
def yX0_isThere : MethodName := ⟨RX0, "isThere", "()Z"⟩
abbrev cX0_unitsOf : ByteArray := prog_2_method_5_code
def yX0_unitsOf : MethodName := ⟨RX0, "unitsOf", "(I)I"⟩
abbrev cX0_total : ByteArray := prog_2_method_6_code
def yX0_total : MethodName := ⟨RX0, "total", "()I"⟩
abbrev cX0_tin : ByteArray := prog_2_method_7_code
def yX0_tin : MethodName := ⟨RX0, "tin", "()I"⟩
abbrev cX0_lead : ByteArray := prog_2_method_8_code
def yX0_lead : MethodName := ⟨RX0, "lead", "()I"⟩
abbrev cX0_copper : ByteArray := prog_2_method_9_code
def yX0_copper : MethodName := ⟨RX0, "copper", "()I"⟩
abbrev cX0_takeFromLots : ByteArray := prog_2_method_10_code
def yX0_takeFromLots : MethodName := ⟨RX0, "takeFromLots", "()I"⟩
abbrev cX1_init : ByteArray := prog_3_method_1_code
def yX1_init : MethodName := ⟨RX1, "<init>", "(LPieceMoulds$Grid;)V"⟩
abbrev cX1_refresh : ByteArray := prog_3_method_2_code
def yX1_refresh : MethodName := ⟨RX1, "refresh", "()V"⟩
abbrev cX1_fateAt : ByteArray := prog_3_method_3_code
def yX1_fateAt : MethodName := ⟨RX1, "fateAt", "(II)I"⟩
abbrev cX1_howMany : ByteArray := prog_3_method_4_code
def yX1_howMany : MethodName := ⟨RX1, "howMany", "(I)I"⟩
abbrev cX1_howManySpacers : ByteArray := prog_3_method_5_code
def yX1_howManySpacers : MethodName := ⟨RX1, "howManySpacers", "()I"⟩
abbrev cX1_howManyCores : ByteArray := prog_3_method_6_code
def yX1_howManyCores : MethodName := ⟨RX1, "howManyCores", "()I"⟩
abbrev cX1_canMend : ByteArray := prog_3_method_7_code
def yX1_canMend : MethodName := ⟨RX1, "canMend", "(II)Z"⟩
abbrev cX1_mend : ByteArray := prog_3_method_8_code
def yX1_mend : MethodName := ⟨RX1, "mend", "(II)I"⟩
abbrev cX1_wallAt : ByteArray := prog_3_method_9_code
def yX1_wallAt : MethodName := ⟨RX1, "wallAt", "(II)I"⟩
abbrev cX1_leastWall : ByteArray := prog_3_method_10_code
def yX1_leastWall : MethodName := ⟨RX1, "leastWall", "()I"⟩
abbrev cX1_isMetal : ByteArray := prog_3_method_11_code
def yX1_isMetal : MethodName := ⟨RX1, "isMetal", "(II)Z"⟩
abbrev cX1_stretch : ByteArray := prog_3_method_12_code
def yX1_stretch : MethodName := ⟨RX1, "stretch", "(III)I"⟩
abbrev cX1_letMetalCome : ByteArray := prog_3_method_13_code
def yX1_letMetalCome : MethodName := ⟨RX1, "letMetalCome", "()V"⟩
abbrev cX1_fateWithAir : ByteArray := prog_3_method_14_code
def yX1_fateWithAir : MethodName := ⟨RX1, "fateWithAir", "(II)I"⟩
abbrev cX1_letAirOut : ByteArray := prog_3_method_15_code
def yX1_letAirOut : MethodName := ⟨RX1, "letAirOut", "()V"⟩
abbrev cX1_castRow : ByteArray := prog_3_method_16_code
def yX1_castRow : MethodName := ⟨RX1, "castRow", "(I)V"⟩
abbrev cX1_startFlood : ByteArray := prog_3_method_17_code
def yX1_startFlood : MethodName := ⟨RX1, "startFlood", "()V"⟩
abbrev cX1_isReached : ByteArray := prog_3_method_18_code
def yX1_isReached : MethodName := ⟨RX1, "isReached", "(II)Z"⟩
abbrev cX1_reach : ByteArray := prog_3_method_19_code
def yX1_reach : MethodName := ⟨RX1, "reach", "(II)V"⟩
abbrev cX1_flood : ByteArray := prog_3_method_20_code
def yX1_flood : MethodName := ⟨RX1, "flood", "(I)V"⟩
abbrev cX2_init : ByteArray := prog_4_method_1_code
def yX2_init : MethodName := ⟨RX2, "<init>", "()V"⟩
abbrev cX2_width : ByteArray := prog_4_method_2_code
def yX2_width : MethodName := ⟨RX2, "width", "()I"⟩
abbrev cX2_height : ByteArray := prog_4_method_3_code
def yX2_height : MethodName := ⟨RX2, "height", "()I"⟩
abbrev cX2_edition : ByteArray := prog_4_method_4_code
def yX2_edition : MethodName := ⟨RX2, "edition", "()I"⟩
abbrev cX2_has : ByteArray := prog_4_method_5_code
def yX2_has : MethodName := ⟨RX2, "has", "(II)Z"⟩
abbrev cX2_sortAt : ByteArray := prog_4_method_6_code
def yX2_sortAt : MethodName := ⟨RX2, "sortAt", "(II)I"⟩
abbrev cX2_isHollow : ByteArray := prog_4_method_7_code
def yX2_isHollow : MethodName := ⟨RX2, "isHollow", "(II)Z"⟩
abbrev cX2_resize : ByteArray := prog_4_method_8_code
def yX2_resize : MethodName := ⟨RX2, "resize", "(II)V"⟩
abbrev cX2_fill : ByteArray := prog_4_method_9_code
def yX2_fill : MethodName := ⟨RX2, "fill", "(IIIII)I"⟩
abbrev cX2_howMany : ByteArray := prog_4_method_10_code
def yX2_howMany : MethodName := ⟨RX2, "howMany", "(II)I"⟩
abbrev cX3_init : ByteArray := prog_5_method_1_code
def yX3_init : MethodName := ⟨RX3, "<init>", "(LPieceMoulds$Casting;LPieceMoulds$Stripping;LPieceMoulds$Batch;)V"⟩
abbrev cX3_isBroken : ByteArray := prog_5_method_2_code
def yX3_isBroken : MethodName := ⟨RX3, "isBroken", "(III)Z"⟩
abbrev cX3_isOutside : ByteArray := prog_5_method_3_code
def yX3_isOutside : MethodName := ⟨RX3, "isOutside", "(III)Z"⟩
abbrev cX4_init : ByteArray := prog_6_method_1_code
def yX4_init : MethodName := ⟨RX4, "<init>", "()V"⟩
abbrev cX4_length : ByteArray := prog_6_method_2_code
def yX4_length : MethodName := ⟨RX4, "length", "()I"⟩
abbrev cX4_isFull : ByteArray := prog_6_method_3_code
def yX4_isFull : MethodName := ⟨RX4, "isFull", "()Z"⟩
abbrev cX4_has : ByteArray := prog_6_method_4_code
def yX4_has : MethodName := ⟨RX4, "has", "(I)Z"⟩
abbrev cX4_add : ByteArray := prog_6_method_5_code
def yX4_add : MethodName := ⟨RX4, "add", "(IIII)I"⟩
abbrev cX4_tinAt : ByteArray := prog_6_method_6_code
def yX4_tinAt : MethodName := ⟨RX4, "tinAt", "(I)I"⟩
abbrev cX4_leadAt : ByteArray := prog_6_method_7_code
def yX4_leadAt : MethodName := ⟨RX4, "leadAt", "(I)I"⟩
abbrev cX4_priceAt : ByteArray := prog_6_method_8_code
def yX4_priceAt : MethodName := ⟨RX4, "priceAt", "(I)I"⟩
abbrev cX4_unitsAt : ByteArray := prog_6_method_9_code
def yX4_unitsAt : MethodName := ⟨RX4, "unitsAt", "(I)I"⟩
abbrev cX4_take : ByteArray := prog_6_method_10_code
def yX4_take : MethodName := ⟨RX4, "take", "(II)V"⟩
abbrev cX5_init : ByteArray := prog_7_method_1_code
def yX5_init : MethodName := ⟨RX5, "<init>", "(LPieceMoulds$Lots;)V"⟩
abbrev cX5_find : ByteArray := prog_7_method_2_code
def yX5_find : MethodName := ⟨RX5, "find", "(IIII)Z"⟩
abbrev cX5_price : ByteArray := prog_7_method_3_code
def yX5_price : MethodName := ⟨RX5, "price", "()I"⟩
abbrev cX5_unitsOf : ByteArray := prog_7_method_4_code
def yX5_unitsOf : MethodName := ⟨RX5, "unitsOf", "(I)I"⟩
abbrev cX5_lastOfLots : ByteArray := prog_7_method_5_code
def yX5_lastOfLots : MethodName := ⟨RX5, "lastOfLots", "()I"⟩
abbrev cX5_weigh : ByteArray := prog_7_method_6_code
def yX5_weigh : MethodName := ⟨RX5, "weigh", "()V"⟩
abbrev cX5_foresee : ByteArray := prog_7_method_7_code
def yX5_foresee : MethodName := ⟨RX5, "foresee", "(I)V"⟩
abbrev cX5_foreseeFrom : ByteArray := prog_7_method_8_code
def yX5_foreseeFrom : MethodName := ⟨RX5, "foreseeFrom", "(III)V"⟩
abbrev cX5_search : ByteArray := prog_7_method_9_code
def yX5_search : MethodName := ⟨RX5, "search", "(II)V"⟩
abbrev cX5_goOn : ByteArray := prog_7_method_10_code
def yX5_goOn : MethodName := ⟨RX5, "goOn", "(III)V"⟩
abbrev cX5_staysBelow : ByteArray := prog_7_method_11_code
def yX5_staysBelow : MethodName := ⟨RX5, "staysBelow", "(III)Z"⟩
abbrev cX5_shareOut : ByteArray := prog_7_method_12_code
def yX5_shareOut : MethodName := ⟨RX5, "shareOut", "(I)V"⟩
abbrev cX5_narrow : ByteArray := prog_7_method_13_code
def yX5_narrow : MethodName := ⟨RX5, "narrow", "(III)V"⟩
abbrev cX5_keepRow : ByteArray := prog_7_method_14_code
def yX5_keepRow : MethodName := ⟨RX5, "keepRow", "()V"⟩
abbrev cX6_init : ByteArray := prog_8_method_1_code
def yX6_init : MethodName := ⟨RX6, "<init>", "()V"⟩
abbrev cX6_length : ByteArray := prog_8_method_2_code
def yX6_length : MethodName := ⟨RX6, "length", "()I"⟩
abbrev cX6_clear : ByteArray := prog_8_method_3_code
def yX6_clear : MethodName := ⟨RX6, "clear", "()V"⟩
abbrev cX6_add : ByteArray := prog_8_method_4_code
def yX6_add : MethodName := ⟨RX6, "add", "(III)V"⟩
abbrev cX6_kindAt : ByteArray := prog_8_method_5_code
def yX6_kindAt : MethodName := ⟨RX6, "kindAt", "(I)I"⟩
abbrev cX6_firstAt : ByteArray := prog_8_method_6_code
def yX6_firstAt : MethodName := ⟨RX6, "firstAt", "(I)I"⟩
abbrev cX6_secondAt : ByteArray := prog_8_method_7_code
def yX6_secondAt : MethodName := ⟨RX6, "secondAt", "(I)I"⟩
abbrev cX7_init : ByteArray := prog_9_method_1_code
def yX7_init : MethodName := ⟨RX7, "<init>", "(LPieceMoulds$Tape;)V"⟩
abbrev cX7_read : ByteArray := prog_9_method_2_code
def yX7_read : MethodName := ⟨RX7, "read", "(LPieceMoulds$RuleBook;)I"⟩
abbrev cX7_readRule : ByteArray := prog_9_method_3_code
def yX7_readRule : MethodName := ⟨RX7, "readRule", "(LPieceMoulds$RuleBook;)Z"⟩
abbrev cX7_kindHere : ByteArray := prog_9_method_4_code
def yX7_kindHere : MethodName := ⟨RX7, "kindHere", "()I"⟩
abbrev cX7_nameOf : ByteArray := prog_9_method_5_code
def yX7_nameOf : MethodName := ⟨RX7, "nameOf", "(I)Ljava/lang/String;"⟩
abbrev cX7_wordAhead : ByteArray := prog_9_method_6_code
def yX7_wordAhead : MethodName := ⟨RX7, "wordAhead", "(I)Ljava/lang/String;"⟩
abbrev cX7_wordBetween : ByteArray := prog_9_method_7_code
def yX7_wordBetween : MethodName := ⟨RX7, "wordBetween", "(I)Ljava/lang/String;"⟩
abbrev cX7_isOfMetal : ByteArray := prog_9_method_8_code
def yX7_isOfMetal : MethodName := ⟨RX7, "isOfMetal", "(I)Z"⟩
abbrev cX7_skipWord : ByteArray := prog_9_method_9_code
def yX7_skipWord : MethodName := ⟨RX7, "skipWord", "(Ljava/lang/String;)Z"⟩
abbrev cX7_readNumber : ByteArray := prog_9_method_10_code
def yX7_readNumber : MethodName := ⟨RX7, "readNumber", "(I)I"⟩
abbrev cX7_isWord : ByteArray := prog_9_method_11_code
def yX7_isWord : MethodName := ⟨RX7, "isWord", "(Ljava/lang/String;)Z"⟩
abbrev cX7_isAtEnd : ByteArray := prog_9_method_12_code
def yX7_isAtEnd : MethodName := ⟨RX7, "isAtEnd", "()Z"⟩
abbrev cX7_advance : ByteArray := prog_9_method_13_code
def yX7_advance : MethodName := ⟨RX7, "advance", "()V"⟩
abbrev cX7_isLetter : ByteArray := prog_9_method_14_code
def yX7_isLetter : MethodName := ⟨RX7, "isLetter", "(I)Z"⟩
abbrev cX7_isDigit : ByteArray := prog_9_method_15_code
def yX7_isDigit : MethodName := ⟨RX7, "isDigit", "(I)Z"⟩
abbrev cX8_init : ByteArray := prog_10_method_1_code
def yX8_init : MethodName := ⟨RX8, "<init>", "(LPieceMoulds$Grid;)V"⟩
abbrev cX8_pieceCount : ByteArray := prog_10_method_2_code
def yX8_pieceCount : MethodName := ⟨RX8, "pieceCount", "()I"⟩
abbrev cX8_goneCount : ByteArray := prog_10_method_3_code
def yX8_goneCount : MethodName := ⟨RX8, "goneCount", "()I"⟩
abbrev cX8_stuckCount : ByteArray := prog_10_method_4_code
def yX8_stuckCount : MethodName := ⟨RX8, "stuckCount", "()I"⟩
abbrev cX8_pieceAt : ByteArray := prog_10_method_5_code
def yX8_pieceAt : MethodName := ⟨RX8, "pieceAt", "(I)I"⟩
abbrev cX8_wayAt : ByteArray := prog_10_method_6_code
def yX8_wayAt : MethodName := ⟨RX8, "wayAt", "(I)I"⟩
abbrev cX8_refresh : ByteArray := prog_10_method_7_code
def yX8_refresh : MethodName := ⟨RX8, "refresh", "()V"⟩
abbrev cX8_lookFromEdge : ByteArray := prog_10_method_8_code
def yX8_lookFromEdge : MethodName := ⟨RX8, "lookFromEdge", "(I)V"⟩
abbrev cX8_lookBack : ByteArray := prog_10_method_9_code
def yX8_lookBack : MethodName := ⟨RX8, "lookBack", "(III)V"⟩
abbrev cX8_maskOf : ByteArray := prog_10_method_10_code
def yX8_maskOf : MethodName := ⟨RX8, "maskOf", "(I)I"⟩
abbrev cX8_takeLowestOff : ByteArray := prog_10_method_11_code
def yX8_takeLowestOff : MethodName := ⟨RX8, "takeLowestOff", "(I)Z"⟩
abbrev cX8_lowestWay : ByteArray := prog_10_method_12_code
def yX8_lowestWay : MethodName := ⟨RX8, "lowestWay", "(I)I"⟩
abbrev cX9_init : ByteArray := prog_11_method_1_code
def yX9_init : MethodName := ⟨RX9, "<init>", "()V"⟩
abbrev cX9_length : ByteArray := prog_11_method_2_code
def yX9_length : MethodName := ⟨RX9, "length", "()I"⟩
abbrev cX9_byteAt : ByteArray := prog_11_method_3_code
def yX9_byteAt : MethodName := ⟨RX9, "byteAt", "(I)I"⟩
abbrev cX9_addNumber : ByteArray := prog_11_method_4_code
def yX9_addNumber : MethodName := ⟨RX9, "addNumber", "(I)V"⟩
abbrev cX9_cut : ByteArray := prog_11_method_5_code
def yX9_cut : MethodName := ⟨RX9, "cut", "(I)V"⟩
abbrev cX10_init : ByteArray := prog_12_method_1_code
def yX10_init : MethodName := ⟨RX10, "<init>", "()V"⟩
abbrev cX10_length : ByteArray := prog_12_method_2_code
def yX10_length : MethodName := ⟨RX10, "length", "()I"⟩
abbrev cX10_toldLength : ByteArray := prog_12_method_3_code
def yX10_toldLength : MethodName := ⟨RX10, "toldLength", "()I"⟩
abbrev cX10_isFull : ByteArray := prog_12_method_4_code
def yX10_isFull : MethodName := ⟨RX10, "isFull", "()Z"⟩
abbrev cX10_isToldFull : ByteArray := prog_12_method_5_code
def yX10_isToldFull : MethodName := ⟨RX10, "isToldFull", "()Z"⟩
abbrev cX10_has : ByteArray := prog_12_method_6_code
def yX10_has : MethodName := ⟨RX10, "has", "(I)Z"⟩
abbrev cX10_add : ByteArray := prog_12_method_7_code
def yX10_add : MethodName := ⟨RX10, "add", "(I)I"⟩
abbrev cX10_likeness : ByteArray := prog_12_method_8_code
def yX10_likeness : MethodName := ⟨RX10, "likeness", "(II)I"⟩
abbrev cX10_addTold : ByteArray := prog_12_method_9_code
def yX10_addTold : MethodName := ⟨RX10, "addTold", "(III)I"⟩
abbrev cX10_workshopOf : ByteArray := prog_12_method_10_code
def yX10_workshopOf : MethodName := ⟨RX10, "workshopOf", "(II)I"⟩
abbrev cX10_workshopByMarks : ByteArray := prog_12_method_11_code
def yX10_workshopByMarks : MethodName := ⟨RX10, "workshopByMarks", "(II)I"⟩
abbrev cX10_compareWithOthers : ByteArray := prog_12_method_12_code
def yX10_compareWithOthers : MethodName := ⟨RX10, "compareWithOthers", "(II)V"⟩
abbrev cX10_isLiker : ByteArray := prog_12_method_13_code
def yX10_isLiker : MethodName := ⟨RX10, "isLiker", "(II)Z"⟩
abbrev cX11_init : ByteArray := prog_1_method_1_code
def yX11_init : MethodName := ⟨RX11, "<init>", "()V"⟩
abbrev cX11_size : ByteArray := prog_1_method_2_code
def yX11_size : MethodName := ⟨RX11, "size", "(II)I"⟩
abbrev cX11_draw : ByteArray := prog_1_method_3_code
def yX11_draw : MethodName := ⟨RX11, "draw", "(IIIII)I"⟩
abbrev cX11_cell : ByteArray := prog_1_method_4_code
def yX11_cell : MethodName := ⟨RX11, "cell", "(III)I"⟩
abbrev cX11_repair : ByteArray := prog_1_method_5_code
def yX11_repair : MethodName := ⟨RX11, "repair", "(II)I"⟩
abbrev cX11_wall : ByteArray := prog_1_method_6_code
def yX11_wall : MethodName := ⟨RX11, "wall", "(II)I"⟩
abbrev cX11_many : ByteArray := prog_1_method_7_code
def yX11_many : MethodName := ⟨RX11, "many", "(I)I"⟩
abbrev cX11_off : ByteArray := prog_1_method_8_code
def yX11_off : MethodName := ⟨RX11, "off", "(II)I"⟩
abbrev cX11_lot : ByteArray := prog_1_method_9_code
def yX11_lot : MethodName := ⟨RX11, "lot", "(IIII)I"⟩
abbrev cX11_mix : ByteArray := prog_1_method_10_code
def yX11_mix : MethodName := ⟨RX11, "mix", "(IIII)I"⟩
abbrev cX11_mixed : ByteArray := prog_1_method_11_code
def yX11_mixed : MethodName := ⟨RX11, "mixed", "(I)I"⟩
abbrev cX11_pour : ByteArray := prog_1_method_12_code
def yX11_pour : MethodName := ⟨RX11, "pour", "()I"⟩
abbrev cX11_left : ByteArray := prog_1_method_13_code
def yX11_left : MethodName := ⟨RX11, "left", "(I)I"⟩
abbrev cX11_feed : ByteArray := prog_1_method_14_code
def yX11_feed : MethodName := ⟨RX11, "feed", "(IIIII)I"⟩
abbrev cX11_end : ByteArray := prog_1_method_15_code
def yX11_end : MethodName := ⟨RX11, "end", "(I)I"⟩
abbrev cX11_rules : ByteArray := prog_1_method_16_code
def yX11_rules : MethodName := ⟨RX11, "rules", "()I"⟩
abbrev cX11_fault : ByteArray := prog_1_method_17_code
def yX11_fault : MethodName := ⟨RX11, "fault", "()I"⟩
abbrev cX11_broken : ByteArray := prog_1_method_18_code
def yX11_broken : MethodName := ⟨RX11, "broken", "(I)I"⟩
abbrev cX11_vessel : ByteArray := prog_1_method_19_code
def yX11_vessel : MethodName := ⟨RX11, "vessel", "(I)I"⟩
abbrev cX11_like : ByteArray := prog_1_method_20_code
def yX11_like : MethodName := ⟨RX11, "like", "(II)I"⟩
abbrev cX11_tell : ByteArray := prog_1_method_21_code
def yX11_tell : MethodName := ⟨RX11, "tell", "(III)I"⟩
abbrev cX11_of : ByteArray := prog_1_method_22_code
def yX11_of : MethodName := ⟨RX11, "of", "(II)I"⟩
abbrev cX11_by : ByteArray := prog_1_method_23_code
def yX11_by : MethodName := ⟨RX11, "by", "(II)I"⟩
abbrev cX11_count : ByteArray := prog_1_method_24_code
def yX11_count : MethodName := ⟨RX11, "count", "(I)I"⟩
abbrev cX11_status : ByteArray := prog_1_method_25_code
def yX11_status : MethodName := ⟨RX11, "status", "()I"⟩
abbrev cX11_answered : ByteArray := prog_1_method_26_code
def yX11_answered : MethodName := ⟨RX11, "answered", "(I)I"⟩
abbrev cX11_howManyPieces : ByteArray := prog_1_method_27_code
def yX11_howManyPieces : MethodName := ⟨RX11, "howManyPieces", "(I)I"⟩
abbrev cX11_isSort : ByteArray := prog_1_method_28_code
def yX11_isSort : MethodName := ⟨RX11, "isSort", "(I)Z"⟩
abbrev cX11_isClay : ByteArray := prog_1_method_29_code
def yX11_isClay : MethodName := ⟨RX11, "isClay", "(I)Z"⟩
abbrev cX11_isWithin : ByteArray := prog_1_method_30_code
def yX11_isWithin : MethodName := ⟨RX11, "isWithin", "(II)Z"⟩
abbrev cX12_init : ByteArray := prog_14_method_1_code
def yX12_init : MethodName := ⟨RX12, "<init>", "()V"⟩
abbrev cX12_in : ByteArray := prog_14_method_3_code
def yX12_in : MethodName := ⟨RX12, "in", "(JJJ)Z"⟩
abbrev cX12_told : ByteArray := prog_14_method_4_code
def yX12_told : MethodName := ⟨RX12, "told", "(I)I"⟩
abbrev cX12_isCell : ByteArray := prog_14_method_5_code
def yX12_isCell : MethodName := ⟨RX12, "isCell", "(II)Z"⟩
abbrev cX12_forget : ByteArray := prog_14_method_6_code
def yX12_forget : MethodName := ⟨RX12, "forget", "()V"⟩
abbrev cX12_size : ByteArray := prog_14_method_7_code
def yX12_size : MethodName := ⟨RX12, "size", "(II)I"⟩
abbrev cX12_draw : ByteArray := prog_14_method_8_code
def yX12_draw : MethodName := ⟨RX12, "draw", "(IIIII)I"⟩
abbrev cX12_isHollow : ByteArray := prog_14_method_9_code
def yX12_isHollow : MethodName := ⟨RX12, "isHollow", "(I)Z"⟩
abbrev cX12_join : ByteArray := prog_14_method_10_code
def yX12_join : MethodName := ⟨RX12, "join", "(I)V"⟩
abbrev cX12_melt : ByteArray := prog_14_method_11_code
def yX12_melt : MethodName := ⟨RX12, "melt", "(II)Z"⟩
abbrev cX12_has : ByteArray := prog_14_method_12_code
def yX12_has : MethodName := ⟨RX12, "has", "(III)Z"⟩
abbrev cX12_pourMould : ByteArray := prog_14_method_13_code
def yX12_pourMould : MethodName := ⟨RX12, "pourMould", "()V"⟩
abbrev cX12_isCast : ByteArray := prog_14_method_14_code
def yX12_isCast : MethodName := ⟨RX12, "isCast", "(II)Z"⟩
abbrev cX12_cell : ByteArray := prog_14_method_15_code
def yX12_cell : MethodName := ⟨RX12, "cell", "(III)I"⟩
abbrev cX12_repair : ByteArray := prog_14_method_16_code
def yX12_repair : MethodName := ⟨RX12, "repair", "(II)I"⟩
abbrev cX12_wallAt : ByteArray := prog_14_method_17_code
def yX12_wallAt : MethodName := ⟨RX12, "wallAt", "(II)I"⟩
abbrev cX12_wallOf : ByteArray := prog_14_method_18_code
def yX12_wallOf : MethodName := ⟨RX12, "wallOf", "()I"⟩
abbrev cX12_wall : ByteArray := prog_14_method_19_code
def yX12_wall : MethodName := ⟨RX12, "wall", "(II)I"⟩
abbrev cX12_cellsOf : ByteArray := prog_14_method_20_code
def yX12_cellsOf : MethodName := ⟨RX12, "cellsOf", "(I)I"⟩
abbrev cX12_many : ByteArray := prog_14_method_21_code
def yX12_many : MethodName := ⟨RX12, "many", "(I)I"⟩
abbrev cX12_canGo : ByteArray := prog_14_method_22_code
def yX12_canGo : MethodName := ⟨RX12, "canGo", "(II)Z"⟩
abbrev cX12_drawOff : ByteArray := prog_14_method_23_code
def yX12_drawOff : MethodName := ⟨RX12, "drawOff", "()V"⟩
abbrev cX12_off : ByteArray := prog_14_method_24_code
def yX12_off : MethodName := ⟨RX12, "off", "(II)I"⟩
abbrev cX12_lot : ByteArray := prog_14_method_25_code
def yX12_lot : MethodName := ⟨RX12, "lot", "(IIII)I"⟩
abbrev cX12_priceOf : ByteArray := prog_14_method_26_code
def yX12_priceOf : MethodName := ⟨RX12, "priceOf", "(IIII)I"⟩
abbrev cX12_mix : ByteArray := prog_14_method_27_code
def yX12_mix : MethodName := ⟨RX12, "mix", "(IIII)I"⟩
abbrev cX12_mixed : ByteArray := prog_14_method_28_code
def yX12_mixed : MethodName := ⟨RX12, "mixed", "(I)I"⟩
abbrev cX12_pour : ByteArray := prog_14_method_29_code
def yX12_pour : MethodName := ⟨RX12, "pour", "()I"⟩
abbrev cX12_left : ByteArray := prog_14_method_30_code
def yX12_left : MethodName := ⟨RX12, "left", "(I)I"⟩
abbrev cX12_four : ByteArray := prog_14_method_31_code
def yX12_four : MethodName := ⟨RX12, "four", "(I)V"⟩
abbrev cX12_feed : ByteArray := prog_14_method_32_code
def yX12_feed : MethodName := ⟨RX12, "feed", "(IIIII)I"⟩
abbrev cX12_end : ByteArray := prog_14_method_33_code
def yX12_end : MethodName := ⟨RX12, "end", "(I)I"⟩
abbrev cX12_isSmall : ByteArray := prog_14_method_34_code
def yX12_isSmall : MethodName := ⟨RX12, "isSmall", "(I)Z"⟩
abbrev cX12_isDigit : ByteArray := prog_14_method_35_code
def yX12_isDigit : MethodName := ⟨RX12, "isDigit", "(I)Z"⟩
abbrev cX12_next : ByteArray := prog_14_method_36_code
def yX12_next : MethodName := ⟨RX12, "next", "()V"⟩
abbrev cX12_isWord : ByteArray := prog_14_method_37_code
def yX12_isWord : MethodName := ⟨RX12, "isWord", "(IIIIIII)Z"⟩
abbrev cX12_must : ByteArray := prog_14_method_38_code
def yX12_must : MethodName := ⟨RX12, "must", "(Z)V"⟩
abbrev cX12_number : ByteArray := prog_14_method_39_code
def yX12_number : MethodName := ⟨RX12, "number", "(J)I"⟩
abbrev cX12_sortAt : ByteArray := prog_14_method_40_code
def yX12_sortAt : MethodName := ⟨RX12, "sortAt", "()I"⟩
abbrev cX12_readRule : ByteArray := prog_14_method_41_code
def yX12_readRule : MethodName := ⟨RX12, "readRule", "()V"⟩
abbrev cX12_rules : ByteArray := prog_14_method_42_code
def yX12_rules : MethodName := ⟨RX12, "rules", "()I"⟩
abbrev cX12_fault : ByteArray := prog_14_method_43_code
def yX12_fault : MethodName := ⟨RX12, "fault", "()I"⟩
abbrev cX12_isBroken : ByteArray := prog_14_method_44_code
def yX12_isBroken : MethodName := ⟨RX12, "isBroken", "(I)Z"⟩
abbrev cX12_broken : ByteArray := prog_14_method_45_code
def yX12_broken : MethodName := ⟨RX12, "broken", "(I)I"⟩
abbrev cX12_isVessel : ByteArray := prog_14_method_46_code
def yX12_isVessel : MethodName := ⟨RX12, "isVessel", "(I)Z"⟩
abbrev cX12_vessel : ByteArray := prog_14_method_47_code
def yX12_vessel : MethodName := ⟨RX12, "vessel", "(I)I"⟩
abbrev cX12_likeness : ByteArray := prog_14_method_48_code
def yX12_likeness : MethodName := ⟨RX12, "likeness", "(II)I"⟩
abbrev cX12_like : ByteArray := prog_14_method_49_code
def yX12_like : MethodName := ⟨RX12, "like", "(II)I"⟩
abbrev cX12_tell : ByteArray := prog_14_method_50_code
def yX12_tell : MethodName := ⟨RX12, "tell", "(III)I"⟩
abbrev cX12_shopOf : ByteArray := prog_14_method_51_code
def yX12_shopOf : MethodName := ⟨RX12, "shopOf", "(II)I"⟩
abbrev cX12_of : ByteArray := prog_14_method_52_code
def yX12_of : MethodName := ⟨RX12, "of", "(II)I"⟩
abbrev cX12_by : ByteArray := prog_14_method_53_code
def yX12_by : MethodName := ⟨RX12, "by", "(II)I"⟩
abbrev cX12_count : ByteArray := prog_14_method_54_code
def yX12_count : MethodName := ⟨RX12, "count", "(I)I"⟩
abbrev cX12_status : ByteArray := prog_14_method_55_code
def yX12_status : MethodName := ⟨RX12, "status", "()I"⟩
abbrev cJ6_bitCount_0f7a4 : ByteArray := prog_15_method_49_code
def yJ6_bitCount_0f7a4 : MethodName := ⟨RJ6, "bitCount", "(I)I"⟩
abbrev cJ9_floorDiv_7cf53 : ByteArray := prog_16_method_47_code
def yJ9_floorDiv_7cf53 : MethodName := ⟨RJ9, "floorDiv", "(II)I"⟩
abbrev cJ9_max_7cf53 : ByteArray := prog_16_method_65_code
def yJ9_max_7cf53 : MethodName := ⟨RJ9, "max", "(II)I"⟩
abbrev cJ9_min_7cf53 : ByteArray := prog_16_method_69_code
def yJ9_min_7cf53 : MethodName := ⟨RJ9, "min", "(II)I"⟩
abbrev cJ0_length_8abf5 : ByteArray := prog_17_method_54_code
def yJ0_length_8abf5 : MethodName := ⟨RJ0, "length", "()I"⟩
abbrev cJ0_isEmpty_aae02 : ByteArray := prog_17_method_55_code
def yJ0_isEmpty_aae02 : MethodName := ⟨RJ0, "isEmpty", "()Z"⟩
abbrev cJ0_charAt_5068e : ByteArray := prog_17_method_56_code
def yJ0_charAt_5068e : MethodName := ⟨RJ0, "charAt", "(I)C"⟩
abbrev cJ0_coder_7d493 : ByteArray := prog_17_method_152_code
def yJ0_coder_7d493 : MethodName := ⟨RJ0, "coder", "()B"⟩
abbrev cJ0_isLatin1_aae02 : ByteArray := prog_17_method_154_code
def yJ0_isLatin1_aae02 : MethodName := ⟨RJ0, "isLatin1", "()Z"⟩
abbrev cJ0_checkIndex_df160 : ByteArray := prog_17_method_155_code
def yJ0_checkIndex_df160 : MethodName := ⟨RJ0, "checkIndex", "(II)V"⟩
abbrev cJ1_charAt_3b067 : ByteArray := prog_18_method_2_code
def yJ1_charAt_3b067 : MethodName := ⟨RJ1, "charAt", "([BI)C"⟩
abbrev cJ2_getChar_3b067 : ByteArray := prog_19_method_5_code
def yJ2_getChar_3b067 : MethodName := ⟨RJ2, "getChar", "([BI)C"⟩
abbrev cJ2_length_9d52b : ByteArray := prog_19_method_6_code
def yJ2_length_9d52b : MethodName := ⟨RJ2, "length", "([B)I"⟩
abbrev cJ2_charAt_3b067 : ByteArray := prog_19_method_83_code
def yJ2_charAt_3b067 : MethodName := ⟨RJ2, "charAt", "([BI)C"⟩
abbrev cJ2_checkIndex_2214a : ByteArray := prog_19_method_91_code
def yJ2_checkIndex_2214a : MethodName := ⟨RJ2, "checkIndex", "(I[B)V"⟩
abbrev cJ7_fill_53178 : ByteArray := prog_21_method_103_code
def yJ7_fill_53178 : MethodName := ⟨RJ7, "fill", "([II)V"⟩
abbrev cJ3_checkIndex_8e157 : ByteArray := prog_22_method_11_code
def yJ3_checkIndex_8e157 : MethodName := ⟨RJ3, "checkIndex", "(IILjava/util/function/BiFunction;)I"⟩
abbrev cL_law : ByteArray := code
def yL_law : MethodName := ⟨RL, "law", "([I)Z"⟩
abbrev gcl : List vw_C := [(RX0, TX0, 2), (RX1, TX1, 7), (RX2, TX2, 4), (RX3, TX3, 3), (RX4, TX4, 5), (RX5, TX5, 12), (RX6, TX6, 4), (RX7, TX7, 3), (RX8, TX8, 7), (RX9, TX9, 2), (RX10, TX10, 8), (RX11, TX11, 14), (RX12, TX12, 44)]
end
section
theorem dX0_init_0 : decode cX0_init 0 = .ok (.aload_n 0, 1) := by decide +kernel
theorem dX0_init_1 : decode cX0_init 1 = .ok (.invokespecial 3, 3) := by decide +kernel
theorem dX0_init_4 : decode cX0_init 4 = .ok (.aload_n 0, 1) := by decide +kernel
theorem dX0_init_5 : decode cX0_init 5 = .ok (.bipush 6, 2) := by decide +kernel
theorem dX0_init_7 : decode cX0_init 7 = .ok (.newarray .int, 2) := by decide +kernel
theorem dX0_init_9 : decode cX0_init 9 = .ok (.putfield 9, 3) := by decide +kernel
theorem dX0_init_12 : decode cX0_init 12 = .ok (.aload_n 0, 1) := by decide +kernel
theorem dX0_init_13 : decode cX0_init 13 = .ok (.aload_n 1, 1) := by decide +kernel
theorem dX0_init_14 : decode cX0_init 14 = .ok (.putfield 15, 3) := by decide +kernel
theorem dX0_init_17 : decode cX0_init 17 = .ok (.return_, 1) := by decide +kernel
theorem dX0_clear_0 : decode cX0_clear 0 = .ok (.aload_n 0, 1) := by decide +kernel
theorem dX0_clear_1 : decode cX0_clear 1 = .ok (.getfield 9, 3) := by decide +kernel
theorem dX0_clear_4 : decode cX0_clear 4 = .ok (.iconst 0, 1) := by decide +kernel
theorem dX0_clear_5 : decode cX0_clear 5 = .ok (.invokestatic 19, 3) := by decide +kernel
theorem dX0_clear_8 : decode cX0_clear 8 = .ok (.return_, 1) := by decide +kernel
theorem dX0_put_0 : decode cX0_put 0 = .ok (.iload_n 1, 1) := by decide +kernel
theorem dX0_put_1 : decode cX0_put 1 = .ok (.ifCond .lt 16, 3) := by decide +kernel
theorem dX0_put_4 : decode cX0_put 4 = .ok (.iload_n 1, 1) := by decide +kernel
theorem dX0_put_5 : decode cX0_put 5 = .ok (.bipush 6, 2) := by decide +kernel
theorem dX0_put_7 : decode cX0_put 7 = .ok (.if_icmp .ge 10, 3) := by decide +kernel
theorem dX0_put_10 : decode cX0_put 10 = .ok (.aload_n 0, 1) := by decide +kernel
theorem dX0_put_11 : decode cX0_put 11 = .ok (.getfield 9, 3) := by decide +kernel
theorem dX0_put_14 : decode cX0_put 14 = .ok (.iload_n 1, 1) := by decide +kernel
theorem dX0_put_15 : decode cX0_put 15 = .ok (.iload_n 2, 1) := by decide +kernel
theorem dX0_put_16 : decode cX0_put 16 = .ok (.iastore, 1) := by decide +kernel
theorem dX0_put_17 : decode cX0_put 17 = .ok (.return_, 1) := by decide +kernel
theorem dX0_isThere_0 : decode cX0_isThere 0 = .ok (.aload_n 0, 1) := by decide +kernel
theorem dX0_isThere_1 : decode cX0_isThere 1 = .ok (.invokevirtual 25, 3) := by decide +kernel
theorem dX0_isThere_4 : decode cX0_isThere 4 = .ok (.ifCond .le 7, 3) := by decide +kernel
theorem dX0_isThere_7 : decode cX0_isThere 7 = .ok (.iconst 1, 1) := by decide +kernel
theorem dX0_isThere_8 : decode cX0_isThere 8 = .ok (.goto 4, 3) := by decide +kernel
theorem dX0_isThere_11 : decode cX0_isThere 11 = .ok (.iconst 0, 1) := by decide +kernel
theorem dX0_isThere_12 : decode cX0_isThere 12 = .ok (.ireturn, 1) := by decide +kernel
theorem dX0_unitsOf_0 : decode cX0_unitsOf 0 = .ok (.iload_n 1, 1) := by decide +kernel
theorem dX0_unitsOf_1 : decode cX0_unitsOf 1 = .ok (.ifCond .lt 18, 3) := by decide +kernel
theorem dX0_unitsOf_4 : decode cX0_unitsOf 4 = .ok (.iload_n 1, 1) := by decide +kernel
theorem dX0_unitsOf_5 : decode cX0_unitsOf 5 = .ok (.bipush 6, 2) := by decide +kernel
theorem dX0_unitsOf_7 : decode cX0_unitsOf 7 = .ok (.if_icmp .ge 12, 3) := by decide +kernel
theorem dX0_unitsOf_10 : decode cX0_unitsOf 10 = .ok (.aload_n 0, 1) := by decide +kernel
theorem dX0_unitsOf_11 : decode cX0_unitsOf 11 = .ok (.getfield 9, 3) := by decide +kernel
theorem dX0_unitsOf_14 : decode cX0_unitsOf 14 = .ok (.iload_n 1, 1) := by decide +kernel
theorem dX0_unitsOf_15 : decode cX0_unitsOf 15 = .ok (.iaload, 1) := by decide +kernel
theorem dX0_unitsOf_16 : decode cX0_unitsOf 16 = .ok (.goto 4, 3) := by decide +kernel
theorem dX0_unitsOf_19 : decode cX0_unitsOf 19 = .ok (.iconst 0, 1) := by decide +kernel
theorem dX0_unitsOf_20 : decode cX0_unitsOf 20 = .ok (.ireturn, 1) := by decide +kernel
theorem dX0_total_0 : decode cX0_total 0 = .ok (.iconst 0, 1) := by decide +kernel
theorem dX0_total_1 : decode cX0_total 1 = .ok (.istore_n 1, 1) := by decide +kernel
theorem dX0_total_2 : decode cX0_total 2 = .ok (.iconst 0, 1) := by decide +kernel
theorem dX0_total_3 : decode cX0_total 3 = .ok (.istore_n 2, 1) := by decide +kernel
theorem dX0_total_4 : decode cX0_total 4 = .ok (.iload_n 2, 1) := by decide +kernel
theorem dX0_total_5 : decode cX0_total 5 = .ok (.bipush 6, 2) := by decide +kernel
theorem dX0_total_7 : decode cX0_total 7 = .ok (.if_icmp .ge 18, 3) := by decide +kernel
theorem dX0_total_10 : decode cX0_total 10 = .ok (.iload_n 1, 1) := by decide +kernel
theorem dX0_total_11 : decode cX0_total 11 = .ok (.aload_n 0, 1) := by decide +kernel
theorem dX0_total_12 : decode cX0_total 12 = .ok (.getfield 9, 3) := by decide +kernel
theorem dX0_total_15 : decode cX0_total 15 = .ok (.iload_n 2, 1) := by decide +kernel
theorem dX0_total_16 : decode cX0_total 16 = .ok (.iaload, 1) := by decide +kernel
theorem dX0_total_17 : decode cX0_total 17 = .ok (.iadd, 1) := by decide +kernel
theorem dX0_total_18 : decode cX0_total 18 = .ok (.istore_n 1, 1) := by decide +kernel
theorem dX0_total_19 : decode cX0_total 19 = .ok (.iinc 2 1, 3) := by decide +kernel
theorem dX0_total_22 : decode cX0_total 22 = .ok (.goto (-18), 3) := by decide +kernel
theorem dX0_total_25 : decode cX0_total 25 = .ok (.iload_n 1, 1) := by decide +kernel
theorem dX0_total_26 : decode cX0_total 26 = .ok (.ireturn, 1) := by decide +kernel
theorem dX0_tin_0 : decode cX0_tin 0 = .ok (.iconst 0, 1) := by decide +kernel
theorem dX0_tin_1 : decode cX0_tin 1 = .ok (.istore_n 1, 1) := by decide +kernel
theorem dX0_tin_2 : decode cX0_tin 2 = .ok (.iconst 0, 1) := by decide +kernel
theorem dX0_tin_3 : decode cX0_tin 3 = .ok (.istore_n 2, 1) := by decide +kernel
theorem dX0_tin_4 : decode cX0_tin 4 = .ok (.iload_n 2, 1) := by decide +kernel
theorem dX0_tin_5 : decode cX0_tin 5 = .ok (.bipush 6, 2) := by decide +kernel
theorem dX0_tin_7 : decode cX0_tin 7 = .ok (.if_icmp .ge 27, 3) := by decide +kernel
theorem dX0_tin_10 : decode cX0_tin 10 = .ok (.iload_n 1, 1) := by decide +kernel
theorem dX0_tin_11 : decode cX0_tin 11 = .ok (.aload_n 0, 1) := by decide +kernel
theorem dX0_tin_12 : decode cX0_tin 12 = .ok (.getfield 9, 3) := by decide +kernel
theorem dX0_tin_15 : decode cX0_tin 15 = .ok (.iload_n 2, 1) := by decide +kernel
theorem dX0_tin_16 : decode cX0_tin 16 = .ok (.iaload, 1) := by decide +kernel
theorem dX0_tin_17 : decode cX0_tin 17 = .ok (.aload_n 0, 1) := by decide +kernel
theorem dX0_tin_18 : decode cX0_tin 18 = .ok (.getfield 15, 3) := by decide +kernel
theorem dX0_tin_21 : decode cX0_tin 21 = .ok (.iload_n 2, 1) := by decide +kernel
theorem dX0_tin_22 : decode cX0_tin 22 = .ok (.invokevirtual 29, 3) := by decide +kernel
theorem dX0_tin_25 : decode cX0_tin 25 = .ok (.imul, 1) := by decide +kernel
theorem dX0_tin_26 : decode cX0_tin 26 = .ok (.iadd, 1) := by decide +kernel
theorem dX0_tin_27 : decode cX0_tin 27 = .ok (.istore_n 1, 1) := by decide +kernel
theorem dX0_tin_28 : decode cX0_tin 28 = .ok (.iinc 2 1, 3) := by decide +kernel
theorem dX0_tin_31 : decode cX0_tin 31 = .ok (.goto (-27), 3) := by decide +kernel
theorem dX0_tin_34 : decode cX0_tin 34 = .ok (.iload_n 1, 1) := by decide +kernel
theorem dX0_tin_35 : decode cX0_tin 35 = .ok (.ireturn, 1) := by decide +kernel
theorem dX0_lead_0 : decode cX0_lead 0 = .ok (.iconst 0, 1) := by decide +kernel
theorem dX0_lead_1 : decode cX0_lead 1 = .ok (.istore_n 1, 1) := by decide +kernel
theorem dX0_lead_2 : decode cX0_lead 2 = .ok (.iconst 0, 1) := by decide +kernel
theorem dX0_lead_3 : decode cX0_lead 3 = .ok (.istore_n 2, 1) := by decide +kernel
theorem dX0_lead_4 : decode cX0_lead 4 = .ok (.iload_n 2, 1) := by decide +kernel
theorem dX0_lead_5 : decode cX0_lead 5 = .ok (.bipush 6, 2) := by decide +kernel
theorem dX0_lead_7 : decode cX0_lead 7 = .ok (.if_icmp .ge 27, 3) := by decide +kernel
theorem dX0_lead_10 : decode cX0_lead 10 = .ok (.iload_n 1, 1) := by decide +kernel
theorem dX0_lead_11 : decode cX0_lead 11 = .ok (.aload_n 0, 1) := by decide +kernel
theorem dX0_lead_12 : decode cX0_lead 12 = .ok (.getfield 9, 3) := by decide +kernel
theorem dX0_lead_15 : decode cX0_lead 15 = .ok (.iload_n 2, 1) := by decide +kernel
theorem dX0_lead_16 : decode cX0_lead 16 = .ok (.iaload, 1) := by decide +kernel
theorem dX0_lead_17 : decode cX0_lead 17 = .ok (.aload_n 0, 1) := by decide +kernel
theorem dX0_lead_18 : decode cX0_lead 18 = .ok (.getfield 15, 3) := by decide +kernel
theorem dX0_lead_21 : decode cX0_lead 21 = .ok (.iload_n 2, 1) := by decide +kernel
theorem dX0_lead_22 : decode cX0_lead 22 = .ok (.invokevirtual 35, 3) := by decide +kernel
theorem dX0_lead_25 : decode cX0_lead 25 = .ok (.imul, 1) := by decide +kernel
theorem dX0_lead_26 : decode cX0_lead 26 = .ok (.iadd, 1) := by decide +kernel
theorem dX0_lead_27 : decode cX0_lead 27 = .ok (.istore_n 1, 1) := by decide +kernel
theorem dX0_lead_28 : decode cX0_lead 28 = .ok (.iinc 2 1, 3) := by decide +kernel
theorem dX0_lead_31 : decode cX0_lead 31 = .ok (.goto (-27), 3) := by decide +kernel
theorem dX0_lead_34 : decode cX0_lead 34 = .ok (.iload_n 1, 1) := by decide +kernel
theorem dX0_lead_35 : decode cX0_lead 35 = .ok (.ireturn, 1) := by decide +kernel
theorem dX0_copper_0 : decode cX0_copper 0 = .ok (.aload_n 0, 1) := by decide +kernel
theorem dX0_copper_1 : decode cX0_copper 1 = .ok (.invokevirtual 25, 3) := by decide +kernel
theorem dX0_copper_4 : decode cX0_copper 4 = .ok (.sipush 1000, 3) := by decide +kernel
theorem dX0_copper_7 : decode cX0_copper 7 = .ok (.imul, 1) := by decide +kernel
theorem dX0_copper_8 : decode cX0_copper 8 = .ok (.aload_n 0, 1) := by decide +kernel
theorem dX0_copper_9 : decode cX0_copper 9 = .ok (.invokevirtual 38, 3) := by decide +kernel
theorem dX0_copper_12 : decode cX0_copper 12 = .ok (.isub, 1) := by decide +kernel
theorem dX0_copper_13 : decode cX0_copper 13 = .ok (.aload_n 0, 1) := by decide +kernel
theorem dX0_copper_14 : decode cX0_copper 14 = .ok (.invokevirtual 41, 3) := by decide +kernel
theorem dX0_copper_17 : decode cX0_copper 17 = .ok (.isub, 1) := by decide +kernel
theorem dX0_copper_18 : decode cX0_copper 18 = .ok (.ireturn, 1) := by decide +kernel
theorem dX0_takeFromLots_0 : decode cX0_takeFromLots 0 = .ok (.iconst 0, 1) := by decide +kernel
theorem dX0_takeFromLots_1 : decode cX0_takeFromLots 1 = .ok (.istore_n 1, 1) := by decide +kernel
theorem dX0_takeFromLots_2 : decode cX0_takeFromLots 2 = .ok (.iload_n 1, 1) := by decide +kernel
theorem dX0_takeFromLots_3 : decode cX0_takeFromLots 3 = .ok (.bipush 6, 2) := by decide +kernel
theorem dX0_takeFromLots_5 : decode cX0_takeFromLots 5 = .ok (.if_icmp .ge 28, 3) := by decide +kernel
theorem dX0_takeFromLots_8 : decode cX0_takeFromLots 8 = .ok (.aload_n 0, 1) := by decide +kernel
theorem dX0_takeFromLots_9 : decode cX0_takeFromLots 9 = .ok (.getfield 9, 3) := by decide +kernel
theorem dX0_takeFromLots_12 : decode cX0_takeFromLots 12 = .ok (.iload_n 1, 1) := by decide +kernel
theorem dX0_takeFromLots_13 : decode cX0_takeFromLots 13 = .ok (.iaload, 1) := by decide +kernel
theorem dX0_takeFromLots_14 : decode cX0_takeFromLots 14 = .ok (.aload_n 0, 1) := by decide +kernel
theorem dX0_takeFromLots_15 : decode cX0_takeFromLots 15 = .ok (.getfield 15, 3) := by decide +kernel
theorem dX0_takeFromLots_18 : decode cX0_takeFromLots 18 = .ok (.iload_n 1, 1) := by decide +kernel
theorem dX0_takeFromLots_19 : decode cX0_takeFromLots 19 = .ok (.invokevirtual 44, 3) := by decide +kernel
theorem dX0_takeFromLots_22 : decode cX0_takeFromLots 22 = .ok (.if_icmp .le 5, 3) := by decide +kernel
theorem dX0_takeFromLots_25 : decode cX0_takeFromLots 25 = .ok (.iconst (-1), 1) := by decide +kernel
theorem dX0_takeFromLots_26 : decode cX0_takeFromLots 26 = .ok (.ireturn, 1) := by decide +kernel
theorem dX0_takeFromLots_27 : decode cX0_takeFromLots 27 = .ok (.iinc 1 1, 3) := by decide +kernel
theorem dX0_takeFromLots_30 : decode cX0_takeFromLots 30 = .ok (.goto (-28), 3) := by decide +kernel
theorem dX0_takeFromLots_33 : decode cX0_takeFromLots 33 = .ok (.iconst 0, 1) := by decide +kernel
theorem dX0_takeFromLots_34 : decode cX0_takeFromLots 34 = .ok (.istore_n 1, 1) := by decide +kernel
theorem dX0_takeFromLots_35 : decode cX0_takeFromLots 35 = .ok (.iload_n 1, 1) := by decide +kernel
theorem dX0_takeFromLots_36 : decode cX0_takeFromLots 36 = .ok (.bipush 6, 2) := by decide +kernel
theorem dX0_takeFromLots_38 : decode cX0_takeFromLots 38 = .ok (.if_icmp .ge 23, 3) := by decide +kernel
theorem dX0_takeFromLots_41 : decode cX0_takeFromLots 41 = .ok (.aload_n 0, 1) := by decide +kernel
theorem dX0_takeFromLots_42 : decode cX0_takeFromLots 42 = .ok (.getfield 15, 3) := by decide +kernel
theorem dX0_takeFromLots_45 : decode cX0_takeFromLots 45 = .ok (.iload_n 1, 1) := by decide +kernel
theorem dX0_takeFromLots_46 : decode cX0_takeFromLots 46 = .ok (.aload_n 0, 1) := by decide +kernel
theorem dX0_takeFromLots_47 : decode cX0_takeFromLots 47 = .ok (.getfield 9, 3) := by decide +kernel
theorem dX0_takeFromLots_50 : decode cX0_takeFromLots 50 = .ok (.iload_n 1, 1) := by decide +kernel
theorem dX0_takeFromLots_51 : decode cX0_takeFromLots 51 = .ok (.iaload, 1) := by decide +kernel
theorem dX0_takeFromLots_52 : decode cX0_takeFromLots 52 = .ok (.invokevirtual 47, 3) := by decide +kernel
theorem dX0_takeFromLots_55 : decode cX0_takeFromLots 55 = .ok (.iinc 1 1, 3) := by decide +kernel
theorem dX0_takeFromLots_58 : decode cX0_takeFromLots 58 = .ok (.goto (-23), 3) := by decide +kernel
theorem dX0_takeFromLots_61 : decode cX0_takeFromLots 61 = .ok (.aload_n 0, 1) := by decide +kernel
theorem dX0_takeFromLots_62 : decode cX0_takeFromLots 62 = .ok (.invokevirtual 25, 3) := by decide +kernel
theorem dX0_takeFromLots_65 : decode cX0_takeFromLots 65 = .ok (.ireturn, 1) := by decide +kernel
theorem dX1_init_0 : decode cX1_init 0 = .ok (.aload_n 0, 1) := by decide +kernel
theorem dX1_init_1 : decode cX1_init 1 = .ok (.invokespecial 3, 3) := by decide +kernel
theorem dX1_init_4 : decode cX1_init 4 = .ok (.aload_n 0, 1) := by decide +kernel
theorem dX1_init_5 : decode cX1_init 5 = .ok (.sipush 144, 3) := by decide +kernel
theorem dX1_init_8 : decode cX1_init 8 = .ok (.newarray .int, 2) := by decide +kernel
theorem dX1_init_10 : decode cX1_init 10 = .ok (.putfield 9, 3) := by decide +kernel
theorem dX1_init_13 : decode cX1_init 13 = .ok (.aload_n 0, 1) := by decide +kernel
theorem dX1_init_14 : decode cX1_init 14 = .ok (.sipush 144, 3) := by decide +kernel
theorem dX1_init_17 : decode cX1_init 17 = .ok (.newarray .boolean, 2) := by decide +kernel
theorem dX1_init_19 : decode cX1_init 19 = .ok (.putfield 15, 3) := by decide +kernel
theorem dX1_init_22 : decode cX1_init 22 = .ok (.aload_n 0, 1) := by decide +kernel
theorem dX1_init_23 : decode cX1_init 23 = .ok (.sipush 144, 3) := by decide +kernel
theorem dX1_init_26 : decode cX1_init 26 = .ok (.newarray .int, 2) := by decide +kernel
theorem dX1_init_28 : decode cX1_init 28 = .ok (.putfield 19, 3) := by decide +kernel
theorem dX1_init_31 : decode cX1_init 31 = .ok (.aload_n 0, 1) := by decide +kernel
theorem dX1_init_32 : decode cX1_init 32 = .ok (.iconst 0, 1) := by decide +kernel
theorem dX1_init_33 : decode cX1_init 33 = .ok (.putfield 22, 3) := by decide +kernel
theorem dX1_init_36 : decode cX1_init 36 = .ok (.aload_n 0, 1) := by decide +kernel
theorem dX1_init_37 : decode cX1_init 37 = .ok (.iconst 0, 1) := by decide +kernel
theorem dX1_init_38 : decode cX1_init 38 = .ok (.putfield 26, 3) := by decide +kernel
theorem dX1_init_41 : decode cX1_init 41 = .ok (.aload_n 0, 1) := by decide +kernel
theorem dX1_init_42 : decode cX1_init 42 = .ok (.iconst (-1), 1) := by decide +kernel
theorem dX1_init_43 : decode cX1_init 43 = .ok (.putfield 29, 3) := by decide +kernel
theorem dX1_init_46 : decode cX1_init 46 = .ok (.aload_n 0, 1) := by decide +kernel
theorem dX1_init_47 : decode cX1_init 47 = .ok (.aload_n 1, 1) := by decide +kernel
theorem dX1_init_48 : decode cX1_init 48 = .ok (.putfield 32, 3) := by decide +kernel
theorem dX1_init_51 : decode cX1_init 51 = .ok (.return_, 1) := by decide +kernel
theorem dX1_refresh_0 : decode cX1_refresh 0 = .ok (.aload_n 0, 1) := by decide +kernel
theorem dX1_refresh_1 : decode cX1_refresh 1 = .ok (.getfield 29, 3) := by decide +kernel
theorem dX1_refresh_4 : decode cX1_refresh 4 = .ok (.aload_n 0, 1) := by decide +kernel
theorem dX1_refresh_5 : decode cX1_refresh 5 = .ok (.getfield 32, 3) := by decide +kernel
theorem dX1_refresh_8 : decode cX1_refresh 8 = .ok (.invokevirtual 36, 3) := by decide +kernel
theorem dX1_refresh_11 : decode cX1_refresh 11 = .ok (.if_icmp .ne 4, 3) := by decide +kernel
theorem dX1_refresh_14 : decode cX1_refresh 14 = .ok (.return_, 1) := by decide +kernel
theorem dX1_refresh_15 : decode cX1_refresh 15 = .ok (.aload_n 0, 1) := by decide +kernel
theorem dX1_refresh_16 : decode cX1_refresh 16 = .ok (.aload_n 0, 1) := by decide +kernel
theorem dX1_refresh_17 : decode cX1_refresh 17 = .ok (.getfield 32, 3) := by decide +kernel
theorem dX1_refresh_20 : decode cX1_refresh 20 = .ok (.invokevirtual 36, 3) := by decide +kernel
theorem dX1_refresh_23 : decode cX1_refresh 23 = .ok (.putfield 29, 3) := by decide +kernel
theorem dX1_refresh_26 : decode cX1_refresh 26 = .ok (.aload_n 0, 1) := by decide +kernel
theorem dX1_refresh_27 : decode cX1_refresh 27 = .ok (.invokevirtual 41, 3) := by decide +kernel
theorem dX1_refresh_30 : decode cX1_refresh 30 = .ok (.aload_n 0, 1) := by decide +kernel
theorem dX1_refresh_31 : decode cX1_refresh 31 = .ok (.invokevirtual 44, 3) := by decide +kernel
theorem dX1_refresh_34 : decode cX1_refresh 34 = .ok (.return_, 1) := by decide +kernel
theorem dX1_fateAt_0 : decode cX1_fateAt 0 = .ok (.aload_n 0, 1) := by decide +kernel
theorem dX1_fateAt_1 : decode cX1_fateAt 1 = .ok (.getfield 32, 3) := by decide +kernel
theorem dX1_fateAt_4 : decode cX1_fateAt 4 = .ok (.iload_n 1, 1) := by decide +kernel
theorem dX1_fateAt_5 : decode cX1_fateAt 5 = .ok (.iload_n 2, 1) := by decide +kernel
theorem dX1_fateAt_6 : decode cX1_fateAt 6 = .ok (.invokevirtual 47, 3) := by decide +kernel
theorem dX1_fateAt_9 : decode cX1_fateAt 9 = .ok (.ifCond .eq 17, 3) := by decide +kernel
theorem dX1_fateAt_12 : decode cX1_fateAt 12 = .ok (.aload_n 0, 1) := by decide +kernel
theorem dX1_fateAt_13 : decode cX1_fateAt 13 = .ok (.getfield 9, 3) := by decide +kernel
theorem dX1_fateAt_16 : decode cX1_fateAt 16 = .ok (.iload_n 2, 1) := by decide +kernel
theorem dX1_fateAt_17 : decode cX1_fateAt 17 = .ok (.bipush 12, 2) := by decide +kernel
theorem dX1_fateAt_19 : decode cX1_fateAt 19 = .ok (.imul, 1) := by decide +kernel
theorem dX1_fateAt_20 : decode cX1_fateAt 20 = .ok (.iload_n 1, 1) := by decide +kernel
theorem dX1_fateAt_21 : decode cX1_fateAt 21 = .ok (.iadd, 1) := by decide +kernel
theorem dX1_fateAt_22 : decode cX1_fateAt 22 = .ok (.iaload, 1) := by decide +kernel
theorem dX1_fateAt_23 : decode cX1_fateAt 23 = .ok (.goto 4, 3) := by decide +kernel
theorem dX1_fateAt_26 : decode cX1_fateAt 26 = .ok (.iconst 0, 1) := by decide +kernel
theorem dX1_fateAt_27 : decode cX1_fateAt 27 = .ok (.ireturn, 1) := by decide +kernel
theorem dX1_howMany_0 : decode cX1_howMany 0 = .ok (.iconst 0, 1) := by decide +kernel
theorem dX1_howMany_1 : decode cX1_howMany 1 = .ok (.istore_n 2, 1) := by decide +kernel
theorem dX1_howMany_2 : decode cX1_howMany 2 = .ok (.iconst 0, 1) := by decide +kernel
theorem dX1_howMany_3 : decode cX1_howMany 3 = .ok (.istore_n 3, 1) := by decide +kernel
theorem dX1_howMany_4 : decode cX1_howMany 4 = .ok (.iload_n 3, 1) := by decide +kernel
theorem dX1_howMany_5 : decode cX1_howMany 5 = .ok (.aload_n 0, 1) := by decide +kernel
theorem dX1_howMany_6 : decode cX1_howMany 6 = .ok (.getfield 32, 3) := by decide +kernel
theorem dX1_howMany_9 : decode cX1_howMany 9 = .ok (.invokevirtual 51, 3) := by decide +kernel
theorem dX1_howMany_12 : decode cX1_howMany 12 = .ok (.if_icmp .ge 44, 3) := by decide +kernel
theorem dX1_howMany_15 : decode cX1_howMany 15 = .ok (.iconst 0, 1) := by decide +kernel
theorem dX1_howMany_16 : decode cX1_howMany 16 = .ok (.istore 4, 2) := by decide +kernel
theorem dX1_howMany_18 : decode cX1_howMany 18 = .ok (.iload 4, 2) := by decide +kernel
theorem dX1_howMany_20 : decode cX1_howMany 20 = .ok (.aload_n 0, 1) := by decide +kernel
theorem dX1_howMany_21 : decode cX1_howMany 21 = .ok (.getfield 32, 3) := by decide +kernel
theorem dX1_howMany_24 : decode cX1_howMany 24 = .ok (.invokevirtual 54, 3) := by decide +kernel
theorem dX1_howMany_27 : decode cX1_howMany 27 = .ok (.if_icmp .ge 23, 3) := by decide +kernel
theorem dX1_howMany_30 : decode cX1_howMany 30 = .ok (.aload_n 0, 1) := by decide +kernel
theorem dX1_howMany_31 : decode cX1_howMany 31 = .ok (.iload 4, 2) := by decide +kernel
theorem dX1_howMany_33 : decode cX1_howMany 33 = .ok (.iload_n 3, 1) := by decide +kernel
theorem dX1_howMany_34 : decode cX1_howMany 34 = .ok (.invokevirtual 57, 3) := by decide +kernel
theorem dX1_howMany_37 : decode cX1_howMany 37 = .ok (.iload_n 1, 1) := by decide +kernel
theorem dX1_howMany_38 : decode cX1_howMany 38 = .ok (.if_icmp .ne 6, 3) := by decide +kernel
theorem dX1_howMany_41 : decode cX1_howMany 41 = .ok (.iinc 2 1, 3) := by decide +kernel
theorem dX1_howMany_44 : decode cX1_howMany 44 = .ok (.iinc 4 1, 3) := by decide +kernel
theorem dX1_howMany_47 : decode cX1_howMany 47 = .ok (.goto (-29), 3) := by decide +kernel
theorem dX1_howMany_50 : decode cX1_howMany 50 = .ok (.iinc 3 1, 3) := by decide +kernel
theorem dX1_howMany_53 : decode cX1_howMany 53 = .ok (.goto (-49), 3) := by decide +kernel
theorem dX1_howMany_56 : decode cX1_howMany 56 = .ok (.iload_n 2, 1) := by decide +kernel
theorem dX1_howMany_57 : decode cX1_howMany 57 = .ok (.ireturn, 1) := by decide +kernel
theorem dX1_howManySpacers_0 : decode cX1_howManySpacers 0 = .ok (.aload_n 0, 1) := by decide +kernel
theorem dX1_howManySpacers_1 : decode cX1_howManySpacers 1 = .ok (.getfield 32, 3) := by decide +kernel
theorem dX1_howManySpacers_4 : decode cX1_howManySpacers 4 = .ok (.iconst 2, 1) := by decide +kernel
theorem dX1_howManySpacers_5 : decode cX1_howManySpacers 5 = .ok (.iconst 2, 1) := by decide +kernel
theorem dX1_howManySpacers_6 : decode cX1_howManySpacers 6 = .ok (.invokevirtual 61, 3) := by decide +kernel
theorem dX1_howManySpacers_9 : decode cX1_howManySpacers 9 = .ok (.ireturn, 1) := by decide +kernel
theorem dX1_howManyCores_0 : decode cX1_howManyCores 0 = .ok (.aload_n 0, 1) := by decide +kernel
theorem dX1_howManyCores_1 : decode cX1_howManyCores 1 = .ok (.getfield 32, 3) := by decide +kernel
theorem dX1_howManyCores_4 : decode cX1_howManyCores 4 = .ok (.iconst 1, 1) := by decide +kernel
theorem dX1_howManyCores_5 : decode cX1_howManyCores 5 = .ok (.iconst 1, 1) := by decide +kernel
theorem dX1_howManyCores_6 : decode cX1_howManyCores 6 = .ok (.invokevirtual 61, 3) := by decide +kernel
theorem dX1_howManyCores_9 : decode cX1_howManyCores 9 = .ok (.ireturn, 1) := by decide +kernel
theorem dX1_canMend_0 : decode cX1_canMend 0 = .ok (.aload_n 0, 1) := by decide +kernel
theorem dX1_canMend_1 : decode cX1_canMend 1 = .ok (.iload_n 1, 1) := by decide +kernel
theorem dX1_canMend_2 : decode cX1_canMend 2 = .ok (.iload_n 2, 1) := by decide +kernel
theorem dX1_canMend_3 : decode cX1_canMend 3 = .ok (.invokevirtual 57, 3) := by decide +kernel
theorem dX1_canMend_6 : decode cX1_canMend 6 = .ok (.istore_n 3, 1) := by decide +kernel
theorem dX1_canMend_7 : decode cX1_canMend 7 = .ok (.iload_n 3, 1) := by decide +kernel
theorem dX1_canMend_8 : decode cX1_canMend 8 = .ok (.iconst 2, 1) := by decide +kernel
theorem dX1_canMend_9 : decode cX1_canMend 9 = .ok (.if_icmp .eq 10, 3) := by decide +kernel
theorem dX1_canMend_12 : decode cX1_canMend 12 = .ok (.iload_n 3, 1) := by decide +kernel
theorem dX1_canMend_13 : decode cX1_canMend 13 = .ok (.iconst 3, 1) := by decide +kernel
theorem dX1_canMend_14 : decode cX1_canMend 14 = .ok (.if_icmp .eq 5, 3) := by decide +kernel
theorem dX1_canMend_17 : decode cX1_canMend 17 = .ok (.iconst 0, 1) := by decide +kernel
theorem dX1_canMend_18 : decode cX1_canMend 18 = .ok (.ireturn, 1) := by decide +kernel
theorem dX1_canMend_19 : decode cX1_canMend 19 = .ok (.iconst 0, 1) := by decide +kernel
theorem dX1_canMend_20 : decode cX1_canMend 20 = .ok (.istore 4, 2) := by decide +kernel
theorem dX1_canMend_22 : decode cX1_canMend 22 = .ok (.iload 4, 2) := by decide +kernel
theorem dX1_canMend_24 : decode cX1_canMend 24 = .ok (.iconst 4, 1) := by decide +kernel
theorem dX1_canMend_25 : decode cX1_canMend 25 = .ok (.if_icmp .ge 34, 3) := by decide +kernel
theorem dX1_canMend_28 : decode cX1_canMend 28 = .ok (.aload_n 0, 1) := by decide +kernel
theorem dX1_canMend_29 : decode cX1_canMend 29 = .ok (.iload_n 1, 1) := by decide +kernel
theorem dX1_canMend_30 : decode cX1_canMend 30 = .ok (.getstatic 64, 3) := by decide +kernel
theorem dX1_canMend_33 : decode cX1_canMend 33 = .ok (.iload 4, 2) := by decide +kernel
theorem dX1_canMend_35 : decode cX1_canMend 35 = .ok (.iaload, 1) := by decide +kernel
theorem dX1_canMend_36 : decode cX1_canMend 36 = .ok (.iadd, 1) := by decide +kernel
theorem dX1_canMend_37 : decode cX1_canMend 37 = .ok (.iload_n 2, 1) := by decide +kernel
theorem dX1_canMend_38 : decode cX1_canMend 38 = .ok (.getstatic 67, 3) := by decide +kernel
theorem dX1_canMend_41 : decode cX1_canMend 41 = .ok (.iload 4, 2) := by decide +kernel
theorem dX1_canMend_43 : decode cX1_canMend 43 = .ok (.iaload, 1) := by decide +kernel
theorem dX1_canMend_44 : decode cX1_canMend 44 = .ok (.iadd, 1) := by decide +kernel
theorem dX1_canMend_45 : decode cX1_canMend 45 = .ok (.invokevirtual 70, 3) := by decide +kernel
theorem dX1_canMend_48 : decode cX1_canMend 48 = .ok (.ifCond .eq 5, 3) := by decide +kernel
theorem dX1_canMend_51 : decode cX1_canMend 51 = .ok (.iconst 1, 1) := by decide +kernel
theorem dX1_canMend_52 : decode cX1_canMend 52 = .ok (.ireturn, 1) := by decide +kernel
theorem dX1_canMend_53 : decode cX1_canMend 53 = .ok (.iinc 4 1, 3) := by decide +kernel
theorem dX1_canMend_56 : decode cX1_canMend 56 = .ok (.goto (-34), 3) := by decide +kernel
theorem dX1_canMend_59 : decode cX1_canMend 59 = .ok (.iconst 0, 1) := by decide +kernel
theorem dX1_canMend_60 : decode cX1_canMend 60 = .ok (.ireturn, 1) := by decide +kernel
theorem dX1_mend_0 : decode cX1_mend 0 = .ok (.aload_n 0, 1) := by decide +kernel
theorem dX1_mend_1 : decode cX1_mend 1 = .ok (.getfield 32, 3) := by decide +kernel
theorem dX1_mend_4 : decode cX1_mend 4 = .ok (.iload_n 1, 1) := by decide +kernel
theorem dX1_mend_5 : decode cX1_mend 5 = .ok (.iload_n 2, 1) := by decide +kernel
theorem dX1_mend_6 : decode cX1_mend 6 = .ok (.invokevirtual 47, 3) := by decide +kernel
theorem dX1_mend_9 : decode cX1_mend 9 = .ok (.ifCond .eq 15, 3) := by decide +kernel
theorem dX1_mend_12 : decode cX1_mend 12 = .ok (.aload_n 0, 1) := by decide +kernel
theorem dX1_mend_13 : decode cX1_mend 13 = .ok (.getfield 9, 3) := by decide +kernel
theorem dX1_mend_16 : decode cX1_mend 16 = .ok (.iload_n 2, 1) := by decide +kernel
theorem dX1_mend_17 : decode cX1_mend 17 = .ok (.bipush 12, 2) := by decide +kernel
theorem dX1_mend_19 : decode cX1_mend 19 = .ok (.imul, 1) := by decide +kernel
theorem dX1_mend_20 : decode cX1_mend 20 = .ok (.iload_n 1, 1) := by decide +kernel
theorem dX1_mend_21 : decode cX1_mend 21 = .ok (.iadd, 1) := by decide +kernel
theorem dX1_mend_22 : decode cX1_mend 22 = .ok (.iconst 5, 1) := by decide +kernel
theorem dX1_mend_23 : decode cX1_mend 23 = .ok (.iastore, 1) := by decide +kernel
theorem dX1_mend_24 : decode cX1_mend 24 = .ok (.aload_n 0, 1) := by decide +kernel
theorem dX1_mend_25 : decode cX1_mend 25 = .ok (.iconst 5, 1) := by decide +kernel
theorem dX1_mend_26 : decode cX1_mend 26 = .ok (.invokevirtual 73, 3) := by decide +kernel
theorem dX1_mend_29 : decode cX1_mend 29 = .ok (.ireturn, 1) := by decide +kernel
theorem dX1_wallAt_0 : decode cX1_wallAt 0 = .ok (.aload_n 0, 1) := by decide +kernel
theorem dX1_wallAt_1 : decode cX1_wallAt 1 = .ok (.iload_n 1, 1) := by decide +kernel
theorem dX1_wallAt_2 : decode cX1_wallAt 2 = .ok (.iload_n 2, 1) := by decide +kernel
theorem dX1_wallAt_3 : decode cX1_wallAt 3 = .ok (.invokevirtual 70, 3) := by decide +kernel
theorem dX1_wallAt_6 : decode cX1_wallAt 6 = .ok (.ifCond .ne 5, 3) := by decide +kernel
theorem dX1_wallAt_9 : decode cX1_wallAt 9 = .ok (.iconst 0, 1) := by decide +kernel
theorem dX1_wallAt_10 : decode cX1_wallAt 10 = .ok (.ireturn, 1) := by decide +kernel
theorem dX1_wallAt_11 : decode cX1_wallAt 11 = .ok (.iconst 1, 1) := by decide +kernel
theorem dX1_wallAt_12 : decode cX1_wallAt 12 = .ok (.aload_n 0, 1) := by decide +kernel
theorem dX1_wallAt_13 : decode cX1_wallAt 13 = .ok (.iload_n 1, 1) := by decide +kernel
theorem dX1_wallAt_14 : decode cX1_wallAt 14 = .ok (.iload_n 2, 1) := by decide +kernel
theorem dX1_wallAt_15 : decode cX1_wallAt 15 = .ok (.iconst 0, 1) := by decide +kernel
theorem dX1_wallAt_16 : decode cX1_wallAt 16 = .ok (.invokevirtual 76, 3) := by decide +kernel
theorem dX1_wallAt_19 : decode cX1_wallAt 19 = .ok (.iadd, 1) := by decide +kernel
theorem dX1_wallAt_20 : decode cX1_wallAt 20 = .ok (.aload_n 0, 1) := by decide +kernel
theorem dX1_wallAt_21 : decode cX1_wallAt 21 = .ok (.iload_n 1, 1) := by decide +kernel
theorem dX1_wallAt_22 : decode cX1_wallAt 22 = .ok (.iload_n 2, 1) := by decide +kernel
theorem dX1_wallAt_23 : decode cX1_wallAt 23 = .ok (.iconst 2, 1) := by decide +kernel
theorem dX1_wallAt_24 : decode cX1_wallAt 24 = .ok (.invokevirtual 76, 3) := by decide +kernel
theorem dX1_wallAt_27 : decode cX1_wallAt 27 = .ok (.iadd, 1) := by decide +kernel
theorem dX1_wallAt_28 : decode cX1_wallAt 28 = .ok (.istore_n 3, 1) := by decide +kernel
theorem dX1_wallAt_29 : decode cX1_wallAt 29 = .ok (.iconst 1, 1) := by decide +kernel
theorem dX1_wallAt_30 : decode cX1_wallAt 30 = .ok (.aload_n 0, 1) := by decide +kernel
theorem dX1_wallAt_31 : decode cX1_wallAt 31 = .ok (.iload_n 1, 1) := by decide +kernel
theorem dX1_wallAt_32 : decode cX1_wallAt 32 = .ok (.iload_n 2, 1) := by decide +kernel
theorem dX1_wallAt_33 : decode cX1_wallAt 33 = .ok (.iconst 1, 1) := by decide +kernel
theorem dX1_wallAt_34 : decode cX1_wallAt 34 = .ok (.invokevirtual 76, 3) := by decide +kernel
theorem dX1_wallAt_37 : decode cX1_wallAt 37 = .ok (.iadd, 1) := by decide +kernel
theorem dX1_wallAt_38 : decode cX1_wallAt 38 = .ok (.aload_n 0, 1) := by decide +kernel
theorem dX1_wallAt_39 : decode cX1_wallAt 39 = .ok (.iload_n 1, 1) := by decide +kernel
theorem dX1_wallAt_40 : decode cX1_wallAt 40 = .ok (.iload_n 2, 1) := by decide +kernel
theorem dX1_wallAt_41 : decode cX1_wallAt 41 = .ok (.iconst 3, 1) := by decide +kernel
theorem dX1_wallAt_42 : decode cX1_wallAt 42 = .ok (.invokevirtual 76, 3) := by decide +kernel
theorem dX1_wallAt_45 : decode cX1_wallAt 45 = .ok (.iadd, 1) := by decide +kernel
theorem dX1_wallAt_46 : decode cX1_wallAt 46 = .ok (.istore 4, 2) := by decide +kernel
theorem dX1_wallAt_48 : decode cX1_wallAt 48 = .ok (.iload_n 3, 1) := by decide +kernel
theorem dX1_wallAt_49 : decode cX1_wallAt 49 = .ok (.iload 4, 2) := by decide +kernel
theorem dX1_wallAt_51 : decode cX1_wallAt 51 = .ok (.invokestatic 80, 3) := by decide +kernel
theorem dX1_wallAt_54 : decode cX1_wallAt 54 = .ok (.ireturn, 1) := by decide +kernel
theorem dX1_leastWall_0 : decode cX1_leastWall 0 = .ok (.iconst 0, 1) := by decide +kernel
theorem dX1_leastWall_1 : decode cX1_leastWall 1 = .ok (.istore_n 1, 1) := by decide +kernel
theorem dX1_leastWall_2 : decode cX1_leastWall 2 = .ok (.iconst 0, 1) := by decide +kernel
theorem dX1_leastWall_3 : decode cX1_leastWall 3 = .ok (.istore_n 2, 1) := by decide +kernel
theorem dX1_leastWall_4 : decode cX1_leastWall 4 = .ok (.iload_n 2, 1) := by decide +kernel
theorem dX1_leastWall_5 : decode cX1_leastWall 5 = .ok (.aload_n 0, 1) := by decide +kernel
theorem dX1_leastWall_6 : decode cX1_leastWall 6 = .ok (.getfield 32, 3) := by decide +kernel
theorem dX1_leastWall_9 : decode cX1_leastWall 9 = .ok (.invokevirtual 51, 3) := by decide +kernel
theorem dX1_leastWall_12 : decode cX1_leastWall 12 = .ok (.if_icmp .ge 54, 3) := by decide +kernel
theorem dX1_leastWall_15 : decode cX1_leastWall 15 = .ok (.iconst 0, 1) := by decide +kernel
theorem dX1_leastWall_16 : decode cX1_leastWall 16 = .ok (.istore_n 3, 1) := by decide +kernel
theorem dX1_leastWall_17 : decode cX1_leastWall 17 = .ok (.iload_n 3, 1) := by decide +kernel
theorem dX1_leastWall_18 : decode cX1_leastWall 18 = .ok (.aload_n 0, 1) := by decide +kernel
theorem dX1_leastWall_19 : decode cX1_leastWall 19 = .ok (.getfield 32, 3) := by decide +kernel
theorem dX1_leastWall_22 : decode cX1_leastWall 22 = .ok (.invokevirtual 54, 3) := by decide +kernel
theorem dX1_leastWall_25 : decode cX1_leastWall 25 = .ok (.if_icmp .ge 35, 3) := by decide +kernel
theorem dX1_leastWall_28 : decode cX1_leastWall 28 = .ok (.aload_n 0, 1) := by decide +kernel
theorem dX1_leastWall_29 : decode cX1_leastWall 29 = .ok (.iload_n 3, 1) := by decide +kernel
theorem dX1_leastWall_30 : decode cX1_leastWall 30 = .ok (.iload_n 2, 1) := by decide +kernel
theorem dX1_leastWall_31 : decode cX1_leastWall 31 = .ok (.invokevirtual 85, 3) := by decide +kernel
theorem dX1_leastWall_34 : decode cX1_leastWall 34 = .ok (.istore 4, 2) := by decide +kernel
theorem dX1_leastWall_36 : decode cX1_leastWall 36 = .ok (.iload 4, 2) := by decide +kernel
theorem dX1_leastWall_38 : decode cX1_leastWall 38 = .ok (.ifCond .le 16, 3) := by decide +kernel
theorem dX1_leastWall_41 : decode cX1_leastWall 41 = .ok (.iload_n 1, 1) := by decide +kernel
theorem dX1_leastWall_42 : decode cX1_leastWall 42 = .ok (.ifCond .eq 9, 3) := by decide +kernel
theorem dX1_leastWall_45 : decode cX1_leastWall 45 = .ok (.iload 4, 2) := by decide +kernel
theorem dX1_leastWall_47 : decode cX1_leastWall 47 = .ok (.iload_n 1, 1) := by decide +kernel
theorem dX1_leastWall_48 : decode cX1_leastWall 48 = .ok (.if_icmp .ge 6, 3) := by decide +kernel
theorem dX1_leastWall_51 : decode cX1_leastWall 51 = .ok (.iload 4, 2) := by decide +kernel
theorem dX1_leastWall_53 : decode cX1_leastWall 53 = .ok (.istore_n 1, 1) := by decide +kernel
theorem dX1_leastWall_54 : decode cX1_leastWall 54 = .ok (.iinc 3 1, 3) := by decide +kernel
theorem dX1_leastWall_57 : decode cX1_leastWall 57 = .ok (.goto (-40), 3) := by decide +kernel
theorem dX1_leastWall_60 : decode cX1_leastWall 60 = .ok (.iinc 2 1, 3) := by decide +kernel
theorem dX1_leastWall_63 : decode cX1_leastWall 63 = .ok (.goto (-59), 3) := by decide +kernel
theorem dX1_leastWall_66 : decode cX1_leastWall 66 = .ok (.iload_n 1, 1) := by decide +kernel
theorem dX1_leastWall_67 : decode cX1_leastWall 67 = .ok (.ireturn, 1) := by decide +kernel
theorem dX1_isMetal_0 : decode cX1_isMetal 0 = .ok (.aload_n 0, 1) := by decide +kernel
theorem dX1_isMetal_1 : decode cX1_isMetal 1 = .ok (.iload_n 1, 1) := by decide +kernel
theorem dX1_isMetal_2 : decode cX1_isMetal 2 = .ok (.iload_n 2, 1) := by decide +kernel
theorem dX1_isMetal_3 : decode cX1_isMetal 3 = .ok (.invokevirtual 57, 3) := by decide +kernel
theorem dX1_isMetal_6 : decode cX1_isMetal 6 = .ok (.istore_n 3, 1) := by decide +kernel
theorem dX1_isMetal_7 : decode cX1_isMetal 7 = .ok (.iload_n 3, 1) := by decide +kernel
theorem dX1_isMetal_8 : decode cX1_isMetal 8 = .ok (.iconst 1, 1) := by decide +kernel
theorem dX1_isMetal_9 : decode cX1_isMetal 9 = .ok (.if_icmp .eq 8, 3) := by decide +kernel
theorem dX1_isMetal_12 : decode cX1_isMetal 12 = .ok (.iload_n 3, 1) := by decide +kernel
theorem dX1_isMetal_13 : decode cX1_isMetal 13 = .ok (.iconst 5, 1) := by decide +kernel
theorem dX1_isMetal_14 : decode cX1_isMetal 14 = .ok (.if_icmp .ne 7, 3) := by decide +kernel
theorem dX1_isMetal_17 : decode cX1_isMetal 17 = .ok (.iconst 1, 1) := by decide +kernel
theorem dX1_isMetal_18 : decode cX1_isMetal 18 = .ok (.goto 4, 3) := by decide +kernel
theorem dX1_isMetal_21 : decode cX1_isMetal 21 = .ok (.iconst 0, 1) := by decide +kernel
theorem dX1_isMetal_22 : decode cX1_isMetal 22 = .ok (.ireturn, 1) := by decide +kernel
theorem dX1_stretch_0 : decode cX1_stretch 0 = .ok (.iconst 0, 1) := by decide +kernel
theorem dX1_stretch_1 : decode cX1_stretch 1 = .ok (.istore 4, 2) := by decide +kernel
theorem dX1_stretch_3 : decode cX1_stretch 3 = .ok (.iconst 1, 1) := by decide +kernel
theorem dX1_stretch_4 : decode cX1_stretch 4 = .ok (.istore 5, 2) := by decide +kernel
theorem dX1_stretch_6 : decode cX1_stretch 6 = .ok (.iload 5, 2) := by decide +kernel
theorem dX1_stretch_8 : decode cX1_stretch 8 = .ok (.bipush 12, 2) := by decide +kernel
theorem dX1_stretch_10 : decode cX1_stretch 10 = .ok (.if_icmp .ge 42, 3) := by decide +kernel
theorem dX1_stretch_13 : decode cX1_stretch 13 = .ok (.aload_n 0, 1) := by decide +kernel
theorem dX1_stretch_14 : decode cX1_stretch 14 = .ok (.iload_n 1, 1) := by decide +kernel
theorem dX1_stretch_15 : decode cX1_stretch 15 = .ok (.iload 5, 2) := by decide +kernel
theorem dX1_stretch_17 : decode cX1_stretch 17 = .ok (.getstatic 64, 3) := by decide +kernel
theorem dX1_stretch_20 : decode cX1_stretch 20 = .ok (.iload_n 3, 1) := by decide +kernel
theorem dX1_stretch_21 : decode cX1_stretch 21 = .ok (.iaload, 1) := by decide +kernel
theorem dX1_stretch_22 : decode cX1_stretch 22 = .ok (.imul, 1) := by decide +kernel
theorem dX1_stretch_23 : decode cX1_stretch 23 = .ok (.iadd, 1) := by decide +kernel
theorem dX1_stretch_24 : decode cX1_stretch 24 = .ok (.iload_n 2, 1) := by decide +kernel
theorem dX1_stretch_25 : decode cX1_stretch 25 = .ok (.iload 5, 2) := by decide +kernel
theorem dX1_stretch_27 : decode cX1_stretch 27 = .ok (.getstatic 67, 3) := by decide +kernel
theorem dX1_stretch_30 : decode cX1_stretch 30 = .ok (.iload_n 3, 1) := by decide +kernel
theorem dX1_stretch_31 : decode cX1_stretch 31 = .ok (.iaload, 1) := by decide +kernel
theorem dX1_stretch_32 : decode cX1_stretch 32 = .ok (.imul, 1) := by decide +kernel
theorem dX1_stretch_33 : decode cX1_stretch 33 = .ok (.iadd, 1) := by decide +kernel
theorem dX1_stretch_34 : decode cX1_stretch 34 = .ok (.invokevirtual 70, 3) := by decide +kernel
theorem dX1_stretch_37 : decode cX1_stretch 37 = .ok (.ifCond .ne 6, 3) := by decide +kernel
theorem dX1_stretch_40 : decode cX1_stretch 40 = .ok (.goto 12, 3) := by decide +kernel
theorem dX1_stretch_43 : decode cX1_stretch 43 = .ok (.iinc 4 1, 3) := by decide +kernel
theorem dX1_stretch_46 : decode cX1_stretch 46 = .ok (.iinc 5 1, 3) := by decide +kernel
theorem dX1_stretch_49 : decode cX1_stretch 49 = .ok (.goto (-43), 3) := by decide +kernel
theorem dX1_stretch_52 : decode cX1_stretch 52 = .ok (.iload 4, 2) := by decide +kernel
theorem dX1_stretch_54 : decode cX1_stretch 54 = .ok (.ireturn, 1) := by decide +kernel
theorem dX1_letMetalCome_0 : decode cX1_letMetalCome 0 = .ok (.aload_n 0, 1) := by decide +kernel
theorem dX1_letMetalCome_1 : decode cX1_letMetalCome 1 = .ok (.invokevirtual 88, 3) := by decide +kernel
theorem dX1_letMetalCome_4 : decode cX1_letMetalCome 4 = .ok (.iconst 0, 1) := by decide +kernel
theorem dX1_letMetalCome_5 : decode cX1_letMetalCome 5 = .ok (.istore_n 1, 1) := by decide +kernel
theorem dX1_letMetalCome_6 : decode cX1_letMetalCome 6 = .ok (.iload_n 1, 1) := by decide +kernel
theorem dX1_letMetalCome_7 : decode cX1_letMetalCome 7 = .ok (.aload_n 0, 1) := by decide +kernel
theorem dX1_letMetalCome_8 : decode cX1_letMetalCome 8 = .ok (.getfield 32, 3) := by decide +kernel
theorem dX1_letMetalCome_11 : decode cX1_letMetalCome 11 = .ok (.invokevirtual 51, 3) := by decide +kernel
theorem dX1_letMetalCome_14 : decode cX1_letMetalCome 14 = .ok (.if_icmp .ge 47, 3) := by decide +kernel
theorem dX1_letMetalCome_17 : decode cX1_letMetalCome 17 = .ok (.iconst 0, 1) := by decide +kernel
theorem dX1_letMetalCome_18 : decode cX1_letMetalCome 18 = .ok (.istore_n 2, 1) := by decide +kernel
theorem dX1_letMetalCome_19 : decode cX1_letMetalCome 19 = .ok (.iload_n 2, 1) := by decide +kernel
theorem dX1_letMetalCome_20 : decode cX1_letMetalCome 20 = .ok (.aload_n 0, 1) := by decide +kernel
theorem dX1_letMetalCome_21 : decode cX1_letMetalCome 21 = .ok (.getfield 32, 3) := by decide +kernel
theorem dX1_letMetalCome_24 : decode cX1_letMetalCome 24 = .ok (.invokevirtual 54, 3) := by decide +kernel
theorem dX1_letMetalCome_27 : decode cX1_letMetalCome 27 = .ok (.if_icmp .ge 28, 3) := by decide +kernel
theorem dX1_letMetalCome_30 : decode cX1_letMetalCome 30 = .ok (.aload_n 0, 1) := by decide +kernel
theorem dX1_letMetalCome_31 : decode cX1_letMetalCome 31 = .ok (.getfield 32, 3) := by decide +kernel
theorem dX1_letMetalCome_34 : decode cX1_letMetalCome 34 = .ok (.iload_n 2, 1) := by decide +kernel
theorem dX1_letMetalCome_35 : decode cX1_letMetalCome 35 = .ok (.iload_n 1, 1) := by decide +kernel
theorem dX1_letMetalCome_36 : decode cX1_letMetalCome 36 = .ok (.invokevirtual 91, 3) := by decide +kernel
theorem dX1_letMetalCome_39 : decode cX1_letMetalCome 39 = .ok (.iconst 3, 1) := by decide +kernel
theorem dX1_letMetalCome_40 : decode cX1_letMetalCome 40 = .ok (.if_icmp .ne 9, 3) := by decide +kernel
theorem dX1_letMetalCome_43 : decode cX1_letMetalCome 43 = .ok (.aload_n 0, 1) := by decide +kernel
theorem dX1_letMetalCome_44 : decode cX1_letMetalCome 44 = .ok (.iload_n 2, 1) := by decide +kernel
theorem dX1_letMetalCome_45 : decode cX1_letMetalCome 45 = .ok (.iload_n 1, 1) := by decide +kernel
theorem dX1_letMetalCome_46 : decode cX1_letMetalCome 46 = .ok (.invokevirtual 94, 3) := by decide +kernel
theorem dX1_letMetalCome_49 : decode cX1_letMetalCome 49 = .ok (.iinc 2 1, 3) := by decide +kernel
theorem dX1_letMetalCome_52 : decode cX1_letMetalCome 52 = .ok (.goto (-33), 3) := by decide +kernel
theorem dX1_letMetalCome_55 : decode cX1_letMetalCome 55 = .ok (.iinc 1 1, 3) := by decide +kernel
theorem dX1_letMetalCome_58 : decode cX1_letMetalCome 58 = .ok (.goto (-52), 3) := by decide +kernel
theorem dX1_letMetalCome_61 : decode cX1_letMetalCome 61 = .ok (.aload_n 0, 1) := by decide +kernel
theorem dX1_letMetalCome_62 : decode cX1_letMetalCome 62 = .ok (.iconst 0, 1) := by decide +kernel
theorem dX1_letMetalCome_63 : decode cX1_letMetalCome 63 = .ok (.invokevirtual 98, 3) := by decide +kernel
theorem dX1_letMetalCome_66 : decode cX1_letMetalCome 66 = .ok (.iconst 0, 1) := by decide +kernel
theorem dX1_letMetalCome_67 : decode cX1_letMetalCome 67 = .ok (.istore_n 1, 1) := by decide +kernel
theorem dX1_letMetalCome_68 : decode cX1_letMetalCome 68 = .ok (.iload_n 1, 1) := by decide +kernel
theorem dX1_letMetalCome_69 : decode cX1_letMetalCome 69 = .ok (.aload_n 0, 1) := by decide +kernel
theorem dX1_letMetalCome_70 : decode cX1_letMetalCome 70 = .ok (.getfield 32, 3) := by decide +kernel
theorem dX1_letMetalCome_73 : decode cX1_letMetalCome 73 = .ok (.invokevirtual 51, 3) := by decide +kernel
theorem dX1_letMetalCome_76 : decode cX1_letMetalCome 76 = .ok (.if_icmp .ge 45, 3) := by decide +kernel
theorem dX1_letMetalCome_79 : decode cX1_letMetalCome 79 = .ok (.iconst 0, 1) := by decide +kernel
theorem dX1_letMetalCome_80 : decode cX1_letMetalCome 80 = .ok (.istore_n 2, 1) := by decide +kernel
theorem dX1_letMetalCome_81 : decode cX1_letMetalCome 81 = .ok (.iload_n 2, 1) := by decide +kernel
theorem dX1_letMetalCome_82 : decode cX1_letMetalCome 82 = .ok (.aload_n 0, 1) := by decide +kernel
theorem dX1_letMetalCome_83 : decode cX1_letMetalCome 83 = .ok (.getfield 32, 3) := by decide +kernel
theorem dX1_letMetalCome_86 : decode cX1_letMetalCome 86 = .ok (.invokevirtual 54, 3) := by decide +kernel
theorem dX1_letMetalCome_89 : decode cX1_letMetalCome 89 = .ok (.if_icmp .ge 26, 3) := by decide +kernel
theorem dX1_letMetalCome_92 : decode cX1_letMetalCome 92 = .ok (.aload_n 0, 1) := by decide +kernel
theorem dX1_letMetalCome_93 : decode cX1_letMetalCome 93 = .ok (.getfield 9, 3) := by decide +kernel
theorem dX1_letMetalCome_96 : decode cX1_letMetalCome 96 = .ok (.iload_n 1, 1) := by decide +kernel
theorem dX1_letMetalCome_97 : decode cX1_letMetalCome 97 = .ok (.bipush 12, 2) := by decide +kernel
theorem dX1_letMetalCome_99 : decode cX1_letMetalCome 99 = .ok (.imul, 1) := by decide +kernel
theorem dX1_letMetalCome_100 : decode cX1_letMetalCome 100 = .ok (.iload_n 2, 1) := by decide +kernel
theorem dX1_letMetalCome_101 : decode cX1_letMetalCome 101 = .ok (.iadd, 1) := by decide +kernel
theorem dX1_letMetalCome_102 : decode cX1_letMetalCome 102 = .ok (.aload_n 0, 1) := by decide +kernel
theorem dX1_letMetalCome_103 : decode cX1_letMetalCome 103 = .ok (.iload_n 2, 1) := by decide +kernel
theorem dX1_letMetalCome_104 : decode cX1_letMetalCome 104 = .ok (.iload_n 1, 1) := by decide +kernel
theorem dX1_letMetalCome_105 : decode cX1_letMetalCome 105 = .ok (.invokevirtual 102, 3) := by decide +kernel
theorem dX1_letMetalCome_108 : decode cX1_letMetalCome 108 = .ok (.iastore, 1) := by decide +kernel
theorem dX1_letMetalCome_109 : decode cX1_letMetalCome 109 = .ok (.iinc 2 1, 3) := by decide +kernel
theorem dX1_letMetalCome_112 : decode cX1_letMetalCome 112 = .ok (.goto (-31), 3) := by decide +kernel
theorem dX1_letMetalCome_115 : decode cX1_letMetalCome 115 = .ok (.iinc 1 1, 3) := by decide +kernel
theorem dX1_letMetalCome_118 : decode cX1_letMetalCome 118 = .ok (.goto (-50), 3) := by decide +kernel
theorem dX1_letMetalCome_121 : decode cX1_letMetalCome 121 = .ok (.return_, 1) := by decide +kernel
theorem dX1_fateWithAir_0 : decode cX1_fateWithAir 0 = .ok (.aload_n 0, 1) := by decide +kernel
theorem dX1_fateWithAir_1 : decode cX1_fateWithAir 1 = .ok (.getfield 32, 3) := by decide +kernel
theorem dX1_fateWithAir_4 : decode cX1_fateWithAir 4 = .ok (.iload_n 1, 1) := by decide +kernel
theorem dX1_fateWithAir_5 : decode cX1_fateWithAir 5 = .ok (.iload_n 2, 1) := by decide +kernel
theorem dX1_fateWithAir_6 : decode cX1_fateWithAir 6 = .ok (.invokevirtual 105, 3) := by decide +kernel
theorem dX1_fateWithAir_9 : decode cX1_fateWithAir 9 = .ok (.ifCond .eq 18, 3) := by decide +kernel
theorem dX1_fateWithAir_12 : decode cX1_fateWithAir 12 = .ok (.aload_n 0, 1) := by decide +kernel
theorem dX1_fateWithAir_13 : decode cX1_fateWithAir 13 = .ok (.iload_n 1, 1) := by decide +kernel
theorem dX1_fateWithAir_14 : decode cX1_fateWithAir 14 = .ok (.iload_n 2, 1) := by decide +kernel
theorem dX1_fateWithAir_15 : decode cX1_fateWithAir 15 = .ok (.invokevirtual 108, 3) := by decide +kernel
theorem dX1_fateWithAir_18 : decode cX1_fateWithAir 18 = .ok (.ifCond .eq 7, 3) := by decide +kernel
theorem dX1_fateWithAir_21 : decode cX1_fateWithAir 21 = .ok (.iconst 3, 1) := by decide +kernel
theorem dX1_fateWithAir_22 : decode cX1_fateWithAir 22 = .ok (.goto 4, 3) := by decide +kernel
theorem dX1_fateWithAir_25 : decode cX1_fateWithAir 25 = .ok (.iconst 2, 1) := by decide +kernel
theorem dX1_fateWithAir_26 : decode cX1_fateWithAir 26 = .ok (.ireturn, 1) := by decide +kernel
theorem dX1_fateWithAir_27 : decode cX1_fateWithAir 27 = .ok (.aload_n 0, 1) := by decide +kernel
theorem dX1_fateWithAir_28 : decode cX1_fateWithAir 28 = .ok (.getfield 32, 3) := by decide +kernel
theorem dX1_fateWithAir_31 : decode cX1_fateWithAir 31 = .ok (.iload_n 1, 1) := by decide +kernel
theorem dX1_fateWithAir_32 : decode cX1_fateWithAir 32 = .ok (.iload_n 2, 1) := by decide +kernel
theorem dX1_fateWithAir_33 : decode cX1_fateWithAir 33 = .ok (.invokevirtual 91, 3) := by decide +kernel
theorem dX1_fateWithAir_36 : decode cX1_fateWithAir 36 = .ok (.iconst 2, 1) := by decide +kernel
theorem dX1_fateWithAir_37 : decode cX1_fateWithAir 37 = .ok (.if_icmp .ne 7, 3) := by decide +kernel
theorem dX1_fateWithAir_40 : decode cX1_fateWithAir 40 = .ok (.iconst 1, 1) := by decide +kernel
theorem dX1_fateWithAir_41 : decode cX1_fateWithAir 41 = .ok (.goto 4, 3) := by decide +kernel
theorem dX1_fateWithAir_44 : decode cX1_fateWithAir 44 = .ok (.iconst 0, 1) := by decide +kernel
theorem dX1_fateWithAir_45 : decode cX1_fateWithAir 45 = .ok (.ireturn, 1) := by decide +kernel
theorem dX1_letAirOut_0 : decode cX1_letAirOut 0 = .ok (.aload_n 0, 1) := by decide +kernel
theorem dX1_letAirOut_1 : decode cX1_letAirOut 1 = .ok (.invokevirtual 88, 3) := by decide +kernel
theorem dX1_letAirOut_4 : decode cX1_letAirOut 4 = .ok (.aload_n 0, 1) := by decide +kernel
theorem dX1_letAirOut_5 : decode cX1_letAirOut 5 = .ok (.getfield 32, 3) := by decide +kernel
theorem dX1_letAirOut_8 : decode cX1_letAirOut 8 = .ok (.invokevirtual 51, 3) := by decide +kernel
theorem dX1_letAirOut_11 : decode cX1_letAirOut 11 = .ok (.iconst 1, 1) := by decide +kernel
theorem dX1_letAirOut_12 : decode cX1_letAirOut 12 = .ok (.isub, 1) := by decide +kernel
theorem dX1_letAirOut_13 : decode cX1_letAirOut 13 = .ok (.istore_n 1, 1) := by decide +kernel
theorem dX1_letAirOut_14 : decode cX1_letAirOut 14 = .ok (.iload_n 1, 1) := by decide +kernel
theorem dX1_letAirOut_15 : decode cX1_letAirOut 15 = .ok (.ifCond .lt 75, 3) := by decide +kernel
theorem dX1_letAirOut_18 : decode cX1_letAirOut 18 = .ok (.iconst 0, 1) := by decide +kernel
theorem dX1_letAirOut_19 : decode cX1_letAirOut 19 = .ok (.istore_n 2, 1) := by decide +kernel
theorem dX1_letAirOut_20 : decode cX1_letAirOut 20 = .ok (.iload_n 2, 1) := by decide +kernel
theorem dX1_letAirOut_21 : decode cX1_letAirOut 21 = .ok (.aload_n 0, 1) := by decide +kernel
theorem dX1_letAirOut_22 : decode cX1_letAirOut 22 = .ok (.getfield 32, 3) := by decide +kernel
theorem dX1_letAirOut_25 : decode cX1_letAirOut 25 = .ok (.invokevirtual 54, 3) := by decide +kernel
theorem dX1_letAirOut_28 : decode cX1_letAirOut 28 = .ok (.if_icmp .ge 46, 3) := by decide +kernel
theorem dX1_letAirOut_31 : decode cX1_letAirOut 31 = .ok (.aload_n 0, 1) := by decide +kernel
theorem dX1_letAirOut_32 : decode cX1_letAirOut 32 = .ok (.getfield 32, 3) := by decide +kernel
theorem dX1_letAirOut_35 : decode cX1_letAirOut 35 = .ok (.iload_n 2, 1) := by decide +kernel
theorem dX1_letAirOut_36 : decode cX1_letAirOut 36 = .ok (.iload_n 1, 1) := by decide +kernel
theorem dX1_letAirOut_37 : decode cX1_letAirOut 37 = .ok (.invokevirtual 91, 3) := by decide +kernel
theorem dX1_letAirOut_40 : decode cX1_letAirOut 40 = .ok (.istore_n 3, 1) := by decide +kernel
theorem dX1_letAirOut_41 : decode cX1_letAirOut 41 = .ok (.iload_n 3, 1) := by decide +kernel
theorem dX1_letAirOut_42 : decode cX1_letAirOut 42 = .ok (.iconst 3, 1) := by decide +kernel
theorem dX1_letAirOut_43 : decode cX1_letAirOut 43 = .ok (.if_icmp .eq 19, 3) := by decide +kernel
theorem dX1_letAirOut_46 : decode cX1_letAirOut 46 = .ok (.iload_n 3, 1) := by decide +kernel
theorem dX1_letAirOut_47 : decode cX1_letAirOut 47 = .ok (.iconst 4, 1) := by decide +kernel
theorem dX1_letAirOut_48 : decode cX1_letAirOut 48 = .ok (.if_icmp .eq 14, 3) := by decide +kernel
theorem dX1_letAirOut_51 : decode cX1_letAirOut 51 = .ok (.aload_n 0, 1) := by decide +kernel
theorem dX1_letAirOut_52 : decode cX1_letAirOut 52 = .ok (.iload_n 2, 1) := by decide +kernel
theorem dX1_letAirOut_53 : decode cX1_letAirOut 53 = .ok (.iload_n 1, 1) := by decide +kernel
theorem dX1_letAirOut_54 : decode cX1_letAirOut 54 = .ok (.iconst 1, 1) := by decide +kernel
theorem dX1_letAirOut_55 : decode cX1_letAirOut 55 = .ok (.iadd, 1) := by decide +kernel
theorem dX1_letAirOut_56 : decode cX1_letAirOut 56 = .ok (.invokevirtual 108, 3) := by decide +kernel
theorem dX1_letAirOut_59 : decode cX1_letAirOut 59 = .ok (.ifCond .eq 9, 3) := by decide +kernel
theorem dX1_letAirOut_62 : decode cX1_letAirOut 62 = .ok (.aload_n 0, 1) := by decide +kernel
theorem dX1_letAirOut_63 : decode cX1_letAirOut 63 = .ok (.iload_n 2, 1) := by decide +kernel
theorem dX1_letAirOut_64 : decode cX1_letAirOut 64 = .ok (.iload_n 1, 1) := by decide +kernel
theorem dX1_letAirOut_65 : decode cX1_letAirOut 65 = .ok (.invokevirtual 94, 3) := by decide +kernel
theorem dX1_letAirOut_68 : decode cX1_letAirOut 68 = .ok (.iinc 2 1, 3) := by decide +kernel
theorem dX1_letAirOut_71 : decode cX1_letAirOut 71 = .ok (.goto (-51), 3) := by decide +kernel
theorem dX1_letAirOut_74 : decode cX1_letAirOut 74 = .ok (.aload_n 0, 1) := by decide +kernel
theorem dX1_letAirOut_75 : decode cX1_letAirOut 75 = .ok (.iload_n 1, 1) := by decide +kernel
theorem dX1_letAirOut_76 : decode cX1_letAirOut 76 = .ok (.invokevirtual 98, 3) := by decide +kernel
theorem dX1_letAirOut_79 : decode cX1_letAirOut 79 = .ok (.aload_n 0, 1) := by decide +kernel
theorem dX1_letAirOut_80 : decode cX1_letAirOut 80 = .ok (.iload_n 1, 1) := by decide +kernel
theorem dX1_letAirOut_81 : decode cX1_letAirOut 81 = .ok (.invokevirtual 111, 3) := by decide +kernel
theorem dX1_letAirOut_84 : decode cX1_letAirOut 84 = .ok (.iinc 1 (-1), 3) := by decide +kernel
theorem dX1_letAirOut_87 : decode cX1_letAirOut 87 = .ok (.goto (-73), 3) := by decide +kernel
theorem dX1_letAirOut_90 : decode cX1_letAirOut 90 = .ok (.return_, 1) := by decide +kernel
theorem dX1_castRow_0 : decode cX1_castRow 0 = .ok (.iconst 0, 1) := by decide +kernel
theorem dX1_castRow_1 : decode cX1_castRow 1 = .ok (.istore_n 2, 1) := by decide +kernel
theorem dX1_castRow_2 : decode cX1_castRow 2 = .ok (.iload_n 2, 1) := by decide +kernel
theorem dX1_castRow_3 : decode cX1_castRow 3 = .ok (.aload_n 0, 1) := by decide +kernel
theorem dX1_castRow_4 : decode cX1_castRow 4 = .ok (.getfield 32, 3) := by decide +kernel
theorem dX1_castRow_7 : decode cX1_castRow 7 = .ok (.invokevirtual 54, 3) := by decide +kernel
theorem dX1_castRow_10 : decode cX1_castRow 10 = .ok (.if_icmp .ge 40, 3) := by decide +kernel
theorem dX1_castRow_13 : decode cX1_castRow 13 = .ok (.aload_n 0, 1) := by decide +kernel
theorem dX1_castRow_14 : decode cX1_castRow 14 = .ok (.iload_n 2, 1) := by decide +kernel
theorem dX1_castRow_15 : decode cX1_castRow 15 = .ok (.iload_n 1, 1) := by decide +kernel
theorem dX1_castRow_16 : decode cX1_castRow 16 = .ok (.invokevirtual 57, 3) := by decide +kernel
theorem dX1_castRow_19 : decode cX1_castRow 19 = .ok (.iconst 3, 1) := by decide +kernel
theorem dX1_castRow_20 : decode cX1_castRow 20 = .ok (.if_icmp .ne 24, 3) := by decide +kernel
theorem dX1_castRow_23 : decode cX1_castRow 23 = .ok (.aload_n 0, 1) := by decide +kernel
theorem dX1_castRow_24 : decode cX1_castRow 24 = .ok (.iload_n 2, 1) := by decide +kernel
theorem dX1_castRow_25 : decode cX1_castRow 25 = .ok (.iload_n 1, 1) := by decide +kernel
theorem dX1_castRow_26 : decode cX1_castRow 26 = .ok (.invokevirtual 108, 3) := by decide +kernel
theorem dX1_castRow_29 : decode cX1_castRow 29 = .ok (.ifCond .eq 15, 3) := by decide +kernel
theorem dX1_castRow_32 : decode cX1_castRow 32 = .ok (.aload_n 0, 1) := by decide +kernel
theorem dX1_castRow_33 : decode cX1_castRow 33 = .ok (.getfield 9, 3) := by decide +kernel
theorem dX1_castRow_36 : decode cX1_castRow 36 = .ok (.iload_n 1, 1) := by decide +kernel
theorem dX1_castRow_37 : decode cX1_castRow 37 = .ok (.bipush 12, 2) := by decide +kernel
theorem dX1_castRow_39 : decode cX1_castRow 39 = .ok (.imul, 1) := by decide +kernel
theorem dX1_castRow_40 : decode cX1_castRow 40 = .ok (.iload_n 2, 1) := by decide +kernel
theorem dX1_castRow_41 : decode cX1_castRow 41 = .ok (.iadd, 1) := by decide +kernel
theorem dX1_castRow_42 : decode cX1_castRow 42 = .ok (.iconst 1, 1) := by decide +kernel
theorem dX1_castRow_43 : decode cX1_castRow 43 = .ok (.iastore, 1) := by decide +kernel
theorem dX1_castRow_44 : decode cX1_castRow 44 = .ok (.iinc 2 1, 3) := by decide +kernel
theorem dX1_castRow_47 : decode cX1_castRow 47 = .ok (.goto (-45), 3) := by decide +kernel
theorem dX1_castRow_50 : decode cX1_castRow 50 = .ok (.return_, 1) := by decide +kernel
theorem dX1_startFlood_0 : decode cX1_startFlood 0 = .ok (.iconst 0, 1) := by decide +kernel
theorem dX1_startFlood_1 : decode cX1_startFlood 1 = .ok (.istore_n 1, 1) := by decide +kernel
theorem dX1_startFlood_2 : decode cX1_startFlood 2 = .ok (.iload_n 1, 1) := by decide +kernel
theorem dX1_startFlood_3 : decode cX1_startFlood 3 = .ok (.sipush 144, 3) := by decide +kernel
theorem dX1_startFlood_6 : decode cX1_startFlood 6 = .ok (.if_icmp .ge 16, 3) := by decide +kernel
theorem dX1_startFlood_9 : decode cX1_startFlood 9 = .ok (.aload_n 0, 1) := by decide +kernel
theorem dX1_startFlood_10 : decode cX1_startFlood 10 = .ok (.getfield 15, 3) := by decide +kernel
theorem dX1_startFlood_13 : decode cX1_startFlood 13 = .ok (.iload_n 1, 1) := by decide +kernel
theorem dX1_startFlood_14 : decode cX1_startFlood 14 = .ok (.iconst 0, 1) := by decide +kernel
theorem dX1_startFlood_15 : decode cX1_startFlood 15 = .ok (.bastore, 1) := by decide +kernel
theorem dX1_startFlood_16 : decode cX1_startFlood 16 = .ok (.iinc 1 1, 3) := by decide +kernel
theorem dX1_startFlood_19 : decode cX1_startFlood 19 = .ok (.goto (-17), 3) := by decide +kernel
theorem dX1_startFlood_22 : decode cX1_startFlood 22 = .ok (.aload_n 0, 1) := by decide +kernel
theorem dX1_startFlood_23 : decode cX1_startFlood 23 = .ok (.iconst 0, 1) := by decide +kernel
theorem dX1_startFlood_24 : decode cX1_startFlood 24 = .ok (.putfield 22, 3) := by decide +kernel
theorem dX1_startFlood_27 : decode cX1_startFlood 27 = .ok (.aload_n 0, 1) := by decide +kernel
theorem dX1_startFlood_28 : decode cX1_startFlood 28 = .ok (.iconst 0, 1) := by decide +kernel
theorem dX1_startFlood_29 : decode cX1_startFlood 29 = .ok (.putfield 26, 3) := by decide +kernel
theorem dX1_startFlood_32 : decode cX1_startFlood 32 = .ok (.return_, 1) := by decide +kernel
theorem dX1_isReached_0 : decode cX1_isReached 0 = .ok (.aload_n 0, 1) := by decide +kernel
theorem dX1_isReached_1 : decode cX1_isReached 1 = .ok (.getfield 32, 3) := by decide +kernel
theorem dX1_isReached_4 : decode cX1_isReached 4 = .ok (.iload_n 1, 1) := by decide +kernel
theorem dX1_isReached_5 : decode cX1_isReached 5 = .ok (.iload_n 2, 1) := by decide +kernel
theorem dX1_isReached_6 : decode cX1_isReached 6 = .ok (.invokevirtual 47, 3) := by decide +kernel
theorem dX1_isReached_9 : decode cX1_isReached 9 = .ok (.ifCond .eq 21, 3) := by decide +kernel
theorem dX1_isReached_12 : decode cX1_isReached 12 = .ok (.aload_n 0, 1) := by decide +kernel
theorem dX1_isReached_13 : decode cX1_isReached 13 = .ok (.getfield 15, 3) := by decide +kernel
theorem dX1_isReached_16 : decode cX1_isReached 16 = .ok (.iload_n 2, 1) := by decide +kernel
theorem dX1_isReached_17 : decode cX1_isReached 17 = .ok (.bipush 12, 2) := by decide +kernel
theorem dX1_isReached_19 : decode cX1_isReached 19 = .ok (.imul, 1) := by decide +kernel
theorem dX1_isReached_20 : decode cX1_isReached 20 = .ok (.iload_n 1, 1) := by decide +kernel
theorem dX1_isReached_21 : decode cX1_isReached 21 = .ok (.iadd, 1) := by decide +kernel
theorem dX1_isReached_22 : decode cX1_isReached 22 = .ok (.baload, 1) := by decide +kernel
theorem dX1_isReached_23 : decode cX1_isReached 23 = .ok (.ifCond .eq 7, 3) := by decide +kernel
theorem dX1_isReached_26 : decode cX1_isReached 26 = .ok (.iconst 1, 1) := by decide +kernel
theorem dX1_isReached_27 : decode cX1_isReached 27 = .ok (.goto 4, 3) := by decide +kernel
theorem dX1_isReached_30 : decode cX1_isReached 30 = .ok (.iconst 0, 1) := by decide +kernel
theorem dX1_isReached_31 : decode cX1_isReached 31 = .ok (.ireturn, 1) := by decide +kernel
theorem dX1_reach_0 : decode cX1_reach 0 = .ok (.aload_n 0, 1) := by decide +kernel
theorem dX1_reach_1 : decode cX1_reach 1 = .ok (.getfield 32, 3) := by decide +kernel
theorem dX1_reach_4 : decode cX1_reach 4 = .ok (.iload_n 1, 1) := by decide +kernel
theorem dX1_reach_5 : decode cX1_reach 5 = .ok (.iload_n 2, 1) := by decide +kernel
theorem dX1_reach_6 : decode cX1_reach 6 = .ok (.invokevirtual 105, 3) := by decide +kernel
theorem dX1_reach_9 : decode cX1_reach 9 = .ok (.ifCond .eq 22, 3) := by decide +kernel
theorem dX1_reach_12 : decode cX1_reach 12 = .ok (.aload_n 0, 1) := by decide +kernel
theorem dX1_reach_13 : decode cX1_reach 13 = .ok (.iload_n 1, 1) := by decide +kernel
theorem dX1_reach_14 : decode cX1_reach 14 = .ok (.iload_n 2, 1) := by decide +kernel
theorem dX1_reach_15 : decode cX1_reach 15 = .ok (.invokevirtual 108, 3) := by decide +kernel
theorem dX1_reach_18 : decode cX1_reach 18 = .ok (.ifCond .ne 13, 3) := by decide +kernel
theorem dX1_reach_21 : decode cX1_reach 21 = .ok (.aload_n 0, 1) := by decide +kernel
theorem dX1_reach_22 : decode cX1_reach 22 = .ok (.getfield 22, 3) := by decide +kernel
theorem dX1_reach_25 : decode cX1_reach 25 = .ok (.sipush 144, 3) := by decide +kernel
theorem dX1_reach_28 : decode cX1_reach 28 = .ok (.if_icmp .lt 4, 3) := by decide +kernel
theorem dX1_reach_31 : decode cX1_reach 31 = .ok (.return_, 1) := by decide +kernel
theorem dX1_reach_32 : decode cX1_reach 32 = .ok (.aload_n 0, 1) := by decide +kernel
theorem dX1_reach_33 : decode cX1_reach 33 = .ok (.getfield 15, 3) := by decide +kernel
theorem dX1_reach_36 : decode cX1_reach 36 = .ok (.iload_n 2, 1) := by decide +kernel
theorem dX1_reach_37 : decode cX1_reach 37 = .ok (.bipush 12, 2) := by decide +kernel
theorem dX1_reach_39 : decode cX1_reach 39 = .ok (.imul, 1) := by decide +kernel
theorem dX1_reach_40 : decode cX1_reach 40 = .ok (.iload_n 1, 1) := by decide +kernel
theorem dX1_reach_41 : decode cX1_reach 41 = .ok (.iadd, 1) := by decide +kernel
theorem dX1_reach_42 : decode cX1_reach 42 = .ok (.iconst 1, 1) := by decide +kernel
theorem dX1_reach_43 : decode cX1_reach 43 = .ok (.bastore, 1) := by decide +kernel
theorem dX1_reach_44 : decode cX1_reach 44 = .ok (.aload_n 0, 1) := by decide +kernel
theorem dX1_reach_45 : decode cX1_reach 45 = .ok (.getfield 19, 3) := by decide +kernel
theorem dX1_reach_48 : decode cX1_reach 48 = .ok (.aload_n 0, 1) := by decide +kernel
theorem dX1_reach_49 : decode cX1_reach 49 = .ok (.getfield 22, 3) := by decide +kernel
theorem dX1_reach_52 : decode cX1_reach 52 = .ok (.iload_n 2, 1) := by decide +kernel
theorem dX1_reach_53 : decode cX1_reach 53 = .ok (.bipush 12, 2) := by decide +kernel
theorem dX1_reach_55 : decode cX1_reach 55 = .ok (.imul, 1) := by decide +kernel
theorem dX1_reach_56 : decode cX1_reach 56 = .ok (.iload_n 1, 1) := by decide +kernel
theorem dX1_reach_57 : decode cX1_reach 57 = .ok (.iadd, 1) := by decide +kernel
theorem dX1_reach_58 : decode cX1_reach 58 = .ok (.iastore, 1) := by decide +kernel
theorem dX1_reach_59 : decode cX1_reach 59 = .ok (.aload_n 0, 1) := by decide +kernel
theorem dX1_reach_60 : decode cX1_reach 60 = .ok (.dup, 1) := by decide +kernel
theorem dX1_reach_61 : decode cX1_reach 61 = .ok (.getfield 22, 3) := by decide +kernel
theorem dX1_reach_64 : decode cX1_reach 64 = .ok (.iconst 1, 1) := by decide +kernel
theorem dX1_reach_65 : decode cX1_reach 65 = .ok (.iadd, 1) := by decide +kernel
theorem dX1_reach_66 : decode cX1_reach 66 = .ok (.putfield 22, 3) := by decide +kernel
theorem dX1_reach_69 : decode cX1_reach 69 = .ok (.return_, 1) := by decide +kernel
theorem dX1_flood_0 : decode cX1_flood 0 = .ok (.aload_n 0, 1) := by decide +kernel
theorem dX1_flood_1 : decode cX1_flood 1 = .ok (.getfield 26, 3) := by decide +kernel
theorem dX1_flood_4 : decode cX1_flood 4 = .ok (.aload_n 0, 1) := by decide +kernel
theorem dX1_flood_5 : decode cX1_flood 5 = .ok (.getfield 22, 3) := by decide +kernel
theorem dX1_flood_8 : decode cX1_flood 8 = .ok (.if_icmp .ge 99, 3) := by decide +kernel
theorem dX1_flood_11 : decode cX1_flood 11 = .ok (.aload_n 0, 1) := by decide +kernel
theorem dX1_flood_12 : decode cX1_flood 12 = .ok (.getfield 26, 3) := by decide +kernel
theorem dX1_flood_15 : decode cX1_flood 15 = .ok (.sipush 144, 3) := by decide +kernel
theorem dX1_flood_18 : decode cX1_flood 18 = .ok (.if_icmp .ge 89, 3) := by decide +kernel
theorem dX1_flood_21 : decode cX1_flood 21 = .ok (.aload_n 0, 1) := by decide +kernel
theorem dX1_flood_22 : decode cX1_flood 22 = .ok (.getfield 19, 3) := by decide +kernel
theorem dX1_flood_25 : decode cX1_flood 25 = .ok (.aload_n 0, 1) := by decide +kernel
theorem dX1_flood_26 : decode cX1_flood 26 = .ok (.getfield 26, 3) := by decide +kernel
theorem dX1_flood_29 : decode cX1_flood 29 = .ok (.iaload, 1) := by decide +kernel
theorem dX1_flood_30 : decode cX1_flood 30 = .ok (.bipush 12, 2) := by decide +kernel
theorem dX1_flood_32 : decode cX1_flood 32 = .ok (.irem, 1) := by decide +kernel
theorem dX1_flood_33 : decode cX1_flood 33 = .ok (.istore_n 2, 1) := by decide +kernel
theorem dX1_flood_34 : decode cX1_flood 34 = .ok (.aload_n 0, 1) := by decide +kernel
theorem dX1_flood_35 : decode cX1_flood 35 = .ok (.getfield 19, 3) := by decide +kernel
theorem dX1_flood_38 : decode cX1_flood 38 = .ok (.aload_n 0, 1) := by decide +kernel
theorem dX1_flood_39 : decode cX1_flood 39 = .ok (.getfield 26, 3) := by decide +kernel
theorem dX1_flood_42 : decode cX1_flood 42 = .ok (.iaload, 1) := by decide +kernel
theorem dX1_flood_43 : decode cX1_flood 43 = .ok (.bipush 12, 2) := by decide +kernel
theorem dX1_flood_45 : decode cX1_flood 45 = .ok (.idiv, 1) := by decide +kernel
theorem dX1_flood_46 : decode cX1_flood 46 = .ok (.istore_n 3, 1) := by decide +kernel
theorem dX1_flood_47 : decode cX1_flood 47 = .ok (.iconst 0, 1) := by decide +kernel
theorem dX1_flood_48 : decode cX1_flood 48 = .ok (.istore 4, 2) := by decide +kernel
theorem dX1_flood_50 : decode cX1_flood 50 = .ok (.iload 4, 2) := by decide +kernel
theorem dX1_flood_52 : decode cX1_flood 52 = .ok (.iconst 4, 1) := by decide +kernel
theorem dX1_flood_53 : decode cX1_flood 53 = .ok (.if_icmp .ge 41, 3) := by decide +kernel
theorem dX1_flood_56 : decode cX1_flood 56 = .ok (.iload_n 3, 1) := by decide +kernel
theorem dX1_flood_57 : decode cX1_flood 57 = .ok (.getstatic 67, 3) := by decide +kernel
theorem dX1_flood_60 : decode cX1_flood 60 = .ok (.iload 4, 2) := by decide +kernel
theorem dX1_flood_62 : decode cX1_flood 62 = .ok (.iaload, 1) := by decide +kernel
theorem dX1_flood_63 : decode cX1_flood 63 = .ok (.iadd, 1) := by decide +kernel
theorem dX1_flood_64 : decode cX1_flood 64 = .ok (.iload_n 1, 1) := by decide +kernel
theorem dX1_flood_65 : decode cX1_flood 65 = .ok (.if_icmp .lt 23, 3) := by decide +kernel
theorem dX1_flood_68 : decode cX1_flood 68 = .ok (.aload_n 0, 1) := by decide +kernel
theorem dX1_flood_69 : decode cX1_flood 69 = .ok (.iload_n 2, 1) := by decide +kernel
theorem dX1_flood_70 : decode cX1_flood 70 = .ok (.getstatic 64, 3) := by decide +kernel
theorem dX1_flood_73 : decode cX1_flood 73 = .ok (.iload 4, 2) := by decide +kernel
theorem dX1_flood_75 : decode cX1_flood 75 = .ok (.iaload, 1) := by decide +kernel
theorem dX1_flood_76 : decode cX1_flood 76 = .ok (.iadd, 1) := by decide +kernel
theorem dX1_flood_77 : decode cX1_flood 77 = .ok (.iload_n 3, 1) := by decide +kernel
theorem dX1_flood_78 : decode cX1_flood 78 = .ok (.getstatic 67, 3) := by decide +kernel
theorem dX1_flood_81 : decode cX1_flood 81 = .ok (.iload 4, 2) := by decide +kernel
theorem dX1_flood_83 : decode cX1_flood 83 = .ok (.iaload, 1) := by decide +kernel
theorem dX1_flood_84 : decode cX1_flood 84 = .ok (.iadd, 1) := by decide +kernel
theorem dX1_flood_85 : decode cX1_flood 85 = .ok (.invokevirtual 94, 3) := by decide +kernel
theorem dX1_flood_88 : decode cX1_flood 88 = .ok (.iinc 4 1, 3) := by decide +kernel
theorem dX1_flood_91 : decode cX1_flood 91 = .ok (.goto (-41), 3) := by decide +kernel
theorem dX1_flood_94 : decode cX1_flood 94 = .ok (.aload_n 0, 1) := by decide +kernel
theorem dX1_flood_95 : decode cX1_flood 95 = .ok (.dup, 1) := by decide +kernel
theorem dX1_flood_96 : decode cX1_flood 96 = .ok (.getfield 26, 3) := by decide +kernel
theorem dX1_flood_99 : decode cX1_flood 99 = .ok (.iconst 1, 1) := by decide +kernel
theorem dX1_flood_100 : decode cX1_flood 100 = .ok (.iadd, 1) := by decide +kernel
theorem dX1_flood_101 : decode cX1_flood 101 = .ok (.putfield 26, 3) := by decide +kernel
theorem dX1_flood_104 : decode cX1_flood 104 = .ok (.goto (-104), 3) := by decide +kernel
theorem dX1_flood_107 : decode cX1_flood 107 = .ok (.return_, 1) := by decide +kernel
theorem dX2_init_0 : decode cX2_init 0 = .ok (.aload_n 0, 1) := by decide +kernel
theorem dX2_init_1 : decode cX2_init 1 = .ok (.invokespecial 3, 3) := by decide +kernel
theorem dX2_init_4 : decode cX2_init 4 = .ok (.aload_n 0, 1) := by decide +kernel
theorem dX2_init_5 : decode cX2_init 5 = .ok (.sipush 144, 3) := by decide +kernel
theorem dX2_init_8 : decode cX2_init 8 = .ok (.newarray .int, 2) := by decide +kernel
theorem dX2_init_10 : decode cX2_init 10 = .ok (.putfield 9, 3) := by decide +kernel
theorem dX2_init_13 : decode cX2_init 13 = .ok (.aload_n 0, 1) := by decide +kernel
theorem dX2_init_14 : decode cX2_init 14 = .ok (.bipush 8, 2) := by decide +kernel
theorem dX2_init_16 : decode cX2_init 16 = .ok (.putfield 15, 3) := by decide +kernel
theorem dX2_init_19 : decode cX2_init 19 = .ok (.aload_n 0, 1) := by decide +kernel
theorem dX2_init_20 : decode cX2_init 20 = .ok (.bipush 8, 2) := by decide +kernel
theorem dX2_init_22 : decode cX2_init 22 = .ok (.putfield 19, 3) := by decide +kernel
theorem dX2_init_25 : decode cX2_init 25 = .ok (.aload_n 0, 1) := by decide +kernel
theorem dX2_init_26 : decode cX2_init 26 = .ok (.iconst 0, 1) := by decide +kernel
theorem dX2_init_27 : decode cX2_init 27 = .ok (.putfield 22, 3) := by decide +kernel
theorem dX2_init_30 : decode cX2_init 30 = .ok (.return_, 1) := by decide +kernel
theorem dX2_width_0 : decode cX2_width 0 = .ok (.aload_n 0, 1) := by decide +kernel
theorem dX2_width_1 : decode cX2_width 1 = .ok (.getfield 15, 3) := by decide +kernel
theorem dX2_width_4 : decode cX2_width 4 = .ok (.ireturn, 1) := by decide +kernel
theorem dX2_height_0 : decode cX2_height 0 = .ok (.aload_n 0, 1) := by decide +kernel
theorem dX2_height_1 : decode cX2_height 1 = .ok (.getfield 19, 3) := by decide +kernel
theorem dX2_height_4 : decode cX2_height 4 = .ok (.ireturn, 1) := by decide +kernel
theorem dX2_edition_0 : decode cX2_edition 0 = .ok (.aload_n 0, 1) := by decide +kernel
theorem dX2_edition_1 : decode cX2_edition 1 = .ok (.getfield 22, 3) := by decide +kernel
theorem dX2_edition_4 : decode cX2_edition 4 = .ok (.ireturn, 1) := by decide +kernel
theorem dX2_has_0 : decode cX2_has 0 = .ok (.iload_n 1, 1) := by decide +kernel
theorem dX2_has_1 : decode cX2_has 1 = .ok (.ifCond .lt 27, 3) := by decide +kernel
theorem dX2_has_4 : decode cX2_has 4 = .ok (.iload_n 1, 1) := by decide +kernel
theorem dX2_has_5 : decode cX2_has 5 = .ok (.aload_n 0, 1) := by decide +kernel
theorem dX2_has_6 : decode cX2_has 6 = .ok (.getfield 15, 3) := by decide +kernel
theorem dX2_has_9 : decode cX2_has 9 = .ok (.if_icmp .ge 19, 3) := by decide +kernel
theorem dX2_has_12 : decode cX2_has 12 = .ok (.iload_n 2, 1) := by decide +kernel
theorem dX2_has_13 : decode cX2_has 13 = .ok (.ifCond .lt 15, 3) := by decide +kernel
theorem dX2_has_16 : decode cX2_has 16 = .ok (.iload_n 2, 1) := by decide +kernel
theorem dX2_has_17 : decode cX2_has 17 = .ok (.aload_n 0, 1) := by decide +kernel
theorem dX2_has_18 : decode cX2_has 18 = .ok (.getfield 19, 3) := by decide +kernel
theorem dX2_has_21 : decode cX2_has 21 = .ok (.if_icmp .ge 7, 3) := by decide +kernel
theorem dX2_has_24 : decode cX2_has 24 = .ok (.iconst 1, 1) := by decide +kernel
theorem dX2_has_25 : decode cX2_has 25 = .ok (.goto 4, 3) := by decide +kernel
theorem dX2_has_28 : decode cX2_has 28 = .ok (.iconst 0, 1) := by decide +kernel
theorem dX2_has_29 : decode cX2_has 29 = .ok (.ireturn, 1) := by decide +kernel
theorem dX2_sortAt_0 : decode cX2_sortAt 0 = .ok (.aload_n 0, 1) := by decide +kernel
theorem dX2_sortAt_1 : decode cX2_sortAt 1 = .ok (.iload_n 1, 1) := by decide +kernel
theorem dX2_sortAt_2 : decode cX2_sortAt 2 = .ok (.iload_n 2, 1) := by decide +kernel
theorem dX2_sortAt_3 : decode cX2_sortAt 3 = .ok (.invokevirtual 25, 3) := by decide +kernel
theorem dX2_sortAt_6 : decode cX2_sortAt 6 = .ok (.ifCond .eq 17, 3) := by decide +kernel
theorem dX2_sortAt_9 : decode cX2_sortAt 9 = .ok (.aload_n 0, 1) := by decide +kernel
theorem dX2_sortAt_10 : decode cX2_sortAt 10 = .ok (.getfield 9, 3) := by decide +kernel
theorem dX2_sortAt_13 : decode cX2_sortAt 13 = .ok (.iload_n 2, 1) := by decide +kernel
theorem dX2_sortAt_14 : decode cX2_sortAt 14 = .ok (.bipush 12, 2) := by decide +kernel
theorem dX2_sortAt_16 : decode cX2_sortAt 16 = .ok (.imul, 1) := by decide +kernel
theorem dX2_sortAt_17 : decode cX2_sortAt 17 = .ok (.iload_n 1, 1) := by decide +kernel
theorem dX2_sortAt_18 : decode cX2_sortAt 18 = .ok (.iadd, 1) := by decide +kernel
theorem dX2_sortAt_19 : decode cX2_sortAt 19 = .ok (.iaload, 1) := by decide +kernel
theorem dX2_sortAt_20 : decode cX2_sortAt 20 = .ok (.goto 4, 3) := by decide +kernel
theorem dX2_sortAt_23 : decode cX2_sortAt 23 = .ok (.iconst (-1), 1) := by decide +kernel
theorem dX2_sortAt_24 : decode cX2_sortAt 24 = .ok (.ireturn, 1) := by decide +kernel
theorem dX2_isHollow_0 : decode cX2_isHollow 0 = .ok (.aload_n 0, 1) := by decide +kernel
theorem dX2_isHollow_1 : decode cX2_isHollow 1 = .ok (.iload_n 1, 1) := by decide +kernel
theorem dX2_isHollow_2 : decode cX2_isHollow 2 = .ok (.iload_n 2, 1) := by decide +kernel
theorem dX2_isHollow_3 : decode cX2_isHollow 3 = .ok (.invokevirtual 25, 3) := by decide +kernel
theorem dX2_isHollow_6 : decode cX2_isHollow 6 = .ok (.ifCond .ne 5, 3) := by decide +kernel
theorem dX2_isHollow_9 : decode cX2_isHollow 9 = .ok (.iconst 0, 1) := by decide +kernel
theorem dX2_isHollow_10 : decode cX2_isHollow 10 = .ok (.ireturn, 1) := by decide +kernel
theorem dX2_isHollow_11 : decode cX2_isHollow 11 = .ok (.aload_n 0, 1) := by decide +kernel
theorem dX2_isHollow_12 : decode cX2_isHollow 12 = .ok (.getfield 9, 3) := by decide +kernel
theorem dX2_isHollow_15 : decode cX2_isHollow 15 = .ok (.iload_n 2, 1) := by decide +kernel
theorem dX2_isHollow_16 : decode cX2_isHollow 16 = .ok (.bipush 12, 2) := by decide +kernel
theorem dX2_isHollow_18 : decode cX2_isHollow 18 = .ok (.imul, 1) := by decide +kernel
theorem dX2_isHollow_19 : decode cX2_isHollow 19 = .ok (.iload_n 1, 1) := by decide +kernel
theorem dX2_isHollow_20 : decode cX2_isHollow 20 = .ok (.iadd, 1) := by decide +kernel
theorem dX2_isHollow_21 : decode cX2_isHollow 21 = .ok (.iaload, 1) := by decide +kernel
theorem dX2_isHollow_22 : decode cX2_isHollow 22 = .ok (.istore_n 3, 1) := by decide +kernel
theorem dX2_isHollow_23 : decode cX2_isHollow 23 = .ok (.iload_n 3, 1) := by decide +kernel
theorem dX2_isHollow_24 : decode cX2_isHollow 24 = .ok (.ifCond .eq 13, 3) := by decide +kernel
theorem dX2_isHollow_27 : decode cX2_isHollow 27 = .ok (.iload_n 3, 1) := by decide +kernel
theorem dX2_isHollow_28 : decode cX2_isHollow 28 = .ok (.iconst 3, 1) := by decide +kernel
theorem dX2_isHollow_29 : decode cX2_isHollow 29 = .ok (.if_icmp .eq 8, 3) := by decide +kernel
theorem dX2_isHollow_32 : decode cX2_isHollow 32 = .ok (.iload_n 3, 1) := by decide +kernel
theorem dX2_isHollow_33 : decode cX2_isHollow 33 = .ok (.iconst 4, 1) := by decide +kernel
theorem dX2_isHollow_34 : decode cX2_isHollow 34 = .ok (.if_icmp .ne 7, 3) := by decide +kernel
theorem dX2_isHollow_37 : decode cX2_isHollow 37 = .ok (.iconst 1, 1) := by decide +kernel
theorem dX2_isHollow_38 : decode cX2_isHollow 38 = .ok (.goto 4, 3) := by decide +kernel
theorem dX2_isHollow_41 : decode cX2_isHollow 41 = .ok (.iconst 0, 1) := by decide +kernel
theorem dX2_isHollow_42 : decode cX2_isHollow 42 = .ok (.ireturn, 1) := by decide +kernel
theorem dX2_resize_0 : decode cX2_resize 0 = .ok (.aload_n 0, 1) := by decide +kernel
theorem dX2_resize_1 : decode cX2_resize 1 = .ok (.iload_n 1, 1) := by decide +kernel
theorem dX2_resize_2 : decode cX2_resize 2 = .ok (.putfield 15, 3) := by decide +kernel
theorem dX2_resize_5 : decode cX2_resize 5 = .ok (.aload_n 0, 1) := by decide +kernel
theorem dX2_resize_6 : decode cX2_resize 6 = .ok (.iload_n 2, 1) := by decide +kernel
theorem dX2_resize_7 : decode cX2_resize 7 = .ok (.putfield 19, 3) := by decide +kernel
theorem dX2_resize_10 : decode cX2_resize 10 = .ok (.aload_n 0, 1) := by decide +kernel
theorem dX2_resize_11 : decode cX2_resize 11 = .ok (.getfield 9, 3) := by decide +kernel
theorem dX2_resize_14 : decode cX2_resize 14 = .ok (.iconst 0, 1) := by decide +kernel
theorem dX2_resize_15 : decode cX2_resize 15 = .ok (.invokestatic 29, 3) := by decide +kernel
theorem dX2_resize_18 : decode cX2_resize 18 = .ok (.aload_n 0, 1) := by decide +kernel
theorem dX2_resize_19 : decode cX2_resize 19 = .ok (.dup, 1) := by decide +kernel
theorem dX2_resize_20 : decode cX2_resize 20 = .ok (.getfield 22, 3) := by decide +kernel
theorem dX2_resize_23 : decode cX2_resize 23 = .ok (.iconst 1, 1) := by decide +kernel
theorem dX2_resize_24 : decode cX2_resize 24 = .ok (.iadd, 1) := by decide +kernel
theorem dX2_resize_25 : decode cX2_resize 25 = .ok (.putfield 22, 3) := by decide +kernel
theorem dX2_resize_28 : decode cX2_resize 28 = .ok (.return_, 1) := by decide +kernel
theorem dX2_fill_0 : decode cX2_fill 0 = .ok (.aload_n 0, 1) := by decide +kernel
theorem dX2_fill_1 : decode cX2_fill 1 = .ok (.iload_n 1, 1) := by decide +kernel
theorem dX2_fill_2 : decode cX2_fill 2 = .ok (.iload_n 2, 1) := by decide +kernel
theorem dX2_fill_3 : decode cX2_fill 3 = .ok (.invokevirtual 25, 3) := by decide +kernel
theorem dX2_fill_6 : decode cX2_fill 6 = .ok (.ifCond .eq 13, 3) := by decide +kernel
theorem dX2_fill_9 : decode cX2_fill 9 = .ok (.aload_n 0, 1) := by decide +kernel
theorem dX2_fill_10 : decode cX2_fill 10 = .ok (.iload_n 3, 1) := by decide +kernel
theorem dX2_fill_11 : decode cX2_fill 11 = .ok (.iload 4, 2) := by decide +kernel
theorem dX2_fill_13 : decode cX2_fill 13 = .ok (.invokevirtual 25, 3) := by decide +kernel
theorem dX2_fill_16 : decode cX2_fill 16 = .ok (.ifCond .ne 5, 3) := by decide +kernel
theorem dX2_fill_19 : decode cX2_fill 19 = .ok (.iconst 0, 1) := by decide +kernel
theorem dX2_fill_20 : decode cX2_fill 20 = .ok (.ireturn, 1) := by decide +kernel
theorem dX2_fill_21 : decode cX2_fill 21 = .ok (.iconst 0, 1) := by decide +kernel
theorem dX2_fill_22 : decode cX2_fill 22 = .ok (.istore 6, 2) := by decide +kernel
theorem dX2_fill_24 : decode cX2_fill 24 = .ok (.iload_n 2, 1) := by decide +kernel
theorem dX2_fill_25 : decode cX2_fill 25 = .ok (.istore 7, 2) := by decide +kernel
theorem dX2_fill_27 : decode cX2_fill 27 = .ok (.iload 7, 2) := by decide +kernel
theorem dX2_fill_29 : decode cX2_fill 29 = .ok (.iload 4, 2) := by decide +kernel
theorem dX2_fill_31 : decode cX2_fill 31 = .ok (.if_icmp .gt 42, 3) := by decide +kernel
theorem dX2_fill_34 : decode cX2_fill 34 = .ok (.iload_n 1, 1) := by decide +kernel
theorem dX2_fill_35 : decode cX2_fill 35 = .ok (.istore 8, 2) := by decide +kernel
theorem dX2_fill_37 : decode cX2_fill 37 = .ok (.iload 8, 2) := by decide +kernel
theorem dX2_fill_39 : decode cX2_fill 39 = .ok (.iload_n 3, 1) := by decide +kernel
theorem dX2_fill_40 : decode cX2_fill 40 = .ok (.if_icmp .gt 27, 3) := by decide +kernel
theorem dX2_fill_43 : decode cX2_fill 43 = .ok (.aload_n 0, 1) := by decide +kernel
theorem dX2_fill_44 : decode cX2_fill 44 = .ok (.getfield 9, 3) := by decide +kernel
theorem dX2_fill_47 : decode cX2_fill 47 = .ok (.iload 7, 2) := by decide +kernel
theorem dX2_fill_49 : decode cX2_fill 49 = .ok (.bipush 12, 2) := by decide +kernel
theorem dX2_fill_51 : decode cX2_fill 51 = .ok (.imul, 1) := by decide +kernel
theorem dX2_fill_52 : decode cX2_fill 52 = .ok (.iload 8, 2) := by decide +kernel
theorem dX2_fill_54 : decode cX2_fill 54 = .ok (.iadd, 1) := by decide +kernel
theorem dX2_fill_55 : decode cX2_fill 55 = .ok (.iload 5, 2) := by decide +kernel
theorem dX2_fill_57 : decode cX2_fill 57 = .ok (.iastore, 1) := by decide +kernel
theorem dX2_fill_58 : decode cX2_fill 58 = .ok (.iinc 6 1, 3) := by decide +kernel
theorem dX2_fill_61 : decode cX2_fill 61 = .ok (.iinc 8 1, 3) := by decide +kernel
theorem dX2_fill_64 : decode cX2_fill 64 = .ok (.goto (-27), 3) := by decide +kernel
theorem dX2_fill_67 : decode cX2_fill 67 = .ok (.iinc 7 1, 3) := by decide +kernel
theorem dX2_fill_70 : decode cX2_fill 70 = .ok (.goto (-43), 3) := by decide +kernel
theorem dX2_fill_73 : decode cX2_fill 73 = .ok (.aload_n 0, 1) := by decide +kernel
theorem dX2_fill_74 : decode cX2_fill 74 = .ok (.dup, 1) := by decide +kernel
theorem dX2_fill_75 : decode cX2_fill 75 = .ok (.getfield 22, 3) := by decide +kernel
theorem dX2_fill_78 : decode cX2_fill 78 = .ok (.iconst 1, 1) := by decide +kernel
theorem dX2_fill_79 : decode cX2_fill 79 = .ok (.iadd, 1) := by decide +kernel
theorem dX2_fill_80 : decode cX2_fill 80 = .ok (.putfield 22, 3) := by decide +kernel
theorem dX2_fill_83 : decode cX2_fill 83 = .ok (.iload 6, 2) := by decide +kernel
theorem dX2_fill_85 : decode cX2_fill 85 = .ok (.ireturn, 1) := by decide +kernel
theorem dX2_howMany_0 : decode cX2_howMany 0 = .ok (.iconst 0, 1) := by decide +kernel
theorem dX2_howMany_1 : decode cX2_howMany 1 = .ok (.istore_n 3, 1) := by decide +kernel
theorem dX2_howMany_2 : decode cX2_howMany 2 = .ok (.iconst 0, 1) := by decide +kernel
theorem dX2_howMany_3 : decode cX2_howMany 3 = .ok (.istore 4, 2) := by decide +kernel
theorem dX2_howMany_5 : decode cX2_howMany 5 = .ok (.iload 4, 2) := by decide +kernel
theorem dX2_howMany_7 : decode cX2_howMany 7 = .ok (.aload_n 0, 1) := by decide +kernel
theorem dX2_howMany_8 : decode cX2_howMany 8 = .ok (.getfield 19, 3) := by decide +kernel
theorem dX2_howMany_11 : decode cX2_howMany 11 = .ok (.if_icmp .ge 52, 3) := by decide +kernel
theorem dX2_howMany_14 : decode cX2_howMany 14 = .ok (.iconst 0, 1) := by decide +kernel
theorem dX2_howMany_15 : decode cX2_howMany 15 = .ok (.istore 5, 2) := by decide +kernel
theorem dX2_howMany_17 : decode cX2_howMany 17 = .ok (.iload 5, 2) := by decide +kernel
theorem dX2_howMany_19 : decode cX2_howMany 19 = .ok (.aload_n 0, 1) := by decide +kernel
theorem dX2_howMany_20 : decode cX2_howMany 20 = .ok (.getfield 15, 3) := by decide +kernel
theorem dX2_howMany_23 : decode cX2_howMany 23 = .ok (.if_icmp .ge 34, 3) := by decide +kernel
theorem dX2_howMany_26 : decode cX2_howMany 26 = .ok (.aload_n 0, 1) := by decide +kernel
theorem dX2_howMany_27 : decode cX2_howMany 27 = .ok (.iload 5, 2) := by decide +kernel
theorem dX2_howMany_29 : decode cX2_howMany 29 = .ok (.iload 4, 2) := by decide +kernel
theorem dX2_howMany_31 : decode cX2_howMany 31 = .ok (.invokevirtual 35, 3) := by decide +kernel
theorem dX2_howMany_34 : decode cX2_howMany 34 = .ok (.istore 6, 2) := by decide +kernel
theorem dX2_howMany_36 : decode cX2_howMany 36 = .ok (.iload 6, 2) := by decide +kernel
theorem dX2_howMany_38 : decode cX2_howMany 38 = .ok (.iload_n 1, 1) := by decide +kernel
theorem dX2_howMany_39 : decode cX2_howMany 39 = .ok (.if_icmp .lt 12, 3) := by decide +kernel
theorem dX2_howMany_42 : decode cX2_howMany 42 = .ok (.iload 6, 2) := by decide +kernel
theorem dX2_howMany_44 : decode cX2_howMany 44 = .ok (.iload_n 2, 1) := by decide +kernel
theorem dX2_howMany_45 : decode cX2_howMany 45 = .ok (.if_icmp .gt 6, 3) := by decide +kernel
theorem dX2_howMany_48 : decode cX2_howMany 48 = .ok (.iinc 3 1, 3) := by decide +kernel
theorem dX2_howMany_51 : decode cX2_howMany 51 = .ok (.iinc 5 1, 3) := by decide +kernel
theorem dX2_howMany_54 : decode cX2_howMany 54 = .ok (.goto (-37), 3) := by decide +kernel
theorem dX2_howMany_57 : decode cX2_howMany 57 = .ok (.iinc 4 1, 3) := by decide +kernel
theorem dX2_howMany_60 : decode cX2_howMany 60 = .ok (.goto (-55), 3) := by decide +kernel
theorem dX2_howMany_63 : decode cX2_howMany 63 = .ok (.iload_n 3, 1) := by decide +kernel
theorem dX2_howMany_64 : decode cX2_howMany 64 = .ok (.ireturn, 1) := by decide +kernel
end
section
theorem dX3_init_0 : decode cX3_init 0 = .ok (.aload_n 0, 1) := by decide +kernel
theorem dX3_init_1 : decode cX3_init 1 = .ok (.invokespecial 3, 3) := by decide +kernel
theorem dX3_init_4 : decode cX3_init 4 = .ok (.aload_n 0, 1) := by decide +kernel
theorem dX3_init_5 : decode cX3_init 5 = .ok (.aload_n 1, 1) := by decide +kernel
theorem dX3_init_6 : decode cX3_init 6 = .ok (.putfield 9, 3) := by decide +kernel
theorem dX3_init_9 : decode cX3_init 9 = .ok (.aload_n 0, 1) := by decide +kernel
theorem dX3_init_10 : decode cX3_init 10 = .ok (.aload_n 2, 1) := by decide +kernel
theorem dX3_init_11 : decode cX3_init 11 = .ok (.putfield 15, 3) := by decide +kernel
theorem dX3_init_14 : decode cX3_init 14 = .ok (.aload_n 0, 1) := by decide +kernel
theorem dX3_init_15 : decode cX3_init 15 = .ok (.aload_n 3, 1) := by decide +kernel
theorem dX3_init_16 : decode cX3_init 16 = .ok (.putfield 19, 3) := by decide +kernel
theorem dX3_init_19 : decode cX3_init 19 = .ok (.return_, 1) := by decide +kernel
theorem dX3_isBroken_0 : decode cX3_isBroken 0 = .ok (.iload_n 1, 1) := by decide +kernel
theorem dX3_isBroken_1 : decode cX3_isBroken 1 = .ok (.tableswitch 207 0 8 #[51, 65, 79, 93, 110, 128, 146, 163, 180], 51) := by decide +kernel
theorem dX3_isBroken_52 : decode cX3_isBroken 52 = .ok (.aload_n 0, 1) := by decide +kernel
theorem dX3_isBroken_53 : decode cX3_isBroken 53 = .ok (.aload_n 0, 1) := by decide +kernel
theorem dX3_isBroken_54 : decode cX3_isBroken 54 = .ok (.getfield 19, 3) := by decide +kernel
theorem dX3_isBroken_57 : decode cX3_isBroken 57 = .ok (.invokevirtual 23, 3) := by decide +kernel
theorem dX3_isBroken_60 : decode cX3_isBroken 60 = .ok (.iload_n 2, 1) := by decide +kernel
theorem dX3_isBroken_61 : decode cX3_isBroken 61 = .ok (.iload_n 3, 1) := by decide +kernel
theorem dX3_isBroken_62 : decode cX3_isBroken 62 = .ok (.invokevirtual 29, 3) := by decide +kernel
theorem dX3_isBroken_65 : decode cX3_isBroken 65 = .ok (.ireturn, 1) := by decide +kernel
theorem dX3_isBroken_66 : decode cX3_isBroken 66 = .ok (.aload_n 0, 1) := by decide +kernel
theorem dX3_isBroken_67 : decode cX3_isBroken 67 = .ok (.aload_n 0, 1) := by decide +kernel
theorem dX3_isBroken_68 : decode cX3_isBroken 68 = .ok (.getfield 19, 3) := by decide +kernel
theorem dX3_isBroken_71 : decode cX3_isBroken 71 = .ok (.invokevirtual 33, 3) := by decide +kernel
theorem dX3_isBroken_74 : decode cX3_isBroken 74 = .ok (.iload_n 2, 1) := by decide +kernel
theorem dX3_isBroken_75 : decode cX3_isBroken 75 = .ok (.iload_n 3, 1) := by decide +kernel
theorem dX3_isBroken_76 : decode cX3_isBroken 76 = .ok (.invokevirtual 29, 3) := by decide +kernel
theorem dX3_isBroken_79 : decode cX3_isBroken 79 = .ok (.ireturn, 1) := by decide +kernel
theorem dX3_isBroken_80 : decode cX3_isBroken 80 = .ok (.aload_n 0, 1) := by decide +kernel
theorem dX3_isBroken_81 : decode cX3_isBroken 81 = .ok (.aload_n 0, 1) := by decide +kernel
theorem dX3_isBroken_82 : decode cX3_isBroken 82 = .ok (.getfield 19, 3) := by decide +kernel
theorem dX3_isBroken_85 : decode cX3_isBroken 85 = .ok (.invokevirtual 36, 3) := by decide +kernel
theorem dX3_isBroken_88 : decode cX3_isBroken 88 = .ok (.iload_n 2, 1) := by decide +kernel
theorem dX3_isBroken_89 : decode cX3_isBroken 89 = .ok (.iload_n 3, 1) := by decide +kernel
theorem dX3_isBroken_90 : decode cX3_isBroken 90 = .ok (.invokevirtual 29, 3) := by decide +kernel
theorem dX3_isBroken_93 : decode cX3_isBroken 93 = .ok (.ireturn, 1) := by decide +kernel
theorem dX3_isBroken_94 : decode cX3_isBroken 94 = .ok (.aload_n 0, 1) := by decide +kernel
theorem dX3_isBroken_95 : decode cX3_isBroken 95 = .ok (.getfield 9, 3) := by decide +kernel
theorem dX3_isBroken_98 : decode cX3_isBroken 98 = .ok (.invokevirtual 39, 3) := by decide +kernel
theorem dX3_isBroken_101 : decode cX3_isBroken 101 = .ok (.iload_n 2, 1) := by decide +kernel
theorem dX3_isBroken_102 : decode cX3_isBroken 102 = .ok (.if_icmp .ge 7, 3) := by decide +kernel
theorem dX3_isBroken_105 : decode cX3_isBroken 105 = .ok (.iconst 1, 1) := by decide +kernel
theorem dX3_isBroken_106 : decode cX3_isBroken 106 = .ok (.goto 4, 3) := by decide +kernel
theorem dX3_isBroken_109 : decode cX3_isBroken 109 = .ok (.iconst 0, 1) := by decide +kernel
theorem dX3_isBroken_110 : decode cX3_isBroken 110 = .ok (.ireturn, 1) := by decide +kernel
theorem dX3_isBroken_111 : decode cX3_isBroken 111 = .ok (.aload_n 0, 1) := by decide +kernel
theorem dX3_isBroken_112 : decode cX3_isBroken 112 = .ok (.getfield 9, 3) := by decide +kernel
theorem dX3_isBroken_115 : decode cX3_isBroken 115 = .ok (.iconst 3, 1) := by decide +kernel
theorem dX3_isBroken_116 : decode cX3_isBroken 116 = .ok (.invokevirtual 44, 3) := by decide +kernel
theorem dX3_isBroken_119 : decode cX3_isBroken 119 = .ok (.iload_n 2, 1) := by decide +kernel
theorem dX3_isBroken_120 : decode cX3_isBroken 120 = .ok (.if_icmp .le 7, 3) := by decide +kernel
theorem dX3_isBroken_123 : decode cX3_isBroken 123 = .ok (.iconst 1, 1) := by decide +kernel
theorem dX3_isBroken_124 : decode cX3_isBroken 124 = .ok (.goto 4, 3) := by decide +kernel
theorem dX3_isBroken_127 : decode cX3_isBroken 127 = .ok (.iconst 0, 1) := by decide +kernel
theorem dX3_isBroken_128 : decode cX3_isBroken 128 = .ok (.ireturn, 1) := by decide +kernel
theorem dX3_isBroken_129 : decode cX3_isBroken 129 = .ok (.aload_n 0, 1) := by decide +kernel
theorem dX3_isBroken_130 : decode cX3_isBroken 130 = .ok (.getfield 9, 3) := by decide +kernel
theorem dX3_isBroken_133 : decode cX3_isBroken 133 = .ok (.iconst 2, 1) := by decide +kernel
theorem dX3_isBroken_134 : decode cX3_isBroken 134 = .ok (.invokevirtual 44, 3) := by decide +kernel
theorem dX3_isBroken_137 : decode cX3_isBroken 137 = .ok (.iload_n 2, 1) := by decide +kernel
theorem dX3_isBroken_138 : decode cX3_isBroken 138 = .ok (.if_icmp .le 7, 3) := by decide +kernel
theorem dX3_isBroken_141 : decode cX3_isBroken 141 = .ok (.iconst 1, 1) := by decide +kernel
theorem dX3_isBroken_142 : decode cX3_isBroken 142 = .ok (.goto 4, 3) := by decide +kernel
theorem dX3_isBroken_145 : decode cX3_isBroken 145 = .ok (.iconst 0, 1) := by decide +kernel
theorem dX3_isBroken_146 : decode cX3_isBroken 146 = .ok (.ireturn, 1) := by decide +kernel
theorem dX3_isBroken_147 : decode cX3_isBroken 147 = .ok (.aload_n 0, 1) := by decide +kernel
theorem dX3_isBroken_148 : decode cX3_isBroken 148 = .ok (.getfield 15, 3) := by decide +kernel
theorem dX3_isBroken_151 : decode cX3_isBroken 151 = .ok (.invokevirtual 48, 3) := by decide +kernel
theorem dX3_isBroken_154 : decode cX3_isBroken 154 = .ok (.iload_n 2, 1) := by decide +kernel
theorem dX3_isBroken_155 : decode cX3_isBroken 155 = .ok (.if_icmp .le 7, 3) := by decide +kernel
theorem dX3_isBroken_158 : decode cX3_isBroken 158 = .ok (.iconst 1, 1) := by decide +kernel
theorem dX3_isBroken_159 : decode cX3_isBroken 159 = .ok (.goto 4, 3) := by decide +kernel
theorem dX3_isBroken_162 : decode cX3_isBroken 162 = .ok (.iconst 0, 1) := by decide +kernel
theorem dX3_isBroken_163 : decode cX3_isBroken 163 = .ok (.ireturn, 1) := by decide +kernel
theorem dX3_isBroken_164 : decode cX3_isBroken 164 = .ok (.aload_n 0, 1) := by decide +kernel
theorem dX3_isBroken_165 : decode cX3_isBroken 165 = .ok (.getfield 15, 3) := by decide +kernel
theorem dX3_isBroken_168 : decode cX3_isBroken 168 = .ok (.invokevirtual 53, 3) := by decide +kernel
theorem dX3_isBroken_171 : decode cX3_isBroken 171 = .ok (.iload_n 2, 1) := by decide +kernel
theorem dX3_isBroken_172 : decode cX3_isBroken 172 = .ok (.if_icmp .le 7, 3) := by decide +kernel
theorem dX3_isBroken_175 : decode cX3_isBroken 175 = .ok (.iconst 1, 1) := by decide +kernel
theorem dX3_isBroken_176 : decode cX3_isBroken 176 = .ok (.goto 4, 3) := by decide +kernel
theorem dX3_isBroken_179 : decode cX3_isBroken 179 = .ok (.iconst 0, 1) := by decide +kernel
theorem dX3_isBroken_180 : decode cX3_isBroken 180 = .ok (.ireturn, 1) := by decide +kernel
theorem dX3_isBroken_181 : decode cX3_isBroken 181 = .ok (.aload_n 0, 1) := by decide +kernel
theorem dX3_isBroken_182 : decode cX3_isBroken 182 = .ok (.getfield 9, 3) := by decide +kernel
theorem dX3_isBroken_185 : decode cX3_isBroken 185 = .ok (.invokevirtual 56, 3) := by decide +kernel
theorem dX3_isBroken_188 : decode cX3_isBroken 188 = .ok (.iload_n 3, 1) := by decide +kernel
theorem dX3_isBroken_189 : decode cX3_isBroken 189 = .ok (.imul, 1) := by decide +kernel
theorem dX3_isBroken_190 : decode cX3_isBroken 190 = .ok (.iload_n 2, 1) := by decide +kernel
theorem dX3_isBroken_191 : decode cX3_isBroken 191 = .ok (.aload_n 0, 1) := by decide +kernel
theorem dX3_isBroken_192 : decode cX3_isBroken 192 = .ok (.getfield 9, 3) := by decide +kernel
theorem dX3_isBroken_195 : decode cX3_isBroken 195 = .ok (.invokevirtual 59, 3) := by decide +kernel
theorem dX3_isBroken_198 : decode cX3_isBroken 198 = .ok (.imul, 1) := by decide +kernel
theorem dX3_isBroken_199 : decode cX3_isBroken 199 = .ok (.if_icmp .ge 7, 3) := by decide +kernel
theorem dX3_isBroken_202 : decode cX3_isBroken 202 = .ok (.iconst 1, 1) := by decide +kernel
theorem dX3_isBroken_203 : decode cX3_isBroken 203 = .ok (.goto 4, 3) := by decide +kernel
theorem dX3_isBroken_206 : decode cX3_isBroken 206 = .ok (.iconst 0, 1) := by decide +kernel
theorem dX3_isBroken_207 : decode cX3_isBroken 207 = .ok (.ireturn, 1) := by decide +kernel
theorem dX3_isBroken_208 : decode cX3_isBroken 208 = .ok (.iconst 0, 1) := by decide +kernel
theorem dX3_isBroken_209 : decode cX3_isBroken 209 = .ok (.ireturn, 1) := by decide +kernel
theorem dX3_isOutside_0 : decode cX3_isOutside 0 = .ok (.aload_n 0, 1) := by decide +kernel
theorem dX3_isOutside_1 : decode cX3_isOutside 1 = .ok (.getfield 19, 3) := by decide +kernel
theorem dX3_isOutside_4 : decode cX3_isOutside 4 = .ok (.invokevirtual 62, 3) := by decide +kernel
theorem dX3_isOutside_7 : decode cX3_isOutside 7 = .ok (.istore 4, 2) := by decide +kernel
theorem dX3_isOutside_9 : decode cX3_isOutside 9 = .ok (.iload 4, 2) := by decide +kernel
theorem dX3_isOutside_11 : decode cX3_isOutside 11 = .ok (.ifCond .eq 19, 3) := by decide +kernel
theorem dX3_isOutside_14 : decode cX3_isOutside 14 = .ok (.iload_n 1, 1) := by decide +kernel
theorem dX3_isOutside_15 : decode cX3_isOutside 15 = .ok (.iload_n 2, 1) := by decide +kernel
theorem dX3_isOutside_16 : decode cX3_isOutside 16 = .ok (.iload 4, 2) := by decide +kernel
theorem dX3_isOutside_18 : decode cX3_isOutside 18 = .ok (.imul, 1) := by decide +kernel
theorem dX3_isOutside_19 : decode cX3_isOutside 19 = .ok (.if_icmp .lt 11, 3) := by decide +kernel
theorem dX3_isOutside_22 : decode cX3_isOutside 22 = .ok (.iload_n 1, 1) := by decide +kernel
theorem dX3_isOutside_23 : decode cX3_isOutside 23 = .ok (.iload_n 3, 1) := by decide +kernel
theorem dX3_isOutside_24 : decode cX3_isOutside 24 = .ok (.iload 4, 2) := by decide +kernel
theorem dX3_isOutside_26 : decode cX3_isOutside 26 = .ok (.imul, 1) := by decide +kernel
theorem dX3_isOutside_27 : decode cX3_isOutside 27 = .ok (.if_icmp .le 7, 3) := by decide +kernel
theorem dX3_isOutside_30 : decode cX3_isOutside 30 = .ok (.iconst 1, 1) := by decide +kernel
theorem dX3_isOutside_31 : decode cX3_isOutside 31 = .ok (.goto 4, 3) := by decide +kernel
theorem dX3_isOutside_34 : decode cX3_isOutside 34 = .ok (.iconst 0, 1) := by decide +kernel
theorem dX3_isOutside_35 : decode cX3_isOutside 35 = .ok (.ireturn, 1) := by decide +kernel
theorem dX4_init_0 : decode cX4_init 0 = .ok (.aload_n 0, 1) := by decide +kernel
theorem dX4_init_1 : decode cX4_init 1 = .ok (.invokespecial 3, 3) := by decide +kernel
theorem dX4_init_4 : decode cX4_init 4 = .ok (.aload_n 0, 1) := by decide +kernel
theorem dX4_init_5 : decode cX4_init 5 = .ok (.bipush 6, 2) := by decide +kernel
theorem dX4_init_7 : decode cX4_init 7 = .ok (.newarray .int, 2) := by decide +kernel
theorem dX4_init_9 : decode cX4_init 9 = .ok (.putfield 9, 3) := by decide +kernel
theorem dX4_init_12 : decode cX4_init 12 = .ok (.aload_n 0, 1) := by decide +kernel
theorem dX4_init_13 : decode cX4_init 13 = .ok (.bipush 6, 2) := by decide +kernel
theorem dX4_init_15 : decode cX4_init 15 = .ok (.newarray .int, 2) := by decide +kernel
theorem dX4_init_17 : decode cX4_init 17 = .ok (.putfield 15, 3) := by decide +kernel
theorem dX4_init_20 : decode cX4_init 20 = .ok (.aload_n 0, 1) := by decide +kernel
theorem dX4_init_21 : decode cX4_init 21 = .ok (.bipush 6, 2) := by decide +kernel
theorem dX4_init_23 : decode cX4_init 23 = .ok (.newarray .int, 2) := by decide +kernel
theorem dX4_init_25 : decode cX4_init 25 = .ok (.putfield 18, 3) := by decide +kernel
theorem dX4_init_28 : decode cX4_init 28 = .ok (.aload_n 0, 1) := by decide +kernel
theorem dX4_init_29 : decode cX4_init 29 = .ok (.bipush 6, 2) := by decide +kernel
theorem dX4_init_31 : decode cX4_init 31 = .ok (.newarray .int, 2) := by decide +kernel
theorem dX4_init_33 : decode cX4_init 33 = .ok (.putfield 21, 3) := by decide +kernel
theorem dX4_init_36 : decode cX4_init 36 = .ok (.aload_n 0, 1) := by decide +kernel
theorem dX4_init_37 : decode cX4_init 37 = .ok (.iconst 0, 1) := by decide +kernel
theorem dX4_init_38 : decode cX4_init 38 = .ok (.putfield 24, 3) := by decide +kernel
theorem dX4_init_41 : decode cX4_init 41 = .ok (.return_, 1) := by decide +kernel
theorem dX4_length_0 : decode cX4_length 0 = .ok (.aload_n 0, 1) := by decide +kernel
theorem dX4_length_1 : decode cX4_length 1 = .ok (.getfield 24, 3) := by decide +kernel
theorem dX4_length_4 : decode cX4_length 4 = .ok (.ireturn, 1) := by decide +kernel
theorem dX4_isFull_0 : decode cX4_isFull 0 = .ok (.aload_n 0, 1) := by decide +kernel
theorem dX4_isFull_1 : decode cX4_isFull 1 = .ok (.getfield 24, 3) := by decide +kernel
theorem dX4_isFull_4 : decode cX4_isFull 4 = .ok (.bipush 6, 2) := by decide +kernel
theorem dX4_isFull_6 : decode cX4_isFull 6 = .ok (.if_icmp .lt 7, 3) := by decide +kernel
theorem dX4_isFull_9 : decode cX4_isFull 9 = .ok (.iconst 1, 1) := by decide +kernel
theorem dX4_isFull_10 : decode cX4_isFull 10 = .ok (.goto 4, 3) := by decide +kernel
theorem dX4_isFull_13 : decode cX4_isFull 13 = .ok (.iconst 0, 1) := by decide +kernel
theorem dX4_isFull_14 : decode cX4_isFull 14 = .ok (.ireturn, 1) := by decide +kernel
theorem dX4_has_0 : decode cX4_has 0 = .ok (.iload_n 1, 1) := by decide +kernel
theorem dX4_has_1 : decode cX4_has 1 = .ok (.ifCond .lt 21, 3) := by decide +kernel
theorem dX4_has_4 : decode cX4_has 4 = .ok (.iload_n 1, 1) := by decide +kernel
theorem dX4_has_5 : decode cX4_has 5 = .ok (.aload_n 0, 1) := by decide +kernel
theorem dX4_has_6 : decode cX4_has 6 = .ok (.getfield 24, 3) := by decide +kernel
theorem dX4_has_9 : decode cX4_has 9 = .ok (.if_icmp .ge 13, 3) := by decide +kernel
theorem dX4_has_12 : decode cX4_has 12 = .ok (.iload_n 1, 1) := by decide +kernel
theorem dX4_has_13 : decode cX4_has 13 = .ok (.bipush 6, 2) := by decide +kernel
theorem dX4_has_15 : decode cX4_has 15 = .ok (.if_icmp .ge 7, 3) := by decide +kernel
theorem dX4_has_18 : decode cX4_has 18 = .ok (.iconst 1, 1) := by decide +kernel
theorem dX4_has_19 : decode cX4_has 19 = .ok (.goto 4, 3) := by decide +kernel
theorem dX4_has_22 : decode cX4_has 22 = .ok (.iconst 0, 1) := by decide +kernel
theorem dX4_has_23 : decode cX4_has 23 = .ok (.ireturn, 1) := by decide +kernel
theorem dX4_add_0 : decode cX4_add 0 = .ok (.aload_n 0, 1) := by decide +kernel
theorem dX4_add_1 : decode cX4_add 1 = .ok (.invokevirtual 28, 3) := by decide +kernel
theorem dX4_add_4 : decode cX4_add 4 = .ok (.ifCond .eq 5, 3) := by decide +kernel
theorem dX4_add_7 : decode cX4_add 7 = .ok (.iconst (-1), 1) := by decide +kernel
theorem dX4_add_8 : decode cX4_add 8 = .ok (.ireturn, 1) := by decide +kernel
theorem dX4_add_9 : decode cX4_add 9 = .ok (.aload_n 0, 1) := by decide +kernel
theorem dX4_add_10 : decode cX4_add 10 = .ok (.getfield 9, 3) := by decide +kernel
theorem dX4_add_13 : decode cX4_add 13 = .ok (.aload_n 0, 1) := by decide +kernel
theorem dX4_add_14 : decode cX4_add 14 = .ok (.getfield 24, 3) := by decide +kernel
theorem dX4_add_17 : decode cX4_add 17 = .ok (.iload_n 1, 1) := by decide +kernel
theorem dX4_add_18 : decode cX4_add 18 = .ok (.iastore, 1) := by decide +kernel
theorem dX4_add_19 : decode cX4_add 19 = .ok (.aload_n 0, 1) := by decide +kernel
theorem dX4_add_20 : decode cX4_add 20 = .ok (.getfield 15, 3) := by decide +kernel
theorem dX4_add_23 : decode cX4_add 23 = .ok (.aload_n 0, 1) := by decide +kernel
theorem dX4_add_24 : decode cX4_add 24 = .ok (.getfield 24, 3) := by decide +kernel
theorem dX4_add_27 : decode cX4_add 27 = .ok (.iload_n 2, 1) := by decide +kernel
theorem dX4_add_28 : decode cX4_add 28 = .ok (.iastore, 1) := by decide +kernel
theorem dX4_add_29 : decode cX4_add 29 = .ok (.aload_n 0, 1) := by decide +kernel
theorem dX4_add_30 : decode cX4_add 30 = .ok (.getfield 18, 3) := by decide +kernel
theorem dX4_add_33 : decode cX4_add 33 = .ok (.aload_n 0, 1) := by decide +kernel
theorem dX4_add_34 : decode cX4_add 34 = .ok (.getfield 24, 3) := by decide +kernel
theorem dX4_add_37 : decode cX4_add 37 = .ok (.iload_n 3, 1) := by decide +kernel
theorem dX4_add_38 : decode cX4_add 38 = .ok (.iastore, 1) := by decide +kernel
theorem dX4_add_39 : decode cX4_add 39 = .ok (.aload_n 0, 1) := by decide +kernel
theorem dX4_add_40 : decode cX4_add 40 = .ok (.getfield 21, 3) := by decide +kernel
theorem dX4_add_43 : decode cX4_add 43 = .ok (.aload_n 0, 1) := by decide +kernel
theorem dX4_add_44 : decode cX4_add 44 = .ok (.getfield 24, 3) := by decide +kernel
theorem dX4_add_47 : decode cX4_add 47 = .ok (.iload 4, 2) := by decide +kernel
theorem dX4_add_49 : decode cX4_add 49 = .ok (.iastore, 1) := by decide +kernel
theorem dX4_add_50 : decode cX4_add 50 = .ok (.aload_n 0, 1) := by decide +kernel
theorem dX4_add_51 : decode cX4_add 51 = .ok (.dup, 1) := by decide +kernel
theorem dX4_add_52 : decode cX4_add 52 = .ok (.getfield 24, 3) := by decide +kernel
theorem dX4_add_55 : decode cX4_add 55 = .ok (.iconst 1, 1) := by decide +kernel
theorem dX4_add_56 : decode cX4_add 56 = .ok (.iadd, 1) := by decide +kernel
theorem dX4_add_57 : decode cX4_add 57 = .ok (.putfield 24, 3) := by decide +kernel
theorem dX4_add_60 : decode cX4_add 60 = .ok (.aload_n 0, 1) := by decide +kernel
theorem dX4_add_61 : decode cX4_add 61 = .ok (.getfield 24, 3) := by decide +kernel
theorem dX4_add_64 : decode cX4_add 64 = .ok (.iconst 1, 1) := by decide +kernel
theorem dX4_add_65 : decode cX4_add 65 = .ok (.isub, 1) := by decide +kernel
theorem dX4_add_66 : decode cX4_add 66 = .ok (.ireturn, 1) := by decide +kernel
theorem dX4_tinAt_0 : decode cX4_tinAt 0 = .ok (.aload_n 0, 1) := by decide +kernel
theorem dX4_tinAt_1 : decode cX4_tinAt 1 = .ok (.iload_n 1, 1) := by decide +kernel
theorem dX4_tinAt_2 : decode cX4_tinAt 2 = .ok (.invokevirtual 32, 3) := by decide +kernel
theorem dX4_tinAt_5 : decode cX4_tinAt 5 = .ok (.ifCond .eq 12, 3) := by decide +kernel
theorem dX4_tinAt_8 : decode cX4_tinAt 8 = .ok (.aload_n 0, 1) := by decide +kernel
theorem dX4_tinAt_9 : decode cX4_tinAt 9 = .ok (.getfield 9, 3) := by decide +kernel
theorem dX4_tinAt_12 : decode cX4_tinAt 12 = .ok (.iload_n 1, 1) := by decide +kernel
theorem dX4_tinAt_13 : decode cX4_tinAt 13 = .ok (.iaload, 1) := by decide +kernel
theorem dX4_tinAt_14 : decode cX4_tinAt 14 = .ok (.goto 4, 3) := by decide +kernel
theorem dX4_tinAt_17 : decode cX4_tinAt 17 = .ok (.iconst 0, 1) := by decide +kernel
theorem dX4_tinAt_18 : decode cX4_tinAt 18 = .ok (.ireturn, 1) := by decide +kernel
theorem dX4_leadAt_0 : decode cX4_leadAt 0 = .ok (.aload_n 0, 1) := by decide +kernel
theorem dX4_leadAt_1 : decode cX4_leadAt 1 = .ok (.iload_n 1, 1) := by decide +kernel
theorem dX4_leadAt_2 : decode cX4_leadAt 2 = .ok (.invokevirtual 32, 3) := by decide +kernel
theorem dX4_leadAt_5 : decode cX4_leadAt 5 = .ok (.ifCond .eq 12, 3) := by decide +kernel
theorem dX4_leadAt_8 : decode cX4_leadAt 8 = .ok (.aload_n 0, 1) := by decide +kernel
theorem dX4_leadAt_9 : decode cX4_leadAt 9 = .ok (.getfield 15, 3) := by decide +kernel
theorem dX4_leadAt_12 : decode cX4_leadAt 12 = .ok (.iload_n 1, 1) := by decide +kernel
theorem dX4_leadAt_13 : decode cX4_leadAt 13 = .ok (.iaload, 1) := by decide +kernel
theorem dX4_leadAt_14 : decode cX4_leadAt 14 = .ok (.goto 4, 3) := by decide +kernel
theorem dX4_leadAt_17 : decode cX4_leadAt 17 = .ok (.iconst 0, 1) := by decide +kernel
theorem dX4_leadAt_18 : decode cX4_leadAt 18 = .ok (.ireturn, 1) := by decide +kernel
theorem dX4_priceAt_0 : decode cX4_priceAt 0 = .ok (.aload_n 0, 1) := by decide +kernel
theorem dX4_priceAt_1 : decode cX4_priceAt 1 = .ok (.iload_n 1, 1) := by decide +kernel
theorem dX4_priceAt_2 : decode cX4_priceAt 2 = .ok (.invokevirtual 32, 3) := by decide +kernel
theorem dX4_priceAt_5 : decode cX4_priceAt 5 = .ok (.ifCond .eq 12, 3) := by decide +kernel
theorem dX4_priceAt_8 : decode cX4_priceAt 8 = .ok (.aload_n 0, 1) := by decide +kernel
theorem dX4_priceAt_9 : decode cX4_priceAt 9 = .ok (.getfield 18, 3) := by decide +kernel
theorem dX4_priceAt_12 : decode cX4_priceAt 12 = .ok (.iload_n 1, 1) := by decide +kernel
theorem dX4_priceAt_13 : decode cX4_priceAt 13 = .ok (.iaload, 1) := by decide +kernel
theorem dX4_priceAt_14 : decode cX4_priceAt 14 = .ok (.goto 4, 3) := by decide +kernel
theorem dX4_priceAt_17 : decode cX4_priceAt 17 = .ok (.iconst 0, 1) := by decide +kernel
theorem dX4_priceAt_18 : decode cX4_priceAt 18 = .ok (.ireturn, 1) := by decide +kernel
theorem dX4_unitsAt_0 : decode cX4_unitsAt 0 = .ok (.aload_n 0, 1) := by decide +kernel
theorem dX4_unitsAt_1 : decode cX4_unitsAt 1 = .ok (.iload_n 1, 1) := by decide +kernel
theorem dX4_unitsAt_2 : decode cX4_unitsAt 2 = .ok (.invokevirtual 32, 3) := by decide +kernel
theorem dX4_unitsAt_5 : decode cX4_unitsAt 5 = .ok (.ifCond .eq 12, 3) := by decide +kernel
theorem dX4_unitsAt_8 : decode cX4_unitsAt 8 = .ok (.aload_n 0, 1) := by decide +kernel
theorem dX4_unitsAt_9 : decode cX4_unitsAt 9 = .ok (.getfield 21, 3) := by decide +kernel
theorem dX4_unitsAt_12 : decode cX4_unitsAt 12 = .ok (.iload_n 1, 1) := by decide +kernel
theorem dX4_unitsAt_13 : decode cX4_unitsAt 13 = .ok (.iaload, 1) := by decide +kernel
theorem dX4_unitsAt_14 : decode cX4_unitsAt 14 = .ok (.goto 4, 3) := by decide +kernel
theorem dX4_unitsAt_17 : decode cX4_unitsAt 17 = .ok (.iconst 0, 1) := by decide +kernel
theorem dX4_unitsAt_18 : decode cX4_unitsAt 18 = .ok (.ireturn, 1) := by decide +kernel
theorem dX4_take_0 : decode cX4_take 0 = .ok (.aload_n 0, 1) := by decide +kernel
theorem dX4_take_1 : decode cX4_take 1 = .ok (.iload_n 1, 1) := by decide +kernel
theorem dX4_take_2 : decode cX4_take 2 = .ok (.invokevirtual 32, 3) := by decide +kernel
theorem dX4_take_5 : decode cX4_take 5 = .ok (.ifCond .eq 13, 3) := by decide +kernel
theorem dX4_take_8 : decode cX4_take 8 = .ok (.aload_n 0, 1) := by decide +kernel
theorem dX4_take_9 : decode cX4_take 9 = .ok (.getfield 21, 3) := by decide +kernel
theorem dX4_take_12 : decode cX4_take 12 = .ok (.iload_n 1, 1) := by decide +kernel
theorem dX4_take_13 : decode cX4_take 13 = .ok (.dup2, 1) := by decide +kernel
theorem dX4_take_14 : decode cX4_take 14 = .ok (.iaload, 1) := by decide +kernel
theorem dX4_take_15 : decode cX4_take 15 = .ok (.iload_n 2, 1) := by decide +kernel
theorem dX4_take_16 : decode cX4_take 16 = .ok (.isub, 1) := by decide +kernel
theorem dX4_take_17 : decode cX4_take 17 = .ok (.iastore, 1) := by decide +kernel
theorem dX4_take_18 : decode cX4_take 18 = .ok (.return_, 1) := by decide +kernel
theorem dX5_init_0 : decode cX5_init 0 = .ok (.aload_n 0, 1) := by decide +kernel
theorem dX5_init_1 : decode cX5_init 1 = .ok (.invokespecial 3, 3) := by decide +kernel
theorem dX5_init_4 : decode cX5_init 4 = .ok (.aload_n 0, 1) := by decide +kernel
theorem dX5_init_5 : decode cX5_init 5 = .ok (.iconst 4, 1) := by decide +kernel
theorem dX5_init_6 : decode cX5_init 6 = .ok (.bipush 6, 2) := by decide +kernel
theorem dX5_init_8 : decode cX5_init 8 = .ok (.multianewarray 11 2, 4) := by decide +kernel
theorem dX5_init_12 : decode cX5_init 12 = .ok (.putfield 13, 3) := by decide +kernel
theorem dX5_init_15 : decode cX5_init 15 = .ok (.aload_n 0, 1) := by decide +kernel
theorem dX5_init_16 : decode cX5_init 16 = .ok (.iconst 4, 1) := by decide +kernel
theorem dX5_init_17 : decode cX5_init 17 = .ok (.sipush 287, 3) := by decide +kernel
theorem dX5_init_20 : decode cX5_init 20 = .ok (.multianewarray 11 2, 4) := by decide +kernel
theorem dX5_init_24 : decode cX5_init 24 = .ok (.putfield 16, 3) := by decide +kernel
theorem dX5_init_27 : decode cX5_init 27 = .ok (.aload_n 0, 1) := by decide +kernel
theorem dX5_init_28 : decode cX5_init 28 = .ok (.iconst 4, 1) := by decide +kernel
theorem dX5_init_29 : decode cX5_init 29 = .ok (.bipush 7, 2) := by decide +kernel
theorem dX5_init_31 : decode cX5_init 31 = .ok (.multianewarray 11 2, 4) := by decide +kernel
theorem dX5_init_35 : decode cX5_init 35 = .ok (.putfield 19, 3) := by decide +kernel
theorem dX5_init_38 : decode cX5_init 38 = .ok (.aload_n 0, 1) := by decide +kernel
theorem dX5_init_39 : decode cX5_init 39 = .ok (.iconst 4, 1) := by decide +kernel
theorem dX5_init_40 : decode cX5_init 40 = .ok (.newarray .int, 2) := by decide +kernel
theorem dX5_init_42 : decode cX5_init 42 = .ok (.putfield 22, 3) := by decide +kernel
theorem dX5_init_45 : decode cX5_init 45 = .ok (.aload_n 0, 1) := by decide +kernel
theorem dX5_init_46 : decode cX5_init 46 = .ok (.bipush 7, 2) := by decide +kernel
theorem dX5_init_48 : decode cX5_init 48 = .ok (.newarray .int, 2) := by decide +kernel
theorem dX5_init_50 : decode cX5_init 50 = .ok (.putfield 26, 3) := by decide +kernel
theorem dX5_init_53 : decode cX5_init 53 = .ok (.aload_n 0, 1) := by decide +kernel
theorem dX5_init_54 : decode cX5_init 54 = .ok (.bipush 6, 2) := by decide +kernel
theorem dX5_init_56 : decode cX5_init 56 = .ok (.newarray .int, 2) := by decide +kernel
theorem dX5_init_58 : decode cX5_init 58 = .ok (.putfield 29, 3) := by decide +kernel
theorem dX5_init_61 : decode cX5_init 61 = .ok (.aload_n 0, 1) := by decide +kernel
theorem dX5_init_62 : decode cX5_init 62 = .ok (.bipush 6, 2) := by decide +kernel
theorem dX5_init_64 : decode cX5_init 64 = .ok (.newarray .int, 2) := by decide +kernel
theorem dX5_init_66 : decode cX5_init 66 = .ok (.putfield 32, 3) := by decide +kernel
theorem dX5_init_69 : decode cX5_init 69 = .ok (.aload_n 0, 1) := by decide +kernel
theorem dX5_init_70 : decode cX5_init 70 = .ok (.iconst 1, 1) := by decide +kernel
theorem dX5_init_71 : decode cX5_init 71 = .ok (.putfield 35, 3) := by decide +kernel
theorem dX5_init_74 : decode cX5_init 74 = .ok (.aload_n 0, 1) := by decide +kernel
theorem dX5_init_75 : decode cX5_init 75 = .ok (.iconst 0, 1) := by decide +kernel
theorem dX5_init_76 : decode cX5_init 76 = .ok (.putfield 39, 3) := by decide +kernel
theorem dX5_init_79 : decode cX5_init 79 = .ok (.aload_n 0, 1) := by decide +kernel
theorem dX5_init_80 : decode cX5_init 80 = .ok (.iconst 0, 1) := by decide +kernel
theorem dX5_init_81 : decode cX5_init 81 = .ok (.putfield 42, 3) := by decide +kernel
theorem dX5_init_84 : decode cX5_init 84 = .ok (.aload_n 0, 1) := by decide +kernel
theorem dX5_init_85 : decode cX5_init 85 = .ok (.iconst 0, 1) := by decide +kernel
theorem dX5_init_86 : decode cX5_init 86 = .ok (.putfield 45, 3) := by decide +kernel
theorem dX5_init_89 : decode cX5_init 89 = .ok (.aload_n 0, 1) := by decide +kernel
theorem dX5_init_90 : decode cX5_init 90 = .ok (.aload_n 1, 1) := by decide +kernel
theorem dX5_init_91 : decode cX5_init 91 = .ok (.putfield 49, 3) := by decide +kernel
theorem dX5_init_94 : decode cX5_init 94 = .ok (.return_, 1) := by decide +kernel
theorem dX5_find_0 : decode cX5_find 0 = .ok (.aload_n 0, 1) := by decide +kernel
theorem dX5_find_1 : decode cX5_find 1 = .ok (.iconst 0, 1) := by decide +kernel
theorem dX5_find_2 : decode cX5_find 2 = .ok (.putfield 45, 3) := by decide +kernel
theorem dX5_find_5 : decode cX5_find 5 = .ok (.aload_n 0, 1) := by decide +kernel
theorem dX5_find_6 : decode cX5_find 6 = .ok (.getfield 22, 3) := by decide +kernel
theorem dX5_find_9 : decode cX5_find 9 = .ok (.iconst 0, 1) := by decide +kernel
theorem dX5_find_10 : decode cX5_find 10 = .ok (.iload_n 1, 1) := by decide +kernel
theorem dX5_find_11 : decode cX5_find 11 = .ok (.sipush 1000, 3) := by decide +kernel
theorem dX5_find_14 : decode cX5_find 14 = .ok (.imul, 1) := by decide +kernel
theorem dX5_find_15 : decode cX5_find 15 = .ok (.iastore, 1) := by decide +kernel
theorem dX5_find_16 : decode cX5_find 16 = .ok (.aload_n 0, 1) := by decide +kernel
theorem dX5_find_17 : decode cX5_find 17 = .ok (.getfield 22, 3) := by decide +kernel
theorem dX5_find_20 : decode cX5_find 20 = .ok (.iconst 1, 1) := by decide +kernel
theorem dX5_find_21 : decode cX5_find 21 = .ok (.iload_n 1, 1) := by decide +kernel
theorem dX5_find_22 : decode cX5_find 22 = .ok (.iload_n 3, 1) := by decide +kernel
theorem dX5_find_23 : decode cX5_find 23 = .ok (.imul, 1) := by decide +kernel
theorem dX5_find_24 : decode cX5_find 24 = .ok (.iastore, 1) := by decide +kernel
theorem dX5_find_25 : decode cX5_find 25 = .ok (.aload_n 0, 1) := by decide +kernel
theorem dX5_find_26 : decode cX5_find 26 = .ok (.getfield 22, 3) := by decide +kernel
theorem dX5_find_29 : decode cX5_find 29 = .ok (.iconst 2, 1) := by decide +kernel
theorem dX5_find_30 : decode cX5_find 30 = .ok (.iload_n 1, 1) := by decide +kernel
theorem dX5_find_31 : decode cX5_find 31 = .ok (.sipush 1000, 3) := by decide +kernel
theorem dX5_find_34 : decode cX5_find 34 = .ok (.iload_n 2, 1) := by decide +kernel
theorem dX5_find_35 : decode cX5_find 35 = .ok (.isub, 1) := by decide +kernel
theorem dX5_find_36 : decode cX5_find 36 = .ok (.imul, 1) := by decide +kernel
theorem dX5_find_37 : decode cX5_find 37 = .ok (.iastore, 1) := by decide +kernel
theorem dX5_find_38 : decode cX5_find 38 = .ok (.aload_n 0, 1) := by decide +kernel
theorem dX5_find_39 : decode cX5_find 39 = .ok (.getfield 22, 3) := by decide +kernel
theorem dX5_find_42 : decode cX5_find 42 = .ok (.iconst 3, 1) := by decide +kernel
theorem dX5_find_43 : decode cX5_find 43 = .ok (.iload_n 1, 1) := by decide +kernel
theorem dX5_find_44 : decode cX5_find 44 = .ok (.iload 4, 2) := by decide +kernel
theorem dX5_find_46 : decode cX5_find 46 = .ok (.imul, 1) := by decide +kernel
theorem dX5_find_47 : decode cX5_find 47 = .ok (.iastore, 1) := by decide +kernel
theorem dX5_find_48 : decode cX5_find 48 = .ok (.aload_n 0, 1) := by decide +kernel
theorem dX5_find_49 : decode cX5_find 49 = .ok (.aload_n 0, 1) := by decide +kernel
theorem dX5_find_50 : decode cX5_find 50 = .ok (.invokevirtual 53, 3) := by decide +kernel
theorem dX5_find_53 : decode cX5_find 53 = .ok (.putfield 35, 3) := by decide +kernel
theorem dX5_find_56 : decode cX5_find 56 = .ok (.aload_n 0, 1) := by decide +kernel
theorem dX5_find_57 : decode cX5_find 57 = .ok (.invokevirtual 57, 3) := by decide +kernel
theorem dX5_find_60 : decode cX5_find 60 = .ok (.aload_n 0, 1) := by decide +kernel
theorem dX5_find_61 : decode cX5_find 61 = .ok (.iload_n 1, 1) := by decide +kernel
theorem dX5_find_62 : decode cX5_find 62 = .ok (.invokevirtual 60, 3) := by decide +kernel
theorem dX5_find_65 : decode cX5_find 65 = .ok (.aload_n 0, 1) := by decide +kernel
theorem dX5_find_66 : decode cX5_find 66 = .ok (.iconst 0, 1) := by decide +kernel
theorem dX5_find_67 : decode cX5_find 67 = .ok (.iload_n 1, 1) := by decide +kernel
theorem dX5_find_68 : decode cX5_find 68 = .ok (.invokevirtual 64, 3) := by decide +kernel
theorem dX5_find_71 : decode cX5_find 71 = .ok (.aload_n 0, 1) := by decide +kernel
theorem dX5_find_72 : decode cX5_find 72 = .ok (.getfield 45, 3) := by decide +kernel
theorem dX5_find_75 : decode cX5_find 75 = .ok (.ireturn, 1) := by decide +kernel
theorem dX5_price_0 : decode cX5_price 0 = .ok (.aload_n 0, 1) := by decide +kernel
theorem dX5_price_1 : decode cX5_price 1 = .ok (.getfield 22, 3) := by decide +kernel
theorem dX5_price_4 : decode cX5_price 4 = .ok (.iconst 0, 1) := by decide +kernel
theorem dX5_price_5 : decode cX5_price 5 = .ok (.iaload, 1) := by decide +kernel
theorem dX5_price_6 : decode cX5_price 6 = .ok (.iconst 1, 1) := by decide +kernel
theorem dX5_price_7 : decode cX5_price 7 = .ok (.iadd, 1) := by decide +kernel
theorem dX5_price_8 : decode cX5_price 8 = .ok (.ireturn, 1) := by decide +kernel
theorem dX5_unitsOf_0 : decode cX5_unitsOf 0 = .ok (.iload_n 1, 1) := by decide +kernel
theorem dX5_unitsOf_1 : decode cX5_unitsOf 1 = .ok (.ifCond .lt 18, 3) := by decide +kernel
theorem dX5_unitsOf_4 : decode cX5_unitsOf 4 = .ok (.iload_n 1, 1) := by decide +kernel
theorem dX5_unitsOf_5 : decode cX5_unitsOf 5 = .ok (.bipush 6, 2) := by decide +kernel
theorem dX5_unitsOf_7 : decode cX5_unitsOf 7 = .ok (.if_icmp .ge 12, 3) := by decide +kernel
theorem dX5_unitsOf_10 : decode cX5_unitsOf 10 = .ok (.aload_n 0, 1) := by decide +kernel
theorem dX5_unitsOf_11 : decode cX5_unitsOf 11 = .ok (.getfield 32, 3) := by decide +kernel
theorem dX5_unitsOf_14 : decode cX5_unitsOf 14 = .ok (.iload_n 1, 1) := by decide +kernel
theorem dX5_unitsOf_15 : decode cX5_unitsOf 15 = .ok (.iaload, 1) := by decide +kernel
theorem dX5_unitsOf_16 : decode cX5_unitsOf 16 = .ok (.goto 4, 3) := by decide +kernel
theorem dX5_unitsOf_19 : decode cX5_unitsOf 19 = .ok (.iconst 0, 1) := by decide +kernel
theorem dX5_unitsOf_20 : decode cX5_unitsOf 20 = .ok (.ireturn, 1) := by decide +kernel
theorem dX5_lastOfLots_0 : decode cX5_lastOfLots 0 = .ok (.aload_n 0, 1) := by decide +kernel
theorem dX5_lastOfLots_1 : decode cX5_lastOfLots 1 = .ok (.getfield 49, 3) := by decide +kernel
theorem dX5_lastOfLots_4 : decode cX5_lastOfLots 4 = .ok (.invokevirtual 68, 3) := by decide +kernel
theorem dX5_lastOfLots_7 : decode cX5_lastOfLots 7 = .ok (.iconst 1, 1) := by decide +kernel
theorem dX5_lastOfLots_8 : decode cX5_lastOfLots 8 = .ok (.isub, 1) := by decide +kernel
theorem dX5_lastOfLots_9 : decode cX5_lastOfLots 9 = .ok (.iconst 1, 1) := by decide +kernel
theorem dX5_lastOfLots_10 : decode cX5_lastOfLots 10 = .ok (.invokestatic 73, 3) := by decide +kernel
theorem dX5_lastOfLots_13 : decode cX5_lastOfLots 13 = .ok (.iconst 5, 1) := by decide +kernel
theorem dX5_lastOfLots_14 : decode cX5_lastOfLots 14 = .ok (.invokestatic 79, 3) := by decide +kernel
theorem dX5_lastOfLots_17 : decode cX5_lastOfLots 17 = .ok (.ireturn, 1) := by decide +kernel
theorem dX5_weigh_0 : decode cX5_weigh 0 = .ok (.iconst 0, 1) := by decide +kernel
theorem dX5_weigh_1 : decode cX5_weigh 1 = .ok (.istore_n 1, 1) := by decide +kernel
theorem dX5_weigh_2 : decode cX5_weigh 2 = .ok (.iload_n 1, 1) := by decide +kernel
theorem dX5_weigh_3 : decode cX5_weigh 3 = .ok (.bipush 6, 2) := by decide +kernel
theorem dX5_weigh_5 : decode cX5_weigh 5 = .ok (.if_icmp .ge 77, 3) := by decide +kernel
theorem dX5_weigh_8 : decode cX5_weigh 8 = .ok (.aload_n 0, 1) := by decide +kernel
theorem dX5_weigh_9 : decode cX5_weigh 9 = .ok (.getfield 13, 3) := by decide +kernel
theorem dX5_weigh_12 : decode cX5_weigh 12 = .ok (.iconst 0, 1) := by decide +kernel
theorem dX5_weigh_13 : decode cX5_weigh 13 = .ok (.aaload, 1) := by decide +kernel
theorem dX5_weigh_14 : decode cX5_weigh 14 = .ok (.iload_n 1, 1) := by decide +kernel
theorem dX5_weigh_15 : decode cX5_weigh 15 = .ok (.aload_n 0, 1) := by decide +kernel
theorem dX5_weigh_16 : decode cX5_weigh 16 = .ok (.getfield 49, 3) := by decide +kernel
theorem dX5_weigh_19 : decode cX5_weigh 19 = .ok (.iload_n 1, 1) := by decide +kernel
theorem dX5_weigh_20 : decode cX5_weigh 20 = .ok (.invokevirtual 82, 3) := by decide +kernel
theorem dX5_weigh_23 : decode cX5_weigh 23 = .ok (.iastore, 1) := by decide +kernel
theorem dX5_weigh_24 : decode cX5_weigh 24 = .ok (.aload_n 0, 1) := by decide +kernel
theorem dX5_weigh_25 : decode cX5_weigh 25 = .ok (.getfield 13, 3) := by decide +kernel
theorem dX5_weigh_28 : decode cX5_weigh 28 = .ok (.iconst 1, 1) := by decide +kernel
theorem dX5_weigh_29 : decode cX5_weigh 29 = .ok (.aaload, 1) := by decide +kernel
theorem dX5_weigh_30 : decode cX5_weigh 30 = .ok (.iload_n 1, 1) := by decide +kernel
theorem dX5_weigh_31 : decode cX5_weigh 31 = .ok (.aload_n 0, 1) := by decide +kernel
theorem dX5_weigh_32 : decode cX5_weigh 32 = .ok (.getfield 49, 3) := by decide +kernel
theorem dX5_weigh_35 : decode cX5_weigh 35 = .ok (.iload_n 1, 1) := by decide +kernel
theorem dX5_weigh_36 : decode cX5_weigh 36 = .ok (.invokevirtual 86, 3) := by decide +kernel
theorem dX5_weigh_39 : decode cX5_weigh 39 = .ok (.iastore, 1) := by decide +kernel
theorem dX5_weigh_40 : decode cX5_weigh 40 = .ok (.aload_n 0, 1) := by decide +kernel
theorem dX5_weigh_41 : decode cX5_weigh 41 = .ok (.getfield 13, 3) := by decide +kernel
theorem dX5_weigh_44 : decode cX5_weigh 44 = .ok (.iconst 2, 1) := by decide +kernel
theorem dX5_weigh_45 : decode cX5_weigh 45 = .ok (.aaload, 1) := by decide +kernel
theorem dX5_weigh_46 : decode cX5_weigh 46 = .ok (.iload_n 1, 1) := by decide +kernel
theorem dX5_weigh_47 : decode cX5_weigh 47 = .ok (.sipush 1000, 3) := by decide +kernel
theorem dX5_weigh_50 : decode cX5_weigh 50 = .ok (.aload_n 0, 1) := by decide +kernel
theorem dX5_weigh_51 : decode cX5_weigh 51 = .ok (.getfield 49, 3) := by decide +kernel
theorem dX5_weigh_54 : decode cX5_weigh 54 = .ok (.iload_n 1, 1) := by decide +kernel
theorem dX5_weigh_55 : decode cX5_weigh 55 = .ok (.invokevirtual 86, 3) := by decide +kernel
theorem dX5_weigh_58 : decode cX5_weigh 58 = .ok (.isub, 1) := by decide +kernel
theorem dX5_weigh_59 : decode cX5_weigh 59 = .ok (.iastore, 1) := by decide +kernel
theorem dX5_weigh_60 : decode cX5_weigh 60 = .ok (.aload_n 0, 1) := by decide +kernel
theorem dX5_weigh_61 : decode cX5_weigh 61 = .ok (.getfield 13, 3) := by decide +kernel
theorem dX5_weigh_64 : decode cX5_weigh 64 = .ok (.iconst 3, 1) := by decide +kernel
theorem dX5_weigh_65 : decode cX5_weigh 65 = .ok (.aaload, 1) := by decide +kernel
theorem dX5_weigh_66 : decode cX5_weigh 66 = .ok (.iload_n 1, 1) := by decide +kernel
theorem dX5_weigh_67 : decode cX5_weigh 67 = .ok (.aload_n 0, 1) := by decide +kernel
theorem dX5_weigh_68 : decode cX5_weigh 68 = .ok (.getfield 49, 3) := by decide +kernel
theorem dX5_weigh_71 : decode cX5_weigh 71 = .ok (.iload_n 1, 1) := by decide +kernel
theorem dX5_weigh_72 : decode cX5_weigh 72 = .ok (.invokevirtual 89, 3) := by decide +kernel
theorem dX5_weigh_75 : decode cX5_weigh 75 = .ok (.iastore, 1) := by decide +kernel
theorem dX5_weigh_76 : decode cX5_weigh 76 = .ok (.iinc 1 1, 3) := by decide +kernel
theorem dX5_weigh_79 : decode cX5_weigh 79 = .ok (.goto (-77), 3) := by decide +kernel
theorem dX5_weigh_82 : decode cX5_weigh 82 = .ok (.return_, 1) := by decide +kernel
theorem dX5_foresee_0 : decode cX5_foresee 0 = .ok (.aload_n 0, 1) := by decide +kernel
theorem dX5_foresee_1 : decode cX5_foresee 1 = .ok (.getfield 26, 3) := by decide +kernel
theorem dX5_foresee_4 : decode cX5_foresee 4 = .ok (.aload_n 0, 1) := by decide +kernel
theorem dX5_foresee_5 : decode cX5_foresee 5 = .ok (.getfield 35, 3) := by decide +kernel
theorem dX5_foresee_8 : decode cX5_foresee 8 = .ok (.iconst 1, 1) := by decide +kernel
theorem dX5_foresee_9 : decode cX5_foresee 9 = .ok (.iadd, 1) := by decide +kernel
theorem dX5_foresee_10 : decode cX5_foresee 10 = .ok (.iconst 0, 1) := by decide +kernel
theorem dX5_foresee_11 : decode cX5_foresee 11 = .ok (.iastore, 1) := by decide +kernel
theorem dX5_foresee_12 : decode cX5_foresee 12 = .ok (.aload_n 0, 1) := by decide +kernel
theorem dX5_foresee_13 : decode cX5_foresee 13 = .ok (.getfield 35, 3) := by decide +kernel
theorem dX5_foresee_16 : decode cX5_foresee 16 = .ok (.istore_n 2, 1) := by decide +kernel
theorem dX5_foresee_17 : decode cX5_foresee 17 = .ok (.iload_n 2, 1) := by decide +kernel
theorem dX5_foresee_18 : decode cX5_foresee 18 = .ok (.ifCond .lt 52, 3) := by decide +kernel
theorem dX5_foresee_21 : decode cX5_foresee 21 = .ok (.aload_n 0, 1) := by decide +kernel
theorem dX5_foresee_22 : decode cX5_foresee 22 = .ok (.getfield 26, 3) := by decide +kernel
theorem dX5_foresee_25 : decode cX5_foresee 25 = .ok (.iload_n 2, 1) := by decide +kernel
theorem dX5_foresee_26 : decode cX5_foresee 26 = .ok (.aload_n 0, 1) := by decide +kernel
theorem dX5_foresee_27 : decode cX5_foresee 27 = .ok (.getfield 26, 3) := by decide +kernel
theorem dX5_foresee_30 : decode cX5_foresee 30 = .ok (.iload_n 2, 1) := by decide +kernel
theorem dX5_foresee_31 : decode cX5_foresee 31 = .ok (.iconst 1, 1) := by decide +kernel
theorem dX5_foresee_32 : decode cX5_foresee 32 = .ok (.iadd, 1) := by decide +kernel
theorem dX5_foresee_33 : decode cX5_foresee 33 = .ok (.iaload, 1) := by decide +kernel
theorem dX5_foresee_34 : decode cX5_foresee 34 = .ok (.aload_n 0, 1) := by decide +kernel
theorem dX5_foresee_35 : decode cX5_foresee 35 = .ok (.getfield 49, 3) := by decide +kernel
theorem dX5_foresee_38 : decode cX5_foresee 38 = .ok (.iload_n 2, 1) := by decide +kernel
theorem dX5_foresee_39 : decode cX5_foresee 39 = .ok (.invokevirtual 92, 3) := by decide +kernel
theorem dX5_foresee_42 : decode cX5_foresee 42 = .ok (.iadd, 1) := by decide +kernel
theorem dX5_foresee_43 : decode cX5_foresee 43 = .ok (.iastore, 1) := by decide +kernel
theorem dX5_foresee_44 : decode cX5_foresee 44 = .ok (.iconst 0, 1) := by decide +kernel
theorem dX5_foresee_45 : decode cX5_foresee 45 = .ok (.istore_n 3, 1) := by decide +kernel
theorem dX5_foresee_46 : decode cX5_foresee 46 = .ok (.iload_n 3, 1) := by decide +kernel
theorem dX5_foresee_47 : decode cX5_foresee 47 = .ok (.iconst 4, 1) := by decide +kernel
theorem dX5_foresee_48 : decode cX5_foresee 48 = .ok (.if_icmp .ge 16, 3) := by decide +kernel
theorem dX5_foresee_51 : decode cX5_foresee 51 = .ok (.aload_n 0, 1) := by decide +kernel
theorem dX5_foresee_52 : decode cX5_foresee 52 = .ok (.iload_n 2, 1) := by decide +kernel
theorem dX5_foresee_53 : decode cX5_foresee 53 = .ok (.iload_n 3, 1) := by decide +kernel
theorem dX5_foresee_54 : decode cX5_foresee 54 = .ok (.iload_n 1, 1) := by decide +kernel
theorem dX5_foresee_55 : decode cX5_foresee 55 = .ok (.invokevirtual 95, 3) := by decide +kernel
theorem dX5_foresee_58 : decode cX5_foresee 58 = .ok (.iinc 3 1, 3) := by decide +kernel
theorem dX5_foresee_61 : decode cX5_foresee 61 = .ok (.goto (-15), 3) := by decide +kernel
theorem dX5_foresee_64 : decode cX5_foresee 64 = .ok (.iinc 2 (-1), 3) := by decide +kernel
theorem dX5_foresee_67 : decode cX5_foresee 67 = .ok (.goto (-50), 3) := by decide +kernel
theorem dX5_foresee_70 : decode cX5_foresee 70 = .ok (.return_, 1) := by decide +kernel
theorem dX5_foreseeFrom_0 : decode cX5_foreseeFrom 0 = .ok (.aload_n 0, 1) := by decide +kernel
theorem dX5_foreseeFrom_1 : decode cX5_foreseeFrom 1 = .ok (.getfield 16, 3) := by decide +kernel
theorem dX5_foreseeFrom_4 : decode cX5_foreseeFrom 4 = .ok (.iload_n 2, 1) := by decide +kernel
theorem dX5_foreseeFrom_5 : decode cX5_foreseeFrom 5 = .ok (.aaload, 1) := by decide +kernel
theorem dX5_foreseeFrom_6 : decode cX5_foreseeFrom 6 = .ok (.astore 4, 2) := by decide +kernel
theorem dX5_foreseeFrom_8 : decode cX5_foreseeFrom 8 = .ok (.iload_n 1, 1) := by decide +kernel
theorem dX5_foreseeFrom_9 : decode cX5_foreseeFrom 9 = .ok (.bipush 41, 2) := by decide +kernel
theorem dX5_foreseeFrom_11 : decode cX5_foreseeFrom 11 = .ok (.imul, 1) := by decide +kernel
theorem dX5_foreseeFrom_12 : decode cX5_foreseeFrom 12 = .ok (.istore 5, 2) := by decide +kernel
theorem dX5_foreseeFrom_14 : decode cX5_foreseeFrom 14 = .ok (.iload_n 1, 1) := by decide +kernel
theorem dX5_foreseeFrom_15 : decode cX5_foreseeFrom 15 = .ok (.iconst 1, 1) := by decide +kernel
theorem dX5_foreseeFrom_16 : decode cX5_foreseeFrom 16 = .ok (.iadd, 1) := by decide +kernel
theorem dX5_foreseeFrom_17 : decode cX5_foreseeFrom 17 = .ok (.bipush 41, 2) := by decide +kernel
theorem dX5_foreseeFrom_19 : decode cX5_foreseeFrom 19 = .ok (.imul, 1) := by decide +kernel
theorem dX5_foreseeFrom_20 : decode cX5_foreseeFrom 20 = .ok (.istore 6, 2) := by decide +kernel
theorem dX5_foreseeFrom_22 : decode cX5_foreseeFrom 22 = .ok (.iconst 0, 1) := by decide +kernel
theorem dX5_foreseeFrom_23 : decode cX5_foreseeFrom 23 = .ok (.istore 7, 2) := by decide +kernel
theorem dX5_foreseeFrom_25 : decode cX5_foreseeFrom 25 = .ok (.aload 4, 2) := by decide +kernel
theorem dX5_foreseeFrom_27 : decode cX5_foreseeFrom 27 = .ok (.iload 5, 2) := by decide +kernel
theorem dX5_foreseeFrom_29 : decode cX5_foreseeFrom 29 = .ok (.iconst 0, 1) := by decide +kernel
theorem dX5_foreseeFrom_30 : decode cX5_foreseeFrom 30 = .ok (.iastore, 1) := by decide +kernel
theorem dX5_foreseeFrom_31 : decode cX5_foreseeFrom 31 = .ok (.iconst 0, 1) := by decide +kernel
theorem dX5_foreseeFrom_32 : decode cX5_foreseeFrom 32 = .ok (.istore 8, 2) := by decide +kernel
theorem dX5_foreseeFrom_34 : decode cX5_foreseeFrom 34 = .ok (.iload 8, 2) := by decide +kernel
theorem dX5_foreseeFrom_36 : decode cX5_foreseeFrom 36 = .ok (.iload_n 3, 1) := by decide +kernel
theorem dX5_foreseeFrom_37 : decode cX5_foreseeFrom 37 = .ok (.if_icmp .ge 166, 3) := by decide +kernel
theorem dX5_foreseeFrom_40 : decode cX5_foreseeFrom 40 = .ok (.iload 8, 2) := by decide +kernel
theorem dX5_foreseeFrom_42 : decode cX5_foreseeFrom 42 = .ok (.aload_n 0, 1) := by decide +kernel
theorem dX5_foreseeFrom_43 : decode cX5_foreseeFrom 43 = .ok (.getfield 26, 3) := by decide +kernel
theorem dX5_foreseeFrom_46 : decode cX5_foreseeFrom 46 = .ok (.iload_n 1, 1) := by decide +kernel
theorem dX5_foreseeFrom_47 : decode cX5_foreseeFrom 47 = .ok (.iaload, 1) := by decide +kernel
theorem dX5_foreseeFrom_48 : decode cX5_foreseeFrom 48 = .ok (.if_icmp .ge 155, 3) := by decide +kernel
theorem dX5_foreseeFrom_51 : decode cX5_foreseeFrom 51 = .ok (.iload 8, 2) := by decide +kernel
theorem dX5_foreseeFrom_53 : decode cX5_foreseeFrom 53 = .ok (.iload 7, 2) := by decide +kernel
theorem dX5_foreseeFrom_55 : decode cX5_foreseeFrom 55 = .ok (.isub, 1) := by decide +kernel
theorem dX5_foreseeFrom_56 : decode cX5_foreseeFrom 56 = .ok (.istore 9, 2) := by decide +kernel
theorem dX5_foreseeFrom_58 : decode cX5_foreseeFrom 58 = .ok (.iload 7, 2) := by decide +kernel
theorem dX5_foreseeFrom_60 : decode cX5_foreseeFrom 60 = .ok (.aload_n 0, 1) := by decide +kernel
theorem dX5_foreseeFrom_61 : decode cX5_foreseeFrom 61 = .ok (.getfield 49, 3) := by decide +kernel
theorem dX5_foreseeFrom_64 : decode cX5_foreseeFrom 64 = .ok (.iload_n 1, 1) := by decide +kernel
theorem dX5_foreseeFrom_65 : decode cX5_foreseeFrom 65 = .ok (.invokevirtual 92, 3) := by decide +kernel
theorem dX5_foreseeFrom_68 : decode cX5_foreseeFrom 68 = .ok (.if_icmp .ge 46, 3) := by decide +kernel
theorem dX5_foreseeFrom_71 : decode cX5_foreseeFrom 71 = .ok (.iload 9, 2) := by decide +kernel
theorem dX5_foreseeFrom_73 : decode cX5_foreseeFrom 73 = .ok (.aload_n 0, 1) := by decide +kernel
theorem dX5_foreseeFrom_74 : decode cX5_foreseeFrom 74 = .ok (.getfield 26, 3) := by decide +kernel
theorem dX5_foreseeFrom_77 : decode cX5_foreseeFrom 77 = .ok (.iload_n 1, 1) := by decide +kernel
theorem dX5_foreseeFrom_78 : decode cX5_foreseeFrom 78 = .ok (.iconst 1, 1) := by decide +kernel
theorem dX5_foreseeFrom_79 : decode cX5_foreseeFrom 79 = .ok (.iadd, 1) := by decide +kernel
theorem dX5_foreseeFrom_80 : decode cX5_foreseeFrom 80 = .ok (.iaload, 1) := by decide +kernel
theorem dX5_foreseeFrom_81 : decode cX5_foreseeFrom 81 = .ok (.if_icmp .ge 37, 3) := by decide +kernel
theorem dX5_foreseeFrom_84 : decode cX5_foreseeFrom 84 = .ok (.aload 4, 2) := by decide +kernel
theorem dX5_foreseeFrom_86 : decode cX5_foreseeFrom 86 = .ok (.iload 6, 2) := by decide +kernel
theorem dX5_foreseeFrom_88 : decode cX5_foreseeFrom 88 = .ok (.iload 9, 2) := by decide +kernel
theorem dX5_foreseeFrom_90 : decode cX5_foreseeFrom 90 = .ok (.iadd, 1) := by decide +kernel
theorem dX5_foreseeFrom_91 : decode cX5_foreseeFrom 91 = .ok (.iconst 1, 1) := by decide +kernel
theorem dX5_foreseeFrom_92 : decode cX5_foreseeFrom 92 = .ok (.iadd, 1) := by decide +kernel
theorem dX5_foreseeFrom_93 : decode cX5_foreseeFrom 93 = .ok (.iaload, 1) := by decide +kernel
theorem dX5_foreseeFrom_94 : decode cX5_foreseeFrom 94 = .ok (.aload 4, 2) := by decide +kernel
theorem dX5_foreseeFrom_96 : decode cX5_foreseeFrom 96 = .ok (.iload 6, 2) := by decide +kernel
theorem dX5_foreseeFrom_98 : decode cX5_foreseeFrom 98 = .ok (.iload 9, 2) := by decide +kernel
theorem dX5_foreseeFrom_100 : decode cX5_foreseeFrom 100 = .ok (.iadd, 1) := by decide +kernel
theorem dX5_foreseeFrom_101 : decode cX5_foreseeFrom 101 = .ok (.iaload, 1) := by decide +kernel
theorem dX5_foreseeFrom_102 : decode cX5_foreseeFrom 102 = .ok (.isub, 1) := by decide +kernel
theorem dX5_foreseeFrom_103 : decode cX5_foreseeFrom 103 = .ok (.aload_n 0, 1) := by decide +kernel
theorem dX5_foreseeFrom_104 : decode cX5_foreseeFrom 104 = .ok (.getfield 13, 3) := by decide +kernel
theorem dX5_foreseeFrom_107 : decode cX5_foreseeFrom 107 = .ok (.iload_n 2, 1) := by decide +kernel
theorem dX5_foreseeFrom_108 : decode cX5_foreseeFrom 108 = .ok (.aaload, 1) := by decide +kernel
theorem dX5_foreseeFrom_109 : decode cX5_foreseeFrom 109 = .ok (.iload_n 1, 1) := by decide +kernel
theorem dX5_foreseeFrom_110 : decode cX5_foreseeFrom 110 = .ok (.iaload, 1) := by decide +kernel
theorem dX5_foreseeFrom_111 : decode cX5_foreseeFrom 111 = .ok (.if_icmp .ge 7, 3) := by decide +kernel
theorem dX5_foreseeFrom_114 : decode cX5_foreseeFrom 114 = .ok (.iconst 1, 1) := by decide +kernel
theorem dX5_foreseeFrom_115 : decode cX5_foreseeFrom 115 = .ok (.goto 4, 3) := by decide +kernel
theorem dX5_foreseeFrom_118 : decode cX5_foreseeFrom 118 = .ok (.iconst 0, 1) := by decide +kernel
theorem dX5_foreseeFrom_119 : decode cX5_foreseeFrom 119 = .ok (.istore 10, 2) := by decide +kernel
theorem dX5_foreseeFrom_121 : decode cX5_foreseeFrom 121 = .ok (.iload 10, 2) := by decide +kernel
theorem dX5_foreseeFrom_123 : decode cX5_foreseeFrom 123 = .ok (.ifCond .eq 44, 3) := by decide +kernel
theorem dX5_foreseeFrom_126 : decode cX5_foreseeFrom 126 = .ok (.aload 4, 2) := by decide +kernel
theorem dX5_foreseeFrom_128 : decode cX5_foreseeFrom 128 = .ok (.iload 5, 2) := by decide +kernel
theorem dX5_foreseeFrom_130 : decode cX5_foreseeFrom 130 = .ok (.iload 8, 2) := by decide +kernel
theorem dX5_foreseeFrom_132 : decode cX5_foreseeFrom 132 = .ok (.iadd, 1) := by decide +kernel
theorem dX5_foreseeFrom_133 : decode cX5_foreseeFrom 133 = .ok (.iconst 1, 1) := by decide +kernel
theorem dX5_foreseeFrom_134 : decode cX5_foreseeFrom 134 = .ok (.iadd, 1) := by decide +kernel
theorem dX5_foreseeFrom_135 : decode cX5_foreseeFrom 135 = .ok (.aload 4, 2) := by decide +kernel
theorem dX5_foreseeFrom_137 : decode cX5_foreseeFrom 137 = .ok (.iload 5, 2) := by decide +kernel
theorem dX5_foreseeFrom_139 : decode cX5_foreseeFrom 139 = .ok (.iload 8, 2) := by decide +kernel
theorem dX5_foreseeFrom_141 : decode cX5_foreseeFrom 141 = .ok (.iadd, 1) := by decide +kernel
theorem dX5_foreseeFrom_142 : decode cX5_foreseeFrom 142 = .ok (.iaload, 1) := by decide +kernel
theorem dX5_foreseeFrom_143 : decode cX5_foreseeFrom 143 = .ok (.aload 4, 2) := by decide +kernel
theorem dX5_foreseeFrom_145 : decode cX5_foreseeFrom 145 = .ok (.iload 6, 2) := by decide +kernel
theorem dX5_foreseeFrom_147 : decode cX5_foreseeFrom 147 = .ok (.iload 9, 2) := by decide +kernel
theorem dX5_foreseeFrom_149 : decode cX5_foreseeFrom 149 = .ok (.iadd, 1) := by decide +kernel
theorem dX5_foreseeFrom_150 : decode cX5_foreseeFrom 150 = .ok (.iconst 1, 1) := by decide +kernel
theorem dX5_foreseeFrom_151 : decode cX5_foreseeFrom 151 = .ok (.iadd, 1) := by decide +kernel
theorem dX5_foreseeFrom_152 : decode cX5_foreseeFrom 152 = .ok (.iaload, 1) := by decide +kernel
theorem dX5_foreseeFrom_153 : decode cX5_foreseeFrom 153 = .ok (.iadd, 1) := by decide +kernel
theorem dX5_foreseeFrom_154 : decode cX5_foreseeFrom 154 = .ok (.aload 4, 2) := by decide +kernel
theorem dX5_foreseeFrom_156 : decode cX5_foreseeFrom 156 = .ok (.iload 6, 2) := by decide +kernel
theorem dX5_foreseeFrom_158 : decode cX5_foreseeFrom 158 = .ok (.iload 9, 2) := by decide +kernel
theorem dX5_foreseeFrom_160 : decode cX5_foreseeFrom 160 = .ok (.iadd, 1) := by decide +kernel
theorem dX5_foreseeFrom_161 : decode cX5_foreseeFrom 161 = .ok (.iaload, 1) := by decide +kernel
theorem dX5_foreseeFrom_162 : decode cX5_foreseeFrom 162 = .ok (.isub, 1) := by decide +kernel
theorem dX5_foreseeFrom_163 : decode cX5_foreseeFrom 163 = .ok (.iastore, 1) := by decide +kernel
theorem dX5_foreseeFrom_164 : decode cX5_foreseeFrom 164 = .ok (.goto 33, 3) := by decide +kernel
theorem dX5_foreseeFrom_167 : decode cX5_foreseeFrom 167 = .ok (.aload 4, 2) := by decide +kernel
theorem dX5_foreseeFrom_169 : decode cX5_foreseeFrom 169 = .ok (.iload 5, 2) := by decide +kernel
theorem dX5_foreseeFrom_171 : decode cX5_foreseeFrom 171 = .ok (.iload 8, 2) := by decide +kernel
theorem dX5_foreseeFrom_173 : decode cX5_foreseeFrom 173 = .ok (.iadd, 1) := by decide +kernel
theorem dX5_foreseeFrom_174 : decode cX5_foreseeFrom 174 = .ok (.iconst 1, 1) := by decide +kernel
theorem dX5_foreseeFrom_175 : decode cX5_foreseeFrom 175 = .ok (.iadd, 1) := by decide +kernel
theorem dX5_foreseeFrom_176 : decode cX5_foreseeFrom 176 = .ok (.aload 4, 2) := by decide +kernel
theorem dX5_foreseeFrom_178 : decode cX5_foreseeFrom 178 = .ok (.iload 5, 2) := by decide +kernel
theorem dX5_foreseeFrom_180 : decode cX5_foreseeFrom 180 = .ok (.iload 8, 2) := by decide +kernel
theorem dX5_foreseeFrom_182 : decode cX5_foreseeFrom 182 = .ok (.iadd, 1) := by decide +kernel
theorem dX5_foreseeFrom_183 : decode cX5_foreseeFrom 183 = .ok (.iaload, 1) := by decide +kernel
theorem dX5_foreseeFrom_184 : decode cX5_foreseeFrom 184 = .ok (.aload_n 0, 1) := by decide +kernel
theorem dX5_foreseeFrom_185 : decode cX5_foreseeFrom 185 = .ok (.getfield 13, 3) := by decide +kernel
theorem dX5_foreseeFrom_188 : decode cX5_foreseeFrom 188 = .ok (.iload_n 2, 1) := by decide +kernel
theorem dX5_foreseeFrom_189 : decode cX5_foreseeFrom 189 = .ok (.aaload, 1) := by decide +kernel
theorem dX5_foreseeFrom_190 : decode cX5_foreseeFrom 190 = .ok (.iload_n 1, 1) := by decide +kernel
theorem dX5_foreseeFrom_191 : decode cX5_foreseeFrom 191 = .ok (.iaload, 1) := by decide +kernel
theorem dX5_foreseeFrom_192 : decode cX5_foreseeFrom 192 = .ok (.iadd, 1) := by decide +kernel
theorem dX5_foreseeFrom_193 : decode cX5_foreseeFrom 193 = .ok (.iastore, 1) := by decide +kernel
theorem dX5_foreseeFrom_194 : decode cX5_foreseeFrom 194 = .ok (.iinc 7 1, 3) := by decide +kernel
theorem dX5_foreseeFrom_197 : decode cX5_foreseeFrom 197 = .ok (.iinc 8 1, 3) := by decide +kernel
theorem dX5_foreseeFrom_200 : decode cX5_foreseeFrom 200 = .ok (.goto (-166), 3) := by decide +kernel
theorem dX5_foreseeFrom_203 : decode cX5_foreseeFrom 203 = .ok (.return_, 1) := by decide +kernel
theorem dX5_search_0 : decode cX5_search 0 = .ok (.iload_n 1, 1) := by decide +kernel
theorem dX5_search_1 : decode cX5_search 1 = .ok (.aload_n 0, 1) := by decide +kernel
theorem dX5_search_2 : decode cX5_search 2 = .ok (.getfield 35, 3) := by decide +kernel
theorem dX5_search_5 : decode cX5_search 5 = .ok (.iconst 1, 1) := by decide +kernel
theorem dX5_search_6 : decode cX5_search 6 = .ok (.isub, 1) := by decide +kernel
theorem dX5_search_7 : decode cX5_search 7 = .ok (.if_icmp .lt 9, 3) := by decide +kernel
theorem dX5_search_10 : decode cX5_search 10 = .ok (.aload_n 0, 1) := by decide +kernel
theorem dX5_search_11 : decode cX5_search 11 = .ok (.iload_n 2, 1) := by decide +kernel
theorem dX5_search_12 : decode cX5_search 12 = .ok (.invokevirtual 99, 3) := by decide +kernel
theorem dX5_search_15 : decode cX5_search 15 = .ok (.return_, 1) := by decide +kernel
theorem dX5_search_16 : decode cX5_search 16 = .ok (.iload_n 2, 1) := by decide +kernel
theorem dX5_search_17 : decode cX5_search 17 = .ok (.aload_n 0, 1) := by decide +kernel
theorem dX5_search_18 : decode cX5_search 18 = .ok (.getfield 49, 3) := by decide +kernel
theorem dX5_search_21 : decode cX5_search 21 = .ok (.iload_n 1, 1) := by decide +kernel
theorem dX5_search_22 : decode cX5_search 22 = .ok (.invokevirtual 92, 3) := by decide +kernel
theorem dX5_search_25 : decode cX5_search 25 = .ok (.invokestatic 79, 3) := by decide +kernel
theorem dX5_search_28 : decode cX5_search 28 = .ok (.istore_n 3, 1) := by decide +kernel
theorem dX5_search_29 : decode cX5_search 29 = .ok (.iconst 0, 1) := by decide +kernel
theorem dX5_search_30 : decode cX5_search 30 = .ok (.iload_n 2, 1) := by decide +kernel
theorem dX5_search_31 : decode cX5_search 31 = .ok (.aload_n 0, 1) := by decide +kernel
theorem dX5_search_32 : decode cX5_search 32 = .ok (.getfield 26, 3) := by decide +kernel
theorem dX5_search_35 : decode cX5_search 35 = .ok (.iload_n 1, 1) := by decide +kernel
theorem dX5_search_36 : decode cX5_search 36 = .ok (.iconst 1, 1) := by decide +kernel
theorem dX5_search_37 : decode cX5_search 37 = .ok (.iadd, 1) := by decide +kernel
theorem dX5_search_38 : decode cX5_search 38 = .ok (.iaload, 1) := by decide +kernel
theorem dX5_search_39 : decode cX5_search 39 = .ok (.isub, 1) := by decide +kernel
theorem dX5_search_40 : decode cX5_search 40 = .ok (.invokestatic 73, 3) := by decide +kernel
theorem dX5_search_43 : decode cX5_search 43 = .ok (.istore 4, 2) := by decide +kernel
theorem dX5_search_45 : decode cX5_search 45 = .ok (.iload 4, 2) := by decide +kernel
theorem dX5_search_47 : decode cX5_search 47 = .ok (.iload_n 3, 1) := by decide +kernel
theorem dX5_search_48 : decode cX5_search 48 = .ok (.if_icmp .gt 20, 3) := by decide +kernel
theorem dX5_search_51 : decode cX5_search 51 = .ok (.aload_n 0, 1) := by decide +kernel
theorem dX5_search_52 : decode cX5_search 52 = .ok (.iload_n 1, 1) := by decide +kernel
theorem dX5_search_53 : decode cX5_search 53 = .ok (.iload 4, 2) := by decide +kernel
theorem dX5_search_55 : decode cX5_search 55 = .ok (.iload_n 2, 1) := by decide +kernel
theorem dX5_search_56 : decode cX5_search 56 = .ok (.iload 4, 2) := by decide +kernel
theorem dX5_search_58 : decode cX5_search 58 = .ok (.isub, 1) := by decide +kernel
theorem dX5_search_59 : decode cX5_search 59 = .ok (.invokevirtual 102, 3) := by decide +kernel
theorem dX5_search_62 : decode cX5_search 62 = .ok (.iinc 4 1, 3) := by decide +kernel
theorem dX5_search_65 : decode cX5_search 65 = .ok (.goto (-20), 3) := by decide +kernel
theorem dX5_search_68 : decode cX5_search 68 = .ok (.return_, 1) := by decide +kernel
theorem dX5_goOn_0 : decode cX5_goOn 0 = .ok (.aload_n 0, 1) := by decide +kernel
theorem dX5_goOn_1 : decode cX5_goOn 1 = .ok (.iload_n 1, 1) := by decide +kernel
theorem dX5_goOn_2 : decode cX5_goOn 2 = .ok (.iload_n 2, 1) := by decide +kernel
theorem dX5_goOn_3 : decode cX5_goOn 3 = .ok (.iload_n 3, 1) := by decide +kernel
theorem dX5_goOn_4 : decode cX5_goOn 4 = .ok (.invokevirtual 105, 3) := by decide +kernel
theorem dX5_goOn_7 : decode cX5_goOn 7 = .ok (.ifCond .eq 18, 3) := by decide +kernel
theorem dX5_goOn_10 : decode cX5_goOn 10 = .ok (.aload_n 0, 1) := by decide +kernel
theorem dX5_goOn_11 : decode cX5_goOn 11 = .ok (.getfield 29, 3) := by decide +kernel
theorem dX5_goOn_14 : decode cX5_goOn 14 = .ok (.iload_n 1, 1) := by decide +kernel
theorem dX5_goOn_15 : decode cX5_goOn 15 = .ok (.iload_n 2, 1) := by decide +kernel
theorem dX5_goOn_16 : decode cX5_goOn 16 = .ok (.iastore, 1) := by decide +kernel
theorem dX5_goOn_17 : decode cX5_goOn 17 = .ok (.aload_n 0, 1) := by decide +kernel
theorem dX5_goOn_18 : decode cX5_goOn 18 = .ok (.iload_n 1, 1) := by decide +kernel
theorem dX5_goOn_19 : decode cX5_goOn 19 = .ok (.iconst 1, 1) := by decide +kernel
theorem dX5_goOn_20 : decode cX5_goOn 20 = .ok (.iadd, 1) := by decide +kernel
theorem dX5_goOn_21 : decode cX5_goOn 21 = .ok (.iload_n 3, 1) := by decide +kernel
theorem dX5_goOn_22 : decode cX5_goOn 22 = .ok (.invokevirtual 64, 3) := by decide +kernel
theorem dX5_goOn_25 : decode cX5_goOn 25 = .ok (.return_, 1) := by decide +kernel
theorem dX5_staysBelow_0 : decode cX5_staysBelow 0 = .ok (.iconst 0, 1) := by decide +kernel
theorem dX5_staysBelow_1 : decode cX5_staysBelow 1 = .ok (.istore 4, 2) := by decide +kernel
theorem dX5_staysBelow_3 : decode cX5_staysBelow 3 = .ok (.iload 4, 2) := by decide +kernel
theorem dX5_staysBelow_5 : decode cX5_staysBelow 5 = .ok (.iconst 4, 1) := by decide +kernel
theorem dX5_staysBelow_6 : decode cX5_staysBelow 6 = .ok (.if_icmp .ge 76, 3) := by decide +kernel
theorem dX5_staysBelow_9 : decode cX5_staysBelow 9 = .ok (.aload_n 0, 1) := by decide +kernel
theorem dX5_staysBelow_10 : decode cX5_staysBelow 10 = .ok (.getfield 19, 3) := by decide +kernel
theorem dX5_staysBelow_13 : decode cX5_staysBelow 13 = .ok (.iload 4, 2) := by decide +kernel
theorem dX5_staysBelow_15 : decode cX5_staysBelow 15 = .ok (.aaload, 1) := by decide +kernel
theorem dX5_staysBelow_16 : decode cX5_staysBelow 16 = .ok (.iload_n 1, 1) := by decide +kernel
theorem dX5_staysBelow_17 : decode cX5_staysBelow 17 = .ok (.iaload, 1) := by decide +kernel
theorem dX5_staysBelow_18 : decode cX5_staysBelow 18 = .ok (.iload_n 2, 1) := by decide +kernel
theorem dX5_staysBelow_19 : decode cX5_staysBelow 19 = .ok (.aload_n 0, 1) := by decide +kernel
theorem dX5_staysBelow_20 : decode cX5_staysBelow 20 = .ok (.getfield 13, 3) := by decide +kernel
theorem dX5_staysBelow_23 : decode cX5_staysBelow 23 = .ok (.iload 4, 2) := by decide +kernel
theorem dX5_staysBelow_25 : decode cX5_staysBelow 25 = .ok (.aaload, 1) := by decide +kernel
theorem dX5_staysBelow_26 : decode cX5_staysBelow 26 = .ok (.iload_n 1, 1) := by decide +kernel
theorem dX5_staysBelow_27 : decode cX5_staysBelow 27 = .ok (.iaload, 1) := by decide +kernel
theorem dX5_staysBelow_28 : decode cX5_staysBelow 28 = .ok (.imul, 1) := by decide +kernel
theorem dX5_staysBelow_29 : decode cX5_staysBelow 29 = .ok (.iadd, 1) := by decide +kernel
theorem dX5_staysBelow_30 : decode cX5_staysBelow 30 = .ok (.istore 5, 2) := by decide +kernel
theorem dX5_staysBelow_32 : decode cX5_staysBelow 32 = .ok (.iload 5, 2) := by decide +kernel
theorem dX5_staysBelow_34 : decode cX5_staysBelow 34 = .ok (.aload_n 0, 1) := by decide +kernel
theorem dX5_staysBelow_35 : decode cX5_staysBelow 35 = .ok (.getfield 16, 3) := by decide +kernel
theorem dX5_staysBelow_38 : decode cX5_staysBelow 38 = .ok (.iload 4, 2) := by decide +kernel
theorem dX5_staysBelow_40 : decode cX5_staysBelow 40 = .ok (.aaload, 1) := by decide +kernel
theorem dX5_staysBelow_41 : decode cX5_staysBelow 41 = .ok (.iload_n 1, 1) := by decide +kernel
theorem dX5_staysBelow_42 : decode cX5_staysBelow 42 = .ok (.iconst 1, 1) := by decide +kernel
theorem dX5_staysBelow_43 : decode cX5_staysBelow 43 = .ok (.iadd, 1) := by decide +kernel
theorem dX5_staysBelow_44 : decode cX5_staysBelow 44 = .ok (.bipush 41, 2) := by decide +kernel
theorem dX5_staysBelow_46 : decode cX5_staysBelow 46 = .ok (.imul, 1) := by decide +kernel
theorem dX5_staysBelow_47 : decode cX5_staysBelow 47 = .ok (.iload_n 3, 1) := by decide +kernel
theorem dX5_staysBelow_48 : decode cX5_staysBelow 48 = .ok (.iadd, 1) := by decide +kernel
theorem dX5_staysBelow_49 : decode cX5_staysBelow 49 = .ok (.iaload, 1) := by decide +kernel
theorem dX5_staysBelow_50 : decode cX5_staysBelow 50 = .ok (.iadd, 1) := by decide +kernel
theorem dX5_staysBelow_51 : decode cX5_staysBelow 51 = .ok (.aload_n 0, 1) := by decide +kernel
theorem dX5_staysBelow_52 : decode cX5_staysBelow 52 = .ok (.getfield 22, 3) := by decide +kernel
theorem dX5_staysBelow_55 : decode cX5_staysBelow 55 = .ok (.iload 4, 2) := by decide +kernel
theorem dX5_staysBelow_57 : decode cX5_staysBelow 57 = .ok (.iaload, 1) := by decide +kernel
theorem dX5_staysBelow_58 : decode cX5_staysBelow 58 = .ok (.if_icmp .le 5, 3) := by decide +kernel
theorem dX5_staysBelow_61 : decode cX5_staysBelow 61 = .ok (.iconst 0, 1) := by decide +kernel
theorem dX5_staysBelow_62 : decode cX5_staysBelow 62 = .ok (.ireturn, 1) := by decide +kernel
theorem dX5_staysBelow_63 : decode cX5_staysBelow 63 = .ok (.aload_n 0, 1) := by decide +kernel
theorem dX5_staysBelow_64 : decode cX5_staysBelow 64 = .ok (.getfield 19, 3) := by decide +kernel
theorem dX5_staysBelow_67 : decode cX5_staysBelow 67 = .ok (.iload 4, 2) := by decide +kernel
theorem dX5_staysBelow_69 : decode cX5_staysBelow 69 = .ok (.aaload, 1) := by decide +kernel
theorem dX5_staysBelow_70 : decode cX5_staysBelow 70 = .ok (.iload_n 1, 1) := by decide +kernel
theorem dX5_staysBelow_71 : decode cX5_staysBelow 71 = .ok (.iconst 1, 1) := by decide +kernel
theorem dX5_staysBelow_72 : decode cX5_staysBelow 72 = .ok (.iadd, 1) := by decide +kernel
theorem dX5_staysBelow_73 : decode cX5_staysBelow 73 = .ok (.iload 5, 2) := by decide +kernel
theorem dX5_staysBelow_75 : decode cX5_staysBelow 75 = .ok (.iastore, 1) := by decide +kernel
theorem dX5_staysBelow_76 : decode cX5_staysBelow 76 = .ok (.iinc 4 1, 3) := by decide +kernel
theorem dX5_staysBelow_79 : decode cX5_staysBelow 79 = .ok (.goto (-76), 3) := by decide +kernel
theorem dX5_staysBelow_82 : decode cX5_staysBelow 82 = .ok (.iconst 1, 1) := by decide +kernel
theorem dX5_staysBelow_83 : decode cX5_staysBelow 83 = .ok (.ireturn, 1) := by decide +kernel
theorem dX5_shareOut_0 : decode cX5_shareOut 0 = .ok (.aload_n 0, 1) := by decide +kernel
theorem dX5_shareOut_1 : decode cX5_shareOut 1 = .ok (.getfield 35, 3) := by decide +kernel
theorem dX5_shareOut_4 : decode cX5_shareOut 4 = .ok (.iconst 1, 1) := by decide +kernel
theorem dX5_shareOut_5 : decode cX5_shareOut 5 = .ok (.isub, 1) := by decide +kernel
theorem dX5_shareOut_6 : decode cX5_shareOut 6 = .ok (.istore_n 2, 1) := by decide +kernel
theorem dX5_shareOut_7 : decode cX5_shareOut 7 = .ok (.aload_n 0, 1) := by decide +kernel
theorem dX5_shareOut_8 : decode cX5_shareOut 8 = .ok (.iconst 0, 1) := by decide +kernel
theorem dX5_shareOut_9 : decode cX5_shareOut 9 = .ok (.iload_n 1, 1) := by decide +kernel
theorem dX5_shareOut_10 : decode cX5_shareOut 10 = .ok (.aload_n 0, 1) := by decide +kernel
theorem dX5_shareOut_11 : decode cX5_shareOut 11 = .ok (.getfield 49, 3) := by decide +kernel
theorem dX5_shareOut_14 : decode cX5_shareOut 14 = .ok (.aload_n 0, 1) := by decide +kernel
theorem dX5_shareOut_15 : decode cX5_shareOut 15 = .ok (.getfield 35, 3) := by decide +kernel
theorem dX5_shareOut_18 : decode cX5_shareOut 18 = .ok (.invokevirtual 92, 3) := by decide +kernel
theorem dX5_shareOut_21 : decode cX5_shareOut 21 = .ok (.isub, 1) := by decide +kernel
theorem dX5_shareOut_22 : decode cX5_shareOut 22 = .ok (.invokestatic 73, 3) := by decide +kernel
theorem dX5_shareOut_25 : decode cX5_shareOut 25 = .ok (.putfield 39, 3) := by decide +kernel
theorem dX5_shareOut_28 : decode cX5_shareOut 28 = .ok (.aload_n 0, 1) := by decide +kernel
theorem dX5_shareOut_29 : decode cX5_shareOut 29 = .ok (.iload_n 1, 1) := by decide +kernel
theorem dX5_shareOut_30 : decode cX5_shareOut 30 = .ok (.aload_n 0, 1) := by decide +kernel
theorem dX5_shareOut_31 : decode cX5_shareOut 31 = .ok (.getfield 49, 3) := by decide +kernel
theorem dX5_shareOut_34 : decode cX5_shareOut 34 = .ok (.iload_n 2, 1) := by decide +kernel
theorem dX5_shareOut_35 : decode cX5_shareOut 35 = .ok (.invokevirtual 92, 3) := by decide +kernel
theorem dX5_shareOut_38 : decode cX5_shareOut 38 = .ok (.invokestatic 79, 3) := by decide +kernel
theorem dX5_shareOut_41 : decode cX5_shareOut 41 = .ok (.putfield 42, 3) := by decide +kernel
theorem dX5_shareOut_44 : decode cX5_shareOut 44 = .ok (.iconst 0, 1) := by decide +kernel
theorem dX5_shareOut_45 : decode cX5_shareOut 45 = .ok (.istore_n 3, 1) := by decide +kernel
theorem dX5_shareOut_46 : decode cX5_shareOut 46 = .ok (.iload_n 3, 1) := by decide +kernel
theorem dX5_shareOut_47 : decode cX5_shareOut 47 = .ok (.iconst 4, 1) := by decide +kernel
theorem dX5_shareOut_48 : decode cX5_shareOut 48 = .ok (.if_icmp .ge 16, 3) := by decide +kernel
theorem dX5_shareOut_51 : decode cX5_shareOut 51 = .ok (.aload_n 0, 1) := by decide +kernel
theorem dX5_shareOut_52 : decode cX5_shareOut 52 = .ok (.iload_n 3, 1) := by decide +kernel
theorem dX5_shareOut_53 : decode cX5_shareOut 53 = .ok (.iload_n 2, 1) := by decide +kernel
theorem dX5_shareOut_54 : decode cX5_shareOut 54 = .ok (.iload_n 1, 1) := by decide +kernel
theorem dX5_shareOut_55 : decode cX5_shareOut 55 = .ok (.invokevirtual 109, 3) := by decide +kernel
theorem dX5_shareOut_58 : decode cX5_shareOut 58 = .ok (.iinc 3 1, 3) := by decide +kernel
theorem dX5_shareOut_61 : decode cX5_shareOut 61 = .ok (.goto (-15), 3) := by decide +kernel
theorem dX5_shareOut_64 : decode cX5_shareOut 64 = .ok (.aload_n 0, 1) := by decide +kernel
theorem dX5_shareOut_65 : decode cX5_shareOut 65 = .ok (.getfield 39, 3) := by decide +kernel
theorem dX5_shareOut_68 : decode cX5_shareOut 68 = .ok (.aload_n 0, 1) := by decide +kernel
theorem dX5_shareOut_69 : decode cX5_shareOut 69 = .ok (.getfield 42, 3) := by decide +kernel
theorem dX5_shareOut_72 : decode cX5_shareOut 72 = .ok (.if_icmp .le 4, 3) := by decide +kernel
theorem dX5_shareOut_75 : decode cX5_shareOut 75 = .ok (.return_, 1) := by decide +kernel
theorem dX5_shareOut_76 : decode cX5_shareOut 76 = .ok (.aload_n 0, 1) := by decide +kernel
theorem dX5_shareOut_77 : decode cX5_shareOut 77 = .ok (.getfield 29, 3) := by decide +kernel
theorem dX5_shareOut_80 : decode cX5_shareOut 80 = .ok (.iload_n 2, 1) := by decide +kernel
theorem dX5_shareOut_81 : decode cX5_shareOut 81 = .ok (.aload_n 0, 1) := by decide +kernel
theorem dX5_shareOut_82 : decode cX5_shareOut 82 = .ok (.getfield 13, 3) := by decide +kernel
theorem dX5_shareOut_85 : decode cX5_shareOut 85 = .ok (.iconst 0, 1) := by decide +kernel
theorem dX5_shareOut_86 : decode cX5_shareOut 86 = .ok (.aaload, 1) := by decide +kernel
theorem dX5_shareOut_87 : decode cX5_shareOut 87 = .ok (.iload_n 2, 1) := by decide +kernel
theorem dX5_shareOut_88 : decode cX5_shareOut 88 = .ok (.iaload, 1) := by decide +kernel
theorem dX5_shareOut_89 : decode cX5_shareOut 89 = .ok (.aload_n 0, 1) := by decide +kernel
theorem dX5_shareOut_90 : decode cX5_shareOut 90 = .ok (.getfield 13, 3) := by decide +kernel
theorem dX5_shareOut_93 : decode cX5_shareOut 93 = .ok (.iconst 0, 1) := by decide +kernel
theorem dX5_shareOut_94 : decode cX5_shareOut 94 = .ok (.aaload, 1) := by decide +kernel
theorem dX5_shareOut_95 : decode cX5_shareOut 95 = .ok (.aload_n 0, 1) := by decide +kernel
theorem dX5_shareOut_96 : decode cX5_shareOut 96 = .ok (.getfield 35, 3) := by decide +kernel
theorem dX5_shareOut_99 : decode cX5_shareOut 99 = .ok (.iaload, 1) := by decide +kernel
theorem dX5_shareOut_100 : decode cX5_shareOut 100 = .ok (.if_icmp .lt 10, 3) := by decide +kernel
theorem dX5_shareOut_103 : decode cX5_shareOut 103 = .ok (.aload_n 0, 1) := by decide +kernel
theorem dX5_shareOut_104 : decode cX5_shareOut 104 = .ok (.getfield 39, 3) := by decide +kernel
theorem dX5_shareOut_107 : decode cX5_shareOut 107 = .ok (.goto 7, 3) := by decide +kernel
theorem dX5_shareOut_110 : decode cX5_shareOut 110 = .ok (.aload_n 0, 1) := by decide +kernel
theorem dX5_shareOut_111 : decode cX5_shareOut 111 = .ok (.getfield 42, 3) := by decide +kernel
theorem dX5_shareOut_114 : decode cX5_shareOut 114 = .ok (.iastore, 1) := by decide +kernel
theorem dX5_shareOut_115 : decode cX5_shareOut 115 = .ok (.aload_n 0, 1) := by decide +kernel
theorem dX5_shareOut_116 : decode cX5_shareOut 116 = .ok (.getfield 29, 3) := by decide +kernel
theorem dX5_shareOut_119 : decode cX5_shareOut 119 = .ok (.aload_n 0, 1) := by decide +kernel
theorem dX5_shareOut_120 : decode cX5_shareOut 120 = .ok (.getfield 35, 3) := by decide +kernel
theorem dX5_shareOut_123 : decode cX5_shareOut 123 = .ok (.iload_n 1, 1) := by decide +kernel
theorem dX5_shareOut_124 : decode cX5_shareOut 124 = .ok (.aload_n 0, 1) := by decide +kernel
theorem dX5_shareOut_125 : decode cX5_shareOut 125 = .ok (.getfield 29, 3) := by decide +kernel
theorem dX5_shareOut_128 : decode cX5_shareOut 128 = .ok (.iload_n 2, 1) := by decide +kernel
theorem dX5_shareOut_129 : decode cX5_shareOut 129 = .ok (.iaload, 1) := by decide +kernel
theorem dX5_shareOut_130 : decode cX5_shareOut 130 = .ok (.isub, 1) := by decide +kernel
theorem dX5_shareOut_131 : decode cX5_shareOut 131 = .ok (.iastore, 1) := by decide +kernel
theorem dX5_shareOut_132 : decode cX5_shareOut 132 = .ok (.aload_n 0, 1) := by decide +kernel
theorem dX5_shareOut_133 : decode cX5_shareOut 133 = .ok (.invokevirtual 112, 3) := by decide +kernel
theorem dX5_shareOut_136 : decode cX5_shareOut 136 = .ok (.return_, 1) := by decide +kernel
theorem dX5_narrow_0 : decode cX5_narrow 0 = .ok (.aload_n 0, 1) := by decide +kernel
theorem dX5_narrow_1 : decode cX5_narrow 1 = .ok (.getfield 13, 3) := by decide +kernel
theorem dX5_narrow_4 : decode cX5_narrow 4 = .ok (.iload_n 1, 1) := by decide +kernel
theorem dX5_narrow_5 : decode cX5_narrow 5 = .ok (.aaload, 1) := by decide +kernel
theorem dX5_narrow_6 : decode cX5_narrow 6 = .ok (.iload_n 2, 1) := by decide +kernel
theorem dX5_narrow_7 : decode cX5_narrow 7 = .ok (.iaload, 1) := by decide +kernel
theorem dX5_narrow_8 : decode cX5_narrow 8 = .ok (.aload_n 0, 1) := by decide +kernel
theorem dX5_narrow_9 : decode cX5_narrow 9 = .ok (.getfield 13, 3) := by decide +kernel
theorem dX5_narrow_12 : decode cX5_narrow 12 = .ok (.iload_n 1, 1) := by decide +kernel
theorem dX5_narrow_13 : decode cX5_narrow 13 = .ok (.aaload, 1) := by decide +kernel
theorem dX5_narrow_14 : decode cX5_narrow 14 = .ok (.aload_n 0, 1) := by decide +kernel
theorem dX5_narrow_15 : decode cX5_narrow 15 = .ok (.getfield 35, 3) := by decide +kernel
theorem dX5_narrow_18 : decode cX5_narrow 18 = .ok (.iaload, 1) := by decide +kernel
theorem dX5_narrow_19 : decode cX5_narrow 19 = .ok (.isub, 1) := by decide +kernel
theorem dX5_narrow_20 : decode cX5_narrow 20 = .ok (.istore 4, 2) := by decide +kernel
theorem dX5_narrow_22 : decode cX5_narrow 22 = .ok (.aload_n 0, 1) := by decide +kernel
theorem dX5_narrow_23 : decode cX5_narrow 23 = .ok (.getfield 22, 3) := by decide +kernel
theorem dX5_narrow_26 : decode cX5_narrow 26 = .ok (.iload_n 1, 1) := by decide +kernel
theorem dX5_narrow_27 : decode cX5_narrow 27 = .ok (.iaload, 1) := by decide +kernel
theorem dX5_narrow_28 : decode cX5_narrow 28 = .ok (.aload_n 0, 1) := by decide +kernel
theorem dX5_narrow_29 : decode cX5_narrow 29 = .ok (.getfield 19, 3) := by decide +kernel
theorem dX5_narrow_32 : decode cX5_narrow 32 = .ok (.iload_n 1, 1) := by decide +kernel
theorem dX5_narrow_33 : decode cX5_narrow 33 = .ok (.aaload, 1) := by decide +kernel
theorem dX5_narrow_34 : decode cX5_narrow 34 = .ok (.iload_n 2, 1) := by decide +kernel
theorem dX5_narrow_35 : decode cX5_narrow 35 = .ok (.iaload, 1) := by decide +kernel
theorem dX5_narrow_36 : decode cX5_narrow 36 = .ok (.isub, 1) := by decide +kernel
theorem dX5_narrow_37 : decode cX5_narrow 37 = .ok (.iload_n 3, 1) := by decide +kernel
theorem dX5_narrow_38 : decode cX5_narrow 38 = .ok (.aload_n 0, 1) := by decide +kernel
theorem dX5_narrow_39 : decode cX5_narrow 39 = .ok (.getfield 13, 3) := by decide +kernel
theorem dX5_narrow_42 : decode cX5_narrow 42 = .ok (.iload_n 1, 1) := by decide +kernel
theorem dX5_narrow_43 : decode cX5_narrow 43 = .ok (.aaload, 1) := by decide +kernel
theorem dX5_narrow_44 : decode cX5_narrow 44 = .ok (.aload_n 0, 1) := by decide +kernel
theorem dX5_narrow_45 : decode cX5_narrow 45 = .ok (.getfield 35, 3) := by decide +kernel
theorem dX5_narrow_48 : decode cX5_narrow 48 = .ok (.iaload, 1) := by decide +kernel
theorem dX5_narrow_49 : decode cX5_narrow 49 = .ok (.imul, 1) := by decide +kernel
theorem dX5_narrow_50 : decode cX5_narrow 50 = .ok (.isub, 1) := by decide +kernel
theorem dX5_narrow_51 : decode cX5_narrow 51 = .ok (.istore 5, 2) := by decide +kernel
theorem dX5_narrow_53 : decode cX5_narrow 53 = .ok (.iload 4, 2) := by decide +kernel
theorem dX5_narrow_55 : decode cX5_narrow 55 = .ok (.ifCond .le 24, 3) := by decide +kernel
theorem dX5_narrow_58 : decode cX5_narrow 58 = .ok (.aload_n 0, 1) := by decide +kernel
theorem dX5_narrow_59 : decode cX5_narrow 59 = .ok (.aload_n 0, 1) := by decide +kernel
theorem dX5_narrow_60 : decode cX5_narrow 60 = .ok (.getfield 42, 3) := by decide +kernel
theorem dX5_narrow_63 : decode cX5_narrow 63 = .ok (.iload 5, 2) := by decide +kernel
theorem dX5_narrow_65 : decode cX5_narrow 65 = .ok (.iload 4, 2) := by decide +kernel
theorem dX5_narrow_67 : decode cX5_narrow 67 = .ok (.invokestatic 115, 3) := by decide +kernel
theorem dX5_narrow_70 : decode cX5_narrow 70 = .ok (.invokestatic 79, 3) := by decide +kernel
theorem dX5_narrow_73 : decode cX5_narrow 73 = .ok (.putfield 42, 3) := by decide +kernel
theorem dX5_narrow_76 : decode cX5_narrow 76 = .ok (.goto 41, 3) := by decide +kernel
theorem dX5_narrow_79 : decode cX5_narrow 79 = .ok (.iload 4, 2) := by decide +kernel
theorem dX5_narrow_81 : decode cX5_narrow 81 = .ok (.ifCond .ge 26, 3) := by decide +kernel
theorem dX5_narrow_84 : decode cX5_narrow 84 = .ok (.aload_n 0, 1) := by decide +kernel
theorem dX5_narrow_85 : decode cX5_narrow 85 = .ok (.aload_n 0, 1) := by decide +kernel
theorem dX5_narrow_86 : decode cX5_narrow 86 = .ok (.getfield 39, 3) := by decide +kernel
theorem dX5_narrow_89 : decode cX5_narrow 89 = .ok (.iload 5, 2) := by decide +kernel
theorem dX5_narrow_91 : decode cX5_narrow 91 = .ok (.iload 4, 2) := by decide +kernel
theorem dX5_narrow_93 : decode cX5_narrow 93 = .ok (.ineg, 1) := by decide +kernel
theorem dX5_narrow_94 : decode cX5_narrow 94 = .ok (.invokestatic 115, 3) := by decide +kernel
theorem dX5_narrow_97 : decode cX5_narrow 97 = .ok (.ineg, 1) := by decide +kernel
theorem dX5_narrow_98 : decode cX5_narrow 98 = .ok (.invokestatic 73, 3) := by decide +kernel
theorem dX5_narrow_101 : decode cX5_narrow 101 = .ok (.putfield 39, 3) := by decide +kernel
theorem dX5_narrow_104 : decode cX5_narrow 104 = .ok (.goto 13, 3) := by decide +kernel
theorem dX5_narrow_107 : decode cX5_narrow 107 = .ok (.iload 5, 2) := by decide +kernel
theorem dX5_narrow_109 : decode cX5_narrow 109 = .ok (.ifCond .ge 8, 3) := by decide +kernel
theorem dX5_narrow_112 : decode cX5_narrow 112 = .ok (.aload_n 0, 1) := by decide +kernel
theorem dX5_narrow_113 : decode cX5_narrow 113 = .ok (.iconst (-1), 1) := by decide +kernel
theorem dX5_narrow_114 : decode cX5_narrow 114 = .ok (.putfield 42, 3) := by decide +kernel
theorem dX5_narrow_117 : decode cX5_narrow 117 = .ok (.return_, 1) := by decide +kernel
theorem dX5_keepRow_0 : decode cX5_keepRow 0 = .ok (.aload_n 0, 1) := by decide +kernel
theorem dX5_keepRow_1 : decode cX5_keepRow 1 = .ok (.getfield 19, 3) := by decide +kernel
theorem dX5_keepRow_4 : decode cX5_keepRow 4 = .ok (.iconst 0, 1) := by decide +kernel
theorem dX5_keepRow_5 : decode cX5_keepRow 5 = .ok (.aaload, 1) := by decide +kernel
theorem dX5_keepRow_6 : decode cX5_keepRow 6 = .ok (.aload_n 0, 1) := by decide +kernel
theorem dX5_keepRow_7 : decode cX5_keepRow 7 = .ok (.getfield 35, 3) := by decide +kernel
theorem dX5_keepRow_10 : decode cX5_keepRow 10 = .ok (.iconst 1, 1) := by decide +kernel
theorem dX5_keepRow_11 : decode cX5_keepRow 11 = .ok (.isub, 1) := by decide +kernel
theorem dX5_keepRow_12 : decode cX5_keepRow 12 = .ok (.iaload, 1) := by decide +kernel
theorem dX5_keepRow_13 : decode cX5_keepRow 13 = .ok (.aload_n 0, 1) := by decide +kernel
theorem dX5_keepRow_14 : decode cX5_keepRow 14 = .ok (.getfield 29, 3) := by decide +kernel
theorem dX5_keepRow_17 : decode cX5_keepRow 17 = .ok (.aload_n 0, 1) := by decide +kernel
theorem dX5_keepRow_18 : decode cX5_keepRow 18 = .ok (.getfield 35, 3) := by decide +kernel
theorem dX5_keepRow_21 : decode cX5_keepRow 21 = .ok (.iconst 1, 1) := by decide +kernel
theorem dX5_keepRow_22 : decode cX5_keepRow 22 = .ok (.isub, 1) := by decide +kernel
theorem dX5_keepRow_23 : decode cX5_keepRow 23 = .ok (.iaload, 1) := by decide +kernel
theorem dX5_keepRow_24 : decode cX5_keepRow 24 = .ok (.aload_n 0, 1) := by decide +kernel
theorem dX5_keepRow_25 : decode cX5_keepRow 25 = .ok (.getfield 13, 3) := by decide +kernel
theorem dX5_keepRow_28 : decode cX5_keepRow 28 = .ok (.iconst 0, 1) := by decide +kernel
theorem dX5_keepRow_29 : decode cX5_keepRow 29 = .ok (.aaload, 1) := by decide +kernel
theorem dX5_keepRow_30 : decode cX5_keepRow 30 = .ok (.aload_n 0, 1) := by decide +kernel
theorem dX5_keepRow_31 : decode cX5_keepRow 31 = .ok (.getfield 35, 3) := by decide +kernel
theorem dX5_keepRow_34 : decode cX5_keepRow 34 = .ok (.iconst 1, 1) := by decide +kernel
theorem dX5_keepRow_35 : decode cX5_keepRow 35 = .ok (.isub, 1) := by decide +kernel
theorem dX5_keepRow_36 : decode cX5_keepRow 36 = .ok (.iaload, 1) := by decide +kernel
theorem dX5_keepRow_37 : decode cX5_keepRow 37 = .ok (.imul, 1) := by decide +kernel
theorem dX5_keepRow_38 : decode cX5_keepRow 38 = .ok (.iadd, 1) := by decide +kernel
theorem dX5_keepRow_39 : decode cX5_keepRow 39 = .ok (.aload_n 0, 1) := by decide +kernel
theorem dX5_keepRow_40 : decode cX5_keepRow 40 = .ok (.getfield 29, 3) := by decide +kernel
theorem dX5_keepRow_43 : decode cX5_keepRow 43 = .ok (.aload_n 0, 1) := by decide +kernel
theorem dX5_keepRow_44 : decode cX5_keepRow 44 = .ok (.getfield 35, 3) := by decide +kernel
theorem dX5_keepRow_47 : decode cX5_keepRow 47 = .ok (.iaload, 1) := by decide +kernel
theorem dX5_keepRow_48 : decode cX5_keepRow 48 = .ok (.aload_n 0, 1) := by decide +kernel
theorem dX5_keepRow_49 : decode cX5_keepRow 49 = .ok (.getfield 13, 3) := by decide +kernel
theorem dX5_keepRow_52 : decode cX5_keepRow 52 = .ok (.iconst 0, 1) := by decide +kernel
theorem dX5_keepRow_53 : decode cX5_keepRow 53 = .ok (.aaload, 1) := by decide +kernel
theorem dX5_keepRow_54 : decode cX5_keepRow 54 = .ok (.aload_n 0, 1) := by decide +kernel
theorem dX5_keepRow_55 : decode cX5_keepRow 55 = .ok (.getfield 35, 3) := by decide +kernel
theorem dX5_keepRow_58 : decode cX5_keepRow 58 = .ok (.iaload, 1) := by decide +kernel
theorem dX5_keepRow_59 : decode cX5_keepRow 59 = .ok (.imul, 1) := by decide +kernel
theorem dX5_keepRow_60 : decode cX5_keepRow 60 = .ok (.iadd, 1) := by decide +kernel
theorem dX5_keepRow_61 : decode cX5_keepRow 61 = .ok (.istore_n 1, 1) := by decide +kernel
theorem dX5_keepRow_62 : decode cX5_keepRow 62 = .ok (.aload_n 0, 1) := by decide +kernel
theorem dX5_keepRow_63 : decode cX5_keepRow 63 = .ok (.iconst 1, 1) := by decide +kernel
theorem dX5_keepRow_64 : decode cX5_keepRow 64 = .ok (.putfield 45, 3) := by decide +kernel
theorem dX5_keepRow_67 : decode cX5_keepRow 67 = .ok (.aload_n 0, 1) := by decide +kernel
theorem dX5_keepRow_68 : decode cX5_keepRow 68 = .ok (.getfield 22, 3) := by decide +kernel
theorem dX5_keepRow_71 : decode cX5_keepRow 71 = .ok (.iconst 0, 1) := by decide +kernel
theorem dX5_keepRow_72 : decode cX5_keepRow 72 = .ok (.iload_n 1, 1) := by decide +kernel
theorem dX5_keepRow_73 : decode cX5_keepRow 73 = .ok (.iconst 1, 1) := by decide +kernel
theorem dX5_keepRow_74 : decode cX5_keepRow 74 = .ok (.isub, 1) := by decide +kernel
theorem dX5_keepRow_75 : decode cX5_keepRow 75 = .ok (.iastore, 1) := by decide +kernel
theorem dX5_keepRow_76 : decode cX5_keepRow 76 = .ok (.aload_n 0, 1) := by decide +kernel
theorem dX5_keepRow_77 : decode cX5_keepRow 77 = .ok (.getfield 29, 3) := by decide +kernel
theorem dX5_keepRow_80 : decode cX5_keepRow 80 = .ok (.iconst 0, 1) := by decide +kernel
theorem dX5_keepRow_81 : decode cX5_keepRow 81 = .ok (.aload_n 0, 1) := by decide +kernel
theorem dX5_keepRow_82 : decode cX5_keepRow 82 = .ok (.getfield 32, 3) := by decide +kernel
theorem dX5_keepRow_85 : decode cX5_keepRow 85 = .ok (.iconst 0, 1) := by decide +kernel
theorem dX5_keepRow_86 : decode cX5_keepRow 86 = .ok (.bipush 6, 2) := by decide +kernel
theorem dX5_keepRow_88 : decode cX5_keepRow 88 = .ok (.invokestatic 118, 3) := by decide +kernel
theorem dX5_keepRow_91 : decode cX5_keepRow 91 = .ok (.return_, 1) := by decide +kernel
theorem dX6_init_0 : decode cX6_init 0 = .ok (.aload_n 0, 1) := by decide +kernel
theorem dX6_init_1 : decode cX6_init 1 = .ok (.invokespecial 3, 3) := by decide +kernel
theorem dX6_init_4 : decode cX6_init 4 = .ok (.aload_n 0, 1) := by decide +kernel
theorem dX6_init_5 : decode cX6_init 5 = .ok (.bipush 20, 2) := by decide +kernel
theorem dX6_init_7 : decode cX6_init 7 = .ok (.newarray .int, 2) := by decide +kernel
theorem dX6_init_9 : decode cX6_init 9 = .ok (.putfield 9, 3) := by decide +kernel
theorem dX6_init_12 : decode cX6_init 12 = .ok (.aload_n 0, 1) := by decide +kernel
theorem dX6_init_13 : decode cX6_init 13 = .ok (.bipush 20, 2) := by decide +kernel
theorem dX6_init_15 : decode cX6_init 15 = .ok (.newarray .int, 2) := by decide +kernel
theorem dX6_init_17 : decode cX6_init 17 = .ok (.putfield 15, 3) := by decide +kernel
theorem dX6_init_20 : decode cX6_init 20 = .ok (.aload_n 0, 1) := by decide +kernel
theorem dX6_init_21 : decode cX6_init 21 = .ok (.bipush 20, 2) := by decide +kernel
theorem dX6_init_23 : decode cX6_init 23 = .ok (.newarray .int, 2) := by decide +kernel
theorem dX6_init_25 : decode cX6_init 25 = .ok (.putfield 18, 3) := by decide +kernel
theorem dX6_init_28 : decode cX6_init 28 = .ok (.aload_n 0, 1) := by decide +kernel
theorem dX6_init_29 : decode cX6_init 29 = .ok (.iconst 0, 1) := by decide +kernel
theorem dX6_init_30 : decode cX6_init 30 = .ok (.putfield 21, 3) := by decide +kernel
theorem dX6_init_33 : decode cX6_init 33 = .ok (.return_, 1) := by decide +kernel
theorem dX6_length_0 : decode cX6_length 0 = .ok (.aload_n 0, 1) := by decide +kernel
theorem dX6_length_1 : decode cX6_length 1 = .ok (.getfield 21, 3) := by decide +kernel
theorem dX6_length_4 : decode cX6_length 4 = .ok (.ireturn, 1) := by decide +kernel
theorem dX6_clear_0 : decode cX6_clear 0 = .ok (.aload_n 0, 1) := by decide +kernel
theorem dX6_clear_1 : decode cX6_clear 1 = .ok (.iconst 0, 1) := by decide +kernel
theorem dX6_clear_2 : decode cX6_clear 2 = .ok (.putfield 21, 3) := by decide +kernel
theorem dX6_clear_5 : decode cX6_clear 5 = .ok (.return_, 1) := by decide +kernel
theorem dX6_add_0 : decode cX6_add 0 = .ok (.aload_n 0, 1) := by decide +kernel
theorem dX6_add_1 : decode cX6_add 1 = .ok (.getfield 21, 3) := by decide +kernel
theorem dX6_add_4 : decode cX6_add 4 = .ok (.bipush 20, 2) := by decide +kernel
theorem dX6_add_6 : decode cX6_add 6 = .ok (.if_icmp .ge 43, 3) := by decide +kernel
theorem dX6_add_9 : decode cX6_add 9 = .ok (.aload_n 0, 1) := by decide +kernel
theorem dX6_add_10 : decode cX6_add 10 = .ok (.getfield 9, 3) := by decide +kernel
theorem dX6_add_13 : decode cX6_add 13 = .ok (.aload_n 0, 1) := by decide +kernel
theorem dX6_add_14 : decode cX6_add 14 = .ok (.getfield 21, 3) := by decide +kernel
theorem dX6_add_17 : decode cX6_add 17 = .ok (.iload_n 1, 1) := by decide +kernel
theorem dX6_add_18 : decode cX6_add 18 = .ok (.iastore, 1) := by decide +kernel
theorem dX6_add_19 : decode cX6_add 19 = .ok (.aload_n 0, 1) := by decide +kernel
theorem dX6_add_20 : decode cX6_add 20 = .ok (.getfield 15, 3) := by decide +kernel
theorem dX6_add_23 : decode cX6_add 23 = .ok (.aload_n 0, 1) := by decide +kernel
theorem dX6_add_24 : decode cX6_add 24 = .ok (.getfield 21, 3) := by decide +kernel
theorem dX6_add_27 : decode cX6_add 27 = .ok (.iload_n 2, 1) := by decide +kernel
theorem dX6_add_28 : decode cX6_add 28 = .ok (.iastore, 1) := by decide +kernel
theorem dX6_add_29 : decode cX6_add 29 = .ok (.aload_n 0, 1) := by decide +kernel
theorem dX6_add_30 : decode cX6_add 30 = .ok (.getfield 18, 3) := by decide +kernel
theorem dX6_add_33 : decode cX6_add 33 = .ok (.aload_n 0, 1) := by decide +kernel
theorem dX6_add_34 : decode cX6_add 34 = .ok (.getfield 21, 3) := by decide +kernel
theorem dX6_add_37 : decode cX6_add 37 = .ok (.iload_n 3, 1) := by decide +kernel
theorem dX6_add_38 : decode cX6_add 38 = .ok (.iastore, 1) := by decide +kernel
theorem dX6_add_39 : decode cX6_add 39 = .ok (.aload_n 0, 1) := by decide +kernel
theorem dX6_add_40 : decode cX6_add 40 = .ok (.dup, 1) := by decide +kernel
theorem dX6_add_41 : decode cX6_add 41 = .ok (.getfield 21, 3) := by decide +kernel
theorem dX6_add_44 : decode cX6_add 44 = .ok (.iconst 1, 1) := by decide +kernel
theorem dX6_add_45 : decode cX6_add 45 = .ok (.iadd, 1) := by decide +kernel
theorem dX6_add_46 : decode cX6_add 46 = .ok (.putfield 21, 3) := by decide +kernel
theorem dX6_add_49 : decode cX6_add 49 = .ok (.return_, 1) := by decide +kernel
theorem dX6_kindAt_0 : decode cX6_kindAt 0 = .ok (.iload_n 1, 1) := by decide +kernel
theorem dX6_kindAt_1 : decode cX6_kindAt 1 = .ok (.ifCond .lt 26, 3) := by decide +kernel
theorem dX6_kindAt_4 : decode cX6_kindAt 4 = .ok (.iload_n 1, 1) := by decide +kernel
theorem dX6_kindAt_5 : decode cX6_kindAt 5 = .ok (.aload_n 0, 1) := by decide +kernel
theorem dX6_kindAt_6 : decode cX6_kindAt 6 = .ok (.getfield 21, 3) := by decide +kernel
theorem dX6_kindAt_9 : decode cX6_kindAt 9 = .ok (.if_icmp .ge 18, 3) := by decide +kernel
theorem dX6_kindAt_12 : decode cX6_kindAt 12 = .ok (.iload_n 1, 1) := by decide +kernel
theorem dX6_kindAt_13 : decode cX6_kindAt 13 = .ok (.bipush 20, 2) := by decide +kernel
theorem dX6_kindAt_15 : decode cX6_kindAt 15 = .ok (.if_icmp .ge 12, 3) := by decide +kernel
theorem dX6_kindAt_18 : decode cX6_kindAt 18 = .ok (.aload_n 0, 1) := by decide +kernel
theorem dX6_kindAt_19 : decode cX6_kindAt 19 = .ok (.getfield 9, 3) := by decide +kernel
theorem dX6_kindAt_22 : decode cX6_kindAt 22 = .ok (.iload_n 1, 1) := by decide +kernel
theorem dX6_kindAt_23 : decode cX6_kindAt 23 = .ok (.iaload, 1) := by decide +kernel
theorem dX6_kindAt_24 : decode cX6_kindAt 24 = .ok (.goto 4, 3) := by decide +kernel
theorem dX6_kindAt_27 : decode cX6_kindAt 27 = .ok (.iconst (-1), 1) := by decide +kernel
theorem dX6_kindAt_28 : decode cX6_kindAt 28 = .ok (.ireturn, 1) := by decide +kernel
theorem dX6_firstAt_0 : decode cX6_firstAt 0 = .ok (.iload_n 1, 1) := by decide +kernel
theorem dX6_firstAt_1 : decode cX6_firstAt 1 = .ok (.ifCond .lt 26, 3) := by decide +kernel
theorem dX6_firstAt_4 : decode cX6_firstAt 4 = .ok (.iload_n 1, 1) := by decide +kernel
theorem dX6_firstAt_5 : decode cX6_firstAt 5 = .ok (.aload_n 0, 1) := by decide +kernel
theorem dX6_firstAt_6 : decode cX6_firstAt 6 = .ok (.getfield 21, 3) := by decide +kernel
theorem dX6_firstAt_9 : decode cX6_firstAt 9 = .ok (.if_icmp .ge 18, 3) := by decide +kernel
theorem dX6_firstAt_12 : decode cX6_firstAt 12 = .ok (.iload_n 1, 1) := by decide +kernel
theorem dX6_firstAt_13 : decode cX6_firstAt 13 = .ok (.bipush 20, 2) := by decide +kernel
theorem dX6_firstAt_15 : decode cX6_firstAt 15 = .ok (.if_icmp .ge 12, 3) := by decide +kernel
theorem dX6_firstAt_18 : decode cX6_firstAt 18 = .ok (.aload_n 0, 1) := by decide +kernel
theorem dX6_firstAt_19 : decode cX6_firstAt 19 = .ok (.getfield 15, 3) := by decide +kernel
theorem dX6_firstAt_22 : decode cX6_firstAt 22 = .ok (.iload_n 1, 1) := by decide +kernel
theorem dX6_firstAt_23 : decode cX6_firstAt 23 = .ok (.iaload, 1) := by decide +kernel
theorem dX6_firstAt_24 : decode cX6_firstAt 24 = .ok (.goto 4, 3) := by decide +kernel
theorem dX6_firstAt_27 : decode cX6_firstAt 27 = .ok (.iconst 0, 1) := by decide +kernel
theorem dX6_firstAt_28 : decode cX6_firstAt 28 = .ok (.ireturn, 1) := by decide +kernel
theorem dX6_secondAt_0 : decode cX6_secondAt 0 = .ok (.iload_n 1, 1) := by decide +kernel
theorem dX6_secondAt_1 : decode cX6_secondAt 1 = .ok (.ifCond .lt 26, 3) := by decide +kernel
theorem dX6_secondAt_4 : decode cX6_secondAt 4 = .ok (.iload_n 1, 1) := by decide +kernel
theorem dX6_secondAt_5 : decode cX6_secondAt 5 = .ok (.aload_n 0, 1) := by decide +kernel
theorem dX6_secondAt_6 : decode cX6_secondAt 6 = .ok (.getfield 21, 3) := by decide +kernel
theorem dX6_secondAt_9 : decode cX6_secondAt 9 = .ok (.if_icmp .ge 18, 3) := by decide +kernel
theorem dX6_secondAt_12 : decode cX6_secondAt 12 = .ok (.iload_n 1, 1) := by decide +kernel
theorem dX6_secondAt_13 : decode cX6_secondAt 13 = .ok (.bipush 20, 2) := by decide +kernel
theorem dX6_secondAt_15 : decode cX6_secondAt 15 = .ok (.if_icmp .ge 12, 3) := by decide +kernel
theorem dX6_secondAt_18 : decode cX6_secondAt 18 = .ok (.aload_n 0, 1) := by decide +kernel
theorem dX6_secondAt_19 : decode cX6_secondAt 19 = .ok (.getfield 18, 3) := by decide +kernel
theorem dX6_secondAt_22 : decode cX6_secondAt 22 = .ok (.iload_n 1, 1) := by decide +kernel
theorem dX6_secondAt_23 : decode cX6_secondAt 23 = .ok (.iaload, 1) := by decide +kernel
theorem dX6_secondAt_24 : decode cX6_secondAt 24 = .ok (.goto 4, 3) := by decide +kernel
theorem dX6_secondAt_27 : decode cX6_secondAt 27 = .ok (.iconst 0, 1) := by decide +kernel
theorem dX6_secondAt_28 : decode cX6_secondAt 28 = .ok (.ireturn, 1) := by decide +kernel
end
section
theorem dX7_init_0 : decode cX7_init 0 = .ok (.aload_n 0, 1) := by decide +kernel
theorem dX7_init_1 : decode cX7_init 1 = .ok (.invokespecial 3, 3) := by decide +kernel
theorem dX7_init_4 : decode cX7_init 4 = .ok (.aload_n 0, 1) := by decide +kernel
theorem dX7_init_5 : decode cX7_init 5 = .ok (.iconst 0, 1) := by decide +kernel
theorem dX7_init_6 : decode cX7_init 6 = .ok (.putfield 9, 3) := by decide +kernel
theorem dX7_init_9 : decode cX7_init 9 = .ok (.aload_n 0, 1) := by decide +kernel
theorem dX7_init_10 : decode cX7_init 10 = .ok (.iconst 0, 1) := by decide +kernel
theorem dX7_init_11 : decode cX7_init 11 = .ok (.putfield 15, 3) := by decide +kernel
theorem dX7_init_14 : decode cX7_init 14 = .ok (.aload_n 0, 1) := by decide +kernel
theorem dX7_init_15 : decode cX7_init 15 = .ok (.aload_n 1, 1) := by decide +kernel
theorem dX7_init_16 : decode cX7_init 16 = .ok (.putfield 18, 3) := by decide +kernel
theorem dX7_init_19 : decode cX7_init 19 = .ok (.return_, 1) := by decide +kernel
theorem dX7_read_0 : decode cX7_read 0 = .ok (.aload_n 1, 1) := by decide +kernel
theorem dX7_read_1 : decode cX7_read 1 = .ok (.invokevirtual 22, 3) := by decide +kernel
theorem dX7_read_4 : decode cX7_read 4 = .ok (.aload_n 0, 1) := by decide +kernel
theorem dX7_read_5 : decode cX7_read 5 = .ok (.iconst 0, 1) := by decide +kernel
theorem dX7_read_6 : decode cX7_read 6 = .ok (.putfield 15, 3) := by decide +kernel
theorem dX7_read_9 : decode cX7_read 9 = .ok (.aload_n 0, 1) := by decide +kernel
theorem dX7_read_10 : decode cX7_read 10 = .ok (.invokevirtual 27, 3) := by decide +kernel
theorem dX7_read_13 : decode cX7_read 13 = .ok (.aload_n 0, 1) := by decide +kernel
theorem dX7_read_14 : decode cX7_read 14 = .ok (.invokevirtual 30, 3) := by decide +kernel
theorem dX7_read_17 : decode cX7_read 17 = .ok (.ifCond .eq 5, 3) := by decide +kernel
theorem dX7_read_20 : decode cX7_read 20 = .ok (.iconst (-1), 1) := by decide +kernel
theorem dX7_read_21 : decode cX7_read 21 = .ok (.ireturn, 1) := by decide +kernel
theorem dX7_read_22 : decode cX7_read 22 = .ok (.iconst 0, 1) := by decide +kernel
theorem dX7_read_23 : decode cX7_read 23 = .ok (.istore_n 2, 1) := by decide +kernel
theorem dX7_read_24 : decode cX7_read 24 = .ok (.iload_n 2, 1) := by decide +kernel
theorem dX7_read_25 : decode cX7_read 25 = .ok (.bipush 20, 2) := by decide +kernel
theorem dX7_read_27 : decode cX7_read 27 = .ok (.if_icmp .ge 49, 3) := by decide +kernel
theorem dX7_read_30 : decode cX7_read 30 = .ok (.aload_n 0, 1) := by decide +kernel
theorem dX7_read_31 : decode cX7_read 31 = .ok (.aload_n 1, 1) := by decide +kernel
theorem dX7_read_32 : decode cX7_read 32 = .ok (.invokevirtual 34, 3) := by decide +kernel
theorem dX7_read_35 : decode cX7_read 35 = .ok (.ifCond .ne 8, 3) := by decide +kernel
theorem dX7_read_38 : decode cX7_read 38 = .ok (.aload_n 0, 1) := by decide +kernel
theorem dX7_read_39 : decode cX7_read 39 = .ok (.getfield 9, 3) := by decide +kernel
theorem dX7_read_42 : decode cX7_read 42 = .ok (.ireturn, 1) := by decide +kernel
theorem dX7_read_43 : decode cX7_read 43 = .ok (.aload_n 0, 1) := by decide +kernel
theorem dX7_read_44 : decode cX7_read 44 = .ok (.invokevirtual 30, 3) := by decide +kernel
theorem dX7_read_47 : decode cX7_read 47 = .ok (.ifCond .eq 5, 3) := by decide +kernel
theorem dX7_read_50 : decode cX7_read 50 = .ok (.iconst (-1), 1) := by decide +kernel
theorem dX7_read_51 : decode cX7_read 51 = .ok (.ireturn, 1) := by decide +kernel
theorem dX7_read_52 : decode cX7_read 52 = .ok (.aload_n 0, 1) := by decide +kernel
theorem dX7_read_53 : decode cX7_read 53 = .ok (.ldc 38, 2) := by decide +kernel
theorem dX7_read_55 : decode cX7_read 55 = .ok (.invokevirtual 40, 3) := by decide +kernel
theorem dX7_read_58 : decode cX7_read 58 = .ok (.ifCond .ne 8, 3) := by decide +kernel
theorem dX7_read_61 : decode cX7_read 61 = .ok (.aload_n 0, 1) := by decide +kernel
theorem dX7_read_62 : decode cX7_read 62 = .ok (.getfield 9, 3) := by decide +kernel
theorem dX7_read_65 : decode cX7_read 65 = .ok (.ireturn, 1) := by decide +kernel
theorem dX7_read_66 : decode cX7_read 66 = .ok (.aload_n 0, 1) := by decide +kernel
theorem dX7_read_67 : decode cX7_read 67 = .ok (.invokevirtual 27, 3) := by decide +kernel
theorem dX7_read_70 : decode cX7_read 70 = .ok (.iinc 2 1, 3) := by decide +kernel
theorem dX7_read_73 : decode cX7_read 73 = .ok (.goto (-49), 3) := by decide +kernel
theorem dX7_read_76 : decode cX7_read 76 = .ok (.aload_n 0, 1) := by decide +kernel
theorem dX7_read_77 : decode cX7_read 77 = .ok (.getfield 9, 3) := by decide +kernel
theorem dX7_read_80 : decode cX7_read 80 = .ok (.ireturn, 1) := by decide +kernel
theorem dX7_readRule_0 : decode cX7_readRule 0 = .ok (.aload_n 0, 1) := by decide +kernel
theorem dX7_readRule_1 : decode cX7_readRule 1 = .ok (.invokevirtual 44, 3) := by decide +kernel
theorem dX7_readRule_4 : decode cX7_readRule 4 = .ok (.istore_n 2, 1) := by decide +kernel
theorem dX7_readRule_5 : decode cX7_readRule 5 = .ok (.iload_n 2, 1) := by decide +kernel
theorem dX7_readRule_6 : decode cX7_readRule 6 = .ok (.iconst (-1), 1) := by decide +kernel
theorem dX7_readRule_7 : decode cX7_readRule 7 = .ok (.if_icmp .ne 5, 3) := by decide +kernel
theorem dX7_readRule_10 : decode cX7_readRule 10 = .ok (.iconst 0, 1) := by decide +kernel
theorem dX7_readRule_11 : decode cX7_readRule 11 = .ok (.ireturn, 1) := by decide +kernel
theorem dX7_readRule_12 : decode cX7_readRule 12 = .ok (.aload_n 0, 1) := by decide +kernel
theorem dX7_readRule_13 : decode cX7_readRule 13 = .ok (.invokevirtual 27, 3) := by decide +kernel
theorem dX7_readRule_16 : decode cX7_readRule 16 = .ok (.iload_n 2, 1) := by decide +kernel
theorem dX7_readRule_17 : decode cX7_readRule 17 = .ok (.invokestatic 48, 3) := by decide +kernel
theorem dX7_readRule_20 : decode cX7_readRule 20 = .ok (.astore_n 3, 1) := by decide +kernel
theorem dX7_readRule_21 : decode cX7_readRule 21 = .ok (.aload_n 3, 1) := by decide +kernel
theorem dX7_readRule_22 : decode cX7_readRule 22 = .ok (.invokevirtual 52, 3) := by decide +kernel
theorem dX7_readRule_25 : decode cX7_readRule 25 = .ok (.ifCond .ne 13, 3) := by decide +kernel
theorem dX7_readRule_28 : decode cX7_readRule 28 = .ok (.aload_n 0, 1) := by decide +kernel
theorem dX7_readRule_29 : decode cX7_readRule 29 = .ok (.aload_n 3, 1) := by decide +kernel
theorem dX7_readRule_30 : decode cX7_readRule 30 = .ok (.invokevirtual 57, 3) := by decide +kernel
theorem dX7_readRule_33 : decode cX7_readRule 33 = .ok (.ifCond .ne 5, 3) := by decide +kernel
theorem dX7_readRule_36 : decode cX7_readRule 36 = .ok (.iconst 0, 1) := by decide +kernel
theorem dX7_readRule_37 : decode cX7_readRule 37 = .ok (.ireturn, 1) := by decide +kernel
theorem dX7_readRule_38 : decode cX7_readRule 38 = .ok (.aload_n 0, 1) := by decide +kernel
theorem dX7_readRule_39 : decode cX7_readRule 39 = .ok (.iconst 0, 1) := by decide +kernel
theorem dX7_readRule_40 : decode cX7_readRule 40 = .ok (.invokevirtual 60, 3) := by decide +kernel
theorem dX7_readRule_43 : decode cX7_readRule 43 = .ok (.istore 4, 2) := by decide +kernel
theorem dX7_readRule_45 : decode cX7_readRule 45 = .ok (.iload 4, 2) := by decide +kernel
theorem dX7_readRule_47 : decode cX7_readRule 47 = .ok (.iconst (-1), 1) := by decide +kernel
theorem dX7_readRule_48 : decode cX7_readRule 48 = .ok (.if_icmp .ne 5, 3) := by decide +kernel
theorem dX7_readRule_51 : decode cX7_readRule 51 = .ok (.iconst 0, 1) := by decide +kernel
theorem dX7_readRule_52 : decode cX7_readRule 52 = .ok (.ireturn, 1) := by decide +kernel
theorem dX7_readRule_53 : decode cX7_readRule 53 = .ok (.iload_n 2, 1) := by decide +kernel
theorem dX7_readRule_54 : decode cX7_readRule 54 = .ok (.invokestatic 64, 3) := by decide +kernel
theorem dX7_readRule_57 : decode cX7_readRule 57 = .ok (.astore 5, 2) := by decide +kernel
theorem dX7_readRule_59 : decode cX7_readRule 59 = .ok (.aload 5, 2) := by decide +kernel
theorem dX7_readRule_61 : decode cX7_readRule 61 = .ok (.invokevirtual 52, 3) := by decide +kernel
theorem dX7_readRule_64 : decode cX7_readRule 64 = .ok (.ifCond .eq 13, 3) := by decide +kernel
theorem dX7_readRule_67 : decode cX7_readRule 67 = .ok (.aload_n 1, 1) := by decide +kernel
theorem dX7_readRule_68 : decode cX7_readRule 68 = .ok (.iload_n 2, 1) := by decide +kernel
theorem dX7_readRule_69 : decode cX7_readRule 69 = .ok (.iload 4, 2) := by decide +kernel
theorem dX7_readRule_71 : decode cX7_readRule 71 = .ok (.iconst 0, 1) := by decide +kernel
theorem dX7_readRule_72 : decode cX7_readRule 72 = .ok (.invokevirtual 67, 3) := by decide +kernel
theorem dX7_readRule_75 : decode cX7_readRule 75 = .ok (.iconst 1, 1) := by decide +kernel
theorem dX7_readRule_76 : decode cX7_readRule 76 = .ok (.ireturn, 1) := by decide +kernel
theorem dX7_readRule_77 : decode cX7_readRule 77 = .ok (.aload_n 0, 1) := by decide +kernel
theorem dX7_readRule_78 : decode cX7_readRule 78 = .ok (.aload 5, 2) := by decide +kernel
theorem dX7_readRule_80 : decode cX7_readRule 80 = .ok (.invokevirtual 57, 3) := by decide +kernel
theorem dX7_readRule_83 : decode cX7_readRule 83 = .ok (.ifCond .ne 5, 3) := by decide +kernel
theorem dX7_readRule_86 : decode cX7_readRule 86 = .ok (.iconst 0, 1) := by decide +kernel
theorem dX7_readRule_87 : decode cX7_readRule 87 = .ok (.ireturn, 1) := by decide +kernel
theorem dX7_readRule_88 : decode cX7_readRule 88 = .ok (.aload_n 0, 1) := by decide +kernel
theorem dX7_readRule_89 : decode cX7_readRule 89 = .ok (.iload_n 2, 1) := by decide +kernel
theorem dX7_readRule_90 : decode cX7_readRule 90 = .ok (.bipush 8, 2) := by decide +kernel
theorem dX7_readRule_92 : decode cX7_readRule 92 = .ok (.if_icmp .ne 7, 3) := by decide +kernel
theorem dX7_readRule_95 : decode cX7_readRule 95 = .ok (.iconst 1, 1) := by decide +kernel
theorem dX7_readRule_96 : decode cX7_readRule 96 = .ok (.goto 5, 3) := by decide +kernel
theorem dX7_readRule_99 : decode cX7_readRule 99 = .ok (.iload 4, 2) := by decide +kernel
theorem dX7_readRule_101 : decode cX7_readRule 101 = .ok (.invokevirtual 60, 3) := by decide +kernel
theorem dX7_readRule_104 : decode cX7_readRule 104 = .ok (.istore 6, 2) := by decide +kernel
theorem dX7_readRule_106 : decode cX7_readRule 106 = .ok (.iload 6, 2) := by decide +kernel
theorem dX7_readRule_108 : decode cX7_readRule 108 = .ok (.iconst (-1), 1) := by decide +kernel
theorem dX7_readRule_109 : decode cX7_readRule 109 = .ok (.if_icmp .ne 5, 3) := by decide +kernel
theorem dX7_readRule_112 : decode cX7_readRule 112 = .ok (.iconst 0, 1) := by decide +kernel
theorem dX7_readRule_113 : decode cX7_readRule 113 = .ok (.ireturn, 1) := by decide +kernel
theorem dX7_readRule_114 : decode cX7_readRule 114 = .ok (.aload_n 1, 1) := by decide +kernel
theorem dX7_readRule_115 : decode cX7_readRule 115 = .ok (.iload_n 2, 1) := by decide +kernel
theorem dX7_readRule_116 : decode cX7_readRule 116 = .ok (.iload 4, 2) := by decide +kernel
theorem dX7_readRule_118 : decode cX7_readRule 118 = .ok (.iload 6, 2) := by decide +kernel
theorem dX7_readRule_120 : decode cX7_readRule 120 = .ok (.invokevirtual 67, 3) := by decide +kernel
theorem dX7_readRule_123 : decode cX7_readRule 123 = .ok (.iconst 1, 1) := by decide +kernel
theorem dX7_readRule_124 : decode cX7_readRule 124 = .ok (.ireturn, 1) := by decide +kernel
theorem dX7_kindHere_0 : decode cX7_kindHere 0 = .ok (.iconst 0, 1) := by decide +kernel
theorem dX7_kindHere_1 : decode cX7_kindHere 1 = .ok (.istore_n 1, 1) := by decide +kernel
theorem dX7_kindHere_2 : decode cX7_kindHere 2 = .ok (.iload_n 1, 1) := by decide +kernel
theorem dX7_kindHere_3 : decode cX7_kindHere 3 = .ok (.bipush 9, 2) := by decide +kernel
theorem dX7_kindHere_5 : decode cX7_kindHere 5 = .ok (.if_icmp .ge 22, 3) := by decide +kernel
theorem dX7_kindHere_8 : decode cX7_kindHere 8 = .ok (.aload_n 0, 1) := by decide +kernel
theorem dX7_kindHere_9 : decode cX7_kindHere 9 = .ok (.iload_n 1, 1) := by decide +kernel
theorem dX7_kindHere_10 : decode cX7_kindHere 10 = .ok (.invokestatic 71, 3) := by decide +kernel
theorem dX7_kindHere_13 : decode cX7_kindHere 13 = .ok (.invokevirtual 40, 3) := by decide +kernel
theorem dX7_kindHere_16 : decode cX7_kindHere 16 = .ok (.ifCond .eq 5, 3) := by decide +kernel
theorem dX7_kindHere_19 : decode cX7_kindHere 19 = .ok (.iload_n 1, 1) := by decide +kernel
theorem dX7_kindHere_20 : decode cX7_kindHere 20 = .ok (.ireturn, 1) := by decide +kernel
theorem dX7_kindHere_21 : decode cX7_kindHere 21 = .ok (.iinc 1 1, 3) := by decide +kernel
theorem dX7_kindHere_24 : decode cX7_kindHere 24 = .ok (.goto (-22), 3) := by decide +kernel
theorem dX7_kindHere_27 : decode cX7_kindHere 27 = .ok (.iconst (-1), 1) := by decide +kernel
theorem dX7_kindHere_28 : decode cX7_kindHere 28 = .ok (.ireturn, 1) := by decide +kernel
theorem dX7_nameOf_0 : decode cX7_nameOf 0 = .ok (.iload_n 0, 1) := by decide +kernel
theorem dX7_nameOf_1 : decode cX7_nameOf 1 = .ok (.tableswitch 71 0 7 #[47, 50, 53, 56, 59, 62, 65, 68], 47) := by decide +kernel
theorem dX7_nameOf_48 : decode cX7_nameOf 48 = .ok (.ldc 74, 2) := by decide +kernel
theorem dX7_nameOf_50 : decode cX7_nameOf 50 = .ok (.areturn, 1) := by decide +kernel
theorem dX7_nameOf_51 : decode cX7_nameOf 51 = .ok (.ldc 76, 2) := by decide +kernel
theorem dX7_nameOf_53 : decode cX7_nameOf 53 = .ok (.areturn, 1) := by decide +kernel
theorem dX7_nameOf_54 : decode cX7_nameOf 54 = .ok (.ldc 78, 2) := by decide +kernel
theorem dX7_nameOf_56 : decode cX7_nameOf 56 = .ok (.areturn, 1) := by decide +kernel
theorem dX7_nameOf_57 : decode cX7_nameOf 57 = .ok (.ldc 80, 2) := by decide +kernel
theorem dX7_nameOf_59 : decode cX7_nameOf 59 = .ok (.areturn, 1) := by decide +kernel
theorem dX7_nameOf_60 : decode cX7_nameOf 60 = .ok (.ldc 82, 2) := by decide +kernel
theorem dX7_nameOf_62 : decode cX7_nameOf 62 = .ok (.areturn, 1) := by decide +kernel
theorem dX7_nameOf_63 : decode cX7_nameOf 63 = .ok (.ldc 84, 2) := by decide +kernel
theorem dX7_nameOf_65 : decode cX7_nameOf 65 = .ok (.areturn, 1) := by decide +kernel
theorem dX7_nameOf_66 : decode cX7_nameOf 66 = .ok (.ldc 86, 2) := by decide +kernel
theorem dX7_nameOf_68 : decode cX7_nameOf 68 = .ok (.areturn, 1) := by decide +kernel
theorem dX7_nameOf_69 : decode cX7_nameOf 69 = .ok (.ldc 88, 2) := by decide +kernel
theorem dX7_nameOf_71 : decode cX7_nameOf 71 = .ok (.areturn, 1) := by decide +kernel
theorem dX7_nameOf_72 : decode cX7_nameOf 72 = .ok (.ldc 90, 2) := by decide +kernel
theorem dX7_nameOf_74 : decode cX7_nameOf 74 = .ok (.areturn, 1) := by decide +kernel
theorem dX7_wordAhead_0 : decode cX7_wordAhead 0 = .ok (.iload_n 0, 1) := by decide +kernel
theorem dX7_wordAhead_1 : decode cX7_wordAhead 1 = .ok (.invokestatic 92, 3) := by decide +kernel
theorem dX7_wordAhead_4 : decode cX7_wordAhead 4 = .ok (.ifCond .eq 8, 3) := by decide +kernel
theorem dX7_wordAhead_7 : decode cX7_wordAhead 7 = .ok (.ldc 96, 2) := by decide +kernel
theorem dX7_wordAhead_9 : decode cX7_wordAhead 9 = .ok (.goto 5, 3) := by decide +kernel
theorem dX7_wordAhead_12 : decode cX7_wordAhead 12 = .ok (.ldc 98, 2) := by decide +kernel
theorem dX7_wordAhead_14 : decode cX7_wordAhead 14 = .ok (.areturn, 1) := by decide +kernel
theorem dX7_wordBetween_0 : decode cX7_wordBetween 0 = .ok (.iload_n 0, 1) := by decide +kernel
theorem dX7_wordBetween_1 : decode cX7_wordBetween 1 = .ok (.invokestatic 92, 3) := by decide +kernel
theorem dX7_wordBetween_4 : decode cX7_wordBetween 4 = .ok (.ifCond .eq 6, 3) := by decide +kernel
theorem dX7_wordBetween_7 : decode cX7_wordBetween 7 = .ok (.ldc 100, 2) := by decide +kernel
theorem dX7_wordBetween_9 : decode cX7_wordBetween 9 = .ok (.areturn, 1) := by decide +kernel
theorem dX7_wordBetween_10 : decode cX7_wordBetween 10 = .ok (.iload_n 0, 1) := by decide +kernel
theorem dX7_wordBetween_11 : decode cX7_wordBetween 11 = .ok (.bipush 8, 2) := by decide +kernel
theorem dX7_wordBetween_13 : decode cX7_wordBetween 13 = .ok (.if_icmp .ne 8, 3) := by decide +kernel
theorem dX7_wordBetween_16 : decode cX7_wordBetween 16 = .ok (.ldc 102, 2) := by decide +kernel
theorem dX7_wordBetween_18 : decode cX7_wordBetween 18 = .ok (.goto 5, 3) := by decide +kernel
theorem dX7_wordBetween_21 : decode cX7_wordBetween 21 = .ok (.ldc 98, 2) := by decide +kernel
theorem dX7_wordBetween_23 : decode cX7_wordBetween 23 = .ok (.areturn, 1) := by decide +kernel
theorem dX7_isOfMetal_0 : decode cX7_isOfMetal 0 = .ok (.iload_n 0, 1) := by decide +kernel
theorem dX7_isOfMetal_1 : decode cX7_isOfMetal 1 = .ok (.ifCond .eq 13, 3) := by decide +kernel
theorem dX7_isOfMetal_4 : decode cX7_isOfMetal 4 = .ok (.iload_n 0, 1) := by decide +kernel
theorem dX7_isOfMetal_5 : decode cX7_isOfMetal 5 = .ok (.iconst 1, 1) := by decide +kernel
theorem dX7_isOfMetal_6 : decode cX7_isOfMetal 6 = .ok (.if_icmp .eq 8, 3) := by decide +kernel
theorem dX7_isOfMetal_9 : decode cX7_isOfMetal 9 = .ok (.iload_n 0, 1) := by decide +kernel
theorem dX7_isOfMetal_10 : decode cX7_isOfMetal 10 = .ok (.iconst 2, 1) := by decide +kernel
theorem dX7_isOfMetal_11 : decode cX7_isOfMetal 11 = .ok (.if_icmp .ne 7, 3) := by decide +kernel
theorem dX7_isOfMetal_14 : decode cX7_isOfMetal 14 = .ok (.iconst 1, 1) := by decide +kernel
theorem dX7_isOfMetal_15 : decode cX7_isOfMetal 15 = .ok (.goto 4, 3) := by decide +kernel
theorem dX7_isOfMetal_18 : decode cX7_isOfMetal 18 = .ok (.iconst 0, 1) := by decide +kernel
theorem dX7_isOfMetal_19 : decode cX7_isOfMetal 19 = .ok (.ireturn, 1) := by decide +kernel
theorem dX7_skipWord_0 : decode cX7_skipWord 0 = .ok (.aload_n 0, 1) := by decide +kernel
theorem dX7_skipWord_1 : decode cX7_skipWord 1 = .ok (.aload_n 1, 1) := by decide +kernel
theorem dX7_skipWord_2 : decode cX7_skipWord 2 = .ok (.invokevirtual 40, 3) := by decide +kernel
theorem dX7_skipWord_5 : decode cX7_skipWord 5 = .ok (.ifCond .ne 5, 3) := by decide +kernel
theorem dX7_skipWord_8 : decode cX7_skipWord 8 = .ok (.iconst 0, 1) := by decide +kernel
theorem dX7_skipWord_9 : decode cX7_skipWord 9 = .ok (.ireturn, 1) := by decide +kernel
theorem dX7_skipWord_10 : decode cX7_skipWord 10 = .ok (.aload_n 0, 1) := by decide +kernel
theorem dX7_skipWord_11 : decode cX7_skipWord 11 = .ok (.invokevirtual 27, 3) := by decide +kernel
theorem dX7_skipWord_14 : decode cX7_skipWord 14 = .ok (.iconst 1, 1) := by decide +kernel
theorem dX7_skipWord_15 : decode cX7_skipWord 15 = .ok (.ireturn, 1) := by decide +kernel
theorem dX7_readNumber_0 : decode cX7_readNumber 0 = .ok (.aload_n 0, 1) := by decide +kernel
theorem dX7_readNumber_1 : decode cX7_readNumber 1 = .ok (.getfield 18, 3) := by decide +kernel
theorem dX7_readNumber_4 : decode cX7_readNumber 4 = .ok (.aload_n 0, 1) := by decide +kernel
theorem dX7_readNumber_5 : decode cX7_readNumber 5 = .ok (.getfield 9, 3) := by decide +kernel
theorem dX7_readNumber_8 : decode cX7_readNumber 8 = .ok (.invokevirtual 104, 3) := by decide +kernel
theorem dX7_readNumber_11 : decode cX7_readNumber 11 = .ok (.invokestatic 109, 3) := by decide +kernel
theorem dX7_readNumber_14 : decode cX7_readNumber 14 = .ok (.ifCond .ne 5, 3) := by decide +kernel
theorem dX7_readNumber_17 : decode cX7_readNumber 17 = .ok (.iconst (-1), 1) := by decide +kernel
theorem dX7_readNumber_18 : decode cX7_readNumber 18 = .ok (.ireturn, 1) := by decide +kernel
theorem dX7_readNumber_19 : decode cX7_readNumber 19 = .ok (.iconst 0, 1) := by decide +kernel
theorem dX7_readNumber_20 : decode cX7_readNumber 20 = .ok (.istore_n 2, 1) := by decide +kernel
theorem dX7_readNumber_21 : decode cX7_readNumber 21 = .ok (.aload_n 0, 1) := by decide +kernel
theorem dX7_readNumber_22 : decode cX7_readNumber 22 = .ok (.getfield 9, 3) := by decide +kernel
theorem dX7_readNumber_25 : decode cX7_readNumber 25 = .ok (.istore_n 3, 1) := by decide +kernel
theorem dX7_readNumber_26 : decode cX7_readNumber 26 = .ok (.iload_n 3, 1) := by decide +kernel
theorem dX7_readNumber_27 : decode cX7_readNumber 27 = .ok (.aload_n 0, 1) := by decide +kernel
theorem dX7_readNumber_28 : decode cX7_readNumber 28 = .ok (.getfield 15, 3) := by decide +kernel
theorem dX7_readNumber_31 : decode cX7_readNumber 31 = .ok (.if_icmp .ge 32, 3) := by decide +kernel
theorem dX7_readNumber_34 : decode cX7_readNumber 34 = .ok (.iload_n 2, 1) := by decide +kernel
theorem dX7_readNumber_35 : decode cX7_readNumber 35 = .ok (.bipush 10, 2) := by decide +kernel
theorem dX7_readNumber_37 : decode cX7_readNumber 37 = .ok (.imul, 1) := by decide +kernel
theorem dX7_readNumber_38 : decode cX7_readNumber 38 = .ok (.aload_n 0, 1) := by decide +kernel
theorem dX7_readNumber_39 : decode cX7_readNumber 39 = .ok (.getfield 18, 3) := by decide +kernel
theorem dX7_readNumber_42 : decode cX7_readNumber 42 = .ok (.iload_n 3, 1) := by decide +kernel
theorem dX7_readNumber_43 : decode cX7_readNumber 43 = .ok (.invokevirtual 104, 3) := by decide +kernel
theorem dX7_readNumber_46 : decode cX7_readNumber 46 = .ok (.iadd, 1) := by decide +kernel
theorem dX7_readNumber_47 : decode cX7_readNumber 47 = .ok (.bipush 48, 2) := by decide +kernel
theorem dX7_readNumber_49 : decode cX7_readNumber 49 = .ok (.isub, 1) := by decide +kernel
theorem dX7_readNumber_50 : decode cX7_readNumber 50 = .ok (.sipush 1001, 3) := by decide +kernel
theorem dX7_readNumber_53 : decode cX7_readNumber 53 = .ok (.invokestatic 112, 3) := by decide +kernel
theorem dX7_readNumber_56 : decode cX7_readNumber 56 = .ok (.istore_n 2, 1) := by decide +kernel
theorem dX7_readNumber_57 : decode cX7_readNumber 57 = .ok (.iinc 3 1, 3) := by decide +kernel
theorem dX7_readNumber_60 : decode cX7_readNumber 60 = .ok (.goto (-34), 3) := by decide +kernel
theorem dX7_readNumber_63 : decode cX7_readNumber 63 = .ok (.iload_n 2, 1) := by decide +kernel
theorem dX7_readNumber_64 : decode cX7_readNumber 64 = .ok (.iload_n 1, 1) := by decide +kernel
theorem dX7_readNumber_65 : decode cX7_readNumber 65 = .ok (.if_icmp .lt 10, 3) := by decide +kernel
theorem dX7_readNumber_68 : decode cX7_readNumber 68 = .ok (.iload_n 2, 1) := by decide +kernel
theorem dX7_readNumber_69 : decode cX7_readNumber 69 = .ok (.sipush 1000, 3) := by decide +kernel
theorem dX7_readNumber_72 : decode cX7_readNumber 72 = .ok (.if_icmp .le 5, 3) := by decide +kernel
theorem dX7_readNumber_75 : decode cX7_readNumber 75 = .ok (.iconst (-1), 1) := by decide +kernel
theorem dX7_readNumber_76 : decode cX7_readNumber 76 = .ok (.ireturn, 1) := by decide +kernel
theorem dX7_readNumber_77 : decode cX7_readNumber 77 = .ok (.aload_n 0, 1) := by decide +kernel
theorem dX7_readNumber_78 : decode cX7_readNumber 78 = .ok (.invokevirtual 27, 3) := by decide +kernel
theorem dX7_readNumber_81 : decode cX7_readNumber 81 = .ok (.iload_n 2, 1) := by decide +kernel
theorem dX7_readNumber_82 : decode cX7_readNumber 82 = .ok (.ireturn, 1) := by decide +kernel
theorem dX7_isWord_0 : decode cX7_isWord 0 = .ok (.aload_n 0, 1) := by decide +kernel
theorem dX7_isWord_1 : decode cX7_isWord 1 = .ok (.getfield 15, 3) := by decide +kernel
theorem dX7_isWord_4 : decode cX7_isWord 4 = .ok (.aload_n 0, 1) := by decide +kernel
theorem dX7_isWord_5 : decode cX7_isWord 5 = .ok (.getfield 9, 3) := by decide +kernel
theorem dX7_isWord_8 : decode cX7_isWord 8 = .ok (.isub, 1) := by decide +kernel
theorem dX7_isWord_9 : decode cX7_isWord 9 = .ok (.aload_n 1, 1) := by decide +kernel
theorem dX7_isWord_10 : decode cX7_isWord 10 = .ok (.invokevirtual 118, 3) := by decide +kernel
theorem dX7_isWord_13 : decode cX7_isWord 13 = .ok (.if_icmp .eq 5, 3) := by decide +kernel
theorem dX7_isWord_16 : decode cX7_isWord 16 = .ok (.iconst 0, 1) := by decide +kernel
theorem dX7_isWord_17 : decode cX7_isWord 17 = .ok (.ireturn, 1) := by decide +kernel
theorem dX7_isWord_18 : decode cX7_isWord 18 = .ok (.iconst 0, 1) := by decide +kernel
theorem dX7_isWord_19 : decode cX7_isWord 19 = .ok (.istore_n 2, 1) := by decide +kernel
theorem dX7_isWord_20 : decode cX7_isWord 20 = .ok (.iload_n 2, 1) := by decide +kernel
theorem dX7_isWord_21 : decode cX7_isWord 21 = .ok (.aload_n 1, 1) := by decide +kernel
theorem dX7_isWord_22 : decode cX7_isWord 22 = .ok (.invokevirtual 118, 3) := by decide +kernel
theorem dX7_isWord_25 : decode cX7_isWord 25 = .ok (.if_icmp .ge 32, 3) := by decide +kernel
theorem dX7_isWord_28 : decode cX7_isWord 28 = .ok (.aload_n 0, 1) := by decide +kernel
theorem dX7_isWord_29 : decode cX7_isWord 29 = .ok (.getfield 18, 3) := by decide +kernel
theorem dX7_isWord_32 : decode cX7_isWord 32 = .ok (.aload_n 0, 1) := by decide +kernel
theorem dX7_isWord_33 : decode cX7_isWord 33 = .ok (.getfield 9, 3) := by decide +kernel
theorem dX7_isWord_36 : decode cX7_isWord 36 = .ok (.iload_n 2, 1) := by decide +kernel
theorem dX7_isWord_37 : decode cX7_isWord 37 = .ok (.iadd, 1) := by decide +kernel
theorem dX7_isWord_38 : decode cX7_isWord 38 = .ok (.invokevirtual 104, 3) := by decide +kernel
theorem dX7_isWord_41 : decode cX7_isWord 41 = .ok (.aload_n 1, 1) := by decide +kernel
theorem dX7_isWord_42 : decode cX7_isWord 42 = .ok (.iload_n 2, 1) := by decide +kernel
theorem dX7_isWord_43 : decode cX7_isWord 43 = .ok (.invokevirtual 121, 3) := by decide +kernel
theorem dX7_isWord_46 : decode cX7_isWord 46 = .ok (.if_icmp .eq 5, 3) := by decide +kernel
theorem dX7_isWord_49 : decode cX7_isWord 49 = .ok (.iconst 0, 1) := by decide +kernel
theorem dX7_isWord_50 : decode cX7_isWord 50 = .ok (.ireturn, 1) := by decide +kernel
theorem dX7_isWord_51 : decode cX7_isWord 51 = .ok (.iinc 2 1, 3) := by decide +kernel
theorem dX7_isWord_54 : decode cX7_isWord 54 = .ok (.goto (-34), 3) := by decide +kernel
theorem dX7_isWord_57 : decode cX7_isWord 57 = .ok (.iconst 1, 1) := by decide +kernel
theorem dX7_isWord_58 : decode cX7_isWord 58 = .ok (.ireturn, 1) := by decide +kernel
theorem dX7_isAtEnd_0 : decode cX7_isAtEnd 0 = .ok (.aload_n 0, 1) := by decide +kernel
theorem dX7_isAtEnd_1 : decode cX7_isAtEnd 1 = .ok (.getfield 9, 3) := by decide +kernel
theorem dX7_isAtEnd_4 : decode cX7_isAtEnd 4 = .ok (.aload_n 0, 1) := by decide +kernel
theorem dX7_isAtEnd_5 : decode cX7_isAtEnd 5 = .ok (.getfield 18, 3) := by decide +kernel
theorem dX7_isAtEnd_8 : decode cX7_isAtEnd 8 = .ok (.invokevirtual 125, 3) := by decide +kernel
theorem dX7_isAtEnd_11 : decode cX7_isAtEnd 11 = .ok (.if_icmp .lt 7, 3) := by decide +kernel
theorem dX7_isAtEnd_14 : decode cX7_isAtEnd 14 = .ok (.iconst 1, 1) := by decide +kernel
theorem dX7_isAtEnd_15 : decode cX7_isAtEnd 15 = .ok (.goto 4, 3) := by decide +kernel
theorem dX7_isAtEnd_18 : decode cX7_isAtEnd 18 = .ok (.iconst 0, 1) := by decide +kernel
theorem dX7_isAtEnd_19 : decode cX7_isAtEnd 19 = .ok (.ireturn, 1) := by decide +kernel
theorem dX7_advance_0 : decode cX7_advance 0 = .ok (.aload_n 0, 1) := by decide +kernel
theorem dX7_advance_1 : decode cX7_advance 1 = .ok (.aload_n 0, 1) := by decide +kernel
theorem dX7_advance_2 : decode cX7_advance 2 = .ok (.getfield 15, 3) := by decide +kernel
theorem dX7_advance_5 : decode cX7_advance 5 = .ok (.putfield 9, 3) := by decide +kernel
theorem dX7_advance_8 : decode cX7_advance 8 = .ok (.aload_n 0, 1) := by decide +kernel
theorem dX7_advance_9 : decode cX7_advance 9 = .ok (.getfield 9, 3) := by decide +kernel
theorem dX7_advance_12 : decode cX7_advance 12 = .ok (.aload_n 0, 1) := by decide +kernel
theorem dX7_advance_13 : decode cX7_advance 13 = .ok (.getfield 18, 3) := by decide +kernel
theorem dX7_advance_16 : decode cX7_advance 16 = .ok (.invokevirtual 125, 3) := by decide +kernel
theorem dX7_advance_19 : decode cX7_advance 19 = .ok (.if_icmp .ge 32, 3) := by decide +kernel
theorem dX7_advance_22 : decode cX7_advance 22 = .ok (.aload_n 0, 1) := by decide +kernel
theorem dX7_advance_23 : decode cX7_advance 23 = .ok (.getfield 18, 3) := by decide +kernel
theorem dX7_advance_26 : decode cX7_advance 26 = .ok (.aload_n 0, 1) := by decide +kernel
theorem dX7_advance_27 : decode cX7_advance 27 = .ok (.getfield 9, 3) := by decide +kernel
theorem dX7_advance_30 : decode cX7_advance 30 = .ok (.invokevirtual 104, 3) := by decide +kernel
theorem dX7_advance_33 : decode cX7_advance 33 = .ok (.bipush 32, 2) := by decide +kernel
theorem dX7_advance_35 : decode cX7_advance 35 = .ok (.if_icmp .ne 16, 3) := by decide +kernel
theorem dX7_advance_38 : decode cX7_advance 38 = .ok (.aload_n 0, 1) := by decide +kernel
theorem dX7_advance_39 : decode cX7_advance 39 = .ok (.dup, 1) := by decide +kernel
theorem dX7_advance_40 : decode cX7_advance 40 = .ok (.getfield 9, 3) := by decide +kernel
theorem dX7_advance_43 : decode cX7_advance 43 = .ok (.iconst 1, 1) := by decide +kernel
theorem dX7_advance_44 : decode cX7_advance 44 = .ok (.iadd, 1) := by decide +kernel
theorem dX7_advance_45 : decode cX7_advance 45 = .ok (.putfield 9, 3) := by decide +kernel
theorem dX7_advance_48 : decode cX7_advance 48 = .ok (.goto (-40), 3) := by decide +kernel
theorem dX7_advance_51 : decode cX7_advance 51 = .ok (.aload_n 0, 1) := by decide +kernel
theorem dX7_advance_52 : decode cX7_advance 52 = .ok (.aload_n 0, 1) := by decide +kernel
theorem dX7_advance_53 : decode cX7_advance 53 = .ok (.getfield 9, 3) := by decide +kernel
theorem dX7_advance_56 : decode cX7_advance 56 = .ok (.iconst 1, 1) := by decide +kernel
theorem dX7_advance_57 : decode cX7_advance 57 = .ok (.iadd, 1) := by decide +kernel
theorem dX7_advance_58 : decode cX7_advance 58 = .ok (.aload_n 0, 1) := by decide +kernel
theorem dX7_advance_59 : decode cX7_advance 59 = .ok (.getfield 18, 3) := by decide +kernel
theorem dX7_advance_62 : decode cX7_advance 62 = .ok (.invokevirtual 125, 3) := by decide +kernel
theorem dX7_advance_65 : decode cX7_advance 65 = .ok (.invokestatic 112, 3) := by decide +kernel
theorem dX7_advance_68 : decode cX7_advance 68 = .ok (.putfield 15, 3) := by decide +kernel
theorem dX7_advance_71 : decode cX7_advance 71 = .ok (.aload_n 0, 1) := by decide +kernel
theorem dX7_advance_72 : decode cX7_advance 72 = .ok (.getfield 18, 3) := by decide +kernel
theorem dX7_advance_75 : decode cX7_advance 75 = .ok (.aload_n 0, 1) := by decide +kernel
theorem dX7_advance_76 : decode cX7_advance 76 = .ok (.getfield 9, 3) := by decide +kernel
theorem dX7_advance_79 : decode cX7_advance 79 = .ok (.invokevirtual 104, 3) := by decide +kernel
theorem dX7_advance_82 : decode cX7_advance 82 = .ok (.invokestatic 126, 3) := by decide +kernel
theorem dX7_advance_85 : decode cX7_advance 85 = .ok (.istore_n 1, 1) := by decide +kernel
theorem dX7_advance_86 : decode cX7_advance 86 = .ok (.aload_n 0, 1) := by decide +kernel
theorem dX7_advance_87 : decode cX7_advance 87 = .ok (.getfield 18, 3) := by decide +kernel
theorem dX7_advance_90 : decode cX7_advance 90 = .ok (.aload_n 0, 1) := by decide +kernel
theorem dX7_advance_91 : decode cX7_advance 91 = .ok (.getfield 9, 3) := by decide +kernel
theorem dX7_advance_94 : decode cX7_advance 94 = .ok (.invokevirtual 104, 3) := by decide +kernel
theorem dX7_advance_97 : decode cX7_advance 97 = .ok (.invokestatic 109, 3) := by decide +kernel
theorem dX7_advance_100 : decode cX7_advance 100 = .ok (.istore_n 2, 1) := by decide +kernel
theorem dX7_advance_101 : decode cX7_advance 101 = .ok (.aload_n 0, 1) := by decide +kernel
theorem dX7_advance_102 : decode cX7_advance 102 = .ok (.getfield 15, 3) := by decide +kernel
theorem dX7_advance_105 : decode cX7_advance 105 = .ok (.aload_n 0, 1) := by decide +kernel
theorem dX7_advance_106 : decode cX7_advance 106 = .ok (.getfield 18, 3) := by decide +kernel
theorem dX7_advance_109 : decode cX7_advance 109 = .ok (.invokevirtual 125, 3) := by decide +kernel
theorem dX7_advance_112 : decode cX7_advance 112 = .ok (.if_icmp .ge 58, 3) := by decide +kernel
theorem dX7_advance_115 : decode cX7_advance 115 = .ok (.iload_n 1, 1) := by decide +kernel
theorem dX7_advance_116 : decode cX7_advance 116 = .ok (.ifCond .eq 20, 3) := by decide +kernel
theorem dX7_advance_119 : decode cX7_advance 119 = .ok (.aload_n 0, 1) := by decide +kernel
theorem dX7_advance_120 : decode cX7_advance 120 = .ok (.getfield 18, 3) := by decide +kernel
theorem dX7_advance_123 : decode cX7_advance 123 = .ok (.aload_n 0, 1) := by decide +kernel
theorem dX7_advance_124 : decode cX7_advance 124 = .ok (.getfield 15, 3) := by decide +kernel
theorem dX7_advance_127 : decode cX7_advance 127 = .ok (.invokevirtual 104, 3) := by decide +kernel
theorem dX7_advance_130 : decode cX7_advance 130 = .ok (.invokestatic 126, 3) := by decide +kernel
theorem dX7_advance_133 : decode cX7_advance 133 = .ok (.ifCond .ne 24, 3) := by decide +kernel
theorem dX7_advance_136 : decode cX7_advance 136 = .ok (.iload_n 2, 1) := by decide +kernel
theorem dX7_advance_137 : decode cX7_advance 137 = .ok (.ifCond .eq 33, 3) := by decide +kernel
theorem dX7_advance_140 : decode cX7_advance 140 = .ok (.aload_n 0, 1) := by decide +kernel
theorem dX7_advance_141 : decode cX7_advance 141 = .ok (.getfield 18, 3) := by decide +kernel
theorem dX7_advance_144 : decode cX7_advance 144 = .ok (.aload_n 0, 1) := by decide +kernel
theorem dX7_advance_145 : decode cX7_advance 145 = .ok (.getfield 15, 3) := by decide +kernel
theorem dX7_advance_148 : decode cX7_advance 148 = .ok (.invokevirtual 104, 3) := by decide +kernel
theorem dX7_advance_151 : decode cX7_advance 151 = .ok (.invokestatic 109, 3) := by decide +kernel
theorem dX7_advance_154 : decode cX7_advance 154 = .ok (.ifCond .eq 16, 3) := by decide +kernel
theorem dX7_advance_157 : decode cX7_advance 157 = .ok (.aload_n 0, 1) := by decide +kernel
theorem dX7_advance_158 : decode cX7_advance 158 = .ok (.dup, 1) := by decide +kernel
theorem dX7_advance_159 : decode cX7_advance 159 = .ok (.getfield 15, 3) := by decide +kernel
theorem dX7_advance_162 : decode cX7_advance 162 = .ok (.iconst 1, 1) := by decide +kernel
theorem dX7_advance_163 : decode cX7_advance 163 = .ok (.iadd, 1) := by decide +kernel
theorem dX7_advance_164 : decode cX7_advance 164 = .ok (.putfield 15, 3) := by decide +kernel
theorem dX7_advance_167 : decode cX7_advance 167 = .ok (.goto (-66), 3) := by decide +kernel
theorem dX7_advance_170 : decode cX7_advance 170 = .ok (.return_, 1) := by decide +kernel
theorem dX7_isLetter_0 : decode cX7_isLetter 0 = .ok (.iload_n 0, 1) := by decide +kernel
theorem dX7_isLetter_1 : decode cX7_isLetter 1 = .ok (.bipush 97, 2) := by decide +kernel
theorem dX7_isLetter_3 : decode cX7_isLetter 3 = .ok (.if_icmp .lt 13, 3) := by decide +kernel
theorem dX7_isLetter_6 : decode cX7_isLetter 6 = .ok (.iload_n 0, 1) := by decide +kernel
theorem dX7_isLetter_7 : decode cX7_isLetter 7 = .ok (.bipush 122, 2) := by decide +kernel
theorem dX7_isLetter_9 : decode cX7_isLetter 9 = .ok (.if_icmp .gt 7, 3) := by decide +kernel
theorem dX7_isLetter_12 : decode cX7_isLetter 12 = .ok (.iconst 1, 1) := by decide +kernel
theorem dX7_isLetter_13 : decode cX7_isLetter 13 = .ok (.goto 4, 3) := by decide +kernel
theorem dX7_isLetter_16 : decode cX7_isLetter 16 = .ok (.iconst 0, 1) := by decide +kernel
theorem dX7_isLetter_17 : decode cX7_isLetter 17 = .ok (.ireturn, 1) := by decide +kernel
theorem dX7_isDigit_0 : decode cX7_isDigit 0 = .ok (.iload_n 0, 1) := by decide +kernel
theorem dX7_isDigit_1 : decode cX7_isDigit 1 = .ok (.bipush 48, 2) := by decide +kernel
theorem dX7_isDigit_3 : decode cX7_isDigit 3 = .ok (.if_icmp .lt 13, 3) := by decide +kernel
theorem dX7_isDigit_6 : decode cX7_isDigit 6 = .ok (.iload_n 0, 1) := by decide +kernel
theorem dX7_isDigit_7 : decode cX7_isDigit 7 = .ok (.bipush 57, 2) := by decide +kernel
theorem dX7_isDigit_9 : decode cX7_isDigit 9 = .ok (.if_icmp .gt 7, 3) := by decide +kernel
theorem dX7_isDigit_12 : decode cX7_isDigit 12 = .ok (.iconst 1, 1) := by decide +kernel
theorem dX7_isDigit_13 : decode cX7_isDigit 13 = .ok (.goto 4, 3) := by decide +kernel
theorem dX7_isDigit_16 : decode cX7_isDigit 16 = .ok (.iconst 0, 1) := by decide +kernel
theorem dX7_isDigit_17 : decode cX7_isDigit 17 = .ok (.ireturn, 1) := by decide +kernel
theorem dX8_init_0 : decode cX8_init 0 = .ok (.aload_n 0, 1) := by decide +kernel
theorem dX8_init_1 : decode cX8_init 1 = .ok (.invokespecial 3, 3) := by decide +kernel
theorem dX8_init_4 : decode cX8_init 4 = .ok (.aload_n 0, 1) := by decide +kernel
theorem dX8_init_5 : decode cX8_init 5 = .ok (.bipush 32, 2) := by decide +kernel
theorem dX8_init_7 : decode cX8_init 7 = .ok (.newarray .int, 2) := by decide +kernel
theorem dX8_init_9 : decode cX8_init 9 = .ok (.putfield 9, 3) := by decide +kernel
theorem dX8_init_12 : decode cX8_init 12 = .ok (.aload_n 0, 1) := by decide +kernel
theorem dX8_init_13 : decode cX8_init 13 = .ok (.bipush 8, 2) := by decide +kernel
theorem dX8_init_15 : decode cX8_init 15 = .ok (.newarray .int, 2) := by decide +kernel
theorem dX8_init_17 : decode cX8_init 17 = .ok (.putfield 15, 3) := by decide +kernel
theorem dX8_init_20 : decode cX8_init 20 = .ok (.aload_n 0, 1) := by decide +kernel
theorem dX8_init_21 : decode cX8_init 21 = .ok (.bipush 8, 2) := by decide +kernel
theorem dX8_init_23 : decode cX8_init 23 = .ok (.newarray .int, 2) := by decide +kernel
theorem dX8_init_25 : decode cX8_init 25 = .ok (.putfield 18, 3) := by decide +kernel
theorem dX8_init_28 : decode cX8_init 28 = .ok (.aload_n 0, 1) := by decide +kernel
theorem dX8_init_29 : decode cX8_init 29 = .ok (.iconst 0, 1) := by decide +kernel
theorem dX8_init_30 : decode cX8_init 30 = .ok (.putfield 21, 3) := by decide +kernel
theorem dX8_init_33 : decode cX8_init 33 = .ok (.aload_n 0, 1) := by decide +kernel
theorem dX8_init_34 : decode cX8_init 34 = .ok (.iconst 0, 1) := by decide +kernel
theorem dX8_init_35 : decode cX8_init 35 = .ok (.putfield 25, 3) := by decide +kernel
theorem dX8_init_38 : decode cX8_init 38 = .ok (.aload_n 0, 1) := by decide +kernel
theorem dX8_init_39 : decode cX8_init 39 = .ok (.iconst (-1), 1) := by decide +kernel
theorem dX8_init_40 : decode cX8_init 40 = .ok (.putfield 28, 3) := by decide +kernel
theorem dX8_init_43 : decode cX8_init 43 = .ok (.aload_n 0, 1) := by decide +kernel
theorem dX8_init_44 : decode cX8_init 44 = .ok (.aload_n 1, 1) := by decide +kernel
theorem dX8_init_45 : decode cX8_init 45 = .ok (.putfield 31, 3) := by decide +kernel
theorem dX8_init_48 : decode cX8_init 48 = .ok (.return_, 1) := by decide +kernel
theorem dX8_pieceCount_0 : decode cX8_pieceCount 0 = .ok (.aload_n 0, 1) := by decide +kernel
theorem dX8_pieceCount_1 : decode cX8_pieceCount 1 = .ok (.getfield 21, 3) := by decide +kernel
theorem dX8_pieceCount_4 : decode cX8_pieceCount 4 = .ok (.invokestatic 35, 3) := by decide +kernel
theorem dX8_pieceCount_7 : decode cX8_pieceCount 7 = .ok (.ireturn, 1) := by decide +kernel
theorem dX8_goneCount_0 : decode cX8_goneCount 0 = .ok (.aload_n 0, 1) := by decide +kernel
theorem dX8_goneCount_1 : decode cX8_goneCount 1 = .ok (.getfield 25, 3) := by decide +kernel
theorem dX8_goneCount_4 : decode cX8_goneCount 4 = .ok (.invokestatic 35, 3) := by decide +kernel
theorem dX8_goneCount_7 : decode cX8_goneCount 7 = .ok (.ireturn, 1) := by decide +kernel
theorem dX8_stuckCount_0 : decode cX8_stuckCount 0 = .ok (.aload_n 0, 1) := by decide +kernel
theorem dX8_stuckCount_1 : decode cX8_stuckCount 1 = .ok (.invokevirtual 41, 3) := by decide +kernel
theorem dX8_stuckCount_4 : decode cX8_stuckCount 4 = .ok (.aload_n 0, 1) := by decide +kernel
theorem dX8_stuckCount_5 : decode cX8_stuckCount 5 = .ok (.invokevirtual 45, 3) := by decide +kernel
theorem dX8_stuckCount_8 : decode cX8_stuckCount 8 = .ok (.isub, 1) := by decide +kernel
theorem dX8_stuckCount_9 : decode cX8_stuckCount 9 = .ok (.ireturn, 1) := by decide +kernel
theorem dX8_pieceAt_0 : decode cX8_pieceAt 0 = .ok (.iload_n 1, 1) := by decide +kernel
theorem dX8_pieceAt_1 : decode cX8_pieceAt 1 = .ok (.ifCond .lt 26, 3) := by decide +kernel
theorem dX8_pieceAt_4 : decode cX8_pieceAt 4 = .ok (.iload_n 1, 1) := by decide +kernel
theorem dX8_pieceAt_5 : decode cX8_pieceAt 5 = .ok (.aload_n 0, 1) := by decide +kernel
theorem dX8_pieceAt_6 : decode cX8_pieceAt 6 = .ok (.invokevirtual 45, 3) := by decide +kernel
theorem dX8_pieceAt_9 : decode cX8_pieceAt 9 = .ok (.if_icmp .ge 18, 3) := by decide +kernel
theorem dX8_pieceAt_12 : decode cX8_pieceAt 12 = .ok (.iload_n 1, 1) := by decide +kernel
theorem dX8_pieceAt_13 : decode cX8_pieceAt 13 = .ok (.bipush 8, 2) := by decide +kernel
theorem dX8_pieceAt_15 : decode cX8_pieceAt 15 = .ok (.if_icmp .ge 12, 3) := by decide +kernel
theorem dX8_pieceAt_18 : decode cX8_pieceAt 18 = .ok (.aload_n 0, 1) := by decide +kernel
theorem dX8_pieceAt_19 : decode cX8_pieceAt 19 = .ok (.getfield 15, 3) := by decide +kernel
theorem dX8_pieceAt_22 : decode cX8_pieceAt 22 = .ok (.iload_n 1, 1) := by decide +kernel
theorem dX8_pieceAt_23 : decode cX8_pieceAt 23 = .ok (.iaload, 1) := by decide +kernel
theorem dX8_pieceAt_24 : decode cX8_pieceAt 24 = .ok (.goto 4, 3) := by decide +kernel
theorem dX8_pieceAt_27 : decode cX8_pieceAt 27 = .ok (.iconst (-1), 1) := by decide +kernel
theorem dX8_pieceAt_28 : decode cX8_pieceAt 28 = .ok (.ireturn, 1) := by decide +kernel
theorem dX8_wayAt_0 : decode cX8_wayAt 0 = .ok (.iload_n 1, 1) := by decide +kernel
theorem dX8_wayAt_1 : decode cX8_wayAt 1 = .ok (.ifCond .lt 26, 3) := by decide +kernel
theorem dX8_wayAt_4 : decode cX8_wayAt 4 = .ok (.iload_n 1, 1) := by decide +kernel
theorem dX8_wayAt_5 : decode cX8_wayAt 5 = .ok (.aload_n 0, 1) := by decide +kernel
theorem dX8_wayAt_6 : decode cX8_wayAt 6 = .ok (.invokevirtual 45, 3) := by decide +kernel
theorem dX8_wayAt_9 : decode cX8_wayAt 9 = .ok (.if_icmp .ge 18, 3) := by decide +kernel
theorem dX8_wayAt_12 : decode cX8_wayAt 12 = .ok (.iload_n 1, 1) := by decide +kernel
theorem dX8_wayAt_13 : decode cX8_wayAt 13 = .ok (.bipush 8, 2) := by decide +kernel
theorem dX8_wayAt_15 : decode cX8_wayAt 15 = .ok (.if_icmp .ge 12, 3) := by decide +kernel
theorem dX8_wayAt_18 : decode cX8_wayAt 18 = .ok (.aload_n 0, 1) := by decide +kernel
theorem dX8_wayAt_19 : decode cX8_wayAt 19 = .ok (.getfield 18, 3) := by decide +kernel
theorem dX8_wayAt_22 : decode cX8_wayAt 22 = .ok (.iload_n 1, 1) := by decide +kernel
theorem dX8_wayAt_23 : decode cX8_wayAt 23 = .ok (.iaload, 1) := by decide +kernel
theorem dX8_wayAt_24 : decode cX8_wayAt 24 = .ok (.goto 4, 3) := by decide +kernel
theorem dX8_wayAt_27 : decode cX8_wayAt 27 = .ok (.iconst (-1), 1) := by decide +kernel
theorem dX8_wayAt_28 : decode cX8_wayAt 28 = .ok (.ireturn, 1) := by decide +kernel
theorem dX8_refresh_0 : decode cX8_refresh 0 = .ok (.aload_n 0, 1) := by decide +kernel
theorem dX8_refresh_1 : decode cX8_refresh 1 = .ok (.getfield 28, 3) := by decide +kernel
theorem dX8_refresh_4 : decode cX8_refresh 4 = .ok (.aload_n 0, 1) := by decide +kernel
theorem dX8_refresh_5 : decode cX8_refresh 5 = .ok (.getfield 31, 3) := by decide +kernel
theorem dX8_refresh_8 : decode cX8_refresh 8 = .ok (.invokevirtual 48, 3) := by decide +kernel
theorem dX8_refresh_11 : decode cX8_refresh 11 = .ok (.if_icmp .ne 4, 3) := by decide +kernel
theorem dX8_refresh_14 : decode cX8_refresh 14 = .ok (.return_, 1) := by decide +kernel
theorem dX8_refresh_15 : decode cX8_refresh 15 = .ok (.aload_n 0, 1) := by decide +kernel
theorem dX8_refresh_16 : decode cX8_refresh 16 = .ok (.aload_n 0, 1) := by decide +kernel
theorem dX8_refresh_17 : decode cX8_refresh 17 = .ok (.getfield 31, 3) := by decide +kernel
theorem dX8_refresh_20 : decode cX8_refresh 20 = .ok (.invokevirtual 48, 3) := by decide +kernel
theorem dX8_refresh_23 : decode cX8_refresh 23 = .ok (.putfield 28, 3) := by decide +kernel
theorem dX8_refresh_26 : decode cX8_refresh 26 = .ok (.aload_n 0, 1) := by decide +kernel
theorem dX8_refresh_27 : decode cX8_refresh 27 = .ok (.iconst 0, 1) := by decide +kernel
theorem dX8_refresh_28 : decode cX8_refresh 28 = .ok (.putfield 21, 3) := by decide +kernel
theorem dX8_refresh_31 : decode cX8_refresh 31 = .ok (.aload_n 0, 1) := by decide +kernel
theorem dX8_refresh_32 : decode cX8_refresh 32 = .ok (.iconst 0, 1) := by decide +kernel
theorem dX8_refresh_33 : decode cX8_refresh 33 = .ok (.putfield 25, 3) := by decide +kernel
theorem dX8_refresh_36 : decode cX8_refresh 36 = .ok (.aload_n 0, 1) := by decide +kernel
theorem dX8_refresh_37 : decode cX8_refresh 37 = .ok (.getfield 9, 3) := by decide +kernel
theorem dX8_refresh_40 : decode cX8_refresh 40 = .ok (.iconst 0, 1) := by decide +kernel
theorem dX8_refresh_41 : decode cX8_refresh 41 = .ok (.invokestatic 52, 3) := by decide +kernel
theorem dX8_refresh_44 : decode cX8_refresh 44 = .ok (.iconst 0, 1) := by decide +kernel
theorem dX8_refresh_45 : decode cX8_refresh 45 = .ok (.istore_n 1, 1) := by decide +kernel
theorem dX8_refresh_46 : decode cX8_refresh 46 = .ok (.iload_n 1, 1) := by decide +kernel
theorem dX8_refresh_47 : decode cX8_refresh 47 = .ok (.iconst 4, 1) := by decide +kernel
theorem dX8_refresh_48 : decode cX8_refresh 48 = .ok (.if_icmp .ge 14, 3) := by decide +kernel
theorem dX8_refresh_51 : decode cX8_refresh 51 = .ok (.aload_n 0, 1) := by decide +kernel
theorem dX8_refresh_52 : decode cX8_refresh 52 = .ok (.iload_n 1, 1) := by decide +kernel
theorem dX8_refresh_53 : decode cX8_refresh 53 = .ok (.invokevirtual 58, 3) := by decide +kernel
theorem dX8_refresh_56 : decode cX8_refresh 56 = .ok (.iinc 1 1, 3) := by decide +kernel
theorem dX8_refresh_59 : decode cX8_refresh 59 = .ok (.goto (-13), 3) := by decide +kernel
theorem dX8_refresh_62 : decode cX8_refresh 62 = .ok (.iconst 0, 1) := by decide +kernel
theorem dX8_refresh_63 : decode cX8_refresh 63 = .ok (.istore_n 1, 1) := by decide +kernel
theorem dX8_refresh_64 : decode cX8_refresh 64 = .ok (.iload_n 1, 1) := by decide +kernel
theorem dX8_refresh_65 : decode cX8_refresh 65 = .ok (.bipush 8, 2) := by decide +kernel
theorem dX8_refresh_67 : decode cX8_refresh 67 = .ok (.if_icmp .ge 20, 3) := by decide +kernel
theorem dX8_refresh_70 : decode cX8_refresh 70 = .ok (.aload_n 0, 1) := by decide +kernel
theorem dX8_refresh_71 : decode cX8_refresh 71 = .ok (.iload_n 1, 1) := by decide +kernel
theorem dX8_refresh_72 : decode cX8_refresh 72 = .ok (.invokevirtual 62, 3) := by decide +kernel
theorem dX8_refresh_75 : decode cX8_refresh 75 = .ok (.ifCond .ne 6, 3) := by decide +kernel
theorem dX8_refresh_78 : decode cX8_refresh 78 = .ok (.goto 9, 3) := by decide +kernel
theorem dX8_refresh_81 : decode cX8_refresh 81 = .ok (.iinc 1 1, 3) := by decide +kernel
theorem dX8_refresh_84 : decode cX8_refresh 84 = .ok (.goto (-20), 3) := by decide +kernel
theorem dX8_refresh_87 : decode cX8_refresh 87 = .ok (.return_, 1) := by decide +kernel
theorem dX8_lookFromEdge_0 : decode cX8_lookFromEdge 0 = .ok (.iconst 0, 1) := by decide +kernel
theorem dX8_lookFromEdge_1 : decode cX8_lookFromEdge 1 = .ok (.istore_n 2, 1) := by decide +kernel
theorem dX8_lookFromEdge_2 : decode cX8_lookFromEdge 2 = .ok (.iload_n 2, 1) := by decide +kernel
theorem dX8_lookFromEdge_3 : decode cX8_lookFromEdge 3 = .ok (.aload_n 0, 1) := by decide +kernel
theorem dX8_lookFromEdge_4 : decode cX8_lookFromEdge 4 = .ok (.getfield 31, 3) := by decide +kernel
theorem dX8_lookFromEdge_7 : decode cX8_lookFromEdge 7 = .ok (.invokevirtual 66, 3) := by decide +kernel
theorem dX8_lookFromEdge_10 : decode cX8_lookFromEdge 10 = .ok (.if_icmp .ge 59, 3) := by decide +kernel
theorem dX8_lookFromEdge_13 : decode cX8_lookFromEdge 13 = .ok (.iconst 0, 1) := by decide +kernel
theorem dX8_lookFromEdge_14 : decode cX8_lookFromEdge 14 = .ok (.istore_n 3, 1) := by decide +kernel
theorem dX8_lookFromEdge_15 : decode cX8_lookFromEdge 15 = .ok (.iload_n 3, 1) := by decide +kernel
theorem dX8_lookFromEdge_16 : decode cX8_lookFromEdge 16 = .ok (.aload_n 0, 1) := by decide +kernel
theorem dX8_lookFromEdge_17 : decode cX8_lookFromEdge 17 = .ok (.getfield 31, 3) := by decide +kernel
theorem dX8_lookFromEdge_20 : decode cX8_lookFromEdge 20 = .ok (.invokevirtual 69, 3) := by decide +kernel
theorem dX8_lookFromEdge_23 : decode cX8_lookFromEdge 23 = .ok (.if_icmp .ge 40, 3) := by decide +kernel
theorem dX8_lookFromEdge_26 : decode cX8_lookFromEdge 26 = .ok (.aload_n 0, 1) := by decide +kernel
theorem dX8_lookFromEdge_27 : decode cX8_lookFromEdge 27 = .ok (.getfield 31, 3) := by decide +kernel
theorem dX8_lookFromEdge_30 : decode cX8_lookFromEdge 30 = .ok (.iload_n 3, 1) := by decide +kernel
theorem dX8_lookFromEdge_31 : decode cX8_lookFromEdge 31 = .ok (.getstatic 72, 3) := by decide +kernel
theorem dX8_lookFromEdge_34 : decode cX8_lookFromEdge 34 = .ok (.iload_n 1, 1) := by decide +kernel
theorem dX8_lookFromEdge_35 : decode cX8_lookFromEdge 35 = .ok (.iaload, 1) := by decide +kernel
theorem dX8_lookFromEdge_36 : decode cX8_lookFromEdge 36 = .ok (.iadd, 1) := by decide +kernel
theorem dX8_lookFromEdge_37 : decode cX8_lookFromEdge 37 = .ok (.iload_n 2, 1) := by decide +kernel
theorem dX8_lookFromEdge_38 : decode cX8_lookFromEdge 38 = .ok (.getstatic 75, 3) := by decide +kernel
theorem dX8_lookFromEdge_41 : decode cX8_lookFromEdge 41 = .ok (.iload_n 1, 1) := by decide +kernel
theorem dX8_lookFromEdge_42 : decode cX8_lookFromEdge 42 = .ok (.iaload, 1) := by decide +kernel
theorem dX8_lookFromEdge_43 : decode cX8_lookFromEdge 43 = .ok (.iadd, 1) := by decide +kernel
theorem dX8_lookFromEdge_44 : decode cX8_lookFromEdge 44 = .ok (.invokevirtual 78, 3) := by decide +kernel
theorem dX8_lookFromEdge_47 : decode cX8_lookFromEdge 47 = .ok (.ifCond .ne 10, 3) := by decide +kernel
theorem dX8_lookFromEdge_50 : decode cX8_lookFromEdge 50 = .ok (.aload_n 0, 1) := by decide +kernel
theorem dX8_lookFromEdge_51 : decode cX8_lookFromEdge 51 = .ok (.iload_n 3, 1) := by decide +kernel
theorem dX8_lookFromEdge_52 : decode cX8_lookFromEdge 52 = .ok (.iload_n 2, 1) := by decide +kernel
theorem dX8_lookFromEdge_53 : decode cX8_lookFromEdge 53 = .ok (.iload_n 1, 1) := by decide +kernel
theorem dX8_lookFromEdge_54 : decode cX8_lookFromEdge 54 = .ok (.invokevirtual 82, 3) := by decide +kernel
theorem dX8_lookFromEdge_57 : decode cX8_lookFromEdge 57 = .ok (.iinc 3 1, 3) := by decide +kernel
theorem dX8_lookFromEdge_60 : decode cX8_lookFromEdge 60 = .ok (.goto (-45), 3) := by decide +kernel
theorem dX8_lookFromEdge_63 : decode cX8_lookFromEdge 63 = .ok (.iinc 2 1, 3) := by decide +kernel
theorem dX8_lookFromEdge_66 : decode cX8_lookFromEdge 66 = .ok (.goto (-64), 3) := by decide +kernel
theorem dX8_lookFromEdge_69 : decode cX8_lookFromEdge 69 = .ok (.return_, 1) := by decide +kernel
theorem dX8_lookBack_0 : decode cX8_lookBack 0 = .ok (.iconst 0, 1) := by decide +kernel
theorem dX8_lookBack_1 : decode cX8_lookBack 1 = .ok (.istore 4, 2) := by decide +kernel
theorem dX8_lookBack_3 : decode cX8_lookBack 3 = .ok (.iconst 0, 1) := by decide +kernel
theorem dX8_lookBack_4 : decode cX8_lookBack 4 = .ok (.istore 5, 2) := by decide +kernel
theorem dX8_lookBack_6 : decode cX8_lookBack 6 = .ok (.iload 5, 2) := by decide +kernel
theorem dX8_lookBack_8 : decode cX8_lookBack 8 = .ok (.bipush 12, 2) := by decide +kernel
theorem dX8_lookBack_10 : decode cX8_lookBack 10 = .ok (.if_icmp .ge 100, 3) := by decide +kernel
theorem dX8_lookBack_13 : decode cX8_lookBack 13 = .ok (.aload_n 0, 1) := by decide +kernel
theorem dX8_lookBack_14 : decode cX8_lookBack 14 = .ok (.getfield 31, 3) := by decide +kernel
theorem dX8_lookBack_17 : decode cX8_lookBack 17 = .ok (.iload_n 1, 1) := by decide +kernel
theorem dX8_lookBack_18 : decode cX8_lookBack 18 = .ok (.iload 5, 2) := by decide +kernel
theorem dX8_lookBack_20 : decode cX8_lookBack 20 = .ok (.getstatic 72, 3) := by decide +kernel
theorem dX8_lookBack_23 : decode cX8_lookBack 23 = .ok (.iload_n 3, 1) := by decide +kernel
theorem dX8_lookBack_24 : decode cX8_lookBack 24 = .ok (.iaload, 1) := by decide +kernel
theorem dX8_lookBack_25 : decode cX8_lookBack 25 = .ok (.imul, 1) := by decide +kernel
theorem dX8_lookBack_26 : decode cX8_lookBack 26 = .ok (.isub, 1) := by decide +kernel
theorem dX8_lookBack_27 : decode cX8_lookBack 27 = .ok (.iload_n 2, 1) := by decide +kernel
theorem dX8_lookBack_28 : decode cX8_lookBack 28 = .ok (.iload 5, 2) := by decide +kernel
theorem dX8_lookBack_30 : decode cX8_lookBack 30 = .ok (.getstatic 75, 3) := by decide +kernel
theorem dX8_lookBack_33 : decode cX8_lookBack 33 = .ok (.iload_n 3, 1) := by decide +kernel
theorem dX8_lookBack_34 : decode cX8_lookBack 34 = .ok (.iaload, 1) := by decide +kernel
theorem dX8_lookBack_35 : decode cX8_lookBack 35 = .ok (.imul, 1) := by decide +kernel
theorem dX8_lookBack_36 : decode cX8_lookBack 36 = .ok (.isub, 1) := by decide +kernel
theorem dX8_lookBack_37 : decode cX8_lookBack 37 = .ok (.invokevirtual 86, 3) := by decide +kernel
theorem dX8_lookBack_40 : decode cX8_lookBack 40 = .ok (.istore 6, 2) := by decide +kernel
theorem dX8_lookBack_42 : decode cX8_lookBack 42 = .ok (.iload 6, 2) := by decide +kernel
theorem dX8_lookBack_44 : decode cX8_lookBack 44 = .ok (.iconst (-1), 1) := by decide +kernel
theorem dX8_lookBack_45 : decode cX8_lookBack 45 = .ok (.if_icmp .ne 6, 3) := by decide +kernel
theorem dX8_lookBack_48 : decode cX8_lookBack 48 = .ok (.goto 62, 3) := by decide +kernel
theorem dX8_lookBack_51 : decode cX8_lookBack 51 = .ok (.iload 6, 2) := by decide +kernel
theorem dX8_lookBack_53 : decode cX8_lookBack 53 = .ok (.invokestatic 90, 3) := by decide +kernel
theorem dX8_lookBack_56 : decode cX8_lookBack 56 = .ok (.ifCond .eq 38, 3) := by decide +kernel
theorem dX8_lookBack_59 : decode cX8_lookBack 59 = .ok (.aload_n 0, 1) := by decide +kernel
theorem dX8_lookBack_60 : decode cX8_lookBack 60 = .ok (.getfield 9, 3) := by decide +kernel
theorem dX8_lookBack_63 : decode cX8_lookBack 63 = .ok (.iload 6, 2) := by decide +kernel
theorem dX8_lookBack_65 : decode cX8_lookBack 65 = .ok (.bipush 10, 2) := by decide +kernel
theorem dX8_lookBack_67 : decode cX8_lookBack 67 = .ok (.isub, 1) := by decide +kernel
theorem dX8_lookBack_68 : decode cX8_lookBack 68 = .ok (.iconst 4, 1) := by decide +kernel
theorem dX8_lookBack_69 : decode cX8_lookBack 69 = .ok (.imul, 1) := by decide +kernel
theorem dX8_lookBack_70 : decode cX8_lookBack 70 = .ok (.iload_n 3, 1) := by decide +kernel
theorem dX8_lookBack_71 : decode cX8_lookBack 71 = .ok (.iadd, 1) := by decide +kernel
theorem dX8_lookBack_72 : decode cX8_lookBack 72 = .ok (.dup2, 1) := by decide +kernel
theorem dX8_lookBack_73 : decode cX8_lookBack 73 = .ok (.iaload, 1) := by decide +kernel
theorem dX8_lookBack_74 : decode cX8_lookBack 74 = .ok (.iload 4, 2) := by decide +kernel
theorem dX8_lookBack_76 : decode cX8_lookBack 76 = .ok (.ior, 1) := by decide +kernel
theorem dX8_lookBack_77 : decode cX8_lookBack 77 = .ok (.iastore, 1) := by decide +kernel
theorem dX8_lookBack_78 : decode cX8_lookBack 78 = .ok (.aload_n 0, 1) := by decide +kernel
theorem dX8_lookBack_79 : decode cX8_lookBack 79 = .ok (.dup, 1) := by decide +kernel
theorem dX8_lookBack_80 : decode cX8_lookBack 80 = .ok (.getfield 21, 3) := by decide +kernel
theorem dX8_lookBack_83 : decode cX8_lookBack 83 = .ok (.iconst 1, 1) := by decide +kernel
theorem dX8_lookBack_84 : decode cX8_lookBack 84 = .ok (.iload 6, 2) := by decide +kernel
theorem dX8_lookBack_86 : decode cX8_lookBack 86 = .ok (.bipush 10, 2) := by decide +kernel
theorem dX8_lookBack_88 : decode cX8_lookBack 88 = .ok (.isub, 1) := by decide +kernel
theorem dX8_lookBack_89 : decode cX8_lookBack 89 = .ok (.ishl, 1) := by decide +kernel
theorem dX8_lookBack_90 : decode cX8_lookBack 90 = .ok (.ior, 1) := by decide +kernel
theorem dX8_lookBack_91 : decode cX8_lookBack 91 = .ok (.putfield 21, 3) := by decide +kernel
theorem dX8_lookBack_94 : decode cX8_lookBack 94 = .ok (.iload 4, 2) := by decide +kernel
theorem dX8_lookBack_96 : decode cX8_lookBack 96 = .ok (.iload 6, 2) := by decide +kernel
theorem dX8_lookBack_98 : decode cX8_lookBack 98 = .ok (.invokestatic 93, 3) := by decide +kernel
theorem dX8_lookBack_101 : decode cX8_lookBack 101 = .ok (.ior, 1) := by decide +kernel
theorem dX8_lookBack_102 : decode cX8_lookBack 102 = .ok (.istore 4, 2) := by decide +kernel
theorem dX8_lookBack_104 : decode cX8_lookBack 104 = .ok (.iinc 5 1, 3) := by decide +kernel
theorem dX8_lookBack_107 : decode cX8_lookBack 107 = .ok (.goto (-101), 3) := by decide +kernel
theorem dX8_lookBack_110 : decode cX8_lookBack 110 = .ok (.return_, 1) := by decide +kernel
theorem dX8_maskOf_0 : decode cX8_maskOf 0 = .ok (.iload_n 0, 1) := by decide +kernel
theorem dX8_maskOf_1 : decode cX8_maskOf 1 = .ok (.invokestatic 90, 3) := by decide +kernel
theorem dX8_maskOf_4 : decode cX8_maskOf 4 = .ok (.ifCond .eq 10, 3) := by decide +kernel
theorem dX8_maskOf_7 : decode cX8_maskOf 7 = .ok (.iconst 1, 1) := by decide +kernel
theorem dX8_maskOf_8 : decode cX8_maskOf 8 = .ok (.iload_n 0, 1) := by decide +kernel
theorem dX8_maskOf_9 : decode cX8_maskOf 9 = .ok (.bipush 10, 2) := by decide +kernel
theorem dX8_maskOf_11 : decode cX8_maskOf 11 = .ok (.isub, 1) := by decide +kernel
theorem dX8_maskOf_12 : decode cX8_maskOf 12 = .ok (.ishl, 1) := by decide +kernel
theorem dX8_maskOf_13 : decode cX8_maskOf 13 = .ok (.ireturn, 1) := by decide +kernel
theorem dX8_maskOf_14 : decode cX8_maskOf 14 = .ok (.iload_n 0, 1) := by decide +kernel
theorem dX8_maskOf_15 : decode cX8_maskOf 15 = .ok (.iconst 3, 1) := by decide +kernel
theorem dX8_maskOf_16 : decode cX8_maskOf 16 = .ok (.if_icmp .eq 8, 3) := by decide +kernel
theorem dX8_maskOf_19 : decode cX8_maskOf 19 = .ok (.iload_n 0, 1) := by decide +kernel
theorem dX8_maskOf_20 : decode cX8_maskOf 20 = .ok (.iconst 4, 1) := by decide +kernel
theorem dX8_maskOf_21 : decode cX8_maskOf 21 = .ok (.if_icmp .ne 7, 3) := by decide +kernel
theorem dX8_maskOf_24 : decode cX8_maskOf 24 = .ok (.iconst 0, 1) := by decide +kernel
theorem dX8_maskOf_25 : decode cX8_maskOf 25 = .ok (.goto 6, 3) := by decide +kernel
theorem dX8_maskOf_28 : decode cX8_maskOf 28 = .ok (.sipush 256, 3) := by decide +kernel
theorem dX8_maskOf_31 : decode cX8_maskOf 31 = .ok (.ireturn, 1) := by decide +kernel
theorem dX8_takeLowestOff_0 : decode cX8_takeLowestOff 0 = .ok (.iconst 0, 1) := by decide +kernel
theorem dX8_takeLowestOff_1 : decode cX8_takeLowestOff 1 = .ok (.istore_n 2, 1) := by decide +kernel
theorem dX8_takeLowestOff_2 : decode cX8_takeLowestOff 2 = .ok (.iload_n 2, 1) := by decide +kernel
theorem dX8_takeLowestOff_3 : decode cX8_takeLowestOff 3 = .ok (.bipush 8, 2) := by decide +kernel
theorem dX8_takeLowestOff_5 : decode cX8_takeLowestOff 5 = .ok (.if_icmp .ge 88, 3) := by decide +kernel
theorem dX8_takeLowestOff_8 : decode cX8_takeLowestOff 8 = .ok (.aload_n 0, 1) := by decide +kernel
theorem dX8_takeLowestOff_9 : decode cX8_takeLowestOff 9 = .ok (.getfield 21, 3) := by decide +kernel
theorem dX8_takeLowestOff_12 : decode cX8_takeLowestOff 12 = .ok (.iload_n 2, 1) := by decide +kernel
theorem dX8_takeLowestOff_13 : decode cX8_takeLowestOff 13 = .ok (.ishr, 1) := by decide +kernel
theorem dX8_takeLowestOff_14 : decode cX8_takeLowestOff 14 = .ok (.iconst 1, 1) := by decide +kernel
theorem dX8_takeLowestOff_15 : decode cX8_takeLowestOff 15 = .ok (.iand, 1) := by decide +kernel
theorem dX8_takeLowestOff_16 : decode cX8_takeLowestOff 16 = .ok (.iconst 1, 1) := by decide +kernel
theorem dX8_takeLowestOff_17 : decode cX8_takeLowestOff 17 = .ok (.if_icmp .ne 18, 3) := by decide +kernel
theorem dX8_takeLowestOff_20 : decode cX8_takeLowestOff 20 = .ok (.aload_n 0, 1) := by decide +kernel
theorem dX8_takeLowestOff_21 : decode cX8_takeLowestOff 21 = .ok (.getfield 25, 3) := by decide +kernel
theorem dX8_takeLowestOff_24 : decode cX8_takeLowestOff 24 = .ok (.iload_n 2, 1) := by decide +kernel
theorem dX8_takeLowestOff_25 : decode cX8_takeLowestOff 25 = .ok (.ishr, 1) := by decide +kernel
theorem dX8_takeLowestOff_26 : decode cX8_takeLowestOff 26 = .ok (.iconst 1, 1) := by decide +kernel
theorem dX8_takeLowestOff_27 : decode cX8_takeLowestOff 27 = .ok (.iand, 1) := by decide +kernel
theorem dX8_takeLowestOff_28 : decode cX8_takeLowestOff 28 = .ok (.ifCond .ne 7, 3) := by decide +kernel
theorem dX8_takeLowestOff_31 : decode cX8_takeLowestOff 31 = .ok (.iconst 1, 1) := by decide +kernel
theorem dX8_takeLowestOff_32 : decode cX8_takeLowestOff 32 = .ok (.goto 4, 3) := by decide +kernel
theorem dX8_takeLowestOff_35 : decode cX8_takeLowestOff 35 = .ok (.iconst 0, 1) := by decide +kernel
theorem dX8_takeLowestOff_36 : decode cX8_takeLowestOff 36 = .ok (.istore_n 3, 1) := by decide +kernel
theorem dX8_takeLowestOff_37 : decode cX8_takeLowestOff 37 = .ok (.iload_n 3, 1) := by decide +kernel
theorem dX8_takeLowestOff_38 : decode cX8_takeLowestOff 38 = .ok (.ifCond .eq 11, 3) := by decide +kernel
theorem dX8_takeLowestOff_41 : decode cX8_takeLowestOff 41 = .ok (.aload_n 0, 1) := by decide +kernel
theorem dX8_takeLowestOff_42 : decode cX8_takeLowestOff 42 = .ok (.iload_n 2, 1) := by decide +kernel
theorem dX8_takeLowestOff_43 : decode cX8_takeLowestOff 43 = .ok (.invokevirtual 96, 3) := by decide +kernel
theorem dX8_takeLowestOff_46 : decode cX8_takeLowestOff 46 = .ok (.goto 4, 3) := by decide +kernel
theorem dX8_takeLowestOff_49 : decode cX8_takeLowestOff 49 = .ok (.iconst (-1), 1) := by decide +kernel
theorem dX8_takeLowestOff_50 : decode cX8_takeLowestOff 50 = .ok (.istore 4, 2) := by decide +kernel
theorem dX8_takeLowestOff_52 : decode cX8_takeLowestOff 52 = .ok (.iload 4, 2) := by decide +kernel
theorem dX8_takeLowestOff_54 : decode cX8_takeLowestOff 54 = .ok (.iconst (-1), 1) := by decide +kernel
theorem dX8_takeLowestOff_55 : decode cX8_takeLowestOff 55 = .ok (.if_icmp .eq 32, 3) := by decide +kernel
theorem dX8_takeLowestOff_58 : decode cX8_takeLowestOff 58 = .ok (.aload_n 0, 1) := by decide +kernel
theorem dX8_takeLowestOff_59 : decode cX8_takeLowestOff 59 = .ok (.dup, 1) := by decide +kernel
theorem dX8_takeLowestOff_60 : decode cX8_takeLowestOff 60 = .ok (.getfield 25, 3) := by decide +kernel
theorem dX8_takeLowestOff_63 : decode cX8_takeLowestOff 63 = .ok (.iconst 1, 1) := by decide +kernel
theorem dX8_takeLowestOff_64 : decode cX8_takeLowestOff 64 = .ok (.iload_n 2, 1) := by decide +kernel
theorem dX8_takeLowestOff_65 : decode cX8_takeLowestOff 65 = .ok (.ishl, 1) := by decide +kernel
theorem dX8_takeLowestOff_66 : decode cX8_takeLowestOff 66 = .ok (.ior, 1) := by decide +kernel
theorem dX8_takeLowestOff_67 : decode cX8_takeLowestOff 67 = .ok (.putfield 25, 3) := by decide +kernel
theorem dX8_takeLowestOff_70 : decode cX8_takeLowestOff 70 = .ok (.aload_n 0, 1) := by decide +kernel
theorem dX8_takeLowestOff_71 : decode cX8_takeLowestOff 71 = .ok (.getfield 15, 3) := by decide +kernel
theorem dX8_takeLowestOff_74 : decode cX8_takeLowestOff 74 = .ok (.iload_n 1, 1) := by decide +kernel
theorem dX8_takeLowestOff_75 : decode cX8_takeLowestOff 75 = .ok (.iload_n 2, 1) := by decide +kernel
theorem dX8_takeLowestOff_76 : decode cX8_takeLowestOff 76 = .ok (.iastore, 1) := by decide +kernel
theorem dX8_takeLowestOff_77 : decode cX8_takeLowestOff 77 = .ok (.aload_n 0, 1) := by decide +kernel
theorem dX8_takeLowestOff_78 : decode cX8_takeLowestOff 78 = .ok (.getfield 18, 3) := by decide +kernel
theorem dX8_takeLowestOff_81 : decode cX8_takeLowestOff 81 = .ok (.iload_n 1, 1) := by decide +kernel
theorem dX8_takeLowestOff_82 : decode cX8_takeLowestOff 82 = .ok (.iload 4, 2) := by decide +kernel
theorem dX8_takeLowestOff_84 : decode cX8_takeLowestOff 84 = .ok (.iastore, 1) := by decide +kernel
theorem dX8_takeLowestOff_85 : decode cX8_takeLowestOff 85 = .ok (.iconst 1, 1) := by decide +kernel
theorem dX8_takeLowestOff_86 : decode cX8_takeLowestOff 86 = .ok (.ireturn, 1) := by decide +kernel
theorem dX8_takeLowestOff_87 : decode cX8_takeLowestOff 87 = .ok (.iinc 2 1, 3) := by decide +kernel
theorem dX8_takeLowestOff_90 : decode cX8_takeLowestOff 90 = .ok (.goto (-88), 3) := by decide +kernel
theorem dX8_takeLowestOff_93 : decode cX8_takeLowestOff 93 = .ok (.iconst 0, 1) := by decide +kernel
theorem dX8_takeLowestOff_94 : decode cX8_takeLowestOff 94 = .ok (.ireturn, 1) := by decide +kernel
theorem dX8_lowestWay_0 : decode cX8_lowestWay 0 = .ok (.aload_n 0, 1) := by decide +kernel
theorem dX8_lowestWay_1 : decode cX8_lowestWay 1 = .ok (.getfield 25, 3) := by decide +kernel
theorem dX8_lowestWay_4 : decode cX8_lowestWay 4 = .ok (.iconst 1, 1) := by decide +kernel
theorem dX8_lowestWay_5 : decode cX8_lowestWay 5 = .ok (.iload_n 1, 1) := by decide +kernel
theorem dX8_lowestWay_6 : decode cX8_lowestWay 6 = .ok (.ishl, 1) := by decide +kernel
theorem dX8_lowestWay_7 : decode cX8_lowestWay 7 = .ok (.ior, 1) := by decide +kernel
theorem dX8_lowestWay_8 : decode cX8_lowestWay 8 = .ok (.istore_n 2, 1) := by decide +kernel
theorem dX8_lowestWay_9 : decode cX8_lowestWay 9 = .ok (.iconst 0, 1) := by decide +kernel
theorem dX8_lowestWay_10 : decode cX8_lowestWay 10 = .ok (.istore_n 3, 1) := by decide +kernel
theorem dX8_lowestWay_11 : decode cX8_lowestWay 11 = .ok (.iload_n 3, 1) := by decide +kernel
theorem dX8_lowestWay_12 : decode cX8_lowestWay 12 = .ok (.iconst 4, 1) := by decide +kernel
theorem dX8_lowestWay_13 : decode cX8_lowestWay 13 = .ok (.if_icmp .ge 28, 3) := by decide +kernel
theorem dX8_lowestWay_16 : decode cX8_lowestWay 16 = .ok (.aload_n 0, 1) := by decide +kernel
theorem dX8_lowestWay_17 : decode cX8_lowestWay 17 = .ok (.getfield 9, 3) := by decide +kernel
theorem dX8_lowestWay_20 : decode cX8_lowestWay 20 = .ok (.iload_n 1, 1) := by decide +kernel
theorem dX8_lowestWay_21 : decode cX8_lowestWay 21 = .ok (.iconst 4, 1) := by decide +kernel
theorem dX8_lowestWay_22 : decode cX8_lowestWay 22 = .ok (.imul, 1) := by decide +kernel
theorem dX8_lowestWay_23 : decode cX8_lowestWay 23 = .ok (.iload_n 3, 1) := by decide +kernel
theorem dX8_lowestWay_24 : decode cX8_lowestWay 24 = .ok (.iadd, 1) := by decide +kernel
theorem dX8_lowestWay_25 : decode cX8_lowestWay 25 = .ok (.iaload, 1) := by decide +kernel
theorem dX8_lowestWay_26 : decode cX8_lowestWay 26 = .ok (.iload_n 2, 1) := by decide +kernel
theorem dX8_lowestWay_27 : decode cX8_lowestWay 27 = .ok (.iconst (-1), 1) := by decide +kernel
theorem dX8_lowestWay_28 : decode cX8_lowestWay 28 = .ok (.ixor, 1) := by decide +kernel
theorem dX8_lowestWay_29 : decode cX8_lowestWay 29 = .ok (.iand, 1) := by decide +kernel
theorem dX8_lowestWay_30 : decode cX8_lowestWay 30 = .ok (.ifCond .ne 5, 3) := by decide +kernel
theorem dX8_lowestWay_33 : decode cX8_lowestWay 33 = .ok (.iload_n 3, 1) := by decide +kernel
theorem dX8_lowestWay_34 : decode cX8_lowestWay 34 = .ok (.ireturn, 1) := by decide +kernel
theorem dX8_lowestWay_35 : decode cX8_lowestWay 35 = .ok (.iinc 3 1, 3) := by decide +kernel
theorem dX8_lowestWay_38 : decode cX8_lowestWay 38 = .ok (.goto (-27), 3) := by decide +kernel
theorem dX8_lowestWay_41 : decode cX8_lowestWay 41 = .ok (.iconst (-1), 1) := by decide +kernel
theorem dX8_lowestWay_42 : decode cX8_lowestWay 42 = .ok (.ireturn, 1) := by decide +kernel
theorem dX9_init_0 : decode cX9_init 0 = .ok (.aload_n 0, 1) := by decide +kernel
theorem dX9_init_1 : decode cX9_init 1 = .ok (.invokespecial 3, 3) := by decide +kernel
theorem dX9_init_4 : decode cX9_init 4 = .ok (.aload_n 0, 1) := by decide +kernel
theorem dX9_init_5 : decode cX9_init 5 = .ok (.sipush 300, 3) := by decide +kernel
theorem dX9_init_8 : decode cX9_init 8 = .ok (.newarray .int, 2) := by decide +kernel
theorem dX9_init_10 : decode cX9_init 10 = .ok (.putfield 9, 3) := by decide +kernel
theorem dX9_init_13 : decode cX9_init 13 = .ok (.aload_n 0, 1) := by decide +kernel
theorem dX9_init_14 : decode cX9_init 14 = .ok (.iconst 0, 1) := by decide +kernel
theorem dX9_init_15 : decode cX9_init 15 = .ok (.putfield 15, 3) := by decide +kernel
theorem dX9_init_18 : decode cX9_init 18 = .ok (.return_, 1) := by decide +kernel
theorem dX9_length_0 : decode cX9_length 0 = .ok (.aload_n 0, 1) := by decide +kernel
theorem dX9_length_1 : decode cX9_length 1 = .ok (.getfield 15, 3) := by decide +kernel
theorem dX9_length_4 : decode cX9_length 4 = .ok (.ireturn, 1) := by decide +kernel
theorem dX9_byteAt_0 : decode cX9_byteAt 0 = .ok (.iload_n 1, 1) := by decide +kernel
theorem dX9_byteAt_1 : decode cX9_byteAt 1 = .ok (.ifCond .lt 27, 3) := by decide +kernel
theorem dX9_byteAt_4 : decode cX9_byteAt 4 = .ok (.iload_n 1, 1) := by decide +kernel
theorem dX9_byteAt_5 : decode cX9_byteAt 5 = .ok (.aload_n 0, 1) := by decide +kernel
theorem dX9_byteAt_6 : decode cX9_byteAt 6 = .ok (.getfield 15, 3) := by decide +kernel
theorem dX9_byteAt_9 : decode cX9_byteAt 9 = .ok (.if_icmp .ge 19, 3) := by decide +kernel
theorem dX9_byteAt_12 : decode cX9_byteAt 12 = .ok (.iload_n 1, 1) := by decide +kernel
theorem dX9_byteAt_13 : decode cX9_byteAt 13 = .ok (.sipush 300, 3) := by decide +kernel
theorem dX9_byteAt_16 : decode cX9_byteAt 16 = .ok (.if_icmp .ge 12, 3) := by decide +kernel
theorem dX9_byteAt_19 : decode cX9_byteAt 19 = .ok (.aload_n 0, 1) := by decide +kernel
theorem dX9_byteAt_20 : decode cX9_byteAt 20 = .ok (.getfield 9, 3) := by decide +kernel
theorem dX9_byteAt_23 : decode cX9_byteAt 23 = .ok (.iload_n 1, 1) := by decide +kernel
theorem dX9_byteAt_24 : decode cX9_byteAt 24 = .ok (.iaload, 1) := by decide +kernel
theorem dX9_byteAt_25 : decode cX9_byteAt 25 = .ok (.goto 4, 3) := by decide +kernel
theorem dX9_byteAt_28 : decode cX9_byteAt 28 = .ok (.iconst (-1), 1) := by decide +kernel
theorem dX9_byteAt_29 : decode cX9_byteAt 29 = .ok (.ireturn, 1) := by decide +kernel
theorem dX9_addNumber_0 : decode cX9_addNumber 0 = .ok (.bipush 24, 2) := by decide +kernel
theorem dX9_addNumber_2 : decode cX9_addNumber 2 = .ok (.istore_n 2, 1) := by decide +kernel
theorem dX9_addNumber_3 : decode cX9_addNumber 3 = .ok (.iload_n 2, 1) := by decide +kernel
theorem dX9_addNumber_4 : decode cX9_addNumber 4 = .ok (.ifCond .lt 45, 3) := by decide +kernel
theorem dX9_addNumber_7 : decode cX9_addNumber 7 = .ok (.aload_n 0, 1) := by decide +kernel
theorem dX9_addNumber_8 : decode cX9_addNumber 8 = .ok (.getfield 15, 3) := by decide +kernel
theorem dX9_addNumber_11 : decode cX9_addNumber 11 = .ok (.sipush 300, 3) := by decide +kernel
theorem dX9_addNumber_14 : decode cX9_addNumber 14 = .ok (.if_icmp .ge 35, 3) := by decide +kernel
theorem dX9_addNumber_17 : decode cX9_addNumber 17 = .ok (.aload_n 0, 1) := by decide +kernel
theorem dX9_addNumber_18 : decode cX9_addNumber 18 = .ok (.getfield 9, 3) := by decide +kernel
theorem dX9_addNumber_21 : decode cX9_addNumber 21 = .ok (.aload_n 0, 1) := by decide +kernel
theorem dX9_addNumber_22 : decode cX9_addNumber 22 = .ok (.getfield 15, 3) := by decide +kernel
theorem dX9_addNumber_25 : decode cX9_addNumber 25 = .ok (.iload_n 1, 1) := by decide +kernel
theorem dX9_addNumber_26 : decode cX9_addNumber 26 = .ok (.iload_n 2, 1) := by decide +kernel
theorem dX9_addNumber_27 : decode cX9_addNumber 27 = .ok (.iushr, 1) := by decide +kernel
theorem dX9_addNumber_28 : decode cX9_addNumber 28 = .ok (.sipush 255, 3) := by decide +kernel
theorem dX9_addNumber_31 : decode cX9_addNumber 31 = .ok (.iand, 1) := by decide +kernel
theorem dX9_addNumber_32 : decode cX9_addNumber 32 = .ok (.iastore, 1) := by decide +kernel
theorem dX9_addNumber_33 : decode cX9_addNumber 33 = .ok (.aload_n 0, 1) := by decide +kernel
theorem dX9_addNumber_34 : decode cX9_addNumber 34 = .ok (.dup, 1) := by decide +kernel
theorem dX9_addNumber_35 : decode cX9_addNumber 35 = .ok (.getfield 15, 3) := by decide +kernel
theorem dX9_addNumber_38 : decode cX9_addNumber 38 = .ok (.iconst 1, 1) := by decide +kernel
theorem dX9_addNumber_39 : decode cX9_addNumber 39 = .ok (.iadd, 1) := by decide +kernel
theorem dX9_addNumber_40 : decode cX9_addNumber 40 = .ok (.putfield 15, 3) := by decide +kernel
theorem dX9_addNumber_43 : decode cX9_addNumber 43 = .ok (.iinc 2 (-8), 3) := by decide +kernel
theorem dX9_addNumber_46 : decode cX9_addNumber 46 = .ok (.goto (-43), 3) := by decide +kernel
theorem dX9_addNumber_49 : decode cX9_addNumber 49 = .ok (.return_, 1) := by decide +kernel
theorem dX9_cut_0 : decode cX9_cut 0 = .ok (.iload_n 1, 1) := by decide +kernel
theorem dX9_cut_1 : decode cX9_cut 1 = .ok (.ifCond .lt 16, 3) := by decide +kernel
theorem dX9_cut_4 : decode cX9_cut 4 = .ok (.iload_n 1, 1) := by decide +kernel
theorem dX9_cut_5 : decode cX9_cut 5 = .ok (.aload_n 0, 1) := by decide +kernel
theorem dX9_cut_6 : decode cX9_cut 6 = .ok (.getfield 15, 3) := by decide +kernel
theorem dX9_cut_9 : decode cX9_cut 9 = .ok (.if_icmp .gt 8, 3) := by decide +kernel
theorem dX9_cut_12 : decode cX9_cut 12 = .ok (.aload_n 0, 1) := by decide +kernel
theorem dX9_cut_13 : decode cX9_cut 13 = .ok (.iload_n 1, 1) := by decide +kernel
theorem dX9_cut_14 : decode cX9_cut 14 = .ok (.putfield 15, 3) := by decide +kernel
theorem dX9_cut_17 : decode cX9_cut 17 = .ok (.return_, 1) := by decide +kernel
theorem dX10_init_0 : decode cX10_init 0 = .ok (.aload_n 0, 1) := by decide +kernel
theorem dX10_init_1 : decode cX10_init 1 = .ok (.invokespecial 3, 3) := by decide +kernel
theorem dX10_init_4 : decode cX10_init 4 = .ok (.aload_n 0, 1) := by decide +kernel
theorem dX10_init_5 : decode cX10_init 5 = .ok (.sipush 320, 3) := by decide +kernel
theorem dX10_init_8 : decode cX10_init 8 = .ok (.newarray .int, 2) := by decide +kernel
theorem dX10_init_10 : decode cX10_init 10 = .ok (.putfield 9, 3) := by decide +kernel
theorem dX10_init_13 : decode cX10_init 13 = .ok (.aload_n 0, 1) := by decide +kernel
theorem dX10_init_14 : decode cX10_init 14 = .ok (.sipush 150, 3) := by decide +kernel
theorem dX10_init_17 : decode cX10_init 17 = .ok (.newarray .int, 2) := by decide +kernel
theorem dX10_init_19 : decode cX10_init 19 = .ok (.putfield 15, 3) := by decide +kernel
theorem dX10_init_22 : decode cX10_init 22 = .ok (.aload_n 0, 1) := by decide +kernel
theorem dX10_init_23 : decode cX10_init 23 = .ok (.sipush 150, 3) := by decide +kernel
theorem dX10_init_26 : decode cX10_init 26 = .ok (.newarray .int, 2) := by decide +kernel
theorem dX10_init_28 : decode cX10_init 28 = .ok (.putfield 18, 3) := by decide +kernel
theorem dX10_init_31 : decode cX10_init 31 = .ok (.aload_n 0, 1) := by decide +kernel
theorem dX10_init_32 : decode cX10_init 32 = .ok (.sipush 150, 3) := by decide +kernel
theorem dX10_init_35 : decode cX10_init 35 = .ok (.newarray .int, 2) := by decide +kernel
theorem dX10_init_37 : decode cX10_init 37 = .ok (.putfield 21, 3) := by decide +kernel
theorem dX10_init_40 : decode cX10_init 40 = .ok (.aload_n 0, 1) := by decide +kernel
theorem dX10_init_41 : decode cX10_init 41 = .ok (.bipush 8, 2) := by decide +kernel
theorem dX10_init_43 : decode cX10_init 43 = .ok (.newarray .int, 2) := by decide +kernel
theorem dX10_init_45 : decode cX10_init 45 = .ok (.putfield 24, 3) := by decide +kernel
theorem dX10_init_48 : decode cX10_init 48 = .ok (.aload_n 0, 1) := by decide +kernel
theorem dX10_init_49 : decode cX10_init 49 = .ok (.bipush 8, 2) := by decide +kernel
theorem dX10_init_51 : decode cX10_init 51 = .ok (.newarray .int, 2) := by decide +kernel
theorem dX10_init_53 : decode cX10_init 53 = .ok (.putfield 27, 3) := by decide +kernel
theorem dX10_init_56 : decode cX10_init 56 = .ok (.aload_n 0, 1) := by decide +kernel
theorem dX10_init_57 : decode cX10_init 57 = .ok (.iconst 0, 1) := by decide +kernel
theorem dX10_init_58 : decode cX10_init 58 = .ok (.putfield 30, 3) := by decide +kernel
theorem dX10_init_61 : decode cX10_init 61 = .ok (.aload_n 0, 1) := by decide +kernel
theorem dX10_init_62 : decode cX10_init 62 = .ok (.iconst 0, 1) := by decide +kernel
theorem dX10_init_63 : decode cX10_init 63 = .ok (.putfield 34, 3) := by decide +kernel
theorem dX10_init_66 : decode cX10_init 66 = .ok (.return_, 1) := by decide +kernel
theorem dX10_length_0 : decode cX10_length 0 = .ok (.aload_n 0, 1) := by decide +kernel
theorem dX10_length_1 : decode cX10_length 1 = .ok (.getfield 30, 3) := by decide +kernel
theorem dX10_length_4 : decode cX10_length 4 = .ok (.ireturn, 1) := by decide +kernel
theorem dX10_toldLength_0 : decode cX10_toldLength 0 = .ok (.aload_n 0, 1) := by decide +kernel
theorem dX10_toldLength_1 : decode cX10_toldLength 1 = .ok (.getfield 34, 3) := by decide +kernel
theorem dX10_toldLength_4 : decode cX10_toldLength 4 = .ok (.ireturn, 1) := by decide +kernel
theorem dX10_isFull_0 : decode cX10_isFull 0 = .ok (.aload_n 0, 1) := by decide +kernel
theorem dX10_isFull_1 : decode cX10_isFull 1 = .ok (.getfield 30, 3) := by decide +kernel
theorem dX10_isFull_4 : decode cX10_isFull 4 = .ok (.bipush 40, 2) := by decide +kernel
theorem dX10_isFull_6 : decode cX10_isFull 6 = .ok (.if_icmp .lt 7, 3) := by decide +kernel
theorem dX10_isFull_9 : decode cX10_isFull 9 = .ok (.iconst 1, 1) := by decide +kernel
theorem dX10_isFull_10 : decode cX10_isFull 10 = .ok (.goto 4, 3) := by decide +kernel
theorem dX10_isFull_13 : decode cX10_isFull 13 = .ok (.iconst 0, 1) := by decide +kernel
theorem dX10_isFull_14 : decode cX10_isFull 14 = .ok (.ireturn, 1) := by decide +kernel
theorem dX10_isToldFull_0 : decode cX10_isToldFull 0 = .ok (.aload_n 0, 1) := by decide +kernel
theorem dX10_isToldFull_1 : decode cX10_isToldFull 1 = .ok (.getfield 34, 3) := by decide +kernel
theorem dX10_isToldFull_4 : decode cX10_isToldFull 4 = .ok (.sipush 150, 3) := by decide +kernel
theorem dX10_isToldFull_7 : decode cX10_isToldFull 7 = .ok (.if_icmp .lt 7, 3) := by decide +kernel
theorem dX10_isToldFull_10 : decode cX10_isToldFull 10 = .ok (.iconst 1, 1) := by decide +kernel
theorem dX10_isToldFull_11 : decode cX10_isToldFull 11 = .ok (.goto 4, 3) := by decide +kernel
theorem dX10_isToldFull_14 : decode cX10_isToldFull 14 = .ok (.iconst 0, 1) := by decide +kernel
theorem dX10_isToldFull_15 : decode cX10_isToldFull 15 = .ok (.ireturn, 1) := by decide +kernel
theorem dX10_has_0 : decode cX10_has 0 = .ok (.iload_n 1, 1) := by decide +kernel
theorem dX10_has_1 : decode cX10_has 1 = .ok (.ifCond .lt 21, 3) := by decide +kernel
theorem dX10_has_4 : decode cX10_has 4 = .ok (.iload_n 1, 1) := by decide +kernel
theorem dX10_has_5 : decode cX10_has 5 = .ok (.aload_n 0, 1) := by decide +kernel
theorem dX10_has_6 : decode cX10_has 6 = .ok (.getfield 30, 3) := by decide +kernel
theorem dX10_has_9 : decode cX10_has 9 = .ok (.if_icmp .ge 13, 3) := by decide +kernel
theorem dX10_has_12 : decode cX10_has 12 = .ok (.iload_n 1, 1) := by decide +kernel
theorem dX10_has_13 : decode cX10_has 13 = .ok (.bipush 40, 2) := by decide +kernel
theorem dX10_has_15 : decode cX10_has 15 = .ok (.if_icmp .ge 7, 3) := by decide +kernel
theorem dX10_has_18 : decode cX10_has 18 = .ok (.iconst 1, 1) := by decide +kernel
theorem dX10_has_19 : decode cX10_has 19 = .ok (.goto 4, 3) := by decide +kernel
theorem dX10_has_22 : decode cX10_has 22 = .ok (.iconst 0, 1) := by decide +kernel
theorem dX10_has_23 : decode cX10_has 23 = .ok (.ireturn, 1) := by decide +kernel
theorem dX10_add_0 : decode cX10_add 0 = .ok (.aload_n 0, 1) := by decide +kernel
theorem dX10_add_1 : decode cX10_add 1 = .ok (.invokevirtual 37, 3) := by decide +kernel
theorem dX10_add_4 : decode cX10_add 4 = .ok (.ifCond .eq 5, 3) := by decide +kernel
theorem dX10_add_7 : decode cX10_add 7 = .ok (.iconst (-1), 1) := by decide +kernel
theorem dX10_add_8 : decode cX10_add 8 = .ok (.ireturn, 1) := by decide +kernel
theorem dX10_add_9 : decode cX10_add 9 = .ok (.iload_n 1, 1) := by decide +kernel
theorem dX10_add_10 : decode cX10_add 10 = .ok (.istore_n 2, 1) := by decide +kernel
theorem dX10_add_11 : decode cX10_add 11 = .ok (.iconst 0, 1) := by decide +kernel
theorem dX10_add_12 : decode cX10_add 12 = .ok (.istore_n 3, 1) := by decide +kernel
theorem dX10_add_13 : decode cX10_add 13 = .ok (.iload_n 3, 1) := by decide +kernel
theorem dX10_add_14 : decode cX10_add 14 = .ok (.bipush 8, 2) := by decide +kernel
theorem dX10_add_16 : decode cX10_add 16 = .ok (.if_icmp .ge 32, 3) := by decide +kernel
theorem dX10_add_19 : decode cX10_add 19 = .ok (.aload_n 0, 1) := by decide +kernel
theorem dX10_add_20 : decode cX10_add 20 = .ok (.getfield 9, 3) := by decide +kernel
theorem dX10_add_23 : decode cX10_add 23 = .ok (.aload_n 0, 1) := by decide +kernel
theorem dX10_add_24 : decode cX10_add 24 = .ok (.getfield 30, 3) := by decide +kernel
theorem dX10_add_27 : decode cX10_add 27 = .ok (.bipush 8, 2) := by decide +kernel
theorem dX10_add_29 : decode cX10_add 29 = .ok (.imul, 1) := by decide +kernel
theorem dX10_add_30 : decode cX10_add 30 = .ok (.iload_n 3, 1) := by decide +kernel
theorem dX10_add_31 : decode cX10_add 31 = .ok (.iadd, 1) := by decide +kernel
theorem dX10_add_32 : decode cX10_add 32 = .ok (.iload_n 2, 1) := by decide +kernel
theorem dX10_add_33 : decode cX10_add 33 = .ok (.bipush 10, 2) := by decide +kernel
theorem dX10_add_35 : decode cX10_add 35 = .ok (.irem, 1) := by decide +kernel
theorem dX10_add_36 : decode cX10_add 36 = .ok (.iastore, 1) := by decide +kernel
theorem dX10_add_37 : decode cX10_add 37 = .ok (.iload_n 2, 1) := by decide +kernel
theorem dX10_add_38 : decode cX10_add 38 = .ok (.bipush 10, 2) := by decide +kernel
theorem dX10_add_40 : decode cX10_add 40 = .ok (.idiv, 1) := by decide +kernel
theorem dX10_add_41 : decode cX10_add 41 = .ok (.istore_n 2, 1) := by decide +kernel
theorem dX10_add_42 : decode cX10_add 42 = .ok (.iinc 3 1, 3) := by decide +kernel
theorem dX10_add_45 : decode cX10_add 45 = .ok (.goto (-32), 3) := by decide +kernel
theorem dX10_add_48 : decode cX10_add 48 = .ok (.aload_n 0, 1) := by decide +kernel
theorem dX10_add_49 : decode cX10_add 49 = .ok (.dup, 1) := by decide +kernel
theorem dX10_add_50 : decode cX10_add 50 = .ok (.getfield 30, 3) := by decide +kernel
theorem dX10_add_53 : decode cX10_add 53 = .ok (.iconst 1, 1) := by decide +kernel
theorem dX10_add_54 : decode cX10_add 54 = .ok (.iadd, 1) := by decide +kernel
theorem dX10_add_55 : decode cX10_add 55 = .ok (.putfield 30, 3) := by decide +kernel
theorem dX10_add_58 : decode cX10_add 58 = .ok (.aload_n 0, 1) := by decide +kernel
theorem dX10_add_59 : decode cX10_add 59 = .ok (.getfield 30, 3) := by decide +kernel
theorem dX10_add_62 : decode cX10_add 62 = .ok (.iconst 1, 1) := by decide +kernel
theorem dX10_add_63 : decode cX10_add 63 = .ok (.isub, 1) := by decide +kernel
theorem dX10_add_64 : decode cX10_add 64 = .ok (.ireturn, 1) := by decide +kernel
theorem dX10_likeness_0 : decode cX10_likeness 0 = .ok (.aload_n 0, 1) := by decide +kernel
theorem dX10_likeness_1 : decode cX10_likeness 1 = .ok (.iload_n 1, 1) := by decide +kernel
theorem dX10_likeness_2 : decode cX10_likeness 2 = .ok (.invokevirtual 41, 3) := by decide +kernel
theorem dX10_likeness_5 : decode cX10_likeness 5 = .ok (.ifCond .eq 11, 3) := by decide +kernel
theorem dX10_likeness_8 : decode cX10_likeness 8 = .ok (.aload_n 0, 1) := by decide +kernel
theorem dX10_likeness_9 : decode cX10_likeness 9 = .ok (.iload_n 2, 1) := by decide +kernel
theorem dX10_likeness_10 : decode cX10_likeness 10 = .ok (.invokevirtual 41, 3) := by decide +kernel
theorem dX10_likeness_13 : decode cX10_likeness 13 = .ok (.ifCond .ne 5, 3) := by decide +kernel
theorem dX10_likeness_16 : decode cX10_likeness 16 = .ok (.iconst 0, 1) := by decide +kernel
theorem dX10_likeness_17 : decode cX10_likeness 17 = .ok (.ireturn, 1) := by decide +kernel
theorem dX10_likeness_18 : decode cX10_likeness 18 = .ok (.iconst 0, 1) := by decide +kernel
theorem dX10_likeness_19 : decode cX10_likeness 19 = .ok (.istore_n 3, 1) := by decide +kernel
theorem dX10_likeness_20 : decode cX10_likeness 20 = .ok (.iconst 0, 1) := by decide +kernel
theorem dX10_likeness_21 : decode cX10_likeness 21 = .ok (.istore 4, 2) := by decide +kernel
theorem dX10_likeness_23 : decode cX10_likeness 23 = .ok (.iload 4, 2) := by decide +kernel
theorem dX10_likeness_25 : decode cX10_likeness 25 = .ok (.bipush 8, 2) := by decide +kernel
theorem dX10_likeness_27 : decode cX10_likeness 27 = .ok (.if_icmp .ge 62, 3) := by decide +kernel
theorem dX10_likeness_30 : decode cX10_likeness 30 = .ok (.aload_n 0, 1) := by decide +kernel
theorem dX10_likeness_31 : decode cX10_likeness 31 = .ok (.getfield 9, 3) := by decide +kernel
theorem dX10_likeness_34 : decode cX10_likeness 34 = .ok (.iload_n 1, 1) := by decide +kernel
theorem dX10_likeness_35 : decode cX10_likeness 35 = .ok (.bipush 8, 2) := by decide +kernel
theorem dX10_likeness_37 : decode cX10_likeness 37 = .ok (.imul, 1) := by decide +kernel
theorem dX10_likeness_38 : decode cX10_likeness 38 = .ok (.iload 4, 2) := by decide +kernel
theorem dX10_likeness_40 : decode cX10_likeness 40 = .ok (.iadd, 1) := by decide +kernel
theorem dX10_likeness_41 : decode cX10_likeness 41 = .ok (.iaload, 1) := by decide +kernel
theorem dX10_likeness_42 : decode cX10_likeness 42 = .ok (.istore 5, 2) := by decide +kernel
theorem dX10_likeness_44 : decode cX10_likeness 44 = .ok (.aload_n 0, 1) := by decide +kernel
theorem dX10_likeness_45 : decode cX10_likeness 45 = .ok (.getfield 9, 3) := by decide +kernel
theorem dX10_likeness_48 : decode cX10_likeness 48 = .ok (.iload_n 2, 1) := by decide +kernel
theorem dX10_likeness_49 : decode cX10_likeness 49 = .ok (.bipush 8, 2) := by decide +kernel
theorem dX10_likeness_51 : decode cX10_likeness 51 = .ok (.imul, 1) := by decide +kernel
theorem dX10_likeness_52 : decode cX10_likeness 52 = .ok (.iload 4, 2) := by decide +kernel
theorem dX10_likeness_54 : decode cX10_likeness 54 = .ok (.iadd, 1) := by decide +kernel
theorem dX10_likeness_55 : decode cX10_likeness 55 = .ok (.iaload, 1) := by decide +kernel
theorem dX10_likeness_56 : decode cX10_likeness 56 = .ok (.istore 6, 2) := by decide +kernel
theorem dX10_likeness_58 : decode cX10_likeness 58 = .ok (.iload 5, 2) := by decide +kernel
theorem dX10_likeness_60 : decode cX10_likeness 60 = .ok (.ifCond .eq 23, 3) := by decide +kernel
theorem dX10_likeness_63 : decode cX10_likeness 63 = .ok (.iload 6, 2) := by decide +kernel
theorem dX10_likeness_65 : decode cX10_likeness 65 = .ok (.ifCond .eq 18, 3) := by decide +kernel
theorem dX10_likeness_68 : decode cX10_likeness 68 = .ok (.iload_n 3, 1) := by decide +kernel
theorem dX10_likeness_69 : decode cX10_likeness 69 = .ok (.iload 5, 2) := by decide +kernel
theorem dX10_likeness_71 : decode cX10_likeness 71 = .ok (.iload 6, 2) := by decide +kernel
theorem dX10_likeness_73 : decode cX10_likeness 73 = .ok (.if_icmp .ne 7, 3) := by decide +kernel
theorem dX10_likeness_76 : decode cX10_likeness 76 = .ok (.iconst 1, 1) := by decide +kernel
theorem dX10_likeness_77 : decode cX10_likeness 77 = .ok (.goto 4, 3) := by decide +kernel
theorem dX10_likeness_80 : decode cX10_likeness 80 = .ok (.iconst (-1), 1) := by decide +kernel
theorem dX10_likeness_81 : decode cX10_likeness 81 = .ok (.iadd, 1) := by decide +kernel
theorem dX10_likeness_82 : decode cX10_likeness 82 = .ok (.istore_n 3, 1) := by decide +kernel
theorem dX10_likeness_83 : decode cX10_likeness 83 = .ok (.iinc 4 1, 3) := by decide +kernel
theorem dX10_likeness_86 : decode cX10_likeness 86 = .ok (.goto (-63), 3) := by decide +kernel
theorem dX10_likeness_89 : decode cX10_likeness 89 = .ok (.iload_n 3, 1) := by decide +kernel
theorem dX10_likeness_90 : decode cX10_likeness 90 = .ok (.ireturn, 1) := by decide +kernel
theorem dX10_addTold_0 : decode cX10_addTold 0 = .ok (.aload_n 0, 1) := by decide +kernel
theorem dX10_addTold_1 : decode cX10_addTold 1 = .ok (.invokevirtual 45, 3) := by decide +kernel
theorem dX10_addTold_4 : decode cX10_addTold 4 = .ok (.ifCond .eq 5, 3) := by decide +kernel
theorem dX10_addTold_7 : decode cX10_addTold 7 = .ok (.iconst (-1), 1) := by decide +kernel
theorem dX10_addTold_8 : decode cX10_addTold 8 = .ok (.ireturn, 1) := by decide +kernel
theorem dX10_addTold_9 : decode cX10_addTold 9 = .ok (.aload_n 0, 1) := by decide +kernel
theorem dX10_addTold_10 : decode cX10_addTold 10 = .ok (.getfield 15, 3) := by decide +kernel
theorem dX10_addTold_13 : decode cX10_addTold 13 = .ok (.aload_n 0, 1) := by decide +kernel
theorem dX10_addTold_14 : decode cX10_addTold 14 = .ok (.getfield 34, 3) := by decide +kernel
theorem dX10_addTold_17 : decode cX10_addTold 17 = .ok (.iload_n 1, 1) := by decide +kernel
theorem dX10_addTold_18 : decode cX10_addTold 18 = .ok (.iastore, 1) := by decide +kernel
theorem dX10_addTold_19 : decode cX10_addTold 19 = .ok (.aload_n 0, 1) := by decide +kernel
theorem dX10_addTold_20 : decode cX10_addTold 20 = .ok (.getfield 18, 3) := by decide +kernel
theorem dX10_addTold_23 : decode cX10_addTold 23 = .ok (.aload_n 0, 1) := by decide +kernel
theorem dX10_addTold_24 : decode cX10_addTold 24 = .ok (.getfield 34, 3) := by decide +kernel
theorem dX10_addTold_27 : decode cX10_addTold 27 = .ok (.iload_n 2, 1) := by decide +kernel
theorem dX10_addTold_28 : decode cX10_addTold 28 = .ok (.iastore, 1) := by decide +kernel
theorem dX10_addTold_29 : decode cX10_addTold 29 = .ok (.aload_n 0, 1) := by decide +kernel
theorem dX10_addTold_30 : decode cX10_addTold 30 = .ok (.getfield 21, 3) := by decide +kernel
theorem dX10_addTold_33 : decode cX10_addTold 33 = .ok (.aload_n 0, 1) := by decide +kernel
theorem dX10_addTold_34 : decode cX10_addTold 34 = .ok (.getfield 34, 3) := by decide +kernel
theorem dX10_addTold_37 : decode cX10_addTold 37 = .ok (.iload_n 3, 1) := by decide +kernel
theorem dX10_addTold_38 : decode cX10_addTold 38 = .ok (.iastore, 1) := by decide +kernel
theorem dX10_addTold_39 : decode cX10_addTold 39 = .ok (.aload_n 0, 1) := by decide +kernel
theorem dX10_addTold_40 : decode cX10_addTold 40 = .ok (.dup, 1) := by decide +kernel
theorem dX10_addTold_41 : decode cX10_addTold 41 = .ok (.getfield 34, 3) := by decide +kernel
theorem dX10_addTold_44 : decode cX10_addTold 44 = .ok (.iconst 1, 1) := by decide +kernel
theorem dX10_addTold_45 : decode cX10_addTold 45 = .ok (.iadd, 1) := by decide +kernel
theorem dX10_addTold_46 : decode cX10_addTold 46 = .ok (.putfield 34, 3) := by decide +kernel
theorem dX10_addTold_49 : decode cX10_addTold 49 = .ok (.aload_n 0, 1) := by decide +kernel
theorem dX10_addTold_50 : decode cX10_addTold 50 = .ok (.getfield 34, 3) := by decide +kernel
theorem dX10_addTold_53 : decode cX10_addTold 53 = .ok (.ireturn, 1) := by decide +kernel
theorem dX10_workshopOf_0 : decode cX10_workshopOf 0 = .ok (.aload_n 0, 1) := by decide +kernel
theorem dX10_workshopOf_1 : decode cX10_workshopOf 1 = .ok (.getfield 34, 3) := by decide +kernel
theorem dX10_workshopOf_4 : decode cX10_workshopOf 4 = .ok (.iconst 1, 1) := by decide +kernel
theorem dX10_workshopOf_5 : decode cX10_workshopOf 5 = .ok (.isub, 1) := by decide +kernel
theorem dX10_workshopOf_6 : decode cX10_workshopOf 6 = .ok (.istore_n 3, 1) := by decide +kernel
theorem dX10_workshopOf_7 : decode cX10_workshopOf 7 = .ok (.iload_n 3, 1) := by decide +kernel
theorem dX10_workshopOf_8 : decode cX10_workshopOf 8 = .ok (.ifCond .lt 36, 3) := by decide +kernel
theorem dX10_workshopOf_11 : decode cX10_workshopOf 11 = .ok (.aload_n 0, 1) := by decide +kernel
theorem dX10_workshopOf_12 : decode cX10_workshopOf 12 = .ok (.getfield 15, 3) := by decide +kernel
theorem dX10_workshopOf_15 : decode cX10_workshopOf 15 = .ok (.iload_n 3, 1) := by decide +kernel
theorem dX10_workshopOf_16 : decode cX10_workshopOf 16 = .ok (.iaload, 1) := by decide +kernel
theorem dX10_workshopOf_17 : decode cX10_workshopOf 17 = .ok (.iload_n 1, 1) := by decide +kernel
theorem dX10_workshopOf_18 : decode cX10_workshopOf 18 = .ok (.if_icmp .ne 20, 3) := by decide +kernel
theorem dX10_workshopOf_21 : decode cX10_workshopOf 21 = .ok (.aload_n 0, 1) := by decide +kernel
theorem dX10_workshopOf_22 : decode cX10_workshopOf 22 = .ok (.getfield 21, 3) := by decide +kernel
theorem dX10_workshopOf_25 : decode cX10_workshopOf 25 = .ok (.iload_n 3, 1) := by decide +kernel
theorem dX10_workshopOf_26 : decode cX10_workshopOf 26 = .ok (.iaload, 1) := by decide +kernel
theorem dX10_workshopOf_27 : decode cX10_workshopOf 27 = .ok (.iload_n 2, 1) := by decide +kernel
theorem dX10_workshopOf_28 : decode cX10_workshopOf 28 = .ok (.if_icmp .gt 10, 3) := by decide +kernel
theorem dX10_workshopOf_31 : decode cX10_workshopOf 31 = .ok (.aload_n 0, 1) := by decide +kernel
theorem dX10_workshopOf_32 : decode cX10_workshopOf 32 = .ok (.getfield 18, 3) := by decide +kernel
theorem dX10_workshopOf_35 : decode cX10_workshopOf 35 = .ok (.iload_n 3, 1) := by decide +kernel
theorem dX10_workshopOf_36 : decode cX10_workshopOf 36 = .ok (.iaload, 1) := by decide +kernel
theorem dX10_workshopOf_37 : decode cX10_workshopOf 37 = .ok (.ireturn, 1) := by decide +kernel
theorem dX10_workshopOf_38 : decode cX10_workshopOf 38 = .ok (.iinc 3 (-1), 3) := by decide +kernel
theorem dX10_workshopOf_41 : decode cX10_workshopOf 41 = .ok (.goto (-34), 3) := by decide +kernel
theorem dX10_workshopOf_44 : decode cX10_workshopOf 44 = .ok (.iconst (-1), 1) := by decide +kernel
theorem dX10_workshopOf_45 : decode cX10_workshopOf 45 = .ok (.ireturn, 1) := by decide +kernel
theorem dX10_workshopByMarks_0 : decode cX10_workshopByMarks 0 = .ok (.aload_n 0, 1) := by decide +kernel
theorem dX10_workshopByMarks_1 : decode cX10_workshopByMarks 1 = .ok (.iload_n 1, 1) := by decide +kernel
theorem dX10_workshopByMarks_2 : decode cX10_workshopByMarks 2 = .ok (.iload_n 2, 1) := by decide +kernel
theorem dX10_workshopByMarks_3 : decode cX10_workshopByMarks 3 = .ok (.invokevirtual 48, 3) := by decide +kernel
theorem dX10_workshopByMarks_6 : decode cX10_workshopByMarks 6 = .ok (.iconst (-1), 1) := by decide +kernel
theorem dX10_workshopByMarks_7 : decode cX10_workshopByMarks 7 = .ok (.istore_n 3, 1) := by decide +kernel
theorem dX10_workshopByMarks_8 : decode cX10_workshopByMarks 8 = .ok (.iconst 0, 1) := by decide +kernel
theorem dX10_workshopByMarks_9 : decode cX10_workshopByMarks 9 = .ok (.istore 4, 2) := by decide +kernel
theorem dX10_workshopByMarks_11 : decode cX10_workshopByMarks 11 = .ok (.iload 4, 2) := by decide +kernel
theorem dX10_workshopByMarks_13 : decode cX10_workshopByMarks 13 = .ok (.bipush 8, 2) := by decide +kernel
theorem dX10_workshopByMarks_15 : decode cX10_workshopByMarks 15 = .ok (.if_icmp .ge 37, 3) := by decide +kernel
theorem dX10_workshopByMarks_18 : decode cX10_workshopByMarks 18 = .ok (.aload_n 0, 1) := by decide +kernel
theorem dX10_workshopByMarks_19 : decode cX10_workshopByMarks 19 = .ok (.getfield 27, 3) := by decide +kernel
theorem dX10_workshopByMarks_22 : decode cX10_workshopByMarks 22 = .ok (.iload 4, 2) := by decide +kernel
theorem dX10_workshopByMarks_24 : decode cX10_workshopByMarks 24 = .ok (.iaload, 1) := by decide +kernel
theorem dX10_workshopByMarks_25 : decode cX10_workshopByMarks 25 = .ok (.ifCond .le 21, 3) := by decide +kernel
theorem dX10_workshopByMarks_28 : decode cX10_workshopByMarks 28 = .ok (.iload_n 3, 1) := by decide +kernel
theorem dX10_workshopByMarks_29 : decode cX10_workshopByMarks 29 = .ok (.iconst (-1), 1) := by decide +kernel
theorem dX10_workshopByMarks_30 : decode cX10_workshopByMarks 30 = .ok (.if_icmp .eq 13, 3) := by decide +kernel
theorem dX10_workshopByMarks_33 : decode cX10_workshopByMarks 33 = .ok (.aload_n 0, 1) := by decide +kernel
theorem dX10_workshopByMarks_34 : decode cX10_workshopByMarks 34 = .ok (.iload 4, 2) := by decide +kernel
theorem dX10_workshopByMarks_36 : decode cX10_workshopByMarks 36 = .ok (.iload_n 3, 1) := by decide +kernel
theorem dX10_workshopByMarks_37 : decode cX10_workshopByMarks 37 = .ok (.invokevirtual 52, 3) := by decide +kernel
theorem dX10_workshopByMarks_40 : decode cX10_workshopByMarks 40 = .ok (.ifCond .eq 6, 3) := by decide +kernel
theorem dX10_workshopByMarks_43 : decode cX10_workshopByMarks 43 = .ok (.iload 4, 2) := by decide +kernel
theorem dX10_workshopByMarks_45 : decode cX10_workshopByMarks 45 = .ok (.istore_n 3, 1) := by decide +kernel
theorem dX10_workshopByMarks_46 : decode cX10_workshopByMarks 46 = .ok (.iinc 4 1, 3) := by decide +kernel
theorem dX10_workshopByMarks_49 : decode cX10_workshopByMarks 49 = .ok (.goto (-38), 3) := by decide +kernel
theorem dX10_workshopByMarks_52 : decode cX10_workshopByMarks 52 = .ok (.iload_n 3, 1) := by decide +kernel
theorem dX10_workshopByMarks_53 : decode cX10_workshopByMarks 53 = .ok (.ireturn, 1) := by decide +kernel
theorem dX10_compareWithOthers_0 : decode cX10_compareWithOthers 0 = .ok (.aload_n 0, 1) := by decide +kernel
theorem dX10_compareWithOthers_1 : decode cX10_compareWithOthers 1 = .ok (.getfield 24, 3) := by decide +kernel
theorem dX10_compareWithOthers_4 : decode cX10_compareWithOthers 4 = .ok (.iconst 0, 1) := by decide +kernel
theorem dX10_compareWithOthers_5 : decode cX10_compareWithOthers 5 = .ok (.invokestatic 56, 3) := by decide +kernel
theorem dX10_compareWithOthers_8 : decode cX10_compareWithOthers 8 = .ok (.aload_n 0, 1) := by decide +kernel
theorem dX10_compareWithOthers_9 : decode cX10_compareWithOthers 9 = .ok (.getfield 27, 3) := by decide +kernel
theorem dX10_compareWithOthers_12 : decode cX10_compareWithOthers 12 = .ok (.iconst 0, 1) := by decide +kernel
theorem dX10_compareWithOthers_13 : decode cX10_compareWithOthers 13 = .ok (.invokestatic 56, 3) := by decide +kernel
theorem dX10_compareWithOthers_16 : decode cX10_compareWithOthers 16 = .ok (.iconst 0, 1) := by decide +kernel
theorem dX10_compareWithOthers_17 : decode cX10_compareWithOthers 17 = .ok (.istore_n 3, 1) := by decide +kernel
theorem dX10_compareWithOthers_18 : decode cX10_compareWithOthers 18 = .ok (.iload_n 3, 1) := by decide +kernel
theorem dX10_compareWithOthers_19 : decode cX10_compareWithOthers 19 = .ok (.aload_n 0, 1) := by decide +kernel
theorem dX10_compareWithOthers_20 : decode cX10_compareWithOthers 20 = .ok (.getfield 30, 3) := by decide +kernel
theorem dX10_compareWithOthers_23 : decode cX10_compareWithOthers 23 = .ok (.if_icmp .ge 65, 3) := by decide +kernel
theorem dX10_compareWithOthers_26 : decode cX10_compareWithOthers 26 = .ok (.iload_n 3, 1) := by decide +kernel
theorem dX10_compareWithOthers_27 : decode cX10_compareWithOthers 27 = .ok (.iload_n 1, 1) := by decide +kernel
theorem dX10_compareWithOthers_28 : decode cX10_compareWithOthers 28 = .ok (.if_icmp .ne 7, 3) := by decide +kernel
theorem dX10_compareWithOthers_31 : decode cX10_compareWithOthers 31 = .ok (.iconst (-1), 1) := by decide +kernel
theorem dX10_compareWithOthers_32 : decode cX10_compareWithOthers 32 = .ok (.goto 9, 3) := by decide +kernel
theorem dX10_compareWithOthers_35 : decode cX10_compareWithOthers 35 = .ok (.aload_n 0, 1) := by decide +kernel
theorem dX10_compareWithOthers_36 : decode cX10_compareWithOthers 36 = .ok (.iload_n 3, 1) := by decide +kernel
theorem dX10_compareWithOthers_37 : decode cX10_compareWithOthers 37 = .ok (.iload_n 2, 1) := by decide +kernel
theorem dX10_compareWithOthers_38 : decode cX10_compareWithOthers 38 = .ok (.invokevirtual 62, 3) := by decide +kernel
theorem dX10_compareWithOthers_41 : decode cX10_compareWithOthers 41 = .ok (.istore 4, 2) := by decide +kernel
theorem dX10_compareWithOthers_43 : decode cX10_compareWithOthers 43 = .ok (.iload 4, 2) := by decide +kernel
theorem dX10_compareWithOthers_45 : decode cX10_compareWithOthers 45 = .ok (.ifCond .lt 37, 3) := by decide +kernel
theorem dX10_compareWithOthers_48 : decode cX10_compareWithOthers 48 = .ok (.iload 4, 2) := by decide +kernel
theorem dX10_compareWithOthers_50 : decode cX10_compareWithOthers 50 = .ok (.bipush 8, 2) := by decide +kernel
theorem dX10_compareWithOthers_52 : decode cX10_compareWithOthers 52 = .ok (.if_icmp .ge 30, 3) := by decide +kernel
theorem dX10_compareWithOthers_55 : decode cX10_compareWithOthers 55 = .ok (.aload_n 0, 1) := by decide +kernel
theorem dX10_compareWithOthers_56 : decode cX10_compareWithOthers 56 = .ok (.getfield 24, 3) := by decide +kernel
theorem dX10_compareWithOthers_59 : decode cX10_compareWithOthers 59 = .ok (.iload 4, 2) := by decide +kernel
theorem dX10_compareWithOthers_61 : decode cX10_compareWithOthers 61 = .ok (.dup2, 1) := by decide +kernel
theorem dX10_compareWithOthers_62 : decode cX10_compareWithOthers 62 = .ok (.iaload, 1) := by decide +kernel
theorem dX10_compareWithOthers_63 : decode cX10_compareWithOthers 63 = .ok (.aload_n 0, 1) := by decide +kernel
theorem dX10_compareWithOthers_64 : decode cX10_compareWithOthers 64 = .ok (.iload_n 1, 1) := by decide +kernel
theorem dX10_compareWithOthers_65 : decode cX10_compareWithOthers 65 = .ok (.iload_n 3, 1) := by decide +kernel
theorem dX10_compareWithOthers_66 : decode cX10_compareWithOthers 66 = .ok (.invokevirtual 66, 3) := by decide +kernel
theorem dX10_compareWithOthers_69 : decode cX10_compareWithOthers 69 = .ok (.iadd, 1) := by decide +kernel
theorem dX10_compareWithOthers_70 : decode cX10_compareWithOthers 70 = .ok (.iastore, 1) := by decide +kernel
theorem dX10_compareWithOthers_71 : decode cX10_compareWithOthers 71 = .ok (.aload_n 0, 1) := by decide +kernel
theorem dX10_compareWithOthers_72 : decode cX10_compareWithOthers 72 = .ok (.getfield 27, 3) := by decide +kernel
theorem dX10_compareWithOthers_75 : decode cX10_compareWithOthers 75 = .ok (.iload 4, 2) := by decide +kernel
theorem dX10_compareWithOthers_77 : decode cX10_compareWithOthers 77 = .ok (.dup2, 1) := by decide +kernel
theorem dX10_compareWithOthers_78 : decode cX10_compareWithOthers 78 = .ok (.iaload, 1) := by decide +kernel
theorem dX10_compareWithOthers_79 : decode cX10_compareWithOthers 79 = .ok (.iconst 1, 1) := by decide +kernel
theorem dX10_compareWithOthers_80 : decode cX10_compareWithOthers 80 = .ok (.iadd, 1) := by decide +kernel
theorem dX10_compareWithOthers_81 : decode cX10_compareWithOthers 81 = .ok (.iastore, 1) := by decide +kernel
theorem dX10_compareWithOthers_82 : decode cX10_compareWithOthers 82 = .ok (.iinc 3 1, 3) := by decide +kernel
theorem dX10_compareWithOthers_85 : decode cX10_compareWithOthers 85 = .ok (.goto (-67), 3) := by decide +kernel
theorem dX10_compareWithOthers_88 : decode cX10_compareWithOthers 88 = .ok (.return_, 1) := by decide +kernel
theorem dX10_isLiker_0 : decode cX10_isLiker 0 = .ok (.aload_n 0, 1) := by decide +kernel
theorem dX10_isLiker_1 : decode cX10_isLiker 1 = .ok (.getfield 24, 3) := by decide +kernel
theorem dX10_isLiker_4 : decode cX10_isLiker 4 = .ok (.iload_n 1, 1) := by decide +kernel
theorem dX10_isLiker_5 : decode cX10_isLiker 5 = .ok (.iaload, 1) := by decide +kernel
theorem dX10_isLiker_6 : decode cX10_isLiker 6 = .ok (.aload_n 0, 1) := by decide +kernel
theorem dX10_isLiker_7 : decode cX10_isLiker 7 = .ok (.getfield 27, 3) := by decide +kernel
theorem dX10_isLiker_10 : decode cX10_isLiker 10 = .ok (.iload_n 2, 1) := by decide +kernel
theorem dX10_isLiker_11 : decode cX10_isLiker 11 = .ok (.iaload, 1) := by decide +kernel
theorem dX10_isLiker_12 : decode cX10_isLiker 12 = .ok (.imul, 1) := by decide +kernel
theorem dX10_isLiker_13 : decode cX10_isLiker 13 = .ok (.aload_n 0, 1) := by decide +kernel
theorem dX10_isLiker_14 : decode cX10_isLiker 14 = .ok (.getfield 24, 3) := by decide +kernel
theorem dX10_isLiker_17 : decode cX10_isLiker 17 = .ok (.iload_n 2, 1) := by decide +kernel
theorem dX10_isLiker_18 : decode cX10_isLiker 18 = .ok (.iaload, 1) := by decide +kernel
theorem dX10_isLiker_19 : decode cX10_isLiker 19 = .ok (.aload_n 0, 1) := by decide +kernel
theorem dX10_isLiker_20 : decode cX10_isLiker 20 = .ok (.getfield 27, 3) := by decide +kernel
theorem dX10_isLiker_23 : decode cX10_isLiker 23 = .ok (.iload_n 1, 1) := by decide +kernel
theorem dX10_isLiker_24 : decode cX10_isLiker 24 = .ok (.iaload, 1) := by decide +kernel
theorem dX10_isLiker_25 : decode cX10_isLiker 25 = .ok (.imul, 1) := by decide +kernel
theorem dX10_isLiker_26 : decode cX10_isLiker 26 = .ok (.if_icmp .le 7, 3) := by decide +kernel
theorem dX10_isLiker_29 : decode cX10_isLiker 29 = .ok (.iconst 1, 1) := by decide +kernel
theorem dX10_isLiker_30 : decode cX10_isLiker 30 = .ok (.goto 4, 3) := by decide +kernel
theorem dX10_isLiker_33 : decode cX10_isLiker 33 = .ok (.iconst 0, 1) := by decide +kernel
theorem dX10_isLiker_34 : decode cX10_isLiker 34 = .ok (.ireturn, 1) := by decide +kernel
end
section
theorem dX11_init_0 : decode cX11_init 0 = .ok (.aload_n 0, 1) := by decide +kernel
theorem dX11_init_1 : decode cX11_init 1 = .ok (.invokespecial 3, 3) := by decide +kernel
theorem dX11_init_4 : decode cX11_init 4 = .ok (.new 9, 3) := by decide +kernel
theorem dX11_init_7 : decode cX11_init 7 = .ok (.dup, 1) := by decide +kernel
theorem dX11_init_8 : decode cX11_init 8 = .ok (.invokespecial 11, 3) := by decide +kernel
theorem dX11_init_11 : decode cX11_init 11 = .ok (.astore_n 1, 1) := by decide +kernel
theorem dX11_init_12 : decode cX11_init 12 = .ok (.new 12, 3) := by decide +kernel
theorem dX11_init_15 : decode cX11_init 15 = .ok (.dup, 1) := by decide +kernel
theorem dX11_init_16 : decode cX11_init 16 = .ok (.aload_n 1, 1) := by decide +kernel
theorem dX11_init_17 : decode cX11_init 17 = .ok (.invokespecial 14, 3) := by decide +kernel
theorem dX11_init_20 : decode cX11_init 20 = .ok (.astore_n 2, 1) := by decide +kernel
theorem dX11_init_21 : decode cX11_init 21 = .ok (.new 17, 3) := by decide +kernel
theorem dX11_init_24 : decode cX11_init 24 = .ok (.dup, 1) := by decide +kernel
theorem dX11_init_25 : decode cX11_init 25 = .ok (.aload_n 1, 1) := by decide +kernel
theorem dX11_init_26 : decode cX11_init 26 = .ok (.invokespecial 19, 3) := by decide +kernel
theorem dX11_init_29 : decode cX11_init 29 = .ok (.astore_n 3, 1) := by decide +kernel
theorem dX11_init_30 : decode cX11_init 30 = .ok (.new 20, 3) := by decide +kernel
theorem dX11_init_33 : decode cX11_init 33 = .ok (.dup, 1) := by decide +kernel
theorem dX11_init_34 : decode cX11_init 34 = .ok (.invokespecial 22, 3) := by decide +kernel
theorem dX11_init_37 : decode cX11_init 37 = .ok (.astore 4, 2) := by decide +kernel
theorem dX11_init_39 : decode cX11_init 39 = .ok (.new 23, 3) := by decide +kernel
theorem dX11_init_42 : decode cX11_init 42 = .ok (.dup, 1) := by decide +kernel
theorem dX11_init_43 : decode cX11_init 43 = .ok (.aload 4, 2) := by decide +kernel
theorem dX11_init_45 : decode cX11_init 45 = .ok (.invokespecial 25, 3) := by decide +kernel
theorem dX11_init_48 : decode cX11_init 48 = .ok (.astore 5, 2) := by decide +kernel
theorem dX11_init_50 : decode cX11_init 50 = .ok (.new 28, 3) := by decide +kernel
theorem dX11_init_53 : decode cX11_init 53 = .ok (.dup, 1) := by decide +kernel
theorem dX11_init_54 : decode cX11_init 54 = .ok (.invokespecial 30, 3) := by decide +kernel
theorem dX11_init_57 : decode cX11_init 57 = .ok (.astore 6, 2) := by decide +kernel
theorem dX11_init_59 : decode cX11_init 59 = .ok (.aload_n 0, 1) := by decide +kernel
theorem dX11_init_60 : decode cX11_init 60 = .ok (.aload_n 1, 1) := by decide +kernel
theorem dX11_init_61 : decode cX11_init 61 = .ok (.putfield 31, 3) := by decide +kernel
theorem dX11_init_64 : decode cX11_init 64 = .ok (.aload_n 0, 1) := by decide +kernel
theorem dX11_init_65 : decode cX11_init 65 = .ok (.aload_n 2, 1) := by decide +kernel
theorem dX11_init_66 : decode cX11_init 66 = .ok (.putfield 35, 3) := by decide +kernel
theorem dX11_init_69 : decode cX11_init 69 = .ok (.aload_n 0, 1) := by decide +kernel
theorem dX11_init_70 : decode cX11_init 70 = .ok (.aload_n 3, 1) := by decide +kernel
theorem dX11_init_71 : decode cX11_init 71 = .ok (.putfield 39, 3) := by decide +kernel
theorem dX11_init_74 : decode cX11_init 74 = .ok (.aload_n 0, 1) := by decide +kernel
theorem dX11_init_75 : decode cX11_init 75 = .ok (.aload 4, 2) := by decide +kernel
theorem dX11_init_77 : decode cX11_init 77 = .ok (.putfield 43, 3) := by decide +kernel
theorem dX11_init_80 : decode cX11_init 80 = .ok (.aload_n 0, 1) := by decide +kernel
theorem dX11_init_81 : decode cX11_init 81 = .ok (.new 47, 3) := by decide +kernel
theorem dX11_init_84 : decode cX11_init 84 = .ok (.dup, 1) := by decide +kernel
theorem dX11_init_85 : decode cX11_init 85 = .ok (.aload 4, 2) := by decide +kernel
theorem dX11_init_87 : decode cX11_init 87 = .ok (.invokespecial 49, 3) := by decide +kernel
theorem dX11_init_90 : decode cX11_init 90 = .ok (.putfield 50, 3) := by decide +kernel
theorem dX11_init_93 : decode cX11_init 93 = .ok (.aload_n 0, 1) := by decide +kernel
theorem dX11_init_94 : decode cX11_init 94 = .ok (.aload 5, 2) := by decide +kernel
theorem dX11_init_96 : decode cX11_init 96 = .ok (.putfield 54, 3) := by decide +kernel
theorem dX11_init_99 : decode cX11_init 99 = .ok (.aload_n 0, 1) := by decide +kernel
theorem dX11_init_100 : decode cX11_init 100 = .ok (.aload 6, 2) := by decide +kernel
theorem dX11_init_102 : decode cX11_init 102 = .ok (.putfield 58, 3) := by decide +kernel
theorem dX11_init_105 : decode cX11_init 105 = .ok (.aload_n 0, 1) := by decide +kernel
theorem dX11_init_106 : decode cX11_init 106 = .ok (.new 62, 3) := by decide +kernel
theorem dX11_init_109 : decode cX11_init 109 = .ok (.dup, 1) := by decide +kernel
theorem dX11_init_110 : decode cX11_init 110 = .ok (.aload 6, 2) := by decide +kernel
theorem dX11_init_112 : decode cX11_init 112 = .ok (.invokespecial 64, 3) := by decide +kernel
theorem dX11_init_115 : decode cX11_init 115 = .ok (.putfield 67, 3) := by decide +kernel
theorem dX11_init_118 : decode cX11_init 118 = .ok (.aload_n 0, 1) := by decide +kernel
theorem dX11_init_119 : decode cX11_init 119 = .ok (.new 71, 3) := by decide +kernel
theorem dX11_init_122 : decode cX11_init 122 = .ok (.dup, 1) := by decide +kernel
theorem dX11_init_123 : decode cX11_init 123 = .ok (.aload_n 2, 1) := by decide +kernel
theorem dX11_init_124 : decode cX11_init 124 = .ok (.aload_n 3, 1) := by decide +kernel
theorem dX11_init_125 : decode cX11_init 125 = .ok (.aload 5, 2) := by decide +kernel
theorem dX11_init_127 : decode cX11_init 127 = .ok (.invokespecial 73, 3) := by decide +kernel
theorem dX11_init_130 : decode cX11_init 130 = .ok (.putfield 76, 3) := by decide +kernel
theorem dX11_init_133 : decode cX11_init 133 = .ok (.aload_n 0, 1) := by decide +kernel
theorem dX11_init_134 : decode cX11_init 134 = .ok (.new 80, 3) := by decide +kernel
theorem dX11_init_137 : decode cX11_init 137 = .ok (.dup, 1) := by decide +kernel
theorem dX11_init_138 : decode cX11_init 138 = .ok (.invokespecial 82, 3) := by decide +kernel
theorem dX11_init_141 : decode cX11_init 141 = .ok (.putfield 83, 3) := by decide +kernel
theorem dX11_init_144 : decode cX11_init 144 = .ok (.aload_n 0, 1) := by decide +kernel
theorem dX11_init_145 : decode cX11_init 145 = .ok (.new 87, 3) := by decide +kernel
theorem dX11_init_148 : decode cX11_init 148 = .ok (.dup, 1) := by decide +kernel
theorem dX11_init_149 : decode cX11_init 149 = .ok (.invokespecial 89, 3) := by decide +kernel
theorem dX11_init_152 : decode cX11_init 152 = .ok (.putfield 90, 3) := by decide +kernel
theorem dX11_init_155 : decode cX11_init 155 = .ok (.aload_n 0, 1) := by decide +kernel
theorem dX11_init_156 : decode cX11_init 156 = .ok (.new 87, 3) := by decide +kernel
theorem dX11_init_159 : decode cX11_init 159 = .ok (.dup, 1) := by decide +kernel
theorem dX11_init_160 : decode cX11_init 160 = .ok (.invokespecial 89, 3) := by decide +kernel
theorem dX11_init_163 : decode cX11_init 163 = .ok (.putfield 94, 3) := by decide +kernel
theorem dX11_init_166 : decode cX11_init 166 = .ok (.aload_n 0, 1) := by decide +kernel
theorem dX11_init_167 : decode cX11_init 167 = .ok (.iconst (-1), 1) := by decide +kernel
theorem dX11_init_168 : decode cX11_init 168 = .ok (.putfield 97, 3) := by decide +kernel
theorem dX11_init_171 : decode cX11_init 171 = .ok (.aload_n 0, 1) := by decide +kernel
theorem dX11_init_172 : decode cX11_init 172 = .ok (.iconst 0, 1) := by decide +kernel
theorem dX11_init_173 : decode cX11_init 173 = .ok (.putfield 101, 3) := by decide +kernel
theorem dX11_init_176 : decode cX11_init 176 = .ok (.return_, 1) := by decide +kernel
theorem dX11_size_0 : decode cX11_size 0 = .ok (.iload_n 1, 1) := by decide +kernel
theorem dX11_size_1 : decode cX11_size 1 = .ok (.iconst 2, 1) := by decide +kernel
theorem dX11_size_2 : decode cX11_size 2 = .ok (.if_icmp .lt 20, 3) := by decide +kernel
theorem dX11_size_5 : decode cX11_size 5 = .ok (.iload_n 1, 1) := by decide +kernel
theorem dX11_size_6 : decode cX11_size 6 = .ok (.bipush 12, 2) := by decide +kernel
theorem dX11_size_8 : decode cX11_size 8 = .ok (.if_icmp .gt 14, 3) := by decide +kernel
theorem dX11_size_11 : decode cX11_size 11 = .ok (.iload_n 2, 1) := by decide +kernel
theorem dX11_size_12 : decode cX11_size 12 = .ok (.iconst 2, 1) := by decide +kernel
theorem dX11_size_13 : decode cX11_size 13 = .ok (.if_icmp .lt 9, 3) := by decide +kernel
theorem dX11_size_16 : decode cX11_size 16 = .ok (.iload_n 2, 1) := by decide +kernel
theorem dX11_size_17 : decode cX11_size 17 = .ok (.bipush 12, 2) := by decide +kernel
theorem dX11_size_19 : decode cX11_size 19 = .ok (.if_icmp .le 9, 3) := by decide +kernel
theorem dX11_size_22 : decode cX11_size 22 = .ok (.aload_n 0, 1) := by decide +kernel
theorem dX11_size_23 : decode cX11_size 23 = .ok (.iconst (-1), 1) := by decide +kernel
theorem dX11_size_24 : decode cX11_size 24 = .ok (.invokevirtual 104, 3) := by decide +kernel
theorem dX11_size_27 : decode cX11_size 27 = .ok (.ireturn, 1) := by decide +kernel
theorem dX11_size_28 : decode cX11_size 28 = .ok (.aload_n 0, 1) := by decide +kernel
theorem dX11_size_29 : decode cX11_size 29 = .ok (.getfield 31, 3) := by decide +kernel
theorem dX11_size_32 : decode cX11_size 32 = .ok (.iload_n 1, 1) := by decide +kernel
theorem dX11_size_33 : decode cX11_size 33 = .ok (.iload_n 2, 1) := by decide +kernel
theorem dX11_size_34 : decode cX11_size 34 = .ok (.invokevirtual 108, 3) := by decide +kernel
theorem dX11_size_37 : decode cX11_size 37 = .ok (.aload_n 0, 1) := by decide +kernel
theorem dX11_size_38 : decode cX11_size 38 = .ok (.iconst 0, 1) := by decide +kernel
theorem dX11_size_39 : decode cX11_size 39 = .ok (.invokevirtual 104, 3) := by decide +kernel
theorem dX11_size_42 : decode cX11_size 42 = .ok (.ireturn, 1) := by decide +kernel
theorem dX11_draw_0 : decode cX11_draw 0 = .ok (.iload 5, 2) := by decide +kernel
theorem dX11_draw_2 : decode cX11_draw 2 = .ok (.invokestatic 112, 3) := by decide +kernel
theorem dX11_draw_5 : decode cX11_draw 5 = .ok (.ifCond .eq 14, 3) := by decide +kernel
theorem dX11_draw_8 : decode cX11_draw 8 = .ok (.iload_n 1, 1) := by decide +kernel
theorem dX11_draw_9 : decode cX11_draw 9 = .ok (.iload_n 3, 1) := by decide +kernel
theorem dX11_draw_10 : decode cX11_draw 10 = .ok (.if_icmp .gt 9, 3) := by decide +kernel
theorem dX11_draw_13 : decode cX11_draw 13 = .ok (.iload_n 2, 1) := by decide +kernel
theorem dX11_draw_14 : decode cX11_draw 14 = .ok (.iload 4, 2) := by decide +kernel
theorem dX11_draw_16 : decode cX11_draw 16 = .ok (.if_icmp .le 9, 3) := by decide +kernel
theorem dX11_draw_19 : decode cX11_draw 19 = .ok (.aload_n 0, 1) := by decide +kernel
theorem dX11_draw_20 : decode cX11_draw 20 = .ok (.iconst (-1), 1) := by decide +kernel
theorem dX11_draw_21 : decode cX11_draw 21 = .ok (.invokevirtual 104, 3) := by decide +kernel
theorem dX11_draw_24 : decode cX11_draw 24 = .ok (.ireturn, 1) := by decide +kernel
theorem dX11_draw_25 : decode cX11_draw 25 = .ok (.aload_n 0, 1) := by decide +kernel
theorem dX11_draw_26 : decode cX11_draw 26 = .ok (.getfield 31, 3) := by decide +kernel
theorem dX11_draw_29 : decode cX11_draw 29 = .ok (.iload_n 1, 1) := by decide +kernel
theorem dX11_draw_30 : decode cX11_draw 30 = .ok (.iload_n 2, 1) := by decide +kernel
theorem dX11_draw_31 : decode cX11_draw 31 = .ok (.invokevirtual 116, 3) := by decide +kernel
theorem dX11_draw_34 : decode cX11_draw 34 = .ok (.ifCond .eq 16, 3) := by decide +kernel
theorem dX11_draw_37 : decode cX11_draw 37 = .ok (.aload_n 0, 1) := by decide +kernel
theorem dX11_draw_38 : decode cX11_draw 38 = .ok (.getfield 31, 3) := by decide +kernel
theorem dX11_draw_41 : decode cX11_draw 41 = .ok (.iload_n 3, 1) := by decide +kernel
theorem dX11_draw_42 : decode cX11_draw 42 = .ok (.iload 4, 2) := by decide +kernel
theorem dX11_draw_44 : decode cX11_draw 44 = .ok (.invokevirtual 116, 3) := by decide +kernel
theorem dX11_draw_47 : decode cX11_draw 47 = .ok (.ifCond .ne 10, 3) := by decide +kernel
theorem dX11_draw_50 : decode cX11_draw 50 = .ok (.aload_n 0, 1) := by decide +kernel
theorem dX11_draw_51 : decode cX11_draw 51 = .ok (.bipush (-2), 2) := by decide +kernel
theorem dX11_draw_53 : decode cX11_draw 53 = .ok (.invokevirtual 104, 3) := by decide +kernel
theorem dX11_draw_56 : decode cX11_draw 56 = .ok (.ireturn, 1) := by decide +kernel
theorem dX11_draw_57 : decode cX11_draw 57 = .ok (.aload_n 0, 1) := by decide +kernel
theorem dX11_draw_58 : decode cX11_draw 58 = .ok (.aload_n 0, 1) := by decide +kernel
theorem dX11_draw_59 : decode cX11_draw 59 = .ok (.getfield 31, 3) := by decide +kernel
theorem dX11_draw_62 : decode cX11_draw 62 = .ok (.iload_n 1, 1) := by decide +kernel
theorem dX11_draw_63 : decode cX11_draw 63 = .ok (.iload_n 2, 1) := by decide +kernel
theorem dX11_draw_64 : decode cX11_draw 64 = .ok (.iload_n 3, 1) := by decide +kernel
theorem dX11_draw_65 : decode cX11_draw 65 = .ok (.iload 4, 2) := by decide +kernel
theorem dX11_draw_67 : decode cX11_draw 67 = .ok (.iload 5, 2) := by decide +kernel
theorem dX11_draw_69 : decode cX11_draw 69 = .ok (.invokevirtual 120, 3) := by decide +kernel
theorem dX11_draw_72 : decode cX11_draw 72 = .ok (.invokevirtual 104, 3) := by decide +kernel
theorem dX11_draw_75 : decode cX11_draw 75 = .ok (.ireturn, 1) := by decide +kernel
theorem dX11_cell_0 : decode cX11_cell 0 = .ok (.aload_n 0, 1) := by decide +kernel
theorem dX11_cell_1 : decode cX11_cell 1 = .ok (.getfield 31, 3) := by decide +kernel
theorem dX11_cell_4 : decode cX11_cell 4 = .ok (.iload_n 1, 1) := by decide +kernel
theorem dX11_cell_5 : decode cX11_cell 5 = .ok (.iload_n 2, 1) := by decide +kernel
theorem dX11_cell_6 : decode cX11_cell 6 = .ok (.invokevirtual 116, 3) := by decide +kernel
theorem dX11_cell_9 : decode cX11_cell 9 = .ok (.ifCond .ne 5, 3) := by decide +kernel
theorem dX11_cell_12 : decode cX11_cell 12 = .ok (.iconst (-1), 1) := by decide +kernel
theorem dX11_cell_13 : decode cX11_cell 13 = .ok (.ireturn, 1) := by decide +kernel
theorem dX11_cell_14 : decode cX11_cell 14 = .ok (.iload_n 3, 1) := by decide +kernel
theorem dX11_cell_15 : decode cX11_cell 15 = .ok (.lookupswitch 52 #[(0, 25), (1, 35)], 25) := by decide +kernel
theorem dX11_cell_40 : decode cX11_cell 40 = .ok (.aload_n 0, 1) := by decide +kernel
theorem dX11_cell_41 : decode cX11_cell 41 = .ok (.getfield 31, 3) := by decide +kernel
theorem dX11_cell_44 : decode cX11_cell 44 = .ok (.iload_n 1, 1) := by decide +kernel
theorem dX11_cell_45 : decode cX11_cell 45 = .ok (.iload_n 2, 1) := by decide +kernel
theorem dX11_cell_46 : decode cX11_cell 46 = .ok (.invokevirtual 124, 3) := by decide +kernel
theorem dX11_cell_49 : decode cX11_cell 49 = .ok (.ireturn, 1) := by decide +kernel
theorem dX11_cell_50 : decode cX11_cell 50 = .ok (.aload_n 0, 1) := by decide +kernel
theorem dX11_cell_51 : decode cX11_cell 51 = .ok (.getfield 35, 3) := by decide +kernel
theorem dX11_cell_54 : decode cX11_cell 54 = .ok (.invokevirtual 128, 3) := by decide +kernel
theorem dX11_cell_57 : decode cX11_cell 57 = .ok (.aload_n 0, 1) := by decide +kernel
theorem dX11_cell_58 : decode cX11_cell 58 = .ok (.getfield 35, 3) := by decide +kernel
theorem dX11_cell_61 : decode cX11_cell 61 = .ok (.iload_n 1, 1) := by decide +kernel
theorem dX11_cell_62 : decode cX11_cell 62 = .ok (.iload_n 2, 1) := by decide +kernel
theorem dX11_cell_63 : decode cX11_cell 63 = .ok (.invokevirtual 131, 3) := by decide +kernel
theorem dX11_cell_66 : decode cX11_cell 66 = .ok (.ireturn, 1) := by decide +kernel
theorem dX11_cell_67 : decode cX11_cell 67 = .ok (.iconst (-1), 1) := by decide +kernel
theorem dX11_cell_68 : decode cX11_cell 68 = .ok (.ireturn, 1) := by decide +kernel
theorem dX11_repair_0 : decode cX11_repair 0 = .ok (.aload_n 0, 1) := by decide +kernel
theorem dX11_repair_1 : decode cX11_repair 1 = .ok (.getfield 31, 3) := by decide +kernel
theorem dX11_repair_4 : decode cX11_repair 4 = .ok (.iload_n 1, 1) := by decide +kernel
theorem dX11_repair_5 : decode cX11_repair 5 = .ok (.iload_n 2, 1) := by decide +kernel
theorem dX11_repair_6 : decode cX11_repair 6 = .ok (.invokevirtual 116, 3) := by decide +kernel
theorem dX11_repair_9 : decode cX11_repair 9 = .ok (.ifCond .ne 10, 3) := by decide +kernel
theorem dX11_repair_12 : decode cX11_repair 12 = .ok (.aload_n 0, 1) := by decide +kernel
theorem dX11_repair_13 : decode cX11_repair 13 = .ok (.bipush (-2), 2) := by decide +kernel
theorem dX11_repair_15 : decode cX11_repair 15 = .ok (.invokevirtual 104, 3) := by decide +kernel
theorem dX11_repair_18 : decode cX11_repair 18 = .ok (.ireturn, 1) := by decide +kernel
theorem dX11_repair_19 : decode cX11_repair 19 = .ok (.aload_n 0, 1) := by decide +kernel
theorem dX11_repair_20 : decode cX11_repair 20 = .ok (.getfield 35, 3) := by decide +kernel
theorem dX11_repair_23 : decode cX11_repair 23 = .ok (.invokevirtual 128, 3) := by decide +kernel
theorem dX11_repair_26 : decode cX11_repair 26 = .ok (.aload_n 0, 1) := by decide +kernel
theorem dX11_repair_27 : decode cX11_repair 27 = .ok (.getfield 35, 3) := by decide +kernel
theorem dX11_repair_30 : decode cX11_repair 30 = .ok (.iload_n 1, 1) := by decide +kernel
theorem dX11_repair_31 : decode cX11_repair 31 = .ok (.iload_n 2, 1) := by decide +kernel
theorem dX11_repair_32 : decode cX11_repair 32 = .ok (.invokevirtual 134, 3) := by decide +kernel
theorem dX11_repair_35 : decode cX11_repair 35 = .ok (.ifCond .ne 10, 3) := by decide +kernel
theorem dX11_repair_38 : decode cX11_repair 38 = .ok (.aload_n 0, 1) := by decide +kernel
theorem dX11_repair_39 : decode cX11_repair 39 = .ok (.bipush (-3), 2) := by decide +kernel
theorem dX11_repair_41 : decode cX11_repair 41 = .ok (.invokevirtual 104, 3) := by decide +kernel
theorem dX11_repair_44 : decode cX11_repair 44 = .ok (.ireturn, 1) := by decide +kernel
theorem dX11_repair_45 : decode cX11_repair 45 = .ok (.aload_n 0, 1) := by decide +kernel
theorem dX11_repair_46 : decode cX11_repair 46 = .ok (.aload_n 0, 1) := by decide +kernel
theorem dX11_repair_47 : decode cX11_repair 47 = .ok (.getfield 35, 3) := by decide +kernel
theorem dX11_repair_50 : decode cX11_repair 50 = .ok (.iload_n 1, 1) := by decide +kernel
theorem dX11_repair_51 : decode cX11_repair 51 = .ok (.iload_n 2, 1) := by decide +kernel
theorem dX11_repair_52 : decode cX11_repair 52 = .ok (.invokevirtual 137, 3) := by decide +kernel
theorem dX11_repair_55 : decode cX11_repair 55 = .ok (.invokevirtual 104, 3) := by decide +kernel
theorem dX11_repair_58 : decode cX11_repair 58 = .ok (.ireturn, 1) := by decide +kernel
theorem dX11_wall_0 : decode cX11_wall 0 = .ok (.aload_n 0, 1) := by decide +kernel
theorem dX11_wall_1 : decode cX11_wall 1 = .ok (.getfield 35, 3) := by decide +kernel
theorem dX11_wall_4 : decode cX11_wall 4 = .ok (.invokevirtual 128, 3) := by decide +kernel
theorem dX11_wall_7 : decode cX11_wall 7 = .ok (.iload_n 1, 1) := by decide +kernel
theorem dX11_wall_8 : decode cX11_wall 8 = .ok (.iconst (-1), 1) := by decide +kernel
theorem dX11_wall_9 : decode cX11_wall 9 = .ok (.if_icmp .ne 16, 3) := by decide +kernel
theorem dX11_wall_12 : decode cX11_wall 12 = .ok (.iload_n 2, 1) := by decide +kernel
theorem dX11_wall_13 : decode cX11_wall 13 = .ok (.iconst (-1), 1) := by decide +kernel
theorem dX11_wall_14 : decode cX11_wall 14 = .ok (.if_icmp .ne 11, 3) := by decide +kernel
theorem dX11_wall_17 : decode cX11_wall 17 = .ok (.aload_n 0, 1) := by decide +kernel
theorem dX11_wall_18 : decode cX11_wall 18 = .ok (.getfield 35, 3) := by decide +kernel
theorem dX11_wall_21 : decode cX11_wall 21 = .ok (.invokevirtual 140, 3) := by decide +kernel
theorem dX11_wall_24 : decode cX11_wall 24 = .ok (.ireturn, 1) := by decide +kernel
theorem dX11_wall_25 : decode cX11_wall 25 = .ok (.aload_n 0, 1) := by decide +kernel
theorem dX11_wall_26 : decode cX11_wall 26 = .ok (.getfield 31, 3) := by decide +kernel
theorem dX11_wall_29 : decode cX11_wall 29 = .ok (.iload_n 1, 1) := by decide +kernel
theorem dX11_wall_30 : decode cX11_wall 30 = .ok (.iload_n 2, 1) := by decide +kernel
theorem dX11_wall_31 : decode cX11_wall 31 = .ok (.invokevirtual 116, 3) := by decide +kernel
theorem dX11_wall_34 : decode cX11_wall 34 = .ok (.ifCond .eq 15, 3) := by decide +kernel
theorem dX11_wall_37 : decode cX11_wall 37 = .ok (.aload_n 0, 1) := by decide +kernel
theorem dX11_wall_38 : decode cX11_wall 38 = .ok (.getfield 35, 3) := by decide +kernel
theorem dX11_wall_41 : decode cX11_wall 41 = .ok (.iload_n 1, 1) := by decide +kernel
theorem dX11_wall_42 : decode cX11_wall 42 = .ok (.iload_n 2, 1) := by decide +kernel
theorem dX11_wall_43 : decode cX11_wall 43 = .ok (.invokevirtual 144, 3) := by decide +kernel
theorem dX11_wall_46 : decode cX11_wall 46 = .ok (.goto 4, 3) := by decide +kernel
theorem dX11_wall_49 : decode cX11_wall 49 = .ok (.iconst (-1), 1) := by decide +kernel
theorem dX11_wall_50 : decode cX11_wall 50 = .ok (.ireturn, 1) := by decide +kernel
theorem dX11_many_0 : decode cX11_many 0 = .ok (.aload_n 0, 1) := by decide +kernel
theorem dX11_many_1 : decode cX11_many 1 = .ok (.getfield 35, 3) := by decide +kernel
theorem dX11_many_4 : decode cX11_many 4 = .ok (.invokevirtual 128, 3) := by decide +kernel
theorem dX11_many_7 : decode cX11_many 7 = .ok (.iload_n 1, 1) := by decide +kernel
theorem dX11_many_8 : decode cX11_many 8 = .ok (.tableswitch 121 0 6 #[44, 62, 71, 80, 90, 100, 109], 44) := by decide +kernel
theorem dX11_many_52 : decode cX11_many 52 = .ok (.aload_n 0, 1) := by decide +kernel
theorem dX11_many_53 : decode cX11_many 53 = .ok (.getfield 35, 3) := by decide +kernel
theorem dX11_many_56 : decode cX11_many 56 = .ok (.iconst 1, 1) := by decide +kernel
theorem dX11_many_57 : decode cX11_many 57 = .ok (.invokevirtual 147, 3) := by decide +kernel
theorem dX11_many_60 : decode cX11_many 60 = .ok (.aload_n 0, 1) := by decide +kernel
theorem dX11_many_61 : decode cX11_many 61 = .ok (.getfield 35, 3) := by decide +kernel
theorem dX11_many_64 : decode cX11_many 64 = .ok (.iconst 5, 1) := by decide +kernel
theorem dX11_many_65 : decode cX11_many 65 = .ok (.invokevirtual 147, 3) := by decide +kernel
theorem dX11_many_68 : decode cX11_many 68 = .ok (.iadd, 1) := by decide +kernel
theorem dX11_many_69 : decode cX11_many 69 = .ok (.ireturn, 1) := by decide +kernel
theorem dX11_many_70 : decode cX11_many 70 = .ok (.aload_n 0, 1) := by decide +kernel
theorem dX11_many_71 : decode cX11_many 71 = .ok (.getfield 35, 3) := by decide +kernel
theorem dX11_many_74 : decode cX11_many 74 = .ok (.iconst 2, 1) := by decide +kernel
theorem dX11_many_75 : decode cX11_many 75 = .ok (.invokevirtual 147, 3) := by decide +kernel
theorem dX11_many_78 : decode cX11_many 78 = .ok (.ireturn, 1) := by decide +kernel
theorem dX11_many_79 : decode cX11_many 79 = .ok (.aload_n 0, 1) := by decide +kernel
theorem dX11_many_80 : decode cX11_many 80 = .ok (.getfield 35, 3) := by decide +kernel
theorem dX11_many_83 : decode cX11_many 83 = .ok (.iconst 3, 1) := by decide +kernel
theorem dX11_many_84 : decode cX11_many 84 = .ok (.invokevirtual 147, 3) := by decide +kernel
theorem dX11_many_87 : decode cX11_many 87 = .ok (.ireturn, 1) := by decide +kernel
theorem dX11_many_88 : decode cX11_many 88 = .ok (.aload_n 0, 1) := by decide +kernel
theorem dX11_many_89 : decode cX11_many 89 = .ok (.getfield 31, 3) := by decide +kernel
theorem dX11_many_92 : decode cX11_many 92 = .ok (.iconst 1, 1) := by decide +kernel
theorem dX11_many_93 : decode cX11_many 93 = .ok (.iconst 1, 1) := by decide +kernel
theorem dX11_many_94 : decode cX11_many 94 = .ok (.invokevirtual 150, 3) := by decide +kernel
theorem dX11_many_97 : decode cX11_many 97 = .ok (.ireturn, 1) := by decide +kernel
theorem dX11_many_98 : decode cX11_many 98 = .ok (.aload_n 0, 1) := by decide +kernel
theorem dX11_many_99 : decode cX11_many 99 = .ok (.getfield 31, 3) := by decide +kernel
theorem dX11_many_102 : decode cX11_many 102 = .ok (.iconst 2, 1) := by decide +kernel
theorem dX11_many_103 : decode cX11_many 103 = .ok (.iconst 2, 1) := by decide +kernel
theorem dX11_many_104 : decode cX11_many 104 = .ok (.invokevirtual 150, 3) := by decide +kernel
theorem dX11_many_107 : decode cX11_many 107 = .ok (.ireturn, 1) := by decide +kernel
theorem dX11_many_108 : decode cX11_many 108 = .ok (.aload_n 0, 1) := by decide +kernel
theorem dX11_many_109 : decode cX11_many 109 = .ok (.getfield 35, 3) := by decide +kernel
theorem dX11_many_112 : decode cX11_many 112 = .ok (.iconst 5, 1) := by decide +kernel
theorem dX11_many_113 : decode cX11_many 113 = .ok (.invokevirtual 147, 3) := by decide +kernel
theorem dX11_many_116 : decode cX11_many 116 = .ok (.ireturn, 1) := by decide +kernel
theorem dX11_many_117 : decode cX11_many 117 = .ok (.aload_n 0, 1) := by decide +kernel
theorem dX11_many_118 : decode cX11_many 118 = .ok (.getfield 31, 3) := by decide +kernel
theorem dX11_many_121 : decode cX11_many 121 = .ok (.bipush 10, 2) := by decide +kernel
theorem dX11_many_123 : decode cX11_many 123 = .ok (.bipush 17, 2) := by decide +kernel
theorem dX11_many_125 : decode cX11_many 125 = .ok (.invokevirtual 150, 3) := by decide +kernel
theorem dX11_many_128 : decode cX11_many 128 = .ok (.ireturn, 1) := by decide +kernel
theorem dX11_many_129 : decode cX11_many 129 = .ok (.iconst (-1), 1) := by decide +kernel
theorem dX11_many_130 : decode cX11_many 130 = .ok (.ireturn, 1) := by decide +kernel
theorem dX11_off_0 : decode cX11_off 0 = .ok (.aload_n 0, 1) := by decide +kernel
theorem dX11_off_1 : decode cX11_off 1 = .ok (.getfield 39, 3) := by decide +kernel
theorem dX11_off_4 : decode cX11_off 4 = .ok (.invokevirtual 152, 3) := by decide +kernel
theorem dX11_off_7 : decode cX11_off 7 = .ok (.iload_n 1, 1) := by decide +kernel
theorem dX11_off_8 : decode cX11_off 8 = .ok (.iconst (-1), 1) := by decide +kernel
theorem dX11_off_9 : decode cX11_off 9 = .ok (.if_icmp .ne 9, 3) := by decide +kernel
theorem dX11_off_12 : decode cX11_off 12 = .ok (.aload_n 0, 1) := by decide +kernel
theorem dX11_off_13 : decode cX11_off 13 = .ok (.iload_n 2, 1) := by decide +kernel
theorem dX11_off_14 : decode cX11_off 14 = .ok (.invokevirtual 153, 3) := by decide +kernel
theorem dX11_off_17 : decode cX11_off 17 = .ok (.ireturn, 1) := by decide +kernel
theorem dX11_off_18 : decode cX11_off 18 = .ok (.iload_n 2, 1) := by decide +kernel
theorem dX11_off_19 : decode cX11_off 19 = .ok (.lookupswitch 43 #[(0, 25), (1, 34)], 25) := by decide +kernel
theorem dX11_off_44 : decode cX11_off 44 = .ok (.aload_n 0, 1) := by decide +kernel
theorem dX11_off_45 : decode cX11_off 45 = .ok (.getfield 39, 3) := by decide +kernel
theorem dX11_off_48 : decode cX11_off 48 = .ok (.iload_n 1, 1) := by decide +kernel
theorem dX11_off_49 : decode cX11_off 49 = .ok (.invokevirtual 156, 3) := by decide +kernel
theorem dX11_off_52 : decode cX11_off 52 = .ok (.ireturn, 1) := by decide +kernel
theorem dX11_off_53 : decode cX11_off 53 = .ok (.aload_n 0, 1) := by decide +kernel
theorem dX11_off_54 : decode cX11_off 54 = .ok (.getfield 39, 3) := by decide +kernel
theorem dX11_off_57 : decode cX11_off 57 = .ok (.iload_n 1, 1) := by decide +kernel
theorem dX11_off_58 : decode cX11_off 58 = .ok (.invokevirtual 159, 3) := by decide +kernel
theorem dX11_off_61 : decode cX11_off 61 = .ok (.ireturn, 1) := by decide +kernel
theorem dX11_off_62 : decode cX11_off 62 = .ok (.iconst (-1), 1) := by decide +kernel
theorem dX11_off_63 : decode cX11_off 63 = .ok (.ireturn, 1) := by decide +kernel
theorem dX11_lot_0 : decode cX11_lot 0 = .ok (.iload_n 1, 1) := by decide +kernel
theorem dX11_lot_1 : decode cX11_lot 1 = .ok (.sipush 1000, 3) := by decide +kernel
theorem dX11_lot_4 : decode cX11_lot 4 = .ok (.invokestatic 162, 3) := by decide +kernel
theorem dX11_lot_7 : decode cX11_lot 7 = .ok (.ifCond .eq 42, 3) := by decide +kernel
theorem dX11_lot_10 : decode cX11_lot 10 = .ok (.iload_n 2, 1) := by decide +kernel
theorem dX11_lot_11 : decode cX11_lot 11 = .ok (.sipush 1000, 3) := by decide +kernel
theorem dX11_lot_14 : decode cX11_lot 14 = .ok (.invokestatic 162, 3) := by decide +kernel
theorem dX11_lot_17 : decode cX11_lot 17 = .ok (.ifCond .eq 32, 3) := by decide +kernel
theorem dX11_lot_20 : decode cX11_lot 20 = .ok (.iload_n 1, 1) := by decide +kernel
theorem dX11_lot_21 : decode cX11_lot 21 = .ok (.iload_n 2, 1) := by decide +kernel
theorem dX11_lot_22 : decode cX11_lot 22 = .ok (.iadd, 1) := by decide +kernel
theorem dX11_lot_23 : decode cX11_lot 23 = .ok (.sipush 1000, 3) := by decide +kernel
theorem dX11_lot_26 : decode cX11_lot 26 = .ok (.if_icmp .gt 23, 3) := by decide +kernel
theorem dX11_lot_29 : decode cX11_lot 29 = .ok (.iload_n 3, 1) := by decide +kernel
theorem dX11_lot_30 : decode cX11_lot 30 = .ok (.sipush 1000, 3) := by decide +kernel
theorem dX11_lot_33 : decode cX11_lot 33 = .ok (.invokestatic 162, 3) := by decide +kernel
theorem dX11_lot_36 : decode cX11_lot 36 = .ok (.ifCond .eq 13, 3) := by decide +kernel
theorem dX11_lot_39 : decode cX11_lot 39 = .ok (.iload 4, 2) := by decide +kernel
theorem dX11_lot_41 : decode cX11_lot 41 = .ok (.bipush 40, 2) := by decide +kernel
theorem dX11_lot_43 : decode cX11_lot 43 = .ok (.invokestatic 162, 3) := by decide +kernel
theorem dX11_lot_46 : decode cX11_lot 46 = .ok (.ifCond .ne 9, 3) := by decide +kernel
theorem dX11_lot_49 : decode cX11_lot 49 = .ok (.aload_n 0, 1) := by decide +kernel
theorem dX11_lot_50 : decode cX11_lot 50 = .ok (.iconst (-1), 1) := by decide +kernel
theorem dX11_lot_51 : decode cX11_lot 51 = .ok (.invokevirtual 104, 3) := by decide +kernel
theorem dX11_lot_54 : decode cX11_lot 54 = .ok (.ireturn, 1) := by decide +kernel
theorem dX11_lot_55 : decode cX11_lot 55 = .ok (.aload_n 0, 1) := by decide +kernel
theorem dX11_lot_56 : decode cX11_lot 56 = .ok (.getfield 43, 3) := by decide +kernel
theorem dX11_lot_59 : decode cX11_lot 59 = .ok (.invokevirtual 165, 3) := by decide +kernel
theorem dX11_lot_62 : decode cX11_lot 62 = .ok (.ifCond .eq 10, 3) := by decide +kernel
theorem dX11_lot_65 : decode cX11_lot 65 = .ok (.aload_n 0, 1) := by decide +kernel
theorem dX11_lot_66 : decode cX11_lot 66 = .ok (.bipush (-5), 2) := by decide +kernel
theorem dX11_lot_68 : decode cX11_lot 68 = .ok (.invokevirtual 104, 3) := by decide +kernel
theorem dX11_lot_71 : decode cX11_lot 71 = .ok (.ireturn, 1) := by decide +kernel
theorem dX11_lot_72 : decode cX11_lot 72 = .ok (.aload_n 0, 1) := by decide +kernel
theorem dX11_lot_73 : decode cX11_lot 73 = .ok (.aload_n 0, 1) := by decide +kernel
theorem dX11_lot_74 : decode cX11_lot 74 = .ok (.getfield 43, 3) := by decide +kernel
theorem dX11_lot_77 : decode cX11_lot 77 = .ok (.iload_n 1, 1) := by decide +kernel
theorem dX11_lot_78 : decode cX11_lot 78 = .ok (.iload_n 2, 1) := by decide +kernel
theorem dX11_lot_79 : decode cX11_lot 79 = .ok (.iload_n 3, 1) := by decide +kernel
theorem dX11_lot_80 : decode cX11_lot 80 = .ok (.iload 4, 2) := by decide +kernel
theorem dX11_lot_82 : decode cX11_lot 82 = .ok (.invokevirtual 169, 3) := by decide +kernel
theorem dX11_lot_85 : decode cX11_lot 85 = .ok (.invokevirtual 104, 3) := by decide +kernel
theorem dX11_lot_88 : decode cX11_lot 88 = .ok (.ireturn, 1) := by decide +kernel
theorem dX11_mix_0 : decode cX11_mix 0 = .ok (.iload_n 1, 1) := by decide +kernel
theorem dX11_mix_1 : decode cX11_mix 1 = .ok (.iconst 1, 1) := by decide +kernel
theorem dX11_mix_2 : decode cX11_mix 2 = .ok (.if_icmp .lt 45, 3) := by decide +kernel
theorem dX11_mix_5 : decode cX11_mix 5 = .ok (.iload_n 1, 1) := by decide +kernel
theorem dX11_mix_6 : decode cX11_mix 6 = .ok (.bipush 40, 2) := by decide +kernel
theorem dX11_mix_8 : decode cX11_mix 8 = .ok (.if_icmp .gt 39, 3) := by decide +kernel
theorem dX11_mix_11 : decode cX11_mix 11 = .ok (.iload_n 2, 1) := by decide +kernel
theorem dX11_mix_12 : decode cX11_mix 12 = .ok (.iload_n 3, 1) := by decide +kernel
theorem dX11_mix_13 : decode cX11_mix 13 = .ok (.if_icmp .gt 34, 3) := by decide +kernel
theorem dX11_mix_16 : decode cX11_mix 16 = .ok (.iload_n 2, 1) := by decide +kernel
theorem dX11_mix_17 : decode cX11_mix 17 = .ok (.sipush 1000, 3) := by decide +kernel
theorem dX11_mix_20 : decode cX11_mix 20 = .ok (.invokestatic 162, 3) := by decide +kernel
theorem dX11_mix_23 : decode cX11_mix 23 = .ok (.ifCond .eq 24, 3) := by decide +kernel
theorem dX11_mix_26 : decode cX11_mix 26 = .ok (.iload_n 3, 1) := by decide +kernel
theorem dX11_mix_27 : decode cX11_mix 27 = .ok (.sipush 1000, 3) := by decide +kernel
theorem dX11_mix_30 : decode cX11_mix 30 = .ok (.invokestatic 162, 3) := by decide +kernel
theorem dX11_mix_33 : decode cX11_mix 33 = .ok (.ifCond .eq 14, 3) := by decide +kernel
theorem dX11_mix_36 : decode cX11_mix 36 = .ok (.iload 4, 2) := by decide +kernel
theorem dX11_mix_38 : decode cX11_mix 38 = .ok (.sipush 1000, 3) := by decide +kernel
theorem dX11_mix_41 : decode cX11_mix 41 = .ok (.invokestatic 162, 3) := by decide +kernel
theorem dX11_mix_44 : decode cX11_mix 44 = .ok (.ifCond .ne 9, 3) := by decide +kernel
theorem dX11_mix_47 : decode cX11_mix 47 = .ok (.aload_n 0, 1) := by decide +kernel
theorem dX11_mix_48 : decode cX11_mix 48 = .ok (.iconst (-1), 1) := by decide +kernel
theorem dX11_mix_49 : decode cX11_mix 49 = .ok (.invokevirtual 104, 3) := by decide +kernel
theorem dX11_mix_52 : decode cX11_mix 52 = .ok (.ireturn, 1) := by decide +kernel
theorem dX11_mix_53 : decode cX11_mix 53 = .ok (.aload_n 0, 1) := by decide +kernel
theorem dX11_mix_54 : decode cX11_mix 54 = .ok (.getfield 50, 3) := by decide +kernel
theorem dX11_mix_57 : decode cX11_mix 57 = .ok (.iload_n 1, 1) := by decide +kernel
theorem dX11_mix_58 : decode cX11_mix 58 = .ok (.iload_n 2, 1) := by decide +kernel
theorem dX11_mix_59 : decode cX11_mix 59 = .ok (.iload_n 3, 1) := by decide +kernel
theorem dX11_mix_60 : decode cX11_mix 60 = .ok (.iload 4, 2) := by decide +kernel
theorem dX11_mix_62 : decode cX11_mix 62 = .ok (.invokevirtual 173, 3) := by decide +kernel
theorem dX11_mix_65 : decode cX11_mix 65 = .ok (.ifCond .ne 10, 3) := by decide +kernel
theorem dX11_mix_68 : decode cX11_mix 68 = .ok (.aload_n 0, 1) := by decide +kernel
theorem dX11_mix_69 : decode cX11_mix 69 = .ok (.bipush (-6), 2) := by decide +kernel
theorem dX11_mix_71 : decode cX11_mix 71 = .ok (.invokevirtual 104, 3) := by decide +kernel
theorem dX11_mix_74 : decode cX11_mix 74 = .ok (.ireturn, 1) := by decide +kernel
theorem dX11_mix_75 : decode cX11_mix 75 = .ok (.iconst 0, 1) := by decide +kernel
theorem dX11_mix_76 : decode cX11_mix 76 = .ok (.istore 5, 2) := by decide +kernel
theorem dX11_mix_78 : decode cX11_mix 78 = .ok (.iload 5, 2) := by decide +kernel
theorem dX11_mix_80 : decode cX11_mix 80 = .ok (.bipush 6, 2) := by decide +kernel
theorem dX11_mix_82 : decode cX11_mix 82 = .ok (.if_icmp .ge 27, 3) := by decide +kernel
theorem dX11_mix_85 : decode cX11_mix 85 = .ok (.aload_n 0, 1) := by decide +kernel
theorem dX11_mix_86 : decode cX11_mix 86 = .ok (.getfield 54, 3) := by decide +kernel
theorem dX11_mix_89 : decode cX11_mix 89 = .ok (.iload 5, 2) := by decide +kernel
theorem dX11_mix_91 : decode cX11_mix 91 = .ok (.aload_n 0, 1) := by decide +kernel
theorem dX11_mix_92 : decode cX11_mix 92 = .ok (.getfield 50, 3) := by decide +kernel
theorem dX11_mix_95 : decode cX11_mix 95 = .ok (.iload 5, 2) := by decide +kernel
theorem dX11_mix_97 : decode cX11_mix 97 = .ok (.invokevirtual 177, 3) := by decide +kernel
theorem dX11_mix_100 : decode cX11_mix 100 = .ok (.invokevirtual 180, 3) := by decide +kernel
theorem dX11_mix_103 : decode cX11_mix 103 = .ok (.iinc 5 1, 3) := by decide +kernel
theorem dX11_mix_106 : decode cX11_mix 106 = .ok (.goto (-28), 3) := by decide +kernel
theorem dX11_mix_109 : decode cX11_mix 109 = .ok (.aload_n 0, 1) := by decide +kernel
theorem dX11_mix_110 : decode cX11_mix 110 = .ok (.aload_n 0, 1) := by decide +kernel
theorem dX11_mix_111 : decode cX11_mix 111 = .ok (.getfield 50, 3) := by decide +kernel
theorem dX11_mix_114 : decode cX11_mix 114 = .ok (.invokevirtual 183, 3) := by decide +kernel
theorem dX11_mix_117 : decode cX11_mix 117 = .ok (.invokevirtual 104, 3) := by decide +kernel
theorem dX11_mix_120 : decode cX11_mix 120 = .ok (.ireturn, 1) := by decide +kernel
theorem dX11_mixed_0 : decode cX11_mixed 0 = .ok (.aload_n 0, 1) := by decide +kernel
theorem dX11_mixed_1 : decode cX11_mixed 1 = .ok (.getfield 54, 3) := by decide +kernel
theorem dX11_mixed_4 : decode cX11_mixed 4 = .ok (.invokevirtual 186, 3) := by decide +kernel
theorem dX11_mixed_7 : decode cX11_mixed 7 = .ok (.ifCond .ne 5, 3) := by decide +kernel
theorem dX11_mixed_10 : decode cX11_mixed 10 = .ok (.iconst (-1), 1) := by decide +kernel
theorem dX11_mixed_11 : decode cX11_mixed 11 = .ok (.ireturn, 1) := by decide +kernel
theorem dX11_mixed_12 : decode cX11_mixed 12 = .ok (.iload_n 1, 1) := by decide +kernel
theorem dX11_mixed_13 : decode cX11_mixed 13 = .ok (.iconst (-1), 1) := by decide +kernel
theorem dX11_mixed_14 : decode cX11_mixed 14 = .ok (.if_icmp .ne 11, 3) := by decide +kernel
theorem dX11_mixed_17 : decode cX11_mixed 17 = .ok (.aload_n 0, 1) := by decide +kernel
theorem dX11_mixed_18 : decode cX11_mixed 18 = .ok (.getfield 54, 3) := by decide +kernel
theorem dX11_mixed_21 : decode cX11_mixed 21 = .ok (.invokevirtual 189, 3) := by decide +kernel
theorem dX11_mixed_24 : decode cX11_mixed 24 = .ok (.ireturn, 1) := by decide +kernel
theorem dX11_mixed_25 : decode cX11_mixed 25 = .ok (.aload_n 0, 1) := by decide +kernel
theorem dX11_mixed_26 : decode cX11_mixed 26 = .ok (.getfield 43, 3) := by decide +kernel
theorem dX11_mixed_29 : decode cX11_mixed 29 = .ok (.iload_n 1, 1) := by decide +kernel
theorem dX11_mixed_30 : decode cX11_mixed 30 = .ok (.invokevirtual 192, 3) := by decide +kernel
theorem dX11_mixed_33 : decode cX11_mixed 33 = .ok (.ifCond .eq 14, 3) := by decide +kernel
theorem dX11_mixed_36 : decode cX11_mixed 36 = .ok (.aload_n 0, 1) := by decide +kernel
theorem dX11_mixed_37 : decode cX11_mixed 37 = .ok (.getfield 54, 3) := by decide +kernel
theorem dX11_mixed_40 : decode cX11_mixed 40 = .ok (.iload_n 1, 1) := by decide +kernel
theorem dX11_mixed_41 : decode cX11_mixed 41 = .ok (.invokevirtual 194, 3) := by decide +kernel
theorem dX11_mixed_44 : decode cX11_mixed 44 = .ok (.goto 4, 3) := by decide +kernel
theorem dX11_mixed_47 : decode cX11_mixed 47 = .ok (.iconst (-1), 1) := by decide +kernel
theorem dX11_mixed_48 : decode cX11_mixed 48 = .ok (.ireturn, 1) := by decide +kernel
theorem dX11_pour_0 : decode cX11_pour 0 = .ok (.aload_n 0, 1) := by decide +kernel
theorem dX11_pour_1 : decode cX11_pour 1 = .ok (.getfield 54, 3) := by decide +kernel
theorem dX11_pour_4 : decode cX11_pour 4 = .ok (.invokevirtual 186, 3) := by decide +kernel
theorem dX11_pour_7 : decode cX11_pour 7 = .ok (.ifCond .ne 10, 3) := by decide +kernel
theorem dX11_pour_10 : decode cX11_pour 10 = .ok (.aload_n 0, 1) := by decide +kernel
theorem dX11_pour_11 : decode cX11_pour 11 = .ok (.bipush (-6), 2) := by decide +kernel
theorem dX11_pour_13 : decode cX11_pour 13 = .ok (.invokevirtual 104, 3) := by decide +kernel
theorem dX11_pour_16 : decode cX11_pour 16 = .ok (.ireturn, 1) := by decide +kernel
theorem dX11_pour_17 : decode cX11_pour 17 = .ok (.aload_n 0, 1) := by decide +kernel
theorem dX11_pour_18 : decode cX11_pour 18 = .ok (.getfield 54, 3) := by decide +kernel
theorem dX11_pour_21 : decode cX11_pour 21 = .ok (.invokevirtual 195, 3) := by decide +kernel
theorem dX11_pour_24 : decode cX11_pour 24 = .ok (.istore_n 1, 1) := by decide +kernel
theorem dX11_pour_25 : decode cX11_pour 25 = .ok (.aload_n 0, 1) := by decide +kernel
theorem dX11_pour_26 : decode cX11_pour 26 = .ok (.getfield 54, 3) := by decide +kernel
theorem dX11_pour_29 : decode cX11_pour 29 = .ok (.invokevirtual 198, 3) := by decide +kernel
theorem dX11_pour_32 : decode cX11_pour 32 = .ok (.aload_n 0, 1) := by decide +kernel
theorem dX11_pour_33 : decode cX11_pour 33 = .ok (.iload_n 1, 1) := by decide +kernel
theorem dX11_pour_34 : decode cX11_pour 34 = .ok (.iconst (-1), 1) := by decide +kernel
theorem dX11_pour_35 : decode cX11_pour 35 = .ok (.if_icmp .ne 8, 3) := by decide +kernel
theorem dX11_pour_38 : decode cX11_pour 38 = .ok (.bipush (-6), 2) := by decide +kernel
theorem dX11_pour_40 : decode cX11_pour 40 = .ok (.goto 4, 3) := by decide +kernel
theorem dX11_pour_43 : decode cX11_pour 43 = .ok (.iload_n 1, 1) := by decide +kernel
theorem dX11_pour_44 : decode cX11_pour 44 = .ok (.invokevirtual 104, 3) := by decide +kernel
theorem dX11_pour_47 : decode cX11_pour 47 = .ok (.ireturn, 1) := by decide +kernel
theorem dX11_left_0 : decode cX11_left 0 = .ok (.aload_n 0, 1) := by decide +kernel
theorem dX11_left_1 : decode cX11_left 1 = .ok (.getfield 43, 3) := by decide +kernel
theorem dX11_left_4 : decode cX11_left 4 = .ok (.iload_n 1, 1) := by decide +kernel
theorem dX11_left_5 : decode cX11_left 5 = .ok (.invokevirtual 192, 3) := by decide +kernel
theorem dX11_left_8 : decode cX11_left 8 = .ok (.ifCond .eq 14, 3) := by decide +kernel
theorem dX11_left_11 : decode cX11_left 11 = .ok (.aload_n 0, 1) := by decide +kernel
theorem dX11_left_12 : decode cX11_left 12 = .ok (.getfield 43, 3) := by decide +kernel
theorem dX11_left_15 : decode cX11_left 15 = .ok (.iload_n 1, 1) := by decide +kernel
theorem dX11_left_16 : decode cX11_left 16 = .ok (.invokevirtual 201, 3) := by decide +kernel
theorem dX11_left_19 : decode cX11_left 19 = .ok (.goto 4, 3) := by decide +kernel
theorem dX11_left_22 : decode cX11_left 22 = .ok (.iconst (-1), 1) := by decide +kernel
theorem dX11_left_23 : decode cX11_left 23 = .ok (.ireturn, 1) := by decide +kernel
theorem dX11_feed_0 : decode cX11_feed 0 = .ok (.aload_n 0, 1) := by decide +kernel
theorem dX11_feed_1 : decode cX11_feed 1 = .ok (.getfield 58, 3) := by decide +kernel
theorem dX11_feed_4 : decode cX11_feed 4 = .ok (.invokevirtual 204, 3) := by decide +kernel
theorem dX11_feed_7 : decode cX11_feed 7 = .ok (.bipush 20, 2) := by decide +kernel
theorem dX11_feed_9 : decode cX11_feed 9 = .ok (.iadd, 1) := by decide +kernel
theorem dX11_feed_10 : decode cX11_feed 10 = .ok (.sipush 300, 3) := by decide +kernel
theorem dX11_feed_13 : decode cX11_feed 13 = .ok (.if_icmp .le 5, 3) := by decide +kernel
theorem dX11_feed_16 : decode cX11_feed 16 = .ok (.iconst (-1), 1) := by decide +kernel
theorem dX11_feed_17 : decode cX11_feed 17 = .ok (.ireturn, 1) := by decide +kernel
theorem dX11_feed_18 : decode cX11_feed 18 = .ok (.aload_n 0, 1) := by decide +kernel
theorem dX11_feed_19 : decode cX11_feed 19 = .ok (.getfield 58, 3) := by decide +kernel
theorem dX11_feed_22 : decode cX11_feed 22 = .ok (.iload_n 1, 1) := by decide +kernel
theorem dX11_feed_23 : decode cX11_feed 23 = .ok (.invokevirtual 207, 3) := by decide +kernel
theorem dX11_feed_26 : decode cX11_feed 26 = .ok (.aload_n 0, 1) := by decide +kernel
theorem dX11_feed_27 : decode cX11_feed 27 = .ok (.getfield 58, 3) := by decide +kernel
theorem dX11_feed_30 : decode cX11_feed 30 = .ok (.iload_n 2, 1) := by decide +kernel
theorem dX11_feed_31 : decode cX11_feed 31 = .ok (.invokevirtual 207, 3) := by decide +kernel
theorem dX11_feed_34 : decode cX11_feed 34 = .ok (.aload_n 0, 1) := by decide +kernel
theorem dX11_feed_35 : decode cX11_feed 35 = .ok (.getfield 58, 3) := by decide +kernel
theorem dX11_feed_38 : decode cX11_feed 38 = .ok (.iload_n 3, 1) := by decide +kernel
theorem dX11_feed_39 : decode cX11_feed 39 = .ok (.invokevirtual 207, 3) := by decide +kernel
theorem dX11_feed_42 : decode cX11_feed 42 = .ok (.aload_n 0, 1) := by decide +kernel
theorem dX11_feed_43 : decode cX11_feed 43 = .ok (.getfield 58, 3) := by decide +kernel
theorem dX11_feed_46 : decode cX11_feed 46 = .ok (.iload 4, 2) := by decide +kernel
theorem dX11_feed_48 : decode cX11_feed 48 = .ok (.invokevirtual 207, 3) := by decide +kernel
theorem dX11_feed_51 : decode cX11_feed 51 = .ok (.aload_n 0, 1) := by decide +kernel
theorem dX11_feed_52 : decode cX11_feed 52 = .ok (.getfield 58, 3) := by decide +kernel
theorem dX11_feed_55 : decode cX11_feed 55 = .ok (.iload 5, 2) := by decide +kernel
theorem dX11_feed_57 : decode cX11_feed 57 = .ok (.invokevirtual 207, 3) := by decide +kernel
theorem dX11_feed_60 : decode cX11_feed 60 = .ok (.aload_n 0, 1) := by decide +kernel
theorem dX11_feed_61 : decode cX11_feed 61 = .ok (.getfield 58, 3) := by decide +kernel
theorem dX11_feed_64 : decode cX11_feed 64 = .ok (.invokevirtual 204, 3) := by decide +kernel
theorem dX11_feed_67 : decode cX11_feed 67 = .ok (.ireturn, 1) := by decide +kernel
theorem dX11_end_0 : decode cX11_end 0 = .ok (.iload_n 1, 1) := by decide +kernel
theorem dX11_end_1 : decode cX11_end 1 = .ok (.ifCond .lt 14, 3) := by decide +kernel
theorem dX11_end_4 : decode cX11_end 4 = .ok (.iload_n 1, 1) := by decide +kernel
theorem dX11_end_5 : decode cX11_end 5 = .ok (.aload_n 0, 1) := by decide +kernel
theorem dX11_end_6 : decode cX11_end 6 = .ok (.getfield 58, 3) := by decide +kernel
theorem dX11_end_9 : decode cX11_end 9 = .ok (.invokevirtual 204, 3) := by decide +kernel
theorem dX11_end_12 : decode cX11_end 12 = .ok (.if_icmp .le 5, 3) := by decide +kernel
theorem dX11_end_15 : decode cX11_end 15 = .ok (.iconst (-1), 1) := by decide +kernel
theorem dX11_end_16 : decode cX11_end 16 = .ok (.ireturn, 1) := by decide +kernel
theorem dX11_end_17 : decode cX11_end 17 = .ok (.aload_n 0, 1) := by decide +kernel
theorem dX11_end_18 : decode cX11_end 18 = .ok (.getfield 58, 3) := by decide +kernel
theorem dX11_end_21 : decode cX11_end 21 = .ok (.iload_n 1, 1) := by decide +kernel
theorem dX11_end_22 : decode cX11_end 22 = .ok (.invokevirtual 211, 3) := by decide +kernel
theorem dX11_end_25 : decode cX11_end 25 = .ok (.iload_n 1, 1) := by decide +kernel
theorem dX11_end_26 : decode cX11_end 26 = .ok (.ireturn, 1) := by decide +kernel
theorem dX11_rules_0 : decode cX11_rules 0 = .ok (.aload_n 0, 1) := by decide +kernel
theorem dX11_rules_1 : decode cX11_rules 1 = .ok (.aload_n 0, 1) := by decide +kernel
theorem dX11_rules_2 : decode cX11_rules 2 = .ok (.getfield 67, 3) := by decide +kernel
theorem dX11_rules_5 : decode cX11_rules 5 = .ok (.aload_n 0, 1) := by decide +kernel
theorem dX11_rules_6 : decode cX11_rules 6 = .ok (.getfield 94, 3) := by decide +kernel
theorem dX11_rules_9 : decode cX11_rules 9 = .ok (.invokevirtual 214, 3) := by decide +kernel
theorem dX11_rules_12 : decode cX11_rules 12 = .ok (.putfield 97, 3) := by decide +kernel
theorem dX11_rules_15 : decode cX11_rules 15 = .ok (.aload_n 0, 1) := by decide +kernel
theorem dX11_rules_16 : decode cX11_rules 16 = .ok (.getfield 58, 3) := by decide +kernel
theorem dX11_rules_19 : decode cX11_rules 19 = .ok (.iconst 0, 1) := by decide +kernel
theorem dX11_rules_20 : decode cX11_rules 20 = .ok (.invokevirtual 211, 3) := by decide +kernel
theorem dX11_rules_23 : decode cX11_rules 23 = .ok (.aload_n 0, 1) := by decide +kernel
theorem dX11_rules_24 : decode cX11_rules 24 = .ok (.getfield 97, 3) := by decide +kernel
theorem dX11_rules_27 : decode cX11_rules 27 = .ok (.iconst (-1), 1) := by decide +kernel
theorem dX11_rules_28 : decode cX11_rules 28 = .ok (.if_icmp .eq 10, 3) := by decide +kernel
theorem dX11_rules_31 : decode cX11_rules 31 = .ok (.aload_n 0, 1) := by decide +kernel
theorem dX11_rules_32 : decode cX11_rules 32 = .ok (.bipush (-6), 2) := by decide +kernel
theorem dX11_rules_34 : decode cX11_rules 34 = .ok (.invokevirtual 104, 3) := by decide +kernel
theorem dX11_rules_37 : decode cX11_rules 37 = .ok (.ireturn, 1) := by decide +kernel
theorem dX11_rules_38 : decode cX11_rules 38 = .ok (.aload_n 0, 1) := by decide +kernel
theorem dX11_rules_39 : decode cX11_rules 39 = .ok (.getfield 90, 3) := by decide +kernel
theorem dX11_rules_42 : decode cX11_rules 42 = .ok (.astore_n 1, 1) := by decide +kernel
theorem dX11_rules_43 : decode cX11_rules 43 = .ok (.aload_n 0, 1) := by decide +kernel
theorem dX11_rules_44 : decode cX11_rules 44 = .ok (.aload_n 0, 1) := by decide +kernel
theorem dX11_rules_45 : decode cX11_rules 45 = .ok (.getfield 94, 3) := by decide +kernel
theorem dX11_rules_48 : decode cX11_rules 48 = .ok (.putfield 90, 3) := by decide +kernel
theorem dX11_rules_51 : decode cX11_rules 51 = .ok (.aload_n 0, 1) := by decide +kernel
theorem dX11_rules_52 : decode cX11_rules 52 = .ok (.aload_n 1, 1) := by decide +kernel
theorem dX11_rules_53 : decode cX11_rules 53 = .ok (.putfield 94, 3) := by decide +kernel
theorem dX11_rules_56 : decode cX11_rules 56 = .ok (.aload_n 0, 1) := by decide +kernel
theorem dX11_rules_57 : decode cX11_rules 57 = .ok (.aload_n 0, 1) := by decide +kernel
theorem dX11_rules_58 : decode cX11_rules 58 = .ok (.getfield 90, 3) := by decide +kernel
theorem dX11_rules_61 : decode cX11_rules 61 = .ok (.invokevirtual 218, 3) := by decide +kernel
theorem dX11_rules_64 : decode cX11_rules 64 = .ok (.invokevirtual 104, 3) := by decide +kernel
theorem dX11_rules_67 : decode cX11_rules 67 = .ok (.ireturn, 1) := by decide +kernel
theorem dX11_fault_0 : decode cX11_fault 0 = .ok (.aload_n 0, 1) := by decide +kernel
theorem dX11_fault_1 : decode cX11_fault 1 = .ok (.getfield 97, 3) := by decide +kernel
theorem dX11_fault_4 : decode cX11_fault 4 = .ok (.ireturn, 1) := by decide +kernel
theorem dX11_broken_0 : decode cX11_broken 0 = .ok (.iload_n 1, 1) := by decide +kernel
theorem dX11_broken_1 : decode cX11_broken 1 = .ok (.ifCond .ge 5, 3) := by decide +kernel
theorem dX11_broken_4 : decode cX11_broken 4 = .ok (.iconst (-1), 1) := by decide +kernel
theorem dX11_broken_5 : decode cX11_broken 5 = .ok (.ireturn, 1) := by decide +kernel
theorem dX11_broken_6 : decode cX11_broken 6 = .ok (.aload_n 0, 1) := by decide +kernel
theorem dX11_broken_7 : decode cX11_broken 7 = .ok (.getfield 35, 3) := by decide +kernel
theorem dX11_broken_10 : decode cX11_broken 10 = .ok (.invokevirtual 128, 3) := by decide +kernel
theorem dX11_broken_13 : decode cX11_broken 13 = .ok (.aload_n 0, 1) := by decide +kernel
theorem dX11_broken_14 : decode cX11_broken 14 = .ok (.getfield 39, 3) := by decide +kernel
theorem dX11_broken_17 : decode cX11_broken 17 = .ok (.invokevirtual 152, 3) := by decide +kernel
theorem dX11_broken_20 : decode cX11_broken 20 = .ok (.iload_n 1, 1) := by decide +kernel
theorem dX11_broken_21 : decode cX11_broken 21 = .ok (.istore_n 2, 1) := by decide +kernel
theorem dX11_broken_22 : decode cX11_broken 22 = .ok (.iload_n 2, 1) := by decide +kernel
theorem dX11_broken_23 : decode cX11_broken 23 = .ok (.aload_n 0, 1) := by decide +kernel
theorem dX11_broken_24 : decode cX11_broken 24 = .ok (.getfield 90, 3) := by decide +kernel
theorem dX11_broken_27 : decode cX11_broken 27 = .ok (.invokevirtual 218, 3) := by decide +kernel
theorem dX11_broken_30 : decode cX11_broken 30 = .ok (.if_icmp .ge 45, 3) := by decide +kernel
theorem dX11_broken_33 : decode cX11_broken 33 = .ok (.aload_n 0, 1) := by decide +kernel
theorem dX11_broken_34 : decode cX11_broken 34 = .ok (.getfield 76, 3) := by decide +kernel
theorem dX11_broken_37 : decode cX11_broken 37 = .ok (.aload_n 0, 1) := by decide +kernel
theorem dX11_broken_38 : decode cX11_broken 38 = .ok (.getfield 90, 3) := by decide +kernel
theorem dX11_broken_41 : decode cX11_broken 41 = .ok (.iload_n 2, 1) := by decide +kernel
theorem dX11_broken_42 : decode cX11_broken 42 = .ok (.invokevirtual 219, 3) := by decide +kernel
theorem dX11_broken_45 : decode cX11_broken 45 = .ok (.aload_n 0, 1) := by decide +kernel
theorem dX11_broken_46 : decode cX11_broken 46 = .ok (.getfield 90, 3) := by decide +kernel
theorem dX11_broken_49 : decode cX11_broken 49 = .ok (.iload_n 2, 1) := by decide +kernel
theorem dX11_broken_50 : decode cX11_broken 50 = .ok (.invokevirtual 222, 3) := by decide +kernel
theorem dX11_broken_53 : decode cX11_broken 53 = .ok (.aload_n 0, 1) := by decide +kernel
theorem dX11_broken_54 : decode cX11_broken 54 = .ok (.getfield 90, 3) := by decide +kernel
theorem dX11_broken_57 : decode cX11_broken 57 = .ok (.iload_n 2, 1) := by decide +kernel
theorem dX11_broken_58 : decode cX11_broken 58 = .ok (.invokevirtual 225, 3) := by decide +kernel
theorem dX11_broken_61 : decode cX11_broken 61 = .ok (.invokevirtual 228, 3) := by decide +kernel
theorem dX11_broken_64 : decode cX11_broken 64 = .ok (.ifCond .eq 5, 3) := by decide +kernel
theorem dX11_broken_67 : decode cX11_broken 67 = .ok (.iload_n 2, 1) := by decide +kernel
theorem dX11_broken_68 : decode cX11_broken 68 = .ok (.ireturn, 1) := by decide +kernel
theorem dX11_broken_69 : decode cX11_broken 69 = .ok (.iinc 2 1, 3) := by decide +kernel
theorem dX11_broken_72 : decode cX11_broken 72 = .ok (.goto (-50), 3) := by decide +kernel
theorem dX11_broken_75 : decode cX11_broken 75 = .ok (.iconst (-1), 1) := by decide +kernel
theorem dX11_broken_76 : decode cX11_broken 76 = .ok (.ireturn, 1) := by decide +kernel
theorem dX11_vessel_0 : decode cX11_vessel 0 = .ok (.iload_n 1, 1) := by decide +kernel
theorem dX11_vessel_1 : decode cX11_vessel 1 = .ok (.ldc 232, 2) := by decide +kernel
theorem dX11_vessel_3 : decode cX11_vessel 3 = .ok (.invokestatic 162, 3) := by decide +kernel
theorem dX11_vessel_6 : decode cX11_vessel 6 = .ok (.ifCond .ne 9, 3) := by decide +kernel
theorem dX11_vessel_9 : decode cX11_vessel 9 = .ok (.aload_n 0, 1) := by decide +kernel
theorem dX11_vessel_10 : decode cX11_vessel 10 = .ok (.iconst (-1), 1) := by decide +kernel
theorem dX11_vessel_11 : decode cX11_vessel 11 = .ok (.invokevirtual 104, 3) := by decide +kernel
theorem dX11_vessel_14 : decode cX11_vessel 14 = .ok (.ireturn, 1) := by decide +kernel
theorem dX11_vessel_15 : decode cX11_vessel 15 = .ok (.aload_n 0, 1) := by decide +kernel
theorem dX11_vessel_16 : decode cX11_vessel 16 = .ok (.getfield 83, 3) := by decide +kernel
theorem dX11_vessel_19 : decode cX11_vessel 19 = .ok (.invokevirtual 233, 3) := by decide +kernel
theorem dX11_vessel_22 : decode cX11_vessel 22 = .ok (.ifCond .eq 10, 3) := by decide +kernel
theorem dX11_vessel_25 : decode cX11_vessel 25 = .ok (.aload_n 0, 1) := by decide +kernel
theorem dX11_vessel_26 : decode cX11_vessel 26 = .ok (.bipush (-5), 2) := by decide +kernel
theorem dX11_vessel_28 : decode cX11_vessel 28 = .ok (.invokevirtual 104, 3) := by decide +kernel
theorem dX11_vessel_31 : decode cX11_vessel 31 = .ok (.ireturn, 1) := by decide +kernel
theorem dX11_vessel_32 : decode cX11_vessel 32 = .ok (.aload_n 0, 1) := by decide +kernel
theorem dX11_vessel_33 : decode cX11_vessel 33 = .ok (.aload_n 0, 1) := by decide +kernel
theorem dX11_vessel_34 : decode cX11_vessel 34 = .ok (.getfield 83, 3) := by decide +kernel
theorem dX11_vessel_37 : decode cX11_vessel 37 = .ok (.iload_n 1, 1) := by decide +kernel
theorem dX11_vessel_38 : decode cX11_vessel 38 = .ok (.invokevirtual 234, 3) := by decide +kernel
theorem dX11_vessel_41 : decode cX11_vessel 41 = .ok (.invokevirtual 104, 3) := by decide +kernel
theorem dX11_vessel_44 : decode cX11_vessel 44 = .ok (.ireturn, 1) := by decide +kernel
theorem dX11_like_0 : decode cX11_like 0 = .ok (.aload_n 0, 1) := by decide +kernel
theorem dX11_like_1 : decode cX11_like 1 = .ok (.getfield 83, 3) := by decide +kernel
theorem dX11_like_4 : decode cX11_like 4 = .ok (.iload_n 1, 1) := by decide +kernel
theorem dX11_like_5 : decode cX11_like 5 = .ok (.invokevirtual 236, 3) := by decide +kernel
theorem dX11_like_8 : decode cX11_like 8 = .ok (.ifCond .eq 14, 3) := by decide +kernel
theorem dX11_like_11 : decode cX11_like 11 = .ok (.aload_n 0, 1) := by decide +kernel
theorem dX11_like_12 : decode cX11_like 12 = .ok (.getfield 83, 3) := by decide +kernel
theorem dX11_like_15 : decode cX11_like 15 = .ok (.iload_n 2, 1) := by decide +kernel
theorem dX11_like_16 : decode cX11_like 16 = .ok (.invokevirtual 236, 3) := by decide +kernel
theorem dX11_like_19 : decode cX11_like 19 = .ok (.ifCond .ne 7, 3) := by decide +kernel
theorem dX11_like_22 : decode cX11_like 22 = .ok (.sipush (-1000), 3) := by decide +kernel
theorem dX11_like_25 : decode cX11_like 25 = .ok (.ireturn, 1) := by decide +kernel
theorem dX11_like_26 : decode cX11_like 26 = .ok (.aload_n 0, 1) := by decide +kernel
theorem dX11_like_27 : decode cX11_like 27 = .ok (.getfield 83, 3) := by decide +kernel
theorem dX11_like_30 : decode cX11_like 30 = .ok (.iload_n 1, 1) := by decide +kernel
theorem dX11_like_31 : decode cX11_like 31 = .ok (.iload_n 2, 1) := by decide +kernel
theorem dX11_like_32 : decode cX11_like 32 = .ok (.invokevirtual 237, 3) := by decide +kernel
theorem dX11_like_35 : decode cX11_like 35 = .ok (.ireturn, 1) := by decide +kernel
theorem dX11_tell_0 : decode cX11_tell 0 = .ok (.iload_n 2, 1) := by decide +kernel
theorem dX11_tell_1 : decode cX11_tell 1 = .ok (.iconst (-1), 1) := by decide +kernel
theorem dX11_tell_2 : decode cX11_tell 2 = .ok (.if_icmp .lt 19, 3) := by decide +kernel
theorem dX11_tell_5 : decode cX11_tell 5 = .ok (.iload_n 2, 1) := by decide +kernel
theorem dX11_tell_6 : decode cX11_tell 6 = .ok (.bipush 8, 2) := by decide +kernel
theorem dX11_tell_8 : decode cX11_tell 8 = .ok (.if_icmp .ge 13, 3) := by decide +kernel
theorem dX11_tell_11 : decode cX11_tell 11 = .ok (.iload_n 3, 1) := by decide +kernel
theorem dX11_tell_12 : decode cX11_tell 12 = .ok (.sipush 3000, 3) := by decide +kernel
theorem dX11_tell_15 : decode cX11_tell 15 = .ok (.invokestatic 162, 3) := by decide +kernel
theorem dX11_tell_18 : decode cX11_tell 18 = .ok (.ifCond .ne 9, 3) := by decide +kernel
theorem dX11_tell_21 : decode cX11_tell 21 = .ok (.aload_n 0, 1) := by decide +kernel
theorem dX11_tell_22 : decode cX11_tell 22 = .ok (.iconst (-1), 1) := by decide +kernel
theorem dX11_tell_23 : decode cX11_tell 23 = .ok (.invokevirtual 104, 3) := by decide +kernel
theorem dX11_tell_26 : decode cX11_tell 26 = .ok (.ireturn, 1) := by decide +kernel
theorem dX11_tell_27 : decode cX11_tell 27 = .ok (.aload_n 0, 1) := by decide +kernel
theorem dX11_tell_28 : decode cX11_tell 28 = .ok (.getfield 83, 3) := by decide +kernel
theorem dX11_tell_31 : decode cX11_tell 31 = .ok (.iload_n 1, 1) := by decide +kernel
theorem dX11_tell_32 : decode cX11_tell 32 = .ok (.invokevirtual 236, 3) := by decide +kernel
theorem dX11_tell_35 : decode cX11_tell 35 = .ok (.ifCond .ne 10, 3) := by decide +kernel
theorem dX11_tell_38 : decode cX11_tell 38 = .ok (.aload_n 0, 1) := by decide +kernel
theorem dX11_tell_39 : decode cX11_tell 39 = .ok (.bipush (-2), 2) := by decide +kernel
theorem dX11_tell_41 : decode cX11_tell 41 = .ok (.invokevirtual 104, 3) := by decide +kernel
theorem dX11_tell_44 : decode cX11_tell 44 = .ok (.ireturn, 1) := by decide +kernel
theorem dX11_tell_45 : decode cX11_tell 45 = .ok (.aload_n 0, 1) := by decide +kernel
theorem dX11_tell_46 : decode cX11_tell 46 = .ok (.getfield 83, 3) := by decide +kernel
theorem dX11_tell_49 : decode cX11_tell 49 = .ok (.invokevirtual 240, 3) := by decide +kernel
theorem dX11_tell_52 : decode cX11_tell 52 = .ok (.ifCond .eq 10, 3) := by decide +kernel
theorem dX11_tell_55 : decode cX11_tell 55 = .ok (.aload_n 0, 1) := by decide +kernel
theorem dX11_tell_56 : decode cX11_tell 56 = .ok (.bipush (-5), 2) := by decide +kernel
theorem dX11_tell_58 : decode cX11_tell 58 = .ok (.invokevirtual 104, 3) := by decide +kernel
theorem dX11_tell_61 : decode cX11_tell 61 = .ok (.ireturn, 1) := by decide +kernel
theorem dX11_tell_62 : decode cX11_tell 62 = .ok (.aload_n 0, 1) := by decide +kernel
theorem dX11_tell_63 : decode cX11_tell 63 = .ok (.aload_n 0, 1) := by decide +kernel
theorem dX11_tell_64 : decode cX11_tell 64 = .ok (.getfield 83, 3) := by decide +kernel
theorem dX11_tell_67 : decode cX11_tell 67 = .ok (.iload_n 1, 1) := by decide +kernel
theorem dX11_tell_68 : decode cX11_tell 68 = .ok (.iload_n 2, 1) := by decide +kernel
theorem dX11_tell_69 : decode cX11_tell 69 = .ok (.iload_n 3, 1) := by decide +kernel
theorem dX11_tell_70 : decode cX11_tell 70 = .ok (.invokevirtual 243, 3) := by decide +kernel
theorem dX11_tell_73 : decode cX11_tell 73 = .ok (.invokevirtual 104, 3) := by decide +kernel
theorem dX11_tell_76 : decode cX11_tell 76 = .ok (.ireturn, 1) := by decide +kernel
theorem dX11_of_0 : decode cX11_of 0 = .ok (.aload_n 0, 1) := by decide +kernel
theorem dX11_of_1 : decode cX11_of 1 = .ok (.getfield 83, 3) := by decide +kernel
theorem dX11_of_4 : decode cX11_of 4 = .ok (.iload_n 1, 1) := by decide +kernel
theorem dX11_of_5 : decode cX11_of 5 = .ok (.invokevirtual 236, 3) := by decide +kernel
theorem dX11_of_8 : decode cX11_of 8 = .ok (.ifCond .eq 13, 3) := by decide +kernel
theorem dX11_of_11 : decode cX11_of 11 = .ok (.iload_n 2, 1) := by decide +kernel
theorem dX11_of_12 : decode cX11_of 12 = .ok (.sipush 3000, 3) := by decide +kernel
theorem dX11_of_15 : decode cX11_of 15 = .ok (.invokestatic 162, 3) := by decide +kernel
theorem dX11_of_18 : decode cX11_of 18 = .ok (.ifCond .ne 6, 3) := by decide +kernel
theorem dX11_of_21 : decode cX11_of 21 = .ok (.bipush (-2), 2) := by decide +kernel
theorem dX11_of_23 : decode cX11_of 23 = .ok (.ireturn, 1) := by decide +kernel
theorem dX11_of_24 : decode cX11_of 24 = .ok (.aload_n 0, 1) := by decide +kernel
theorem dX11_of_25 : decode cX11_of 25 = .ok (.getfield 83, 3) := by decide +kernel
theorem dX11_of_28 : decode cX11_of 28 = .ok (.iload_n 1, 1) := by decide +kernel
theorem dX11_of_29 : decode cX11_of 29 = .ok (.iload_n 2, 1) := by decide +kernel
theorem dX11_of_30 : decode cX11_of 30 = .ok (.invokevirtual 247, 3) := by decide +kernel
theorem dX11_of_33 : decode cX11_of 33 = .ok (.ireturn, 1) := by decide +kernel
theorem dX11_by_0 : decode cX11_by 0 = .ok (.aload_n 0, 1) := by decide +kernel
theorem dX11_by_1 : decode cX11_by 1 = .ok (.getfield 83, 3) := by decide +kernel
theorem dX11_by_4 : decode cX11_by 4 = .ok (.iload_n 1, 1) := by decide +kernel
theorem dX11_by_5 : decode cX11_by 5 = .ok (.invokevirtual 236, 3) := by decide +kernel
theorem dX11_by_8 : decode cX11_by 8 = .ok (.ifCond .eq 13, 3) := by decide +kernel
theorem dX11_by_11 : decode cX11_by 11 = .ok (.iload_n 2, 1) := by decide +kernel
theorem dX11_by_12 : decode cX11_by 12 = .ok (.sipush 3000, 3) := by decide +kernel
theorem dX11_by_15 : decode cX11_by 15 = .ok (.invokestatic 162, 3) := by decide +kernel
theorem dX11_by_18 : decode cX11_by 18 = .ok (.ifCond .ne 6, 3) := by decide +kernel
theorem dX11_by_21 : decode cX11_by 21 = .ok (.bipush (-2), 2) := by decide +kernel
theorem dX11_by_23 : decode cX11_by 23 = .ok (.ireturn, 1) := by decide +kernel
theorem dX11_by_24 : decode cX11_by 24 = .ok (.aload_n 0, 1) := by decide +kernel
theorem dX11_by_25 : decode cX11_by 25 = .ok (.getfield 83, 3) := by decide +kernel
theorem dX11_by_28 : decode cX11_by 28 = .ok (.iload_n 1, 1) := by decide +kernel
theorem dX11_by_29 : decode cX11_by 29 = .ok (.iload_n 2, 1) := by decide +kernel
theorem dX11_by_30 : decode cX11_by 30 = .ok (.invokevirtual 250, 3) := by decide +kernel
theorem dX11_by_33 : decode cX11_by 33 = .ok (.ireturn, 1) := by decide +kernel
theorem dX11_count_0 : decode cX11_count 0 = .ok (.iload_n 1, 1) := by decide +kernel
theorem dX11_count_1 : decode cX11_count 1 = .ok (.tableswitch 99 0 6 #[43, 51, 59, 67, 75, 83, 91], 43) := by decide +kernel
theorem dX11_count_44 : decode cX11_count 44 = .ok (.aload_n 0, 1) := by decide +kernel
theorem dX11_count_45 : decode cX11_count 45 = .ok (.getfield 31, 3) := by decide +kernel
theorem dX11_count_48 : decode cX11_count 48 = .ok (.invokevirtual 253, 3) := by decide +kernel
theorem dX11_count_51 : decode cX11_count 51 = .ok (.ireturn, 1) := by decide +kernel
theorem dX11_count_52 : decode cX11_count 52 = .ok (.aload_n 0, 1) := by decide +kernel
theorem dX11_count_53 : decode cX11_count 53 = .ok (.getfield 31, 3) := by decide +kernel
theorem dX11_count_56 : decode cX11_count 56 = .ok (.invokevirtual 256, 3) := by decide +kernel
theorem dX11_count_59 : decode cX11_count 59 = .ok (.ireturn, 1) := by decide +kernel
theorem dX11_count_60 : decode cX11_count 60 = .ok (.aload_n 0, 1) := by decide +kernel
theorem dX11_count_61 : decode cX11_count 61 = .ok (.getfield 43, 3) := by decide +kernel
theorem dX11_count_64 : decode cX11_count 64 = .ok (.invokevirtual 259, 3) := by decide +kernel
theorem dX11_count_67 : decode cX11_count 67 = .ok (.ireturn, 1) := by decide +kernel
theorem dX11_count_68 : decode cX11_count 68 = .ok (.aload_n 0, 1) := by decide +kernel
theorem dX11_count_69 : decode cX11_count 69 = .ok (.getfield 90, 3) := by decide +kernel
theorem dX11_count_72 : decode cX11_count 72 = .ok (.invokevirtual 218, 3) := by decide +kernel
theorem dX11_count_75 : decode cX11_count 75 = .ok (.ireturn, 1) := by decide +kernel
theorem dX11_count_76 : decode cX11_count 76 = .ok (.aload_n 0, 1) := by decide +kernel
theorem dX11_count_77 : decode cX11_count 77 = .ok (.getfield 83, 3) := by decide +kernel
theorem dX11_count_80 : decode cX11_count 80 = .ok (.invokevirtual 260, 3) := by decide +kernel
theorem dX11_count_83 : decode cX11_count 83 = .ok (.ireturn, 1) := by decide +kernel
theorem dX11_count_84 : decode cX11_count 84 = .ok (.aload_n 0, 1) := by decide +kernel
theorem dX11_count_85 : decode cX11_count 85 = .ok (.getfield 83, 3) := by decide +kernel
theorem dX11_count_88 : decode cX11_count 88 = .ok (.invokevirtual 261, 3) := by decide +kernel
theorem dX11_count_91 : decode cX11_count 91 = .ok (.ireturn, 1) := by decide +kernel
theorem dX11_count_92 : decode cX11_count 92 = .ok (.aload_n 0, 1) := by decide +kernel
theorem dX11_count_93 : decode cX11_count 93 = .ok (.getfield 58, 3) := by decide +kernel
theorem dX11_count_96 : decode cX11_count 96 = .ok (.invokevirtual 204, 3) := by decide +kernel
theorem dX11_count_99 : decode cX11_count 99 = .ok (.ireturn, 1) := by decide +kernel
theorem dX11_count_100 : decode cX11_count 100 = .ok (.iconst (-1), 1) := by decide +kernel
theorem dX11_count_101 : decode cX11_count 101 = .ok (.ireturn, 1) := by decide +kernel
theorem dX11_status_0 : decode cX11_status 0 = .ok (.aload_n 0, 1) := by decide +kernel
theorem dX11_status_1 : decode cX11_status 1 = .ok (.getfield 101, 3) := by decide +kernel
theorem dX11_status_4 : decode cX11_status 4 = .ok (.ireturn, 1) := by decide +kernel
theorem dX11_answered_0 : decode cX11_answered 0 = .ok (.aload_n 0, 1) := by decide +kernel
theorem dX11_answered_1 : decode cX11_answered 1 = .ok (.iload_n 1, 1) := by decide +kernel
theorem dX11_answered_2 : decode cX11_answered 2 = .ok (.iconst 0, 1) := by decide +kernel
theorem dX11_answered_3 : decode cX11_answered 3 = .ok (.invokestatic 264, 3) := by decide +kernel
theorem dX11_answered_6 : decode cX11_answered 6 = .ok (.putfield 101, 3) := by decide +kernel
theorem dX11_answered_9 : decode cX11_answered 9 = .ok (.iload_n 1, 1) := by decide +kernel
theorem dX11_answered_10 : decode cX11_answered 10 = .ok (.ireturn, 1) := by decide +kernel
theorem dX11_howManyPieces_0 : decode cX11_howManyPieces 0 = .ok (.iload_n 1, 1) := by decide +kernel
theorem dX11_howManyPieces_1 : decode cX11_howManyPieces 1 = .ok (.tableswitch 51 0 2 #[27, 35, 43], 27) := by decide +kernel
theorem dX11_howManyPieces_28 : decode cX11_howManyPieces 28 = .ok (.aload_n 0, 1) := by decide +kernel
theorem dX11_howManyPieces_29 : decode cX11_howManyPieces 29 = .ok (.getfield 39, 3) := by decide +kernel
theorem dX11_howManyPieces_32 : decode cX11_howManyPieces 32 = .ok (.invokevirtual 269, 3) := by decide +kernel
theorem dX11_howManyPieces_35 : decode cX11_howManyPieces 35 = .ok (.ireturn, 1) := by decide +kernel
theorem dX11_howManyPieces_36 : decode cX11_howManyPieces 36 = .ok (.aload_n 0, 1) := by decide +kernel
theorem dX11_howManyPieces_37 : decode cX11_howManyPieces 37 = .ok (.getfield 39, 3) := by decide +kernel
theorem dX11_howManyPieces_40 : decode cX11_howManyPieces 40 = .ok (.invokevirtual 272, 3) := by decide +kernel
theorem dX11_howManyPieces_43 : decode cX11_howManyPieces 43 = .ok (.ireturn, 1) := by decide +kernel
theorem dX11_howManyPieces_44 : decode cX11_howManyPieces 44 = .ok (.aload_n 0, 1) := by decide +kernel
theorem dX11_howManyPieces_45 : decode cX11_howManyPieces 45 = .ok (.getfield 39, 3) := by decide +kernel
theorem dX11_howManyPieces_48 : decode cX11_howManyPieces 48 = .ok (.invokevirtual 275, 3) := by decide +kernel
theorem dX11_howManyPieces_51 : decode cX11_howManyPieces 51 = .ok (.ireturn, 1) := by decide +kernel
theorem dX11_howManyPieces_52 : decode cX11_howManyPieces 52 = .ok (.iconst (-1), 1) := by decide +kernel
theorem dX11_howManyPieces_53 : decode cX11_howManyPieces 53 = .ok (.ireturn, 1) := by decide +kernel
theorem dX11_isSort_0 : decode cX11_isSort 0 = .ok (.iload_n 0, 1) := by decide +kernel
theorem dX11_isSort_1 : decode cX11_isSort 1 = .ok (.ifCond .lt 8, 3) := by decide +kernel
theorem dX11_isSort_4 : decode cX11_isSort 4 = .ok (.iload_n 0, 1) := by decide +kernel
theorem dX11_isSort_5 : decode cX11_isSort 5 = .ok (.iconst 4, 1) := by decide +kernel
theorem dX11_isSort_6 : decode cX11_isSort 6 = .ok (.if_icmp .le 10, 3) := by decide +kernel
theorem dX11_isSort_9 : decode cX11_isSort 9 = .ok (.iload_n 0, 1) := by decide +kernel
theorem dX11_isSort_10 : decode cX11_isSort 10 = .ok (.invokestatic 278, 3) := by decide +kernel
theorem dX11_isSort_13 : decode cX11_isSort 13 = .ok (.ifCond .eq 7, 3) := by decide +kernel
theorem dX11_isSort_16 : decode cX11_isSort 16 = .ok (.iconst 1, 1) := by decide +kernel
theorem dX11_isSort_17 : decode cX11_isSort 17 = .ok (.goto 4, 3) := by decide +kernel
theorem dX11_isSort_20 : decode cX11_isSort 20 = .ok (.iconst 0, 1) := by decide +kernel
theorem dX11_isSort_21 : decode cX11_isSort 21 = .ok (.ireturn, 1) := by decide +kernel
theorem dX11_isClay_0 : decode cX11_isClay 0 = .ok (.iload_n 0, 1) := by decide +kernel
theorem dX11_isClay_1 : decode cX11_isClay 1 = .ok (.bipush 10, 2) := by decide +kernel
theorem dX11_isClay_3 : decode cX11_isClay 3 = .ok (.if_icmp .lt 13, 3) := by decide +kernel
theorem dX11_isClay_6 : decode cX11_isClay 6 = .ok (.iload_n 0, 1) := by decide +kernel
theorem dX11_isClay_7 : decode cX11_isClay 7 = .ok (.bipush 18, 2) := by decide +kernel
theorem dX11_isClay_9 : decode cX11_isClay 9 = .ok (.if_icmp .ge 7, 3) := by decide +kernel
theorem dX11_isClay_12 : decode cX11_isClay 12 = .ok (.iconst 1, 1) := by decide +kernel
theorem dX11_isClay_13 : decode cX11_isClay 13 = .ok (.goto 4, 3) := by decide +kernel
theorem dX11_isClay_16 : decode cX11_isClay 16 = .ok (.iconst 0, 1) := by decide +kernel
theorem dX11_isClay_17 : decode cX11_isClay 17 = .ok (.ireturn, 1) := by decide +kernel
theorem dX11_isWithin_0 : decode cX11_isWithin 0 = .ok (.iload_n 0, 1) := by decide +kernel
theorem dX11_isWithin_1 : decode cX11_isWithin 1 = .ok (.ifCond .lt 12, 3) := by decide +kernel
theorem dX11_isWithin_4 : decode cX11_isWithin 4 = .ok (.iload_n 0, 1) := by decide +kernel
theorem dX11_isWithin_5 : decode cX11_isWithin 5 = .ok (.iload_n 1, 1) := by decide +kernel
theorem dX11_isWithin_6 : decode cX11_isWithin 6 = .ok (.if_icmp .gt 7, 3) := by decide +kernel
theorem dX11_isWithin_9 : decode cX11_isWithin 9 = .ok (.iconst 1, 1) := by decide +kernel
theorem dX11_isWithin_10 : decode cX11_isWithin 10 = .ok (.goto 4, 3) := by decide +kernel
theorem dX11_isWithin_13 : decode cX11_isWithin 13 = .ok (.iconst 0, 1) := by decide +kernel
theorem dX11_isWithin_14 : decode cX11_isWithin 14 = .ok (.ireturn, 1) := by decide +kernel
end
section
theorem dX12_init_0 : decode cX12_init 0 = .ok (.aload_n 0, 1) := by decide +kernel
theorem dX12_init_1 : decode cX12_init 1 = .ok (.invokespecial 1, 3) := by decide +kernel
theorem dX12_init_4 : decode cX12_init 4 = .ok (.aload_n 0, 1) := by decide +kernel
theorem dX12_init_5 : decode cX12_init 5 = .ok (.bipush 8, 2) := by decide +kernel
theorem dX12_init_7 : decode cX12_init 7 = .ok (.putfield 7, 3) := by decide +kernel
theorem dX12_init_10 : decode cX12_init 10 = .ok (.aload_n 0, 1) := by decide +kernel
theorem dX12_init_11 : decode cX12_init 11 = .ok (.bipush 8, 2) := by decide +kernel
theorem dX12_init_13 : decode cX12_init 13 = .ok (.putfield 13, 3) := by decide +kernel
theorem dX12_init_16 : decode cX12_init 16 = .ok (.aload_n 0, 1) := by decide +kernel
theorem dX12_init_17 : decode cX12_init 17 = .ok (.sipush 144, 3) := by decide +kernel
theorem dX12_init_20 : decode cX12_init 20 = .ok (.newarray .int, 2) := by decide +kernel
theorem dX12_init_22 : decode cX12_init 22 = .ok (.putfield 16, 3) := by decide +kernel
theorem dX12_init_25 : decode cX12_init 25 = .ok (.aload_n 0, 1) := by decide +kernel
theorem dX12_init_26 : decode cX12_init 26 = .ok (.sipush 144, 3) := by decide +kernel
theorem dX12_init_29 : decode cX12_init 29 = .ok (.newarray .boolean, 2) := by decide +kernel
theorem dX12_init_31 : decode cX12_init 31 = .ok (.putfield 20, 3) := by decide +kernel
theorem dX12_init_34 : decode cX12_init 34 = .ok (.aload_n 0, 1) := by decide +kernel
theorem dX12_init_35 : decode cX12_init 35 = .ok (.sipush 144, 3) := by decide +kernel
theorem dX12_init_38 : decode cX12_init 38 = .ok (.newarray .int, 2) := by decide +kernel
theorem dX12_init_40 : decode cX12_init 40 = .ok (.putfield 24, 3) := by decide +kernel
theorem dX12_init_43 : decode cX12_init 43 = .ok (.aload_n 0, 1) := by decide +kernel
theorem dX12_init_44 : decode cX12_init 44 = .ok (.sipush 144, 3) := by decide +kernel
theorem dX12_init_47 : decode cX12_init 47 = .ok (.newarray .int, 2) := by decide +kernel
theorem dX12_init_49 : decode cX12_init 49 = .ok (.putfield 27, 3) := by decide +kernel
theorem dX12_init_52 : decode cX12_init 52 = .ok (.aload_n 0, 1) := by decide +kernel
theorem dX12_init_53 : decode cX12_init 53 = .ok (.bipush 8, 2) := by decide +kernel
theorem dX12_init_55 : decode cX12_init 55 = .ok (.newarray .boolean, 2) := by decide +kernel
theorem dX12_init_57 : decode cX12_init 57 = .ok (.putfield 30, 3) := by decide +kernel
theorem dX12_init_60 : decode cX12_init 60 = .ok (.aload_n 0, 1) := by decide +kernel
theorem dX12_init_61 : decode cX12_init 61 = .ok (.bipush 8, 2) := by decide +kernel
theorem dX12_init_63 : decode cX12_init 63 = .ok (.newarray .boolean, 2) := by decide +kernel
theorem dX12_init_65 : decode cX12_init 65 = .ok (.putfield 33, 3) := by decide +kernel
theorem dX12_init_68 : decode cX12_init 68 = .ok (.aload_n 0, 1) := by decide +kernel
theorem dX12_init_69 : decode cX12_init 69 = .ok (.bipush 8, 2) := by decide +kernel
theorem dX12_init_71 : decode cX12_init 71 = .ok (.newarray .int, 2) := by decide +kernel
theorem dX12_init_73 : decode cX12_init 73 = .ok (.putfield 36, 3) := by decide +kernel
theorem dX12_init_76 : decode cX12_init 76 = .ok (.aload_n 0, 1) := by decide +kernel
theorem dX12_init_77 : decode cX12_init 77 = .ok (.bipush 8, 2) := by decide +kernel
theorem dX12_init_79 : decode cX12_init 79 = .ok (.newarray .int, 2) := by decide +kernel
theorem dX12_init_81 : decode cX12_init 81 = .ok (.putfield 39, 3) := by decide +kernel
theorem dX12_init_84 : decode cX12_init 84 = .ok (.aload_n 0, 1) := by decide +kernel
theorem dX12_init_85 : decode cX12_init 85 = .ok (.bipush 6, 2) := by decide +kernel
theorem dX12_init_87 : decode cX12_init 87 = .ok (.newarray .int, 2) := by decide +kernel
theorem dX12_init_89 : decode cX12_init 89 = .ok (.putfield 42, 3) := by decide +kernel
theorem dX12_init_92 : decode cX12_init 92 = .ok (.aload_n 0, 1) := by decide +kernel
theorem dX12_init_93 : decode cX12_init 93 = .ok (.bipush 6, 2) := by decide +kernel
theorem dX12_init_95 : decode cX12_init 95 = .ok (.newarray .int, 2) := by decide +kernel
theorem dX12_init_97 : decode cX12_init 97 = .ok (.putfield 45, 3) := by decide +kernel
theorem dX12_init_100 : decode cX12_init 100 = .ok (.aload_n 0, 1) := by decide +kernel
theorem dX12_init_101 : decode cX12_init 101 = .ok (.bipush 6, 2) := by decide +kernel
theorem dX12_init_103 : decode cX12_init 103 = .ok (.newarray .int, 2) := by decide +kernel
theorem dX12_init_105 : decode cX12_init 105 = .ok (.putfield 48, 3) := by decide +kernel
theorem dX12_init_108 : decode cX12_init 108 = .ok (.aload_n 0, 1) := by decide +kernel
theorem dX12_init_109 : decode cX12_init 109 = .ok (.bipush 6, 2) := by decide +kernel
theorem dX12_init_111 : decode cX12_init 111 = .ok (.newarray .int, 2) := by decide +kernel
theorem dX12_init_113 : decode cX12_init 113 = .ok (.putfield 51, 3) := by decide +kernel
theorem dX12_init_116 : decode cX12_init 116 = .ok (.aload_n 0, 1) := by decide +kernel
theorem dX12_init_117 : decode cX12_init 117 = .ok (.bipush 6, 2) := by decide +kernel
theorem dX12_init_119 : decode cX12_init 119 = .ok (.newarray .int, 2) := by decide +kernel
theorem dX12_init_121 : decode cX12_init 121 = .ok (.putfield 54, 3) := by decide +kernel
theorem dX12_init_124 : decode cX12_init 124 = .ok (.aload_n 0, 1) := by decide +kernel
theorem dX12_init_125 : decode cX12_init 125 = .ok (.iconst (-1), 1) := by decide +kernel
theorem dX12_init_126 : decode cX12_init 126 = .ok (.putfield 57, 3) := by decide +kernel
theorem dX12_init_129 : decode cX12_init 129 = .ok (.aload_n 0, 1) := by decide +kernel
theorem dX12_init_130 : decode cX12_init 130 = .ok (.bipush 7, 2) := by decide +kernel
theorem dX12_init_132 : decode cX12_init 132 = .ok (.newarray .int, 2) := by decide +kernel
theorem dX12_init_134 : decode cX12_init 134 = .ok (.putfield 60, 3) := by decide +kernel
theorem dX12_init_137 : decode cX12_init 137 = .ok (.aload_n 0, 1) := by decide +kernel
theorem dX12_init_138 : decode cX12_init 138 = .ok (.bipush 6, 2) := by decide +kernel
theorem dX12_init_140 : decode cX12_init 140 = .ok (.newarray .int, 2) := by decide +kernel
theorem dX12_init_142 : decode cX12_init 142 = .ok (.putfield 63, 3) := by decide +kernel
theorem dX12_init_145 : decode cX12_init 145 = .ok (.aload_n 0, 1) := by decide +kernel
theorem dX12_init_146 : decode cX12_init 146 = .ok (.bipush 20, 2) := by decide +kernel
theorem dX12_init_148 : decode cX12_init 148 = .ok (.newarray .int, 2) := by decide +kernel
theorem dX12_init_150 : decode cX12_init 150 = .ok (.putfield 66, 3) := by decide +kernel
theorem dX12_init_153 : decode cX12_init 153 = .ok (.aload_n 0, 1) := by decide +kernel
theorem dX12_init_154 : decode cX12_init 154 = .ok (.bipush 20, 2) := by decide +kernel
theorem dX12_init_156 : decode cX12_init 156 = .ok (.newarray .int, 2) := by decide +kernel
theorem dX12_init_158 : decode cX12_init 158 = .ok (.putfield 69, 3) := by decide +kernel
theorem dX12_init_161 : decode cX12_init 161 = .ok (.aload_n 0, 1) := by decide +kernel
theorem dX12_init_162 : decode cX12_init 162 = .ok (.bipush 20, 2) := by decide +kernel
theorem dX12_init_164 : decode cX12_init 164 = .ok (.newarray .int, 2) := by decide +kernel
theorem dX12_init_166 : decode cX12_init 166 = .ok (.putfield 72, 3) := by decide +kernel
theorem dX12_init_169 : decode cX12_init 169 = .ok (.aload_n 0, 1) := by decide +kernel
theorem dX12_init_170 : decode cX12_init 170 = .ok (.bipush 60, 2) := by decide +kernel
theorem dX12_init_172 : decode cX12_init 172 = .ok (.newarray .int, 2) := by decide +kernel
theorem dX12_init_174 : decode cX12_init 174 = .ok (.putfield 75, 3) := by decide +kernel
theorem dX12_init_177 : decode cX12_init 177 = .ok (.aload_n 0, 1) := by decide +kernel
theorem dX12_init_178 : decode cX12_init 178 = .ok (.sipush 300, 3) := by decide +kernel
theorem dX12_init_181 : decode cX12_init 181 = .ok (.newarray .int, 2) := by decide +kernel
theorem dX12_init_183 : decode cX12_init 183 = .ok (.putfield 78, 3) := by decide +kernel
theorem dX12_init_186 : decode cX12_init 186 = .ok (.aload_n 0, 1) := by decide +kernel
theorem dX12_init_187 : decode cX12_init 187 = .ok (.iconst (-1), 1) := by decide +kernel
theorem dX12_init_188 : decode cX12_init 188 = .ok (.putfield 81, 3) := by decide +kernel
theorem dX12_init_191 : decode cX12_init 191 = .ok (.aload_n 0, 1) := by decide +kernel
theorem dX12_init_192 : decode cX12_init 192 = .ok (.sipush 320, 3) := by decide +kernel
theorem dX12_init_195 : decode cX12_init 195 = .ok (.newarray .int, 2) := by decide +kernel
theorem dX12_init_197 : decode cX12_init 197 = .ok (.putfield 84, 3) := by decide +kernel
theorem dX12_init_200 : decode cX12_init 200 = .ok (.aload_n 0, 1) := by decide +kernel
theorem dX12_init_201 : decode cX12_init 201 = .ok (.sipush 150, 3) := by decide +kernel
theorem dX12_init_204 : decode cX12_init 204 = .ok (.newarray .int, 2) := by decide +kernel
theorem dX12_init_206 : decode cX12_init 206 = .ok (.putfield 87, 3) := by decide +kernel
theorem dX12_init_209 : decode cX12_init 209 = .ok (.aload_n 0, 1) := by decide +kernel
theorem dX12_init_210 : decode cX12_init 210 = .ok (.sipush 150, 3) := by decide +kernel
theorem dX12_init_213 : decode cX12_init 213 = .ok (.newarray .int, 2) := by decide +kernel
theorem dX12_init_215 : decode cX12_init 215 = .ok (.putfield 90, 3) := by decide +kernel
theorem dX12_init_218 : decode cX12_init 218 = .ok (.aload_n 0, 1) := by decide +kernel
theorem dX12_init_219 : decode cX12_init 219 = .ok (.sipush 150, 3) := by decide +kernel
theorem dX12_init_222 : decode cX12_init 222 = .ok (.newarray .int, 2) := by decide +kernel
theorem dX12_init_224 : decode cX12_init 224 = .ok (.putfield 93, 3) := by decide +kernel
theorem dX12_init_227 : decode cX12_init 227 = .ok (.return_, 1) := by decide +kernel
theorem dX12_in_0 : decode cX12_in 0 = .ok (.lload_n 0, 1) := by decide +kernel
theorem dX12_in_1 : decode cX12_in 1 = .ok (.lload_n 2, 1) := by decide +kernel
theorem dX12_in_2 : decode cX12_in 2 = .ok (.lcmp, 1) := by decide +kernel
theorem dX12_in_3 : decode cX12_in 3 = .ok (.ifCond .lt 14, 3) := by decide +kernel
theorem dX12_in_6 : decode cX12_in 6 = .ok (.lload_n 0, 1) := by decide +kernel
theorem dX12_in_7 : decode cX12_in 7 = .ok (.lload 4, 2) := by decide +kernel
theorem dX12_in_9 : decode cX12_in 9 = .ok (.lcmp, 1) := by decide +kernel
theorem dX12_in_10 : decode cX12_in 10 = .ok (.ifCond .gt 7, 3) := by decide +kernel
theorem dX12_in_13 : decode cX12_in 13 = .ok (.iconst 1, 1) := by decide +kernel
theorem dX12_in_14 : decode cX12_in 14 = .ok (.goto 4, 3) := by decide +kernel
theorem dX12_in_17 : decode cX12_in 17 = .ok (.iconst 0, 1) := by decide +kernel
theorem dX12_in_18 : decode cX12_in 18 = .ok (.ireturn, 1) := by decide +kernel
theorem dX12_told_0 : decode cX12_told 0 = .ok (.aload_n 0, 1) := by decide +kernel
theorem dX12_told_1 : decode cX12_told 1 = .ok (.iload_n 1, 1) := by decide +kernel
theorem dX12_told_2 : decode cX12_told 2 = .ok (.ifCond .ge 7, 3) := by decide +kernel
theorem dX12_told_5 : decode cX12_told 5 = .ok (.iload_n 1, 1) := by decide +kernel
theorem dX12_told_6 : decode cX12_told 6 = .ok (.goto 4, 3) := by decide +kernel
theorem dX12_told_9 : decode cX12_told 9 = .ok (.iconst 0, 1) := by decide +kernel
theorem dX12_told_10 : decode cX12_told 10 = .ok (.putfield 99, 3) := by decide +kernel
theorem dX12_told_13 : decode cX12_told 13 = .ok (.iload_n 1, 1) := by decide +kernel
theorem dX12_told_14 : decode cX12_told 14 = .ok (.ireturn, 1) := by decide +kernel
theorem dX12_isCell_0 : decode cX12_isCell 0 = .ok (.iload_n 1, 1) := by decide +kernel
theorem dX12_isCell_1 : decode cX12_isCell 1 = .ok (.i2l, 1) := by decide +kernel
theorem dX12_isCell_2 : decode cX12_isCell 2 = .ok (.lconst 0, 1) := by decide +kernel
theorem dX12_isCell_3 : decode cX12_isCell 3 = .ok (.aload_n 0, 1) := by decide +kernel
theorem dX12_isCell_4 : decode cX12_isCell 4 = .ok (.getfield 7, 3) := by decide +kernel
theorem dX12_isCell_7 : decode cX12_isCell 7 = .ok (.i2l, 1) := by decide +kernel
theorem dX12_isCell_8 : decode cX12_isCell 8 = .ok (.lconst 1, 1) := by decide +kernel
theorem dX12_isCell_9 : decode cX12_isCell 9 = .ok (.lsub, 1) := by decide +kernel
theorem dX12_isCell_10 : decode cX12_isCell 10 = .ok (.invokestatic 102, 3) := by decide +kernel
theorem dX12_isCell_13 : decode cX12_isCell 13 = .ok (.ifCond .eq 23, 3) := by decide +kernel
theorem dX12_isCell_16 : decode cX12_isCell 16 = .ok (.iload_n 2, 1) := by decide +kernel
theorem dX12_isCell_17 : decode cX12_isCell 17 = .ok (.i2l, 1) := by decide +kernel
theorem dX12_isCell_18 : decode cX12_isCell 18 = .ok (.lconst 0, 1) := by decide +kernel
theorem dX12_isCell_19 : decode cX12_isCell 19 = .ok (.aload_n 0, 1) := by decide +kernel
theorem dX12_isCell_20 : decode cX12_isCell 20 = .ok (.getfield 13, 3) := by decide +kernel
theorem dX12_isCell_23 : decode cX12_isCell 23 = .ok (.i2l, 1) := by decide +kernel
theorem dX12_isCell_24 : decode cX12_isCell 24 = .ok (.lconst 1, 1) := by decide +kernel
theorem dX12_isCell_25 : decode cX12_isCell 25 = .ok (.lsub, 1) := by decide +kernel
theorem dX12_isCell_26 : decode cX12_isCell 26 = .ok (.invokestatic 102, 3) := by decide +kernel
theorem dX12_isCell_29 : decode cX12_isCell 29 = .ok (.ifCond .eq 7, 3) := by decide +kernel
theorem dX12_isCell_32 : decode cX12_isCell 32 = .ok (.iconst 1, 1) := by decide +kernel
theorem dX12_isCell_33 : decode cX12_isCell 33 = .ok (.goto 4, 3) := by decide +kernel
theorem dX12_isCell_36 : decode cX12_isCell 36 = .ok (.iconst 0, 1) := by decide +kernel
theorem dX12_isCell_37 : decode cX12_isCell 37 = .ok (.ireturn, 1) := by decide +kernel
theorem dX12_forget_0 : decode cX12_forget 0 = .ok (.aload_n 0, 1) := by decide +kernel
theorem dX12_forget_1 : decode cX12_forget 1 = .ok (.iconst 0, 1) := by decide +kernel
theorem dX12_forget_2 : decode cX12_forget 2 = .ok (.putfield 106, 3) := by decide +kernel
theorem dX12_forget_5 : decode cX12_forget 5 = .ok (.iconst 0, 1) := by decide +kernel
theorem dX12_forget_6 : decode cX12_forget 6 = .ok (.istore_n 1, 1) := by decide +kernel
theorem dX12_forget_7 : decode cX12_forget 7 = .ok (.iload_n 1, 1) := by decide +kernel
theorem dX12_forget_8 : decode cX12_forget 8 = .ok (.sipush 144, 3) := by decide +kernel
theorem dX12_forget_11 : decode cX12_forget 11 = .ok (.if_icmp .ge 16, 3) := by decide +kernel
theorem dX12_forget_14 : decode cX12_forget 14 = .ok (.aload_n 0, 1) := by decide +kernel
theorem dX12_forget_15 : decode cX12_forget 15 = .ok (.getfield 20, 3) := by decide +kernel
theorem dX12_forget_18 : decode cX12_forget 18 = .ok (.iload_n 1, 1) := by decide +kernel
theorem dX12_forget_19 : decode cX12_forget 19 = .ok (.iconst 0, 1) := by decide +kernel
theorem dX12_forget_20 : decode cX12_forget 20 = .ok (.bastore, 1) := by decide +kernel
theorem dX12_forget_21 : decode cX12_forget 21 = .ok (.iinc 1 1, 3) := by decide +kernel
theorem dX12_forget_24 : decode cX12_forget 24 = .ok (.goto (-17), 3) := by decide +kernel
theorem dX12_forget_27 : decode cX12_forget 27 = .ok (.return_, 1) := by decide +kernel
theorem dX12_size_0 : decode cX12_size 0 = .ok (.aload_n 0, 1) := by decide +kernel
theorem dX12_size_1 : decode cX12_size 1 = .ok (.iconst 0, 1) := by decide +kernel
theorem dX12_size_2 : decode cX12_size 2 = .ok (.putfield 96, 3) := by decide +kernel
theorem dX12_size_5 : decode cX12_size 5 = .ok (.iload_n 1, 1) := by decide +kernel
theorem dX12_size_6 : decode cX12_size 6 = .ok (.i2l, 1) := by decide +kernel
theorem dX12_size_7 : decode cX12_size 7 = .ok (.ldc2_w 109, 3) := by decide +kernel
theorem dX12_size_10 : decode cX12_size 10 = .ok (.ldc2_w 111, 3) := by decide +kernel
theorem dX12_size_13 : decode cX12_size 13 = .ok (.invokestatic 102, 3) := by decide +kernel
theorem dX12_size_16 : decode cX12_size 16 = .ok (.ifCond .eq 17, 3) := by decide +kernel
theorem dX12_size_19 : decode cX12_size 19 = .ok (.iload_n 2, 1) := by decide +kernel
theorem dX12_size_20 : decode cX12_size 20 = .ok (.i2l, 1) := by decide +kernel
theorem dX12_size_21 : decode cX12_size 21 = .ok (.ldc2_w 109, 3) := by decide +kernel
theorem dX12_size_24 : decode cX12_size 24 = .ok (.ldc2_w 111, 3) := by decide +kernel
theorem dX12_size_27 : decode cX12_size 27 = .ok (.invokestatic 102, 3) := by decide +kernel
theorem dX12_size_30 : decode cX12_size 30 = .ok (.ifCond .ne 9, 3) := by decide +kernel
theorem dX12_size_33 : decode cX12_size 33 = .ok (.aload_n 0, 1) := by decide +kernel
theorem dX12_size_34 : decode cX12_size 34 = .ok (.iconst (-1), 1) := by decide +kernel
theorem dX12_size_35 : decode cX12_size 35 = .ok (.invokevirtual 113, 3) := by decide +kernel
theorem dX12_size_38 : decode cX12_size 38 = .ok (.ireturn, 1) := by decide +kernel
theorem dX12_size_39 : decode cX12_size 39 = .ok (.aload_n 0, 1) := by decide +kernel
theorem dX12_size_40 : decode cX12_size 40 = .ok (.iload_n 1, 1) := by decide +kernel
theorem dX12_size_41 : decode cX12_size 41 = .ok (.putfield 7, 3) := by decide +kernel
theorem dX12_size_44 : decode cX12_size 44 = .ok (.aload_n 0, 1) := by decide +kernel
theorem dX12_size_45 : decode cX12_size 45 = .ok (.iload_n 2, 1) := by decide +kernel
theorem dX12_size_46 : decode cX12_size 46 = .ok (.putfield 13, 3) := by decide +kernel
theorem dX12_size_49 : decode cX12_size 49 = .ok (.iconst 0, 1) := by decide +kernel
theorem dX12_size_50 : decode cX12_size 50 = .ok (.istore_n 3, 1) := by decide +kernel
theorem dX12_size_51 : decode cX12_size 51 = .ok (.iload_n 3, 1) := by decide +kernel
theorem dX12_size_52 : decode cX12_size 52 = .ok (.sipush 144, 3) := by decide +kernel
theorem dX12_size_55 : decode cX12_size 55 = .ok (.if_icmp .ge 16, 3) := by decide +kernel
theorem dX12_size_58 : decode cX12_size 58 = .ok (.aload_n 0, 1) := by decide +kernel
theorem dX12_size_59 : decode cX12_size 59 = .ok (.getfield 16, 3) := by decide +kernel
theorem dX12_size_62 : decode cX12_size 62 = .ok (.iload_n 3, 1) := by decide +kernel
theorem dX12_size_63 : decode cX12_size 63 = .ok (.iconst 0, 1) := by decide +kernel
theorem dX12_size_64 : decode cX12_size 64 = .ok (.iastore, 1) := by decide +kernel
theorem dX12_size_65 : decode cX12_size 65 = .ok (.iinc 3 1, 3) := by decide +kernel
theorem dX12_size_68 : decode cX12_size 68 = .ok (.goto (-17), 3) := by decide +kernel
theorem dX12_size_71 : decode cX12_size 71 = .ok (.aload_n 0, 1) := by decide +kernel
theorem dX12_size_72 : decode cX12_size 72 = .ok (.invokevirtual 117, 3) := by decide +kernel
theorem dX12_size_75 : decode cX12_size 75 = .ok (.aload_n 0, 1) := by decide +kernel
theorem dX12_size_76 : decode cX12_size 76 = .ok (.iconst 0, 1) := by decide +kernel
theorem dX12_size_77 : decode cX12_size 77 = .ok (.invokevirtual 113, 3) := by decide +kernel
theorem dX12_size_80 : decode cX12_size 80 = .ok (.ireturn, 1) := by decide +kernel
theorem dX12_draw_0 : decode cX12_draw 0 = .ok (.aload_n 0, 1) := by decide +kernel
theorem dX12_draw_1 : decode cX12_draw 1 = .ok (.iconst 0, 1) := by decide +kernel
theorem dX12_draw_2 : decode cX12_draw 2 = .ok (.putfield 96, 3) := by decide +kernel
theorem dX12_draw_5 : decode cX12_draw 5 = .ok (.iload 5, 2) := by decide +kernel
theorem dX12_draw_7 : decode cX12_draw 7 = .ok (.i2l, 1) := by decide +kernel
theorem dX12_draw_8 : decode cX12_draw 8 = .ok (.lconst 0, 1) := by decide +kernel
theorem dX12_draw_9 : decode cX12_draw 9 = .ok (.ldc2_w 120, 3) := by decide +kernel
theorem dX12_draw_12 : decode cX12_draw 12 = .ok (.invokestatic 102, 3) := by decide +kernel
theorem dX12_draw_15 : decode cX12_draw 15 = .ok (.ifCond .ne 18, 3) := by decide +kernel
theorem dX12_draw_18 : decode cX12_draw 18 = .ok (.iload 5, 2) := by decide +kernel
theorem dX12_draw_20 : decode cX12_draw 20 = .ok (.i2l, 1) := by decide +kernel
theorem dX12_draw_21 : decode cX12_draw 21 = .ok (.ldc2_w 122, 3) := by decide +kernel
theorem dX12_draw_24 : decode cX12_draw 24 = .ok (.ldc2_w 124, 3) := by decide +kernel
theorem dX12_draw_27 : decode cX12_draw 27 = .ok (.invokestatic 102, 3) := by decide +kernel
theorem dX12_draw_30 : decode cX12_draw 30 = .ok (.ifCond .eq 14, 3) := by decide +kernel
theorem dX12_draw_33 : decode cX12_draw 33 = .ok (.iload_n 1, 1) := by decide +kernel
theorem dX12_draw_34 : decode cX12_draw 34 = .ok (.iload_n 3, 1) := by decide +kernel
theorem dX12_draw_35 : decode cX12_draw 35 = .ok (.if_icmp .gt 9, 3) := by decide +kernel
theorem dX12_draw_38 : decode cX12_draw 38 = .ok (.iload_n 2, 1) := by decide +kernel
theorem dX12_draw_39 : decode cX12_draw 39 = .ok (.iload 4, 2) := by decide +kernel
theorem dX12_draw_41 : decode cX12_draw 41 = .ok (.if_icmp .le 9, 3) := by decide +kernel
theorem dX12_draw_44 : decode cX12_draw 44 = .ok (.aload_n 0, 1) := by decide +kernel
theorem dX12_draw_45 : decode cX12_draw 45 = .ok (.iconst (-1), 1) := by decide +kernel
theorem dX12_draw_46 : decode cX12_draw 46 = .ok (.invokevirtual 113, 3) := by decide +kernel
theorem dX12_draw_49 : decode cX12_draw 49 = .ok (.ireturn, 1) := by decide +kernel
theorem dX12_draw_50 : decode cX12_draw 50 = .ok (.aload_n 0, 1) := by decide +kernel
theorem dX12_draw_51 : decode cX12_draw 51 = .ok (.iload_n 1, 1) := by decide +kernel
theorem dX12_draw_52 : decode cX12_draw 52 = .ok (.iload_n 2, 1) := by decide +kernel
theorem dX12_draw_53 : decode cX12_draw 53 = .ok (.invokevirtual 126, 3) := by decide +kernel
theorem dX12_draw_56 : decode cX12_draw 56 = .ok (.ifCond .eq 13, 3) := by decide +kernel
theorem dX12_draw_59 : decode cX12_draw 59 = .ok (.aload_n 0, 1) := by decide +kernel
theorem dX12_draw_60 : decode cX12_draw 60 = .ok (.iload_n 3, 1) := by decide +kernel
theorem dX12_draw_61 : decode cX12_draw 61 = .ok (.iload 4, 2) := by decide +kernel
theorem dX12_draw_63 : decode cX12_draw 63 = .ok (.invokevirtual 126, 3) := by decide +kernel
theorem dX12_draw_66 : decode cX12_draw 66 = .ok (.ifCond .ne 10, 3) := by decide +kernel
theorem dX12_draw_69 : decode cX12_draw 69 = .ok (.aload_n 0, 1) := by decide +kernel
theorem dX12_draw_70 : decode cX12_draw 70 = .ok (.bipush (-2), 2) := by decide +kernel
theorem dX12_draw_72 : decode cX12_draw 72 = .ok (.invokevirtual 113, 3) := by decide +kernel
theorem dX12_draw_75 : decode cX12_draw 75 = .ok (.ireturn, 1) := by decide +kernel
theorem dX12_draw_76 : decode cX12_draw 76 = .ok (.iconst 0, 1) := by decide +kernel
theorem dX12_draw_77 : decode cX12_draw 77 = .ok (.istore 6, 2) := by decide +kernel
theorem dX12_draw_79 : decode cX12_draw 79 = .ok (.iload_n 2, 1) := by decide +kernel
theorem dX12_draw_80 : decode cX12_draw 80 = .ok (.istore 7, 2) := by decide +kernel
theorem dX12_draw_82 : decode cX12_draw 82 = .ok (.iload 7, 2) := by decide +kernel
theorem dX12_draw_84 : decode cX12_draw 84 = .ok (.iload 4, 2) := by decide +kernel
theorem dX12_draw_86 : decode cX12_draw 86 = .ok (.if_icmp .gt 42, 3) := by decide +kernel
theorem dX12_draw_89 : decode cX12_draw 89 = .ok (.iload_n 1, 1) := by decide +kernel
theorem dX12_draw_90 : decode cX12_draw 90 = .ok (.istore 8, 2) := by decide +kernel
theorem dX12_draw_92 : decode cX12_draw 92 = .ok (.iload 8, 2) := by decide +kernel
theorem dX12_draw_94 : decode cX12_draw 94 = .ok (.iload_n 3, 1) := by decide +kernel
theorem dX12_draw_95 : decode cX12_draw 95 = .ok (.if_icmp .gt 27, 3) := by decide +kernel
theorem dX12_draw_98 : decode cX12_draw 98 = .ok (.aload_n 0, 1) := by decide +kernel
theorem dX12_draw_99 : decode cX12_draw 99 = .ok (.getfield 16, 3) := by decide +kernel
theorem dX12_draw_102 : decode cX12_draw 102 = .ok (.bipush 12, 2) := by decide +kernel
theorem dX12_draw_104 : decode cX12_draw 104 = .ok (.iload 7, 2) := by decide +kernel
theorem dX12_draw_106 : decode cX12_draw 106 = .ok (.imul, 1) := by decide +kernel
theorem dX12_draw_107 : decode cX12_draw 107 = .ok (.iload 8, 2) := by decide +kernel
theorem dX12_draw_109 : decode cX12_draw 109 = .ok (.iadd, 1) := by decide +kernel
theorem dX12_draw_110 : decode cX12_draw 110 = .ok (.iload 5, 2) := by decide +kernel
theorem dX12_draw_112 : decode cX12_draw 112 = .ok (.iastore, 1) := by decide +kernel
theorem dX12_draw_113 : decode cX12_draw 113 = .ok (.iinc 6 1, 3) := by decide +kernel
theorem dX12_draw_116 : decode cX12_draw 116 = .ok (.iinc 8 1, 3) := by decide +kernel
theorem dX12_draw_119 : decode cX12_draw 119 = .ok (.goto (-27), 3) := by decide +kernel
theorem dX12_draw_122 : decode cX12_draw 122 = .ok (.iinc 7 1, 3) := by decide +kernel
theorem dX12_draw_125 : decode cX12_draw 125 = .ok (.goto (-43), 3) := by decide +kernel
theorem dX12_draw_128 : decode cX12_draw 128 = .ok (.aload_n 0, 1) := by decide +kernel
theorem dX12_draw_129 : decode cX12_draw 129 = .ok (.invokevirtual 117, 3) := by decide +kernel
theorem dX12_draw_132 : decode cX12_draw 132 = .ok (.aload_n 0, 1) := by decide +kernel
theorem dX12_draw_133 : decode cX12_draw 133 = .ok (.iload 6, 2) := by decide +kernel
theorem dX12_draw_135 : decode cX12_draw 135 = .ok (.invokevirtual 113, 3) := by decide +kernel
theorem dX12_draw_138 : decode cX12_draw 138 = .ok (.ireturn, 1) := by decide +kernel
theorem dX12_isHollow_0 : decode cX12_isHollow 0 = .ok (.aload_n 0, 1) := by decide +kernel
theorem dX12_isHollow_1 : decode cX12_isHollow 1 = .ok (.getfield 16, 3) := by decide +kernel
theorem dX12_isHollow_4 : decode cX12_isHollow 4 = .ok (.iload_n 1, 1) := by decide +kernel
theorem dX12_isHollow_5 : decode cX12_isHollow 5 = .ok (.iaload, 1) := by decide +kernel
theorem dX12_isHollow_6 : decode cX12_isHollow 6 = .ok (.ifCond .eq 23, 3) := by decide +kernel
theorem dX12_isHollow_9 : decode cX12_isHollow 9 = .ok (.aload_n 0, 1) := by decide +kernel
theorem dX12_isHollow_10 : decode cX12_isHollow 10 = .ok (.getfield 16, 3) := by decide +kernel
theorem dX12_isHollow_13 : decode cX12_isHollow 13 = .ok (.iload_n 1, 1) := by decide +kernel
theorem dX12_isHollow_14 : decode cX12_isHollow 14 = .ok (.iaload, 1) := by decide +kernel
theorem dX12_isHollow_15 : decode cX12_isHollow 15 = .ok (.iconst 3, 1) := by decide +kernel
theorem dX12_isHollow_16 : decode cX12_isHollow 16 = .ok (.if_icmp .eq 13, 3) := by decide +kernel
theorem dX12_isHollow_19 : decode cX12_isHollow 19 = .ok (.aload_n 0, 1) := by decide +kernel
theorem dX12_isHollow_20 : decode cX12_isHollow 20 = .ok (.getfield 16, 3) := by decide +kernel
theorem dX12_isHollow_23 : decode cX12_isHollow 23 = .ok (.iload_n 1, 1) := by decide +kernel
theorem dX12_isHollow_24 : decode cX12_isHollow 24 = .ok (.iaload, 1) := by decide +kernel
theorem dX12_isHollow_25 : decode cX12_isHollow 25 = .ok (.iconst 4, 1) := by decide +kernel
theorem dX12_isHollow_26 : decode cX12_isHollow 26 = .ok (.if_icmp .ne 7, 3) := by decide +kernel
theorem dX12_isHollow_29 : decode cX12_isHollow 29 = .ok (.iconst 1, 1) := by decide +kernel
theorem dX12_isHollow_30 : decode cX12_isHollow 30 = .ok (.goto 4, 3) := by decide +kernel
theorem dX12_isHollow_33 : decode cX12_isHollow 33 = .ok (.iconst 0, 1) := by decide +kernel
theorem dX12_isHollow_34 : decode cX12_isHollow 34 = .ok (.ireturn, 1) := by decide +kernel
theorem dX12_join_0 : decode cX12_join 0 = .ok (.iconst 0, 1) := by decide +kernel
theorem dX12_join_1 : decode cX12_join 1 = .ok (.istore_n 2, 1) := by decide +kernel
theorem dX12_join_2 : decode cX12_join 2 = .ok (.iload_n 2, 1) := by decide +kernel
theorem dX12_join_3 : decode cX12_join 3 = .ok (.sipush 144, 3) := by decide +kernel
theorem dX12_join_6 : decode cX12_join 6 = .ok (.if_icmp .ge 16, 3) := by decide +kernel
theorem dX12_join_9 : decode cX12_join 9 = .ok (.aload_n 0, 1) := by decide +kernel
theorem dX12_join_10 : decode cX12_join 10 = .ok (.getfield 27, 3) := by decide +kernel
theorem dX12_join_13 : decode cX12_join 13 = .ok (.iload_n 2, 1) := by decide +kernel
theorem dX12_join_14 : decode cX12_join 14 = .ok (.iload_n 2, 1) := by decide +kernel
theorem dX12_join_15 : decode cX12_join 15 = .ok (.iastore, 1) := by decide +kernel
theorem dX12_join_16 : decode cX12_join 16 = .ok (.iinc 2 1, 3) := by decide +kernel
theorem dX12_join_19 : decode cX12_join 19 = .ok (.goto (-17), 3) := by decide +kernel
theorem dX12_join_22 : decode cX12_join 22 = .ok (.iconst 1, 1) := by decide +kernel
theorem dX12_join_23 : decode cX12_join 23 = .ok (.istore_n 2, 1) := by decide +kernel
theorem dX12_join_24 : decode cX12_join 24 = .ok (.iload_n 2, 1) := by decide +kernel
theorem dX12_join_25 : decode cX12_join 25 = .ok (.ifCond .eq 119, 3) := by decide +kernel
theorem dX12_join_28 : decode cX12_join 28 = .ok (.iconst 0, 1) := by decide +kernel
theorem dX12_join_29 : decode cX12_join 29 = .ok (.istore_n 2, 1) := by decide +kernel
theorem dX12_join_30 : decode cX12_join 30 = .ok (.iload_n 1, 1) := by decide +kernel
theorem dX12_join_31 : decode cX12_join 31 = .ok (.istore_n 3, 1) := by decide +kernel
theorem dX12_join_32 : decode cX12_join 32 = .ok (.iload_n 3, 1) := by decide +kernel
theorem dX12_join_33 : decode cX12_join 33 = .ok (.aload_n 0, 1) := by decide +kernel
theorem dX12_join_34 : decode cX12_join 34 = .ok (.getfield 13, 3) := by decide +kernel
theorem dX12_join_37 : decode cX12_join 37 = .ok (.if_icmp .ge 104, 3) := by decide +kernel
theorem dX12_join_40 : decode cX12_join 40 = .ok (.iconst 0, 1) := by decide +kernel
theorem dX12_join_41 : decode cX12_join 41 = .ok (.istore 4, 2) := by decide +kernel
theorem dX12_join_43 : decode cX12_join 43 = .ok (.iload 4, 2) := by decide +kernel
theorem dX12_join_45 : decode cX12_join 45 = .ok (.aload_n 0, 1) := by decide +kernel
theorem dX12_join_46 : decode cX12_join 46 = .ok (.getfield 7, 3) := by decide +kernel
theorem dX12_join_49 : decode cX12_join 49 = .ok (.if_icmp .ge 86, 3) := by decide +kernel
theorem dX12_join_52 : decode cX12_join 52 = .ok (.bipush 12, 2) := by decide +kernel
theorem dX12_join_54 : decode cX12_join 54 = .ok (.iload_n 3, 1) := by decide +kernel
theorem dX12_join_55 : decode cX12_join 55 = .ok (.imul, 1) := by decide +kernel
theorem dX12_join_56 : decode cX12_join 56 = .ok (.iload 4, 2) := by decide +kernel
theorem dX12_join_58 : decode cX12_join 58 = .ok (.iadd, 1) := by decide +kernel
theorem dX12_join_59 : decode cX12_join 59 = .ok (.istore 5, 2) := by decide +kernel
theorem dX12_join_61 : decode cX12_join 61 = .ok (.iload 4, 2) := by decide +kernel
theorem dX12_join_63 : decode cX12_join 63 = .ok (.iconst 1, 1) := by decide +kernel
theorem dX12_join_64 : decode cX12_join 64 = .ok (.iadd, 1) := by decide +kernel
theorem dX12_join_65 : decode cX12_join 65 = .ok (.aload_n 0, 1) := by decide +kernel
theorem dX12_join_66 : decode cX12_join 66 = .ok (.getfield 7, 3) := by decide +kernel
theorem dX12_join_69 : decode cX12_join 69 = .ok (.if_icmp .ge 16, 3) := by decide +kernel
theorem dX12_join_72 : decode cX12_join 72 = .ok (.aload_n 0, 1) := by decide +kernel
theorem dX12_join_73 : decode cX12_join 73 = .ok (.iload 5, 2) := by decide +kernel
theorem dX12_join_75 : decode cX12_join 75 = .ok (.iload 5, 2) := by decide +kernel
theorem dX12_join_77 : decode cX12_join 77 = .ok (.iconst 1, 1) := by decide +kernel
theorem dX12_join_78 : decode cX12_join 78 = .ok (.iadd, 1) := by decide +kernel
theorem dX12_join_79 : decode cX12_join 79 = .ok (.invokevirtual 130, 3) := by decide +kernel
theorem dX12_join_82 : decode cX12_join 82 = .ok (.ifCond .ne 7, 3) := by decide +kernel
theorem dX12_join_85 : decode cX12_join 85 = .ok (.iload_n 2, 1) := by decide +kernel
theorem dX12_join_86 : decode cX12_join 86 = .ok (.ifCond .eq 7, 3) := by decide +kernel
theorem dX12_join_89 : decode cX12_join 89 = .ok (.iconst 1, 1) := by decide +kernel
theorem dX12_join_90 : decode cX12_join 90 = .ok (.goto 4, 3) := by decide +kernel
theorem dX12_join_93 : decode cX12_join 93 = .ok (.iconst 0, 1) := by decide +kernel
theorem dX12_join_94 : decode cX12_join 94 = .ok (.istore_n 2, 1) := by decide +kernel
theorem dX12_join_95 : decode cX12_join 95 = .ok (.iload_n 3, 1) := by decide +kernel
theorem dX12_join_96 : decode cX12_join 96 = .ok (.iconst 1, 1) := by decide +kernel
theorem dX12_join_97 : decode cX12_join 97 = .ok (.iadd, 1) := by decide +kernel
theorem dX12_join_98 : decode cX12_join 98 = .ok (.aload_n 0, 1) := by decide +kernel
theorem dX12_join_99 : decode cX12_join 99 = .ok (.getfield 13, 3) := by decide +kernel
theorem dX12_join_102 : decode cX12_join 102 = .ok (.if_icmp .ge 17, 3) := by decide +kernel
theorem dX12_join_105 : decode cX12_join 105 = .ok (.aload_n 0, 1) := by decide +kernel
theorem dX12_join_106 : decode cX12_join 106 = .ok (.iload 5, 2) := by decide +kernel
theorem dX12_join_108 : decode cX12_join 108 = .ok (.iload 5, 2) := by decide +kernel
theorem dX12_join_110 : decode cX12_join 110 = .ok (.bipush 12, 2) := by decide +kernel
theorem dX12_join_112 : decode cX12_join 112 = .ok (.iadd, 1) := by decide +kernel
theorem dX12_join_113 : decode cX12_join 113 = .ok (.invokevirtual 130, 3) := by decide +kernel
theorem dX12_join_116 : decode cX12_join 116 = .ok (.ifCond .ne 7, 3) := by decide +kernel
theorem dX12_join_119 : decode cX12_join 119 = .ok (.iload_n 2, 1) := by decide +kernel
theorem dX12_join_120 : decode cX12_join 120 = .ok (.ifCond .eq 7, 3) := by decide +kernel
theorem dX12_join_123 : decode cX12_join 123 = .ok (.iconst 1, 1) := by decide +kernel
theorem dX12_join_124 : decode cX12_join 124 = .ok (.goto 4, 3) := by decide +kernel
theorem dX12_join_127 : decode cX12_join 127 = .ok (.iconst 0, 1) := by decide +kernel
theorem dX12_join_128 : decode cX12_join 128 = .ok (.istore_n 2, 1) := by decide +kernel
theorem dX12_join_129 : decode cX12_join 129 = .ok (.iinc 4 1, 3) := by decide +kernel
theorem dX12_join_132 : decode cX12_join 132 = .ok (.goto (-89), 3) := by decide +kernel
theorem dX12_join_135 : decode cX12_join 135 = .ok (.iinc 3 1, 3) := by decide +kernel
theorem dX12_join_138 : decode cX12_join 138 = .ok (.goto (-106), 3) := by decide +kernel
theorem dX12_join_141 : decode cX12_join 141 = .ok (.goto (-117), 3) := by decide +kernel
theorem dX12_join_144 : decode cX12_join 144 = .ok (.return_, 1) := by decide +kernel
theorem dX12_melt_0 : decode cX12_melt 0 = .ok (.aload_n 0, 1) := by decide +kernel
theorem dX12_melt_1 : decode cX12_melt 1 = .ok (.iload_n 1, 1) := by decide +kernel
theorem dX12_melt_2 : decode cX12_melt 2 = .ok (.invokevirtual 133, 3) := by decide +kernel
theorem dX12_melt_5 : decode cX12_melt 5 = .ok (.ifCond .eq 26, 3) := by decide +kernel
theorem dX12_melt_8 : decode cX12_melt 8 = .ok (.aload_n 0, 1) := by decide +kernel
theorem dX12_melt_9 : decode cX12_melt 9 = .ok (.iload_n 2, 1) := by decide +kernel
theorem dX12_melt_10 : decode cX12_melt 10 = .ok (.invokevirtual 133, 3) := by decide +kernel
theorem dX12_melt_13 : decode cX12_melt 13 = .ok (.ifCond .eq 18, 3) := by decide +kernel
theorem dX12_melt_16 : decode cX12_melt 16 = .ok (.aload_n 0, 1) := by decide +kernel
theorem dX12_melt_17 : decode cX12_melt 17 = .ok (.getfield 27, 3) := by decide +kernel
theorem dX12_melt_20 : decode cX12_melt 20 = .ok (.iload_n 1, 1) := by decide +kernel
theorem dX12_melt_21 : decode cX12_melt 21 = .ok (.iaload, 1) := by decide +kernel
theorem dX12_melt_22 : decode cX12_melt 22 = .ok (.aload_n 0, 1) := by decide +kernel
theorem dX12_melt_23 : decode cX12_melt 23 = .ok (.getfield 27, 3) := by decide +kernel
theorem dX12_melt_26 : decode cX12_melt 26 = .ok (.iload_n 2, 1) := by decide +kernel
theorem dX12_melt_27 : decode cX12_melt 27 = .ok (.iaload, 1) := by decide +kernel
theorem dX12_melt_28 : decode cX12_melt 28 = .ok (.if_icmp .ne 5, 3) := by decide +kernel
theorem dX12_melt_31 : decode cX12_melt 31 = .ok (.iconst 0, 1) := by decide +kernel
theorem dX12_melt_32 : decode cX12_melt 32 = .ok (.ireturn, 1) := by decide +kernel
theorem dX12_melt_33 : decode cX12_melt 33 = .ok (.aload_n 0, 1) := by decide +kernel
theorem dX12_melt_34 : decode cX12_melt 34 = .ok (.getfield 27, 3) := by decide +kernel
theorem dX12_melt_37 : decode cX12_melt 37 = .ok (.iload_n 1, 1) := by decide +kernel
theorem dX12_melt_38 : decode cX12_melt 38 = .ok (.iaload, 1) := by decide +kernel
theorem dX12_melt_39 : decode cX12_melt 39 = .ok (.aload_n 0, 1) := by decide +kernel
theorem dX12_melt_40 : decode cX12_melt 40 = .ok (.getfield 27, 3) := by decide +kernel
theorem dX12_melt_43 : decode cX12_melt 43 = .ok (.iload_n 2, 1) := by decide +kernel
theorem dX12_melt_44 : decode cX12_melt 44 = .ok (.iaload, 1) := by decide +kernel
theorem dX12_melt_45 : decode cX12_melt 45 = .ok (.if_icmp .ge 12, 3) := by decide +kernel
theorem dX12_melt_48 : decode cX12_melt 48 = .ok (.aload_n 0, 1) := by decide +kernel
theorem dX12_melt_49 : decode cX12_melt 49 = .ok (.getfield 27, 3) := by decide +kernel
theorem dX12_melt_52 : decode cX12_melt 52 = .ok (.iload_n 1, 1) := by decide +kernel
theorem dX12_melt_53 : decode cX12_melt 53 = .ok (.iaload, 1) := by decide +kernel
theorem dX12_melt_54 : decode cX12_melt 54 = .ok (.goto 9, 3) := by decide +kernel
theorem dX12_melt_57 : decode cX12_melt 57 = .ok (.aload_n 0, 1) := by decide +kernel
theorem dX12_melt_58 : decode cX12_melt 58 = .ok (.getfield 27, 3) := by decide +kernel
theorem dX12_melt_61 : decode cX12_melt 61 = .ok (.iload_n 2, 1) := by decide +kernel
theorem dX12_melt_62 : decode cX12_melt 62 = .ok (.iaload, 1) := by decide +kernel
theorem dX12_melt_63 : decode cX12_melt 63 = .ok (.istore_n 3, 1) := by decide +kernel
theorem dX12_melt_64 : decode cX12_melt 64 = .ok (.aload_n 0, 1) := by decide +kernel
theorem dX12_melt_65 : decode cX12_melt 65 = .ok (.getfield 27, 3) := by decide +kernel
theorem dX12_melt_68 : decode cX12_melt 68 = .ok (.iload_n 1, 1) := by decide +kernel
theorem dX12_melt_69 : decode cX12_melt 69 = .ok (.iload_n 3, 1) := by decide +kernel
theorem dX12_melt_70 : decode cX12_melt 70 = .ok (.iastore, 1) := by decide +kernel
theorem dX12_melt_71 : decode cX12_melt 71 = .ok (.aload_n 0, 1) := by decide +kernel
theorem dX12_melt_72 : decode cX12_melt 72 = .ok (.getfield 27, 3) := by decide +kernel
theorem dX12_melt_75 : decode cX12_melt 75 = .ok (.iload_n 2, 1) := by decide +kernel
theorem dX12_melt_76 : decode cX12_melt 76 = .ok (.iload_n 3, 1) := by decide +kernel
theorem dX12_melt_77 : decode cX12_melt 77 = .ok (.iastore, 1) := by decide +kernel
theorem dX12_melt_78 : decode cX12_melt 78 = .ok (.iconst 1, 1) := by decide +kernel
theorem dX12_melt_79 : decode cX12_melt 79 = .ok (.ireturn, 1) := by decide +kernel
theorem dX12_has_0 : decode cX12_has 0 = .ok (.iconst 0, 1) := by decide +kernel
theorem dX12_has_1 : decode cX12_has 1 = .ok (.istore 4, 2) := by decide +kernel
theorem dX12_has_3 : decode cX12_has 3 = .ok (.iload_n 2, 1) := by decide +kernel
theorem dX12_has_4 : decode cX12_has 4 = .ok (.istore 5, 2) := by decide +kernel
theorem dX12_has_6 : decode cX12_has 6 = .ok (.iload 5, 2) := by decide +kernel
theorem dX12_has_8 : decode cX12_has 8 = .ok (.aload_n 0, 1) := by decide +kernel
theorem dX12_has_9 : decode cX12_has 9 = .ok (.getfield 13, 3) := by decide +kernel
theorem dX12_has_12 : decode cX12_has 12 = .ok (.if_icmp .ge 78, 3) := by decide +kernel
theorem dX12_has_15 : decode cX12_has 15 = .ok (.iconst 0, 1) := by decide +kernel
theorem dX12_has_16 : decode cX12_has 16 = .ok (.istore 6, 2) := by decide +kernel
theorem dX12_has_18 : decode cX12_has 18 = .ok (.iload 6, 2) := by decide +kernel
theorem dX12_has_20 : decode cX12_has 20 = .ok (.aload_n 0, 1) := by decide +kernel
theorem dX12_has_21 : decode cX12_has 21 = .ok (.getfield 7, 3) := by decide +kernel
theorem dX12_has_24 : decode cX12_has 24 = .ok (.if_icmp .ge 60, 3) := by decide +kernel
theorem dX12_has_27 : decode cX12_has 27 = .ok (.iload 4, 2) := by decide +kernel
theorem dX12_has_29 : decode cX12_has 29 = .ok (.ifCond .ne 42, 3) := by decide +kernel
theorem dX12_has_32 : decode cX12_has 32 = .ok (.aload_n 0, 1) := by decide +kernel
theorem dX12_has_33 : decode cX12_has 33 = .ok (.getfield 16, 3) := by decide +kernel
theorem dX12_has_36 : decode cX12_has 36 = .ok (.bipush 12, 2) := by decide +kernel
theorem dX12_has_38 : decode cX12_has 38 = .ok (.iload 5, 2) := by decide +kernel
theorem dX12_has_40 : decode cX12_has 40 = .ok (.imul, 1) := by decide +kernel
theorem dX12_has_41 : decode cX12_has 41 = .ok (.iload 6, 2) := by decide +kernel
theorem dX12_has_43 : decode cX12_has 43 = .ok (.iadd, 1) := by decide +kernel
theorem dX12_has_44 : decode cX12_has 44 = .ok (.iaload, 1) := by decide +kernel
theorem dX12_has_45 : decode cX12_has 45 = .ok (.iload_n 3, 1) := by decide +kernel
theorem dX12_has_46 : decode cX12_has 46 = .ok (.if_icmp .ne 29, 3) := by decide +kernel
theorem dX12_has_49 : decode cX12_has 49 = .ok (.aload_n 0, 1) := by decide +kernel
theorem dX12_has_50 : decode cX12_has 50 = .ok (.getfield 27, 3) := by decide +kernel
theorem dX12_has_53 : decode cX12_has 53 = .ok (.bipush 12, 2) := by decide +kernel
theorem dX12_has_55 : decode cX12_has 55 = .ok (.iload 5, 2) := by decide +kernel
theorem dX12_has_57 : decode cX12_has 57 = .ok (.imul, 1) := by decide +kernel
theorem dX12_has_58 : decode cX12_has 58 = .ok (.iload 6, 2) := by decide +kernel
theorem dX12_has_60 : decode cX12_has 60 = .ok (.iadd, 1) := by decide +kernel
theorem dX12_has_61 : decode cX12_has 61 = .ok (.iaload, 1) := by decide +kernel
theorem dX12_has_62 : decode cX12_has 62 = .ok (.aload_n 0, 1) := by decide +kernel
theorem dX12_has_63 : decode cX12_has 63 = .ok (.getfield 27, 3) := by decide +kernel
theorem dX12_has_66 : decode cX12_has 66 = .ok (.iload_n 1, 1) := by decide +kernel
theorem dX12_has_67 : decode cX12_has 67 = .ok (.iaload, 1) := by decide +kernel
theorem dX12_has_68 : decode cX12_has 68 = .ok (.if_icmp .ne 7, 3) := by decide +kernel
theorem dX12_has_71 : decode cX12_has 71 = .ok (.iconst 1, 1) := by decide +kernel
theorem dX12_has_72 : decode cX12_has 72 = .ok (.goto 4, 3) := by decide +kernel
theorem dX12_has_75 : decode cX12_has 75 = .ok (.iconst 0, 1) := by decide +kernel
theorem dX12_has_76 : decode cX12_has 76 = .ok (.istore 4, 2) := by decide +kernel
theorem dX12_has_78 : decode cX12_has 78 = .ok (.iinc 6 1, 3) := by decide +kernel
theorem dX12_has_81 : decode cX12_has 81 = .ok (.goto (-63), 3) := by decide +kernel
theorem dX12_has_84 : decode cX12_has 84 = .ok (.iinc 5 1, 3) := by decide +kernel
theorem dX12_has_87 : decode cX12_has 87 = .ok (.goto (-81), 3) := by decide +kernel
theorem dX12_has_90 : decode cX12_has 90 = .ok (.iload 4, 2) := by decide +kernel
theorem dX12_has_92 : decode cX12_has 92 = .ok (.ireturn, 1) := by decide +kernel
theorem dX12_pourMould_0 : decode cX12_pourMould 0 = .ok (.aload_n 0, 1) := by decide +kernel
theorem dX12_pourMould_1 : decode cX12_pourMould 1 = .ok (.iconst 0, 1) := by decide +kernel
theorem dX12_pourMould_2 : decode cX12_pourMould 2 = .ok (.invokevirtual 137, 3) := by decide +kernel
theorem dX12_pourMould_5 : decode cX12_pourMould 5 = .ok (.iconst 0, 1) := by decide +kernel
theorem dX12_pourMould_6 : decode cX12_pourMould 6 = .ok (.istore_n 1, 1) := by decide +kernel
theorem dX12_pourMould_7 : decode cX12_pourMould 7 = .ok (.iload_n 1, 1) := by decide +kernel
theorem dX12_pourMould_8 : decode cX12_pourMould 8 = .ok (.aload_n 0, 1) := by decide +kernel
theorem dX12_pourMould_9 : decode cX12_pourMould 9 = .ok (.getfield 13, 3) := by decide +kernel
theorem dX12_pourMould_12 : decode cX12_pourMould 12 = .ok (.if_icmp .ge 79, 3) := by decide +kernel
theorem dX12_pourMould_15 : decode cX12_pourMould 15 = .ok (.iconst 0, 1) := by decide +kernel
theorem dX12_pourMould_16 : decode cX12_pourMould 16 = .ok (.istore_n 2, 1) := by decide +kernel
theorem dX12_pourMould_17 : decode cX12_pourMould 17 = .ok (.iload_n 2, 1) := by decide +kernel
theorem dX12_pourMould_18 : decode cX12_pourMould 18 = .ok (.aload_n 0, 1) := by decide +kernel
theorem dX12_pourMould_19 : decode cX12_pourMould 19 = .ok (.getfield 7, 3) := by decide +kernel
theorem dX12_pourMould_22 : decode cX12_pourMould 22 = .ok (.if_icmp .ge 63, 3) := by decide +kernel
theorem dX12_pourMould_25 : decode cX12_pourMould 25 = .ok (.bipush 12, 2) := by decide +kernel
theorem dX12_pourMould_27 : decode cX12_pourMould 27 = .ok (.iload_n 1, 1) := by decide +kernel
theorem dX12_pourMould_28 : decode cX12_pourMould 28 = .ok (.imul, 1) := by decide +kernel
theorem dX12_pourMould_29 : decode cX12_pourMould 29 = .ok (.iload_n 2, 1) := by decide +kernel
theorem dX12_pourMould_30 : decode cX12_pourMould 30 = .ok (.iadd, 1) := by decide +kernel
theorem dX12_pourMould_31 : decode cX12_pourMould 31 = .ok (.istore_n 3, 1) := by decide +kernel
theorem dX12_pourMould_32 : decode cX12_pourMould 32 = .ok (.aload_n 0, 1) := by decide +kernel
theorem dX12_pourMould_33 : decode cX12_pourMould 33 = .ok (.getfield 24, 3) := by decide +kernel
theorem dX12_pourMould_36 : decode cX12_pourMould 36 = .ok (.iload_n 3, 1) := by decide +kernel
theorem dX12_pourMould_37 : decode cX12_pourMould 37 = .ok (.aload_n 0, 1) := by decide +kernel
theorem dX12_pourMould_38 : decode cX12_pourMould 38 = .ok (.getfield 16, 3) := by decide +kernel
theorem dX12_pourMould_41 : decode cX12_pourMould 41 = .ok (.iload_n 3, 1) := by decide +kernel
theorem dX12_pourMould_42 : decode cX12_pourMould 42 = .ok (.iaload, 1) := by decide +kernel
theorem dX12_pourMould_43 : decode cX12_pourMould 43 = .ok (.iconst 2, 1) := by decide +kernel
theorem dX12_pourMould_44 : decode cX12_pourMould 44 = .ok (.if_icmp .ne 7, 3) := by decide +kernel
theorem dX12_pourMould_47 : decode cX12_pourMould 47 = .ok (.iconst 1, 1) := by decide +kernel
theorem dX12_pourMould_48 : decode cX12_pourMould 48 = .ok (.goto 30, 3) := by decide +kernel
theorem dX12_pourMould_51 : decode cX12_pourMould 51 = .ok (.aload_n 0, 1) := by decide +kernel
theorem dX12_pourMould_52 : decode cX12_pourMould 52 = .ok (.iload_n 3, 1) := by decide +kernel
theorem dX12_pourMould_53 : decode cX12_pourMould 53 = .ok (.invokevirtual 133, 3) := by decide +kernel
theorem dX12_pourMould_56 : decode cX12_pourMould 56 = .ok (.ifCond .ne 7, 3) := by decide +kernel
theorem dX12_pourMould_59 : decode cX12_pourMould 59 = .ok (.iconst 0, 1) := by decide +kernel
theorem dX12_pourMould_60 : decode cX12_pourMould 60 = .ok (.goto 18, 3) := by decide +kernel
theorem dX12_pourMould_63 : decode cX12_pourMould 63 = .ok (.aload_n 0, 1) := by decide +kernel
theorem dX12_pourMould_64 : decode cX12_pourMould 64 = .ok (.iload_n 3, 1) := by decide +kernel
theorem dX12_pourMould_65 : decode cX12_pourMould 65 = .ok (.iconst 0, 1) := by decide +kernel
theorem dX12_pourMould_66 : decode cX12_pourMould 66 = .ok (.iconst 3, 1) := by decide +kernel
theorem dX12_pourMould_67 : decode cX12_pourMould 67 = .ok (.invokevirtual 141, 3) := by decide +kernel
theorem dX12_pourMould_70 : decode cX12_pourMould 70 = .ok (.ifCond .eq 7, 3) := by decide +kernel
theorem dX12_pourMould_73 : decode cX12_pourMould 73 = .ok (.iconst 1, 1) := by decide +kernel
theorem dX12_pourMould_74 : decode cX12_pourMould 74 = .ok (.goto 4, 3) := by decide +kernel
theorem dX12_pourMould_77 : decode cX12_pourMould 77 = .ok (.iconst 2, 1) := by decide +kernel
theorem dX12_pourMould_78 : decode cX12_pourMould 78 = .ok (.iastore, 1) := by decide +kernel
theorem dX12_pourMould_79 : decode cX12_pourMould 79 = .ok (.iinc 2 1, 3) := by decide +kernel
theorem dX12_pourMould_82 : decode cX12_pourMould 82 = .ok (.goto (-65), 3) := by decide +kernel
theorem dX12_pourMould_85 : decode cX12_pourMould 85 = .ok (.iinc 1 1, 3) := by decide +kernel
theorem dX12_pourMould_88 : decode cX12_pourMould 88 = .ok (.goto (-81), 3) := by decide +kernel
theorem dX12_pourMould_91 : decode cX12_pourMould 91 = .ok (.iconst 0, 1) := by decide +kernel
theorem dX12_pourMould_92 : decode cX12_pourMould 92 = .ok (.istore_n 1, 1) := by decide +kernel
theorem dX12_pourMould_93 : decode cX12_pourMould 93 = .ok (.iload_n 1, 1) := by decide +kernel
theorem dX12_pourMould_94 : decode cX12_pourMould 94 = .ok (.aload_n 0, 1) := by decide +kernel
theorem dX12_pourMould_95 : decode cX12_pourMould 95 = .ok (.getfield 13, 3) := by decide +kernel
theorem dX12_pourMould_98 : decode cX12_pourMould 98 = .ok (.if_icmp .ge 82, 3) := by decide +kernel
theorem dX12_pourMould_101 : decode cX12_pourMould 101 = .ok (.aload_n 0, 1) := by decide +kernel
theorem dX12_pourMould_102 : decode cX12_pourMould 102 = .ok (.iload_n 1, 1) := by decide +kernel
theorem dX12_pourMould_103 : decode cX12_pourMould 103 = .ok (.invokevirtual 137, 3) := by decide +kernel
theorem dX12_pourMould_106 : decode cX12_pourMould 106 = .ok (.iconst 0, 1) := by decide +kernel
theorem dX12_pourMould_107 : decode cX12_pourMould 107 = .ok (.istore_n 2, 1) := by decide +kernel
theorem dX12_pourMould_108 : decode cX12_pourMould 108 = .ok (.iload_n 2, 1) := by decide +kernel
theorem dX12_pourMould_109 : decode cX12_pourMould 109 = .ok (.aload_n 0, 1) := by decide +kernel
theorem dX12_pourMould_110 : decode cX12_pourMould 110 = .ok (.getfield 7, 3) := by decide +kernel
theorem dX12_pourMould_113 : decode cX12_pourMould 113 = .ok (.if_icmp .ge 61, 3) := by decide +kernel
theorem dX12_pourMould_116 : decode cX12_pourMould 116 = .ok (.bipush 12, 2) := by decide +kernel
theorem dX12_pourMould_118 : decode cX12_pourMould 118 = .ok (.iload_n 1, 1) := by decide +kernel
theorem dX12_pourMould_119 : decode cX12_pourMould 119 = .ok (.imul, 1) := by decide +kernel
theorem dX12_pourMould_120 : decode cX12_pourMould 120 = .ok (.iload_n 2, 1) := by decide +kernel
theorem dX12_pourMould_121 : decode cX12_pourMould 121 = .ok (.iadd, 1) := by decide +kernel
theorem dX12_pourMould_122 : decode cX12_pourMould 122 = .ok (.istore_n 3, 1) := by decide +kernel
theorem dX12_pourMould_123 : decode cX12_pourMould 123 = .ok (.aload_n 0, 1) := by decide +kernel
theorem dX12_pourMould_124 : decode cX12_pourMould 124 = .ok (.iload_n 3, 1) := by decide +kernel
theorem dX12_pourMould_125 : decode cX12_pourMould 125 = .ok (.invokevirtual 133, 3) := by decide +kernel
theorem dX12_pourMould_128 : decode cX12_pourMould 128 = .ok (.ifCond .eq 40, 3) := by decide +kernel
theorem dX12_pourMould_131 : decode cX12_pourMould 131 = .ok (.aload_n 0, 1) := by decide +kernel
theorem dX12_pourMould_132 : decode cX12_pourMould 132 = .ok (.getfield 24, 3) := by decide +kernel
theorem dX12_pourMould_135 : decode cX12_pourMould 135 = .ok (.iload_n 3, 1) := by decide +kernel
theorem dX12_pourMould_136 : decode cX12_pourMould 136 = .ok (.iaload, 1) := by decide +kernel
theorem dX12_pourMould_137 : decode cX12_pourMould 137 = .ok (.iconst 1, 1) := by decide +kernel
theorem dX12_pourMould_138 : decode cX12_pourMould 138 = .ok (.if_icmp .ne 30, 3) := by decide +kernel
theorem dX12_pourMould_141 : decode cX12_pourMould 141 = .ok (.aload_n 0, 1) := by decide +kernel
theorem dX12_pourMould_142 : decode cX12_pourMould 142 = .ok (.iload_n 3, 1) := by decide +kernel
theorem dX12_pourMould_143 : decode cX12_pourMould 143 = .ok (.iload_n 1, 1) := by decide +kernel
theorem dX12_pourMould_144 : decode cX12_pourMould 144 = .ok (.iconst 3, 1) := by decide +kernel
theorem dX12_pourMould_145 : decode cX12_pourMould 145 = .ok (.invokevirtual 141, 3) := by decide +kernel
theorem dX12_pourMould_148 : decode cX12_pourMould 148 = .ok (.ifCond .ne 20, 3) := by decide +kernel
theorem dX12_pourMould_151 : decode cX12_pourMould 151 = .ok (.aload_n 0, 1) := by decide +kernel
theorem dX12_pourMould_152 : decode cX12_pourMould 152 = .ok (.iload_n 3, 1) := by decide +kernel
theorem dX12_pourMould_153 : decode cX12_pourMould 153 = .ok (.iload_n 1, 1) := by decide +kernel
theorem dX12_pourMould_154 : decode cX12_pourMould 154 = .ok (.iconst 4, 1) := by decide +kernel
theorem dX12_pourMould_155 : decode cX12_pourMould 155 = .ok (.invokevirtual 141, 3) := by decide +kernel
theorem dX12_pourMould_158 : decode cX12_pourMould 158 = .ok (.ifCond .ne 10, 3) := by decide +kernel
theorem dX12_pourMould_161 : decode cX12_pourMould 161 = .ok (.aload_n 0, 1) := by decide +kernel
theorem dX12_pourMould_162 : decode cX12_pourMould 162 = .ok (.getfield 24, 3) := by decide +kernel
theorem dX12_pourMould_165 : decode cX12_pourMould 165 = .ok (.iload_n 3, 1) := by decide +kernel
theorem dX12_pourMould_166 : decode cX12_pourMould 166 = .ok (.iconst 3, 1) := by decide +kernel
theorem dX12_pourMould_167 : decode cX12_pourMould 167 = .ok (.iastore, 1) := by decide +kernel
theorem dX12_pourMould_168 : decode cX12_pourMould 168 = .ok (.iinc 2 1, 3) := by decide +kernel
theorem dX12_pourMould_171 : decode cX12_pourMould 171 = .ok (.goto (-63), 3) := by decide +kernel
theorem dX12_pourMould_174 : decode cX12_pourMould 174 = .ok (.iinc 1 1, 3) := by decide +kernel
theorem dX12_pourMould_177 : decode cX12_pourMould 177 = .ok (.goto (-84), 3) := by decide +kernel
theorem dX12_pourMould_180 : decode cX12_pourMould 180 = .ok (.iconst 0, 1) := by decide +kernel
theorem dX12_pourMould_181 : decode cX12_pourMould 181 = .ok (.istore_n 1, 1) := by decide +kernel
theorem dX12_pourMould_182 : decode cX12_pourMould 182 = .ok (.iload_n 1, 1) := by decide +kernel
theorem dX12_pourMould_183 : decode cX12_pourMould 183 = .ok (.sipush 144, 3) := by decide +kernel
theorem dX12_pourMould_186 : decode cX12_pourMould 186 = .ok (.if_icmp .ge 34, 3) := by decide +kernel
theorem dX12_pourMould_189 : decode cX12_pourMould 189 = .ok (.aload_n 0, 1) := by decide +kernel
theorem dX12_pourMould_190 : decode cX12_pourMould 190 = .ok (.getfield 24, 3) := by decide +kernel
theorem dX12_pourMould_193 : decode cX12_pourMould 193 = .ok (.iload_n 1, 1) := by decide +kernel
theorem dX12_pourMould_194 : decode cX12_pourMould 194 = .ok (.aload_n 0, 1) := by decide +kernel
theorem dX12_pourMould_195 : decode cX12_pourMould 195 = .ok (.getfield 20, 3) := by decide +kernel
theorem dX12_pourMould_198 : decode cX12_pourMould 198 = .ok (.iload_n 1, 1) := by decide +kernel
theorem dX12_pourMould_199 : decode cX12_pourMould 199 = .ok (.baload, 1) := by decide +kernel
theorem dX12_pourMould_200 : decode cX12_pourMould 200 = .ok (.ifCond .eq 7, 3) := by decide +kernel
theorem dX12_pourMould_203 : decode cX12_pourMould 203 = .ok (.iconst 5, 1) := by decide +kernel
theorem dX12_pourMould_204 : decode cX12_pourMould 204 = .ok (.goto 9, 3) := by decide +kernel
theorem dX12_pourMould_207 : decode cX12_pourMould 207 = .ok (.aload_n 0, 1) := by decide +kernel
theorem dX12_pourMould_208 : decode cX12_pourMould 208 = .ok (.getfield 24, 3) := by decide +kernel
theorem dX12_pourMould_211 : decode cX12_pourMould 211 = .ok (.iload_n 1, 1) := by decide +kernel
theorem dX12_pourMould_212 : decode cX12_pourMould 212 = .ok (.iaload, 1) := by decide +kernel
theorem dX12_pourMould_213 : decode cX12_pourMould 213 = .ok (.iastore, 1) := by decide +kernel
theorem dX12_pourMould_214 : decode cX12_pourMould 214 = .ok (.iinc 1 1, 3) := by decide +kernel
theorem dX12_pourMould_217 : decode cX12_pourMould 217 = .ok (.goto (-35), 3) := by decide +kernel
theorem dX12_pourMould_220 : decode cX12_pourMould 220 = .ok (.return_, 1) := by decide +kernel
theorem dX12_isCast_0 : decode cX12_isCast 0 = .ok (.aload_n 0, 1) := by decide +kernel
theorem dX12_isCast_1 : decode cX12_isCast 1 = .ok (.iload_n 1, 1) := by decide +kernel
theorem dX12_isCast_2 : decode cX12_isCast 2 = .ok (.iload_n 2, 1) := by decide +kernel
theorem dX12_isCast_3 : decode cX12_isCast 3 = .ok (.invokevirtual 126, 3) := by decide +kernel
theorem dX12_isCast_6 : decode cX12_isCast 6 = .ok (.ifCond .eq 37, 3) := by decide +kernel
theorem dX12_isCast_9 : decode cX12_isCast 9 = .ok (.aload_n 0, 1) := by decide +kernel
theorem dX12_isCast_10 : decode cX12_isCast 10 = .ok (.getfield 24, 3) := by decide +kernel
theorem dX12_isCast_13 : decode cX12_isCast 13 = .ok (.bipush 12, 2) := by decide +kernel
theorem dX12_isCast_15 : decode cX12_isCast 15 = .ok (.iload_n 2, 1) := by decide +kernel
theorem dX12_isCast_16 : decode cX12_isCast 16 = .ok (.imul, 1) := by decide +kernel
theorem dX12_isCast_17 : decode cX12_isCast 17 = .ok (.iload_n 1, 1) := by decide +kernel
theorem dX12_isCast_18 : decode cX12_isCast 18 = .ok (.iadd, 1) := by decide +kernel
theorem dX12_isCast_19 : decode cX12_isCast 19 = .ok (.iaload, 1) := by decide +kernel
theorem dX12_isCast_20 : decode cX12_isCast 20 = .ok (.iconst 1, 1) := by decide +kernel
theorem dX12_isCast_21 : decode cX12_isCast 21 = .ok (.if_icmp .eq 18, 3) := by decide +kernel
theorem dX12_isCast_24 : decode cX12_isCast 24 = .ok (.aload_n 0, 1) := by decide +kernel
theorem dX12_isCast_25 : decode cX12_isCast 25 = .ok (.getfield 24, 3) := by decide +kernel
theorem dX12_isCast_28 : decode cX12_isCast 28 = .ok (.bipush 12, 2) := by decide +kernel
theorem dX12_isCast_30 : decode cX12_isCast 30 = .ok (.iload_n 2, 1) := by decide +kernel
theorem dX12_isCast_31 : decode cX12_isCast 31 = .ok (.imul, 1) := by decide +kernel
theorem dX12_isCast_32 : decode cX12_isCast 32 = .ok (.iload_n 1, 1) := by decide +kernel
theorem dX12_isCast_33 : decode cX12_isCast 33 = .ok (.iadd, 1) := by decide +kernel
theorem dX12_isCast_34 : decode cX12_isCast 34 = .ok (.iaload, 1) := by decide +kernel
theorem dX12_isCast_35 : decode cX12_isCast 35 = .ok (.iconst 5, 1) := by decide +kernel
theorem dX12_isCast_36 : decode cX12_isCast 36 = .ok (.if_icmp .ne 7, 3) := by decide +kernel
theorem dX12_isCast_39 : decode cX12_isCast 39 = .ok (.iconst 1, 1) := by decide +kernel
theorem dX12_isCast_40 : decode cX12_isCast 40 = .ok (.goto 4, 3) := by decide +kernel
theorem dX12_isCast_43 : decode cX12_isCast 43 = .ok (.iconst 0, 1) := by decide +kernel
theorem dX12_isCast_44 : decode cX12_isCast 44 = .ok (.ireturn, 1) := by decide +kernel
theorem dX12_cell_0 : decode cX12_cell 0 = .ok (.aload_n 0, 1) := by decide +kernel
theorem dX12_cell_1 : decode cX12_cell 1 = .ok (.iconst 0, 1) := by decide +kernel
theorem dX12_cell_2 : decode cX12_cell 2 = .ok (.putfield 96, 3) := by decide +kernel
theorem dX12_cell_5 : decode cX12_cell 5 = .ok (.aload_n 0, 1) := by decide +kernel
theorem dX12_cell_6 : decode cX12_cell 6 = .ok (.iload_n 1, 1) := by decide +kernel
theorem dX12_cell_7 : decode cX12_cell 7 = .ok (.iload_n 2, 1) := by decide +kernel
theorem dX12_cell_8 : decode cX12_cell 8 = .ok (.invokevirtual 126, 3) := by decide +kernel
theorem dX12_cell_11 : decode cX12_cell 11 = .ok (.ifCond .eq 13, 3) := by decide +kernel
theorem dX12_cell_14 : decode cX12_cell 14 = .ok (.iload_n 3, 1) := by decide +kernel
theorem dX12_cell_15 : decode cX12_cell 15 = .ok (.i2l, 1) := by decide +kernel
theorem dX12_cell_16 : decode cX12_cell 16 = .ok (.lconst 0, 1) := by decide +kernel
theorem dX12_cell_17 : decode cX12_cell 17 = .ok (.lconst 1, 1) := by decide +kernel
theorem dX12_cell_18 : decode cX12_cell 18 = .ok (.invokestatic 102, 3) := by decide +kernel
theorem dX12_cell_21 : decode cX12_cell 21 = .ok (.ifCond .ne 5, 3) := by decide +kernel
theorem dX12_cell_24 : decode cX12_cell 24 = .ok (.iconst (-1), 1) := by decide +kernel
theorem dX12_cell_25 : decode cX12_cell 25 = .ok (.ireturn, 1) := by decide +kernel
theorem dX12_cell_26 : decode cX12_cell 26 = .ok (.aload_n 0, 1) := by decide +kernel
theorem dX12_cell_27 : decode cX12_cell 27 = .ok (.invokevirtual 145, 3) := by decide +kernel
theorem dX12_cell_30 : decode cX12_cell 30 = .ok (.iload_n 3, 1) := by decide +kernel
theorem dX12_cell_31 : decode cX12_cell 31 = .ok (.ifCond .ne 17, 3) := by decide +kernel
theorem dX12_cell_34 : decode cX12_cell 34 = .ok (.aload_n 0, 1) := by decide +kernel
theorem dX12_cell_35 : decode cX12_cell 35 = .ok (.getfield 16, 3) := by decide +kernel
theorem dX12_cell_38 : decode cX12_cell 38 = .ok (.bipush 12, 2) := by decide +kernel
theorem dX12_cell_40 : decode cX12_cell 40 = .ok (.iload_n 2, 1) := by decide +kernel
theorem dX12_cell_41 : decode cX12_cell 41 = .ok (.imul, 1) := by decide +kernel
theorem dX12_cell_42 : decode cX12_cell 42 = .ok (.iload_n 1, 1) := by decide +kernel
theorem dX12_cell_43 : decode cX12_cell 43 = .ok (.iadd, 1) := by decide +kernel
theorem dX12_cell_44 : decode cX12_cell 44 = .ok (.iaload, 1) := by decide +kernel
theorem dX12_cell_45 : decode cX12_cell 45 = .ok (.goto 14, 3) := by decide +kernel
theorem dX12_cell_48 : decode cX12_cell 48 = .ok (.aload_n 0, 1) := by decide +kernel
theorem dX12_cell_49 : decode cX12_cell 49 = .ok (.getfield 24, 3) := by decide +kernel
theorem dX12_cell_52 : decode cX12_cell 52 = .ok (.bipush 12, 2) := by decide +kernel
theorem dX12_cell_54 : decode cX12_cell 54 = .ok (.iload_n 2, 1) := by decide +kernel
theorem dX12_cell_55 : decode cX12_cell 55 = .ok (.imul, 1) := by decide +kernel
theorem dX12_cell_56 : decode cX12_cell 56 = .ok (.iload_n 1, 1) := by decide +kernel
theorem dX12_cell_57 : decode cX12_cell 57 = .ok (.iadd, 1) := by decide +kernel
theorem dX12_cell_58 : decode cX12_cell 58 = .ok (.iaload, 1) := by decide +kernel
theorem dX12_cell_59 : decode cX12_cell 59 = .ok (.ireturn, 1) := by decide +kernel
theorem dX12_repair_0 : decode cX12_repair 0 = .ok (.aload_n 0, 1) := by decide +kernel
theorem dX12_repair_1 : decode cX12_repair 1 = .ok (.iconst 0, 1) := by decide +kernel
theorem dX12_repair_2 : decode cX12_repair 2 = .ok (.putfield 96, 3) := by decide +kernel
theorem dX12_repair_5 : decode cX12_repair 5 = .ok (.aload_n 0, 1) := by decide +kernel
theorem dX12_repair_6 : decode cX12_repair 6 = .ok (.iload_n 1, 1) := by decide +kernel
theorem dX12_repair_7 : decode cX12_repair 7 = .ok (.iload_n 2, 1) := by decide +kernel
theorem dX12_repair_8 : decode cX12_repair 8 = .ok (.invokevirtual 126, 3) := by decide +kernel
theorem dX12_repair_11 : decode cX12_repair 11 = .ok (.ifCond .ne 10, 3) := by decide +kernel
theorem dX12_repair_14 : decode cX12_repair 14 = .ok (.aload_n 0, 1) := by decide +kernel
theorem dX12_repair_15 : decode cX12_repair 15 = .ok (.bipush (-2), 2) := by decide +kernel
theorem dX12_repair_17 : decode cX12_repair 17 = .ok (.invokevirtual 113, 3) := by decide +kernel
theorem dX12_repair_20 : decode cX12_repair 20 = .ok (.ireturn, 1) := by decide +kernel
theorem dX12_repair_21 : decode cX12_repair 21 = .ok (.aload_n 0, 1) := by decide +kernel
theorem dX12_repair_22 : decode cX12_repair 22 = .ok (.invokevirtual 145, 3) := by decide +kernel
theorem dX12_repair_25 : decode cX12_repair 25 = .ok (.aload_n 0, 1) := by decide +kernel
theorem dX12_repair_26 : decode cX12_repair 26 = .ok (.getfield 24, 3) := by decide +kernel
theorem dX12_repair_29 : decode cX12_repair 29 = .ok (.bipush 12, 2) := by decide +kernel
theorem dX12_repair_31 : decode cX12_repair 31 = .ok (.iload_n 2, 1) := by decide +kernel
theorem dX12_repair_32 : decode cX12_repair 32 = .ok (.imul, 1) := by decide +kernel
theorem dX12_repair_33 : decode cX12_repair 33 = .ok (.iload_n 1, 1) := by decide +kernel
theorem dX12_repair_34 : decode cX12_repair 34 = .ok (.iadd, 1) := by decide +kernel
theorem dX12_repair_35 : decode cX12_repair 35 = .ok (.iaload, 1) := by decide +kernel
theorem dX12_repair_36 : decode cX12_repair 36 = .ok (.istore_n 3, 1) := by decide +kernel
theorem dX12_repair_37 : decode cX12_repair 37 = .ok (.aload_n 0, 1) := by decide +kernel
theorem dX12_repair_38 : decode cX12_repair 38 = .ok (.iload_n 1, 1) := by decide +kernel
theorem dX12_repair_39 : decode cX12_repair 39 = .ok (.iconst 1, 1) := by decide +kernel
theorem dX12_repair_40 : decode cX12_repair 40 = .ok (.isub, 1) := by decide +kernel
theorem dX12_repair_41 : decode cX12_repair 41 = .ok (.iload_n 2, 1) := by decide +kernel
theorem dX12_repair_42 : decode cX12_repair 42 = .ok (.invokevirtual 148, 3) := by decide +kernel
theorem dX12_repair_45 : decode cX12_repair 45 = .ok (.ifCond .ne 36, 3) := by decide +kernel
theorem dX12_repair_48 : decode cX12_repair 48 = .ok (.aload_n 0, 1) := by decide +kernel
theorem dX12_repair_49 : decode cX12_repair 49 = .ok (.iload_n 1, 1) := by decide +kernel
theorem dX12_repair_50 : decode cX12_repair 50 = .ok (.iconst 1, 1) := by decide +kernel
theorem dX12_repair_51 : decode cX12_repair 51 = .ok (.iadd, 1) := by decide +kernel
theorem dX12_repair_52 : decode cX12_repair 52 = .ok (.iload_n 2, 1) := by decide +kernel
theorem dX12_repair_53 : decode cX12_repair 53 = .ok (.invokevirtual 148, 3) := by decide +kernel
theorem dX12_repair_56 : decode cX12_repair 56 = .ok (.ifCond .ne 25, 3) := by decide +kernel
theorem dX12_repair_59 : decode cX12_repair 59 = .ok (.aload_n 0, 1) := by decide +kernel
theorem dX12_repair_60 : decode cX12_repair 60 = .ok (.iload_n 1, 1) := by decide +kernel
theorem dX12_repair_61 : decode cX12_repair 61 = .ok (.iload_n 2, 1) := by decide +kernel
theorem dX12_repair_62 : decode cX12_repair 62 = .ok (.iconst 1, 1) := by decide +kernel
theorem dX12_repair_63 : decode cX12_repair 63 = .ok (.isub, 1) := by decide +kernel
theorem dX12_repair_64 : decode cX12_repair 64 = .ok (.invokevirtual 148, 3) := by decide +kernel
theorem dX12_repair_67 : decode cX12_repair 67 = .ok (.ifCond .ne 14, 3) := by decide +kernel
theorem dX12_repair_70 : decode cX12_repair 70 = .ok (.aload_n 0, 1) := by decide +kernel
theorem dX12_repair_71 : decode cX12_repair 71 = .ok (.iload_n 1, 1) := by decide +kernel
theorem dX12_repair_72 : decode cX12_repair 72 = .ok (.iload_n 2, 1) := by decide +kernel
theorem dX12_repair_73 : decode cX12_repair 73 = .ok (.iconst 1, 1) := by decide +kernel
theorem dX12_repair_74 : decode cX12_repair 74 = .ok (.iadd, 1) := by decide +kernel
theorem dX12_repair_75 : decode cX12_repair 75 = .ok (.invokevirtual 148, 3) := by decide +kernel
theorem dX12_repair_78 : decode cX12_repair 78 = .ok (.ifCond .eq 7, 3) := by decide +kernel
theorem dX12_repair_81 : decode cX12_repair 81 = .ok (.iconst 1, 1) := by decide +kernel
theorem dX12_repair_82 : decode cX12_repair 82 = .ok (.goto 4, 3) := by decide +kernel
theorem dX12_repair_85 : decode cX12_repair 85 = .ok (.iconst 0, 1) := by decide +kernel
theorem dX12_repair_86 : decode cX12_repair 86 = .ok (.istore 4, 2) := by decide +kernel
theorem dX12_repair_88 : decode cX12_repair 88 = .ok (.iload_n 3, 1) := by decide +kernel
theorem dX12_repair_89 : decode cX12_repair 89 = .ok (.iconst 2, 1) := by decide +kernel
theorem dX12_repair_90 : decode cX12_repair 90 = .ok (.if_icmp .eq 8, 3) := by decide +kernel
theorem dX12_repair_93 : decode cX12_repair 93 = .ok (.iload_n 3, 1) := by decide +kernel
theorem dX12_repair_94 : decode cX12_repair 94 = .ok (.iconst 3, 1) := by decide +kernel
theorem dX12_repair_95 : decode cX12_repair 95 = .ok (.if_icmp .ne 8, 3) := by decide +kernel
theorem dX12_repair_98 : decode cX12_repair 98 = .ok (.iload 4, 2) := by decide +kernel
theorem dX12_repair_100 : decode cX12_repair 100 = .ok (.ifCond .ne 10, 3) := by decide +kernel
theorem dX12_repair_103 : decode cX12_repair 103 = .ok (.aload_n 0, 1) := by decide +kernel
theorem dX12_repair_104 : decode cX12_repair 104 = .ok (.bipush (-3), 2) := by decide +kernel
theorem dX12_repair_106 : decode cX12_repair 106 = .ok (.invokevirtual 113, 3) := by decide +kernel
theorem dX12_repair_109 : decode cX12_repair 109 = .ok (.ireturn, 1) := by decide +kernel
theorem dX12_repair_110 : decode cX12_repair 110 = .ok (.aload_n 0, 1) := by decide +kernel
theorem dX12_repair_111 : decode cX12_repair 111 = .ok (.getfield 20, 3) := by decide +kernel
theorem dX12_repair_114 : decode cX12_repair 114 = .ok (.bipush 12, 2) := by decide +kernel
theorem dX12_repair_116 : decode cX12_repair 116 = .ok (.iload_n 2, 1) := by decide +kernel
theorem dX12_repair_117 : decode cX12_repair 117 = .ok (.imul, 1) := by decide +kernel
theorem dX12_repair_118 : decode cX12_repair 118 = .ok (.iload_n 1, 1) := by decide +kernel
theorem dX12_repair_119 : decode cX12_repair 119 = .ok (.iadd, 1) := by decide +kernel
theorem dX12_repair_120 : decode cX12_repair 120 = .ok (.iconst 1, 1) := by decide +kernel
theorem dX12_repair_121 : decode cX12_repair 121 = .ok (.bastore, 1) := by decide +kernel
theorem dX12_repair_122 : decode cX12_repair 122 = .ok (.aload_n 0, 1) := by decide +kernel
theorem dX12_repair_123 : decode cX12_repair 123 = .ok (.dup, 1) := by decide +kernel
theorem dX12_repair_124 : decode cX12_repair 124 = .ok (.getfield 106, 3) := by decide +kernel
theorem dX12_repair_127 : decode cX12_repair 127 = .ok (.iconst 1, 1) := by decide +kernel
theorem dX12_repair_128 : decode cX12_repair 128 = .ok (.iadd, 1) := by decide +kernel
theorem dX12_repair_129 : decode cX12_repair 129 = .ok (.putfield 106, 3) := by decide +kernel
theorem dX12_repair_132 : decode cX12_repair 132 = .ok (.aload_n 0, 1) := by decide +kernel
theorem dX12_repair_133 : decode cX12_repair 133 = .ok (.aload_n 0, 1) := by decide +kernel
theorem dX12_repair_134 : decode cX12_repair 134 = .ok (.getfield 106, 3) := by decide +kernel
theorem dX12_repair_137 : decode cX12_repair 137 = .ok (.invokevirtual 113, 3) := by decide +kernel
theorem dX12_repair_140 : decode cX12_repair 140 = .ok (.ireturn, 1) := by decide +kernel
theorem dX12_wallAt_0 : decode cX12_wallAt 0 = .ok (.iconst 1, 1) := by decide +kernel
theorem dX12_wallAt_1 : decode cX12_wallAt 1 = .ok (.istore_n 3, 1) := by decide +kernel
theorem dX12_wallAt_2 : decode cX12_wallAt 2 = .ok (.iload_n 1, 1) := by decide +kernel
theorem dX12_wallAt_3 : decode cX12_wallAt 3 = .ok (.iconst 1, 1) := by decide +kernel
theorem dX12_wallAt_4 : decode cX12_wallAt 4 = .ok (.isub, 1) := by decide +kernel
theorem dX12_wallAt_5 : decode cX12_wallAt 5 = .ok (.istore 4, 2) := by decide +kernel
theorem dX12_wallAt_7 : decode cX12_wallAt 7 = .ok (.aload_n 0, 1) := by decide +kernel
theorem dX12_wallAt_8 : decode cX12_wallAt 8 = .ok (.iload 4, 2) := by decide +kernel
theorem dX12_wallAt_10 : decode cX12_wallAt 10 = .ok (.iload_n 2, 1) := by decide +kernel
theorem dX12_wallAt_11 : decode cX12_wallAt 11 = .ok (.invokevirtual 148, 3) := by decide +kernel
theorem dX12_wallAt_14 : decode cX12_wallAt 14 = .ok (.ifCond .eq 12, 3) := by decide +kernel
theorem dX12_wallAt_17 : decode cX12_wallAt 17 = .ok (.iinc 3 1, 3) := by decide +kernel
theorem dX12_wallAt_20 : decode cX12_wallAt 20 = .ok (.iinc 4 (-1), 3) := by decide +kernel
theorem dX12_wallAt_23 : decode cX12_wallAt 23 = .ok (.goto (-16), 3) := by decide +kernel
theorem dX12_wallAt_26 : decode cX12_wallAt 26 = .ok (.iload_n 1, 1) := by decide +kernel
theorem dX12_wallAt_27 : decode cX12_wallAt 27 = .ok (.iconst 1, 1) := by decide +kernel
theorem dX12_wallAt_28 : decode cX12_wallAt 28 = .ok (.iadd, 1) := by decide +kernel
theorem dX12_wallAt_29 : decode cX12_wallAt 29 = .ok (.istore 4, 2) := by decide +kernel
theorem dX12_wallAt_31 : decode cX12_wallAt 31 = .ok (.aload_n 0, 1) := by decide +kernel
theorem dX12_wallAt_32 : decode cX12_wallAt 32 = .ok (.iload 4, 2) := by decide +kernel
theorem dX12_wallAt_34 : decode cX12_wallAt 34 = .ok (.iload_n 2, 1) := by decide +kernel
theorem dX12_wallAt_35 : decode cX12_wallAt 35 = .ok (.invokevirtual 148, 3) := by decide +kernel
theorem dX12_wallAt_38 : decode cX12_wallAt 38 = .ok (.ifCond .eq 12, 3) := by decide +kernel
theorem dX12_wallAt_41 : decode cX12_wallAt 41 = .ok (.iinc 3 1, 3) := by decide +kernel
theorem dX12_wallAt_44 : decode cX12_wallAt 44 = .ok (.iinc 4 1, 3) := by decide +kernel
theorem dX12_wallAt_47 : decode cX12_wallAt 47 = .ok (.goto (-16), 3) := by decide +kernel
theorem dX12_wallAt_50 : decode cX12_wallAt 50 = .ok (.iconst 1, 1) := by decide +kernel
theorem dX12_wallAt_51 : decode cX12_wallAt 51 = .ok (.istore 4, 2) := by decide +kernel
theorem dX12_wallAt_53 : decode cX12_wallAt 53 = .ok (.iload_n 2, 1) := by decide +kernel
theorem dX12_wallAt_54 : decode cX12_wallAt 54 = .ok (.iconst 1, 1) := by decide +kernel
theorem dX12_wallAt_55 : decode cX12_wallAt 55 = .ok (.isub, 1) := by decide +kernel
theorem dX12_wallAt_56 : decode cX12_wallAt 56 = .ok (.istore 5, 2) := by decide +kernel
theorem dX12_wallAt_58 : decode cX12_wallAt 58 = .ok (.aload_n 0, 1) := by decide +kernel
theorem dX12_wallAt_59 : decode cX12_wallAt 59 = .ok (.iload_n 1, 1) := by decide +kernel
theorem dX12_wallAt_60 : decode cX12_wallAt 60 = .ok (.iload 5, 2) := by decide +kernel
theorem dX12_wallAt_62 : decode cX12_wallAt 62 = .ok (.invokevirtual 148, 3) := by decide +kernel
theorem dX12_wallAt_65 : decode cX12_wallAt 65 = .ok (.ifCond .eq 12, 3) := by decide +kernel
theorem dX12_wallAt_68 : decode cX12_wallAt 68 = .ok (.iinc 4 1, 3) := by decide +kernel
theorem dX12_wallAt_71 : decode cX12_wallAt 71 = .ok (.iinc 5 (-1), 3) := by decide +kernel
theorem dX12_wallAt_74 : decode cX12_wallAt 74 = .ok (.goto (-16), 3) := by decide +kernel
theorem dX12_wallAt_77 : decode cX12_wallAt 77 = .ok (.iload_n 2, 1) := by decide +kernel
theorem dX12_wallAt_78 : decode cX12_wallAt 78 = .ok (.iconst 1, 1) := by decide +kernel
theorem dX12_wallAt_79 : decode cX12_wallAt 79 = .ok (.iadd, 1) := by decide +kernel
theorem dX12_wallAt_80 : decode cX12_wallAt 80 = .ok (.istore 5, 2) := by decide +kernel
theorem dX12_wallAt_82 : decode cX12_wallAt 82 = .ok (.aload_n 0, 1) := by decide +kernel
theorem dX12_wallAt_83 : decode cX12_wallAt 83 = .ok (.iload_n 1, 1) := by decide +kernel
theorem dX12_wallAt_84 : decode cX12_wallAt 84 = .ok (.iload 5, 2) := by decide +kernel
theorem dX12_wallAt_86 : decode cX12_wallAt 86 = .ok (.invokevirtual 148, 3) := by decide +kernel
theorem dX12_wallAt_89 : decode cX12_wallAt 89 = .ok (.ifCond .eq 12, 3) := by decide +kernel
theorem dX12_wallAt_92 : decode cX12_wallAt 92 = .ok (.iinc 4 1, 3) := by decide +kernel
theorem dX12_wallAt_95 : decode cX12_wallAt 95 = .ok (.iinc 5 1, 3) := by decide +kernel
theorem dX12_wallAt_98 : decode cX12_wallAt 98 = .ok (.goto (-16), 3) := by decide +kernel
theorem dX12_wallAt_101 : decode cX12_wallAt 101 = .ok (.iload_n 3, 1) := by decide +kernel
theorem dX12_wallAt_102 : decode cX12_wallAt 102 = .ok (.iload 4, 2) := by decide +kernel
theorem dX12_wallAt_104 : decode cX12_wallAt 104 = .ok (.if_icmp .ge 7, 3) := by decide +kernel
theorem dX12_wallAt_107 : decode cX12_wallAt 107 = .ok (.iload_n 3, 1) := by decide +kernel
theorem dX12_wallAt_108 : decode cX12_wallAt 108 = .ok (.goto 5, 3) := by decide +kernel
theorem dX12_wallAt_111 : decode cX12_wallAt 111 = .ok (.iload 4, 2) := by decide +kernel
theorem dX12_wallAt_113 : decode cX12_wallAt 113 = .ok (.ireturn, 1) := by decide +kernel
theorem dX12_wallOf_0 : decode cX12_wallOf 0 = .ok (.iconst 0, 1) := by decide +kernel
theorem dX12_wallOf_1 : decode cX12_wallOf 1 = .ok (.istore_n 1, 1) := by decide +kernel
theorem dX12_wallOf_2 : decode cX12_wallOf 2 = .ok (.iconst 0, 1) := by decide +kernel
theorem dX12_wallOf_3 : decode cX12_wallOf 3 = .ok (.istore_n 2, 1) := by decide +kernel
theorem dX12_wallOf_4 : decode cX12_wallOf 4 = .ok (.iload_n 2, 1) := by decide +kernel
theorem dX12_wallOf_5 : decode cX12_wallOf 5 = .ok (.aload_n 0, 1) := by decide +kernel
theorem dX12_wallOf_6 : decode cX12_wallOf 6 = .ok (.getfield 13, 3) := by decide +kernel
theorem dX12_wallOf_9 : decode cX12_wallOf 9 = .ok (.if_icmp .ge 68, 3) := by decide +kernel
theorem dX12_wallOf_12 : decode cX12_wallOf 12 = .ok (.iconst 0, 1) := by decide +kernel
theorem dX12_wallOf_13 : decode cX12_wallOf 13 = .ok (.istore_n 3, 1) := by decide +kernel
theorem dX12_wallOf_14 : decode cX12_wallOf 14 = .ok (.iload_n 3, 1) := by decide +kernel
theorem dX12_wallOf_15 : decode cX12_wallOf 15 = .ok (.aload_n 0, 1) := by decide +kernel
theorem dX12_wallOf_16 : decode cX12_wallOf 16 = .ok (.getfield 7, 3) := by decide +kernel
theorem dX12_wallOf_19 : decode cX12_wallOf 19 = .ok (.if_icmp .ge 52, 3) := by decide +kernel
theorem dX12_wallOf_22 : decode cX12_wallOf 22 = .ok (.aload_n 0, 1) := by decide +kernel
theorem dX12_wallOf_23 : decode cX12_wallOf 23 = .ok (.iload_n 3, 1) := by decide +kernel
theorem dX12_wallOf_24 : decode cX12_wallOf 24 = .ok (.iload_n 2, 1) := by decide +kernel
theorem dX12_wallOf_25 : decode cX12_wallOf 25 = .ok (.invokevirtual 148, 3) := by decide +kernel
theorem dX12_wallOf_28 : decode cX12_wallOf 28 = .ok (.ifCond .eq 12, 3) := by decide +kernel
theorem dX12_wallOf_31 : decode cX12_wallOf 31 = .ok (.aload_n 0, 1) := by decide +kernel
theorem dX12_wallOf_32 : decode cX12_wallOf 32 = .ok (.iload_n 3, 1) := by decide +kernel
theorem dX12_wallOf_33 : decode cX12_wallOf 33 = .ok (.iload_n 2, 1) := by decide +kernel
theorem dX12_wallOf_34 : decode cX12_wallOf 34 = .ok (.invokevirtual 151, 3) := by decide +kernel
theorem dX12_wallOf_37 : decode cX12_wallOf 37 = .ok (.goto 4, 3) := by decide +kernel
theorem dX12_wallOf_40 : decode cX12_wallOf 40 = .ok (.iconst 0, 1) := by decide +kernel
theorem dX12_wallOf_41 : decode cX12_wallOf 41 = .ok (.istore 4, 2) := by decide +kernel
theorem dX12_wallOf_43 : decode cX12_wallOf 43 = .ok (.iload 4, 2) := by decide +kernel
theorem dX12_wallOf_45 : decode cX12_wallOf 45 = .ok (.ifCond .le 18, 3) := by decide +kernel
theorem dX12_wallOf_48 : decode cX12_wallOf 48 = .ok (.iload_n 1, 1) := by decide +kernel
theorem dX12_wallOf_49 : decode cX12_wallOf 49 = .ok (.ifCond .eq 9, 3) := by decide +kernel
theorem dX12_wallOf_52 : decode cX12_wallOf 52 = .ok (.iload 4, 2) := by decide +kernel
theorem dX12_wallOf_54 : decode cX12_wallOf 54 = .ok (.iload_n 1, 1) := by decide +kernel
theorem dX12_wallOf_55 : decode cX12_wallOf 55 = .ok (.if_icmp .ge 8, 3) := by decide +kernel
theorem dX12_wallOf_58 : decode cX12_wallOf 58 = .ok (.iload 4, 2) := by decide +kernel
theorem dX12_wallOf_60 : decode cX12_wallOf 60 = .ok (.goto 4, 3) := by decide +kernel
theorem dX12_wallOf_63 : decode cX12_wallOf 63 = .ok (.iload_n 1, 1) := by decide +kernel
theorem dX12_wallOf_64 : decode cX12_wallOf 64 = .ok (.istore_n 1, 1) := by decide +kernel
theorem dX12_wallOf_65 : decode cX12_wallOf 65 = .ok (.iinc 3 1, 3) := by decide +kernel
theorem dX12_wallOf_68 : decode cX12_wallOf 68 = .ok (.goto (-54), 3) := by decide +kernel
theorem dX12_wallOf_71 : decode cX12_wallOf 71 = .ok (.iinc 2 1, 3) := by decide +kernel
theorem dX12_wallOf_74 : decode cX12_wallOf 74 = .ok (.goto (-70), 3) := by decide +kernel
theorem dX12_wallOf_77 : decode cX12_wallOf 77 = .ok (.iload_n 1, 1) := by decide +kernel
theorem dX12_wallOf_78 : decode cX12_wallOf 78 = .ok (.ireturn, 1) := by decide +kernel
theorem dX12_wall_0 : decode cX12_wall 0 = .ok (.aload_n 0, 1) := by decide +kernel
theorem dX12_wall_1 : decode cX12_wall 1 = .ok (.iconst 0, 1) := by decide +kernel
theorem dX12_wall_2 : decode cX12_wall 2 = .ok (.putfield 96, 3) := by decide +kernel
theorem dX12_wall_5 : decode cX12_wall 5 = .ok (.iload_n 1, 1) := by decide +kernel
theorem dX12_wall_6 : decode cX12_wall 6 = .ok (.iconst (-1), 1) := by decide +kernel
theorem dX12_wall_7 : decode cX12_wall 7 = .ok (.if_icmp .ne 12, 3) := by decide +kernel
theorem dX12_wall_10 : decode cX12_wall 10 = .ok (.iload_n 2, 1) := by decide +kernel
theorem dX12_wall_11 : decode cX12_wall 11 = .ok (.iconst (-1), 1) := by decide +kernel
theorem dX12_wall_12 : decode cX12_wall 12 = .ok (.if_icmp .ne 7, 3) := by decide +kernel
theorem dX12_wall_15 : decode cX12_wall 15 = .ok (.iconst 1, 1) := by decide +kernel
theorem dX12_wall_16 : decode cX12_wall 16 = .ok (.goto 4, 3) := by decide +kernel
theorem dX12_wall_19 : decode cX12_wall 19 = .ok (.iconst 0, 1) := by decide +kernel
theorem dX12_wall_20 : decode cX12_wall 20 = .ok (.istore_n 3, 1) := by decide +kernel
theorem dX12_wall_21 : decode cX12_wall 21 = .ok (.iload_n 3, 1) := by decide +kernel
theorem dX12_wall_22 : decode cX12_wall 22 = .ok (.ifCond .ne 14, 3) := by decide +kernel
theorem dX12_wall_25 : decode cX12_wall 25 = .ok (.aload_n 0, 1) := by decide +kernel
theorem dX12_wall_26 : decode cX12_wall 26 = .ok (.iload_n 1, 1) := by decide +kernel
theorem dX12_wall_27 : decode cX12_wall 27 = .ok (.iload_n 2, 1) := by decide +kernel
theorem dX12_wall_28 : decode cX12_wall 28 = .ok (.invokevirtual 126, 3) := by decide +kernel
theorem dX12_wall_31 : decode cX12_wall 31 = .ok (.ifCond .ne 5, 3) := by decide +kernel
theorem dX12_wall_34 : decode cX12_wall 34 = .ok (.iconst (-1), 1) := by decide +kernel
theorem dX12_wall_35 : decode cX12_wall 35 = .ok (.ireturn, 1) := by decide +kernel
theorem dX12_wall_36 : decode cX12_wall 36 = .ok (.aload_n 0, 1) := by decide +kernel
theorem dX12_wall_37 : decode cX12_wall 37 = .ok (.invokevirtual 145, 3) := by decide +kernel
theorem dX12_wall_40 : decode cX12_wall 40 = .ok (.iload_n 3, 1) := by decide +kernel
theorem dX12_wall_41 : decode cX12_wall 41 = .ok (.ifCond .eq 10, 3) := by decide +kernel
theorem dX12_wall_44 : decode cX12_wall 44 = .ok (.aload_n 0, 1) := by decide +kernel
theorem dX12_wall_45 : decode cX12_wall 45 = .ok (.invokevirtual 155, 3) := by decide +kernel
theorem dX12_wall_48 : decode cX12_wall 48 = .ok (.goto 22, 3) := by decide +kernel
theorem dX12_wall_51 : decode cX12_wall 51 = .ok (.aload_n 0, 1) := by decide +kernel
theorem dX12_wall_52 : decode cX12_wall 52 = .ok (.iload_n 1, 1) := by decide +kernel
theorem dX12_wall_53 : decode cX12_wall 53 = .ok (.iload_n 2, 1) := by decide +kernel
theorem dX12_wall_54 : decode cX12_wall 54 = .ok (.invokevirtual 148, 3) := by decide +kernel
theorem dX12_wall_57 : decode cX12_wall 57 = .ok (.ifCond .eq 12, 3) := by decide +kernel
theorem dX12_wall_60 : decode cX12_wall 60 = .ok (.aload_n 0, 1) := by decide +kernel
theorem dX12_wall_61 : decode cX12_wall 61 = .ok (.iload_n 1, 1) := by decide +kernel
theorem dX12_wall_62 : decode cX12_wall 62 = .ok (.iload_n 2, 1) := by decide +kernel
theorem dX12_wall_63 : decode cX12_wall 63 = .ok (.invokevirtual 151, 3) := by decide +kernel
theorem dX12_wall_66 : decode cX12_wall 66 = .ok (.goto 4, 3) := by decide +kernel
theorem dX12_wall_69 : decode cX12_wall 69 = .ok (.iconst 0, 1) := by decide +kernel
theorem dX12_wall_70 : decode cX12_wall 70 = .ok (.ireturn, 1) := by decide +kernel
theorem dX12_cellsOf_0 : decode cX12_cellsOf 0 = .ok (.iconst 0, 1) := by decide +kernel
theorem dX12_cellsOf_1 : decode cX12_cellsOf 1 = .ok (.istore_n 2, 1) := by decide +kernel
theorem dX12_cellsOf_2 : decode cX12_cellsOf 2 = .ok (.iconst 0, 1) := by decide +kernel
theorem dX12_cellsOf_3 : decode cX12_cellsOf 3 = .ok (.istore_n 3, 1) := by decide +kernel
theorem dX12_cellsOf_4 : decode cX12_cellsOf 4 = .ok (.iload_n 3, 1) := by decide +kernel
theorem dX12_cellsOf_5 : decode cX12_cellsOf 5 = .ok (.aload_n 0, 1) := by decide +kernel
theorem dX12_cellsOf_6 : decode cX12_cellsOf 6 = .ok (.getfield 13, 3) := by decide +kernel
theorem dX12_cellsOf_9 : decode cX12_cellsOf 9 = .ok (.if_icmp .ge 202, 3) := by decide +kernel
theorem dX12_cellsOf_12 : decode cX12_cellsOf 12 = .ok (.iconst 0, 1) := by decide +kernel
theorem dX12_cellsOf_13 : decode cX12_cellsOf 13 = .ok (.istore 4, 2) := by decide +kernel
theorem dX12_cellsOf_15 : decode cX12_cellsOf 15 = .ok (.iload 4, 2) := by decide +kernel
theorem dX12_cellsOf_17 : decode cX12_cellsOf 17 = .ok (.aload_n 0, 1) := by decide +kernel
theorem dX12_cellsOf_18 : decode cX12_cellsOf 18 = .ok (.getfield 7, 3) := by decide +kernel
theorem dX12_cellsOf_21 : decode cX12_cellsOf 21 = .ok (.if_icmp .ge 184, 3) := by decide +kernel
theorem dX12_cellsOf_24 : decode cX12_cellsOf 24 = .ok (.bipush 12, 2) := by decide +kernel
theorem dX12_cellsOf_26 : decode cX12_cellsOf 26 = .ok (.iload_n 3, 1) := by decide +kernel
theorem dX12_cellsOf_27 : decode cX12_cellsOf 27 = .ok (.imul, 1) := by decide +kernel
theorem dX12_cellsOf_28 : decode cX12_cellsOf 28 = .ok (.iload 4, 2) := by decide +kernel
theorem dX12_cellsOf_30 : decode cX12_cellsOf 30 = .ok (.iadd, 1) := by decide +kernel
theorem dX12_cellsOf_31 : decode cX12_cellsOf 31 = .ok (.istore 5, 2) := by decide +kernel
theorem dX12_cellsOf_33 : decode cX12_cellsOf 33 = .ok (.iload_n 1, 1) := by decide +kernel
theorem dX12_cellsOf_34 : decode cX12_cellsOf 34 = .ok (.ifCond .ne 13, 3) := by decide +kernel
theorem dX12_cellsOf_37 : decode cX12_cellsOf 37 = .ok (.aload_n 0, 1) := by decide +kernel
theorem dX12_cellsOf_38 : decode cX12_cellsOf 38 = .ok (.iload 4, 2) := by decide +kernel
theorem dX12_cellsOf_40 : decode cX12_cellsOf 40 = .ok (.iload_n 3, 1) := by decide +kernel
theorem dX12_cellsOf_41 : decode cX12_cellsOf 41 = .ok (.invokevirtual 148, 3) := by decide +kernel
theorem dX12_cellsOf_44 : decode cX12_cellsOf 44 = .ok (.goto 140, 3) := by decide +kernel
theorem dX12_cellsOf_47 : decode cX12_cellsOf 47 = .ok (.iload_n 1, 1) := by decide +kernel
theorem dX12_cellsOf_48 : decode cX12_cellsOf 48 = .ok (.iconst 1, 1) := by decide +kernel
theorem dX12_cellsOf_49 : decode cX12_cellsOf 49 = .ok (.if_icmp .ne 22, 3) := by decide +kernel
theorem dX12_cellsOf_52 : decode cX12_cellsOf 52 = .ok (.aload_n 0, 1) := by decide +kernel
theorem dX12_cellsOf_53 : decode cX12_cellsOf 53 = .ok (.getfield 24, 3) := by decide +kernel
theorem dX12_cellsOf_56 : decode cX12_cellsOf 56 = .ok (.iload 5, 2) := by decide +kernel
theorem dX12_cellsOf_58 : decode cX12_cellsOf 58 = .ok (.iaload, 1) := by decide +kernel
theorem dX12_cellsOf_59 : decode cX12_cellsOf 59 = .ok (.iconst 2, 1) := by decide +kernel
theorem dX12_cellsOf_60 : decode cX12_cellsOf 60 = .ok (.if_icmp .ne 7, 3) := by decide +kernel
theorem dX12_cellsOf_63 : decode cX12_cellsOf 63 = .ok (.iconst 1, 1) := by decide +kernel
theorem dX12_cellsOf_64 : decode cX12_cellsOf 64 = .ok (.goto 120, 3) := by decide +kernel
theorem dX12_cellsOf_67 : decode cX12_cellsOf 67 = .ok (.iconst 0, 1) := by decide +kernel
theorem dX12_cellsOf_68 : decode cX12_cellsOf 68 = .ok (.goto 116, 3) := by decide +kernel
theorem dX12_cellsOf_71 : decode cX12_cellsOf 71 = .ok (.iload_n 1, 1) := by decide +kernel
theorem dX12_cellsOf_72 : decode cX12_cellsOf 72 = .ok (.iconst 2, 1) := by decide +kernel
theorem dX12_cellsOf_73 : decode cX12_cellsOf 73 = .ok (.if_icmp .ne 22, 3) := by decide +kernel
theorem dX12_cellsOf_76 : decode cX12_cellsOf 76 = .ok (.aload_n 0, 1) := by decide +kernel
theorem dX12_cellsOf_77 : decode cX12_cellsOf 77 = .ok (.getfield 24, 3) := by decide +kernel
theorem dX12_cellsOf_80 : decode cX12_cellsOf 80 = .ok (.iload 5, 2) := by decide +kernel
theorem dX12_cellsOf_82 : decode cX12_cellsOf 82 = .ok (.iaload, 1) := by decide +kernel
theorem dX12_cellsOf_83 : decode cX12_cellsOf 83 = .ok (.iconst 3, 1) := by decide +kernel
theorem dX12_cellsOf_84 : decode cX12_cellsOf 84 = .ok (.if_icmp .ne 7, 3) := by decide +kernel
theorem dX12_cellsOf_87 : decode cX12_cellsOf 87 = .ok (.iconst 1, 1) := by decide +kernel
theorem dX12_cellsOf_88 : decode cX12_cellsOf 88 = .ok (.goto 96, 3) := by decide +kernel
theorem dX12_cellsOf_91 : decode cX12_cellsOf 91 = .ok (.iconst 0, 1) := by decide +kernel
theorem dX12_cellsOf_92 : decode cX12_cellsOf 92 = .ok (.goto 92, 3) := by decide +kernel
theorem dX12_cellsOf_95 : decode cX12_cellsOf 95 = .ok (.iload_n 1, 1) := by decide +kernel
theorem dX12_cellsOf_96 : decode cX12_cellsOf 96 = .ok (.iconst 3, 1) := by decide +kernel
theorem dX12_cellsOf_97 : decode cX12_cellsOf 97 = .ok (.if_icmp .ne 22, 3) := by decide +kernel
theorem dX12_cellsOf_100 : decode cX12_cellsOf 100 = .ok (.aload_n 0, 1) := by decide +kernel
theorem dX12_cellsOf_101 : decode cX12_cellsOf 101 = .ok (.getfield 16, 3) := by decide +kernel
theorem dX12_cellsOf_104 : decode cX12_cellsOf 104 = .ok (.iload 5, 2) := by decide +kernel
theorem dX12_cellsOf_106 : decode cX12_cellsOf 106 = .ok (.iaload, 1) := by decide +kernel
theorem dX12_cellsOf_107 : decode cX12_cellsOf 107 = .ok (.iconst 1, 1) := by decide +kernel
theorem dX12_cellsOf_108 : decode cX12_cellsOf 108 = .ok (.if_icmp .ne 7, 3) := by decide +kernel
theorem dX12_cellsOf_111 : decode cX12_cellsOf 111 = .ok (.iconst 1, 1) := by decide +kernel
theorem dX12_cellsOf_112 : decode cX12_cellsOf 112 = .ok (.goto 72, 3) := by decide +kernel
theorem dX12_cellsOf_115 : decode cX12_cellsOf 115 = .ok (.iconst 0, 1) := by decide +kernel
theorem dX12_cellsOf_116 : decode cX12_cellsOf 116 = .ok (.goto 68, 3) := by decide +kernel
theorem dX12_cellsOf_119 : decode cX12_cellsOf 119 = .ok (.iload_n 1, 1) := by decide +kernel
theorem dX12_cellsOf_120 : decode cX12_cellsOf 120 = .ok (.iconst 4, 1) := by decide +kernel
theorem dX12_cellsOf_121 : decode cX12_cellsOf 121 = .ok (.if_icmp .ne 22, 3) := by decide +kernel
theorem dX12_cellsOf_124 : decode cX12_cellsOf 124 = .ok (.aload_n 0, 1) := by decide +kernel
theorem dX12_cellsOf_125 : decode cX12_cellsOf 125 = .ok (.getfield 16, 3) := by decide +kernel
theorem dX12_cellsOf_128 : decode cX12_cellsOf 128 = .ok (.iload 5, 2) := by decide +kernel
theorem dX12_cellsOf_130 : decode cX12_cellsOf 130 = .ok (.iaload, 1) := by decide +kernel
theorem dX12_cellsOf_131 : decode cX12_cellsOf 131 = .ok (.iconst 2, 1) := by decide +kernel
theorem dX12_cellsOf_132 : decode cX12_cellsOf 132 = .ok (.if_icmp .ne 7, 3) := by decide +kernel
theorem dX12_cellsOf_135 : decode cX12_cellsOf 135 = .ok (.iconst 1, 1) := by decide +kernel
theorem dX12_cellsOf_136 : decode cX12_cellsOf 136 = .ok (.goto 48, 3) := by decide +kernel
theorem dX12_cellsOf_139 : decode cX12_cellsOf 139 = .ok (.iconst 0, 1) := by decide +kernel
theorem dX12_cellsOf_140 : decode cX12_cellsOf 140 = .ok (.goto 44, 3) := by decide +kernel
theorem dX12_cellsOf_143 : decode cX12_cellsOf 143 = .ok (.iload_n 1, 1) := by decide +kernel
theorem dX12_cellsOf_144 : decode cX12_cellsOf 144 = .ok (.iconst 5, 1) := by decide +kernel
theorem dX12_cellsOf_145 : decode cX12_cellsOf 145 = .ok (.if_icmp .ne 22, 3) := by decide +kernel
theorem dX12_cellsOf_148 : decode cX12_cellsOf 148 = .ok (.aload_n 0, 1) := by decide +kernel
theorem dX12_cellsOf_149 : decode cX12_cellsOf 149 = .ok (.getfield 24, 3) := by decide +kernel
theorem dX12_cellsOf_152 : decode cX12_cellsOf 152 = .ok (.iload 5, 2) := by decide +kernel
theorem dX12_cellsOf_154 : decode cX12_cellsOf 154 = .ok (.iaload, 1) := by decide +kernel
theorem dX12_cellsOf_155 : decode cX12_cellsOf 155 = .ok (.iconst 5, 1) := by decide +kernel
theorem dX12_cellsOf_156 : decode cX12_cellsOf 156 = .ok (.if_icmp .ne 7, 3) := by decide +kernel
theorem dX12_cellsOf_159 : decode cX12_cellsOf 159 = .ok (.iconst 1, 1) := by decide +kernel
theorem dX12_cellsOf_160 : decode cX12_cellsOf 160 = .ok (.goto 24, 3) := by decide +kernel
theorem dX12_cellsOf_163 : decode cX12_cellsOf 163 = .ok (.iconst 0, 1) := by decide +kernel
theorem dX12_cellsOf_164 : decode cX12_cellsOf 164 = .ok (.goto 20, 3) := by decide +kernel
theorem dX12_cellsOf_167 : decode cX12_cellsOf 167 = .ok (.aload_n 0, 1) := by decide +kernel
theorem dX12_cellsOf_168 : decode cX12_cellsOf 168 = .ok (.getfield 16, 3) := by decide +kernel
theorem dX12_cellsOf_171 : decode cX12_cellsOf 171 = .ok (.iload 5, 2) := by decide +kernel
theorem dX12_cellsOf_173 : decode cX12_cellsOf 173 = .ok (.iaload, 1) := by decide +kernel
theorem dX12_cellsOf_174 : decode cX12_cellsOf 174 = .ok (.bipush 10, 2) := by decide +kernel
theorem dX12_cellsOf_176 : decode cX12_cellsOf 176 = .ok (.if_icmp .lt 7, 3) := by decide +kernel
theorem dX12_cellsOf_179 : decode cX12_cellsOf 179 = .ok (.iconst 1, 1) := by decide +kernel
theorem dX12_cellsOf_180 : decode cX12_cellsOf 180 = .ok (.goto 4, 3) := by decide +kernel
theorem dX12_cellsOf_183 : decode cX12_cellsOf 183 = .ok (.iconst 0, 1) := by decide +kernel
theorem dX12_cellsOf_184 : decode cX12_cellsOf 184 = .ok (.istore 6, 2) := by decide +kernel
theorem dX12_cellsOf_186 : decode cX12_cellsOf 186 = .ok (.iload_n 2, 1) := by decide +kernel
theorem dX12_cellsOf_187 : decode cX12_cellsOf 187 = .ok (.iload 6, 2) := by decide +kernel
theorem dX12_cellsOf_189 : decode cX12_cellsOf 189 = .ok (.ifCond .eq 7, 3) := by decide +kernel
theorem dX12_cellsOf_192 : decode cX12_cellsOf 192 = .ok (.iconst 1, 1) := by decide +kernel
theorem dX12_cellsOf_193 : decode cX12_cellsOf 193 = .ok (.goto 4, 3) := by decide +kernel
theorem dX12_cellsOf_196 : decode cX12_cellsOf 196 = .ok (.iconst 0, 1) := by decide +kernel
theorem dX12_cellsOf_197 : decode cX12_cellsOf 197 = .ok (.iadd, 1) := by decide +kernel
theorem dX12_cellsOf_198 : decode cX12_cellsOf 198 = .ok (.istore_n 2, 1) := by decide +kernel
theorem dX12_cellsOf_199 : decode cX12_cellsOf 199 = .ok (.iinc 4 1, 3) := by decide +kernel
theorem dX12_cellsOf_202 : decode cX12_cellsOf 202 = .ok (.goto (-187), 3) := by decide +kernel
theorem dX12_cellsOf_205 : decode cX12_cellsOf 205 = .ok (.iinc 3 1, 3) := by decide +kernel
theorem dX12_cellsOf_208 : decode cX12_cellsOf 208 = .ok (.goto (-204), 3) := by decide +kernel
theorem dX12_cellsOf_211 : decode cX12_cellsOf 211 = .ok (.iload_n 2, 1) := by decide +kernel
theorem dX12_cellsOf_212 : decode cX12_cellsOf 212 = .ok (.ireturn, 1) := by decide +kernel
end
section
theorem dX12_many_0 : decode cX12_many 0 = .ok (.aload_n 0, 1) := by decide +kernel
theorem dX12_many_1 : decode cX12_many 1 = .ok (.iconst 0, 1) := by decide +kernel
theorem dX12_many_2 : decode cX12_many 2 = .ok (.putfield 96, 3) := by decide +kernel
theorem dX12_many_5 : decode cX12_many 5 = .ok (.iload_n 1, 1) := by decide +kernel
theorem dX12_many_6 : decode cX12_many 6 = .ok (.i2l, 1) := by decide +kernel
theorem dX12_many_7 : decode cX12_many 7 = .ok (.lconst 0, 1) := by decide +kernel
theorem dX12_many_8 : decode cX12_many 8 = .ok (.ldc2_w 159, 3) := by decide +kernel
theorem dX12_many_11 : decode cX12_many 11 = .ok (.invokestatic 102, 3) := by decide +kernel
theorem dX12_many_14 : decode cX12_many 14 = .ok (.ifCond .ne 5, 3) := by decide +kernel
theorem dX12_many_17 : decode cX12_many 17 = .ok (.iconst (-1), 1) := by decide +kernel
theorem dX12_many_18 : decode cX12_many 18 = .ok (.ireturn, 1) := by decide +kernel
theorem dX12_many_19 : decode cX12_many 19 = .ok (.aload_n 0, 1) := by decide +kernel
theorem dX12_many_20 : decode cX12_many 20 = .ok (.invokevirtual 145, 3) := by decide +kernel
theorem dX12_many_23 : decode cX12_many 23 = .ok (.aload_n 0, 1) := by decide +kernel
theorem dX12_many_24 : decode cX12_many 24 = .ok (.iload_n 1, 1) := by decide +kernel
theorem dX12_many_25 : decode cX12_many 25 = .ok (.invokevirtual 161, 3) := by decide +kernel
theorem dX12_many_28 : decode cX12_many 28 = .ok (.ireturn, 1) := by decide +kernel
theorem dX12_canGo_0 : decode cX12_canGo 0 = .ok (.iload_n 2, 1) := by decide +kernel
theorem dX12_canGo_1 : decode cX12_canGo 1 = .ok (.ifCond .ne 7, 3) := by decide +kernel
theorem dX12_canGo_4 : decode cX12_canGo 4 = .ok (.iconst 1, 1) := by decide +kernel
theorem dX12_canGo_5 : decode cX12_canGo 5 = .ok (.goto 13, 3) := by decide +kernel
theorem dX12_canGo_8 : decode cX12_canGo 8 = .ok (.iload_n 2, 1) := by decide +kernel
theorem dX12_canGo_9 : decode cX12_canGo 9 = .ok (.iconst 2, 1) := by decide +kernel
theorem dX12_canGo_10 : decode cX12_canGo 10 = .ok (.if_icmp .ne 7, 3) := by decide +kernel
theorem dX12_canGo_13 : decode cX12_canGo 13 = .ok (.iconst (-1), 1) := by decide +kernel
theorem dX12_canGo_14 : decode cX12_canGo 14 = .ok (.goto 4, 3) := by decide +kernel
theorem dX12_canGo_17 : decode cX12_canGo 17 = .ok (.iconst 0, 1) := by decide +kernel
theorem dX12_canGo_18 : decode cX12_canGo 18 = .ok (.istore_n 3, 1) := by decide +kernel
theorem dX12_canGo_19 : decode cX12_canGo 19 = .ok (.iload_n 2, 1) := by decide +kernel
theorem dX12_canGo_20 : decode cX12_canGo 20 = .ok (.iconst 1, 1) := by decide +kernel
theorem dX12_canGo_21 : decode cX12_canGo 21 = .ok (.if_icmp .ne 7, 3) := by decide +kernel
theorem dX12_canGo_24 : decode cX12_canGo 24 = .ok (.iconst 1, 1) := by decide +kernel
theorem dX12_canGo_25 : decode cX12_canGo 25 = .ok (.goto 13, 3) := by decide +kernel
theorem dX12_canGo_28 : decode cX12_canGo 28 = .ok (.iload_n 2, 1) := by decide +kernel
theorem dX12_canGo_29 : decode cX12_canGo 29 = .ok (.iconst 3, 1) := by decide +kernel
theorem dX12_canGo_30 : decode cX12_canGo 30 = .ok (.if_icmp .ne 7, 3) := by decide +kernel
theorem dX12_canGo_33 : decode cX12_canGo 33 = .ok (.iconst (-1), 1) := by decide +kernel
theorem dX12_canGo_34 : decode cX12_canGo 34 = .ok (.goto 4, 3) := by decide +kernel
theorem dX12_canGo_37 : decode cX12_canGo 37 = .ok (.iconst 0, 1) := by decide +kernel
theorem dX12_canGo_38 : decode cX12_canGo 38 = .ok (.istore 4, 2) := by decide +kernel
theorem dX12_canGo_40 : decode cX12_canGo 40 = .ok (.iconst 1, 1) := by decide +kernel
theorem dX12_canGo_41 : decode cX12_canGo 41 = .ok (.istore 5, 2) := by decide +kernel
theorem dX12_canGo_43 : decode cX12_canGo 43 = .ok (.iconst 0, 1) := by decide +kernel
theorem dX12_canGo_44 : decode cX12_canGo 44 = .ok (.istore 6, 2) := by decide +kernel
theorem dX12_canGo_46 : decode cX12_canGo 46 = .ok (.iload 6, 2) := by decide +kernel
theorem dX12_canGo_48 : decode cX12_canGo 48 = .ok (.aload_n 0, 1) := by decide +kernel
theorem dX12_canGo_49 : decode cX12_canGo 49 = .ok (.getfield 13, 3) := by decide +kernel
theorem dX12_canGo_52 : decode cX12_canGo 52 = .ok (.if_icmp .ge 158, 3) := by decide +kernel
theorem dX12_canGo_55 : decode cX12_canGo 55 = .ok (.iconst 0, 1) := by decide +kernel
theorem dX12_canGo_56 : decode cX12_canGo 56 = .ok (.istore 7, 2) := by decide +kernel
theorem dX12_canGo_58 : decode cX12_canGo 58 = .ok (.iload 7, 2) := by decide +kernel
theorem dX12_canGo_60 : decode cX12_canGo 60 = .ok (.aload_n 0, 1) := by decide +kernel
theorem dX12_canGo_61 : decode cX12_canGo 61 = .ok (.getfield 7, 3) := by decide +kernel
theorem dX12_canGo_64 : decode cX12_canGo 64 = .ok (.if_icmp .ge 140, 3) := by decide +kernel
theorem dX12_canGo_67 : decode cX12_canGo 67 = .ok (.aload_n 0, 1) := by decide +kernel
theorem dX12_canGo_68 : decode cX12_canGo 68 = .ok (.getfield 16, 3) := by decide +kernel
theorem dX12_canGo_71 : decode cX12_canGo 71 = .ok (.bipush 12, 2) := by decide +kernel
theorem dX12_canGo_73 : decode cX12_canGo 73 = .ok (.iload 6, 2) := by decide +kernel
theorem dX12_canGo_75 : decode cX12_canGo 75 = .ok (.imul, 1) := by decide +kernel
theorem dX12_canGo_76 : decode cX12_canGo 76 = .ok (.iload 7, 2) := by decide +kernel
theorem dX12_canGo_78 : decode cX12_canGo 78 = .ok (.iadd, 1) := by decide +kernel
theorem dX12_canGo_79 : decode cX12_canGo 79 = .ok (.iaload, 1) := by decide +kernel
theorem dX12_canGo_80 : decode cX12_canGo 80 = .ok (.bipush 10, 2) := by decide +kernel
theorem dX12_canGo_82 : decode cX12_canGo 82 = .ok (.iload_n 1, 1) := by decide +kernel
theorem dX12_canGo_83 : decode cX12_canGo 83 = .ok (.iadd, 1) := by decide +kernel
theorem dX12_canGo_84 : decode cX12_canGo 84 = .ok (.if_icmp .eq 6, 3) := by decide +kernel
theorem dX12_canGo_87 : decode cX12_canGo 87 = .ok (.goto 111, 3) := by decide +kernel
theorem dX12_canGo_90 : decode cX12_canGo 90 = .ok (.iload 7, 2) := by decide +kernel
theorem dX12_canGo_92 : decode cX12_canGo 92 = .ok (.iload_n 3, 1) := by decide +kernel
theorem dX12_canGo_93 : decode cX12_canGo 93 = .ok (.iadd, 1) := by decide +kernel
theorem dX12_canGo_94 : decode cX12_canGo 94 = .ok (.istore 8, 2) := by decide +kernel
theorem dX12_canGo_96 : decode cX12_canGo 96 = .ok (.iload 6, 2) := by decide +kernel
theorem dX12_canGo_98 : decode cX12_canGo 98 = .ok (.iload 4, 2) := by decide +kernel
theorem dX12_canGo_100 : decode cX12_canGo 100 = .ok (.iadd, 1) := by decide +kernel
theorem dX12_canGo_101 : decode cX12_canGo 101 = .ok (.istore 9, 2) := by decide +kernel
theorem dX12_canGo_103 : decode cX12_canGo 103 = .ok (.aload_n 0, 1) := by decide +kernel
theorem dX12_canGo_104 : decode cX12_canGo 104 = .ok (.iload 8, 2) := by decide +kernel
theorem dX12_canGo_106 : decode cX12_canGo 106 = .ok (.iload 9, 2) := by decide +kernel
theorem dX12_canGo_108 : decode cX12_canGo 108 = .ok (.invokevirtual 126, 3) := by decide +kernel
theorem dX12_canGo_111 : decode cX12_canGo 111 = .ok (.ifCond .eq 87, 3) := by decide +kernel
theorem dX12_canGo_114 : decode cX12_canGo 114 = .ok (.iload 5, 2) := by decide +kernel
theorem dX12_canGo_116 : decode cX12_canGo 116 = .ok (.ifCond .eq 82, 3) := by decide +kernel
theorem dX12_canGo_119 : decode cX12_canGo 119 = .ok (.aload_n 0, 1) := by decide +kernel
theorem dX12_canGo_120 : decode cX12_canGo 120 = .ok (.getfield 16, 3) := by decide +kernel
theorem dX12_canGo_123 : decode cX12_canGo 123 = .ok (.bipush 12, 2) := by decide +kernel
theorem dX12_canGo_125 : decode cX12_canGo 125 = .ok (.iload 9, 2) := by decide +kernel
theorem dX12_canGo_127 : decode cX12_canGo 127 = .ok (.imul, 1) := by decide +kernel
theorem dX12_canGo_128 : decode cX12_canGo 128 = .ok (.iload 8, 2) := by decide +kernel
theorem dX12_canGo_130 : decode cX12_canGo 130 = .ok (.iadd, 1) := by decide +kernel
theorem dX12_canGo_131 : decode cX12_canGo 131 = .ok (.iaload, 1) := by decide +kernel
theorem dX12_canGo_132 : decode cX12_canGo 132 = .ok (.istore 10, 2) := by decide +kernel
theorem dX12_canGo_134 : decode cX12_canGo 134 = .ok (.iload 10, 2) := by decide +kernel
theorem dX12_canGo_136 : decode cX12_canGo 136 = .ok (.bipush 10, 2) := by decide +kernel
theorem dX12_canGo_138 : decode cX12_canGo 138 = .ok (.iload_n 1, 1) := by decide +kernel
theorem dX12_canGo_139 : decode cX12_canGo 139 = .ok (.iadd, 1) := by decide +kernel
theorem dX12_canGo_140 : decode cX12_canGo 140 = .ok (.if_icmp .eq 35, 3) := by decide +kernel
theorem dX12_canGo_143 : decode cX12_canGo 143 = .ok (.iload 10, 2) := by decide +kernel
theorem dX12_canGo_145 : decode cX12_canGo 145 = .ok (.iconst 3, 1) := by decide +kernel
theorem dX12_canGo_146 : decode cX12_canGo 146 = .ok (.if_icmp .eq 29, 3) := by decide +kernel
theorem dX12_canGo_149 : decode cX12_canGo 149 = .ok (.iload 10, 2) := by decide +kernel
theorem dX12_canGo_151 : decode cX12_canGo 151 = .ok (.iconst 4, 1) := by decide +kernel
theorem dX12_canGo_152 : decode cX12_canGo 152 = .ok (.if_icmp .eq 23, 3) := by decide +kernel
theorem dX12_canGo_155 : decode cX12_canGo 155 = .ok (.iload 10, 2) := by decide +kernel
theorem dX12_canGo_157 : decode cX12_canGo 157 = .ok (.bipush 10, 2) := by decide +kernel
theorem dX12_canGo_159 : decode cX12_canGo 159 = .ok (.if_icmp .lt 20, 3) := by decide +kernel
theorem dX12_canGo_162 : decode cX12_canGo 162 = .ok (.aload_n 0, 1) := by decide +kernel
theorem dX12_canGo_163 : decode cX12_canGo 163 = .ok (.getfield 33, 3) := by decide +kernel
theorem dX12_canGo_166 : decode cX12_canGo 166 = .ok (.iload 10, 2) := by decide +kernel
theorem dX12_canGo_168 : decode cX12_canGo 168 = .ok (.bipush 10, 2) := by decide +kernel
theorem dX12_canGo_170 : decode cX12_canGo 170 = .ok (.isub, 1) := by decide +kernel
theorem dX12_canGo_171 : decode cX12_canGo 171 = .ok (.baload, 1) := by decide +kernel
theorem dX12_canGo_172 : decode cX12_canGo 172 = .ok (.ifCond .eq 7, 3) := by decide +kernel
theorem dX12_canGo_175 : decode cX12_canGo 175 = .ok (.iconst 1, 1) := by decide +kernel
theorem dX12_canGo_176 : decode cX12_canGo 176 = .ok (.goto 4, 3) := by decide +kernel
theorem dX12_canGo_179 : decode cX12_canGo 179 = .ok (.iconst 0, 1) := by decide +kernel
theorem dX12_canGo_180 : decode cX12_canGo 180 = .ok (.istore 5, 2) := by decide +kernel
theorem dX12_canGo_182 : decode cX12_canGo 182 = .ok (.iload 8, 2) := by decide +kernel
theorem dX12_canGo_184 : decode cX12_canGo 184 = .ok (.iload_n 3, 1) := by decide +kernel
theorem dX12_canGo_185 : decode cX12_canGo 185 = .ok (.iadd, 1) := by decide +kernel
theorem dX12_canGo_186 : decode cX12_canGo 186 = .ok (.istore 8, 2) := by decide +kernel
theorem dX12_canGo_188 : decode cX12_canGo 188 = .ok (.iload 9, 2) := by decide +kernel
theorem dX12_canGo_190 : decode cX12_canGo 190 = .ok (.iload 4, 2) := by decide +kernel
theorem dX12_canGo_192 : decode cX12_canGo 192 = .ok (.iadd, 1) := by decide +kernel
theorem dX12_canGo_193 : decode cX12_canGo 193 = .ok (.istore 9, 2) := by decide +kernel
theorem dX12_canGo_195 : decode cX12_canGo 195 = .ok (.goto (-92), 3) := by decide +kernel
theorem dX12_canGo_198 : decode cX12_canGo 198 = .ok (.iinc 7 1, 3) := by decide +kernel
theorem dX12_canGo_201 : decode cX12_canGo 201 = .ok (.goto (-143), 3) := by decide +kernel
theorem dX12_canGo_204 : decode cX12_canGo 204 = .ok (.iinc 6 1, 3) := by decide +kernel
theorem dX12_canGo_207 : decode cX12_canGo 207 = .ok (.goto (-161), 3) := by decide +kernel
theorem dX12_canGo_210 : decode cX12_canGo 210 = .ok (.iload 5, 2) := by decide +kernel
theorem dX12_canGo_212 : decode cX12_canGo 212 = .ok (.ireturn, 1) := by decide +kernel
theorem dX12_drawOff_0 : decode cX12_drawOff 0 = .ok (.aload_n 0, 1) := by decide +kernel
theorem dX12_drawOff_1 : decode cX12_drawOff 1 = .ok (.iconst 0, 1) := by decide +kernel
theorem dX12_drawOff_2 : decode cX12_drawOff 2 = .ok (.putfield 164, 3) := by decide +kernel
theorem dX12_drawOff_5 : decode cX12_drawOff 5 = .ok (.aload_n 0, 1) := by decide +kernel
theorem dX12_drawOff_6 : decode cX12_drawOff 6 = .ok (.iconst 0, 1) := by decide +kernel
theorem dX12_drawOff_7 : decode cX12_drawOff 7 = .ok (.putfield 167, 3) := by decide +kernel
theorem dX12_drawOff_10 : decode cX12_drawOff 10 = .ok (.iconst 0, 1) := by decide +kernel
theorem dX12_drawOff_11 : decode cX12_drawOff 11 = .ok (.istore_n 1, 1) := by decide +kernel
theorem dX12_drawOff_12 : decode cX12_drawOff 12 = .ok (.iload_n 1, 1) := by decide +kernel
theorem dX12_drawOff_13 : decode cX12_drawOff 13 = .ok (.bipush 8, 2) := by decide +kernel
theorem dX12_drawOff_15 : decode cX12_drawOff 15 = .ok (.if_icmp .ge 23, 3) := by decide +kernel
theorem dX12_drawOff_18 : decode cX12_drawOff 18 = .ok (.aload_n 0, 1) := by decide +kernel
theorem dX12_drawOff_19 : decode cX12_drawOff 19 = .ok (.getfield 30, 3) := by decide +kernel
theorem dX12_drawOff_22 : decode cX12_drawOff 22 = .ok (.iload_n 1, 1) := by decide +kernel
theorem dX12_drawOff_23 : decode cX12_drawOff 23 = .ok (.iconst 0, 1) := by decide +kernel
theorem dX12_drawOff_24 : decode cX12_drawOff 24 = .ok (.bastore, 1) := by decide +kernel
theorem dX12_drawOff_25 : decode cX12_drawOff 25 = .ok (.aload_n 0, 1) := by decide +kernel
theorem dX12_drawOff_26 : decode cX12_drawOff 26 = .ok (.getfield 33, 3) := by decide +kernel
theorem dX12_drawOff_29 : decode cX12_drawOff 29 = .ok (.iload_n 1, 1) := by decide +kernel
theorem dX12_drawOff_30 : decode cX12_drawOff 30 = .ok (.iconst 0, 1) := by decide +kernel
theorem dX12_drawOff_31 : decode cX12_drawOff 31 = .ok (.bastore, 1) := by decide +kernel
theorem dX12_drawOff_32 : decode cX12_drawOff 32 = .ok (.iinc 1 1, 3) := by decide +kernel
theorem dX12_drawOff_35 : decode cX12_drawOff 35 = .ok (.goto (-23), 3) := by decide +kernel
theorem dX12_drawOff_38 : decode cX12_drawOff 38 = .ok (.iconst 0, 1) := by decide +kernel
theorem dX12_drawOff_39 : decode cX12_drawOff 39 = .ok (.istore_n 1, 1) := by decide +kernel
theorem dX12_drawOff_40 : decode cX12_drawOff 40 = .ok (.iload_n 1, 1) := by decide +kernel
theorem dX12_drawOff_41 : decode cX12_drawOff 41 = .ok (.aload_n 0, 1) := by decide +kernel
theorem dX12_drawOff_42 : decode cX12_drawOff 42 = .ok (.getfield 13, 3) := by decide +kernel
theorem dX12_drawOff_45 : decode cX12_drawOff 45 = .ok (.if_icmp .ge 75, 3) := by decide +kernel
theorem dX12_drawOff_48 : decode cX12_drawOff 48 = .ok (.iconst 0, 1) := by decide +kernel
theorem dX12_drawOff_49 : decode cX12_drawOff 49 = .ok (.istore_n 2, 1) := by decide +kernel
theorem dX12_drawOff_50 : decode cX12_drawOff 50 = .ok (.iload_n 2, 1) := by decide +kernel
theorem dX12_drawOff_51 : decode cX12_drawOff 51 = .ok (.aload_n 0, 1) := by decide +kernel
theorem dX12_drawOff_52 : decode cX12_drawOff 52 = .ok (.getfield 7, 3) := by decide +kernel
theorem dX12_drawOff_55 : decode cX12_drawOff 55 = .ok (.if_icmp .ge 59, 3) := by decide +kernel
theorem dX12_drawOff_58 : decode cX12_drawOff 58 = .ok (.aload_n 0, 1) := by decide +kernel
theorem dX12_drawOff_59 : decode cX12_drawOff 59 = .ok (.getfield 16, 3) := by decide +kernel
theorem dX12_drawOff_62 : decode cX12_drawOff 62 = .ok (.bipush 12, 2) := by decide +kernel
theorem dX12_drawOff_64 : decode cX12_drawOff 64 = .ok (.iload_n 1, 1) := by decide +kernel
theorem dX12_drawOff_65 : decode cX12_drawOff 65 = .ok (.imul, 1) := by decide +kernel
theorem dX12_drawOff_66 : decode cX12_drawOff 66 = .ok (.iload_n 2, 1) := by decide +kernel
theorem dX12_drawOff_67 : decode cX12_drawOff 67 = .ok (.iadd, 1) := by decide +kernel
theorem dX12_drawOff_68 : decode cX12_drawOff 68 = .ok (.iaload, 1) := by decide +kernel
theorem dX12_drawOff_69 : decode cX12_drawOff 69 = .ok (.istore_n 3, 1) := by decide +kernel
theorem dX12_drawOff_70 : decode cX12_drawOff 70 = .ok (.iload_n 3, 1) := by decide +kernel
theorem dX12_drawOff_71 : decode cX12_drawOff 71 = .ok (.bipush 10, 2) := by decide +kernel
theorem dX12_drawOff_73 : decode cX12_drawOff 73 = .ok (.if_icmp .lt 35, 3) := by decide +kernel
theorem dX12_drawOff_76 : decode cX12_drawOff 76 = .ok (.aload_n 0, 1) := by decide +kernel
theorem dX12_drawOff_77 : decode cX12_drawOff 77 = .ok (.getfield 30, 3) := by decide +kernel
theorem dX12_drawOff_80 : decode cX12_drawOff 80 = .ok (.iload_n 3, 1) := by decide +kernel
theorem dX12_drawOff_81 : decode cX12_drawOff 81 = .ok (.bipush 10, 2) := by decide +kernel
theorem dX12_drawOff_83 : decode cX12_drawOff 83 = .ok (.isub, 1) := by decide +kernel
theorem dX12_drawOff_84 : decode cX12_drawOff 84 = .ok (.baload, 1) := by decide +kernel
theorem dX12_drawOff_85 : decode cX12_drawOff 85 = .ok (.ifCond .ne 23, 3) := by decide +kernel
theorem dX12_drawOff_88 : decode cX12_drawOff 88 = .ok (.aload_n 0, 1) := by decide +kernel
theorem dX12_drawOff_89 : decode cX12_drawOff 89 = .ok (.getfield 30, 3) := by decide +kernel
theorem dX12_drawOff_92 : decode cX12_drawOff 92 = .ok (.iload_n 3, 1) := by decide +kernel
theorem dX12_drawOff_93 : decode cX12_drawOff 93 = .ok (.bipush 10, 2) := by decide +kernel
theorem dX12_drawOff_95 : decode cX12_drawOff 95 = .ok (.isub, 1) := by decide +kernel
theorem dX12_drawOff_96 : decode cX12_drawOff 96 = .ok (.iconst 1, 1) := by decide +kernel
theorem dX12_drawOff_97 : decode cX12_drawOff 97 = .ok (.bastore, 1) := by decide +kernel
theorem dX12_drawOff_98 : decode cX12_drawOff 98 = .ok (.aload_n 0, 1) := by decide +kernel
theorem dX12_drawOff_99 : decode cX12_drawOff 99 = .ok (.dup, 1) := by decide +kernel
theorem dX12_drawOff_100 : decode cX12_drawOff 100 = .ok (.getfield 164, 3) := by decide +kernel
theorem dX12_drawOff_103 : decode cX12_drawOff 103 = .ok (.iconst 1, 1) := by decide +kernel
theorem dX12_drawOff_104 : decode cX12_drawOff 104 = .ok (.iadd, 1) := by decide +kernel
theorem dX12_drawOff_105 : decode cX12_drawOff 105 = .ok (.putfield 164, 3) := by decide +kernel
theorem dX12_drawOff_108 : decode cX12_drawOff 108 = .ok (.iinc 2 1, 3) := by decide +kernel
theorem dX12_drawOff_111 : decode cX12_drawOff 111 = .ok (.goto (-61), 3) := by decide +kernel
theorem dX12_drawOff_114 : decode cX12_drawOff 114 = .ok (.iinc 1 1, 3) := by decide +kernel
theorem dX12_drawOff_117 : decode cX12_drawOff 117 = .ok (.goto (-77), 3) := by decide +kernel
theorem dX12_drawOff_120 : decode cX12_drawOff 120 = .ok (.iconst 1, 1) := by decide +kernel
theorem dX12_drawOff_121 : decode cX12_drawOff 121 = .ok (.istore_n 1, 1) := by decide +kernel
theorem dX12_drawOff_122 : decode cX12_drawOff 122 = .ok (.iload_n 1, 1) := by decide +kernel
theorem dX12_drawOff_123 : decode cX12_drawOff 123 = .ok (.ifCond .eq 109, 3) := by decide +kernel
theorem dX12_drawOff_126 : decode cX12_drawOff 126 = .ok (.iconst 0, 1) := by decide +kernel
theorem dX12_drawOff_127 : decode cX12_drawOff 127 = .ok (.istore_n 1, 1) := by decide +kernel
theorem dX12_drawOff_128 : decode cX12_drawOff 128 = .ok (.iconst 0, 1) := by decide +kernel
theorem dX12_drawOff_129 : decode cX12_drawOff 129 = .ok (.istore_n 2, 1) := by decide +kernel
theorem dX12_drawOff_130 : decode cX12_drawOff 130 = .ok (.iload_n 2, 1) := by decide +kernel
theorem dX12_drawOff_131 : decode cX12_drawOff 131 = .ok (.bipush 8, 2) := by decide +kernel
theorem dX12_drawOff_133 : decode cX12_drawOff 133 = .ok (.if_icmp .ge 96, 3) := by decide +kernel
theorem dX12_drawOff_136 : decode cX12_drawOff 136 = .ok (.iload_n 1, 1) := by decide +kernel
theorem dX12_drawOff_137 : decode cX12_drawOff 137 = .ok (.ifCond .ne 92, 3) := by decide +kernel
theorem dX12_drawOff_140 : decode cX12_drawOff 140 = .ok (.iconst 0, 1) := by decide +kernel
theorem dX12_drawOff_141 : decode cX12_drawOff 141 = .ok (.istore_n 3, 1) := by decide +kernel
theorem dX12_drawOff_142 : decode cX12_drawOff 142 = .ok (.iload_n 3, 1) := by decide +kernel
theorem dX12_drawOff_143 : decode cX12_drawOff 143 = .ok (.iconst 4, 1) := by decide +kernel
theorem dX12_drawOff_144 : decode cX12_drawOff 144 = .ok (.if_icmp .ge 79, 3) := by decide +kernel
theorem dX12_drawOff_147 : decode cX12_drawOff 147 = .ok (.iload_n 1, 1) := by decide +kernel
theorem dX12_drawOff_148 : decode cX12_drawOff 148 = .ok (.ifCond .ne 75, 3) := by decide +kernel
theorem dX12_drawOff_151 : decode cX12_drawOff 151 = .ok (.aload_n 0, 1) := by decide +kernel
theorem dX12_drawOff_152 : decode cX12_drawOff 152 = .ok (.getfield 30, 3) := by decide +kernel
theorem dX12_drawOff_155 : decode cX12_drawOff 155 = .ok (.iload_n 2, 1) := by decide +kernel
theorem dX12_drawOff_156 : decode cX12_drawOff 156 = .ok (.baload, 1) := by decide +kernel
theorem dX12_drawOff_157 : decode cX12_drawOff 157 = .ok (.ifCond .eq 60, 3) := by decide +kernel
theorem dX12_drawOff_160 : decode cX12_drawOff 160 = .ok (.aload_n 0, 1) := by decide +kernel
theorem dX12_drawOff_161 : decode cX12_drawOff 161 = .ok (.getfield 33, 3) := by decide +kernel
theorem dX12_drawOff_164 : decode cX12_drawOff 164 = .ok (.iload_n 2, 1) := by decide +kernel
theorem dX12_drawOff_165 : decode cX12_drawOff 165 = .ok (.baload, 1) := by decide +kernel
theorem dX12_drawOff_166 : decode cX12_drawOff 166 = .ok (.ifCond .ne 51, 3) := by decide +kernel
theorem dX12_drawOff_169 : decode cX12_drawOff 169 = .ok (.aload_n 0, 1) := by decide +kernel
theorem dX12_drawOff_170 : decode cX12_drawOff 170 = .ok (.iload_n 2, 1) := by decide +kernel
theorem dX12_drawOff_171 : decode cX12_drawOff 171 = .ok (.iload_n 3, 1) := by decide +kernel
theorem dX12_drawOff_172 : decode cX12_drawOff 172 = .ok (.invokevirtual 170, 3) := by decide +kernel
theorem dX12_drawOff_175 : decode cX12_drawOff 175 = .ok (.ifCond .eq 42, 3) := by decide +kernel
theorem dX12_drawOff_178 : decode cX12_drawOff 178 = .ok (.aload_n 0, 1) := by decide +kernel
theorem dX12_drawOff_179 : decode cX12_drawOff 179 = .ok (.getfield 33, 3) := by decide +kernel
theorem dX12_drawOff_182 : decode cX12_drawOff 182 = .ok (.iload_n 2, 1) := by decide +kernel
theorem dX12_drawOff_183 : decode cX12_drawOff 183 = .ok (.iconst 1, 1) := by decide +kernel
theorem dX12_drawOff_184 : decode cX12_drawOff 184 = .ok (.bastore, 1) := by decide +kernel
theorem dX12_drawOff_185 : decode cX12_drawOff 185 = .ok (.aload_n 0, 1) := by decide +kernel
theorem dX12_drawOff_186 : decode cX12_drawOff 186 = .ok (.getfield 36, 3) := by decide +kernel
theorem dX12_drawOff_189 : decode cX12_drawOff 189 = .ok (.aload_n 0, 1) := by decide +kernel
theorem dX12_drawOff_190 : decode cX12_drawOff 190 = .ok (.getfield 167, 3) := by decide +kernel
theorem dX12_drawOff_193 : decode cX12_drawOff 193 = .ok (.iload_n 2, 1) := by decide +kernel
theorem dX12_drawOff_194 : decode cX12_drawOff 194 = .ok (.iastore, 1) := by decide +kernel
theorem dX12_drawOff_195 : decode cX12_drawOff 195 = .ok (.aload_n 0, 1) := by decide +kernel
theorem dX12_drawOff_196 : decode cX12_drawOff 196 = .ok (.getfield 39, 3) := by decide +kernel
theorem dX12_drawOff_199 : decode cX12_drawOff 199 = .ok (.aload_n 0, 1) := by decide +kernel
theorem dX12_drawOff_200 : decode cX12_drawOff 200 = .ok (.getfield 167, 3) := by decide +kernel
theorem dX12_drawOff_203 : decode cX12_drawOff 203 = .ok (.iload_n 3, 1) := by decide +kernel
theorem dX12_drawOff_204 : decode cX12_drawOff 204 = .ok (.iastore, 1) := by decide +kernel
theorem dX12_drawOff_205 : decode cX12_drawOff 205 = .ok (.aload_n 0, 1) := by decide +kernel
theorem dX12_drawOff_206 : decode cX12_drawOff 206 = .ok (.dup, 1) := by decide +kernel
theorem dX12_drawOff_207 : decode cX12_drawOff 207 = .ok (.getfield 167, 3) := by decide +kernel
theorem dX12_drawOff_210 : decode cX12_drawOff 210 = .ok (.iconst 1, 1) := by decide +kernel
theorem dX12_drawOff_211 : decode cX12_drawOff 211 = .ok (.iadd, 1) := by decide +kernel
theorem dX12_drawOff_212 : decode cX12_drawOff 212 = .ok (.putfield 167, 3) := by decide +kernel
theorem dX12_drawOff_215 : decode cX12_drawOff 215 = .ok (.iconst 1, 1) := by decide +kernel
theorem dX12_drawOff_216 : decode cX12_drawOff 216 = .ok (.istore_n 1, 1) := by decide +kernel
theorem dX12_drawOff_217 : decode cX12_drawOff 217 = .ok (.iinc 3 1, 3) := by decide +kernel
theorem dX12_drawOff_220 : decode cX12_drawOff 220 = .ok (.goto (-78), 3) := by decide +kernel
theorem dX12_drawOff_223 : decode cX12_drawOff 223 = .ok (.iinc 2 1, 3) := by decide +kernel
theorem dX12_drawOff_226 : decode cX12_drawOff 226 = .ok (.goto (-96), 3) := by decide +kernel
theorem dX12_drawOff_229 : decode cX12_drawOff 229 = .ok (.goto (-107), 3) := by decide +kernel
theorem dX12_drawOff_232 : decode cX12_drawOff 232 = .ok (.return_, 1) := by decide +kernel
theorem dX12_off_0 : decode cX12_off 0 = .ok (.aload_n 0, 1) := by decide +kernel
theorem dX12_off_1 : decode cX12_off 1 = .ok (.iconst 0, 1) := by decide +kernel
theorem dX12_off_2 : decode cX12_off 2 = .ok (.putfield 96, 3) := by decide +kernel
theorem dX12_off_5 : decode cX12_off 5 = .ok (.aload_n 0, 1) := by decide +kernel
theorem dX12_off_6 : decode cX12_off 6 = .ok (.invokevirtual 173, 3) := by decide +kernel
theorem dX12_off_9 : decode cX12_off 9 = .ok (.iload_n 1, 1) := by decide +kernel
theorem dX12_off_10 : decode cX12_off 10 = .ok (.iconst (-1), 1) := by decide +kernel
theorem dX12_off_11 : decode cX12_off 11 = .ok (.if_icmp .ne 45, 3) := by decide +kernel
theorem dX12_off_14 : decode cX12_off 14 = .ok (.iload_n 2, 1) := by decide +kernel
theorem dX12_off_15 : decode cX12_off 15 = .ok (.ifCond .ne 10, 3) := by decide +kernel
theorem dX12_off_18 : decode cX12_off 18 = .ok (.aload_n 0, 1) := by decide +kernel
theorem dX12_off_19 : decode cX12_off 19 = .ok (.getfield 167, 3) := by decide +kernel
theorem dX12_off_22 : decode cX12_off 22 = .ok (.goto 33, 3) := by decide +kernel
theorem dX12_off_25 : decode cX12_off 25 = .ok (.iload_n 2, 1) := by decide +kernel
theorem dX12_off_26 : decode cX12_off 26 = .ok (.iconst 1, 1) := by decide +kernel
theorem dX12_off_27 : decode cX12_off 27 = .ok (.if_icmp .ne 15, 3) := by decide +kernel
theorem dX12_off_30 : decode cX12_off 30 = .ok (.aload_n 0, 1) := by decide +kernel
theorem dX12_off_31 : decode cX12_off 31 = .ok (.getfield 164, 3) := by decide +kernel
theorem dX12_off_34 : decode cX12_off 34 = .ok (.aload_n 0, 1) := by decide +kernel
theorem dX12_off_35 : decode cX12_off 35 = .ok (.getfield 167, 3) := by decide +kernel
theorem dX12_off_38 : decode cX12_off 38 = .ok (.isub, 1) := by decide +kernel
theorem dX12_off_39 : decode cX12_off 39 = .ok (.goto 16, 3) := by decide +kernel
theorem dX12_off_42 : decode cX12_off 42 = .ok (.iload_n 2, 1) := by decide +kernel
theorem dX12_off_43 : decode cX12_off 43 = .ok (.iconst 2, 1) := by decide +kernel
theorem dX12_off_44 : decode cX12_off 44 = .ok (.if_icmp .ne 10, 3) := by decide +kernel
theorem dX12_off_47 : decode cX12_off 47 = .ok (.aload_n 0, 1) := by decide +kernel
theorem dX12_off_48 : decode cX12_off 48 = .ok (.getfield 164, 3) := by decide +kernel
theorem dX12_off_51 : decode cX12_off 51 = .ok (.goto 4, 3) := by decide +kernel
theorem dX12_off_54 : decode cX12_off 54 = .ok (.iconst (-1), 1) := by decide +kernel
theorem dX12_off_55 : decode cX12_off 55 = .ok (.ireturn, 1) := by decide +kernel
theorem dX12_off_56 : decode cX12_off 56 = .ok (.iload_n 1, 1) := by decide +kernel
theorem dX12_off_57 : decode cX12_off 57 = .ok (.i2l, 1) := by decide +kernel
theorem dX12_off_58 : decode cX12_off 58 = .ok (.lconst 0, 1) := by decide +kernel
theorem dX12_off_59 : decode cX12_off 59 = .ok (.aload_n 0, 1) := by decide +kernel
theorem dX12_off_60 : decode cX12_off 60 = .ok (.getfield 167, 3) := by decide +kernel
theorem dX12_off_63 : decode cX12_off 63 = .ok (.i2l, 1) := by decide +kernel
theorem dX12_off_64 : decode cX12_off 64 = .ok (.lconst 1, 1) := by decide +kernel
theorem dX12_off_65 : decode cX12_off 65 = .ok (.lsub, 1) := by decide +kernel
theorem dX12_off_66 : decode cX12_off 66 = .ok (.invokestatic 102, 3) := by decide +kernel
theorem dX12_off_69 : decode cX12_off 69 = .ok (.ifCond .ne 7, 3) := by decide +kernel
theorem dX12_off_72 : decode cX12_off 72 = .ok (.iconst (-1), 1) := by decide +kernel
theorem dX12_off_73 : decode cX12_off 73 = .ok (.goto 31, 3) := by decide +kernel
theorem dX12_off_76 : decode cX12_off 76 = .ok (.iload_n 2, 1) := by decide +kernel
theorem dX12_off_77 : decode cX12_off 77 = .ok (.ifCond .ne 12, 3) := by decide +kernel
theorem dX12_off_80 : decode cX12_off 80 = .ok (.aload_n 0, 1) := by decide +kernel
theorem dX12_off_81 : decode cX12_off 81 = .ok (.getfield 36, 3) := by decide +kernel
theorem dX12_off_84 : decode cX12_off 84 = .ok (.iload_n 1, 1) := by decide +kernel
theorem dX12_off_85 : decode cX12_off 85 = .ok (.iaload, 1) := by decide +kernel
theorem dX12_off_86 : decode cX12_off 86 = .ok (.goto 18, 3) := by decide +kernel
theorem dX12_off_89 : decode cX12_off 89 = .ok (.iload_n 2, 1) := by decide +kernel
theorem dX12_off_90 : decode cX12_off 90 = .ok (.iconst 1, 1) := by decide +kernel
theorem dX12_off_91 : decode cX12_off 91 = .ok (.if_icmp .ne 12, 3) := by decide +kernel
theorem dX12_off_94 : decode cX12_off 94 = .ok (.aload_n 0, 1) := by decide +kernel
theorem dX12_off_95 : decode cX12_off 95 = .ok (.getfield 39, 3) := by decide +kernel
theorem dX12_off_98 : decode cX12_off 98 = .ok (.iload_n 1, 1) := by decide +kernel
theorem dX12_off_99 : decode cX12_off 99 = .ok (.iaload, 1) := by decide +kernel
theorem dX12_off_100 : decode cX12_off 100 = .ok (.goto 4, 3) := by decide +kernel
theorem dX12_off_103 : decode cX12_off 103 = .ok (.iconst (-1), 1) := by decide +kernel
theorem dX12_off_104 : decode cX12_off 104 = .ok (.ireturn, 1) := by decide +kernel
theorem dX12_lot_0 : decode cX12_lot 0 = .ok (.aload_n 0, 1) := by decide +kernel
theorem dX12_lot_1 : decode cX12_lot 1 = .ok (.iconst 0, 1) := by decide +kernel
theorem dX12_lot_2 : decode cX12_lot 2 = .ok (.putfield 96, 3) := by decide +kernel
theorem dX12_lot_5 : decode cX12_lot 5 = .ok (.iload_n 1, 1) := by decide +kernel
theorem dX12_lot_6 : decode cX12_lot 6 = .ok (.i2l, 1) := by decide +kernel
theorem dX12_lot_7 : decode cX12_lot 7 = .ok (.lconst 0, 1) := by decide +kernel
theorem dX12_lot_8 : decode cX12_lot 8 = .ok (.ldc2_w 176, 3) := by decide +kernel
theorem dX12_lot_11 : decode cX12_lot 11 = .ok (.invokestatic 102, 3) := by decide +kernel
theorem dX12_lot_14 : decode cX12_lot 14 = .ok (.ifCond .eq 43, 3) := by decide +kernel
theorem dX12_lot_17 : decode cX12_lot 17 = .ok (.iload_n 2, 1) := by decide +kernel
theorem dX12_lot_18 : decode cX12_lot 18 = .ok (.i2l, 1) := by decide +kernel
theorem dX12_lot_19 : decode cX12_lot 19 = .ok (.lconst 0, 1) := by decide +kernel
theorem dX12_lot_20 : decode cX12_lot 20 = .ok (.ldc2_w 176, 3) := by decide +kernel
theorem dX12_lot_23 : decode cX12_lot 23 = .ok (.iload_n 1, 1) := by decide +kernel
theorem dX12_lot_24 : decode cX12_lot 24 = .ok (.i2l, 1) := by decide +kernel
theorem dX12_lot_25 : decode cX12_lot 25 = .ok (.lsub, 1) := by decide +kernel
theorem dX12_lot_26 : decode cX12_lot 26 = .ok (.invokestatic 102, 3) := by decide +kernel
theorem dX12_lot_29 : decode cX12_lot 29 = .ok (.ifCond .eq 28, 3) := by decide +kernel
theorem dX12_lot_32 : decode cX12_lot 32 = .ok (.iload_n 3, 1) := by decide +kernel
theorem dX12_lot_33 : decode cX12_lot 33 = .ok (.i2l, 1) := by decide +kernel
theorem dX12_lot_34 : decode cX12_lot 34 = .ok (.lconst 0, 1) := by decide +kernel
theorem dX12_lot_35 : decode cX12_lot 35 = .ok (.ldc2_w 176, 3) := by decide +kernel
theorem dX12_lot_38 : decode cX12_lot 38 = .ok (.invokestatic 102, 3) := by decide +kernel
theorem dX12_lot_41 : decode cX12_lot 41 = .ok (.ifCond .eq 16, 3) := by decide +kernel
theorem dX12_lot_44 : decode cX12_lot 44 = .ok (.iload 4, 2) := by decide +kernel
theorem dX12_lot_46 : decode cX12_lot 46 = .ok (.i2l, 1) := by decide +kernel
theorem dX12_lot_47 : decode cX12_lot 47 = .ok (.lconst 0, 1) := by decide +kernel
theorem dX12_lot_48 : decode cX12_lot 48 = .ok (.ldc2_w 178, 3) := by decide +kernel
theorem dX12_lot_51 : decode cX12_lot 51 = .ok (.invokestatic 102, 3) := by decide +kernel
theorem dX12_lot_54 : decode cX12_lot 54 = .ok (.ifCond .ne 9, 3) := by decide +kernel
theorem dX12_lot_57 : decode cX12_lot 57 = .ok (.aload_n 0, 1) := by decide +kernel
theorem dX12_lot_58 : decode cX12_lot 58 = .ok (.iconst (-1), 1) := by decide +kernel
theorem dX12_lot_59 : decode cX12_lot 59 = .ok (.invokevirtual 113, 3) := by decide +kernel
theorem dX12_lot_62 : decode cX12_lot 62 = .ok (.ireturn, 1) := by decide +kernel
theorem dX12_lot_63 : decode cX12_lot 63 = .ok (.aload_n 0, 1) := by decide +kernel
theorem dX12_lot_64 : decode cX12_lot 64 = .ok (.getfield 180, 3) := by decide +kernel
theorem dX12_lot_67 : decode cX12_lot 67 = .ok (.bipush 6, 2) := by decide +kernel
theorem dX12_lot_69 : decode cX12_lot 69 = .ok (.if_icmp .ne 10, 3) := by decide +kernel
theorem dX12_lot_72 : decode cX12_lot 72 = .ok (.aload_n 0, 1) := by decide +kernel
theorem dX12_lot_73 : decode cX12_lot 73 = .ok (.bipush (-5), 2) := by decide +kernel
theorem dX12_lot_75 : decode cX12_lot 75 = .ok (.invokevirtual 113, 3) := by decide +kernel
theorem dX12_lot_78 : decode cX12_lot 78 = .ok (.ireturn, 1) := by decide +kernel
theorem dX12_lot_79 : decode cX12_lot 79 = .ok (.aload_n 0, 1) := by decide +kernel
theorem dX12_lot_80 : decode cX12_lot 80 = .ok (.getfield 42, 3) := by decide +kernel
theorem dX12_lot_83 : decode cX12_lot 83 = .ok (.aload_n 0, 1) := by decide +kernel
theorem dX12_lot_84 : decode cX12_lot 84 = .ok (.getfield 180, 3) := by decide +kernel
theorem dX12_lot_87 : decode cX12_lot 87 = .ok (.iload_n 1, 1) := by decide +kernel
theorem dX12_lot_88 : decode cX12_lot 88 = .ok (.iastore, 1) := by decide +kernel
theorem dX12_lot_89 : decode cX12_lot 89 = .ok (.aload_n 0, 1) := by decide +kernel
theorem dX12_lot_90 : decode cX12_lot 90 = .ok (.getfield 45, 3) := by decide +kernel
theorem dX12_lot_93 : decode cX12_lot 93 = .ok (.aload_n 0, 1) := by decide +kernel
theorem dX12_lot_94 : decode cX12_lot 94 = .ok (.getfield 180, 3) := by decide +kernel
theorem dX12_lot_97 : decode cX12_lot 97 = .ok (.iload_n 2, 1) := by decide +kernel
theorem dX12_lot_98 : decode cX12_lot 98 = .ok (.iastore, 1) := by decide +kernel
theorem dX12_lot_99 : decode cX12_lot 99 = .ok (.aload_n 0, 1) := by decide +kernel
theorem dX12_lot_100 : decode cX12_lot 100 = .ok (.getfield 48, 3) := by decide +kernel
theorem dX12_lot_103 : decode cX12_lot 103 = .ok (.aload_n 0, 1) := by decide +kernel
theorem dX12_lot_104 : decode cX12_lot 104 = .ok (.getfield 180, 3) := by decide +kernel
theorem dX12_lot_107 : decode cX12_lot 107 = .ok (.iload_n 3, 1) := by decide +kernel
theorem dX12_lot_108 : decode cX12_lot 108 = .ok (.iastore, 1) := by decide +kernel
theorem dX12_lot_109 : decode cX12_lot 109 = .ok (.aload_n 0, 1) := by decide +kernel
theorem dX12_lot_110 : decode cX12_lot 110 = .ok (.getfield 51, 3) := by decide +kernel
theorem dX12_lot_113 : decode cX12_lot 113 = .ok (.aload_n 0, 1) := by decide +kernel
theorem dX12_lot_114 : decode cX12_lot 114 = .ok (.getfield 180, 3) := by decide +kernel
theorem dX12_lot_117 : decode cX12_lot 117 = .ok (.iload 4, 2) := by decide +kernel
theorem dX12_lot_119 : decode cX12_lot 119 = .ok (.iastore, 1) := by decide +kernel
theorem dX12_lot_120 : decode cX12_lot 120 = .ok (.aload_n 0, 1) := by decide +kernel
theorem dX12_lot_121 : decode cX12_lot 121 = .ok (.dup, 1) := by decide +kernel
theorem dX12_lot_122 : decode cX12_lot 122 = .ok (.getfield 180, 3) := by decide +kernel
theorem dX12_lot_125 : decode cX12_lot 125 = .ok (.iconst 1, 1) := by decide +kernel
theorem dX12_lot_126 : decode cX12_lot 126 = .ok (.iadd, 1) := by decide +kernel
theorem dX12_lot_127 : decode cX12_lot 127 = .ok (.putfield 180, 3) := by decide +kernel
theorem dX12_lot_130 : decode cX12_lot 130 = .ok (.aload_n 0, 1) := by decide +kernel
theorem dX12_lot_131 : decode cX12_lot 131 = .ok (.aload_n 0, 1) := by decide +kernel
theorem dX12_lot_132 : decode cX12_lot 132 = .ok (.getfield 180, 3) := by decide +kernel
theorem dX12_lot_135 : decode cX12_lot 135 = .ok (.iconst 1, 1) := by decide +kernel
theorem dX12_lot_136 : decode cX12_lot 136 = .ok (.isub, 1) := by decide +kernel
theorem dX12_lot_137 : decode cX12_lot 137 = .ok (.invokevirtual 113, 3) := by decide +kernel
theorem dX12_lot_140 : decode cX12_lot 140 = .ok (.ireturn, 1) := by decide +kernel
theorem dX12_priceOf_0 : decode cX12_priceOf 0 = .ok (.iconst 0, 1) := by decide +kernel
theorem dX12_priceOf_1 : decode cX12_priceOf 1 = .ok (.istore 5, 2) := by decide +kernel
theorem dX12_priceOf_3 : decode cX12_priceOf 3 = .ok (.iconst 0, 1) := by decide +kernel
theorem dX12_priceOf_4 : decode cX12_priceOf 4 = .ok (.istore 6, 2) := by decide +kernel
theorem dX12_priceOf_6 : decode cX12_priceOf 6 = .ok (.iconst 0, 1) := by decide +kernel
theorem dX12_priceOf_7 : decode cX12_priceOf 7 = .ok (.istore 7, 2) := by decide +kernel
theorem dX12_priceOf_9 : decode cX12_priceOf 9 = .ok (.iconst 0, 1) := by decide +kernel
theorem dX12_priceOf_10 : decode cX12_priceOf 10 = .ok (.istore 8, 2) := by decide +kernel
theorem dX12_priceOf_12 : decode cX12_priceOf 12 = .ok (.iconst 0, 1) := by decide +kernel
theorem dX12_priceOf_13 : decode cX12_priceOf 13 = .ok (.istore 9, 2) := by decide +kernel
theorem dX12_priceOf_15 : decode cX12_priceOf 15 = .ok (.iload 9, 2) := by decide +kernel
theorem dX12_priceOf_17 : decode cX12_priceOf 17 = .ok (.aload_n 0, 1) := by decide +kernel
theorem dX12_priceOf_18 : decode cX12_priceOf 18 = .ok (.getfield 180, 3) := by decide +kernel
theorem dX12_priceOf_21 : decode cX12_priceOf 21 = .ok (.if_icmp .ge 81, 3) := by decide +kernel
theorem dX12_priceOf_24 : decode cX12_priceOf 24 = .ok (.iload 5, 2) := by decide +kernel
theorem dX12_priceOf_26 : decode cX12_priceOf 26 = .ok (.aload_n 0, 1) := by decide +kernel
theorem dX12_priceOf_27 : decode cX12_priceOf 27 = .ok (.getfield 60, 3) := by decide +kernel
theorem dX12_priceOf_30 : decode cX12_priceOf 30 = .ok (.iload 9, 2) := by decide +kernel
theorem dX12_priceOf_32 : decode cX12_priceOf 32 = .ok (.iaload, 1) := by decide +kernel
theorem dX12_priceOf_33 : decode cX12_priceOf 33 = .ok (.iadd, 1) := by decide +kernel
theorem dX12_priceOf_34 : decode cX12_priceOf 34 = .ok (.istore 5, 2) := by decide +kernel
theorem dX12_priceOf_36 : decode cX12_priceOf 36 = .ok (.iload 6, 2) := by decide +kernel
theorem dX12_priceOf_38 : decode cX12_priceOf 38 = .ok (.aload_n 0, 1) := by decide +kernel
theorem dX12_priceOf_39 : decode cX12_priceOf 39 = .ok (.getfield 60, 3) := by decide +kernel
theorem dX12_priceOf_42 : decode cX12_priceOf 42 = .ok (.iload 9, 2) := by decide +kernel
theorem dX12_priceOf_44 : decode cX12_priceOf 44 = .ok (.iaload, 1) := by decide +kernel
theorem dX12_priceOf_45 : decode cX12_priceOf 45 = .ok (.aload_n 0, 1) := by decide +kernel
theorem dX12_priceOf_46 : decode cX12_priceOf 46 = .ok (.getfield 42, 3) := by decide +kernel
theorem dX12_priceOf_49 : decode cX12_priceOf 49 = .ok (.iload 9, 2) := by decide +kernel
theorem dX12_priceOf_51 : decode cX12_priceOf 51 = .ok (.iaload, 1) := by decide +kernel
theorem dX12_priceOf_52 : decode cX12_priceOf 52 = .ok (.imul, 1) := by decide +kernel
theorem dX12_priceOf_53 : decode cX12_priceOf 53 = .ok (.iadd, 1) := by decide +kernel
theorem dX12_priceOf_54 : decode cX12_priceOf 54 = .ok (.istore 6, 2) := by decide +kernel
theorem dX12_priceOf_56 : decode cX12_priceOf 56 = .ok (.iload 7, 2) := by decide +kernel
theorem dX12_priceOf_58 : decode cX12_priceOf 58 = .ok (.aload_n 0, 1) := by decide +kernel
theorem dX12_priceOf_59 : decode cX12_priceOf 59 = .ok (.getfield 60, 3) := by decide +kernel
theorem dX12_priceOf_62 : decode cX12_priceOf 62 = .ok (.iload 9, 2) := by decide +kernel
theorem dX12_priceOf_64 : decode cX12_priceOf 64 = .ok (.iaload, 1) := by decide +kernel
theorem dX12_priceOf_65 : decode cX12_priceOf 65 = .ok (.aload_n 0, 1) := by decide +kernel
theorem dX12_priceOf_66 : decode cX12_priceOf 66 = .ok (.getfield 45, 3) := by decide +kernel
theorem dX12_priceOf_69 : decode cX12_priceOf 69 = .ok (.iload 9, 2) := by decide +kernel
theorem dX12_priceOf_71 : decode cX12_priceOf 71 = .ok (.iaload, 1) := by decide +kernel
theorem dX12_priceOf_72 : decode cX12_priceOf 72 = .ok (.imul, 1) := by decide +kernel
theorem dX12_priceOf_73 : decode cX12_priceOf 73 = .ok (.iadd, 1) := by decide +kernel
theorem dX12_priceOf_74 : decode cX12_priceOf 74 = .ok (.istore 7, 2) := by decide +kernel
theorem dX12_priceOf_76 : decode cX12_priceOf 76 = .ok (.iload 8, 2) := by decide +kernel
theorem dX12_priceOf_78 : decode cX12_priceOf 78 = .ok (.aload_n 0, 1) := by decide +kernel
theorem dX12_priceOf_79 : decode cX12_priceOf 79 = .ok (.getfield 60, 3) := by decide +kernel
theorem dX12_priceOf_82 : decode cX12_priceOf 82 = .ok (.iload 9, 2) := by decide +kernel
theorem dX12_priceOf_84 : decode cX12_priceOf 84 = .ok (.iaload, 1) := by decide +kernel
theorem dX12_priceOf_85 : decode cX12_priceOf 85 = .ok (.aload_n 0, 1) := by decide +kernel
theorem dX12_priceOf_86 : decode cX12_priceOf 86 = .ok (.getfield 48, 3) := by decide +kernel
theorem dX12_priceOf_89 : decode cX12_priceOf 89 = .ok (.iload 9, 2) := by decide +kernel
theorem dX12_priceOf_91 : decode cX12_priceOf 91 = .ok (.iaload, 1) := by decide +kernel
theorem dX12_priceOf_92 : decode cX12_priceOf 92 = .ok (.imul, 1) := by decide +kernel
theorem dX12_priceOf_93 : decode cX12_priceOf 93 = .ok (.iadd, 1) := by decide +kernel
theorem dX12_priceOf_94 : decode cX12_priceOf 94 = .ok (.istore 8, 2) := by decide +kernel
theorem dX12_priceOf_96 : decode cX12_priceOf 96 = .ok (.iinc 9 1, 3) := by decide +kernel
theorem dX12_priceOf_99 : decode cX12_priceOf 99 = .ok (.goto (-84), 3) := by decide +kernel
theorem dX12_priceOf_102 : decode cX12_priceOf 102 = .ok (.iload 5, 2) := by decide +kernel
theorem dX12_priceOf_104 : decode cX12_priceOf 104 = .ok (.iload_n 1, 1) := by decide +kernel
theorem dX12_priceOf_105 : decode cX12_priceOf 105 = .ok (.if_icmp .ne 33, 3) := by decide +kernel
theorem dX12_priceOf_108 : decode cX12_priceOf 108 = .ok (.iload 6, 2) := by decide +kernel
theorem dX12_priceOf_110 : decode cX12_priceOf 110 = .ok (.iload_n 2, 1) := by decide +kernel
theorem dX12_priceOf_111 : decode cX12_priceOf 111 = .ok (.iload_n 1, 1) := by decide +kernel
theorem dX12_priceOf_112 : decode cX12_priceOf 112 = .ok (.imul, 1) := by decide +kernel
theorem dX12_priceOf_113 : decode cX12_priceOf 113 = .ok (.if_icmp .lt 25, 3) := by decide +kernel
theorem dX12_priceOf_116 : decode cX12_priceOf 116 = .ok (.iload 6, 2) := by decide +kernel
theorem dX12_priceOf_118 : decode cX12_priceOf 118 = .ok (.iload_n 3, 1) := by decide +kernel
theorem dX12_priceOf_119 : decode cX12_priceOf 119 = .ok (.iload_n 1, 1) := by decide +kernel
theorem dX12_priceOf_120 : decode cX12_priceOf 120 = .ok (.imul, 1) := by decide +kernel
theorem dX12_priceOf_121 : decode cX12_priceOf 121 = .ok (.if_icmp .gt 17, 3) := by decide +kernel
theorem dX12_priceOf_124 : decode cX12_priceOf 124 = .ok (.iload 7, 2) := by decide +kernel
theorem dX12_priceOf_126 : decode cX12_priceOf 126 = .ok (.iload 4, 2) := by decide +kernel
theorem dX12_priceOf_128 : decode cX12_priceOf 128 = .ok (.iload_n 1, 1) := by decide +kernel
theorem dX12_priceOf_129 : decode cX12_priceOf 129 = .ok (.imul, 1) := by decide +kernel
theorem dX12_priceOf_130 : decode cX12_priceOf 130 = .ok (.if_icmp .gt 8, 3) := by decide +kernel
theorem dX12_priceOf_133 : decode cX12_priceOf 133 = .ok (.iload 8, 2) := by decide +kernel
theorem dX12_priceOf_135 : decode cX12_priceOf 135 = .ok (.goto 4, 3) := by decide +kernel
theorem dX12_priceOf_138 : decode cX12_priceOf 138 = .ok (.iconst (-1), 1) := by decide +kernel
theorem dX12_priceOf_139 : decode cX12_priceOf 139 = .ok (.ireturn, 1) := by decide +kernel
theorem dX12_mix_0 : decode cX12_mix 0 = .ok (.aload_n 0, 1) := by decide +kernel
theorem dX12_mix_1 : decode cX12_mix 1 = .ok (.iconst 0, 1) := by decide +kernel
theorem dX12_mix_2 : decode cX12_mix 2 = .ok (.putfield 96, 3) := by decide +kernel
theorem dX12_mix_5 : decode cX12_mix 5 = .ok (.iload_n 1, 1) := by decide +kernel
theorem dX12_mix_6 : decode cX12_mix 6 = .ok (.i2l, 1) := by decide +kernel
theorem dX12_mix_7 : decode cX12_mix 7 = .ok (.lconst 1, 1) := by decide +kernel
theorem dX12_mix_8 : decode cX12_mix 8 = .ok (.ldc2_w 178, 3) := by decide +kernel
theorem dX12_mix_11 : decode cX12_mix 11 = .ok (.invokestatic 102, 3) := by decide +kernel
theorem dX12_mix_14 : decode cX12_mix 14 = .ok (.ifCond .eq 41, 3) := by decide +kernel
theorem dX12_mix_17 : decode cX12_mix 17 = .ok (.iload_n 2, 1) := by decide +kernel
theorem dX12_mix_18 : decode cX12_mix 18 = .ok (.i2l, 1) := by decide +kernel
theorem dX12_mix_19 : decode cX12_mix 19 = .ok (.lconst 0, 1) := by decide +kernel
theorem dX12_mix_20 : decode cX12_mix 20 = .ok (.ldc2_w 176, 3) := by decide +kernel
theorem dX12_mix_23 : decode cX12_mix 23 = .ok (.invokestatic 102, 3) := by decide +kernel
theorem dX12_mix_26 : decode cX12_mix 26 = .ok (.ifCond .eq 29, 3) := by decide +kernel
theorem dX12_mix_29 : decode cX12_mix 29 = .ok (.iload_n 3, 1) := by decide +kernel
theorem dX12_mix_30 : decode cX12_mix 30 = .ok (.i2l, 1) := by decide +kernel
theorem dX12_mix_31 : decode cX12_mix 31 = .ok (.iload_n 2, 1) := by decide +kernel
theorem dX12_mix_32 : decode cX12_mix 32 = .ok (.i2l, 1) := by decide +kernel
theorem dX12_mix_33 : decode cX12_mix 33 = .ok (.ldc2_w 176, 3) := by decide +kernel
theorem dX12_mix_36 : decode cX12_mix 36 = .ok (.invokestatic 102, 3) := by decide +kernel
theorem dX12_mix_39 : decode cX12_mix 39 = .ok (.ifCond .eq 16, 3) := by decide +kernel
theorem dX12_mix_42 : decode cX12_mix 42 = .ok (.iload 4, 2) := by decide +kernel
theorem dX12_mix_44 : decode cX12_mix 44 = .ok (.i2l, 1) := by decide +kernel
theorem dX12_mix_45 : decode cX12_mix 45 = .ok (.lconst 0, 1) := by decide +kernel
theorem dX12_mix_46 : decode cX12_mix 46 = .ok (.ldc2_w 176, 3) := by decide +kernel
theorem dX12_mix_49 : decode cX12_mix 49 = .ok (.invokestatic 102, 3) := by decide +kernel
theorem dX12_mix_52 : decode cX12_mix 52 = .ok (.ifCond .ne 9, 3) := by decide +kernel
theorem dX12_mix_55 : decode cX12_mix 55 = .ok (.aload_n 0, 1) := by decide +kernel
theorem dX12_mix_56 : decode cX12_mix 56 = .ok (.iconst (-1), 1) := by decide +kernel
theorem dX12_mix_57 : decode cX12_mix 57 = .ok (.invokevirtual 113, 3) := by decide +kernel
theorem dX12_mix_60 : decode cX12_mix 60 = .ok (.ireturn, 1) := by decide +kernel
theorem dX12_mix_61 : decode cX12_mix 61 = .ok (.iconst (-1), 1) := by decide +kernel
theorem dX12_mix_62 : decode cX12_mix 62 = .ok (.istore 5, 2) := by decide +kernel
theorem dX12_mix_64 : decode cX12_mix 64 = .ok (.iconst 0, 1) := by decide +kernel
theorem dX12_mix_65 : decode cX12_mix 65 = .ok (.istore 6, 2) := by decide +kernel
theorem dX12_mix_67 : decode cX12_mix 67 = .ok (.iload 6, 2) := by decide +kernel
theorem dX12_mix_69 : decode cX12_mix 69 = .ok (.bipush 7, 2) := by decide +kernel
theorem dX12_mix_71 : decode cX12_mix 71 = .ok (.if_icmp .ge 17, 3) := by decide +kernel
theorem dX12_mix_74 : decode cX12_mix 74 = .ok (.aload_n 0, 1) := by decide +kernel
theorem dX12_mix_75 : decode cX12_mix 75 = .ok (.getfield 60, 3) := by decide +kernel
theorem dX12_mix_78 : decode cX12_mix 78 = .ok (.iload 6, 2) := by decide +kernel
theorem dX12_mix_80 : decode cX12_mix 80 = .ok (.iconst 0, 1) := by decide +kernel
theorem dX12_mix_81 : decode cX12_mix 81 = .ok (.iastore, 1) := by decide +kernel
theorem dX12_mix_82 : decode cX12_mix 82 = .ok (.iinc 6 1, 3) := by decide +kernel
theorem dX12_mix_85 : decode cX12_mix 85 = .ok (.goto (-18), 3) := by decide +kernel
theorem dX12_mix_88 : decode cX12_mix 88 = .ok (.aload_n 0, 1) := by decide +kernel
theorem dX12_mix_89 : decode cX12_mix 89 = .ok (.getfield 180, 3) := by decide +kernel
theorem dX12_mix_92 : decode cX12_mix 92 = .ok (.ifCond .le 7, 3) := by decide +kernel
theorem dX12_mix_95 : decode cX12_mix 95 = .ok (.iconst 1, 1) := by decide +kernel
theorem dX12_mix_96 : decode cX12_mix 96 = .ok (.goto 4, 3) := by decide +kernel
theorem dX12_mix_99 : decode cX12_mix 99 = .ok (.iconst 0, 1) := by decide +kernel
theorem dX12_mix_100 : decode cX12_mix 100 = .ok (.istore 6, 2) := by decide +kernel
theorem dX12_mix_102 : decode cX12_mix 102 = .ok (.iload 6, 2) := by decide +kernel
theorem dX12_mix_104 : decode cX12_mix 104 = .ok (.ifCond .eq 239, 3) := by decide +kernel
theorem dX12_mix_107 : decode cX12_mix 107 = .ok (.iload_n 1, 1) := by decide +kernel
theorem dX12_mix_108 : decode cX12_mix 108 = .ok (.istore 7, 2) := by decide +kernel
theorem dX12_mix_110 : decode cX12_mix 110 = .ok (.iconst 0, 1) := by decide +kernel
theorem dX12_mix_111 : decode cX12_mix 111 = .ok (.istore 8, 2) := by decide +kernel
theorem dX12_mix_113 : decode cX12_mix 113 = .ok (.iload 8, 2) := by decide +kernel
theorem dX12_mix_115 : decode cX12_mix 115 = .ok (.iconst 1, 1) := by decide +kernel
theorem dX12_mix_116 : decode cX12_mix 116 = .ok (.iadd, 1) := by decide +kernel
theorem dX12_mix_117 : decode cX12_mix 117 = .ok (.aload_n 0, 1) := by decide +kernel
theorem dX12_mix_118 : decode cX12_mix 118 = .ok (.getfield 180, 3) := by decide +kernel
theorem dX12_mix_121 : decode cX12_mix 121 = .ok (.if_icmp .ge 21, 3) := by decide +kernel
theorem dX12_mix_124 : decode cX12_mix 124 = .ok (.iload 7, 2) := by decide +kernel
theorem dX12_mix_126 : decode cX12_mix 126 = .ok (.aload_n 0, 1) := by decide +kernel
theorem dX12_mix_127 : decode cX12_mix 127 = .ok (.getfield 60, 3) := by decide +kernel
theorem dX12_mix_130 : decode cX12_mix 130 = .ok (.iload 8, 2) := by decide +kernel
theorem dX12_mix_132 : decode cX12_mix 132 = .ok (.iaload, 1) := by decide +kernel
theorem dX12_mix_133 : decode cX12_mix 133 = .ok (.isub, 1) := by decide +kernel
theorem dX12_mix_134 : decode cX12_mix 134 = .ok (.istore 7, 2) := by decide +kernel
theorem dX12_mix_136 : decode cX12_mix 136 = .ok (.iinc 8 1, 3) := by decide +kernel
theorem dX12_mix_139 : decode cX12_mix 139 = .ok (.goto (-26), 3) := by decide +kernel
theorem dX12_mix_142 : decode cX12_mix 142 = .ok (.aload_n 0, 1) := by decide +kernel
theorem dX12_mix_143 : decode cX12_mix 143 = .ok (.getfield 60, 3) := by decide +kernel
theorem dX12_mix_146 : decode cX12_mix 146 = .ok (.aload_n 0, 1) := by decide +kernel
theorem dX12_mix_147 : decode cX12_mix 147 = .ok (.getfield 180, 3) := by decide +kernel
theorem dX12_mix_150 : decode cX12_mix 150 = .ok (.iconst 1, 1) := by decide +kernel
theorem dX12_mix_151 : decode cX12_mix 151 = .ok (.isub, 1) := by decide +kernel
theorem dX12_mix_152 : decode cX12_mix 152 = .ok (.iload 7, 2) := by decide +kernel
theorem dX12_mix_154 : decode cX12_mix 154 = .ok (.iastore, 1) := by decide +kernel
theorem dX12_mix_155 : decode cX12_mix 155 = .ok (.iload 7, 2) := by decide +kernel
theorem dX12_mix_157 : decode cX12_mix 157 = .ok (.ifCond .lt 31, 3) := by decide +kernel
theorem dX12_mix_160 : decode cX12_mix 160 = .ok (.iload 7, 2) := by decide +kernel
theorem dX12_mix_162 : decode cX12_mix 162 = .ok (.aload_n 0, 1) := by decide +kernel
theorem dX12_mix_163 : decode cX12_mix 163 = .ok (.getfield 51, 3) := by decide +kernel
theorem dX12_mix_166 : decode cX12_mix 166 = .ok (.aload_n 0, 1) := by decide +kernel
theorem dX12_mix_167 : decode cX12_mix 167 = .ok (.getfield 180, 3) := by decide +kernel
theorem dX12_mix_170 : decode cX12_mix 170 = .ok (.iconst 1, 1) := by decide +kernel
theorem dX12_mix_171 : decode cX12_mix 171 = .ok (.isub, 1) := by decide +kernel
theorem dX12_mix_172 : decode cX12_mix 172 = .ok (.iaload, 1) := by decide +kernel
theorem dX12_mix_173 : decode cX12_mix 173 = .ok (.if_icmp .gt 15, 3) := by decide +kernel
theorem dX12_mix_176 : decode cX12_mix 176 = .ok (.aload_n 0, 1) := by decide +kernel
theorem dX12_mix_177 : decode cX12_mix 177 = .ok (.iload_n 1, 1) := by decide +kernel
theorem dX12_mix_178 : decode cX12_mix 178 = .ok (.iload_n 2, 1) := by decide +kernel
theorem dX12_mix_179 : decode cX12_mix 179 = .ok (.iload_n 3, 1) := by decide +kernel
theorem dX12_mix_180 : decode cX12_mix 180 = .ok (.iload 4, 2) := by decide +kernel
theorem dX12_mix_182 : decode cX12_mix 182 = .ok (.invokevirtual 183, 3) := by decide +kernel
theorem dX12_mix_185 : decode cX12_mix 185 = .ok (.goto 4, 3) := by decide +kernel
theorem dX12_mix_188 : decode cX12_mix 188 = .ok (.iconst (-1), 1) := by decide +kernel
theorem dX12_mix_189 : decode cX12_mix 189 = .ok (.istore 8, 2) := by decide +kernel
theorem dX12_mix_191 : decode cX12_mix 191 = .ok (.iload 8, 2) := by decide +kernel
theorem dX12_mix_193 : decode cX12_mix 193 = .ok (.ifCond .lt 51, 3) := by decide +kernel
theorem dX12_mix_196 : decode cX12_mix 196 = .ok (.iload 5, 2) := by decide +kernel
theorem dX12_mix_198 : decode cX12_mix 198 = .ok (.ifCond .lt 10, 3) := by decide +kernel
theorem dX12_mix_201 : decode cX12_mix 201 = .ok (.iload 8, 2) := by decide +kernel
theorem dX12_mix_203 : decode cX12_mix 203 = .ok (.iload 5, 2) := by decide +kernel
theorem dX12_mix_205 : decode cX12_mix 205 = .ok (.if_icmp .ge 39, 3) := by decide +kernel
theorem dX12_mix_208 : decode cX12_mix 208 = .ok (.iload 8, 2) := by decide +kernel
theorem dX12_mix_210 : decode cX12_mix 210 = .ok (.istore 5, 2) := by decide +kernel
theorem dX12_mix_212 : decode cX12_mix 212 = .ok (.iconst 0, 1) := by decide +kernel
theorem dX12_mix_213 : decode cX12_mix 213 = .ok (.istore 9, 2) := by decide +kernel
theorem dX12_mix_215 : decode cX12_mix 215 = .ok (.iload 9, 2) := by decide +kernel
theorem dX12_mix_217 : decode cX12_mix 217 = .ok (.aload_n 0, 1) := by decide +kernel
theorem dX12_mix_218 : decode cX12_mix 218 = .ok (.getfield 180, 3) := by decide +kernel
theorem dX12_mix_221 : decode cX12_mix 221 = .ok (.if_icmp .ge 23, 3) := by decide +kernel
theorem dX12_mix_224 : decode cX12_mix 224 = .ok (.aload_n 0, 1) := by decide +kernel
theorem dX12_mix_225 : decode cX12_mix 225 = .ok (.getfield 63, 3) := by decide +kernel
theorem dX12_mix_228 : decode cX12_mix 228 = .ok (.iload 9, 2) := by decide +kernel
theorem dX12_mix_230 : decode cX12_mix 230 = .ok (.aload_n 0, 1) := by decide +kernel
theorem dX12_mix_231 : decode cX12_mix 231 = .ok (.getfield 60, 3) := by decide +kernel
theorem dX12_mix_234 : decode cX12_mix 234 = .ok (.iload 9, 2) := by decide +kernel
theorem dX12_mix_236 : decode cX12_mix 236 = .ok (.iaload, 1) := by decide +kernel
theorem dX12_mix_237 : decode cX12_mix 237 = .ok (.iastore, 1) := by decide +kernel
theorem dX12_mix_238 : decode cX12_mix 238 = .ok (.iinc 9 1, 3) := by decide +kernel
theorem dX12_mix_241 : decode cX12_mix 241 = .ok (.goto (-26), 3) := by decide +kernel
theorem dX12_mix_244 : decode cX12_mix 244 = .ok (.aload_n 0, 1) := by decide +kernel
theorem dX12_mix_245 : decode cX12_mix 245 = .ok (.getfield 180, 3) := by decide +kernel
theorem dX12_mix_248 : decode cX12_mix 248 = .ok (.iconst 2, 1) := by decide +kernel
theorem dX12_mix_249 : decode cX12_mix 249 = .ok (.isub, 1) := by decide +kernel
theorem dX12_mix_250 : decode cX12_mix 250 = .ok (.istore 9, 2) := by decide +kernel
theorem dX12_mix_252 : decode cX12_mix 252 = .ok (.iload_n 1, 1) := by decide +kernel
theorem dX12_mix_253 : decode cX12_mix 253 = .ok (.iload 7, 2) := by decide +kernel
theorem dX12_mix_255 : decode cX12_mix 255 = .ok (.isub, 1) := by decide +kernel
theorem dX12_mix_256 : decode cX12_mix 256 = .ok (.istore 10, 2) := by decide +kernel
theorem dX12_mix_258 : decode cX12_mix 258 = .ok (.iload 9, 2) := by decide +kernel
theorem dX12_mix_260 : decode cX12_mix 260 = .ok (.ifCond .lt 52, 3) := by decide +kernel
theorem dX12_mix_263 : decode cX12_mix 263 = .ok (.aload_n 0, 1) := by decide +kernel
theorem dX12_mix_264 : decode cX12_mix 264 = .ok (.getfield 60, 3) := by decide +kernel
theorem dX12_mix_267 : decode cX12_mix 267 = .ok (.iload 9, 2) := by decide +kernel
theorem dX12_mix_269 : decode cX12_mix 269 = .ok (.iaload, 1) := by decide +kernel
theorem dX12_mix_270 : decode cX12_mix 270 = .ok (.aload_n 0, 1) := by decide +kernel
theorem dX12_mix_271 : decode cX12_mix 271 = .ok (.getfield 51, 3) := by decide +kernel
theorem dX12_mix_274 : decode cX12_mix 274 = .ok (.iload 9, 2) := by decide +kernel
theorem dX12_mix_276 : decode cX12_mix 276 = .ok (.iaload, 1) := by decide +kernel
theorem dX12_mix_277 : decode cX12_mix 277 = .ok (.if_icmp .eq 9, 3) := by decide +kernel
theorem dX12_mix_280 : decode cX12_mix 280 = .ok (.iload 10, 2) := by decide +kernel
theorem dX12_mix_282 : decode cX12_mix 282 = .ok (.iload_n 1, 1) := by decide +kernel
theorem dX12_mix_283 : decode cX12_mix 283 = .ok (.if_icmp .lt 29, 3) := by decide +kernel
theorem dX12_mix_286 : decode cX12_mix 286 = .ok (.iload 10, 2) := by decide +kernel
theorem dX12_mix_288 : decode cX12_mix 288 = .ok (.aload_n 0, 1) := by decide +kernel
theorem dX12_mix_289 : decode cX12_mix 289 = .ok (.getfield 60, 3) := by decide +kernel
theorem dX12_mix_292 : decode cX12_mix 292 = .ok (.iload 9, 2) := by decide +kernel
theorem dX12_mix_294 : decode cX12_mix 294 = .ok (.iaload, 1) := by decide +kernel
theorem dX12_mix_295 : decode cX12_mix 295 = .ok (.isub, 1) := by decide +kernel
theorem dX12_mix_296 : decode cX12_mix 296 = .ok (.istore 10, 2) := by decide +kernel
theorem dX12_mix_298 : decode cX12_mix 298 = .ok (.aload_n 0, 1) := by decide +kernel
theorem dX12_mix_299 : decode cX12_mix 299 = .ok (.getfield 60, 3) := by decide +kernel
theorem dX12_mix_302 : decode cX12_mix 302 = .ok (.iload 9, 2) := by decide +kernel
theorem dX12_mix_304 : decode cX12_mix 304 = .ok (.iconst 0, 1) := by decide +kernel
theorem dX12_mix_305 : decode cX12_mix 305 = .ok (.iastore, 1) := by decide +kernel
theorem dX12_mix_306 : decode cX12_mix 306 = .ok (.iinc 9 (-1), 3) := by decide +kernel
theorem dX12_mix_309 : decode cX12_mix 309 = .ok (.goto (-51), 3) := by decide +kernel
theorem dX12_mix_312 : decode cX12_mix 312 = .ok (.iload 9, 2) := by decide +kernel
theorem dX12_mix_314 : decode cX12_mix 314 = .ok (.ifCond .lt 7, 3) := by decide +kernel
theorem dX12_mix_317 : decode cX12_mix 317 = .ok (.iconst 1, 1) := by decide +kernel
theorem dX12_mix_318 : decode cX12_mix 318 = .ok (.goto 4, 3) := by decide +kernel
theorem dX12_mix_321 : decode cX12_mix 321 = .ok (.iconst 0, 1) := by decide +kernel
theorem dX12_mix_322 : decode cX12_mix 322 = .ok (.istore 6, 2) := by decide +kernel
theorem dX12_mix_324 : decode cX12_mix 324 = .ok (.iload 6, 2) := by decide +kernel
theorem dX12_mix_326 : decode cX12_mix 326 = .ok (.ifCond .eq 14, 3) := by decide +kernel
theorem dX12_mix_329 : decode cX12_mix 329 = .ok (.aload_n 0, 1) := by decide +kernel
theorem dX12_mix_330 : decode cX12_mix 330 = .ok (.getfield 60, 3) := by decide +kernel
theorem dX12_mix_333 : decode cX12_mix 333 = .ok (.iload 9, 2) := by decide +kernel
theorem dX12_mix_335 : decode cX12_mix 335 = .ok (.dup2, 1) := by decide +kernel
theorem dX12_mix_336 : decode cX12_mix 336 = .ok (.iaload, 1) := by decide +kernel
theorem dX12_mix_337 : decode cX12_mix 337 = .ok (.iconst 1, 1) := by decide +kernel
theorem dX12_mix_338 : decode cX12_mix 338 = .ok (.iadd, 1) := by decide +kernel
theorem dX12_mix_339 : decode cX12_mix 339 = .ok (.iastore, 1) := by decide +kernel
theorem dX12_mix_340 : decode cX12_mix 340 = .ok (.goto (-238), 3) := by decide +kernel
theorem dX12_mix_343 : decode cX12_mix 343 = .ok (.iload 5, 2) := by decide +kernel
theorem dX12_mix_345 : decode cX12_mix 345 = .ok (.ifCond .ge 10, 3) := by decide +kernel
theorem dX12_mix_348 : decode cX12_mix 348 = .ok (.aload_n 0, 1) := by decide +kernel
theorem dX12_mix_349 : decode cX12_mix 349 = .ok (.bipush (-6), 2) := by decide +kernel
theorem dX12_mix_351 : decode cX12_mix 351 = .ok (.invokevirtual 113, 3) := by decide +kernel
theorem dX12_mix_354 : decode cX12_mix 354 = .ok (.ireturn, 1) := by decide +kernel
theorem dX12_mix_355 : decode cX12_mix 355 = .ok (.iconst 0, 1) := by decide +kernel
theorem dX12_mix_356 : decode cX12_mix 356 = .ok (.istore 7, 2) := by decide +kernel
theorem dX12_mix_358 : decode cX12_mix 358 = .ok (.iload 7, 2) := by decide +kernel
theorem dX12_mix_360 : decode cX12_mix 360 = .ok (.bipush 6, 2) := by decide +kernel
theorem dX12_mix_362 : decode cX12_mix 362 = .ok (.if_icmp .ge 36, 3) := by decide +kernel
theorem dX12_mix_365 : decode cX12_mix 365 = .ok (.aload_n 0, 1) := by decide +kernel
theorem dX12_mix_366 : decode cX12_mix 366 = .ok (.getfield 54, 3) := by decide +kernel
theorem dX12_mix_369 : decode cX12_mix 369 = .ok (.iload 7, 2) := by decide +kernel
theorem dX12_mix_371 : decode cX12_mix 371 = .ok (.iload 7, 2) := by decide +kernel
theorem dX12_mix_373 : decode cX12_mix 373 = .ok (.aload_n 0, 1) := by decide +kernel
theorem dX12_mix_374 : decode cX12_mix 374 = .ok (.getfield 180, 3) := by decide +kernel
theorem dX12_mix_377 : decode cX12_mix 377 = .ok (.if_icmp .ge 13, 3) := by decide +kernel
theorem dX12_mix_380 : decode cX12_mix 380 = .ok (.aload_n 0, 1) := by decide +kernel
theorem dX12_mix_381 : decode cX12_mix 381 = .ok (.getfield 63, 3) := by decide +kernel
theorem dX12_mix_384 : decode cX12_mix 384 = .ok (.iload 7, 2) := by decide +kernel
theorem dX12_mix_386 : decode cX12_mix 386 = .ok (.iaload, 1) := by decide +kernel
theorem dX12_mix_387 : decode cX12_mix 387 = .ok (.goto 4, 3) := by decide +kernel
theorem dX12_mix_390 : decode cX12_mix 390 = .ok (.iconst 0, 1) := by decide +kernel
theorem dX12_mix_391 : decode cX12_mix 391 = .ok (.iastore, 1) := by decide +kernel
theorem dX12_mix_392 : decode cX12_mix 392 = .ok (.iinc 7 1, 3) := by decide +kernel
theorem dX12_mix_395 : decode cX12_mix 395 = .ok (.goto (-37), 3) := by decide +kernel
theorem dX12_mix_398 : decode cX12_mix 398 = .ok (.aload_n 0, 1) := by decide +kernel
theorem dX12_mix_399 : decode cX12_mix 399 = .ok (.iload_n 1, 1) := by decide +kernel
theorem dX12_mix_400 : decode cX12_mix 400 = .ok (.putfield 57, 3) := by decide +kernel
theorem dX12_mix_403 : decode cX12_mix 403 = .ok (.aload_n 0, 1) := by decide +kernel
theorem dX12_mix_404 : decode cX12_mix 404 = .ok (.iload 5, 2) := by decide +kernel
theorem dX12_mix_406 : decode cX12_mix 406 = .ok (.invokevirtual 113, 3) := by decide +kernel
theorem dX12_mix_409 : decode cX12_mix 409 = .ok (.ireturn, 1) := by decide +kernel
theorem dX12_mixed_0 : decode cX12_mixed 0 = .ok (.aload_n 0, 1) := by decide +kernel
theorem dX12_mixed_1 : decode cX12_mixed 1 = .ok (.iconst 0, 1) := by decide +kernel
theorem dX12_mixed_2 : decode cX12_mixed 2 = .ok (.putfield 96, 3) := by decide +kernel
theorem dX12_mixed_5 : decode cX12_mixed 5 = .ok (.aload_n 0, 1) := by decide +kernel
theorem dX12_mixed_6 : decode cX12_mixed 6 = .ok (.getfield 57, 3) := by decide +kernel
theorem dX12_mixed_9 : decode cX12_mixed 9 = .ok (.ifCond .ge 5, 3) := by decide +kernel
theorem dX12_mixed_12 : decode cX12_mixed 12 = .ok (.iconst (-1), 1) := by decide +kernel
theorem dX12_mixed_13 : decode cX12_mixed 13 = .ok (.ireturn, 1) := by decide +kernel
theorem dX12_mixed_14 : decode cX12_mixed 14 = .ok (.iload_n 1, 1) := by decide +kernel
theorem dX12_mixed_15 : decode cX12_mixed 15 = .ok (.iconst (-1), 1) := by decide +kernel
theorem dX12_mixed_16 : decode cX12_mixed 16 = .ok (.if_icmp .ne 10, 3) := by decide +kernel
theorem dX12_mixed_19 : decode cX12_mixed 19 = .ok (.aload_n 0, 1) := by decide +kernel
theorem dX12_mixed_20 : decode cX12_mixed 20 = .ok (.getfield 57, 3) := by decide +kernel
theorem dX12_mixed_23 : decode cX12_mixed 23 = .ok (.goto 29, 3) := by decide +kernel
theorem dX12_mixed_26 : decode cX12_mixed 26 = .ok (.iload_n 1, 1) := by decide +kernel
theorem dX12_mixed_27 : decode cX12_mixed 27 = .ok (.i2l, 1) := by decide +kernel
theorem dX12_mixed_28 : decode cX12_mixed 28 = .ok (.lconst 0, 1) := by decide +kernel
theorem dX12_mixed_29 : decode cX12_mixed 29 = .ok (.aload_n 0, 1) := by decide +kernel
theorem dX12_mixed_30 : decode cX12_mixed 30 = .ok (.getfield 180, 3) := by decide +kernel
theorem dX12_mixed_33 : decode cX12_mixed 33 = .ok (.i2l, 1) := by decide +kernel
theorem dX12_mixed_34 : decode cX12_mixed 34 = .ok (.lconst 1, 1) := by decide +kernel
theorem dX12_mixed_35 : decode cX12_mixed 35 = .ok (.lsub, 1) := by decide +kernel
theorem dX12_mixed_36 : decode cX12_mixed 36 = .ok (.invokestatic 102, 3) := by decide +kernel
theorem dX12_mixed_39 : decode cX12_mixed 39 = .ok (.ifCond .eq 12, 3) := by decide +kernel
theorem dX12_mixed_42 : decode cX12_mixed 42 = .ok (.aload_n 0, 1) := by decide +kernel
theorem dX12_mixed_43 : decode cX12_mixed 43 = .ok (.getfield 54, 3) := by decide +kernel
theorem dX12_mixed_46 : decode cX12_mixed 46 = .ok (.iload_n 1, 1) := by decide +kernel
theorem dX12_mixed_47 : decode cX12_mixed 47 = .ok (.iaload, 1) := by decide +kernel
theorem dX12_mixed_48 : decode cX12_mixed 48 = .ok (.goto 4, 3) := by decide +kernel
theorem dX12_mixed_51 : decode cX12_mixed 51 = .ok (.iconst (-1), 1) := by decide +kernel
theorem dX12_mixed_52 : decode cX12_mixed 52 = .ok (.ireturn, 1) := by decide +kernel
theorem dX12_pour_0 : decode cX12_pour 0 = .ok (.aload_n 0, 1) := by decide +kernel
theorem dX12_pour_1 : decode cX12_pour 1 = .ok (.iconst 0, 1) := by decide +kernel
theorem dX12_pour_2 : decode cX12_pour 2 = .ok (.putfield 96, 3) := by decide +kernel
theorem dX12_pour_5 : decode cX12_pour 5 = .ok (.aload_n 0, 1) := by decide +kernel
theorem dX12_pour_6 : decode cX12_pour 6 = .ok (.getfield 57, 3) := by decide +kernel
theorem dX12_pour_9 : decode cX12_pour 9 = .ok (.istore_n 1, 1) := by decide +kernel
theorem dX12_pour_10 : decode cX12_pour 10 = .ok (.iload_n 1, 1) := by decide +kernel
theorem dX12_pour_11 : decode cX12_pour 11 = .ok (.ifCond .lt 7, 3) := by decide +kernel
theorem dX12_pour_14 : decode cX12_pour 14 = .ok (.iconst 1, 1) := by decide +kernel
theorem dX12_pour_15 : decode cX12_pour 15 = .ok (.goto 4, 3) := by decide +kernel
theorem dX12_pour_18 : decode cX12_pour 18 = .ok (.iconst 0, 1) := by decide +kernel
theorem dX12_pour_19 : decode cX12_pour 19 = .ok (.istore_n 2, 1) := by decide +kernel
theorem dX12_pour_20 : decode cX12_pour 20 = .ok (.iconst 0, 1) := by decide +kernel
theorem dX12_pour_21 : decode cX12_pour 21 = .ok (.istore_n 3, 1) := by decide +kernel
theorem dX12_pour_22 : decode cX12_pour 22 = .ok (.iload_n 3, 1) := by decide +kernel
theorem dX12_pour_23 : decode cX12_pour 23 = .ok (.aload_n 0, 1) := by decide +kernel
theorem dX12_pour_24 : decode cX12_pour 24 = .ok (.getfield 180, 3) := by decide +kernel
theorem dX12_pour_27 : decode cX12_pour 27 = .ok (.if_icmp .ge 34, 3) := by decide +kernel
theorem dX12_pour_30 : decode cX12_pour 30 = .ok (.iload_n 2, 1) := by decide +kernel
theorem dX12_pour_31 : decode cX12_pour 31 = .ok (.ifCond .eq 22, 3) := by decide +kernel
theorem dX12_pour_34 : decode cX12_pour 34 = .ok (.aload_n 0, 1) := by decide +kernel
theorem dX12_pour_35 : decode cX12_pour 35 = .ok (.getfield 54, 3) := by decide +kernel
theorem dX12_pour_38 : decode cX12_pour 38 = .ok (.iload_n 3, 1) := by decide +kernel
theorem dX12_pour_39 : decode cX12_pour 39 = .ok (.iaload, 1) := by decide +kernel
theorem dX12_pour_40 : decode cX12_pour 40 = .ok (.aload_n 0, 1) := by decide +kernel
theorem dX12_pour_41 : decode cX12_pour 41 = .ok (.getfield 51, 3) := by decide +kernel
theorem dX12_pour_44 : decode cX12_pour 44 = .ok (.iload_n 3, 1) := by decide +kernel
theorem dX12_pour_45 : decode cX12_pour 45 = .ok (.iaload, 1) := by decide +kernel
theorem dX12_pour_46 : decode cX12_pour 46 = .ok (.if_icmp .gt 7, 3) := by decide +kernel
theorem dX12_pour_49 : decode cX12_pour 49 = .ok (.iconst 1, 1) := by decide +kernel
theorem dX12_pour_50 : decode cX12_pour 50 = .ok (.goto 4, 3) := by decide +kernel
theorem dX12_pour_53 : decode cX12_pour 53 = .ok (.iconst 0, 1) := by decide +kernel
theorem dX12_pour_54 : decode cX12_pour 54 = .ok (.istore_n 2, 1) := by decide +kernel
theorem dX12_pour_55 : decode cX12_pour 55 = .ok (.iinc 3 1, 3) := by decide +kernel
theorem dX12_pour_58 : decode cX12_pour 58 = .ok (.goto (-36), 3) := by decide +kernel
theorem dX12_pour_61 : decode cX12_pour 61 = .ok (.aload_n 0, 1) := by decide +kernel
theorem dX12_pour_62 : decode cX12_pour 62 = .ok (.iconst (-1), 1) := by decide +kernel
theorem dX12_pour_63 : decode cX12_pour 63 = .ok (.putfield 57, 3) := by decide +kernel
theorem dX12_pour_66 : decode cX12_pour 66 = .ok (.iload_n 2, 1) := by decide +kernel
theorem dX12_pour_67 : decode cX12_pour 67 = .ok (.ifCond .ne 10, 3) := by decide +kernel
theorem dX12_pour_70 : decode cX12_pour 70 = .ok (.aload_n 0, 1) := by decide +kernel
theorem dX12_pour_71 : decode cX12_pour 71 = .ok (.bipush (-6), 2) := by decide +kernel
theorem dX12_pour_73 : decode cX12_pour 73 = .ok (.invokevirtual 113, 3) := by decide +kernel
theorem dX12_pour_76 : decode cX12_pour 76 = .ok (.ireturn, 1) := by decide +kernel
theorem dX12_pour_77 : decode cX12_pour 77 = .ok (.iconst 0, 1) := by decide +kernel
theorem dX12_pour_78 : decode cX12_pour 78 = .ok (.istore_n 3, 1) := by decide +kernel
theorem dX12_pour_79 : decode cX12_pour 79 = .ok (.iload_n 3, 1) := by decide +kernel
theorem dX12_pour_80 : decode cX12_pour 80 = .ok (.aload_n 0, 1) := by decide +kernel
theorem dX12_pour_81 : decode cX12_pour 81 = .ok (.getfield 180, 3) := by decide +kernel
theorem dX12_pour_84 : decode cX12_pour 84 = .ok (.if_icmp .ge 24, 3) := by decide +kernel
theorem dX12_pour_87 : decode cX12_pour 87 = .ok (.aload_n 0, 1) := by decide +kernel
theorem dX12_pour_88 : decode cX12_pour 88 = .ok (.getfield 51, 3) := by decide +kernel
theorem dX12_pour_91 : decode cX12_pour 91 = .ok (.iload_n 3, 1) := by decide +kernel
theorem dX12_pour_92 : decode cX12_pour 92 = .ok (.dup2, 1) := by decide +kernel
theorem dX12_pour_93 : decode cX12_pour 93 = .ok (.iaload, 1) := by decide +kernel
theorem dX12_pour_94 : decode cX12_pour 94 = .ok (.aload_n 0, 1) := by decide +kernel
theorem dX12_pour_95 : decode cX12_pour 95 = .ok (.getfield 54, 3) := by decide +kernel
theorem dX12_pour_98 : decode cX12_pour 98 = .ok (.iload_n 3, 1) := by decide +kernel
theorem dX12_pour_99 : decode cX12_pour 99 = .ok (.iaload, 1) := by decide +kernel
theorem dX12_pour_100 : decode cX12_pour 100 = .ok (.isub, 1) := by decide +kernel
theorem dX12_pour_101 : decode cX12_pour 101 = .ok (.iastore, 1) := by decide +kernel
theorem dX12_pour_102 : decode cX12_pour 102 = .ok (.iinc 3 1, 3) := by decide +kernel
theorem dX12_pour_105 : decode cX12_pour 105 = .ok (.goto (-26), 3) := by decide +kernel
theorem dX12_pour_108 : decode cX12_pour 108 = .ok (.aload_n 0, 1) := by decide +kernel
theorem dX12_pour_109 : decode cX12_pour 109 = .ok (.iload_n 1, 1) := by decide +kernel
theorem dX12_pour_110 : decode cX12_pour 110 = .ok (.invokevirtual 113, 3) := by decide +kernel
theorem dX12_pour_113 : decode cX12_pour 113 = .ok (.ireturn, 1) := by decide +kernel
theorem dX12_left_0 : decode cX12_left 0 = .ok (.aload_n 0, 1) := by decide +kernel
theorem dX12_left_1 : decode cX12_left 1 = .ok (.iconst 0, 1) := by decide +kernel
theorem dX12_left_2 : decode cX12_left 2 = .ok (.putfield 96, 3) := by decide +kernel
theorem dX12_left_5 : decode cX12_left 5 = .ok (.iload_n 1, 1) := by decide +kernel
theorem dX12_left_6 : decode cX12_left 6 = .ok (.i2l, 1) := by decide +kernel
theorem dX12_left_7 : decode cX12_left 7 = .ok (.lconst 0, 1) := by decide +kernel
theorem dX12_left_8 : decode cX12_left 8 = .ok (.aload_n 0, 1) := by decide +kernel
theorem dX12_left_9 : decode cX12_left 9 = .ok (.getfield 180, 3) := by decide +kernel
theorem dX12_left_12 : decode cX12_left 12 = .ok (.i2l, 1) := by decide +kernel
theorem dX12_left_13 : decode cX12_left 13 = .ok (.lconst 1, 1) := by decide +kernel
theorem dX12_left_14 : decode cX12_left 14 = .ok (.lsub, 1) := by decide +kernel
theorem dX12_left_15 : decode cX12_left 15 = .ok (.invokestatic 102, 3) := by decide +kernel
theorem dX12_left_18 : decode cX12_left 18 = .ok (.ifCond .eq 12, 3) := by decide +kernel
theorem dX12_left_21 : decode cX12_left 21 = .ok (.aload_n 0, 1) := by decide +kernel
theorem dX12_left_22 : decode cX12_left 22 = .ok (.getfield 51, 3) := by decide +kernel
theorem dX12_left_25 : decode cX12_left 25 = .ok (.iload_n 1, 1) := by decide +kernel
theorem dX12_left_26 : decode cX12_left 26 = .ok (.iaload, 1) := by decide +kernel
theorem dX12_left_27 : decode cX12_left 27 = .ok (.goto 4, 3) := by decide +kernel
theorem dX12_left_30 : decode cX12_left 30 = .ok (.iconst (-1), 1) := by decide +kernel
theorem dX12_left_31 : decode cX12_left 31 = .ok (.ireturn, 1) := by decide +kernel
theorem dX12_four_0 : decode cX12_four 0 = .ok (.bipush 24, 2) := by decide +kernel
theorem dX12_four_2 : decode cX12_four 2 = .ok (.istore_n 2, 1) := by decide +kernel
theorem dX12_four_3 : decode cX12_four 3 = .ok (.iload_n 2, 1) := by decide +kernel
theorem dX12_four_4 : decode cX12_four 4 = .ok (.ifCond .lt 35, 3) := by decide +kernel
theorem dX12_four_7 : decode cX12_four 7 = .ok (.aload_n 0, 1) := by decide +kernel
theorem dX12_four_8 : decode cX12_four 8 = .ok (.getfield 78, 3) := by decide +kernel
theorem dX12_four_11 : decode cX12_four 11 = .ok (.aload_n 0, 1) := by decide +kernel
theorem dX12_four_12 : decode cX12_four 12 = .ok (.getfield 187, 3) := by decide +kernel
theorem dX12_four_15 : decode cX12_four 15 = .ok (.iload_n 1, 1) := by decide +kernel
theorem dX12_four_16 : decode cX12_four 16 = .ok (.iload_n 2, 1) := by decide +kernel
theorem dX12_four_17 : decode cX12_four 17 = .ok (.ishr, 1) := by decide +kernel
theorem dX12_four_18 : decode cX12_four 18 = .ok (.sipush 255, 3) := by decide +kernel
theorem dX12_four_21 : decode cX12_four 21 = .ok (.iand, 1) := by decide +kernel
theorem dX12_four_22 : decode cX12_four 22 = .ok (.iastore, 1) := by decide +kernel
theorem dX12_four_23 : decode cX12_four 23 = .ok (.aload_n 0, 1) := by decide +kernel
theorem dX12_four_24 : decode cX12_four 24 = .ok (.dup, 1) := by decide +kernel
theorem dX12_four_25 : decode cX12_four 25 = .ok (.getfield 187, 3) := by decide +kernel
theorem dX12_four_28 : decode cX12_four 28 = .ok (.iconst 1, 1) := by decide +kernel
theorem dX12_four_29 : decode cX12_four 29 = .ok (.iadd, 1) := by decide +kernel
theorem dX12_four_30 : decode cX12_four 30 = .ok (.putfield 187, 3) := by decide +kernel
theorem dX12_four_33 : decode cX12_four 33 = .ok (.iinc 2 (-8), 3) := by decide +kernel
theorem dX12_four_36 : decode cX12_four 36 = .ok (.goto (-33), 3) := by decide +kernel
theorem dX12_four_39 : decode cX12_four 39 = .ok (.return_, 1) := by decide +kernel
theorem dX12_feed_0 : decode cX12_feed 0 = .ok (.aload_n 0, 1) := by decide +kernel
theorem dX12_feed_1 : decode cX12_feed 1 = .ok (.iconst 0, 1) := by decide +kernel
theorem dX12_feed_2 : decode cX12_feed 2 = .ok (.putfield 96, 3) := by decide +kernel
theorem dX12_feed_5 : decode cX12_feed 5 = .ok (.aload_n 0, 1) := by decide +kernel
theorem dX12_feed_6 : decode cX12_feed 6 = .ok (.getfield 187, 3) := by decide +kernel
theorem dX12_feed_9 : decode cX12_feed 9 = .ok (.bipush 20, 2) := by decide +kernel
theorem dX12_feed_11 : decode cX12_feed 11 = .ok (.iadd, 1) := by decide +kernel
theorem dX12_feed_12 : decode cX12_feed 12 = .ok (.sipush 300, 3) := by decide +kernel
theorem dX12_feed_15 : decode cX12_feed 15 = .ok (.if_icmp .le 5, 3) := by decide +kernel
theorem dX12_feed_18 : decode cX12_feed 18 = .ok (.iconst (-1), 1) := by decide +kernel
theorem dX12_feed_19 : decode cX12_feed 19 = .ok (.ireturn, 1) := by decide +kernel
theorem dX12_feed_20 : decode cX12_feed 20 = .ok (.aload_n 0, 1) := by decide +kernel
theorem dX12_feed_21 : decode cX12_feed 21 = .ok (.iload_n 1, 1) := by decide +kernel
theorem dX12_feed_22 : decode cX12_feed 22 = .ok (.invokevirtual 190, 3) := by decide +kernel
theorem dX12_feed_25 : decode cX12_feed 25 = .ok (.aload_n 0, 1) := by decide +kernel
theorem dX12_feed_26 : decode cX12_feed 26 = .ok (.iload_n 2, 1) := by decide +kernel
theorem dX12_feed_27 : decode cX12_feed 27 = .ok (.invokevirtual 190, 3) := by decide +kernel
theorem dX12_feed_30 : decode cX12_feed 30 = .ok (.aload_n 0, 1) := by decide +kernel
theorem dX12_feed_31 : decode cX12_feed 31 = .ok (.iload_n 3, 1) := by decide +kernel
theorem dX12_feed_32 : decode cX12_feed 32 = .ok (.invokevirtual 190, 3) := by decide +kernel
theorem dX12_feed_35 : decode cX12_feed 35 = .ok (.aload_n 0, 1) := by decide +kernel
theorem dX12_feed_36 : decode cX12_feed 36 = .ok (.iload 4, 2) := by decide +kernel
theorem dX12_feed_38 : decode cX12_feed 38 = .ok (.invokevirtual 190, 3) := by decide +kernel
theorem dX12_feed_41 : decode cX12_feed 41 = .ok (.aload_n 0, 1) := by decide +kernel
theorem dX12_feed_42 : decode cX12_feed 42 = .ok (.iload 5, 2) := by decide +kernel
theorem dX12_feed_44 : decode cX12_feed 44 = .ok (.invokevirtual 190, 3) := by decide +kernel
theorem dX12_feed_47 : decode cX12_feed 47 = .ok (.aload_n 0, 1) := by decide +kernel
theorem dX12_feed_48 : decode cX12_feed 48 = .ok (.getfield 187, 3) := by decide +kernel
theorem dX12_feed_51 : decode cX12_feed 51 = .ok (.ireturn, 1) := by decide +kernel
theorem dX12_end_0 : decode cX12_end 0 = .ok (.aload_n 0, 1) := by decide +kernel
theorem dX12_end_1 : decode cX12_end 1 = .ok (.iconst 0, 1) := by decide +kernel
theorem dX12_end_2 : decode cX12_end 2 = .ok (.putfield 96, 3) := by decide +kernel
theorem dX12_end_5 : decode cX12_end 5 = .ok (.iload_n 1, 1) := by decide +kernel
theorem dX12_end_6 : decode cX12_end 6 = .ok (.ifCond .lt 11, 3) := by decide +kernel
theorem dX12_end_9 : decode cX12_end 9 = .ok (.iload_n 1, 1) := by decide +kernel
theorem dX12_end_10 : decode cX12_end 10 = .ok (.aload_n 0, 1) := by decide +kernel
theorem dX12_end_11 : decode cX12_end 11 = .ok (.getfield 187, 3) := by decide +kernel
theorem dX12_end_14 : decode cX12_end 14 = .ok (.if_icmp .le 5, 3) := by decide +kernel
theorem dX12_end_17 : decode cX12_end 17 = .ok (.iconst (-1), 1) := by decide +kernel
theorem dX12_end_18 : decode cX12_end 18 = .ok (.ireturn, 1) := by decide +kernel
theorem dX12_end_19 : decode cX12_end 19 = .ok (.aload_n 0, 1) := by decide +kernel
theorem dX12_end_20 : decode cX12_end 20 = .ok (.iload_n 1, 1) := by decide +kernel
theorem dX12_end_21 : decode cX12_end 21 = .ok (.putfield 187, 3) := by decide +kernel
theorem dX12_end_24 : decode cX12_end 24 = .ok (.iload_n 1, 1) := by decide +kernel
theorem dX12_end_25 : decode cX12_end 25 = .ok (.ireturn, 1) := by decide +kernel
theorem dX12_isSmall_0 : decode cX12_isSmall 0 = .ok (.iload_n 0, 1) := by decide +kernel
theorem dX12_isSmall_1 : decode cX12_isSmall 1 = .ok (.bipush 97, 2) := by decide +kernel
theorem dX12_isSmall_3 : decode cX12_isSmall 3 = .ok (.if_icmp .lt 13, 3) := by decide +kernel
theorem dX12_isSmall_6 : decode cX12_isSmall 6 = .ok (.iload_n 0, 1) := by decide +kernel
theorem dX12_isSmall_7 : decode cX12_isSmall 7 = .ok (.bipush 122, 2) := by decide +kernel
theorem dX12_isSmall_9 : decode cX12_isSmall 9 = .ok (.if_icmp .gt 7, 3) := by decide +kernel
theorem dX12_isSmall_12 : decode cX12_isSmall 12 = .ok (.iconst 1, 1) := by decide +kernel
theorem dX12_isSmall_13 : decode cX12_isSmall 13 = .ok (.goto 4, 3) := by decide +kernel
theorem dX12_isSmall_16 : decode cX12_isSmall 16 = .ok (.iconst 0, 1) := by decide +kernel
theorem dX12_isSmall_17 : decode cX12_isSmall 17 = .ok (.ireturn, 1) := by decide +kernel
theorem dX12_isDigit_0 : decode cX12_isDigit 0 = .ok (.iload_n 0, 1) := by decide +kernel
theorem dX12_isDigit_1 : decode cX12_isDigit 1 = .ok (.bipush 48, 2) := by decide +kernel
theorem dX12_isDigit_3 : decode cX12_isDigit 3 = .ok (.if_icmp .lt 13, 3) := by decide +kernel
theorem dX12_isDigit_6 : decode cX12_isDigit 6 = .ok (.iload_n 0, 1) := by decide +kernel
theorem dX12_isDigit_7 : decode cX12_isDigit 7 = .ok (.bipush 57, 2) := by decide +kernel
theorem dX12_isDigit_9 : decode cX12_isDigit 9 = .ok (.if_icmp .gt 7, 3) := by decide +kernel
theorem dX12_isDigit_12 : decode cX12_isDigit 12 = .ok (.iconst 1, 1) := by decide +kernel
theorem dX12_isDigit_13 : decode cX12_isDigit 13 = .ok (.goto 4, 3) := by decide +kernel
theorem dX12_isDigit_16 : decode cX12_isDigit 16 = .ok (.iconst 0, 1) := by decide +kernel
theorem dX12_isDigit_17 : decode cX12_isDigit 17 = .ok (.ireturn, 1) := by decide +kernel
theorem dX12_next_0 : decode cX12_next 0 = .ok (.aload_n 0, 1) := by decide +kernel
theorem dX12_next_1 : decode cX12_next 1 = .ok (.aload_n 0, 1) := by decide +kernel
theorem dX12_next_2 : decode cX12_next 2 = .ok (.getfield 193, 3) := by decide +kernel
theorem dX12_next_5 : decode cX12_next 5 = .ok (.putfield 196, 3) := by decide +kernel
theorem dX12_next_8 : decode cX12_next 8 = .ok (.aload_n 0, 1) := by decide +kernel
theorem dX12_next_9 : decode cX12_next 9 = .ok (.getfield 196, 3) := by decide +kernel
theorem dX12_next_12 : decode cX12_next 12 = .ok (.aload_n 0, 1) := by decide +kernel
theorem dX12_next_13 : decode cX12_next 13 = .ok (.getfield 187, 3) := by decide +kernel
theorem dX12_next_16 : decode cX12_next 16 = .ok (.if_icmp .ge 30, 3) := by decide +kernel
theorem dX12_next_19 : decode cX12_next 19 = .ok (.aload_n 0, 1) := by decide +kernel
theorem dX12_next_20 : decode cX12_next 20 = .ok (.getfield 78, 3) := by decide +kernel
theorem dX12_next_23 : decode cX12_next 23 = .ok (.aload_n 0, 1) := by decide +kernel
theorem dX12_next_24 : decode cX12_next 24 = .ok (.getfield 196, 3) := by decide +kernel
theorem dX12_next_27 : decode cX12_next 27 = .ok (.iaload, 1) := by decide +kernel
theorem dX12_next_28 : decode cX12_next 28 = .ok (.bipush 32, 2) := by decide +kernel
theorem dX12_next_30 : decode cX12_next 30 = .ok (.if_icmp .ne 16, 3) := by decide +kernel
theorem dX12_next_33 : decode cX12_next 33 = .ok (.aload_n 0, 1) := by decide +kernel
theorem dX12_next_34 : decode cX12_next 34 = .ok (.dup, 1) := by decide +kernel
theorem dX12_next_35 : decode cX12_next 35 = .ok (.getfield 196, 3) := by decide +kernel
theorem dX12_next_38 : decode cX12_next 38 = .ok (.iconst 1, 1) := by decide +kernel
theorem dX12_next_39 : decode cX12_next 39 = .ok (.iadd, 1) := by decide +kernel
theorem dX12_next_40 : decode cX12_next 40 = .ok (.putfield 196, 3) := by decide +kernel
theorem dX12_next_43 : decode cX12_next 43 = .ok (.goto (-35), 3) := by decide +kernel
theorem dX12_next_46 : decode cX12_next 46 = .ok (.aload_n 0, 1) := by decide +kernel
theorem dX12_next_47 : decode cX12_next 47 = .ok (.aload_n 0, 1) := by decide +kernel
theorem dX12_next_48 : decode cX12_next 48 = .ok (.getfield 196, 3) := by decide +kernel
theorem dX12_next_51 : decode cX12_next 51 = .ok (.putfield 193, 3) := by decide +kernel
theorem dX12_next_54 : decode cX12_next 54 = .ok (.aload_n 0, 1) := by decide +kernel
theorem dX12_next_55 : decode cX12_next 55 = .ok (.lconst 0, 1) := by decide +kernel
theorem dX12_next_56 : decode cX12_next 56 = .ok (.putfield 199, 3) := by decide +kernel
theorem dX12_next_59 : decode cX12_next 59 = .ok (.aload_n 0, 1) := by decide +kernel
theorem dX12_next_60 : decode cX12_next 60 = .ok (.aload_n 0, 1) := by decide +kernel
theorem dX12_next_61 : decode cX12_next 61 = .ok (.getfield 196, 3) := by decide +kernel
theorem dX12_next_64 : decode cX12_next 64 = .ok (.aload_n 0, 1) := by decide +kernel
theorem dX12_next_65 : decode cX12_next 65 = .ok (.getfield 187, 3) := by decide +kernel
theorem dX12_next_68 : decode cX12_next 68 = .ok (.if_icmp .ne 7, 3) := by decide +kernel
theorem dX12_next_71 : decode cX12_next 71 = .ok (.iconst 0, 1) := by decide +kernel
theorem dX12_next_72 : decode cX12_next 72 = .ok (.goto 42, 3) := by decide +kernel
theorem dX12_next_75 : decode cX12_next 75 = .ok (.aload_n 0, 1) := by decide +kernel
theorem dX12_next_76 : decode cX12_next 76 = .ok (.getfield 78, 3) := by decide +kernel
theorem dX12_next_79 : decode cX12_next 79 = .ok (.aload_n 0, 1) := by decide +kernel
theorem dX12_next_80 : decode cX12_next 80 = .ok (.getfield 196, 3) := by decide +kernel
theorem dX12_next_83 : decode cX12_next 83 = .ok (.iaload, 1) := by decide +kernel
theorem dX12_next_84 : decode cX12_next 84 = .ok (.invokestatic 203, 3) := by decide +kernel
theorem dX12_next_87 : decode cX12_next 87 = .ok (.ifCond .eq 7, 3) := by decide +kernel
theorem dX12_next_90 : decode cX12_next 90 = .ok (.iconst 1, 1) := by decide +kernel
theorem dX12_next_91 : decode cX12_next 91 = .ok (.goto 23, 3) := by decide +kernel
theorem dX12_next_94 : decode cX12_next 94 = .ok (.aload_n 0, 1) := by decide +kernel
theorem dX12_next_95 : decode cX12_next 95 = .ok (.getfield 78, 3) := by decide +kernel
theorem dX12_next_98 : decode cX12_next 98 = .ok (.aload_n 0, 1) := by decide +kernel
theorem dX12_next_99 : decode cX12_next 99 = .ok (.getfield 196, 3) := by decide +kernel
theorem dX12_next_102 : decode cX12_next 102 = .ok (.iaload, 1) := by decide +kernel
theorem dX12_next_103 : decode cX12_next 103 = .ok (.invokestatic 206, 3) := by decide +kernel
theorem dX12_next_106 : decode cX12_next 106 = .ok (.ifCond .eq 7, 3) := by decide +kernel
theorem dX12_next_109 : decode cX12_next 109 = .ok (.iconst 2, 1) := by decide +kernel
theorem dX12_next_110 : decode cX12_next 110 = .ok (.goto 4, 3) := by decide +kernel
theorem dX12_next_113 : decode cX12_next 113 = .ok (.iconst 3, 1) := by decide +kernel
theorem dX12_next_114 : decode cX12_next 114 = .ok (.putfield 209, 3) := by decide +kernel
theorem dX12_next_117 : decode cX12_next 117 = .ok (.aload_n 0, 1) := by decide +kernel
theorem dX12_next_118 : decode cX12_next 118 = .ok (.getfield 209, 3) := by decide +kernel
theorem dX12_next_121 : decode cX12_next 121 = .ok (.iconst 3, 1) := by decide +kernel
theorem dX12_next_122 : decode cX12_next 122 = .ok (.if_icmp .ne 27, 3) := by decide +kernel
theorem dX12_next_125 : decode cX12_next 125 = .ok (.aload_n 0, 1) := by decide +kernel
theorem dX12_next_126 : decode cX12_next 126 = .ok (.aload_n 0, 1) := by decide +kernel
theorem dX12_next_127 : decode cX12_next 127 = .ok (.getfield 78, 3) := by decide +kernel
theorem dX12_next_130 : decode cX12_next 130 = .ok (.aload_n 0, 1) := by decide +kernel
theorem dX12_next_131 : decode cX12_next 131 = .ok (.getfield 196, 3) := by decide +kernel
theorem dX12_next_134 : decode cX12_next 134 = .ok (.iaload, 1) := by decide +kernel
theorem dX12_next_135 : decode cX12_next 135 = .ok (.i2l, 1) := by decide +kernel
theorem dX12_next_136 : decode cX12_next 136 = .ok (.putfield 199, 3) := by decide +kernel
theorem dX12_next_139 : decode cX12_next 139 = .ok (.aload_n 0, 1) := by decide +kernel
theorem dX12_next_140 : decode cX12_next 140 = .ok (.dup, 1) := by decide +kernel
theorem dX12_next_141 : decode cX12_next 141 = .ok (.getfield 193, 3) := by decide +kernel
theorem dX12_next_144 : decode cX12_next 144 = .ok (.iconst 1, 1) := by decide +kernel
theorem dX12_next_145 : decode cX12_next 145 = .ok (.iadd, 1) := by decide +kernel
theorem dX12_next_146 : decode cX12_next 146 = .ok (.putfield 193, 3) := by decide +kernel
theorem dX12_next_149 : decode cX12_next 149 = .ok (.aload_n 0, 1) := by decide +kernel
theorem dX12_next_150 : decode cX12_next 150 = .ok (.getfield 209, 3) := by decide +kernel
theorem dX12_next_153 : decode cX12_next 153 = .ok (.iconst 1, 1) := by decide +kernel
theorem dX12_next_154 : decode cX12_next 154 = .ok (.if_icmp .ne 89, 3) := by decide +kernel
theorem dX12_next_157 : decode cX12_next 157 = .ok (.aload_n 0, 1) := by decide +kernel
theorem dX12_next_158 : decode cX12_next 158 = .ok (.getfield 193, 3) := by decide +kernel
theorem dX12_next_161 : decode cX12_next 161 = .ok (.aload_n 0, 1) := by decide +kernel
theorem dX12_next_162 : decode cX12_next 162 = .ok (.getfield 187, 3) := by decide +kernel
theorem dX12_next_165 : decode cX12_next 165 = .ok (.if_icmp .ge 78, 3) := by decide +kernel
theorem dX12_next_168 : decode cX12_next 168 = .ok (.aload_n 0, 1) := by decide +kernel
theorem dX12_next_169 : decode cX12_next 169 = .ok (.getfield 78, 3) := by decide +kernel
theorem dX12_next_172 : decode cX12_next 172 = .ok (.aload_n 0, 1) := by decide +kernel
theorem dX12_next_173 : decode cX12_next 173 = .ok (.getfield 193, 3) := by decide +kernel
theorem dX12_next_176 : decode cX12_next 176 = .ok (.iaload, 1) := by decide +kernel
theorem dX12_next_177 : decode cX12_next 177 = .ok (.invokestatic 203, 3) := by decide +kernel
theorem dX12_next_180 : decode cX12_next 180 = .ok (.ifCond .eq 63, 3) := by decide +kernel
theorem dX12_next_183 : decode cX12_next 183 = .ok (.aload_n 0, 1) := by decide +kernel
theorem dX12_next_184 : decode cX12_next 184 = .ok (.aload_n 0, 1) := by decide +kernel
theorem dX12_next_185 : decode cX12_next 185 = .ok (.getfield 193, 3) := by decide +kernel
theorem dX12_next_188 : decode cX12_next 188 = .ok (.aload_n 0, 1) := by decide +kernel
theorem dX12_next_189 : decode cX12_next 189 = .ok (.getfield 196, 3) := by decide +kernel
theorem dX12_next_192 : decode cX12_next 192 = .ok (.isub, 1) := by decide +kernel
theorem dX12_next_193 : decode cX12_next 193 = .ok (.bipush 8, 2) := by decide +kernel
theorem dX12_next_195 : decode cX12_next 195 = .ok (.if_icmp .ge 29, 3) := by decide +kernel
theorem dX12_next_198 : decode cX12_next 198 = .ok (.aload_n 0, 1) := by decide +kernel
theorem dX12_next_199 : decode cX12_next 199 = .ok (.getfield 199, 3) := by decide +kernel
theorem dX12_next_202 : decode cX12_next 202 = .ok (.ldc2_w 212, 3) := by decide +kernel
theorem dX12_next_205 : decode cX12_next 205 = .ok (.lmul, 1) := by decide +kernel
theorem dX12_next_206 : decode cX12_next 206 = .ok (.aload_n 0, 1) := by decide +kernel
theorem dX12_next_207 : decode cX12_next 207 = .ok (.getfield 78, 3) := by decide +kernel
theorem dX12_next_210 : decode cX12_next 210 = .ok (.aload_n 0, 1) := by decide +kernel
theorem dX12_next_211 : decode cX12_next 211 = .ok (.getfield 193, 3) := by decide +kernel
theorem dX12_next_214 : decode cX12_next 214 = .ok (.iaload, 1) := by decide +kernel
theorem dX12_next_215 : decode cX12_next 215 = .ok (.i2l, 1) := by decide +kernel
theorem dX12_next_216 : decode cX12_next 216 = .ok (.ladd, 1) := by decide +kernel
theorem dX12_next_217 : decode cX12_next 217 = .ok (.ldc2_w 214, 3) := by decide +kernel
theorem dX12_next_220 : decode cX12_next 220 = .ok (.lsub, 1) := by decide +kernel
theorem dX12_next_221 : decode cX12_next 221 = .ok (.goto 6, 3) := by decide +kernel
theorem dX12_next_224 : decode cX12_next 224 = .ok (.ldc2_w 216, 3) := by decide +kernel
theorem dX12_next_227 : decode cX12_next 227 = .ok (.putfield 199, 3) := by decide +kernel
theorem dX12_next_230 : decode cX12_next 230 = .ok (.aload_n 0, 1) := by decide +kernel
theorem dX12_next_231 : decode cX12_next 231 = .ok (.dup, 1) := by decide +kernel
theorem dX12_next_232 : decode cX12_next 232 = .ok (.getfield 193, 3) := by decide +kernel
theorem dX12_next_235 : decode cX12_next 235 = .ok (.iconst 1, 1) := by decide +kernel
theorem dX12_next_236 : decode cX12_next 236 = .ok (.iadd, 1) := by decide +kernel
theorem dX12_next_237 : decode cX12_next 237 = .ok (.putfield 193, 3) := by decide +kernel
theorem dX12_next_240 : decode cX12_next 240 = .ok (.goto (-91), 3) := by decide +kernel
theorem dX12_next_243 : decode cX12_next 243 = .ok (.aload_n 0, 1) := by decide +kernel
theorem dX12_next_244 : decode cX12_next 244 = .ok (.getfield 209, 3) := by decide +kernel
theorem dX12_next_247 : decode cX12_next 247 = .ok (.iconst 2, 1) := by decide +kernel
theorem dX12_next_248 : decode cX12_next 248 = .ok (.if_icmp .ne 87, 3) := by decide +kernel
theorem dX12_next_251 : decode cX12_next 251 = .ok (.aload_n 0, 1) := by decide +kernel
theorem dX12_next_252 : decode cX12_next 252 = .ok (.getfield 193, 3) := by decide +kernel
theorem dX12_next_255 : decode cX12_next 255 = .ok (.aload_n 0, 1) := by decide +kernel
theorem dX12_next_256 : decode cX12_next 256 = .ok (.getfield 187, 3) := by decide +kernel
theorem dX12_next_259 : decode cX12_next 259 = .ok (.if_icmp .ge 76, 3) := by decide +kernel
theorem dX12_next_262 : decode cX12_next 262 = .ok (.aload_n 0, 1) := by decide +kernel
theorem dX12_next_263 : decode cX12_next 263 = .ok (.getfield 78, 3) := by decide +kernel
theorem dX12_next_266 : decode cX12_next 266 = .ok (.aload_n 0, 1) := by decide +kernel
theorem dX12_next_267 : decode cX12_next 267 = .ok (.getfield 193, 3) := by decide +kernel
theorem dX12_next_270 : decode cX12_next 270 = .ok (.iaload, 1) := by decide +kernel
theorem dX12_next_271 : decode cX12_next 271 = .ok (.invokestatic 206, 3) := by decide +kernel
theorem dX12_next_274 : decode cX12_next 274 = .ok (.ifCond .eq 61, 3) := by decide +kernel
theorem dX12_next_277 : decode cX12_next 277 = .ok (.aload_n 0, 1) := by decide +kernel
theorem dX12_next_278 : decode cX12_next 278 = .ok (.aload_n 0, 1) := by decide +kernel
theorem dX12_next_279 : decode cX12_next 279 = .ok (.getfield 199, 3) := by decide +kernel
theorem dX12_next_282 : decode cX12_next 282 = .ok (.ldc2_w 176, 3) := by decide +kernel
theorem dX12_next_285 : decode cX12_next 285 = .ok (.lcmp, 1) := by decide +kernel
theorem dX12_next_286 : decode cX12_next 286 = .ok (.ifCond .le 10, 3) := by decide +kernel
theorem dX12_next_289 : decode cX12_next 289 = .ok (.aload_n 0, 1) := by decide +kernel
theorem dX12_next_290 : decode cX12_next 290 = .ok (.getfield 199, 3) := by decide +kernel
theorem dX12_next_293 : decode cX12_next 293 = .ok (.goto 26, 3) := by decide +kernel
theorem dX12_next_296 : decode cX12_next 296 = .ok (.aload_n 0, 1) := by decide +kernel
theorem dX12_next_297 : decode cX12_next 297 = .ok (.getfield 199, 3) := by decide +kernel
theorem dX12_next_300 : decode cX12_next 300 = .ok (.ldc2_w 122, 3) := by decide +kernel
theorem dX12_next_303 : decode cX12_next 303 = .ok (.lmul, 1) := by decide +kernel
theorem dX12_next_304 : decode cX12_next 304 = .ok (.aload_n 0, 1) := by decide +kernel
theorem dX12_next_305 : decode cX12_next 305 = .ok (.getfield 78, 3) := by decide +kernel
theorem dX12_next_308 : decode cX12_next 308 = .ok (.aload_n 0, 1) := by decide +kernel
theorem dX12_next_309 : decode cX12_next 309 = .ok (.getfield 193, 3) := by decide +kernel
theorem dX12_next_312 : decode cX12_next 312 = .ok (.iaload, 1) := by decide +kernel
theorem dX12_next_313 : decode cX12_next 313 = .ok (.i2l, 1) := by decide +kernel
theorem dX12_next_314 : decode cX12_next 314 = .ok (.ladd, 1) := by decide +kernel
theorem dX12_next_315 : decode cX12_next 315 = .ok (.ldc2_w 218, 3) := by decide +kernel
theorem dX12_next_318 : decode cX12_next 318 = .ok (.lsub, 1) := by decide +kernel
theorem dX12_next_319 : decode cX12_next 319 = .ok (.putfield 199, 3) := by decide +kernel
theorem dX12_next_322 : decode cX12_next 322 = .ok (.aload_n 0, 1) := by decide +kernel
theorem dX12_next_323 : decode cX12_next 323 = .ok (.dup, 1) := by decide +kernel
theorem dX12_next_324 : decode cX12_next 324 = .ok (.getfield 193, 3) := by decide +kernel
theorem dX12_next_327 : decode cX12_next 327 = .ok (.iconst 1, 1) := by decide +kernel
theorem dX12_next_328 : decode cX12_next 328 = .ok (.iadd, 1) := by decide +kernel
theorem dX12_next_329 : decode cX12_next 329 = .ok (.putfield 193, 3) := by decide +kernel
theorem dX12_next_332 : decode cX12_next 332 = .ok (.goto (-89), 3) := by decide +kernel
theorem dX12_next_335 : decode cX12_next 335 = .ok (.return_, 1) := by decide +kernel
end
section
theorem dX12_isWord_0 : decode cX12_isWord 0 = .ok (.iload_n 1, 1) := by decide +kernel
theorem dX12_isWord_1 : decode cX12_isWord 1 = .ok (.i2l, 1) := by decide +kernel
theorem dX12_isWord_2 : decode cX12_isWord 2 = .ok (.ldc2_w 214, 3) := by decide +kernel
theorem dX12_isWord_5 : decode cX12_isWord 5 = .ok (.lsub, 1) := by decide +kernel
theorem dX12_isWord_6 : decode cX12_isWord 6 = .ok (.ldc2_w 212, 3) := by decide +kernel
theorem dX12_isWord_9 : decode cX12_isWord 9 = .ok (.lmul, 1) := by decide +kernel
theorem dX12_isWord_10 : decode cX12_isWord 10 = .ok (.iload_n 2, 1) := by decide +kernel
theorem dX12_isWord_11 : decode cX12_isWord 11 = .ok (.i2l, 1) := by decide +kernel
theorem dX12_isWord_12 : decode cX12_isWord 12 = .ok (.ladd, 1) := by decide +kernel
theorem dX12_isWord_13 : decode cX12_isWord 13 = .ok (.ldc2_w 214, 3) := by decide +kernel
theorem dX12_isWord_16 : decode cX12_isWord 16 = .ok (.lsub, 1) := by decide +kernel
theorem dX12_isWord_17 : decode cX12_isWord 17 = .ok (.lstore 8, 2) := by decide +kernel
theorem dX12_isWord_19 : decode cX12_isWord 19 = .ok (.iload_n 3, 1) := by decide +kernel
theorem dX12_isWord_20 : decode cX12_isWord 20 = .ok (.ifCond .ne 8, 3) := by decide +kernel
theorem dX12_isWord_23 : decode cX12_isWord 23 = .ok (.lload 8, 2) := by decide +kernel
theorem dX12_isWord_25 : decode cX12_isWord 25 = .ok (.goto 16, 3) := by decide +kernel
theorem dX12_isWord_28 : decode cX12_isWord 28 = .ok (.lload 8, 2) := by decide +kernel
theorem dX12_isWord_30 : decode cX12_isWord 30 = .ok (.ldc2_w 212, 3) := by decide +kernel
theorem dX12_isWord_33 : decode cX12_isWord 33 = .ok (.lmul, 1) := by decide +kernel
theorem dX12_isWord_34 : decode cX12_isWord 34 = .ok (.iload_n 3, 1) := by decide +kernel
theorem dX12_isWord_35 : decode cX12_isWord 35 = .ok (.i2l, 1) := by decide +kernel
theorem dX12_isWord_36 : decode cX12_isWord 36 = .ok (.ladd, 1) := by decide +kernel
theorem dX12_isWord_37 : decode cX12_isWord 37 = .ok (.ldc2_w 214, 3) := by decide +kernel
theorem dX12_isWord_40 : decode cX12_isWord 40 = .ok (.lsub, 1) := by decide +kernel
theorem dX12_isWord_41 : decode cX12_isWord 41 = .ok (.lstore 8, 2) := by decide +kernel
theorem dX12_isWord_43 : decode cX12_isWord 43 = .ok (.iload 4, 2) := by decide +kernel
theorem dX12_isWord_45 : decode cX12_isWord 45 = .ok (.ifCond .ne 8, 3) := by decide +kernel
theorem dX12_isWord_48 : decode cX12_isWord 48 = .ok (.lload 8, 2) := by decide +kernel
theorem dX12_isWord_50 : decode cX12_isWord 50 = .ok (.goto 17, 3) := by decide +kernel
theorem dX12_isWord_53 : decode cX12_isWord 53 = .ok (.lload 8, 2) := by decide +kernel
theorem dX12_isWord_55 : decode cX12_isWord 55 = .ok (.ldc2_w 212, 3) := by decide +kernel
theorem dX12_isWord_58 : decode cX12_isWord 58 = .ok (.lmul, 1) := by decide +kernel
theorem dX12_isWord_59 : decode cX12_isWord 59 = .ok (.iload 4, 2) := by decide +kernel
theorem dX12_isWord_61 : decode cX12_isWord 61 = .ok (.i2l, 1) := by decide +kernel
theorem dX12_isWord_62 : decode cX12_isWord 62 = .ok (.ladd, 1) := by decide +kernel
theorem dX12_isWord_63 : decode cX12_isWord 63 = .ok (.ldc2_w 214, 3) := by decide +kernel
theorem dX12_isWord_66 : decode cX12_isWord 66 = .ok (.lsub, 1) := by decide +kernel
theorem dX12_isWord_67 : decode cX12_isWord 67 = .ok (.lstore 8, 2) := by decide +kernel
theorem dX12_isWord_69 : decode cX12_isWord 69 = .ok (.iload 5, 2) := by decide +kernel
theorem dX12_isWord_71 : decode cX12_isWord 71 = .ok (.ifCond .ne 8, 3) := by decide +kernel
theorem dX12_isWord_74 : decode cX12_isWord 74 = .ok (.lload 8, 2) := by decide +kernel
theorem dX12_isWord_76 : decode cX12_isWord 76 = .ok (.goto 17, 3) := by decide +kernel
theorem dX12_isWord_79 : decode cX12_isWord 79 = .ok (.lload 8, 2) := by decide +kernel
theorem dX12_isWord_81 : decode cX12_isWord 81 = .ok (.ldc2_w 212, 3) := by decide +kernel
theorem dX12_isWord_84 : decode cX12_isWord 84 = .ok (.lmul, 1) := by decide +kernel
theorem dX12_isWord_85 : decode cX12_isWord 85 = .ok (.iload 5, 2) := by decide +kernel
theorem dX12_isWord_87 : decode cX12_isWord 87 = .ok (.i2l, 1) := by decide +kernel
theorem dX12_isWord_88 : decode cX12_isWord 88 = .ok (.ladd, 1) := by decide +kernel
theorem dX12_isWord_89 : decode cX12_isWord 89 = .ok (.ldc2_w 214, 3) := by decide +kernel
theorem dX12_isWord_92 : decode cX12_isWord 92 = .ok (.lsub, 1) := by decide +kernel
theorem dX12_isWord_93 : decode cX12_isWord 93 = .ok (.lstore 8, 2) := by decide +kernel
theorem dX12_isWord_95 : decode cX12_isWord 95 = .ok (.iload 6, 2) := by decide +kernel
theorem dX12_isWord_97 : decode cX12_isWord 97 = .ok (.ifCond .ne 8, 3) := by decide +kernel
theorem dX12_isWord_100 : decode cX12_isWord 100 = .ok (.lload 8, 2) := by decide +kernel
theorem dX12_isWord_102 : decode cX12_isWord 102 = .ok (.goto 17, 3) := by decide +kernel
theorem dX12_isWord_105 : decode cX12_isWord 105 = .ok (.lload 8, 2) := by decide +kernel
theorem dX12_isWord_107 : decode cX12_isWord 107 = .ok (.ldc2_w 212, 3) := by decide +kernel
theorem dX12_isWord_110 : decode cX12_isWord 110 = .ok (.lmul, 1) := by decide +kernel
theorem dX12_isWord_111 : decode cX12_isWord 111 = .ok (.iload 6, 2) := by decide +kernel
theorem dX12_isWord_113 : decode cX12_isWord 113 = .ok (.i2l, 1) := by decide +kernel
theorem dX12_isWord_114 : decode cX12_isWord 114 = .ok (.ladd, 1) := by decide +kernel
theorem dX12_isWord_115 : decode cX12_isWord 115 = .ok (.ldc2_w 214, 3) := by decide +kernel
theorem dX12_isWord_118 : decode cX12_isWord 118 = .ok (.lsub, 1) := by decide +kernel
theorem dX12_isWord_119 : decode cX12_isWord 119 = .ok (.lstore 8, 2) := by decide +kernel
theorem dX12_isWord_121 : decode cX12_isWord 121 = .ok (.iload 7, 2) := by decide +kernel
theorem dX12_isWord_123 : decode cX12_isWord 123 = .ok (.ifCond .ne 8, 3) := by decide +kernel
theorem dX12_isWord_126 : decode cX12_isWord 126 = .ok (.lload 8, 2) := by decide +kernel
theorem dX12_isWord_128 : decode cX12_isWord 128 = .ok (.goto 17, 3) := by decide +kernel
theorem dX12_isWord_131 : decode cX12_isWord 131 = .ok (.lload 8, 2) := by decide +kernel
theorem dX12_isWord_133 : decode cX12_isWord 133 = .ok (.ldc2_w 212, 3) := by decide +kernel
theorem dX12_isWord_136 : decode cX12_isWord 136 = .ok (.lmul, 1) := by decide +kernel
theorem dX12_isWord_137 : decode cX12_isWord 137 = .ok (.iload 7, 2) := by decide +kernel
theorem dX12_isWord_139 : decode cX12_isWord 139 = .ok (.i2l, 1) := by decide +kernel
theorem dX12_isWord_140 : decode cX12_isWord 140 = .ok (.ladd, 1) := by decide +kernel
theorem dX12_isWord_141 : decode cX12_isWord 141 = .ok (.ldc2_w 214, 3) := by decide +kernel
theorem dX12_isWord_144 : decode cX12_isWord 144 = .ok (.lsub, 1) := by decide +kernel
theorem dX12_isWord_145 : decode cX12_isWord 145 = .ok (.lstore 8, 2) := by decide +kernel
theorem dX12_isWord_147 : decode cX12_isWord 147 = .ok (.aload_n 0, 1) := by decide +kernel
theorem dX12_isWord_148 : decode cX12_isWord 148 = .ok (.getfield 209, 3) := by decide +kernel
theorem dX12_isWord_151 : decode cX12_isWord 151 = .ok (.iconst 1, 1) := by decide +kernel
theorem dX12_isWord_152 : decode cX12_isWord 152 = .ok (.if_icmp .ne 17, 3) := by decide +kernel
theorem dX12_isWord_155 : decode cX12_isWord 155 = .ok (.aload_n 0, 1) := by decide +kernel
theorem dX12_isWord_156 : decode cX12_isWord 156 = .ok (.getfield 199, 3) := by decide +kernel
theorem dX12_isWord_159 : decode cX12_isWord 159 = .ok (.lload 8, 2) := by decide +kernel
theorem dX12_isWord_161 : decode cX12_isWord 161 = .ok (.lcmp, 1) := by decide +kernel
theorem dX12_isWord_162 : decode cX12_isWord 162 = .ok (.ifCond .ne 7, 3) := by decide +kernel
theorem dX12_isWord_165 : decode cX12_isWord 165 = .ok (.iconst 1, 1) := by decide +kernel
theorem dX12_isWord_166 : decode cX12_isWord 166 = .ok (.goto 4, 3) := by decide +kernel
theorem dX12_isWord_169 : decode cX12_isWord 169 = .ok (.iconst 0, 1) := by decide +kernel
theorem dX12_isWord_170 : decode cX12_isWord 170 = .ok (.ireturn, 1) := by decide +kernel
theorem dX12_must_0 : decode cX12_must 0 = .ok (.aload_n 0, 1) := by decide +kernel
theorem dX12_must_1 : decode cX12_must 1 = .ok (.getfield 220, 3) := by decide +kernel
theorem dX12_must_4 : decode cX12_must 4 = .ok (.ifCond .ne 20, 3) := by decide +kernel
theorem dX12_must_7 : decode cX12_must 7 = .ok (.iload_n 1, 1) := by decide +kernel
theorem dX12_must_8 : decode cX12_must 8 = .ok (.ifCond .ne 16, 3) := by decide +kernel
theorem dX12_must_11 : decode cX12_must 11 = .ok (.aload_n 0, 1) := by decide +kernel
theorem dX12_must_12 : decode cX12_must 12 = .ok (.iconst 1, 1) := by decide +kernel
theorem dX12_must_13 : decode cX12_must 13 = .ok (.putfield 220, 3) := by decide +kernel
theorem dX12_must_16 : decode cX12_must 16 = .ok (.aload_n 0, 1) := by decide +kernel
theorem dX12_must_17 : decode cX12_must 17 = .ok (.aload_n 0, 1) := by decide +kernel
theorem dX12_must_18 : decode cX12_must 18 = .ok (.getfield 196, 3) := by decide +kernel
theorem dX12_must_21 : decode cX12_must 21 = .ok (.putfield 81, 3) := by decide +kernel
theorem dX12_must_24 : decode cX12_must 24 = .ok (.aload_n 0, 1) := by decide +kernel
theorem dX12_must_25 : decode cX12_must 25 = .ok (.getfield 220, 3) := by decide +kernel
theorem dX12_must_28 : decode cX12_must 28 = .ok (.ifCond .ne 7, 3) := by decide +kernel
theorem dX12_must_31 : decode cX12_must 31 = .ok (.aload_n 0, 1) := by decide +kernel
theorem dX12_must_32 : decode cX12_must 32 = .ok (.invokevirtual 224, 3) := by decide +kernel
theorem dX12_must_35 : decode cX12_must 35 = .ok (.return_, 1) := by decide +kernel
theorem dX12_number_0 : decode cX12_number 0 = .ok (.aload_n 0, 1) := by decide +kernel
theorem dX12_number_1 : decode cX12_number 1 = .ok (.getfield 199, 3) := by decide +kernel
theorem dX12_number_4 : decode cX12_number 4 = .ok (.l2i, 1) := by decide +kernel
theorem dX12_number_5 : decode cX12_number 5 = .ok (.istore_n 3, 1) := by decide +kernel
theorem dX12_number_6 : decode cX12_number 6 = .ok (.aload_n 0, 1) := by decide +kernel
theorem dX12_number_7 : decode cX12_number 7 = .ok (.aload_n 0, 1) := by decide +kernel
theorem dX12_number_8 : decode cX12_number 8 = .ok (.getfield 209, 3) := by decide +kernel
theorem dX12_number_11 : decode cX12_number 11 = .ok (.iconst 2, 1) := by decide +kernel
theorem dX12_number_12 : decode cX12_number 12 = .ok (.if_icmp .ne 21, 3) := by decide +kernel
theorem dX12_number_15 : decode cX12_number 15 = .ok (.aload_n 0, 1) := by decide +kernel
theorem dX12_number_16 : decode cX12_number 16 = .ok (.getfield 199, 3) := by decide +kernel
theorem dX12_number_19 : decode cX12_number 19 = .ok (.lload_n 1, 1) := by decide +kernel
theorem dX12_number_20 : decode cX12_number 20 = .ok (.ldc2_w 176, 3) := by decide +kernel
theorem dX12_number_23 : decode cX12_number 23 = .ok (.invokestatic 102, 3) := by decide +kernel
theorem dX12_number_26 : decode cX12_number 26 = .ok (.ifCond .eq 7, 3) := by decide +kernel
theorem dX12_number_29 : decode cX12_number 29 = .ok (.iconst 1, 1) := by decide +kernel
theorem dX12_number_30 : decode cX12_number 30 = .ok (.goto 4, 3) := by decide +kernel
theorem dX12_number_33 : decode cX12_number 33 = .ok (.iconst 0, 1) := by decide +kernel
theorem dX12_number_34 : decode cX12_number 34 = .ok (.invokevirtual 227, 3) := by decide +kernel
theorem dX12_number_37 : decode cX12_number 37 = .ok (.iload_n 3, 1) := by decide +kernel
theorem dX12_number_38 : decode cX12_number 38 = .ok (.ireturn, 1) := by decide +kernel
theorem dX12_sortAt_0 : decode cX12_sortAt 0 = .ok (.aload_n 0, 1) := by decide +kernel
theorem dX12_sortAt_1 : decode cX12_sortAt 1 = .ok (.bipush 116, 2) := by decide +kernel
theorem dX12_sortAt_3 : decode cX12_sortAt 3 = .ok (.bipush 105, 2) := by decide +kernel
theorem dX12_sortAt_5 : decode cX12_sortAt 5 = .ok (.bipush 110, 2) := by decide +kernel
theorem dX12_sortAt_7 : decode cX12_sortAt 7 = .ok (.iconst 0, 1) := by decide +kernel
theorem dX12_sortAt_8 : decode cX12_sortAt 8 = .ok (.iconst 0, 1) := by decide +kernel
theorem dX12_sortAt_9 : decode cX12_sortAt 9 = .ok (.iconst 0, 1) := by decide +kernel
theorem dX12_sortAt_10 : decode cX12_sortAt 10 = .ok (.iconst 0, 1) := by decide +kernel
theorem dX12_sortAt_11 : decode cX12_sortAt 11 = .ok (.invokevirtual 231, 3) := by decide +kernel
theorem dX12_sortAt_14 : decode cX12_sortAt 14 = .ok (.ifCond .ne 21, 3) := by decide +kernel
theorem dX12_sortAt_17 : decode cX12_sortAt 17 = .ok (.aload_n 0, 1) := by decide +kernel
theorem dX12_sortAt_18 : decode cX12_sortAt 18 = .ok (.bipush 108, 2) := by decide +kernel
theorem dX12_sortAt_20 : decode cX12_sortAt 20 = .ok (.bipush 101, 2) := by decide +kernel
theorem dX12_sortAt_22 : decode cX12_sortAt 22 = .ok (.bipush 97, 2) := by decide +kernel
theorem dX12_sortAt_24 : decode cX12_sortAt 24 = .ok (.bipush 100, 2) := by decide +kernel
theorem dX12_sortAt_26 : decode cX12_sortAt 26 = .ok (.iconst 0, 1) := by decide +kernel
theorem dX12_sortAt_27 : decode cX12_sortAt 27 = .ok (.iconst 0, 1) := by decide +kernel
theorem dX12_sortAt_28 : decode cX12_sortAt 28 = .ok (.iconst 0, 1) := by decide +kernel
theorem dX12_sortAt_29 : decode cX12_sortAt 29 = .ok (.invokevirtual 231, 3) := by decide +kernel
theorem dX12_sortAt_32 : decode cX12_sortAt 32 = .ok (.ifCond .eq 26, 3) := by decide +kernel
theorem dX12_sortAt_35 : decode cX12_sortAt 35 = .ok (.aload_n 0, 1) := by decide +kernel
theorem dX12_sortAt_36 : decode cX12_sortAt 36 = .ok (.bipush 116, 2) := by decide +kernel
theorem dX12_sortAt_38 : decode cX12_sortAt 38 = .ok (.bipush 105, 2) := by decide +kernel
theorem dX12_sortAt_40 : decode cX12_sortAt 40 = .ok (.bipush 110, 2) := by decide +kernel
theorem dX12_sortAt_42 : decode cX12_sortAt 42 = .ok (.iconst 0, 1) := by decide +kernel
theorem dX12_sortAt_43 : decode cX12_sortAt 43 = .ok (.iconst 0, 1) := by decide +kernel
theorem dX12_sortAt_44 : decode cX12_sortAt 44 = .ok (.iconst 0, 1) := by decide +kernel
theorem dX12_sortAt_45 : decode cX12_sortAt 45 = .ok (.iconst 0, 1) := by decide +kernel
theorem dX12_sortAt_46 : decode cX12_sortAt 46 = .ok (.invokevirtual 231, 3) := by decide +kernel
theorem dX12_sortAt_49 : decode cX12_sortAt 49 = .ok (.ifCond .eq 7, 3) := by decide +kernel
theorem dX12_sortAt_52 : decode cX12_sortAt 52 = .ok (.iconst 0, 1) := by decide +kernel
theorem dX12_sortAt_53 : decode cX12_sortAt 53 = .ok (.goto 4, 3) := by decide +kernel
theorem dX12_sortAt_56 : decode cX12_sortAt 56 = .ok (.iconst 1, 1) := by decide +kernel
theorem dX12_sortAt_57 : decode cX12_sortAt 57 = .ok (.ireturn, 1) := by decide +kernel
theorem dX12_sortAt_58 : decode cX12_sortAt 58 = .ok (.aload_n 0, 1) := by decide +kernel
theorem dX12_sortAt_59 : decode cX12_sortAt 59 = .ok (.bipush 99, 2) := by decide +kernel
theorem dX12_sortAt_61 : decode cX12_sortAt 61 = .ok (.bipush 111, 2) := by decide +kernel
theorem dX12_sortAt_63 : decode cX12_sortAt 63 = .ok (.bipush 112, 2) := by decide +kernel
theorem dX12_sortAt_65 : decode cX12_sortAt 65 = .ok (.bipush 112, 2) := by decide +kernel
theorem dX12_sortAt_67 : decode cX12_sortAt 67 = .ok (.bipush 101, 2) := by decide +kernel
theorem dX12_sortAt_69 : decode cX12_sortAt 69 = .ok (.bipush 114, 2) := by decide +kernel
theorem dX12_sortAt_71 : decode cX12_sortAt 71 = .ok (.iconst 0, 1) := by decide +kernel
theorem dX12_sortAt_72 : decode cX12_sortAt 72 = .ok (.invokevirtual 231, 3) := by decide +kernel
theorem dX12_sortAt_75 : decode cX12_sortAt 75 = .ok (.ifCond .ne 21, 3) := by decide +kernel
theorem dX12_sortAt_78 : decode cX12_sortAt 78 = .ok (.aload_n 0, 1) := by decide +kernel
theorem dX12_sortAt_79 : decode cX12_sortAt 79 = .ok (.bipush 119, 2) := by decide +kernel
theorem dX12_sortAt_81 : decode cX12_sortAt 81 = .ok (.bipush 97, 2) := by decide +kernel
theorem dX12_sortAt_83 : decode cX12_sortAt 83 = .ok (.bipush 108, 2) := by decide +kernel
theorem dX12_sortAt_85 : decode cX12_sortAt 85 = .ok (.bipush 108, 2) := by decide +kernel
theorem dX12_sortAt_87 : decode cX12_sortAt 87 = .ok (.iconst 0, 1) := by decide +kernel
theorem dX12_sortAt_88 : decode cX12_sortAt 88 = .ok (.iconst 0, 1) := by decide +kernel
theorem dX12_sortAt_89 : decode cX12_sortAt 89 = .ok (.iconst 0, 1) := by decide +kernel
theorem dX12_sortAt_90 : decode cX12_sortAt 90 = .ok (.invokevirtual 231, 3) := by decide +kernel
theorem dX12_sortAt_93 : decode cX12_sortAt 93 = .ok (.ifCond .eq 27, 3) := by decide +kernel
theorem dX12_sortAt_96 : decode cX12_sortAt 96 = .ok (.aload_n 0, 1) := by decide +kernel
theorem dX12_sortAt_97 : decode cX12_sortAt 97 = .ok (.bipush 119, 2) := by decide +kernel
theorem dX12_sortAt_99 : decode cX12_sortAt 99 = .ok (.bipush 97, 2) := by decide +kernel
theorem dX12_sortAt_101 : decode cX12_sortAt 101 = .ok (.bipush 108, 2) := by decide +kernel
theorem dX12_sortAt_103 : decode cX12_sortAt 103 = .ok (.bipush 108, 2) := by decide +kernel
theorem dX12_sortAt_105 : decode cX12_sortAt 105 = .ok (.iconst 0, 1) := by decide +kernel
theorem dX12_sortAt_106 : decode cX12_sortAt 106 = .ok (.iconst 0, 1) := by decide +kernel
theorem dX12_sortAt_107 : decode cX12_sortAt 107 = .ok (.iconst 0, 1) := by decide +kernel
theorem dX12_sortAt_108 : decode cX12_sortAt 108 = .ok (.invokevirtual 231, 3) := by decide +kernel
theorem dX12_sortAt_111 : decode cX12_sortAt 111 = .ok (.ifCond .eq 7, 3) := by decide +kernel
theorem dX12_sortAt_114 : decode cX12_sortAt 114 = .ok (.iconst 3, 1) := by decide +kernel
theorem dX12_sortAt_115 : decode cX12_sortAt 115 = .ok (.goto 4, 3) := by decide +kernel
theorem dX12_sortAt_118 : decode cX12_sortAt 118 = .ok (.iconst 2, 1) := by decide +kernel
theorem dX12_sortAt_119 : decode cX12_sortAt 119 = .ok (.ireturn, 1) := by decide +kernel
theorem dX12_sortAt_120 : decode cX12_sortAt 120 = .ok (.aload_n 0, 1) := by decide +kernel
theorem dX12_sortAt_121 : decode cX12_sortAt 121 = .ok (.bipush 97, 2) := by decide +kernel
theorem dX12_sortAt_123 : decode cX12_sortAt 123 = .ok (.bipush 105, 2) := by decide +kernel
theorem dX12_sortAt_125 : decode cX12_sortAt 125 = .ok (.bipush 114, 2) := by decide +kernel
theorem dX12_sortAt_127 : decode cX12_sortAt 127 = .ok (.iconst 0, 1) := by decide +kernel
theorem dX12_sortAt_128 : decode cX12_sortAt 128 = .ok (.iconst 0, 1) := by decide +kernel
theorem dX12_sortAt_129 : decode cX12_sortAt 129 = .ok (.iconst 0, 1) := by decide +kernel
theorem dX12_sortAt_130 : decode cX12_sortAt 130 = .ok (.iconst 0, 1) := by decide +kernel
theorem dX12_sortAt_131 : decode cX12_sortAt 131 = .ok (.invokevirtual 231, 3) := by decide +kernel
theorem dX12_sortAt_134 : decode cX12_sortAt 134 = .ok (.ifCond .ne 20, 3) := by decide +kernel
theorem dX12_sortAt_137 : decode cX12_sortAt 137 = .ok (.aload_n 0, 1) := by decide +kernel
theorem dX12_sortAt_138 : decode cX12_sortAt 138 = .ok (.bipush 100, 2) := by decide +kernel
theorem dX12_sortAt_140 : decode cX12_sortAt 140 = .ok (.bipush 114, 2) := by decide +kernel
theorem dX12_sortAt_142 : decode cX12_sortAt 142 = .ok (.bipush 121, 2) := by decide +kernel
theorem dX12_sortAt_144 : decode cX12_sortAt 144 = .ok (.iconst 0, 1) := by decide +kernel
theorem dX12_sortAt_145 : decode cX12_sortAt 145 = .ok (.iconst 0, 1) := by decide +kernel
theorem dX12_sortAt_146 : decode cX12_sortAt 146 = .ok (.iconst 0, 1) := by decide +kernel
theorem dX12_sortAt_147 : decode cX12_sortAt 147 = .ok (.iconst 0, 1) := by decide +kernel
theorem dX12_sortAt_148 : decode cX12_sortAt 148 = .ok (.invokevirtual 231, 3) := by decide +kernel
theorem dX12_sortAt_151 : decode cX12_sortAt 151 = .ok (.ifCond .eq 26, 3) := by decide +kernel
theorem dX12_sortAt_154 : decode cX12_sortAt 154 = .ok (.aload_n 0, 1) := by decide +kernel
theorem dX12_sortAt_155 : decode cX12_sortAt 155 = .ok (.bipush 97, 2) := by decide +kernel
theorem dX12_sortAt_157 : decode cX12_sortAt 157 = .ok (.bipush 105, 2) := by decide +kernel
theorem dX12_sortAt_159 : decode cX12_sortAt 159 = .ok (.bipush 114, 2) := by decide +kernel
theorem dX12_sortAt_161 : decode cX12_sortAt 161 = .ok (.iconst 0, 1) := by decide +kernel
theorem dX12_sortAt_162 : decode cX12_sortAt 162 = .ok (.iconst 0, 1) := by decide +kernel
theorem dX12_sortAt_163 : decode cX12_sortAt 163 = .ok (.iconst 0, 1) := by decide +kernel
theorem dX12_sortAt_164 : decode cX12_sortAt 164 = .ok (.iconst 0, 1) := by decide +kernel
theorem dX12_sortAt_165 : decode cX12_sortAt 165 = .ok (.invokevirtual 231, 3) := by decide +kernel
theorem dX12_sortAt_168 : decode cX12_sortAt 168 = .ok (.ifCond .eq 7, 3) := by decide +kernel
theorem dX12_sortAt_171 : decode cX12_sortAt 171 = .ok (.iconst 4, 1) := by decide +kernel
theorem dX12_sortAt_172 : decode cX12_sortAt 172 = .ok (.goto 4, 3) := by decide +kernel
theorem dX12_sortAt_175 : decode cX12_sortAt 175 = .ok (.iconst 5, 1) := by decide +kernel
theorem dX12_sortAt_176 : decode cX12_sortAt 176 = .ok (.ireturn, 1) := by decide +kernel
theorem dX12_sortAt_177 : decode cX12_sortAt 177 = .ok (.aload_n 0, 1) := by decide +kernel
theorem dX12_sortAt_178 : decode cX12_sortAt 178 = .ok (.bipush 115, 2) := by decide +kernel
theorem dX12_sortAt_180 : decode cX12_sortAt 180 = .ok (.bipush 116, 2) := by decide +kernel
theorem dX12_sortAt_182 : decode cX12_sortAt 182 = .ok (.bipush 117, 2) := by decide +kernel
theorem dX12_sortAt_184 : decode cX12_sortAt 184 = .ok (.bipush 99, 2) := by decide +kernel
theorem dX12_sortAt_186 : decode cX12_sortAt 186 = .ok (.bipush 107, 2) := by decide +kernel
theorem dX12_sortAt_188 : decode cX12_sortAt 188 = .ok (.iconst 0, 1) := by decide +kernel
theorem dX12_sortAt_189 : decode cX12_sortAt 189 = .ok (.iconst 0, 1) := by decide +kernel
theorem dX12_sortAt_190 : decode cX12_sortAt 190 = .ok (.invokevirtual 231, 3) := by decide +kernel
theorem dX12_sortAt_193 : decode cX12_sortAt 193 = .ok (.ifCond .ne 23, 3) := by decide +kernel
theorem dX12_sortAt_196 : decode cX12_sortAt 196 = .ok (.aload_n 0, 1) := by decide +kernel
theorem dX12_sortAt_197 : decode cX12_sortAt 197 = .ok (.bipush 112, 2) := by decide +kernel
theorem dX12_sortAt_199 : decode cX12_sortAt 199 = .ok (.bipush 105, 2) := by decide +kernel
theorem dX12_sortAt_201 : decode cX12_sortAt 201 = .ok (.bipush 101, 2) := by decide +kernel
theorem dX12_sortAt_203 : decode cX12_sortAt 203 = .ok (.bipush 99, 2) := by decide +kernel
theorem dX12_sortAt_205 : decode cX12_sortAt 205 = .ok (.bipush 101, 2) := by decide +kernel
theorem dX12_sortAt_207 : decode cX12_sortAt 207 = .ok (.bipush 115, 2) := by decide +kernel
theorem dX12_sortAt_209 : decode cX12_sortAt 209 = .ok (.iconst 0, 1) := by decide +kernel
theorem dX12_sortAt_210 : decode cX12_sortAt 210 = .ok (.invokevirtual 231, 3) := by decide +kernel
theorem dX12_sortAt_213 : decode cX12_sortAt 213 = .ok (.ifCond .eq 30, 3) := by decide +kernel
theorem dX12_sortAt_216 : decode cX12_sortAt 216 = .ok (.aload_n 0, 1) := by decide +kernel
theorem dX12_sortAt_217 : decode cX12_sortAt 217 = .ok (.bipush 115, 2) := by decide +kernel
theorem dX12_sortAt_219 : decode cX12_sortAt 219 = .ok (.bipush 116, 2) := by decide +kernel
theorem dX12_sortAt_221 : decode cX12_sortAt 221 = .ok (.bipush 117, 2) := by decide +kernel
theorem dX12_sortAt_223 : decode cX12_sortAt 223 = .ok (.bipush 99, 2) := by decide +kernel
theorem dX12_sortAt_225 : decode cX12_sortAt 225 = .ok (.bipush 107, 2) := by decide +kernel
theorem dX12_sortAt_227 : decode cX12_sortAt 227 = .ok (.iconst 0, 1) := by decide +kernel
theorem dX12_sortAt_228 : decode cX12_sortAt 228 = .ok (.iconst 0, 1) := by decide +kernel
theorem dX12_sortAt_229 : decode cX12_sortAt 229 = .ok (.invokevirtual 231, 3) := by decide +kernel
theorem dX12_sortAt_232 : decode cX12_sortAt 232 = .ok (.ifCond .eq 8, 3) := by decide +kernel
theorem dX12_sortAt_235 : decode cX12_sortAt 235 = .ok (.bipush 6, 2) := by decide +kernel
theorem dX12_sortAt_237 : decode cX12_sortAt 237 = .ok (.goto 5, 3) := by decide +kernel
theorem dX12_sortAt_240 : decode cX12_sortAt 240 = .ok (.bipush 7, 2) := by decide +kernel
theorem dX12_sortAt_242 : decode cX12_sortAt 242 = .ok (.ireturn, 1) := by decide +kernel
theorem dX12_sortAt_243 : decode cX12_sortAt 243 = .ok (.aload_n 0, 1) := by decide +kernel
theorem dX12_sortAt_244 : decode cX12_sortAt 244 = .ok (.bipush 115, 2) := by decide +kernel
theorem dX12_sortAt_246 : decode cX12_sortAt 246 = .ok (.bipush 112, 2) := by decide +kernel
theorem dX12_sortAt_248 : decode cX12_sortAt 248 = .ok (.bipush 97, 2) := by decide +kernel
theorem dX12_sortAt_250 : decode cX12_sortAt 250 = .ok (.bipush 99, 2) := by decide +kernel
theorem dX12_sortAt_252 : decode cX12_sortAt 252 = .ok (.bipush 101, 2) := by decide +kernel
theorem dX12_sortAt_254 : decode cX12_sortAt 254 = .ok (.bipush 114, 2) := by decide +kernel
theorem dX12_sortAt_256 : decode cX12_sortAt 256 = .ok (.bipush 115, 2) := by decide +kernel
theorem dX12_sortAt_258 : decode cX12_sortAt 258 = .ok (.invokevirtual 231, 3) := by decide +kernel
theorem dX12_sortAt_261 : decode cX12_sortAt 261 = .ok (.ifCond .eq 8, 3) := by decide +kernel
theorem dX12_sortAt_264 : decode cX12_sortAt 264 = .ok (.bipush 8, 2) := by decide +kernel
theorem dX12_sortAt_266 : decode cX12_sortAt 266 = .ok (.goto 4, 3) := by decide +kernel
theorem dX12_sortAt_269 : decode cX12_sortAt 269 = .ok (.iconst (-1), 1) := by decide +kernel
theorem dX12_sortAt_270 : decode cX12_sortAt 270 = .ok (.ireturn, 1) := by decide +kernel
theorem dX12_readRule_0 : decode cX12_readRule 0 = .ok (.aload_n 0, 1) := by decide +kernel
theorem dX12_readRule_1 : decode cX12_readRule 1 = .ok (.invokevirtual 235, 3) := by decide +kernel
theorem dX12_readRule_4 : decode cX12_readRule 4 = .ok (.istore_n 1, 1) := by decide +kernel
theorem dX12_readRule_5 : decode cX12_readRule 5 = .ok (.aload_n 0, 1) := by decide +kernel
theorem dX12_readRule_6 : decode cX12_readRule 6 = .ok (.iload_n 1, 1) := by decide +kernel
theorem dX12_readRule_7 : decode cX12_readRule 7 = .ok (.ifCond .lt 16, 3) := by decide +kernel
theorem dX12_readRule_10 : decode cX12_readRule 10 = .ok (.aload_n 0, 1) := by decide +kernel
theorem dX12_readRule_11 : decode cX12_readRule 11 = .ok (.getfield 238, 3) := by decide +kernel
theorem dX12_readRule_14 : decode cX12_readRule 14 = .ok (.bipush 20, 2) := by decide +kernel
theorem dX12_readRule_16 : decode cX12_readRule 16 = .ok (.if_icmp .ge 7, 3) := by decide +kernel
theorem dX12_readRule_19 : decode cX12_readRule 19 = .ok (.iconst 1, 1) := by decide +kernel
theorem dX12_readRule_20 : decode cX12_readRule 20 = .ok (.goto 4, 3) := by decide +kernel
theorem dX12_readRule_23 : decode cX12_readRule 23 = .ok (.iconst 0, 1) := by decide +kernel
theorem dX12_readRule_24 : decode cX12_readRule 24 = .ok (.invokevirtual 227, 3) := by decide +kernel
theorem dX12_readRule_27 : decode cX12_readRule 27 = .ok (.iconst 0, 1) := by decide +kernel
theorem dX12_readRule_28 : decode cX12_readRule 28 = .ok (.istore_n 2, 1) := by decide +kernel
theorem dX12_readRule_29 : decode cX12_readRule 29 = .ok (.iconst 0, 1) := by decide +kernel
theorem dX12_readRule_30 : decode cX12_readRule 30 = .ok (.istore_n 3, 1) := by decide +kernel
theorem dX12_readRule_31 : decode cX12_readRule 31 = .ok (.iload_n 1, 1) := by decide +kernel
theorem dX12_readRule_32 : decode cX12_readRule 32 = .ok (.iconst 3, 1) := by decide +kernel
theorem dX12_readRule_33 : decode cX12_readRule 33 = .ok (.if_icmp .ge 55, 3) := by decide +kernel
theorem dX12_readRule_36 : decode cX12_readRule 36 = .ok (.aload_n 0, 1) := by decide +kernel
theorem dX12_readRule_37 : decode cX12_readRule 37 = .ok (.aload_n 0, 1) := by decide +kernel
theorem dX12_readRule_38 : decode cX12_readRule 38 = .ok (.bipush 102, 2) := by decide +kernel
theorem dX12_readRule_40 : decode cX12_readRule 40 = .ok (.bipush 114, 2) := by decide +kernel
theorem dX12_readRule_42 : decode cX12_readRule 42 = .ok (.bipush 111, 2) := by decide +kernel
theorem dX12_readRule_44 : decode cX12_readRule 44 = .ok (.bipush 109, 2) := by decide +kernel
theorem dX12_readRule_46 : decode cX12_readRule 46 = .ok (.iconst 0, 1) := by decide +kernel
theorem dX12_readRule_47 : decode cX12_readRule 47 = .ok (.iconst 0, 1) := by decide +kernel
theorem dX12_readRule_48 : decode cX12_readRule 48 = .ok (.iconst 0, 1) := by decide +kernel
theorem dX12_readRule_49 : decode cX12_readRule 49 = .ok (.invokevirtual 231, 3) := by decide +kernel
theorem dX12_readRule_52 : decode cX12_readRule 52 = .ok (.invokevirtual 227, 3) := by decide +kernel
theorem dX12_readRule_55 : decode cX12_readRule 55 = .ok (.aload_n 0, 1) := by decide +kernel
theorem dX12_readRule_56 : decode cX12_readRule 56 = .ok (.lconst 0, 1) := by decide +kernel
theorem dX12_readRule_57 : decode cX12_readRule 57 = .ok (.invokevirtual 241, 3) := by decide +kernel
theorem dX12_readRule_60 : decode cX12_readRule 60 = .ok (.istore_n 2, 1) := by decide +kernel
theorem dX12_readRule_61 : decode cX12_readRule 61 = .ok (.aload_n 0, 1) := by decide +kernel
theorem dX12_readRule_62 : decode cX12_readRule 62 = .ok (.aload_n 0, 1) := by decide +kernel
theorem dX12_readRule_63 : decode cX12_readRule 63 = .ok (.bipush 116, 2) := by decide +kernel
theorem dX12_readRule_65 : decode cX12_readRule 65 = .ok (.bipush 111, 2) := by decide +kernel
theorem dX12_readRule_67 : decode cX12_readRule 67 = .ok (.iconst 0, 1) := by decide +kernel
theorem dX12_readRule_68 : decode cX12_readRule 68 = .ok (.iconst 0, 1) := by decide +kernel
theorem dX12_readRule_69 : decode cX12_readRule 69 = .ok (.iconst 0, 1) := by decide +kernel
theorem dX12_readRule_70 : decode cX12_readRule 70 = .ok (.iconst 0, 1) := by decide +kernel
theorem dX12_readRule_71 : decode cX12_readRule 71 = .ok (.iconst 0, 1) := by decide +kernel
theorem dX12_readRule_72 : decode cX12_readRule 72 = .ok (.invokevirtual 231, 3) := by decide +kernel
theorem dX12_readRule_75 : decode cX12_readRule 75 = .ok (.invokevirtual 227, 3) := by decide +kernel
theorem dX12_readRule_78 : decode cX12_readRule 78 = .ok (.aload_n 0, 1) := by decide +kernel
theorem dX12_readRule_79 : decode cX12_readRule 79 = .ok (.iload_n 2, 1) := by decide +kernel
theorem dX12_readRule_80 : decode cX12_readRule 80 = .ok (.i2l, 1) := by decide +kernel
theorem dX12_readRule_81 : decode cX12_readRule 81 = .ok (.invokevirtual 241, 3) := by decide +kernel
theorem dX12_readRule_84 : decode cX12_readRule 84 = .ok (.istore_n 3, 1) := by decide +kernel
theorem dX12_readRule_85 : decode cX12_readRule 85 = .ok (.goto 41, 3) := by decide +kernel
theorem dX12_readRule_88 : decode cX12_readRule 88 = .ok (.aload_n 0, 1) := by decide +kernel
theorem dX12_readRule_89 : decode cX12_readRule 89 = .ok (.lconst 0, 1) := by decide +kernel
theorem dX12_readRule_90 : decode cX12_readRule 90 = .ok (.invokevirtual 241, 3) := by decide +kernel
theorem dX12_readRule_93 : decode cX12_readRule 93 = .ok (.istore_n 2, 1) := by decide +kernel
theorem dX12_readRule_94 : decode cX12_readRule 94 = .ok (.iload_n 1, 1) := by decide +kernel
theorem dX12_readRule_95 : decode cX12_readRule 95 = .ok (.bipush 8, 2) := by decide +kernel
theorem dX12_readRule_97 : decode cX12_readRule 97 = .ok (.if_icmp .ne 29, 3) := by decide +kernel
theorem dX12_readRule_100 : decode cX12_readRule 100 = .ok (.aload_n 0, 1) := by decide +kernel
theorem dX12_readRule_101 : decode cX12_readRule 101 = .ok (.aload_n 0, 1) := by decide +kernel
theorem dX12_readRule_102 : decode cX12_readRule 102 = .ok (.bipush 101, 2) := by decide +kernel
theorem dX12_readRule_104 : decode cX12_readRule 104 = .ok (.bipush 118, 2) := by decide +kernel
theorem dX12_readRule_106 : decode cX12_readRule 106 = .ok (.bipush 101, 2) := by decide +kernel
theorem dX12_readRule_108 : decode cX12_readRule 108 = .ok (.bipush 114, 2) := by decide +kernel
theorem dX12_readRule_110 : decode cX12_readRule 110 = .ok (.bipush 121, 2) := by decide +kernel
theorem dX12_readRule_112 : decode cX12_readRule 112 = .ok (.iconst 0, 1) := by decide +kernel
theorem dX12_readRule_113 : decode cX12_readRule 113 = .ok (.iconst 0, 1) := by decide +kernel
theorem dX12_readRule_114 : decode cX12_readRule 114 = .ok (.invokevirtual 231, 3) := by decide +kernel
theorem dX12_readRule_117 : decode cX12_readRule 117 = .ok (.invokevirtual 227, 3) := by decide +kernel
theorem dX12_readRule_120 : decode cX12_readRule 120 = .ok (.aload_n 0, 1) := by decide +kernel
theorem dX12_readRule_121 : decode cX12_readRule 121 = .ok (.lconst 1, 1) := by decide +kernel
theorem dX12_readRule_122 : decode cX12_readRule 122 = .ok (.invokevirtual 241, 3) := by decide +kernel
theorem dX12_readRule_125 : decode cX12_readRule 125 = .ok (.istore_n 3, 1) := by decide +kernel
theorem dX12_readRule_126 : decode cX12_readRule 126 = .ok (.aload_n 0, 1) := by decide +kernel
theorem dX12_readRule_127 : decode cX12_readRule 127 = .ok (.getfield 220, 3) := by decide +kernel
theorem dX12_readRule_130 : decode cX12_readRule 130 = .ok (.ifCond .eq 4, 3) := by decide +kernel
theorem dX12_readRule_133 : decode cX12_readRule 133 = .ok (.return_, 1) := by decide +kernel
theorem dX12_readRule_134 : decode cX12_readRule 134 = .ok (.aload_n 0, 1) := by decide +kernel
theorem dX12_readRule_135 : decode cX12_readRule 135 = .ok (.getfield 75, 3) := by decide +kernel
theorem dX12_readRule_138 : decode cX12_readRule 138 = .ok (.iconst 3, 1) := by decide +kernel
theorem dX12_readRule_139 : decode cX12_readRule 139 = .ok (.aload_n 0, 1) := by decide +kernel
theorem dX12_readRule_140 : decode cX12_readRule 140 = .ok (.getfield 238, 3) := by decide +kernel
theorem dX12_readRule_143 : decode cX12_readRule 143 = .ok (.imul, 1) := by decide +kernel
theorem dX12_readRule_144 : decode cX12_readRule 144 = .ok (.iload_n 1, 1) := by decide +kernel
theorem dX12_readRule_145 : decode cX12_readRule 145 = .ok (.iastore, 1) := by decide +kernel
theorem dX12_readRule_146 : decode cX12_readRule 146 = .ok (.aload_n 0, 1) := by decide +kernel
theorem dX12_readRule_147 : decode cX12_readRule 147 = .ok (.getfield 75, 3) := by decide +kernel
theorem dX12_readRule_150 : decode cX12_readRule 150 = .ok (.iconst 3, 1) := by decide +kernel
theorem dX12_readRule_151 : decode cX12_readRule 151 = .ok (.aload_n 0, 1) := by decide +kernel
theorem dX12_readRule_152 : decode cX12_readRule 152 = .ok (.getfield 238, 3) := by decide +kernel
theorem dX12_readRule_155 : decode cX12_readRule 155 = .ok (.imul, 1) := by decide +kernel
theorem dX12_readRule_156 : decode cX12_readRule 156 = .ok (.iconst 1, 1) := by decide +kernel
theorem dX12_readRule_157 : decode cX12_readRule 157 = .ok (.iadd, 1) := by decide +kernel
theorem dX12_readRule_158 : decode cX12_readRule 158 = .ok (.iload_n 2, 1) := by decide +kernel
theorem dX12_readRule_159 : decode cX12_readRule 159 = .ok (.iastore, 1) := by decide +kernel
theorem dX12_readRule_160 : decode cX12_readRule 160 = .ok (.aload_n 0, 1) := by decide +kernel
theorem dX12_readRule_161 : decode cX12_readRule 161 = .ok (.getfield 75, 3) := by decide +kernel
theorem dX12_readRule_164 : decode cX12_readRule 164 = .ok (.iconst 3, 1) := by decide +kernel
theorem dX12_readRule_165 : decode cX12_readRule 165 = .ok (.aload_n 0, 1) := by decide +kernel
theorem dX12_readRule_166 : decode cX12_readRule 166 = .ok (.getfield 238, 3) := by decide +kernel
theorem dX12_readRule_169 : decode cX12_readRule 169 = .ok (.imul, 1) := by decide +kernel
theorem dX12_readRule_170 : decode cX12_readRule 170 = .ok (.iconst 2, 1) := by decide +kernel
theorem dX12_readRule_171 : decode cX12_readRule 171 = .ok (.iadd, 1) := by decide +kernel
theorem dX12_readRule_172 : decode cX12_readRule 172 = .ok (.iload_n 3, 1) := by decide +kernel
theorem dX12_readRule_173 : decode cX12_readRule 173 = .ok (.iastore, 1) := by decide +kernel
theorem dX12_readRule_174 : decode cX12_readRule 174 = .ok (.aload_n 0, 1) := by decide +kernel
theorem dX12_readRule_175 : decode cX12_readRule 175 = .ok (.dup, 1) := by decide +kernel
theorem dX12_readRule_176 : decode cX12_readRule 176 = .ok (.getfield 238, 3) := by decide +kernel
theorem dX12_readRule_179 : decode cX12_readRule 179 = .ok (.iconst 1, 1) := by decide +kernel
theorem dX12_readRule_180 : decode cX12_readRule 180 = .ok (.iadd, 1) := by decide +kernel
theorem dX12_readRule_181 : decode cX12_readRule 181 = .ok (.putfield 238, 3) := by decide +kernel
theorem dX12_readRule_184 : decode cX12_readRule 184 = .ok (.return_, 1) := by decide +kernel
theorem dX12_rules_0 : decode cX12_rules 0 = .ok (.aload_n 0, 1) := by decide +kernel
theorem dX12_rules_1 : decode cX12_rules 1 = .ok (.iconst 0, 1) := by decide +kernel
theorem dX12_rules_2 : decode cX12_rules 2 = .ok (.putfield 96, 3) := by decide +kernel
theorem dX12_rules_5 : decode cX12_rules 5 = .ok (.aload_n 0, 1) := by decide +kernel
theorem dX12_rules_6 : decode cX12_rules 6 = .ok (.iconst 0, 1) := by decide +kernel
theorem dX12_rules_7 : decode cX12_rules 7 = .ok (.putfield 193, 3) := by decide +kernel
theorem dX12_rules_10 : decode cX12_rules 10 = .ok (.aload_n 0, 1) := by decide +kernel
theorem dX12_rules_11 : decode cX12_rules 11 = .ok (.iconst 0, 1) := by decide +kernel
theorem dX12_rules_12 : decode cX12_rules 12 = .ok (.putfield 220, 3) := by decide +kernel
theorem dX12_rules_15 : decode cX12_rules 15 = .ok (.aload_n 0, 1) := by decide +kernel
theorem dX12_rules_16 : decode cX12_rules 16 = .ok (.iconst (-1), 1) := by decide +kernel
theorem dX12_rules_17 : decode cX12_rules 17 = .ok (.putfield 81, 3) := by decide +kernel
theorem dX12_rules_20 : decode cX12_rules 20 = .ok (.aload_n 0, 1) := by decide +kernel
theorem dX12_rules_21 : decode cX12_rules 21 = .ok (.iconst 0, 1) := by decide +kernel
theorem dX12_rules_22 : decode cX12_rules 22 = .ok (.putfield 238, 3) := by decide +kernel
theorem dX12_rules_25 : decode cX12_rules 25 = .ok (.aload_n 0, 1) := by decide +kernel
theorem dX12_rules_26 : decode cX12_rules 26 = .ok (.invokevirtual 224, 3) := by decide +kernel
theorem dX12_rules_29 : decode cX12_rules 29 = .ok (.aload_n 0, 1) := by decide +kernel
theorem dX12_rules_30 : decode cX12_rules 30 = .ok (.getfield 209, 3) := by decide +kernel
theorem dX12_rules_33 : decode cX12_rules 33 = .ok (.ifCond .eq 63, 3) := by decide +kernel
theorem dX12_rules_36 : decode cX12_rules 36 = .ok (.aload_n 0, 1) := by decide +kernel
theorem dX12_rules_37 : decode cX12_rules 37 = .ok (.invokevirtual 245, 3) := by decide +kernel
theorem dX12_rules_40 : decode cX12_rules 40 = .ok (.aload_n 0, 1) := by decide +kernel
theorem dX12_rules_41 : decode cX12_rules 41 = .ok (.getfield 220, 3) := by decide +kernel
theorem dX12_rules_44 : decode cX12_rules 44 = .ok (.ifCond .ne 33, 3) := by decide +kernel
theorem dX12_rules_47 : decode cX12_rules 47 = .ok (.aload_n 0, 1) := by decide +kernel
theorem dX12_rules_48 : decode cX12_rules 48 = .ok (.getfield 209, 3) := by decide +kernel
theorem dX12_rules_51 : decode cX12_rules 51 = .ok (.iconst 3, 1) := by decide +kernel
theorem dX12_rules_52 : decode cX12_rules 52 = .ok (.if_icmp .ne 25, 3) := by decide +kernel
theorem dX12_rules_55 : decode cX12_rules 55 = .ok (.aload_n 0, 1) := by decide +kernel
theorem dX12_rules_56 : decode cX12_rules 56 = .ok (.getfield 199, 3) := by decide +kernel
theorem dX12_rules_59 : decode cX12_rules 59 = .ok (.ldc2_w 248, 3) := by decide +kernel
theorem dX12_rules_62 : decode cX12_rules 62 = .ok (.lcmp, 1) := by decide +kernel
theorem dX12_rules_63 : decode cX12_rules 63 = .ok (.ifCond .ne 14, 3) := by decide +kernel
theorem dX12_rules_66 : decode cX12_rules 66 = .ok (.aload_n 0, 1) := by decide +kernel
theorem dX12_rules_67 : decode cX12_rules 67 = .ok (.invokevirtual 224, 3) := by decide +kernel
theorem dX12_rules_70 : decode cX12_rules 70 = .ok (.aload_n 0, 1) := by decide +kernel
theorem dX12_rules_71 : decode cX12_rules 71 = .ok (.invokevirtual 245, 3) := by decide +kernel
theorem dX12_rules_74 : decode cX12_rules 74 = .ok (.goto (-34), 3) := by decide +kernel
theorem dX12_rules_77 : decode cX12_rules 77 = .ok (.aload_n 0, 1) := by decide +kernel
theorem dX12_rules_78 : decode cX12_rules 78 = .ok (.getfield 220, 3) := by decide +kernel
theorem dX12_rules_81 : decode cX12_rules 81 = .ok (.ifCond .ne 15, 3) := by decide +kernel
theorem dX12_rules_84 : decode cX12_rules 84 = .ok (.aload_n 0, 1) := by decide +kernel
theorem dX12_rules_85 : decode cX12_rules 85 = .ok (.getfield 209, 3) := by decide +kernel
theorem dX12_rules_88 : decode cX12_rules 88 = .ok (.ifCond .eq 8, 3) := by decide +kernel
theorem dX12_rules_91 : decode cX12_rules 91 = .ok (.aload_n 0, 1) := by decide +kernel
theorem dX12_rules_92 : decode cX12_rules 92 = .ok (.iconst 0, 1) := by decide +kernel
theorem dX12_rules_93 : decode cX12_rules 93 = .ok (.invokevirtual 227, 3) := by decide +kernel
theorem dX12_rules_96 : decode cX12_rules 96 = .ok (.aload_n 0, 1) := by decide +kernel
theorem dX12_rules_97 : decode cX12_rules 97 = .ok (.iconst 0, 1) := by decide +kernel
theorem dX12_rules_98 : decode cX12_rules 98 = .ok (.putfield 187, 3) := by decide +kernel
theorem dX12_rules_101 : decode cX12_rules 101 = .ok (.aload_n 0, 1) := by decide +kernel
theorem dX12_rules_102 : decode cX12_rules 102 = .ok (.getfield 220, 3) := by decide +kernel
theorem dX12_rules_105 : decode cX12_rules 105 = .ok (.ifCond .eq 10, 3) := by decide +kernel
theorem dX12_rules_108 : decode cX12_rules 108 = .ok (.aload_n 0, 1) := by decide +kernel
theorem dX12_rules_109 : decode cX12_rules 109 = .ok (.bipush (-6), 2) := by decide +kernel
theorem dX12_rules_111 : decode cX12_rules 111 = .ok (.invokevirtual 113, 3) := by decide +kernel
theorem dX12_rules_114 : decode cX12_rules 114 = .ok (.ireturn, 1) := by decide +kernel
theorem dX12_rules_115 : decode cX12_rules 115 = .ok (.aload_n 0, 1) := by decide +kernel
theorem dX12_rules_116 : decode cX12_rules 116 = .ok (.aload_n 0, 1) := by decide +kernel
theorem dX12_rules_117 : decode cX12_rules 117 = .ok (.getfield 238, 3) := by decide +kernel
theorem dX12_rules_120 : decode cX12_rules 120 = .ok (.putfield 250, 3) := by decide +kernel
theorem dX12_rules_123 : decode cX12_rules 123 = .ok (.iconst 0, 1) := by decide +kernel
theorem dX12_rules_124 : decode cX12_rules 124 = .ok (.istore_n 1, 1) := by decide +kernel
theorem dX12_rules_125 : decode cX12_rules 125 = .ok (.iload_n 1, 1) := by decide +kernel
theorem dX12_rules_126 : decode cX12_rules 126 = .ok (.aload_n 0, 1) := by decide +kernel
theorem dX12_rules_127 : decode cX12_rules 127 = .ok (.getfield 250, 3) := by decide +kernel
theorem dX12_rules_130 : decode cX12_rules 130 = .ok (.if_icmp .ge 55, 3) := by decide +kernel
theorem dX12_rules_133 : decode cX12_rules 133 = .ok (.aload_n 0, 1) := by decide +kernel
theorem dX12_rules_134 : decode cX12_rules 134 = .ok (.getfield 66, 3) := by decide +kernel
theorem dX12_rules_137 : decode cX12_rules 137 = .ok (.iload_n 1, 1) := by decide +kernel
theorem dX12_rules_138 : decode cX12_rules 138 = .ok (.aload_n 0, 1) := by decide +kernel
theorem dX12_rules_139 : decode cX12_rules 139 = .ok (.getfield 75, 3) := by decide +kernel
theorem dX12_rules_142 : decode cX12_rules 142 = .ok (.iconst 3, 1) := by decide +kernel
theorem dX12_rules_143 : decode cX12_rules 143 = .ok (.iload_n 1, 1) := by decide +kernel
theorem dX12_rules_144 : decode cX12_rules 144 = .ok (.imul, 1) := by decide +kernel
theorem dX12_rules_145 : decode cX12_rules 145 = .ok (.iaload, 1) := by decide +kernel
theorem dX12_rules_146 : decode cX12_rules 146 = .ok (.iastore, 1) := by decide +kernel
theorem dX12_rules_147 : decode cX12_rules 147 = .ok (.aload_n 0, 1) := by decide +kernel
theorem dX12_rules_148 : decode cX12_rules 148 = .ok (.getfield 69, 3) := by decide +kernel
theorem dX12_rules_151 : decode cX12_rules 151 = .ok (.iload_n 1, 1) := by decide +kernel
theorem dX12_rules_152 : decode cX12_rules 152 = .ok (.aload_n 0, 1) := by decide +kernel
theorem dX12_rules_153 : decode cX12_rules 153 = .ok (.getfield 75, 3) := by decide +kernel
theorem dX12_rules_156 : decode cX12_rules 156 = .ok (.iconst 3, 1) := by decide +kernel
theorem dX12_rules_157 : decode cX12_rules 157 = .ok (.iload_n 1, 1) := by decide +kernel
theorem dX12_rules_158 : decode cX12_rules 158 = .ok (.imul, 1) := by decide +kernel
theorem dX12_rules_159 : decode cX12_rules 159 = .ok (.iconst 1, 1) := by decide +kernel
theorem dX12_rules_160 : decode cX12_rules 160 = .ok (.iadd, 1) := by decide +kernel
theorem dX12_rules_161 : decode cX12_rules 161 = .ok (.iaload, 1) := by decide +kernel
theorem dX12_rules_162 : decode cX12_rules 162 = .ok (.iastore, 1) := by decide +kernel
theorem dX12_rules_163 : decode cX12_rules 163 = .ok (.aload_n 0, 1) := by decide +kernel
theorem dX12_rules_164 : decode cX12_rules 164 = .ok (.getfield 72, 3) := by decide +kernel
theorem dX12_rules_167 : decode cX12_rules 167 = .ok (.iload_n 1, 1) := by decide +kernel
theorem dX12_rules_168 : decode cX12_rules 168 = .ok (.aload_n 0, 1) := by decide +kernel
theorem dX12_rules_169 : decode cX12_rules 169 = .ok (.getfield 75, 3) := by decide +kernel
theorem dX12_rules_172 : decode cX12_rules 172 = .ok (.iconst 3, 1) := by decide +kernel
theorem dX12_rules_173 : decode cX12_rules 173 = .ok (.iload_n 1, 1) := by decide +kernel
theorem dX12_rules_174 : decode cX12_rules 174 = .ok (.imul, 1) := by decide +kernel
theorem dX12_rules_175 : decode cX12_rules 175 = .ok (.iconst 2, 1) := by decide +kernel
theorem dX12_rules_176 : decode cX12_rules 176 = .ok (.iadd, 1) := by decide +kernel
theorem dX12_rules_177 : decode cX12_rules 177 = .ok (.iaload, 1) := by decide +kernel
theorem dX12_rules_178 : decode cX12_rules 178 = .ok (.iastore, 1) := by decide +kernel
theorem dX12_rules_179 : decode cX12_rules 179 = .ok (.iinc 1 1, 3) := by decide +kernel
theorem dX12_rules_182 : decode cX12_rules 182 = .ok (.goto (-57), 3) := by decide +kernel
theorem dX12_rules_185 : decode cX12_rules 185 = .ok (.aload_n 0, 1) := by decide +kernel
theorem dX12_rules_186 : decode cX12_rules 186 = .ok (.aload_n 0, 1) := by decide +kernel
theorem dX12_rules_187 : decode cX12_rules 187 = .ok (.getfield 250, 3) := by decide +kernel
theorem dX12_rules_190 : decode cX12_rules 190 = .ok (.invokevirtual 113, 3) := by decide +kernel
theorem dX12_rules_193 : decode cX12_rules 193 = .ok (.ireturn, 1) := by decide +kernel
theorem dX12_fault_0 : decode cX12_fault 0 = .ok (.aload_n 0, 1) := by decide +kernel
theorem dX12_fault_1 : decode cX12_fault 1 = .ok (.iconst 0, 1) := by decide +kernel
theorem dX12_fault_2 : decode cX12_fault 2 = .ok (.putfield 96, 3) := by decide +kernel
theorem dX12_fault_5 : decode cX12_fault 5 = .ok (.aload_n 0, 1) := by decide +kernel
theorem dX12_fault_6 : decode cX12_fault 6 = .ok (.getfield 81, 3) := by decide +kernel
theorem dX12_fault_9 : decode cX12_fault 9 = .ok (.ireturn, 1) := by decide +kernel
theorem dX12_isBroken_0 : decode cX12_isBroken 0 = .ok (.aload_n 0, 1) := by decide +kernel
theorem dX12_isBroken_1 : decode cX12_isBroken 1 = .ok (.getfield 66, 3) := by decide +kernel
theorem dX12_isBroken_4 : decode cX12_isBroken 4 = .ok (.iload_n 1, 1) := by decide +kernel
theorem dX12_isBroken_5 : decode cX12_isBroken 5 = .ok (.iaload, 1) := by decide +kernel
theorem dX12_isBroken_6 : decode cX12_isBroken 6 = .ok (.iconst 3, 1) := by decide +kernel
theorem dX12_isBroken_7 : decode cX12_isBroken 7 = .ok (.if_icmp .ge 135, 3) := by decide +kernel
theorem dX12_isBroken_10 : decode cX12_isBroken 10 = .ok (.iconst 0, 1) := by decide +kernel
theorem dX12_isBroken_11 : decode cX12_isBroken 11 = .ok (.istore_n 2, 1) := by decide +kernel
theorem dX12_isBroken_12 : decode cX12_isBroken 12 = .ok (.iconst 0, 1) := by decide +kernel
theorem dX12_isBroken_13 : decode cX12_isBroken 13 = .ok (.istore_n 3, 1) := by decide +kernel
theorem dX12_isBroken_14 : decode cX12_isBroken 14 = .ok (.iload_n 3, 1) := by decide +kernel
theorem dX12_isBroken_15 : decode cX12_isBroken 15 = .ok (.aload_n 0, 1) := by decide +kernel
theorem dX12_isBroken_16 : decode cX12_isBroken 16 = .ok (.getfield 180, 3) := by decide +kernel
theorem dX12_isBroken_19 : decode cX12_isBroken 19 = .ok (.if_icmp .ge 80, 3) := by decide +kernel
theorem dX12_isBroken_22 : decode cX12_isBroken 22 = .ok (.aload_n 0, 1) := by decide +kernel
theorem dX12_isBroken_23 : decode cX12_isBroken 23 = .ok (.getfield 57, 3) := by decide +kernel
theorem dX12_isBroken_26 : decode cX12_isBroken 26 = .ok (.ifCond .lt 73, 3) := by decide +kernel
theorem dX12_isBroken_29 : decode cX12_isBroken 29 = .ok (.iload_n 2, 1) := by decide +kernel
theorem dX12_isBroken_30 : decode cX12_isBroken 30 = .ok (.aload_n 0, 1) := by decide +kernel
theorem dX12_isBroken_31 : decode cX12_isBroken 31 = .ok (.getfield 54, 3) := by decide +kernel
theorem dX12_isBroken_34 : decode cX12_isBroken 34 = .ok (.iload_n 3, 1) := by decide +kernel
theorem dX12_isBroken_35 : decode cX12_isBroken 35 = .ok (.iaload, 1) := by decide +kernel
theorem dX12_isBroken_36 : decode cX12_isBroken 36 = .ok (.aload_n 0, 1) := by decide +kernel
theorem dX12_isBroken_37 : decode cX12_isBroken 37 = .ok (.getfield 66, 3) := by decide +kernel
theorem dX12_isBroken_40 : decode cX12_isBroken 40 = .ok (.iload_n 1, 1) := by decide +kernel
theorem dX12_isBroken_41 : decode cX12_isBroken 41 = .ok (.iaload, 1) := by decide +kernel
theorem dX12_isBroken_42 : decode cX12_isBroken 42 = .ok (.ifCond .ne 12, 3) := by decide +kernel
theorem dX12_isBroken_45 : decode cX12_isBroken 45 = .ok (.aload_n 0, 1) := by decide +kernel
theorem dX12_isBroken_46 : decode cX12_isBroken 46 = .ok (.getfield 42, 3) := by decide +kernel
theorem dX12_isBroken_49 : decode cX12_isBroken 49 = .ok (.iload_n 3, 1) := by decide +kernel
theorem dX12_isBroken_50 : decode cX12_isBroken 50 = .ok (.iaload, 1) := by decide +kernel
theorem dX12_isBroken_51 : decode cX12_isBroken 51 = .ok (.goto 39, 3) := by decide +kernel
theorem dX12_isBroken_54 : decode cX12_isBroken 54 = .ok (.aload_n 0, 1) := by decide +kernel
theorem dX12_isBroken_55 : decode cX12_isBroken 55 = .ok (.getfield 66, 3) := by decide +kernel
theorem dX12_isBroken_58 : decode cX12_isBroken 58 = .ok (.iload_n 1, 1) := by decide +kernel
theorem dX12_isBroken_59 : decode cX12_isBroken 59 = .ok (.iaload, 1) := by decide +kernel
theorem dX12_isBroken_60 : decode cX12_isBroken 60 = .ok (.iconst 1, 1) := by decide +kernel
theorem dX12_isBroken_61 : decode cX12_isBroken 61 = .ok (.if_icmp .ne 12, 3) := by decide +kernel
theorem dX12_isBroken_64 : decode cX12_isBroken 64 = .ok (.aload_n 0, 1) := by decide +kernel
theorem dX12_isBroken_65 : decode cX12_isBroken 65 = .ok (.getfield 45, 3) := by decide +kernel
theorem dX12_isBroken_68 : decode cX12_isBroken 68 = .ok (.iload_n 3, 1) := by decide +kernel
theorem dX12_isBroken_69 : decode cX12_isBroken 69 = .ok (.iaload, 1) := by decide +kernel
theorem dX12_isBroken_70 : decode cX12_isBroken 70 = .ok (.goto 20, 3) := by decide +kernel
theorem dX12_isBroken_73 : decode cX12_isBroken 73 = .ok (.sipush 1000, 3) := by decide +kernel
theorem dX12_isBroken_76 : decode cX12_isBroken 76 = .ok (.aload_n 0, 1) := by decide +kernel
theorem dX12_isBroken_77 : decode cX12_isBroken 77 = .ok (.getfield 42, 3) := by decide +kernel
theorem dX12_isBroken_80 : decode cX12_isBroken 80 = .ok (.iload_n 3, 1) := by decide +kernel
theorem dX12_isBroken_81 : decode cX12_isBroken 81 = .ok (.iaload, 1) := by decide +kernel
theorem dX12_isBroken_82 : decode cX12_isBroken 82 = .ok (.isub, 1) := by decide +kernel
theorem dX12_isBroken_83 : decode cX12_isBroken 83 = .ok (.aload_n 0, 1) := by decide +kernel
theorem dX12_isBroken_84 : decode cX12_isBroken 84 = .ok (.getfield 45, 3) := by decide +kernel
theorem dX12_isBroken_87 : decode cX12_isBroken 87 = .ok (.iload_n 3, 1) := by decide +kernel
theorem dX12_isBroken_88 : decode cX12_isBroken 88 = .ok (.iaload, 1) := by decide +kernel
theorem dX12_isBroken_89 : decode cX12_isBroken 89 = .ok (.isub, 1) := by decide +kernel
theorem dX12_isBroken_90 : decode cX12_isBroken 90 = .ok (.imul, 1) := by decide +kernel
theorem dX12_isBroken_91 : decode cX12_isBroken 91 = .ok (.iadd, 1) := by decide +kernel
theorem dX12_isBroken_92 : decode cX12_isBroken 92 = .ok (.istore_n 2, 1) := by decide +kernel
theorem dX12_isBroken_93 : decode cX12_isBroken 93 = .ok (.iinc 3 1, 3) := by decide +kernel
theorem dX12_isBroken_96 : decode cX12_isBroken 96 = .ok (.goto (-82), 3) := by decide +kernel
theorem dX12_isBroken_99 : decode cX12_isBroken 99 = .ok (.aload_n 0, 1) := by decide +kernel
theorem dX12_isBroken_100 : decode cX12_isBroken 100 = .ok (.getfield 57, 3) := by decide +kernel
theorem dX12_isBroken_103 : decode cX12_isBroken 103 = .ok (.ifCond .lt 33, 3) := by decide +kernel
theorem dX12_isBroken_106 : decode cX12_isBroken 106 = .ok (.iload_n 2, 1) := by decide +kernel
theorem dX12_isBroken_107 : decode cX12_isBroken 107 = .ok (.aload_n 0, 1) := by decide +kernel
theorem dX12_isBroken_108 : decode cX12_isBroken 108 = .ok (.getfield 69, 3) := by decide +kernel
theorem dX12_isBroken_111 : decode cX12_isBroken 111 = .ok (.iload_n 1, 1) := by decide +kernel
theorem dX12_isBroken_112 : decode cX12_isBroken 112 = .ok (.iaload, 1) := by decide +kernel
theorem dX12_isBroken_113 : decode cX12_isBroken 113 = .ok (.aload_n 0, 1) := by decide +kernel
theorem dX12_isBroken_114 : decode cX12_isBroken 114 = .ok (.getfield 57, 3) := by decide +kernel
theorem dX12_isBroken_117 : decode cX12_isBroken 117 = .ok (.imul, 1) := by decide +kernel
theorem dX12_isBroken_118 : decode cX12_isBroken 118 = .ok (.if_icmp .lt 18, 3) := by decide +kernel
theorem dX12_isBroken_121 : decode cX12_isBroken 121 = .ok (.iload_n 2, 1) := by decide +kernel
theorem dX12_isBroken_122 : decode cX12_isBroken 122 = .ok (.aload_n 0, 1) := by decide +kernel
theorem dX12_isBroken_123 : decode cX12_isBroken 123 = .ok (.getfield 72, 3) := by decide +kernel
theorem dX12_isBroken_126 : decode cX12_isBroken 126 = .ok (.iload_n 1, 1) := by decide +kernel
theorem dX12_isBroken_127 : decode cX12_isBroken 127 = .ok (.iaload, 1) := by decide +kernel
theorem dX12_isBroken_128 : decode cX12_isBroken 128 = .ok (.aload_n 0, 1) := by decide +kernel
theorem dX12_isBroken_129 : decode cX12_isBroken 129 = .ok (.getfield 57, 3) := by decide +kernel
theorem dX12_isBroken_132 : decode cX12_isBroken 132 = .ok (.imul, 1) := by decide +kernel
theorem dX12_isBroken_133 : decode cX12_isBroken 133 = .ok (.if_icmp .le 7, 3) := by decide +kernel
theorem dX12_isBroken_136 : decode cX12_isBroken 136 = .ok (.iconst 1, 1) := by decide +kernel
theorem dX12_isBroken_137 : decode cX12_isBroken 137 = .ok (.goto 4, 3) := by decide +kernel
theorem dX12_isBroken_140 : decode cX12_isBroken 140 = .ok (.iconst 0, 1) := by decide +kernel
theorem dX12_isBroken_141 : decode cX12_isBroken 141 = .ok (.ireturn, 1) := by decide +kernel
theorem dX12_isBroken_142 : decode cX12_isBroken 142 = .ok (.aload_n 0, 1) := by decide +kernel
theorem dX12_isBroken_143 : decode cX12_isBroken 143 = .ok (.getfield 66, 3) := by decide +kernel
theorem dX12_isBroken_146 : decode cX12_isBroken 146 = .ok (.iload_n 1, 1) := by decide +kernel
theorem dX12_isBroken_147 : decode cX12_isBroken 147 = .ok (.iaload, 1) := by decide +kernel
theorem dX12_isBroken_148 : decode cX12_isBroken 148 = .ok (.tableswitch 138 3 7 #[36, 55, 75, 95, 119], 36) := by decide +kernel
theorem dX12_isBroken_184 : decode cX12_isBroken 184 = .ok (.aload_n 0, 1) := by decide +kernel
theorem dX12_isBroken_185 : decode cX12_isBroken 185 = .ok (.invokevirtual 155, 3) := by decide +kernel
theorem dX12_isBroken_188 : decode cX12_isBroken 188 = .ok (.aload_n 0, 1) := by decide +kernel
theorem dX12_isBroken_189 : decode cX12_isBroken 189 = .ok (.getfield 69, 3) := by decide +kernel
theorem dX12_isBroken_192 : decode cX12_isBroken 192 = .ok (.iload_n 1, 1) := by decide +kernel
theorem dX12_isBroken_193 : decode cX12_isBroken 193 = .ok (.iaload, 1) := by decide +kernel
theorem dX12_isBroken_194 : decode cX12_isBroken 194 = .ok (.if_icmp .ge 7, 3) := by decide +kernel
theorem dX12_isBroken_197 : decode cX12_isBroken 197 = .ok (.iconst 1, 1) := by decide +kernel
theorem dX12_isBroken_198 : decode cX12_isBroken 198 = .ok (.goto 4, 3) := by decide +kernel
theorem dX12_isBroken_201 : decode cX12_isBroken 201 = .ok (.iconst 0, 1) := by decide +kernel
theorem dX12_isBroken_202 : decode cX12_isBroken 202 = .ok (.ireturn, 1) := by decide +kernel
theorem dX12_isBroken_203 : decode cX12_isBroken 203 = .ok (.aload_n 0, 1) := by decide +kernel
theorem dX12_isBroken_204 : decode cX12_isBroken 204 = .ok (.iconst 2, 1) := by decide +kernel
theorem dX12_isBroken_205 : decode cX12_isBroken 205 = .ok (.invokevirtual 161, 3) := by decide +kernel
theorem dX12_isBroken_208 : decode cX12_isBroken 208 = .ok (.aload_n 0, 1) := by decide +kernel
theorem dX12_isBroken_209 : decode cX12_isBroken 209 = .ok (.getfield 69, 3) := by decide +kernel
theorem dX12_isBroken_212 : decode cX12_isBroken 212 = .ok (.iload_n 1, 1) := by decide +kernel
theorem dX12_isBroken_213 : decode cX12_isBroken 213 = .ok (.iaload, 1) := by decide +kernel
theorem dX12_isBroken_214 : decode cX12_isBroken 214 = .ok (.if_icmp .le 7, 3) := by decide +kernel
theorem dX12_isBroken_217 : decode cX12_isBroken 217 = .ok (.iconst 1, 1) := by decide +kernel
theorem dX12_isBroken_218 : decode cX12_isBroken 218 = .ok (.goto 4, 3) := by decide +kernel
theorem dX12_isBroken_221 : decode cX12_isBroken 221 = .ok (.iconst 0, 1) := by decide +kernel
theorem dX12_isBroken_222 : decode cX12_isBroken 222 = .ok (.ireturn, 1) := by decide +kernel
theorem dX12_isBroken_223 : decode cX12_isBroken 223 = .ok (.aload_n 0, 1) := by decide +kernel
theorem dX12_isBroken_224 : decode cX12_isBroken 224 = .ok (.iconst 1, 1) := by decide +kernel
theorem dX12_isBroken_225 : decode cX12_isBroken 225 = .ok (.invokevirtual 161, 3) := by decide +kernel
theorem dX12_isBroken_228 : decode cX12_isBroken 228 = .ok (.aload_n 0, 1) := by decide +kernel
theorem dX12_isBroken_229 : decode cX12_isBroken 229 = .ok (.getfield 69, 3) := by decide +kernel
theorem dX12_isBroken_232 : decode cX12_isBroken 232 = .ok (.iload_n 1, 1) := by decide +kernel
theorem dX12_isBroken_233 : decode cX12_isBroken 233 = .ok (.iaload, 1) := by decide +kernel
theorem dX12_isBroken_234 : decode cX12_isBroken 234 = .ok (.if_icmp .le 7, 3) := by decide +kernel
theorem dX12_isBroken_237 : decode cX12_isBroken 237 = .ok (.iconst 1, 1) := by decide +kernel
theorem dX12_isBroken_238 : decode cX12_isBroken 238 = .ok (.goto 4, 3) := by decide +kernel
theorem dX12_isBroken_241 : decode cX12_isBroken 241 = .ok (.iconst 0, 1) := by decide +kernel
theorem dX12_isBroken_242 : decode cX12_isBroken 242 = .ok (.ireturn, 1) := by decide +kernel
theorem dX12_isBroken_243 : decode cX12_isBroken 243 = .ok (.aload_n 0, 1) := by decide +kernel
theorem dX12_isBroken_244 : decode cX12_isBroken 244 = .ok (.getfield 164, 3) := by decide +kernel
theorem dX12_isBroken_247 : decode cX12_isBroken 247 = .ok (.aload_n 0, 1) := by decide +kernel
theorem dX12_isBroken_248 : decode cX12_isBroken 248 = .ok (.getfield 167, 3) := by decide +kernel
theorem dX12_isBroken_251 : decode cX12_isBroken 251 = .ok (.isub, 1) := by decide +kernel
theorem dX12_isBroken_252 : decode cX12_isBroken 252 = .ok (.aload_n 0, 1) := by decide +kernel
theorem dX12_isBroken_253 : decode cX12_isBroken 253 = .ok (.getfield 69, 3) := by decide +kernel
theorem dX12_isBroken_256 : decode cX12_isBroken 256 = .ok (.iload_n 1, 1) := by decide +kernel
theorem dX12_isBroken_257 : decode cX12_isBroken 257 = .ok (.iaload, 1) := by decide +kernel
theorem dX12_isBroken_258 : decode cX12_isBroken 258 = .ok (.if_icmp .le 7, 3) := by decide +kernel
theorem dX12_isBroken_261 : decode cX12_isBroken 261 = .ok (.iconst 1, 1) := by decide +kernel
theorem dX12_isBroken_262 : decode cX12_isBroken 262 = .ok (.goto 4, 3) := by decide +kernel
theorem dX12_isBroken_265 : decode cX12_isBroken 265 = .ok (.iconst 0, 1) := by decide +kernel
theorem dX12_isBroken_266 : decode cX12_isBroken 266 = .ok (.ireturn, 1) := by decide +kernel
theorem dX12_isBroken_267 : decode cX12_isBroken 267 = .ok (.aload_n 0, 1) := by decide +kernel
theorem dX12_isBroken_268 : decode cX12_isBroken 268 = .ok (.getfield 164, 3) := by decide +kernel
theorem dX12_isBroken_271 : decode cX12_isBroken 271 = .ok (.aload_n 0, 1) := by decide +kernel
theorem dX12_isBroken_272 : decode cX12_isBroken 272 = .ok (.getfield 69, 3) := by decide +kernel
theorem dX12_isBroken_275 : decode cX12_isBroken 275 = .ok (.iload_n 1, 1) := by decide +kernel
theorem dX12_isBroken_276 : decode cX12_isBroken 276 = .ok (.iaload, 1) := by decide +kernel
theorem dX12_isBroken_277 : decode cX12_isBroken 277 = .ok (.if_icmp .le 7, 3) := by decide +kernel
theorem dX12_isBroken_280 : decode cX12_isBroken 280 = .ok (.iconst 1, 1) := by decide +kernel
theorem dX12_isBroken_281 : decode cX12_isBroken 281 = .ok (.goto 4, 3) := by decide +kernel
theorem dX12_isBroken_284 : decode cX12_isBroken 284 = .ok (.iconst 0, 1) := by decide +kernel
theorem dX12_isBroken_285 : decode cX12_isBroken 285 = .ok (.ireturn, 1) := by decide +kernel
theorem dX12_isBroken_286 : decode cX12_isBroken 286 = .ok (.aload_n 0, 1) := by decide +kernel
theorem dX12_isBroken_287 : decode cX12_isBroken 287 = .ok (.iconst 4, 1) := by decide +kernel
theorem dX12_isBroken_288 : decode cX12_isBroken 288 = .ok (.invokevirtual 161, 3) := by decide +kernel
theorem dX12_isBroken_291 : decode cX12_isBroken 291 = .ok (.aload_n 0, 1) := by decide +kernel
theorem dX12_isBroken_292 : decode cX12_isBroken 292 = .ok (.getfield 72, 3) := by decide +kernel
theorem dX12_isBroken_295 : decode cX12_isBroken 295 = .ok (.iload_n 1, 1) := by decide +kernel
theorem dX12_isBroken_296 : decode cX12_isBroken 296 = .ok (.iaload, 1) := by decide +kernel
theorem dX12_isBroken_297 : decode cX12_isBroken 297 = .ok (.imul, 1) := by decide +kernel
theorem dX12_isBroken_298 : decode cX12_isBroken 298 = .ok (.aload_n 0, 1) := by decide +kernel
theorem dX12_isBroken_299 : decode cX12_isBroken 299 = .ok (.getfield 69, 3) := by decide +kernel
theorem dX12_isBroken_302 : decode cX12_isBroken 302 = .ok (.iload_n 1, 1) := by decide +kernel
theorem dX12_isBroken_303 : decode cX12_isBroken 303 = .ok (.iaload, 1) := by decide +kernel
theorem dX12_isBroken_304 : decode cX12_isBroken 304 = .ok (.aload_n 0, 1) := by decide +kernel
theorem dX12_isBroken_305 : decode cX12_isBroken 305 = .ok (.iconst 3, 1) := by decide +kernel
theorem dX12_isBroken_306 : decode cX12_isBroken 306 = .ok (.invokevirtual 161, 3) := by decide +kernel
theorem dX12_isBroken_309 : decode cX12_isBroken 309 = .ok (.imul, 1) := by decide +kernel
theorem dX12_isBroken_310 : decode cX12_isBroken 310 = .ok (.if_icmp .ge 7, 3) := by decide +kernel
theorem dX12_isBroken_313 : decode cX12_isBroken 313 = .ok (.iconst 1, 1) := by decide +kernel
theorem dX12_isBroken_314 : decode cX12_isBroken 314 = .ok (.goto 4, 3) := by decide +kernel
theorem dX12_isBroken_317 : decode cX12_isBroken 317 = .ok (.iconst 0, 1) := by decide +kernel
theorem dX12_isBroken_318 : decode cX12_isBroken 318 = .ok (.ireturn, 1) := by decide +kernel
theorem dX12_broken_0 : decode cX12_broken 0 = .ok (.aload_n 0, 1) := by decide +kernel
theorem dX12_broken_1 : decode cX12_broken 1 = .ok (.iconst 0, 1) := by decide +kernel
theorem dX12_broken_2 : decode cX12_broken 2 = .ok (.putfield 96, 3) := by decide +kernel
theorem dX12_broken_5 : decode cX12_broken 5 = .ok (.iload_n 1, 1) := by decide +kernel
theorem dX12_broken_6 : decode cX12_broken 6 = .ok (.ifCond .ge 5, 3) := by decide +kernel
theorem dX12_broken_9 : decode cX12_broken 9 = .ok (.iconst (-1), 1) := by decide +kernel
theorem dX12_broken_10 : decode cX12_broken 10 = .ok (.ireturn, 1) := by decide +kernel
theorem dX12_broken_11 : decode cX12_broken 11 = .ok (.aload_n 0, 1) := by decide +kernel
theorem dX12_broken_12 : decode cX12_broken 12 = .ok (.invokevirtual 145, 3) := by decide +kernel
theorem dX12_broken_15 : decode cX12_broken 15 = .ok (.aload_n 0, 1) := by decide +kernel
theorem dX12_broken_16 : decode cX12_broken 16 = .ok (.invokevirtual 173, 3) := by decide +kernel
theorem dX12_broken_19 : decode cX12_broken 19 = .ok (.iload_n 1, 1) := by decide +kernel
theorem dX12_broken_20 : decode cX12_broken 20 = .ok (.istore_n 2, 1) := by decide +kernel
theorem dX12_broken_21 : decode cX12_broken 21 = .ok (.iload_n 2, 1) := by decide +kernel
theorem dX12_broken_22 : decode cX12_broken 22 = .ok (.aload_n 0, 1) := by decide +kernel
theorem dX12_broken_23 : decode cX12_broken 23 = .ok (.getfield 250, 3) := by decide +kernel
theorem dX12_broken_26 : decode cX12_broken 26 = .ok (.if_icmp .ge 19, 3) := by decide +kernel
theorem dX12_broken_29 : decode cX12_broken 29 = .ok (.aload_n 0, 1) := by decide +kernel
theorem dX12_broken_30 : decode cX12_broken 30 = .ok (.iload_n 2, 1) := by decide +kernel
theorem dX12_broken_31 : decode cX12_broken 31 = .ok (.invokevirtual 253, 3) := by decide +kernel
theorem dX12_broken_34 : decode cX12_broken 34 = .ok (.ifCond .eq 5, 3) := by decide +kernel
theorem dX12_broken_37 : decode cX12_broken 37 = .ok (.iload_n 2, 1) := by decide +kernel
theorem dX12_broken_38 : decode cX12_broken 38 = .ok (.ireturn, 1) := by decide +kernel
theorem dX12_broken_39 : decode cX12_broken 39 = .ok (.iinc 2 1, 3) := by decide +kernel
theorem dX12_broken_42 : decode cX12_broken 42 = .ok (.goto (-21), 3) := by decide +kernel
theorem dX12_broken_45 : decode cX12_broken 45 = .ok (.iconst (-1), 1) := by decide +kernel
theorem dX12_broken_46 : decode cX12_broken 46 = .ok (.ireturn, 1) := by decide +kernel
theorem dX12_isVessel_0 : decode cX12_isVessel 0 = .ok (.iload_n 1, 1) := by decide +kernel
theorem dX12_isVessel_1 : decode cX12_isVessel 1 = .ok (.i2l, 1) := by decide +kernel
theorem dX12_isVessel_2 : decode cX12_isVessel 2 = .ok (.lconst 0, 1) := by decide +kernel
theorem dX12_isVessel_3 : decode cX12_isVessel 3 = .ok (.aload_n 0, 1) := by decide +kernel
theorem dX12_isVessel_4 : decode cX12_isVessel 4 = .ok (.getfield 256, 3) := by decide +kernel
theorem dX12_isVessel_7 : decode cX12_isVessel 7 = .ok (.i2l, 1) := by decide +kernel
theorem dX12_isVessel_8 : decode cX12_isVessel 8 = .ok (.lconst 1, 1) := by decide +kernel
theorem dX12_isVessel_9 : decode cX12_isVessel 9 = .ok (.lsub, 1) := by decide +kernel
theorem dX12_isVessel_10 : decode cX12_isVessel 10 = .ok (.invokestatic 102, 3) := by decide +kernel
theorem dX12_isVessel_13 : decode cX12_isVessel 13 = .ok (.ireturn, 1) := by decide +kernel
theorem dX12_vessel_0 : decode cX12_vessel 0 = .ok (.aload_n 0, 1) := by decide +kernel
theorem dX12_vessel_1 : decode cX12_vessel 1 = .ok (.iconst 0, 1) := by decide +kernel
theorem dX12_vessel_2 : decode cX12_vessel 2 = .ok (.putfield 96, 3) := by decide +kernel
theorem dX12_vessel_5 : decode cX12_vessel 5 = .ok (.iload_n 1, 1) := by decide +kernel
theorem dX12_vessel_6 : decode cX12_vessel 6 = .ok (.i2l, 1) := by decide +kernel
theorem dX12_vessel_7 : decode cX12_vessel 7 = .ok (.lconst 0, 1) := by decide +kernel
theorem dX12_vessel_8 : decode cX12_vessel 8 = .ok (.ldc2_w 259, 3) := by decide +kernel
theorem dX12_vessel_11 : decode cX12_vessel 11 = .ok (.invokestatic 102, 3) := by decide +kernel
theorem dX12_vessel_14 : decode cX12_vessel 14 = .ok (.ifCond .ne 9, 3) := by decide +kernel
theorem dX12_vessel_17 : decode cX12_vessel 17 = .ok (.aload_n 0, 1) := by decide +kernel
theorem dX12_vessel_18 : decode cX12_vessel 18 = .ok (.iconst (-1), 1) := by decide +kernel
theorem dX12_vessel_19 : decode cX12_vessel 19 = .ok (.invokevirtual 113, 3) := by decide +kernel
theorem dX12_vessel_22 : decode cX12_vessel 22 = .ok (.ireturn, 1) := by decide +kernel
theorem dX12_vessel_23 : decode cX12_vessel 23 = .ok (.aload_n 0, 1) := by decide +kernel
theorem dX12_vessel_24 : decode cX12_vessel 24 = .ok (.getfield 256, 3) := by decide +kernel
theorem dX12_vessel_27 : decode cX12_vessel 27 = .ok (.bipush 40, 2) := by decide +kernel
theorem dX12_vessel_29 : decode cX12_vessel 29 = .ok (.if_icmp .ne 10, 3) := by decide +kernel
theorem dX12_vessel_32 : decode cX12_vessel 32 = .ok (.aload_n 0, 1) := by decide +kernel
theorem dX12_vessel_33 : decode cX12_vessel 33 = .ok (.bipush (-5), 2) := by decide +kernel
theorem dX12_vessel_35 : decode cX12_vessel 35 = .ok (.invokevirtual 113, 3) := by decide +kernel
theorem dX12_vessel_38 : decode cX12_vessel 38 = .ok (.ireturn, 1) := by decide +kernel
theorem dX12_vessel_39 : decode cX12_vessel 39 = .ok (.iload_n 1, 1) := by decide +kernel
theorem dX12_vessel_40 : decode cX12_vessel 40 = .ok (.istore_n 2, 1) := by decide +kernel
theorem dX12_vessel_41 : decode cX12_vessel 41 = .ok (.iconst 0, 1) := by decide +kernel
theorem dX12_vessel_42 : decode cX12_vessel 42 = .ok (.istore_n 3, 1) := by decide +kernel
theorem dX12_vessel_43 : decode cX12_vessel 43 = .ok (.iload_n 3, 1) := by decide +kernel
theorem dX12_vessel_44 : decode cX12_vessel 44 = .ok (.bipush 8, 2) := by decide +kernel
theorem dX12_vessel_46 : decode cX12_vessel 46 = .ok (.if_icmp .ge 32, 3) := by decide +kernel
theorem dX12_vessel_49 : decode cX12_vessel 49 = .ok (.aload_n 0, 1) := by decide +kernel
theorem dX12_vessel_50 : decode cX12_vessel 50 = .ok (.getfield 84, 3) := by decide +kernel
theorem dX12_vessel_53 : decode cX12_vessel 53 = .ok (.bipush 8, 2) := by decide +kernel
theorem dX12_vessel_55 : decode cX12_vessel 55 = .ok (.aload_n 0, 1) := by decide +kernel
theorem dX12_vessel_56 : decode cX12_vessel 56 = .ok (.getfield 256, 3) := by decide +kernel
theorem dX12_vessel_59 : decode cX12_vessel 59 = .ok (.imul, 1) := by decide +kernel
theorem dX12_vessel_60 : decode cX12_vessel 60 = .ok (.iload_n 3, 1) := by decide +kernel
theorem dX12_vessel_61 : decode cX12_vessel 61 = .ok (.iadd, 1) := by decide +kernel
theorem dX12_vessel_62 : decode cX12_vessel 62 = .ok (.iload_n 2, 1) := by decide +kernel
theorem dX12_vessel_63 : decode cX12_vessel 63 = .ok (.bipush 10, 2) := by decide +kernel
theorem dX12_vessel_65 : decode cX12_vessel 65 = .ok (.irem, 1) := by decide +kernel
theorem dX12_vessel_66 : decode cX12_vessel 66 = .ok (.iastore, 1) := by decide +kernel
theorem dX12_vessel_67 : decode cX12_vessel 67 = .ok (.iload_n 2, 1) := by decide +kernel
theorem dX12_vessel_68 : decode cX12_vessel 68 = .ok (.bipush 10, 2) := by decide +kernel
theorem dX12_vessel_70 : decode cX12_vessel 70 = .ok (.idiv, 1) := by decide +kernel
theorem dX12_vessel_71 : decode cX12_vessel 71 = .ok (.istore_n 2, 1) := by decide +kernel
theorem dX12_vessel_72 : decode cX12_vessel 72 = .ok (.iinc 3 1, 3) := by decide +kernel
theorem dX12_vessel_75 : decode cX12_vessel 75 = .ok (.goto (-32), 3) := by decide +kernel
theorem dX12_vessel_78 : decode cX12_vessel 78 = .ok (.aload_n 0, 1) := by decide +kernel
theorem dX12_vessel_79 : decode cX12_vessel 79 = .ok (.dup, 1) := by decide +kernel
theorem dX12_vessel_80 : decode cX12_vessel 80 = .ok (.getfield 256, 3) := by decide +kernel
theorem dX12_vessel_83 : decode cX12_vessel 83 = .ok (.iconst 1, 1) := by decide +kernel
theorem dX12_vessel_84 : decode cX12_vessel 84 = .ok (.iadd, 1) := by decide +kernel
theorem dX12_vessel_85 : decode cX12_vessel 85 = .ok (.putfield 256, 3) := by decide +kernel
theorem dX12_vessel_88 : decode cX12_vessel 88 = .ok (.aload_n 0, 1) := by decide +kernel
theorem dX12_vessel_89 : decode cX12_vessel 89 = .ok (.aload_n 0, 1) := by decide +kernel
theorem dX12_vessel_90 : decode cX12_vessel 90 = .ok (.getfield 256, 3) := by decide +kernel
theorem dX12_vessel_93 : decode cX12_vessel 93 = .ok (.iconst 1, 1) := by decide +kernel
theorem dX12_vessel_94 : decode cX12_vessel 94 = .ok (.isub, 1) := by decide +kernel
theorem dX12_vessel_95 : decode cX12_vessel 95 = .ok (.invokevirtual 113, 3) := by decide +kernel
theorem dX12_vessel_98 : decode cX12_vessel 98 = .ok (.ireturn, 1) := by decide +kernel
theorem dX12_likeness_0 : decode cX12_likeness 0 = .ok (.iconst 0, 1) := by decide +kernel
theorem dX12_likeness_1 : decode cX12_likeness 1 = .ok (.istore_n 3, 1) := by decide +kernel
theorem dX12_likeness_2 : decode cX12_likeness 2 = .ok (.iconst 0, 1) := by decide +kernel
theorem dX12_likeness_3 : decode cX12_likeness 3 = .ok (.istore 4, 2) := by decide +kernel
theorem dX12_likeness_5 : decode cX12_likeness 5 = .ok (.iload 4, 2) := by decide +kernel
theorem dX12_likeness_7 : decode cX12_likeness 7 = .ok (.bipush 8, 2) := by decide +kernel
theorem dX12_likeness_9 : decode cX12_likeness 9 = .ok (.if_icmp .ge 66, 3) := by decide +kernel
theorem dX12_likeness_12 : decode cX12_likeness 12 = .ok (.aload_n 0, 1) := by decide +kernel
theorem dX12_likeness_13 : decode cX12_likeness 13 = .ok (.getfield 84, 3) := by decide +kernel
theorem dX12_likeness_16 : decode cX12_likeness 16 = .ok (.bipush 8, 2) := by decide +kernel
theorem dX12_likeness_18 : decode cX12_likeness 18 = .ok (.iload_n 1, 1) := by decide +kernel
theorem dX12_likeness_19 : decode cX12_likeness 19 = .ok (.imul, 1) := by decide +kernel
theorem dX12_likeness_20 : decode cX12_likeness 20 = .ok (.iload 4, 2) := by decide +kernel
theorem dX12_likeness_22 : decode cX12_likeness 22 = .ok (.iadd, 1) := by decide +kernel
theorem dX12_likeness_23 : decode cX12_likeness 23 = .ok (.iaload, 1) := by decide +kernel
theorem dX12_likeness_24 : decode cX12_likeness 24 = .ok (.istore 5, 2) := by decide +kernel
theorem dX12_likeness_26 : decode cX12_likeness 26 = .ok (.aload_n 0, 1) := by decide +kernel
theorem dX12_likeness_27 : decode cX12_likeness 27 = .ok (.getfield 84, 3) := by decide +kernel
theorem dX12_likeness_30 : decode cX12_likeness 30 = .ok (.bipush 8, 2) := by decide +kernel
theorem dX12_likeness_32 : decode cX12_likeness 32 = .ok (.iload_n 2, 1) := by decide +kernel
theorem dX12_likeness_33 : decode cX12_likeness 33 = .ok (.imul, 1) := by decide +kernel
theorem dX12_likeness_34 : decode cX12_likeness 34 = .ok (.iload 4, 2) := by decide +kernel
theorem dX12_likeness_36 : decode cX12_likeness 36 = .ok (.iadd, 1) := by decide +kernel
theorem dX12_likeness_37 : decode cX12_likeness 37 = .ok (.iaload, 1) := by decide +kernel
theorem dX12_likeness_38 : decode cX12_likeness 38 = .ok (.istore 6, 2) := by decide +kernel
theorem dX12_likeness_40 : decode cX12_likeness 40 = .ok (.iload_n 3, 1) := by decide +kernel
theorem dX12_likeness_41 : decode cX12_likeness 41 = .ok (.iload 5, 2) := by decide +kernel
theorem dX12_likeness_43 : decode cX12_likeness 43 = .ok (.ifCond .eq 8, 3) := by decide +kernel
theorem dX12_likeness_46 : decode cX12_likeness 46 = .ok (.iload 6, 2) := by decide +kernel
theorem dX12_likeness_48 : decode cX12_likeness 48 = .ok (.ifCond .ne 7, 3) := by decide +kernel
theorem dX12_likeness_51 : decode cX12_likeness 51 = .ok (.iconst 0, 1) := by decide +kernel
theorem dX12_likeness_52 : decode cX12_likeness 52 = .ok (.goto 15, 3) := by decide +kernel
theorem dX12_likeness_55 : decode cX12_likeness 55 = .ok (.iload 5, 2) := by decide +kernel
theorem dX12_likeness_57 : decode cX12_likeness 57 = .ok (.iload 6, 2) := by decide +kernel
theorem dX12_likeness_59 : decode cX12_likeness 59 = .ok (.if_icmp .ne 7, 3) := by decide +kernel
theorem dX12_likeness_62 : decode cX12_likeness 62 = .ok (.iconst 1, 1) := by decide +kernel
theorem dX12_likeness_63 : decode cX12_likeness 63 = .ok (.goto 4, 3) := by decide +kernel
theorem dX12_likeness_66 : decode cX12_likeness 66 = .ok (.iconst (-1), 1) := by decide +kernel
theorem dX12_likeness_67 : decode cX12_likeness 67 = .ok (.iadd, 1) := by decide +kernel
theorem dX12_likeness_68 : decode cX12_likeness 68 = .ok (.istore_n 3, 1) := by decide +kernel
theorem dX12_likeness_69 : decode cX12_likeness 69 = .ok (.iinc 4 1, 3) := by decide +kernel
theorem dX12_likeness_72 : decode cX12_likeness 72 = .ok (.goto (-67), 3) := by decide +kernel
theorem dX12_likeness_75 : decode cX12_likeness 75 = .ok (.iload_n 3, 1) := by decide +kernel
theorem dX12_likeness_76 : decode cX12_likeness 76 = .ok (.ireturn, 1) := by decide +kernel
theorem dX12_like_0 : decode cX12_like 0 = .ok (.aload_n 0, 1) := by decide +kernel
theorem dX12_like_1 : decode cX12_like 1 = .ok (.iconst 0, 1) := by decide +kernel
theorem dX12_like_2 : decode cX12_like 2 = .ok (.putfield 96, 3) := by decide +kernel
theorem dX12_like_5 : decode cX12_like 5 = .ok (.aload_n 0, 1) := by decide +kernel
theorem dX12_like_6 : decode cX12_like 6 = .ok (.iload_n 1, 1) := by decide +kernel
theorem dX12_like_7 : decode cX12_like 7 = .ok (.invokevirtual 261, 3) := by decide +kernel
theorem dX12_like_10 : decode cX12_like 10 = .ok (.ifCond .eq 20, 3) := by decide +kernel
theorem dX12_like_13 : decode cX12_like 13 = .ok (.aload_n 0, 1) := by decide +kernel
theorem dX12_like_14 : decode cX12_like 14 = .ok (.iload_n 2, 1) := by decide +kernel
theorem dX12_like_15 : decode cX12_like 15 = .ok (.invokevirtual 261, 3) := by decide +kernel
theorem dX12_like_18 : decode cX12_like 18 = .ok (.ifCond .eq 12, 3) := by decide +kernel
theorem dX12_like_21 : decode cX12_like 21 = .ok (.aload_n 0, 1) := by decide +kernel
theorem dX12_like_22 : decode cX12_like 22 = .ok (.iload_n 1, 1) := by decide +kernel
theorem dX12_like_23 : decode cX12_like 23 = .ok (.iload_n 2, 1) := by decide +kernel
theorem dX12_like_24 : decode cX12_like 24 = .ok (.invokevirtual 264, 3) := by decide +kernel
theorem dX12_like_27 : decode cX12_like 27 = .ok (.goto 6, 3) := by decide +kernel
theorem dX12_like_30 : decode cX12_like 30 = .ok (.sipush (-1000), 3) := by decide +kernel
theorem dX12_like_33 : decode cX12_like 33 = .ok (.ireturn, 1) := by decide +kernel
theorem dX12_tell_0 : decode cX12_tell 0 = .ok (.aload_n 0, 1) := by decide +kernel
theorem dX12_tell_1 : decode cX12_tell 1 = .ok (.iconst 0, 1) := by decide +kernel
theorem dX12_tell_2 : decode cX12_tell 2 = .ok (.putfield 96, 3) := by decide +kernel
theorem dX12_tell_5 : decode cX12_tell 5 = .ok (.iload_n 2, 1) := by decide +kernel
theorem dX12_tell_6 : decode cX12_tell 6 = .ok (.i2l, 1) := by decide +kernel
theorem dX12_tell_7 : decode cX12_tell 7 = .ok (.ldc2_w 216, 3) := by decide +kernel
theorem dX12_tell_10 : decode cX12_tell 10 = .ok (.ldc2_w 267, 3) := by decide +kernel
theorem dX12_tell_13 : decode cX12_tell 13 = .ok (.invokestatic 102, 3) := by decide +kernel
theorem dX12_tell_16 : decode cX12_tell 16 = .ok (.ifCond .eq 15, 3) := by decide +kernel
theorem dX12_tell_19 : decode cX12_tell 19 = .ok (.iload_n 3, 1) := by decide +kernel
theorem dX12_tell_20 : decode cX12_tell 20 = .ok (.i2l, 1) := by decide +kernel
theorem dX12_tell_21 : decode cX12_tell 21 = .ok (.lconst 0, 1) := by decide +kernel
theorem dX12_tell_22 : decode cX12_tell 22 = .ok (.ldc2_w 269, 3) := by decide +kernel
theorem dX12_tell_25 : decode cX12_tell 25 = .ok (.invokestatic 102, 3) := by decide +kernel
theorem dX12_tell_28 : decode cX12_tell 28 = .ok (.ifCond .ne 9, 3) := by decide +kernel
theorem dX12_tell_31 : decode cX12_tell 31 = .ok (.aload_n 0, 1) := by decide +kernel
theorem dX12_tell_32 : decode cX12_tell 32 = .ok (.iconst (-1), 1) := by decide +kernel
theorem dX12_tell_33 : decode cX12_tell 33 = .ok (.invokevirtual 113, 3) := by decide +kernel
theorem dX12_tell_36 : decode cX12_tell 36 = .ok (.ireturn, 1) := by decide +kernel
theorem dX12_tell_37 : decode cX12_tell 37 = .ok (.aload_n 0, 1) := by decide +kernel
theorem dX12_tell_38 : decode cX12_tell 38 = .ok (.iload_n 1, 1) := by decide +kernel
theorem dX12_tell_39 : decode cX12_tell 39 = .ok (.invokevirtual 261, 3) := by decide +kernel
theorem dX12_tell_42 : decode cX12_tell 42 = .ok (.ifCond .ne 10, 3) := by decide +kernel
theorem dX12_tell_45 : decode cX12_tell 45 = .ok (.aload_n 0, 1) := by decide +kernel
theorem dX12_tell_46 : decode cX12_tell 46 = .ok (.bipush (-2), 2) := by decide +kernel
theorem dX12_tell_48 : decode cX12_tell 48 = .ok (.invokevirtual 113, 3) := by decide +kernel
theorem dX12_tell_51 : decode cX12_tell 51 = .ok (.ireturn, 1) := by decide +kernel
theorem dX12_tell_52 : decode cX12_tell 52 = .ok (.aload_n 0, 1) := by decide +kernel
theorem dX12_tell_53 : decode cX12_tell 53 = .ok (.getfield 271, 3) := by decide +kernel
theorem dX12_tell_56 : decode cX12_tell 56 = .ok (.sipush 150, 3) := by decide +kernel
theorem dX12_tell_59 : decode cX12_tell 59 = .ok (.if_icmp .ne 10, 3) := by decide +kernel
theorem dX12_tell_62 : decode cX12_tell 62 = .ok (.aload_n 0, 1) := by decide +kernel
theorem dX12_tell_63 : decode cX12_tell 63 = .ok (.bipush (-5), 2) := by decide +kernel
theorem dX12_tell_65 : decode cX12_tell 65 = .ok (.invokevirtual 113, 3) := by decide +kernel
theorem dX12_tell_68 : decode cX12_tell 68 = .ok (.ireturn, 1) := by decide +kernel
theorem dX12_tell_69 : decode cX12_tell 69 = .ok (.aload_n 0, 1) := by decide +kernel
theorem dX12_tell_70 : decode cX12_tell 70 = .ok (.getfield 87, 3) := by decide +kernel
theorem dX12_tell_73 : decode cX12_tell 73 = .ok (.aload_n 0, 1) := by decide +kernel
theorem dX12_tell_74 : decode cX12_tell 74 = .ok (.getfield 271, 3) := by decide +kernel
theorem dX12_tell_77 : decode cX12_tell 77 = .ok (.iload_n 1, 1) := by decide +kernel
theorem dX12_tell_78 : decode cX12_tell 78 = .ok (.iastore, 1) := by decide +kernel
theorem dX12_tell_79 : decode cX12_tell 79 = .ok (.aload_n 0, 1) := by decide +kernel
theorem dX12_tell_80 : decode cX12_tell 80 = .ok (.getfield 90, 3) := by decide +kernel
theorem dX12_tell_83 : decode cX12_tell 83 = .ok (.aload_n 0, 1) := by decide +kernel
theorem dX12_tell_84 : decode cX12_tell 84 = .ok (.getfield 271, 3) := by decide +kernel
theorem dX12_tell_87 : decode cX12_tell 87 = .ok (.iload_n 2, 1) := by decide +kernel
theorem dX12_tell_88 : decode cX12_tell 88 = .ok (.iastore, 1) := by decide +kernel
theorem dX12_tell_89 : decode cX12_tell 89 = .ok (.aload_n 0, 1) := by decide +kernel
theorem dX12_tell_90 : decode cX12_tell 90 = .ok (.getfield 93, 3) := by decide +kernel
theorem dX12_tell_93 : decode cX12_tell 93 = .ok (.aload_n 0, 1) := by decide +kernel
theorem dX12_tell_94 : decode cX12_tell 94 = .ok (.getfield 271, 3) := by decide +kernel
theorem dX12_tell_97 : decode cX12_tell 97 = .ok (.iload_n 3, 1) := by decide +kernel
theorem dX12_tell_98 : decode cX12_tell 98 = .ok (.iastore, 1) := by decide +kernel
theorem dX12_tell_99 : decode cX12_tell 99 = .ok (.aload_n 0, 1) := by decide +kernel
theorem dX12_tell_100 : decode cX12_tell 100 = .ok (.dup, 1) := by decide +kernel
theorem dX12_tell_101 : decode cX12_tell 101 = .ok (.getfield 271, 3) := by decide +kernel
theorem dX12_tell_104 : decode cX12_tell 104 = .ok (.iconst 1, 1) := by decide +kernel
theorem dX12_tell_105 : decode cX12_tell 105 = .ok (.iadd, 1) := by decide +kernel
theorem dX12_tell_106 : decode cX12_tell 106 = .ok (.putfield 271, 3) := by decide +kernel
theorem dX12_tell_109 : decode cX12_tell 109 = .ok (.aload_n 0, 1) := by decide +kernel
theorem dX12_tell_110 : decode cX12_tell 110 = .ok (.aload_n 0, 1) := by decide +kernel
theorem dX12_tell_111 : decode cX12_tell 111 = .ok (.getfield 271, 3) := by decide +kernel
theorem dX12_tell_114 : decode cX12_tell 114 = .ok (.invokevirtual 113, 3) := by decide +kernel
theorem dX12_tell_117 : decode cX12_tell 117 = .ok (.ireturn, 1) := by decide +kernel
theorem dX12_shopOf_0 : decode cX12_shopOf 0 = .ok (.iconst (-1), 1) := by decide +kernel
theorem dX12_shopOf_1 : decode cX12_shopOf 1 = .ok (.istore_n 3, 1) := by decide +kernel
theorem dX12_shopOf_2 : decode cX12_shopOf 2 = .ok (.iconst 0, 1) := by decide +kernel
theorem dX12_shopOf_3 : decode cX12_shopOf 3 = .ok (.istore 4, 2) := by decide +kernel
theorem dX12_shopOf_5 : decode cX12_shopOf 5 = .ok (.iload 4, 2) := by decide +kernel
theorem dX12_shopOf_7 : decode cX12_shopOf 7 = .ok (.aload_n 0, 1) := by decide +kernel
theorem dX12_shopOf_8 : decode cX12_shopOf 8 = .ok (.getfield 271, 3) := by decide +kernel
theorem dX12_shopOf_11 : decode cX12_shopOf 11 = .ok (.if_icmp .ge 43, 3) := by decide +kernel
theorem dX12_shopOf_14 : decode cX12_shopOf 14 = .ok (.aload_n 0, 1) := by decide +kernel
theorem dX12_shopOf_15 : decode cX12_shopOf 15 = .ok (.getfield 87, 3) := by decide +kernel
theorem dX12_shopOf_18 : decode cX12_shopOf 18 = .ok (.iload 4, 2) := by decide +kernel
theorem dX12_shopOf_20 : decode cX12_shopOf 20 = .ok (.iaload, 1) := by decide +kernel
theorem dX12_shopOf_21 : decode cX12_shopOf 21 = .ok (.iload_n 1, 1) := by decide +kernel
theorem dX12_shopOf_22 : decode cX12_shopOf 22 = .ok (.if_icmp .ne 24, 3) := by decide +kernel
theorem dX12_shopOf_25 : decode cX12_shopOf 25 = .ok (.aload_n 0, 1) := by decide +kernel
theorem dX12_shopOf_26 : decode cX12_shopOf 26 = .ok (.getfield 93, 3) := by decide +kernel
theorem dX12_shopOf_29 : decode cX12_shopOf 29 = .ok (.iload 4, 2) := by decide +kernel
theorem dX12_shopOf_31 : decode cX12_shopOf 31 = .ok (.iaload, 1) := by decide +kernel
theorem dX12_shopOf_32 : decode cX12_shopOf 32 = .ok (.iload_n 2, 1) := by decide +kernel
theorem dX12_shopOf_33 : decode cX12_shopOf 33 = .ok (.if_icmp .gt 13, 3) := by decide +kernel
theorem dX12_shopOf_36 : decode cX12_shopOf 36 = .ok (.aload_n 0, 1) := by decide +kernel
theorem dX12_shopOf_37 : decode cX12_shopOf 37 = .ok (.getfield 90, 3) := by decide +kernel
theorem dX12_shopOf_40 : decode cX12_shopOf 40 = .ok (.iload 4, 2) := by decide +kernel
theorem dX12_shopOf_42 : decode cX12_shopOf 42 = .ok (.iaload, 1) := by decide +kernel
theorem dX12_shopOf_43 : decode cX12_shopOf 43 = .ok (.goto 4, 3) := by decide +kernel
theorem dX12_shopOf_46 : decode cX12_shopOf 46 = .ok (.iload_n 3, 1) := by decide +kernel
theorem dX12_shopOf_47 : decode cX12_shopOf 47 = .ok (.istore_n 3, 1) := by decide +kernel
theorem dX12_shopOf_48 : decode cX12_shopOf 48 = .ok (.iinc 4 1, 3) := by decide +kernel
theorem dX12_shopOf_51 : decode cX12_shopOf 51 = .ok (.goto (-46), 3) := by decide +kernel
theorem dX12_shopOf_54 : decode cX12_shopOf 54 = .ok (.iload_n 3, 1) := by decide +kernel
theorem dX12_shopOf_55 : decode cX12_shopOf 55 = .ok (.ireturn, 1) := by decide +kernel
theorem dX12_of_0 : decode cX12_of 0 = .ok (.aload_n 0, 1) := by decide +kernel
theorem dX12_of_1 : decode cX12_of 1 = .ok (.iconst 0, 1) := by decide +kernel
theorem dX12_of_2 : decode cX12_of 2 = .ok (.putfield 96, 3) := by decide +kernel
theorem dX12_of_5 : decode cX12_of 5 = .ok (.aload_n 0, 1) := by decide +kernel
theorem dX12_of_6 : decode cX12_of 6 = .ok (.iload_n 1, 1) := by decide +kernel
theorem dX12_of_7 : decode cX12_of 7 = .ok (.invokevirtual 261, 3) := by decide +kernel
theorem dX12_of_10 : decode cX12_of 10 = .ok (.ifCond .eq 24, 3) := by decide +kernel
theorem dX12_of_13 : decode cX12_of 13 = .ok (.iload_n 2, 1) := by decide +kernel
theorem dX12_of_14 : decode cX12_of 14 = .ok (.i2l, 1) := by decide +kernel
theorem dX12_of_15 : decode cX12_of 15 = .ok (.lconst 0, 1) := by decide +kernel
theorem dX12_of_16 : decode cX12_of 16 = .ok (.ldc2_w 269, 3) := by decide +kernel
theorem dX12_of_19 : decode cX12_of 19 = .ok (.invokestatic 102, 3) := by decide +kernel
theorem dX12_of_22 : decode cX12_of 22 = .ok (.ifCond .eq 12, 3) := by decide +kernel
theorem dX12_of_25 : decode cX12_of 25 = .ok (.aload_n 0, 1) := by decide +kernel
theorem dX12_of_26 : decode cX12_of 26 = .ok (.iload_n 1, 1) := by decide +kernel
theorem dX12_of_27 : decode cX12_of 27 = .ok (.iload_n 2, 1) := by decide +kernel
theorem dX12_of_28 : decode cX12_of 28 = .ok (.invokevirtual 274, 3) := by decide +kernel
theorem dX12_of_31 : decode cX12_of 31 = .ok (.goto 5, 3) := by decide +kernel
theorem dX12_of_34 : decode cX12_of 34 = .ok (.bipush (-2), 2) := by decide +kernel
theorem dX12_of_36 : decode cX12_of 36 = .ok (.ireturn, 1) := by decide +kernel
theorem dX12_by_0 : decode cX12_by 0 = .ok (.aload_n 0, 1) := by decide +kernel
theorem dX12_by_1 : decode cX12_by 1 = .ok (.iconst 0, 1) := by decide +kernel
theorem dX12_by_2 : decode cX12_by 2 = .ok (.putfield 96, 3) := by decide +kernel
theorem dX12_by_5 : decode cX12_by 5 = .ok (.aload_n 0, 1) := by decide +kernel
theorem dX12_by_6 : decode cX12_by 6 = .ok (.iload_n 1, 1) := by decide +kernel
theorem dX12_by_7 : decode cX12_by 7 = .ok (.invokevirtual 261, 3) := by decide +kernel
theorem dX12_by_10 : decode cX12_by 10 = .ok (.ifCond .eq 15, 3) := by decide +kernel
theorem dX12_by_13 : decode cX12_by 13 = .ok (.iload_n 2, 1) := by decide +kernel
theorem dX12_by_14 : decode cX12_by 14 = .ok (.i2l, 1) := by decide +kernel
theorem dX12_by_15 : decode cX12_by 15 = .ok (.lconst 0, 1) := by decide +kernel
theorem dX12_by_16 : decode cX12_by 16 = .ok (.ldc2_w 269, 3) := by decide +kernel
theorem dX12_by_19 : decode cX12_by 19 = .ok (.invokestatic 102, 3) := by decide +kernel
theorem dX12_by_22 : decode cX12_by 22 = .ok (.ifCond .ne 6, 3) := by decide +kernel
theorem dX12_by_25 : decode cX12_by 25 = .ok (.bipush (-2), 2) := by decide +kernel
theorem dX12_by_27 : decode cX12_by 27 = .ok (.ireturn, 1) := by decide +kernel
theorem dX12_by_28 : decode cX12_by 28 = .ok (.iconst (-1), 1) := by decide +kernel
theorem dX12_by_29 : decode cX12_by 29 = .ok (.istore_n 3, 1) := by decide +kernel
theorem dX12_by_30 : decode cX12_by 30 = .ok (.iconst 0, 1) := by decide +kernel
theorem dX12_by_31 : decode cX12_by 31 = .ok (.istore 4, 2) := by decide +kernel
theorem dX12_by_33 : decode cX12_by 33 = .ok (.iconst 1, 1) := by decide +kernel
theorem dX12_by_34 : decode cX12_by 34 = .ok (.istore 5, 2) := by decide +kernel
theorem dX12_by_36 : decode cX12_by 36 = .ok (.iconst 0, 1) := by decide +kernel
theorem dX12_by_37 : decode cX12_by 37 = .ok (.istore 6, 2) := by decide +kernel
theorem dX12_by_39 : decode cX12_by 39 = .ok (.iload 6, 2) := by decide +kernel
theorem dX12_by_41 : decode cX12_by 41 = .ok (.bipush 8, 2) := by decide +kernel
theorem dX12_by_43 : decode cX12_by 43 = .ok (.if_icmp .ge 99, 3) := by decide +kernel
theorem dX12_by_46 : decode cX12_by 46 = .ok (.iconst 0, 1) := by decide +kernel
theorem dX12_by_47 : decode cX12_by 47 = .ok (.istore 7, 2) := by decide +kernel
theorem dX12_by_49 : decode cX12_by 49 = .ok (.iconst 0, 1) := by decide +kernel
theorem dX12_by_50 : decode cX12_by 50 = .ok (.istore 8, 2) := by decide +kernel
theorem dX12_by_52 : decode cX12_by 52 = .ok (.iconst 0, 1) := by decide +kernel
theorem dX12_by_53 : decode cX12_by 53 = .ok (.istore 9, 2) := by decide +kernel
theorem dX12_by_55 : decode cX12_by 55 = .ok (.iload 9, 2) := by decide +kernel
theorem dX12_by_57 : decode cX12_by 57 = .ok (.aload_n 0, 1) := by decide +kernel
theorem dX12_by_58 : decode cX12_by 58 = .ok (.getfield 256, 3) := by decide +kernel
theorem dX12_by_61 : decode cX12_by 61 = .ok (.if_icmp .ge 42, 3) := by decide +kernel
theorem dX12_by_64 : decode cX12_by 64 = .ok (.iload 9, 2) := by decide +kernel
theorem dX12_by_66 : decode cX12_by 66 = .ok (.iload_n 1, 1) := by decide +kernel
theorem dX12_by_67 : decode cX12_by 67 = .ok (.if_icmp .eq 30, 3) := by decide +kernel
theorem dX12_by_70 : decode cX12_by 70 = .ok (.aload_n 0, 1) := by decide +kernel
theorem dX12_by_71 : decode cX12_by 71 = .ok (.iload 9, 2) := by decide +kernel
theorem dX12_by_73 : decode cX12_by 73 = .ok (.iload_n 2, 1) := by decide +kernel
theorem dX12_by_74 : decode cX12_by 74 = .ok (.invokevirtual 274, 3) := by decide +kernel
theorem dX12_by_77 : decode cX12_by 77 = .ok (.iload 6, 2) := by decide +kernel
theorem dX12_by_79 : decode cX12_by 79 = .ok (.if_icmp .ne 18, 3) := by decide +kernel
theorem dX12_by_82 : decode cX12_by 82 = .ok (.iload 7, 2) := by decide +kernel
theorem dX12_by_84 : decode cX12_by 84 = .ok (.aload_n 0, 1) := by decide +kernel
theorem dX12_by_85 : decode cX12_by 85 = .ok (.iload 9, 2) := by decide +kernel
theorem dX12_by_87 : decode cX12_by 87 = .ok (.iload_n 1, 1) := by decide +kernel
theorem dX12_by_88 : decode cX12_by 88 = .ok (.invokevirtual 264, 3) := by decide +kernel
theorem dX12_by_91 : decode cX12_by 91 = .ok (.iadd, 1) := by decide +kernel
theorem dX12_by_92 : decode cX12_by 92 = .ok (.istore 7, 2) := by decide +kernel
theorem dX12_by_94 : decode cX12_by 94 = .ok (.iinc 8 1, 3) := by decide +kernel
theorem dX12_by_97 : decode cX12_by 97 = .ok (.iinc 9 1, 3) := by decide +kernel
theorem dX12_by_100 : decode cX12_by 100 = .ok (.goto (-45), 3) := by decide +kernel
theorem dX12_by_103 : decode cX12_by 103 = .ok (.iload 8, 2) := by decide +kernel
theorem dX12_by_105 : decode cX12_by 105 = .ok (.ifCond .le 31, 3) := by decide +kernel
theorem dX12_by_108 : decode cX12_by 108 = .ok (.iload_n 3, 1) := by decide +kernel
theorem dX12_by_109 : decode cX12_by 109 = .ok (.ifCond .lt 16, 3) := by decide +kernel
theorem dX12_by_112 : decode cX12_by 112 = .ok (.iload 7, 2) := by decide +kernel
theorem dX12_by_114 : decode cX12_by 114 = .ok (.iload 5, 2) := by decide +kernel
theorem dX12_by_116 : decode cX12_by 116 = .ok (.imul, 1) := by decide +kernel
theorem dX12_by_117 : decode cX12_by 117 = .ok (.iload 4, 2) := by decide +kernel
theorem dX12_by_119 : decode cX12_by 119 = .ok (.iload 8, 2) := by decide +kernel
theorem dX12_by_121 : decode cX12_by 121 = .ok (.imul, 1) := by decide +kernel
theorem dX12_by_122 : decode cX12_by 122 = .ok (.if_icmp .le 14, 3) := by decide +kernel
theorem dX12_by_125 : decode cX12_by 125 = .ok (.iload 6, 2) := by decide +kernel
theorem dX12_by_127 : decode cX12_by 127 = .ok (.istore_n 3, 1) := by decide +kernel
theorem dX12_by_128 : decode cX12_by 128 = .ok (.iload 7, 2) := by decide +kernel
theorem dX12_by_130 : decode cX12_by 130 = .ok (.istore 4, 2) := by decide +kernel
theorem dX12_by_132 : decode cX12_by 132 = .ok (.iload 8, 2) := by decide +kernel
theorem dX12_by_134 : decode cX12_by 134 = .ok (.istore 5, 2) := by decide +kernel
theorem dX12_by_136 : decode cX12_by 136 = .ok (.iinc 6 1, 3) := by decide +kernel
theorem dX12_by_139 : decode cX12_by 139 = .ok (.goto (-100), 3) := by decide +kernel
theorem dX12_by_142 : decode cX12_by 142 = .ok (.iload_n 3, 1) := by decide +kernel
theorem dX12_by_143 : decode cX12_by 143 = .ok (.ireturn, 1) := by decide +kernel
theorem dX12_count_0 : decode cX12_count 0 = .ok (.aload_n 0, 1) := by decide +kernel
theorem dX12_count_1 : decode cX12_count 1 = .ok (.iconst 0, 1) := by decide +kernel
theorem dX12_count_2 : decode cX12_count 2 = .ok (.putfield 96, 3) := by decide +kernel
theorem dX12_count_5 : decode cX12_count 5 = .ok (.iload_n 1, 1) := by decide +kernel
theorem dX12_count_6 : decode cX12_count 6 = .ok (.tableswitch 77 0 6 #[42, 47, 52, 57, 62, 67, 72], 42) := by decide +kernel
theorem dX12_count_48 : decode cX12_count 48 = .ok (.aload_n 0, 1) := by decide +kernel
theorem dX12_count_49 : decode cX12_count 49 = .ok (.getfield 7, 3) := by decide +kernel
theorem dX12_count_52 : decode cX12_count 52 = .ok (.ireturn, 1) := by decide +kernel
theorem dX12_count_53 : decode cX12_count 53 = .ok (.aload_n 0, 1) := by decide +kernel
theorem dX12_count_54 : decode cX12_count 54 = .ok (.getfield 13, 3) := by decide +kernel
theorem dX12_count_57 : decode cX12_count 57 = .ok (.ireturn, 1) := by decide +kernel
theorem dX12_count_58 : decode cX12_count 58 = .ok (.aload_n 0, 1) := by decide +kernel
theorem dX12_count_59 : decode cX12_count 59 = .ok (.getfield 180, 3) := by decide +kernel
theorem dX12_count_62 : decode cX12_count 62 = .ok (.ireturn, 1) := by decide +kernel
theorem dX12_count_63 : decode cX12_count 63 = .ok (.aload_n 0, 1) := by decide +kernel
theorem dX12_count_64 : decode cX12_count 64 = .ok (.getfield 250, 3) := by decide +kernel
theorem dX12_count_67 : decode cX12_count 67 = .ok (.ireturn, 1) := by decide +kernel
theorem dX12_count_68 : decode cX12_count 68 = .ok (.aload_n 0, 1) := by decide +kernel
theorem dX12_count_69 : decode cX12_count 69 = .ok (.getfield 256, 3) := by decide +kernel
theorem dX12_count_72 : decode cX12_count 72 = .ok (.ireturn, 1) := by decide +kernel
theorem dX12_count_73 : decode cX12_count 73 = .ok (.aload_n 0, 1) := by decide +kernel
theorem dX12_count_74 : decode cX12_count 74 = .ok (.getfield 271, 3) := by decide +kernel
theorem dX12_count_77 : decode cX12_count 77 = .ok (.ireturn, 1) := by decide +kernel
theorem dX12_count_78 : decode cX12_count 78 = .ok (.aload_n 0, 1) := by decide +kernel
theorem dX12_count_79 : decode cX12_count 79 = .ok (.getfield 187, 3) := by decide +kernel
theorem dX12_count_82 : decode cX12_count 82 = .ok (.ireturn, 1) := by decide +kernel
theorem dX12_count_83 : decode cX12_count 83 = .ok (.iconst (-1), 1) := by decide +kernel
theorem dX12_count_84 : decode cX12_count 84 = .ok (.ireturn, 1) := by decide +kernel
theorem dX12_status_0 : decode cX12_status 0 = .ok (.aload_n 0, 1) := by decide +kernel
theorem dX12_status_1 : decode cX12_status 1 = .ok (.iconst 0, 1) := by decide +kernel
theorem dX12_status_2 : decode cX12_status 2 = .ok (.putfield 96, 3) := by decide +kernel
theorem dX12_status_5 : decode cX12_status 5 = .ok (.aload_n 0, 1) := by decide +kernel
theorem dX12_status_6 : decode cX12_status 6 = .ok (.getfield 99, 3) := by decide +kernel
theorem dX12_status_9 : decode cX12_status 9 = .ok (.ireturn, 1) := by decide +kernel
end
section
theorem dJ6_bitCount_0f7a4_0 : decode cJ6_bitCount_0f7a4 0 = .ok (.iload_n 0, 1) := by decide +kernel
theorem dJ6_bitCount_0f7a4_1 : decode cJ6_bitCount_0f7a4 1 = .ok (.iload_n 0, 1) := by decide +kernel
theorem dJ6_bitCount_0f7a4_2 : decode cJ6_bitCount_0f7a4 2 = .ok (.iconst 1, 1) := by decide +kernel
theorem dJ6_bitCount_0f7a4_3 : decode cJ6_bitCount_0f7a4 3 = .ok (.iushr, 1) := by decide +kernel
theorem dJ6_bitCount_0f7a4_4 : decode cJ6_bitCount_0f7a4 4 = .ok (.ldc_w 265, 3) := by decide +kernel
theorem dJ6_bitCount_0f7a4_7 : decode cJ6_bitCount_0f7a4 7 = .ok (.iand, 1) := by decide +kernel
theorem dJ6_bitCount_0f7a4_8 : decode cJ6_bitCount_0f7a4 8 = .ok (.isub, 1) := by decide +kernel
theorem dJ6_bitCount_0f7a4_9 : decode cJ6_bitCount_0f7a4 9 = .ok (.istore_n 0, 1) := by decide +kernel
theorem dJ6_bitCount_0f7a4_10 : decode cJ6_bitCount_0f7a4 10 = .ok (.iload_n 0, 1) := by decide +kernel
theorem dJ6_bitCount_0f7a4_11 : decode cJ6_bitCount_0f7a4 11 = .ok (.ldc_w 266, 3) := by decide +kernel
theorem dJ6_bitCount_0f7a4_14 : decode cJ6_bitCount_0f7a4 14 = .ok (.iand, 1) := by decide +kernel
theorem dJ6_bitCount_0f7a4_15 : decode cJ6_bitCount_0f7a4 15 = .ok (.iload_n 0, 1) := by decide +kernel
theorem dJ6_bitCount_0f7a4_16 : decode cJ6_bitCount_0f7a4 16 = .ok (.iconst 2, 1) := by decide +kernel
theorem dJ6_bitCount_0f7a4_17 : decode cJ6_bitCount_0f7a4 17 = .ok (.iushr, 1) := by decide +kernel
theorem dJ6_bitCount_0f7a4_18 : decode cJ6_bitCount_0f7a4 18 = .ok (.ldc_w 266, 3) := by decide +kernel
theorem dJ6_bitCount_0f7a4_21 : decode cJ6_bitCount_0f7a4 21 = .ok (.iand, 1) := by decide +kernel
theorem dJ6_bitCount_0f7a4_22 : decode cJ6_bitCount_0f7a4 22 = .ok (.iadd, 1) := by decide +kernel
theorem dJ6_bitCount_0f7a4_23 : decode cJ6_bitCount_0f7a4 23 = .ok (.istore_n 0, 1) := by decide +kernel
theorem dJ6_bitCount_0f7a4_24 : decode cJ6_bitCount_0f7a4 24 = .ok (.iload_n 0, 1) := by decide +kernel
theorem dJ6_bitCount_0f7a4_25 : decode cJ6_bitCount_0f7a4 25 = .ok (.iload_n 0, 1) := by decide +kernel
theorem dJ6_bitCount_0f7a4_26 : decode cJ6_bitCount_0f7a4 26 = .ok (.iconst 4, 1) := by decide +kernel
theorem dJ6_bitCount_0f7a4_27 : decode cJ6_bitCount_0f7a4 27 = .ok (.iushr, 1) := by decide +kernel
theorem dJ6_bitCount_0f7a4_28 : decode cJ6_bitCount_0f7a4 28 = .ok (.iadd, 1) := by decide +kernel
theorem dJ6_bitCount_0f7a4_29 : decode cJ6_bitCount_0f7a4 29 = .ok (.ldc_w 267, 3) := by decide +kernel
theorem dJ6_bitCount_0f7a4_32 : decode cJ6_bitCount_0f7a4 32 = .ok (.iand, 1) := by decide +kernel
theorem dJ6_bitCount_0f7a4_33 : decode cJ6_bitCount_0f7a4 33 = .ok (.istore_n 0, 1) := by decide +kernel
theorem dJ6_bitCount_0f7a4_34 : decode cJ6_bitCount_0f7a4 34 = .ok (.iload_n 0, 1) := by decide +kernel
theorem dJ6_bitCount_0f7a4_35 : decode cJ6_bitCount_0f7a4 35 = .ok (.iload_n 0, 1) := by decide +kernel
theorem dJ6_bitCount_0f7a4_36 : decode cJ6_bitCount_0f7a4 36 = .ok (.bipush 8, 2) := by decide +kernel
theorem dJ6_bitCount_0f7a4_38 : decode cJ6_bitCount_0f7a4 38 = .ok (.iushr, 1) := by decide +kernel
theorem dJ6_bitCount_0f7a4_39 : decode cJ6_bitCount_0f7a4 39 = .ok (.iadd, 1) := by decide +kernel
theorem dJ6_bitCount_0f7a4_40 : decode cJ6_bitCount_0f7a4 40 = .ok (.istore_n 0, 1) := by decide +kernel
theorem dJ6_bitCount_0f7a4_41 : decode cJ6_bitCount_0f7a4 41 = .ok (.iload_n 0, 1) := by decide +kernel
theorem dJ6_bitCount_0f7a4_42 : decode cJ6_bitCount_0f7a4 42 = .ok (.iload_n 0, 1) := by decide +kernel
theorem dJ6_bitCount_0f7a4_43 : decode cJ6_bitCount_0f7a4 43 = .ok (.bipush 16, 2) := by decide +kernel
theorem dJ6_bitCount_0f7a4_45 : decode cJ6_bitCount_0f7a4 45 = .ok (.iushr, 1) := by decide +kernel
theorem dJ6_bitCount_0f7a4_46 : decode cJ6_bitCount_0f7a4 46 = .ok (.iadd, 1) := by decide +kernel
theorem dJ6_bitCount_0f7a4_47 : decode cJ6_bitCount_0f7a4 47 = .ok (.istore_n 0, 1) := by decide +kernel
theorem dJ6_bitCount_0f7a4_48 : decode cJ6_bitCount_0f7a4 48 = .ok (.iload_n 0, 1) := by decide +kernel
theorem dJ6_bitCount_0f7a4_49 : decode cJ6_bitCount_0f7a4 49 = .ok (.bipush 63, 2) := by decide +kernel
theorem dJ6_bitCount_0f7a4_51 : decode cJ6_bitCount_0f7a4 51 = .ok (.iand, 1) := by decide +kernel
theorem dJ6_bitCount_0f7a4_52 : decode cJ6_bitCount_0f7a4 52 = .ok (.ireturn, 1) := by decide +kernel
theorem dJ9_floorDiv_7cf53_0 : decode cJ9_floorDiv_7cf53 0 = .ok (.iload_n 0, 1) := by decide +kernel
theorem dJ9_floorDiv_7cf53_1 : decode cJ9_floorDiv_7cf53 1 = .ok (.iload_n 1, 1) := by decide +kernel
theorem dJ9_floorDiv_7cf53_2 : decode cJ9_floorDiv_7cf53 2 = .ok (.idiv, 1) := by decide +kernel
theorem dJ9_floorDiv_7cf53_3 : decode cJ9_floorDiv_7cf53 3 = .ok (.istore_n 2, 1) := by decide +kernel
theorem dJ9_floorDiv_7cf53_4 : decode cJ9_floorDiv_7cf53 4 = .ok (.iload_n 0, 1) := by decide +kernel
theorem dJ9_floorDiv_7cf53_5 : decode cJ9_floorDiv_7cf53 5 = .ok (.iload_n 1, 1) := by decide +kernel
theorem dJ9_floorDiv_7cf53_6 : decode cJ9_floorDiv_7cf53 6 = .ok (.ixor, 1) := by decide +kernel
theorem dJ9_floorDiv_7cf53_7 : decode cJ9_floorDiv_7cf53 7 = .ok (.ifCond .ge 14, 3) := by decide +kernel
theorem dJ9_floorDiv_7cf53_10 : decode cJ9_floorDiv_7cf53 10 = .ok (.iload_n 2, 1) := by decide +kernel
theorem dJ9_floorDiv_7cf53_11 : decode cJ9_floorDiv_7cf53 11 = .ok (.iload_n 1, 1) := by decide +kernel
theorem dJ9_floorDiv_7cf53_12 : decode cJ9_floorDiv_7cf53 12 = .ok (.imul, 1) := by decide +kernel
theorem dJ9_floorDiv_7cf53_13 : decode cJ9_floorDiv_7cf53 13 = .ok (.iload_n 0, 1) := by decide +kernel
theorem dJ9_floorDiv_7cf53_14 : decode cJ9_floorDiv_7cf53 14 = .ok (.if_icmp .eq 7, 3) := by decide +kernel
theorem dJ9_floorDiv_7cf53_17 : decode cJ9_floorDiv_7cf53 17 = .ok (.iload_n 2, 1) := by decide +kernel
theorem dJ9_floorDiv_7cf53_18 : decode cJ9_floorDiv_7cf53 18 = .ok (.iconst 1, 1) := by decide +kernel
theorem dJ9_floorDiv_7cf53_19 : decode cJ9_floorDiv_7cf53 19 = .ok (.isub, 1) := by decide +kernel
theorem dJ9_floorDiv_7cf53_20 : decode cJ9_floorDiv_7cf53 20 = .ok (.ireturn, 1) := by decide +kernel
theorem dJ9_floorDiv_7cf53_21 : decode cJ9_floorDiv_7cf53 21 = .ok (.iload_n 2, 1) := by decide +kernel
theorem dJ9_floorDiv_7cf53_22 : decode cJ9_floorDiv_7cf53 22 = .ok (.ireturn, 1) := by decide +kernel
theorem dJ9_max_7cf53_0 : decode cJ9_max_7cf53 0 = .ok (.iload_n 0, 1) := by decide +kernel
theorem dJ9_max_7cf53_1 : decode cJ9_max_7cf53 1 = .ok (.iload_n 1, 1) := by decide +kernel
theorem dJ9_max_7cf53_2 : decode cJ9_max_7cf53 2 = .ok (.if_icmp .lt 7, 3) := by decide +kernel
theorem dJ9_max_7cf53_5 : decode cJ9_max_7cf53 5 = .ok (.iload_n 0, 1) := by decide +kernel
theorem dJ9_max_7cf53_6 : decode cJ9_max_7cf53 6 = .ok (.goto 4, 3) := by decide +kernel
theorem dJ9_max_7cf53_9 : decode cJ9_max_7cf53 9 = .ok (.iload_n 1, 1) := by decide +kernel
theorem dJ9_max_7cf53_10 : decode cJ9_max_7cf53 10 = .ok (.ireturn, 1) := by decide +kernel
theorem dJ9_min_7cf53_0 : decode cJ9_min_7cf53 0 = .ok (.iload_n 0, 1) := by decide +kernel
theorem dJ9_min_7cf53_1 : decode cJ9_min_7cf53 1 = .ok (.iload_n 1, 1) := by decide +kernel
theorem dJ9_min_7cf53_2 : decode cJ9_min_7cf53 2 = .ok (.if_icmp .gt 7, 3) := by decide +kernel
theorem dJ9_min_7cf53_5 : decode cJ9_min_7cf53 5 = .ok (.iload_n 0, 1) := by decide +kernel
theorem dJ9_min_7cf53_6 : decode cJ9_min_7cf53 6 = .ok (.goto 4, 3) := by decide +kernel
theorem dJ9_min_7cf53_9 : decode cJ9_min_7cf53 9 = .ok (.iload_n 1, 1) := by decide +kernel
theorem dJ9_min_7cf53_10 : decode cJ9_min_7cf53 10 = .ok (.ireturn, 1) := by decide +kernel
theorem dJ0_length_8abf5_0 : decode cJ0_length_8abf5 0 = .ok (.aload_n 0, 1) := by decide +kernel
theorem dJ0_length_8abf5_1 : decode cJ0_length_8abf5 1 = .ok (.getfield 9, 3) := by decide +kernel
theorem dJ0_length_8abf5_4 : decode cJ0_length_8abf5 4 = .ok (.arraylength, 1) := by decide +kernel
theorem dJ0_length_8abf5_5 : decode cJ0_length_8abf5 5 = .ok (.aload_n 0, 1) := by decide +kernel
theorem dJ0_length_8abf5_6 : decode cJ0_length_8abf5 6 = .ok (.invokevirtual 335, 3) := by decide +kernel
theorem dJ0_length_8abf5_9 : decode cJ0_length_8abf5 9 = .ok (.ishr, 1) := by decide +kernel
theorem dJ0_length_8abf5_10 : decode cJ0_length_8abf5 10 = .ok (.ireturn, 1) := by decide +kernel
theorem dJ0_isEmpty_aae02_0 : decode cJ0_isEmpty_aae02 0 = .ok (.aload_n 0, 1) := by decide +kernel
theorem dJ0_isEmpty_aae02_1 : decode cJ0_isEmpty_aae02 1 = .ok (.getfield 9, 3) := by decide +kernel
theorem dJ0_isEmpty_aae02_4 : decode cJ0_isEmpty_aae02 4 = .ok (.arraylength, 1) := by decide +kernel
theorem dJ0_isEmpty_aae02_5 : decode cJ0_isEmpty_aae02 5 = .ok (.ifCond .ne 7, 3) := by decide +kernel
theorem dJ0_isEmpty_aae02_8 : decode cJ0_isEmpty_aae02 8 = .ok (.iconst 1, 1) := by decide +kernel
theorem dJ0_isEmpty_aae02_9 : decode cJ0_isEmpty_aae02 9 = .ok (.goto 4, 3) := by decide +kernel
theorem dJ0_isEmpty_aae02_12 : decode cJ0_isEmpty_aae02 12 = .ok (.iconst 0, 1) := by decide +kernel
theorem dJ0_isEmpty_aae02_13 : decode cJ0_isEmpty_aae02 13 = .ok (.ireturn, 1) := by decide +kernel
theorem dJ0_charAt_5068e_0 : decode cJ0_charAt_5068e 0 = .ok (.aload_n 0, 1) := by decide +kernel
theorem dJ0_charAt_5068e_1 : decode cJ0_charAt_5068e 1 = .ok (.invokevirtual 492, 3) := by decide +kernel
theorem dJ0_charAt_5068e_4 : decode cJ0_charAt_5068e 4 = .ok (.ifCond .eq 12, 3) := by decide +kernel
theorem dJ0_charAt_5068e_7 : decode cJ0_charAt_5068e 7 = .ok (.aload_n 0, 1) := by decide +kernel
theorem dJ0_charAt_5068e_8 : decode cJ0_charAt_5068e 8 = .ok (.getfield 9, 3) := by decide +kernel
theorem dJ0_charAt_5068e_11 : decode cJ0_charAt_5068e 11 = .ok (.iload_n 1, 1) := by decide +kernel
theorem dJ0_charAt_5068e_12 : decode cJ0_charAt_5068e 12 = .ok (.invokestatic 495, 3) := by decide +kernel
theorem dJ0_charAt_5068e_15 : decode cJ0_charAt_5068e 15 = .ok (.ireturn, 1) := by decide +kernel
theorem dJ0_charAt_5068e_16 : decode cJ0_charAt_5068e 16 = .ok (.aload_n 0, 1) := by decide +kernel
theorem dJ0_charAt_5068e_17 : decode cJ0_charAt_5068e 17 = .ok (.getfield 9, 3) := by decide +kernel
theorem dJ0_charAt_5068e_20 : decode cJ0_charAt_5068e 20 = .ok (.iload_n 1, 1) := by decide +kernel
theorem dJ0_charAt_5068e_21 : decode cJ0_charAt_5068e 21 = .ok (.invokestatic 498, 3) := by decide +kernel
theorem dJ0_charAt_5068e_24 : decode cJ0_charAt_5068e 24 = .ok (.ireturn, 1) := by decide +kernel
theorem dJ0_coder_7d493_0 : decode cJ0_coder_7d493 0 = .ok (.getstatic 38, 3) := by decide +kernel
theorem dJ0_coder_7d493_3 : decode cJ0_coder_7d493 3 = .ok (.ifCond .eq 10, 3) := by decide +kernel
theorem dJ0_coder_7d493_6 : decode cJ0_coder_7d493 6 = .ok (.aload_n 0, 1) := by decide +kernel
theorem dJ0_coder_7d493_7 : decode cJ0_coder_7d493 7 = .ok (.getfield 15, 3) := by decide +kernel
theorem dJ0_coder_7d493_10 : decode cJ0_coder_7d493 10 = .ok (.goto 4, 3) := by decide +kernel
theorem dJ0_coder_7d493_13 : decode cJ0_coder_7d493 13 = .ok (.iconst 1, 1) := by decide +kernel
theorem dJ0_coder_7d493_14 : decode cJ0_coder_7d493 14 = .ok (.ireturn, 1) := by decide +kernel
theorem dJ0_isLatin1_aae02_0 : decode cJ0_isLatin1_aae02 0 = .ok (.getstatic 38, 3) := by decide +kernel
theorem dJ0_isLatin1_aae02_3 : decode cJ0_isLatin1_aae02 3 = .ok (.ifCond .eq 14, 3) := by decide +kernel
theorem dJ0_isLatin1_aae02_6 : decode cJ0_isLatin1_aae02 6 = .ok (.aload_n 0, 1) := by decide +kernel
theorem dJ0_isLatin1_aae02_7 : decode cJ0_isLatin1_aae02 7 = .ok (.getfield 15, 3) := by decide +kernel
theorem dJ0_isLatin1_aae02_10 : decode cJ0_isLatin1_aae02 10 = .ok (.ifCond .ne 7, 3) := by decide +kernel
theorem dJ0_isLatin1_aae02_13 : decode cJ0_isLatin1_aae02 13 = .ok (.iconst 1, 1) := by decide +kernel
theorem dJ0_isLatin1_aae02_14 : decode cJ0_isLatin1_aae02 14 = .ok (.goto 4, 3) := by decide +kernel
theorem dJ0_isLatin1_aae02_17 : decode cJ0_isLatin1_aae02 17 = .ok (.iconst 0, 1) := by decide +kernel
theorem dJ0_isLatin1_aae02_18 : decode cJ0_isLatin1_aae02 18 = .ok (.ireturn, 1) := by decide +kernel
theorem dJ0_checkIndex_df160_0 : decode cJ0_checkIndex_df160 0 = .ok (.iload_n 0, 1) := by decide +kernel
theorem dJ0_checkIndex_df160_1 : decode cJ0_checkIndex_df160 1 = .ok (.iload_n 1, 1) := by decide +kernel
theorem dJ0_checkIndex_df160_2 : decode cJ0_checkIndex_df160 2 = .ok (.getstatic 1053, 3) := by decide +kernel
theorem dJ0_checkIndex_df160_5 : decode cJ0_checkIndex_df160 5 = .ok (.invokestatic 1059, 3) := by decide +kernel
theorem dJ0_checkIndex_df160_8 : decode cJ0_checkIndex_df160 8 = .ok (.pop, 1) := by decide +kernel
theorem dJ0_checkIndex_df160_9 : decode cJ0_checkIndex_df160 9 = .ok (.return_, 1) := by decide +kernel
theorem dJ1_charAt_3b067_0 : decode cJ1_charAt_3b067 0 = .ok (.iload_n 1, 1) := by decide +kernel
theorem dJ1_charAt_3b067_1 : decode cJ1_charAt_3b067 1 = .ok (.aload_n 0, 1) := by decide +kernel
theorem dJ1_charAt_3b067_2 : decode cJ1_charAt_3b067 2 = .ok (.arraylength, 1) := by decide +kernel
theorem dJ1_charAt_3b067_3 : decode cJ1_charAt_3b067 3 = .ok (.invokestatic 9, 3) := by decide +kernel
theorem dJ1_charAt_3b067_6 : decode cJ1_charAt_3b067 6 = .ok (.aload_n 0, 1) := by decide +kernel
theorem dJ1_charAt_3b067_7 : decode cJ1_charAt_3b067 7 = .ok (.iload_n 1, 1) := by decide +kernel
theorem dJ1_charAt_3b067_8 : decode cJ1_charAt_3b067 8 = .ok (.baload, 1) := by decide +kernel
theorem dJ1_charAt_3b067_9 : decode cJ1_charAt_3b067 9 = .ok (.sipush 255, 3) := by decide +kernel
theorem dJ1_charAt_3b067_12 : decode cJ1_charAt_3b067 12 = .ok (.iand, 1) := by decide +kernel
theorem dJ1_charAt_3b067_13 : decode cJ1_charAt_3b067 13 = .ok (.i2c, 1) := by decide +kernel
theorem dJ1_charAt_3b067_14 : decode cJ1_charAt_3b067 14 = .ok (.ireturn, 1) := by decide +kernel
theorem dJ2_getChar_3b067_0 : decode cJ2_getChar_3b067 0 = .ok (.getstatic 44, 3) := by decide +kernel
theorem dJ2_getChar_3b067_3 : decode cJ2_getChar_3b067 3 = .ok (.ifCond .ne 25, 3) := by decide +kernel
theorem dJ2_getChar_3b067_6 : decode cJ2_getChar_3b067 6 = .ok (.iload_n 1, 1) := by decide +kernel
theorem dJ2_getChar_3b067_7 : decode cJ2_getChar_3b067 7 = .ok (.ifCond .lt 11, 3) := by decide +kernel
theorem dJ2_getChar_3b067_10 : decode cJ2_getChar_3b067 10 = .ok (.iload_n 1, 1) := by decide +kernel
theorem dJ2_getChar_3b067_11 : decode cJ2_getChar_3b067 11 = .ok (.aload_n 0, 1) := by decide +kernel
theorem dJ2_getChar_3b067_12 : decode cJ2_getChar_3b067 12 = .ok (.invokestatic 48, 3) := by decide +kernel
theorem dJ2_getChar_3b067_15 : decode cJ2_getChar_3b067 15 = .ok (.if_icmp .lt 13, 3) := by decide +kernel
theorem dJ2_getChar_3b067_18 : decode cJ2_getChar_3b067 18 = .ok (.new 52, 3) := by decide +kernel
theorem dJ2_getChar_3b067_21 : decode cJ2_getChar_3b067 21 = .ok (.dup, 1) := by decide +kernel
theorem dJ2_getChar_3b067_22 : decode cJ2_getChar_3b067 22 = .ok (.ldc 54, 2) := by decide +kernel
theorem dJ2_getChar_3b067_24 : decode cJ2_getChar_3b067 24 = .ok (.invokespecial 56, 3) := by decide +kernel
theorem dJ2_getChar_3b067_27 : decode cJ2_getChar_3b067 27 = .ok (.athrow, 1) := by decide +kernel
theorem dJ2_getChar_3b067_28 : decode cJ2_getChar_3b067 28 = .ok (.iload_n 1, 1) := by decide +kernel
theorem dJ2_getChar_3b067_29 : decode cJ2_getChar_3b067 29 = .ok (.iconst 1, 1) := by decide +kernel
theorem dJ2_getChar_3b067_30 : decode cJ2_getChar_3b067 30 = .ok (.ishl, 1) := by decide +kernel
theorem dJ2_getChar_3b067_31 : decode cJ2_getChar_3b067 31 = .ok (.istore_n 1, 1) := by decide +kernel
theorem dJ2_getChar_3b067_32 : decode cJ2_getChar_3b067 32 = .ok (.aload_n 0, 1) := by decide +kernel
theorem dJ2_getChar_3b067_33 : decode cJ2_getChar_3b067 33 = .ok (.iload_n 1, 1) := by decide +kernel
theorem dJ2_getChar_3b067_34 : decode cJ2_getChar_3b067 34 = .ok (.iinc 1 1, 3) := by decide +kernel
theorem dJ2_getChar_3b067_37 : decode cJ2_getChar_3b067 37 = .ok (.baload, 1) := by decide +kernel
theorem dJ2_getChar_3b067_38 : decode cJ2_getChar_3b067 38 = .ok (.sipush 255, 3) := by decide +kernel
theorem dJ2_getChar_3b067_41 : decode cJ2_getChar_3b067 41 = .ok (.iand, 1) := by decide +kernel
theorem dJ2_getChar_3b067_42 : decode cJ2_getChar_3b067 42 = .ok (.getstatic 59, 3) := by decide +kernel
theorem dJ2_getChar_3b067_45 : decode cJ2_getChar_3b067 45 = .ok (.ishl, 1) := by decide +kernel
theorem dJ2_getChar_3b067_46 : decode cJ2_getChar_3b067 46 = .ok (.aload_n 0, 1) := by decide +kernel
theorem dJ2_getChar_3b067_47 : decode cJ2_getChar_3b067 47 = .ok (.iload_n 1, 1) := by decide +kernel
theorem dJ2_getChar_3b067_48 : decode cJ2_getChar_3b067 48 = .ok (.baload, 1) := by decide +kernel
theorem dJ2_getChar_3b067_49 : decode cJ2_getChar_3b067 49 = .ok (.sipush 255, 3) := by decide +kernel
theorem dJ2_getChar_3b067_52 : decode cJ2_getChar_3b067 52 = .ok (.iand, 1) := by decide +kernel
theorem dJ2_getChar_3b067_53 : decode cJ2_getChar_3b067 53 = .ok (.getstatic 63, 3) := by decide +kernel
theorem dJ2_getChar_3b067_56 : decode cJ2_getChar_3b067 56 = .ok (.ishl, 1) := by decide +kernel
theorem dJ2_getChar_3b067_57 : decode cJ2_getChar_3b067 57 = .ok (.ior, 1) := by decide +kernel
theorem dJ2_getChar_3b067_58 : decode cJ2_getChar_3b067 58 = .ok (.i2c, 1) := by decide +kernel
theorem dJ2_getChar_3b067_59 : decode cJ2_getChar_3b067 59 = .ok (.ireturn, 1) := by decide +kernel
theorem dJ2_length_9d52b_0 : decode cJ2_length_9d52b 0 = .ok (.aload_n 0, 1) := by decide +kernel
theorem dJ2_length_9d52b_1 : decode cJ2_length_9d52b 1 = .ok (.arraylength, 1) := by decide +kernel
theorem dJ2_length_9d52b_2 : decode cJ2_length_9d52b 2 = .ok (.iconst 1, 1) := by decide +kernel
theorem dJ2_length_9d52b_3 : decode cJ2_length_9d52b 3 = .ok (.ishr, 1) := by decide +kernel
theorem dJ2_length_9d52b_4 : decode cJ2_length_9d52b 4 = .ok (.ireturn, 1) := by decide +kernel
theorem dJ2_charAt_3b067_0 : decode cJ2_charAt_3b067 0 = .ok (.iload_n 1, 1) := by decide +kernel
theorem dJ2_charAt_3b067_1 : decode cJ2_charAt_3b067 1 = .ok (.aload_n 0, 1) := by decide +kernel
theorem dJ2_charAt_3b067_2 : decode cJ2_charAt_3b067 2 = .ok (.invokestatic 67, 3) := by decide +kernel
theorem dJ2_charAt_3b067_5 : decode cJ2_charAt_3b067 5 = .ok (.aload_n 0, 1) := by decide +kernel
theorem dJ2_charAt_3b067_6 : decode cJ2_charAt_3b067 6 = .ok (.iload_n 1, 1) := by decide +kernel
theorem dJ2_charAt_3b067_7 : decode cJ2_charAt_3b067 7 = .ok (.invokestatic 71, 3) := by decide +kernel
theorem dJ2_charAt_3b067_10 : decode cJ2_charAt_3b067 10 = .ok (.ireturn, 1) := by decide +kernel
theorem dJ2_checkIndex_2214a_0 : decode cJ2_checkIndex_2214a 0 = .ok (.iload_n 0, 1) := by decide +kernel
theorem dJ2_checkIndex_2214a_1 : decode cJ2_checkIndex_2214a 1 = .ok (.aload_n 1, 1) := by decide +kernel
theorem dJ2_checkIndex_2214a_2 : decode cJ2_checkIndex_2214a 2 = .ok (.invokestatic 48, 3) := by decide +kernel
theorem dJ2_checkIndex_2214a_5 : decode cJ2_checkIndex_2214a 5 = .ok (.invokestatic 414, 3) := by decide +kernel
theorem dJ2_checkIndex_2214a_8 : decode cJ2_checkIndex_2214a 8 = .ok (.return_, 1) := by decide +kernel
theorem dJ7_fill_53178_0 : decode cJ7_fill_53178 0 = .ok (.iconst 0, 1) := by decide +kernel
theorem dJ7_fill_53178_1 : decode cJ7_fill_53178 1 = .ok (.istore_n 2, 1) := by decide +kernel
theorem dJ7_fill_53178_2 : decode cJ7_fill_53178 2 = .ok (.aload_n 0, 1) := by decide +kernel
theorem dJ7_fill_53178_3 : decode cJ7_fill_53178 3 = .ok (.arraylength, 1) := by decide +kernel
theorem dJ7_fill_53178_4 : decode cJ7_fill_53178 4 = .ok (.istore_n 3, 1) := by decide +kernel
theorem dJ7_fill_53178_5 : decode cJ7_fill_53178 5 = .ok (.iload_n 2, 1) := by decide +kernel
theorem dJ7_fill_53178_6 : decode cJ7_fill_53178 6 = .ok (.iload_n 3, 1) := by decide +kernel
theorem dJ7_fill_53178_7 : decode cJ7_fill_53178 7 = .ok (.if_icmp .ge 13, 3) := by decide +kernel
theorem dJ7_fill_53178_10 : decode cJ7_fill_53178 10 = .ok (.aload_n 0, 1) := by decide +kernel
theorem dJ7_fill_53178_11 : decode cJ7_fill_53178 11 = .ok (.iload_n 2, 1) := by decide +kernel
theorem dJ7_fill_53178_12 : decode cJ7_fill_53178 12 = .ok (.iload_n 1, 1) := by decide +kernel
theorem dJ7_fill_53178_13 : decode cJ7_fill_53178 13 = .ok (.iastore, 1) := by decide +kernel
theorem dJ7_fill_53178_14 : decode cJ7_fill_53178 14 = .ok (.iinc 2 1, 3) := by decide +kernel
theorem dJ7_fill_53178_17 : decode cJ7_fill_53178 17 = .ok (.goto (-12), 3) := by decide +kernel
theorem dJ7_fill_53178_20 : decode cJ7_fill_53178 20 = .ok (.return_, 1) := by decide +kernel
theorem dJ3_checkIndex_8e157_0 : decode cJ3_checkIndex_8e157 0 = .ok (.iload_n 0, 1) := by decide +kernel
theorem dJ3_checkIndex_8e157_1 : decode cJ3_checkIndex_8e157 1 = .ok (.ifCond .lt 8, 3) := by decide +kernel
theorem dJ3_checkIndex_8e157_4 : decode cJ3_checkIndex_8e157 4 = .ok (.iload_n 0, 1) := by decide +kernel
theorem dJ3_checkIndex_8e157_5 : decode cJ3_checkIndex_8e157 5 = .ok (.iload_n 1, 1) := by decide +kernel
theorem dJ3_checkIndex_8e157_6 : decode cJ3_checkIndex_8e157 6 = .ok (.if_icmp .lt 10, 3) := by decide +kernel
theorem dJ3_checkIndex_8e157_9 : decode cJ3_checkIndex_8e157 9 = .ok (.aload_n 2, 1) := by decide +kernel
theorem dJ3_checkIndex_8e157_10 : decode cJ3_checkIndex_8e157 10 = .ok (.iload_n 0, 1) := by decide +kernel
theorem dJ3_checkIndex_8e157_11 : decode cJ3_checkIndex_8e157 11 = .ok (.iload_n 1, 1) := by decide +kernel
theorem dJ3_checkIndex_8e157_12 : decode cJ3_checkIndex_8e157 12 = .ok (.invokestatic 95, 3) := by decide +kernel
theorem dJ3_checkIndex_8e157_15 : decode cJ3_checkIndex_8e157 15 = .ok (.athrow, 1) := by decide +kernel
theorem dJ3_checkIndex_8e157_16 : decode cJ3_checkIndex_8e157 16 = .ok (.iload_n 0, 1) := by decide +kernel
theorem dJ3_checkIndex_8e157_17 : decode cJ3_checkIndex_8e157 17 = .ok (.ireturn, 1) := by decide +kernel
theorem dL_law_0 : decode cL_law 0 = .ok (.new 7, 3) := by decide +kernel
theorem dL_law_3 : decode cL_law 3 = .ok (.dup, 1) := by decide +kernel
theorem dL_law_4 : decode cL_law 4 = .ok (.invokespecial 9, 3) := by decide +kernel
theorem dL_law_7 : decode cL_law 7 = .ok (.astore_n 1, 1) := by decide +kernel
theorem dL_law_8 : decode cL_law 8 = .ok (.new 10, 3) := by decide +kernel
theorem dL_law_11 : decode cL_law 11 = .ok (.dup, 1) := by decide +kernel
theorem dL_law_12 : decode cL_law 12 = .ok (.invokespecial 12, 3) := by decide +kernel
theorem dL_law_15 : decode cL_law 15 = .ok (.astore_n 2, 1) := by decide +kernel
theorem dL_law_16 : decode cL_law 16 = .ok (.iconst 0, 1) := by decide +kernel
theorem dL_law_17 : decode cL_law 17 = .ok (.istore_n 3, 1) := by decide +kernel
theorem dL_law_18 : decode cL_law 18 = .ok (.iload_n 3, 1) := by decide +kernel
theorem dL_law_19 : decode cL_law 19 = .ok (.aload_n 0, 1) := by decide +kernel
theorem dL_law_20 : decode cL_law 20 = .ok (.arraylength, 1) := by decide +kernel
theorem dL_law_21 : decode cL_law 21 = .ok (.bipush 6, 2) := by decide +kernel
theorem dL_law_23 : decode cL_law 23 = .ok (.isub, 1) := by decide +kernel
theorem dL_law_24 : decode cL_law 24 = .ok (.if_icmp .gt 888, 3) := by decide +kernel
theorem dL_law_27 : decode cL_law 27 = .ok (.aload_n 0, 1) := by decide +kernel
theorem dL_law_28 : decode cL_law 28 = .ok (.iload_n 3, 1) := by decide +kernel
theorem dL_law_29 : decode cL_law 29 = .ok (.iaload, 1) := by decide +kernel
theorem dL_law_30 : decode cL_law 30 = .ok (.bipush 31, 2) := by decide +kernel
theorem dL_law_32 : decode cL_law 32 = .ok (.iand, 1) := by decide +kernel
theorem dL_law_33 : decode cL_law 33 = .ok (.tableswitch 873 0 23 #[111, 144, 207, 250, 283, 316, 339, 372, 425, 478, 501, 514, 537, 600, 623, 636, 649, 672, 695, 728, 771, 804, 837, 860], 111) := by decide +kernel
theorem dL_law_144 : decode cL_law 144 = .ok (.aload_n 1, 1) := by decide +kernel
theorem dL_law_145 : decode cL_law 145 = .ok (.aload_n 0, 1) := by decide +kernel
theorem dL_law_146 : decode cL_law 146 = .ok (.iload_n 3, 1) := by decide +kernel
theorem dL_law_147 : decode cL_law 147 = .ok (.iconst 1, 1) := by decide +kernel
theorem dL_law_148 : decode cL_law 148 = .ok (.iadd, 1) := by decide +kernel
theorem dL_law_149 : decode cL_law 149 = .ok (.iaload, 1) := by decide +kernel
theorem dL_law_150 : decode cL_law 150 = .ok (.aload_n 0, 1) := by decide +kernel
theorem dL_law_151 : decode cL_law 151 = .ok (.iload_n 3, 1) := by decide +kernel
theorem dL_law_152 : decode cL_law 152 = .ok (.iconst 2, 1) := by decide +kernel
theorem dL_law_153 : decode cL_law 153 = .ok (.iadd, 1) := by decide +kernel
theorem dL_law_154 : decode cL_law 154 = .ok (.iaload, 1) := by decide +kernel
theorem dL_law_155 : decode cL_law 155 = .ok (.invokevirtual 13, 3) := by decide +kernel
theorem dL_law_158 : decode cL_law 158 = .ok (.aload_n 2, 1) := by decide +kernel
theorem dL_law_159 : decode cL_law 159 = .ok (.aload_n 0, 1) := by decide +kernel
theorem dL_law_160 : decode cL_law 160 = .ok (.iload_n 3, 1) := by decide +kernel
theorem dL_law_161 : decode cL_law 161 = .ok (.iconst 1, 1) := by decide +kernel
theorem dL_law_162 : decode cL_law 162 = .ok (.iadd, 1) := by decide +kernel
theorem dL_law_163 : decode cL_law 163 = .ok (.iaload, 1) := by decide +kernel
theorem dL_law_164 : decode cL_law 164 = .ok (.aload_n 0, 1) := by decide +kernel
theorem dL_law_165 : decode cL_law 165 = .ok (.iload_n 3, 1) := by decide +kernel
theorem dL_law_166 : decode cL_law 166 = .ok (.iconst 2, 1) := by decide +kernel
theorem dL_law_167 : decode cL_law 167 = .ok (.iadd, 1) := by decide +kernel
theorem dL_law_168 : decode cL_law 168 = .ok (.iaload, 1) := by decide +kernel
theorem dL_law_169 : decode cL_law 169 = .ok (.invokevirtual 17, 3) := by decide +kernel
theorem dL_law_172 : decode cL_law 172 = .ok (.if_icmp .eq 734, 3) := by decide +kernel
theorem dL_law_175 : decode cL_law 175 = .ok (.iconst 0, 1) := by decide +kernel
theorem dL_law_176 : decode cL_law 176 = .ok (.ireturn, 1) := by decide +kernel
theorem dL_law_177 : decode cL_law 177 = .ok (.aload_n 1, 1) := by decide +kernel
theorem dL_law_178 : decode cL_law 178 = .ok (.aload_n 0, 1) := by decide +kernel
theorem dL_law_179 : decode cL_law 179 = .ok (.iload_n 3, 1) := by decide +kernel
theorem dL_law_180 : decode cL_law 180 = .ok (.iconst 1, 1) := by decide +kernel
theorem dL_law_181 : decode cL_law 181 = .ok (.iadd, 1) := by decide +kernel
theorem dL_law_182 : decode cL_law 182 = .ok (.iaload, 1) := by decide +kernel
theorem dL_law_183 : decode cL_law 183 = .ok (.aload_n 0, 1) := by decide +kernel
theorem dL_law_184 : decode cL_law 184 = .ok (.iload_n 3, 1) := by decide +kernel
theorem dL_law_185 : decode cL_law 185 = .ok (.iconst 2, 1) := by decide +kernel
theorem dL_law_186 : decode cL_law 186 = .ok (.iadd, 1) := by decide +kernel
theorem dL_law_187 : decode cL_law 187 = .ok (.iaload, 1) := by decide +kernel
theorem dL_law_188 : decode cL_law 188 = .ok (.aload_n 0, 1) := by decide +kernel
theorem dL_law_189 : decode cL_law 189 = .ok (.iload_n 3, 1) := by decide +kernel
theorem dL_law_190 : decode cL_law 190 = .ok (.iconst 3, 1) := by decide +kernel
theorem dL_law_191 : decode cL_law 191 = .ok (.iadd, 1) := by decide +kernel
theorem dL_law_192 : decode cL_law 192 = .ok (.iaload, 1) := by decide +kernel
theorem dL_law_193 : decode cL_law 193 = .ok (.aload_n 0, 1) := by decide +kernel
theorem dL_law_194 : decode cL_law 194 = .ok (.iload_n 3, 1) := by decide +kernel
theorem dL_law_195 : decode cL_law 195 = .ok (.iconst 4, 1) := by decide +kernel
theorem dL_law_196 : decode cL_law 196 = .ok (.iadd, 1) := by decide +kernel
theorem dL_law_197 : decode cL_law 197 = .ok (.iaload, 1) := by decide +kernel
theorem dL_law_198 : decode cL_law 198 = .ok (.aload_n 0, 1) := by decide +kernel
theorem dL_law_199 : decode cL_law 199 = .ok (.iload_n 3, 1) := by decide +kernel
theorem dL_law_200 : decode cL_law 200 = .ok (.iconst 5, 1) := by decide +kernel
theorem dL_law_201 : decode cL_law 201 = .ok (.iadd, 1) := by decide +kernel
theorem dL_law_202 : decode cL_law 202 = .ok (.iaload, 1) := by decide +kernel
theorem dL_law_203 : decode cL_law 203 = .ok (.invokevirtual 18, 3) := by decide +kernel
theorem dL_law_206 : decode cL_law 206 = .ok (.aload_n 2, 1) := by decide +kernel
theorem dL_law_207 : decode cL_law 207 = .ok (.aload_n 0, 1) := by decide +kernel
theorem dL_law_208 : decode cL_law 208 = .ok (.iload_n 3, 1) := by decide +kernel
theorem dL_law_209 : decode cL_law 209 = .ok (.iconst 1, 1) := by decide +kernel
theorem dL_law_210 : decode cL_law 210 = .ok (.iadd, 1) := by decide +kernel
theorem dL_law_211 : decode cL_law 211 = .ok (.iaload, 1) := by decide +kernel
theorem dL_law_212 : decode cL_law 212 = .ok (.aload_n 0, 1) := by decide +kernel
theorem dL_law_213 : decode cL_law 213 = .ok (.iload_n 3, 1) := by decide +kernel
theorem dL_law_214 : decode cL_law 214 = .ok (.iconst 2, 1) := by decide +kernel
theorem dL_law_215 : decode cL_law 215 = .ok (.iadd, 1) := by decide +kernel
theorem dL_law_216 : decode cL_law 216 = .ok (.iaload, 1) := by decide +kernel
theorem dL_law_217 : decode cL_law 217 = .ok (.aload_n 0, 1) := by decide +kernel
theorem dL_law_218 : decode cL_law 218 = .ok (.iload_n 3, 1) := by decide +kernel
theorem dL_law_219 : decode cL_law 219 = .ok (.iconst 3, 1) := by decide +kernel
theorem dL_law_220 : decode cL_law 220 = .ok (.iadd, 1) := by decide +kernel
theorem dL_law_221 : decode cL_law 221 = .ok (.iaload, 1) := by decide +kernel
theorem dL_law_222 : decode cL_law 222 = .ok (.aload_n 0, 1) := by decide +kernel
theorem dL_law_223 : decode cL_law 223 = .ok (.iload_n 3, 1) := by decide +kernel
theorem dL_law_224 : decode cL_law 224 = .ok (.iconst 4, 1) := by decide +kernel
theorem dL_law_225 : decode cL_law 225 = .ok (.iadd, 1) := by decide +kernel
theorem dL_law_226 : decode cL_law 226 = .ok (.iaload, 1) := by decide +kernel
theorem dL_law_227 : decode cL_law 227 = .ok (.aload_n 0, 1) := by decide +kernel
theorem dL_law_228 : decode cL_law 228 = .ok (.iload_n 3, 1) := by decide +kernel
theorem dL_law_229 : decode cL_law 229 = .ok (.iconst 5, 1) := by decide +kernel
theorem dL_law_230 : decode cL_law 230 = .ok (.iadd, 1) := by decide +kernel
theorem dL_law_231 : decode cL_law 231 = .ok (.iaload, 1) := by decide +kernel
theorem dL_law_232 : decode cL_law 232 = .ok (.invokevirtual 22, 3) := by decide +kernel
theorem dL_law_235 : decode cL_law 235 = .ok (.if_icmp .eq 671, 3) := by decide +kernel
theorem dL_law_238 : decode cL_law 238 = .ok (.iconst 0, 1) := by decide +kernel
theorem dL_law_239 : decode cL_law 239 = .ok (.ireturn, 1) := by decide +kernel
theorem dL_law_240 : decode cL_law 240 = .ok (.aload_n 1, 1) := by decide +kernel
theorem dL_law_241 : decode cL_law 241 = .ok (.aload_n 0, 1) := by decide +kernel
theorem dL_law_242 : decode cL_law 242 = .ok (.iload_n 3, 1) := by decide +kernel
theorem dL_law_243 : decode cL_law 243 = .ok (.iconst 1, 1) := by decide +kernel
theorem dL_law_244 : decode cL_law 244 = .ok (.iadd, 1) := by decide +kernel
theorem dL_law_245 : decode cL_law 245 = .ok (.iaload, 1) := by decide +kernel
theorem dL_law_246 : decode cL_law 246 = .ok (.aload_n 0, 1) := by decide +kernel
theorem dL_law_247 : decode cL_law 247 = .ok (.iload_n 3, 1) := by decide +kernel
theorem dL_law_248 : decode cL_law 248 = .ok (.iconst 2, 1) := by decide +kernel
theorem dL_law_249 : decode cL_law 249 = .ok (.iadd, 1) := by decide +kernel
theorem dL_law_250 : decode cL_law 250 = .ok (.iaload, 1) := by decide +kernel
theorem dL_law_251 : decode cL_law 251 = .ok (.aload_n 0, 1) := by decide +kernel
theorem dL_law_252 : decode cL_law 252 = .ok (.iload_n 3, 1) := by decide +kernel
theorem dL_law_253 : decode cL_law 253 = .ok (.iconst 3, 1) := by decide +kernel
theorem dL_law_254 : decode cL_law 254 = .ok (.iadd, 1) := by decide +kernel
theorem dL_law_255 : decode cL_law 255 = .ok (.iaload, 1) := by decide +kernel
theorem dL_law_256 : decode cL_law 256 = .ok (.invokevirtual 23, 3) := by decide +kernel
theorem dL_law_259 : decode cL_law 259 = .ok (.aload_n 2, 1) := by decide +kernel
theorem dL_law_260 : decode cL_law 260 = .ok (.aload_n 0, 1) := by decide +kernel
theorem dL_law_261 : decode cL_law 261 = .ok (.iload_n 3, 1) := by decide +kernel
theorem dL_law_262 : decode cL_law 262 = .ok (.iconst 1, 1) := by decide +kernel
theorem dL_law_263 : decode cL_law 263 = .ok (.iadd, 1) := by decide +kernel
theorem dL_law_264 : decode cL_law 264 = .ok (.iaload, 1) := by decide +kernel
theorem dL_law_265 : decode cL_law 265 = .ok (.aload_n 0, 1) := by decide +kernel
theorem dL_law_266 : decode cL_law 266 = .ok (.iload_n 3, 1) := by decide +kernel
theorem dL_law_267 : decode cL_law 267 = .ok (.iconst 2, 1) := by decide +kernel
theorem dL_law_268 : decode cL_law 268 = .ok (.iadd, 1) := by decide +kernel
theorem dL_law_269 : decode cL_law 269 = .ok (.iaload, 1) := by decide +kernel
theorem dL_law_270 : decode cL_law 270 = .ok (.aload_n 0, 1) := by decide +kernel
theorem dL_law_271 : decode cL_law 271 = .ok (.iload_n 3, 1) := by decide +kernel
theorem dL_law_272 : decode cL_law 272 = .ok (.iconst 3, 1) := by decide +kernel
theorem dL_law_273 : decode cL_law 273 = .ok (.iadd, 1) := by decide +kernel
theorem dL_law_274 : decode cL_law 274 = .ok (.iaload, 1) := by decide +kernel
theorem dL_law_275 : decode cL_law 275 = .ok (.invokevirtual 27, 3) := by decide +kernel
theorem dL_law_278 : decode cL_law 278 = .ok (.if_icmp .eq 628, 3) := by decide +kernel
theorem dL_law_281 : decode cL_law 281 = .ok (.iconst 0, 1) := by decide +kernel
theorem dL_law_282 : decode cL_law 282 = .ok (.ireturn, 1) := by decide +kernel
theorem dL_law_283 : decode cL_law 283 = .ok (.aload_n 1, 1) := by decide +kernel
theorem dL_law_284 : decode cL_law 284 = .ok (.aload_n 0, 1) := by decide +kernel
theorem dL_law_285 : decode cL_law 285 = .ok (.iload_n 3, 1) := by decide +kernel
theorem dL_law_286 : decode cL_law 286 = .ok (.iconst 1, 1) := by decide +kernel
theorem dL_law_287 : decode cL_law 287 = .ok (.iadd, 1) := by decide +kernel
theorem dL_law_288 : decode cL_law 288 = .ok (.iaload, 1) := by decide +kernel
theorem dL_law_289 : decode cL_law 289 = .ok (.aload_n 0, 1) := by decide +kernel
theorem dL_law_290 : decode cL_law 290 = .ok (.iload_n 3, 1) := by decide +kernel
theorem dL_law_291 : decode cL_law 291 = .ok (.iconst 2, 1) := by decide +kernel
theorem dL_law_292 : decode cL_law 292 = .ok (.iadd, 1) := by decide +kernel
theorem dL_law_293 : decode cL_law 293 = .ok (.iaload, 1) := by decide +kernel
theorem dL_law_294 : decode cL_law 294 = .ok (.invokevirtual 28, 3) := by decide +kernel
theorem dL_law_297 : decode cL_law 297 = .ok (.aload_n 2, 1) := by decide +kernel
theorem dL_law_298 : decode cL_law 298 = .ok (.aload_n 0, 1) := by decide +kernel
theorem dL_law_299 : decode cL_law 299 = .ok (.iload_n 3, 1) := by decide +kernel
theorem dL_law_300 : decode cL_law 300 = .ok (.iconst 1, 1) := by decide +kernel
theorem dL_law_301 : decode cL_law 301 = .ok (.iadd, 1) := by decide +kernel
theorem dL_law_302 : decode cL_law 302 = .ok (.iaload, 1) := by decide +kernel
theorem dL_law_303 : decode cL_law 303 = .ok (.aload_n 0, 1) := by decide +kernel
theorem dL_law_304 : decode cL_law 304 = .ok (.iload_n 3, 1) := by decide +kernel
theorem dL_law_305 : decode cL_law 305 = .ok (.iconst 2, 1) := by decide +kernel
theorem dL_law_306 : decode cL_law 306 = .ok (.iadd, 1) := by decide +kernel
theorem dL_law_307 : decode cL_law 307 = .ok (.iaload, 1) := by decide +kernel
theorem dL_law_308 : decode cL_law 308 = .ok (.invokevirtual 31, 3) := by decide +kernel
theorem dL_law_311 : decode cL_law 311 = .ok (.if_icmp .eq 595, 3) := by decide +kernel
theorem dL_law_314 : decode cL_law 314 = .ok (.iconst 0, 1) := by decide +kernel
theorem dL_law_315 : decode cL_law 315 = .ok (.ireturn, 1) := by decide +kernel
theorem dL_law_316 : decode cL_law 316 = .ok (.aload_n 1, 1) := by decide +kernel
theorem dL_law_317 : decode cL_law 317 = .ok (.aload_n 0, 1) := by decide +kernel
theorem dL_law_318 : decode cL_law 318 = .ok (.iload_n 3, 1) := by decide +kernel
theorem dL_law_319 : decode cL_law 319 = .ok (.iconst 1, 1) := by decide +kernel
theorem dL_law_320 : decode cL_law 320 = .ok (.iadd, 1) := by decide +kernel
theorem dL_law_321 : decode cL_law 321 = .ok (.iaload, 1) := by decide +kernel
theorem dL_law_322 : decode cL_law 322 = .ok (.aload_n 0, 1) := by decide +kernel
theorem dL_law_323 : decode cL_law 323 = .ok (.iload_n 3, 1) := by decide +kernel
theorem dL_law_324 : decode cL_law 324 = .ok (.iconst 2, 1) := by decide +kernel
theorem dL_law_325 : decode cL_law 325 = .ok (.iadd, 1) := by decide +kernel
theorem dL_law_326 : decode cL_law 326 = .ok (.iaload, 1) := by decide +kernel
theorem dL_law_327 : decode cL_law 327 = .ok (.invokevirtual 32, 3) := by decide +kernel
theorem dL_law_330 : decode cL_law 330 = .ok (.aload_n 2, 1) := by decide +kernel
theorem dL_law_331 : decode cL_law 331 = .ok (.aload_n 0, 1) := by decide +kernel
theorem dL_law_332 : decode cL_law 332 = .ok (.iload_n 3, 1) := by decide +kernel
theorem dL_law_333 : decode cL_law 333 = .ok (.iconst 1, 1) := by decide +kernel
theorem dL_law_334 : decode cL_law 334 = .ok (.iadd, 1) := by decide +kernel
theorem dL_law_335 : decode cL_law 335 = .ok (.iaload, 1) := by decide +kernel
theorem dL_law_336 : decode cL_law 336 = .ok (.aload_n 0, 1) := by decide +kernel
theorem dL_law_337 : decode cL_law 337 = .ok (.iload_n 3, 1) := by decide +kernel
theorem dL_law_338 : decode cL_law 338 = .ok (.iconst 2, 1) := by decide +kernel
theorem dL_law_339 : decode cL_law 339 = .ok (.iadd, 1) := by decide +kernel
theorem dL_law_340 : decode cL_law 340 = .ok (.iaload, 1) := by decide +kernel
theorem dL_law_341 : decode cL_law 341 = .ok (.invokevirtual 35, 3) := by decide +kernel
theorem dL_law_344 : decode cL_law 344 = .ok (.if_icmp .eq 562, 3) := by decide +kernel
theorem dL_law_347 : decode cL_law 347 = .ok (.iconst 0, 1) := by decide +kernel
theorem dL_law_348 : decode cL_law 348 = .ok (.ireturn, 1) := by decide +kernel
theorem dL_law_349 : decode cL_law 349 = .ok (.aload_n 1, 1) := by decide +kernel
theorem dL_law_350 : decode cL_law 350 = .ok (.aload_n 0, 1) := by decide +kernel
theorem dL_law_351 : decode cL_law 351 = .ok (.iload_n 3, 1) := by decide +kernel
theorem dL_law_352 : decode cL_law 352 = .ok (.iconst 1, 1) := by decide +kernel
theorem dL_law_353 : decode cL_law 353 = .ok (.iadd, 1) := by decide +kernel
theorem dL_law_354 : decode cL_law 354 = .ok (.iaload, 1) := by decide +kernel
theorem dL_law_355 : decode cL_law 355 = .ok (.invokevirtual 36, 3) := by decide +kernel
theorem dL_law_358 : decode cL_law 358 = .ok (.aload_n 2, 1) := by decide +kernel
theorem dL_law_359 : decode cL_law 359 = .ok (.aload_n 0, 1) := by decide +kernel
theorem dL_law_360 : decode cL_law 360 = .ok (.iload_n 3, 1) := by decide +kernel
theorem dL_law_361 : decode cL_law 361 = .ok (.iconst 1, 1) := by decide +kernel
theorem dL_law_362 : decode cL_law 362 = .ok (.iadd, 1) := by decide +kernel
theorem dL_law_363 : decode cL_law 363 = .ok (.iaload, 1) := by decide +kernel
theorem dL_law_364 : decode cL_law 364 = .ok (.invokevirtual 40, 3) := by decide +kernel
theorem dL_law_367 : decode cL_law 367 = .ok (.if_icmp .eq 539, 3) := by decide +kernel
theorem dL_law_370 : decode cL_law 370 = .ok (.iconst 0, 1) := by decide +kernel
theorem dL_law_371 : decode cL_law 371 = .ok (.ireturn, 1) := by decide +kernel
theorem dL_law_372 : decode cL_law 372 = .ok (.aload_n 1, 1) := by decide +kernel
theorem dL_law_373 : decode cL_law 373 = .ok (.aload_n 0, 1) := by decide +kernel
theorem dL_law_374 : decode cL_law 374 = .ok (.iload_n 3, 1) := by decide +kernel
theorem dL_law_375 : decode cL_law 375 = .ok (.iconst 1, 1) := by decide +kernel
theorem dL_law_376 : decode cL_law 376 = .ok (.iadd, 1) := by decide +kernel
theorem dL_law_377 : decode cL_law 377 = .ok (.iaload, 1) := by decide +kernel
theorem dL_law_378 : decode cL_law 378 = .ok (.aload_n 0, 1) := by decide +kernel
theorem dL_law_379 : decode cL_law 379 = .ok (.iload_n 3, 1) := by decide +kernel
theorem dL_law_380 : decode cL_law 380 = .ok (.iconst 2, 1) := by decide +kernel
theorem dL_law_381 : decode cL_law 381 = .ok (.iadd, 1) := by decide +kernel
theorem dL_law_382 : decode cL_law 382 = .ok (.iaload, 1) := by decide +kernel
theorem dL_law_383 : decode cL_law 383 = .ok (.invokevirtual 41, 3) := by decide +kernel
theorem dL_law_386 : decode cL_law 386 = .ok (.aload_n 2, 1) := by decide +kernel
theorem dL_law_387 : decode cL_law 387 = .ok (.aload_n 0, 1) := by decide +kernel
theorem dL_law_388 : decode cL_law 388 = .ok (.iload_n 3, 1) := by decide +kernel
theorem dL_law_389 : decode cL_law 389 = .ok (.iconst 1, 1) := by decide +kernel
theorem dL_law_390 : decode cL_law 390 = .ok (.iadd, 1) := by decide +kernel
theorem dL_law_391 : decode cL_law 391 = .ok (.iaload, 1) := by decide +kernel
theorem dL_law_392 : decode cL_law 392 = .ok (.aload_n 0, 1) := by decide +kernel
theorem dL_law_393 : decode cL_law 393 = .ok (.iload_n 3, 1) := by decide +kernel
theorem dL_law_394 : decode cL_law 394 = .ok (.iconst 2, 1) := by decide +kernel
theorem dL_law_395 : decode cL_law 395 = .ok (.iadd, 1) := by decide +kernel
theorem dL_law_396 : decode cL_law 396 = .ok (.iaload, 1) := by decide +kernel
theorem dL_law_397 : decode cL_law 397 = .ok (.invokevirtual 44, 3) := by decide +kernel
theorem dL_law_400 : decode cL_law 400 = .ok (.if_icmp .eq 506, 3) := by decide +kernel
theorem dL_law_403 : decode cL_law 403 = .ok (.iconst 0, 1) := by decide +kernel
theorem dL_law_404 : decode cL_law 404 = .ok (.ireturn, 1) := by decide +kernel
theorem dL_law_405 : decode cL_law 405 = .ok (.aload_n 1, 1) := by decide +kernel
theorem dL_law_406 : decode cL_law 406 = .ok (.aload_n 0, 1) := by decide +kernel
theorem dL_law_407 : decode cL_law 407 = .ok (.iload_n 3, 1) := by decide +kernel
theorem dL_law_408 : decode cL_law 408 = .ok (.iconst 1, 1) := by decide +kernel
theorem dL_law_409 : decode cL_law 409 = .ok (.iadd, 1) := by decide +kernel
theorem dL_law_410 : decode cL_law 410 = .ok (.iaload, 1) := by decide +kernel
theorem dL_law_411 : decode cL_law 411 = .ok (.aload_n 0, 1) := by decide +kernel
theorem dL_law_412 : decode cL_law 412 = .ok (.iload_n 3, 1) := by decide +kernel
theorem dL_law_413 : decode cL_law 413 = .ok (.iconst 2, 1) := by decide +kernel
theorem dL_law_414 : decode cL_law 414 = .ok (.iadd, 1) := by decide +kernel
theorem dL_law_415 : decode cL_law 415 = .ok (.iaload, 1) := by decide +kernel
theorem dL_law_416 : decode cL_law 416 = .ok (.aload_n 0, 1) := by decide +kernel
theorem dL_law_417 : decode cL_law 417 = .ok (.iload_n 3, 1) := by decide +kernel
theorem dL_law_418 : decode cL_law 418 = .ok (.iconst 3, 1) := by decide +kernel
theorem dL_law_419 : decode cL_law 419 = .ok (.iadd, 1) := by decide +kernel
theorem dL_law_420 : decode cL_law 420 = .ok (.iaload, 1) := by decide +kernel
theorem dL_law_421 : decode cL_law 421 = .ok (.aload_n 0, 1) := by decide +kernel
theorem dL_law_422 : decode cL_law 422 = .ok (.iload_n 3, 1) := by decide +kernel
theorem dL_law_423 : decode cL_law 423 = .ok (.iconst 4, 1) := by decide +kernel
theorem dL_law_424 : decode cL_law 424 = .ok (.iadd, 1) := by decide +kernel
theorem dL_law_425 : decode cL_law 425 = .ok (.iaload, 1) := by decide +kernel
theorem dL_law_426 : decode cL_law 426 = .ok (.invokevirtual 45, 3) := by decide +kernel
theorem dL_law_429 : decode cL_law 429 = .ok (.aload_n 2, 1) := by decide +kernel
theorem dL_law_430 : decode cL_law 430 = .ok (.aload_n 0, 1) := by decide +kernel
theorem dL_law_431 : decode cL_law 431 = .ok (.iload_n 3, 1) := by decide +kernel
theorem dL_law_432 : decode cL_law 432 = .ok (.iconst 1, 1) := by decide +kernel
theorem dL_law_433 : decode cL_law 433 = .ok (.iadd, 1) := by decide +kernel
theorem dL_law_434 : decode cL_law 434 = .ok (.iaload, 1) := by decide +kernel
theorem dL_law_435 : decode cL_law 435 = .ok (.aload_n 0, 1) := by decide +kernel
theorem dL_law_436 : decode cL_law 436 = .ok (.iload_n 3, 1) := by decide +kernel
theorem dL_law_437 : decode cL_law 437 = .ok (.iconst 2, 1) := by decide +kernel
theorem dL_law_438 : decode cL_law 438 = .ok (.iadd, 1) := by decide +kernel
theorem dL_law_439 : decode cL_law 439 = .ok (.iaload, 1) := by decide +kernel
theorem dL_law_440 : decode cL_law 440 = .ok (.aload_n 0, 1) := by decide +kernel
theorem dL_law_441 : decode cL_law 441 = .ok (.iload_n 3, 1) := by decide +kernel
theorem dL_law_442 : decode cL_law 442 = .ok (.iconst 3, 1) := by decide +kernel
theorem dL_law_443 : decode cL_law 443 = .ok (.iadd, 1) := by decide +kernel
theorem dL_law_444 : decode cL_law 444 = .ok (.iaload, 1) := by decide +kernel
theorem dL_law_445 : decode cL_law 445 = .ok (.aload_n 0, 1) := by decide +kernel
theorem dL_law_446 : decode cL_law 446 = .ok (.iload_n 3, 1) := by decide +kernel
theorem dL_law_447 : decode cL_law 447 = .ok (.iconst 4, 1) := by decide +kernel
theorem dL_law_448 : decode cL_law 448 = .ok (.iadd, 1) := by decide +kernel
theorem dL_law_449 : decode cL_law 449 = .ok (.iaload, 1) := by decide +kernel
theorem dL_law_450 : decode cL_law 450 = .ok (.invokevirtual 49, 3) := by decide +kernel
theorem dL_law_453 : decode cL_law 453 = .ok (.if_icmp .eq 453, 3) := by decide +kernel
theorem dL_law_456 : decode cL_law 456 = .ok (.iconst 0, 1) := by decide +kernel
theorem dL_law_457 : decode cL_law 457 = .ok (.ireturn, 1) := by decide +kernel
theorem dL_law_458 : decode cL_law 458 = .ok (.aload_n 1, 1) := by decide +kernel
theorem dL_law_459 : decode cL_law 459 = .ok (.aload_n 0, 1) := by decide +kernel
theorem dL_law_460 : decode cL_law 460 = .ok (.iload_n 3, 1) := by decide +kernel
theorem dL_law_461 : decode cL_law 461 = .ok (.iconst 1, 1) := by decide +kernel
theorem dL_law_462 : decode cL_law 462 = .ok (.iadd, 1) := by decide +kernel
theorem dL_law_463 : decode cL_law 463 = .ok (.iaload, 1) := by decide +kernel
theorem dL_law_464 : decode cL_law 464 = .ok (.aload_n 0, 1) := by decide +kernel
theorem dL_law_465 : decode cL_law 465 = .ok (.iload_n 3, 1) := by decide +kernel
theorem dL_law_466 : decode cL_law 466 = .ok (.iconst 2, 1) := by decide +kernel
theorem dL_law_467 : decode cL_law 467 = .ok (.iadd, 1) := by decide +kernel
theorem dL_law_468 : decode cL_law 468 = .ok (.iaload, 1) := by decide +kernel
theorem dL_law_469 : decode cL_law 469 = .ok (.aload_n 0, 1) := by decide +kernel
theorem dL_law_470 : decode cL_law 470 = .ok (.iload_n 3, 1) := by decide +kernel
theorem dL_law_471 : decode cL_law 471 = .ok (.iconst 3, 1) := by decide +kernel
theorem dL_law_472 : decode cL_law 472 = .ok (.iadd, 1) := by decide +kernel
theorem dL_law_473 : decode cL_law 473 = .ok (.iaload, 1) := by decide +kernel
theorem dL_law_474 : decode cL_law 474 = .ok (.aload_n 0, 1) := by decide +kernel
theorem dL_law_475 : decode cL_law 475 = .ok (.iload_n 3, 1) := by decide +kernel
theorem dL_law_476 : decode cL_law 476 = .ok (.iconst 4, 1) := by decide +kernel
theorem dL_law_477 : decode cL_law 477 = .ok (.iadd, 1) := by decide +kernel
theorem dL_law_478 : decode cL_law 478 = .ok (.iaload, 1) := by decide +kernel
theorem dL_law_479 : decode cL_law 479 = .ok (.invokevirtual 50, 3) := by decide +kernel
theorem dL_law_482 : decode cL_law 482 = .ok (.aload_n 2, 1) := by decide +kernel
theorem dL_law_483 : decode cL_law 483 = .ok (.aload_n 0, 1) := by decide +kernel
theorem dL_law_484 : decode cL_law 484 = .ok (.iload_n 3, 1) := by decide +kernel
theorem dL_law_485 : decode cL_law 485 = .ok (.iconst 1, 1) := by decide +kernel
theorem dL_law_486 : decode cL_law 486 = .ok (.iadd, 1) := by decide +kernel
theorem dL_law_487 : decode cL_law 487 = .ok (.iaload, 1) := by decide +kernel
theorem dL_law_488 : decode cL_law 488 = .ok (.aload_n 0, 1) := by decide +kernel
theorem dL_law_489 : decode cL_law 489 = .ok (.iload_n 3, 1) := by decide +kernel
theorem dL_law_490 : decode cL_law 490 = .ok (.iconst 2, 1) := by decide +kernel
theorem dL_law_491 : decode cL_law 491 = .ok (.iadd, 1) := by decide +kernel
theorem dL_law_492 : decode cL_law 492 = .ok (.iaload, 1) := by decide +kernel
theorem dL_law_493 : decode cL_law 493 = .ok (.aload_n 0, 1) := by decide +kernel
theorem dL_law_494 : decode cL_law 494 = .ok (.iload_n 3, 1) := by decide +kernel
theorem dL_law_495 : decode cL_law 495 = .ok (.iconst 3, 1) := by decide +kernel
theorem dL_law_496 : decode cL_law 496 = .ok (.iadd, 1) := by decide +kernel
theorem dL_law_497 : decode cL_law 497 = .ok (.iaload, 1) := by decide +kernel
theorem dL_law_498 : decode cL_law 498 = .ok (.aload_n 0, 1) := by decide +kernel
theorem dL_law_499 : decode cL_law 499 = .ok (.iload_n 3, 1) := by decide +kernel
theorem dL_law_500 : decode cL_law 500 = .ok (.iconst 4, 1) := by decide +kernel
theorem dL_law_501 : decode cL_law 501 = .ok (.iadd, 1) := by decide +kernel
theorem dL_law_502 : decode cL_law 502 = .ok (.iaload, 1) := by decide +kernel
theorem dL_law_503 : decode cL_law 503 = .ok (.invokevirtual 53, 3) := by decide +kernel
theorem dL_law_506 : decode cL_law 506 = .ok (.if_icmp .eq 400, 3) := by decide +kernel
theorem dL_law_509 : decode cL_law 509 = .ok (.iconst 0, 1) := by decide +kernel
theorem dL_law_510 : decode cL_law 510 = .ok (.ireturn, 1) := by decide +kernel
theorem dL_law_511 : decode cL_law 511 = .ok (.aload_n 1, 1) := by decide +kernel
theorem dL_law_512 : decode cL_law 512 = .ok (.aload_n 0, 1) := by decide +kernel
theorem dL_law_513 : decode cL_law 513 = .ok (.iload_n 3, 1) := by decide +kernel
theorem dL_law_514 : decode cL_law 514 = .ok (.iconst 1, 1) := by decide +kernel
theorem dL_law_515 : decode cL_law 515 = .ok (.iadd, 1) := by decide +kernel
theorem dL_law_516 : decode cL_law 516 = .ok (.iaload, 1) := by decide +kernel
theorem dL_law_517 : decode cL_law 517 = .ok (.invokevirtual 54, 3) := by decide +kernel
theorem dL_law_520 : decode cL_law 520 = .ok (.aload_n 2, 1) := by decide +kernel
theorem dL_law_521 : decode cL_law 521 = .ok (.aload_n 0, 1) := by decide +kernel
theorem dL_law_522 : decode cL_law 522 = .ok (.iload_n 3, 1) := by decide +kernel
theorem dL_law_523 : decode cL_law 523 = .ok (.iconst 1, 1) := by decide +kernel
theorem dL_law_524 : decode cL_law 524 = .ok (.iadd, 1) := by decide +kernel
theorem dL_law_525 : decode cL_law 525 = .ok (.iaload, 1) := by decide +kernel
theorem dL_law_526 : decode cL_law 526 = .ok (.invokevirtual 57, 3) := by decide +kernel
theorem dL_law_529 : decode cL_law 529 = .ok (.if_icmp .eq 377, 3) := by decide +kernel
theorem dL_law_532 : decode cL_law 532 = .ok (.iconst 0, 1) := by decide +kernel
theorem dL_law_533 : decode cL_law 533 = .ok (.ireturn, 1) := by decide +kernel
theorem dL_law_534 : decode cL_law 534 = .ok (.aload_n 1, 1) := by decide +kernel
theorem dL_law_535 : decode cL_law 535 = .ok (.invokevirtual 58, 3) := by decide +kernel
theorem dL_law_538 : decode cL_law 538 = .ok (.aload_n 2, 1) := by decide +kernel
theorem dL_law_539 : decode cL_law 539 = .ok (.invokevirtual 62, 3) := by decide +kernel
theorem dL_law_542 : decode cL_law 542 = .ok (.if_icmp .eq 364, 3) := by decide +kernel
theorem dL_law_545 : decode cL_law 545 = .ok (.iconst 0, 1) := by decide +kernel
theorem dL_law_546 : decode cL_law 546 = .ok (.ireturn, 1) := by decide +kernel
theorem dL_law_547 : decode cL_law 547 = .ok (.aload_n 1, 1) := by decide +kernel
theorem dL_law_548 : decode cL_law 548 = .ok (.aload_n 0, 1) := by decide +kernel
theorem dL_law_549 : decode cL_law 549 = .ok (.iload_n 3, 1) := by decide +kernel
theorem dL_law_550 : decode cL_law 550 = .ok (.iconst 1, 1) := by decide +kernel
theorem dL_law_551 : decode cL_law 551 = .ok (.iadd, 1) := by decide +kernel
theorem dL_law_552 : decode cL_law 552 = .ok (.iaload, 1) := by decide +kernel
theorem dL_law_553 : decode cL_law 553 = .ok (.invokevirtual 63, 3) := by decide +kernel
theorem dL_law_556 : decode cL_law 556 = .ok (.aload_n 2, 1) := by decide +kernel
theorem dL_law_557 : decode cL_law 557 = .ok (.aload_n 0, 1) := by decide +kernel
theorem dL_law_558 : decode cL_law 558 = .ok (.iload_n 3, 1) := by decide +kernel
theorem dL_law_559 : decode cL_law 559 = .ok (.iconst 1, 1) := by decide +kernel
theorem dL_law_560 : decode cL_law 560 = .ok (.iadd, 1) := by decide +kernel
theorem dL_law_561 : decode cL_law 561 = .ok (.iaload, 1) := by decide +kernel
theorem dL_law_562 : decode cL_law 562 = .ok (.invokevirtual 66, 3) := by decide +kernel
theorem dL_law_565 : decode cL_law 565 = .ok (.if_icmp .eq 341, 3) := by decide +kernel
theorem dL_law_568 : decode cL_law 568 = .ok (.iconst 0, 1) := by decide +kernel
theorem dL_law_569 : decode cL_law 569 = .ok (.ireturn, 1) := by decide +kernel
theorem dL_law_570 : decode cL_law 570 = .ok (.aload_n 1, 1) := by decide +kernel
theorem dL_law_571 : decode cL_law 571 = .ok (.aload_n 0, 1) := by decide +kernel
theorem dL_law_572 : decode cL_law 572 = .ok (.iload_n 3, 1) := by decide +kernel
theorem dL_law_573 : decode cL_law 573 = .ok (.iconst 1, 1) := by decide +kernel
theorem dL_law_574 : decode cL_law 574 = .ok (.iadd, 1) := by decide +kernel
theorem dL_law_575 : decode cL_law 575 = .ok (.iaload, 1) := by decide +kernel
theorem dL_law_576 : decode cL_law 576 = .ok (.aload_n 0, 1) := by decide +kernel
theorem dL_law_577 : decode cL_law 577 = .ok (.iload_n 3, 1) := by decide +kernel
theorem dL_law_578 : decode cL_law 578 = .ok (.iconst 2, 1) := by decide +kernel
theorem dL_law_579 : decode cL_law 579 = .ok (.iadd, 1) := by decide +kernel
theorem dL_law_580 : decode cL_law 580 = .ok (.iaload, 1) := by decide +kernel
theorem dL_law_581 : decode cL_law 581 = .ok (.aload_n 0, 1) := by decide +kernel
theorem dL_law_582 : decode cL_law 582 = .ok (.iload_n 3, 1) := by decide +kernel
theorem dL_law_583 : decode cL_law 583 = .ok (.iconst 3, 1) := by decide +kernel
theorem dL_law_584 : decode cL_law 584 = .ok (.iadd, 1) := by decide +kernel
theorem dL_law_585 : decode cL_law 585 = .ok (.iaload, 1) := by decide +kernel
theorem dL_law_586 : decode cL_law 586 = .ok (.aload_n 0, 1) := by decide +kernel
theorem dL_law_587 : decode cL_law 587 = .ok (.iload_n 3, 1) := by decide +kernel
theorem dL_law_588 : decode cL_law 588 = .ok (.iconst 4, 1) := by decide +kernel
theorem dL_law_589 : decode cL_law 589 = .ok (.iadd, 1) := by decide +kernel
theorem dL_law_590 : decode cL_law 590 = .ok (.iaload, 1) := by decide +kernel
theorem dL_law_591 : decode cL_law 591 = .ok (.aload_n 0, 1) := by decide +kernel
theorem dL_law_592 : decode cL_law 592 = .ok (.iload_n 3, 1) := by decide +kernel
theorem dL_law_593 : decode cL_law 593 = .ok (.iconst 5, 1) := by decide +kernel
theorem dL_law_594 : decode cL_law 594 = .ok (.iadd, 1) := by decide +kernel
theorem dL_law_595 : decode cL_law 595 = .ok (.iaload, 1) := by decide +kernel
theorem dL_law_596 : decode cL_law 596 = .ok (.invokevirtual 67, 3) := by decide +kernel
theorem dL_law_599 : decode cL_law 599 = .ok (.aload_n 2, 1) := by decide +kernel
theorem dL_law_600 : decode cL_law 600 = .ok (.aload_n 0, 1) := by decide +kernel
theorem dL_law_601 : decode cL_law 601 = .ok (.iload_n 3, 1) := by decide +kernel
theorem dL_law_602 : decode cL_law 602 = .ok (.iconst 1, 1) := by decide +kernel
theorem dL_law_603 : decode cL_law 603 = .ok (.iadd, 1) := by decide +kernel
theorem dL_law_604 : decode cL_law 604 = .ok (.iaload, 1) := by decide +kernel
theorem dL_law_605 : decode cL_law 605 = .ok (.aload_n 0, 1) := by decide +kernel
theorem dL_law_606 : decode cL_law 606 = .ok (.iload_n 3, 1) := by decide +kernel
theorem dL_law_607 : decode cL_law 607 = .ok (.iconst 2, 1) := by decide +kernel
theorem dL_law_608 : decode cL_law 608 = .ok (.iadd, 1) := by decide +kernel
theorem dL_law_609 : decode cL_law 609 = .ok (.iaload, 1) := by decide +kernel
theorem dL_law_610 : decode cL_law 610 = .ok (.aload_n 0, 1) := by decide +kernel
theorem dL_law_611 : decode cL_law 611 = .ok (.iload_n 3, 1) := by decide +kernel
theorem dL_law_612 : decode cL_law 612 = .ok (.iconst 3, 1) := by decide +kernel
theorem dL_law_613 : decode cL_law 613 = .ok (.iadd, 1) := by decide +kernel
theorem dL_law_614 : decode cL_law 614 = .ok (.iaload, 1) := by decide +kernel
theorem dL_law_615 : decode cL_law 615 = .ok (.aload_n 0, 1) := by decide +kernel
theorem dL_law_616 : decode cL_law 616 = .ok (.iload_n 3, 1) := by decide +kernel
theorem dL_law_617 : decode cL_law 617 = .ok (.iconst 4, 1) := by decide +kernel
theorem dL_law_618 : decode cL_law 618 = .ok (.iadd, 1) := by decide +kernel
theorem dL_law_619 : decode cL_law 619 = .ok (.iaload, 1) := by decide +kernel
theorem dL_law_620 : decode cL_law 620 = .ok (.aload_n 0, 1) := by decide +kernel
theorem dL_law_621 : decode cL_law 621 = .ok (.iload_n 3, 1) := by decide +kernel
theorem dL_law_622 : decode cL_law 622 = .ok (.iconst 5, 1) := by decide +kernel
theorem dL_law_623 : decode cL_law 623 = .ok (.iadd, 1) := by decide +kernel
theorem dL_law_624 : decode cL_law 624 = .ok (.iaload, 1) := by decide +kernel
theorem dL_law_625 : decode cL_law 625 = .ok (.invokevirtual 70, 3) := by decide +kernel
theorem dL_law_628 : decode cL_law 628 = .ok (.if_icmp .eq 278, 3) := by decide +kernel
theorem dL_law_631 : decode cL_law 631 = .ok (.iconst 0, 1) := by decide +kernel
theorem dL_law_632 : decode cL_law 632 = .ok (.ireturn, 1) := by decide +kernel
theorem dL_law_633 : decode cL_law 633 = .ok (.aload_n 1, 1) := by decide +kernel
theorem dL_law_634 : decode cL_law 634 = .ok (.aload_n 0, 1) := by decide +kernel
theorem dL_law_635 : decode cL_law 635 = .ok (.iload_n 3, 1) := by decide +kernel
theorem dL_law_636 : decode cL_law 636 = .ok (.iconst 1, 1) := by decide +kernel
theorem dL_law_637 : decode cL_law 637 = .ok (.iadd, 1) := by decide +kernel
theorem dL_law_638 : decode cL_law 638 = .ok (.iaload, 1) := by decide +kernel
theorem dL_law_639 : decode cL_law 639 = .ok (.invokevirtual 71, 3) := by decide +kernel
theorem dL_law_642 : decode cL_law 642 = .ok (.aload_n 2, 1) := by decide +kernel
theorem dL_law_643 : decode cL_law 643 = .ok (.aload_n 0, 1) := by decide +kernel
theorem dL_law_644 : decode cL_law 644 = .ok (.iload_n 3, 1) := by decide +kernel
theorem dL_law_645 : decode cL_law 645 = .ok (.iconst 1, 1) := by decide +kernel
theorem dL_law_646 : decode cL_law 646 = .ok (.iadd, 1) := by decide +kernel
theorem dL_law_647 : decode cL_law 647 = .ok (.iaload, 1) := by decide +kernel
theorem dL_law_648 : decode cL_law 648 = .ok (.invokevirtual 74, 3) := by decide +kernel
theorem dL_law_651 : decode cL_law 651 = .ok (.if_icmp .eq 255, 3) := by decide +kernel
theorem dL_law_654 : decode cL_law 654 = .ok (.iconst 0, 1) := by decide +kernel
theorem dL_law_655 : decode cL_law 655 = .ok (.ireturn, 1) := by decide +kernel
theorem dL_law_656 : decode cL_law 656 = .ok (.aload_n 1, 1) := by decide +kernel
theorem dL_law_657 : decode cL_law 657 = .ok (.invokevirtual 75, 3) := by decide +kernel
theorem dL_law_660 : decode cL_law 660 = .ok (.aload_n 2, 1) := by decide +kernel
theorem dL_law_661 : decode cL_law 661 = .ok (.invokevirtual 78, 3) := by decide +kernel
theorem dL_law_664 : decode cL_law 664 = .ok (.if_icmp .eq 242, 3) := by decide +kernel
theorem dL_law_667 : decode cL_law 667 = .ok (.iconst 0, 1) := by decide +kernel
theorem dL_law_668 : decode cL_law 668 = .ok (.ireturn, 1) := by decide +kernel
theorem dL_law_669 : decode cL_law 669 = .ok (.aload_n 1, 1) := by decide +kernel
theorem dL_law_670 : decode cL_law 670 = .ok (.invokevirtual 79, 3) := by decide +kernel
theorem dL_law_673 : decode cL_law 673 = .ok (.aload_n 2, 1) := by decide +kernel
theorem dL_law_674 : decode cL_law 674 = .ok (.invokevirtual 82, 3) := by decide +kernel
theorem dL_law_677 : decode cL_law 677 = .ok (.if_icmp .eq 229, 3) := by decide +kernel
theorem dL_law_680 : decode cL_law 680 = .ok (.iconst 0, 1) := by decide +kernel
theorem dL_law_681 : decode cL_law 681 = .ok (.ireturn, 1) := by decide +kernel
theorem dL_law_682 : decode cL_law 682 = .ok (.aload_n 1, 1) := by decide +kernel
theorem dL_law_683 : decode cL_law 683 = .ok (.aload_n 0, 1) := by decide +kernel
theorem dL_law_684 : decode cL_law 684 = .ok (.iload_n 3, 1) := by decide +kernel
theorem dL_law_685 : decode cL_law 685 = .ok (.iconst 1, 1) := by decide +kernel
theorem dL_law_686 : decode cL_law 686 = .ok (.iadd, 1) := by decide +kernel
theorem dL_law_687 : decode cL_law 687 = .ok (.iaload, 1) := by decide +kernel
theorem dL_law_688 : decode cL_law 688 = .ok (.invokevirtual 83, 3) := by decide +kernel
theorem dL_law_691 : decode cL_law 691 = .ok (.aload_n 2, 1) := by decide +kernel
theorem dL_law_692 : decode cL_law 692 = .ok (.aload_n 0, 1) := by decide +kernel
theorem dL_law_693 : decode cL_law 693 = .ok (.iload_n 3, 1) := by decide +kernel
theorem dL_law_694 : decode cL_law 694 = .ok (.iconst 1, 1) := by decide +kernel
theorem dL_law_695 : decode cL_law 695 = .ok (.iadd, 1) := by decide +kernel
theorem dL_law_696 : decode cL_law 696 = .ok (.iaload, 1) := by decide +kernel
theorem dL_law_697 : decode cL_law 697 = .ok (.invokevirtual 86, 3) := by decide +kernel
theorem dL_law_700 : decode cL_law 700 = .ok (.if_icmp .eq 206, 3) := by decide +kernel
theorem dL_law_703 : decode cL_law 703 = .ok (.iconst 0, 1) := by decide +kernel
theorem dL_law_704 : decode cL_law 704 = .ok (.ireturn, 1) := by decide +kernel
theorem dL_law_705 : decode cL_law 705 = .ok (.aload_n 1, 1) := by decide +kernel
theorem dL_law_706 : decode cL_law 706 = .ok (.aload_n 0, 1) := by decide +kernel
theorem dL_law_707 : decode cL_law 707 = .ok (.iload_n 3, 1) := by decide +kernel
theorem dL_law_708 : decode cL_law 708 = .ok (.iconst 1, 1) := by decide +kernel
theorem dL_law_709 : decode cL_law 709 = .ok (.iadd, 1) := by decide +kernel
theorem dL_law_710 : decode cL_law 710 = .ok (.iaload, 1) := by decide +kernel
theorem dL_law_711 : decode cL_law 711 = .ok (.invokevirtual 87, 3) := by decide +kernel
theorem dL_law_714 : decode cL_law 714 = .ok (.aload_n 2, 1) := by decide +kernel
theorem dL_law_715 : decode cL_law 715 = .ok (.aload_n 0, 1) := by decide +kernel
theorem dL_law_716 : decode cL_law 716 = .ok (.iload_n 3, 1) := by decide +kernel
theorem dL_law_717 : decode cL_law 717 = .ok (.iconst 1, 1) := by decide +kernel
theorem dL_law_718 : decode cL_law 718 = .ok (.iadd, 1) := by decide +kernel
theorem dL_law_719 : decode cL_law 719 = .ok (.iaload, 1) := by decide +kernel
theorem dL_law_720 : decode cL_law 720 = .ok (.invokevirtual 90, 3) := by decide +kernel
theorem dL_law_723 : decode cL_law 723 = .ok (.if_icmp .eq 183, 3) := by decide +kernel
theorem dL_law_726 : decode cL_law 726 = .ok (.iconst 0, 1) := by decide +kernel
theorem dL_law_727 : decode cL_law 727 = .ok (.ireturn, 1) := by decide +kernel
theorem dL_law_728 : decode cL_law 728 = .ok (.aload_n 1, 1) := by decide +kernel
theorem dL_law_729 : decode cL_law 729 = .ok (.aload_n 0, 1) := by decide +kernel
theorem dL_law_730 : decode cL_law 730 = .ok (.iload_n 3, 1) := by decide +kernel
theorem dL_law_731 : decode cL_law 731 = .ok (.iconst 1, 1) := by decide +kernel
theorem dL_law_732 : decode cL_law 732 = .ok (.iadd, 1) := by decide +kernel
theorem dL_law_733 : decode cL_law 733 = .ok (.iaload, 1) := by decide +kernel
theorem dL_law_734 : decode cL_law 734 = .ok (.aload_n 0, 1) := by decide +kernel
theorem dL_law_735 : decode cL_law 735 = .ok (.iload_n 3, 1) := by decide +kernel
theorem dL_law_736 : decode cL_law 736 = .ok (.iconst 2, 1) := by decide +kernel
theorem dL_law_737 : decode cL_law 737 = .ok (.iadd, 1) := by decide +kernel
theorem dL_law_738 : decode cL_law 738 = .ok (.iaload, 1) := by decide +kernel
theorem dL_law_739 : decode cL_law 739 = .ok (.invokevirtual 91, 3) := by decide +kernel
theorem dL_law_742 : decode cL_law 742 = .ok (.aload_n 2, 1) := by decide +kernel
theorem dL_law_743 : decode cL_law 743 = .ok (.aload_n 0, 1) := by decide +kernel
theorem dL_law_744 : decode cL_law 744 = .ok (.iload_n 3, 1) := by decide +kernel
theorem dL_law_745 : decode cL_law 745 = .ok (.iconst 1, 1) := by decide +kernel
theorem dL_law_746 : decode cL_law 746 = .ok (.iadd, 1) := by decide +kernel
theorem dL_law_747 : decode cL_law 747 = .ok (.iaload, 1) := by decide +kernel
theorem dL_law_748 : decode cL_law 748 = .ok (.aload_n 0, 1) := by decide +kernel
theorem dL_law_749 : decode cL_law 749 = .ok (.iload_n 3, 1) := by decide +kernel
theorem dL_law_750 : decode cL_law 750 = .ok (.iconst 2, 1) := by decide +kernel
theorem dL_law_751 : decode cL_law 751 = .ok (.iadd, 1) := by decide +kernel
theorem dL_law_752 : decode cL_law 752 = .ok (.iaload, 1) := by decide +kernel
theorem dL_law_753 : decode cL_law 753 = .ok (.invokevirtual 94, 3) := by decide +kernel
theorem dL_law_756 : decode cL_law 756 = .ok (.if_icmp .eq 150, 3) := by decide +kernel
theorem dL_law_759 : decode cL_law 759 = .ok (.iconst 0, 1) := by decide +kernel
theorem dL_law_760 : decode cL_law 760 = .ok (.ireturn, 1) := by decide +kernel
theorem dL_law_761 : decode cL_law 761 = .ok (.aload_n 1, 1) := by decide +kernel
theorem dL_law_762 : decode cL_law 762 = .ok (.aload_n 0, 1) := by decide +kernel
theorem dL_law_763 : decode cL_law 763 = .ok (.iload_n 3, 1) := by decide +kernel
theorem dL_law_764 : decode cL_law 764 = .ok (.iconst 1, 1) := by decide +kernel
theorem dL_law_765 : decode cL_law 765 = .ok (.iadd, 1) := by decide +kernel
theorem dL_law_766 : decode cL_law 766 = .ok (.iaload, 1) := by decide +kernel
theorem dL_law_767 : decode cL_law 767 = .ok (.aload_n 0, 1) := by decide +kernel
theorem dL_law_768 : decode cL_law 768 = .ok (.iload_n 3, 1) := by decide +kernel
theorem dL_law_769 : decode cL_law 769 = .ok (.iconst 2, 1) := by decide +kernel
theorem dL_law_770 : decode cL_law 770 = .ok (.iadd, 1) := by decide +kernel
theorem dL_law_771 : decode cL_law 771 = .ok (.iaload, 1) := by decide +kernel
theorem dL_law_772 : decode cL_law 772 = .ok (.aload_n 0, 1) := by decide +kernel
theorem dL_law_773 : decode cL_law 773 = .ok (.iload_n 3, 1) := by decide +kernel
theorem dL_law_774 : decode cL_law 774 = .ok (.iconst 3, 1) := by decide +kernel
theorem dL_law_775 : decode cL_law 775 = .ok (.iadd, 1) := by decide +kernel
theorem dL_law_776 : decode cL_law 776 = .ok (.iaload, 1) := by decide +kernel
theorem dL_law_777 : decode cL_law 777 = .ok (.invokevirtual 95, 3) := by decide +kernel
theorem dL_law_780 : decode cL_law 780 = .ok (.aload_n 2, 1) := by decide +kernel
theorem dL_law_781 : decode cL_law 781 = .ok (.aload_n 0, 1) := by decide +kernel
theorem dL_law_782 : decode cL_law 782 = .ok (.iload_n 3, 1) := by decide +kernel
theorem dL_law_783 : decode cL_law 783 = .ok (.iconst 1, 1) := by decide +kernel
theorem dL_law_784 : decode cL_law 784 = .ok (.iadd, 1) := by decide +kernel
theorem dL_law_785 : decode cL_law 785 = .ok (.iaload, 1) := by decide +kernel
theorem dL_law_786 : decode cL_law 786 = .ok (.aload_n 0, 1) := by decide +kernel
theorem dL_law_787 : decode cL_law 787 = .ok (.iload_n 3, 1) := by decide +kernel
theorem dL_law_788 : decode cL_law 788 = .ok (.iconst 2, 1) := by decide +kernel
theorem dL_law_789 : decode cL_law 789 = .ok (.iadd, 1) := by decide +kernel
theorem dL_law_790 : decode cL_law 790 = .ok (.iaload, 1) := by decide +kernel
theorem dL_law_791 : decode cL_law 791 = .ok (.aload_n 0, 1) := by decide +kernel
theorem dL_law_792 : decode cL_law 792 = .ok (.iload_n 3, 1) := by decide +kernel
theorem dL_law_793 : decode cL_law 793 = .ok (.iconst 3, 1) := by decide +kernel
theorem dL_law_794 : decode cL_law 794 = .ok (.iadd, 1) := by decide +kernel
theorem dL_law_795 : decode cL_law 795 = .ok (.iaload, 1) := by decide +kernel
theorem dL_law_796 : decode cL_law 796 = .ok (.invokevirtual 98, 3) := by decide +kernel
theorem dL_law_799 : decode cL_law 799 = .ok (.if_icmp .eq 107, 3) := by decide +kernel
theorem dL_law_802 : decode cL_law 802 = .ok (.iconst 0, 1) := by decide +kernel
theorem dL_law_803 : decode cL_law 803 = .ok (.ireturn, 1) := by decide +kernel
theorem dL_law_804 : decode cL_law 804 = .ok (.aload_n 1, 1) := by decide +kernel
theorem dL_law_805 : decode cL_law 805 = .ok (.aload_n 0, 1) := by decide +kernel
theorem dL_law_806 : decode cL_law 806 = .ok (.iload_n 3, 1) := by decide +kernel
theorem dL_law_807 : decode cL_law 807 = .ok (.iconst 1, 1) := by decide +kernel
theorem dL_law_808 : decode cL_law 808 = .ok (.iadd, 1) := by decide +kernel
theorem dL_law_809 : decode cL_law 809 = .ok (.iaload, 1) := by decide +kernel
theorem dL_law_810 : decode cL_law 810 = .ok (.aload_n 0, 1) := by decide +kernel
theorem dL_law_811 : decode cL_law 811 = .ok (.iload_n 3, 1) := by decide +kernel
theorem dL_law_812 : decode cL_law 812 = .ok (.iconst 2, 1) := by decide +kernel
theorem dL_law_813 : decode cL_law 813 = .ok (.iadd, 1) := by decide +kernel
theorem dL_law_814 : decode cL_law 814 = .ok (.iaload, 1) := by decide +kernel
theorem dL_law_815 : decode cL_law 815 = .ok (.invokevirtual 99, 3) := by decide +kernel
theorem dL_law_818 : decode cL_law 818 = .ok (.aload_n 2, 1) := by decide +kernel
theorem dL_law_819 : decode cL_law 819 = .ok (.aload_n 0, 1) := by decide +kernel
theorem dL_law_820 : decode cL_law 820 = .ok (.iload_n 3, 1) := by decide +kernel
theorem dL_law_821 : decode cL_law 821 = .ok (.iconst 1, 1) := by decide +kernel
theorem dL_law_822 : decode cL_law 822 = .ok (.iadd, 1) := by decide +kernel
theorem dL_law_823 : decode cL_law 823 = .ok (.iaload, 1) := by decide +kernel
theorem dL_law_824 : decode cL_law 824 = .ok (.aload_n 0, 1) := by decide +kernel
theorem dL_law_825 : decode cL_law 825 = .ok (.iload_n 3, 1) := by decide +kernel
theorem dL_law_826 : decode cL_law 826 = .ok (.iconst 2, 1) := by decide +kernel
theorem dL_law_827 : decode cL_law 827 = .ok (.iadd, 1) := by decide +kernel
theorem dL_law_828 : decode cL_law 828 = .ok (.iaload, 1) := by decide +kernel
theorem dL_law_829 : decode cL_law 829 = .ok (.invokevirtual 102, 3) := by decide +kernel
theorem dL_law_832 : decode cL_law 832 = .ok (.if_icmp .eq 74, 3) := by decide +kernel
theorem dL_law_835 : decode cL_law 835 = .ok (.iconst 0, 1) := by decide +kernel
theorem dL_law_836 : decode cL_law 836 = .ok (.ireturn, 1) := by decide +kernel
theorem dL_law_837 : decode cL_law 837 = .ok (.aload_n 1, 1) := by decide +kernel
theorem dL_law_838 : decode cL_law 838 = .ok (.aload_n 0, 1) := by decide +kernel
theorem dL_law_839 : decode cL_law 839 = .ok (.iload_n 3, 1) := by decide +kernel
theorem dL_law_840 : decode cL_law 840 = .ok (.iconst 1, 1) := by decide +kernel
theorem dL_law_841 : decode cL_law 841 = .ok (.iadd, 1) := by decide +kernel
theorem dL_law_842 : decode cL_law 842 = .ok (.iaload, 1) := by decide +kernel
theorem dL_law_843 : decode cL_law 843 = .ok (.aload_n 0, 1) := by decide +kernel
theorem dL_law_844 : decode cL_law 844 = .ok (.iload_n 3, 1) := by decide +kernel
theorem dL_law_845 : decode cL_law 845 = .ok (.iconst 2, 1) := by decide +kernel
theorem dL_law_846 : decode cL_law 846 = .ok (.iadd, 1) := by decide +kernel
theorem dL_law_847 : decode cL_law 847 = .ok (.iaload, 1) := by decide +kernel
theorem dL_law_848 : decode cL_law 848 = .ok (.invokevirtual 103, 3) := by decide +kernel
theorem dL_law_851 : decode cL_law 851 = .ok (.aload_n 2, 1) := by decide +kernel
theorem dL_law_852 : decode cL_law 852 = .ok (.aload_n 0, 1) := by decide +kernel
theorem dL_law_853 : decode cL_law 853 = .ok (.iload_n 3, 1) := by decide +kernel
theorem dL_law_854 : decode cL_law 854 = .ok (.iconst 1, 1) := by decide +kernel
theorem dL_law_855 : decode cL_law 855 = .ok (.iadd, 1) := by decide +kernel
theorem dL_law_856 : decode cL_law 856 = .ok (.iaload, 1) := by decide +kernel
theorem dL_law_857 : decode cL_law 857 = .ok (.aload_n 0, 1) := by decide +kernel
theorem dL_law_858 : decode cL_law 858 = .ok (.iload_n 3, 1) := by decide +kernel
theorem dL_law_859 : decode cL_law 859 = .ok (.iconst 2, 1) := by decide +kernel
theorem dL_law_860 : decode cL_law 860 = .ok (.iadd, 1) := by decide +kernel
theorem dL_law_861 : decode cL_law 861 = .ok (.iaload, 1) := by decide +kernel
theorem dL_law_862 : decode cL_law 862 = .ok (.invokevirtual 106, 3) := by decide +kernel
theorem dL_law_865 : decode cL_law 865 = .ok (.if_icmp .eq 41, 3) := by decide +kernel
theorem dL_law_868 : decode cL_law 868 = .ok (.iconst 0, 1) := by decide +kernel
theorem dL_law_869 : decode cL_law 869 = .ok (.ireturn, 1) := by decide +kernel
theorem dL_law_870 : decode cL_law 870 = .ok (.aload_n 1, 1) := by decide +kernel
theorem dL_law_871 : decode cL_law 871 = .ok (.aload_n 0, 1) := by decide +kernel
theorem dL_law_872 : decode cL_law 872 = .ok (.iload_n 3, 1) := by decide +kernel
theorem dL_law_873 : decode cL_law 873 = .ok (.iconst 1, 1) := by decide +kernel
theorem dL_law_874 : decode cL_law 874 = .ok (.iadd, 1) := by decide +kernel
theorem dL_law_875 : decode cL_law 875 = .ok (.iaload, 1) := by decide +kernel
theorem dL_law_876 : decode cL_law 876 = .ok (.invokevirtual 107, 3) := by decide +kernel
theorem dL_law_879 : decode cL_law 879 = .ok (.aload_n 2, 1) := by decide +kernel
theorem dL_law_880 : decode cL_law 880 = .ok (.aload_n 0, 1) := by decide +kernel
theorem dL_law_881 : decode cL_law 881 = .ok (.iload_n 3, 1) := by decide +kernel
theorem dL_law_882 : decode cL_law 882 = .ok (.iconst 1, 1) := by decide +kernel
theorem dL_law_883 : decode cL_law 883 = .ok (.iadd, 1) := by decide +kernel
theorem dL_law_884 : decode cL_law 884 = .ok (.iaload, 1) := by decide +kernel
theorem dL_law_885 : decode cL_law 885 = .ok (.invokevirtual 110, 3) := by decide +kernel
theorem dL_law_888 : decode cL_law 888 = .ok (.if_icmp .eq 18, 3) := by decide +kernel
theorem dL_law_891 : decode cL_law 891 = .ok (.iconst 0, 1) := by decide +kernel
theorem dL_law_892 : decode cL_law 892 = .ok (.ireturn, 1) := by decide +kernel
theorem dL_law_893 : decode cL_law 893 = .ok (.aload_n 1, 1) := by decide +kernel
theorem dL_law_894 : decode cL_law 894 = .ok (.invokevirtual 111, 3) := by decide +kernel
theorem dL_law_897 : decode cL_law 897 = .ok (.aload_n 2, 1) := by decide +kernel
theorem dL_law_898 : decode cL_law 898 = .ok (.invokevirtual 114, 3) := by decide +kernel
theorem dL_law_901 : decode cL_law 901 = .ok (.if_icmp .eq 5, 3) := by decide +kernel
theorem dL_law_904 : decode cL_law 904 = .ok (.iconst 0, 1) := by decide +kernel
theorem dL_law_905 : decode cL_law 905 = .ok (.ireturn, 1) := by decide +kernel
theorem dL_law_906 : decode cL_law 906 = .ok (.iinc 3 6, 3) := by decide +kernel
theorem dL_law_909 : decode cL_law 909 = .ok (.goto (-891), 3) := by decide +kernel
theorem dL_law_912 : decode cL_law 912 = .ok (.iconst 1, 1) := by decide +kernel
theorem dL_law_913 : decode cL_law 913 = .ok (.ireturn, 1) := by decide +kernel
end
section
/-! THE CORE: states as tables of numbers, worlds of fixed cells, walks over them -/
abbrev gSt : Type := (Nat → Int32) × (Nat → Nat → Int32) × Int64
/-- a layout: how many cells, their kinds, lengths, objects (class, fields), first rows of arrays of arrays -/
abbrev gL : Type := Nat × (Nat → Nat) × (Nat → Nat) × (Nat → Nat × List (Nat × Nat)) × (Nat → Nat)
abbrev gCs : Type := ClassId × ClassId × ClassId
/-- which of the two books a number names -/
def gbk (x : Int32) : Nat := if x = 0 then 11 else 12
def gfv (ad : Nat → Nat) (S : gSt) (d : Nat × Nat) : Value := match d.1 with
  | 0 => .int (S.1 d.2)
  | 1 => .ref (ad d.2)
  | 2 => .ref (ad (gbk (S.1 d.2)))
  | _ => .long S.2.2
def gcell (L : gL) (cs : gCs) (ad : Nat → Nat) (S : gSt) (k : Nat) : va_E := match L.2.1 k with
  | 0 => .inr ((L.2.2.2.1 k).1, (L.2.2.2.1 k).2.map (gfv ad S))
  | 1 => .inl (cs.1, L.2.2.1 k, .inl (S.2.1 k))
  | 2 => .inl (cs.2.1, L.2.2.1 k, .inl (S.2.1 k))
  | _ => .inl (cs.2.2, L.2.2.1 k, .inr (.inr (.inr (.inr (fun i => if i < L.2.2.1 k then some (ad (L.2.2.2.2 k + i)) else none)))))
def gW (L : gL) (cs : gCs) (ad : Nat → Nat) (S : gSt) : va_W := (List.range L.1).map (fun k => (ad k, gcell L cs ad S k))
abbrev gty (cs : gCs) : List (ClassId × FieldType) := [(cs.1, .int), (cs.2.1, .boolean), (cs.2.2, .array .int)]
def gA (L : gL) (ad : Nat → Nat) : Nat → Prop := fun q => ∃ k, k < L.1 ∧ q = ad k
def gInj (L : gL) (ad : Nat → Nat) : Prop := ∀ i j, i < L.1 → j < L.1 → ad i = ad j → i = j
theorem gW_at {L : gL} {cs : gCs} {ad : Nat → Nat} {S : gSt} {k : Nat} (hk : k < L.1) : (gW L cs ad S)[k]? = some (ad k, gcell L cs ad S k) := by
  simp [gW, hk]
theorem gW_of {L : gL} {cs : gCs} {ad : Nat → Nat} {S : gSt} {k : Nat} {q : Nat × va_E} (h : (gW L cs ad S)[k]? = some q) : k < L.1 ∧ q = (ad k, gcell L cs ad S k) := by
  have hk : k < L.1 := by
    have h1 := (List.getElem?_eq_some_iff.mp h).1
    simpa [gW] using h1
  rw [gW_at hk] at h
  exact ⟨hk, (Option.some.inj h).symm⟩
theorem gW_set {L : gL} {cs : gCs} {ad : Nat → Nat} {S S' : gSt} {k : Nat} {e : va_E} (h1 : gcell L cs ad S' k = e) (h2 : ∀ j, j < L.1 → j ≠ k → gcell L cs ad S' j = gcell L cs ad S j) : (gW L cs ad S).set k (ad k, e) = gW L cs ad S' := by
  apply List.ext_getElem?
  intro j
  by_cases hj : j < L.1
  · by_cases hjk : j = k
    · subst hjk
      rw [List.getElem?_set_self (by simpa [gW] using hj), gW_at hj, h1]
    · rw [List.getElem?_set_ne (Ne.symm hjk), gW_at hj, gW_at hj, h2 j hj hjk]
  · rw [List.getElem?_eq_none (by simp [gW]; omega), List.getElem?_eq_none (by simp [gW]; omega)]
theorem gW_D {L : gL} {cs : gCs} {ad : Nat → Nat} (S : gSt) (h : gInj L ad) : va_D (gA L ad) (gW L cs ad S) := by
  refine ⟨fun i j p q hi hj e => ?_, fun k q hk => ?_⟩
  · obtain ⟨a1, rfl⟩ := gW_of hi
    obtain ⟨a2, rfl⟩ := gW_of hj
    exact h i j a1 a2 e
  · obtain ⟨a1, rfl⟩ := gW_of hk
    exact ⟨k, a1, rfl⟩
/-! locals: a list with a place for each slot, none where nothing is known -/
def gkn : Nat → List (Option Value) → List (Nat × Value)
  | _, [] => []
  | i, none :: t => gkn (i + 1) t
  | i, some v :: t => (i, v) :: gkn (i + 1) t
theorem gkn_in : ∀ {lv : List (Option Value)} {i j : Nat} {v : Value}, lv[j]? = some (some v) → (i + j, v) ∈ gkn i lv
  | [], i, j, v, h => by simp at h
  | none :: t, i, 0, v, h => by simp at h
  | none :: t, i, j + 1, v, h => by
    have h1 := gkn_in (i := i + 1) (lv := t) (j := j) (v := v) (by simpa using h)
    have e : i + (j + 1) = i + 1 + j := by omega
    rw [e]; exact h1
  | some w :: t, i, 0, v, h => by
    simp at h; subst h; simp [gkn]
  | some w :: t, i, j + 1, v, h => by
    have h1 := gkn_in (i := i + 1) (lv := t) (j := j) (v := v) (by simpa using h)
    have e : i + (j + 1) = i + 1 + j := by omega
    rw [e]; exact List.mem_cons_of_mem _ h1
theorem gkn_of : ∀ {lv : List (Option Value)} {i : Nat} {q : Nat × Value}, q ∈ gkn i lv → ∃ j, q.1 = i + j ∧ lv[j]? = some (some q.2)
  | [], i, q, h => by simp [gkn] at h
  | none :: t, i, q, h => by
    obtain ⟨j, e, hj⟩ := gkn_of (lv := t) (i := i + 1) h
    exact ⟨j + 1, by omega, by simpa using hj⟩
  | some w :: t, i, q, h => by
    rcases List.mem_cons.mp h with rfl | h
    · exact ⟨0, rfl, by simp⟩
    · obtain ⟨j, e, hj⟩ := gkn_of (lv := t) (i := i + 1) h
      exact ⟨j + 1, by omega, by simpa using hj⟩
def gok (ls : Array Slot) (nL : Nat) (lv : List (Option Value)) : Prop := ls.size = nL ∧ lv_wf ls ∧ ∀ (k : Nat) (v : Value), lv[k]? = some (some v) → ls[k]? = some (.val v)
theorem gok.has {ls : Array Slot} {nL : Nat} {lv : List (Option Value)} (h : gok ls nL lv) : lv_has ls nL (gkn 0 lv) := ⟨h.1, h.2.1, fun q hq => by
  obtain ⟨j, e, hj⟩ := gkn_of hq
  rw [e, Nat.zero_add]; exact h.2.2 j q.2 hj⟩
theorem gok.of {ls : Array Slot} {nL : Nat} {lv : List (Option Value)} {l : List (Nat × Value)} (h : lv_has ls nL l) (hl : gkn 0 lv = l) : gok ls nL lv := ⟨h.1, h.2.1, fun k v hk => by
  have h1 := gkn_in (i := 0) hk
  rw [Nat.zero_add, hl] at h1
  exact h.2.2 _ h1⟩
/-- fewer known places -/
def gle : List (Option Value) → List (Option Value) → Prop
  | [], _ => True
  | none :: a, [] => gle a []
  | none :: a, _ :: b => gle a b
  | some _ :: _, [] => False
  | some v :: a, x :: b => x = some v ∧ gle a b
theorem gle_at : ∀ {a b : List (Option Value)} {k : Nat} {v : Value}, gle a b → a[k]? = some (some v) → b[k]? = some (some v)
  | [], b, k, v, h, hk => by simp at hk
  | none :: a, [], 0, v, h, hk => by simp at hk
  | none :: a, [], k + 1, v, h, hk => by
    have h1 := gle_at (a := a) (b := []) (k := k) (v := v) h (by simpa using hk)
    simp at h1
  | none :: a, x :: b, 0, v, h, hk => by simp at hk
  | none :: a, x :: b, k + 1, v, h, hk => by
    simpa using gle_at (a := a) (b := b) (k := k) (v := v) h (by simpa using hk)
  | some w :: a, [], k, v, h, hk => h.elim
  | some w :: a, x :: b, 0, v, h, hk => by
    simp at hk; subst hk; simp [h.1]
  | some w :: a, x :: b, k + 1, v, h, hk => by
    simpa using gle_at (a := a) (b := b) (k := k) (v := v) h.2 (by simpa using hk)
theorem gok.le {ls : Array Slot} {nL : Nat} {a b : List (Option Value)} (h : gok ls nL b) (hl : gle a b) : gok ls nL a := ⟨h.1, h.2.1, fun k v hk => h.2.2 k v (gle_at hl hk)⟩
/-- the slot ahead of i holds no first half of a long -/
def gpv (lv : List (Option Value)) : Nat → Bool
  | 0 => true
  | k + 1 => match lv[k]? with
    | some (some w) => w.category == 1
    | _ => true
theorem gpv_at {lv : List (Option Value)} {i k : Nat} {w : Value} (h : gpv lv i = true) (e : k + 1 = i) (hk : lv[k]? = some (some w)) : ¬ w.category = 2 := by
  subst e
  simp only [gpv, hk] at h
  intro q
  rw [q] at h
  cases h
theorem gok.put1 {ls' : Array Slot} {nL i : Nat} {v : Value} {lv : List (Option Value)} (hpv : gpv lv i = true) (h : lv_has ls' nL ((i, v) :: (gkn 0 lv).filter (fun q => !(q.1 == i) && !(q.1 + 1 == i && q.2.category == 2)))) : gok ls' nL (lv.set i (some v)) := by
  refine ⟨h.1, h.2.1, fun k w hk => ?_⟩
  by_cases e : k = i
  · subst e
    by_cases hl : k < lv.length
    · rw [List.getElem?_set_self hl] at hk
      cases hk
      exact h.2.2 (k, v) List.mem_cons_self
    · rw [List.getElem?_eq_none (by simp; omega)] at hk
      cases hk
  · rw [List.getElem?_set_ne (Ne.symm e)] at hk
    have h1 := gkn_in (i := 0) hk
    rw [Nat.zero_add] at h1
    refine h.2.2 (k, w) (List.mem_cons_of_mem _ (List.mem_filter.mpr ⟨h1, ?_⟩))
    have e1 : (k == i) = false := by simpa using e
    by_cases e2 : k + 1 = i
    · have := gpv_at hpv e2 hk
      simp [e1, this]
    · simp [e1, e2]
theorem gok.put2 {ls' : Array Slot} {nL i : Nat} {v : Value} {lv : List (Option Value)} (hpv : gpv lv i = true) (h : lv_has ls' nL ((i, v) :: (gkn 0 lv).filter (fun q => !(q.1 == i) && (!(q.1 == i + 1) && !(q.1 + 1 == i && q.2.category == 2))))) : gok ls' nL ((lv.set i (some v)).set (i + 1) none) := by
  refine ⟨h.1, h.2.1, fun k w hk => ?_⟩
  by_cases e3 : k = i + 1
  · subst e3
    by_cases hl : i + 1 < lv.length
    · rw [List.getElem?_set_self (by simpa using hl)] at hk
      cases hk
    · rw [List.getElem?_eq_none (by simp; omega)] at hk
      cases hk
  rw [List.getElem?_set_ne (Ne.symm e3)] at hk
  by_cases e : k = i
  · subst e
    by_cases hl : k < lv.length
    · rw [List.getElem?_set_self hl] at hk
      cases hk
      exact h.2.2 (k, v) List.mem_cons_self
    · rw [List.getElem?_eq_none (by simp; omega)] at hk
      cases hk
  · rw [List.getElem?_set_ne (Ne.symm e)] at hk
    have h1 := gkn_in (i := 0) hk
    rw [Nat.zero_add] at h1
    refine h.2.2 (k, w) (List.mem_cons_of_mem _ (List.mem_filter.mpr ⟨h1, ?_⟩))
    have e1 : (k == i) = false := by simpa using e
    have e4 : (k == i + 1) = false := by simpa using e3
    by_cases e2 : k + 1 = i
    · have := gpv_at hpv e2 hk
      simp [e1, this, e4]
    · simp [e1, e2, e4]
/-! contracts -/
/-- what is said of the start beside the world: it stays, where no cell outside the world changes -/
def gZok (A : Nat → Prop) (Z : State → Prop) : Prop := (∀ U U' : State, U.vm = U'.vm → U.heap = U'.heap → Z U → Z U') ∧ ∀ U U' : State, U.WarmedH U'.vm → (∀ a : Nat, a < U.heap.size → ¬ A a → U'.heap[a]? = U.heap[a]?) → Z U → Z U'
abbrev gRm (d : Nat) : Room := { frames := d, cells := 0, slots := 0, locals := 60 * d }
def gPre (D : va_G) (cs : gCs) (L : gL) (ad : Nat → Nat) (Z : State → Prop) (av : List Value) (S : gSt) : Array Value → State → Prop := va_Pc av (fun U => va_P D gcl (gW L cs ad S) U.heap ∧ va_K D gcl (gty cs) U ∧ Z U)
def gPost (D : va_G) (cs : gCs) (L : gL) (ad : Nat → Nat) (Q : Option Value → gSt → Prop) : Array Value → State → Outcome → State → Prop := fun _ st oc t => (∃ (v : Option Value) (S' : gSt), oc = .returned v ∧ Q v S' ∧ va_P D gcl (gW L cs ad S') t.heap) ∧ va_F (gA L ad) st t
def gCT (l : Launch) (D : va_G) (cs : gCs) (L : gL) (ad : Nat → Nat) (Z : State → Prop) (d : Nat) (y : MethodName) (cc : ByteArray) (nL : Nat) (ret : Option FieldType) (av : List Value) (S : gSt) (Q : Option Value → gSt → Prop) : Prop :=
  Met l y (Cond.code y cc nL ret :: TT) (gRm d) (gPre D cs L ad Z av S) (gPost D cs L ad Q) 0 0 (gA L ad)
def gGo (p : Program) (l : Launch) (e : Env) (R : Room) (s : State) (m : MethodId) (args : Array Value) (below : List Frame) (meth : Method) (c : Code) (D : va_G) (cs : gCs) (L : gL) (ad : Nat → Nat) (nL : Nat) (Qf : State → Prop) (pc : Nat) (lv : List (Option Value)) (st : List Value) (S : gSt) : Prop :=
  ∀ (H : Heap) (locs : List Loc) (ls : Array Slot), va_P D gcl (gW L cs ad S) H → va_S (gA L ad) s.heap H locs → gok ls nL lv → W p l e R s m args below meth c H locs 0 0 Qf (F0 m pc ls st)
abbrev gG : Type := Nat → List (Option Value) → List Value → gSt → Prop
def gSim (l : Launch) (D : va_G) (cs : gCs) (L : gL) (ad : Nat → Nat) (Z : State → Prop) (d : Nat) (own : String) (cc : ByteArray) (nL : Nat) (ret : Option FieldType) (G : gG) (Rt : Option Value → gSt → Prop) : Prop :=
  ∃ (p : Program) (e : Env) (s : State) (m : MethodId) (args : Array Value) (below : List Frame) (meth : Method) (c : Code), p.tables.exec = Jvm.exec ∧ c.code = cc ∧ c.maxLocals = nL ∧ s.vm.findClass own = some m.cls ∧ (∀ w ∈ TT, w.before args s = true) ∧ meth.sig.returnType = ret ∧ meth.locks = false ∧ va_K D gcl (gty cs) s ∧ Z s ∧ gInj L ad ∧ gZok (gA L ad) Z ∧
    G = gGo p l e (gRm d) s m args below meth c D cs L ad nL (MQ below (gPost D cs L ad Rt) args s 0 0 (gA L ad))
/-- a method's contract out of a walk -/
theorem met_walk {l : Launch} {D : va_G} {cs : gCs} {L : gL} {ad : Nat → Nat} {Z : State → Prop} {d : Nat} {y : MethodName} {cc : ByteArray} {nL : Nat} {ret : Option FieldType} {av : List Value} {S : gSt} {Q : Option Value → gSt → Prop} {lv0 : List (Option Value)}
    (hE : gInj L ad ∧ gZok (gA L ad) Z) (hy : plainName y.cls = true) (hn : (lg_sl av).length ≤ nL) (hlv : gkn 0 lv0 = lv_args 0 av)
    (walk : ∀ (G : gG) (Rt : Option Value → gSt → Prop), gSim l D cs L ad Z d y.cls cc nL ret G Rt → (∀ v S', Q v S' → Rt v S') → G 0 lv0 [] S) : gCT l D cs L ad Z d y cc nL ret av S Q := by
  refine Met.ofW (cc := cc) (maxL := nL) (ret := ret) hy rfl ?_
  intro p e s m args below meth c s₁ B hml hv
  obtain ⟨rfl, hP, hK, hZ⟩ := hv
  have hts := atoms_spec (ws := Cond.code y cc nL ret :: TT) B.pre
  have hl := lv_entry av (n := nL) hn
  rw [lg_entry_eq]
  have h := walk _ Q ⟨p, e, s, m, av.toArray, below, meth, c, B.exec, B.bytes, hml, findClass_of_methodNamed B.named, fun w hw => hts w (List.mem_cons_of_mem _ hw), B.returns, B.notSynchronized, hK, hZ, hE.1, hE.2, rfl⟩ (fun _ _ h => h)
  exact h s.heap [] _ hP va_S.rf (gok.of hl hlv)
end
section
section GROWS
variable {l : Launch} {D : va_G} {cs : gCs} {L : gL} {ad : Nat → Nat} {Z : State → Prop} {d : Nat} {own : String} {cc : ByteArray} {nL : Nat} {ret : Option FieldType} {G : gG} {Rt : Option Value → gSt → Prop} {pc n : Nat} {lv lv2 : List (Option Value)} {st : List Value} {S : gSt}
theorem s_iconst (h : gSim l D cs L ad Z d own cc nL ret G Rt) {z : Int} {v : Int32} (hd : decode cc pc = .ok (.iconst z, 1)) (hv : Int32.ofInt z = v) (hn : pc + 1 = n) (k : G n lv (.int v :: st) S) : G pc lv st S := by
  subst hn
  obtain ⟨p, e, s, m, args, below, meth, c, hx, hb, hml, ho, hts, hr, hlk, hK, hZ, hi, hz, rfl⟩ := h
  intro H locs ls hP hS hl
  exact lv_iconst hx hb hd hv (k H locs ls hP hS hl)
theorem s_bipush (h : gSim l D cs L ad Z d own cc nL ret G Rt) {z : Int} {v : Int32} (hd : decode cc pc = .ok (.bipush z, 2)) (hv : (Int8.ofInt z).toInt32 = v) (hn : pc + 2 = n) (k : G n lv (.int v :: st) S) : G pc lv st S := by
  subst hn
  obtain ⟨p, e, s, m, args, below, meth, c, hx, hb, hml, ho, hts, hr, hlk, hK, hZ, hi, hz, rfl⟩ := h
  intro H locs ls hP hS hl
  exact lv_bipush hx hb hd hv (k H locs ls hP hS hl)
theorem s_sipush (h : gSim l D cs L ad Z d own cc nL ret G Rt) {z : Int} {v : Int32} (hd : decode cc pc = .ok (.sipush z, 3)) (hv : (Int16.ofInt z).toInt32 = v) (hn : pc + 3 = n) (k : G n lv (.int v :: st) S) : G pc lv st S := by
  subst hn
  obtain ⟨p, e, s, m, args, below, meth, c, hx, hb, hml, ho, hts, hr, hlk, hK, hZ, hi, hz, rfl⟩ := h
  intro H locs ls hP hS hl
  exact lv_sipush hx hb hd hv (k H locs ls hP hS hl)
theorem s_lconst (h : gSim l D cs L ad Z d own cc nL ret G Rt) {z : Fin 2} {v : Int64} (hd : decode cc pc = .ok (.lconst z, 1)) (hv : Int64.ofNat (z : Nat) = v) (hn : pc + 1 = n) (k : G n lv (.long v :: st) S) : G pc lv st S := by
  subst hn
  obtain ⟨p, e, s, m, args, below, meth, c, hx, hb, hml, ho, hts, hr, hlk, hK, hZ, hi, hz, rfl⟩ := h
  intro H locs ls hP hS hl
  exact lv_lconst hx hb hd hv (k H locs ls hP hS hl)
theorem s_iload_n (h : gSim l D cs L ad Z d own cc nL ret G Rt) {j : Fin 4} {x : Int32} (hd : decode cc pc = .ok (.iload_n j, 1)) (hv : lv[(j : Nat)]? = some (some (.int x))) (hn : pc + 1 = n) (k : G n lv (.int x :: st) S) : G pc lv st S := by
  subst hn
  obtain ⟨p, e, s, m, args, below, meth, c, hx, hb, hml, ho, hts, hr, hlk, hK, hZ, hi, hz, rfl⟩ := h
  intro H locs ls hP hS hl
  exact lv_iload_n hx hb hd rfl (hl.2.2 _ _ hv) (k H locs ls hP hS hl)
theorem s_iload (h : gSim l D cs L ad Z d own cc nL ret G Rt) {j : Nat} {x : Int32} (hd : decode cc pc = .ok (.iload j, 2)) (hv : lv[j]? = some (some (.int x))) (hn : pc + 2 = n) (k : G n lv (.int x :: st) S) : G pc lv st S := by
  subst hn
  obtain ⟨p, e, s, m, args, below, meth, c, hx, hb, hml, ho, hts, hr, hlk, hK, hZ, hi, hz, rfl⟩ := h
  intro H locs ls hP hS hl
  exact lv_iload hx hb hd (hl.2.2 _ _ hv) (k H locs ls hP hS hl)
theorem s_istore_n (h : gSim l D cs L ad Z d own cc nL ret G Rt) {j : Fin 4} {x : Int32} (hd : decode cc pc = .ok (.istore_n j, 1)) (hc : (gpv lv (j : Nat) && Nat.ble ((j : Nat) + 1) nL) = true) (hv : lv.set (j : Nat) (some (.int x)) = lv2) (hn : pc + 1 = n) (k : G n lv2 st S) : G pc lv (.int x :: st) S := by
  subst hn
  obtain ⟨p, e, s, m, args, below, meth, c, hx, hb, hml, ho, hts, hr, hlk, hK, hZ, hi, hz, rfl⟩ := h
  intro H locs ls hP hS hl
  subst hv
  obtain ⟨hc1, hc2⟩ := Bool.and_eq_true_iff.mp hc
  exact lv_istore_n hx hb hd rfl hl.has (Nat.le_of_ble_eq_true hc2) rfl (fun ls2 h2 => k H locs ls2 hP hS (gok.put1 hc1 h2))
theorem s_istore (h : gSim l D cs L ad Z d own cc nL ret G Rt) {j : Nat} {x : Int32} (hd : decode cc pc = .ok (.istore j, 2)) (hc : (gpv lv j && Nat.ble (j + 1) nL) = true) (hv : lv.set j (some (.int x)) = lv2) (hn : pc + 2 = n) (k : G n lv2 st S) : G pc lv (.int x :: st) S := by
  subst hn
  obtain ⟨p, e, s, m, args, below, meth, c, hx, hb, hml, ho, hts, hr, hlk, hK, hZ, hi, hz, rfl⟩ := h
  intro H locs ls hP hS hl
  subst hv
  obtain ⟨hc1, hc2⟩ := Bool.and_eq_true_iff.mp hc
  exact lv_istore hx hb hd hl.has (Nat.le_of_ble_eq_true hc2) rfl (fun ls2 h2 => k H locs ls2 hP hS (gok.put1 hc1 h2))
theorem s_lload_n (h : gSim l D cs L ad Z d own cc nL ret G Rt) {j : Fin 4} {x : Int64} (hd : decode cc pc = .ok (.lload_n j, 1)) (hv : lv[(j : Nat)]? = some (some (.long x))) (hn : pc + 1 = n) (k : G n lv (.long x :: st) S) : G pc lv st S := by
  subst hn
  obtain ⟨p, e, s, m, args, below, meth, c, hx, hb, hml, ho, hts, hr, hlk, hK, hZ, hi, hz, rfl⟩ := h
  intro H locs ls hP hS hl
  exact lv_lload_n hx hb hd rfl (hl.2.2 _ _ hv) (k H locs ls hP hS hl)
theorem s_lload (h : gSim l D cs L ad Z d own cc nL ret G Rt) {j : Nat} {x : Int64} (hd : decode cc pc = .ok (.lload j, 2)) (hv : lv[j]? = some (some (.long x))) (hn : pc + 2 = n) (k : G n lv (.long x :: st) S) : G pc lv st S := by
  subst hn
  obtain ⟨p, e, s, m, args, below, meth, c, hx, hb, hml, ho, hts, hr, hlk, hK, hZ, hi, hz, rfl⟩ := h
  intro H locs ls hP hS hl
  exact lv_lload hx hb hd (hl.2.2 _ _ hv) (k H locs ls hP hS hl)
theorem s_lstore_n (h : gSim l D cs L ad Z d own cc nL ret G Rt) {j : Fin 4} {x : Int64} (hd : decode cc pc = .ok (.lstore_n j, 1)) (hc : (gpv lv (j : Nat) && Nat.ble ((j : Nat) + 2) nL) = true) (hv : (lv.set (j : Nat) (some (.long x))).set ((j : Nat) + 1) none = lv2) (hn : pc + 1 = n) (k : G n lv2 st S) : G pc lv (.long x :: st) S := by
  subst hn
  obtain ⟨p, e, s, m, args, below, meth, c, hx, hb, hml, ho, hts, hr, hlk, hK, hZ, hi, hz, rfl⟩ := h
  intro H locs ls hP hS hl
  subst hv
  obtain ⟨hc1, hc2⟩ := Bool.and_eq_true_iff.mp hc
  exact lv_lstore_n hx hb hd rfl hl.has (Nat.le_of_ble_eq_true hc2) rfl (fun ls2 h2 => k H locs ls2 hP hS (gok.put2 hc1 h2))
theorem s_lstore (h : gSim l D cs L ad Z d own cc nL ret G Rt) {j : Nat} {x : Int64} (hd : decode cc pc = .ok (.lstore j, 2)) (hc : (gpv lv j && Nat.ble (j + 2) nL) = true) (hv : (lv.set j (some (.long x))).set (j + 1) none = lv2) (hn : pc + 2 = n) (k : G n lv2 st S) : G pc lv (.long x :: st) S := by
  subst hn
  obtain ⟨p, e, s, m, args, below, meth, c, hx, hb, hml, ho, hts, hr, hlk, hK, hZ, hi, hz, rfl⟩ := h
  intro H locs ls hP hS hl
  subst hv
  obtain ⟨hc1, hc2⟩ := Bool.and_eq_true_iff.mp hc
  exact lv_lstore hx hb hd hl.has (Nat.le_of_ble_eq_true hc2) rfl (fun ls2 h2 => k H locs ls2 hP hS (gok.put2 hc1 h2))
theorem s_aload_n (h : gSim l D cs L ad Z d own cc nL ret G Rt) {j : Fin 4} {x : Nat} (hd : decode cc pc = .ok (.aload_n j, 1)) (hv : lv[(j : Nat)]? = some (some (.ref x))) (hn : pc + 1 = n) (k : G n lv (.ref x :: st) S) : G pc lv st S := by
  subst hn
  obtain ⟨p, e, s, m, args, below, meth, c, hx, hb, hml, ho, hts, hr, hlk, hK, hZ, hi, hz, rfl⟩ := h
  intro H locs ls hP hS hl
  exact lv_aload_n hx hb hd rfl (hl.2.2 _ _ hv) (k H locs ls hP hS hl)
theorem s_aload (h : gSim l D cs L ad Z d own cc nL ret G Rt) {j : Nat} {x : Nat} (hd : decode cc pc = .ok (.aload j, 2)) (hv : lv[j]? = some (some (.ref x))) (hn : pc + 2 = n) (k : G n lv (.ref x :: st) S) : G pc lv st S := by
  subst hn
  obtain ⟨p, e, s, m, args, below, meth, c, hx, hb, hml, ho, hts, hr, hlk, hK, hZ, hi, hz, rfl⟩ := h
  intro H locs ls hP hS hl
  exact lv_aload hx hb hd (hl.2.2 _ _ hv) (k H locs ls hP hS hl)
theorem s_astore_n (h : gSim l D cs L ad Z d own cc nL ret G Rt) {j : Fin 4} {x : Nat} (hd : decode cc pc = .ok (.astore_n j, 1)) (hc : (gpv lv (j : Nat) && Nat.ble ((j : Nat) + 1) nL) = true) (hv : lv.set (j : Nat) (some (.ref x)) = lv2) (hn : pc + 1 = n) (k : G n lv2 st S) : G pc lv (.ref x :: st) S := by
  subst hn
  obtain ⟨p, e, s, m, args, below, meth, c, hx, hb, hml, ho, hts, hr, hlk, hK, hZ, hi, hz, rfl⟩ := h
  intro H locs ls hP hS hl
  subst hv
  obtain ⟨hc1, hc2⟩ := Bool.and_eq_true_iff.mp hc
  exact lv_astore_n hx hb hd rfl hl.has (Nat.le_of_ble_eq_true hc2) rfl (fun ls2 h2 => k H locs ls2 hP hS (gok.put1 hc1 h2))
theorem s_astore (h : gSim l D cs L ad Z d own cc nL ret G Rt) {j : Nat} {x : Nat} (hd : decode cc pc = .ok (.astore j, 2)) (hc : (gpv lv j && Nat.ble (j + 1) nL) = true) (hv : lv.set j (some (.ref x)) = lv2) (hn : pc + 2 = n) (k : G n lv2 st S) : G pc lv (.ref x :: st) S := by
  subst hn
  obtain ⟨p, e, s, m, args, below, meth, c, hx, hb, hml, ho, hts, hr, hlk, hK, hZ, hi, hz, rfl⟩ := h
  intro H locs ls hP hS hl
  subst hv
  obtain ⟨hc1, hc2⟩ := Bool.and_eq_true_iff.mp hc
  exact lv_astore hx hb hd hl.has (Nat.le_of_ble_eq_true hc2) rfl (fun ls2 h2 => k H locs ls2 hP hS (gok.put1 hc1 h2))
theorem s_iinc (h : gSim l D cs L ad Z d own cc nL ret G Rt) {j : Nat} {z : Int} {x v cst : Int32} (hd : decode cc pc = .ok (.iinc j z, 3)) (hz : Int32.ofInt z = cst) (hj : lv[j]? = some (some (.int x))) (hx : v = x + cst) (hc : (gpv lv j && Nat.ble (j + 1) nL) = true) (hv : lv.set j (some (.int v)) = lv2) (hn : pc + 3 = n) (k : G n lv2 st S) : G pc lv st S := by
  subst hn
  subst hv
  subst hx
  subst hz
  obtain ⟨p, e, s, m, args, below, meth, c, hx, hb, hml, ho, hts, hr, hlk, hK, hZ, hi, hz, rfl⟩ := h
  intro H locs ls hP hS hl
  obtain ⟨hc1, hc2⟩ := Bool.and_eq_true_iff.mp hc
  obtain ⟨q, hq⟩ := List.getElem?_of_mem (gkn_in (i := 0) hj)
  rw [Nat.zero_add] at hq
  exact lv_iinc (k := q) hx hb hd hl.has hq rfl (Nat.le_of_ble_eq_true hc2) rfl (fun ls2 h2 => k H locs ls2 hP hS (gok.put1 hc1 h2))
theorem s_iadd (h : gSim l D cs L ad Z d own cc nL ret G Rt) {x y : Int32} (hd : decode cc pc = .ok (.iadd, 1))  (hn : pc + 1 = n) (k : G n lv (.int (x + y) :: st) S) : G pc lv (.int y :: .int x :: st) S := by
  subst hn
  obtain ⟨p, e, s, m, args, below, meth, c, hx, hb, hml, ho, hts, hr, hlk, hK, hZ, hi, hz, rfl⟩ := h
  intro H locs ls hP hS hl
  exact lv_iadd hx hb hd (k H locs ls hP hS hl)
theorem s_isub (h : gSim l D cs L ad Z d own cc nL ret G Rt) {x y : Int32} (hd : decode cc pc = .ok (.isub, 1))  (hn : pc + 1 = n) (k : G n lv (.int (x - y) :: st) S) : G pc lv (.int y :: .int x :: st) S := by
  subst hn
  obtain ⟨p, e, s, m, args, below, meth, c, hx, hb, hml, ho, hts, hr, hlk, hK, hZ, hi, hz, rfl⟩ := h
  intro H locs ls hP hS hl
  exact lv_isub hx hb hd (k H locs ls hP hS hl)
theorem s_imul (h : gSim l D cs L ad Z d own cc nL ret G Rt) {x y : Int32} (hd : decode cc pc = .ok (.imul, 1))  (hn : pc + 1 = n) (k : G n lv (.int (x * y) :: st) S) : G pc lv (.int y :: .int x :: st) S := by
  subst hn
  obtain ⟨p, e, s, m, args, below, meth, c, hx, hb, hml, ho, hts, hr, hlk, hK, hZ, hi, hz, rfl⟩ := h
  intro H locs ls hP hS hl
  exact lv_imul hx hb hd (k H locs ls hP hS hl)
theorem s_iand (h : gSim l D cs L ad Z d own cc nL ret G Rt) {x y : Int32} (hd : decode cc pc = .ok (.iand, 1))  (hn : pc + 1 = n) (k : G n lv (.int (x &&& y) :: st) S) : G pc lv (.int y :: .int x :: st) S := by
  subst hn
  obtain ⟨p, e, s, m, args, below, meth, c, hx, hb, hml, ho, hts, hr, hlk, hK, hZ, hi, hz, rfl⟩ := h
  intro H locs ls hP hS hl
  exact lv_iand hx hb hd (k H locs ls hP hS hl)
theorem s_ior (h : gSim l D cs L ad Z d own cc nL ret G Rt) {x y : Int32} (hd : decode cc pc = .ok (.ior, 1))  (hn : pc + 1 = n) (k : G n lv (.int (x ||| y) :: st) S) : G pc lv (.int y :: .int x :: st) S := by
  subst hn
  obtain ⟨p, e, s, m, args, below, meth, c, hx, hb, hml, ho, hts, hr, hlk, hK, hZ, hi, hz, rfl⟩ := h
  intro H locs ls hP hS hl
  exact lv_ior hx hb hd (k H locs ls hP hS hl)
theorem s_ixor (h : gSim l D cs L ad Z d own cc nL ret G Rt) {x y : Int32} (hd : decode cc pc = .ok (.ixor, 1))  (hn : pc + 1 = n) (k : G n lv (.int (x ^^^ y) :: st) S) : G pc lv (.int y :: .int x :: st) S := by
  subst hn
  obtain ⟨p, e, s, m, args, below, meth, c, hx, hb, hml, ho, hts, hr, hlk, hK, hZ, hi, hz, rfl⟩ := h
  intro H locs ls hP hS hl
  exact lv_ixor hx hb hd (k H locs ls hP hS hl)
theorem s_ishl (h : gSim l D cs L ad Z d own cc nL ret G Rt) {x y : Int32} (hd : decode cc pc = .ok (.ishl, 1))  (hn : pc + 1 = n) (k : G n lv (.int (x <<< (y &&& 31)) :: st) S) : G pc lv (.int y :: .int x :: st) S := by
  subst hn
  obtain ⟨p, e, s, m, args, below, meth, c, hx, hb, hml, ho, hts, hr, hlk, hK, hZ, hi, hz, rfl⟩ := h
  intro H locs ls hP hS hl
  exact lv_ishl hx hb hd (k H locs ls hP hS hl)
theorem s_ishr (h : gSim l D cs L ad Z d own cc nL ret G Rt) {x y : Int32} (hd : decode cc pc = .ok (.ishr, 1))  (hn : pc + 1 = n) (k : G n lv (.int (x >>> (y &&& 31)) :: st) S) : G pc lv (.int y :: .int x :: st) S := by
  subst hn
  obtain ⟨p, e, s, m, args, below, meth, c, hx, hb, hml, ho, hts, hr, hlk, hK, hZ, hi, hz, rfl⟩ := h
  intro H locs ls hP hS hl
  exact lv_ishr hx hb hd (k H locs ls hP hS hl)
theorem s_idiv (h : gSim l D cs L ad Z d own cc nL ret G Rt) {x y : Int32} (hd : decode cc pc = .ok (.idiv, 1)) (hne : ¬ y = 0) (hn : pc + 1 = n) (k : G n lv (.int (x / y) :: st) S) : G pc lv (.int y :: .int x :: st) S := by
  subst hn
  obtain ⟨p, e, s, m, args, below, meth, c, hx, hb, hml, ho, hts, hr, hlk, hK, hZ, hi, hz, rfl⟩ := h
  intro H locs ls hP hS hl
  exact lv_idiv hx hb hd hne (k H locs ls hP hS hl)
theorem s_irem (h : gSim l D cs L ad Z d own cc nL ret G Rt) {x y : Int32} (hd : decode cc pc = .ok (.irem, 1)) (hne : ¬ y = 0) (hn : pc + 1 = n) (k : G n lv (.int (x - x / y * y) :: st) S) : G pc lv (.int y :: .int x :: st) S := by
  subst hn
  obtain ⟨p, e, s, m, args, below, meth, c, hx, hb, hml, ho, hts, hr, hlk, hK, hZ, hi, hz, rfl⟩ := h
  intro H locs ls hP hS hl
  exact lv_irem hx hb hd hne (k H locs ls hP hS hl)
theorem s_ineg (h : gSim l D cs L ad Z d own cc nL ret G Rt) {x : Int32} (hd : decode cc pc = .ok (.ineg, 1))  (hn : pc + 1 = n) (k : G n lv (.int (-x) :: st) S) : G pc lv (.int x :: st) S := by
  subst hn
  obtain ⟨p, e, s, m, args, below, meth, c, hx, hb, hml, ho, hts, hr, hlk, hK, hZ, hi, hz, rfl⟩ := h
  intro H locs ls hP hS hl
  exact lv_ineg hx hb hd (k H locs ls hP hS hl)
theorem s_iushr (h : gSim l D cs L ad Z d own cc nL ret G Rt) {x y : Int32} (hd : decode cc pc = .ok (.iushr, 1))  (hn : pc + 1 = n) (k : G n lv (.int ((x.toUInt32 >>> (y.toUInt32 &&& Int32.toUInt32 31)).toInt32) :: st) S) : G pc lv (.int y :: .int x :: st) S := by
  subst hn
  obtain ⟨p, e, s, m, args, below, meth, c, hx, hb, hml, ho, hts, hr, hlk, hK, hZ, hi, hz, rfl⟩ := h
  intro H locs ls hP hS hl
  exact lv_iushr hx hb hd rfl (k H locs ls hP hS hl)
theorem s_ladd (h : gSim l D cs L ad Z d own cc nL ret G Rt) {x y : Int64} (hd : decode cc pc = .ok (.ladd, 1))  (hn : pc + 1 = n) (k : G n lv (.long (x + y) :: st) S) : G pc lv (.long y :: .long x :: st) S := by
  subst hn
  obtain ⟨p, e, s, m, args, below, meth, c, hx, hb, hml, ho, hts, hr, hlk, hK, hZ, hi, hz, rfl⟩ := h
  intro H locs ls hP hS hl
  exact lv_ladd hx hb hd (k H locs ls hP hS hl)
theorem s_lsub (h : gSim l D cs L ad Z d own cc nL ret G Rt) {x y : Int64} (hd : decode cc pc = .ok (.lsub, 1))  (hn : pc + 1 = n) (k : G n lv (.long (x - y) :: st) S) : G pc lv (.long y :: .long x :: st) S := by
  subst hn
  obtain ⟨p, e, s, m, args, below, meth, c, hx, hb, hml, ho, hts, hr, hlk, hK, hZ, hi, hz, rfl⟩ := h
  intro H locs ls hP hS hl
  exact lv_lsub hx hb hd (k H locs ls hP hS hl)
theorem s_lmul (h : gSim l D cs L ad Z d own cc nL ret G Rt) {x y : Int64} (hd : decode cc pc = .ok (.lmul, 1))  (hn : pc + 1 = n) (k : G n lv (.long (x * y) :: st) S) : G pc lv (.long y :: .long x :: st) S := by
  subst hn
  obtain ⟨p, e, s, m, args, below, meth, c, hx, hb, hml, ho, hts, hr, hlk, hK, hZ, hi, hz, rfl⟩ := h
  intro H locs ls hP hS hl
  exact lv_lmul hx hb hd (k H locs ls hP hS hl)
theorem s_lcmp (h : gSim l D cs L ad Z d own cc nL ret G Rt) {x y : Int64} (hd : decode cc pc = .ok (.lcmp, 1))  (hn : pc + 1 = n) (k : G n lv (.int (lg_cmp x y) :: st) S) : G pc lv (.long y :: .long x :: st) S := by
  subst hn
  obtain ⟨p, e, s, m, args, below, meth, c, hx, hb, hml, ho, hts, hr, hlk, hK, hZ, hi, hz, rfl⟩ := h
  intro H locs ls hP hS hl
  exact W.lcmp hx hb hd (k H locs ls hP hS hl)
theorem s_i2l (h : gSim l D cs L ad Z d own cc nL ret G Rt) {x : Int32} (hd : decode cc pc = .ok (.i2l, 1))  (hn : pc + 1 = n) (k : G n lv (.long x.toInt64 :: st) S) : G pc lv (.int x :: st) S := by
  subst hn
  obtain ⟨p, e, s, m, args, below, meth, c, hx, hb, hml, ho, hts, hr, hlk, hK, hZ, hi, hz, rfl⟩ := h
  intro H locs ls hP hS hl
  exact lv_i2l hx hb hd rfl (k H locs ls hP hS hl)
theorem s_l2i (h : gSim l D cs L ad Z d own cc nL ret G Rt) {x : Int64} (hd : decode cc pc = .ok (.l2i, 1))  (hn : pc + 1 = n) (k : G n lv (.int x.toInt32 :: st) S) : G pc lv (.long x :: st) S := by
  subst hn
  obtain ⟨p, e, s, m, args, below, meth, c, hx, hb, hml, ho, hts, hr, hlk, hK, hZ, hi, hz, rfl⟩ := h
  intro H locs ls hP hS hl
  exact lv_l2i hx hb hd rfl (k H locs ls hP hS hl)
theorem s_dup (h : gSim l D cs L ad Z d own cc nL ret G Rt) {v : Value} (hd : decode cc pc = .ok (.dup, 1)) (hv : v.category = 1) (hn : pc + 1 = n) (k : G n lv (v :: v :: st) S) : G pc lv (v :: st) S := by
  subst hn
  obtain ⟨p, e, s, m, args, below, meth, c, hx, hb, hml, ho, hts, hr, hlk, hK, hZ, hi, hz, rfl⟩ := h
  intro H locs ls hP hS hl
  exact lv_dup hx hb hd hv (k H locs ls hP hS hl)
theorem s_pop (h : gSim l D cs L ad Z d own cc nL ret G Rt) {v : Value} (hd : decode cc pc = .ok (.pop, 1)) (hv : v.category = 1) (hn : pc + 1 = n) (k : G n lv st S) : G pc lv (v :: st) S := by
  subst hn
  obtain ⟨p, e, s, m, args, below, meth, c, hx, hb, hml, ho, hts, hr, hlk, hK, hZ, hi, hz, rfl⟩ := h
  intro H locs ls hP hS hl
  exact lv_pop hx hb hd hv (k H locs ls hP hS hl)
theorem s_dup2 (h : gSim l D cs L ad Z d own cc nL ret G Rt) {v u : Value} (hd : decode cc pc = .ok (.dup2, 1)) (hv : v.category = 1) (hu : u.category = 1) (hn : pc + 1 = n) (k : G n lv (v :: u :: v :: u :: st) S) : G pc lv (v :: u :: st) S := by
  subst hn
  obtain ⟨p, e, s, m, args, below, meth, c, hx, hb, hml, ho, hts, hr, hlk, hK, hZ, hi, hz, rfl⟩ := h
  intro H locs ls hP hS hl
  exact lv_dup2_11 hx hb hd hv hu (k H locs ls hP hS hl)
theorem s_dup_x1 (h : gSim l D cs L ad Z d own cc nL ret G Rt) {v u : Value} (hd : decode cc pc = .ok (.dup_x1, 1)) (hv : v.category = 1) (hu : u.category = 1) (hn : pc + 1 = n) (k : G n lv (v :: u :: v :: st) S) : G pc lv (v :: u :: st) S := by
  subst hn
  obtain ⟨p, e, s, m, args, below, meth, c, hx, hb, hml, ho, hts, hr, hlk, hK, hZ, hi, hz, rfl⟩ := h
  intro H locs ls hP hS hl
  exact lv_dup_x1 hx hb hd hv hu (k H locs ls hP hS hl)
theorem s_ldc (h : gSim l D cs L ad Z d own cc nL ret G Rt) {i : Nat} {v : Int32} (hd : decode cc pc = .ok (.ldc i, 2)) (hw : Cond.constant own i v ∈ TT) (hn : pc + 2 = n) (k : G n lv (.int v :: st) S) : G pc lv st S := by
  subst hn
  obtain ⟨p, e, s, m, args, below, meth, c, hx, hb, hml, ho, hts, hr, hlk, hK, hZ, hi, hz, rfl⟩ := h
  intro H locs ls hP hS hl
  exact lv_ldc hx hb ho (hts _ hw) hd (k H locs ls hP hS hl)
theorem s_ldc_w (h : gSim l D cs L ad Z d own cc nL ret G Rt) {i : Nat} {v : Int32} (hd : decode cc pc = .ok (.ldc_w i, 3)) (hw : Cond.constant own i v ∈ TT) (hn : pc + 3 = n) (k : G n lv (.int v :: st) S) : G pc lv st S := by
  subst hn
  obtain ⟨p, e, s, m, args, below, meth, c, hx, hb, hml, ho, hts, hr, hlk, hK, hZ, hi, hz, rfl⟩ := h
  intro H locs ls hP hS hl
  exact lv_ldcw hx hb ho (hts _ hw) hd (k H locs ls hP hS hl)
theorem s_ldc2_w (h : gSim l D cs L ad Z d own cc nL ret G Rt) {i : Nat} {v : Int64} (hd : decode cc pc = .ok (.ldc2_w i, 3)) (hw : Cond.constantLong own i v ∈ TT) (hn : pc + 3 = n) (k : G n lv (.long v :: st) S) : G pc lv st S := by
  subst hn
  obtain ⟨p, e, s, m, args, below, meth, c, hx, hb, hml, ho, hts, hr, hlk, hK, hZ, hi, hz, rfl⟩ := h
  intro H locs ls hP hS hl
  exact lv_ldc2 hx hb ho (hts _ hw) hd (k H locs ls hP hS hl)
theorem s_if_eq (h : gSim l D cs L ad Z d own cc nL ret G Rt) {x : Int32} {off : Int} {tgt : Nat} (hd : decode cc pc = .ok (.ifCond .eq off, 3)) (ht : (pc : Int) + off = (tgt : Int)) (hn : pc + 3 = n) (kt : x = 0 → G tgt lv st S) (kf : ¬ x = 0 → G n lv st S) : G pc lv (.int x :: st) S := by
  subst hn
  obtain ⟨p, e, s, m, args, below, meth, c, hx, hb, hml, ho, hts, hr, hlk, hK, hZ, hi, hz, rfl⟩ := h
  intro H locs ls hP hS hl
  exact lv_if_eq hx hb hd ht (fun q => kt q H locs ls hP hS hl) (fun q => kf q H locs ls hP hS hl)
theorem s_if_ne (h : gSim l D cs L ad Z d own cc nL ret G Rt) {x : Int32} {off : Int} {tgt : Nat} (hd : decode cc pc = .ok (.ifCond .ne off, 3)) (ht : (pc : Int) + off = (tgt : Int)) (hn : pc + 3 = n) (kt : ¬ x = 0 → G tgt lv st S) (kf : x = 0 → G n lv st S) : G pc lv (.int x :: st) S := by
  subst hn
  obtain ⟨p, e, s, m, args, below, meth, c, hx, hb, hml, ho, hts, hr, hlk, hK, hZ, hi, hz, rfl⟩ := h
  intro H locs ls hP hS hl
  exact lv_if_ne hx hb hd ht (fun q => kt q H locs ls hP hS hl) (fun q => kf q H locs ls hP hS hl)
theorem s_if_lt (h : gSim l D cs L ad Z d own cc nL ret G Rt) {x : Int32} {off : Int} {tgt : Nat} (hd : decode cc pc = .ok (.ifCond .lt off, 3)) (ht : (pc : Int) + off = (tgt : Int)) (hn : pc + 3 = n) (kt : x < 0 → G tgt lv st S) (kf : ¬ x < 0 → G n lv st S) : G pc lv (.int x :: st) S := by
  subst hn
  obtain ⟨p, e, s, m, args, below, meth, c, hx, hb, hml, ho, hts, hr, hlk, hK, hZ, hi, hz, rfl⟩ := h
  intro H locs ls hP hS hl
  exact lv_if_lt hx hb hd ht (fun q => kt q H locs ls hP hS hl) (fun q => kf q H locs ls hP hS hl)
theorem s_if_ge (h : gSim l D cs L ad Z d own cc nL ret G Rt) {x : Int32} {off : Int} {tgt : Nat} (hd : decode cc pc = .ok (.ifCond .ge off, 3)) (ht : (pc : Int) + off = (tgt : Int)) (hn : pc + 3 = n) (kt : 0 ≤ x → G tgt lv st S) (kf : ¬ 0 ≤ x → G n lv st S) : G pc lv (.int x :: st) S := by
  subst hn
  obtain ⟨p, e, s, m, args, below, meth, c, hx, hb, hml, ho, hts, hr, hlk, hK, hZ, hi, hz, rfl⟩ := h
  intro H locs ls hP hS hl
  exact lv_if_ge hx hb hd ht (fun q => kt q H locs ls hP hS hl) (fun q => kf q H locs ls hP hS hl)
theorem s_if_gt (h : gSim l D cs L ad Z d own cc nL ret G Rt) {x : Int32} {off : Int} {tgt : Nat} (hd : decode cc pc = .ok (.ifCond .gt off, 3)) (ht : (pc : Int) + off = (tgt : Int)) (hn : pc + 3 = n) (kt : 0 < x → G tgt lv st S) (kf : ¬ 0 < x → G n lv st S) : G pc lv (.int x :: st) S := by
  subst hn
  obtain ⟨p, e, s, m, args, below, meth, c, hx, hb, hml, ho, hts, hr, hlk, hK, hZ, hi, hz, rfl⟩ := h
  intro H locs ls hP hS hl
  exact lv_if_gt hx hb hd ht (fun q => kt q H locs ls hP hS hl) (fun q => kf q H locs ls hP hS hl)
theorem s_if_le (h : gSim l D cs L ad Z d own cc nL ret G Rt) {x : Int32} {off : Int} {tgt : Nat} (hd : decode cc pc = .ok (.ifCond .le off, 3)) (ht : (pc : Int) + off = (tgt : Int)) (hn : pc + 3 = n) (kt : x ≤ 0 → G tgt lv st S) (kf : ¬ x ≤ 0 → G n lv st S) : G pc lv (.int x :: st) S := by
  subst hn
  obtain ⟨p, e, s, m, args, below, meth, c, hx, hb, hml, ho, hts, hr, hlk, hK, hZ, hi, hz, rfl⟩ := h
  intro H locs ls hP hS hl
  exact lv_if_le hx hb hd ht (fun q => kt q H locs ls hP hS hl) (fun q => kf q H locs ls hP hS hl)
theorem s_icmp_eq (h : gSim l D cs L ad Z d own cc nL ret G Rt) {x y : Int32} {off : Int} {tgt : Nat} (hd : decode cc pc = .ok (.if_icmp .eq off, 3)) (ht : (pc : Int) + off = (tgt : Int)) (hn : pc + 3 = n) (kt : x = y → G tgt lv st S) (kf : ¬ x = y → G n lv st S) : G pc lv (.int y :: .int x :: st) S := by
  subst hn
  obtain ⟨p, e, s, m, args, below, meth, c, hx, hb, hml, ho, hts, hr, hlk, hK, hZ, hi, hz, rfl⟩ := h
  intro H locs ls hP hS hl
  exact lv_icmp_eq hx hb hd ht (fun q => kt q H locs ls hP hS hl) (fun q => kf q H locs ls hP hS hl)
theorem s_icmp_ne (h : gSim l D cs L ad Z d own cc nL ret G Rt) {x y : Int32} {off : Int} {tgt : Nat} (hd : decode cc pc = .ok (.if_icmp .ne off, 3)) (ht : (pc : Int) + off = (tgt : Int)) (hn : pc + 3 = n) (kt : ¬ x = y → G tgt lv st S) (kf : x = y → G n lv st S) : G pc lv (.int y :: .int x :: st) S := by
  subst hn
  obtain ⟨p, e, s, m, args, below, meth, c, hx, hb, hml, ho, hts, hr, hlk, hK, hZ, hi, hz, rfl⟩ := h
  intro H locs ls hP hS hl
  exact lv_icmp_ne hx hb hd ht (fun q => kt q H locs ls hP hS hl) (fun q => kf q H locs ls hP hS hl)
theorem s_icmp_lt (h : gSim l D cs L ad Z d own cc nL ret G Rt) {x y : Int32} {off : Int} {tgt : Nat} (hd : decode cc pc = .ok (.if_icmp .lt off, 3)) (ht : (pc : Int) + off = (tgt : Int)) (hn : pc + 3 = n) (kt : x < y → G tgt lv st S) (kf : ¬ x < y → G n lv st S) : G pc lv (.int y :: .int x :: st) S := by
  subst hn
  obtain ⟨p, e, s, m, args, below, meth, c, hx, hb, hml, ho, hts, hr, hlk, hK, hZ, hi, hz, rfl⟩ := h
  intro H locs ls hP hS hl
  exact lv_icmp_lt hx hb hd ht (fun q => kt q H locs ls hP hS hl) (fun q => kf q H locs ls hP hS hl)
theorem s_icmp_ge (h : gSim l D cs L ad Z d own cc nL ret G Rt) {x y : Int32} {off : Int} {tgt : Nat} (hd : decode cc pc = .ok (.if_icmp .ge off, 3)) (ht : (pc : Int) + off = (tgt : Int)) (hn : pc + 3 = n) (kt : y ≤ x → G tgt lv st S) (kf : ¬ y ≤ x → G n lv st S) : G pc lv (.int y :: .int x :: st) S := by
  subst hn
  obtain ⟨p, e, s, m, args, below, meth, c, hx, hb, hml, ho, hts, hr, hlk, hK, hZ, hi, hz, rfl⟩ := h
  intro H locs ls hP hS hl
  exact lv_icmp_ge hx hb hd ht (fun q => kt q H locs ls hP hS hl) (fun q => kf q H locs ls hP hS hl)
theorem s_icmp_gt (h : gSim l D cs L ad Z d own cc nL ret G Rt) {x y : Int32} {off : Int} {tgt : Nat} (hd : decode cc pc = .ok (.if_icmp .gt off, 3)) (ht : (pc : Int) + off = (tgt : Int)) (hn : pc + 3 = n) (kt : y < x → G tgt lv st S) (kf : ¬ y < x → G n lv st S) : G pc lv (.int y :: .int x :: st) S := by
  subst hn
  obtain ⟨p, e, s, m, args, below, meth, c, hx, hb, hml, ho, hts, hr, hlk, hK, hZ, hi, hz, rfl⟩ := h
  intro H locs ls hP hS hl
  exact lv_icmp_gt hx hb hd ht (fun q => kt q H locs ls hP hS hl) (fun q => kf q H locs ls hP hS hl)
theorem s_icmp_le (h : gSim l D cs L ad Z d own cc nL ret G Rt) {x y : Int32} {off : Int} {tgt : Nat} (hd : decode cc pc = .ok (.if_icmp .le off, 3)) (ht : (pc : Int) + off = (tgt : Int)) (hn : pc + 3 = n) (kt : x ≤ y → G tgt lv st S) (kf : ¬ x ≤ y → G n lv st S) : G pc lv (.int y :: .int x :: st) S := by
  subst hn
  obtain ⟨p, e, s, m, args, below, meth, c, hx, hb, hml, ho, hts, hr, hlk, hK, hZ, hi, hz, rfl⟩ := h
  intro H locs ls hP hS hl
  exact lv_icmp_le hx hb hd ht (fun q => kt q H locs ls hP hS hl) (fun q => kf q H locs ls hP hS hl)
theorem s_goto (h : gSim l D cs L ad Z d own cc nL ret G Rt) {off : Int} {tgt : Nat} (hd : decode cc pc = .ok (.goto off, 3)) (ht : (pc : Int) + off = (tgt : Int)) (k : G tgt lv st S) : G pc lv st S := by
  obtain ⟨p, e, s, m, args, below, meth, c, hx, hb, hml, ho, hts, hr, hlk, hK, hZ, hi, hz, rfl⟩ := h
  intro H locs ls hP hS hl
  exact lv_goto hx hb hd ht (k H locs ls hP hS hl)
/-- a computed number gets a name -/
theorem s_topi {x : Int32} (k : ∀ y : Int32, y = x → G pc lv (.int y :: st) S) : G pc lv (.int x :: st) S := k x rfl
theorem s_topl {x : Int64} (k : ∀ y : Int64, y = x → G pc lv (.long y :: st) S) : G pc lv (.long x :: st) S := k x rfl
theorem s_weak (h : gSim l D cs L ad Z d own cc nL ret G Rt) (hl : gle lv2 lv) (k : G pc lv2 st S) : G pc lv st S := by
  obtain ⟨p, e, s, m, args, below, meth, c, hx, hb, hml, ho, hts, hr, hlk, hK, hZ, hi, hz, rfl⟩ := h
  intro H locs ls hP hS hl2
  exact k H locs ls hP hS (hl2.le hl)
theorem s_tabIn (h : gSim l D cs L ad Z d own cc nL ret G Rt) {dflt lo hi off : Int} {offs : Array Int} {len tgt : Nat} {x v : Int32} (hd : decode cc pc = .ok (.tableswitch dflt lo hi offs, len)) (hx0 : x = v) (hc : ¬ v.toInt < lo ∧ ¬ hi < v.toInt ∧ offs[(v.toInt - lo).toNat]? = some off ∧ (pc : Int) + off = (tgt : Int)) (k : G tgt lv st S) : G pc lv (.int x :: st) S := by
  subst hx0
  obtain ⟨p, e, s, m, args, below, meth, c, hx, hb, hml, ho, hts, hr, hlk, hK, hZ, hi, hz, rfl⟩ := h
  intro H locs ls hP hS hl
  exact lv_tableIn hx hb hd hc.1 hc.2.1 hc.2.2.1 hc.2.2.2 (k H locs ls hP hS hl)
theorem s_tabOut (h : gSim l D cs L ad Z d own cc nL ret G Rt) {dflt lo hi : Int} {offs : Array Int} {len tgt : Nat} {x : Int32} (hd : decode cc pc = .ok (.tableswitch dflt lo hi offs, len)) (hc : x.toInt < lo ∨ hi < x.toInt) (ht : (pc : Int) + dflt = (tgt : Int)) (k : G tgt lv st S) : G pc lv (.int x :: st) S := by
  obtain ⟨p, e, s, m, args, below, meth, c, hx, hb, hml, ho, hts, hr, hlk, hK, hZ, hi, hz, rfl⟩ := h
  intro H locs ls hP hS hl
  exact lv_tableOut hx hb hd hc ht (k H locs ls hP hS hl)
theorem s_look (h : gSim l D cs L ad Z d own cc nL ret G Rt) {dflt off : Int} {ps : Array (Int × Int)} {len tgt : Nat} {x : Int32} (hd : decode cc pc = .ok (.lookupswitch dflt ps, len)) (hp : (ps.toList.zip (ps.toList.drop 1)).all (fun (a, next) => a.1 < next.1) = true) (ho : Op.lookupswitch.offset ps.toList dflt x.toInt = off) (ht : (pc : Int) + off = (tgt : Int)) (k : G tgt lv st S) : G pc lv (.int x :: st) S := by
  have ho2 := ho
  obtain ⟨p, e, s, m, args, below, meth, c, hx, hb, hml, ho, hts, hr, hlk, hK, hZ, hi, hz, rfl⟩ := h
  intro H locs ls hP hS hl
  exact lv_lookup hx hb hd hp ho2 ht (k H locs ls hP hS hl)
theorem s_iret (h : gSim l D cs L ad Z d own cc nL (some .int) G Rt) {x : Int32} (hd : decode cc pc = .ok (.ireturn, 1)) (k : Rt (some (.int x)) S) : G pc lv [.int x] S := by
  obtain ⟨p, e, s, m, args, below, meth, c, hx, hb, hml, ho, hts, hr, hlk, hK, hZ, hi, hz, rfl⟩ := h
  intro H locs ls hP hS hl
  exact W.iret hx hb hr (fun t ht hW => ⟨⟨_, S, rfl, k, by rw [ht]; exact hP⟩, hS.F ht⟩) hS.2.2 hd
theorem s_zret (h : gSim l D cs L ad Z d own cc nL (some .boolean) G Rt) {x : Int32} (hd : decode cc pc = .ok (.ireturn, 1)) (hv : narrow .boolean (.int x) = .int x) (k : Rt (some (.int x)) S) : G pc lv [.int x] S := by
  obtain ⟨p, e, s, m, args, below, meth, c, hx, hb, hml, ho, hts, hr, hlk, hK, hZ, hi, hz, rfl⟩ := h
  intro H locs ls hP hS hl
  exact W.zret hx hb hr hv (fun t ht hW => ⟨⟨_, S, rfl, k, by rw [ht]; exact hP⟩, hS.F ht⟩) hS.2.2 hd
theorem s_vret (h : gSim l D cs L ad Z d own cc nL none G Rt) (hd : decode cc pc = .ok (.return_, 1)) (k : Rt none S) : G pc lv [] S := by
  obtain ⟨p, e, s, m, args, below, meth, c, hx, hb, hml, ho, hts, hr, hlk, hK, hZ, hi, hz, rfl⟩ := h
  intro H locs ls hP hS hl
  exact W.vret hx hb hr (fun t ht hW => ⟨⟨_, S, rfl, k, by rw [ht]; exact hP⟩, hS.F ht⟩) hS.2.2 hd
theorem s_aret {C : String} (h : gSim l D cs L ad Z d own cc nL (some (.object C)) G Rt) {a : Nat} (hd : decode cc pc = .ok (.areturn, 1)) (k : Rt (some (.ref a)) S) : G pc lv [.ref a] S := by
  obtain ⟨p, e, s, m, args, below, meth, c, hx, hb, hml, ho, hts, hr, hlk, hK, hZ, hi, hz, rfl⟩ := h
  intro H locs ls hP hS hl
  exact W.aret hx hb hr (Or.inl ⟨C, rfl⟩) (Or.inr ⟨a, rfl⟩) (fun t ht hW => ⟨⟨_, S, rfl, k, by rw [ht]; exact hP⟩, hS.F ht⟩) hS.2.2 hd
theorem gc1 {k : Nat} (h : L.2.1 k = 1) : gcell L cs ad S k = .inl (cs.1, L.2.2.1 k, .inl (S.2.1 k)) := by simp only [gcell, h]
theorem gc2 {k : Nat} (h : L.2.1 k = 2) : gcell L cs ad S k = .inl (cs.2.1, L.2.2.1 k, .inl (S.2.1 k)) := by simp only [gcell, h]
theorem gc3 {k : Nat} (h : L.2.1 k = 3) : gcell L cs ad S k = .inl (cs.2.2, L.2.2.1 k, .inr (.inr (.inr (.inr (fun i => if i < L.2.2.1 k then some (ad (L.2.2.2.2 k + i)) else none))))) := by simp only [gcell, h]
theorem gc0 {k : Nat} (h : L.2.1 k = 0) : gcell L cs ad S k = .inr ((L.2.2.2.1 k).1, (L.2.2.2.1 k).2.map (gfv ad S)) := by simp only [gcell, h]
theorem gcf {g : Nat → Int32} {f : Nat → Nat → Int32} {w : Int64} {k j : Nat} {a : Nat → Int32} (hj : j ≠ k) : gcell L cs ad (g, va_up f k a, w) j = gcell L cs ad (g, f, w) j := by
  have e : (va_up f k a) j = f j := by simp [va_up, hj]
  have e2 : gfv ad (g, va_up f k a, w) = gfv ad (g, f, w) := by funext d; simp only [gfv]
  simp only [gcell, e, e2]
theorem gcn {g g2 : Nat → Int32} {f : Nat → Nat → Int32} {w w2 : Int64} {k : Nat} (h : ¬ L.2.1 k = 0) : gcell L cs ad (g, f, w) k = gcell L cs ad (g2, f, w2) k := by
  simp only [gcell]
  generalize L.2.1 k = t at h ⊢
  match t, h with
  | 0, h => exact absurd rfl h
  | 1, _ => rfl
  | 2, _ => rfl
  | t + 3, _ => rfl
/-- an index into the int array k -/
def gia (L : gL) (k : Nat) (i : Int32) : Prop := k < L.1 ∧ L.2.1 k = 1 ∧ vp_in i (L.2.2.1 k)
def giz (L : gL) (k : Nat) (i : Int32) : Prop := k < L.1 ∧ L.2.1 k = 2 ∧ vp_in i (L.2.2.1 k)
theorem s_iald (h : gSim l D cs L ad Z d own cc nL ret G Rt) {g : Nat → Int32} {f : Nat → Nat → Int32} {w : Int64} {a : Nat} {i : Int32} (hd : decode cc pc = .ok (.iaload, 1)) (hc : gia L a i) (hn : pc + 1 = n) (k : G n lv (.int (f a i.toNatClampNeg) :: st) (g, f, w)) : G pc lv (.int i :: .ref (ad a) :: st) (g, f, w) := by
  subst hn
  obtain ⟨p, e, s, m, args, below, meth, c, hx, hb, hml, ho, hts, hr, hlk, hK, hZ, hi, hz, rfl⟩ := h
  intro H locs ls hP hS hl
  exact va_iald hx hb hK hP a 0 ((gW_at hc.1).trans (by rw [gc1 hc.2.1])) rfl hc.2.2 hd (k H locs ls hP hS hl)
theorem s_zald (h : gSim l D cs L ad Z d own cc nL ret G Rt) {g : Nat → Int32} {f : Nat → Nat → Int32} {w : Int64} {a : Nat} {i : Int32} (hd : decode cc pc = .ok (.baload, 1)) (hc : giz L a i) (hn : pc + 1 = n) (k : G n lv (.int (f a i.toNatClampNeg) :: st) (g, f, w)) : G pc lv (.int i :: .ref (ad a) :: st) (g, f, w) := by
  subst hn
  obtain ⟨p, e, s, m, args, below, meth, c, hx, hb, hml, ho, hts, hr, hlk, hK, hZ, hi, hz, rfl⟩ := h
  intro H locs ls hP hS hl
  exact va_zald hx hb hK hP a 1 ((gW_at hc.1).trans (by rw [gc2 hc.2.1])) rfl hc.2.2 hd (k H locs ls hP hS hl)
theorem s_iast (h : gSim l D cs L ad Z d own cc nL ret G Rt) {g : Nat → Int32} {f : Nat → Nat → Int32} {w : Int64} {a : Nat} {i x : Int32} (hd : decode cc pc = .ok (.iastore, 1)) (hc : gia L a i) (hn : pc + 1 = n) (k : G n lv st (g, va_up f a (upd (f a) i.toNatClampNeg x), w)) : G pc lv (.int x :: .int i :: .ref (ad a) :: st) (g, f, w) := by
  subst hn
  obtain ⟨p, e, s, m, args, below, meth, c, hx, hb, hml, ho, hts, hr, hlk, hK, hZ, hi, hz, rfl⟩ := h
  intro H locs ls hP hS hl
  refine va_iast hx hb hK hP (gW_D _ hi) hS a 0 ((gW_at hc.1).trans (by rw [gc1 hc.2.1])) rfl hc.2.2 hd (fun H1 locs1 hP1 hD1 hS1 => ?_)
  rw [gW_set (S' := (g, va_up f a (upd (f a) i.toNatClampNeg x), w)) (by rw [gc1 hc.2.1]; simp [va_up]) (fun j _ hj => gcf hj)] at hP1
  exact k H1 locs1 ls hP1 hS1 hl
theorem s_zast (h : gSim l D cs L ad Z d own cc nL ret G Rt) {g : Nat → Int32} {f : Nat → Nat → Int32} {w : Int64} {a : Nat} {i x : Int32} (hd : decode cc pc = .ok (.bastore, 1)) (hc : giz L a i) (hx0 : vp_nar .boolean x = x) (hn : pc + 1 = n) (k : G n lv st (g, va_up f a (upd (f a) i.toNatClampNeg x), w)) : G pc lv (.int x :: .int i :: .ref (ad a) :: st) (g, f, w) := by
  subst hn
  obtain ⟨p, e, s, m, args, below, meth, c, hx, hb, hml, ho, hts, hr, hlk, hK, hZ, hi, hz, rfl⟩ := h
  intro H locs ls hP hS hl
  refine va_zast hx hb hK hP (gW_D _ hi) hS a 1 ((gW_at hc.1).trans (by rw [gc2 hc.2.1])) rfl hc.2.2 hd (fun H1 locs1 hP1 hD1 hS1 => ?_)
  rw [hx0, gW_set (S' := (g, va_up f a (upd (f a) i.toNatClampNeg x), w)) (by rw [gc2 hc.2.1]; simp [va_up]) (fun j _ hj => gcf hj)] at hP1
  exact k H1 locs1 ls hP1 hS1 hl
theorem s_aald (h : gSim l D cs L ad Z d own cc nL ret G Rt) {a : Nat} {i : Int32} (hd : decode cc pc = .ok (.aaload, 1)) (hc : a < L.1 ∧ L.2.1 a = 3) (hin : vp_in i (L.2.2.1 a)) (hn : pc + 1 = n) (k : G n lv (.ref (ad (L.2.2.2.2 a + i.toNatClampNeg)) :: st) S) : G pc lv (.int i :: .ref (ad a) :: st) S := by
  subst hn
  obtain ⟨p, e, s, m, args, below, meth, c, hx, hb, hml, ho, hts, hr, hlk, hK, hZ, hi, hz, rfl⟩ := h
  intro H locs ls hP hS hl
  have hlt : i.toNatClampNeg < L.2.2.1 a := Nat.not_le.mp fun q => hin (Or.inr q)
  have ha := hP a _ ((gW_at hc.1).trans (by rw [gc3 hc.2]))
  exact W.aald (v := .ref (ad (L.2.2.2.2 a + i.toNatClampNeg))) (ty := .array .int) hx hb ha ((hK.2 2 _ rfl).1 (L.2.2.1 a) (fun j => va_rf (if j < L.2.2.1 a then some (ad (L.2.2.2.2 a + j)) else none))) rfl (fun q => by cases q) (by show ¬ (i < 0 ∨ (arrV _ _ _).slots.size ≤ _); rw [arrV_size]; exact hin) (by show (arrV _ _ _).slots[_]? = _; rw [arrV_read _ _ hlt]; show some (va_rf (if i.toNatClampNeg < L.2.2.1 a then _ else _)) = _; rw [if_pos hlt]; rfl) rfl rfl hd (k H locs ls hP hS hl)
theorem s_ialen (h : gSim l D cs L ad Z d own cc nL ret G Rt) {a : Nat} {v : Int32} (hd : decode cc pc = .ok (.arraylength, 1)) (hc : a < L.1 ∧ L.2.1 a = 1) (hv : Int32.ofNat (L.2.2.1 a) = v) (hn : pc + 1 = n) (k : G n lv (.int v :: st) S) : G pc lv (.ref (ad a) :: st) S := by
  subst hn
  obtain ⟨p, e, s, m, args, below, meth, c, hx, hb, hml, ho, hts, hr, hlk, hK, hZ, hi, hz, rfl⟩ := h
  intro H locs ls hP hS hl
  exact va_alen hx hb hK hP a 0 ((gW_at hc.1).trans (by rw [gc1 hc.2])) rfl hv hd (k H locs ls hP hS hl)
theorem s_get (h : gSim l D cs L ad Z d own cc nL ret G Rt) {C : String} {T : u_T} {N a j idx : Nat} {ds : Nat × Nat} {v : Value} (hc : a < L.1 ∧ L.2.1 a = 0 ∧ gcl[(L.2.2.2.1 a).1]? = some (C, T, N) ∧ (L.2.2.2.1 a).2[j]? = some ds ∧ j < N) (hin : ∀ w ∈ u_ws C T N, w ∈ TT) (hw : Cond.fieldLink own idx (T j).1 (T j).2.1 (T j).2.2.1 ∈ TT) (hv : gfv ad S ds = v) (hd : decode cc pc = .ok (.getfield idx, 3)) (hn : pc + 3 = n) (k : G n lv (v :: st) S) : G pc lv (.ref (ad a) :: st) S := by
  subst hn
  obtain ⟨p, e, s, m, args, below, meth, c, hx, hb, hml, ho, hts, hr, hlk, hK, hZ, hi, hz, rfl⟩ := h
  intro H locs ls hP hS hl
  obtain ⟨c1, c2, c3, c4, c5⟩ := hc
  exact va_get hx hb hts hin ho hK hP a ((gW_at c1).trans (by rw [gc0 c2])) c3 j c5 (hts _ hw) (fun _ h9 => h9) (by rw [List.getElem?_map, c4, ← hv]; rfl) hd (k H locs ls hP hS hl)
/-- no other field shows the number id -/
def gun (L : gL) (a j id : Nat) : Bool := (List.range L.1).all (fun b => !(L.2.1 b == 0) || (L.2.2.2.1 b).2.zipIdx.all (fun q => !((q.1.1 == 0 || q.1.1 == 2) && q.1.2 == id) || (b == a && q.2 == j)))
theorem gun_at {a j id b i : Nat} {q : Nat × Nat} (h : gun L a j id = true) (hb : b < L.1) (hk : L.2.1 b = 0) (hq : (L.2.2.2.1 b).2[i]? = some q) (h0 : (q.1 = 0 ∨ q.1 = 2) ∧ q.2 = id) : b = a ∧ i = j := by
  have h1 := List.all_eq_true.mp h b (List.mem_range.mpr hb)
  simp only [hk, beq_self_eq_true, Bool.not_true, Bool.false_or] at h1
  have h2 := List.all_eq_true.mp h1 (q, i) (List.mem_of_getElem? (i := i) (by rw [List.getElem?_zipIdx, hq]; simp))
  obtain ⟨h3, h4⟩ := h0
  rcases h3 with h3 | h3 <;> simp [h3, h4] at h2 <;> exact h2
theorem gfv_up {g : Nat → Int32} {f : Nat → Nat → Int32} {w : Int64} {id : Nat} {x : Int32} {q : Nat × Nat} (h : ¬ ((q.1 = 0 ∨ q.1 = 2) ∧ q.2 = id)) : gfv ad (va_up g id x, f, w) q = gfv ad (g, f, w) q := by
  obtain ⟨q1, q2⟩ := q
  match q1, h with
  | 0, h => simp only [gfv]; rw [show va_up g id x q2 = g q2 from if_neg (fun e => h ⟨Or.inl rfl, e⟩)]
  | 1, h => rfl
  | 2, h => simp only [gfv]; rw [show va_up g id x q2 = g q2 from if_neg (fun e => h ⟨Or.inr rfl, e⟩)]
  | q + 3, h => rfl
theorem gcg {g : Nat → Int32} {f : Nat → Nat → Int32} {w : Int64} {a j id b : Nat} {x : Int32} (h : gun L a j id = true) (hb : b < L.1) (hne : b ≠ a) : gcell L cs ad (va_up g id x, f, w) b = gcell L cs ad (g, f, w) b := by
  by_cases hk : L.2.1 b = 0
  · rw [gc0 hk, gc0 hk]
    congr 2
    apply List.map_congr_left
    intro q hq
    obtain ⟨i, hi⟩ := List.getElem?_of_mem hq
    exact gfv_up (fun h0 => hne (gun_at h hb hk hi h0).1)
  · exact gcn hk
theorem gcs {g : Nat → Int32} {f : Nat → Nat → Int32} {w : Int64} {a j id t : Nat} {x : Int32} (h : gun L a j id = true) (ha : a < L.1) (hk : L.2.1 a = 0) (hj : (L.2.2.2.1 a).2[j]? = some (t, id)) : gcell L cs ad (va_up g id x, f, w) a = .inr ((L.2.2.2.1 a).1, ((L.2.2.2.1 a).2.map (gfv ad (g, f, w))).set j (gfv ad (va_up g id x, f, w) (t, id))) := by
  rw [gc0 hk]
  congr 2
  apply List.ext_getElem?
  intro i
  have hl : j < ((L.2.2.2.1 a).2.map (gfv ad (g, f, w))).length := by
    rw [List.length_map]; exact (List.getElem?_eq_some_iff.mp hj).1
  by_cases e : i = j
  · subst e
    rw [List.getElem?_set_self hl, List.getElem?_map, hj]; rfl
  · rw [List.getElem?_set_ne (Ne.symm e), List.getElem?_map, List.getElem?_map]
    cases hq : (L.2.2.2.1 a).2[i]? with
    | none => rfl
    | some q =>
      simp only [Option.map_some]
      rw [gfv_up (fun h0 => e (gun_at h ha hk hq h0).2)]
theorem s_put (h : gSim l D cs L ad Z d own cc nL ret G Rt) {g : Nat → Int32} {f : Nat → Nat → Int32} {w : Int64} {C : String} {T : u_T} {N a j idx id t : Nat} {v : Value} {x : Int32} {ty : Nat → FieldType} (hc : a < L.1 ∧ L.2.1 a = 0 ∧ gcl[(L.2.2.2.1 a).1]? = some (C, T, N) ∧ (L.2.2.2.1 a).2[j]? = some (t, id) ∧ j < N ∧ (T j).2.2.2 = false) (hu : gun L a j id = true) (hin : ∀ w ∈ u_ws C T N, w ∈ TT) (hty : ∀ k, k < N → parseFieldDescriptor (T k).2.2.1 = some (ty k)) (hnm : ∀ a, a < N → ∀ b, b < N → a ≠ b → (T a).2.1 ≠ (T b).2.1) (hw : Cond.fieldLink own idx (T j).1 (T j).2.1 (T j).2.2.1 ∈ TT) (hv : gfv ad (va_up g id x, f, w) (t, id) = v) (hnr : narrow (ty j) v = v ∧ fits (ty j) v = true) (hd : decode cc pc = .ok (.putfield idx, 3)) (hn : pc + 3 = n) (k : G n lv st (va_up g id x, f, w)) : G pc lv (v :: .ref (ad a) :: st) (g, f, w) := by
  subst hn
  obtain ⟨p, e, s, m, args, below, meth, c, hx, hb, hml, ho, hts, hr, hlk, hK, hZ, hi, hz, rfl⟩ := h
  intro H locs ls hP hS hl
  obtain ⟨c1, c2, c3, c4, c5, c6⟩ := hc
  refine va_put hx hb hts hin ty hty hnm ho hK hP (gW_D _ hi) hS a ((gW_at c1).trans (by rw [gc0 c2])) c3 j c5 (hts _ hw) (fun _ h9 => h9) c6 (hty j c5) hnr.1 hnr.2 (by rw [List.length_map]; exact (List.getElem?_eq_some_iff.mp c4).1) hd (fun H1 locs1 hP1 hD1 hS1 => ?_)
  rw [gW_set (S' := (va_up g id x, f, w)) (by rw [gcs hu c1 c2 c4, hv]) (fun b hb2 hne => gcg hu hb2 hne)] at hP1
  exact k H1 locs1 ls hP1 hS1 hl
def gunl (L : gL) (a j : Nat) : Bool := (List.range L.1).all (fun b => !(L.2.1 b == 0) || (L.2.2.2.1 b).2.zipIdx.all (fun q => Nat.ble q.1.1 2 || (b == a && q.2 == j)))
theorem gunl_at {a j b i : Nat} {q : Nat × Nat} (h : gunl L a j = true) (hb : b < L.1) (hk : L.2.1 b = 0) (hq : (L.2.2.2.1 b).2[i]? = some q) (h0 : ¬ q.1 ≤ 2) : b = a ∧ i = j := by
  have h1 := List.all_eq_true.mp h b (List.mem_range.mpr hb)
  simp only [hk, beq_self_eq_true, Bool.not_true, Bool.false_or] at h1
  have h2 := List.all_eq_true.mp h1 (q, i) (List.mem_of_getElem? (i := i) (by rw [List.getElem?_zipIdx, hq]; simp))
  simp only [Bool.or_eq_true] at h2
  rcases h2 with h2 | h2
  · exact absurd (Nat.le_of_ble_eq_true h2) h0
  · simpa using h2
theorem gfv_w {g : Nat → Int32} {f : Nat → Nat → Int32} {w w2 : Int64} {q : Nat × Nat} (h : q.1 ≤ 2) : gfv ad (g, f, w2) q = gfv ad (g, f, w) q := by
  obtain ⟨q1, q2⟩ := q
  match q1, h with
  | 0, h => rfl
  | 1, h => rfl
  | 2, h => rfl
  | q + 3, h => simp at h
theorem s_putl (h : gSim l D cs L ad Z d own cc nL ret G Rt) {g : Nat → Int32} {f : Nat → Nat → Int32} {w x : Int64} {C : String} {T : u_T} {N a j idx id : Nat} {ty : Nat → FieldType} (hc : a < L.1 ∧ L.2.1 a = 0 ∧ gcl[(L.2.2.2.1 a).1]? = some (C, T, N) ∧ (L.2.2.2.1 a).2[j]? = some (3, id) ∧ j < N ∧ (T j).2.2.2 = false) (hu : gunl L a j = true) (hin : ∀ w ∈ u_ws C T N, w ∈ TT) (hty : ∀ k, k < N → parseFieldDescriptor (T k).2.2.1 = some (ty k)) (hnm : ∀ a, a < N → ∀ b, b < N → a ≠ b → (T a).2.1 ≠ (T b).2.1) (hw : Cond.fieldLink own idx (T j).1 (T j).2.1 (T j).2.2.1 ∈ TT) (hnr : ty j = .long) (hd : decode cc pc = .ok (.putfield idx, 3)) (hn : pc + 3 = n) (k : G n lv st (g, f, x)) : G pc lv (.long x :: .ref (ad a) :: st) (g, f, w) := by
  subst hn
  obtain ⟨p, e, s, m, args, below, meth, c, hx, hb, hml, ho, hts, hr, hlk, hK, hZ, hi, hz, rfl⟩ := h
  intro H locs ls hP hS hl
  obtain ⟨c1, c2, c3, c4, c5, c6⟩ := hc
  refine va_put hx hb hts hin ty hty hnm ho hK hP (gW_D _ hi) hS a ((gW_at c1).trans (by rw [gc0 c2])) c3 j c5 (hts _ hw) (fun _ h9 => h9) c6 (hty j c5) (by rw [hnr]; rfl) (by rw [hnr]; rfl) (by rw [List.length_map]; exact (List.getElem?_eq_some_iff.mp c4).1) hd (fun H1 locs1 hP1 hD1 hS1 => ?_)
  rw [gW_set (S' := (g, f, x)) ?_ ?_] at hP1
  · exact k H1 locs1 ls hP1 hS1 hl
  · rw [gc0 c2]
    congr 2
    apply List.ext_getElem?
    intro i
    have hl : j < ((L.2.2.2.1 a).2.map (gfv ad (g, f, w))).length := by
      rw [List.length_map]; exact (List.getElem?_eq_some_iff.mp c4).1
    by_cases e : i = j
    · subst e
      rw [List.getElem?_set_self hl, List.getElem?_map, c4]; rfl
    · rw [List.getElem?_set_ne (Ne.symm e), List.getElem?_map, List.getElem?_map]
      cases hq : (L.2.2.2.1 a).2[i]? with
      | none => rfl
      | some q =>
        simp only [Option.map_some]
        by_cases h2 : q.1 ≤ 2
        · rw [gfv_w h2]
        · exact absurd (gunl_at hu c1 c2 hq h2).2 e
  · intro b hb2 hne
    by_cases hk : L.2.1 b = 0
    · rw [gc0 hk, gc0 hk]
      congr 2
      apply List.map_congr_left
      intro q hq
      obtain ⟨i, hi⟩ := List.getElem?_of_mem hq
      by_cases h2 : q.1 ≤ 2
      · exact gfv_w h2
      · exact absurd (gunl_at hu hb2 hk hi h2).1 hne
    · exact gcn hk
theorem gTT {y : MethodName} {b : ByteArray} {mL : Nat} {rt : Option FieldType} (h : Cond.code y b mL rt ∈ TT) : GoodIn TT (Cond.code y b mL rt :: TT) := fun w hw => by
  rcases List.mem_cons.mp hw with rfl | hw
  · exact ⟨h, good_of_word (TT_good h)⟩
  · exact ⟨hw, good_of_word (TT_good hw)⟩
/-- what a callee's name needs -/
def gCe (y : MethodName) (b : ByteArray) (mL k : Nat) (rt : Option FieldType) : Prop := Cond.code y b mL rt ∈ TT ∧ Cond.initialized y.cls ∈ TT ∧ mL ≤ 40 ∧ (y.cls ≠ "java/lang/invoke/MethodHandle" ∧ y.cls ≠ "java/lang/invoke/VarHandle" ∧ (parseMethodDescriptor y.desc).map (fun d => d.parameters.length) = some k)
theorem gBlind {av : List Value} (hz : gZok (gA L ad) Z) : FrameBlind (gPre D cs L ad Z av S) := fun a U g mk q => by
  obtain ⟨q0, qP, qK, qZ⟩ := q
  exact ⟨q0, qP, va_K.moved (u := U) (U := U.calling g mk a) (Vm.Alike.refl U.vm) qK, hz.1 U _ rfl rfl qZ⟩
theorem gRun {p : Program} {e : Env} {R : Room} {s : State} {m : MethodId} {args : Array Value} {below : List Frame} {meth : Method} {c : Code} {H : Heap} {locs : List Loc} {Qf : State → Prop} {ls : Array Slot} {rest st0 : List Value} {a : Array Value} {Q : Option Value → gSt → Prop}
    (hr : va_Run p l e R s m args below meth c H locs 0 0 0 0 (F0 m pc ls st0) rest (gPost D cs L ad Q a) (gA L ad)) (hS : va_S (gA L ad) s.heap H locs)
    (kk : ∀ (v : Option Value) (S' : gSt) (H1 : Heap) (locs1 : List Loc), Q v S' → va_P D gcl (gW L cs ad S') H1 → va_S (gA L ad) s.heap H1 locs1 → W p l e R s m args below meth c H1 locs1 0 0 Qf (F0 m (pc + 3) ls (v.toList ++ rest))) : W p l e R s m args below meth c H locs 0 0 Qf (F0 m pc ls st0) := by
  intro T hT X
  obtain ⟨v, st₀, t, T', Lc, h0, X', hL, e1, e2, ⟨⟨v', S', hv, hq, hp⟩, hz, hk⟩, st⟩ := hr T hT X
  cases hv
  rw [h0] at hz hk
  obtain ⟨t2, a1, b1⟩ := kk v S' T'.heap (locs ++ Lc) hq (by rw [e1]; exact hp)
    ⟨Nat.le_trans hS.1 (by rw [e1]; exact hz), fun q h1 h2 => by rw [e1, hk q (Nat.lt_of_lt_of_le h1 hS.1) h2]; exact hS.2.1 q h1 h2, fun q hq => by
      rcases List.mem_append.mp hq with h | h
      · exact hS.2.2 q h
      · exact hL q h⟩ T' rfl X'
  exact ⟨t2, st t2 a1, b1⟩
theorem s_callV (h : gSim l D cs L ad Z d own cc nL ret G Rt) {y : MethodName} {b : ByteArray} {mL d2 idx na : Nat} {rt : Option FieldType} {o : Nat} {As st0 : List Value} {Q : Option Value → gSt → Prop} {T : u_T} {N : Nat} (hm : gCT l D cs L ad Z d2 y b mL rt (.ref (ad o) :: As) S Q) (hce : gCe y b mL na rt ∧ Cond.instanceMethod y ∈ TT ∧ Cond.selects y.cls y y ∈ TT) (hw : Cond.methodLink own idx y ∈ TT) (ho2 : o < L.1 ∧ L.2.1 o = 0 ∧ gcl[(L.2.2.2.1 o).1]? = some (y.cls, T, N)) (hst : st0 = As.reverse ++ .ref (ad o) :: st) (hk : As.length = na ∧ (st.map fun v => v.category).sum ≤ 8 ∧ d2 < d) (hd : decode cc pc = .ok (.invokevirtual idx, 3)) (hn : pc + 3 = n) (k : ∀ (v : Option Value) (S' : gSt), Q v S' → G n lv (v.toList ++ st) S') : G pc lv st0 S := by
  subst hn
  obtain ⟨p, e, s, m, args, below, meth, c, hx, hb, hml, ho, hts, hr, hlk, hK, hZ, hi, hz, rfl⟩ := h
  intro H locs ls hP hS hl
  obtain ⟨⟨c1, c2, c3, c4⟩, c5, c6⟩ := hce
  have cb : CallB (gRm d) s args own idx y b mL rt (Cond.code y b mL rt :: TT) (gRm d2) 0 0 na := callB_of na hts (gTT c1) rfl rfl rfl (hts _ c2) (hts _ hw) c4 ⟨hk.2.2, by show 8 + (mL + 11) + 60 * d2 ≤ 60 * d; omega⟩
  refine gRun (va_runV (As := As) (rest := st) ⟨hx, hb, hml, ho, hts⟩ hm ⟨cb, hts _ c5, hts _ c6⟩ ⟨gBlind hz, va_recv hK hP ho2.2.2 ((gW_at ho2.1).trans (by rw [gc0 ho2.2.1])), fun U hU hW => ⟨rfl, by rw [hU]; exact hP, va_K.moved hW.alike hK, hz.2 s U hW (fun q h1 h2 => by rw [hU]; exact hS.2.1 q h1 h2) hZ⟩⟩ rfl hk.1 hl.1 hst (by show 2 * 0 + _ ≤ 8; omega) hd ⟨Nat.zero_le _, Nat.zero_le _⟩) hS (fun v S' H1 locs1 hq hp1 hs1 => k v S' hq H1 locs1 ls hp1 hs1 hl)
theorem s_callS (h : gSim l D cs L ad Z d own cc nL ret G Rt) {y : MethodName} {b : ByteArray} {mL d2 idx na : Nat} {rt : Option FieldType} {As st0 : List Value} {Q : Option Value → gSt → Prop} (hm : gCT l D cs L ad Z d2 y b mL rt As S Q) (hce : gCe y b mL na rt ∧ Cond.static y ∈ TT) (hw : Cond.methodLink own idx y ∈ TT) (hst : st0 = As.reverse ++ st) (hk : As.length = na ∧ (st.map fun v => v.category).sum ≤ 8 ∧ d2 < d) (hd : decode cc pc = .ok (.invokestatic idx, 3)) (hn : pc + 3 = n) (k : ∀ (v : Option Value) (S' : gSt), Q v S' → G n lv (v.toList ++ st) S') : G pc lv st0 S := by
  subst hn
  obtain ⟨p, e, s, m, args, below, meth, c, hx, hb, hml, ho, hts, hr, hlk, hK, hZ, hi, hz, rfl⟩ := h
  intro H locs ls hP hS hl
  obtain ⟨⟨c1, c2, c3, c4⟩, c5⟩ := hce
  have cb : CallB (gRm d) s args own idx y b mL rt (Cond.code y b mL rt :: TT) (gRm d2) 0 0 na := callB_of na hts (gTT c1) rfl rfl rfl (hts _ c2) (hts _ hw) c4 ⟨hk.2.2, by show 8 + (mL + 11) + 60 * d2 ≤ 60 * d; omega⟩
  refine gRun (va_runS (As := As) (rest := st) ⟨hx, hb, hml, ho, hts⟩ hm ⟨cb, hts _ c5⟩ ⟨gBlind hz, fun U hU hW => ⟨rfl, by rw [hU]; exact hP, va_K.moved hW.alike hK, hz.2 s U hW (fun q h1 h2 => by rw [hU]; exact hS.2.1 q h1 h2) hZ⟩⟩ rfl hk.1 hl.1 hst (by show 2 * 0 + _ ≤ 8; omega) hd ⟨Nat.zero_le _, Nat.zero_le _⟩) hS (fun v S' H1 locs1 hq hp1 hs1 => k v S' hq H1 locs1 ls hp1 hs1 hl)
theorem s_callSN (h : gSim l D cs L ad Z d own cc nL ret G Rt) {y : MethodName} {b : ByteArray} {mL d2 idx na : Nat} {host : String} {rt : Option FieldType} {As st0 : List Value} {Q : Option Value → gSt → Prop} (hm : gCT l D cs L ad Z d2 y b mL rt As S Q) (hce : gCe y b mL na rt ∧ Cond.static y ∈ TT) (hw : ∀ U, Z U → va_Nw (.methodLinkNest own idx y host) U) (hst : st0 = As.reverse ++ st) (hk : As.length = na ∧ (st.map fun v => v.category).sum ≤ 8 ∧ d2 < d) (hd : decode cc pc = .ok (.invokestatic idx, 3)) (hn : pc + 3 = n) (k : ∀ (v : Option Value) (S' : gSt), Q v S' → G n lv (v.toList ++ st) S') : G pc lv st0 S := by
  subst hn
  obtain ⟨p, e, s, m, args, below, meth, c, hx, hb, hml, ho, hts, hr, hlk, hK, hZ, hi, hz, rfl⟩ := h
  intro H locs ls hP hS hl
  obtain ⟨⟨c1, c2, c3, c4⟩, c5⟩ := hce
  refine gRun (va_runSN (As := As) (rest := st) (host := host) ⟨hx, hb, hml, ho, hts⟩ hm ⟨va_cnB na hts (gTT c1) rfl rfl rfl (hw s hZ) (hts _ c2) c4 ⟨hk.2.2, by show 8 + (mL + 11) + 60 * d2 ≤ 60 * d; omega⟩, hts _ c5, trivial⟩ ⟨gBlind hz, fun U hU hW => ⟨rfl, by rw [hU]; exact hP, va_K.moved hW.alike hK, hz.2 s U hW (fun q h1 h2 => by rw [hU]; exact hS.2.1 q h1 h2) hZ⟩⟩ rfl hk.1 hl.1 hst (by show 2 * 0 + _ ≤ 8; omega) hd ⟨Nat.zero_le _, Nat.zero_le _⟩) hS (fun v S' H1 locs1 hq hp1 hs1 => k v S' hq H1 locs1 ls hp1 hs1 hl)
theorem s_gets (h : gSim l D cs L ad Z d own cc nL ret G Rt) {C nm ds : String} {v : Value} {idx : Nat} {host : String} (hz0 : ∀ U, Z U → va_Z C nm ds v (gA L ad) U U.heap ∧ va_Nw (.fieldLinkNest own idx C nm ds host) U) (hd : decode cc pc = .ok (.getstatic idx, 3)) (hn : pc + 3 = n) (k : G n lv (v :: st) S) : G pc lv st S := by
  subst hn
  obtain ⟨p, e, s, m, args, below, meth, c, hx, hb, hml, ho, hts, hr, hlk, hK, hZ, hi, hz, rfl⟩ := h
  intro H locs ls hP hS hl
  exact va_getsN hx hb (hz0 s hZ).1 hS ho (va_Nw.use rfl (hz0 s hZ).2) (fun _ h9 => h9) hd (k H locs ls hP hS hl)
theorem s_tald (h : gSim l D cs L ad Z d own cc nL ret G Rt) {t N : Nat} {i : Int32} {tb : Nat → Int32} (hz0 : ∀ U, Z U → va_T .int t N (fun j => .int (tb j)) (gA L ad) U U.heap) (hd : decode cc pc = .ok (.iaload, 1)) (hin : vp_in i N) (hn : pc + 1 = n) (k : G n lv (.int (tb i.toNatClampNeg) :: st) S) : G pc lv (.int i :: .ref t :: st) S := by
  subst hn
  obtain ⟨p, e, s, m, args, below, meth, c, hx, hb, hml, ho, hts, hr, hlk, hK, hZ, hi, hz, rfl⟩ := h
  intro H locs ls hP hS hl
  exact va_ti hx hb (hz0 s hZ) hS hin rfl hd (k H locs ls hP hS hl)
end GROWS
end

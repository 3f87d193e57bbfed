section
-- ===== PART A: goes FIRST, ahead of the names: the tables' words, and 'selects' of the private methods out of them =====
/-- a private method of a class that the tables say can be made, by its rows of tables_1 -/
def lw_okq (q : MethodName × Nat) : Prop := (q.1.cls ≠ "java/lang/invoke/MethodHandle" ∧ q.1.cls ≠ "java/lang/invoke/VarHandle") ∧ Cond.instantiable q.1.cls q.2 ∈ tables_1 ∧ Cond.privateMethod q.1 ∈ tables_1 ∧ Cond.instanceMethod q.1 ∈ tables_1
theorem lw_p0 : lw_okq (⟨"CharcoalFromAHearth$Reader", "takes", "(I)Z"⟩, 4) := ⟨⟨by decide +kernel, by decide +kernel⟩, List.mem_of_getElem? (i := 37) (by decide +kernel), List.mem_of_getElem? (i := 240) (by decide +kernel), List.mem_of_getElem? (i := 241) (by decide +kernel)⟩
theorem lw_p1 : lw_okq (⟨"CharcoalFromAHearth$Reader", "takesKind", "(I)Z"⟩, 4) := ⟨⟨by decide +kernel, by decide +kernel⟩, List.mem_of_getElem? (i := 37) (by decide +kernel), List.mem_of_getElem? (i := 244) (by decide +kernel), List.mem_of_getElem? (i := 245) (by decide +kernel)⟩
theorem lw_p2 : lw_okq (⟨"CharcoalFromAHearth$Reader", "begins", "(IIII)Z"⟩, 4) := ⟨⟨by decide +kernel, by decide +kernel⟩, List.mem_of_getElem? (i := 37) (by decide +kernel), List.mem_of_getElem? (i := 248) (by decide +kernel), List.mem_of_getElem? (i := 249) (by decide +kernel)⟩
theorem lw_p3 : lw_okq (⟨"CharcoalFromAHearth$Reader", "takesSort", "(I)Z"⟩, 4) := ⟨⟨by decide +kernel, by decide +kernel⟩, List.mem_of_getElem? (i := 37) (by decide +kernel), List.mem_of_getElem? (i := 260) (by decide +kernel), List.mem_of_getElem? (i := 261) (by decide +kernel)⟩
theorem lw_p4 : lw_okq (⟨"CharcoalFromAHearth$Reader", "takesKey", "(I)Z"⟩, 4) := ⟨⟨by decide +kernel, by decide +kernel⟩, List.mem_of_getElem? (i := 37) (by decide +kernel), List.mem_of_getElem? (i := 264) (by decide +kernel), List.mem_of_getElem? (i := 265) (by decide +kernel)⟩
theorem lw_p5 : lw_okq (⟨"CharcoalFromAHearth$Reader", "takesNumber", "(I)Z"⟩, 4) := ⟨⟨by decide +kernel, by decide +kernel⟩, List.mem_of_getElem? (i := 37) (by decide +kernel), List.mem_of_getElem? (i := 269) (by decide +kernel), List.mem_of_getElem? (i := 270) (by decide +kernel)⟩
theorem lw_p6 : lw_okq (⟨"CharcoalFromAHearth$Way", "takeNothing", "()V"⟩, 11) := ⟨⟨by decide +kernel, by decide +kernel⟩, List.mem_of_getElem? (i := 142) (by decide +kernel), List.mem_of_getElem? (i := 289) (by decide +kernel), List.mem_of_getElem? (i := 290) (by decide +kernel)⟩
theorem lw_p7 : lw_okq (⟨"CharcoalFromAHearth$Way", "takeLiked", "(LCharcoalFromAHearth$Wood;)V"⟩, 11) := ⟨⟨by decide +kernel, by decide +kernel⟩, List.mem_of_getElem? (i := 142) (by decide +kernel), List.mem_of_getElem? (i := 293) (by decide +kernel), List.mem_of_getElem? (i := 294) (by decide +kernel)⟩
theorem lw_p8 : lw_okq (⟨"CharcoalFromAHearth$Wood", "toldOr", "(II)I"⟩, 2) := ⟨⟨by decide +kernel, by decide +kernel⟩, List.mem_of_getElem? (i := 43) (by decide +kernel), List.mem_of_getElem? (i := 301) (by decide +kernel), List.mem_of_getElem? (i := 302) (by decide +kernel)⟩
theorem lw_p9 : lw_okq (⟨"CharcoalFromAHearth$Way", "takeOthers", "(LCharcoalFromAHearth$Wood;)V"⟩, 11) := ⟨⟨by decide +kernel, by decide +kernel⟩, List.mem_of_getElem? (i := 142) (by decide +kernel), List.mem_of_getElem? (i := 312) (by decide +kernel), List.mem_of_getElem? (i := 313) (by decide +kernel)⟩
theorem lw_p10 : lw_okq (⟨"CharcoalFromAHearth$Way", "takeAt", "(LCharcoalFromAHearth$Wood;I)V"⟩, 11) := ⟨⟨by decide +kernel, by decide +kernel⟩, List.mem_of_getElem? (i := 142) (by decide +kernel), List.mem_of_getElem? (i := 316) (by decide +kernel), List.mem_of_getElem? (i := 317) (by decide +kernel)⟩
theorem lw_p11 : lw_okq (⟨"CharcoalFromAHearth$Way", "sortOfMostLeft", "(LCharcoalFromAHearth$Wood;I)I"⟩, 11) := ⟨⟨by decide +kernel, by decide +kernel⟩, List.mem_of_getElem? (i := 142) (by decide +kernel), List.mem_of_getElem? (i := 320) (by decide +kernel), List.mem_of_getElem? (i := 321) (by decide +kernel)⟩
theorem lw_p12 : lw_okq (⟨"CharcoalFromAHearth$Way", "burn", "(LCharcoalFromAHearth$Wood;)V"⟩, 11) := ⟨⟨by decide +kernel, by decide +kernel⟩, List.mem_of_getElem? (i := 142) (by decide +kernel), List.mem_of_getElem? (i := 324) (by decide +kernel), List.mem_of_getElem? (i := 325) (by decide +kernel)⟩
theorem lw_p13 : lw_okq (⟨"CharcoalFromAHearth$Way", "takesAnyAt", "(I)Z"⟩, 11) := ⟨⟨by decide +kernel, by decide +kernel⟩, List.mem_of_getElem? (i := 142) (by decide +kernel), List.mem_of_getElem? (i := 408) (by decide +kernel), List.mem_of_getElem? (i := 409) (by decide +kernel)⟩
theorem lw_p14 : lw_okq (⟨"CharcoalFromAHearth", "isLayer", "(I)Z"⟩, 8) := ⟨⟨by decide +kernel, by decide +kernel⟩, List.mem_of_getElem? (i := 12) (by decide +kernel), List.mem_of_getElem? (i := 424) (by decide +kernel), List.mem_of_getElem? (i := 425) (by decide +kernel)⟩
theorem lw_p15 : lw_okq (⟨"CharcoalFromAHearth$Row", "lookAtNone", "()V"⟩, 5) := ⟨⟨by decide +kernel, by decide +kernel⟩, List.mem_of_getElem? (i := 79) (by decide +kernel), List.mem_of_getElem? (i := 473) (by decide +kernel), List.mem_of_getElem? (i := 474) (by decide +kernel)⟩
def lw_privs_1 : List (MethodName × Nat) := [(⟨"CharcoalFromAHearth$Reader", "takes", "(I)Z"⟩, 4), (⟨"CharcoalFromAHearth$Reader", "takesKind", "(I)Z"⟩, 4), (⟨"CharcoalFromAHearth$Reader", "begins", "(IIII)Z"⟩, 4), (⟨"CharcoalFromAHearth$Reader", "takesSort", "(I)Z"⟩, 4), (⟨"CharcoalFromAHearth$Reader", "takesKey", "(I)Z"⟩, 4), (⟨"CharcoalFromAHearth$Reader", "takesNumber", "(I)Z"⟩, 4), (⟨"CharcoalFromAHearth$Way", "takeNothing", "()V"⟩, 11), (⟨"CharcoalFromAHearth$Way", "takeLiked", "(LCharcoalFromAHearth$Wood;)V"⟩, 11), (⟨"CharcoalFromAHearth$Wood", "toldOr", "(II)I"⟩, 2), (⟨"CharcoalFromAHearth$Way", "takeOthers", "(LCharcoalFromAHearth$Wood;)V"⟩, 11), (⟨"CharcoalFromAHearth$Way", "takeAt", "(LCharcoalFromAHearth$Wood;I)V"⟩, 11), (⟨"CharcoalFromAHearth$Way", "sortOfMostLeft", "(LCharcoalFromAHearth$Wood;I)I"⟩, 11), (⟨"CharcoalFromAHearth$Way", "burn", "(LCharcoalFromAHearth$Wood;)V"⟩, 11), (⟨"CharcoalFromAHearth$Way", "takesAnyAt", "(I)Z"⟩, 11), (⟨"CharcoalFromAHearth", "isLayer", "(I)Z"⟩, 8), (⟨"CharcoalFromAHearth$Row", "lookAtNone", "()V"⟩, 5)]
theorem lw_r1 : ∀ q ∈ lw_privs_1, lw_okq q := List.forall_mem_cons.mpr ⟨lw_p0, List.forall_mem_cons.mpr ⟨lw_p1, List.forall_mem_cons.mpr ⟨lw_p2, List.forall_mem_cons.mpr ⟨lw_p3, List.forall_mem_cons.mpr ⟨lw_p4, List.forall_mem_cons.mpr ⟨lw_p5, List.forall_mem_cons.mpr ⟨lw_p6, List.forall_mem_cons.mpr ⟨lw_p7, List.forall_mem_cons.mpr ⟨lw_p8, List.forall_mem_cons.mpr ⟨lw_p9, List.forall_mem_cons.mpr ⟨lw_p10, List.forall_mem_cons.mpr ⟨lw_p11, List.forall_mem_cons.mpr ⟨lw_p12, List.forall_mem_cons.mpr ⟨lw_p13, List.forall_mem_cons.mpr ⟨lw_p14, List.forall_mem_cons.mpr ⟨lw_p15, fun _ h => absurd h List.not_mem_nil⟩⟩⟩⟩⟩⟩⟩⟩⟩⟩⟩⟩⟩⟩⟩⟩
theorem lw_p16 : lw_okq (⟨"CharcoalFromAHearth$Row", "lookAt", "(I)V"⟩, 5) := ⟨⟨by decide +kernel, by decide +kernel⟩, List.mem_of_getElem? (i := 79) (by decide +kernel), List.mem_of_getElem? (i := 477) (by decide +kernel), List.mem_of_getElem? (i := 478) (by decide +kernel)⟩
theorem lw_p17 : lw_okq (⟨"CharcoalFromAHearth$Row", "reachedBy", "(I)I"⟩, 5) := ⟨⟨by decide +kernel, by decide +kernel⟩, List.mem_of_getElem? (i := 79) (by decide +kernel), List.mem_of_getElem? (i := 481) (by decide +kernel), List.mem_of_getElem? (i := 482) (by decide +kernel)⟩
theorem lw_p18 : lw_okq (⟨"CharcoalFromAHearth$Row", "mostLessNext", "()I"⟩, 5) := ⟨⟨by decide +kernel, by decide +kernel⟩, List.mem_of_getElem? (i := 79) (by decide +kernel), List.mem_of_getElem? (i := 485) (by decide +kernel), List.mem_of_getElem? (i := 486) (by decide +kernel)⟩
theorem lw_p19 : lw_okq (⟨"CharcoalFromAHearth", "piecesBehind", "(II)J"⟩, 8) := ⟨⟨by decide +kernel, by decide +kernel⟩, List.mem_of_getElem? (i := 12) (by decide +kernel), List.mem_of_getElem? (i := 502) (by decide +kernel), List.mem_of_getElem? (i := 503) (by decide +kernel)⟩
theorem lw_p20 : lw_okq (⟨"CharcoalFromAHearth", "isAsked", "(II)Z"⟩, 8) := ⟨⟨by decide +kernel, by decide +kernel⟩, List.mem_of_getElem? (i := 12) (by decide +kernel), List.mem_of_getElem? (i := 521) (by decide +kernel), List.mem_of_getElem? (i := 522) (by decide +kernel)⟩
theorem lw_p21 : lw_okq (⟨"CharcoalFromAHearth", "drawsThatFit", "(II)J"⟩, 8) := ⟨⟨by decide +kernel, by decide +kernel⟩, List.mem_of_getElem? (i := 12) (by decide +kernel), List.mem_of_getElem? (i := 529) (by decide +kernel), List.mem_of_getElem? (i := 530) (by decide +kernel)⟩
theorem lw_p22 : lw_okq (⟨"CharcoalFromAHearth", "drawsInAll", "(II)J"⟩, 8) := ⟨⟨by decide +kernel, by decide +kernel⟩, List.mem_of_getElem? (i := 12) (by decide +kernel), List.mem_of_getElem? (i := 536) (by decide +kernel), List.mem_of_getElem? (i := 537) (by decide +kernel)⟩
theorem lw_p23 : lw_okq (⟨"CharcoalFromAHearth", "partsOfAll", "(I)J"⟩, 8) := ⟨⟨by decide +kernel, by decide +kernel⟩, List.mem_of_getElem? (i := 12) (by decide +kernel), List.mem_of_getElem? (i := 547) (by decide +kernel), List.mem_of_getElem? (i := 548) (by decide +kernel)⟩
theorem lw_p24 : lw_okq (⟨"CharcoalFromAHearth", "partsOf", "(II)J"⟩, 8) := ⟨⟨by decide +kernel, by decide +kernel⟩, List.mem_of_getElem? (i := 12) (by decide +kernel), List.mem_of_getElem? (i := 551) (by decide +kernel), List.mem_of_getElem? (i := 552) (by decide +kernel)⟩
theorem lw_p25 : lw_okq (⟨"CharcoalFromAHearth", "wayOfMostParts", "(I)I"⟩, 8) := ⟨⟨by decide +kernel, by decide +kernel⟩, List.mem_of_getElem? (i := 12) (by decide +kernel), List.mem_of_getElem? (i := 563) (by decide +kernel), List.mem_of_getElem? (i := 564) (by decide +kernel)⟩
theorem lw_p26 : lw_okq (⟨"CharcoalFromAHearthModel", "blank", "()V"⟩, 35) := ⟨⟨by decide +kernel, by decide +kernel⟩, List.mem_of_getElem? (i := 659) (by decide +kernel), List.mem_of_getElem? (i := 665) (by decide +kernel), List.mem_of_getElem? (i := 666) (by decide +kernel)⟩
theorem lw_p27 : lw_okq (⟨"CharcoalFromAHearthModel", "takeWood", "()V"⟩, 35) := ⟨⟨by decide +kernel, by decide +kernel⟩, List.mem_of_getElem? (i := 659) (by decide +kernel), List.mem_of_getElem? (i := 674) (by decide +kernel), List.mem_of_getElem? (i := 675) (by decide +kernel)⟩
theorem lw_p28 : lw_okq (⟨"CharcoalFromAHearthModel", "readText", "()I"⟩, 35) := ⟨⟨by decide +kernel, by decide +kernel⟩, List.mem_of_getElem? (i := 659) (by decide +kernel), List.mem_of_getElem? (i := 799) (by decide +kernel), List.mem_of_getElem? (i := 800) (by decide +kernel)⟩
theorem lw_p29 : lw_okq (⟨"CharcoalFromAHearthModel", "readPart", "(I)V"⟩, 35) := ⟨⟨by decide +kernel, by decide +kernel⟩, List.mem_of_getElem? (i := 659) (by decide +kernel), List.mem_of_getElem? (i := 803) (by decide +kernel), List.mem_of_getElem? (i := 804) (by decide +kernel)⟩
theorem lw_p30 : lw_okq (⟨"CharcoalFromAHearthModel", "open", "(II)I"⟩, 35) := ⟨⟨by decide +kernel, by decide +kernel⟩, List.mem_of_getElem? (i := 659) (by decide +kernel), List.mem_of_getElem? (i := 807) (by decide +kernel), List.mem_of_getElem? (i := 808) (by decide +kernel)⟩
theorem lw_p31 : lw_okq (⟨"CharcoalFromAHearthModel", "figure", "(I)I"⟩, 35) := ⟨⟨by decide +kernel, by decide +kernel⟩, List.mem_of_getElem? (i := 659) (by decide +kernel), List.mem_of_getElem? (i := 811) (by decide +kernel), List.mem_of_getElem? (i := 812) (by decide +kernel)⟩
def lw_privs_2 : List (MethodName × Nat) := [(⟨"CharcoalFromAHearth$Row", "lookAt", "(I)V"⟩, 5), (⟨"CharcoalFromAHearth$Row", "reachedBy", "(I)I"⟩, 5), (⟨"CharcoalFromAHearth$Row", "mostLessNext", "()I"⟩, 5), (⟨"CharcoalFromAHearth", "piecesBehind", "(II)J"⟩, 8), (⟨"CharcoalFromAHearth", "isAsked", "(II)Z"⟩, 8), (⟨"CharcoalFromAHearth", "drawsThatFit", "(II)J"⟩, 8), (⟨"CharcoalFromAHearth", "drawsInAll", "(II)J"⟩, 8), (⟨"CharcoalFromAHearth", "partsOfAll", "(I)J"⟩, 8), (⟨"CharcoalFromAHearth", "partsOf", "(II)J"⟩, 8), (⟨"CharcoalFromAHearth", "wayOfMostParts", "(I)I"⟩, 8), (⟨"CharcoalFromAHearthModel", "blank", "()V"⟩, 35), (⟨"CharcoalFromAHearthModel", "takeWood", "()V"⟩, 35), (⟨"CharcoalFromAHearthModel", "readText", "()I"⟩, 35), (⟨"CharcoalFromAHearthModel", "readPart", "(I)V"⟩, 35), (⟨"CharcoalFromAHearthModel", "open", "(II)I"⟩, 35), (⟨"CharcoalFromAHearthModel", "figure", "(I)I"⟩, 35)]
theorem lw_r2 : ∀ q ∈ lw_privs_2, lw_okq q := List.forall_mem_cons.mpr ⟨lw_p16, List.forall_mem_cons.mpr ⟨lw_p17, List.forall_mem_cons.mpr ⟨lw_p18, List.forall_mem_cons.mpr ⟨lw_p19, List.forall_mem_cons.mpr ⟨lw_p20, List.forall_mem_cons.mpr ⟨lw_p21, List.forall_mem_cons.mpr ⟨lw_p22, List.forall_mem_cons.mpr ⟨lw_p23, List.forall_mem_cons.mpr ⟨lw_p24, List.forall_mem_cons.mpr ⟨lw_p25, List.forall_mem_cons.mpr ⟨lw_p26, List.forall_mem_cons.mpr ⟨lw_p27, List.forall_mem_cons.mpr ⟨lw_p28, List.forall_mem_cons.mpr ⟨lw_p29, List.forall_mem_cons.mpr ⟨lw_p30, List.forall_mem_cons.mpr ⟨lw_p31, fun _ h => absurd h List.not_mem_nil⟩⟩⟩⟩⟩⟩⟩⟩⟩⟩⟩⟩⟩⟩⟩⟩
theorem lw_p32 : lw_okq (⟨"CharcoalFromAHearthModel", "layTaken", "(I)V"⟩, 35) := ⟨⟨by decide +kernel, by decide +kernel⟩, List.mem_of_getElem? (i := 659) (by decide +kernel), List.mem_of_getElem? (i := 857) (by decide +kernel), List.mem_of_getElem? (i := 858) (by decide +kernel)⟩
theorem lw_p33 : lw_okq (⟨"CharcoalFromAHearthModel", "layNear", "()V"⟩, 35) := ⟨⟨by decide +kernel, by decide +kernel⟩, List.mem_of_getElem? (i := 659) (by decide +kernel), List.mem_of_getElem? (i := 861) (by decide +kernel), List.mem_of_getElem? (i := 862) (by decide +kernel)⟩
theorem lw_p34 : lw_okq (⟨"CharcoalFromAHearthModel", "left", "(II)I"⟩, 35) := ⟨⟨by decide +kernel, by decide +kernel⟩, List.mem_of_getElem? (i := 659) (by decide +kernel), List.mem_of_getElem? (i := 865) (by decide +kernel), List.mem_of_getElem? (i := 866) (by decide +kernel)⟩
theorem lw_p35 : lw_okq (⟨"CharcoalFromAHearthModel", "takePiece", "(II)V"⟩, 35) := ⟨⟨by decide +kernel, by decide +kernel⟩, List.mem_of_getElem? (i := 659) (by decide +kernel), List.mem_of_getElem? (i := 869) (by decide +kernel), List.mem_of_getElem? (i := 870) (by decide +kernel)⟩
theorem lw_p36 : lw_okq (⟨"CharcoalFromAHearthModel", "mostAt", "(II)I"⟩, 35) := ⟨⟨by decide +kernel, by decide +kernel⟩, List.mem_of_getElem? (i := 659) (by decide +kernel), List.mem_of_getElem? (i := 873) (by decide +kernel), List.mem_of_getElem? (i := 874) (by decide +kernel)⟩
theorem lw_p37 : lw_okq (⟨"CharcoalFromAHearthModel", "layFire", "(I)V"⟩, 35) := ⟨⟨by decide +kernel, by decide +kernel⟩, List.mem_of_getElem? (i := 659) (by decide +kernel), List.mem_of_getElem? (i := 881) (by decide +kernel), List.mem_of_getElem? (i := 882) (by decide +kernel)⟩
theorem lw_p38 : lw_okq (⟨"CharcoalFromAHearthModel", "allTaken", "(I)I"⟩, 35) := ⟨⟨by decide +kernel, by decide +kernel⟩, List.mem_of_getElem? (i := 659) (by decide +kernel), List.mem_of_getElem? (i := 885) (by decide +kernel), List.mem_of_getElem? (i := 886) (by decide +kernel)⟩
theorem lw_p39 : lw_okq (⟨"CharcoalFromAHearthModel", "isLayer", "(I)Z"⟩, 35) := ⟨⟨by decide +kernel, by decide +kernel⟩, List.mem_of_getElem? (i := 659) (by decide +kernel), List.mem_of_getElem? (i := 905) (by decide +kernel), List.mem_of_getElem? (i := 906) (by decide +kernel)⟩
theorem lw_p40 : lw_okq (⟨"CharcoalFromAHearthModel", "stopOf", "(II)I"⟩, 35) := ⟨⟨by decide +kernel, by decide +kernel⟩, List.mem_of_getElem? (i := 659) (by decide +kernel), List.mem_of_getElem? (i := 932) (by decide +kernel), List.mem_of_getElem? (i := 933) (by decide +kernel)⟩
theorem lw_p41 : lw_okq (⟨"CharcoalFromAHearthModel", "ahead", "()I"⟩, 35) := ⟨⟨by decide +kernel, by decide +kernel⟩, List.mem_of_getElem? (i := 659) (by decide +kernel), List.mem_of_getElem? (i := 936) (by decide +kernel), List.mem_of_getElem? (i := 937) (by decide +kernel)⟩
theorem lw_p42 : lw_okq (⟨"CharcoalFromAHearthModel", "divisor", "(I)I"⟩, 35) := ⟨⟨by decide +kernel, by decide +kernel⟩, List.mem_of_getElem? (i := 659) (by decide +kernel), List.mem_of_getElem? (i := 949) (by decide +kernel), List.mem_of_getElem? (i := 950) (by decide +kernel)⟩
theorem lw_p43 : lw_okq (⟨"CharcoalFromAHearthModel", "layChance", "(II)Z"⟩, 35) := ⟨⟨by decide +kernel, by decide +kernel⟩, List.mem_of_getElem? (i := 659) (by decide +kernel), List.mem_of_getElem? (i := 964) (by decide +kernel), List.mem_of_getElem? (i := 965) (by decide +kernel)⟩
theorem lw_p44 : lw_okq (⟨"CharcoalFromAHearthModel", "crumbsOf", "(I)I"⟩, 35) := ⟨⟨by decide +kernel, by decide +kernel⟩, List.mem_of_getElem? (i := 659) (by decide +kernel), List.mem_of_getElem? (i := 968) (by decide +kernel), List.mem_of_getElem? (i := 969) (by decide +kernel)⟩
theorem lw_p45 : lw_okq (⟨"CharcoalFromAHearthModel", "layOdds", "(I)Z"⟩, 35) := ⟨⟨by decide +kernel, by decide +kernel⟩, List.mem_of_getElem? (i := 659) (by decide +kernel), List.mem_of_getElem? (i := 976) (by decide +kernel), List.mem_of_getElem? (i := 977) (by decide +kernel)⟩
theorem lw_p46 : lw_okq (⟨"CharcoalFromAHearthModel", "likeliestOf", "()I"⟩, 35) := ⟨⟨by decide +kernel, by decide +kernel⟩, List.mem_of_getElem? (i := 659) (by decide +kernel), List.mem_of_getElem? (i := 988) (by decide +kernel), List.mem_of_getElem? (i := 989) (by decide +kernel)⟩
theorem lw_p47 : lw_okq (⟨"CharcoalFromAHearthModel", "hasBoth", "(I)Z"⟩, 35) := ⟨⟨by decide +kernel, by decide +kernel⟩, List.mem_of_getElem? (i := 659) (by decide +kernel), List.mem_of_getElem? (i := 1012) (by decide +kernel), List.mem_of_getElem? (i := 1013) (by decide +kernel)⟩
def lw_privs_3 : List (MethodName × Nat) := [(⟨"CharcoalFromAHearthModel", "layTaken", "(I)V"⟩, 35), (⟨"CharcoalFromAHearthModel", "layNear", "()V"⟩, 35), (⟨"CharcoalFromAHearthModel", "left", "(II)I"⟩, 35), (⟨"CharcoalFromAHearthModel", "takePiece", "(II)V"⟩, 35), (⟨"CharcoalFromAHearthModel", "mostAt", "(II)I"⟩, 35), (⟨"CharcoalFromAHearthModel", "layFire", "(I)V"⟩, 35), (⟨"CharcoalFromAHearthModel", "allTaken", "(I)I"⟩, 35), (⟨"CharcoalFromAHearthModel", "isLayer", "(I)Z"⟩, 35), (⟨"CharcoalFromAHearthModel", "stopOf", "(II)I"⟩, 35), (⟨"CharcoalFromAHearthModel", "ahead", "()I"⟩, 35), (⟨"CharcoalFromAHearthModel", "divisor", "(I)I"⟩, 35), (⟨"CharcoalFromAHearthModel", "layChance", "(II)Z"⟩, 35), (⟨"CharcoalFromAHearthModel", "crumbsOf", "(I)I"⟩, 35), (⟨"CharcoalFromAHearthModel", "layOdds", "(I)Z"⟩, 35), (⟨"CharcoalFromAHearthModel", "likeliestOf", "()I"⟩, 35), (⟨"CharcoalFromAHearthModel", "hasBoth", "(I)Z"⟩, 35)]
theorem lw_r3 : ∀ q ∈ lw_privs_3, lw_okq q := List.forall_mem_cons.mpr ⟨lw_p32, List.forall_mem_cons.mpr ⟨lw_p33, List.forall_mem_cons.mpr ⟨lw_p34, List.forall_mem_cons.mpr ⟨lw_p35, List.forall_mem_cons.mpr ⟨lw_p36, List.forall_mem_cons.mpr ⟨lw_p37, List.forall_mem_cons.mpr ⟨lw_p38, List.forall_mem_cons.mpr ⟨lw_p39, List.forall_mem_cons.mpr ⟨lw_p40, List.forall_mem_cons.mpr ⟨lw_p41, List.forall_mem_cons.mpr ⟨lw_p42, List.forall_mem_cons.mpr ⟨lw_p43, List.forall_mem_cons.mpr ⟨lw_p44, List.forall_mem_cons.mpr ⟨lw_p45, List.forall_mem_cons.mpr ⟨lw_p46, List.forall_mem_cons.mpr ⟨lw_p47, fun _ h => absurd h List.not_mem_nil⟩⟩⟩⟩⟩⟩⟩⟩⟩⟩⟩⟩⟩⟩⟩⟩
theorem lw_p48 : lw_okq (⟨"CharcoalFromAHearthModel", "twigsOf", "(I)I"⟩, 35) := ⟨⟨by decide +kernel, by decide +kernel⟩, List.mem_of_getElem? (i := 659) (by decide +kernel), List.mem_of_getElem? (i := 1016) (by decide +kernel), List.mem_of_getElem? (i := 1017) (by decide +kernel)⟩
theorem lw_p49 : lw_okq (⟨"CharcoalFromAHearthModel", "isThinner", "(I)Z"⟩, 35) := ⟨⟨by decide +kernel, by decide +kernel⟩, List.mem_of_getElem? (i := 659) (by decide +kernel), List.mem_of_getElem? (i := 1020) (by decide +kernel), List.mem_of_getElem? (i := 1021) (by decide +kernel)⟩
theorem lw_p50 : lw_okq (⟨"CharcoalFromAHearthModel", "thickOf", "(I)I"⟩, 35) := ⟨⟨by decide +kernel, by decide +kernel⟩, List.mem_of_getElem? (i := 659) (by decide +kernel), List.mem_of_getElem? (i := 1024) (by decide +kernel), List.mem_of_getElem? (i := 1025) (by decide +kernel)⟩
theorem lw_p51 : lw_okq (⟨"CharcoalFromAHearthModel", "earliestOf", "(I)I"⟩, 35) := ⟨⟨by decide +kernel, by decide +kernel⟩, List.mem_of_getElem? (i := 659) (by decide +kernel), List.mem_of_getElem? (i := 1042) (by decide +kernel), List.mem_of_getElem? (i := 1043) (by decide +kernel)⟩
def lw_privs_4 : List (MethodName × Nat) := [(⟨"CharcoalFromAHearthModel", "twigsOf", "(I)I"⟩, 35), (⟨"CharcoalFromAHearthModel", "isThinner", "(I)Z"⟩, 35), (⟨"CharcoalFromAHearthModel", "thickOf", "(I)I"⟩, 35), (⟨"CharcoalFromAHearthModel", "earliestOf", "(I)I"⟩, 35)]
theorem lw_r4 : ∀ q ∈ lw_privs_4, lw_okq q := List.forall_mem_cons.mpr ⟨lw_p48, List.forall_mem_cons.mpr ⟨lw_p49, List.forall_mem_cons.mpr ⟨lw_p50, List.forall_mem_cons.mpr ⟨lw_p51, fun _ h => absurd h List.not_mem_nil⟩⟩⟩⟩
def lw_privs : List (MethodName × Nat) := lw_privs_1 ++ (lw_privs_2 ++ (lw_privs_3 ++ (lw_privs_4)))
def lw_tbl : List Cond := k2_sels lw_privs ++ tables_1
theorem lw_privs_ok : ∀ q ∈ lw_privs, lw_okq q := by
  show ∀ q ∈ lw_privs_1 ++ (lw_privs_2 ++ (lw_privs_3 ++ (lw_privs_4))), lw_okq q
  exact List.forall_mem_append.mpr ⟨lw_r1, List.forall_mem_append.mpr ⟨lw_r2, List.forall_mem_append.mpr ⟨lw_r3, lw_r4⟩⟩⟩
def R_law : String := "CharcoalFromAHearthLaw"
def RX0 : String := "CharcoalFromAHearth$Finds"
def TX0 : u_T := fun k => match k with
  | 0 => ("CharcoalFromAHearth$Finds", "layers", "I", false)
  | 1 => ("CharcoalFromAHearth$Finds", "counts", "[[I", true)
  | 2 => ("CharcoalFromAHearth$Finds", "twigs", "I", false)
  | 3 => ("CharcoalFromAHearth$Finds", "twigsIn", "[I", true)
  | 4 => ("CharcoalFromAHearth$Finds", "thicknessIn", "[I", true)
  | 5 => ("CharcoalFromAHearth$Finds", "beams", "I", false)
  | 6 => ("CharcoalFromAHearth$Finds", "layerOfBeam", "[I", true)
  | _ => ("CharcoalFromAHearth$Finds", "cutOfBeam", "[I", true)
def tyX0 : Nat → FieldType := fun k => match k with
  | 0 => .int
  | 1 => .array (.array .int)
  | 2 => .int
  | 3 => .array .int
  | 4 => .array .int
  | 5 => .int
  | 6 => .array .int
  | _ => .array .int
abbrev wsX00 : List Cond := u_ws RX0 TX0 8
theorem nmX0 : ∀ a, a < 8 → ∀ b, b < 8 → a ≠ b → (TX0 a).2.1 ≠ (TX0 b).2.1 := by decide +kernel
theorem tyX0_ok : ∀ k, k < 8 → parseFieldDescriptor (TX0 k).2.2.1 = some (tyX0 k) := by decide +kernel
def RX1 : String := "CharcoalFromAHearth$Reader"
def TX1 : u_T := fun k => match k with
  | 0 => ("CharcoalFromAHearth$Reader", "wood", "LCharcoalFromAHearth$Wood;", false)
  | 1 => ("CharcoalFromAHearth$Reader", "expected", "I", false)
  | 2 => ("CharcoalFromAHearth$Reader", "key", "I", false)
  | _ => ("CharcoalFromAHearth$Reader", "leastNumber", "I", false)
def tyX1 : Nat → FieldType := fun k => match k with
  | 0 => .object "CharcoalFromAHearth$Wood"
  | 1 => .int
  | 2 => .int
  | _ => .int
abbrev wsX10 : List Cond := u_ws RX1 TX1 4
theorem nmX1 : ∀ a, a < 4 → ∀ b, b < 4 → a ≠ b → (TX1 a).2.1 ≠ (TX1 b).2.1 := by decide +kernel
theorem tyX1_ok : ∀ k, k < 4 → parseFieldDescriptor (TX1 k).2.2.1 = some (tyX1 k) := by decide +kernel
def RX2 : String := "CharcoalFromAHearth$Row"
def TX2 : u_T := fun k => match k with
  | 0 => ("CharcoalFromAHearth$Row", "crumbs", "[I", true)
  | 1 => ("CharcoalFromAHearth$Row", "length", "I", false)
  | 2 => ("CharcoalFromAHearth$Row", "seen", "[I", true)
  | 3 => ("CharcoalFromAHearth$Row", "sinceNew", "I", false)
  | _ => ("CharcoalFromAHearth$Row", "said", "I", false)
def tyX2 : Nat → FieldType := fun k => match k with
  | 0 => .array .int
  | 1 => .int
  | 2 => .array .int
  | 3 => .int
  | _ => .int
abbrev wsX20 : List Cond := u_ws RX2 TX2 5
theorem nmX2 : ∀ a, a < 5 → ∀ b, b < 5 → a ≠ b → (TX2 a).2.1 ≠ (TX2 b).2.1 := by decide +kernel
theorem tyX2_ok : ∀ k, k < 5 → parseFieldDescriptor (TX2 k).2.2.1 = some (tyX2 k) := by decide +kernel
def RX3 : String := "CharcoalFromAHearth$Text"
def TX3 : u_T := fun k => match k with
  | 0 => ("CharcoalFromAHearth$Text", "bytes", "[B", true)
  | _ => ("CharcoalFromAHearth$Text", "length", "I", false)
def tyX3 : Nat → FieldType := fun k => match k with
  | 0 => .array .byte
  | _ => .int
abbrev wsX30 : List Cond := u_ws RX3 TX3 2
theorem nmX3 : ∀ a, a < 2 → ∀ b, b < 2 → a ≠ b → (TX3 a).2.1 ≠ (TX3 b).2.1 := by decide +kernel
theorem tyX3_ok : ∀ k, k < 2 → parseFieldDescriptor (TX3 k).2.2.1 = some (tyX3 k) := by decide +kernel
def RX4 : String := "CharcoalFromAHearth$Way"
def TX4 : u_T := fun k => match k with
  | 0 => ("CharcoalFromAHearth$Way", "far", "I", false)
  | 1 => ("CharcoalFromAHearth$Way", "much", "I", false)
  | 2 => ("CharcoalFromAHearth$Way", "liked", "I", false)
  | 3 => ("CharcoalFromAHearth$Way", "never", "I", false)
  | 4 => ("CharcoalFromAHearth$Way", "taken", "[[I", true)
  | 5 => ("CharcoalFromAHearth$Way", "ash", "[I", true)
  | 6 => ("CharcoalFromAHearth$Way", "crumbs", "[I", true)
  | 7 => ("CharcoalFromAHearth$Way", "said", "[I", true)
  | 8 => ("CharcoalFromAHearth$Way", "saidOfAll", "I", false)
  | 9 => ("CharcoalFromAHearth$Way", "unsaidOfAll", "I", false)
  | _ => ("CharcoalFromAHearth$Way", "had", "I", false)
def tyX4 : Nat → FieldType := fun k => match k with
  | 0 => .int
  | 1 => .int
  | 2 => .int
  | 3 => .int
  | 4 => .array (.array .int)
  | 5 => .array .int
  | 6 => .array .int
  | 7 => .array .int
  | 8 => .int
  | 9 => .int
  | _ => .int
abbrev wsX40 : List Cond := u_ws RX4 TX4 11
theorem nmX4 : ∀ a, a < 11 → ∀ b, b < 11 → a ≠ b → (TX4 a).2.1 ≠ (TX4 b).2.1 := by decide +kernel
theorem tyX4_ok : ∀ k, k < 11 → parseFieldDescriptor (TX4 k).2.2.1 = some (tyX4 k) := by decide +kernel
def RX5 : String := "CharcoalFromAHearth$Wood"
def TX5 : u_T := fun k => match k with
  | 0 => ("CharcoalFromAHearth$Wood", "told", "[I", true)
  | _ => ("CharcoalFromAHearth$Wood", "parts", "I", false)
def tyX5 : Nat → FieldType := fun k => match k with
  | 0 => .array .int
  | _ => .int
abbrev wsX50 : List Cond := u_ws RX5 TX5 2
theorem nmX5 : ∀ a, a < 2 → ∀ b, b < 2 → a ≠ b → (TX5 a).2.1 ≠ (TX5 b).2.1 := by decide +kernel
theorem tyX5_ok : ∀ k, k < 2 → parseFieldDescriptor (TX5 k).2.2.1 = some (tyX5 k) := by decide +kernel
def RX6 : String := "CharcoalFromAHearth"
def TX6 : u_T := fun k => match k with
  | 0 => ("CharcoalFromAHearth", "text", "LCharcoalFromAHearth$Text;", true)
  | 1 => ("CharcoalFromAHearth", "reader", "LCharcoalFromAHearth$Reader;", true)
  | 2 => ("CharcoalFromAHearth", "wood", "LCharcoalFromAHearth$Wood;", false)
  | 3 => ("CharcoalFromAHearth", "ways", "[LCharcoalFromAHearth$Way;", true)
  | 4 => ("CharcoalFromAHearth", "row", "LCharcoalFromAHearth$Row;", true)
  | 5 => ("CharcoalFromAHearth", "finds", "LCharcoalFromAHearth$Finds;", true)
  | 6 => ("CharcoalFromAHearth", "slots", "[LCharcoalFromAHearth$Finds;", true)
  | _ => ("CharcoalFromAHearth", "kept", "[Z", true)
def tyX6 : Nat → FieldType := fun k => match k with
  | 0 => .object "CharcoalFromAHearth$Text"
  | 1 => .object "CharcoalFromAHearth$Reader"
  | 2 => .object "CharcoalFromAHearth$Wood"
  | 3 => .array (.object "CharcoalFromAHearth$Way")
  | 4 => .object "CharcoalFromAHearth$Row"
  | 5 => .object "CharcoalFromAHearth$Finds"
  | 6 => .array (.object "CharcoalFromAHearth$Finds")
  | _ => .array .boolean
abbrev wsX60 : List Cond := u_ws RX6 TX6 8
theorem nmX6 : ∀ a, a < 8 → ∀ b, b < 8 → a ≠ b → (TX6 a).2.1 ≠ (TX6 b).2.1 := by decide +kernel
theorem tyX6_ok : ∀ k, k < 8 → parseFieldDescriptor (TX6 k).2.2.1 = some (tyX6 k) := by decide +kernel
def RX7 : String := "CharcoalFromAHearthModel"
def TX7 : u_T := fun k => match k with
  | 0 => ("CharcoalFromAHearthModel", "read", "[I", true)
  | 1 => ("CharcoalFromAHearthModel", "wood", "[I", true)
  | 2 => ("CharcoalFromAHearthModel", "text", "[I", true)
  | 3 => ("CharcoalFromAHearthModel", "length", "I", false)
  | 4 => ("CharcoalFromAHearthModel", "at", "I", false)
  | 5 => ("CharcoalFromAHearthModel", "faultAt", "I", false)
  | 6 => ("CharcoalFromAHearthModel", "parts", "I", false)
  | 7 => ("CharcoalFromAHearthModel", "told", "[Z", true)
  | 8 => ("CharcoalFromAHearthModel", "ways", "[I", true)
  | 9 => ("CharcoalFromAHearthModel", "taken", "[I", true)
  | 10 => ("CharcoalFromAHearthModel", "near", "[I", true)
  | 11 => ("CharcoalFromAHearthModel", "had", "I", false)
  | 12 => ("CharcoalFromAHearthModel", "fires", "[I", true)
  | 13 => ("CharcoalFromAHearthModel", "layers", "I", false)
  | 14 => ("CharcoalFromAHearthModel", "counts", "[I", true)
  | 15 => ("CharcoalFromAHearthModel", "crumbs", "I", false)
  | 16 => ("CharcoalFromAHearthModel", "row", "[I", true)
  | 17 => ("CharcoalFromAHearthModel", "soFar", "[I", true)
  | 18 => ("CharcoalFromAHearthModel", "ups", "[J", true)
  | 19 => ("CharcoalFromAHearthModel", "downs", "[J", true)
  | 20 => ("CharcoalFromAHearthModel", "lots", "[J", true)
  | 21 => ("CharcoalFromAHearthModel", "allLots", "J", false)
  | 22 => ("CharcoalFromAHearthModel", "twigs", "I", false)
  | 23 => ("CharcoalFromAHearthModel", "twigLayer", "[I", true)
  | 24 => ("CharcoalFromAHearthModel", "twigThick", "[I", true)
  | 25 => ("CharcoalFromAHearthModel", "beams", "I", false)
  | 26 => ("CharcoalFromAHearthModel", "beamLayer", "[I", true)
  | 27 => ("CharcoalFromAHearthModel", "beamCut", "[I", true)
  | 28 => ("CharcoalFromAHearthModel", "isKept", "[Z", true)
  | 29 => ("CharcoalFromAHearthModel", "keptMany", "[I", true)
  | 30 => ("CharcoalFromAHearthModel", "keptCounts", "[I", true)
  | 31 => ("CharcoalFromAHearthModel", "keptTwigLayer", "[I", true)
  | 32 => ("CharcoalFromAHearthModel", "keptTwigThick", "[I", true)
  | 33 => ("CharcoalFromAHearthModel", "keptBeamLayer", "[I", true)
  | _ => ("CharcoalFromAHearthModel", "keptBeamCut", "[I", true)
def tyX7 : Nat → FieldType := fun k => match k with
  | 0 => .array .int
  | 1 => .array .int
  | 2 => .array .int
  | 3 => .int
  | 4 => .int
  | 5 => .int
  | 6 => .int
  | 7 => .array .boolean
  | 8 => .array .int
  | 9 => .array .int
  | 10 => .array .int
  | 11 => .int
  | 12 => .array .int
  | 13 => .int
  | 14 => .array .int
  | 15 => .int
  | 16 => .array .int
  | 17 => .array .int
  | 18 => .array .long
  | 19 => .array .long
  | 20 => .array .long
  | 21 => .long
  | 22 => .int
  | 23 => .array .int
  | 24 => .array .int
  | 25 => .int
  | 26 => .array .int
  | 27 => .array .int
  | 28 => .array .boolean
  | 29 => .array .int
  | 30 => .array .int
  | 31 => .array .int
  | 32 => .array .int
  | 33 => .array .int
  | _ => .array .int
abbrev wsX70 : List Cond := u_ws RX7 TX7 35
theorem nmX7 : ∀ a, a < 35 → ∀ b, b < 35 → a ≠ b → (TX7 a).2.1 ≠ (TX7 b).2.1 := by decide +kernel
theorem tyX7_ok : ∀ k, k < 35 → parseFieldDescriptor (TX7 k).2.2.1 = some (tyX7 k) := by decide +kernel
abbrev cX0_init : ByteArray := prog_2_method_1_code
def yX0_init : MethodName := ⟨RX0, "<init>", "()V"⟩
abbrev cX0_addLayer : ByteArray := prog_2_method_2_code
def yX0_addLayer : MethodName := ⟨RX0, "addLayer", "()I"⟩
abbrev cX0_saidIn : ByteArray := prog_2_method_3_code
def yX0_saidIn : MethodName := ⟨RX0, "saidIn", "(I)I"⟩
abbrev cX0_sortsIn : ByteArray := prog_2_method_4_code
def yX0_sortsIn : MethodName := ⟨RX0, "sortsIn", "(I)I"⟩
abbrev cX0_addTwig : ByteArray := prog_2_method_5_code
def yX0_addTwig : MethodName := ⟨RX0, "addTwig", "(II)V"⟩
abbrev cX0_thinsFrom : ByteArray := prog_2_method_6_code
def yX0_thinsFrom : MethodName := ⟨RX0, "thinsFrom", "(II)Z"⟩
abbrev cX0_longestThinning : ByteArray := prog_2_method_7_code
def yX0_longestThinning : MethodName := ⟨RX0, "longestThinning", "()I"⟩
abbrev cX0_addBeam : ByteArray := prog_2_method_8_code
def yX0_addBeam : MethodName := ⟨RX0, "addBeam", "(II)V"⟩
abbrev cX0_latestCutUpTo : ByteArray := prog_2_method_9_code
def yX0_latestCutUpTo : MethodName := ⟨RX0, "latestCutUpTo", "(I)I"⟩
abbrev cX0_becomeLike : ByteArray := prog_2_method_10_code
def yX0_becomeLike : MethodName := ⟨RX0, "becomeLike", "(LCharcoalFromAHearth$Finds;)V"⟩
abbrev cX1_init : ByteArray := prog_3_method_1_code
def yX1_init : MethodName := ⟨RX1, "<init>", "()V"⟩
abbrev cX1_faultOf : ByteArray := prog_3_method_2_code
def yX1_faultOf : MethodName := ⟨RX1, "faultOf", "(LCharcoalFromAHearth$Text;)I"⟩
abbrev cX1_exchange : ByteArray := prog_3_method_3_code
def yX1_exchange : MethodName := ⟨RX1, "exchange", "(LCharcoalFromAHearth$Wood;)LCharcoalFromAHearth$Wood;"⟩
abbrev cX1_takes : ByteArray := prog_3_method_4_code
def yX1_takes : MethodName := ⟨RX1, "takes", "(I)Z"⟩
abbrev cX1_takesKind : ByteArray := prog_3_method_5_code
def yX1_takesKind : MethodName := ⟨RX1, "takesKind", "(I)Z"⟩
abbrev cX1_begins : ByteArray := prog_3_method_6_code
def yX1_begins : MethodName := ⟨RX1, "begins", "(IIII)Z"⟩
abbrev cX1_takesSort : ByteArray := prog_3_method_7_code
def yX1_takesSort : MethodName := ⟨RX1, "takesSort", "(I)Z"⟩
abbrev cX1_takesKey : ByteArray := prog_3_method_8_code
def yX1_takesKey : MethodName := ⟨RX1, "takesKey", "(I)Z"⟩
abbrev cX1_takesNumber : ByteArray := prog_3_method_9_code
def yX1_takesNumber : MethodName := ⟨RX1, "takesNumber", "(I)Z"⟩
abbrev cX2_init : ByteArray := prog_4_method_1_code
def yX2_init : MethodName := ⟨RX2, "<init>", "()V"⟩
abbrev cX2_add : ByteArray := prog_4_method_2_code
def yX2_add : MethodName := ⟨RX2, "add", "(I)V"⟩
abbrev cX2_countInto : ByteArray := prog_4_method_3_code
def yX2_countInto : MethodName := ⟨RX2, "countInto", "([I)V"⟩
abbrev cX2_stopBy : ByteArray := prog_4_method_4_code
def yX2_stopBy : MethodName := ⟨RX2, "stopBy", "(II)I"⟩
abbrev cX2_lookAtNone : ByteArray := prog_4_method_5_code
def yX2_lookAtNone : MethodName := ⟨RX2, "lookAtNone", "()V"⟩
abbrev cX2_lookAt : ByteArray := prog_4_method_6_code
def yX2_lookAt : MethodName := ⟨RX2, "lookAt", "(I)V"⟩
abbrev cX2_reachedBy : ByteArray := prog_4_method_7_code
def yX2_reachedBy : MethodName := ⟨RX2, "reachedBy", "(I)I"⟩
abbrev cX2_mostLessNext : ByteArray := prog_4_method_8_code
def yX2_mostLessNext : MethodName := ⟨RX2, "mostLessNext", "()I"⟩
abbrev cX2_sortsOnlyBehind : ByteArray := prog_4_method_9_code
def yX2_sortsOnlyBehind : MethodName := ⟨RX2, "sortsOnlyBehind", "(I)I"⟩
abbrev cX3_init : ByteArray := prog_5_method_1_code
def yX3_init : MethodName := ⟨RX3, "<init>", "()V"⟩
abbrev cX3_append : ByteArray := prog_5_method_2_code
def yX3_append : MethodName := ⟨RX3, "append", "(IJ)V"⟩
abbrev cX4_init : ByteArray := prog_6_method_1_code
def yX4_init : MethodName := ⟨RX4, "<init>", "()V"⟩
abbrev cX4_become : ByteArray := prog_6_method_2_code
def yX4_become : MethodName := ⟨RX4, "become", "(IIII)V"⟩
abbrev cX4_goIn : ByteArray := prog_6_method_3_code
def yX4_goIn : MethodName := ⟨RX4, "goIn", "(LCharcoalFromAHearth$Wood;)V"⟩
abbrev cX4_takeNothing : ByteArray := prog_6_method_4_code
def yX4_takeNothing : MethodName := ⟨RX4, "takeNothing", "()V"⟩
abbrev cX4_takeLiked : ByteArray := prog_6_method_5_code
def yX4_takeLiked : MethodName := ⟨RX4, "takeLiked", "(LCharcoalFromAHearth$Wood;)V"⟩
abbrev cX4_takeOthers : ByteArray := prog_6_method_6_code
def yX4_takeOthers : MethodName := ⟨RX4, "takeOthers", "(LCharcoalFromAHearth$Wood;)V"⟩
abbrev cX4_takeAt : ByteArray := prog_6_method_7_code
def yX4_takeAt : MethodName := ⟨RX4, "takeAt", "(LCharcoalFromAHearth$Wood;I)V"⟩
abbrev cX4_sortOfMostLeft : ByteArray := prog_6_method_8_code
def yX4_sortOfMostLeft : MethodName := ⟨RX4, "sortOfMostLeft", "(LCharcoalFromAHearth$Wood;I)I"⟩
abbrev cX4_burn : ByteArray := prog_6_method_9_code
def yX4_burn : MethodName := ⟨RX4, "burn", "(LCharcoalFromAHearth$Wood;)V"⟩
abbrev cX4_tenthsOf : ByteArray := prog_6_method_10_code
def yX4_tenthsOf : MethodName := ⟨RX4, "tenthsOf", "(II)I"⟩
abbrev cX4_piecesTaken : ByteArray := prog_6_method_11_code
def yX4_piecesTaken : MethodName := ⟨RX4, "piecesTaken", "(I)I"⟩
abbrev cX4_reaches : ByteArray := prog_6_method_12_code
def yX4_reaches : MethodName := ⟨RX4, "reaches", "(LCharcoalFromAHearth$Wood;I)Z"⟩
abbrev cX4_milesWalkedIn : ByteArray := prog_6_method_13_code
def yX4_milesWalkedIn : MethodName := ⟨RX4, "milesWalkedIn", "(LCharcoalFromAHearth$Wood;)I"⟩
abbrev cX4_takesAnyAt : ByteArray := prog_6_method_14_code
def yX4_takesAnyAt : MethodName := ⟨RX4, "takesAnyAt", "(I)Z"⟩
abbrev cX5_init : ByteArray := prog_7_method_1_code
def yX5_init : MethodName := ⟨RX5, "<init>", "()V"⟩
abbrev cX5_forget : ByteArray := prog_7_method_2_code
def yX5_forget : MethodName := ⟨RX5, "forget", "()V"⟩
abbrev cX5_tell : ByteArray := prog_7_method_3_code
def yX5_tell : MethodName := ⟨RX5, "tell", "(II)V"⟩
abbrev cX5_tells : ByteArray := prog_7_method_4_code
def yX5_tells : MethodName := ⟨RX5, "tells", "(I)Z"⟩
abbrev cX5_tellsEach : ByteArray := prog_7_method_5_code
def yX5_tellsEach : MethodName := ⟨RX5, "tellsEach", "(II)Z"⟩
abbrev cX5_toldOr : ByteArray := prog_7_method_6_code
def yX5_toldOr : MethodName := ⟨RX5, "toldOr", "(II)I"⟩
abbrev cX5_piecesAt : ByteArray := prog_7_method_7_code
def yX5_piecesAt : MethodName := ⟨RX5, "piecesAt", "(II)I"⟩
abbrev cX5_crumbsOfPiece : ByteArray := prog_7_method_8_code
def yX5_crumbsOfPiece : MethodName := ⟨RX5, "crumbsOfPiece", "(I)I"⟩
abbrev cX5_tenthsToAsh : ByteArray := prog_7_method_9_code
def yX5_tenthsToAsh : MethodName := ⟨RX5, "tenthsToAsh", "(I)I"⟩
abbrev cX5_tenthsUnsaid : ByteArray := prog_7_method_10_code
def yX5_tenthsUnsaid : MethodName := ⟨RX5, "tenthsUnsaid", "(I)I"⟩
abbrev cX5_milesTo : ByteArray := prog_7_method_11_code
def yX5_milesTo : MethodName := ⟨RX5, "milesTo", "(I)I"⟩
abbrev cX5_piecesOfAll : ByteArray := prog_7_method_12_code
def yX5_piecesOfAll : MethodName := ⟨RX5, "piecesOfAll", "()I"⟩
abbrev cX6_init : ByteArray := prog_1_method_1_code
def yX6_init : MethodName := ⟨RX6, "<init>", "()V"⟩
abbrev cX6_write : ByteArray := prog_1_method_2_code
def yX6_write : MethodName := ⟨RX6, "write", "(IJ)I"⟩
abbrev cX6_wipe : ByteArray := prog_1_method_3_code
def yX6_wipe : MethodName := ⟨RX6, "wipe", "()I"⟩
abbrev cX6_fault : ByteArray := prog_1_method_4_code
def yX6_fault : MethodName := ⟨RX6, "fault", "()I"⟩
abbrev cX6_wood : ByteArray := prog_1_method_5_code
def yX6_wood : MethodName := ⟨RX6, "wood", "()I"⟩
abbrev cX6_stands : ByteArray := prog_1_method_6_code
def yX6_stands : MethodName := ⟨RX6, "stands", "(II)I"⟩
abbrev cX6_sorted : ByteArray := prog_1_method_7_code
def yX6_sorted : MethodName := ⟨RX6, "sorted", "(II)I"⟩
abbrev cX6_miles : ByteArray := prog_1_method_8_code
def yX6_miles : MethodName := ⟨RX6, "miles", "(I)I"⟩
abbrev cX6_way : ByteArray := prog_1_method_9_code
def yX6_way : MethodName := ⟨RX6, "way", "(IIIII)I"⟩
abbrev cX6_going : ByteArray := prog_1_method_10_code
def yX6_going : MethodName := ⟨RX6, "going", "(II)I"⟩
abbrev cX6_gathered : ByteArray := prog_1_method_11_code
def yX6_gathered : MethodName := ⟨RX6, "gathered", "(III)I"⟩
abbrev cX6_fire : ByteArray := prog_1_method_12_code
def yX6_fire : MethodName := ⟨RX6, "fire", "(III)I"⟩
abbrev cX6_unsaid : ByteArray := prog_1_method_13_code
def yX6_unsaid : MethodName := ⟨RX6, "unsaid", "(I)I"⟩
abbrev cX6_walk : ByteArray := prog_1_method_14_code
def yX6_walk : MethodName := ⟨RX6, "walk", "(I)I"⟩
abbrev cX6_layer : ByteArray := prog_1_method_15_code
def yX6_layer : MethodName := ⟨RX6, "layer", "()I"⟩
abbrev cX6_count : ByteArray := prog_1_method_16_code
def yX6_count : MethodName := ⟨RX6, "count", "(III)I"⟩
abbrev cX6_counted : ByteArray := prog_1_method_17_code
def yX6_counted : MethodName := ⟨RX6, "counted", "(II)I"⟩
abbrev cX6_crumb : ByteArray := prog_1_method_18_code
def yX6_crumb : MethodName := ⟨RX6, "crumb", "(I)I"⟩
abbrev cX6_sweep : ByteArray := prog_1_method_19_code
def yX6_sweep : MethodName := ⟨RX6, "sweep", "()I"⟩
abbrev cX6_pour : ByteArray := prog_1_method_20_code
def yX6_pour : MethodName := ⟨RX6, "pour", "(I)I"⟩
abbrev cX6_stop : ByteArray := prog_1_method_21_code
def yX6_stop : MethodName := ⟨RX6, "stop", "(II)I"⟩
abbrev cX6_missed : ByteArray := prog_1_method_22_code
def yX6_missed : MethodName := ⟨RX6, "missed", "(II)I"⟩
abbrev cX6_share : ByteArray := prog_1_method_23_code
def yX6_share : MethodName := ⟨RX6, "share", "(IIZ)J"⟩
abbrev cX6_chance : ByteArray := prog_1_method_24_code
def yX6_chance : MethodName := ⟨RX6, "chance", "(IIZ)J"⟩
abbrev cX6_odds : ByteArray := prog_1_method_25_code
def yX6_odds : MethodName := ⟨RX6, "odds", "(IIZ)J"⟩
abbrev cX6_likeliest : ByteArray := prog_1_method_26_code
def yX6_likeliest : MethodName := ⟨RX6, "likeliest", "(I)I"⟩
abbrev cX6_far : ByteArray := prog_1_method_27_code
def yX6_far : MethodName := ⟨RX6, "far", "(IZ)J"⟩
abbrev cX6_lacks : ByteArray := prog_1_method_28_code
def yX6_lacks : MethodName := ⟨RX6, "lacks", "(III)I"⟩
abbrev cX6_next : ByteArray := prog_1_method_29_code
def yX6_next : MethodName := ⟨RX6, "next", "()I"⟩
abbrev cX6_twig : ByteArray := prog_1_method_30_code
def yX6_twig : MethodName := ⟨RX6, "twig", "(III)I"⟩
abbrev cX6_thins : ByteArray := prog_1_method_31_code
def yX6_thins : MethodName := ⟨RX6, "thins", "(I)I"⟩
abbrev cX6_longest : ByteArray := prog_1_method_32_code
def yX6_longest : MethodName := ⟨RX6, "longest", "()I"⟩
abbrev cX6_beam : ByteArray := prog_1_method_33_code
def yX6_beam : MethodName := ⟨RX6, "beam", "(IIIZ)I"⟩
abbrev cX6_earliest : ByteArray := prog_1_method_34_code
def yX6_earliest : MethodName := ⟨RX6, "earliest", "(I)I"⟩
abbrev cX6_tooOld : ByteArray := prog_1_method_35_code
def yX6_tooOld : MethodName := ⟨RX6, "tooOld", "(I)I"⟩
abbrev cX6_keep : ByteArray := prog_1_method_36_code
def yX6_keep : MethodName := ⟨RX6, "keep", "(I)I"⟩
abbrev cX6_again : ByteArray := prog_1_method_37_code
def yX6_again : MethodName := ⟨RX6, "again", "(I)I"⟩
abbrev cX6_all : ByteArray := prog_1_method_38_code
def yX6_all : MethodName := ⟨RX6, "all", "(I)I"⟩
abbrev cX6_isSort : ByteArray := prog_1_method_39_code
def yX6_isSort : MethodName := ⟨RX6, "isSort", "(I)Z"⟩
abbrev cX6_isSortOrNone : ByteArray := prog_1_method_40_code
def yX6_isSortOrNone : MethodName := ⟨RX6, "isSortOrNone", "(I)Z"⟩
abbrev cX6_isSortOrUnsaid : ByteArray := prog_1_method_41_code
def yX6_isSortOrUnsaid : MethodName := ⟨RX6, "isSortOrUnsaid", "(I)Z"⟩
abbrev cX6_isPlace : ByteArray := prog_1_method_42_code
def yX6_isPlace : MethodName := ⟨RX6, "isPlace", "(I)Z"⟩
abbrev cX6_isWay : ByteArray := prog_1_method_43_code
def yX6_isWay : MethodName := ⟨RX6, "isWay", "(I)Z"⟩
abbrev cX6_isSlot : ByteArray := prog_1_method_44_code
def yX6_isSlot : MethodName := ⟨RX6, "isSlot", "(I)Z"⟩
abbrev cX6_isRule : ByteArray := prog_1_method_45_code
def yX6_isRule : MethodName := ⟨RX6, "isRule", "(I)Z"⟩
abbrev cX6_isRuleNumber : ByteArray := prog_1_method_46_code
def yX6_isRuleNumber : MethodName := ⟨RX6, "isRuleNumber", "(I)Z"⟩
abbrev cX6_isLayer : ByteArray := prog_1_method_47_code
def yX6_isLayer : MethodName := ⟨RX6, "isLayer", "(I)Z"⟩
abbrev cX6_inLeastTerms : ByteArray := prog_1_method_48_code
def yX6_inLeastTerms : MethodName := ⟨RX6, "inLeastTerms", "(JJZ)J"⟩
abbrev cX6_commonDivisor : ByteArray := prog_1_method_49_code
def yX6_commonDivisor : MethodName := ⟨RX6, "commonDivisor", "(JJ)J"⟩
abbrev cX6_billionths : ByteArray := prog_1_method_50_code
def yX6_billionths : MethodName := ⟨RX6, "billionths", "(JJ)J"⟩
abbrev cX6_piecesBehind : ByteArray := prog_1_method_51_code
def yX6_piecesBehind : MethodName := ⟨RX6, "piecesBehind", "(II)J"⟩
abbrev cX6_by2520 : ByteArray := prog_1_method_52_code
def yX6_by2520 : MethodName := ⟨RX6, "by2520", "(I)J"⟩
abbrev cX6_isAsked : ByteArray := prog_1_method_53_code
def yX6_isAsked : MethodName := ⟨RX6, "isAsked", "(II)Z"⟩
abbrev cX6_drawsThatFit : ByteArray := prog_1_method_54_code
def yX6_drawsThatFit : MethodName := ⟨RX6, "drawsThatFit", "(II)J"⟩
abbrev cX6_drawsInAll : ByteArray := prog_1_method_55_code
def yX6_drawsInAll : MethodName := ⟨RX6, "drawsInAll", "(II)J"⟩
abbrev cX6_power : ByteArray := prog_1_method_56_code
def yX6_power : MethodName := ⟨RX6, "power", "(JI)J"⟩
abbrev cX6_partsOf : ByteArray := prog_1_method_57_code
def yX6_partsOf : MethodName := ⟨RX6, "partsOf", "(II)J"⟩
abbrev cX6_partsOfAll : ByteArray := prog_1_method_58_code
def yX6_partsOfAll : MethodName := ⟨RX6, "partsOfAll", "(I)J"⟩
abbrev cX6_wayOfMostParts : ByteArray := prog_1_method_59_code
def yX6_wayOfMostParts : MethodName := ⟨RX6, "wayOfMostParts", "(I)I"⟩
abbrev cX7_init : ByteArray := prog_9_method_1_code
def yX7_init : MethodName := ⟨RX7, "<init>", "()V"⟩
abbrev cX7_in : ByteArray := prog_9_method_3_code
def yX7_in : MethodName := ⟨RX7, "in", "(JJJ)Z"⟩
abbrev cX7_blank : ByteArray := prog_9_method_4_code
def yX7_blank : MethodName := ⟨RX7, "blank", "()V"⟩
abbrev cX7_takeWood : ByteArray := prog_9_method_5_code
def yX7_takeWood : MethodName := ⟨RX7, "takeWood", "()V"⟩
abbrev cX7_write : ByteArray := prog_9_method_6_code
def yX7_write : MethodName := ⟨RX7, "write", "(IJ)I"⟩
abbrev cX7_wipe : ByteArray := prog_9_method_7_code
def yX7_wipe : MethodName := ⟨RX7, "wipe", "()I"⟩
abbrev cX7_figure : ByteArray := prog_9_method_8_code
def yX7_figure : MethodName := ⟨RX7, "figure", "(I)I"⟩
abbrev cX7_open : ByteArray := prog_9_method_9_code
def yX7_open : MethodName := ⟨RX7, "open", "(II)I"⟩
abbrev cX7_readText : ByteArray := prog_9_method_10_code
def yX7_readText : MethodName := ⟨RX7, "readText", "()I"⟩
abbrev cX7_readPart : ByteArray := prog_9_method_11_code
def yX7_readPart : MethodName := ⟨RX7, "readPart", "(I)V"⟩
abbrev cX7_fault : ByteArray := prog_9_method_12_code
def yX7_fault : MethodName := ⟨RX7, "fault", "()I"⟩
abbrev cX7_wood : ByteArray := prog_9_method_13_code
def yX7_wood : MethodName := ⟨RX7, "wood", "()I"⟩
abbrev cX7_isSort : ByteArray := prog_9_method_14_code
def yX7_isSort : MethodName := ⟨RX7, "isSort", "(I)Z"⟩
abbrev cX7_isPlace : ByteArray := prog_9_method_15_code
def yX7_isPlace : MethodName := ⟨RX7, "isPlace", "(I)Z"⟩
abbrev cX7_isWay : ByteArray := prog_9_method_16_code
def yX7_isWay : MethodName := ⟨RX7, "isWay", "(I)Z"⟩
abbrev cX7_isLayer : ByteArray := prog_9_method_17_code
def yX7_isLayer : MethodName := ⟨RX7, "isLayer", "(I)Z"⟩
abbrev cX7_stands : ByteArray := prog_9_method_18_code
def yX7_stands : MethodName := ⟨RX7, "stands", "(II)I"⟩
abbrev cX7_sorted : ByteArray := prog_9_method_19_code
def yX7_sorted : MethodName := ⟨RX7, "sorted", "(II)I"⟩
abbrev cX7_miles : ByteArray := prog_9_method_20_code
def yX7_miles : MethodName := ⟨RX7, "miles", "(I)I"⟩
abbrev cX7_way : ByteArray := prog_9_method_21_code
def yX7_way : MethodName := ⟨RX7, "way", "(IIIII)I"⟩
abbrev cX7_going : ByteArray := prog_9_method_22_code
def yX7_going : MethodName := ⟨RX7, "going", "(II)I"⟩
abbrev cX7_layNear : ByteArray := prog_9_method_23_code
def yX7_layNear : MethodName := ⟨RX7, "layNear", "()V"⟩
abbrev cX7_left : ByteArray := prog_9_method_24_code
def yX7_left : MethodName := ⟨RX7, "left", "(II)I"⟩
abbrev cX7_takePiece : ByteArray := prog_9_method_25_code
def yX7_takePiece : MethodName := ⟨RX7, "takePiece", "(II)V"⟩
abbrev cX7_mostAt : ByteArray := prog_9_method_26_code
def yX7_mostAt : MethodName := ⟨RX7, "mostAt", "(II)I"⟩
abbrev cX7_layTaken : ByteArray := prog_9_method_27_code
def yX7_layTaken : MethodName := ⟨RX7, "layTaken", "(I)V"⟩
abbrev cX7_gathered : ByteArray := prog_9_method_28_code
def yX7_gathered : MethodName := ⟨RX7, "gathered", "(III)I"⟩
abbrev cX7_allTaken : ByteArray := prog_9_method_29_code
def yX7_allTaken : MethodName := ⟨RX7, "allTaken", "(I)I"⟩
abbrev cX7_layFire : ByteArray := prog_9_method_30_code
def yX7_layFire : MethodName := ⟨RX7, "layFire", "(I)V"⟩
abbrev cX7_fire : ByteArray := prog_9_method_31_code
def yX7_fire : MethodName := ⟨RX7, "fire", "(III)I"⟩
abbrev cX7_unsaid : ByteArray := prog_9_method_32_code
def yX7_unsaid : MethodName := ⟨RX7, "unsaid", "(I)I"⟩
abbrev cX7_walk : ByteArray := prog_9_method_33_code
def yX7_walk : MethodName := ⟨RX7, "walk", "(I)I"⟩
abbrev cX7_layer : ByteArray := prog_9_method_34_code
def yX7_layer : MethodName := ⟨RX7, "layer", "()I"⟩
abbrev cX7_count : ByteArray := prog_9_method_35_code
def yX7_count : MethodName := ⟨RX7, "count", "(III)I"⟩
abbrev cX7_counted : ByteArray := prog_9_method_36_code
def yX7_counted : MethodName := ⟨RX7, "counted", "(II)I"⟩
abbrev cX7_crumb : ByteArray := prog_9_method_37_code
def yX7_crumb : MethodName := ⟨RX7, "crumb", "(I)I"⟩
abbrev cX7_sweep : ByteArray := prog_9_method_38_code
def yX7_sweep : MethodName := ⟨RX7, "sweep", "()I"⟩
abbrev cX7_pour : ByteArray := prog_9_method_39_code
def yX7_pour : MethodName := ⟨RX7, "pour", "(I)I"⟩
abbrev cX7_ahead : ByteArray := prog_9_method_40_code
def yX7_ahead : MethodName := ⟨RX7, "ahead", "()I"⟩
abbrev cX7_stopOf : ByteArray := prog_9_method_41_code
def yX7_stopOf : MethodName := ⟨RX7, "stopOf", "(II)I"⟩
abbrev cX7_stop : ByteArray := prog_9_method_42_code
def yX7_stop : MethodName := ⟨RX7, "stop", "(II)I"⟩
abbrev cX7_missed : ByteArray := prog_9_method_43_code
def yX7_missed : MethodName := ⟨RX7, "missed", "(II)I"⟩
abbrev cX7_common : ByteArray := prog_9_method_44_code
def yX7_common : MethodName := ⟨RX7, "common", "(JJ)J"⟩
abbrev cX7_told : ByteArray := prog_9_method_45_code
def yX7_told : MethodName := ⟨RX7, "told", "(JJZ)J"⟩
abbrev cX7_divisor : ByteArray := prog_9_method_46_code
def yX7_divisor : MethodName := ⟨RX7, "divisor", "(I)I"⟩
abbrev cX7_share : ByteArray := prog_9_method_47_code
def yX7_share : MethodName := ⟨RX7, "share", "(IIZ)J"⟩
abbrev cX7_crumbsOf : ByteArray := prog_9_method_48_code
def yX7_crumbsOf : MethodName := ⟨RX7, "crumbsOf", "(I)I"⟩
abbrev cX7_layChance : ByteArray := prog_9_method_49_code
def yX7_layChance : MethodName := ⟨RX7, "layChance", "(II)Z"⟩
abbrev cX7_chance : ByteArray := prog_9_method_50_code
def yX7_chance : MethodName := ⟨RX7, "chance", "(IIZ)J"⟩
abbrev cX7_parts : ByteArray := prog_9_method_51_code
def yX7_parts : MethodName := ⟨RX7, "parts", "(JJ)J"⟩
abbrev cX7_layOdds : ByteArray := prog_9_method_52_code
def yX7_layOdds : MethodName := ⟨RX7, "layOdds", "(I)Z"⟩
abbrev cX7_odds : ByteArray := prog_9_method_53_code
def yX7_odds : MethodName := ⟨RX7, "odds", "(IIZ)J"⟩
abbrev cX7_likeliestOf : ByteArray := prog_9_method_54_code
def yX7_likeliestOf : MethodName := ⟨RX7, "likeliestOf", "()I"⟩
abbrev cX7_likeliest : ByteArray := prog_9_method_55_code
def yX7_likeliest : MethodName := ⟨RX7, "likeliest", "(I)I"⟩
abbrev cX7_far : ByteArray := prog_9_method_56_code
def yX7_far : MethodName := ⟨RX7, "far", "(IZ)J"⟩
abbrev cX7_lacks : ByteArray := prog_9_method_57_code
def yX7_lacks : MethodName := ⟨RX7, "lacks", "(III)I"⟩
abbrev cX7_next : ByteArray := prog_9_method_58_code
def yX7_next : MethodName := ⟨RX7, "next", "()I"⟩
abbrev cX7_twig : ByteArray := prog_9_method_59_code
def yX7_twig : MethodName := ⟨RX7, "twig", "(III)I"⟩
abbrev cX7_twigsOf : ByteArray := prog_9_method_60_code
def yX7_twigsOf : MethodName := ⟨RX7, "twigsOf", "(I)I"⟩
abbrev cX7_thickOf : ByteArray := prog_9_method_61_code
def yX7_thickOf : MethodName := ⟨RX7, "thickOf", "(I)I"⟩
abbrev cX7_isThinner : ByteArray := prog_9_method_62_code
def yX7_isThinner : MethodName := ⟨RX7, "isThinner", "(I)Z"⟩
abbrev cX7_hasBoth : ByteArray := prog_9_method_63_code
def yX7_hasBoth : MethodName := ⟨RX7, "hasBoth", "(I)Z"⟩
abbrev cX7_thins : ByteArray := prog_9_method_64_code
def yX7_thins : MethodName := ⟨RX7, "thins", "(I)I"⟩
abbrev cX7_longest : ByteArray := prog_9_method_65_code
def yX7_longest : MethodName := ⟨RX7, "longest", "()I"⟩
abbrev cX7_beam : ByteArray := prog_9_method_66_code
def yX7_beam : MethodName := ⟨RX7, "beam", "(IIIZ)I"⟩
abbrev cX7_earliestOf : ByteArray := prog_9_method_67_code
def yX7_earliestOf : MethodName := ⟨RX7, "earliestOf", "(I)I"⟩
abbrev cX7_earliest : ByteArray := prog_9_method_68_code
def yX7_earliest : MethodName := ⟨RX7, "earliest", "(I)I"⟩
abbrev cX7_tooOld : ByteArray := prog_9_method_69_code
def yX7_tooOld : MethodName := ⟨RX7, "tooOld", "(I)I"⟩
abbrev cX7_keep : ByteArray := prog_9_method_70_code
def yX7_keep : MethodName := ⟨RX7, "keep", "(I)I"⟩
abbrev cX7_again : ByteArray := prog_9_method_71_code
def yX7_again : MethodName := ⟨RX7, "again", "(I)I"⟩
abbrev cX7_all : ByteArray := prog_9_method_72_code
def yX7_all : MethodName := ⟨RX7, "all", "(I)I"⟩
abbrev cL_law : ByteArray := code
abbrev vwCl : List vw_C := [(RX0, TX0, 8), (RX1, TX1, 4), (RX2, TX2, 5), (RX3, TX3, 2), (RX4, TX4, 11), (RX5, TX5, 2), (RX6, TX6, 8), (RX7, TX7, 35)]
/-- fields: own class, entry, class, place, word -/
def mFT : List (Nat × Nat × Nat × Nat × Nat) := [(3, 9, 3, 0, 77), (1, 30, 3, 0, 78), (3, 15, 3, 1, 79), (1, 25, 3, 1, 80), (6, 59, 3, 1, 81), (5, 11, 5, 0, 104), (5, 18, 5, 1, 105), (6, 79, 5, 1, 106), (1, 12, 1, 0, 113), (1, 21, 1, 1, 114), (1, 44, 1, 2, 115), (1, 50, 1, 3, 116), (2, 9, 2, 0, 136), (2, 18, 2, 1, 137), (6, 165, 2, 1, 138), (2, 15, 2, 2, 139), (2, 33, 2, 3, 140), (2, 36, 2, 4, 141), (0, 29, 0, 0, 161), (6, 149, 0, 0, 162), (0, 11, 0, 1, 163), (6, 162, 0, 1, 164), (0, 33, 0, 2, 165), (6, 234, 0, 2, 166), (0, 16, 0, 3, 167), (6, 241, 0, 3, 168), (0, 20, 0, 4, 169), (0, 46, 0, 5, 170), (6, 250, 0, 5, 171), (0, 23, 0, 6, 172), (6, 259, 0, 6, 173), (0, 26, 0, 7, 174), (6, 262, 0, 7, 175), (4, 9, 4, 0, 200), (6, 112, 4, 0, 201), (4, 15, 4, 1, 202), (6, 119, 4, 1, 203), (4, 18, 4, 2, 204), (6, 122, 4, 2, 205), (4, 21, 4, 3, 206), (6, 125, 4, 3, 207), (4, 26, 4, 4, 208), (6, 128, 4, 4, 209), (4, 29, 4, 5, 210), (6, 132, 4, 5, 211), (4, 33, 4, 6, 212), (6, 136, 4, 6, 213), (4, 36, 4, 7, 214), (6, 139, 4, 7, 215), (4, 78, 4, 8, 216), (6, 288, 4, 8, 217), (4, 81, 4, 9, 218), (6, 142, 4, 9, 219), (4, 52, 4, 10, 220), (6, 12, 6, 0, 245), (6, 19, 6, 1, 246), (6, 26, 6, 2, 247), (6, 32, 6, 3, 248), (6, 39, 6, 4, 249), (6, 46, 6, 5, 250), (6, 50, 6, 6, 251), (6, 54, 6, 7, 252), (7, 7, 7, 0, 729), (7, 13, 7, 1, 730), (7, 16, 7, 2, 731), (7, 103, 7, 3, 732), (7, 112, 7, 4, 733), (7, 109, 7, 5, 734), (7, 117, 7, 6, 735), (7, 19, 7, 7, 736), (7, 23, 7, 8, 737), (7, 26, 7, 9, 738), (7, 29, 7, 10, 739), (7, 157, 7, 11, 740), (7, 32, 7, 12, 741), (7, 140, 7, 13, 742), (7, 35, 7, 14, 743), (7, 189, 7, 15, 744), (7, 38, 7, 16, 745), (7, 41, 7, 17, 746), (7, 44, 7, 18, 747), (7, 48, 7, 19, 748), (7, 51, 7, 20, 749), (7, 223, 7, 21, 750), (7, 235, 7, 22, 751), (7, 54, 7, 23, 752), (7, 57, 7, 24, 753), (7, 254, 7, 25, 754), (7, 60, 7, 26, 755), (7, 63, 7, 27, 756), (7, 66, 7, 28, 757), (7, 69, 7, 29, 758), (7, 72, 7, 30, 759), (7, 75, 7, 31, 760), (7, 78, 7, 32, 761), (7, 81, 7, 33, 762), (7, 84, 7, 34, 763)]
/-- calls: own class, entry, method, values taken, kind, word -/
def mCT : List (Nat × Nat × Nat × Nat × Nat × Nat) := [(8, 9, 56, 1, 2, 65), (6, 3, 1000, 1, 4, 68), (6, 11, 28, 1, 3, 73), (3, 3, 1000, 1, 4, 76), (6, 18, 10, 1, 3, 90), (1, 3, 1000, 1, 4, 93), (1, 11, 44, 1, 2, 96), (5, 5, 1000, 1, 4, 99), (5, 15, 45, 1, 0, 100), (6, 25, 44, 1, 2, 127), (6, 38, 19, 1, 3, 132), (2, 3, 1000, 1, 4, 135), (6, 45, 0, 1, 3, 155), (0, 3, 1000, 1, 4, 158), (6, 58, 30, 1, 3, 195), (4, 3, 1000, 1, 4, 198), (8, 15, 57, 3, 0, 270), (6, 63, 29, 3, 0, 274), (8, 20, 58, 1, 0, 278), (8, 25, 59, 1, 0, 282), (6, 67, 11, 2, 0, 286), (1, 18, 45, 1, 0, 290), (1, 34, 13, 2, 0, 291), (1, 38, 14, 2, 0, 295), (1, 56, 15, 5, 0, 299), (1, 60, 48, 3, 0, 303), (5, 22, 47, 2, 0, 307), (1, 41, 16, 2, 0, 311), (1, 47, 17, 2, 0, 315), (1, 64, 47, 2, 0, 319), (1, 53, 18, 2, 0, 320), (1, 67, 46, 3, 0, 324), (8, 29, 60, 1, 0, 328), (6, 71, 12, 2, 0, 332), (6, 75, 32, 2, 0, 336), (4, 39, 33, 1, 0, 340), (4, 42, 34, 2, 0, 344), (4, 55, 54, 2, 0, 348), (5, 26, 49, 3, 0, 352), (4, 61, 50, 3, 0, 356), (4, 65, 1002, 2, 6, 360), (4, 46, 35, 2, 0, 363), (4, 70, 36, 3, 0, 367), (4, 74, 37, 3, 0, 371), (4, 49, 38, 2, 0, 375), (4, 84, 40, 2, 0, 379), (4, 87, 52, 2, 0, 383), (4, 90, 39, 2, 1, 387), (4, 93, 51, 2, 0, 390), (4, 96, 53, 2, 0, 394), (8, 33, 61, 3, 0, 398), (6, 82, 94, 1, 1, 402), (6, 86, 97, 1, 1, 405), (6, 89, 50, 3, 0, 408), (8, 38, 62, 3, 0, 409), (6, 93, 51, 2, 0, 413), (6, 97, 52, 2, 0, 414), (6, 100, 53, 2, 0, 415), (8, 42, 63, 2, 0, 416), (6, 103, 54, 2, 0, 420), (8, 47, 64, 6, 0, 421), (6, 106, 98, 1, 1, 425), (6, 109, 95, 1, 1, 428), (6, 115, 31, 5, 0, 431), (8, 52, 65, 3, 0, 435), (8, 56, 66, 4, 0, 439), (8, 61, 67, 4, 0, 443), (8, 65, 68, 2, 0, 447), (8, 69, 69, 2, 0, 451), (6, 145, 42, 2, 0, 455), (4, 99, 43, 2, 0, 459), (8, 73, 70, 1, 0, 463), (6, 152, 1, 1, 0, 467), (8, 77, 71, 4, 0, 471), (6, 156, 102, 2, 0, 475), (6, 159, 96, 1, 1, 479), (8, 81, 72, 3, 0, 482), (8, 85, 73, 2, 0, 486), (6, 166, 20, 2, 0, 490), (8, 89, 74, 1, 0, 494), (8, 93, 75, 2, 0, 498), (6, 170, 21, 2, 0, 502), (6, 174, 3, 2, 0, 506), (8, 97, 76, 3, 0, 510), (6, 177, 100, 1, 1, 514), (6, 180, 101, 1, 1, 517), (6, 183, 22, 3, 0, 520), (2, 22, 23, 1, 0, 524), (2, 25, 24, 2, 0, 528), (2, 29, 25, 2, 0, 532), (2, 39, 26, 1, 0, 536), (8, 101, 77, 3, 0, 540), (6, 186, 27, 2, 0, 544), (8, 105, 78, 4, 0, 548), (6, 191, 106, 3, 0, 553), (6, 282, 107, 1, 1, 558), (6, 197, 103, 3, 1, 562), (6, 275, 104, 2, 1, 565), (8, 110, 79, 4, 0, 568), (6, 201, 108, 3, 0, 572), (6, 285, 2, 2, 0, 576), (6, 205, 109, 3, 0, 580), (6, 291, 111, 2, 1, 584), (6, 208, 110, 3, 0, 587), (6, 295, 1001, 2, 5, 591), (8, 114, 80, 4, 0, 594), (6, 211, 113, 2, 0, 598), (6, 215, 112, 3, 0, 602), (6, 297, 105, 2, 1, 606), (8, 118, 81, 2, 0, 610), (6, 218, 114, 2, 0, 614), (8, 122, 82, 3, 0, 618), (8, 127, 83, 4, 0, 622), (6, 221, 41, 3, 0, 626), (6, 225, 40, 2, 0, 630), (8, 131, 84, 1, 0, 631), (6, 228, 1003, 2, 7, 635), (8, 135, 85, 4, 0, 638), (6, 237, 4, 3, 0, 642), (8, 139, 86, 2, 0, 646), (6, 244, 5, 3, 0, 650), (8, 143, 87, 1, 0, 654), (6, 247, 6, 1, 0, 658), (0, 36, 5, 3, 0, 662), (0, 40, 1001, 2, 5, 663), (8, 147, 88, 5, 0, 664), (6, 253, 7, 3, 0, 668), (8, 152, 89, 2, 0, 672), (6, 256, 8, 2, 0, 676), (8, 156, 90, 2, 0, 680), (8, 160, 91, 2, 0, 684), (6, 265, 99, 1, 1, 688), (6, 268, 9, 2, 0, 691), (0, 49, 1004, 5, 8, 695), (8, 164, 92, 2, 0, 698), (8, 168, 93, 2, 0, 702), (6, 272, 55, 1, 0, 706), (8, 12, 115, 1, 2, 712), (7, 1, 1000, 1, 4, 715), (7, 87, 117, 1, 0, 716), (7, 97, 116, 3, 1, 722), (7, 90, 118, 1, 0, 725), (8, 19, 119, 3, 0, 836), (8, 24, 120, 1, 0, 842), (8, 28, 125, 1, 0, 846), (7, 132, 123, 1, 0, 850), (7, 120, 124, 2, 0, 854), (7, 124, 122, 3, 0, 858), (7, 128, 121, 2, 0, 862), (8, 32, 126, 1, 0, 867), (8, 37, 131, 3, 0, 871), (7, 143, 127, 1, 1, 875), (7, 147, 128, 1, 1, 879), (8, 41, 132, 3, 0, 883), (8, 46, 133, 2, 0, 888), (8, 51, 134, 6, 0, 892), (7, 152, 129, 1, 1, 896), (8, 55, 135, 3, 0, 900), (8, 60, 141, 4, 0, 904), (7, 173, 140, 2, 0, 908), (7, 163, 136, 1, 0, 912), (7, 160, 137, 3, 0, 916), (7, 166, 138, 3, 0, 920), (7, 170, 139, 3, 0, 924), (8, 64, 144, 4, 0, 928), (7, 179, 143, 2, 0, 932), (7, 176, 142, 2, 0, 936), (8, 68, 145, 2, 0, 940), (8, 72, 146, 2, 0, 944), (8, 76, 147, 1, 0, 948), (8, 80, 148, 4, 0, 952), (7, 182, 130, 2, 0, 956), (8, 84, 149, 3, 0, 962), (8, 88, 150, 2, 0, 966), (8, 92, 151, 1, 0, 970), (8, 96, 152, 2, 0, 974), (8, 100, 155, 3, 0, 978), (7, 197, 154, 3, 0, 983), (7, 192, 153, 1, 0, 987), (8, 104, 156, 3, 0, 991), (8, 109, 160, 4, 0, 995), (7, 206, 159, 2, 0, 1000), (7, 200, 157, 2, 1, 1004), (7, 211, 158, 3, 1, 1008), (8, 113, 163, 4, 0, 1011), (7, 217, 162, 3, 0, 1015), (7, 214, 161, 2, 0, 1019), (8, 117, 166, 4, 0, 1023), (7, 229, 165, 2, 0, 1027), (7, 227, 164, 2, 1, 1031), (8, 121, 168, 2, 0, 1035), (7, 232, 167, 1, 0, 1039), (8, 126, 169, 3, 0, 1043), (8, 130, 170, 4, 0, 1047), (8, 134, 171, 1, 0, 1051), (8, 138, 172, 4, 0, 1055), (8, 142, 177, 2, 0, 1059), (7, 244, 176, 2, 0, 1063), (7, 241, 173, 2, 0, 1067), (7, 247, 175, 2, 0, 1071), (7, 238, 174, 2, 0, 1075), (8, 146, 178, 1, 0, 1079), (8, 151, 179, 5, 0, 1083), (8, 155, 181, 2, 0, 1089), (7, 257, 180, 2, 0, 1093), (8, 159, 182, 2, 0, 1097), (8, 163, 183, 2, 0, 1101), (8, 167, 184, 2, 0, 1105), (8, 171, 185, 2, 0, 1109)]
def mNT : List (Nat × Nat × Nat × Nat × Nat × Nat × Nat) := [(8, 7, 6, 8, 63, 64, 53), (6, 9, 3, 2, 71, 72, 54), (6, 16, 1, 4, 88, 89, 55), (1, 9, 5, 2, 94, 95, 56), (6, 23, 5, 2, 126, 95, 56), (6, 30, 4, 11, 128, 194, 59), (6, 36, 2, 5, 130, 131, 57), (6, 43, 0, 8, 153, 154, 58), (8, 10, 7, 35, 710, 711, 60)]
def mAT : List (Nat × Nat × Nat × Nat) := [(6, 30, 4, 128), (6, 43, 5, 153), (0, 9, 6, 159), (4, 24, 6, 199)]
def mLT : List (Nat × Nat × Int × Nat) := [(6, 189, (-1), 552), (6, 280, 100, 557), (6, 195, (-3), 561), (6, 278, 10, 609), (7, 93, 24, 720), (7, 95, 29, 721), (7, 101, 8, 840), (7, 107, 255, 841), (7, 115, 9, 866), (7, 136, 5, 878), (7, 138, 3, 882), (7, 150, 2, 887), (7, 155, 60, 899), (7, 185, 6, 960), (7, 187, 99, 961), (7, 195, 48, 982), (7, 204, (-1), 999), (7, 209, (-3), 1007), (7, 221, 10, 1034), (7, 250, 300, 1087), (7, 252, 3000, 1088), (8, 13, 4294967295, 1113)]
def mTY : List FieldType := [.int, .byte, .boolean, .long, .object RX4, .object RX0, .array .int]
def mFK : List (List Nat) := [[0, 2, 0, 2, 2, 0, 2, 2], [2, 0, 0, 0], [2, 0, 2, 0, 0], [2, 0], [0, 0, 0, 0, 2, 2, 2, 2, 0, 0, 0], [2, 0], [2, 2, 2, 2, 2, 2, 2, 2], [2, 2, 2, 0, 0, 0, 0, 2, 2, 2, 2, 0, 2, 0, 2, 0, 2, 2, 2, 2, 2, 1, 0, 2, 2, 0, 2, 2, 2, 2, 2, 2, 2, 2, 2]]
def mNM : List String := [RX0, RX1, RX2, RX3, RX4, RX5, RX6, RX7, R_law]
def mTyC : List (Nat → FieldType) := [tyX0, tyX1, tyX2, tyX3, tyX4, tyX5, tyX6, tyX7]
/-- methods: own class, name, bytes, locals, answer, static, words: code, instance or static, selects, initialized -/
def mMT : List (Nat × MethodName × ByteArray × Nat × Option FieldType × Nat × Nat × Nat × Nat × Nat) := [
(0, yX0_init, cX0_init, 1, none, 0, 157, 156, 0, 58),
(0, yX0_addLayer, cX0_addLayer, 1, (some .int), 0, 470, 468, 469, 58),
(0, yX0_saidIn, cX0_saidIn, 4, (some .int), 0, 579, 577, 578, 58),
(0, yX0_sortsIn, cX0_sortsIn, 4, (some .int), 0, 509, 507, 508, 58),
(0, yX0_addTwig, cX0_addTwig, 3, none, 0, 645, 643, 644, 58),
(0, yX0_thinsFrom, cX0_thinsFrom, 3, (some .boolean), 0, 653, 651, 652, 58),
(0, yX0_longestThinning, cX0_longestThinning, 4, (some .int), 0, 661, 659, 660, 58),
(0, yX0_addBeam, cX0_addBeam, 3, none, 0, 671, 669, 670, 58),
(0, yX0_latestCutUpTo, cX0_latestCutUpTo, 4, (some .int), 0, 679, 677, 678, 58),
(0, yX0_becomeLike, cX0_becomeLike, 3, none, 0, 694, 692, 693, 58),
(1, yX1_init, cX1_init, 1, none, 0, 92, 91, 0, 55),
(1, yX1_faultOf, cX1_faultOf, 3, (some .int), 0, 289, 287, 288, 55),
(1, yX1_exchange, cX1_exchange, 3, (some (.object "CharcoalFromAHearth$Wood")), 0, 335, 333, 334, 55),
(1, yX1_takes, cX1_takes, 3, (some .boolean), 0, 294, 293, 0, 55),
(1, yX1_takesKind, cX1_takesKind, 2, (some .boolean), 0, 298, 297, 1, 55),
(1, yX1_begins, cX1_begins, 5, (some .boolean), 0, 302, 301, 2, 55),
(1, yX1_takesSort, cX1_takesSort, 2, (some .boolean), 0, 314, 313, 3, 55),
(1, yX1_takesKey, cX1_takesKey, 2, (some .boolean), 0, 318, 317, 4, 55),
(1, yX1_takesNumber, cX1_takesNumber, 2, (some .boolean), 0, 323, 322, 5, 55),
(2, yX2_init, cX2_init, 1, none, 0, 134, 133, 0, 57),
(2, yX2_add, cX2_add, 2, none, 0, 493, 491, 492, 57),
(2, yX2_countInto, cX2_countInto, 3, none, 0, 505, 503, 504, 57),
(2, yX2_stopBy, cX2_stopBy, 4, (some .int), 0, 523, 521, 522, 57),
(2, yX2_lookAtNone, cX2_lookAtNone, 2, none, 0, 527, 526, 15, 57),
(2, yX2_lookAt, cX2_lookAt, 3, none, 0, 531, 530, 16, 57),
(2, yX2_reachedBy, cX2_reachedBy, 2, (some .int), 0, 535, 534, 17, 57),
(2, yX2_mostLessNext, cX2_mostLessNext, 4, (some .int), 0, 539, 538, 18, 57),
(2, yX2_sortsOnlyBehind, cX2_sortsOnlyBehind, 5, (some .int), 0, 547, 545, 546, 57),
(3, yX3_init, cX3_init, 1, none, 0, 75, 74, 0, 54),
(3, yX3_append, cX3_append, 5, none, 0, 277, 275, 276, 54),
(4, yX4_init, cX4_init, 1, none, 0, 197, 196, 0, 59),
(4, yX4_become, cX4_become, 5, none, 0, 434, 432, 433, 59),
(4, yX4_goIn, cX4_goIn, 2, none, 0, 339, 337, 338, 59),
(4, yX4_takeNothing, cX4_takeNothing, 3, none, 0, 343, 342, 6, 59),
(4, yX4_takeLiked, cX4_takeLiked, 5, none, 0, 347, 346, 7, 59),
(4, yX4_takeOthers, cX4_takeOthers, 4, none, 0, 366, 365, 9, 59),
(4, yX4_takeAt, cX4_takeAt, 4, none, 0, 370, 369, 10, 59),
(4, yX4_sortOfMostLeft, cX4_sortOfMostLeft, 7, (some .int), 0, 374, 373, 11, 59),
(4, yX4_burn, cX4_burn, 5, none, 0, 378, 377, 12, 59),
(4, yX4_tenthsOf, cX4_tenthsOf, 2, (some .int), 1, 389, 388, 0, 59),
(4, yX4_piecesTaken, cX4_piecesTaken, 4, (some .int), 0, 382, 380, 381, 59),
(4, yX4_reaches, cX4_reaches, 4, (some .boolean), 0, 629, 627, 628, 59),
(4, yX4_milesWalkedIn, cX4_milesWalkedIn, 4, (some .int), 0, 458, 456, 457, 59),
(4, yX4_takesAnyAt, cX4_takesAnyAt, 3, (some .boolean), 0, 462, 461, 13, 59),
(5, yX5_init, cX5_init, 1, none, 0, 98, 97, 0, 56),
(5, yX5_forget, cX5_forget, 2, none, 0, 103, 101, 102, 56),
(5, yX5_tell, cX5_tell, 3, none, 0, 327, 325, 326, 56),
(5, yX5_tells, cX5_tells, 2, (some .boolean), 0, 310, 308, 309, 56),
(5, yX5_tellsEach, cX5_tellsEach, 4, (some .boolean), 0, 306, 304, 305, 56),
(5, yX5_toldOr, cX5_toldOr, 3, (some .int), 0, 355, 354, 8, 56),
(5, yX5_piecesAt, cX5_piecesAt, 3, (some .int), 0, 359, 357, 358, 56),
(5, yX5_crumbsOfPiece, cX5_crumbsOfPiece, 2, (some .int), 0, 393, 391, 392, 56),
(5, yX5_tenthsToAsh, cX5_tenthsToAsh, 2, (some .int), 0, 386, 384, 385, 56),
(5, yX5_tenthsUnsaid, cX5_tenthsUnsaid, 2, (some .int), 0, 397, 395, 396, 56),
(5, yX5_milesTo, cX5_milesTo, 2, (some .int), 0, 351, 349, 350, 56),
(5, yX5_piecesOfAll, cX5_piecesOfAll, 3, (some .int), 0, 709, 707, 708, 56),
(6, yX6_init, cX6_init, 2, none, 0, 67, 66, 0, 53),
(6, yX6_write, cX6_write, 4, (some .int), 0, 273, 271, 272, 53),
(6, yX6_wipe, cX6_wipe, 2, (some .int), 0, 281, 279, 280, 53),
(6, yX6_fault, cX6_fault, 1, (some .int), 0, 285, 283, 284, 53),
(6, yX6_wood, cX6_wood, 2, (some .int), 0, 331, 329, 330, 53),
(6, yX6_stands, cX6_stands, 3, (some .int), 0, 401, 399, 400, 53),
(6, yX6_sorted, cX6_sorted, 3, (some .int), 0, 412, 410, 411, 53),
(6, yX6_miles, cX6_miles, 2, (some .int), 0, 419, 417, 418, 53),
(6, yX6_way, cX6_way, 7, (some .int), 0, 424, 422, 423, 53),
(6, yX6_going, cX6_going, 3, (some .int), 0, 438, 436, 437, 53),
(6, yX6_gathered, cX6_gathered, 4, (some .int), 0, 442, 440, 441, 53),
(6, yX6_fire, cX6_fire, 4, (some .int), 0, 446, 444, 445, 53),
(6, yX6_unsaid, cX6_unsaid, 2, (some .int), 0, 450, 448, 449, 53),
(6, yX6_walk, cX6_walk, 2, (some .int), 0, 454, 452, 453, 53),
(6, yX6_layer, cX6_layer, 1, (some .int), 0, 466, 464, 465, 53),
(6, yX6_count, cX6_count, 5, (some .int), 0, 474, 472, 473, 53),
(6, yX6_counted, cX6_counted, 3, (some .int), 0, 485, 483, 484, 53),
(6, yX6_crumb, cX6_crumb, 2, (some .int), 0, 489, 487, 488, 53),
(6, yX6_sweep, cX6_sweep, 2, (some .int), 0, 497, 495, 496, 53),
(6, yX6_pour, cX6_pour, 2, (some .int), 0, 501, 499, 500, 53),
(6, yX6_stop, cX6_stop, 3, (some .int), 0, 513, 511, 512, 53),
(6, yX6_missed, cX6_missed, 4, (some .int), 0, 543, 541, 542, 53),
(6, yX6_share, cX6_share, 7, (some .long), 0, 551, 549, 550, 53),
(6, yX6_chance, cX6_chance, 4, (some .long), 0, 571, 569, 570, 53),
(6, yX6_odds, cX6_odds, 6, (some .long), 0, 597, 595, 596, 53),
(6, yX6_likeliest, cX6_likeliest, 2, (some .int), 0, 613, 611, 612, 53),
(6, yX6_far, cX6_far, 8, (some .long), 0, 621, 619, 620, 53),
(6, yX6_lacks, cX6_lacks, 5, (some .int), 0, 625, 623, 624, 53),
(6, yX6_next, cX6_next, 11, (some .int), 0, 634, 632, 633, 53),
(6, yX6_twig, cX6_twig, 5, (some .int), 0, 641, 639, 640, 53),
(6, yX6_thins, cX6_thins, 2, (some .int), 0, 649, 647, 648, 53),
(6, yX6_longest, cX6_longest, 1, (some .int), 0, 657, 655, 656, 53),
(6, yX6_beam, cX6_beam, 6, (some .int), 0, 667, 665, 666, 53),
(6, yX6_earliest, cX6_earliest, 2, (some .int), 0, 675, 673, 674, 53),
(6, yX6_tooOld, cX6_tooOld, 2, (some .int), 0, 683, 681, 682, 53),
(6, yX6_keep, cX6_keep, 2, (some .int), 0, 687, 685, 686, 53),
(6, yX6_again, cX6_again, 2, (some .int), 0, 701, 699, 700, 53),
(6, yX6_all, cX6_all, 2, (some .int), 0, 705, 703, 704, 53),
(6, yX6_isSort, cX6_isSort, 1, (some .boolean), 1, 404, 403, 0, 53),
(6, yX6_isSortOrNone, cX6_isSortOrNone, 1, (some .boolean), 1, 430, 429, 0, 53),
(6, yX6_isSortOrUnsaid, cX6_isSortOrUnsaid, 1, (some .boolean), 1, 481, 480, 0, 53),
(6, yX6_isPlace, cX6_isPlace, 1, (some .boolean), 1, 407, 406, 0, 53),
(6, yX6_isWay, cX6_isWay, 1, (some .boolean), 1, 427, 426, 0, 53),
(6, yX6_isSlot, cX6_isSlot, 1, (some .boolean), 1, 690, 689, 0, 53),
(6, yX6_isRule, cX6_isRule, 1, (some .boolean), 1, 516, 515, 0, 53),
(6, yX6_isRuleNumber, cX6_isRuleNumber, 1, (some .boolean), 1, 519, 518, 0, 53),
(6, yX6_isLayer, cX6_isLayer, 2, (some .boolean), 0, 478, 477, 14, 53),
(6, yX6_inLeastTerms, cX6_inLeastTerms, 7, (some .long), 1, 564, 563, 0, 53),
(6, yX6_commonDivisor, cX6_commonDivisor, 7, (some .long), 1, 567, 566, 0, 53),
(6, yX6_billionths, cX6_billionths, 9, (some .long), 1, 608, 607, 0, 53),
(6, yX6_piecesBehind, cX6_piecesBehind, 3, (some .long), 0, 556, 555, 19, 53),
(6, yX6_by2520, cX6_by2520, 1, (some .long), 1, 560, 559, 0, 53),
(6, yX6_isAsked, cX6_isAsked, 3, (some .boolean), 0, 575, 574, 20, 53),
(6, yX6_drawsThatFit, cX6_drawsThatFit, 6, (some .long), 0, 583, 582, 21, 53),
(6, yX6_drawsInAll, cX6_drawsInAll, 3, (some .long), 0, 590, 589, 22, 53),
(6, yX6_power, cX6_power, 6, (some .long), 1, 586, 585, 0, 53),
(6, yX6_partsOf, cX6_partsOf, 3, (some .long), 0, 605, 604, 24, 53),
(6, yX6_partsOfAll, cX6_partsOfAll, 5, (some .long), 0, 601, 600, 23, 53),
(6, yX6_wayOfMostParts, cX6_wayOfMostParts, 4, (some .int), 0, 617, 616, 25, 53),
(7, yX7_init, cX7_init, 2, none, 0, 714, 713, 0, 60),
(7, yX7_in, cX7_in, 6, (some .boolean), 1, 724, 723, 0, 60),
(7, yX7_blank, cX7_blank, 2, none, 0, 719, 718, 26, 60),
(7, yX7_takeWood, cX7_takeWood, 2, none, 0, 728, 727, 27, 60),
(7, yX7_write, cX7_write, 5, (some .int), 0, 839, 837, 838, 60),
(7, yX7_wipe, cX7_wipe, 2, (some .int), 0, 845, 843, 844, 60),
(7, yX7_figure, cX7_figure, 3, (some .int), 0, 865, 864, 31, 60),
(7, yX7_open, cX7_open, 5, (some .int), 0, 861, 860, 30, 60),
(7, yX7_readText, cX7_readText, 1, (some .int), 0, 853, 852, 28, 60),
(7, yX7_readPart, cX7_readPart, 6, none, 0, 857, 856, 29, 60),
(7, yX7_fault, cX7_fault, 1, (some .int), 0, 849, 847, 848, 60),
(7, yX7_wood, cX7_wood, 1, (some .int), 0, 870, 868, 869, 60),
(7, yX7_isSort, cX7_isSort, 1, (some .boolean), 1, 877, 876, 0, 60),
(7, yX7_isPlace, cX7_isPlace, 1, (some .boolean), 1, 881, 880, 0, 60),
(7, yX7_isWay, cX7_isWay, 1, (some .boolean), 1, 898, 897, 0, 60),
(7, yX7_isLayer, cX7_isLayer, 2, (some .boolean), 0, 959, 958, 39, 60),
(7, yX7_stands, cX7_stands, 3, (some .int), 0, 874, 872, 873, 60),
(7, yX7_sorted, cX7_sorted, 3, (some .int), 0, 886, 884, 885, 60),
(7, yX7_miles, cX7_miles, 2, (some .int), 0, 891, 889, 890, 60),
(7, yX7_way, cX7_way, 7, (some .int), 0, 895, 893, 894, 60),
(7, yX7_going, cX7_going, 3, (some .int), 0, 903, 901, 902, 60),
(7, yX7_layNear, cX7_layNear, 4, none, 0, 915, 914, 33, 60),
(7, yX7_left, cX7_left, 3, (some .int), 0, 919, 918, 34, 60),
(7, yX7_takePiece, cX7_takePiece, 3, none, 0, 923, 922, 35, 60),
(7, yX7_mostAt, cX7_mostAt, 5, (some .int), 0, 927, 926, 36, 60),
(7, yX7_layTaken, cX7_layTaken, 7, none, 0, 911, 910, 32, 60),
(7, yX7_gathered, cX7_gathered, 4, (some .int), 0, 907, 905, 906, 60),
(7, yX7_allTaken, cX7_allTaken, 2, (some .int), 0, 939, 938, 38, 60),
(7, yX7_layFire, cX7_layFire, 4, none, 0, 935, 934, 37, 60),
(7, yX7_fire, cX7_fire, 4, (some .int), 0, 931, 929, 930, 60),
(7, yX7_unsaid, cX7_unsaid, 4, (some .int), 0, 943, 941, 942, 60),
(7, yX7_walk, cX7_walk, 6, (some .int), 0, 947, 945, 946, 60),
(7, yX7_layer, cX7_layer, 2, (some .int), 0, 951, 949, 950, 60),
(7, yX7_count, cX7_count, 5, (some .int), 0, 955, 953, 954, 60),
(7, yX7_counted, cX7_counted, 3, (some .int), 0, 965, 963, 964, 60),
(7, yX7_crumb, cX7_crumb, 2, (some .int), 0, 969, 967, 968, 60),
(7, yX7_sweep, cX7_sweep, 2, (some .int), 0, 973, 971, 972, 60),
(7, yX7_pour, cX7_pour, 4, (some .int), 0, 977, 975, 976, 60),
(7, yX7_ahead, cX7_ahead, 5, (some .int), 0, 990, 989, 41, 60),
(7, yX7_stopOf, cX7_stopOf, 7, (some .int), 0, 986, 985, 40, 60),
(7, yX7_stop, cX7_stop, 3, (some .int), 0, 981, 979, 980, 60),
(7, yX7_missed, cX7_missed, 6, (some .int), 0, 994, 992, 993, 60),
(7, yX7_common, cX7_common, 10, (some .long), 1, 1006, 1005, 0, 60),
(7, yX7_told, cX7_told, 7, (some .long), 1, 1010, 1009, 0, 60),
(7, yX7_divisor, cX7_divisor, 2, (some .int), 0, 1003, 1002, 42, 60),
(7, yX7_share, cX7_share, 9, (some .long), 0, 998, 996, 997, 60),
(7, yX7_crumbsOf, cX7_crumbsOf, 4, (some .int), 0, 1022, 1021, 44, 60),
(7, yX7_layChance, cX7_layChance, 7, (some .boolean), 0, 1018, 1017, 43, 60),
(7, yX7_chance, cX7_chance, 4, (some .long), 0, 1014, 1012, 1013, 60),
(7, yX7_parts, cX7_parts, 9, (some .long), 1, 1033, 1032, 0, 60),
(7, yX7_layOdds, cX7_layOdds, 4, (some .boolean), 0, 1030, 1029, 45, 60),
(7, yX7_odds, cX7_odds, 4, (some .long), 0, 1026, 1024, 1025, 60),
(7, yX7_likeliestOf, cX7_likeliestOf, 3, (some .int), 0, 1042, 1041, 46, 60),
(7, yX7_likeliest, cX7_likeliest, 2, (some .int), 0, 1038, 1036, 1037, 60),
(7, yX7_far, cX7_far, 6, (some .long), 0, 1046, 1044, 1045, 60),
(7, yX7_lacks, cX7_lacks, 6, (some .int), 0, 1050, 1048, 1049, 60),
(7, yX7_next, cX7_next, 12, (some .int), 0, 1054, 1052, 1053, 60),
(7, yX7_twig, cX7_twig, 4, (some .int), 0, 1058, 1056, 1057, 60),
(7, yX7_twigsOf, cX7_twigsOf, 4, (some .int), 0, 1070, 1069, 48, 60),
(7, yX7_thickOf, cX7_thickOf, 4, (some .int), 0, 1078, 1077, 50, 60),
(7, yX7_isThinner, cX7_isThinner, 2, (some .boolean), 0, 1074, 1073, 49, 60),
(7, yX7_hasBoth, cX7_hasBoth, 2, (some .boolean), 0, 1066, 1065, 47, 60),
(7, yX7_thins, cX7_thins, 2, (some .int), 0, 1062, 1060, 1061, 60),
(7, yX7_longest, cX7_longest, 4, (some .int), 0, 1082, 1080, 1081, 60),
(7, yX7_beam, cX7_beam, 5, (some .int), 0, 1086, 1084, 1085, 60),
(7, yX7_earliestOf, cX7_earliestOf, 4, (some .int), 0, 1096, 1095, 51, 60),
(7, yX7_earliest, cX7_earliest, 2, (some .int), 0, 1092, 1090, 1091, 60),
(7, yX7_tooOld, cX7_tooOld, 2, (some .int), 0, 1100, 1098, 1099, 60),
(7, yX7_keep, cX7_keep, 3, (some .int), 0, 1104, 1102, 1103, 60),
(7, yX7_again, cX7_again, 3, (some .int), 0, 1108, 1106, 1107, 60),
(7, yX7_all, cX7_all, 4, (some .int), 0, 1112, 1110, 1111, 60)]
def mLAW : Nat := 186
abbrev Au := Nat × Nat × Nat × Int
abbrev En := Instr × Nat × Au
def nn : Option En := none
def pX0_init : List (List (Option En)) := [[some (.aload_n 0, 1, (0, 0, 0, 0)), some (.invokespecial 3, 3, (1000, 1, 13, 4)), nn, nn, some (.aload_n 0, 1, (0, 0, 0, 0)), some (.bipush 6, 2, (0, 0, 0, 0)), nn, some (.bipush 7, 2, (0, 0, 0, 0)), nn, some (.multianewarray 9 2, 4, (6, 0, 2, 0)), nn, nn, nn, some (.putfield 11, 3, (0, 1, 20, 0))],
 [some (.aload_n 0, 1, (0, 0, 0, 0)), some (.bipush 6, 2, (0, 0, 0, 0)), nn, some (.newarray .int, 2, (0, 0, 0, 0)), nn, some (.putfield 16, 3, (0, 3, 24, 0)), nn, nn, some (.aload_n 0, 1, (0, 0, 0, 0)), some (.bipush 6, 2, (0, 0, 0, 0)), nn, some (.newarray .int, 2, (0, 0, 0, 0)), nn, some (.putfield 20, 3, (0, 4, 26, 0))],
 [some (.aload_n 0, 1, (0, 0, 0, 0)), some (.bipush 8, 2, (0, 0, 0, 0)), nn, some (.newarray .int, 2, (0, 0, 0, 0)), nn, some (.putfield 23, 3, (0, 6, 29, 0)), nn, nn, some (.aload_n 0, 1, (0, 0, 0, 0)), some (.bipush 8, 2, (0, 0, 0, 0)), nn, some (.newarray .int, 2, (0, 0, 0, 0)), nn, some (.putfield 26, 3, (0, 7, 31, 0))],
 [some (.return_, 1, (0, 0, 0, 0))]]
def pX0_addLayer : List (List (Option En)) := [[some (.aload_n 0, 1, (0, 0, 0, 0)), some (.dup, 1, (0, 0, 0, 0)), some (.getfield 29, 3, (0, 0, 18, 0)), nn, nn, some (.iconst 1, 1, (0, 0, 0, 0)), some (.iadd, 1, (0, 0, 0, 0)), some (.putfield 29, 3, (0, 0, 18, 0)), nn, nn, some (.aload_n 0, 1, (0, 0, 0, 0)), some (.getfield 29, 3, (0, 0, 18, 0)), nn, nn, some (.iconst 1, 1, (0, 0, 0, 0)), some (.isub, 1, (0, 0, 0, 0))],
 [some (.ireturn, 1, (0, 0, 0, 0))]]
def pX0_saidIn : List (List (Option En)) := [[some (.iconst 0, 1, (0, 0, 0, 0)), some (.istore_n 2, 1, (0, 0, 0, 0)), some (.iconst 0, 1, (0, 0, 0, 0)), some (.istore_n 3, 1, (0, 0, 0, 0)), some (.iload_n 3, 1, (0, 0, 0, 0)), some (.bipush 6, 2, (0, 0, 0, 0)), nn, some (.if_icmp .ge 20, 3, (27, 0, 0, 0)), nn, nn, some (.iload_n 2, 1, (0, 0, 0, 0)), some (.aload_n 0, 1, (0, 0, 0, 0)), some (.getfield 11, 3, (0, 1, 20, 0)), nn, nn, some (.iload_n 1, 1, (0, 0, 0, 0))],
 [some (.aaload, 1, (0, 0, 0, 0)), some (.iload_n 3, 1, (0, 0, 0, 0)), some (.iaload, 1, (0, 0, 0, 0)), some (.iadd, 1, (0, 0, 0, 0)), some (.istore_n 2, 1, (0, 0, 0, 0)), some (.iinc 3 1, 3, (0, 0, 0, 0)), nn, nn, some (.goto (-20), 3, (4, 0, 0, 0)), nn, nn, some (.iload_n 2, 1, (0, 0, 0, 0)), some (.ireturn, 1, (0, 0, 0, 0))]]
def pX0_sortsIn : List (List (Option En)) := [[some (.iconst 0, 1, (0, 0, 0, 0)), some (.istore_n 2, 1, (0, 0, 0, 0)), some (.iconst 0, 1, (0, 0, 0, 0)), some (.istore_n 3, 1, (0, 0, 0, 0)), some (.iload_n 3, 1, (0, 0, 0, 0)), some (.bipush 6, 2, (0, 0, 0, 0)), nn, some (.if_icmp .ge 28, 3, (35, 0, 0, 0)), nn, nn, some (.iload_n 2, 1, (0, 0, 0, 0)), some (.aload_n 0, 1, (0, 0, 0, 0)), some (.getfield 11, 3, (0, 1, 20, 0)), nn, nn, some (.iload_n 1, 1, (0, 0, 0, 0))],
 [some (.aaload, 1, (0, 0, 0, 0)), some (.iload_n 3, 1, (0, 0, 0, 0)), some (.iaload, 1, (0, 0, 0, 0)), some (.ifCond .le 7, 3, (26, 0, 0, 0)), nn, nn, some (.iconst 1, 1, (0, 0, 0, 0)), some (.goto 4, 3, (27, 0, 0, 0)), nn, nn, some (.iconst 0, 1, (0, 0, 0, 0)), some (.iadd, 1, (0, 0, 0, 0)), some (.istore_n 2, 1, (0, 0, 0, 0)), some (.iinc 3 1, 3, (0, 0, 0, 0))],
 [some (.goto (-28), 3, (4, 0, 0, 0)), nn, nn, some (.iload_n 2, 1, (0, 0, 0, 0)), some (.ireturn, 1, (0, 0, 0, 0))]]
def pX0_addTwig : List (List (Option En)) := [[some (.aload_n 0, 1, (0, 0, 0, 0)), some (.dup, 1, (0, 0, 0, 0)), some (.getfield 33, 3, (0, 2, 22, 0)), nn, nn, some (.iconst 1, 1, (0, 0, 0, 0)), some (.iadd, 1, (0, 0, 0, 0)), some (.putfield 33, 3, (0, 2, 22, 0)), nn, nn, some (.aload_n 0, 1, (0, 0, 0, 0)), some (.getfield 16, 3, (0, 3, 24, 0)), nn, nn, some (.iload_n 1, 1, (0, 0, 0, 0)), some (.dup2, 1, (0, 0, 0, 0))],
 [some (.iaload, 1, (0, 0, 0, 0)), some (.iconst 1, 1, (0, 0, 0, 0)), some (.iadd, 1, (0, 0, 0, 0)), some (.iastore, 1, (0, 0, 0, 0)), some (.aload_n 0, 1, (0, 0, 0, 0)), some (.getfield 20, 3, (0, 4, 26, 0)), nn, nn, some (.iload_n 1, 1, (0, 0, 0, 0)), some (.dup2, 1, (0, 0, 0, 0)), some (.iaload, 1, (0, 0, 0, 0)), some (.iload_n 2, 1, (0, 0, 0, 0)), some (.iadd, 1, (0, 0, 0, 0)), some (.iastore, 1, (0, 0, 0, 0)), some (.return_, 1, (0, 0, 0, 0))]]
def pX0_thinsFrom : List (List (Option En)) := [[some (.aload_n 0, 1, (0, 0, 0, 0)), some (.getfield 20, 3, (0, 4, 26, 0)), nn, nn, some (.iload_n 2, 1, (0, 0, 0, 0)), some (.iaload, 1, (0, 0, 0, 0)), some (.aload_n 0, 1, (0, 0, 0, 0)), some (.getfield 16, 3, (0, 3, 24, 0)), nn, nn, some (.iload_n 1, 1, (0, 0, 0, 0)), some (.iaload, 1, (0, 0, 0, 0)), some (.imul, 1, (0, 0, 0, 0)), some (.aload_n 0, 1, (0, 0, 0, 0)), some (.getfield 20, 3, (0, 4, 26, 0))],
 [nn, some (.iload_n 1, 1, (0, 0, 0, 0)), some (.iaload, 1, (0, 0, 0, 0)), some (.aload_n 0, 1, (0, 0, 0, 0)), some (.getfield 16, 3, (0, 3, 24, 0)), nn, nn, some (.iload_n 2, 1, (0, 0, 0, 0)), some (.iaload, 1, (0, 0, 0, 0)), some (.imul, 1, (0, 0, 0, 0)), some (.if_icmp .ge 7, 3, (33, 0, 0, 0)), nn, nn, some (.iconst 1, 1, (0, 0, 0, 0)), some (.goto 4, 3, (34, 0, 0, 0))],
 [nn, some (.iconst 0, 1, (0, 0, 0, 0)), some (.ireturn, 1, (0, 0, 0, 0))]]
def pX0_longestThinning : List (List (Option En)) := [[some (.iconst 0, 1, (0, 0, 0, 0)), some (.istore_n 1, 1, (0, 0, 0, 0)), some (.iconst 0, 1, (0, 0, 0, 0)), some (.istore_n 2, 1, (0, 0, 0, 0)), some (.iconst 0, 1, (0, 0, 0, 0)), some (.istore_n 3, 1, (0, 0, 0, 0)), some (.iload_n 3, 1, (0, 0, 0, 0)), some (.aload_n 0, 1, (0, 0, 0, 0)), some (.getfield 29, 3, (0, 0, 18, 0)), nn, nn, some (.if_icmp .ge 52, 3, (63, 0, 0, 0)), nn, nn, some (.aload_n 0, 1, (0, 0, 0, 0)), some (.getfield 16, 3, (0, 3, 24, 0))],
 [nn, nn, some (.iload_n 3, 1, (0, 0, 0, 0)), some (.iaload, 1, (0, 0, 0, 0)), some (.ifCond .ne 8, 3, (28, 0, 0, 0)), nn, nn, some (.iconst 0, 1, (0, 0, 0, 0)), some (.istore_n 2, 1, (0, 0, 0, 0)), some (.goto 26, 3, (51, 0, 0, 0)), nn, nn, some (.iload_n 2, 1, (0, 0, 0, 0)), some (.ifCond .le 20, 3, (49, 0, 0, 0))],
 [some (.aload_n 0, 1, (0, 0, 0, 0)), some (.iload_n 3, 1, (0, 0, 0, 0)), some (.iconst 1, 1, (0, 0, 0, 0)), some (.isub, 1, (0, 0, 0, 0)), some (.iload_n 3, 1, (0, 0, 0, 0)), some (.invokevirtual 36, 3, (5, 3, 123, 0)), nn, nn, some (.ifCond .eq 9, 3, (49, 0, 0, 0)), nn, nn, some (.iinc 2 1, 3, (0, 0, 0, 0)), nn, nn, some (.goto 5, 3, (51, 0, 0, 0))],
 [nn, some (.iconst 1, 1, (0, 0, 0, 0)), some (.istore_n 2, 1, (0, 0, 0, 0)), some (.iload_n 1, 1, (0, 0, 0, 0)), some (.iload_n 2, 1, (0, 0, 0, 0)), some (.invokestatic 40, 3, (1001, 2, 124, 5)), nn, nn, some (.istore_n 1, 1, (0, 0, 0, 0)), some (.iinc 3 1, 3, (0, 0, 0, 0)), nn, nn, some (.goto (-54), 3, (6, 0, 0, 0)), nn, nn, some (.iload_n 1, 1, (0, 0, 0, 0))],
 [some (.ireturn, 1, (0, 0, 0, 0))]]
def pX0_addBeam : List (List (Option En)) := [[some (.aload_n 0, 1, (0, 0, 0, 0)), some (.getfield 23, 3, (0, 6, 29, 0)), nn, nn, some (.aload_n 0, 1, (0, 0, 0, 0)), some (.getfield 46, 3, (0, 5, 27, 0)), nn, nn, some (.iload_n 1, 1, (0, 0, 0, 0)), some (.iastore, 1, (0, 0, 0, 0)), some (.aload_n 0, 1, (0, 0, 0, 0)), some (.getfield 26, 3, (0, 7, 31, 0)), nn, nn, some (.aload_n 0, 1, (0, 0, 0, 0)), some (.getfield 46, 3, (0, 5, 27, 0))],
 [nn, nn, some (.iload_n 2, 1, (0, 0, 0, 0)), some (.iastore, 1, (0, 0, 0, 0)), some (.aload_n 0, 1, (0, 0, 0, 0)), some (.dup, 1, (0, 0, 0, 0)), some (.getfield 46, 3, (0, 5, 27, 0)), nn, nn, some (.iconst 1, 1, (0, 0, 0, 0)), some (.iadd, 1, (0, 0, 0, 0)), some (.putfield 46, 3, (0, 5, 27, 0)), nn, nn, some (.return_, 1, (0, 0, 0, 0))]]
def pX0_latestCutUpTo : List (List (Option En)) := [[some (.bipush (-9), 2, (0, 0, 0, 0)), nn, some (.istore_n 2, 1, (0, 0, 0, 0)), some (.iconst 0, 1, (0, 0, 0, 0)), some (.istore_n 3, 1, (0, 0, 0, 0)), some (.iload_n 3, 1, (0, 0, 0, 0)), some (.aload_n 0, 1, (0, 0, 0, 0)), some (.getfield 46, 3, (0, 5, 27, 0)), nn, nn, some (.if_icmp .ge 30, 3, (40, 0, 0, 0)), nn, nn, some (.aload_n 0, 1, (0, 0, 0, 0)), some (.getfield 23, 3, (0, 6, 29, 0))],
 [nn, some (.iload_n 3, 1, (0, 0, 0, 0)), some (.iaload, 1, (0, 0, 0, 0)), some (.iload_n 1, 1, (0, 0, 0, 0)), some (.if_icmp .gt 14, 3, (34, 0, 0, 0)), nn, nn, some (.iload_n 2, 1, (0, 0, 0, 0)), some (.aload_n 0, 1, (0, 0, 0, 0)), some (.getfield 26, 3, (0, 7, 31, 0)), nn, nn, some (.iload_n 3, 1, (0, 0, 0, 0)), some (.iaload, 1, (0, 0, 0, 0)), some (.invokestatic 40, 3, (1001, 2, 124, 5))],
 [nn, some (.istore_n 2, 1, (0, 0, 0, 0)), some (.iinc 3 1, 3, (0, 0, 0, 0)), nn, nn, some (.goto (-32), 3, (5, 0, 0, 0)), nn, nn, some (.iload_n 2, 1, (0, 0, 0, 0)), some (.ireturn, 1, (0, 0, 0, 0))]]
def pX0_becomeLike : List (List (Option En)) := [[some (.aload_n 0, 1, (0, 0, 0, 0)), some (.aload_n 1, 1, (0, 0, 0, 0)), some (.getfield 29, 3, (0, 0, 18, 0)), nn, nn, some (.putfield 29, 3, (0, 0, 18, 0)), nn, nn, some (.aload_n 0, 1, (0, 0, 0, 0)), some (.aload_n 1, 1, (0, 0, 0, 0)), some (.getfield 33, 3, (0, 2, 22, 0)), nn, nn, some (.putfield 33, 3, (0, 2, 22, 0))],
 [some (.aload_n 0, 1, (0, 0, 0, 0)), some (.aload_n 1, 1, (0, 0, 0, 0)), some (.getfield 46, 3, (0, 5, 27, 0)), nn, nn, some (.putfield 46, 3, (0, 5, 27, 0)), nn, nn, some (.iconst 0, 1, (0, 0, 0, 0)), some (.istore_n 2, 1, (0, 0, 0, 0)), some (.iload_n 2, 1, (0, 0, 0, 0)), some (.bipush 6, 2, (0, 0, 0, 0)), nn, some (.if_icmp .ge 28, 3, (57, 0, 0, 0))],
 [some (.aload_n 1, 1, (0, 0, 0, 0)), some (.getfield 11, 3, (0, 1, 20, 0)), nn, nn, some (.iload_n 2, 1, (0, 0, 0, 0)), some (.aaload, 1, (0, 0, 0, 0)), some (.iconst 0, 1, (0, 0, 0, 0)), some (.aload_n 0, 1, (0, 0, 0, 0)), some (.getfield 11, 3, (0, 1, 20, 0)), nn, nn, some (.iload_n 2, 1, (0, 0, 0, 0)), some (.aaload, 1, (0, 0, 0, 0)), some (.iconst 0, 1, (0, 0, 0, 0)), some (.bipush 7, 2, (0, 0, 0, 0))],
 [some (.invokestatic 49, 3, (1004, 5, 133, 8)), nn, nn, some (.iinc 2 1, 3, (0, 0, 0, 0)), nn, nn, some (.goto (-28), 3, (26, 0, 0, 0)), nn, nn, some (.aload_n 1, 1, (0, 0, 0, 0)), some (.getfield 16, 3, (0, 3, 24, 0)), nn, nn, some (.iconst 0, 1, (0, 0, 0, 0)), some (.aload_n 0, 1, (0, 0, 0, 0)), some (.getfield 16, 3, (0, 3, 24, 0))],
 [nn, nn, some (.iconst 0, 1, (0, 0, 0, 0)), some (.bipush 6, 2, (0, 0, 0, 0)), nn, some (.invokestatic 49, 3, (1004, 5, 133, 8)), nn, nn, some (.aload_n 1, 1, (0, 0, 0, 0)), some (.getfield 20, 3, (0, 4, 26, 0)), nn, nn, some (.iconst 0, 1, (0, 0, 0, 0)), some (.aload_n 0, 1, (0, 0, 0, 0)), some (.getfield 20, 3, (0, 4, 26, 0))],
 [nn, some (.iconst 0, 1, (0, 0, 0, 0)), some (.bipush 6, 2, (0, 0, 0, 0)), nn, some (.invokestatic 49, 3, (1004, 5, 133, 8)), nn, nn, some (.aload_n 1, 1, (0, 0, 0, 0)), some (.getfield 23, 3, (0, 6, 29, 0)), nn, nn, some (.iconst 0, 1, (0, 0, 0, 0)), some (.aload_n 0, 1, (0, 0, 0, 0)), some (.getfield 23, 3, (0, 6, 29, 0))],
 [some (.iconst 0, 1, (0, 0, 0, 0)), some (.bipush 8, 2, (0, 0, 0, 0)), nn, some (.invokestatic 49, 3, (1004, 5, 133, 8)), nn, nn, some (.aload_n 1, 1, (0, 0, 0, 0)), some (.getfield 26, 3, (0, 7, 31, 0)), nn, nn, some (.iconst 0, 1, (0, 0, 0, 0)), some (.aload_n 0, 1, (0, 0, 0, 0)), some (.getfield 26, 3, (0, 7, 31, 0)), nn, nn, some (.iconst 0, 1, (0, 0, 0, 0))],
 [some (.bipush 8, 2, (0, 0, 0, 0)), nn, some (.invokestatic 49, 3, (1004, 5, 133, 8)), nn, nn, some (.return_, 1, (0, 0, 0, 0))]]
def pX1_init : List (List (Option En)) := [[some (.aload_n 0, 1, (0, 0, 0, 0)), some (.invokespecial 3, 3, (1000, 1, 5, 4)), nn, nn, some (.aload_n 0, 1, (0, 0, 0, 0)), some (.new 9, 3, (5, 2, 3, 0)), nn, nn, some (.dup, 1, (0, 0, 0, 0)), some (.invokespecial 11, 3, (44, 1, 6, 2)), nn, nn, some (.putfield 12, 3, (1, 0, 8, 0)), nn, nn, some (.return_, 1, (0, 0, 0, 0))]]
def pX1_faultOf : List (List (Option En)) := [[some (.aload_n 0, 1, (0, 0, 0, 0)), some (.getfield 12, 3, (1, 0, 8, 0)), nn, nn, some (.invokevirtual 18, 3, (45, 1, 21, 0)), nn, nn, some (.aload_n 0, 1, (0, 0, 0, 0)), some (.iconst 0, 1, (0, 0, 0, 0)), some (.putfield 21, 3, (1, 1, 9, 0)), nn, nn, some (.iconst 0, 1, (0, 0, 0, 0)), some (.istore_n 2, 1, (0, 0, 0, 0)), some (.iload_n 2, 1, (0, 0, 0, 0)), some (.aload_n 1, 1, (0, 0, 0, 0))],
 [some (.getfield 25, 3, (3, 1, 3, 0)), nn, nn, some (.if_icmp .ge 24, 3, (43, 0, 0, 0)), nn, nn, some (.aload_n 0, 1, (0, 0, 0, 0)), some (.aload_n 1, 1, (0, 0, 0, 0)), some (.getfield 30, 3, (3, 0, 1, 0)), nn, nn, some (.iload_n 2, 1, (0, 0, 0, 0)), some (.baload, 1, (0, 0, 0, 0)), some (.invokevirtual 34, 3, (13, 2, 22, 0))],
 [some (.ifCond .ne 5, 3, (37, 0, 0, 0)), nn, nn, some (.iload_n 2, 1, (0, 0, 0, 0)), some (.ireturn, 1, (0, 0, 0, 0)), some (.iinc 2 1, 3, (0, 0, 0, 0)), nn, nn, some (.goto (-26), 3, (14, 0, 0, 0)), nn, nn, some (.aload_n 0, 1, (0, 0, 0, 0)), some (.getfield 21, 3, (1, 1, 9, 0)), nn, nn, some (.ifCond .ne 8, 3, (55, 0, 0, 0))],
 [nn, nn, some (.bipush (-9), 2, (0, 0, 0, 0)), nn, some (.goto 7, 3, (59, 0, 0, 0)), nn, nn, some (.aload_n 1, 1, (0, 0, 0, 0)), some (.getfield 25, 3, (3, 1, 3, 0)), nn, nn, some (.ireturn, 1, (0, 0, 0, 0))]]
def pX1_exchange : List (List (Option En)) := [[some (.aload_n 0, 1, (0, 0, 0, 0)), some (.getfield 12, 3, (1, 0, 8, 0)), nn, nn, some (.astore_n 2, 1, (0, 0, 0, 0)), some (.aload_n 0, 1, (0, 0, 0, 0)), some (.aload_n 1, 1, (0, 0, 0, 0)), some (.putfield 12, 3, (1, 0, 8, 0)), nn, nn, some (.aload_n 2, 1, (0, 0, 0, 0)), some (.areturn, 1, (0, 0, 0, 0))]]
def pX1_takes : List (List (Option En)) := [[some (.iload_n 1, 1, (0, 0, 0, 0)), some (.bipush 48, 2, (0, 0, 0, 0)), nn, some (.isub, 1, (0, 0, 0, 0)), some (.istore_n 2, 1, (0, 0, 0, 0)), some (.aload_n 0, 1, (0, 0, 0, 0)), some (.getfield 21, 3, (1, 1, 9, 0)), nn, nn, some (.tableswitch 85 0 2 #[27, 33, 57], 27, (0, 0, 0, 0))],
 [],
 [nn, nn, nn, nn, some (.aload_n 0, 1, (0, 0, 0, 0)), some (.iload_n 1, 1, (0, 0, 0, 0)), some (.invokevirtual 38, 3, (14, 2, 23, 0)), nn, nn, some (.ireturn, 1, (0, 0, 0, 0)), some (.iload_n 2, 1, (0, 0, 0, 0)), some (.ifCond .lt 21, 3, (64, 0, 0, 0)), nn, nn, some (.iload_n 2, 1, (0, 0, 0, 0)), some (.bipush 6, 2, (0, 0, 0, 0))],
 [nn, some (.if_icmp .ge 15, 3, (64, 0, 0, 0)), nn, nn, some (.aload_n 0, 1, (0, 0, 0, 0)), some (.iload_n 2, 1, (0, 0, 0, 0)), some (.invokevirtual 41, 3, (16, 2, 27, 0)), nn, nn, some (.ifCond .eq 7, 3, (64, 0, 0, 0)), nn, nn, some (.iconst 1, 1, (0, 0, 0, 0)), some (.goto 4, 3, (65, 0, 0, 0))],
 [some (.iconst 0, 1, (0, 0, 0, 0)), some (.ireturn, 1, (0, 0, 0, 0)), some (.iload_n 2, 1, (0, 0, 0, 0)), some (.ifCond .lt 25, 3, (92, 0, 0, 0)), nn, nn, some (.iload_n 2, 1, (0, 0, 0, 0)), some (.iconst 4, 1, (0, 0, 0, 0)), some (.if_icmp .ge 20, 3, (92, 0, 0, 0)), nn, nn, some (.aload_n 0, 1, (0, 0, 0, 0)), some (.aload_n 0, 1, (0, 0, 0, 0)), some (.getfield 44, 3, (1, 2, 10, 0))],
 [some (.iload_n 2, 1, (0, 0, 0, 0)), some (.iadd, 1, (0, 0, 0, 0)), some (.invokevirtual 47, 3, (17, 2, 28, 0)), nn, nn, some (.ifCond .eq 7, 3, (92, 0, 0, 0)), nn, nn, some (.iconst 1, 1, (0, 0, 0, 0)), some (.goto 4, 3, (93, 0, 0, 0)), nn, nn, some (.iconst 0, 1, (0, 0, 0, 0)), some (.ireturn, 1, (0, 0, 0, 0)), some (.iload_n 2, 1, (0, 0, 0, 0)), some (.aload_n 0, 1, (0, 0, 0, 0))],
 [some (.getfield 50, 3, (1, 3, 11, 0)), nn, nn, some (.if_icmp .lt 21, 3, (120, 0, 0, 0)), nn, nn, some (.iload_n 2, 1, (0, 0, 0, 0)), some (.bipush 9, 2, (0, 0, 0, 0)), nn, some (.if_icmp .gt 15, 3, (120, 0, 0, 0)), nn, nn, some (.aload_n 0, 1, (0, 0, 0, 0)), some (.iload_n 2, 1, (0, 0, 0, 0)), some (.invokevirtual 53, 3, (18, 2, 30, 0))],
 [nn, some (.ifCond .eq 7, 3, (120, 0, 0, 0)), nn, nn, some (.iconst 1, 1, (0, 0, 0, 0)), some (.goto 4, 3, (121, 0, 0, 0)), nn, nn, some (.iconst 0, 1, (0, 0, 0, 0)), some (.ireturn, 1, (0, 0, 0, 0))]]
def pX1_takesKind : List (List (Option En)) := [[some (.iload_n 1, 1, (0, 0, 0, 0)), some (.lookupswitch 104 #[(65, 72), (66, 61), (68, 94), (83, 51), (85, 83)], 51, (0, 0, 0, 0))],
 [],
 [],
 [nn, nn, nn, nn, some (.aload_n 0, 1, (0, 0, 0, 0)), some (.iconst 0, 1, (0, 0, 0, 0)), some (.bipush 24, 2, (0, 0, 0, 0)), nn, some (.iconst 1, 1, (0, 0, 0, 0)), some (.iconst 1, 1, (0, 0, 0, 0)), some (.invokevirtual 56, 3, (15, 5, 24, 0)), nn, nn, some (.ireturn, 1, (0, 0, 0, 0)), some (.aload_n 0, 1, (0, 0, 0, 0)), some (.bipush 24, 2, (0, 0, 0, 0))],
 [nn, some (.bipush 6, 2, (0, 0, 0, 0)), nn, some (.iconst 1, 1, (0, 0, 0, 0)), some (.iconst 1, 1, (0, 0, 0, 0)), some (.invokevirtual 56, 3, (15, 5, 24, 0)), nn, nn, some (.ireturn, 1, (0, 0, 0, 0)), some (.aload_n 0, 1, (0, 0, 0, 0)), some (.bipush 30, 2, (0, 0, 0, 0)), nn, some (.bipush 6, 2, (0, 0, 0, 0)), nn, some (.iconst 0, 1, (0, 0, 0, 0)), some (.iconst 1, 1, (0, 0, 0, 0))],
 [some (.invokevirtual 56, 3, (15, 5, 24, 0)), nn, nn, some (.ireturn, 1, (0, 0, 0, 0)), some (.aload_n 0, 1, (0, 0, 0, 0)), some (.bipush 36, 2, (0, 0, 0, 0)), nn, some (.bipush 6, 2, (0, 0, 0, 0)), nn, some (.iconst 0, 1, (0, 0, 0, 0)), some (.iconst 1, 1, (0, 0, 0, 0)), some (.invokevirtual 56, 3, (15, 5, 24, 0)), nn, nn, some (.ireturn, 1, (0, 0, 0, 0)), some (.aload_n 0, 1, (0, 0, 0, 0))],
 [some (.bipush 42, 2, (0, 0, 0, 0)), nn, some (.iconst 4, 1, (0, 0, 0, 0)), some (.iconst 0, 1, (0, 0, 0, 0)), some (.iconst 2, 1, (0, 0, 0, 0)), some (.invokevirtual 56, 3, (15, 5, 24, 0)), nn, nn, some (.ireturn, 1, (0, 0, 0, 0)), some (.iconst 0, 1, (0, 0, 0, 0)), some (.ireturn, 1, (0, 0, 0, 0))]]
def pX1_begins : List (List (Option En)) := [[some (.aload_n 0, 1, (0, 0, 0, 0)), some (.iload_n 1, 1, (0, 0, 0, 0)), some (.putfield 44, 3, (1, 2, 10, 0)), nn, nn, some (.aload_n 0, 1, (0, 0, 0, 0)), some (.iload_n 3, 1, (0, 0, 0, 0)), some (.putfield 50, 3, (1, 3, 11, 0)), nn, nn, some (.aload_n 0, 1, (0, 0, 0, 0)), some (.iload 4, 2, (0, 0, 0, 0)), nn, some (.putfield 21, 3, (1, 1, 9, 0))],
 [some (.aload_n 0, 1, (0, 0, 0, 0)), some (.getfield 12, 3, (1, 0, 8, 0)), nn, nn, some (.iload_n 1, 1, (0, 0, 0, 0)), some (.iload_n 2, 1, (0, 0, 0, 0)), some (.invokevirtual 60, 3, (48, 3, 25, 0)), nn, nn, some (.ifCond .ne 7, 3, (32, 0, 0, 0)), nn, nn, some (.iconst 1, 1, (0, 0, 0, 0)), some (.goto 4, 3, (33, 0, 0, 0))],
 [some (.iconst 0, 1, (0, 0, 0, 0)), some (.ireturn, 1, (0, 0, 0, 0))]]
def pX1_takesSort : List (List (Option En)) := [[some (.aload_n 0, 1, (0, 0, 0, 0)), some (.getfield 44, 3, (1, 2, 10, 0)), nn, nn, some (.ifCond .eq 14, 3, (18, 0, 0, 0)), nn, nn, some (.aload_n 0, 1, (0, 0, 0, 0)), some (.aload_n 0, 1, (0, 0, 0, 0)), some (.getfield 44, 3, (1, 2, 10, 0)), nn, nn, some (.iload_n 1, 1, (0, 0, 0, 0)), some (.iadd, 1, (0, 0, 0, 0)), some (.invokevirtual 47, 3, (17, 2, 28, 0))],
 [nn, some (.ireturn, 1, (0, 0, 0, 0)), some (.aload_n 0, 1, (0, 0, 0, 0)), some (.iconst 0, 1, (0, 0, 0, 0)), some (.iload_n 1, 1, (0, 0, 0, 0)), some (.iconst 4, 1, (0, 0, 0, 0)), some (.imul, 1, (0, 0, 0, 0)), some (.iadd, 1, (0, 0, 0, 0)), some (.putfield 44, 3, (1, 2, 10, 0)), nn, nn, some (.aload_n 0, 1, (0, 0, 0, 0)), some (.iconst 2, 1, (0, 0, 0, 0)), some (.putfield 21, 3, (1, 1, 9, 0))],
 [some (.aload_n 0, 1, (0, 0, 0, 0)), some (.getfield 12, 3, (1, 0, 8, 0)), nn, nn, some (.aload_n 0, 1, (0, 0, 0, 0)), some (.getfield 44, 3, (1, 2, 10, 0)), nn, nn, some (.iconst 4, 1, (0, 0, 0, 0)), some (.invokevirtual 60, 3, (48, 3, 25, 0)), nn, nn, some (.ifCond .ne 7, 3, (51, 0, 0, 0)), nn, nn, some (.iconst 1, 1, (0, 0, 0, 0))],
 [some (.goto 4, 3, (52, 0, 0, 0)), nn, nn, some (.iconst 0, 1, (0, 0, 0, 0)), some (.ireturn, 1, (0, 0, 0, 0))]]
def pX1_takesKey : List (List (Option En)) := [[some (.aload_n 0, 1, (0, 0, 0, 0)), some (.iload_n 1, 1, (0, 0, 0, 0)), some (.putfield 44, 3, (1, 2, 10, 0)), nn, nn, some (.aload_n 0, 1, (0, 0, 0, 0)), some (.iconst 3, 1, (0, 0, 0, 0)), some (.putfield 21, 3, (1, 1, 9, 0)), nn, nn, some (.aload_n 0, 1, (0, 0, 0, 0)), some (.getfield 12, 3, (1, 0, 8, 0)), nn, nn, some (.iload_n 1, 1, (0, 0, 0, 0)), some (.invokevirtual 64, 3, (47, 2, 29, 0))],
 [nn, nn, some (.ifCond .ne 7, 3, (25, 0, 0, 0)), nn, nn, some (.iconst 1, 1, (0, 0, 0, 0)), some (.goto 4, 3, (26, 0, 0, 0)), nn, nn, some (.iconst 0, 1, (0, 0, 0, 0)), some (.ireturn, 1, (0, 0, 0, 0))]]
def pX1_takesNumber : List (List (Option En)) := [[some (.aload_n 0, 1, (0, 0, 0, 0)), some (.getfield 12, 3, (1, 0, 8, 0)), nn, nn, some (.aload_n 0, 1, (0, 0, 0, 0)), some (.getfield 44, 3, (1, 2, 10, 0)), nn, nn, some (.iload_n 1, 1, (0, 0, 0, 0)), some (.invokevirtual 67, 3, (46, 3, 31, 0)), nn, nn, some (.aload_n 0, 1, (0, 0, 0, 0)), some (.iconst 0, 1, (0, 0, 0, 0)), some (.putfield 21, 3, (1, 1, 9, 0))],
 [nn, some (.iconst 1, 1, (0, 0, 0, 0)), some (.ireturn, 1, (0, 0, 0, 0))]]
def pX2_init : List (List (Option En)) := [[some (.aload_n 0, 1, (0, 0, 0, 0)), some (.invokespecial 3, 3, (1000, 1, 11, 4)), nn, nn, some (.aload_n 0, 1, (0, 0, 0, 0)), some (.bipush 48, 2, (0, 0, 0, 0)), nn, some (.newarray .int, 2, (0, 0, 0, 0)), nn, some (.putfield 9, 3, (2, 0, 12, 0)), nn, nn, some (.aload_n 0, 1, (0, 0, 0, 0)), some (.bipush 7, 2, (0, 0, 0, 0)), nn, some (.newarray .int, 2, (0, 0, 0, 0))],
 [nn, some (.putfield 15, 3, (2, 2, 15, 0)), nn, nn, some (.return_, 1, (0, 0, 0, 0))]]
def pX2_add : List (List (Option En)) := [[some (.aload_n 0, 1, (0, 0, 0, 0)), some (.getfield 9, 3, (2, 0, 12, 0)), nn, nn, some (.aload_n 0, 1, (0, 0, 0, 0)), some (.getfield 18, 3, (2, 1, 13, 0)), nn, nn, some (.iload_n 1, 1, (0, 0, 0, 0)), some (.iastore, 1, (0, 0, 0, 0)), some (.aload_n 0, 1, (0, 0, 0, 0)), some (.dup, 1, (0, 0, 0, 0)), some (.getfield 18, 3, (2, 1, 13, 0)), nn, nn, some (.iconst 1, 1, (0, 0, 0, 0))],
 [some (.iadd, 1, (0, 0, 0, 0)), some (.putfield 18, 3, (2, 1, 13, 0)), nn, nn, some (.return_, 1, (0, 0, 0, 0))]]
def pX2_countInto : List (List (Option En)) := [[some (.iconst 0, 1, (0, 0, 0, 0)), some (.istore_n 2, 1, (0, 0, 0, 0)), some (.iload_n 2, 1, (0, 0, 0, 0)), some (.bipush 6, 2, (0, 0, 0, 0)), nn, some (.if_icmp .gt 13, 3, (18, 0, 0, 0)), nn, nn, some (.aload_n 1, 1, (0, 0, 0, 0)), some (.iload_n 2, 1, (0, 0, 0, 0)), some (.iconst 0, 1, (0, 0, 0, 0)), some (.iastore, 1, (0, 0, 0, 0)), some (.iinc 2 1, 3, (0, 0, 0, 0)), nn, nn, some (.goto (-13), 3, (2, 0, 0, 0))],
 [nn, nn, some (.iconst 0, 1, (0, 0, 0, 0)), some (.istore_n 2, 1, (0, 0, 0, 0)), some (.iload_n 2, 1, (0, 0, 0, 0)), some (.aload_n 0, 1, (0, 0, 0, 0)), some (.getfield 18, 3, (2, 1, 13, 0)), nn, nn, some (.if_icmp .ge 21, 3, (46, 0, 0, 0)), nn, nn, some (.aload_n 1, 1, (0, 0, 0, 0)), some (.aload_n 0, 1, (0, 0, 0, 0)), some (.getfield 9, 3, (2, 0, 12, 0))],
 [nn, some (.iload_n 2, 1, (0, 0, 0, 0)), some (.iaload, 1, (0, 0, 0, 0)), some (.dup2, 1, (0, 0, 0, 0)), some (.iaload, 1, (0, 0, 0, 0)), some (.iconst 1, 1, (0, 0, 0, 0)), some (.iadd, 1, (0, 0, 0, 0)), some (.iastore, 1, (0, 0, 0, 0)), some (.iinc 2 1, 3, (0, 0, 0, 0)), nn, nn, some (.goto (-23), 3, (20, 0, 0, 0)), nn, nn, some (.return_, 1, (0, 0, 0, 0))]]
def pX2_stopBy : List (List (Option En)) := [[some (.aload_n 0, 1, (0, 0, 0, 0)), some (.invokevirtual 22, 3, (23, 1, 87, 0)), nn, nn, some (.iconst 0, 1, (0, 0, 0, 0)), some (.istore_n 3, 1, (0, 0, 0, 0)), some (.iload_n 3, 1, (0, 0, 0, 0)), some (.aload_n 0, 1, (0, 0, 0, 0)), some (.getfield 18, 3, (2, 1, 13, 0)), nn, nn, some (.if_icmp .ge 32, 3, (43, 0, 0, 0)), nn, nn, some (.aload_n 0, 1, (0, 0, 0, 0)), some (.aload_n 0, 1, (0, 0, 0, 0))],
 [some (.getfield 9, 3, (2, 0, 12, 0)), nn, nn, some (.iload_n 3, 1, (0, 0, 0, 0)), some (.iaload, 1, (0, 0, 0, 0)), some (.invokevirtual 25, 3, (24, 2, 88, 0)), nn, nn, some (.aload_n 0, 1, (0, 0, 0, 0)), some (.iload_n 1, 1, (0, 0, 0, 0)), some (.invokevirtual 29, 3, (25, 2, 89, 0)), nn, nn, some (.iload_n 2, 1, (0, 0, 0, 0)), some (.if_icmp .lt 7, 3, (37, 0, 0, 0))],
 [nn, some (.iload_n 3, 1, (0, 0, 0, 0)), some (.iconst 1, 1, (0, 0, 0, 0)), some (.iadd, 1, (0, 0, 0, 0)), some (.ireturn, 1, (0, 0, 0, 0)), some (.iinc 3 1, 3, (0, 0, 0, 0)), nn, nn, some (.goto (-34), 3, (6, 0, 0, 0)), nn, nn, some (.bipush (-9), 2, (0, 0, 0, 0)), nn, some (.ireturn, 1, (0, 0, 0, 0))]]
def pX2_lookAtNone : List (List (Option En)) := [[some (.aload_n 0, 1, (0, 0, 0, 0)), some (.iconst 0, 1, (0, 0, 0, 0)), some (.putfield 33, 3, (2, 3, 16, 0)), nn, nn, some (.aload_n 0, 1, (0, 0, 0, 0)), some (.iconst 0, 1, (0, 0, 0, 0)), some (.putfield 36, 3, (2, 4, 17, 0)), nn, nn, some (.iconst 0, 1, (0, 0, 0, 0)), some (.istore_n 1, 1, (0, 0, 0, 0)), some (.iload_n 1, 1, (0, 0, 0, 0)), some (.bipush 6, 2, (0, 0, 0, 0)), nn, some (.if_icmp .gt 16, 3, (31, 0, 0, 0))],
 [nn, nn, some (.aload_n 0, 1, (0, 0, 0, 0)), some (.getfield 15, 3, (2, 2, 15, 0)), nn, nn, some (.iload_n 1, 1, (0, 0, 0, 0)), some (.iconst 0, 1, (0, 0, 0, 0)), some (.iastore, 1, (0, 0, 0, 0)), some (.iinc 1 1, 3, (0, 0, 0, 0)), nn, nn, some (.goto (-16), 3, (12, 0, 0, 0)), nn, nn, some (.return_, 1, (0, 0, 0, 0))]]
def pX2_lookAt : List (List (Option En)) := [[some (.iload_n 1, 1, (0, 0, 0, 0)), some (.bipush 6, 2, (0, 0, 0, 0)), nn, some (.if_icmp .eq 16, 3, (19, 0, 0, 0)), nn, nn, some (.aload_n 0, 1, (0, 0, 0, 0)), some (.getfield 15, 3, (2, 2, 15, 0)), nn, nn, some (.iload_n 1, 1, (0, 0, 0, 0)), some (.iaload, 1, (0, 0, 0, 0)), some (.ifCond .ne 7, 3, (19, 0, 0, 0)), nn, nn, some (.iconst 1, 1, (0, 0, 0, 0))],
 [some (.goto 4, 3, (20, 0, 0, 0)), nn, nn, some (.iconst 0, 1, (0, 0, 0, 0)), some (.istore_n 2, 1, (0, 0, 0, 0)), some (.aload_n 0, 1, (0, 0, 0, 0)), some (.iload_n 2, 1, (0, 0, 0, 0)), some (.ifCond .eq 7, 3, (30, 0, 0, 0)), nn, nn, some (.iconst 0, 1, (0, 0, 0, 0)), some (.goto 9, 3, (36, 0, 0, 0)), nn, nn, some (.aload_n 0, 1, (0, 0, 0, 0)), some (.getfield 33, 3, (2, 3, 16, 0))],
 [nn, nn, some (.iconst 1, 1, (0, 0, 0, 0)), some (.iadd, 1, (0, 0, 0, 0)), some (.putfield 33, 3, (2, 3, 16, 0)), nn, nn, some (.iload_n 1, 1, (0, 0, 0, 0)), some (.bipush 6, 2, (0, 0, 0, 0)), nn, some (.if_icmp .eq 13, 3, (55, 0, 0, 0)), nn, nn, some (.aload_n 0, 1, (0, 0, 0, 0)), some (.dup, 1, (0, 0, 0, 0)), some (.getfield 36, 3, (2, 4, 17, 0))],
 [nn, nn, some (.iconst 1, 1, (0, 0, 0, 0)), some (.iadd, 1, (0, 0, 0, 0)), some (.putfield 36, 3, (2, 4, 17, 0)), nn, nn, some (.aload_n 0, 1, (0, 0, 0, 0)), some (.getfield 15, 3, (2, 2, 15, 0)), nn, nn, some (.iload_n 1, 1, (0, 0, 0, 0)), some (.dup2, 1, (0, 0, 0, 0)), some (.iaload, 1, (0, 0, 0, 0)), some (.iconst 1, 1, (0, 0, 0, 0)), some (.iadd, 1, (0, 0, 0, 0))],
 [some (.iastore, 1, (0, 0, 0, 0)), some (.return_, 1, (0, 0, 0, 0))]]
def pX2_reachedBy : List (List (Option En)) := [[some (.iload_n 1, 1, (0, 0, 0, 0)), some (.lookupswitch 37 #[(0, 27), (1, 32)], 27, (0, 0, 0, 0))],
 [nn, nn, nn, nn, nn, nn, nn, nn, nn, nn, nn, nn, some (.aload_n 0, 1, (0, 0, 0, 0)), some (.getfield 33, 3, (2, 3, 16, 0))],
 [some (.ireturn, 1, (0, 0, 0, 0)), some (.aload_n 0, 1, (0, 0, 0, 0)), some (.getfield 36, 3, (2, 4, 17, 0)), nn, nn, some (.ireturn, 1, (0, 0, 0, 0)), some (.aload_n 0, 1, (0, 0, 0, 0)), some (.invokevirtual 39, 3, (26, 1, 90, 0)), nn, nn, some (.ireturn, 1, (0, 0, 0, 0))]]
def pX2_mostLessNext : List (List (Option En)) := [[some (.iconst 0, 1, (0, 0, 0, 0)), some (.istore_n 1, 1, (0, 0, 0, 0)), some (.iconst 0, 1, (0, 0, 0, 0)), some (.istore_n 2, 1, (0, 0, 0, 0)), some (.iconst 0, 1, (0, 0, 0, 0)), some (.istore_n 3, 1, (0, 0, 0, 0)), some (.iload_n 3, 1, (0, 0, 0, 0)), some (.bipush 6, 2, (0, 0, 0, 0)), nn, some (.if_icmp .ge 48, 3, (57, 0, 0, 0)), nn, nn, some (.aload_n 0, 1, (0, 0, 0, 0)), some (.getfield 15, 3, (2, 2, 15, 0))],
 [some (.iload_n 3, 1, (0, 0, 0, 0)), some (.iaload, 1, (0, 0, 0, 0)), some (.iload_n 1, 1, (0, 0, 0, 0)), some (.if_icmp .le 15, 3, (34, 0, 0, 0)), nn, nn, some (.iload_n 1, 1, (0, 0, 0, 0)), some (.istore_n 2, 1, (0, 0, 0, 0)), some (.aload_n 0, 1, (0, 0, 0, 0)), some (.getfield 15, 3, (2, 2, 15, 0)), nn, nn, some (.iload_n 3, 1, (0, 0, 0, 0)), some (.iaload, 1, (0, 0, 0, 0)), some (.istore_n 1, 1, (0, 0, 0, 0)), some (.goto 20, 3, (51, 0, 0, 0))],
 [nn, nn, some (.aload_n 0, 1, (0, 0, 0, 0)), some (.getfield 15, 3, (2, 2, 15, 0)), nn, nn, some (.iload_n 3, 1, (0, 0, 0, 0)), some (.iaload, 1, (0, 0, 0, 0)), some (.iload_n 2, 1, (0, 0, 0, 0)), some (.if_icmp .le 10, 3, (51, 0, 0, 0)), nn, nn, some (.aload_n 0, 1, (0, 0, 0, 0)), some (.getfield 15, 3, (2, 2, 15, 0))],
 [some (.iload_n 3, 1, (0, 0, 0, 0)), some (.iaload, 1, (0, 0, 0, 0)), some (.istore_n 2, 1, (0, 0, 0, 0)), some (.iinc 3 1, 3, (0, 0, 0, 0)), nn, nn, some (.goto (-48), 3, (6, 0, 0, 0)), nn, nn, some (.iload_n 1, 1, (0, 0, 0, 0)), some (.iload_n 2, 1, (0, 0, 0, 0)), some (.isub, 1, (0, 0, 0, 0)), some (.ireturn, 1, (0, 0, 0, 0))]]
def pX2_sortsOnlyBehind : List (List (Option En)) := [[some (.iconst 0, 1, (0, 0, 0, 0)), some (.istore_n 2, 1, (0, 0, 0, 0)), some (.iload_n 1, 1, (0, 0, 0, 0)), some (.istore_n 3, 1, (0, 0, 0, 0)), some (.iload_n 3, 1, (0, 0, 0, 0)), some (.aload_n 0, 1, (0, 0, 0, 0)), some (.getfield 18, 3, (2, 1, 13, 0)), nn, nn, some (.if_icmp .ge 41, 3, (50, 0, 0, 0)), nn, nn, some (.aload_n 0, 1, (0, 0, 0, 0)), some (.getfield 9, 3, (2, 0, 12, 0))],
 [some (.iload_n 3, 1, (0, 0, 0, 0)), some (.iaload, 1, (0, 0, 0, 0)), some (.istore 4, 2, (0, 0, 0, 0)), nn, some (.iload 4, 2, (0, 0, 0, 0)), nn, some (.bipush 6, 2, (0, 0, 0, 0)), nn, some (.if_icmp .eq 20, 3, (44, 0, 0, 0)), nn, nn, some (.aload_n 0, 1, (0, 0, 0, 0)), some (.getfield 15, 3, (2, 2, 15, 0)), nn, nn, some (.iload 4, 2, (0, 0, 0, 0))],
 [nn, some (.iaload, 1, (0, 0, 0, 0)), some (.ifCond .ne 10, 3, (44, 0, 0, 0)), nn, nn, some (.iload_n 2, 1, (0, 0, 0, 0)), some (.iconst 1, 1, (0, 0, 0, 0)), some (.iload 4, 2, (0, 0, 0, 0)), nn, some (.ishl, 1, (0, 0, 0, 0)), some (.ior, 1, (0, 0, 0, 0)), some (.istore_n 2, 1, (0, 0, 0, 0)), some (.iinc 3 1, 3, (0, 0, 0, 0)), nn, nn, some (.goto (-43), 3, (4, 0, 0, 0))],
 [nn, nn, some (.iload_n 2, 1, (0, 0, 0, 0)), some (.ireturn, 1, (0, 0, 0, 0))]]
def pX3_init : List (List (Option En)) := [[some (.aload_n 0, 1, (0, 0, 0, 0)), some (.invokespecial 3, 3, (1000, 1, 3, 4)), nn, nn, some (.aload_n 0, 1, (0, 0, 0, 0)), some (.bipush 64, 2, (0, 0, 0, 0)), nn, some (.newarray .byte, 2, (1, 0, 0, 0)), nn, some (.putfield 9, 3, (3, 0, 0, 0)), nn, nn, some (.return_, 1, (0, 0, 0, 0))]]
def pX3_append : List (List (Option En)) := [[some (.iload_n 1, 1, (0, 0, 0, 0)), some (.iconst 1, 1, (0, 0, 0, 0)), some (.isub, 1, (0, 0, 0, 0)), some (.istore 4, 2, (0, 0, 0, 0)), nn, some (.iload 4, 2, (0, 0, 0, 0)), nn, some (.ifCond .lt 46, 3, (53, 0, 0, 0)), nn, nn, some (.aload_n 0, 1, (0, 0, 0, 0)), some (.getfield 15, 3, (3, 1, 2, 0)), nn, nn, some (.bipush 64, 2, (0, 0, 0, 0))],
 [some (.if_icmp .ge 37, 3, (53, 0, 0, 0)), nn, nn, some (.aload_n 0, 1, (0, 0, 0, 0)), some (.getfield 9, 3, (3, 0, 0, 0)), nn, nn, some (.aload_n 0, 1, (0, 0, 0, 0)), some (.getfield 15, 3, (3, 1, 2, 0)), nn, nn, some (.lload_n 2, 1, (0, 0, 0, 0)), some (.bipush 8, 2, (0, 0, 0, 0)), nn, some (.iload 4, 2, (0, 0, 0, 0))],
 [some (.imul, 1, (0, 0, 0, 0)), some (.lushr, 1, (0, 0, 0, 0)), some (.l2i, 1, (0, 0, 0, 0)), some (.i2b, 1, (0, 0, 0, 0)), some (.bastore, 1, (0, 0, 0, 0)), some (.aload_n 0, 1, (0, 0, 0, 0)), some (.dup, 1, (0, 0, 0, 0)), some (.getfield 15, 3, (3, 1, 2, 0)), nn, nn, some (.iconst 1, 1, (0, 0, 0, 0)), some (.iadd, 1, (0, 0, 0, 0)), some (.putfield 15, 3, (3, 1, 2, 0)), nn, nn, some (.iinc 4 (-1), 3, (0, 0, 0, 0))],
 [nn, nn, some (.goto (-45), 3, (5, 0, 0, 0)), nn, nn, some (.return_, 1, (0, 0, 0, 0))]]
def pX4_init : List (List (Option En)) := [[some (.aload_n 0, 1, (0, 0, 0, 0)), some (.invokespecial 3, 3, (1000, 1, 15, 4)), nn, nn, some (.aload_n 0, 1, (0, 0, 0, 0)), some (.iconst 0, 1, (0, 0, 0, 0)), some (.putfield 9, 3, (4, 0, 33, 0)), nn, nn, some (.aload_n 0, 1, (0, 0, 0, 0)), some (.bipush 10, 2, (0, 0, 0, 0)), nn, some (.putfield 15, 3, (4, 1, 35, 0)), nn, nn, some (.aload_n 0, 1, (0, 0, 0, 0))],
 [some (.bipush (-9), 2, (0, 0, 0, 0)), nn, some (.putfield 18, 3, (4, 2, 37, 0)), nn, nn, some (.aload_n 0, 1, (0, 0, 0, 0)), some (.bipush (-9), 2, (0, 0, 0, 0)), nn, some (.putfield 21, 3, (4, 3, 39, 0)), nn, nn, some (.aload_n 0, 1, (0, 0, 0, 0)), some (.bipush 6, 2, (0, 0, 0, 0)), nn, some (.iconst 4, 1, (0, 0, 0, 0)), some (.multianewarray 24 2, 4, (6, 0, 3, 0))],
 [nn, nn, nn, some (.putfield 26, 3, (4, 4, 41, 0)), nn, nn, some (.aload_n 0, 1, (0, 0, 0, 0)), some (.bipush 6, 2, (0, 0, 0, 0)), nn, some (.newarray .int, 2, (0, 0, 0, 0)), nn, some (.putfield 29, 3, (4, 5, 43, 0)), nn, nn, some (.aload_n 0, 1, (0, 0, 0, 0)), some (.bipush 6, 2, (0, 0, 0, 0))],
 [nn, some (.newarray .int, 2, (0, 0, 0, 0)), nn, some (.putfield 33, 3, (4, 6, 45, 0)), nn, nn, some (.aload_n 0, 1, (0, 0, 0, 0)), some (.bipush 6, 2, (0, 0, 0, 0)), nn, some (.newarray .int, 2, (0, 0, 0, 0)), nn, some (.putfield 36, 3, (4, 7, 47, 0)), nn, nn, some (.return_, 1, (0, 0, 0, 0))]]
def pX4_become : List (List (Option En)) := [[some (.aload_n 0, 1, (0, 0, 0, 0)), some (.iload_n 1, 1, (0, 0, 0, 0)), some (.putfield 9, 3, (4, 0, 33, 0)), nn, nn, some (.aload_n 0, 1, (0, 0, 0, 0)), some (.iload_n 2, 1, (0, 0, 0, 0)), some (.putfield 15, 3, (4, 1, 35, 0)), nn, nn, some (.aload_n 0, 1, (0, 0, 0, 0)), some (.iload_n 3, 1, (0, 0, 0, 0)), some (.putfield 18, 3, (4, 2, 37, 0)), nn, nn, some (.aload_n 0, 1, (0, 0, 0, 0))],
 [some (.iload 4, 2, (0, 0, 0, 0)), nn, some (.putfield 21, 3, (4, 3, 39, 0)), nn, nn, some (.return_, 1, (0, 0, 0, 0))]]
def pX4_goIn : List (List (Option En)) := [[some (.aload_n 0, 1, (0, 0, 0, 0)), some (.invokevirtual 39, 3, (33, 1, 35, 0)), nn, nn, some (.aload_n 0, 1, (0, 0, 0, 0)), some (.getfield 18, 3, (4, 2, 37, 0)), nn, nn, some (.bipush (-9), 2, (0, 0, 0, 0)), nn, some (.if_icmp .eq 19, 3, (29, 0, 0, 0)), nn, nn, some (.aload_n 0, 1, (0, 0, 0, 0)), some (.getfield 18, 3, (4, 2, 37, 0))],
 [nn, some (.aload_n 0, 1, (0, 0, 0, 0)), some (.getfield 21, 3, (4, 3, 39, 0)), nn, nn, some (.if_icmp .eq 8, 3, (29, 0, 0, 0)), nn, nn, some (.aload_n 0, 1, (0, 0, 0, 0)), some (.aload_n 1, 1, (0, 0, 0, 0)), some (.invokevirtual 42, 3, (34, 2, 36, 0)), nn, nn, some (.aload_n 0, 1, (0, 0, 0, 0)), some (.aload_n 1, 1, (0, 0, 0, 0)), some (.invokevirtual 46, 3, (35, 2, 41, 0))],
 [nn, nn, some (.aload_n 0, 1, (0, 0, 0, 0)), some (.aload_n 1, 1, (0, 0, 0, 0)), some (.invokevirtual 49, 3, (38, 2, 44, 0)), nn, nn, some (.return_, 1, (0, 0, 0, 0))]]
def pX4_takeNothing : List (List (Option En)) := [[some (.aload_n 0, 1, (0, 0, 0, 0)), some (.iconst 0, 1, (0, 0, 0, 0)), some (.putfield 52, 3, (4, 10, 53, 0)), nn, nn, some (.iconst 0, 1, (0, 0, 0, 0)), some (.istore_n 1, 1, (0, 0, 0, 0)), some (.iload_n 1, 1, (0, 0, 0, 0)), some (.bipush 6, 2, (0, 0, 0, 0)), nn, some (.if_icmp .ge 31, 3, (41, 0, 0, 0)), nn, nn, some (.iconst 0, 1, (0, 0, 0, 0)), some (.istore_n 2, 1, (0, 0, 0, 0)), some (.iload_n 2, 1, (0, 0, 0, 0))],
 [some (.iconst 4, 1, (0, 0, 0, 0)), some (.if_icmp .ge 18, 3, (35, 0, 0, 0)), nn, nn, some (.aload_n 0, 1, (0, 0, 0, 0)), some (.getfield 26, 3, (4, 4, 41, 0)), nn, nn, some (.iload_n 1, 1, (0, 0, 0, 0)), some (.aaload, 1, (0, 0, 0, 0)), some (.iload_n 2, 1, (0, 0, 0, 0)), some (.iconst 0, 1, (0, 0, 0, 0)), some (.iastore, 1, (0, 0, 0, 0)), some (.iinc 2 1, 3, (0, 0, 0, 0))],
 [some (.goto (-17), 3, (15, 0, 0, 0)), nn, nn, some (.iinc 1 1, 3, (0, 0, 0, 0)), nn, nn, some (.goto (-31), 3, (7, 0, 0, 0)), nn, nn, some (.return_, 1, (0, 0, 0, 0))]]
def pX4_takeLiked : List (List (Option En)) := [[some (.iconst 0, 1, (0, 0, 0, 0)), some (.istore_n 2, 1, (0, 0, 0, 0)), some (.iload_n 2, 1, (0, 0, 0, 0)), some (.aload_n 0, 1, (0, 0, 0, 0)), some (.getfield 9, 3, (4, 0, 33, 0)), nn, nn, some (.if_icmp .gt 78, 3, (85, 0, 0, 0)), nn, nn, some (.iconst 0, 1, (0, 0, 0, 0)), some (.istore_n 3, 1, (0, 0, 0, 0)), some (.iload_n 3, 1, (0, 0, 0, 0)), some (.iconst 4, 1, (0, 0, 0, 0)), some (.if_icmp .ge 65, 3, (79, 0, 0, 0))],
 [nn, some (.aload_n 1, 1, (0, 0, 0, 0)), some (.iload_n 3, 1, (0, 0, 0, 0)), some (.invokevirtual 55, 3, (54, 2, 37, 0)), nn, nn, some (.iload_n 2, 1, (0, 0, 0, 0)), some (.if_icmp .ne 50, 3, (73, 0, 0, 0)), nn, nn, some (.aload_n 1, 1, (0, 0, 0, 0)), some (.aload_n 0, 1, (0, 0, 0, 0)), some (.getfield 18, 3, (4, 2, 37, 0)), nn, nn, some (.iload_n 3, 1, (0, 0, 0, 0))],
 [some (.invokevirtual 61, 3, (50, 3, 39, 0)), nn, nn, some (.aload_n 0, 1, (0, 0, 0, 0)), some (.getfield 15, 3, (4, 1, 35, 0)), nn, nn, some (.aload_n 0, 1, (0, 0, 0, 0)), some (.getfield 52, 3, (4, 10, 53, 0)), nn, nn, some (.isub, 1, (0, 0, 0, 0)), some (.invokestatic 65, 3, (1002, 2, 40, 6)), nn, nn, some (.istore 4, 2, (0, 0, 0, 0))],
 [nn, some (.aload_n 0, 1, (0, 0, 0, 0)), some (.getfield 26, 3, (4, 4, 41, 0)), nn, nn, some (.aload_n 0, 1, (0, 0, 0, 0)), some (.getfield 18, 3, (4, 2, 37, 0)), nn, nn, some (.aaload, 1, (0, 0, 0, 0)), some (.iload_n 3, 1, (0, 0, 0, 0)), some (.iload 4, 2, (0, 0, 0, 0)), nn, some (.iastore, 1, (0, 0, 0, 0)), some (.aload_n 0, 1, (0, 0, 0, 0)), some (.dup, 1, (0, 0, 0, 0))],
 [some (.getfield 52, 3, (4, 10, 53, 0)), nn, nn, some (.iload 4, 2, (0, 0, 0, 0)), nn, some (.iadd, 1, (0, 0, 0, 0)), some (.putfield 52, 3, (4, 10, 53, 0)), nn, nn, some (.iinc 3 1, 3, (0, 0, 0, 0)), nn, nn, some (.goto (-64), 3, (12, 0, 0, 0)), nn, nn, some (.iinc 2 1, 3, (0, 0, 0, 0))],
 [nn, nn, some (.goto (-80), 3, (2, 0, 0, 0)), nn, nn, some (.return_, 1, (0, 0, 0, 0))]]
def pX4_takeOthers : List (List (Option En)) := [[some (.iconst 0, 1, (0, 0, 0, 0)), some (.istore_n 2, 1, (0, 0, 0, 0)), some (.iload_n 2, 1, (0, 0, 0, 0)), some (.aload_n 0, 1, (0, 0, 0, 0)), some (.getfield 9, 3, (4, 0, 33, 0)), nn, nn, some (.if_icmp .gt 37, 3, (44, 0, 0, 0)), nn, nn, some (.iconst 0, 1, (0, 0, 0, 0)), some (.istore_n 3, 1, (0, 0, 0, 0)), some (.iload_n 3, 1, (0, 0, 0, 0)), some (.iconst 4, 1, (0, 0, 0, 0)), some (.if_icmp .ge 24, 3, (38, 0, 0, 0))],
 [nn, some (.aload_n 1, 1, (0, 0, 0, 0)), some (.iload_n 3, 1, (0, 0, 0, 0)), some (.invokevirtual 55, 3, (54, 2, 37, 0)), nn, nn, some (.iload_n 2, 1, (0, 0, 0, 0)), some (.if_icmp .ne 9, 3, (32, 0, 0, 0)), nn, nn, some (.aload_n 0, 1, (0, 0, 0, 0)), some (.aload_n 1, 1, (0, 0, 0, 0)), some (.iload_n 3, 1, (0, 0, 0, 0)), some (.invokevirtual 70, 3, (36, 3, 42, 0))],
 [some (.iinc 3 1, 3, (0, 0, 0, 0)), nn, nn, some (.goto (-23), 3, (12, 0, 0, 0)), nn, nn, some (.iinc 2 1, 3, (0, 0, 0, 0)), nn, nn, some (.goto (-39), 3, (2, 0, 0, 0)), nn, nn, some (.return_, 1, (0, 0, 0, 0))]]
def pX4_takeAt : List (List (Option En)) := [[some (.aload_n 0, 1, (0, 0, 0, 0)), some (.getfield 52, 3, (4, 10, 53, 0)), nn, nn, some (.aload_n 0, 1, (0, 0, 0, 0)), some (.getfield 15, 3, (4, 1, 35, 0)), nn, nn, some (.if_icmp .ge 42, 3, (50, 0, 0, 0)), nn, nn, some (.aload_n 0, 1, (0, 0, 0, 0)), some (.aload_n 1, 1, (0, 0, 0, 0)), some (.iload_n 2, 1, (0, 0, 0, 0)), some (.invokevirtual 74, 3, (37, 3, 43, 0))],
 [nn, some (.istore_n 3, 1, (0, 0, 0, 0)), some (.iload_n 3, 1, (0, 0, 0, 0)), some (.bipush (-9), 2, (0, 0, 0, 0)), nn, some (.if_icmp .ne 4, 3, (25, 0, 0, 0)), nn, nn, some (.return_, 1, (0, 0, 0, 0)), some (.aload_n 0, 1, (0, 0, 0, 0)), some (.getfield 26, 3, (4, 4, 41, 0)), nn, nn, some (.iload_n 3, 1, (0, 0, 0, 0)), some (.aaload, 1, (0, 0, 0, 0)), some (.iload_n 2, 1, (0, 0, 0, 0))],
 [some (.dup2, 1, (0, 0, 0, 0)), some (.iaload, 1, (0, 0, 0, 0)), some (.iconst 1, 1, (0, 0, 0, 0)), some (.iadd, 1, (0, 0, 0, 0)), some (.iastore, 1, (0, 0, 0, 0)), some (.aload_n 0, 1, (0, 0, 0, 0)), some (.dup, 1, (0, 0, 0, 0)), some (.getfield 52, 3, (4, 10, 53, 0)), nn, nn, some (.iconst 1, 1, (0, 0, 0, 0)), some (.iadd, 1, (0, 0, 0, 0)), some (.putfield 52, 3, (4, 10, 53, 0)), nn, nn, some (.goto (-47), 3, (0, 0, 0, 0))],
 [nn, nn, some (.return_, 1, (0, 0, 0, 0))]]
def pX4_sortOfMostLeft : List (List (Option En)) := [[some (.bipush (-9), 2, (0, 0, 0, 0)), nn, some (.istore_n 3, 1, (0, 0, 0, 0)), some (.iconst 0, 1, (0, 0, 0, 0)), some (.istore 4, 2, (0, 0, 0, 0)), nn, some (.iconst 0, 1, (0, 0, 0, 0)), some (.istore 5, 2, (0, 0, 0, 0)), nn, some (.iload 5, 2, (0, 0, 0, 0)), nn, some (.bipush 6, 2, (0, 0, 0, 0)), nn, some (.if_icmp .ge 51, 3, (64, 0, 0, 0))],
 [some (.aload_n 1, 1, (0, 0, 0, 0)), some (.iload 5, 2, (0, 0, 0, 0)), nn, some (.iload_n 2, 1, (0, 0, 0, 0)), some (.invokevirtual 61, 3, (50, 3, 39, 0)), nn, nn, some (.aload_n 0, 1, (0, 0, 0, 0)), some (.getfield 26, 3, (4, 4, 41, 0)), nn, nn, some (.iload 5, 2, (0, 0, 0, 0)), nn, some (.aaload, 1, (0, 0, 0, 0)), some (.iload_n 2, 1, (0, 0, 0, 0)), some (.iaload, 1, (0, 0, 0, 0))],
 [some (.isub, 1, (0, 0, 0, 0)), some (.istore 6, 2, (0, 0, 0, 0)), nn, some (.iload 5, 2, (0, 0, 0, 0)), nn, some (.aload_n 0, 1, (0, 0, 0, 0)), some (.getfield 21, 3, (4, 3, 39, 0)), nn, nn, some (.if_icmp .eq 17, 3, (58, 0, 0, 0)), nn, nn, some (.iload 6, 2, (0, 0, 0, 0)), nn, some (.iload 4, 2, (0, 0, 0, 0))],
 [some (.if_icmp .le 10, 3, (58, 0, 0, 0)), nn, nn, some (.iload 5, 2, (0, 0, 0, 0)), nn, some (.istore_n 3, 1, (0, 0, 0, 0)), some (.iload 6, 2, (0, 0, 0, 0)), nn, some (.istore 4, 2, (0, 0, 0, 0)), nn, some (.iinc 5 1, 3, (0, 0, 0, 0)), nn, nn, some (.goto (-52), 3, (9, 0, 0, 0))],
 [some (.iload_n 3, 1, (0, 0, 0, 0)), some (.ireturn, 1, (0, 0, 0, 0))]]
def pX4_burn : List (List (Option En)) := [[some (.aload_n 0, 1, (0, 0, 0, 0)), some (.iconst 0, 1, (0, 0, 0, 0)), some (.putfield 78, 3, (4, 8, 49, 0)), nn, nn, some (.aload_n 0, 1, (0, 0, 0, 0)), some (.iconst 0, 1, (0, 0, 0, 0)), some (.putfield 81, 3, (4, 9, 51, 0)), nn, nn, some (.iconst 0, 1, (0, 0, 0, 0)), some (.istore_n 2, 1, (0, 0, 0, 0)), some (.iload_n 2, 1, (0, 0, 0, 0)), some (.bipush 6, 2, (0, 0, 0, 0)), nn, some (.if_icmp .ge 107, 3, (122, 0, 0, 0))],
 [nn, nn, some (.aload_n 0, 1, (0, 0, 0, 0)), some (.iload_n 2, 1, (0, 0, 0, 0)), some (.invokevirtual 84, 3, (40, 2, 45, 0)), nn, nn, some (.istore_n 3, 1, (0, 0, 0, 0)), some (.aload_n 0, 1, (0, 0, 0, 0)), some (.getfield 29, 3, (4, 5, 43, 0)), nn, nn, some (.iload_n 2, 1, (0, 0, 0, 0)), some (.iload_n 3, 1, (0, 0, 0, 0)), some (.aload_n 1, 1, (0, 0, 0, 0)), some (.iload_n 2, 1, (0, 0, 0, 0))],
 [some (.invokevirtual 87, 3, (52, 2, 46, 0)), nn, nn, some (.invokestatic 90, 3, (39, 2, 47, 1)), nn, nn, some (.iastore, 1, (0, 0, 0, 0)), some (.aload_n 0, 1, (0, 0, 0, 0)), some (.getfield 33, 3, (4, 6, 45, 0)), nn, nn, some (.iload_n 2, 1, (0, 0, 0, 0)), some (.iload_n 3, 1, (0, 0, 0, 0)), some (.aload_n 0, 1, (0, 0, 0, 0)), some (.getfield 29, 3, (4, 5, 43, 0))],
 [nn, some (.iload_n 2, 1, (0, 0, 0, 0)), some (.iaload, 1, (0, 0, 0, 0)), some (.isub, 1, (0, 0, 0, 0)), some (.aload_n 1, 1, (0, 0, 0, 0)), some (.iload_n 2, 1, (0, 0, 0, 0)), some (.invokevirtual 93, 3, (51, 2, 48, 0)), nn, nn, some (.imul, 1, (0, 0, 0, 0)), some (.iastore, 1, (0, 0, 0, 0)), some (.aload_n 0, 1, (0, 0, 0, 0)), some (.getfield 33, 3, (4, 6, 45, 0)), nn, nn, some (.iload_n 2, 1, (0, 0, 0, 0))],
 [some (.iaload, 1, (0, 0, 0, 0)), some (.aload_n 1, 1, (0, 0, 0, 0)), some (.iload_n 2, 1, (0, 0, 0, 0)), some (.invokevirtual 96, 3, (53, 2, 49, 0)), nn, nn, some (.invokestatic 90, 3, (39, 2, 47, 1)), nn, nn, some (.istore 4, 2, (0, 0, 0, 0)), nn, some (.aload_n 0, 1, (0, 0, 0, 0)), some (.getfield 36, 3, (4, 7, 47, 0)), nn, nn, some (.iload_n 2, 1, (0, 0, 0, 0))],
 [some (.aload_n 0, 1, (0, 0, 0, 0)), some (.getfield 33, 3, (4, 6, 45, 0)), nn, nn, some (.iload_n 2, 1, (0, 0, 0, 0)), some (.iaload, 1, (0, 0, 0, 0)), some (.iload 4, 2, (0, 0, 0, 0)), nn, some (.isub, 1, (0, 0, 0, 0)), some (.iastore, 1, (0, 0, 0, 0)), some (.aload_n 0, 1, (0, 0, 0, 0)), some (.dup, 1, (0, 0, 0, 0)), some (.getfield 78, 3, (4, 8, 49, 0)), nn, nn, some (.aload_n 0, 1, (0, 0, 0, 0))],
 [some (.getfield 36, 3, (4, 7, 47, 0)), nn, nn, some (.iload_n 2, 1, (0, 0, 0, 0)), some (.iaload, 1, (0, 0, 0, 0)), some (.iadd, 1, (0, 0, 0, 0)), some (.putfield 78, 3, (4, 8, 49, 0)), nn, nn, some (.aload_n 0, 1, (0, 0, 0, 0)), some (.dup, 1, (0, 0, 0, 0)), some (.getfield 81, 3, (4, 9, 51, 0)), nn, nn, some (.iload 4, 2, (0, 0, 0, 0))],
 [some (.iadd, 1, (0, 0, 0, 0)), some (.putfield 81, 3, (4, 9, 51, 0)), nn, nn, some (.iinc 2 1, 3, (0, 0, 0, 0)), nn, nn, some (.goto (-107), 3, (12, 0, 0, 0)), nn, nn, some (.return_, 1, (0, 0, 0, 0))]]
def pX4_tenthsOf : List (List (Option En)) := [[some (.iload_n 0, 1, (0, 0, 0, 0)), some (.iload_n 1, 1, (0, 0, 0, 0)), some (.imul, 1, (0, 0, 0, 0)), some (.bipush 9, 2, (0, 0, 0, 0)), nn, some (.iadd, 1, (0, 0, 0, 0)), some (.bipush 10, 2, (0, 0, 0, 0)), nn, some (.idiv, 1, (0, 0, 0, 0)), some (.ireturn, 1, (0, 0, 0, 0))]]
def pX4_piecesTaken : List (List (Option En)) := [[some (.iconst 0, 1, (0, 0, 0, 0)), some (.istore_n 2, 1, (0, 0, 0, 0)), some (.iconst 0, 1, (0, 0, 0, 0)), some (.istore_n 3, 1, (0, 0, 0, 0)), some (.iload_n 3, 1, (0, 0, 0, 0)), some (.iconst 4, 1, (0, 0, 0, 0)), some (.if_icmp .ge 20, 3, (26, 0, 0, 0)), nn, nn, some (.iload_n 2, 1, (0, 0, 0, 0)), some (.aload_n 0, 1, (0, 0, 0, 0)), some (.getfield 26, 3, (4, 4, 41, 0)), nn, nn, some (.iload_n 1, 1, (0, 0, 0, 0)), some (.aaload, 1, (0, 0, 0, 0))],
 [some (.iload_n 3, 1, (0, 0, 0, 0)), some (.iaload, 1, (0, 0, 0, 0)), some (.iadd, 1, (0, 0, 0, 0)), some (.istore_n 2, 1, (0, 0, 0, 0)), some (.iinc 3 1, 3, (0, 0, 0, 0)), nn, nn, some (.goto (-19), 3, (4, 0, 0, 0)), nn, nn, some (.iload_n 2, 1, (0, 0, 0, 0)), some (.ireturn, 1, (0, 0, 0, 0))]]
def pX4_reaches : List (List (Option En)) := [[some (.iconst 0, 1, (0, 0, 0, 0)), some (.istore_n 3, 1, (0, 0, 0, 0)), some (.iload_n 3, 1, (0, 0, 0, 0)), some (.iconst 4, 1, (0, 0, 0, 0)), some (.if_icmp .ge 32, 3, (36, 0, 0, 0)), nn, nn, some (.aload_n 1, 1, (0, 0, 0, 0)), some (.iload_n 3, 1, (0, 0, 0, 0)), some (.invokevirtual 55, 3, (54, 2, 37, 0)), nn, nn, some (.aload_n 0, 1, (0, 0, 0, 0)), some (.getfield 9, 3, (4, 0, 33, 0))],
 [some (.if_icmp .gt 14, 3, (30, 0, 0, 0)), nn, nn, some (.aload_n 1, 1, (0, 0, 0, 0)), some (.iload_n 2, 1, (0, 0, 0, 0)), some (.iload_n 3, 1, (0, 0, 0, 0)), some (.invokevirtual 61, 3, (50, 3, 39, 0)), nn, nn, some (.ifCond .le 5, 3, (30, 0, 0, 0)), nn, nn, some (.iconst 1, 1, (0, 0, 0, 0)), some (.ireturn, 1, (0, 0, 0, 0)), some (.iinc 3 1, 3, (0, 0, 0, 0))],
 [nn, some (.goto (-31), 3, (2, 0, 0, 0)), nn, nn, some (.iconst 0, 1, (0, 0, 0, 0)), some (.ireturn, 1, (0, 0, 0, 0))]]
def pX4_milesWalkedIn : List (List (Option En)) := [[some (.iconst 0, 1, (0, 0, 0, 0)), some (.istore_n 2, 1, (0, 0, 0, 0)), some (.iconst 0, 1, (0, 0, 0, 0)), some (.istore_n 3, 1, (0, 0, 0, 0)), some (.iload_n 3, 1, (0, 0, 0, 0)), some (.iconst 4, 1, (0, 0, 0, 0)), some (.if_icmp .ge 27, 3, (33, 0, 0, 0)), nn, nn, some (.aload_n 0, 1, (0, 0, 0, 0)), some (.iload_n 3, 1, (0, 0, 0, 0)), some (.invokevirtual 99, 3, (43, 2, 70, 0)), nn, nn, some (.ifCond .eq 13, 3, (27, 0, 0, 0))],
 [nn, some (.iload_n 2, 1, (0, 0, 0, 0)), some (.iconst 2, 1, (0, 0, 0, 0)), some (.aload_n 1, 1, (0, 0, 0, 0)), some (.iload_n 3, 1, (0, 0, 0, 0)), some (.invokevirtual 55, 3, (54, 2, 37, 0)), nn, nn, some (.imul, 1, (0, 0, 0, 0)), some (.iadd, 1, (0, 0, 0, 0)), some (.istore_n 2, 1, (0, 0, 0, 0)), some (.iinc 3 1, 3, (0, 0, 0, 0)), nn, nn, some (.goto (-26), 3, (4, 0, 0, 0))],
 [nn, some (.iload_n 2, 1, (0, 0, 0, 0)), some (.ireturn, 1, (0, 0, 0, 0))]]
def pX4_takesAnyAt : List (List (Option En)) := [[some (.iconst 0, 1, (0, 0, 0, 0)), some (.istore_n 2, 1, (0, 0, 0, 0)), some (.iload_n 2, 1, (0, 0, 0, 0)), some (.bipush 6, 2, (0, 0, 0, 0)), nn, some (.if_icmp .ge 22, 3, (27, 0, 0, 0)), nn, nn, some (.aload_n 0, 1, (0, 0, 0, 0)), some (.getfield 26, 3, (4, 4, 41, 0)), nn, nn, some (.iload_n 2, 1, (0, 0, 0, 0)), some (.aaload, 1, (0, 0, 0, 0)), some (.iload_n 1, 1, (0, 0, 0, 0)), some (.iaload, 1, (0, 0, 0, 0))],
 [some (.ifCond .le 5, 3, (21, 0, 0, 0)), nn, nn, some (.iconst 1, 1, (0, 0, 0, 0)), some (.ireturn, 1, (0, 0, 0, 0)), some (.iinc 2 1, 3, (0, 0, 0, 0)), nn, nn, some (.goto (-22), 3, (2, 0, 0, 0)), nn, nn, some (.iconst 0, 1, (0, 0, 0, 0)), some (.ireturn, 1, (0, 0, 0, 0))]]
def pX5_init : List (List (Option En)) := [[some (.aload_n 0, 1, (0, 0, 0, 0)), some (.invokespecial 5, 3, (1000, 1, 7, 4)), nn, nn, some (.aload_n 0, 1, (0, 0, 0, 0)), some (.bipush 46, 2, (0, 0, 0, 0)), nn, some (.newarray .int, 2, (0, 0, 0, 0)), nn, some (.putfield 11, 3, (5, 0, 5, 0)), nn, nn, some (.aload_n 0, 1, (0, 0, 0, 0)), some (.invokevirtual 15, 3, (45, 1, 8, 0))],
 [some (.return_, 1, (0, 0, 0, 0))]]
def pX5_forget : List (List (Option En)) := [[some (.aload_n 0, 1, (0, 0, 0, 0)), some (.iconst 0, 1, (0, 0, 0, 0)), some (.putfield 18, 3, (5, 1, 6, 0)), nn, nn, some (.iconst 0, 1, (0, 0, 0, 0)), some (.istore_n 1, 1, (0, 0, 0, 0)), some (.iload_n 1, 1, (0, 0, 0, 0)), some (.bipush 46, 2, (0, 0, 0, 0)), nn, some (.if_icmp .ge 16, 3, (26, 0, 0, 0)), nn, nn, some (.aload_n 0, 1, (0, 0, 0, 0)), some (.getfield 11, 3, (5, 0, 5, 0))],
 [nn, some (.iload_n 1, 1, (0, 0, 0, 0)), some (.iconst (-1), 1, (0, 0, 0, 0)), some (.iastore, 1, (0, 0, 0, 0)), some (.iinc 1 1, 3, (0, 0, 0, 0)), nn, nn, some (.goto (-16), 3, (7, 0, 0, 0)), nn, nn, some (.return_, 1, (0, 0, 0, 0))]]
def pX5_tell : List (List (Option En)) := [[some (.aload_n 0, 1, (0, 0, 0, 0)), some (.getfield 11, 3, (5, 0, 5, 0)), nn, nn, some (.iload_n 1, 1, (0, 0, 0, 0)), some (.iload_n 2, 1, (0, 0, 0, 0)), some (.iastore, 1, (0, 0, 0, 0)), some (.aload_n 0, 1, (0, 0, 0, 0)), some (.dup, 1, (0, 0, 0, 0)), some (.getfield 18, 3, (5, 1, 6, 0)), nn, nn, some (.iconst 1, 1, (0, 0, 0, 0)), some (.iadd, 1, (0, 0, 0, 0)), some (.putfield 18, 3, (5, 1, 6, 0))],
 [nn, some (.return_, 1, (0, 0, 0, 0))]]
def pX5_tells : List (List (Option En)) := [[some (.aload_n 0, 1, (0, 0, 0, 0)), some (.getfield 11, 3, (5, 0, 5, 0)), nn, nn, some (.iload_n 1, 1, (0, 0, 0, 0)), some (.iaload, 1, (0, 0, 0, 0)), some (.iconst (-1), 1, (0, 0, 0, 0)), some (.if_icmp .eq 7, 3, (14, 0, 0, 0)), nn, nn, some (.iconst 1, 1, (0, 0, 0, 0)), some (.goto 4, 3, (15, 0, 0, 0)), nn, nn, some (.iconst 0, 1, (0, 0, 0, 0)), some (.ireturn, 1, (0, 0, 0, 0))]]
def pX5_tellsEach : List (List (Option En)) := [[some (.iload_n 1, 1, (0, 0, 0, 0)), some (.istore_n 3, 1, (0, 0, 0, 0)), some (.iload_n 3, 1, (0, 0, 0, 0)), some (.iload_n 1, 1, (0, 0, 0, 0)), some (.iload_n 2, 1, (0, 0, 0, 0)), some (.iadd, 1, (0, 0, 0, 0)), some (.if_icmp .ge 19, 3, (25, 0, 0, 0)), nn, nn, some (.aload_n 0, 1, (0, 0, 0, 0)), some (.iload_n 3, 1, (0, 0, 0, 0)), some (.invokevirtual 22, 3, (47, 2, 26, 0)), nn, nn, some (.ifCond .ne 5, 3, (19, 0, 0, 0))],
 [nn, some (.iconst 0, 1, (0, 0, 0, 0)), some (.ireturn, 1, (0, 0, 0, 0)), some (.iinc 3 1, 3, (0, 0, 0, 0)), nn, nn, some (.goto (-20), 3, (2, 0, 0, 0)), nn, nn, some (.iconst 1, 1, (0, 0, 0, 0)), some (.ireturn, 1, (0, 0, 0, 0))]]
def pX5_toldOr : List (List (Option En)) := [[some (.aload_n 0, 1, (0, 0, 0, 0)), some (.getfield 11, 3, (5, 0, 5, 0)), nn, nn, some (.iload_n 1, 1, (0, 0, 0, 0)), some (.iaload, 1, (0, 0, 0, 0)), some (.iconst (-1), 1, (0, 0, 0, 0)), some (.if_icmp .ne 7, 3, (14, 0, 0, 0)), nn, nn, some (.iload_n 2, 1, (0, 0, 0, 0)), some (.goto 9, 3, (20, 0, 0, 0)), nn, nn, some (.aload_n 0, 1, (0, 0, 0, 0)), some (.getfield 11, 3, (5, 0, 5, 0))],
 [nn, nn, some (.iload_n 1, 1, (0, 0, 0, 0)), some (.iaload, 1, (0, 0, 0, 0)), some (.ireturn, 1, (0, 0, 0, 0))]]
def pX5_piecesAt : List (List (Option En)) := [[some (.aload_n 0, 1, (0, 0, 0, 0)), some (.iconst 0, 1, (0, 0, 0, 0)), some (.iload_n 1, 1, (0, 0, 0, 0)), some (.iconst 4, 1, (0, 0, 0, 0)), some (.imul, 1, (0, 0, 0, 0)), some (.iadd, 1, (0, 0, 0, 0)), some (.iload_n 2, 1, (0, 0, 0, 0)), some (.iadd, 1, (0, 0, 0, 0)), some (.iconst 0, 1, (0, 0, 0, 0)), some (.invokevirtual 26, 3, (49, 3, 38, 0)), nn, nn, some (.ireturn, 1, (0, 0, 0, 0))]]
def pX5_crumbsOfPiece : List (List (Option En)) := [[some (.aload_n 0, 1, (0, 0, 0, 0)), some (.bipush 24, 2, (0, 0, 0, 0)), nn, some (.iload_n 1, 1, (0, 0, 0, 0)), some (.iadd, 1, (0, 0, 0, 0)), some (.iconst 2, 1, (0, 0, 0, 0)), some (.invokevirtual 26, 3, (49, 3, 38, 0)), nn, nn, some (.ireturn, 1, (0, 0, 0, 0))]]
def pX5_tenthsToAsh : List (List (Option En)) := [[some (.aload_n 0, 1, (0, 0, 0, 0)), some (.bipush 30, 2, (0, 0, 0, 0)), nn, some (.iload_n 1, 1, (0, 0, 0, 0)), some (.iadd, 1, (0, 0, 0, 0)), some (.iconst 0, 1, (0, 0, 0, 0)), some (.invokevirtual 26, 3, (49, 3, 38, 0)), nn, nn, some (.ireturn, 1, (0, 0, 0, 0))]]
def pX5_tenthsUnsaid : List (List (Option En)) := [[some (.aload_n 0, 1, (0, 0, 0, 0)), some (.bipush 36, 2, (0, 0, 0, 0)), nn, some (.iload_n 1, 1, (0, 0, 0, 0)), some (.iadd, 1, (0, 0, 0, 0)), some (.iconst 0, 1, (0, 0, 0, 0)), some (.invokevirtual 26, 3, (49, 3, 38, 0)), nn, nn, some (.ireturn, 1, (0, 0, 0, 0))]]
def pX5_milesTo : List (List (Option En)) := [[some (.aload_n 0, 1, (0, 0, 0, 0)), some (.bipush 42, 2, (0, 0, 0, 0)), nn, some (.iload_n 1, 1, (0, 0, 0, 0)), some (.iadd, 1, (0, 0, 0, 0)), some (.iload_n 1, 1, (0, 0, 0, 0)), some (.invokevirtual 26, 3, (49, 3, 38, 0)), nn, nn, some (.ireturn, 1, (0, 0, 0, 0))]]
def pX5_piecesOfAll : List (List (Option En)) := [[some (.iconst 0, 1, (0, 0, 0, 0)), some (.istore_n 1, 1, (0, 0, 0, 0)), some (.iconst 0, 1, (0, 0, 0, 0)), some (.istore_n 2, 1, (0, 0, 0, 0)), some (.iload_n 2, 1, (0, 0, 0, 0)), some (.bipush 24, 2, (0, 0, 0, 0)), nn, some (.if_icmp .ge 18, 3, (25, 0, 0, 0)), nn, nn, some (.iload_n 1, 1, (0, 0, 0, 0)), some (.aload_n 0, 1, (0, 0, 0, 0)), some (.iload_n 2, 1, (0, 0, 0, 0)), some (.iconst 0, 1, (0, 0, 0, 0)), some (.invokevirtual 26, 3, (49, 3, 38, 0))],
 [nn, some (.iadd, 1, (0, 0, 0, 0)), some (.istore_n 1, 1, (0, 0, 0, 0)), some (.iinc 2 1, 3, (0, 0, 0, 0)), nn, nn, some (.goto (-18), 3, (4, 0, 0, 0)), nn, nn, some (.iload_n 1, 1, (0, 0, 0, 0)), some (.ireturn, 1, (0, 0, 0, 0))]]
def pX6_init : List (List (Option En)) := [[some (.aload_n 0, 1, (0, 0, 0, 0)), some (.invokespecial 3, 3, (1000, 1, 1, 4)), nn, nn, some (.aload_n 0, 1, (0, 0, 0, 0)), some (.new 9, 3, (3, 2, 1, 0)), nn, nn, some (.dup, 1, (0, 0, 0, 0)), some (.invokespecial 11, 3, (28, 1, 2, 3)), nn, nn, some (.putfield 12, 3, (6, 0, 54, 0)), nn, nn, some (.aload_n 0, 1, (0, 0, 0, 0))],
 [some (.new 16, 3, (1, 4, 2, 0)), nn, nn, some (.dup, 1, (0, 0, 0, 0)), some (.invokespecial 18, 3, (10, 1, 4, 3)), nn, nn, some (.putfield 19, 3, (6, 1, 55, 0)), nn, nn, some (.aload_n 0, 1, (0, 0, 0, 0)), some (.new 23, 3, (5, 2, 4, 0)), nn, nn, some (.dup, 1, (0, 0, 0, 0)), some (.invokespecial 25, 3, (44, 1, 9, 2))],
 [nn, nn, some (.putfield 26, 3, (6, 2, 56, 0)), nn, nn, some (.aload_n 0, 1, (0, 0, 0, 0)), some (.iconst 4, 1, (0, 0, 0, 0)), some (.anewarray 30, 3, (4, 0, 0, 0)), nn, nn, some (.putfield 32, 3, (6, 3, 57, 0)), nn, nn, some (.aload_n 0, 1, (0, 0, 0, 0)), some (.new 36, 3, (2, 5, 6, 0))],
 [nn, some (.dup, 1, (0, 0, 0, 0)), some (.invokespecial 38, 3, (19, 1, 10, 3)), nn, nn, some (.putfield 39, 3, (6, 4, 58, 0)), nn, nn, some (.aload_n 0, 1, (0, 0, 0, 0)), some (.new 43, 3, (0, 8, 7, 0)), nn, nn, some (.dup, 1, (0, 0, 0, 0)), some (.invokespecial 45, 3, (0, 1, 12, 3))],
 [some (.putfield 46, 3, (6, 5, 59, 0)), nn, nn, some (.aload_n 0, 1, (0, 0, 0, 0)), some (.iconst 2, 1, (0, 0, 0, 0)), some (.anewarray 43, 3, (5, 0, 1, 0)), nn, nn, some (.putfield 50, 3, (6, 6, 60, 0)), nn, nn, some (.aload_n 0, 1, (0, 0, 0, 0)), some (.iconst 2, 1, (0, 0, 0, 0)), some (.newarray .boolean, 2, (2, 0, 0, 0)), nn, some (.putfield 54, 3, (6, 7, 61, 0))],
 [nn, nn, some (.iconst 0, 1, (0, 0, 0, 0)), some (.istore_n 1, 1, (0, 0, 0, 0)), some (.iload_n 1, 1, (0, 0, 0, 0)), some (.iconst 4, 1, (0, 0, 0, 0)), some (.if_icmp .ge 22, 3, (108, 0, 0, 0)), nn, nn, some (.aload_n 0, 1, (0, 0, 0, 0)), some (.getfield 32, 3, (6, 3, 57, 0)), nn, nn, some (.iload_n 1, 1, (0, 0, 0, 0)), some (.new 30, 3, (4, 11, 5, 0))],
 [nn, some (.dup, 1, (0, 0, 0, 0)), some (.invokespecial 58, 3, (30, 1, 14, 3)), nn, nn, some (.aastore, 1, (0, 0, 0, 0)), some (.iinc 1 1, 3, (0, 0, 0, 0)), nn, nn, some (.goto (-21), 3, (84, 0, 0, 0)), nn, nn, some (.iconst 0, 1, (0, 0, 0, 0)), some (.istore_n 1, 1, (0, 0, 0, 0)), some (.iload_n 1, 1, (0, 0, 0, 0)), some (.iconst 2, 1, (0, 0, 0, 0))],
 [some (.if_icmp .ge 22, 3, (134, 0, 0, 0)), nn, nn, some (.aload_n 0, 1, (0, 0, 0, 0)), some (.getfield 50, 3, (6, 6, 60, 0)), nn, nn, some (.iload_n 1, 1, (0, 0, 0, 0)), some (.new 43, 3, (0, 8, 7, 0)), nn, nn, some (.dup, 1, (0, 0, 0, 0)), some (.invokespecial 45, 3, (0, 1, 12, 3)), nn, nn, some (.aastore, 1, (0, 0, 0, 0))],
 [some (.iinc 1 1, 3, (0, 0, 0, 0)), nn, nn, some (.goto (-21), 3, (110, 0, 0, 0)), nn, nn, some (.return_, 1, (0, 0, 0, 0))]]
def pX6_write : List (List (Option En)) := [[some (.iload_n 1, 1, (0, 0, 0, 0)), some (.iconst 1, 1, (0, 0, 0, 0)), some (.if_icmp .lt 9, 3, (11, 0, 0, 0)), nn, nn, some (.iload_n 1, 1, (0, 0, 0, 0)), some (.bipush 8, 2, (0, 0, 0, 0)), nn, some (.if_icmp .le 6, 3, (14, 0, 0, 0)), nn, nn, some (.bipush (-2), 2, (0, 0, 0, 0)), nn, some (.ireturn, 1, (0, 0, 0, 0)), some (.aload_n 0, 1, (0, 0, 0, 0)), some (.getfield 12, 3, (6, 0, 54, 0))],
 [nn, nn, some (.getfield 59, 3, (3, 1, 4, 0)), nn, nn, some (.iload_n 1, 1, (0, 0, 0, 0)), some (.iadd, 1, (0, 0, 0, 0)), some (.bipush 64, 2, (0, 0, 0, 0)), nn, some (.if_icmp .le 6, 3, (31, 0, 0, 0)), nn, nn, some (.bipush (-4), 2, (0, 0, 0, 0)), nn, some (.ireturn, 1, (0, 0, 0, 0)), some (.aload_n 0, 1, (0, 0, 0, 0))],
 [some (.getfield 12, 3, (6, 0, 54, 0)), nn, nn, some (.iload_n 1, 1, (0, 0, 0, 0)), some (.lload_n 2, 1, (0, 0, 0, 0)), some (.invokevirtual 63, 3, (29, 3, 17, 0)), nn, nn, some (.aload_n 0, 1, (0, 0, 0, 0)), some (.getfield 12, 3, (6, 0, 54, 0)), nn, nn, some (.getfield 59, 3, (3, 1, 4, 0)), nn, nn, some (.ireturn, 1, (0, 0, 0, 0))]]
def pX6_wipe : List (List (Option En)) := [[some (.aload_n 0, 1, (0, 0, 0, 0)), some (.getfield 12, 3, (6, 0, 54, 0)), nn, nn, some (.getfield 59, 3, (3, 1, 4, 0)), nn, nn, some (.istore_n 1, 1, (0, 0, 0, 0)), some (.aload_n 0, 1, (0, 0, 0, 0)), some (.getfield 12, 3, (6, 0, 54, 0)), nn, nn, some (.iconst 0, 1, (0, 0, 0, 0)), some (.putfield 59, 3, (3, 1, 4, 0))],
 [some (.iload_n 1, 1, (0, 0, 0, 0)), some (.ireturn, 1, (0, 0, 0, 0))]]
def pX6_fault : List (List (Option En)) := [[some (.aload_n 0, 1, (0, 0, 0, 0)), some (.getfield 19, 3, (6, 1, 55, 0)), nn, nn, some (.aload_n 0, 1, (0, 0, 0, 0)), some (.getfield 12, 3, (6, 0, 54, 0)), nn, nn, some (.invokevirtual 67, 3, (11, 2, 20, 0)), nn, nn, some (.ireturn, 1, (0, 0, 0, 0))]]
def pX6_wood : List (List (Option En)) := [[some (.aload_n 0, 1, (0, 0, 0, 0)), some (.getfield 19, 3, (6, 1, 55, 0)), nn, nn, some (.aload_n 0, 1, (0, 0, 0, 0)), some (.getfield 12, 3, (6, 0, 54, 0)), nn, nn, some (.invokevirtual 67, 3, (11, 2, 20, 0)), nn, nn, some (.bipush (-9), 2, (0, 0, 0, 0)), nn, some (.if_icmp .eq 6, 3, (19, 0, 0, 0))],
 [some (.bipush (-3), 2, (0, 0, 0, 0)), nn, some (.ireturn, 1, (0, 0, 0, 0)), some (.aload_n 0, 1, (0, 0, 0, 0)), some (.aload_n 0, 1, (0, 0, 0, 0)), some (.getfield 19, 3, (6, 1, 55, 0)), nn, nn, some (.aload_n 0, 1, (0, 0, 0, 0)), some (.getfield 26, 3, (6, 2, 56, 0)), nn, nn, some (.invokevirtual 71, 3, (12, 2, 33, 0)), nn, nn, some (.putfield 26, 3, (6, 2, 56, 0))],
 [nn, nn, some (.iconst 0, 1, (0, 0, 0, 0)), some (.istore_n 1, 1, (0, 0, 0, 0)), some (.iload_n 1, 1, (0, 0, 0, 0)), some (.iconst 4, 1, (0, 0, 0, 0)), some (.if_icmp .ge 22, 3, (60, 0, 0, 0)), nn, nn, some (.aload_n 0, 1, (0, 0, 0, 0)), some (.getfield 32, 3, (6, 3, 57, 0)), nn, nn, some (.iload_n 1, 1, (0, 0, 0, 0)), some (.aaload, 1, (0, 0, 0, 0)), some (.aload_n 0, 1, (0, 0, 0, 0))],
 [some (.getfield 26, 3, (6, 2, 56, 0)), nn, nn, some (.invokevirtual 75, 3, (32, 2, 34, 0)), nn, nn, some (.iinc 1 1, 3, (0, 0, 0, 0)), nn, nn, some (.goto (-21), 3, (36, 0, 0, 0)), nn, nn, some (.aload_n 0, 1, (0, 0, 0, 0)), some (.getfield 26, 3, (6, 2, 56, 0))],
 [some (.getfield 79, 3, (5, 1, 7, 0)), nn, nn, some (.ireturn, 1, (0, 0, 0, 0))]]
def pX6_stands : List (List (Option En)) := [[some (.iload_n 1, 1, (0, 0, 0, 0)), some (.invokestatic 82, 3, (94, 1, 51, 1)), nn, nn, some (.ifCond .eq 10, 3, (14, 0, 0, 0)), nn, nn, some (.iload_n 2, 1, (0, 0, 0, 0)), some (.invokestatic 86, 3, (97, 1, 52, 1)), nn, nn, some (.ifCond .ne 5, 3, (16, 0, 0, 0)), nn, nn, some (.iconst (-1), 1, (0, 0, 0, 0)), some (.ireturn, 1, (0, 0, 0, 0))],
 [some (.aload_n 0, 1, (0, 0, 0, 0)), some (.getfield 26, 3, (6, 2, 56, 0)), nn, nn, some (.iload_n 1, 1, (0, 0, 0, 0)), some (.iload_n 2, 1, (0, 0, 0, 0)), some (.invokevirtual 89, 3, (50, 3, 53, 0)), nn, nn, some (.ireturn, 1, (0, 0, 0, 0))]]
def pX6_sorted : List (List (Option En)) := [[some (.iload_n 1, 1, (0, 0, 0, 0)), some (.invokestatic 82, 3, (94, 1, 51, 1)), nn, nn, some (.ifCond .ne 5, 3, (9, 0, 0, 0)), nn, nn, some (.iconst (-1), 1, (0, 0, 0, 0)), some (.ireturn, 1, (0, 0, 0, 0)), some (.iload_n 2, 1, (0, 0, 0, 0)), some (.tableswitch 53 0 2 #[26, 35, 44], 26, (0, 0, 0, 0))],
 [],
 [nn, nn, nn, nn, some (.aload_n 0, 1, (0, 0, 0, 0)), some (.getfield 26, 3, (6, 2, 56, 0)), nn, nn, some (.iload_n 1, 1, (0, 0, 0, 0)), some (.invokevirtual 93, 3, (51, 2, 55, 0)), nn, nn, some (.ireturn, 1, (0, 0, 0, 0)), some (.aload_n 0, 1, (0, 0, 0, 0)), some (.getfield 26, 3, (6, 2, 56, 0))],
 [nn, some (.iload_n 1, 1, (0, 0, 0, 0)), some (.invokevirtual 97, 3, (52, 2, 56, 0)), nn, nn, some (.ireturn, 1, (0, 0, 0, 0)), some (.aload_n 0, 1, (0, 0, 0, 0)), some (.getfield 26, 3, (6, 2, 56, 0)), nn, nn, some (.iload_n 1, 1, (0, 0, 0, 0)), some (.invokevirtual 100, 3, (53, 2, 57, 0)), nn, nn, some (.ireturn, 1, (0, 0, 0, 0)), some (.bipush (-2), 2, (0, 0, 0, 0))],
 [nn, some (.ireturn, 1, (0, 0, 0, 0))]]
def pX6_miles : List (List (Option En)) := [[some (.iload_n 1, 1, (0, 0, 0, 0)), some (.invokestatic 86, 3, (97, 1, 52, 1)), nn, nn, some (.ifCond .eq 14, 3, (18, 0, 0, 0)), nn, nn, some (.aload_n 0, 1, (0, 0, 0, 0)), some (.getfield 26, 3, (6, 2, 56, 0)), nn, nn, some (.iload_n 1, 1, (0, 0, 0, 0)), some (.invokevirtual 103, 3, (54, 2, 59, 0)), nn, nn, some (.goto 4, 3, (19, 0, 0, 0))],
 [nn, nn, some (.iconst (-1), 1, (0, 0, 0, 0)), some (.ireturn, 1, (0, 0, 0, 0))]]
def pX6_way : List (List (Option En)) := [[some (.iload_n 1, 1, (0, 0, 0, 0)), some (.invokestatic 106, 3, (98, 1, 61, 1)), nn, nn, some (.ifCond .ne 5, 3, (9, 0, 0, 0)), nn, nn, some (.iconst (-1), 1, (0, 0, 0, 0)), some (.ireturn, 1, (0, 0, 0, 0)), some (.iload_n 2, 1, (0, 0, 0, 0)), some (.ifCond .lt 19, 3, (29, 0, 0, 0)), nn, nn, some (.iload_n 2, 1, (0, 0, 0, 0)), some (.bipush 9, 2, (0, 0, 0, 0))],
 [some (.if_icmp .gt 13, 3, (29, 0, 0, 0)), nn, nn, some (.iload_n 3, 1, (0, 0, 0, 0)), some (.ifCond .lt 9, 3, (29, 0, 0, 0)), nn, nn, some (.iload_n 3, 1, (0, 0, 0, 0)), some (.bipush 60, 2, (0, 0, 0, 0)), nn, some (.if_icmp .le 6, 3, (32, 0, 0, 0)), nn, nn, some (.bipush (-2), 2, (0, 0, 0, 0)), nn, some (.ireturn, 1, (0, 0, 0, 0))],
 [some (.iload 4, 2, (0, 0, 0, 0)), nn, some (.invokestatic 109, 3, (95, 1, 62, 1)), nn, nn, some (.ifCond .eq 11, 3, (48, 0, 0, 0)), nn, nn, some (.iload 5, 2, (0, 0, 0, 0)), nn, some (.invokestatic 109, 3, (95, 1, 62, 1)), nn, nn, some (.ifCond .ne 6, 3, (51, 0, 0, 0))],
 [some (.bipush (-2), 2, (0, 0, 0, 0)), nn, some (.ireturn, 1, (0, 0, 0, 0)), some (.aload_n 0, 1, (0, 0, 0, 0)), some (.getfield 32, 3, (6, 3, 57, 0)), nn, nn, some (.iload_n 1, 1, (0, 0, 0, 0)), some (.aaload, 1, (0, 0, 0, 0)), some (.getfield 112, 3, (4, 0, 34, 0)), nn, nn, some (.istore 6, 2, (0, 0, 0, 0)), nn, some (.aload_n 0, 1, (0, 0, 0, 0)), some (.getfield 32, 3, (6, 3, 57, 0))],
 [nn, nn, some (.iload_n 1, 1, (0, 0, 0, 0)), some (.aaload, 1, (0, 0, 0, 0)), some (.iload_n 2, 1, (0, 0, 0, 0)), some (.iload_n 3, 1, (0, 0, 0, 0)), some (.iload 4, 2, (0, 0, 0, 0)), nn, some (.iload 5, 2, (0, 0, 0, 0)), nn, some (.invokevirtual 115, 3, (31, 5, 63, 0)), nn, nn, some (.aload_n 0, 1, (0, 0, 0, 0)), some (.getfield 32, 3, (6, 3, 57, 0))],
 [nn, some (.iload_n 1, 1, (0, 0, 0, 0)), some (.aaload, 1, (0, 0, 0, 0)), some (.aload_n 0, 1, (0, 0, 0, 0)), some (.getfield 26, 3, (6, 2, 56, 0)), nn, nn, some (.invokevirtual 75, 3, (32, 2, 34, 0)), nn, nn, some (.iload 6, 2, (0, 0, 0, 0)), nn, some (.ireturn, 1, (0, 0, 0, 0))]]
def pX6_going : List (List (Option En)) := [[some (.iload_n 1, 1, (0, 0, 0, 0)), some (.invokestatic 106, 3, (98, 1, 61, 1)), nn, nn, some (.ifCond .ne 5, 3, (9, 0, 0, 0)), nn, nn, some (.iconst (-1), 1, (0, 0, 0, 0)), some (.ireturn, 1, (0, 0, 0, 0)), some (.iload_n 2, 1, (0, 0, 0, 0)), some (.tableswitch 70 0 3 #[30, 40, 50, 60], 30, (0, 0, 0, 0))],
 [],
 [nn, nn, nn, nn, nn, nn, nn, nn, some (.aload_n 0, 1, (0, 0, 0, 0)), some (.getfield 32, 3, (6, 3, 57, 0)), nn, nn, some (.iload_n 1, 1, (0, 0, 0, 0)), some (.aaload, 1, (0, 0, 0, 0)), some (.getfield 112, 3, (4, 0, 34, 0))],
 [nn, some (.ireturn, 1, (0, 0, 0, 0)), some (.aload_n 0, 1, (0, 0, 0, 0)), some (.getfield 32, 3, (6, 3, 57, 0)), nn, nn, some (.iload_n 1, 1, (0, 0, 0, 0)), some (.aaload, 1, (0, 0, 0, 0)), some (.getfield 119, 3, (4, 1, 36, 0)), nn, nn, some (.ireturn, 1, (0, 0, 0, 0)), some (.aload_n 0, 1, (0, 0, 0, 0)), some (.getfield 32, 3, (6, 3, 57, 0))],
 [some (.iload_n 1, 1, (0, 0, 0, 0)), some (.aaload, 1, (0, 0, 0, 0)), some (.getfield 122, 3, (4, 2, 38, 0)), nn, nn, some (.ireturn, 1, (0, 0, 0, 0)), some (.aload_n 0, 1, (0, 0, 0, 0)), some (.getfield 32, 3, (6, 3, 57, 0)), nn, nn, some (.iload_n 1, 1, (0, 0, 0, 0)), some (.aaload, 1, (0, 0, 0, 0)), some (.getfield 125, 3, (4, 3, 40, 0)), nn, nn, some (.ireturn, 1, (0, 0, 0, 0))],
 [some (.bipush (-2), 2, (0, 0, 0, 0)), nn, some (.ireturn, 1, (0, 0, 0, 0))]]
def pX6_gathered : List (List (Option En)) := [[some (.iload_n 1, 1, (0, 0, 0, 0)), some (.invokestatic 106, 3, (98, 1, 61, 1)), nn, nn, some (.ifCond .eq 17, 3, (21, 0, 0, 0)), nn, nn, some (.iload_n 2, 1, (0, 0, 0, 0)), some (.invokestatic 82, 3, (94, 1, 51, 1)), nn, nn, some (.ifCond .eq 10, 3, (21, 0, 0, 0)), nn, nn, some (.iload_n 3, 1, (0, 0, 0, 0)), some (.invokestatic 86, 3, (97, 1, 52, 1))],
 [nn, nn, some (.ifCond .ne 5, 3, (23, 0, 0, 0)), nn, nn, some (.iconst (-1), 1, (0, 0, 0, 0)), some (.ireturn, 1, (0, 0, 0, 0)), some (.aload_n 0, 1, (0, 0, 0, 0)), some (.getfield 32, 3, (6, 3, 57, 0)), nn, nn, some (.iload_n 1, 1, (0, 0, 0, 0)), some (.aaload, 1, (0, 0, 0, 0)), some (.getfield 128, 3, (4, 4, 42, 0))],
 [some (.iload_n 2, 1, (0, 0, 0, 0)), some (.aaload, 1, (0, 0, 0, 0)), some (.iload_n 3, 1, (0, 0, 0, 0)), some (.iaload, 1, (0, 0, 0, 0)), some (.ireturn, 1, (0, 0, 0, 0))]]
def pX6_fire : List (List (Option En)) := [[some (.iload_n 1, 1, (0, 0, 0, 0)), some (.invokestatic 106, 3, (98, 1, 61, 1)), nn, nn, some (.ifCond .eq 10, 3, (14, 0, 0, 0)), nn, nn, some (.iload_n 2, 1, (0, 0, 0, 0)), some (.invokestatic 82, 3, (94, 1, 51, 1)), nn, nn, some (.ifCond .ne 5, 3, (16, 0, 0, 0)), nn, nn, some (.iconst (-1), 1, (0, 0, 0, 0)), some (.ireturn, 1, (0, 0, 0, 0))],
 [some (.iload_n 3, 1, (0, 0, 0, 0)), some (.tableswitch 63 0 2 #[27, 39, 51], 27, (0, 0, 0, 0))],
 [nn, nn, nn, nn, nn, nn, nn, nn, nn, nn, nn, nn, some (.aload_n 0, 1, (0, 0, 0, 0)), some (.getfield 32, 3, (6, 3, 57, 0))],
 [some (.iload_n 1, 1, (0, 0, 0, 0)), some (.aaload, 1, (0, 0, 0, 0)), some (.getfield 132, 3, (4, 5, 44, 0)), nn, nn, some (.iload_n 2, 1, (0, 0, 0, 0)), some (.iaload, 1, (0, 0, 0, 0)), some (.ireturn, 1, (0, 0, 0, 0)), some (.aload_n 0, 1, (0, 0, 0, 0)), some (.getfield 32, 3, (6, 3, 57, 0)), nn, nn, some (.iload_n 1, 1, (0, 0, 0, 0)), some (.aaload, 1, (0, 0, 0, 0)), some (.getfield 136, 3, (4, 6, 46, 0))],
 [nn, some (.iload_n 2, 1, (0, 0, 0, 0)), some (.iaload, 1, (0, 0, 0, 0)), some (.ireturn, 1, (0, 0, 0, 0)), some (.aload_n 0, 1, (0, 0, 0, 0)), some (.getfield 32, 3, (6, 3, 57, 0)), nn, nn, some (.iload_n 1, 1, (0, 0, 0, 0)), some (.aaload, 1, (0, 0, 0, 0)), some (.getfield 139, 3, (4, 7, 48, 0)), nn, nn, some (.iload_n 2, 1, (0, 0, 0, 0)), some (.iaload, 1, (0, 0, 0, 0)), some (.ireturn, 1, (0, 0, 0, 0))],
 [some (.bipush (-2), 2, (0, 0, 0, 0)), nn, some (.ireturn, 1, (0, 0, 0, 0))]]
def pX6_unsaid : List (List (Option En)) := [[some (.iload_n 1, 1, (0, 0, 0, 0)), some (.invokestatic 106, 3, (98, 1, 61, 1)), nn, nn, some (.ifCond .eq 15, 3, (19, 0, 0, 0)), nn, nn, some (.aload_n 0, 1, (0, 0, 0, 0)), some (.getfield 32, 3, (6, 3, 57, 0)), nn, nn, some (.iload_n 1, 1, (0, 0, 0, 0)), some (.aaload, 1, (0, 0, 0, 0)), some (.getfield 142, 3, (4, 9, 52, 0))],
 [some (.goto 4, 3, (20, 0, 0, 0)), nn, nn, some (.iconst (-1), 1, (0, 0, 0, 0)), some (.ireturn, 1, (0, 0, 0, 0))]]
def pX6_walk : List (List (Option En)) := [[some (.iload_n 1, 1, (0, 0, 0, 0)), some (.invokestatic 106, 3, (98, 1, 61, 1)), nn, nn, some (.ifCond .eq 19, 3, (23, 0, 0, 0)), nn, nn, some (.aload_n 0, 1, (0, 0, 0, 0)), some (.getfield 32, 3, (6, 3, 57, 0)), nn, nn, some (.iload_n 1, 1, (0, 0, 0, 0)), some (.aaload, 1, (0, 0, 0, 0)), some (.aload_n 0, 1, (0, 0, 0, 0)), some (.getfield 26, 3, (6, 2, 56, 0))],
 [nn, some (.invokevirtual 145, 3, (42, 2, 69, 0)), nn, nn, some (.goto 4, 3, (24, 0, 0, 0)), nn, nn, some (.iconst (-1), 1, (0, 0, 0, 0)), some (.ireturn, 1, (0, 0, 0, 0))]]
def pX6_layer : List (List (Option En)) := [[some (.aload_n 0, 1, (0, 0, 0, 0)), some (.getfield 46, 3, (6, 5, 59, 0)), nn, nn, some (.getfield 149, 3, (0, 0, 19, 0)), nn, nn, some (.bipush 6, 2, (0, 0, 0, 0)), nn, some (.if_icmp .ge 13, 3, (22, 0, 0, 0)), nn, nn, some (.aload_n 0, 1, (0, 0, 0, 0)), some (.getfield 46, 3, (6, 5, 59, 0))],
 [some (.invokevirtual 152, 3, (1, 1, 72, 0)), nn, nn, some (.goto 5, 3, (24, 0, 0, 0)), nn, nn, some (.bipush (-4), 2, (0, 0, 0, 0)), nn, some (.ireturn, 1, (0, 0, 0, 0))]]
def pX6_count : List (List (Option En)) := [[some (.aload_n 0, 1, (0, 0, 0, 0)), some (.iload_n 1, 1, (0, 0, 0, 0)), some (.invokevirtual 156, 3, (102, 2, 74, 0)), nn, nn, some (.ifCond .eq 10, 3, (15, 0, 0, 0)), nn, nn, some (.iload_n 2, 1, (0, 0, 0, 0)), some (.invokestatic 159, 3, (96, 1, 75, 1)), nn, nn, some (.ifCond .ne 5, 3, (17, 0, 0, 0)), nn, nn, some (.iconst (-1), 1, (0, 0, 0, 0))],
 [some (.ireturn, 1, (0, 0, 0, 0)), some (.iload_n 3, 1, (0, 0, 0, 0)), some (.ifCond .lt 9, 3, (27, 0, 0, 0)), nn, nn, some (.iload_n 3, 1, (0, 0, 0, 0)), some (.bipush 99, 2, (0, 0, 0, 0)), nn, some (.if_icmp .le 6, 3, (30, 0, 0, 0)), nn, nn, some (.bipush (-2), 2, (0, 0, 0, 0)), nn, some (.ireturn, 1, (0, 0, 0, 0)), some (.aload_n 0, 1, (0, 0, 0, 0)), some (.getfield 46, 3, (6, 5, 59, 0))],
 [nn, nn, some (.getfield 162, 3, (0, 1, 21, 0)), nn, nn, some (.iload_n 1, 1, (0, 0, 0, 0)), some (.aaload, 1, (0, 0, 0, 0)), some (.iload_n 2, 1, (0, 0, 0, 0)), some (.iaload, 1, (0, 0, 0, 0)), some (.istore 4, 2, (0, 0, 0, 0)), nn, some (.aload_n 0, 1, (0, 0, 0, 0)), some (.getfield 46, 3, (6, 5, 59, 0)), nn, nn, some (.getfield 162, 3, (0, 1, 21, 0))],
 [nn, nn, some (.iload_n 1, 1, (0, 0, 0, 0)), some (.aaload, 1, (0, 0, 0, 0)), some (.iload_n 2, 1, (0, 0, 0, 0)), some (.iload_n 3, 1, (0, 0, 0, 0)), some (.iastore, 1, (0, 0, 0, 0)), some (.iload 4, 2, (0, 0, 0, 0)), nn, some (.ireturn, 1, (0, 0, 0, 0))]]
def pX6_counted : List (List (Option En)) := [[some (.aload_n 0, 1, (0, 0, 0, 0)), some (.iload_n 1, 1, (0, 0, 0, 0)), some (.invokevirtual 156, 3, (102, 2, 74, 0)), nn, nn, some (.ifCond .eq 10, 3, (15, 0, 0, 0)), nn, nn, some (.iload_n 2, 1, (0, 0, 0, 0)), some (.invokestatic 159, 3, (96, 1, 75, 1)), nn, nn, some (.ifCond .ne 5, 3, (17, 0, 0, 0)), nn, nn, some (.iconst (-1), 1, (0, 0, 0, 0))],
 [some (.ireturn, 1, (0, 0, 0, 0)), some (.aload_n 0, 1, (0, 0, 0, 0)), some (.getfield 46, 3, (6, 5, 59, 0)), nn, nn, some (.getfield 162, 3, (0, 1, 21, 0)), nn, nn, some (.iload_n 1, 1, (0, 0, 0, 0)), some (.aaload, 1, (0, 0, 0, 0)), some (.iload_n 2, 1, (0, 0, 0, 0)), some (.iaload, 1, (0, 0, 0, 0)), some (.ireturn, 1, (0, 0, 0, 0))]]
def pX6_crumb : List (List (Option En)) := [[some (.iload_n 1, 1, (0, 0, 0, 0)), some (.invokestatic 159, 3, (96, 1, 75, 1)), nn, nn, some (.ifCond .ne 5, 3, (9, 0, 0, 0)), nn, nn, some (.iconst (-1), 1, (0, 0, 0, 0)), some (.ireturn, 1, (0, 0, 0, 0)), some (.aload_n 0, 1, (0, 0, 0, 0)), some (.getfield 39, 3, (6, 4, 58, 0)), nn, nn, some (.getfield 165, 3, (2, 1, 14, 0))],
 [some (.bipush 48, 2, (0, 0, 0, 0)), nn, some (.if_icmp .lt 6, 3, (24, 0, 0, 0)), nn, nn, some (.bipush (-4), 2, (0, 0, 0, 0)), nn, some (.ireturn, 1, (0, 0, 0, 0)), some (.aload_n 0, 1, (0, 0, 0, 0)), some (.getfield 39, 3, (6, 4, 58, 0)), nn, nn, some (.iload_n 1, 1, (0, 0, 0, 0)), some (.invokevirtual 166, 3, (20, 2, 78, 0))],
 [some (.aload_n 0, 1, (0, 0, 0, 0)), some (.getfield 39, 3, (6, 4, 58, 0)), nn, nn, some (.getfield 165, 3, (2, 1, 14, 0)), nn, nn, some (.ireturn, 1, (0, 0, 0, 0))]]
def pX6_sweep : List (List (Option En)) := [[some (.aload_n 0, 1, (0, 0, 0, 0)), some (.getfield 39, 3, (6, 4, 58, 0)), nn, nn, some (.getfield 165, 3, (2, 1, 14, 0)), nn, nn, some (.istore_n 1, 1, (0, 0, 0, 0)), some (.aload_n 0, 1, (0, 0, 0, 0)), some (.getfield 39, 3, (6, 4, 58, 0)), nn, nn, some (.iconst 0, 1, (0, 0, 0, 0)), some (.putfield 165, 3, (2, 1, 14, 0))],
 [some (.iload_n 1, 1, (0, 0, 0, 0)), some (.ireturn, 1, (0, 0, 0, 0))]]
def pX6_pour : List (List (Option En)) := [[some (.aload_n 0, 1, (0, 0, 0, 0)), some (.iload_n 1, 1, (0, 0, 0, 0)), some (.invokevirtual 156, 3, (102, 2, 74, 0)), nn, nn, some (.ifCond .ne 5, 3, (10, 0, 0, 0)), nn, nn, some (.iconst (-1), 1, (0, 0, 0, 0)), some (.ireturn, 1, (0, 0, 0, 0)), some (.aload_n 0, 1, (0, 0, 0, 0)), some (.getfield 39, 3, (6, 4, 58, 0)), nn, nn, some (.aload_n 0, 1, (0, 0, 0, 0)), some (.getfield 46, 3, (6, 5, 59, 0))],
 [nn, nn, some (.getfield 162, 3, (0, 1, 21, 0)), nn, nn, some (.iload_n 1, 1, (0, 0, 0, 0)), some (.aaload, 1, (0, 0, 0, 0)), some (.invokevirtual 170, 3, (21, 2, 81, 0)), nn, nn, some (.aload_n 0, 1, (0, 0, 0, 0)), some (.getfield 46, 3, (6, 5, 59, 0)), nn, nn, some (.iload_n 1, 1, (0, 0, 0, 0)), some (.invokevirtual 174, 3, (3, 2, 82, 0))],
 [nn, nn, some (.ireturn, 1, (0, 0, 0, 0))]]
def pX6_stop : List (List (Option En)) := [[some (.iload_n 1, 1, (0, 0, 0, 0)), some (.invokestatic 177, 3, (100, 1, 84, 1)), nn, nn, some (.ifCond .eq 22, 3, (26, 0, 0, 0)), nn, nn, some (.iload_n 2, 1, (0, 0, 0, 0)), some (.invokestatic 180, 3, (101, 1, 85, 1)), nn, nn, some (.ifCond .eq 15, 3, (26, 0, 0, 0)), nn, nn, some (.aload_n 0, 1, (0, 0, 0, 0)), some (.getfield 39, 3, (6, 4, 58, 0))],
 [nn, nn, some (.iload_n 1, 1, (0, 0, 0, 0)), some (.iload_n 2, 1, (0, 0, 0, 0)), some (.invokevirtual 183, 3, (22, 3, 86, 0)), nn, nn, some (.goto 5, 3, (28, 0, 0, 0)), nn, nn, some (.bipush (-2), 2, (0, 0, 0, 0)), nn, some (.ireturn, 1, (0, 0, 0, 0))]]
def pX6_missed : List (List (Option En)) := [[some (.iload_n 1, 1, (0, 0, 0, 0)), some (.invokestatic 177, 3, (100, 1, 84, 1)), nn, nn, some (.ifCond .eq 10, 3, (14, 0, 0, 0)), nn, nn, some (.iload_n 2, 1, (0, 0, 0, 0)), some (.invokestatic 180, 3, (101, 1, 85, 1)), nn, nn, some (.ifCond .ne 6, 3, (17, 0, 0, 0)), nn, nn, some (.bipush (-2), 2, (0, 0, 0, 0))],
 [some (.ireturn, 1, (0, 0, 0, 0)), some (.aload_n 0, 1, (0, 0, 0, 0)), some (.getfield 39, 3, (6, 4, 58, 0)), nn, nn, some (.iload_n 1, 1, (0, 0, 0, 0)), some (.iload_n 2, 1, (0, 0, 0, 0)), some (.invokevirtual 183, 3, (22, 3, 86, 0)), nn, nn, some (.istore_n 3, 1, (0, 0, 0, 0)), some (.iload_n 3, 1, (0, 0, 0, 0)), some (.bipush (-9), 2, (0, 0, 0, 0)), nn, some (.if_icmp .ne 8, 3, (38, 0, 0, 0))],
 [nn, some (.bipush (-9), 2, (0, 0, 0, 0)), nn, some (.goto 11, 3, (46, 0, 0, 0)), nn, nn, some (.aload_n 0, 1, (0, 0, 0, 0)), some (.getfield 39, 3, (6, 4, 58, 0)), nn, nn, some (.iload_n 3, 1, (0, 0, 0, 0)), some (.invokevirtual 186, 3, (27, 2, 92, 0)), nn, nn, some (.ireturn, 1, (0, 0, 0, 0))]]
def pX6_share : List (List (Option En)) := [[some (.aload_n 0, 1, (0, 0, 0, 0)), some (.iload_n 1, 1, (0, 0, 0, 0)), some (.invokevirtual 156, 3, (102, 2, 74, 0)), nn, nn, some (.ifCond .eq 10, 3, (15, 0, 0, 0)), nn, nn, some (.iload_n 2, 1, (0, 0, 0, 0)), some (.invokestatic 82, 3, (94, 1, 51, 1)), nn, nn, some (.ifCond .ne 7, 3, (19, 0, 0, 0)), nn, nn, some (.ldc2_w 189, 3, (0, 0, 0, (-1)))],
 [nn, nn, some (.lreturn, 1, (0, 0, 0, 0)), some (.lconst 0, 1, (0, 0, 0, 0)), some (.lstore 4, 2, (0, 0, 0, 0)), nn, some (.iconst 0, 1, (0, 0, 0, 0)), some (.istore 6, 2, (0, 0, 0, 0)), nn, some (.iload 6, 2, (0, 0, 0, 0)), nn, some (.bipush 6, 2, (0, 0, 0, 0)), nn, some (.if_icmp .ge 21, 3, (50, 0, 0, 0))],
 [some (.lload 4, 2, (0, 0, 0, 0)), nn, some (.aload_n 0, 1, (0, 0, 0, 0)), some (.iload_n 1, 1, (0, 0, 0, 0)), some (.iload 6, 2, (0, 0, 0, 0)), nn, some (.invokevirtual 191, 3, (106, 3, 94, 0)), nn, nn, some (.ladd, 1, (0, 0, 0, 0)), some (.lstore 4, 2, (0, 0, 0, 0)), nn, some (.iinc 6 1, 3, (0, 0, 0, 0)), nn, nn, some (.goto (-22), 3, (25, 0, 0, 0))],
 [nn, nn, some (.lload 4, 2, (0, 0, 0, 0)), nn, some (.lconst 0, 1, (0, 0, 0, 0)), some (.lcmp, 1, (0, 0, 0, 0)), some (.ifCond .ne 9, 3, (63, 0, 0, 0)), nn, nn, some (.ldc2_w 195, 3, (0, 0, 2, (-3))), nn, nn, some (.goto 15, 3, (75, 0, 0, 0)), nn, nn, some (.aload_n 0, 1, (0, 0, 0, 0))],
 [some (.iload_n 1, 1, (0, 0, 0, 0)), some (.iload_n 2, 1, (0, 0, 0, 0)), some (.invokevirtual 191, 3, (106, 3, 94, 0)), nn, nn, some (.lload 4, 2, (0, 0, 0, 0)), nn, some (.iload_n 3, 1, (0, 0, 0, 0)), some (.invokestatic 197, 3, (103, 3, 96, 1)), nn, nn, some (.lreturn, 1, (0, 0, 0, 0))]]
def pX6_chance : List (List (Option En)) := [[some (.aload_n 0, 1, (0, 0, 0, 0)), some (.iload_n 1, 1, (0, 0, 0, 0)), some (.invokevirtual 156, 3, (102, 2, 74, 0)), nn, nn, some (.ifCond .eq 10, 3, (15, 0, 0, 0)), nn, nn, some (.iload_n 2, 1, (0, 0, 0, 0)), some (.invokestatic 106, 3, (98, 1, 61, 1)), nn, nn, some (.ifCond .ne 7, 3, (19, 0, 0, 0)), nn, nn, some (.ldc2_w 189, 3, (0, 0, 0, (-1)))],
 [nn, nn, some (.lreturn, 1, (0, 0, 0, 0)), some (.aload_n 0, 1, (0, 0, 0, 0)), some (.iload_n 1, 1, (0, 0, 0, 0)), some (.iload_n 2, 1, (0, 0, 0, 0)), some (.invokevirtual 201, 3, (108, 3, 99, 0)), nn, nn, some (.ifCond .ne 7, 3, (32, 0, 0, 0)), nn, nn, some (.ldc2_w 195, 3, (0, 0, 2, (-3))), nn, nn, some (.lreturn, 1, (0, 0, 0, 0))],
 [some (.aload_n 0, 1, (0, 0, 0, 0)), some (.iload_n 1, 1, (0, 0, 0, 0)), some (.iload_n 2, 1, (0, 0, 0, 0)), some (.invokevirtual 205, 3, (109, 3, 101, 0)), nn, nn, some (.aload_n 0, 1, (0, 0, 0, 0)), some (.iload_n 1, 1, (0, 0, 0, 0)), some (.iload_n 2, 1, (0, 0, 0, 0)), some (.invokevirtual 208, 3, (110, 3, 103, 0)), nn, nn, some (.iload_n 3, 1, (0, 0, 0, 0)), some (.invokestatic 197, 3, (103, 3, 96, 1))],
 [some (.lreturn, 1, (0, 0, 0, 0))]]
def pX6_odds : List (List (Option En)) := [[some (.aload_n 0, 1, (0, 0, 0, 0)), some (.iload_n 1, 1, (0, 0, 0, 0)), some (.invokevirtual 156, 3, (102, 2, 74, 0)), nn, nn, some (.ifCond .eq 10, 3, (15, 0, 0, 0)), nn, nn, some (.iload_n 2, 1, (0, 0, 0, 0)), some (.invokestatic 106, 3, (98, 1, 61, 1)), nn, nn, some (.ifCond .ne 7, 3, (19, 0, 0, 0)), nn, nn, some (.ldc2_w 189, 3, (0, 0, 0, (-1)))],
 [nn, nn, some (.lreturn, 1, (0, 0, 0, 0)), some (.aload_n 0, 1, (0, 0, 0, 0)), some (.iload_n 1, 1, (0, 0, 0, 0)), some (.invokevirtual 211, 3, (113, 2, 106, 0)), nn, nn, some (.lstore 4, 2, (0, 0, 0, 0)), nn, some (.lload 4, 2, (0, 0, 0, 0)), nn, some (.lconst 0, 1, (0, 0, 0, 0)), some (.lcmp, 1, (0, 0, 0, 0)), some (.ifCond .ne 9, 3, (39, 0, 0, 0))],
 [nn, some (.ldc2_w 195, 3, (0, 0, 2, (-3))), nn, nn, some (.goto 15, 3, (51, 0, 0, 0)), nn, nn, some (.aload_n 0, 1, (0, 0, 0, 0)), some (.iload_n 1, 1, (0, 0, 0, 0)), some (.iload_n 2, 1, (0, 0, 0, 0)), some (.invokevirtual 215, 3, (112, 3, 107, 0)), nn, nn, some (.lload 4, 2, (0, 0, 0, 0)), nn, some (.iload_n 3, 1, (0, 0, 0, 0))],
 [some (.invokestatic 197, 3, (103, 3, 96, 1)), nn, nn, some (.lreturn, 1, (0, 0, 0, 0))]]
def pX6_likeliest : List (List (Option En)) := [[some (.aload_n 0, 1, (0, 0, 0, 0)), some (.iload_n 1, 1, (0, 0, 0, 0)), some (.invokevirtual 156, 3, (102, 2, 74, 0)), nn, nn, some (.ifCond .ne 5, 3, (10, 0, 0, 0)), nn, nn, some (.iconst (-1), 1, (0, 0, 0, 0)), some (.ireturn, 1, (0, 0, 0, 0)), some (.aload_n 0, 1, (0, 0, 0, 0)), some (.iload_n 1, 1, (0, 0, 0, 0)), some (.invokevirtual 211, 3, (113, 2, 106, 0)), nn, nn, some (.lconst 0, 1, (0, 0, 0, 0))],
 [some (.lcmp, 1, (0, 0, 0, 0)), some (.ifCond .ne 8, 3, (25, 0, 0, 0)), nn, nn, some (.bipush (-3), 2, (0, 0, 0, 0)), nn, some (.goto 8, 3, (30, 0, 0, 0)), nn, nn, some (.aload_n 0, 1, (0, 0, 0, 0)), some (.iload_n 1, 1, (0, 0, 0, 0)), some (.invokevirtual 218, 3, (114, 2, 110, 0)), nn, nn, some (.ireturn, 1, (0, 0, 0, 0))]]
def pX6_far : List (List (Option En)) := [[some (.aload_n 0, 1, (0, 0, 0, 0)), some (.iload_n 1, 1, (0, 0, 0, 0)), some (.invokevirtual 156, 3, (102, 2, 74, 0)), nn, nn, some (.ifCond .ne 7, 3, (12, 0, 0, 0)), nn, nn, some (.ldc2_w 189, 3, (0, 0, 0, (-1))), nn, nn, some (.lreturn, 1, (0, 0, 0, 0)), some (.aload_n 0, 1, (0, 0, 0, 0)), some (.iload_n 1, 1, (0, 0, 0, 0)), some (.invokevirtual 211, 3, (113, 2, 106, 0))],
 [nn, some (.lstore_n 3, 1, (0, 0, 0, 0)), some (.lload_n 3, 1, (0, 0, 0, 0)), some (.lconst 0, 1, (0, 0, 0, 0)), some (.lcmp, 1, (0, 0, 0, 0)), some (.ifCond .ne 7, 3, (28, 0, 0, 0)), nn, nn, some (.ldc2_w 195, 3, (0, 0, 2, (-3))), nn, nn, some (.lreturn, 1, (0, 0, 0, 0)), some (.lconst 0, 1, (0, 0, 0, 0)), some (.lstore 5, 2, (0, 0, 0, 0)), nn, some (.iconst 0, 1, (0, 0, 0, 0))],
 [some (.istore 7, 2, (0, 0, 0, 0)), nn, some (.iload 7, 2, (0, 0, 0, 0)), nn, some (.iconst 4, 1, (0, 0, 0, 0)), some (.if_icmp .ge 33, 3, (70, 0, 0, 0)), nn, nn, some (.lload 5, 2, (0, 0, 0, 0)), nn, some (.aload_n 0, 1, (0, 0, 0, 0)), some (.getfield 32, 3, (6, 3, 57, 0)), nn, nn, some (.iload 7, 2, (0, 0, 0, 0))],
 [some (.aaload, 1, (0, 0, 0, 0)), some (.getfield 112, 3, (4, 0, 34, 0)), nn, nn, some (.i2l, 1, (0, 0, 0, 0)), some (.aload_n 0, 1, (0, 0, 0, 0)), some (.iload_n 1, 1, (0, 0, 0, 0)), some (.iload 7, 2, (0, 0, 0, 0)), nn, some (.invokevirtual 215, 3, (112, 3, 107, 0)), nn, nn, some (.lmul, 1, (0, 0, 0, 0)), some (.ladd, 1, (0, 0, 0, 0)), some (.lstore 5, 2, (0, 0, 0, 0))],
 [some (.iinc 7 1, 3, (0, 0, 0, 0)), nn, nn, some (.goto (-33), 3, (34, 0, 0, 0)), nn, nn, some (.lload 5, 2, (0, 0, 0, 0)), nn, some (.lload_n 3, 1, (0, 0, 0, 0)), some (.iload_n 2, 1, (0, 0, 0, 0)), some (.invokestatic 197, 3, (103, 3, 96, 1)), nn, nn, some (.lreturn, 1, (0, 0, 0, 0))]]
def pX6_lacks : List (List (Option En)) := [[some (.aload_n 0, 1, (0, 0, 0, 0)), some (.iload_n 1, 1, (0, 0, 0, 0)), some (.invokevirtual 156, 3, (102, 2, 74, 0)), nn, nn, some (.ifCond .eq 17, 3, (22, 0, 0, 0)), nn, nn, some (.iload_n 2, 1, (0, 0, 0, 0)), some (.invokestatic 106, 3, (98, 1, 61, 1)), nn, nn, some (.ifCond .eq 10, 3, (22, 0, 0, 0)), nn, nn, some (.iload_n 3, 1, (0, 0, 0, 0))],
 [some (.invokestatic 82, 3, (94, 1, 51, 1)), nn, nn, some (.ifCond .ne 5, 3, (24, 0, 0, 0)), nn, nn, some (.iconst (-1), 1, (0, 0, 0, 0)), some (.ireturn, 1, (0, 0, 0, 0)), some (.aload_n 0, 1, (0, 0, 0, 0)), some (.getfield 32, 3, (6, 3, 57, 0)), nn, nn, some (.iload_n 2, 1, (0, 0, 0, 0)), some (.aaload, 1, (0, 0, 0, 0)), some (.astore 4, 2, (0, 0, 0, 0))],
 [some (.aload_n 0, 1, (0, 0, 0, 0)), some (.getfield 46, 3, (6, 5, 59, 0)), nn, nn, some (.getfield 162, 3, (0, 1, 21, 0)), nn, nn, some (.iload_n 1, 1, (0, 0, 0, 0)), some (.aaload, 1, (0, 0, 0, 0)), some (.iload_n 3, 1, (0, 0, 0, 0)), some (.iaload, 1, (0, 0, 0, 0)), some (.ifCond .gt 16, 3, (59, 0, 0, 0)), nn, nn, some (.aload 4, 2, (0, 0, 0, 0))],
 [some (.aload_n 0, 1, (0, 0, 0, 0)), some (.getfield 26, 3, (6, 2, 56, 0)), nn, nn, some (.iload_n 3, 1, (0, 0, 0, 0)), some (.invokevirtual 221, 3, (41, 3, 113, 0)), nn, nn, some (.ifCond .ne 5, 3, (61, 0, 0, 0)), nn, nn, some (.iconst 0, 1, (0, 0, 0, 0)), some (.ireturn, 1, (0, 0, 0, 0)), some (.aload 4, 2, (0, 0, 0, 0)), nn, some (.getfield 125, 3, (4, 3, 40, 0))],
 [nn, nn, some (.iload_n 3, 1, (0, 0, 0, 0)), some (.if_icmp .ne 5, 3, (72, 0, 0, 0)), nn, nn, some (.iconst 1, 1, (0, 0, 0, 0)), some (.ireturn, 1, (0, 0, 0, 0)), some (.aload 4, 2, (0, 0, 0, 0)), nn, some (.iload_n 3, 1, (0, 0, 0, 0)), some (.invokevirtual 225, 3, (40, 2, 114, 0)), nn, nn, some (.ifCond .ne 5, 3, (83, 0, 0, 0))],
 [nn, some (.iconst 2, 1, (0, 0, 0, 0)), some (.ireturn, 1, (0, 0, 0, 0)), some (.aload 4, 2, (0, 0, 0, 0)), nn, some (.getfield 136, 3, (4, 6, 46, 0)), nn, nn, some (.iload_n 3, 1, (0, 0, 0, 0)), some (.iaload, 1, (0, 0, 0, 0)), some (.ifCond .ne 5, 3, (95, 0, 0, 0)), nn, nn, some (.iconst 3, 1, (0, 0, 0, 0)), some (.ireturn, 1, (0, 0, 0, 0)), some (.aload 4, 2, (0, 0, 0, 0))],
 [nn, some (.getfield 139, 3, (4, 7, 48, 0)), nn, nn, some (.iload_n 3, 1, (0, 0, 0, 0)), some (.iaload, 1, (0, 0, 0, 0)), some (.ifCond .ne 7, 3, (109, 0, 0, 0)), nn, nn, some (.iconst 4, 1, (0, 0, 0, 0)), some (.goto 4, 3, (110, 0, 0, 0)), nn, nn, some (.iconst 5, 1, (0, 0, 0, 0)), some (.ireturn, 1, (0, 0, 0, 0))]]
def pX6_next : List (List (Option En)) := [[some (.bipush (-9), 2, (0, 0, 0, 0)), nn, some (.istore_n 1, 1, (0, 0, 0, 0)), some (.lconst 0, 1, (0, 0, 0, 0)), some (.lstore_n 2, 1, (0, 0, 0, 0)), some (.lconst 1, 1, (0, 0, 0, 0)), some (.lstore 4, 2, (0, 0, 0, 0)), nn, some (.iconst 0, 1, (0, 0, 0, 0)), some (.istore 6, 2, (0, 0, 0, 0)), nn, some (.iload 6, 2, (0, 0, 0, 0)), nn, some (.aload_n 0, 1, (0, 0, 0, 0)), some (.getfield 46, 3, (6, 5, 59, 0))],
 [nn, some (.getfield 149, 3, (0, 0, 19, 0)), nn, nn, some (.if_icmp .ge 79, 3, (99, 0, 0, 0)), nn, nn, some (.aload_n 0, 1, (0, 0, 0, 0)), some (.iload 6, 2, (0, 0, 0, 0)), nn, some (.invokevirtual 211, 3, (113, 2, 106, 0)), nn, nn, some (.lstore 7, 2, (0, 0, 0, 0)), nn, some (.lload 7, 2, (0, 0, 0, 0))],
 [nn, some (.lconst 0, 1, (0, 0, 0, 0)), some (.lcmp, 1, (0, 0, 0, 0)), some (.ifCond .ne 7, 3, (42, 0, 0, 0)), nn, nn, some (.lconst 0, 1, (0, 0, 0, 0)), some (.goto 15, 3, (54, 0, 0, 0)), nn, nn, some (.aload_n 0, 1, (0, 0, 0, 0)), some (.iload 6, 2, (0, 0, 0, 0)), nn, some (.aload_n 0, 1, (0, 0, 0, 0)), some (.iload 6, 2, (0, 0, 0, 0))],
 [some (.invokevirtual 218, 3, (114, 2, 110, 0)), nn, nn, some (.invokevirtual 215, 3, (112, 3, 107, 0)), nn, nn, some (.lstore 9, 2, (0, 0, 0, 0)), nn, some (.lload 7, 2, (0, 0, 0, 0)), nn, some (.lconst 1, 1, (0, 0, 0, 0)), some (.invokestatic 228, 3, (1003, 2, 116, 7)), nn, nn, some (.lstore 7, 2, (0, 0, 0, 0))],
 [some (.iload_n 1, 1, (0, 0, 0, 0)), some (.bipush (-9), 2, (0, 0, 0, 0)), nn, some (.if_icmp .eq 16, 3, (83, 0, 0, 0)), nn, nn, some (.lload 9, 2, (0, 0, 0, 0)), nn, some (.lload 4, 2, (0, 0, 0, 0)), nn, some (.lmul, 1, (0, 0, 0, 0)), some (.lload_n 2, 1, (0, 0, 0, 0)), some (.lload 7, 2, (0, 0, 0, 0)), nn, some (.lmul, 1, (0, 0, 0, 0)), some (.lcmp, 1, (0, 0, 0, 0))],
 [some (.ifCond .ge 13, 3, (93, 0, 0, 0)), nn, nn, some (.iload 6, 2, (0, 0, 0, 0)), nn, some (.istore_n 1, 1, (0, 0, 0, 0)), some (.lload 9, 2, (0, 0, 0, 0)), nn, some (.lstore_n 2, 1, (0, 0, 0, 0)), some (.lload 7, 2, (0, 0, 0, 0)), nn, some (.lstore 4, 2, (0, 0, 0, 0)), nn, some (.iinc 6 1, 3, (0, 0, 0, 0))],
 [some (.goto (-85), 3, (11, 0, 0, 0)), nn, nn, some (.iload_n 1, 1, (0, 0, 0, 0)), some (.ireturn, 1, (0, 0, 0, 0))]]
def pX6_twig : List (List (Option En)) := [[some (.aload_n 0, 1, (0, 0, 0, 0)), some (.iload_n 1, 1, (0, 0, 0, 0)), some (.invokevirtual 156, 3, (102, 2, 74, 0)), nn, nn, some (.ifCond .ne 5, 3, (10, 0, 0, 0)), nn, nn, some (.iconst (-1), 1, (0, 0, 0, 0)), some (.ireturn, 1, (0, 0, 0, 0)), some (.iload_n 2, 1, (0, 0, 0, 0)), some (.iconst 1, 1, (0, 0, 0, 0)), some (.if_icmp .lt 20, 3, (32, 0, 0, 0)), nn, nn, some (.iload_n 2, 1, (0, 0, 0, 0))],
 [some (.bipush 99, 2, (0, 0, 0, 0)), nn, some (.if_icmp .gt 14, 3, (32, 0, 0, 0)), nn, nn, some (.iload_n 3, 1, (0, 0, 0, 0)), some (.iconst 1, 1, (0, 0, 0, 0)), some (.if_icmp .lt 9, 3, (32, 0, 0, 0)), nn, nn, some (.iload_n 3, 1, (0, 0, 0, 0)), some (.bipush 99, 2, (0, 0, 0, 0)), nn, some (.if_icmp .le 6, 3, (35, 0, 0, 0))],
 [some (.bipush (-2), 2, (0, 0, 0, 0)), nn, some (.ireturn, 1, (0, 0, 0, 0)), some (.aload_n 0, 1, (0, 0, 0, 0)), some (.getfield 46, 3, (6, 5, 59, 0)), nn, nn, some (.getfield 234, 3, (0, 2, 23, 0)), nn, nn, some (.bipush 16, 2, (0, 0, 0, 0)), nn, some (.if_icmp .lt 6, 3, (50, 0, 0, 0)), nn, nn, some (.bipush (-4), 2, (0, 0, 0, 0))],
 [nn, some (.ireturn, 1, (0, 0, 0, 0)), some (.iload_n 2, 1, (0, 0, 0, 0)), some (.iload_n 2, 1, (0, 0, 0, 0)), some (.imul, 1, (0, 0, 0, 0)), some (.iload_n 3, 1, (0, 0, 0, 0)), some (.iload_n 3, 1, (0, 0, 0, 0)), some (.imul, 1, (0, 0, 0, 0)), some (.iadd, 1, (0, 0, 0, 0)), some (.iload_n 3, 1, (0, 0, 0, 0)), some (.idiv, 1, (0, 0, 0, 0)), some (.istore 4, 2, (0, 0, 0, 0)), nn, some (.aload_n 0, 1, (0, 0, 0, 0)), some (.getfield 46, 3, (6, 5, 59, 0))],
 [nn, some (.iload_n 1, 1, (0, 0, 0, 0)), some (.iload 4, 2, (0, 0, 0, 0)), nn, some (.invokevirtual 237, 3, (4, 3, 118, 0)), nn, nn, some (.iload 4, 2, (0, 0, 0, 0)), nn, some (.ireturn, 1, (0, 0, 0, 0))]]
def pX6_thins : List (List (Option En)) := [[some (.aload_n 0, 1, (0, 0, 0, 0)), some (.iload_n 1, 1, (0, 0, 0, 0)), some (.invokevirtual 156, 3, (102, 2, 74, 0)), nn, nn, some (.ifCond .ne 5, 3, (10, 0, 0, 0)), nn, nn, some (.iconst (-1), 1, (0, 0, 0, 0)), some (.ireturn, 1, (0, 0, 0, 0)), some (.aload_n 0, 1, (0, 0, 0, 0)), some (.iload_n 1, 1, (0, 0, 0, 0)), some (.iconst 1, 1, (0, 0, 0, 0)), some (.iadd, 1, (0, 0, 0, 0)), some (.invokevirtual 156, 3, (102, 2, 74, 0))],
 [nn, some (.ifCond .eq 29, 3, (46, 0, 0, 0)), nn, nn, some (.aload_n 0, 1, (0, 0, 0, 0)), some (.getfield 46, 3, (6, 5, 59, 0)), nn, nn, some (.getfield 241, 3, (0, 3, 25, 0)), nn, nn, some (.iload_n 1, 1, (0, 0, 0, 0)), some (.iaload, 1, (0, 0, 0, 0)), some (.ifCond .eq 17, 3, (46, 0, 0, 0))],
 [some (.aload_n 0, 1, (0, 0, 0, 0)), some (.getfield 46, 3, (6, 5, 59, 0)), nn, nn, some (.getfield 241, 3, (0, 3, 25, 0)), nn, nn, some (.iload_n 1, 1, (0, 0, 0, 0)), some (.iconst 1, 1, (0, 0, 0, 0)), some (.iadd, 1, (0, 0, 0, 0)), some (.iaload, 1, (0, 0, 0, 0)), some (.ifCond .ne 6, 3, (49, 0, 0, 0)), nn, nn, some (.bipush (-3), 2, (0, 0, 0, 0))],
 [some (.ireturn, 1, (0, 0, 0, 0)), some (.aload_n 0, 1, (0, 0, 0, 0)), some (.getfield 46, 3, (6, 5, 59, 0)), nn, nn, some (.iload_n 1, 1, (0, 0, 0, 0)), some (.iload_n 1, 1, (0, 0, 0, 0)), some (.iconst 1, 1, (0, 0, 0, 0)), some (.iadd, 1, (0, 0, 0, 0)), some (.invokevirtual 244, 3, (5, 3, 120, 0)), nn, nn, some (.ifCond .eq 7, 3, (67, 0, 0, 0)), nn, nn, some (.iconst 1, 1, (0, 0, 0, 0))],
 [some (.goto 4, 3, (68, 0, 0, 0)), nn, nn, some (.iconst 0, 1, (0, 0, 0, 0)), some (.ireturn, 1, (0, 0, 0, 0))]]
def pX6_longest : List (List (Option En)) := [[some (.aload_n 0, 1, (0, 0, 0, 0)), some (.getfield 46, 3, (6, 5, 59, 0)), nn, nn, some (.invokevirtual 247, 3, (6, 1, 122, 0)), nn, nn, some (.ireturn, 1, (0, 0, 0, 0))]]
def pX6_beam : List (List (Option En)) := [[some (.aload_n 0, 1, (0, 0, 0, 0)), some (.iload_n 1, 1, (0, 0, 0, 0)), some (.invokevirtual 156, 3, (102, 2, 74, 0)), nn, nn, some (.ifCond .ne 5, 3, (10, 0, 0, 0)), nn, nn, some (.iconst (-1), 1, (0, 0, 0, 0)), some (.ireturn, 1, (0, 0, 0, 0)), some (.iload_n 2, 1, (0, 0, 0, 0)), some (.iconst 1, 1, (0, 0, 0, 0)), some (.if_icmp .lt 21, 3, (33, 0, 0, 0)), nn, nn, some (.iload_n 2, 1, (0, 0, 0, 0))],
 [some (.sipush 300, 3, (0, 0, 0, 0)), nn, nn, some (.if_icmp .gt 14, 3, (33, 0, 0, 0)), nn, nn, some (.iload_n 3, 1, (0, 0, 0, 0)), some (.ifCond .lt 10, 3, (33, 0, 0, 0)), nn, nn, some (.iload_n 3, 1, (0, 0, 0, 0)), some (.sipush 3000, 3, (0, 0, 0, 0)), nn, nn, some (.if_icmp .le 6, 3, (36, 0, 0, 0))],
 [nn, some (.bipush (-2), 2, (0, 0, 0, 0)), nn, some (.ireturn, 1, (0, 0, 0, 0)), some (.aload_n 0, 1, (0, 0, 0, 0)), some (.getfield 46, 3, (6, 5, 59, 0)), nn, nn, some (.getfield 250, 3, (0, 5, 28, 0)), nn, nn, some (.bipush 8, 2, (0, 0, 0, 0)), nn, some (.if_icmp .lt 6, 3, (51, 0, 0, 0))],
 [some (.bipush (-4), 2, (0, 0, 0, 0)), nn, some (.ireturn, 1, (0, 0, 0, 0)), some (.iload 4, 2, (0, 0, 0, 0)), nn, some (.ifCond .eq 11, 3, (64, 0, 0, 0)), nn, nn, some (.iload_n 3, 1, (0, 0, 0, 0)), some (.iload_n 2, 1, (0, 0, 0, 0)), some (.iadd, 1, (0, 0, 0, 0)), some (.iconst 1, 1, (0, 0, 0, 0)), some (.isub, 1, (0, 0, 0, 0)), some (.goto 4, 3, (65, 0, 0, 0))],
 [some (.iload_n 3, 1, (0, 0, 0, 0)), some (.istore 5, 2, (0, 0, 0, 0)), nn, some (.aload_n 0, 1, (0, 0, 0, 0)), some (.getfield 46, 3, (6, 5, 59, 0)), nn, nn, some (.iload_n 1, 1, (0, 0, 0, 0)), some (.iload 5, 2, (0, 0, 0, 0)), nn, some (.invokevirtual 253, 3, (7, 3, 126, 0)), nn, nn, some (.iload 5, 2, (0, 0, 0, 0)), nn, some (.ireturn, 1, (0, 0, 0, 0))]]
def pX6_earliest : List (List (Option En)) := [[some (.aload_n 0, 1, (0, 0, 0, 0)), some (.iload_n 1, 1, (0, 0, 0, 0)), some (.invokevirtual 156, 3, (102, 2, 74, 0)), nn, nn, some (.ifCond .eq 14, 3, (19, 0, 0, 0)), nn, nn, some (.aload_n 0, 1, (0, 0, 0, 0)), some (.getfield 46, 3, (6, 5, 59, 0)), nn, nn, some (.iload_n 1, 1, (0, 0, 0, 0)), some (.invokevirtual 256, 3, (8, 2, 128, 0))],
 [some (.goto 4, 3, (20, 0, 0, 0)), nn, nn, some (.iconst (-1), 1, (0, 0, 0, 0)), some (.ireturn, 1, (0, 0, 0, 0))]]
def pX6_tooOld : List (List (Option En)) := [[some (.iload_n 1, 1, (0, 0, 0, 0)), some (.ifCond .lt 14, 3, (15, 0, 0, 0)), nn, nn, some (.iload_n 1, 1, (0, 0, 0, 0)), some (.aload_n 0, 1, (0, 0, 0, 0)), some (.getfield 46, 3, (6, 5, 59, 0)), nn, nn, some (.getfield 250, 3, (0, 5, 28, 0)), nn, nn, some (.if_icmp .lt 5, 3, (17, 0, 0, 0)), nn, nn, some (.iconst (-1), 1, (0, 0, 0, 0))],
 [some (.ireturn, 1, (0, 0, 0, 0)), some (.aload_n 0, 1, (0, 0, 0, 0)), some (.getfield 46, 3, (6, 5, 59, 0)), nn, nn, some (.aload_n 0, 1, (0, 0, 0, 0)), some (.getfield 46, 3, (6, 5, 59, 0)), nn, nn, some (.getfield 259, 3, (0, 6, 30, 0)), nn, nn, some (.iload_n 1, 1, (0, 0, 0, 0)), some (.iaload, 1, (0, 0, 0, 0)), some (.invokevirtual 256, 3, (8, 2, 128, 0))],
 [nn, some (.aload_n 0, 1, (0, 0, 0, 0)), some (.getfield 46, 3, (6, 5, 59, 0)), nn, nn, some (.getfield 262, 3, (0, 7, 32, 0)), nn, nn, some (.iload_n 1, 1, (0, 0, 0, 0)), some (.iaload, 1, (0, 0, 0, 0)), some (.isub, 1, (0, 0, 0, 0)), some (.ireturn, 1, (0, 0, 0, 0))]]
def pX6_keep : List (List (Option En)) := [[some (.iload_n 1, 1, (0, 0, 0, 0)), some (.invokestatic 265, 3, (99, 1, 131, 1)), nn, nn, some (.ifCond .ne 5, 3, (9, 0, 0, 0)), nn, nn, some (.iconst (-1), 1, (0, 0, 0, 0)), some (.ireturn, 1, (0, 0, 0, 0)), some (.aload_n 0, 1, (0, 0, 0, 0)), some (.getfield 50, 3, (6, 6, 60, 0)), nn, nn, some (.iload_n 1, 1, (0, 0, 0, 0)), some (.aaload, 1, (0, 0, 0, 0)), some (.aload_n 0, 1, (0, 0, 0, 0))],
 [some (.getfield 46, 3, (6, 5, 59, 0)), nn, nn, some (.invokevirtual 268, 3, (9, 2, 132, 0)), nn, nn, some (.aload_n 0, 1, (0, 0, 0, 0)), some (.getfield 54, 3, (6, 7, 61, 0)), nn, nn, some (.iload_n 1, 1, (0, 0, 0, 0)), some (.iconst 1, 1, (0, 0, 0, 0)), some (.bastore, 1, (0, 0, 0, 0)), some (.aload_n 0, 1, (0, 0, 0, 0)), some (.getfield 46, 3, (6, 5, 59, 0))],
 [nn, some (.getfield 149, 3, (0, 0, 19, 0)), nn, nn, some (.ireturn, 1, (0, 0, 0, 0))]]
def pX6_again : List (List (Option En)) := [[some (.iload_n 1, 1, (0, 0, 0, 0)), some (.invokestatic 265, 3, (99, 1, 131, 1)), nn, nn, some (.ifCond .ne 5, 3, (9, 0, 0, 0)), nn, nn, some (.iconst (-1), 1, (0, 0, 0, 0)), some (.ireturn, 1, (0, 0, 0, 0)), some (.aload_n 0, 1, (0, 0, 0, 0)), some (.getfield 54, 3, (6, 7, 61, 0)), nn, nn, some (.iload_n 1, 1, (0, 0, 0, 0)), some (.baload, 1, (0, 0, 0, 0)), some (.ifCond .ne 6, 3, (21, 0, 0, 0))],
 [nn, nn, some (.bipush (-3), 2, (0, 0, 0, 0)), nn, some (.ireturn, 1, (0, 0, 0, 0)), some (.aload_n 0, 1, (0, 0, 0, 0)), some (.getfield 46, 3, (6, 5, 59, 0)), nn, nn, some (.aload_n 0, 1, (0, 0, 0, 0)), some (.getfield 50, 3, (6, 6, 60, 0)), nn, nn, some (.iload_n 1, 1, (0, 0, 0, 0)), some (.aaload, 1, (0, 0, 0, 0)), some (.invokevirtual 268, 3, (9, 2, 132, 0))],
 [nn, nn, some (.aload_n 0, 1, (0, 0, 0, 0)), some (.getfield 46, 3, (6, 5, 59, 0)), nn, nn, some (.getfield 149, 3, (0, 0, 19, 0)), nn, nn, some (.ireturn, 1, (0, 0, 0, 0))]]
def pX6_all : List (List (Option En)) := [[some (.iload_n 1, 1, (0, 0, 0, 0)), some (.tableswitch 87 0 5 #[39, 47, 55, 63, 71, 79], 39, (0, 0, 0, 0))],
 [],
 [nn, nn, nn, nn, nn, nn, nn, nn, some (.aload_n 0, 1, (0, 0, 0, 0)), some (.getfield 12, 3, (6, 0, 54, 0)), nn, nn, some (.getfield 59, 3, (3, 1, 4, 0)), nn, nn, some (.ireturn, 1, (0, 0, 0, 0))],
 [some (.aload_n 0, 1, (0, 0, 0, 0)), some (.getfield 46, 3, (6, 5, 59, 0)), nn, nn, some (.getfield 149, 3, (0, 0, 19, 0)), nn, nn, some (.ireturn, 1, (0, 0, 0, 0)), some (.aload_n 0, 1, (0, 0, 0, 0)), some (.getfield 39, 3, (6, 4, 58, 0)), nn, nn, some (.getfield 165, 3, (2, 1, 14, 0)), nn, nn, some (.ireturn, 1, (0, 0, 0, 0))],
 [some (.aload_n 0, 1, (0, 0, 0, 0)), some (.getfield 46, 3, (6, 5, 59, 0)), nn, nn, some (.getfield 234, 3, (0, 2, 23, 0)), nn, nn, some (.ireturn, 1, (0, 0, 0, 0)), some (.aload_n 0, 1, (0, 0, 0, 0)), some (.getfield 46, 3, (6, 5, 59, 0)), nn, nn, some (.getfield 250, 3, (0, 5, 28, 0)), nn, nn, some (.ireturn, 1, (0, 0, 0, 0))],
 [some (.aload_n 0, 1, (0, 0, 0, 0)), some (.getfield 26, 3, (6, 2, 56, 0)), nn, nn, some (.invokevirtual 272, 3, (55, 1, 136, 0)), nn, nn, some (.ireturn, 1, (0, 0, 0, 0)), some (.bipush (-2), 2, (0, 0, 0, 0)), nn, some (.ireturn, 1, (0, 0, 0, 0))]]
def pX6_isSort : List (List (Option En)) := [[some (.iload_n 0, 1, (0, 0, 0, 0)), some (.ifCond .lt 13, 3, (14, 0, 0, 0)), nn, nn, some (.iload_n 0, 1, (0, 0, 0, 0)), some (.bipush 6, 2, (0, 0, 0, 0)), nn, some (.if_icmp .ge 7, 3, (14, 0, 0, 0)), nn, nn, some (.iconst 1, 1, (0, 0, 0, 0)), some (.goto 4, 3, (15, 0, 0, 0)), nn, nn, some (.iconst 0, 1, (0, 0, 0, 0)), some (.ireturn, 1, (0, 0, 0, 0))]]
def pX6_isSortOrNone : List (List (Option En)) := [[some (.iload_n 0, 1, (0, 0, 0, 0)), some (.bipush (-9), 2, (0, 0, 0, 0)), nn, some (.if_icmp .eq 10, 3, (13, 0, 0, 0)), nn, nn, some (.iload_n 0, 1, (0, 0, 0, 0)), some (.invokestatic 82, 3, (94, 1, 51, 1)), nn, nn, some (.ifCond .eq 7, 3, (17, 0, 0, 0)), nn, nn, some (.iconst 1, 1, (0, 0, 0, 0)), some (.goto 4, 3, (18, 0, 0, 0))],
 [nn, some (.iconst 0, 1, (0, 0, 0, 0)), some (.ireturn, 1, (0, 0, 0, 0))]]
def pX6_isSortOrUnsaid : List (List (Option En)) := [[some (.iload_n 0, 1, (0, 0, 0, 0)), some (.bipush 6, 2, (0, 0, 0, 0)), nn, some (.if_icmp .eq 10, 3, (13, 0, 0, 0)), nn, nn, some (.iload_n 0, 1, (0, 0, 0, 0)), some (.invokestatic 82, 3, (94, 1, 51, 1)), nn, nn, some (.ifCond .eq 7, 3, (17, 0, 0, 0)), nn, nn, some (.iconst 1, 1, (0, 0, 0, 0)), some (.goto 4, 3, (18, 0, 0, 0))],
 [nn, some (.iconst 0, 1, (0, 0, 0, 0)), some (.ireturn, 1, (0, 0, 0, 0))]]
def pX6_isPlace : List (List (Option En)) := [[some (.iload_n 0, 1, (0, 0, 0, 0)), some (.ifCond .lt 12, 3, (13, 0, 0, 0)), nn, nn, some (.iload_n 0, 1, (0, 0, 0, 0)), some (.iconst 4, 1, (0, 0, 0, 0)), some (.if_icmp .ge 7, 3, (13, 0, 0, 0)), nn, nn, some (.iconst 1, 1, (0, 0, 0, 0)), some (.goto 4, 3, (14, 0, 0, 0)), nn, nn, some (.iconst 0, 1, (0, 0, 0, 0)), some (.ireturn, 1, (0, 0, 0, 0))]]
def pX6_isWay : List (List (Option En)) := [[some (.iload_n 0, 1, (0, 0, 0, 0)), some (.ifCond .lt 12, 3, (13, 0, 0, 0)), nn, nn, some (.iload_n 0, 1, (0, 0, 0, 0)), some (.iconst 4, 1, (0, 0, 0, 0)), some (.if_icmp .ge 7, 3, (13, 0, 0, 0)), nn, nn, some (.iconst 1, 1, (0, 0, 0, 0)), some (.goto 4, 3, (14, 0, 0, 0)), nn, nn, some (.iconst 0, 1, (0, 0, 0, 0)), some (.ireturn, 1, (0, 0, 0, 0))]]
def pX6_isSlot : List (List (Option En)) := [[some (.iload_n 0, 1, (0, 0, 0, 0)), some (.ifCond .lt 12, 3, (13, 0, 0, 0)), nn, nn, some (.iload_n 0, 1, (0, 0, 0, 0)), some (.iconst 2, 1, (0, 0, 0, 0)), some (.if_icmp .ge 7, 3, (13, 0, 0, 0)), nn, nn, some (.iconst 1, 1, (0, 0, 0, 0)), some (.goto 4, 3, (14, 0, 0, 0)), nn, nn, some (.iconst 0, 1, (0, 0, 0, 0)), some (.ireturn, 1, (0, 0, 0, 0))]]
def pX6_isRule : List (List (Option En)) := [[some (.iload_n 0, 1, (0, 0, 0, 0)), some (.ifCond .lt 12, 3, (13, 0, 0, 0)), nn, nn, some (.iload_n 0, 1, (0, 0, 0, 0)), some (.iconst 2, 1, (0, 0, 0, 0)), some (.if_icmp .gt 7, 3, (13, 0, 0, 0)), nn, nn, some (.iconst 1, 1, (0, 0, 0, 0)), some (.goto 4, 3, (14, 0, 0, 0)), nn, nn, some (.iconst 0, 1, (0, 0, 0, 0)), some (.ireturn, 1, (0, 0, 0, 0))]]
def pX6_isRuleNumber : List (List (Option En)) := [[some (.iload_n 0, 1, (0, 0, 0, 0)), some (.iconst 1, 1, (0, 0, 0, 0)), some (.if_icmp .lt 13, 3, (15, 0, 0, 0)), nn, nn, some (.iload_n 0, 1, (0, 0, 0, 0)), some (.bipush 48, 2, (0, 0, 0, 0)), nn, some (.if_icmp .gt 7, 3, (15, 0, 0, 0)), nn, nn, some (.iconst 1, 1, (0, 0, 0, 0)), some (.goto 4, 3, (16, 0, 0, 0)), nn, nn, some (.iconst 0, 1, (0, 0, 0, 0))],
 [some (.ireturn, 1, (0, 0, 0, 0))]]
def pX6_isLayer : List (List (Option En)) := [[some (.iload_n 1, 1, (0, 0, 0, 0)), some (.ifCond .lt 18, 3, (19, 0, 0, 0)), nn, nn, some (.iload_n 1, 1, (0, 0, 0, 0)), some (.aload_n 0, 1, (0, 0, 0, 0)), some (.getfield 46, 3, (6, 5, 59, 0)), nn, nn, some (.getfield 149, 3, (0, 0, 19, 0)), nn, nn, some (.if_icmp .ge 7, 3, (19, 0, 0, 0)), nn, nn, some (.iconst 1, 1, (0, 0, 0, 0))],
 [some (.goto 4, 3, (20, 0, 0, 0)), nn, nn, some (.iconst 0, 1, (0, 0, 0, 0)), some (.ireturn, 1, (0, 0, 0, 0))]]
def pX6_inLeastTerms : List (List (Option En)) := [[some (.lload_n 0, 1, (0, 0, 0, 0)), some (.lload_n 2, 1, (0, 0, 0, 0)), some (.invokestatic 275, 3, (104, 2, 97, 1)), nn, nn, some (.lstore 5, 2, (0, 0, 0, 0)), nn, some (.lload 5, 2, (0, 0, 0, 0)), nn, some (.lconst 1, 1, (0, 0, 0, 0)), some (.lcmp, 1, (0, 0, 0, 0)), some (.ifCond .ge 14, 3, (25, 0, 0, 0)), nn, nn, some (.iload 4, 2, (0, 0, 0, 0))],
 [some (.ifCond .eq 7, 3, (23, 0, 0, 0)), nn, nn, some (.lconst 0, 1, (0, 0, 0, 0)), some (.goto 4, 3, (24, 0, 0, 0)), nn, nn, some (.lconst 1, 1, (0, 0, 0, 0)), some (.lreturn, 1, (0, 0, 0, 0)), some (.iload 4, 2, (0, 0, 0, 0)), nn, some (.ifCond .eq 7, 3, (34, 0, 0, 0)), nn, nn, some (.lload_n 0, 1, (0, 0, 0, 0)), some (.goto 4, 3, (35, 0, 0, 0))],
 [nn, nn, some (.lload_n 2, 1, (0, 0, 0, 0)), some (.lload 5, 2, (0, 0, 0, 0)), nn, some (.ldiv, 1, (0, 0, 0, 0)), some (.lreturn, 1, (0, 0, 0, 0))]]
def pX6_commonDivisor : List (List (Option En)) := [[some (.iconst 0, 1, (0, 0, 0, 0)), some (.istore 4, 2, (0, 0, 0, 0)), nn, some (.iload 4, 2, (0, 0, 0, 0)), nn, some (.bipush 100, 2, (0, 0, 0, 0)), nn, some (.if_icmp .ge 25, 3, (32, 0, 0, 0)), nn, nn, some (.lload_n 2, 1, (0, 0, 0, 0)), some (.lconst 0, 1, (0, 0, 0, 0)), some (.lcmp, 1, (0, 0, 0, 0)), some (.ifCond .eq 19, 3, (32, 0, 0, 0))],
 [some (.lload_n 0, 1, (0, 0, 0, 0)), some (.lload_n 2, 1, (0, 0, 0, 0)), some (.lrem, 1, (0, 0, 0, 0)), some (.lstore 5, 2, (0, 0, 0, 0)), nn, some (.lload_n 2, 1, (0, 0, 0, 0)), some (.lstore_n 0, 1, (0, 0, 0, 0)), some (.lload 5, 2, (0, 0, 0, 0)), nn, some (.lstore_n 2, 1, (0, 0, 0, 0)), some (.iinc 4 1, 3, (0, 0, 0, 0)), nn, nn, some (.goto (-26), 3, (3, 0, 0, 0))],
 [some (.lload_n 0, 1, (0, 0, 0, 0)), some (.lreturn, 1, (0, 0, 0, 0))]]
def pX6_billionths : List (List (Option En)) := [[some (.lload_n 2, 1, (0, 0, 0, 0)), some (.lconst 1, 1, (0, 0, 0, 0)), some (.lcmp, 1, (0, 0, 0, 0)), some (.ifCond .ge 5, 3, (8, 0, 0, 0)), nn, nn, some (.lconst 0, 1, (0, 0, 0, 0)), some (.lreturn, 1, (0, 0, 0, 0)), some (.lload_n 0, 1, (0, 0, 0, 0)), some (.lload_n 2, 1, (0, 0, 0, 0)), some (.ldiv, 1, (0, 0, 0, 0)), some (.lstore 4, 2, (0, 0, 0, 0)), nn, some (.lload_n 0, 1, (0, 0, 0, 0)), some (.lload_n 2, 1, (0, 0, 0, 0)), some (.lrem, 1, (0, 0, 0, 0))],
 [some (.lstore 6, 2, (0, 0, 0, 0)), nn, some (.iconst 0, 1, (0, 0, 0, 0)), some (.istore 8, 2, (0, 0, 0, 0)), nn, some (.iload 8, 2, (0, 0, 0, 0)), nn, some (.bipush 9, 2, (0, 0, 0, 0)), nn, some (.if_icmp .ge 36, 3, (61, 0, 0, 0)), nn, nn, some (.lload 6, 2, (0, 0, 0, 0)), nn, some (.ldc2_w 278, 3, (0, 0, 3, 10))],
 [nn, some (.lmul, 1, (0, 0, 0, 0)), some (.lstore 6, 2, (0, 0, 0, 0)), nn, some (.lload 4, 2, (0, 0, 0, 0)), nn, some (.ldc2_w 278, 3, (0, 0, 3, 10)), nn, nn, some (.lmul, 1, (0, 0, 0, 0)), some (.lload 6, 2, (0, 0, 0, 0)), nn, some (.lload_n 2, 1, (0, 0, 0, 0)), some (.ldiv, 1, (0, 0, 0, 0)), some (.ladd, 1, (0, 0, 0, 0)), some (.lstore 4, 2, (0, 0, 0, 0))],
 [nn, some (.lload 6, 2, (0, 0, 0, 0)), nn, some (.lload_n 2, 1, (0, 0, 0, 0)), some (.lrem, 1, (0, 0, 0, 0)), some (.lstore 6, 2, (0, 0, 0, 0)), nn, some (.iinc 8 1, 3, (0, 0, 0, 0)), nn, nn, some (.goto (-37), 3, (21, 0, 0, 0)), nn, nn, some (.lload 4, 2, (0, 0, 0, 0)), nn, some (.lreturn, 1, (0, 0, 0, 0))]]
def pX6_piecesBehind : List (List (Option En)) := [[some (.aload_n 0, 1, (0, 0, 0, 0)), some (.getfield 46, 3, (6, 5, 59, 0)), nn, nn, some (.getfield 162, 3, (0, 1, 21, 0)), nn, nn, some (.iload_n 1, 1, (0, 0, 0, 0)), some (.aaload, 1, (0, 0, 0, 0)), some (.iload_n 2, 1, (0, 0, 0, 0)), some (.iaload, 1, (0, 0, 0, 0)), some (.i2l, 1, (0, 0, 0, 0)), some (.ldc2_w 280, 3, (0, 0, 1, 100)), nn, nn, some (.lmul, 1, (0, 0, 0, 0))],
 [some (.aload_n 0, 1, (0, 0, 0, 0)), some (.getfield 26, 3, (6, 2, 56, 0)), nn, nn, some (.iload_n 2, 1, (0, 0, 0, 0)), some (.invokevirtual 93, 3, (51, 2, 55, 0)), nn, nn, some (.invokestatic 282, 3, (107, 1, 95, 1)), nn, nn, some (.lmul, 1, (0, 0, 0, 0)), some (.bipush 10, 2, (0, 0, 0, 0)), nn, some (.aload_n 0, 1, (0, 0, 0, 0)), some (.getfield 26, 3, (6, 2, 56, 0))],
 [nn, nn, some (.iload_n 2, 1, (0, 0, 0, 0)), some (.invokevirtual 100, 3, (53, 2, 57, 0)), nn, nn, some (.isub, 1, (0, 0, 0, 0)), some (.invokestatic 282, 3, (107, 1, 95, 1)), nn, nn, some (.lmul, 1, (0, 0, 0, 0)), some (.bipush 10, 2, (0, 0, 0, 0)), nn, some (.aload_n 0, 1, (0, 0, 0, 0)), some (.getfield 26, 3, (6, 2, 56, 0))],
 [nn, some (.iload_n 2, 1, (0, 0, 0, 0)), some (.invokevirtual 97, 3, (52, 2, 56, 0)), nn, nn, some (.isub, 1, (0, 0, 0, 0)), some (.invokestatic 282, 3, (107, 1, 95, 1)), nn, nn, some (.lmul, 1, (0, 0, 0, 0)), some (.lreturn, 1, (0, 0, 0, 0))]]
def pX6_by2520 : List (List (Option En)) := [[some (.iload_n 0, 1, (0, 0, 0, 0)), some (.iconst 1, 1, (0, 0, 0, 0)), some (.if_icmp .ge 7, 3, (9, 0, 0, 0)), nn, nn, some (.lconst 0, 1, (0, 0, 0, 0)), some (.goto 9, 3, (15, 0, 0, 0)), nn, nn, some (.sipush 2520, 3, (0, 0, 0, 0)), nn, nn, some (.iload_n 0, 1, (0, 0, 0, 0)), some (.idiv, 1, (0, 0, 0, 0)), some (.i2l, 1, (0, 0, 0, 0)), some (.lreturn, 1, (0, 0, 0, 0))]]
def pX6_isAsked : List (List (Option En)) := [[some (.aload_n 0, 1, (0, 0, 0, 0)), some (.getfield 46, 3, (6, 5, 59, 0)), nn, nn, some (.iload_n 1, 1, (0, 0, 0, 0)), some (.invokevirtual 285, 3, (2, 2, 100, 0)), nn, nn, some (.bipush 12, 2, (0, 0, 0, 0)), nn, some (.if_icmp .gt 21, 3, (31, 0, 0, 0)), nn, nn, some (.aload_n 0, 1, (0, 0, 0, 0)), some (.getfield 32, 3, (6, 3, 57, 0))],
 [nn, some (.iload_n 2, 1, (0, 0, 0, 0)), some (.aaload, 1, (0, 0, 0, 0)), some (.getfield 288, 3, (4, 8, 50, 0)), nn, nn, some (.bipush 30, 2, (0, 0, 0, 0)), nn, some (.if_icmp .gt 7, 3, (31, 0, 0, 0)), nn, nn, some (.iconst 1, 1, (0, 0, 0, 0)), some (.goto 4, 3, (32, 0, 0, 0)), nn, nn, some (.iconst 0, 1, (0, 0, 0, 0))],
 [some (.ireturn, 1, (0, 0, 0, 0))]]
def pX6_drawsThatFit : List (List (Option En)) := [[some (.lconst 1, 1, (0, 0, 0, 0)), some (.lstore_n 3, 1, (0, 0, 0, 0)), some (.iconst 0, 1, (0, 0, 0, 0)), some (.istore 5, 2, (0, 0, 0, 0)), nn, some (.iload 5, 2, (0, 0, 0, 0)), nn, some (.bipush 6, 2, (0, 0, 0, 0)), nn, some (.if_icmp .ge 40, 3, (49, 0, 0, 0)), nn, nn, some (.lload_n 3, 1, (0, 0, 0, 0)), some (.aload_n 0, 1, (0, 0, 0, 0)), some (.getfield 32, 3, (6, 3, 57, 0))],
 [nn, some (.iload_n 2, 1, (0, 0, 0, 0)), some (.aaload, 1, (0, 0, 0, 0)), some (.getfield 139, 3, (4, 7, 48, 0)), nn, nn, some (.iload 5, 2, (0, 0, 0, 0)), nn, some (.iaload, 1, (0, 0, 0, 0)), some (.i2l, 1, (0, 0, 0, 0)), some (.aload_n 0, 1, (0, 0, 0, 0)), some (.getfield 46, 3, (6, 5, 59, 0)), nn, nn, some (.getfield 162, 3, (0, 1, 21, 0))],
 [nn, some (.iload_n 1, 1, (0, 0, 0, 0)), some (.aaload, 1, (0, 0, 0, 0)), some (.iload 5, 2, (0, 0, 0, 0)), nn, some (.iaload, 1, (0, 0, 0, 0)), some (.invokestatic 291, 3, (111, 2, 102, 1)), nn, nn, some (.lmul, 1, (0, 0, 0, 0)), some (.lstore_n 3, 1, (0, 0, 0, 0)), some (.iinc 5 1, 3, (0, 0, 0, 0)), nn, nn, some (.goto (-41), 3, (5, 0, 0, 0))],
 [nn, some (.lload_n 3, 1, (0, 0, 0, 0)), some (.lreturn, 1, (0, 0, 0, 0))]]
def pX6_drawsInAll : List (List (Option En)) := [[some (.aload_n 0, 1, (0, 0, 0, 0)), some (.getfield 32, 3, (6, 3, 57, 0)), nn, nn, some (.iload_n 2, 1, (0, 0, 0, 0)), some (.aaload, 1, (0, 0, 0, 0)), some (.getfield 288, 3, (4, 8, 50, 0)), nn, nn, some (.iconst 1, 1, (0, 0, 0, 0)), some (.invokestatic 295, 3, (1001, 2, 104, 5)), nn, nn, some (.i2l, 1, (0, 0, 0, 0)), some (.aload_n 0, 1, (0, 0, 0, 0)), some (.getfield 46, 3, (6, 5, 59, 0))],
 [nn, nn, some (.iload_n 1, 1, (0, 0, 0, 0)), some (.invokevirtual 285, 3, (2, 2, 100, 0)), nn, nn, some (.invokestatic 291, 3, (111, 2, 102, 1)), nn, nn, some (.lreturn, 1, (0, 0, 0, 0))]]
def pX6_power : List (List (Option En)) := [[some (.lconst 1, 1, (0, 0, 0, 0)), some (.lstore_n 3, 1, (0, 0, 0, 0)), some (.iconst 0, 1, (0, 0, 0, 0)), some (.istore 5, 2, (0, 0, 0, 0)), nn, some (.iload 5, 2, (0, 0, 0, 0)), nn, some (.iload_n 2, 1, (0, 0, 0, 0)), some (.if_icmp .ge 13, 3, (21, 0, 0, 0)), nn, nn, some (.lload_n 3, 1, (0, 0, 0, 0)), some (.lload_n 0, 1, (0, 0, 0, 0)), some (.lmul, 1, (0, 0, 0, 0)), some (.lstore_n 3, 1, (0, 0, 0, 0)), some (.iinc 5 1, 3, (0, 0, 0, 0))],
 [nn, nn, some (.goto (-13), 3, (5, 0, 0, 0)), nn, nn, some (.lload_n 3, 1, (0, 0, 0, 0)), some (.lreturn, 1, (0, 0, 0, 0))]]
def pX6_partsOf : List (List (Option En)) := [[some (.aload_n 0, 1, (0, 0, 0, 0)), some (.iload_n 1, 1, (0, 0, 0, 0)), some (.iload_n 2, 1, (0, 0, 0, 0)), some (.invokevirtual 205, 3, (109, 3, 101, 0)), nn, nn, some (.aload_n 0, 1, (0, 0, 0, 0)), some (.iload_n 1, 1, (0, 0, 0, 0)), some (.iload_n 2, 1, (0, 0, 0, 0)), some (.invokevirtual 208, 3, (110, 3, 103, 0)), nn, nn, some (.invokestatic 297, 3, (105, 2, 108, 1)), nn, nn, some (.lreturn, 1, (0, 0, 0, 0))]]
def pX6_partsOfAll : List (List (Option En)) := [[some (.lconst 0, 1, (0, 0, 0, 0)), some (.lstore_n 2, 1, (0, 0, 0, 0)), some (.iconst 0, 1, (0, 0, 0, 0)), some (.istore 4, 2, (0, 0, 0, 0)), nn, some (.iload 4, 2, (0, 0, 0, 0)), nn, some (.iconst 4, 1, (0, 0, 0, 0)), some (.if_icmp .ge 31, 3, (39, 0, 0, 0)), nn, nn, some (.aload_n 0, 1, (0, 0, 0, 0)), some (.iload_n 1, 1, (0, 0, 0, 0)), some (.iload 4, 2, (0, 0, 0, 0)), nn, some (.invokevirtual 201, 3, (108, 3, 99, 0))],
 [nn, nn, some (.ifCond .ne 5, 3, (23, 0, 0, 0)), nn, nn, some (.lconst 0, 1, (0, 0, 0, 0)), some (.lreturn, 1, (0, 0, 0, 0)), some (.lload_n 2, 1, (0, 0, 0, 0)), some (.aload_n 0, 1, (0, 0, 0, 0)), some (.iload_n 1, 1, (0, 0, 0, 0)), some (.iload 4, 2, (0, 0, 0, 0)), nn, some (.invokevirtual 215, 3, (112, 3, 107, 0)), nn, nn, some (.ladd, 1, (0, 0, 0, 0))],
 [some (.lstore_n 2, 1, (0, 0, 0, 0)), some (.iinc 4 1, 3, (0, 0, 0, 0)), nn, nn, some (.goto (-31), 3, (5, 0, 0, 0)), nn, nn, some (.lload_n 2, 1, (0, 0, 0, 0)), some (.lreturn, 1, (0, 0, 0, 0))]]
def pX6_wayOfMostParts : List (List (Option En)) := [[some (.iconst 0, 1, (0, 0, 0, 0)), some (.istore_n 2, 1, (0, 0, 0, 0)), some (.iconst 1, 1, (0, 0, 0, 0)), some (.istore_n 3, 1, (0, 0, 0, 0)), some (.iload_n 3, 1, (0, 0, 0, 0)), some (.iconst 4, 1, (0, 0, 0, 0)), some (.if_icmp .ge 27, 3, (33, 0, 0, 0)), nn, nn, some (.aload_n 0, 1, (0, 0, 0, 0)), some (.iload_n 1, 1, (0, 0, 0, 0)), some (.iload_n 3, 1, (0, 0, 0, 0)), some (.invokevirtual 215, 3, (112, 3, 107, 0)), nn, nn, some (.aload_n 0, 1, (0, 0, 0, 0))],
 [some (.iload_n 1, 1, (0, 0, 0, 0)), some (.iload_n 2, 1, (0, 0, 0, 0)), some (.invokevirtual 215, 3, (112, 3, 107, 0)), nn, nn, some (.lcmp, 1, (0, 0, 0, 0)), some (.ifCond .le 5, 3, (27, 0, 0, 0)), nn, nn, some (.iload_n 3, 1, (0, 0, 0, 0)), some (.istore_n 2, 1, (0, 0, 0, 0)), some (.iinc 3 1, 3, (0, 0, 0, 0)), nn, nn, some (.goto (-26), 3, (4, 0, 0, 0))],
 [nn, some (.iload_n 2, 1, (0, 0, 0, 0)), some (.ireturn, 1, (0, 0, 0, 0))]]
def pX7_init : List (List (Option En)) := [[some (.aload_n 0, 1, (0, 0, 0, 0)), some (.invokespecial 1, 3, (1000, 1, 138, 4)), nn, nn, some (.aload_n 0, 1, (0, 0, 0, 0)), some (.bipush 46, 2, (0, 0, 0, 0)), nn, some (.newarray .int, 2, (0, 0, 0, 0)), nn, some (.putfield 7, 3, (7, 0, 62, 0)), nn, nn, some (.aload_n 0, 1, (0, 0, 0, 0)), some (.bipush 46, 2, (0, 0, 0, 0)), nn, some (.newarray .int, 2, (0, 0, 0, 0))],
 [nn, some (.putfield 13, 3, (7, 1, 63, 0)), nn, nn, some (.aload_n 0, 1, (0, 0, 0, 0)), some (.bipush 64, 2, (0, 0, 0, 0)), nn, some (.newarray .int, 2, (0, 0, 0, 0)), nn, some (.putfield 16, 3, (7, 2, 64, 0)), nn, nn, some (.aload_n 0, 1, (0, 0, 0, 0)), some (.bipush 46, 2, (0, 0, 0, 0)), nn, some (.newarray .boolean, 2, (2, 0, 0, 0))],
 [nn, some (.putfield 19, 3, (7, 7, 69, 0)), nn, nn, some (.aload_n 0, 1, (0, 0, 0, 0)), some (.bipush 16, 2, (0, 0, 0, 0)), nn, some (.newarray .int, 2, (0, 0, 0, 0)), nn, some (.putfield 23, 3, (7, 8, 70, 0)), nn, nn, some (.aload_n 0, 1, (0, 0, 0, 0)), some (.bipush 24, 2, (0, 0, 0, 0)), nn, some (.newarray .int, 2, (0, 0, 0, 0))],
 [nn, some (.putfield 26, 3, (7, 9, 71, 0)), nn, nn, some (.aload_n 0, 1, (0, 0, 0, 0)), some (.iconst 4, 1, (0, 0, 0, 0)), some (.newarray .int, 2, (0, 0, 0, 0)), nn, some (.putfield 29, 3, (7, 10, 72, 0)), nn, nn, some (.aload_n 0, 1, (0, 0, 0, 0)), some (.bipush 18, 2, (0, 0, 0, 0)), nn, some (.newarray .int, 2, (0, 0, 0, 0))],
 [some (.putfield 32, 3, (7, 12, 74, 0)), nn, nn, some (.aload_n 0, 1, (0, 0, 0, 0)), some (.bipush 42, 2, (0, 0, 0, 0)), nn, some (.newarray .int, 2, (0, 0, 0, 0)), nn, some (.putfield 35, 3, (7, 14, 76, 0)), nn, nn, some (.aload_n 0, 1, (0, 0, 0, 0)), some (.bipush 48, 2, (0, 0, 0, 0)), nn, some (.newarray .int, 2, (0, 0, 0, 0))],
 [some (.putfield 38, 3, (7, 16, 78, 0)), nn, nn, some (.aload_n 0, 1, (0, 0, 0, 0)), some (.bipush 7, 2, (0, 0, 0, 0)), nn, some (.newarray .int, 2, (0, 0, 0, 0)), nn, some (.putfield 41, 3, (7, 17, 79, 0)), nn, nn, some (.aload_n 0, 1, (0, 0, 0, 0)), some (.iconst 4, 1, (0, 0, 0, 0)), some (.newarray .long, 2, (3, 0, 0, 0)), nn, some (.putfield 44, 3, (7, 18, 80, 0))],
 [nn, nn, some (.aload_n 0, 1, (0, 0, 0, 0)), some (.iconst 4, 1, (0, 0, 0, 0)), some (.newarray .long, 2, (3, 0, 0, 0)), nn, some (.putfield 48, 3, (7, 19, 81, 0)), nn, nn, some (.aload_n 0, 1, (0, 0, 0, 0)), some (.iconst 4, 1, (0, 0, 0, 0)), some (.newarray .long, 2, (3, 0, 0, 0)), nn, some (.putfield 51, 3, (7, 20, 82, 0))],
 [some (.aload_n 0, 1, (0, 0, 0, 0)), some (.bipush 16, 2, (0, 0, 0, 0)), nn, some (.newarray .int, 2, (0, 0, 0, 0)), nn, some (.putfield 54, 3, (7, 23, 85, 0)), nn, nn, some (.aload_n 0, 1, (0, 0, 0, 0)), some (.bipush 16, 2, (0, 0, 0, 0)), nn, some (.newarray .int, 2, (0, 0, 0, 0)), nn, some (.putfield 57, 3, (7, 24, 86, 0))],
 [some (.aload_n 0, 1, (0, 0, 0, 0)), some (.bipush 8, 2, (0, 0, 0, 0)), nn, some (.newarray .int, 2, (0, 0, 0, 0)), nn, some (.putfield 60, 3, (7, 26, 88, 0)), nn, nn, some (.aload_n 0, 1, (0, 0, 0, 0)), some (.bipush 8, 2, (0, 0, 0, 0)), nn, some (.newarray .int, 2, (0, 0, 0, 0)), nn, some (.putfield 63, 3, (7, 27, 89, 0))],
 [some (.aload_n 0, 1, (0, 0, 0, 0)), some (.iconst 2, 1, (0, 0, 0, 0)), some (.newarray .boolean, 2, (2, 0, 0, 0)), nn, some (.putfield 66, 3, (7, 28, 90, 0)), nn, nn, some (.aload_n 0, 1, (0, 0, 0, 0)), some (.bipush 6, 2, (0, 0, 0, 0)), nn, some (.newarray .int, 2, (0, 0, 0, 0)), nn, some (.putfield 69, 3, (7, 29, 91, 0)), nn, nn, some (.aload_n 0, 1, (0, 0, 0, 0))],
 [some (.bipush 84, 2, (0, 0, 0, 0)), nn, some (.newarray .int, 2, (0, 0, 0, 0)), nn, some (.putfield 72, 3, (7, 30, 92, 0)), nn, nn, some (.aload_n 0, 1, (0, 0, 0, 0)), some (.bipush 32, 2, (0, 0, 0, 0)), nn, some (.newarray .int, 2, (0, 0, 0, 0)), nn, some (.putfield 75, 3, (7, 31, 93, 0)), nn, nn, some (.aload_n 0, 1, (0, 0, 0, 0))],
 [some (.bipush 32, 2, (0, 0, 0, 0)), nn, some (.newarray .int, 2, (0, 0, 0, 0)), nn, some (.putfield 78, 3, (7, 32, 94, 0)), nn, nn, some (.aload_n 0, 1, (0, 0, 0, 0)), some (.bipush 16, 2, (0, 0, 0, 0)), nn, some (.newarray .int, 2, (0, 0, 0, 0)), nn, some (.putfield 81, 3, (7, 33, 95, 0)), nn, nn, some (.aload_n 0, 1, (0, 0, 0, 0))],
 [some (.bipush 16, 2, (0, 0, 0, 0)), nn, some (.newarray .int, 2, (0, 0, 0, 0)), nn, some (.putfield 84, 3, (7, 34, 96, 0)), nn, nn, some (.aload_n 0, 1, (0, 0, 0, 0)), some (.invokevirtual 87, 3, (117, 1, 139, 0)), nn, nn, some (.aload_n 0, 1, (0, 0, 0, 0)), some (.invokevirtual 90, 3, (118, 1, 141, 0)), nn, nn, some (.iconst 0, 1, (0, 0, 0, 0))],
 [some (.istore_n 1, 1, (0, 0, 0, 0)), some (.iload_n 1, 1, (0, 0, 0, 0)), some (.iconst 4, 1, (0, 0, 0, 0)), some (.if_icmp .ge 45, 3, (256, 0, 0, 0)), nn, nn, some (.aload_n 0, 1, (0, 0, 0, 0)), some (.getfield 23, 3, (7, 8, 70, 0)), nn, nn, some (.iconst 4, 1, (0, 0, 0, 0)), some (.iload_n 1, 1, (0, 0, 0, 0)), some (.imul, 1, (0, 0, 0, 0)), some (.iconst 1, 1, (0, 0, 0, 0)), some (.iadd, 1, (0, 0, 0, 0)), some (.bipush 10, 2, (0, 0, 0, 0))],
 [nn, some (.iastore, 1, (0, 0, 0, 0)), some (.aload_n 0, 1, (0, 0, 0, 0)), some (.getfield 23, 3, (7, 8, 70, 0)), nn, nn, some (.iconst 4, 1, (0, 0, 0, 0)), some (.iload_n 1, 1, (0, 0, 0, 0)), some (.imul, 1, (0, 0, 0, 0)), some (.iconst 2, 1, (0, 0, 0, 0)), some (.iadd, 1, (0, 0, 0, 0)), some (.bipush (-9), 2, (0, 0, 0, 0)), nn, some (.iastore, 1, (0, 0, 0, 0)), some (.aload_n 0, 1, (0, 0, 0, 0)), some (.getfield 23, 3, (7, 8, 70, 0))],
 [nn, nn, some (.iconst 4, 1, (0, 0, 0, 0)), some (.iload_n 1, 1, (0, 0, 0, 0)), some (.imul, 1, (0, 0, 0, 0)), some (.iconst 3, 1, (0, 0, 0, 0)), some (.iadd, 1, (0, 0, 0, 0)), some (.bipush (-9), 2, (0, 0, 0, 0)), nn, some (.iastore, 1, (0, 0, 0, 0)), some (.iinc 1 1, 3, (0, 0, 0, 0)), nn, nn, some (.goto (-44), 3, (209, 0, 0, 0))],
 [some (.return_, 1, (0, 0, 0, 0))]]
def pX7_in : List (List (Option En)) := [[some (.lload_n 0, 1, (0, 0, 0, 0)), some (.lload_n 2, 1, (0, 0, 0, 0)), some (.lcmp, 1, (0, 0, 0, 0)), some (.ifCond .lt 14, 3, (17, 0, 0, 0)), nn, nn, some (.lload_n 0, 1, (0, 0, 0, 0)), some (.lload 4, 2, (0, 0, 0, 0)), nn, some (.lcmp, 1, (0, 0, 0, 0)), some (.ifCond .gt 7, 3, (17, 0, 0, 0)), nn, nn, some (.iconst 1, 1, (0, 0, 0, 0)), some (.goto 4, 3, (18, 0, 0, 0))],
 [nn, some (.iconst 0, 1, (0, 0, 0, 0)), some (.ireturn, 1, (0, 0, 0, 0))]]
def pX7_blank : List (List (Option En)) := [[some (.iconst 0, 1, (0, 0, 0, 0)), some (.istore_n 1, 1, (0, 0, 0, 0)), some (.iload_n 1, 1, (0, 0, 0, 0)), some (.bipush 46, 2, (0, 0, 0, 0)), nn, some (.if_icmp .ge 54, 3, (59, 0, 0, 0)), nn, nn, some (.aload_n 0, 1, (0, 0, 0, 0)), some (.getfield 7, 3, (7, 0, 62, 0)), nn, nn, some (.iload_n 1, 1, (0, 0, 0, 0)), some (.iload_n 1, 1, (0, 0, 0, 0)), some (.i2l, 1, (0, 0, 0, 0)), some (.ldc2_w 93, 3, (0, 0, 4, 24))],
 [nn, nn, some (.ldc2_w 95, 3, (0, 0, 5, 29)), nn, nn, some (.invokestatic 97, 3, (116, 3, 140, 1)), nn, nn, some (.ifCond .eq 7, 3, (31, 0, 0, 0)), nn, nn, some (.iconst 2, 1, (0, 0, 0, 0)), some (.goto 17, 3, (45, 0, 0, 0)), nn, nn, some (.iload_n 1, 1, (0, 0, 0, 0))],
 [some (.bipush 42, 2, (0, 0, 0, 0)), nn, some (.if_icmp .lt 10, 3, (44, 0, 0, 0)), nn, nn, some (.iload_n 1, 1, (0, 0, 0, 0)), some (.bipush 42, 2, (0, 0, 0, 0)), nn, some (.isub, 1, (0, 0, 0, 0)), some (.goto 4, 3, (45, 0, 0, 0)), nn, nn, some (.iconst 0, 1, (0, 0, 0, 0)), some (.iastore, 1, (0, 0, 0, 0)), some (.aload_n 0, 1, (0, 0, 0, 0)), some (.getfield 19, 3, (7, 7, 69, 0))],
 [nn, nn, some (.iload_n 1, 1, (0, 0, 0, 0)), some (.iconst 0, 1, (0, 0, 0, 0)), some (.bastore, 1, (0, 0, 0, 0)), some (.iinc 1 1, 3, (0, 0, 0, 0)), nn, nn, some (.goto (-54), 3, (2, 0, 0, 0)), nn, nn, some (.return_, 1, (0, 0, 0, 0))]]
def pX7_takeWood : List (List (Option En)) := [[some (.iconst 0, 1, (0, 0, 0, 0)), some (.istore_n 1, 1, (0, 0, 0, 0)), some (.iload_n 1, 1, (0, 0, 0, 0)), some (.bipush 46, 2, (0, 0, 0, 0)), nn, some (.if_icmp .ge 21, 3, (26, 0, 0, 0)), nn, nn, some (.aload_n 0, 1, (0, 0, 0, 0)), some (.getfield 13, 3, (7, 1, 63, 0)), nn, nn, some (.iload_n 1, 1, (0, 0, 0, 0)), some (.aload_n 0, 1, (0, 0, 0, 0)), some (.getfield 7, 3, (7, 0, 62, 0))],
 [nn, some (.iload_n 1, 1, (0, 0, 0, 0)), some (.iaload, 1, (0, 0, 0, 0)), some (.iastore, 1, (0, 0, 0, 0)), some (.iinc 1 1, 3, (0, 0, 0, 0)), nn, nn, some (.goto (-21), 3, (2, 0, 0, 0)), nn, nn, some (.return_, 1, (0, 0, 0, 0))]]
def pX7_write : List (List (Option En)) := [[some (.iload_n 1, 1, (0, 0, 0, 0)), some (.i2l, 1, (0, 0, 0, 0)), some (.lconst 1, 1, (0, 0, 0, 0)), some (.ldc2_w 101, 3, (0, 0, 6, 8)), nn, nn, some (.invokestatic 97, 3, (116, 3, 140, 1)), nn, nn, some (.ifCond .ne 6, 3, (15, 0, 0, 0)), nn, nn, some (.bipush (-2), 2, (0, 0, 0, 0)), nn, some (.ireturn, 1, (0, 0, 0, 0)), some (.aload_n 0, 1, (0, 0, 0, 0))],
 [some (.getfield 103, 3, (7, 3, 65, 0)), nn, nn, some (.iload_n 1, 1, (0, 0, 0, 0)), some (.iadd, 1, (0, 0, 0, 0)), some (.bipush 64, 2, (0, 0, 0, 0)), nn, some (.if_icmp .le 6, 3, (29, 0, 0, 0)), nn, nn, some (.bipush (-4), 2, (0, 0, 0, 0)), nn, some (.ireturn, 1, (0, 0, 0, 0)), some (.iload_n 1, 1, (0, 0, 0, 0)), some (.iconst 1, 1, (0, 0, 0, 0)), some (.isub, 1, (0, 0, 0, 0))],
 [some (.istore 4, 2, (0, 0, 0, 0)), nn, some (.iload 4, 2, (0, 0, 0, 0)), nn, some (.ifCond .lt 40, 3, (76, 0, 0, 0)), nn, nn, some (.aload_n 0, 1, (0, 0, 0, 0)), some (.getfield 16, 3, (7, 2, 64, 0)), nn, nn, some (.aload_n 0, 1, (0, 0, 0, 0)), some (.getfield 103, 3, (7, 3, 65, 0)), nn, nn, some (.lload_n 2, 1, (0, 0, 0, 0))],
 [some (.bipush 8, 2, (0, 0, 0, 0)), nn, some (.iload 4, 2, (0, 0, 0, 0)), nn, some (.imul, 1, (0, 0, 0, 0)), some (.lshr, 1, (0, 0, 0, 0)), some (.ldc2_w 107, 3, (0, 0, 7, 255)), nn, nn, some (.land, 1, (0, 0, 0, 0)), some (.l2i, 1, (0, 0, 0, 0)), some (.iastore, 1, (0, 0, 0, 0)), some (.aload_n 0, 1, (0, 0, 0, 0)), some (.dup, 1, (0, 0, 0, 0)), some (.getfield 103, 3, (7, 3, 65, 0))],
 [nn, some (.iconst 1, 1, (0, 0, 0, 0)), some (.iadd, 1, (0, 0, 0, 0)), some (.putfield 103, 3, (7, 3, 65, 0)), nn, nn, some (.iinc 4 (-1), 3, (0, 0, 0, 0)), nn, nn, some (.goto (-39), 3, (34, 0, 0, 0)), nn, nn, some (.aload_n 0, 1, (0, 0, 0, 0)), some (.getfield 103, 3, (7, 3, 65, 0))],
 [some (.ireturn, 1, (0, 0, 0, 0))]]
def pX7_wipe : List (List (Option En)) := [[some (.aload_n 0, 1, (0, 0, 0, 0)), some (.getfield 103, 3, (7, 3, 65, 0)), nn, nn, some (.istore_n 1, 1, (0, 0, 0, 0)), some (.aload_n 0, 1, (0, 0, 0, 0)), some (.iconst 0, 1, (0, 0, 0, 0)), some (.putfield 103, 3, (7, 3, 65, 0)), nn, nn, some (.iload_n 1, 1, (0, 0, 0, 0)), some (.ireturn, 1, (0, 0, 0, 0))]]
def pX7_figure : List (List (Option En)) := [[some (.aload_n 0, 1, (0, 0, 0, 0)), some (.getfield 109, 3, (7, 5, 67, 0)), nn, nn, some (.bipush (-9), 2, (0, 0, 0, 0)), nn, some (.if_icmp .ne 29, 3, (35, 0, 0, 0)), nn, nn, some (.aload_n 0, 1, (0, 0, 0, 0)), some (.getfield 112, 3, (7, 4, 66, 0)), nn, nn, some (.aload_n 0, 1, (0, 0, 0, 0)), some (.getfield 103, 3, (7, 3, 65, 0))],
 [nn, some (.if_icmp .ge 18, 3, (35, 0, 0, 0)), nn, nn, some (.aload_n 0, 1, (0, 0, 0, 0)), some (.getfield 16, 3, (7, 2, 64, 0)), nn, nn, some (.aload_n 0, 1, (0, 0, 0, 0)), some (.getfield 112, 3, (7, 4, 66, 0)), nn, nn, some (.iaload, 1, (0, 0, 0, 0)), some (.bipush 48, 2, (0, 0, 0, 0)), nn, some (.isub, 1, (0, 0, 0, 0))],
 [some (.goto 4, 3, (36, 0, 0, 0)), nn, nn, some (.iconst (-1), 1, (0, 0, 0, 0)), some (.istore_n 2, 1, (0, 0, 0, 0)), some (.iload_n 2, 1, (0, 0, 0, 0)), some (.i2l, 1, (0, 0, 0, 0)), some (.lconst 0, 1, (0, 0, 0, 0)), some (.ldc2_w 115, 3, (0, 0, 8, 9)), nn, nn, some (.invokestatic 97, 3, (116, 3, 140, 1)), nn, nn, some (.ifCond .eq 11, 3, (57, 0, 0, 0))],
 [nn, some (.iload_n 1, 1, (0, 0, 0, 0)), some (.iload_n 2, 1, (0, 0, 0, 0)), some (.ishr, 1, (0, 0, 0, 0)), some (.iconst 1, 1, (0, 0, 0, 0)), some (.iand, 1, (0, 0, 0, 0)), some (.ifCond .ne 29, 3, (83, 0, 0, 0)), nn, nn, some (.aload_n 0, 1, (0, 0, 0, 0)), some (.aload_n 0, 1, (0, 0, 0, 0)), some (.getfield 109, 3, (7, 5, 67, 0)), nn, nn, some (.bipush (-9), 2, (0, 0, 0, 0))],
 [some (.if_icmp .ne 10, 3, (74, 0, 0, 0)), nn, nn, some (.aload_n 0, 1, (0, 0, 0, 0)), some (.getfield 112, 3, (7, 4, 66, 0)), nn, nn, some (.goto 7, 3, (78, 0, 0, 0)), nn, nn, some (.aload_n 0, 1, (0, 0, 0, 0)), some (.getfield 109, 3, (7, 5, 67, 0)), nn, nn, some (.putfield 109, 3, (7, 5, 67, 0))],
 [nn, some (.iconst 0, 1, (0, 0, 0, 0)), some (.ireturn, 1, (0, 0, 0, 0)), some (.aload_n 0, 1, (0, 0, 0, 0)), some (.dup, 1, (0, 0, 0, 0)), some (.getfield 112, 3, (7, 4, 66, 0)), nn, nn, some (.iconst 1, 1, (0, 0, 0, 0)), some (.iadd, 1, (0, 0, 0, 0)), some (.putfield 112, 3, (7, 4, 66, 0)), nn, nn, some (.iload_n 2, 1, (0, 0, 0, 0)), some (.ireturn, 1, (0, 0, 0, 0))]]
def pX7_open : List (List (Option En)) := [[some (.iconst 0, 1, (0, 0, 0, 0)), some (.istore_n 3, 1, (0, 0, 0, 0)), some (.iconst 0, 1, (0, 0, 0, 0)), some (.istore 4, 2, (0, 0, 0, 0)), nn, some (.iload 4, 2, (0, 0, 0, 0)), nn, some (.iload_n 2, 1, (0, 0, 0, 0)), some (.if_icmp .ge 32, 3, (40, 0, 0, 0)), nn, nn, some (.iload_n 3, 1, (0, 0, 0, 0)), some (.aload_n 0, 1, (0, 0, 0, 0)), some (.getfield 19, 3, (7, 7, 69, 0))],
 [some (.iload_n 1, 1, (0, 0, 0, 0)), some (.iload 4, 2, (0, 0, 0, 0)), nn, some (.iadd, 1, (0, 0, 0, 0)), some (.baload, 1, (0, 0, 0, 0)), some (.ifCond .eq 7, 3, (28, 0, 0, 0)), nn, nn, some (.iconst 0, 1, (0, 0, 0, 0)), some (.goto 7, 3, (32, 0, 0, 0)), nn, nn, some (.iconst 1, 1, (0, 0, 0, 0)), some (.iload 4, 2, (0, 0, 0, 0)), nn, some (.ishl, 1, (0, 0, 0, 0))],
 [some (.ior, 1, (0, 0, 0, 0)), some (.istore_n 3, 1, (0, 0, 0, 0)), some (.iinc 4 1, 3, (0, 0, 0, 0)), nn, nn, some (.goto (-32), 3, (5, 0, 0, 0)), nn, nn, some (.iload_n 3, 1, (0, 0, 0, 0)), some (.ireturn, 1, (0, 0, 0, 0))]]
def pX7_readText : List (List (Option En)) := [[some (.aload_n 0, 1, (0, 0, 0, 0)), some (.invokevirtual 87, 3, (117, 1, 139, 0)), nn, nn, some (.aload_n 0, 1, (0, 0, 0, 0)), some (.iconst 0, 1, (0, 0, 0, 0)), some (.putfield 112, 3, (7, 4, 66, 0)), nn, nn, some (.aload_n 0, 1, (0, 0, 0, 0)), some (.bipush (-9), 2, (0, 0, 0, 0)), nn, some (.putfield 109, 3, (7, 5, 67, 0)), nn, nn, some (.aload_n 0, 1, (0, 0, 0, 0))],
 [some (.iconst 0, 1, (0, 0, 0, 0)), some (.putfield 117, 3, (7, 6, 68, 0)), nn, nn, some (.aload_n 0, 1, (0, 0, 0, 0)), some (.getfield 109, 3, (7, 5, 67, 0)), nn, nn, some (.bipush (-9), 2, (0, 0, 0, 0)), nn, some (.if_icmp .ne 40, 3, (66, 0, 0, 0)), nn, nn, some (.aload_n 0, 1, (0, 0, 0, 0)), some (.getfield 112, 3, (7, 4, 66, 0))],
 [nn, some (.aload_n 0, 1, (0, 0, 0, 0)), some (.getfield 103, 3, (7, 3, 65, 0)), nn, nn, some (.if_icmp .ge 29, 3, (66, 0, 0, 0)), nn, nn, some (.aload_n 0, 1, (0, 0, 0, 0)), some (.aload_n 0, 1, (0, 0, 0, 0)), some (.getfield 16, 3, (7, 2, 64, 0)), nn, nn, some (.aload_n 0, 1, (0, 0, 0, 0)), some (.getfield 112, 3, (7, 4, 66, 0))],
 [nn, some (.iaload, 1, (0, 0, 0, 0)), some (.invokevirtual 120, 3, (124, 2, 146, 0)), nn, nn, some (.aload_n 0, 1, (0, 0, 0, 0)), some (.dup, 1, (0, 0, 0, 0)), some (.getfield 117, 3, (7, 6, 68, 0)), nn, nn, some (.iconst 1, 1, (0, 0, 0, 0)), some (.iadd, 1, (0, 0, 0, 0)), some (.putfield 117, 3, (7, 6, 68, 0)), nn, nn, some (.goto (-43), 3, (20, 0, 0, 0))],
 [nn, nn, some (.aload_n 0, 1, (0, 0, 0, 0)), some (.getfield 109, 3, (7, 5, 67, 0)), nn, nn, some (.ireturn, 1, (0, 0, 0, 0))]]
def pX7_readPart : List (List (Option En)) := [[some (.iconst 0, 1, (0, 0, 0, 0)), some (.istore_n 2, 1, (0, 0, 0, 0)), some (.iconst 0, 1, (0, 0, 0, 0)), some (.istore_n 3, 1, (0, 0, 0, 0)), some (.iload_n 3, 1, (0, 0, 0, 0)), some (.bipush 6, 2, (0, 0, 0, 0)), nn, some (.if_icmp .ge 30, 3, (37, 0, 0, 0)), nn, nn, some (.iload_n 2, 1, (0, 0, 0, 0)), some (.aload_n 0, 1, (0, 0, 0, 0)), some (.iconst 4, 1, (0, 0, 0, 0)), some (.iload_n 3, 1, (0, 0, 0, 0)), some (.imul, 1, (0, 0, 0, 0)), some (.iconst 4, 1, (0, 0, 0, 0))],
 [some (.invokevirtual 124, 3, (122, 3, 147, 0)), nn, nn, some (.ifCond .eq 9, 3, (28, 0, 0, 0)), nn, nn, some (.iconst 1, 1, (0, 0, 0, 0)), some (.iload_n 3, 1, (0, 0, 0, 0)), some (.ishl, 1, (0, 0, 0, 0)), some (.goto 4, 3, (29, 0, 0, 0)), nn, nn, some (.iconst 0, 1, (0, 0, 0, 0)), some (.ior, 1, (0, 0, 0, 0)), some (.istore_n 2, 1, (0, 0, 0, 0)), some (.iinc 3 1, 3, (0, 0, 0, 0))],
 [nn, nn, some (.goto (-30), 3, (4, 0, 0, 0)), nn, nn, some (.iload_n 1, 1, (0, 0, 0, 0)), some (.bipush 66, 2, (0, 0, 0, 0)), nn, some (.if_icmp .ne 8, 3, (48, 0, 0, 0)), nn, nn, some (.bipush 24, 2, (0, 0, 0, 0)), nn, some (.goto 38, 3, (83, 0, 0, 0))],
 [some (.iload_n 1, 1, (0, 0, 0, 0)), some (.bipush 65, 2, (0, 0, 0, 0)), nn, some (.if_icmp .ne 8, 3, (59, 0, 0, 0)), nn, nn, some (.bipush 30, 2, (0, 0, 0, 0)), nn, some (.goto 27, 3, (83, 0, 0, 0)), nn, nn, some (.iload_n 1, 1, (0, 0, 0, 0)), some (.bipush 85, 2, (0, 0, 0, 0)), nn, some (.if_icmp .ne 8, 3, (70, 0, 0, 0))],
 [nn, some (.bipush 36, 2, (0, 0, 0, 0)), nn, some (.goto 16, 3, (83, 0, 0, 0)), nn, nn, some (.iload_n 1, 1, (0, 0, 0, 0)), some (.bipush 68, 2, (0, 0, 0, 0)), nn, some (.if_icmp .ne 8, 3, (81, 0, 0, 0)), nn, nn, some (.bipush 42, 2, (0, 0, 0, 0)), nn, some (.goto 5, 3, (83, 0, 0, 0))],
 [nn, some (.bipush (-9), 2, (0, 0, 0, 0)), nn, some (.istore_n 3, 1, (0, 0, 0, 0)), some (.iload_n 1, 1, (0, 0, 0, 0)), some (.bipush 83, 2, (0, 0, 0, 0)), nn, some (.if_icmp .ne 74, 3, (161, 0, 0, 0)), nn, nn, some (.iload_n 2, 1, (0, 0, 0, 0)), some (.ifCond .eq 70, 3, (161, 0, 0, 0)), nn, nn, some (.aload_n 0, 1, (0, 0, 0, 0)), some (.dup, 1, (0, 0, 0, 0))],
 [some (.getfield 112, 3, (7, 4, 66, 0)), nn, nn, some (.iconst 1, 1, (0, 0, 0, 0)), some (.iadd, 1, (0, 0, 0, 0)), some (.putfield 112, 3, (7, 4, 66, 0)), nn, nn, some (.aload_n 0, 1, (0, 0, 0, 0)), some (.iload_n 2, 1, (0, 0, 0, 0)), some (.invokevirtual 128, 3, (121, 2, 148, 0)), nn, nn, some (.istore 4, 2, (0, 0, 0, 0)), nn, some (.aload_n 0, 1, (0, 0, 0, 0))],
 [some (.aload_n 0, 1, (0, 0, 0, 0)), some (.iconst 4, 1, (0, 0, 0, 0)), some (.iload 4, 2, (0, 0, 0, 0)), nn, some (.imul, 1, (0, 0, 0, 0)), some (.iconst 4, 1, (0, 0, 0, 0)), some (.invokevirtual 124, 3, (122, 3, 147, 0)), nn, nn, some (.invokevirtual 128, 3, (121, 2, 148, 0)), nn, nn, some (.istore 5, 2, (0, 0, 0, 0)), nn, some (.aload_n 0, 1, (0, 0, 0, 0)), some (.getfield 19, 3, (7, 7, 69, 0))],
 [nn, nn, some (.iconst 4, 1, (0, 0, 0, 0)), some (.iload 4, 2, (0, 0, 0, 0)), nn, some (.imul, 1, (0, 0, 0, 0)), some (.iload 5, 2, (0, 0, 0, 0)), nn, some (.iadd, 1, (0, 0, 0, 0)), some (.iconst 1, 1, (0, 0, 0, 0)), some (.bastore, 1, (0, 0, 0, 0)), some (.aload_n 0, 1, (0, 0, 0, 0)), some (.getfield 7, 3, (7, 0, 62, 0)), nn, nn, some (.iconst 4, 1, (0, 0, 0, 0))],
 [some (.iload 4, 2, (0, 0, 0, 0)), nn, some (.imul, 1, (0, 0, 0, 0)), some (.iload 5, 2, (0, 0, 0, 0)), nn, some (.iadd, 1, (0, 0, 0, 0)), some (.aload_n 0, 1, (0, 0, 0, 0)), some (.sipush 1022, 3, (0, 0, 0, 0)), nn, nn, some (.invokevirtual 128, 3, (121, 2, 148, 0)), nn, nn, some (.iastore, 1, (0, 0, 0, 0)), some (.goto 111, 3, (269, 0, 0, 0))],
 [nn, some (.iload_n 3, 1, (0, 0, 0, 0)), some (.bipush (-9), 2, (0, 0, 0, 0)), nn, some (.if_icmp .eq 97, 3, (261, 0, 0, 0)), nn, nn, some (.aload_n 0, 1, (0, 0, 0, 0)), some (.iload_n 3, 1, (0, 0, 0, 0)), some (.iload_n 3, 1, (0, 0, 0, 0)), some (.bipush 42, 2, (0, 0, 0, 0)), nn, some (.if_icmp .ne 7, 3, (179, 0, 0, 0)), nn, nn, some (.iconst 4, 1, (0, 0, 0, 0))],
 [some (.goto 5, 3, (181, 0, 0, 0)), nn, nn, some (.bipush 6, 2, (0, 0, 0, 0)), nn, some (.invokevirtual 124, 3, (122, 3, 147, 0)), nn, nn, some (.ifCond .eq 77, 3, (261, 0, 0, 0)), nn, nn, some (.aload_n 0, 1, (0, 0, 0, 0)), some (.dup, 1, (0, 0, 0, 0)), some (.getfield 112, 3, (7, 4, 66, 0))],
 [some (.iconst 1, 1, (0, 0, 0, 0)), some (.iadd, 1, (0, 0, 0, 0)), some (.putfield 112, 3, (7, 4, 66, 0)), nn, nn, some (.aload_n 0, 1, (0, 0, 0, 0)), some (.aload_n 0, 1, (0, 0, 0, 0)), some (.iload_n 3, 1, (0, 0, 0, 0)), some (.iload_n 3, 1, (0, 0, 0, 0)), some (.bipush 42, 2, (0, 0, 0, 0)), nn, some (.if_icmp .ne 7, 3, (210, 0, 0, 0)), nn, nn, some (.iconst 4, 1, (0, 0, 0, 0)), some (.goto 5, 3, (212, 0, 0, 0))],
 [nn, nn, some (.bipush 6, 2, (0, 0, 0, 0)), nn, some (.invokevirtual 124, 3, (122, 3, 147, 0)), nn, nn, some (.invokevirtual 128, 3, (121, 2, 148, 0)), nn, nn, some (.istore 4, 2, (0, 0, 0, 0)), nn, some (.aload_n 0, 1, (0, 0, 0, 0)), some (.getfield 19, 3, (7, 7, 69, 0))],
 [some (.iload_n 3, 1, (0, 0, 0, 0)), some (.iload 4, 2, (0, 0, 0, 0)), nn, some (.iadd, 1, (0, 0, 0, 0)), some (.iconst 1, 1, (0, 0, 0, 0)), some (.bastore, 1, (0, 0, 0, 0)), some (.aload_n 0, 1, (0, 0, 0, 0)), some (.getfield 7, 3, (7, 0, 62, 0)), nn, nn, some (.iload_n 3, 1, (0, 0, 0, 0)), some (.iload 4, 2, (0, 0, 0, 0)), nn, some (.iadd, 1, (0, 0, 0, 0)), some (.aload_n 0, 1, (0, 0, 0, 0)), some (.iload_n 3, 1, (0, 0, 0, 0))],
 [some (.bipush 24, 2, (0, 0, 0, 0)), nn, some (.if_icmp .ne 9, 3, (251, 0, 0, 0)), nn, nn, some (.sipush 1022, 3, (0, 0, 0, 0)), nn, nn, some (.goto 6, 3, (254, 0, 0, 0)), nn, nn, some (.sipush 1023, 3, (0, 0, 0, 0)), nn, nn, some (.invokevirtual 128, 3, (121, 2, 148, 0))],
 [nn, some (.iastore, 1, (0, 0, 0, 0)), some (.goto 11, 3, (269, 0, 0, 0)), nn, nn, some (.aload_n 0, 1, (0, 0, 0, 0)), some (.aload_n 0, 1, (0, 0, 0, 0)), some (.getfield 112, 3, (7, 4, 66, 0)), nn, nn, some (.putfield 109, 3, (7, 5, 67, 0)), nn, nn, some (.return_, 1, (0, 0, 0, 0))]]
def pX7_fault : List (List (Option En)) := [[some (.aload_n 0, 1, (0, 0, 0, 0)), some (.invokevirtual 132, 3, (123, 1, 145, 0)), nn, nn, some (.ireturn, 1, (0, 0, 0, 0))]]
def pX7_wood : List (List (Option En)) := [[some (.aload_n 0, 1, (0, 0, 0, 0)), some (.invokevirtual 132, 3, (123, 1, 145, 0)), nn, nn, some (.bipush (-9), 2, (0, 0, 0, 0)), nn, some (.if_icmp .eq 6, 3, (12, 0, 0, 0)), nn, nn, some (.bipush (-3), 2, (0, 0, 0, 0)), nn, some (.ireturn, 1, (0, 0, 0, 0)), some (.aload_n 0, 1, (0, 0, 0, 0)), some (.invokevirtual 90, 3, (118, 1, 141, 0))],
 [some (.aload_n 0, 1, (0, 0, 0, 0)), some (.getfield 117, 3, (7, 6, 68, 0)), nn, nn, some (.ireturn, 1, (0, 0, 0, 0))]]
def pX7_isSort : List (List (Option En)) := [[some (.iload_n 0, 1, (0, 0, 0, 0)), some (.i2l, 1, (0, 0, 0, 0)), some (.lconst 0, 1, (0, 0, 0, 0)), some (.ldc2_w 136, 3, (0, 0, 9, 5)), nn, nn, some (.invokestatic 97, 3, (116, 3, 140, 1)), nn, nn, some (.ireturn, 1, (0, 0, 0, 0))]]
def pX7_isPlace : List (List (Option En)) := [[some (.iload_n 0, 1, (0, 0, 0, 0)), some (.i2l, 1, (0, 0, 0, 0)), some (.lconst 0, 1, (0, 0, 0, 0)), some (.ldc2_w 138, 3, (0, 0, 10, 3)), nn, nn, some (.invokestatic 97, 3, (116, 3, 140, 1)), nn, nn, some (.ireturn, 1, (0, 0, 0, 0))]]
def pX7_isWay : List (List (Option En)) := [[some (.iload_n 0, 1, (0, 0, 0, 0)), some (.i2l, 1, (0, 0, 0, 0)), some (.lconst 0, 1, (0, 0, 0, 0)), some (.ldc2_w 138, 3, (0, 0, 10, 3)), nn, nn, some (.invokestatic 97, 3, (116, 3, 140, 1)), nn, nn, some (.ireturn, 1, (0, 0, 0, 0))]]
def pX7_isLayer : List (List (Option En)) := [[some (.iload_n 1, 1, (0, 0, 0, 0)), some (.i2l, 1, (0, 0, 0, 0)), some (.lconst 0, 1, (0, 0, 0, 0)), some (.aload_n 0, 1, (0, 0, 0, 0)), some (.getfield 140, 3, (7, 13, 75, 0)), nn, nn, some (.iconst 1, 1, (0, 0, 0, 0)), some (.isub, 1, (0, 0, 0, 0)), some (.i2l, 1, (0, 0, 0, 0)), some (.invokestatic 97, 3, (116, 3, 140, 1)), nn, nn, some (.ireturn, 1, (0, 0, 0, 0))]]
def pX7_stands : List (List (Option En)) := [[some (.iload_n 1, 1, (0, 0, 0, 0)), some (.invokestatic 143, 3, (127, 1, 151, 1)), nn, nn, some (.ifCond .eq 23, 3, (27, 0, 0, 0)), nn, nn, some (.iload_n 2, 1, (0, 0, 0, 0)), some (.invokestatic 147, 3, (128, 1, 152, 1)), nn, nn, some (.ifCond .eq 16, 3, (27, 0, 0, 0)), nn, nn, some (.aload_n 0, 1, (0, 0, 0, 0)), some (.getfield 13, 3, (7, 1, 63, 0))],
 [nn, nn, some (.iconst 4, 1, (0, 0, 0, 0)), some (.iload_n 1, 1, (0, 0, 0, 0)), some (.imul, 1, (0, 0, 0, 0)), some (.iload_n 2, 1, (0, 0, 0, 0)), some (.iadd, 1, (0, 0, 0, 0)), some (.iaload, 1, (0, 0, 0, 0)), some (.goto 4, 3, (28, 0, 0, 0)), nn, nn, some (.iconst (-1), 1, (0, 0, 0, 0)), some (.ireturn, 1, (0, 0, 0, 0))]]
def pX7_sorted : List (List (Option En)) := [[some (.iload_n 1, 1, (0, 0, 0, 0)), some (.invokestatic 143, 3, (127, 1, 151, 1)), nn, nn, some (.ifCond .ne 5, 3, (9, 0, 0, 0)), nn, nn, some (.iconst (-1), 1, (0, 0, 0, 0)), some (.ireturn, 1, (0, 0, 0, 0)), some (.iload_n 2, 1, (0, 0, 0, 0)), some (.i2l, 1, (0, 0, 0, 0)), some (.lconst 0, 1, (0, 0, 0, 0)), some (.ldc2_w 150, 3, (0, 0, 11, 2)), nn, nn, some (.invokestatic 97, 3, (116, 3, 140, 1))],
 [nn, nn, some (.ifCond .eq 20, 3, (38, 0, 0, 0)), nn, nn, some (.aload_n 0, 1, (0, 0, 0, 0)), some (.getfield 13, 3, (7, 1, 63, 0)), nn, nn, some (.bipush 24, 2, (0, 0, 0, 0)), nn, some (.bipush 6, 2, (0, 0, 0, 0)), nn, some (.iload_n 2, 1, (0, 0, 0, 0)), some (.imul, 1, (0, 0, 0, 0)), some (.iadd, 1, (0, 0, 0, 0))],
 [some (.iload_n 1, 1, (0, 0, 0, 0)), some (.iadd, 1, (0, 0, 0, 0)), some (.iaload, 1, (0, 0, 0, 0)), some (.goto 5, 3, (40, 0, 0, 0)), nn, nn, some (.bipush (-2), 2, (0, 0, 0, 0)), nn, some (.ireturn, 1, (0, 0, 0, 0))]]
def pX7_miles : List (List (Option En)) := [[some (.iload_n 1, 1, (0, 0, 0, 0)), some (.invokestatic 147, 3, (128, 1, 152, 1)), nn, nn, some (.ifCond .eq 15, 3, (19, 0, 0, 0)), nn, nn, some (.aload_n 0, 1, (0, 0, 0, 0)), some (.getfield 13, 3, (7, 1, 63, 0)), nn, nn, some (.bipush 42, 2, (0, 0, 0, 0)), nn, some (.iload_n 1, 1, (0, 0, 0, 0)), some (.iadd, 1, (0, 0, 0, 0)), some (.iaload, 1, (0, 0, 0, 0))],
 [some (.goto 4, 3, (20, 0, 0, 0)), nn, nn, some (.iconst (-1), 1, (0, 0, 0, 0)), some (.ireturn, 1, (0, 0, 0, 0))]]
def pX7_way : List (List (Option En)) := [[some (.iload_n 1, 1, (0, 0, 0, 0)), some (.invokestatic 152, 3, (129, 1, 156, 1)), nn, nn, some (.ifCond .ne 5, 3, (9, 0, 0, 0)), nn, nn, some (.iconst (-1), 1, (0, 0, 0, 0)), some (.ireturn, 1, (0, 0, 0, 0)), some (.iload_n 2, 1, (0, 0, 0, 0)), some (.i2l, 1, (0, 0, 0, 0)), some (.lconst 0, 1, (0, 0, 0, 0)), some (.ldc2_w 115, 3, (0, 0, 8, 9)), nn, nn, some (.invokestatic 97, 3, (116, 3, 140, 1))],
 [nn, nn, some (.ifCond .eq 45, 3, (63, 0, 0, 0)), nn, nn, some (.iload_n 3, 1, (0, 0, 0, 0)), some (.i2l, 1, (0, 0, 0, 0)), some (.lconst 0, 1, (0, 0, 0, 0)), some (.ldc2_w 155, 3, (0, 0, 12, 60)), nn, nn, some (.invokestatic 97, 3, (116, 3, 140, 1)), nn, nn, some (.ifCond .eq 33, 3, (63, 0, 0, 0))],
 [nn, some (.iload 4, 2, (0, 0, 0, 0)), nn, some (.bipush (-9), 2, (0, 0, 0, 0)), nn, some (.if_icmp .eq 11, 3, (48, 0, 0, 0)), nn, nn, some (.iload 4, 2, (0, 0, 0, 0)), nn, some (.invokestatic 143, 3, (127, 1, 151, 1)), nn, nn, some (.ifCond .eq 18, 3, (63, 0, 0, 0))],
 [some (.iload 5, 2, (0, 0, 0, 0)), nn, some (.bipush (-9), 2, (0, 0, 0, 0)), nn, some (.if_icmp .eq 14, 3, (66, 0, 0, 0)), nn, nn, some (.iload 5, 2, (0, 0, 0, 0)), nn, some (.invokestatic 143, 3, (127, 1, 151, 1)), nn, nn, some (.ifCond .ne 6, 3, (66, 0, 0, 0)), nn, nn, some (.bipush (-2), 2, (0, 0, 0, 0))],
 [nn, some (.ireturn, 1, (0, 0, 0, 0)), some (.aload_n 0, 1, (0, 0, 0, 0)), some (.getfield 23, 3, (7, 8, 70, 0)), nn, nn, some (.iconst 4, 1, (0, 0, 0, 0)), some (.iload_n 1, 1, (0, 0, 0, 0)), some (.imul, 1, (0, 0, 0, 0)), some (.iaload, 1, (0, 0, 0, 0)), some (.istore 6, 2, (0, 0, 0, 0)), nn, some (.aload_n 0, 1, (0, 0, 0, 0)), some (.getfield 23, 3, (7, 8, 70, 0))],
 [some (.iconst 4, 1, (0, 0, 0, 0)), some (.iload_n 1, 1, (0, 0, 0, 0)), some (.imul, 1, (0, 0, 0, 0)), some (.iload_n 2, 1, (0, 0, 0, 0)), some (.iastore, 1, (0, 0, 0, 0)), some (.aload_n 0, 1, (0, 0, 0, 0)), some (.getfield 23, 3, (7, 8, 70, 0)), nn, nn, some (.iconst 4, 1, (0, 0, 0, 0)), some (.iload_n 1, 1, (0, 0, 0, 0)), some (.imul, 1, (0, 0, 0, 0)), some (.iconst 1, 1, (0, 0, 0, 0)), some (.iadd, 1, (0, 0, 0, 0)), some (.iload_n 3, 1, (0, 0, 0, 0)), some (.iastore, 1, (0, 0, 0, 0))],
 [some (.aload_n 0, 1, (0, 0, 0, 0)), some (.getfield 23, 3, (7, 8, 70, 0)), nn, nn, some (.iconst 4, 1, (0, 0, 0, 0)), some (.iload_n 1, 1, (0, 0, 0, 0)), some (.imul, 1, (0, 0, 0, 0)), some (.iconst 2, 1, (0, 0, 0, 0)), some (.iadd, 1, (0, 0, 0, 0)), some (.iload 4, 2, (0, 0, 0, 0)), nn, some (.iastore, 1, (0, 0, 0, 0)), some (.aload_n 0, 1, (0, 0, 0, 0)), some (.getfield 23, 3, (7, 8, 70, 0))],
 [some (.iconst 4, 1, (0, 0, 0, 0)), some (.iload_n 1, 1, (0, 0, 0, 0)), some (.imul, 1, (0, 0, 0, 0)), some (.iconst 3, 1, (0, 0, 0, 0)), some (.iadd, 1, (0, 0, 0, 0)), some (.iload 5, 2, (0, 0, 0, 0)), nn, some (.iastore, 1, (0, 0, 0, 0)), some (.iload 6, 2, (0, 0, 0, 0)), nn, some (.ireturn, 1, (0, 0, 0, 0))]]
def pX7_going : List (List (Option En)) := [[some (.iload_n 1, 1, (0, 0, 0, 0)), some (.invokestatic 152, 3, (129, 1, 156, 1)), nn, nn, some (.ifCond .ne 5, 3, (9, 0, 0, 0)), nn, nn, some (.iconst (-1), 1, (0, 0, 0, 0)), some (.ireturn, 1, (0, 0, 0, 0)), some (.iload_n 2, 1, (0, 0, 0, 0)), some (.i2l, 1, (0, 0, 0, 0)), some (.lconst 0, 1, (0, 0, 0, 0)), some (.ldc2_w 138, 3, (0, 0, 10, 3)), nn, nn, some (.invokestatic 97, 3, (116, 3, 140, 1))],
 [nn, nn, some (.ifCond .eq 16, 3, (34, 0, 0, 0)), nn, nn, some (.aload_n 0, 1, (0, 0, 0, 0)), some (.getfield 23, 3, (7, 8, 70, 0)), nn, nn, some (.iconst 4, 1, (0, 0, 0, 0)), some (.iload_n 1, 1, (0, 0, 0, 0)), some (.imul, 1, (0, 0, 0, 0)), some (.iload_n 2, 1, (0, 0, 0, 0)), some (.iadd, 1, (0, 0, 0, 0)), some (.iaload, 1, (0, 0, 0, 0)), some (.goto 5, 3, (36, 0, 0, 0))],
 [nn, nn, some (.bipush (-2), 2, (0, 0, 0, 0)), nn, some (.ireturn, 1, (0, 0, 0, 0))]]
def pX7_layNear : List (List (Option En)) := [[some (.iconst 0, 1, (0, 0, 0, 0)), some (.istore_n 1, 1, (0, 0, 0, 0)), some (.iload_n 1, 1, (0, 0, 0, 0)), some (.iconst 4, 1, (0, 0, 0, 0)), some (.if_icmp .ge 86, 3, (90, 0, 0, 0)), nn, nn, some (.iconst 0, 1, (0, 0, 0, 0)), some (.istore_n 2, 1, (0, 0, 0, 0)), some (.iconst 0, 1, (0, 0, 0, 0)), some (.istore_n 3, 1, (0, 0, 0, 0)), some (.iload_n 3, 1, (0, 0, 0, 0)), some (.iconst 4, 1, (0, 0, 0, 0)), some (.if_icmp .ge 64, 3, (77, 0, 0, 0))],
 [some (.iload_n 2, 1, (0, 0, 0, 0)), some (.aload_n 0, 1, (0, 0, 0, 0)), some (.getfield 13, 3, (7, 1, 63, 0)), nn, nn, some (.bipush 42, 2, (0, 0, 0, 0)), nn, some (.iload_n 3, 1, (0, 0, 0, 0)), some (.iadd, 1, (0, 0, 0, 0)), some (.iaload, 1, (0, 0, 0, 0)), some (.aload_n 0, 1, (0, 0, 0, 0)), some (.getfield 13, 3, (7, 1, 63, 0)), nn, nn, some (.bipush 42, 2, (0, 0, 0, 0))],
 [some (.iload_n 1, 1, (0, 0, 0, 0)), some (.iadd, 1, (0, 0, 0, 0)), some (.iaload, 1, (0, 0, 0, 0)), some (.if_icmp .lt 29, 3, (64, 0, 0, 0)), nn, nn, some (.aload_n 0, 1, (0, 0, 0, 0)), some (.getfield 13, 3, (7, 1, 63, 0)), nn, nn, some (.bipush 42, 2, (0, 0, 0, 0)), nn, some (.iload_n 3, 1, (0, 0, 0, 0)), some (.iadd, 1, (0, 0, 0, 0)), some (.iaload, 1, (0, 0, 0, 0)), some (.aload_n 0, 1, (0, 0, 0, 0))],
 [some (.getfield 13, 3, (7, 1, 63, 0)), nn, nn, some (.bipush 42, 2, (0, 0, 0, 0)), nn, some (.iload_n 1, 1, (0, 0, 0, 0)), some (.iadd, 1, (0, 0, 0, 0)), some (.iaload, 1, (0, 0, 0, 0)), some (.if_icmp .ne 12, 3, (68, 0, 0, 0)), nn, nn, some (.iload_n 3, 1, (0, 0, 0, 0)), some (.iload_n 1, 1, (0, 0, 0, 0)), some (.if_icmp .ge 7, 3, (68, 0, 0, 0))],
 [some (.iconst 1, 1, (0, 0, 0, 0)), some (.goto 4, 3, (69, 0, 0, 0)), nn, nn, some (.iconst 0, 1, (0, 0, 0, 0)), some (.iadd, 1, (0, 0, 0, 0)), some (.istore_n 2, 1, (0, 0, 0, 0)), some (.iinc 3 1, 3, (0, 0, 0, 0)), nn, nn, some (.goto (-63), 3, (11, 0, 0, 0)), nn, nn, some (.aload_n 0, 1, (0, 0, 0, 0)), some (.getfield 29, 3, (7, 10, 72, 0))],
 [nn, some (.iload_n 2, 1, (0, 0, 0, 0)), some (.iload_n 1, 1, (0, 0, 0, 0)), some (.iastore, 1, (0, 0, 0, 0)), some (.iinc 1 1, 3, (0, 0, 0, 0)), nn, nn, some (.goto (-85), 3, (2, 0, 0, 0)), nn, nn, some (.return_, 1, (0, 0, 0, 0))]]
def pX7_left : List (List (Option En)) := [[some (.aload_n 0, 1, (0, 0, 0, 0)), some (.getfield 13, 3, (7, 1, 63, 0)), nn, nn, some (.iconst 4, 1, (0, 0, 0, 0)), some (.iload_n 1, 1, (0, 0, 0, 0)), some (.imul, 1, (0, 0, 0, 0)), some (.iload_n 2, 1, (0, 0, 0, 0)), some (.iadd, 1, (0, 0, 0, 0)), some (.iaload, 1, (0, 0, 0, 0)), some (.aload_n 0, 1, (0, 0, 0, 0)), some (.getfield 26, 3, (7, 9, 71, 0)), nn, nn, some (.iconst 4, 1, (0, 0, 0, 0)), some (.iload_n 1, 1, (0, 0, 0, 0))],
 [some (.imul, 1, (0, 0, 0, 0)), some (.iload_n 2, 1, (0, 0, 0, 0)), some (.iadd, 1, (0, 0, 0, 0)), some (.iaload, 1, (0, 0, 0, 0)), some (.isub, 1, (0, 0, 0, 0)), some (.ireturn, 1, (0, 0, 0, 0))]]
def pX7_takePiece : List (List (Option En)) := [[some (.aload_n 0, 1, (0, 0, 0, 0)), some (.getfield 26, 3, (7, 9, 71, 0)), nn, nn, some (.iconst 4, 1, (0, 0, 0, 0)), some (.iload_n 1, 1, (0, 0, 0, 0)), some (.imul, 1, (0, 0, 0, 0)), some (.iload_n 2, 1, (0, 0, 0, 0)), some (.iadd, 1, (0, 0, 0, 0)), some (.dup2, 1, (0, 0, 0, 0)), some (.iaload, 1, (0, 0, 0, 0)), some (.iconst 1, 1, (0, 0, 0, 0)), some (.iadd, 1, (0, 0, 0, 0)), some (.iastore, 1, (0, 0, 0, 0)), some (.aload_n 0, 1, (0, 0, 0, 0)), some (.dup, 1, (0, 0, 0, 0))],
 [some (.getfield 157, 3, (7, 11, 73, 0)), nn, nn, some (.iconst 1, 1, (0, 0, 0, 0)), some (.iadd, 1, (0, 0, 0, 0)), some (.putfield 157, 3, (7, 11, 73, 0)), nn, nn, some (.return_, 1, (0, 0, 0, 0))]]
def pX7_mostAt : List (List (Option En)) := [[some (.bipush (-9), 2, (0, 0, 0, 0)), nn, some (.istore_n 3, 1, (0, 0, 0, 0)), some (.iconst 0, 1, (0, 0, 0, 0)), some (.istore 4, 2, (0, 0, 0, 0)), nn, some (.iload 4, 2, (0, 0, 0, 0)), nn, some (.bipush 6, 2, (0, 0, 0, 0)), nn, some (.if_icmp .ge 50, 3, (60, 0, 0, 0)), nn, nn, some (.iload 4, 2, (0, 0, 0, 0)), nn, some (.iload_n 2, 1, (0, 0, 0, 0))],
 [some (.if_icmp .eq 38, 3, (54, 0, 0, 0)), nn, nn, some (.aload_n 0, 1, (0, 0, 0, 0)), some (.iload 4, 2, (0, 0, 0, 0)), nn, some (.iload_n 1, 1, (0, 0, 0, 0)), some (.invokevirtual 160, 3, (137, 3, 161, 0)), nn, nn, some (.ifCond .le 28, 3, (54, 0, 0, 0)), nn, nn, some (.iload_n 3, 1, (0, 0, 0, 0)), some (.bipush (-9), 2, (0, 0, 0, 0))],
 [some (.if_icmp .eq 19, 3, (51, 0, 0, 0)), nn, nn, some (.aload_n 0, 1, (0, 0, 0, 0)), some (.iload 4, 2, (0, 0, 0, 0)), nn, some (.iload_n 1, 1, (0, 0, 0, 0)), some (.invokevirtual 160, 3, (137, 3, 161, 0)), nn, nn, some (.aload_n 0, 1, (0, 0, 0, 0)), some (.iload_n 3, 1, (0, 0, 0, 0)), some (.iload_n 1, 1, (0, 0, 0, 0)), some (.invokevirtual 160, 3, (137, 3, 161, 0))],
 [some (.if_icmp .le 6, 3, (54, 0, 0, 0)), nn, nn, some (.iload 4, 2, (0, 0, 0, 0)), nn, some (.istore_n 3, 1, (0, 0, 0, 0)), some (.iinc 4 1, 3, (0, 0, 0, 0)), nn, nn, some (.goto (-51), 3, (6, 0, 0, 0)), nn, nn, some (.iload_n 3, 1, (0, 0, 0, 0)), some (.ireturn, 1, (0, 0, 0, 0))]]
def pX7_layTaken : List (List (Option En)) := [[some (.aload_n 0, 1, (0, 0, 0, 0)), some (.invokevirtual 163, 3, (136, 1, 160, 0)), nn, nn, some (.aload_n 0, 1, (0, 0, 0, 0)), some (.iconst 0, 1, (0, 0, 0, 0)), some (.putfield 157, 3, (7, 11, 73, 0)), nn, nn, some (.iconst 0, 1, (0, 0, 0, 0)), some (.istore_n 2, 1, (0, 0, 0, 0)), some (.iload_n 2, 1, (0, 0, 0, 0)), some (.bipush 24, 2, (0, 0, 0, 0)), nn, some (.if_icmp .ge 16, 3, (30, 0, 0, 0))],
 [nn, some (.aload_n 0, 1, (0, 0, 0, 0)), some (.getfield 26, 3, (7, 9, 71, 0)), nn, nn, some (.iload_n 2, 1, (0, 0, 0, 0)), some (.iconst 0, 1, (0, 0, 0, 0)), some (.iastore, 1, (0, 0, 0, 0)), some (.iinc 2 1, 3, (0, 0, 0, 0)), nn, nn, some (.goto (-16), 3, (11, 0, 0, 0)), nn, nn, some (.aload_n 0, 1, (0, 0, 0, 0)), some (.getfield 23, 3, (7, 8, 70, 0))],
 [nn, nn, some (.iconst 4, 1, (0, 0, 0, 0)), some (.iload_n 1, 1, (0, 0, 0, 0)), some (.imul, 1, (0, 0, 0, 0)), some (.iconst 1, 1, (0, 0, 0, 0)), some (.iadd, 1, (0, 0, 0, 0)), some (.iaload, 1, (0, 0, 0, 0)), some (.istore_n 2, 1, (0, 0, 0, 0)), some (.aload_n 0, 1, (0, 0, 0, 0)), some (.getfield 23, 3, (7, 8, 70, 0)), nn, nn, some (.iconst 4, 1, (0, 0, 0, 0)), some (.iload_n 1, 1, (0, 0, 0, 0)), some (.imul, 1, (0, 0, 0, 0))],
 [some (.iconst 2, 1, (0, 0, 0, 0)), some (.iadd, 1, (0, 0, 0, 0)), some (.iaload, 1, (0, 0, 0, 0)), some (.istore_n 3, 1, (0, 0, 0, 0)), some (.aload_n 0, 1, (0, 0, 0, 0)), some (.getfield 23, 3, (7, 8, 70, 0)), nn, nn, some (.iconst 4, 1, (0, 0, 0, 0)), some (.iload_n 1, 1, (0, 0, 0, 0)), some (.imul, 1, (0, 0, 0, 0)), some (.iconst 3, 1, (0, 0, 0, 0)), some (.iadd, 1, (0, 0, 0, 0)), some (.iaload, 1, (0, 0, 0, 0)), some (.istore 4, 2, (0, 0, 0, 0))],
 [some (.iconst 0, 1, (0, 0, 0, 0)), some (.istore 5, 2, (0, 0, 0, 0)), nn, some (.iload 5, 2, (0, 0, 0, 0)), nn, some (.iconst 4, 1, (0, 0, 0, 0)), some (.if_icmp .ge 85, 3, (155, 0, 0, 0)), nn, nn, some (.iload_n 3, 1, (0, 0, 0, 0)), some (.bipush (-9), 2, (0, 0, 0, 0)), nn, some (.if_icmp .eq 79, 3, (155, 0, 0, 0)), nn, nn, some (.iload_n 3, 1, (0, 0, 0, 0))],
 [some (.iload 4, 2, (0, 0, 0, 0)), nn, some (.if_icmp .eq 73, 3, (155, 0, 0, 0)), nn, nn, some (.aload_n 0, 1, (0, 0, 0, 0)), some (.getfield 13, 3, (7, 1, 63, 0)), nn, nn, some (.bipush 42, 2, (0, 0, 0, 0)), nn, some (.aload_n 0, 1, (0, 0, 0, 0)), some (.getfield 29, 3, (7, 10, 72, 0)), nn, nn, some (.iload 5, 2, (0, 0, 0, 0))],
 [nn, some (.iaload, 1, (0, 0, 0, 0)), some (.iadd, 1, (0, 0, 0, 0)), some (.iaload, 1, (0, 0, 0, 0)), some (.aload_n 0, 1, (0, 0, 0, 0)), some (.getfield 23, 3, (7, 8, 70, 0)), nn, nn, some (.iconst 4, 1, (0, 0, 0, 0)), some (.iload_n 1, 1, (0, 0, 0, 0)), some (.imul, 1, (0, 0, 0, 0)), some (.iaload, 1, (0, 0, 0, 0)), some (.if_icmp .gt 41, 3, (149, 0, 0, 0)), nn, nn, some (.aload_n 0, 1, (0, 0, 0, 0))],
 [some (.iload_n 3, 1, (0, 0, 0, 0)), some (.aload_n 0, 1, (0, 0, 0, 0)), some (.getfield 29, 3, (7, 10, 72, 0)), nn, nn, some (.iload 5, 2, (0, 0, 0, 0)), nn, some (.iaload, 1, (0, 0, 0, 0)), some (.invokevirtual 160, 3, (137, 3, 161, 0)), nn, nn, some (.ifCond .le 26, 3, (149, 0, 0, 0)), nn, nn, some (.aload_n 0, 1, (0, 0, 0, 0)), some (.getfield 157, 3, (7, 11, 73, 0))],
 [nn, nn, some (.iload_n 2, 1, (0, 0, 0, 0)), some (.if_icmp .ge 18, 3, (149, 0, 0, 0)), nn, nn, some (.aload_n 0, 1, (0, 0, 0, 0)), some (.iload_n 3, 1, (0, 0, 0, 0)), some (.aload_n 0, 1, (0, 0, 0, 0)), some (.getfield 29, 3, (7, 10, 72, 0)), nn, nn, some (.iload 5, 2, (0, 0, 0, 0)), nn, some (.iaload, 1, (0, 0, 0, 0)), some (.invokevirtual 166, 3, (138, 3, 162, 0))],
 [nn, nn, some (.goto (-61), 3, (85, 0, 0, 0)), nn, nn, some (.iinc 5 1, 3, (0, 0, 0, 0)), nn, nn, some (.goto (-85), 3, (67, 0, 0, 0)), nn, nn, some (.iconst 0, 1, (0, 0, 0, 0)), some (.istore 5, 2, (0, 0, 0, 0)), nn, some (.iload 5, 2, (0, 0, 0, 0))],
 [some (.iconst 4, 1, (0, 0, 0, 0)), some (.if_icmp .ge 96, 3, (257, 0, 0, 0)), nn, nn, some (.aload_n 0, 1, (0, 0, 0, 0)), some (.aload_n 0, 1, (0, 0, 0, 0)), some (.getfield 29, 3, (7, 10, 72, 0)), nn, nn, some (.iload 5, 2, (0, 0, 0, 0)), nn, some (.iaload, 1, (0, 0, 0, 0)), some (.iload 4, 2, (0, 0, 0, 0)), nn, some (.invokevirtual 170, 3, (139, 3, 163, 0))],
 [nn, some (.istore 6, 2, (0, 0, 0, 0)), nn, some (.aload_n 0, 1, (0, 0, 0, 0)), some (.getfield 13, 3, (7, 1, 63, 0)), nn, nn, some (.bipush 42, 2, (0, 0, 0, 0)), nn, some (.aload_n 0, 1, (0, 0, 0, 0)), some (.getfield 29, 3, (7, 10, 72, 0)), nn, nn, some (.iload 5, 2, (0, 0, 0, 0)), nn, some (.iaload, 1, (0, 0, 0, 0))],
 [some (.iadd, 1, (0, 0, 0, 0)), some (.iaload, 1, (0, 0, 0, 0)), some (.aload_n 0, 1, (0, 0, 0, 0)), some (.getfield 23, 3, (7, 8, 70, 0)), nn, nn, some (.iconst 4, 1, (0, 0, 0, 0)), some (.iload_n 1, 1, (0, 0, 0, 0)), some (.imul, 1, (0, 0, 0, 0)), some (.iaload, 1, (0, 0, 0, 0)), some (.if_icmp .gt 49, 3, (251, 0, 0, 0)), nn, nn, some (.iload 6, 2, (0, 0, 0, 0)), nn, some (.bipush (-9), 2, (0, 0, 0, 0))],
 [nn, some (.if_icmp .eq 42, 3, (251, 0, 0, 0)), nn, nn, some (.aload_n 0, 1, (0, 0, 0, 0)), some (.getfield 157, 3, (7, 11, 73, 0)), nn, nn, some (.iload_n 2, 1, (0, 0, 0, 0)), some (.if_icmp .ge 34, 3, (251, 0, 0, 0)), nn, nn, some (.aload_n 0, 1, (0, 0, 0, 0)), some (.iload 6, 2, (0, 0, 0, 0)), nn, some (.aload_n 0, 1, (0, 0, 0, 0))],
 [some (.getfield 29, 3, (7, 10, 72, 0)), nn, nn, some (.iload 5, 2, (0, 0, 0, 0)), nn, some (.iaload, 1, (0, 0, 0, 0)), some (.invokevirtual 166, 3, (138, 3, 162, 0)), nn, nn, some (.aload_n 0, 1, (0, 0, 0, 0)), some (.aload_n 0, 1, (0, 0, 0, 0)), some (.getfield 29, 3, (7, 10, 72, 0)), nn, nn, some (.iload 5, 2, (0, 0, 0, 0))],
 [some (.iaload, 1, (0, 0, 0, 0)), some (.iload 4, 2, (0, 0, 0, 0)), nn, some (.invokevirtual 170, 3, (139, 3, 163, 0)), nn, nn, some (.istore 6, 2, (0, 0, 0, 0)), nn, some (.goto (-69), 3, (179, 0, 0, 0)), nn, nn, some (.iinc 5 1, 3, (0, 0, 0, 0)), nn, nn, some (.goto (-96), 3, (158, 0, 0, 0))],
 [nn, some (.return_, 1, (0, 0, 0, 0))]]
def pX7_gathered : List (List (Option En)) := [[some (.iload_n 1, 1, (0, 0, 0, 0)), some (.invokestatic 152, 3, (129, 1, 156, 1)), nn, nn, some (.ifCond .eq 17, 3, (21, 0, 0, 0)), nn, nn, some (.iload_n 2, 1, (0, 0, 0, 0)), some (.invokestatic 143, 3, (127, 1, 151, 1)), nn, nn, some (.ifCond .eq 10, 3, (21, 0, 0, 0)), nn, nn, some (.iload_n 3, 1, (0, 0, 0, 0)), some (.invokestatic 147, 3, (128, 1, 152, 1))],
 [nn, nn, some (.ifCond .ne 5, 3, (23, 0, 0, 0)), nn, nn, some (.iconst (-1), 1, (0, 0, 0, 0)), some (.ireturn, 1, (0, 0, 0, 0)), some (.aload_n 0, 1, (0, 0, 0, 0)), some (.iload_n 1, 1, (0, 0, 0, 0)), some (.invokevirtual 173, 3, (140, 2, 159, 0)), nn, nn, some (.aload_n 0, 1, (0, 0, 0, 0)), some (.getfield 26, 3, (7, 9, 71, 0))],
 [some (.iconst 4, 1, (0, 0, 0, 0)), some (.iload_n 2, 1, (0, 0, 0, 0)), some (.imul, 1, (0, 0, 0, 0)), some (.iload_n 3, 1, (0, 0, 0, 0)), some (.iadd, 1, (0, 0, 0, 0)), some (.iaload, 1, (0, 0, 0, 0)), some (.ireturn, 1, (0, 0, 0, 0))]]
def pX7_allTaken : List (List (Option En)) := [[some (.aload_n 0, 1, (0, 0, 0, 0)), some (.getfield 26, 3, (7, 9, 71, 0)), nn, nn, some (.iconst 4, 1, (0, 0, 0, 0)), some (.iload_n 1, 1, (0, 0, 0, 0)), some (.imul, 1, (0, 0, 0, 0)), some (.iaload, 1, (0, 0, 0, 0)), some (.aload_n 0, 1, (0, 0, 0, 0)), some (.getfield 26, 3, (7, 9, 71, 0)), nn, nn, some (.iconst 4, 1, (0, 0, 0, 0)), some (.iload_n 1, 1, (0, 0, 0, 0)), some (.imul, 1, (0, 0, 0, 0)), some (.iconst 1, 1, (0, 0, 0, 0))],
 [some (.iadd, 1, (0, 0, 0, 0)), some (.iaload, 1, (0, 0, 0, 0)), some (.iadd, 1, (0, 0, 0, 0)), some (.aload_n 0, 1, (0, 0, 0, 0)), some (.getfield 26, 3, (7, 9, 71, 0)), nn, nn, some (.iconst 4, 1, (0, 0, 0, 0)), some (.iload_n 1, 1, (0, 0, 0, 0)), some (.imul, 1, (0, 0, 0, 0)), some (.iconst 2, 1, (0, 0, 0, 0)), some (.iadd, 1, (0, 0, 0, 0)), some (.iaload, 1, (0, 0, 0, 0)), some (.iadd, 1, (0, 0, 0, 0)), some (.aload_n 0, 1, (0, 0, 0, 0)), some (.getfield 26, 3, (7, 9, 71, 0))],
 [nn, nn, some (.iconst 4, 1, (0, 0, 0, 0)), some (.iload_n 1, 1, (0, 0, 0, 0)), some (.imul, 1, (0, 0, 0, 0)), some (.iconst 3, 1, (0, 0, 0, 0)), some (.iadd, 1, (0, 0, 0, 0)), some (.iaload, 1, (0, 0, 0, 0)), some (.iadd, 1, (0, 0, 0, 0)), some (.ireturn, 1, (0, 0, 0, 0))]]
def pX7_layFire : List (List (Option En)) := [[some (.aload_n 0, 1, (0, 0, 0, 0)), some (.iload_n 1, 1, (0, 0, 0, 0)), some (.invokevirtual 173, 3, (140, 2, 159, 0)), nn, nn, some (.iconst 0, 1, (0, 0, 0, 0)), some (.istore_n 2, 1, (0, 0, 0, 0)), some (.iload_n 2, 1, (0, 0, 0, 0)), some (.bipush 6, 2, (0, 0, 0, 0)), nn, some (.if_icmp .ge 109, 3, (119, 0, 0, 0)), nn, nn, some (.aload_n 0, 1, (0, 0, 0, 0)), some (.iload_n 2, 1, (0, 0, 0, 0)), some (.invokevirtual 176, 3, (142, 2, 166, 0))],
 [nn, nn, some (.istore_n 3, 1, (0, 0, 0, 0)), some (.aload_n 0, 1, (0, 0, 0, 0)), some (.getfield 32, 3, (7, 12, 74, 0)), nn, nn, some (.iload_n 2, 1, (0, 0, 0, 0)), some (.iload_n 3, 1, (0, 0, 0, 0)), some (.aload_n 0, 1, (0, 0, 0, 0)), some (.getfield 13, 3, (7, 1, 63, 0)), nn, nn, some (.bipush 30, 2, (0, 0, 0, 0)), nn, some (.iload_n 2, 1, (0, 0, 0, 0))],
 [some (.iadd, 1, (0, 0, 0, 0)), some (.iaload, 1, (0, 0, 0, 0)), some (.imul, 1, (0, 0, 0, 0)), some (.bipush 9, 2, (0, 0, 0, 0)), nn, some (.iadd, 1, (0, 0, 0, 0)), some (.bipush 10, 2, (0, 0, 0, 0)), nn, some (.idiv, 1, (0, 0, 0, 0)), some (.iastore, 1, (0, 0, 0, 0)), some (.aload_n 0, 1, (0, 0, 0, 0)), some (.getfield 32, 3, (7, 12, 74, 0)), nn, nn, some (.bipush 6, 2, (0, 0, 0, 0))],
 [some (.iload_n 2, 1, (0, 0, 0, 0)), some (.iadd, 1, (0, 0, 0, 0)), some (.iload_n 3, 1, (0, 0, 0, 0)), some (.aload_n 0, 1, (0, 0, 0, 0)), some (.getfield 32, 3, (7, 12, 74, 0)), nn, nn, some (.iload_n 2, 1, (0, 0, 0, 0)), some (.iaload, 1, (0, 0, 0, 0)), some (.isub, 1, (0, 0, 0, 0)), some (.aload_n 0, 1, (0, 0, 0, 0)), some (.getfield 13, 3, (7, 1, 63, 0)), nn, nn, some (.bipush 24, 2, (0, 0, 0, 0))],
 [some (.iload_n 2, 1, (0, 0, 0, 0)), some (.iadd, 1, (0, 0, 0, 0)), some (.iaload, 1, (0, 0, 0, 0)), some (.imul, 1, (0, 0, 0, 0)), some (.iastore, 1, (0, 0, 0, 0)), some (.aload_n 0, 1, (0, 0, 0, 0)), some (.getfield 32, 3, (7, 12, 74, 0)), nn, nn, some (.bipush 12, 2, (0, 0, 0, 0)), nn, some (.iload_n 2, 1, (0, 0, 0, 0)), some (.iadd, 1, (0, 0, 0, 0)), some (.aload_n 0, 1, (0, 0, 0, 0)), some (.getfield 32, 3, (7, 12, 74, 0))],
 [nn, some (.bipush 6, 2, (0, 0, 0, 0)), nn, some (.iload_n 2, 1, (0, 0, 0, 0)), some (.iadd, 1, (0, 0, 0, 0)), some (.iaload, 1, (0, 0, 0, 0)), some (.aload_n 0, 1, (0, 0, 0, 0)), some (.getfield 32, 3, (7, 12, 74, 0)), nn, nn, some (.bipush 6, 2, (0, 0, 0, 0)), nn, some (.iload_n 2, 1, (0, 0, 0, 0)), some (.iadd, 1, (0, 0, 0, 0)), some (.iaload, 1, (0, 0, 0, 0)), some (.aload_n 0, 1, (0, 0, 0, 0))],
 [some (.getfield 13, 3, (7, 1, 63, 0)), nn, nn, some (.bipush 36, 2, (0, 0, 0, 0)), nn, some (.iload_n 2, 1, (0, 0, 0, 0)), some (.iadd, 1, (0, 0, 0, 0)), some (.iaload, 1, (0, 0, 0, 0)), some (.imul, 1, (0, 0, 0, 0)), some (.bipush 9, 2, (0, 0, 0, 0)), nn, some (.iadd, 1, (0, 0, 0, 0)), some (.bipush 10, 2, (0, 0, 0, 0)), nn, some (.idiv, 1, (0, 0, 0, 0)), some (.isub, 1, (0, 0, 0, 0))],
 [some (.iastore, 1, (0, 0, 0, 0)), some (.iinc 2 1, 3, (0, 0, 0, 0)), nn, nn, some (.goto (-109), 3, (7, 0, 0, 0)), nn, nn, some (.return_, 1, (0, 0, 0, 0))]]
def pX7_fire : List (List (Option En)) := [[some (.iload_n 1, 1, (0, 0, 0, 0)), some (.invokestatic 152, 3, (129, 1, 156, 1)), nn, nn, some (.ifCond .eq 10, 3, (14, 0, 0, 0)), nn, nn, some (.iload_n 2, 1, (0, 0, 0, 0)), some (.invokestatic 143, 3, (127, 1, 151, 1)), nn, nn, some (.ifCond .ne 5, 3, (16, 0, 0, 0)), nn, nn, some (.iconst (-1), 1, (0, 0, 0, 0)), some (.ireturn, 1, (0, 0, 0, 0))],
 [some (.iload_n 3, 1, (0, 0, 0, 0)), some (.i2l, 1, (0, 0, 0, 0)), some (.lconst 0, 1, (0, 0, 0, 0)), some (.ldc2_w 150, 3, (0, 0, 11, 2)), nn, nn, some (.invokestatic 97, 3, (116, 3, 140, 1)), nn, nn, some (.ifCond .ne 6, 3, (31, 0, 0, 0)), nn, nn, some (.bipush (-2), 2, (0, 0, 0, 0)), nn, some (.ireturn, 1, (0, 0, 0, 0)), some (.aload_n 0, 1, (0, 0, 0, 0))],
 [some (.iload_n 1, 1, (0, 0, 0, 0)), some (.invokevirtual 179, 3, (143, 2, 165, 0)), nn, nn, some (.aload_n 0, 1, (0, 0, 0, 0)), some (.getfield 32, 3, (7, 12, 74, 0)), nn, nn, some (.bipush 6, 2, (0, 0, 0, 0)), nn, some (.iload_n 3, 1, (0, 0, 0, 0)), some (.imul, 1, (0, 0, 0, 0)), some (.iload_n 2, 1, (0, 0, 0, 0)), some (.iadd, 1, (0, 0, 0, 0)), some (.iaload, 1, (0, 0, 0, 0)), some (.ireturn, 1, (0, 0, 0, 0))]]
def pX7_unsaid : List (List (Option En)) := [[some (.iload_n 1, 1, (0, 0, 0, 0)), some (.invokestatic 152, 3, (129, 1, 156, 1)), nn, nn, some (.ifCond .ne 5, 3, (9, 0, 0, 0)), nn, nn, some (.iconst (-1), 1, (0, 0, 0, 0)), some (.ireturn, 1, (0, 0, 0, 0)), some (.aload_n 0, 1, (0, 0, 0, 0)), some (.iload_n 1, 1, (0, 0, 0, 0)), some (.invokevirtual 179, 3, (143, 2, 165, 0)), nn, nn, some (.iconst 0, 1, (0, 0, 0, 0)), some (.istore_n 2, 1, (0, 0, 0, 0))],
 [some (.iconst 0, 1, (0, 0, 0, 0)), some (.istore_n 3, 1, (0, 0, 0, 0)), some (.iload_n 3, 1, (0, 0, 0, 0)), some (.bipush 6, 2, (0, 0, 0, 0)), nn, some (.if_icmp .ge 31, 3, (52, 0, 0, 0)), nn, nn, some (.iload_n 2, 1, (0, 0, 0, 0)), some (.aload_n 0, 1, (0, 0, 0, 0)), some (.getfield 32, 3, (7, 12, 74, 0)), nn, nn, some (.bipush 6, 2, (0, 0, 0, 0)), nn, some (.iload_n 3, 1, (0, 0, 0, 0))],
 [some (.iadd, 1, (0, 0, 0, 0)), some (.iaload, 1, (0, 0, 0, 0)), some (.aload_n 0, 1, (0, 0, 0, 0)), some (.getfield 32, 3, (7, 12, 74, 0)), nn, nn, some (.bipush 12, 2, (0, 0, 0, 0)), nn, some (.iload_n 3, 1, (0, 0, 0, 0)), some (.iadd, 1, (0, 0, 0, 0)), some (.iaload, 1, (0, 0, 0, 0)), some (.isub, 1, (0, 0, 0, 0)), some (.iadd, 1, (0, 0, 0, 0)), some (.istore_n 2, 1, (0, 0, 0, 0)), some (.iinc 3 1, 3, (0, 0, 0, 0))],
 [nn, some (.goto (-31), 3, (18, 0, 0, 0)), nn, nn, some (.iload_n 2, 1, (0, 0, 0, 0)), some (.ireturn, 1, (0, 0, 0, 0))]]
def pX7_walk : List (List (Option En)) := [[some (.iload_n 1, 1, (0, 0, 0, 0)), some (.invokestatic 152, 3, (129, 1, 156, 1)), nn, nn, some (.ifCond .ne 5, 3, (9, 0, 0, 0)), nn, nn, some (.iconst (-1), 1, (0, 0, 0, 0)), some (.ireturn, 1, (0, 0, 0, 0)), some (.aload_n 0, 1, (0, 0, 0, 0)), some (.iload_n 1, 1, (0, 0, 0, 0)), some (.invokevirtual 173, 3, (140, 2, 159, 0)), nn, nn, some (.iconst 0, 1, (0, 0, 0, 0)), some (.istore_n 2, 1, (0, 0, 0, 0))],
 [some (.iconst 0, 1, (0, 0, 0, 0)), some (.istore_n 3, 1, (0, 0, 0, 0)), some (.iload_n 3, 1, (0, 0, 0, 0)), some (.iconst 4, 1, (0, 0, 0, 0)), some (.if_icmp .ge 67, 3, (87, 0, 0, 0)), nn, nn, some (.iconst 0, 1, (0, 0, 0, 0)), some (.istore 4, 2, (0, 0, 0, 0)), nn, some (.iconst 0, 1, (0, 0, 0, 0)), some (.istore 5, 2, (0, 0, 0, 0)), nn, some (.iload 5, 2, (0, 0, 0, 0)), nn, some (.bipush 6, 2, (0, 0, 0, 0))],
 [nn, some (.if_icmp .ge 25, 3, (58, 0, 0, 0)), nn, nn, some (.iload 4, 2, (0, 0, 0, 0)), nn, some (.aload_n 0, 1, (0, 0, 0, 0)), some (.getfield 26, 3, (7, 9, 71, 0)), nn, nn, some (.iconst 4, 1, (0, 0, 0, 0)), some (.iload 5, 2, (0, 0, 0, 0)), nn, some (.imul, 1, (0, 0, 0, 0)), some (.iload_n 3, 1, (0, 0, 0, 0)), some (.iadd, 1, (0, 0, 0, 0))],
 [some (.iaload, 1, (0, 0, 0, 0)), some (.iadd, 1, (0, 0, 0, 0)), some (.istore 4, 2, (0, 0, 0, 0)), nn, some (.iinc 5 1, 3, (0, 0, 0, 0)), nn, nn, some (.goto (-26), 3, (29, 0, 0, 0)), nn, nn, some (.iload_n 2, 1, (0, 0, 0, 0)), some (.iload 4, 2, (0, 0, 0, 0)), nn, some (.ifCond .le 17, 3, (78, 0, 0, 0))],
 [some (.iconst 2, 1, (0, 0, 0, 0)), some (.aload_n 0, 1, (0, 0, 0, 0)), some (.getfield 13, 3, (7, 1, 63, 0)), nn, nn, some (.bipush 42, 2, (0, 0, 0, 0)), nn, some (.iload_n 3, 1, (0, 0, 0, 0)), some (.iadd, 1, (0, 0, 0, 0)), some (.iaload, 1, (0, 0, 0, 0)), some (.imul, 1, (0, 0, 0, 0)), some (.goto 4, 3, (79, 0, 0, 0)), nn, nn, some (.iconst 0, 1, (0, 0, 0, 0)), some (.iadd, 1, (0, 0, 0, 0))],
 [some (.istore_n 2, 1, (0, 0, 0, 0)), some (.iinc 3 1, 3, (0, 0, 0, 0)), nn, nn, some (.goto (-66), 3, (18, 0, 0, 0)), nn, nn, some (.iload_n 2, 1, (0, 0, 0, 0)), some (.ireturn, 1, (0, 0, 0, 0))]]
def pX7_layer : List (List (Option En)) := [[some (.aload_n 0, 1, (0, 0, 0, 0)), some (.getfield 140, 3, (7, 13, 75, 0)), nn, nn, some (.bipush 6, 2, (0, 0, 0, 0)), nn, some (.if_icmp .ne 6, 3, (12, 0, 0, 0)), nn, nn, some (.bipush (-4), 2, (0, 0, 0, 0)), nn, some (.ireturn, 1, (0, 0, 0, 0)), some (.iconst 0, 1, (0, 0, 0, 0)), some (.istore_n 1, 1, (0, 0, 0, 0)), some (.iload_n 1, 1, (0, 0, 0, 0)), some (.bipush 7, 2, (0, 0, 0, 0))],
 [nn, some (.if_icmp .ge 24, 3, (41, 0, 0, 0)), nn, nn, some (.aload_n 0, 1, (0, 0, 0, 0)), some (.getfield 35, 3, (7, 14, 76, 0)), nn, nn, some (.bipush 7, 2, (0, 0, 0, 0)), nn, some (.aload_n 0, 1, (0, 0, 0, 0)), some (.getfield 140, 3, (7, 13, 75, 0)), nn, nn, some (.imul, 1, (0, 0, 0, 0)), some (.iload_n 1, 1, (0, 0, 0, 0))],
 [some (.iadd, 1, (0, 0, 0, 0)), some (.iconst 0, 1, (0, 0, 0, 0)), some (.iastore, 1, (0, 0, 0, 0)), some (.iinc 1 1, 3, (0, 0, 0, 0)), nn, nn, some (.goto (-24), 3, (14, 0, 0, 0)), nn, nn, some (.aload_n 0, 1, (0, 0, 0, 0)), some (.dup, 1, (0, 0, 0, 0)), some (.getfield 140, 3, (7, 13, 75, 0)), nn, nn, some (.iconst 1, 1, (0, 0, 0, 0)), some (.iadd, 1, (0, 0, 0, 0))],
 [some (.putfield 140, 3, (7, 13, 75, 0)), nn, nn, some (.aload_n 0, 1, (0, 0, 0, 0)), some (.getfield 140, 3, (7, 13, 75, 0)), nn, nn, some (.iconst 1, 1, (0, 0, 0, 0)), some (.isub, 1, (0, 0, 0, 0)), some (.ireturn, 1, (0, 0, 0, 0))]]
def pX7_count : List (List (Option En)) := [[some (.aload_n 0, 1, (0, 0, 0, 0)), some (.iload_n 1, 1, (0, 0, 0, 0)), some (.invokevirtual 182, 3, (130, 2, 171, 0)), nn, nn, some (.ifCond .eq 15, 3, (20, 0, 0, 0)), nn, nn, some (.iload_n 2, 1, (0, 0, 0, 0)), some (.i2l, 1, (0, 0, 0, 0)), some (.lconst 0, 1, (0, 0, 0, 0)), some (.ldc2_w 185, 3, (0, 0, 13, 6)), nn, nn, some (.invokestatic 97, 3, (116, 3, 140, 1))],
 [nn, some (.ifCond .ne 5, 3, (22, 0, 0, 0)), nn, nn, some (.iconst (-1), 1, (0, 0, 0, 0)), some (.ireturn, 1, (0, 0, 0, 0)), some (.iload_n 3, 1, (0, 0, 0, 0)), some (.i2l, 1, (0, 0, 0, 0)), some (.lconst 0, 1, (0, 0, 0, 0)), some (.ldc2_w 187, 3, (0, 0, 14, 99)), nn, nn, some (.invokestatic 97, 3, (116, 3, 140, 1)), nn, nn, some (.ifCond .ne 6, 3, (37, 0, 0, 0))],
 [nn, nn, some (.bipush (-2), 2, (0, 0, 0, 0)), nn, some (.ireturn, 1, (0, 0, 0, 0)), some (.aload_n 0, 1, (0, 0, 0, 0)), some (.getfield 35, 3, (7, 14, 76, 0)), nn, nn, some (.bipush 7, 2, (0, 0, 0, 0)), nn, some (.iload_n 1, 1, (0, 0, 0, 0)), some (.imul, 1, (0, 0, 0, 0)), some (.iload_n 2, 1, (0, 0, 0, 0)), some (.iadd, 1, (0, 0, 0, 0)), some (.iaload, 1, (0, 0, 0, 0))],
 [some (.istore 4, 2, (0, 0, 0, 0)), nn, some (.aload_n 0, 1, (0, 0, 0, 0)), some (.getfield 35, 3, (7, 14, 76, 0)), nn, nn, some (.bipush 7, 2, (0, 0, 0, 0)), nn, some (.iload_n 1, 1, (0, 0, 0, 0)), some (.imul, 1, (0, 0, 0, 0)), some (.iload_n 2, 1, (0, 0, 0, 0)), some (.iadd, 1, (0, 0, 0, 0)), some (.iload_n 3, 1, (0, 0, 0, 0)), some (.iastore, 1, (0, 0, 0, 0)), some (.iload 4, 2, (0, 0, 0, 0))],
 [some (.ireturn, 1, (0, 0, 0, 0))]]
def pX7_counted : List (List (Option En)) := [[some (.aload_n 0, 1, (0, 0, 0, 0)), some (.iload_n 1, 1, (0, 0, 0, 0)), some (.invokevirtual 182, 3, (130, 2, 171, 0)), nn, nn, some (.ifCond .eq 29, 3, (34, 0, 0, 0)), nn, nn, some (.iload_n 2, 1, (0, 0, 0, 0)), some (.i2l, 1, (0, 0, 0, 0)), some (.lconst 0, 1, (0, 0, 0, 0)), some (.ldc2_w 185, 3, (0, 0, 13, 6)), nn, nn, some (.invokestatic 97, 3, (116, 3, 140, 1))],
 [nn, some (.ifCond .eq 17, 3, (34, 0, 0, 0)), nn, nn, some (.aload_n 0, 1, (0, 0, 0, 0)), some (.getfield 35, 3, (7, 14, 76, 0)), nn, nn, some (.bipush 7, 2, (0, 0, 0, 0)), nn, some (.iload_n 1, 1, (0, 0, 0, 0)), some (.imul, 1, (0, 0, 0, 0)), some (.iload_n 2, 1, (0, 0, 0, 0)), some (.iadd, 1, (0, 0, 0, 0)), some (.iaload, 1, (0, 0, 0, 0)), some (.goto 4, 3, (35, 0, 0, 0))],
 [nn, nn, some (.iconst (-1), 1, (0, 0, 0, 0)), some (.ireturn, 1, (0, 0, 0, 0))]]
def pX7_crumb : List (List (Option En)) := [[some (.iload_n 1, 1, (0, 0, 0, 0)), some (.i2l, 1, (0, 0, 0, 0)), some (.lconst 0, 1, (0, 0, 0, 0)), some (.ldc2_w 185, 3, (0, 0, 13, 6)), nn, nn, some (.invokestatic 97, 3, (116, 3, 140, 1)), nn, nn, some (.ifCond .ne 5, 3, (14, 0, 0, 0)), nn, nn, some (.iconst (-1), 1, (0, 0, 0, 0)), some (.ireturn, 1, (0, 0, 0, 0)), some (.aload_n 0, 1, (0, 0, 0, 0)), some (.getfield 189, 3, (7, 15, 77, 0))],
 [nn, nn, some (.bipush 48, 2, (0, 0, 0, 0)), nn, some (.if_icmp .ne 6, 3, (26, 0, 0, 0)), nn, nn, some (.bipush (-4), 2, (0, 0, 0, 0)), nn, some (.ireturn, 1, (0, 0, 0, 0)), some (.aload_n 0, 1, (0, 0, 0, 0)), some (.getfield 38, 3, (7, 16, 78, 0)), nn, nn, some (.aload_n 0, 1, (0, 0, 0, 0)), some (.getfield 189, 3, (7, 15, 77, 0))],
 [nn, nn, some (.iload_n 1, 1, (0, 0, 0, 0)), some (.iastore, 1, (0, 0, 0, 0)), some (.aload_n 0, 1, (0, 0, 0, 0)), some (.dup, 1, (0, 0, 0, 0)), some (.getfield 189, 3, (7, 15, 77, 0)), nn, nn, some (.iconst 1, 1, (0, 0, 0, 0)), some (.iadd, 1, (0, 0, 0, 0)), some (.putfield 189, 3, (7, 15, 77, 0)), nn, nn, some (.aload_n 0, 1, (0, 0, 0, 0)), some (.getfield 189, 3, (7, 15, 77, 0))],
 [nn, nn, some (.ireturn, 1, (0, 0, 0, 0))]]
def pX7_sweep : List (List (Option En)) := [[some (.aload_n 0, 1, (0, 0, 0, 0)), some (.getfield 189, 3, (7, 15, 77, 0)), nn, nn, some (.istore_n 1, 1, (0, 0, 0, 0)), some (.aload_n 0, 1, (0, 0, 0, 0)), some (.iconst 0, 1, (0, 0, 0, 0)), some (.putfield 189, 3, (7, 15, 77, 0)), nn, nn, some (.iload_n 1, 1, (0, 0, 0, 0)), some (.ireturn, 1, (0, 0, 0, 0))]]
def pX7_pour : List (List (Option En)) := [[some (.aload_n 0, 1, (0, 0, 0, 0)), some (.iload_n 1, 1, (0, 0, 0, 0)), some (.invokevirtual 182, 3, (130, 2, 171, 0)), nn, nn, some (.ifCond .ne 5, 3, (10, 0, 0, 0)), nn, nn, some (.iconst (-1), 1, (0, 0, 0, 0)), some (.ireturn, 1, (0, 0, 0, 0)), some (.iconst 0, 1, (0, 0, 0, 0)), some (.istore_n 2, 1, (0, 0, 0, 0)), some (.iload_n 2, 1, (0, 0, 0, 0)), some (.bipush 7, 2, (0, 0, 0, 0)), nn, some (.if_icmp .ge 21, 3, (36, 0, 0, 0))],
 [nn, nn, some (.aload_n 0, 1, (0, 0, 0, 0)), some (.getfield 35, 3, (7, 14, 76, 0)), nn, nn, some (.bipush 7, 2, (0, 0, 0, 0)), nn, some (.iload_n 1, 1, (0, 0, 0, 0)), some (.imul, 1, (0, 0, 0, 0)), some (.iload_n 2, 1, (0, 0, 0, 0)), some (.iadd, 1, (0, 0, 0, 0)), some (.iconst 0, 1, (0, 0, 0, 0)), some (.iastore, 1, (0, 0, 0, 0)), some (.iinc 2 1, 3, (0, 0, 0, 0))],
 [nn, some (.goto (-21), 3, (12, 0, 0, 0)), nn, nn, some (.iconst 0, 1, (0, 0, 0, 0)), some (.istore_n 2, 1, (0, 0, 0, 0)), some (.iload_n 2, 1, (0, 0, 0, 0)), some (.aload_n 0, 1, (0, 0, 0, 0)), some (.getfield 189, 3, (7, 15, 77, 0)), nn, nn, some (.if_icmp .ge 29, 3, (72, 0, 0, 0)), nn, nn, some (.aload_n 0, 1, (0, 0, 0, 0)), some (.getfield 35, 3, (7, 14, 76, 0))],
 [nn, nn, some (.bipush 7, 2, (0, 0, 0, 0)), nn, some (.iload_n 1, 1, (0, 0, 0, 0)), some (.imul, 1, (0, 0, 0, 0)), some (.aload_n 0, 1, (0, 0, 0, 0)), some (.getfield 38, 3, (7, 16, 78, 0)), nn, nn, some (.iload_n 2, 1, (0, 0, 0, 0)), some (.iaload, 1, (0, 0, 0, 0)), some (.iadd, 1, (0, 0, 0, 0)), some (.dup2, 1, (0, 0, 0, 0)), some (.iaload, 1, (0, 0, 0, 0)), some (.iconst 1, 1, (0, 0, 0, 0))],
 [some (.iadd, 1, (0, 0, 0, 0)), some (.iastore, 1, (0, 0, 0, 0)), some (.iinc 2 1, 3, (0, 0, 0, 0)), nn, nn, some (.goto (-31), 3, (38, 0, 0, 0)), nn, nn, some (.iconst 0, 1, (0, 0, 0, 0)), some (.istore_n 2, 1, (0, 0, 0, 0)), some (.iconst 0, 1, (0, 0, 0, 0)), some (.istore_n 3, 1, (0, 0, 0, 0)), some (.iload_n 3, 1, (0, 0, 0, 0)), some (.bipush 6, 2, (0, 0, 0, 0)), nn, some (.if_icmp .ge 31, 3, (110, 0, 0, 0))],
 [nn, nn, some (.iload_n 2, 1, (0, 0, 0, 0)), some (.aload_n 0, 1, (0, 0, 0, 0)), some (.getfield 35, 3, (7, 14, 76, 0)), nn, nn, some (.bipush 7, 2, (0, 0, 0, 0)), nn, some (.iload_n 1, 1, (0, 0, 0, 0)), some (.imul, 1, (0, 0, 0, 0)), some (.iload_n 3, 1, (0, 0, 0, 0)), some (.iadd, 1, (0, 0, 0, 0)), some (.iaload, 1, (0, 0, 0, 0)), some (.ifCond .le 7, 3, (101, 0, 0, 0))],
 [nn, some (.iconst 1, 1, (0, 0, 0, 0)), some (.goto 4, 3, (102, 0, 0, 0)), nn, nn, some (.iconst 0, 1, (0, 0, 0, 0)), some (.iadd, 1, (0, 0, 0, 0)), some (.istore_n 2, 1, (0, 0, 0, 0)), some (.iinc 3 1, 3, (0, 0, 0, 0)), nn, nn, some (.goto (-31), 3, (76, 0, 0, 0)), nn, nn, some (.iload_n 2, 1, (0, 0, 0, 0)), some (.ireturn, 1, (0, 0, 0, 0))]]
def pX7_ahead : List (List (Option En)) := [[some (.iconst 0, 1, (0, 0, 0, 0)), some (.istore_n 1, 1, (0, 0, 0, 0)), some (.iconst 0, 1, (0, 0, 0, 0)), some (.istore_n 2, 1, (0, 0, 0, 0)), some (.iconst 0, 1, (0, 0, 0, 0)), some (.istore_n 3, 1, (0, 0, 0, 0)), some (.iload_n 3, 1, (0, 0, 0, 0)), some (.bipush 6, 2, (0, 0, 0, 0)), nn, some (.if_icmp .ge 53, 3, (62, 0, 0, 0)), nn, nn, some (.aload_n 0, 1, (0, 0, 0, 0)), some (.getfield 41, 3, (7, 17, 79, 0))],
 [some (.iload_n 3, 1, (0, 0, 0, 0)), some (.iaload, 1, (0, 0, 0, 0)), some (.istore 4, 2, (0, 0, 0, 0)), nn, some (.iload 4, 2, (0, 0, 0, 0)), nn, some (.iload_n 1, 1, (0, 0, 0, 0)), some (.if_icmp .le 7, 3, (30, 0, 0, 0)), nn, nn, some (.iload_n 1, 1, (0, 0, 0, 0)), some (.goto 15, 3, (42, 0, 0, 0)), nn, nn, some (.iload 4, 2, (0, 0, 0, 0))],
 [some (.iload_n 2, 1, (0, 0, 0, 0)), some (.if_icmp .le 8, 3, (41, 0, 0, 0)), nn, nn, some (.iload 4, 2, (0, 0, 0, 0)), nn, some (.goto 4, 3, (42, 0, 0, 0)), nn, nn, some (.iload_n 2, 1, (0, 0, 0, 0)), some (.istore_n 2, 1, (0, 0, 0, 0)), some (.iload 4, 2, (0, 0, 0, 0)), nn, some (.iload_n 1, 1, (0, 0, 0, 0)), some (.if_icmp .le 8, 3, (54, 0, 0, 0))],
 [nn, some (.iload 4, 2, (0, 0, 0, 0)), nn, some (.goto 4, 3, (55, 0, 0, 0)), nn, nn, some (.iload_n 1, 1, (0, 0, 0, 0)), some (.istore_n 1, 1, (0, 0, 0, 0)), some (.iinc 3 1, 3, (0, 0, 0, 0)), nn, nn, some (.goto (-53), 3, (6, 0, 0, 0)), nn, nn, some (.iload_n 1, 1, (0, 0, 0, 0)), some (.iload_n 2, 1, (0, 0, 0, 0))],
 [some (.isub, 1, (0, 0, 0, 0)), some (.ireturn, 1, (0, 0, 0, 0))]]
def pX7_stopOf : List (List (Option En)) := [[some (.iconst 0, 1, (0, 0, 0, 0)), some (.istore_n 3, 1, (0, 0, 0, 0)), some (.iload_n 3, 1, (0, 0, 0, 0)), some (.bipush 7, 2, (0, 0, 0, 0)), nn, some (.if_icmp .ge 16, 3, (21, 0, 0, 0)), nn, nn, some (.aload_n 0, 1, (0, 0, 0, 0)), some (.getfield 41, 3, (7, 17, 79, 0)), nn, nn, some (.iload_n 3, 1, (0, 0, 0, 0)), some (.iconst 0, 1, (0, 0, 0, 0)), some (.iastore, 1, (0, 0, 0, 0)), some (.iinc 3 1, 3, (0, 0, 0, 0))],
 [nn, nn, some (.goto (-16), 3, (2, 0, 0, 0)), nn, nn, some (.iconst 0, 1, (0, 0, 0, 0)), some (.istore_n 3, 1, (0, 0, 0, 0)), some (.iconst 0, 1, (0, 0, 0, 0)), some (.istore 4, 2, (0, 0, 0, 0)), nn, some (.iconst 0, 1, (0, 0, 0, 0)), some (.istore 5, 2, (0, 0, 0, 0)), nn, some (.iload 5, 2, (0, 0, 0, 0)), nn, some (.aload_n 0, 1, (0, 0, 0, 0))],
 [some (.getfield 189, 3, (7, 15, 77, 0)), nn, nn, some (.if_icmp .ge 132, 3, (167, 0, 0, 0)), nn, nn, some (.aload_n 0, 1, (0, 0, 0, 0)), some (.getfield 38, 3, (7, 16, 78, 0)), nn, nn, some (.iload 5, 2, (0, 0, 0, 0)), nn, some (.iaload, 1, (0, 0, 0, 0)), some (.bipush 6, 2, (0, 0, 0, 0)), nn, some (.if_icmp .ge 22, 3, (69, 0, 0, 0))],
 [nn, nn, some (.aload_n 0, 1, (0, 0, 0, 0)), some (.getfield 41, 3, (7, 17, 79, 0)), nn, nn, some (.aload_n 0, 1, (0, 0, 0, 0)), some (.getfield 38, 3, (7, 16, 78, 0)), nn, nn, some (.iload 5, 2, (0, 0, 0, 0)), nn, some (.iaload, 1, (0, 0, 0, 0)), some (.iaload, 1, (0, 0, 0, 0)), some (.ifCond .ne 7, 3, (69, 0, 0, 0))],
 [nn, some (.iconst 1, 1, (0, 0, 0, 0)), some (.goto 4, 3, (70, 0, 0, 0)), nn, nn, some (.iconst 0, 1, (0, 0, 0, 0)), some (.istore 6, 2, (0, 0, 0, 0)), nn, some (.aload_n 0, 1, (0, 0, 0, 0)), some (.getfield 41, 3, (7, 17, 79, 0)), nn, nn, some (.aload_n 0, 1, (0, 0, 0, 0)), some (.getfield 38, 3, (7, 16, 78, 0))],
 [some (.iload 5, 2, (0, 0, 0, 0)), nn, some (.iaload, 1, (0, 0, 0, 0)), some (.dup2, 1, (0, 0, 0, 0)), some (.iaload, 1, (0, 0, 0, 0)), some (.iconst 1, 1, (0, 0, 0, 0)), some (.iadd, 1, (0, 0, 0, 0)), some (.iastore, 1, (0, 0, 0, 0)), some (.iload 6, 2, (0, 0, 0, 0)), nn, some (.ifCond .eq 7, 3, (97, 0, 0, 0)), nn, nn, some (.iconst 0, 1, (0, 0, 0, 0)), some (.goto 6, 3, (100, 0, 0, 0))],
 [nn, some (.iload_n 3, 1, (0, 0, 0, 0)), some (.iconst 1, 1, (0, 0, 0, 0)), some (.iadd, 1, (0, 0, 0, 0)), some (.istore_n 3, 1, (0, 0, 0, 0)), some (.iload 4, 2, (0, 0, 0, 0)), nn, some (.aload_n 0, 1, (0, 0, 0, 0)), some (.getfield 38, 3, (7, 16, 78, 0)), nn, nn, some (.iload 5, 2, (0, 0, 0, 0)), nn, some (.iaload, 1, (0, 0, 0, 0)), some (.bipush 6, 2, (0, 0, 0, 0))],
 [some (.if_icmp .ge 7, 3, (119, 0, 0, 0)), nn, nn, some (.iconst 1, 1, (0, 0, 0, 0)), some (.goto 4, 3, (120, 0, 0, 0)), nn, nn, some (.iconst 0, 1, (0, 0, 0, 0)), some (.iadd, 1, (0, 0, 0, 0)), some (.istore 4, 2, (0, 0, 0, 0)), nn, some (.iload_n 1, 1, (0, 0, 0, 0)), some (.ifCond .ne 8, 3, (132, 0, 0, 0)), nn, nn, some (.iload_n 3, 1, (0, 0, 0, 0))],
 [some (.iload_n 2, 1, (0, 0, 0, 0)), some (.if_icmp .eq 27, 3, (156, 0, 0, 0)), nn, nn, some (.iload_n 1, 1, (0, 0, 0, 0)), some (.iconst 1, 1, (0, 0, 0, 0)), some (.if_icmp .ne 9, 3, (143, 0, 0, 0)), nn, nn, some (.iload 4, 2, (0, 0, 0, 0)), nn, some (.iload_n 2, 1, (0, 0, 0, 0)), some (.if_icmp .eq 16, 3, (156, 0, 0, 0)), nn, nn, some (.iload_n 1, 1, (0, 0, 0, 0))],
 [some (.iconst 2, 1, (0, 0, 0, 0)), some (.if_icmp .ne 16, 3, (161, 0, 0, 0)), nn, nn, some (.aload_n 0, 1, (0, 0, 0, 0)), some (.invokevirtual 192, 3, (153, 1, 178, 0)), nn, nn, some (.iload_n 2, 1, (0, 0, 0, 0)), some (.if_icmp .lt 8, 3, (161, 0, 0, 0)), nn, nn, some (.iload 5, 2, (0, 0, 0, 0)), nn, some (.iconst 1, 1, (0, 0, 0, 0)), some (.iadd, 1, (0, 0, 0, 0))],
 [some (.ireturn, 1, (0, 0, 0, 0)), some (.iinc 5 1, 3, (0, 0, 0, 0)), nn, nn, some (.goto (-135), 3, (29, 0, 0, 0)), nn, nn, some (.bipush (-9), 2, (0, 0, 0, 0)), nn, some (.ireturn, 1, (0, 0, 0, 0))]]
def pX7_stop : List (List (Option En)) := [[some (.iload_n 1, 1, (0, 0, 0, 0)), some (.i2l, 1, (0, 0, 0, 0)), some (.lconst 0, 1, (0, 0, 0, 0)), some (.ldc2_w 150, 3, (0, 0, 11, 2)), nn, nn, some (.invokestatic 97, 3, (116, 3, 140, 1)), nn, nn, some (.ifCond .eq 24, 3, (33, 0, 0, 0)), nn, nn, some (.iload_n 2, 1, (0, 0, 0, 0)), some (.i2l, 1, (0, 0, 0, 0)), some (.lconst 1, 1, (0, 0, 0, 0)), some (.ldc2_w 195, 3, (0, 0, 15, 48))],
 [nn, nn, some (.invokestatic 97, 3, (116, 3, 140, 1)), nn, nn, some (.ifCond .eq 12, 3, (33, 0, 0, 0)), nn, nn, some (.aload_n 0, 1, (0, 0, 0, 0)), some (.iload_n 1, 1, (0, 0, 0, 0)), some (.iload_n 2, 1, (0, 0, 0, 0)), some (.invokevirtual 197, 3, (154, 3, 177, 0)), nn, nn, some (.goto 5, 3, (35, 0, 0, 0))],
 [nn, some (.bipush (-2), 2, (0, 0, 0, 0)), nn, some (.ireturn, 1, (0, 0, 0, 0))]]
def pX7_missed : List (List (Option En)) := [[some (.iload_n 1, 1, (0, 0, 0, 0)), some (.i2l, 1, (0, 0, 0, 0)), some (.lconst 0, 1, (0, 0, 0, 0)), some (.ldc2_w 150, 3, (0, 0, 11, 2)), nn, nn, some (.invokestatic 97, 3, (116, 3, 140, 1)), nn, nn, some (.ifCond .eq 15, 3, (24, 0, 0, 0)), nn, nn, some (.iload_n 2, 1, (0, 0, 0, 0)), some (.i2l, 1, (0, 0, 0, 0)), some (.lconst 1, 1, (0, 0, 0, 0)), some (.ldc2_w 195, 3, (0, 0, 15, 48))],
 [nn, nn, some (.invokestatic 97, 3, (116, 3, 140, 1)), nn, nn, some (.ifCond .ne 6, 3, (27, 0, 0, 0)), nn, nn, some (.bipush (-2), 2, (0, 0, 0, 0)), nn, some (.ireturn, 1, (0, 0, 0, 0)), some (.aload_n 0, 1, (0, 0, 0, 0)), some (.iload_n 1, 1, (0, 0, 0, 0)), some (.iload_n 2, 1, (0, 0, 0, 0)), some (.invokevirtual 197, 3, (154, 3, 177, 0))],
 [nn, some (.istore_n 3, 1, (0, 0, 0, 0)), some (.iload_n 3, 1, (0, 0, 0, 0)), some (.bipush (-9), 2, (0, 0, 0, 0)), nn, some (.if_icmp .ne 6, 3, (43, 0, 0, 0)), nn, nn, some (.bipush (-9), 2, (0, 0, 0, 0)), nn, some (.ireturn, 1, (0, 0, 0, 0)), some (.iconst 0, 1, (0, 0, 0, 0)), some (.istore 4, 2, (0, 0, 0, 0)), nn, some (.iload_n 3, 1, (0, 0, 0, 0)), some (.istore 5, 2, (0, 0, 0, 0))],
 [nn, some (.iload 5, 2, (0, 0, 0, 0)), nn, some (.aload_n 0, 1, (0, 0, 0, 0)), some (.getfield 189, 3, (7, 15, 77, 0)), nn, nn, some (.if_icmp .ge 54, 3, (109, 0, 0, 0)), nn, nn, some (.iload 4, 2, (0, 0, 0, 0)), nn, some (.aload_n 0, 1, (0, 0, 0, 0)), some (.getfield 38, 3, (7, 16, 78, 0))],
 [some (.iload 5, 2, (0, 0, 0, 0)), nn, some (.iaload, 1, (0, 0, 0, 0)), some (.bipush 6, 2, (0, 0, 0, 0)), nn, some (.if_icmp .ge 30, 3, (99, 0, 0, 0)), nn, nn, some (.aload_n 0, 1, (0, 0, 0, 0)), some (.getfield 41, 3, (7, 17, 79, 0)), nn, nn, some (.aload_n 0, 1, (0, 0, 0, 0)), some (.getfield 38, 3, (7, 16, 78, 0))],
 [some (.iload 5, 2, (0, 0, 0, 0)), nn, some (.iaload, 1, (0, 0, 0, 0)), some (.iaload, 1, (0, 0, 0, 0)), some (.ifCond .ne 15, 3, (99, 0, 0, 0)), nn, nn, some (.iconst 1, 1, (0, 0, 0, 0)), some (.aload_n 0, 1, (0, 0, 0, 0)), some (.getfield 38, 3, (7, 16, 78, 0)), nn, nn, some (.iload 5, 2, (0, 0, 0, 0)), nn, some (.iaload, 1, (0, 0, 0, 0)), some (.ishl, 1, (0, 0, 0, 0))],
 [some (.goto 4, 3, (100, 0, 0, 0)), nn, nn, some (.iconst 0, 1, (0, 0, 0, 0)), some (.ior, 1, (0, 0, 0, 0)), some (.istore 4, 2, (0, 0, 0, 0)), nn, some (.iinc 5 1, 3, (0, 0, 0, 0)), nn, nn, some (.goto (-57), 3, (49, 0, 0, 0)), nn, nn, some (.iload 4, 2, (0, 0, 0, 0)), nn, some (.ireturn, 1, (0, 0, 0, 0))]]
def pX7_common : List (List (Option En)) := [[some (.lload_n 0, 1, (0, 0, 0, 0)), some (.lstore 4, 2, (0, 0, 0, 0)), nn, some (.lload_n 2, 1, (0, 0, 0, 0)), some (.lstore 6, 2, (0, 0, 0, 0)), nn, some (.lload 6, 2, (0, 0, 0, 0)), nn, some (.lconst 0, 1, (0, 0, 0, 0)), some (.lcmp, 1, (0, 0, 0, 0)), some (.ifCond .eq 21, 3, (31, 0, 0, 0)), nn, nn, some (.lload 4, 2, (0, 0, 0, 0)), nn, some (.lload 6, 2, (0, 0, 0, 0))],
 [nn, some (.lrem, 1, (0, 0, 0, 0)), some (.lstore 8, 2, (0, 0, 0, 0)), nn, some (.lload 6, 2, (0, 0, 0, 0)), nn, some (.lstore 4, 2, (0, 0, 0, 0)), nn, some (.lload 8, 2, (0, 0, 0, 0)), nn, some (.lstore 6, 2, (0, 0, 0, 0)), nn, some (.goto (-22), 3, (6, 0, 0, 0)), nn, nn, some (.lload 4, 2, (0, 0, 0, 0))],
 [nn, some (.lreturn, 1, (0, 0, 0, 0))]]
def pX7_told : List (List (Option En)) := [[some (.lload_n 0, 1, (0, 0, 0, 0)), some (.lload_n 2, 1, (0, 0, 0, 0)), some (.invokestatic 200, 3, (157, 2, 182, 1)), nn, nn, some (.lstore 5, 2, (0, 0, 0, 0)), nn, some (.iload 4, 2, (0, 0, 0, 0)), nn, some (.ifCond .eq 10, 3, (19, 0, 0, 0)), nn, nn, some (.lload_n 0, 1, (0, 0, 0, 0)), some (.lload 5, 2, (0, 0, 0, 0)), nn, some (.ldiv, 1, (0, 0, 0, 0))],
 [some (.goto 7, 3, (23, 0, 0, 0)), nn, nn, some (.lload_n 2, 1, (0, 0, 0, 0)), some (.lload 5, 2, (0, 0, 0, 0)), nn, some (.ldiv, 1, (0, 0, 0, 0)), some (.lreturn, 1, (0, 0, 0, 0))]]
def pX7_divisor : List (List (Option En)) := [[some (.aload_n 0, 1, (0, 0, 0, 0)), some (.getfield 13, 3, (7, 1, 63, 0)), nn, nn, some (.bipush 24, 2, (0, 0, 0, 0)), nn, some (.iload_n 1, 1, (0, 0, 0, 0)), some (.iadd, 1, (0, 0, 0, 0)), some (.iaload, 1, (0, 0, 0, 0)), some (.bipush 10, 2, (0, 0, 0, 0)), nn, some (.aload_n 0, 1, (0, 0, 0, 0)), some (.getfield 13, 3, (7, 1, 63, 0)), nn, nn, some (.bipush 36, 2, (0, 0, 0, 0))],
 [nn, some (.iload_n 1, 1, (0, 0, 0, 0)), some (.iadd, 1, (0, 0, 0, 0)), some (.iaload, 1, (0, 0, 0, 0)), some (.isub, 1, (0, 0, 0, 0)), some (.imul, 1, (0, 0, 0, 0)), some (.bipush 10, 2, (0, 0, 0, 0)), nn, some (.aload_n 0, 1, (0, 0, 0, 0)), some (.getfield 13, 3, (7, 1, 63, 0)), nn, nn, some (.bipush 30, 2, (0, 0, 0, 0)), nn, some (.iload_n 1, 1, (0, 0, 0, 0)), some (.iadd, 1, (0, 0, 0, 0))],
 [some (.iaload, 1, (0, 0, 0, 0)), some (.isub, 1, (0, 0, 0, 0)), some (.imul, 1, (0, 0, 0, 0)), some (.ireturn, 1, (0, 0, 0, 0))]]
def pX7_share : List (List (Option En)) := [[some (.aload_n 0, 1, (0, 0, 0, 0)), some (.iload_n 1, 1, (0, 0, 0, 0)), some (.invokevirtual 182, 3, (130, 2, 171, 0)), nn, nn, some (.ifCond .eq 10, 3, (15, 0, 0, 0)), nn, nn, some (.iload_n 2, 1, (0, 0, 0, 0)), some (.invokestatic 143, 3, (127, 1, 151, 1)), nn, nn, some (.ifCond .ne 7, 3, (19, 0, 0, 0)), nn, nn, some (.ldc2_w 204, 3, (0, 0, 16, (-1)))],
 [nn, nn, some (.lreturn, 1, (0, 0, 0, 0)), some (.lconst 1, 1, (0, 0, 0, 0)), some (.lstore 4, 2, (0, 0, 0, 0)), nn, some (.iconst 0, 1, (0, 0, 0, 0)), some (.istore 6, 2, (0, 0, 0, 0)), nn, some (.iload 6, 2, (0, 0, 0, 0)), nn, some (.bipush 6, 2, (0, 0, 0, 0)), nn, some (.if_icmp .ge 34, 3, (63, 0, 0, 0))],
 [some (.lload 4, 2, (0, 0, 0, 0)), nn, some (.lload 4, 2, (0, 0, 0, 0)), nn, some (.aload_n 0, 1, (0, 0, 0, 0)), some (.iload 6, 2, (0, 0, 0, 0)), nn, some (.invokevirtual 206, 3, (159, 2, 181, 0)), nn, nn, some (.i2l, 1, (0, 0, 0, 0)), some (.invokestatic 200, 3, (157, 2, 182, 1)), nn, nn, some (.ldiv, 1, (0, 0, 0, 0)), some (.aload_n 0, 1, (0, 0, 0, 0))],
 [some (.iload 6, 2, (0, 0, 0, 0)), nn, some (.invokevirtual 206, 3, (159, 2, 181, 0)), nn, nn, some (.i2l, 1, (0, 0, 0, 0)), some (.lmul, 1, (0, 0, 0, 0)), some (.lstore 4, 2, (0, 0, 0, 0)), nn, some (.iinc 6 1, 3, (0, 0, 0, 0)), nn, nn, some (.goto (-35), 3, (25, 0, 0, 0)), nn, nn, some (.lconst 0, 1, (0, 0, 0, 0))],
 [some (.lstore 6, 2, (0, 0, 0, 0)), nn, some (.iconst 0, 1, (0, 0, 0, 0)), some (.istore 8, 2, (0, 0, 0, 0)), nn, some (.iload 8, 2, (0, 0, 0, 0)), nn, some (.bipush 6, 2, (0, 0, 0, 0)), nn, some (.if_icmp .ge 38, 3, (111, 0, 0, 0)), nn, nn, some (.lload 6, 2, (0, 0, 0, 0)), nn, some (.aload_n 0, 1, (0, 0, 0, 0)), some (.getfield 35, 3, (7, 14, 76, 0))],
 [nn, nn, some (.bipush 7, 2, (0, 0, 0, 0)), nn, some (.iload_n 1, 1, (0, 0, 0, 0)), some (.imul, 1, (0, 0, 0, 0)), some (.iload 8, 2, (0, 0, 0, 0)), nn, some (.iadd, 1, (0, 0, 0, 0)), some (.iaload, 1, (0, 0, 0, 0)), some (.i2l, 1, (0, 0, 0, 0)), some (.lload 4, 2, (0, 0, 0, 0)), nn, some (.aload_n 0, 1, (0, 0, 0, 0)), some (.iload 8, 2, (0, 0, 0, 0))],
 [some (.invokevirtual 206, 3, (159, 2, 181, 0)), nn, nn, some (.i2l, 1, (0, 0, 0, 0)), some (.ldiv, 1, (0, 0, 0, 0)), some (.lmul, 1, (0, 0, 0, 0)), some (.ladd, 1, (0, 0, 0, 0)), some (.lstore 6, 2, (0, 0, 0, 0)), nn, some (.iinc 8 1, 3, (0, 0, 0, 0)), nn, nn, some (.goto (-39), 3, (69, 0, 0, 0)), nn, nn, some (.lload 6, 2, (0, 0, 0, 0))],
 [nn, some (.lconst 0, 1, (0, 0, 0, 0)), some (.lcmp, 1, (0, 0, 0, 0)), some (.ifCond .ne 9, 3, (124, 0, 0, 0)), nn, nn, some (.ldc2_w 209, 3, (0, 0, 17, (-3))), nn, nn, some (.goto 31, 3, (152, 0, 0, 0)), nn, nn, some (.aload_n 0, 1, (0, 0, 0, 0)), some (.getfield 35, 3, (7, 14, 76, 0))],
 [some (.bipush 7, 2, (0, 0, 0, 0)), nn, some (.iload_n 1, 1, (0, 0, 0, 0)), some (.imul, 1, (0, 0, 0, 0)), some (.iload_n 2, 1, (0, 0, 0, 0)), some (.iadd, 1, (0, 0, 0, 0)), some (.iaload, 1, (0, 0, 0, 0)), some (.i2l, 1, (0, 0, 0, 0)), some (.lload 4, 2, (0, 0, 0, 0)), nn, some (.aload_n 0, 1, (0, 0, 0, 0)), some (.iload_n 2, 1, (0, 0, 0, 0)), some (.invokevirtual 206, 3, (159, 2, 181, 0)), nn, nn, some (.i2l, 1, (0, 0, 0, 0))],
 [some (.ldiv, 1, (0, 0, 0, 0)), some (.lmul, 1, (0, 0, 0, 0)), some (.lload 6, 2, (0, 0, 0, 0)), nn, some (.iload_n 3, 1, (0, 0, 0, 0)), some (.invokestatic 211, 3, (158, 3, 183, 1)), nn, nn, some (.lreturn, 1, (0, 0, 0, 0))]]
def pX7_crumbsOf : List (List (Option En)) := [[some (.iconst 0, 1, (0, 0, 0, 0)), some (.istore_n 2, 1, (0, 0, 0, 0)), some (.iconst 0, 1, (0, 0, 0, 0)), some (.istore_n 3, 1, (0, 0, 0, 0)), some (.iload_n 3, 1, (0, 0, 0, 0)), some (.bipush 6, 2, (0, 0, 0, 0)), nn, some (.if_icmp .ge 23, 3, (30, 0, 0, 0)), nn, nn, some (.iload_n 2, 1, (0, 0, 0, 0)), some (.aload_n 0, 1, (0, 0, 0, 0)), some (.getfield 35, 3, (7, 14, 76, 0)), nn, nn, some (.bipush 7, 2, (0, 0, 0, 0))],
 [nn, some (.iload_n 1, 1, (0, 0, 0, 0)), some (.imul, 1, (0, 0, 0, 0)), some (.iload_n 3, 1, (0, 0, 0, 0)), some (.iadd, 1, (0, 0, 0, 0)), some (.iaload, 1, (0, 0, 0, 0)), some (.iadd, 1, (0, 0, 0, 0)), some (.istore_n 2, 1, (0, 0, 0, 0)), some (.iinc 3 1, 3, (0, 0, 0, 0)), nn, nn, some (.goto (-23), 3, (4, 0, 0, 0)), nn, nn, some (.iload_n 2, 1, (0, 0, 0, 0)), some (.ireturn, 1, (0, 0, 0, 0))]]
def pX7_layChance : List (List (Option En)) := [[some (.aload_n 0, 1, (0, 0, 0, 0)), some (.iload_n 2, 1, (0, 0, 0, 0)), some (.invokevirtual 179, 3, (143, 2, 165, 0)), nn, nn, some (.iconst 0, 1, (0, 0, 0, 0)), some (.istore_n 3, 1, (0, 0, 0, 0)), some (.iconst 0, 1, (0, 0, 0, 0)), some (.istore 4, 2, (0, 0, 0, 0)), nn, some (.iload 4, 2, (0, 0, 0, 0)), nn, some (.bipush 6, 2, (0, 0, 0, 0)), nn, some (.if_icmp .ge 22, 3, (36, 0, 0, 0))],
 [nn, some (.iload_n 3, 1, (0, 0, 0, 0)), some (.aload_n 0, 1, (0, 0, 0, 0)), some (.getfield 32, 3, (7, 12, 74, 0)), nn, nn, some (.bipush 12, 2, (0, 0, 0, 0)), nn, some (.iload 4, 2, (0, 0, 0, 0)), nn, some (.iadd, 1, (0, 0, 0, 0)), some (.iaload, 1, (0, 0, 0, 0)), some (.iadd, 1, (0, 0, 0, 0)), some (.istore_n 3, 1, (0, 0, 0, 0)), some (.iinc 4 1, 3, (0, 0, 0, 0))],
 [nn, some (.goto (-23), 3, (10, 0, 0, 0)), nn, nn, some (.aload_n 0, 1, (0, 0, 0, 0)), some (.iload_n 1, 1, (0, 0, 0, 0)), some (.invokevirtual 214, 3, (161, 2, 186, 0)), nn, nn, some (.istore 4, 2, (0, 0, 0, 0)), nn, some (.iload 4, 2, (0, 0, 0, 0)), nn, some (.bipush 12, 2, (0, 0, 0, 0)), nn, some (.if_icmp .gt 9, 3, (56, 0, 0, 0))],
 [nn, nn, some (.iload_n 3, 1, (0, 0, 0, 0)), some (.bipush 30, 2, (0, 0, 0, 0)), nn, some (.if_icmp .le 5, 3, (58, 0, 0, 0)), nn, nn, some (.iconst 0, 1, (0, 0, 0, 0)), some (.ireturn, 1, (0, 0, 0, 0)), some (.aload_n 0, 1, (0, 0, 0, 0)), some (.getfield 44, 3, (7, 18, 80, 0)), nn, nn, some (.iload_n 2, 1, (0, 0, 0, 0)), some (.iload_n 3, 1, (0, 0, 0, 0))],
 [some (.ifCond .ne 12, 3, (76, 0, 0, 0)), nn, nn, some (.iload 4, 2, (0, 0, 0, 0)), nn, some (.ifCond .le 7, 3, (76, 0, 0, 0)), nn, nn, some (.lconst 0, 1, (0, 0, 0, 0)), some (.goto 4, 3, (77, 0, 0, 0)), nn, nn, some (.lconst 1, 1, (0, 0, 0, 0)), some (.lastore, 1, (0, 0, 0, 0)), some (.aload_n 0, 1, (0, 0, 0, 0)), some (.getfield 48, 3, (7, 19, 81, 0))],
 [nn, nn, some (.iload_n 2, 1, (0, 0, 0, 0)), some (.lconst 1, 1, (0, 0, 0, 0)), some (.lastore, 1, (0, 0, 0, 0)), some (.iconst 0, 1, (0, 0, 0, 0)), some (.istore 5, 2, (0, 0, 0, 0)), nn, some (.iload 5, 2, (0, 0, 0, 0)), nn, some (.bipush 6, 2, (0, 0, 0, 0)), nn, some (.if_icmp .ge 70, 3, (162, 0, 0, 0)), nn, nn, some (.iload_n 3, 1, (0, 0, 0, 0))],
 [some (.ifCond .le 66, 3, (162, 0, 0, 0)), nn, nn, some (.iconst 0, 1, (0, 0, 0, 0)), some (.istore 6, 2, (0, 0, 0, 0)), nn, some (.iload 6, 2, (0, 0, 0, 0)), nn, some (.aload_n 0, 1, (0, 0, 0, 0)), some (.getfield 35, 3, (7, 14, 76, 0)), nn, nn, some (.bipush 7, 2, (0, 0, 0, 0)), nn, some (.iload_n 1, 1, (0, 0, 0, 0)), some (.imul, 1, (0, 0, 0, 0))],
 [some (.iload 5, 2, (0, 0, 0, 0)), nn, some (.iadd, 1, (0, 0, 0, 0)), some (.iaload, 1, (0, 0, 0, 0)), some (.if_icmp .ge 40, 3, (156, 0, 0, 0)), nn, nn, some (.aload_n 0, 1, (0, 0, 0, 0)), some (.getfield 44, 3, (7, 18, 80, 0)), nn, nn, some (.iload_n 2, 1, (0, 0, 0, 0)), some (.dup2, 1, (0, 0, 0, 0)), some (.laload, 1, (0, 0, 0, 0)), some (.aload_n 0, 1, (0, 0, 0, 0)), some (.getfield 32, 3, (7, 12, 74, 0))],
 [nn, nn, some (.bipush 12, 2, (0, 0, 0, 0)), nn, some (.iload 5, 2, (0, 0, 0, 0)), nn, some (.iadd, 1, (0, 0, 0, 0)), some (.iaload, 1, (0, 0, 0, 0)), some (.i2l, 1, (0, 0, 0, 0)), some (.lmul, 1, (0, 0, 0, 0)), some (.lastore, 1, (0, 0, 0, 0)), some (.aload_n 0, 1, (0, 0, 0, 0)), some (.getfield 48, 3, (7, 19, 81, 0)), nn, nn, some (.iload_n 2, 1, (0, 0, 0, 0))],
 [some (.dup2, 1, (0, 0, 0, 0)), some (.laload, 1, (0, 0, 0, 0)), some (.iload_n 3, 1, (0, 0, 0, 0)), some (.i2l, 1, (0, 0, 0, 0)), some (.lmul, 1, (0, 0, 0, 0)), some (.lastore, 1, (0, 0, 0, 0)), some (.iinc 6 1, 3, (0, 0, 0, 0)), nn, nn, some (.goto (-51), 3, (102, 0, 0, 0)), nn, nn, some (.iinc 5 1, 3, (0, 0, 0, 0)), nn, nn, some (.goto (-71), 3, (88, 0, 0, 0))],
 [nn, nn, some (.iconst 1, 1, (0, 0, 0, 0)), some (.ireturn, 1, (0, 0, 0, 0))]]
def pX7_chance : List (List (Option En)) := [[some (.aload_n 0, 1, (0, 0, 0, 0)), some (.iload_n 1, 1, (0, 0, 0, 0)), some (.invokevirtual 182, 3, (130, 2, 171, 0)), nn, nn, some (.ifCond .eq 10, 3, (15, 0, 0, 0)), nn, nn, some (.iload_n 2, 1, (0, 0, 0, 0)), some (.invokestatic 152, 3, (129, 1, 156, 1)), nn, nn, some (.ifCond .ne 7, 3, (19, 0, 0, 0)), nn, nn, some (.ldc2_w 204, 3, (0, 0, 16, (-1)))],
 [nn, nn, some (.lreturn, 1, (0, 0, 0, 0)), some (.aload_n 0, 1, (0, 0, 0, 0)), some (.iload_n 1, 1, (0, 0, 0, 0)), some (.iload_n 2, 1, (0, 0, 0, 0)), some (.invokevirtual 217, 3, (162, 3, 185, 0)), nn, nn, some (.ifCond .eq 22, 3, (47, 0, 0, 0)), nn, nn, some (.aload_n 0, 1, (0, 0, 0, 0)), some (.getfield 44, 3, (7, 18, 80, 0))],
 [some (.iload_n 2, 1, (0, 0, 0, 0)), some (.laload, 1, (0, 0, 0, 0)), some (.aload_n 0, 1, (0, 0, 0, 0)), some (.getfield 48, 3, (7, 19, 81, 0)), nn, nn, some (.iload_n 2, 1, (0, 0, 0, 0)), some (.laload, 1, (0, 0, 0, 0)), some (.iload_n 3, 1, (0, 0, 0, 0)), some (.invokestatic 211, 3, (158, 3, 183, 1)), nn, nn, some (.goto 6, 3, (50, 0, 0, 0)), nn, nn, some (.ldc2_w 209, 3, (0, 0, 17, (-3)))],
 [nn, nn, some (.lreturn, 1, (0, 0, 0, 0))]]
def pX7_parts : List (List (Option En)) := [[some (.lload_n 0, 1, (0, 0, 0, 0)), some (.lload_n 2, 1, (0, 0, 0, 0)), some (.ldiv, 1, (0, 0, 0, 0)), some (.lstore 4, 2, (0, 0, 0, 0)), nn, some (.lload_n 0, 1, (0, 0, 0, 0)), some (.lload_n 2, 1, (0, 0, 0, 0)), some (.lrem, 1, (0, 0, 0, 0)), some (.lstore 6, 2, (0, 0, 0, 0)), nn, some (.iconst 0, 1, (0, 0, 0, 0)), some (.istore 8, 2, (0, 0, 0, 0)), nn, some (.iload 8, 2, (0, 0, 0, 0)), nn, some (.bipush 9, 2, (0, 0, 0, 0))],
 [nn, some (.if_icmp .ge 36, 3, (53, 0, 0, 0)), nn, nn, some (.lload 6, 2, (0, 0, 0, 0)), nn, some (.ldc2_w 221, 3, (0, 0, 18, 10)), nn, nn, some (.lmul, 1, (0, 0, 0, 0)), some (.lstore 6, 2, (0, 0, 0, 0)), nn, some (.ldc2_w 221, 3, (0, 0, 18, 10)), nn, nn, some (.lload 4, 2, (0, 0, 0, 0))],
 [nn, some (.lmul, 1, (0, 0, 0, 0)), some (.lload 6, 2, (0, 0, 0, 0)), nn, some (.lload_n 2, 1, (0, 0, 0, 0)), some (.ldiv, 1, (0, 0, 0, 0)), some (.ladd, 1, (0, 0, 0, 0)), some (.lstore 4, 2, (0, 0, 0, 0)), nn, some (.lload 6, 2, (0, 0, 0, 0)), nn, some (.lload_n 2, 1, (0, 0, 0, 0)), some (.lrem, 1, (0, 0, 0, 0)), some (.lstore 6, 2, (0, 0, 0, 0)), nn, some (.iinc 8 1, 3, (0, 0, 0, 0))],
 [nn, nn, some (.goto (-37), 3, (13, 0, 0, 0)), nn, nn, some (.lload 4, 2, (0, 0, 0, 0)), nn, some (.lreturn, 1, (0, 0, 0, 0))]]
def pX7_layOdds : List (List (Option En)) := [[some (.iconst 1, 1, (0, 0, 0, 0)), some (.istore_n 2, 1, (0, 0, 0, 0)), some (.iconst 0, 1, (0, 0, 0, 0)), some (.istore_n 3, 1, (0, 0, 0, 0)), some (.iload_n 3, 1, (0, 0, 0, 0)), some (.iconst 4, 1, (0, 0, 0, 0)), some (.if_icmp .ge 28, 3, (34, 0, 0, 0)), nn, nn, some (.aload_n 0, 1, (0, 0, 0, 0)), some (.iload_n 1, 1, (0, 0, 0, 0)), some (.iload_n 3, 1, (0, 0, 0, 0)), some (.invokevirtual 217, 3, (162, 3, 185, 0)), nn, nn, some (.ifCond .eq 11, 3, (26, 0, 0, 0))],
 [nn, nn, some (.iload_n 2, 1, (0, 0, 0, 0)), some (.ifCond .eq 7, 3, (26, 0, 0, 0)), nn, nn, some (.iconst 1, 1, (0, 0, 0, 0)), some (.goto 4, 3, (27, 0, 0, 0)), nn, nn, some (.iconst 0, 1, (0, 0, 0, 0)), some (.istore_n 2, 1, (0, 0, 0, 0)), some (.iinc 3 1, 3, (0, 0, 0, 0)), nn, nn, some (.goto (-27), 3, (4, 0, 0, 0))],
 [nn, nn, some (.aload_n 0, 1, (0, 0, 0, 0)), some (.lconst 0, 1, (0, 0, 0, 0)), some (.putfield 223, 3, (7, 21, 83, 0)), nn, nn, some (.iconst 0, 1, (0, 0, 0, 0)), some (.istore_n 3, 1, (0, 0, 0, 0)), some (.iload_n 3, 1, (0, 0, 0, 0)), some (.iconst 4, 1, (0, 0, 0, 0)), some (.if_icmp .ge 49, 3, (92, 0, 0, 0)), nn, nn, some (.iload_n 2, 1, (0, 0, 0, 0)), some (.ifCond .eq 45, 3, (92, 0, 0, 0))],
 [nn, nn, some (.aload_n 0, 1, (0, 0, 0, 0)), some (.getfield 51, 3, (7, 20, 82, 0)), nn, nn, some (.iload_n 3, 1, (0, 0, 0, 0)), some (.aload_n 0, 1, (0, 0, 0, 0)), some (.getfield 44, 3, (7, 18, 80, 0)), nn, nn, some (.iload_n 3, 1, (0, 0, 0, 0)), some (.laload, 1, (0, 0, 0, 0)), some (.aload_n 0, 1, (0, 0, 0, 0)), some (.getfield 48, 3, (7, 19, 81, 0))],
 [nn, some (.iload_n 3, 1, (0, 0, 0, 0)), some (.laload, 1, (0, 0, 0, 0)), some (.invokestatic 227, 3, (164, 2, 189, 1)), nn, nn, some (.lastore, 1, (0, 0, 0, 0)), some (.aload_n 0, 1, (0, 0, 0, 0)), some (.dup, 1, (0, 0, 0, 0)), some (.getfield 223, 3, (7, 21, 83, 0)), nn, nn, some (.aload_n 0, 1, (0, 0, 0, 0)), some (.getfield 51, 3, (7, 20, 82, 0))],
 [some (.iload_n 3, 1, (0, 0, 0, 0)), some (.laload, 1, (0, 0, 0, 0)), some (.ladd, 1, (0, 0, 0, 0)), some (.putfield 223, 3, (7, 21, 83, 0)), nn, nn, some (.iinc 3 1, 3, (0, 0, 0, 0)), nn, nn, some (.goto (-48), 3, (41, 0, 0, 0)), nn, nn, some (.iload_n 2, 1, (0, 0, 0, 0)), some (.ifCond .eq 16, 3, (109, 0, 0, 0))],
 [some (.aload_n 0, 1, (0, 0, 0, 0)), some (.getfield 223, 3, (7, 21, 83, 0)), nn, nn, some (.lconst 0, 1, (0, 0, 0, 0)), some (.lcmp, 1, (0, 0, 0, 0)), some (.ifCond .le 7, 3, (109, 0, 0, 0)), nn, nn, some (.iconst 1, 1, (0, 0, 0, 0)), some (.goto 4, 3, (110, 0, 0, 0)), nn, nn, some (.iconst 0, 1, (0, 0, 0, 0)), some (.ireturn, 1, (0, 0, 0, 0))]]
def pX7_odds : List (List (Option En)) := [[some (.aload_n 0, 1, (0, 0, 0, 0)), some (.iload_n 1, 1, (0, 0, 0, 0)), some (.invokevirtual 182, 3, (130, 2, 171, 0)), nn, nn, some (.ifCond .eq 10, 3, (15, 0, 0, 0)), nn, nn, some (.iload_n 2, 1, (0, 0, 0, 0)), some (.invokestatic 152, 3, (129, 1, 156, 1)), nn, nn, some (.ifCond .ne 7, 3, (19, 0, 0, 0)), nn, nn, some (.ldc2_w 204, 3, (0, 0, 16, (-1)))],
 [nn, nn, some (.lreturn, 1, (0, 0, 0, 0)), some (.aload_n 0, 1, (0, 0, 0, 0)), some (.iload_n 1, 1, (0, 0, 0, 0)), some (.invokevirtual 229, 3, (165, 2, 188, 0)), nn, nn, some (.ifCond .eq 20, 3, (44, 0, 0, 0)), nn, nn, some (.aload_n 0, 1, (0, 0, 0, 0)), some (.getfield 51, 3, (7, 20, 82, 0)), nn, nn, some (.iload_n 2, 1, (0, 0, 0, 0))],
 [some (.laload, 1, (0, 0, 0, 0)), some (.aload_n 0, 1, (0, 0, 0, 0)), some (.getfield 223, 3, (7, 21, 83, 0)), nn, nn, some (.iload_n 3, 1, (0, 0, 0, 0)), some (.invokestatic 211, 3, (158, 3, 183, 1)), nn, nn, some (.goto 6, 3, (47, 0, 0, 0)), nn, nn, some (.ldc2_w 209, 3, (0, 0, 17, (-3))), nn, nn, some (.lreturn, 1, (0, 0, 0, 0))]]
def pX7_likeliestOf : List (List (Option En)) := [[some (.iconst 0, 1, (0, 0, 0, 0)), some (.istore_n 1, 1, (0, 0, 0, 0)), some (.iconst 1, 1, (0, 0, 0, 0)), some (.istore_n 2, 1, (0, 0, 0, 0)), some (.iload_n 2, 1, (0, 0, 0, 0)), some (.iconst 4, 1, (0, 0, 0, 0)), some (.if_icmp .ge 31, 3, (37, 0, 0, 0)), nn, nn, some (.aload_n 0, 1, (0, 0, 0, 0)), some (.getfield 51, 3, (7, 20, 82, 0)), nn, nn, some (.iload_n 2, 1, (0, 0, 0, 0)), some (.laload, 1, (0, 0, 0, 0)), some (.aload_n 0, 1, (0, 0, 0, 0))],
 [some (.getfield 51, 3, (7, 20, 82, 0)), nn, nn, some (.iload_n 1, 1, (0, 0, 0, 0)), some (.laload, 1, (0, 0, 0, 0)), some (.lcmp, 1, (0, 0, 0, 0)), some (.ifCond .le 7, 3, (29, 0, 0, 0)), nn, nn, some (.iload_n 2, 1, (0, 0, 0, 0)), some (.goto 4, 3, (30, 0, 0, 0)), nn, nn, some (.iload_n 1, 1, (0, 0, 0, 0)), some (.istore_n 1, 1, (0, 0, 0, 0)), some (.iinc 2 1, 3, (0, 0, 0, 0))],
 [nn, nn, some (.goto (-30), 3, (4, 0, 0, 0)), nn, nn, some (.iload_n 1, 1, (0, 0, 0, 0)), some (.ireturn, 1, (0, 0, 0, 0))]]
def pX7_likeliest : List (List (Option En)) := [[some (.aload_n 0, 1, (0, 0, 0, 0)), some (.iload_n 1, 1, (0, 0, 0, 0)), some (.invokevirtual 182, 3, (130, 2, 171, 0)), nn, nn, some (.ifCond .ne 5, 3, (10, 0, 0, 0)), nn, nn, some (.iconst (-1), 1, (0, 0, 0, 0)), some (.ireturn, 1, (0, 0, 0, 0)), some (.aload_n 0, 1, (0, 0, 0, 0)), some (.iload_n 1, 1, (0, 0, 0, 0)), some (.invokevirtual 229, 3, (165, 2, 188, 0)), nn, nn, some (.ifCond .eq 10, 3, (25, 0, 0, 0))],
 [nn, nn, some (.aload_n 0, 1, (0, 0, 0, 0)), some (.invokevirtual 232, 3, (167, 1, 191, 0)), nn, nn, some (.goto 5, 3, (27, 0, 0, 0)), nn, nn, some (.bipush (-3), 2, (0, 0, 0, 0)), nn, some (.ireturn, 1, (0, 0, 0, 0))]]
def pX7_far : List (List (Option En)) := [[some (.aload_n 0, 1, (0, 0, 0, 0)), some (.iload_n 1, 1, (0, 0, 0, 0)), some (.invokevirtual 182, 3, (130, 2, 171, 0)), nn, nn, some (.ifCond .ne 7, 3, (12, 0, 0, 0)), nn, nn, some (.ldc2_w 204, 3, (0, 0, 16, (-1))), nn, nn, some (.lreturn, 1, (0, 0, 0, 0)), some (.aload_n 0, 1, (0, 0, 0, 0)), some (.iload_n 1, 1, (0, 0, 0, 0)), some (.invokevirtual 229, 3, (165, 2, 188, 0))],
 [nn, some (.ifCond .ne 7, 3, (24, 0, 0, 0)), nn, nn, some (.ldc2_w 209, 3, (0, 0, 17, (-3))), nn, nn, some (.lreturn, 1, (0, 0, 0, 0)), some (.lconst 0, 1, (0, 0, 0, 0)), some (.lstore_n 3, 1, (0, 0, 0, 0)), some (.iconst 0, 1, (0, 0, 0, 0)), some (.istore 5, 2, (0, 0, 0, 0)), nn, some (.iload 5, 2, (0, 0, 0, 0)), nn, some (.iconst 4, 1, (0, 0, 0, 0))],
 [some (.if_icmp .ge 30, 3, (62, 0, 0, 0)), nn, nn, some (.lload_n 3, 1, (0, 0, 0, 0)), some (.aload_n 0, 1, (0, 0, 0, 0)), some (.getfield 23, 3, (7, 8, 70, 0)), nn, nn, some (.iconst 4, 1, (0, 0, 0, 0)), some (.iload 5, 2, (0, 0, 0, 0)), nn, some (.imul, 1, (0, 0, 0, 0)), some (.iaload, 1, (0, 0, 0, 0)), some (.i2l, 1, (0, 0, 0, 0)), some (.aload_n 0, 1, (0, 0, 0, 0)), some (.getfield 51, 3, (7, 20, 82, 0))],
 [nn, nn, some (.iload 5, 2, (0, 0, 0, 0)), nn, some (.laload, 1, (0, 0, 0, 0)), some (.lmul, 1, (0, 0, 0, 0)), some (.ladd, 1, (0, 0, 0, 0)), some (.lstore_n 3, 1, (0, 0, 0, 0)), some (.iinc 5 1, 3, (0, 0, 0, 0)), nn, nn, some (.goto (-30), 3, (29, 0, 0, 0)), nn, nn, some (.lload_n 3, 1, (0, 0, 0, 0)), some (.aload_n 0, 1, (0, 0, 0, 0))],
 [some (.getfield 223, 3, (7, 21, 83, 0)), nn, nn, some (.iload_n 2, 1, (0, 0, 0, 0)), some (.invokestatic 211, 3, (158, 3, 183, 1)), nn, nn, some (.lreturn, 1, (0, 0, 0, 0))]]
def pX7_lacks : List (List (Option En)) := [[some (.aload_n 0, 1, (0, 0, 0, 0)), some (.iload_n 1, 1, (0, 0, 0, 0)), some (.invokevirtual 182, 3, (130, 2, 171, 0)), nn, nn, some (.ifCond .eq 17, 3, (22, 0, 0, 0)), nn, nn, some (.iload_n 2, 1, (0, 0, 0, 0)), some (.invokestatic 152, 3, (129, 1, 156, 1)), nn, nn, some (.ifCond .eq 10, 3, (22, 0, 0, 0)), nn, nn, some (.iload_n 3, 1, (0, 0, 0, 0))],
 [some (.invokestatic 143, 3, (127, 1, 151, 1)), nn, nn, some (.ifCond .ne 5, 3, (24, 0, 0, 0)), nn, nn, some (.iconst (-1), 1, (0, 0, 0, 0)), some (.ireturn, 1, (0, 0, 0, 0)), some (.iconst 0, 1, (0, 0, 0, 0)), some (.istore 4, 2, (0, 0, 0, 0)), nn, some (.iconst 0, 1, (0, 0, 0, 0)), some (.istore 5, 2, (0, 0, 0, 0)), nn, some (.iload 5, 2, (0, 0, 0, 0))],
 [some (.iconst 4, 1, (0, 0, 0, 0)), some (.if_icmp .ge 50, 3, (83, 0, 0, 0)), nn, nn, some (.iload 4, 2, (0, 0, 0, 0)), nn, some (.aload_n 0, 1, (0, 0, 0, 0)), some (.getfield 13, 3, (7, 1, 63, 0)), nn, nn, some (.bipush 42, 2, (0, 0, 0, 0)), nn, some (.iload 5, 2, (0, 0, 0, 0)), nn, some (.iadd, 1, (0, 0, 0, 0)), some (.iaload, 1, (0, 0, 0, 0))],
 [some (.aload_n 0, 1, (0, 0, 0, 0)), some (.getfield 23, 3, (7, 8, 70, 0)), nn, nn, some (.iconst 4, 1, (0, 0, 0, 0)), some (.iload_n 2, 1, (0, 0, 0, 0)), some (.imul, 1, (0, 0, 0, 0)), some (.iaload, 1, (0, 0, 0, 0)), some (.if_icmp .gt 17, 3, (73, 0, 0, 0)), nn, nn, some (.aload_n 0, 1, (0, 0, 0, 0)), some (.getfield 13, 3, (7, 1, 63, 0)), nn, nn, some (.iconst 4, 1, (0, 0, 0, 0))],
 [some (.iload_n 3, 1, (0, 0, 0, 0)), some (.imul, 1, (0, 0, 0, 0)), some (.iload 5, 2, (0, 0, 0, 0)), nn, some (.iadd, 1, (0, 0, 0, 0)), some (.iaload, 1, (0, 0, 0, 0)), some (.goto 4, 3, (74, 0, 0, 0)), nn, nn, some (.iconst 0, 1, (0, 0, 0, 0)), some (.iadd, 1, (0, 0, 0, 0)), some (.istore 4, 2, (0, 0, 0, 0)), nn, some (.iinc 5 1, 3, (0, 0, 0, 0))],
 [some (.goto (-50), 3, (30, 0, 0, 0)), nn, nn, some (.iload 4, 2, (0, 0, 0, 0)), nn, some (.ifCond .eq 17, 3, (102, 0, 0, 0)), nn, nn, some (.aload_n 0, 1, (0, 0, 0, 0)), some (.getfield 35, 3, (7, 14, 76, 0)), nn, nn, some (.bipush 7, 2, (0, 0, 0, 0)), nn, some (.iload_n 1, 1, (0, 0, 0, 0)), some (.imul, 1, (0, 0, 0, 0))],
 [some (.iload_n 3, 1, (0, 0, 0, 0)), some (.iadd, 1, (0, 0, 0, 0)), some (.iaload, 1, (0, 0, 0, 0)), some (.ifCond .le 5, 3, (104, 0, 0, 0)), nn, nn, some (.iconst 0, 1, (0, 0, 0, 0)), some (.ireturn, 1, (0, 0, 0, 0)), some (.aload_n 0, 1, (0, 0, 0, 0)), some (.iload_n 2, 1, (0, 0, 0, 0)), some (.invokevirtual 179, 3, (143, 2, 165, 0)), nn, nn, some (.aload_n 0, 1, (0, 0, 0, 0)), some (.getfield 23, 3, (7, 8, 70, 0))],
 [nn, some (.iconst 4, 1, (0, 0, 0, 0)), some (.iload_n 2, 1, (0, 0, 0, 0)), some (.imul, 1, (0, 0, 0, 0)), some (.iconst 3, 1, (0, 0, 0, 0)), some (.iadd, 1, (0, 0, 0, 0)), some (.iaload, 1, (0, 0, 0, 0)), some (.iload_n 3, 1, (0, 0, 0, 0)), some (.if_icmp .ne 7, 3, (127, 0, 0, 0)), nn, nn, some (.iconst 1, 1, (0, 0, 0, 0)), some (.goto 50, 3, (174, 0, 0, 0)), nn, nn, some (.aload_n 0, 1, (0, 0, 0, 0))],
 [some (.iload_n 3, 1, (0, 0, 0, 0)), some (.invokevirtual 176, 3, (142, 2, 166, 0)), nn, nn, some (.ifCond .ne 7, 3, (139, 0, 0, 0)), nn, nn, some (.iconst 2, 1, (0, 0, 0, 0)), some (.goto 38, 3, (174, 0, 0, 0)), nn, nn, some (.aload_n 0, 1, (0, 0, 0, 0)), some (.getfield 32, 3, (7, 12, 74, 0)), nn, nn, some (.iload_n 3, 1, (0, 0, 0, 0))],
 [some (.iaload, 1, (0, 0, 0, 0)), some (.aload_n 0, 1, (0, 0, 0, 0)), some (.iload_n 3, 1, (0, 0, 0, 0)), some (.invokevirtual 176, 3, (142, 2, 166, 0)), nn, nn, some (.if_icmp .ne 7, 3, (157, 0, 0, 0)), nn, nn, some (.iconst 3, 1, (0, 0, 0, 0)), some (.goto 20, 3, (174, 0, 0, 0)), nn, nn, some (.aload_n 0, 1, (0, 0, 0, 0)), some (.getfield 32, 3, (7, 12, 74, 0))],
 [nn, some (.bipush 12, 2, (0, 0, 0, 0)), nn, some (.iload_n 3, 1, (0, 0, 0, 0)), some (.iadd, 1, (0, 0, 0, 0)), some (.iaload, 1, (0, 0, 0, 0)), some (.ifCond .ne 7, 3, (173, 0, 0, 0)), nn, nn, some (.iconst 4, 1, (0, 0, 0, 0)), some (.goto 4, 3, (174, 0, 0, 0)), nn, nn, some (.iconst 5, 1, (0, 0, 0, 0)), some (.ireturn, 1, (0, 0, 0, 0))]]
def pX7_next : List (List (Option En)) := [[some (.bipush (-9), 2, (0, 0, 0, 0)), nn, some (.istore_n 1, 1, (0, 0, 0, 0)), some (.lconst 0, 1, (0, 0, 0, 0)), some (.lstore_n 2, 1, (0, 0, 0, 0)), some (.lconst 1, 1, (0, 0, 0, 0)), some (.lstore 4, 2, (0, 0, 0, 0)), nn, some (.iconst 0, 1, (0, 0, 0, 0)), some (.istore 6, 2, (0, 0, 0, 0)), nn, some (.iload 6, 2, (0, 0, 0, 0)), nn, some (.aload_n 0, 1, (0, 0, 0, 0)), some (.getfield 140, 3, (7, 13, 75, 0))],
 [nn, some (.if_icmp .ge 81, 3, (98, 0, 0, 0)), nn, nn, some (.aload_n 0, 1, (0, 0, 0, 0)), some (.iload 6, 2, (0, 0, 0, 0)), nn, some (.invokevirtual 229, 3, (165, 2, 188, 0)), nn, nn, some (.istore 7, 2, (0, 0, 0, 0)), nn, some (.iload 7, 2, (0, 0, 0, 0)), nn, some (.ifCond .eq 15, 3, (45, 0, 0, 0))],
 [nn, some (.aload_n 0, 1, (0, 0, 0, 0)), some (.getfield 51, 3, (7, 20, 82, 0)), nn, nn, some (.aload_n 0, 1, (0, 0, 0, 0)), some (.invokevirtual 232, 3, (167, 1, 191, 0)), nn, nn, some (.laload, 1, (0, 0, 0, 0)), some (.goto 4, 3, (46, 0, 0, 0)), nn, nn, some (.lconst 0, 1, (0, 0, 0, 0)), some (.lstore 8, 2, (0, 0, 0, 0))],
 [some (.iload 7, 2, (0, 0, 0, 0)), nn, some (.ifCond .eq 10, 3, (60, 0, 0, 0)), nn, nn, some (.aload_n 0, 1, (0, 0, 0, 0)), some (.getfield 223, 3, (7, 21, 83, 0)), nn, nn, some (.goto 4, 3, (61, 0, 0, 0)), nn, nn, some (.lconst 1, 1, (0, 0, 0, 0)), some (.lstore 10, 2, (0, 0, 0, 0)), nn, some (.iload_n 1, 1, (0, 0, 0, 0))],
 [some (.bipush (-9), 2, (0, 0, 0, 0)), nn, some (.if_icmp .eq 16, 3, (82, 0, 0, 0)), nn, nn, some (.lload 8, 2, (0, 0, 0, 0)), nn, some (.lload 4, 2, (0, 0, 0, 0)), nn, some (.lmul, 1, (0, 0, 0, 0)), some (.lload_n 2, 1, (0, 0, 0, 0)), some (.lload 10, 2, (0, 0, 0, 0)), nn, some (.lmul, 1, (0, 0, 0, 0)), some (.lcmp, 1, (0, 0, 0, 0)), some (.ifCond .ge 13, 3, (92, 0, 0, 0))],
 [nn, nn, some (.iload 6, 2, (0, 0, 0, 0)), nn, some (.istore_n 1, 1, (0, 0, 0, 0)), some (.lload 8, 2, (0, 0, 0, 0)), nn, some (.lstore_n 2, 1, (0, 0, 0, 0)), some (.lload 10, 2, (0, 0, 0, 0)), nn, some (.lstore 4, 2, (0, 0, 0, 0)), nn, some (.iinc 6 1, 3, (0, 0, 0, 0)), nn, nn, some (.goto (-84), 3, (11, 0, 0, 0))],
 [nn, nn, some (.iload_n 1, 1, (0, 0, 0, 0)), some (.ireturn, 1, (0, 0, 0, 0))]]
def pX7_twig : List (List (Option En)) := [[some (.aload_n 0, 1, (0, 0, 0, 0)), some (.iload_n 1, 1, (0, 0, 0, 0)), some (.invokevirtual 182, 3, (130, 2, 171, 0)), nn, nn, some (.ifCond .ne 5, 3, (10, 0, 0, 0)), nn, nn, some (.iconst (-1), 1, (0, 0, 0, 0)), some (.ireturn, 1, (0, 0, 0, 0)), some (.iload_n 2, 1, (0, 0, 0, 0)), some (.i2l, 1, (0, 0, 0, 0)), some (.lconst 1, 1, (0, 0, 0, 0)), some (.ldc2_w 187, 3, (0, 0, 14, 99))],
 [some (.invokestatic 97, 3, (116, 3, 140, 1)), nn, nn, some (.ifCond .eq 15, 3, (34, 0, 0, 0)), nn, nn, some (.iload_n 3, 1, (0, 0, 0, 0)), some (.i2l, 1, (0, 0, 0, 0)), some (.lconst 1, 1, (0, 0, 0, 0)), some (.ldc2_w 187, 3, (0, 0, 14, 99)), nn, nn, some (.invokestatic 97, 3, (116, 3, 140, 1)), nn, nn, some (.ifCond .ne 6, 3, (37, 0, 0, 0))],
 [nn, nn, some (.bipush (-2), 2, (0, 0, 0, 0)), nn, some (.ireturn, 1, (0, 0, 0, 0)), some (.aload_n 0, 1, (0, 0, 0, 0)), some (.getfield 235, 3, (7, 22, 84, 0)), nn, nn, some (.bipush 16, 2, (0, 0, 0, 0)), nn, some (.if_icmp .ne 6, 3, (49, 0, 0, 0)), nn, nn, some (.bipush (-4), 2, (0, 0, 0, 0))],
 [some (.ireturn, 1, (0, 0, 0, 0)), some (.aload_n 0, 1, (0, 0, 0, 0)), some (.getfield 54, 3, (7, 23, 85, 0)), nn, nn, some (.aload_n 0, 1, (0, 0, 0, 0)), some (.getfield 235, 3, (7, 22, 84, 0)), nn, nn, some (.iload_n 1, 1, (0, 0, 0, 0)), some (.iastore, 1, (0, 0, 0, 0)), some (.aload_n 0, 1, (0, 0, 0, 0)), some (.getfield 57, 3, (7, 24, 86, 0)), nn, nn, some (.aload_n 0, 1, (0, 0, 0, 0))],
 [some (.getfield 235, 3, (7, 22, 84, 0)), nn, nn, some (.iload_n 2, 1, (0, 0, 0, 0)), some (.iload_n 2, 1, (0, 0, 0, 0)), some (.imul, 1, (0, 0, 0, 0)), some (.iload_n 3, 1, (0, 0, 0, 0)), some (.iload_n 3, 1, (0, 0, 0, 0)), some (.imul, 1, (0, 0, 0, 0)), some (.iadd, 1, (0, 0, 0, 0)), some (.iload_n 3, 1, (0, 0, 0, 0)), some (.idiv, 1, (0, 0, 0, 0)), some (.iastore, 1, (0, 0, 0, 0)), some (.aload_n 0, 1, (0, 0, 0, 0)), some (.dup, 1, (0, 0, 0, 0)), some (.getfield 235, 3, (7, 22, 84, 0))],
 [nn, nn, some (.iconst 1, 1, (0, 0, 0, 0)), some (.iadd, 1, (0, 0, 0, 0)), some (.putfield 235, 3, (7, 22, 84, 0)), nn, nn, some (.aload_n 0, 1, (0, 0, 0, 0)), some (.getfield 57, 3, (7, 24, 86, 0)), nn, nn, some (.aload_n 0, 1, (0, 0, 0, 0)), some (.getfield 235, 3, (7, 22, 84, 0)), nn, nn, some (.iconst 1, 1, (0, 0, 0, 0))],
 [some (.isub, 1, (0, 0, 0, 0)), some (.iaload, 1, (0, 0, 0, 0)), some (.ireturn, 1, (0, 0, 0, 0))]]
def pX7_twigsOf : List (List (Option En)) := [[some (.iconst 0, 1, (0, 0, 0, 0)), some (.istore_n 2, 1, (0, 0, 0, 0)), some (.iconst 0, 1, (0, 0, 0, 0)), some (.istore_n 3, 1, (0, 0, 0, 0)), some (.iload_n 3, 1, (0, 0, 0, 0)), some (.aload_n 0, 1, (0, 0, 0, 0)), some (.getfield 235, 3, (7, 22, 84, 0)), nn, nn, some (.if_icmp .ge 27, 3, (36, 0, 0, 0)), nn, nn, some (.iload_n 2, 1, (0, 0, 0, 0)), some (.aload_n 0, 1, (0, 0, 0, 0)), some (.getfield 54, 3, (7, 23, 85, 0))],
 [nn, some (.iload_n 3, 1, (0, 0, 0, 0)), some (.iaload, 1, (0, 0, 0, 0)), some (.iload_n 1, 1, (0, 0, 0, 0)), some (.if_icmp .ne 7, 3, (27, 0, 0, 0)), nn, nn, some (.iconst 1, 1, (0, 0, 0, 0)), some (.goto 4, 3, (28, 0, 0, 0)), nn, nn, some (.iconst 0, 1, (0, 0, 0, 0)), some (.iadd, 1, (0, 0, 0, 0)), some (.istore_n 2, 1, (0, 0, 0, 0)), some (.iinc 3 1, 3, (0, 0, 0, 0))],
 [nn, some (.goto (-29), 3, (4, 0, 0, 0)), nn, nn, some (.iload_n 2, 1, (0, 0, 0, 0)), some (.ireturn, 1, (0, 0, 0, 0))]]
def pX7_thickOf : List (List (Option En)) := [[some (.iconst 0, 1, (0, 0, 0, 0)), some (.istore_n 2, 1, (0, 0, 0, 0)), some (.iconst 0, 1, (0, 0, 0, 0)), some (.istore_n 3, 1, (0, 0, 0, 0)), some (.iload_n 3, 1, (0, 0, 0, 0)), some (.aload_n 0, 1, (0, 0, 0, 0)), some (.getfield 235, 3, (7, 22, 84, 0)), nn, nn, some (.if_icmp .ge 32, 3, (41, 0, 0, 0)), nn, nn, some (.iload_n 2, 1, (0, 0, 0, 0)), some (.aload_n 0, 1, (0, 0, 0, 0)), some (.getfield 54, 3, (7, 23, 85, 0))],
 [nn, some (.iload_n 3, 1, (0, 0, 0, 0)), some (.iaload, 1, (0, 0, 0, 0)), some (.iload_n 1, 1, (0, 0, 0, 0)), some (.if_icmp .ne 12, 3, (32, 0, 0, 0)), nn, nn, some (.aload_n 0, 1, (0, 0, 0, 0)), some (.getfield 57, 3, (7, 24, 86, 0)), nn, nn, some (.iload_n 3, 1, (0, 0, 0, 0)), some (.iaload, 1, (0, 0, 0, 0)), some (.goto 4, 3, (33, 0, 0, 0))],
 [some (.iconst 0, 1, (0, 0, 0, 0)), some (.iadd, 1, (0, 0, 0, 0)), some (.istore_n 2, 1, (0, 0, 0, 0)), some (.iinc 3 1, 3, (0, 0, 0, 0)), nn, nn, some (.goto (-34), 3, (4, 0, 0, 0)), nn, nn, some (.iload_n 2, 1, (0, 0, 0, 0)), some (.ireturn, 1, (0, 0, 0, 0))]]
def pX7_isThinner : List (List (Option En)) := [[some (.aload_n 0, 1, (0, 0, 0, 0)), some (.iload_n 1, 1, (0, 0, 0, 0)), some (.iconst 1, 1, (0, 0, 0, 0)), some (.iadd, 1, (0, 0, 0, 0)), some (.invokevirtual 238, 3, (174, 2, 200, 0)), nn, nn, some (.aload_n 0, 1, (0, 0, 0, 0)), some (.iload_n 1, 1, (0, 0, 0, 0)), some (.invokevirtual 241, 3, (173, 2, 198, 0)), nn, nn, some (.imul, 1, (0, 0, 0, 0)), some (.aload_n 0, 1, (0, 0, 0, 0)), some (.iload_n 1, 1, (0, 0, 0, 0)), some (.invokevirtual 238, 3, (174, 2, 200, 0))],
 [nn, nn, some (.aload_n 0, 1, (0, 0, 0, 0)), some (.iload_n 1, 1, (0, 0, 0, 0)), some (.iconst 1, 1, (0, 0, 0, 0)), some (.iadd, 1, (0, 0, 0, 0)), some (.invokevirtual 241, 3, (173, 2, 198, 0)), nn, nn, some (.imul, 1, (0, 0, 0, 0)), some (.if_icmp .ge 7, 3, (33, 0, 0, 0)), nn, nn, some (.iconst 1, 1, (0, 0, 0, 0)), some (.goto 4, 3, (34, 0, 0, 0))],
 [nn, some (.iconst 0, 1, (0, 0, 0, 0)), some (.ireturn, 1, (0, 0, 0, 0))]]
def pX7_hasBoth : List (List (Option En)) := [[some (.aload_n 0, 1, (0, 0, 0, 0)), some (.iload_n 1, 1, (0, 0, 0, 0)), some (.iconst 1, 1, (0, 0, 0, 0)), some (.iadd, 1, (0, 0, 0, 0)), some (.invokevirtual 182, 3, (130, 2, 171, 0)), nn, nn, some (.ifCond .eq 25, 3, (32, 0, 0, 0)), nn, nn, some (.aload_n 0, 1, (0, 0, 0, 0)), some (.iload_n 1, 1, (0, 0, 0, 0)), some (.invokevirtual 241, 3, (173, 2, 198, 0)), nn, nn, some (.ifCond .le 17, 3, (32, 0, 0, 0))],
 [nn, nn, some (.aload_n 0, 1, (0, 0, 0, 0)), some (.iload_n 1, 1, (0, 0, 0, 0)), some (.iconst 1, 1, (0, 0, 0, 0)), some (.iadd, 1, (0, 0, 0, 0)), some (.invokevirtual 241, 3, (173, 2, 198, 0)), nn, nn, some (.ifCond .le 7, 3, (32, 0, 0, 0)), nn, nn, some (.iconst 1, 1, (0, 0, 0, 0)), some (.goto 4, 3, (33, 0, 0, 0))],
 [some (.iconst 0, 1, (0, 0, 0, 0)), some (.ireturn, 1, (0, 0, 0, 0))]]
def pX7_thins : List (List (Option En)) := [[some (.aload_n 0, 1, (0, 0, 0, 0)), some (.iload_n 1, 1, (0, 0, 0, 0)), some (.invokevirtual 182, 3, (130, 2, 171, 0)), nn, nn, some (.ifCond .ne 5, 3, (10, 0, 0, 0)), nn, nn, some (.iconst (-1), 1, (0, 0, 0, 0)), some (.ireturn, 1, (0, 0, 0, 0)), some (.aload_n 0, 1, (0, 0, 0, 0)), some (.iload_n 1, 1, (0, 0, 0, 0)), some (.invokevirtual 244, 3, (176, 2, 197, 0)), nn, nn, some (.ifCond .ne 8, 3, (23, 0, 0, 0))],
 [nn, nn, some (.bipush (-3), 2, (0, 0, 0, 0)), nn, some (.goto 16, 3, (36, 0, 0, 0)), nn, nn, some (.aload_n 0, 1, (0, 0, 0, 0)), some (.iload_n 1, 1, (0, 0, 0, 0)), some (.invokevirtual 247, 3, (175, 2, 199, 0)), nn, nn, some (.ifCond .eq 7, 3, (35, 0, 0, 0)), nn, nn, some (.iconst 1, 1, (0, 0, 0, 0))],
 [some (.goto 4, 3, (36, 0, 0, 0)), nn, nn, some (.iconst 0, 1, (0, 0, 0, 0)), some (.ireturn, 1, (0, 0, 0, 0))]]
def pX7_longest : List (List (Option En)) := [[some (.iconst 0, 1, (0, 0, 0, 0)), some (.istore_n 1, 1, (0, 0, 0, 0)), some (.iconst 0, 1, (0, 0, 0, 0)), some (.istore_n 2, 1, (0, 0, 0, 0)), some (.iconst 0, 1, (0, 0, 0, 0)), some (.istore_n 3, 1, (0, 0, 0, 0)), some (.iload_n 3, 1, (0, 0, 0, 0)), some (.aload_n 0, 1, (0, 0, 0, 0)), some (.getfield 140, 3, (7, 13, 75, 0)), nn, nn, some (.if_icmp .ge 64, 3, (75, 0, 0, 0)), nn, nn, some (.aload_n 0, 1, (0, 0, 0, 0)), some (.iload_n 3, 1, (0, 0, 0, 0))],
 [some (.invokevirtual 241, 3, (173, 2, 198, 0)), nn, nn, some (.ifCond .ne 7, 3, (26, 0, 0, 0)), nn, nn, some (.iconst 0, 1, (0, 0, 0, 0)), some (.goto 34, 3, (57, 0, 0, 0)), nn, nn, some (.iload_n 3, 1, (0, 0, 0, 0)), some (.ifCond .le 29, 3, (56, 0, 0, 0)), nn, nn, some (.aload_n 0, 1, (0, 0, 0, 0)), some (.iload_n 3, 1, (0, 0, 0, 0))],
 [some (.iconst 1, 1, (0, 0, 0, 0)), some (.isub, 1, (0, 0, 0, 0)), some (.invokevirtual 244, 3, (176, 2, 197, 0)), nn, nn, some (.ifCond .eq 19, 3, (56, 0, 0, 0)), nn, nn, some (.aload_n 0, 1, (0, 0, 0, 0)), some (.iload_n 3, 1, (0, 0, 0, 0)), some (.iconst 1, 1, (0, 0, 0, 0)), some (.isub, 1, (0, 0, 0, 0)), some (.invokevirtual 247, 3, (175, 2, 199, 0)), nn, nn, some (.ifCond .eq 9, 3, (56, 0, 0, 0))],
 [nn, nn, some (.iload_n 2, 1, (0, 0, 0, 0)), some (.iconst 1, 1, (0, 0, 0, 0)), some (.iadd, 1, (0, 0, 0, 0)), some (.goto 4, 3, (57, 0, 0, 0)), nn, nn, some (.iconst 1, 1, (0, 0, 0, 0)), some (.istore_n 2, 1, (0, 0, 0, 0)), some (.iload_n 2, 1, (0, 0, 0, 0)), some (.iload_n 1, 1, (0, 0, 0, 0)), some (.if_icmp .le 7, 3, (67, 0, 0, 0)), nn, nn, some (.iload_n 2, 1, (0, 0, 0, 0))],
 [some (.goto 4, 3, (68, 0, 0, 0)), nn, nn, some (.iload_n 1, 1, (0, 0, 0, 0)), some (.istore_n 1, 1, (0, 0, 0, 0)), some (.iinc 3 1, 3, (0, 0, 0, 0)), nn, nn, some (.goto (-66), 3, (6, 0, 0, 0)), nn, nn, some (.iload_n 1, 1, (0, 0, 0, 0)), some (.ireturn, 1, (0, 0, 0, 0))]]
def pX7_beam : List (List (Option En)) := [[some (.aload_n 0, 1, (0, 0, 0, 0)), some (.iload_n 1, 1, (0, 0, 0, 0)), some (.invokevirtual 182, 3, (130, 2, 171, 0)), nn, nn, some (.ifCond .ne 5, 3, (10, 0, 0, 0)), nn, nn, some (.iconst (-1), 1, (0, 0, 0, 0)), some (.ireturn, 1, (0, 0, 0, 0)), some (.iload_n 2, 1, (0, 0, 0, 0)), some (.i2l, 1, (0, 0, 0, 0)), some (.lconst 1, 1, (0, 0, 0, 0)), some (.ldc2_w 250, 3, (0, 0, 19, 300))],
 [some (.invokestatic 97, 3, (116, 3, 140, 1)), nn, nn, some (.ifCond .eq 15, 3, (34, 0, 0, 0)), nn, nn, some (.iload_n 3, 1, (0, 0, 0, 0)), some (.i2l, 1, (0, 0, 0, 0)), some (.lconst 0, 1, (0, 0, 0, 0)), some (.ldc2_w 252, 3, (0, 0, 20, 3000)), nn, nn, some (.invokestatic 97, 3, (116, 3, 140, 1)), nn, nn, some (.ifCond .ne 6, 3, (37, 0, 0, 0))],
 [nn, nn, some (.bipush (-2), 2, (0, 0, 0, 0)), nn, some (.ireturn, 1, (0, 0, 0, 0)), some (.aload_n 0, 1, (0, 0, 0, 0)), some (.getfield 254, 3, (7, 25, 87, 0)), nn, nn, some (.bipush 8, 2, (0, 0, 0, 0)), nn, some (.if_icmp .ne 6, 3, (49, 0, 0, 0)), nn, nn, some (.bipush (-4), 2, (0, 0, 0, 0))],
 [some (.ireturn, 1, (0, 0, 0, 0)), some (.aload_n 0, 1, (0, 0, 0, 0)), some (.getfield 60, 3, (7, 26, 88, 0)), nn, nn, some (.aload_n 0, 1, (0, 0, 0, 0)), some (.getfield 254, 3, (7, 25, 87, 0)), nn, nn, some (.iload_n 1, 1, (0, 0, 0, 0)), some (.iastore, 1, (0, 0, 0, 0)), some (.aload_n 0, 1, (0, 0, 0, 0)), some (.getfield 63, 3, (7, 27, 89, 0)), nn, nn, some (.aload_n 0, 1, (0, 0, 0, 0))],
 [some (.getfield 254, 3, (7, 25, 87, 0)), nn, nn, some (.iload 4, 2, (0, 0, 0, 0)), nn, some (.ifCond .eq 11, 3, (80, 0, 0, 0)), nn, nn, some (.iload_n 3, 1, (0, 0, 0, 0)), some (.iload_n 2, 1, (0, 0, 0, 0)), some (.iadd, 1, (0, 0, 0, 0)), some (.iconst 1, 1, (0, 0, 0, 0)), some (.isub, 1, (0, 0, 0, 0)), some (.goto 4, 3, (81, 0, 0, 0))],
 [some (.iload_n 3, 1, (0, 0, 0, 0)), some (.iastore, 1, (0, 0, 0, 0)), some (.aload_n 0, 1, (0, 0, 0, 0)), some (.dup, 1, (0, 0, 0, 0)), some (.getfield 254, 3, (7, 25, 87, 0)), nn, nn, some (.iconst 1, 1, (0, 0, 0, 0)), some (.iadd, 1, (0, 0, 0, 0)), some (.putfield 254, 3, (7, 25, 87, 0)), nn, nn, some (.aload_n 0, 1, (0, 0, 0, 0)), some (.getfield 63, 3, (7, 27, 89, 0))],
 [some (.aload_n 0, 1, (0, 0, 0, 0)), some (.getfield 254, 3, (7, 25, 87, 0)), nn, nn, some (.iconst 1, 1, (0, 0, 0, 0)), some (.isub, 1, (0, 0, 0, 0)), some (.iaload, 1, (0, 0, 0, 0)), some (.ireturn, 1, (0, 0, 0, 0))]]
def pX7_earliestOf : List (List (Option En)) := [[some (.bipush (-9), 2, (0, 0, 0, 0)), nn, some (.istore_n 2, 1, (0, 0, 0, 0)), some (.iconst 0, 1, (0, 0, 0, 0)), some (.istore_n 3, 1, (0, 0, 0, 0)), some (.iload_n 3, 1, (0, 0, 0, 0)), some (.aload_n 0, 1, (0, 0, 0, 0)), some (.getfield 254, 3, (7, 25, 87, 0)), nn, nn, some (.if_icmp .ge 40, 3, (50, 0, 0, 0)), nn, nn, some (.aload_n 0, 1, (0, 0, 0, 0)), some (.getfield 60, 3, (7, 26, 88, 0))],
 [nn, some (.iload_n 3, 1, (0, 0, 0, 0)), some (.iaload, 1, (0, 0, 0, 0)), some (.iload_n 1, 1, (0, 0, 0, 0)), some (.if_icmp .gt 22, 3, (42, 0, 0, 0)), nn, nn, some (.aload_n 0, 1, (0, 0, 0, 0)), some (.getfield 63, 3, (7, 27, 89, 0)), nn, nn, some (.iload_n 3, 1, (0, 0, 0, 0)), some (.iaload, 1, (0, 0, 0, 0)), some (.iload_n 2, 1, (0, 0, 0, 0)), some (.if_icmp .le 12, 3, (42, 0, 0, 0))],
 [nn, some (.aload_n 0, 1, (0, 0, 0, 0)), some (.getfield 63, 3, (7, 27, 89, 0)), nn, nn, some (.iload_n 3, 1, (0, 0, 0, 0)), some (.iaload, 1, (0, 0, 0, 0)), some (.goto 4, 3, (43, 0, 0, 0)), nn, nn, some (.iload_n 2, 1, (0, 0, 0, 0)), some (.istore_n 2, 1, (0, 0, 0, 0)), some (.iinc 3 1, 3, (0, 0, 0, 0)), nn, nn, some (.goto (-42), 3, (5, 0, 0, 0))],
 [nn, nn, some (.iload_n 2, 1, (0, 0, 0, 0)), some (.ireturn, 1, (0, 0, 0, 0))]]
def pX7_earliest : List (List (Option En)) := [[some (.aload_n 0, 1, (0, 0, 0, 0)), some (.iload_n 1, 1, (0, 0, 0, 0)), some (.invokevirtual 182, 3, (130, 2, 171, 0)), nn, nn, some (.ifCond .eq 11, 3, (16, 0, 0, 0)), nn, nn, some (.aload_n 0, 1, (0, 0, 0, 0)), some (.iload_n 1, 1, (0, 0, 0, 0)), some (.invokevirtual 257, 3, (180, 2, 204, 0)), nn, nn, some (.goto 4, 3, (17, 0, 0, 0))],
 [some (.iconst (-1), 1, (0, 0, 0, 0)), some (.ireturn, 1, (0, 0, 0, 0))]]
def pX7_tooOld : List (List (Option En)) := [[some (.iload_n 1, 1, (0, 0, 0, 0)), some (.i2l, 1, (0, 0, 0, 0)), some (.lconst 0, 1, (0, 0, 0, 0)), some (.aload_n 0, 1, (0, 0, 0, 0)), some (.getfield 254, 3, (7, 25, 87, 0)), nn, nn, some (.iconst 1, 1, (0, 0, 0, 0)), some (.isub, 1, (0, 0, 0, 0)), some (.i2l, 1, (0, 0, 0, 0)), some (.invokestatic 97, 3, (116, 3, 140, 1)), nn, nn, some (.ifCond .eq 23, 3, (36, 0, 0, 0))],
 [some (.aload_n 0, 1, (0, 0, 0, 0)), some (.aload_n 0, 1, (0, 0, 0, 0)), some (.getfield 60, 3, (7, 26, 88, 0)), nn, nn, some (.iload_n 1, 1, (0, 0, 0, 0)), some (.iaload, 1, (0, 0, 0, 0)), some (.invokevirtual 257, 3, (180, 2, 204, 0)), nn, nn, some (.aload_n 0, 1, (0, 0, 0, 0)), some (.getfield 63, 3, (7, 27, 89, 0)), nn, nn, some (.iload_n 1, 1, (0, 0, 0, 0)), some (.iaload, 1, (0, 0, 0, 0))],
 [some (.isub, 1, (0, 0, 0, 0)), some (.goto 4, 3, (37, 0, 0, 0)), nn, nn, some (.iconst (-1), 1, (0, 0, 0, 0)), some (.ireturn, 1, (0, 0, 0, 0))]]
def pX7_keep : List (List (Option En)) := [[some (.iload_n 1, 1, (0, 0, 0, 0)), some (.i2l, 1, (0, 0, 0, 0)), some (.lconst 0, 1, (0, 0, 0, 0)), some (.lconst 1, 1, (0, 0, 0, 0)), some (.invokestatic 97, 3, (116, 3, 140, 1)), nn, nn, some (.ifCond .ne 5, 3, (12, 0, 0, 0)), nn, nn, some (.iconst (-1), 1, (0, 0, 0, 0)), some (.ireturn, 1, (0, 0, 0, 0)), some (.aload_n 0, 1, (0, 0, 0, 0)), some (.getfield 66, 3, (7, 28, 90, 0))],
 [some (.iload_n 1, 1, (0, 0, 0, 0)), some (.iconst 1, 1, (0, 0, 0, 0)), some (.bastore, 1, (0, 0, 0, 0)), some (.aload_n 0, 1, (0, 0, 0, 0)), some (.getfield 69, 3, (7, 29, 91, 0)), nn, nn, some (.iconst 3, 1, (0, 0, 0, 0)), some (.iload_n 1, 1, (0, 0, 0, 0)), some (.imul, 1, (0, 0, 0, 0)), some (.aload_n 0, 1, (0, 0, 0, 0)), some (.getfield 140, 3, (7, 13, 75, 0)), nn, nn, some (.iastore, 1, (0, 0, 0, 0)), some (.aload_n 0, 1, (0, 0, 0, 0))],
 [some (.getfield 69, 3, (7, 29, 91, 0)), nn, nn, some (.iconst 3, 1, (0, 0, 0, 0)), some (.iload_n 1, 1, (0, 0, 0, 0)), some (.imul, 1, (0, 0, 0, 0)), some (.iconst 1, 1, (0, 0, 0, 0)), some (.iadd, 1, (0, 0, 0, 0)), some (.aload_n 0, 1, (0, 0, 0, 0)), some (.getfield 235, 3, (7, 22, 84, 0)), nn, nn, some (.iastore, 1, (0, 0, 0, 0)), some (.aload_n 0, 1, (0, 0, 0, 0)), some (.getfield 69, 3, (7, 29, 91, 0))],
 [nn, some (.iconst 3, 1, (0, 0, 0, 0)), some (.iload_n 1, 1, (0, 0, 0, 0)), some (.imul, 1, (0, 0, 0, 0)), some (.iconst 2, 1, (0, 0, 0, 0)), some (.iadd, 1, (0, 0, 0, 0)), some (.aload_n 0, 1, (0, 0, 0, 0)), some (.getfield 254, 3, (7, 25, 87, 0)), nn, nn, some (.iastore, 1, (0, 0, 0, 0)), some (.iconst 0, 1, (0, 0, 0, 0)), some (.istore_n 2, 1, (0, 0, 0, 0)), some (.iload_n 2, 1, (0, 0, 0, 0)), some (.bipush 42, 2, (0, 0, 0, 0))],
 [some (.if_icmp .ge 26, 3, (90, 0, 0, 0)), nn, nn, some (.aload_n 0, 1, (0, 0, 0, 0)), some (.getfield 72, 3, (7, 30, 92, 0)), nn, nn, some (.bipush 42, 2, (0, 0, 0, 0)), nn, some (.iload_n 1, 1, (0, 0, 0, 0)), some (.imul, 1, (0, 0, 0, 0)), some (.iload_n 2, 1, (0, 0, 0, 0)), some (.iadd, 1, (0, 0, 0, 0)), some (.aload_n 0, 1, (0, 0, 0, 0)), some (.getfield 35, 3, (7, 14, 76, 0))],
 [nn, some (.iload_n 2, 1, (0, 0, 0, 0)), some (.iaload, 1, (0, 0, 0, 0)), some (.iastore, 1, (0, 0, 0, 0)), some (.iinc 2 1, 3, (0, 0, 0, 0)), nn, nn, some (.goto (-26), 3, (61, 0, 0, 0)), nn, nn, some (.iconst 0, 1, (0, 0, 0, 0)), some (.istore_n 2, 1, (0, 0, 0, 0)), some (.iload_n 2, 1, (0, 0, 0, 0)), some (.bipush 16, 2, (0, 0, 0, 0)), nn, some (.if_icmp .ge 43, 3, (138, 0, 0, 0))],
 [nn, nn, some (.aload_n 0, 1, (0, 0, 0, 0)), some (.getfield 75, 3, (7, 31, 93, 0)), nn, nn, some (.bipush 16, 2, (0, 0, 0, 0)), nn, some (.iload_n 1, 1, (0, 0, 0, 0)), some (.imul, 1, (0, 0, 0, 0)), some (.iload_n 2, 1, (0, 0, 0, 0)), some (.iadd, 1, (0, 0, 0, 0)), some (.aload_n 0, 1, (0, 0, 0, 0)), some (.getfield 54, 3, (7, 23, 85, 0))],
 [some (.iload_n 2, 1, (0, 0, 0, 0)), some (.iaload, 1, (0, 0, 0, 0)), some (.iastore, 1, (0, 0, 0, 0)), some (.aload_n 0, 1, (0, 0, 0, 0)), some (.getfield 78, 3, (7, 32, 94, 0)), nn, nn, some (.bipush 16, 2, (0, 0, 0, 0)), nn, some (.iload_n 1, 1, (0, 0, 0, 0)), some (.imul, 1, (0, 0, 0, 0)), some (.iload_n 2, 1, (0, 0, 0, 0)), some (.iadd, 1, (0, 0, 0, 0)), some (.aload_n 0, 1, (0, 0, 0, 0)), some (.getfield 57, 3, (7, 24, 86, 0))],
 [nn, some (.iload_n 2, 1, (0, 0, 0, 0)), some (.iaload, 1, (0, 0, 0, 0)), some (.iastore, 1, (0, 0, 0, 0)), some (.iinc 2 1, 3, (0, 0, 0, 0)), nn, nn, some (.goto (-43), 3, (92, 0, 0, 0)), nn, nn, some (.iconst 0, 1, (0, 0, 0, 0)), some (.istore_n 2, 1, (0, 0, 0, 0)), some (.iload_n 2, 1, (0, 0, 0, 0)), some (.bipush 8, 2, (0, 0, 0, 0)), nn, some (.if_icmp .ge 43, 3, (186, 0, 0, 0))],
 [nn, nn, some (.aload_n 0, 1, (0, 0, 0, 0)), some (.getfield 81, 3, (7, 33, 95, 0)), nn, nn, some (.bipush 8, 2, (0, 0, 0, 0)), nn, some (.iload_n 1, 1, (0, 0, 0, 0)), some (.imul, 1, (0, 0, 0, 0)), some (.iload_n 2, 1, (0, 0, 0, 0)), some (.iadd, 1, (0, 0, 0, 0)), some (.aload_n 0, 1, (0, 0, 0, 0)), some (.getfield 60, 3, (7, 26, 88, 0))],
 [some (.iload_n 2, 1, (0, 0, 0, 0)), some (.iaload, 1, (0, 0, 0, 0)), some (.iastore, 1, (0, 0, 0, 0)), some (.aload_n 0, 1, (0, 0, 0, 0)), some (.getfield 84, 3, (7, 34, 96, 0)), nn, nn, some (.bipush 8, 2, (0, 0, 0, 0)), nn, some (.iload_n 1, 1, (0, 0, 0, 0)), some (.imul, 1, (0, 0, 0, 0)), some (.iload_n 2, 1, (0, 0, 0, 0)), some (.iadd, 1, (0, 0, 0, 0)), some (.aload_n 0, 1, (0, 0, 0, 0)), some (.getfield 63, 3, (7, 27, 89, 0))],
 [nn, some (.iload_n 2, 1, (0, 0, 0, 0)), some (.iaload, 1, (0, 0, 0, 0)), some (.iastore, 1, (0, 0, 0, 0)), some (.iinc 2 1, 3, (0, 0, 0, 0)), nn, nn, some (.goto (-43), 3, (140, 0, 0, 0)), nn, nn, some (.aload_n 0, 1, (0, 0, 0, 0)), some (.getfield 140, 3, (7, 13, 75, 0)), nn, nn, some (.ireturn, 1, (0, 0, 0, 0))]]
def pX7_again : List (List (Option En)) := [[some (.iload_n 1, 1, (0, 0, 0, 0)), some (.i2l, 1, (0, 0, 0, 0)), some (.lconst 0, 1, (0, 0, 0, 0)), some (.lconst 1, 1, (0, 0, 0, 0)), some (.invokestatic 97, 3, (116, 3, 140, 1)), nn, nn, some (.ifCond .ne 5, 3, (12, 0, 0, 0)), nn, nn, some (.iconst (-1), 1, (0, 0, 0, 0)), some (.ireturn, 1, (0, 0, 0, 0)), some (.aload_n 0, 1, (0, 0, 0, 0)), some (.getfield 66, 3, (7, 28, 90, 0))],
 [some (.iload_n 1, 1, (0, 0, 0, 0)), some (.baload, 1, (0, 0, 0, 0)), some (.ifCond .ne 6, 3, (24, 0, 0, 0)), nn, nn, some (.bipush (-3), 2, (0, 0, 0, 0)), nn, some (.ireturn, 1, (0, 0, 0, 0)), some (.aload_n 0, 1, (0, 0, 0, 0)), some (.aload_n 0, 1, (0, 0, 0, 0)), some (.getfield 69, 3, (7, 29, 91, 0)), nn, nn, some (.iconst 3, 1, (0, 0, 0, 0)), some (.iload_n 1, 1, (0, 0, 0, 0)), some (.imul, 1, (0, 0, 0, 0))],
 [some (.iaload, 1, (0, 0, 0, 0)), some (.putfield 140, 3, (7, 13, 75, 0)), nn, nn, some (.aload_n 0, 1, (0, 0, 0, 0)), some (.aload_n 0, 1, (0, 0, 0, 0)), some (.getfield 69, 3, (7, 29, 91, 0)), nn, nn, some (.iconst 3, 1, (0, 0, 0, 0)), some (.iload_n 1, 1, (0, 0, 0, 0)), some (.imul, 1, (0, 0, 0, 0)), some (.iconst 1, 1, (0, 0, 0, 0)), some (.iadd, 1, (0, 0, 0, 0)), some (.iaload, 1, (0, 0, 0, 0)), some (.putfield 235, 3, (7, 22, 84, 0))],
 [nn, nn, some (.aload_n 0, 1, (0, 0, 0, 0)), some (.aload_n 0, 1, (0, 0, 0, 0)), some (.getfield 69, 3, (7, 29, 91, 0)), nn, nn, some (.iconst 3, 1, (0, 0, 0, 0)), some (.iload_n 1, 1, (0, 0, 0, 0)), some (.imul, 1, (0, 0, 0, 0)), some (.iconst 2, 1, (0, 0, 0, 0)), some (.iadd, 1, (0, 0, 0, 0)), some (.iaload, 1, (0, 0, 0, 0)), some (.putfield 254, 3, (7, 25, 87, 0))],
 [some (.iconst 0, 1, (0, 0, 0, 0)), some (.istore_n 2, 1, (0, 0, 0, 0)), some (.iload_n 2, 1, (0, 0, 0, 0)), some (.bipush 42, 2, (0, 0, 0, 0)), nn, some (.if_icmp .ge 26, 3, (95, 0, 0, 0)), nn, nn, some (.aload_n 0, 1, (0, 0, 0, 0)), some (.getfield 35, 3, (7, 14, 76, 0)), nn, nn, some (.iload_n 2, 1, (0, 0, 0, 0)), some (.aload_n 0, 1, (0, 0, 0, 0)), some (.getfield 72, 3, (7, 30, 92, 0))],
 [nn, some (.bipush 42, 2, (0, 0, 0, 0)), nn, some (.iload_n 1, 1, (0, 0, 0, 0)), some (.imul, 1, (0, 0, 0, 0)), some (.iload_n 2, 1, (0, 0, 0, 0)), some (.iadd, 1, (0, 0, 0, 0)), some (.iaload, 1, (0, 0, 0, 0)), some (.iastore, 1, (0, 0, 0, 0)), some (.iinc 2 1, 3, (0, 0, 0, 0)), nn, nn, some (.goto (-26), 3, (66, 0, 0, 0)), nn, nn, some (.iconst 0, 1, (0, 0, 0, 0))],
 [some (.istore_n 2, 1, (0, 0, 0, 0)), some (.iload_n 2, 1, (0, 0, 0, 0)), some (.bipush 16, 2, (0, 0, 0, 0)), nn, some (.if_icmp .ge 43, 3, (143, 0, 0, 0)), nn, nn, some (.aload_n 0, 1, (0, 0, 0, 0)), some (.getfield 54, 3, (7, 23, 85, 0)), nn, nn, some (.iload_n 2, 1, (0, 0, 0, 0)), some (.aload_n 0, 1, (0, 0, 0, 0)), some (.getfield 75, 3, (7, 31, 93, 0))],
 [some (.bipush 16, 2, (0, 0, 0, 0)), nn, some (.iload_n 1, 1, (0, 0, 0, 0)), some (.imul, 1, (0, 0, 0, 0)), some (.iload_n 2, 1, (0, 0, 0, 0)), some (.iadd, 1, (0, 0, 0, 0)), some (.iaload, 1, (0, 0, 0, 0)), some (.iastore, 1, (0, 0, 0, 0)), some (.aload_n 0, 1, (0, 0, 0, 0)), some (.getfield 57, 3, (7, 24, 86, 0)), nn, nn, some (.iload_n 2, 1, (0, 0, 0, 0)), some (.aload_n 0, 1, (0, 0, 0, 0)), some (.getfield 78, 3, (7, 32, 94, 0))],
 [nn, some (.bipush 16, 2, (0, 0, 0, 0)), nn, some (.iload_n 1, 1, (0, 0, 0, 0)), some (.imul, 1, (0, 0, 0, 0)), some (.iload_n 2, 1, (0, 0, 0, 0)), some (.iadd, 1, (0, 0, 0, 0)), some (.iaload, 1, (0, 0, 0, 0)), some (.iastore, 1, (0, 0, 0, 0)), some (.iinc 2 1, 3, (0, 0, 0, 0)), nn, nn, some (.goto (-43), 3, (97, 0, 0, 0)), nn, nn, some (.iconst 0, 1, (0, 0, 0, 0))],
 [some (.istore_n 2, 1, (0, 0, 0, 0)), some (.iload_n 2, 1, (0, 0, 0, 0)), some (.bipush 8, 2, (0, 0, 0, 0)), nn, some (.if_icmp .ge 43, 3, (191, 0, 0, 0)), nn, nn, some (.aload_n 0, 1, (0, 0, 0, 0)), some (.getfield 60, 3, (7, 26, 88, 0)), nn, nn, some (.iload_n 2, 1, (0, 0, 0, 0)), some (.aload_n 0, 1, (0, 0, 0, 0)), some (.getfield 81, 3, (7, 33, 95, 0))],
 [some (.bipush 8, 2, (0, 0, 0, 0)), nn, some (.iload_n 1, 1, (0, 0, 0, 0)), some (.imul, 1, (0, 0, 0, 0)), some (.iload_n 2, 1, (0, 0, 0, 0)), some (.iadd, 1, (0, 0, 0, 0)), some (.iaload, 1, (0, 0, 0, 0)), some (.iastore, 1, (0, 0, 0, 0)), some (.aload_n 0, 1, (0, 0, 0, 0)), some (.getfield 63, 3, (7, 27, 89, 0)), nn, nn, some (.iload_n 2, 1, (0, 0, 0, 0)), some (.aload_n 0, 1, (0, 0, 0, 0)), some (.getfield 84, 3, (7, 34, 96, 0))],
 [nn, some (.bipush 8, 2, (0, 0, 0, 0)), nn, some (.iload_n 1, 1, (0, 0, 0, 0)), some (.imul, 1, (0, 0, 0, 0)), some (.iload_n 2, 1, (0, 0, 0, 0)), some (.iadd, 1, (0, 0, 0, 0)), some (.iaload, 1, (0, 0, 0, 0)), some (.iastore, 1, (0, 0, 0, 0)), some (.iinc 2 1, 3, (0, 0, 0, 0)), nn, nn, some (.goto (-43), 3, (145, 0, 0, 0)), nn, nn, some (.aload_n 0, 1, (0, 0, 0, 0))],
 [some (.getfield 140, 3, (7, 13, 75, 0)), nn, nn, some (.ireturn, 1, (0, 0, 0, 0))]]
def pX7_all : List (List (Option En)) := [[some (.iconst 0, 1, (0, 0, 0, 0)), some (.istore_n 2, 1, (0, 0, 0, 0)), some (.iconst 0, 1, (0, 0, 0, 0)), some (.istore_n 3, 1, (0, 0, 0, 0)), some (.iload_n 3, 1, (0, 0, 0, 0)), some (.bipush 24, 2, (0, 0, 0, 0)), nn, some (.if_icmp .ge 18, 3, (25, 0, 0, 0)), nn, nn, some (.iload_n 2, 1, (0, 0, 0, 0)), some (.aload_n 0, 1, (0, 0, 0, 0)), some (.getfield 13, 3, (7, 1, 63, 0)), nn, nn, some (.iload_n 3, 1, (0, 0, 0, 0))],
 [some (.iaload, 1, (0, 0, 0, 0)), some (.iadd, 1, (0, 0, 0, 0)), some (.istore_n 2, 1, (0, 0, 0, 0)), some (.iinc 3 1, 3, (0, 0, 0, 0)), nn, nn, some (.goto (-18), 3, (4, 0, 0, 0)), nn, nn, some (.iload_n 1, 1, (0, 0, 0, 0)), some (.tableswitch 65 0 5 #[38, 43, 48, 53, 58, 63], 38, (0, 0, 0, 0))],
 [],
 [],
 [some (.aload_n 0, 1, (0, 0, 0, 0)), some (.getfield 103, 3, (7, 3, 65, 0)), nn, nn, some (.ireturn, 1, (0, 0, 0, 0)), some (.aload_n 0, 1, (0, 0, 0, 0)), some (.getfield 140, 3, (7, 13, 75, 0)), nn, nn, some (.ireturn, 1, (0, 0, 0, 0)), some (.aload_n 0, 1, (0, 0, 0, 0)), some (.getfield 189, 3, (7, 15, 77, 0)), nn, nn, some (.ireturn, 1, (0, 0, 0, 0)), some (.aload_n 0, 1, (0, 0, 0, 0))],
 [some (.getfield 235, 3, (7, 22, 84, 0)), nn, nn, some (.ireturn, 1, (0, 0, 0, 0)), some (.aload_n 0, 1, (0, 0, 0, 0)), some (.getfield 254, 3, (7, 25, 87, 0)), nn, nn, some (.ireturn, 1, (0, 0, 0, 0)), some (.iload_n 2, 1, (0, 0, 0, 0)), some (.ireturn, 1, (0, 0, 0, 0)), some (.bipush (-2), 2, (0, 0, 0, 0)), nn, some (.ireturn, 1, (0, 0, 0, 0))]]
def pL_law : List (List (Option En)) := [[some (.new 7, 3, (6, 8, 0, 0)), nn, nn, some (.dup, 1, (0, 0, 0, 0)), some (.invokespecial 9, 3, (56, 1, 0, 2)), nn, nn, some (.astore_n 1, 1, (0, 0, 0, 0)), some (.new 10, 3, (7, 35, 8, 0)), nn, nn, some (.dup, 1, (0, 0, 0, 0)), some (.invokespecial 12, 3, (115, 1, 137, 2)), nn, nn, some (.astore_n 2, 1, (0, 0, 0, 0))],
 [some (.iconst 0, 1, (0, 0, 0, 0)), some (.istore_n 3, 1, (0, 0, 0, 0)), some (.iload_n 3, 1, (0, 0, 0, 0)), some (.aload_n 0, 1, (0, 0, 0, 0)), some (.arraylength, 1, (0, 0, 0, 0)), some (.bipush 6, 2, (0, 0, 0, 0)), nn, some (.isub, 1, (0, 0, 0, 0)), some (.if_icmp .gt 1383, 3, (1407, 0, 0, 0)), nn, nn, some (.aload_n 0, 1, (0, 0, 0, 0)), some (.iload_n 3, 1, (0, 0, 0, 0)), some (.iaload, 1, (0, 0, 0, 0)), some (.bipush 63, 2, (0, 0, 0, 0))],
 [some (.iand, 1, (0, 0, 0, 0)), some (.tableswitch 1368 0 36 #[163, 226, 239, 252, 265, 298, 331, 354, 417, 450, 493, 536, 559, 582, 595, 638, 671, 694, 707, 730, 763, 796, 856, 916, 976, 999, 1049, 1092, 1105, 1148, 1171, 1184, 1253, 1276, 1299, 1322, 1345], 163, (0, 0, 0, 0))],
 [],
 [],
 [],
 [],
 [],
 [],
 [],
 [],
 [],
 [nn, nn, nn, nn, some (.aload_n 1, 1, (0, 0, 0, 0)), some (.aload_n 0, 1, (0, 0, 0, 0)), some (.iload_n 3, 1, (0, 0, 0, 0)), some (.iconst 1, 1, (0, 0, 0, 0)), some (.iadd, 1, (0, 0, 0, 0)), some (.iaload, 1, (0, 0, 0, 0)), some (.aload_n 0, 1, (0, 0, 0, 0)), some (.iload_n 3, 1, (0, 0, 0, 0)), some (.iconst 2, 1, (0, 0, 0, 0)), some (.iadd, 1, (0, 0, 0, 0)), some (.iaload, 1, (0, 0, 0, 0)), some (.i2l, 1, (0, 0, 0, 0))],
 [some (.bipush 32, 2, (0, 0, 0, 0)), nn, some (.lshl, 1, (0, 0, 0, 0)), some (.aload_n 0, 1, (0, 0, 0, 0)), some (.iload_n 3, 1, (0, 0, 0, 0)), some (.iconst 3, 1, (0, 0, 0, 0)), some (.iadd, 1, (0, 0, 0, 0)), some (.iaload, 1, (0, 0, 0, 0)), some (.i2l, 1, (0, 0, 0, 0)), some (.ldc2_w 13, 3, (0, 0, 21, 4294967295)), nn, nn, some (.land, 1, (0, 0, 0, 0)), some (.lor, 1, (0, 0, 0, 0)), some (.invokevirtual 15, 3, (57, 3, 16, 0))],
 [nn, some (.aload_n 2, 1, (0, 0, 0, 0)), some (.aload_n 0, 1, (0, 0, 0, 0)), some (.iload_n 3, 1, (0, 0, 0, 0)), some (.iconst 1, 1, (0, 0, 0, 0)), some (.iadd, 1, (0, 0, 0, 0)), some (.iaload, 1, (0, 0, 0, 0)), some (.aload_n 0, 1, (0, 0, 0, 0)), some (.iload_n 3, 1, (0, 0, 0, 0)), some (.iconst 2, 1, (0, 0, 0, 0)), some (.iadd, 1, (0, 0, 0, 0)), some (.iaload, 1, (0, 0, 0, 0)), some (.i2l, 1, (0, 0, 0, 0)), some (.bipush 32, 2, (0, 0, 0, 0)), nn, some (.lshl, 1, (0, 0, 0, 0))],
 [some (.aload_n 0, 1, (0, 0, 0, 0)), some (.iload_n 3, 1, (0, 0, 0, 0)), some (.iconst 3, 1, (0, 0, 0, 0)), some (.iadd, 1, (0, 0, 0, 0)), some (.iaload, 1, (0, 0, 0, 0)), some (.i2l, 1, (0, 0, 0, 0)), some (.ldc2_w 13, 3, (0, 0, 21, 4294967295)), nn, nn, some (.land, 1, (0, 0, 0, 0)), some (.lor, 1, (0, 0, 0, 0)), some (.invokevirtual 19, 3, (119, 3, 142, 0)), nn, nn, some (.if_icmp .eq 1147, 3, (1401, 0, 0, 0))],
 [nn, some (.iconst 0, 1, (0, 0, 0, 0)), some (.ireturn, 1, (0, 0, 0, 0)), some (.aload_n 1, 1, (0, 0, 0, 0)), some (.invokevirtual 20, 3, (58, 1, 18, 0)), nn, nn, some (.aload_n 2, 1, (0, 0, 0, 0)), some (.invokevirtual 24, 3, (120, 1, 143, 0)), nn, nn, some (.if_icmp .eq 1134, 3, (1401, 0, 0, 0)), nn, nn, some (.iconst 0, 1, (0, 0, 0, 0)), some (.ireturn, 1, (0, 0, 0, 0))],
 [some (.aload_n 1, 1, (0, 0, 0, 0)), some (.invokevirtual 25, 3, (59, 1, 19, 0)), nn, nn, some (.aload_n 2, 1, (0, 0, 0, 0)), some (.invokevirtual 28, 3, (125, 1, 144, 0)), nn, nn, some (.if_icmp .eq 1121, 3, (1401, 0, 0, 0)), nn, nn, some (.iconst 0, 1, (0, 0, 0, 0)), some (.ireturn, 1, (0, 0, 0, 0)), some (.aload_n 1, 1, (0, 0, 0, 0)), some (.invokevirtual 29, 3, (60, 1, 32, 0))],
 [nn, some (.aload_n 2, 1, (0, 0, 0, 0)), some (.invokevirtual 32, 3, (126, 1, 149, 0)), nn, nn, some (.if_icmp .eq 1108, 3, (1401, 0, 0, 0)), nn, nn, some (.iconst 0, 1, (0, 0, 0, 0)), some (.ireturn, 1, (0, 0, 0, 0)), some (.aload_n 1, 1, (0, 0, 0, 0)), some (.aload_n 0, 1, (0, 0, 0, 0)), some (.iload_n 3, 1, (0, 0, 0, 0)), some (.iconst 1, 1, (0, 0, 0, 0)), some (.iadd, 1, (0, 0, 0, 0)), some (.iaload, 1, (0, 0, 0, 0))],
 [some (.aload_n 0, 1, (0, 0, 0, 0)), some (.iload_n 3, 1, (0, 0, 0, 0)), some (.iconst 2, 1, (0, 0, 0, 0)), some (.iadd, 1, (0, 0, 0, 0)), some (.iaload, 1, (0, 0, 0, 0)), some (.invokevirtual 33, 3, (61, 3, 50, 0)), nn, nn, some (.aload_n 2, 1, (0, 0, 0, 0)), some (.aload_n 0, 1, (0, 0, 0, 0)), some (.iload_n 3, 1, (0, 0, 0, 0)), some (.iconst 1, 1, (0, 0, 0, 0)), some (.iadd, 1, (0, 0, 0, 0)), some (.iaload, 1, (0, 0, 0, 0)), some (.aload_n 0, 1, (0, 0, 0, 0)), some (.iload_n 3, 1, (0, 0, 0, 0))],
 [some (.iconst 2, 1, (0, 0, 0, 0)), some (.iadd, 1, (0, 0, 0, 0)), some (.iaload, 1, (0, 0, 0, 0)), some (.invokevirtual 37, 3, (131, 3, 150, 0)), nn, nn, some (.if_icmp .eq 1075, 3, (1401, 0, 0, 0)), nn, nn, some (.iconst 0, 1, (0, 0, 0, 0)), some (.ireturn, 1, (0, 0, 0, 0)), some (.aload_n 1, 1, (0, 0, 0, 0)), some (.aload_n 0, 1, (0, 0, 0, 0)), some (.iload_n 3, 1, (0, 0, 0, 0)), some (.iconst 1, 1, (0, 0, 0, 0)), some (.iadd, 1, (0, 0, 0, 0))],
 [some (.iaload, 1, (0, 0, 0, 0)), some (.aload_n 0, 1, (0, 0, 0, 0)), some (.iload_n 3, 1, (0, 0, 0, 0)), some (.iconst 2, 1, (0, 0, 0, 0)), some (.iadd, 1, (0, 0, 0, 0)), some (.iaload, 1, (0, 0, 0, 0)), some (.invokevirtual 38, 3, (62, 3, 54, 0)), nn, nn, some (.aload_n 2, 1, (0, 0, 0, 0)), some (.aload_n 0, 1, (0, 0, 0, 0)), some (.iload_n 3, 1, (0, 0, 0, 0)), some (.iconst 1, 1, (0, 0, 0, 0)), some (.iadd, 1, (0, 0, 0, 0)), some (.iaload, 1, (0, 0, 0, 0)), some (.aload_n 0, 1, (0, 0, 0, 0))],
 [some (.iload_n 3, 1, (0, 0, 0, 0)), some (.iconst 2, 1, (0, 0, 0, 0)), some (.iadd, 1, (0, 0, 0, 0)), some (.iaload, 1, (0, 0, 0, 0)), some (.invokevirtual 41, 3, (132, 3, 153, 0)), nn, nn, some (.if_icmp .eq 1042, 3, (1401, 0, 0, 0)), nn, nn, some (.iconst 0, 1, (0, 0, 0, 0)), some (.ireturn, 1, (0, 0, 0, 0)), some (.aload_n 1, 1, (0, 0, 0, 0)), some (.aload_n 0, 1, (0, 0, 0, 0)), some (.iload_n 3, 1, (0, 0, 0, 0)), some (.iconst 1, 1, (0, 0, 0, 0))],
 [some (.iadd, 1, (0, 0, 0, 0)), some (.iaload, 1, (0, 0, 0, 0)), some (.invokevirtual 42, 3, (63, 2, 58, 0)), nn, nn, some (.aload_n 2, 1, (0, 0, 0, 0)), some (.aload_n 0, 1, (0, 0, 0, 0)), some (.iload_n 3, 1, (0, 0, 0, 0)), some (.iconst 1, 1, (0, 0, 0, 0)), some (.iadd, 1, (0, 0, 0, 0)), some (.iaload, 1, (0, 0, 0, 0)), some (.invokevirtual 46, 3, (133, 2, 154, 0)), nn, nn, some (.if_icmp .eq 1019, 3, (1401, 0, 0, 0))],
 [nn, some (.iconst 0, 1, (0, 0, 0, 0)), some (.ireturn, 1, (0, 0, 0, 0)), some (.aload_n 1, 1, (0, 0, 0, 0)), some (.aload_n 0, 1, (0, 0, 0, 0)), some (.iload_n 3, 1, (0, 0, 0, 0)), some (.iconst 1, 1, (0, 0, 0, 0)), some (.iadd, 1, (0, 0, 0, 0)), some (.iaload, 1, (0, 0, 0, 0)), some (.aload_n 0, 1, (0, 0, 0, 0)), some (.iload_n 3, 1, (0, 0, 0, 0)), some (.iconst 2, 1, (0, 0, 0, 0)), some (.iadd, 1, (0, 0, 0, 0)), some (.iaload, 1, (0, 0, 0, 0)), some (.aload_n 0, 1, (0, 0, 0, 0)), some (.iload_n 3, 1, (0, 0, 0, 0))],
 [some (.iconst 3, 1, (0, 0, 0, 0)), some (.iadd, 1, (0, 0, 0, 0)), some (.iaload, 1, (0, 0, 0, 0)), some (.aload_n 0, 1, (0, 0, 0, 0)), some (.iload_n 3, 1, (0, 0, 0, 0)), some (.iconst 4, 1, (0, 0, 0, 0)), some (.iadd, 1, (0, 0, 0, 0)), some (.iaload, 1, (0, 0, 0, 0)), some (.aload_n 0, 1, (0, 0, 0, 0)), some (.iload_n 3, 1, (0, 0, 0, 0)), some (.iconst 5, 1, (0, 0, 0, 0)), some (.iadd, 1, (0, 0, 0, 0)), some (.iaload, 1, (0, 0, 0, 0)), some (.invokevirtual 47, 3, (64, 6, 60, 0))],
 [some (.aload_n 2, 1, (0, 0, 0, 0)), some (.aload_n 0, 1, (0, 0, 0, 0)), some (.iload_n 3, 1, (0, 0, 0, 0)), some (.iconst 1, 1, (0, 0, 0, 0)), some (.iadd, 1, (0, 0, 0, 0)), some (.iaload, 1, (0, 0, 0, 0)), some (.aload_n 0, 1, (0, 0, 0, 0)), some (.iload_n 3, 1, (0, 0, 0, 0)), some (.iconst 2, 1, (0, 0, 0, 0)), some (.iadd, 1, (0, 0, 0, 0)), some (.iaload, 1, (0, 0, 0, 0)), some (.aload_n 0, 1, (0, 0, 0, 0)), some (.iload_n 3, 1, (0, 0, 0, 0)), some (.iconst 3, 1, (0, 0, 0, 0)), some (.iadd, 1, (0, 0, 0, 0)), some (.iaload, 1, (0, 0, 0, 0))],
 [some (.aload_n 0, 1, (0, 0, 0, 0)), some (.iload_n 3, 1, (0, 0, 0, 0)), some (.iconst 4, 1, (0, 0, 0, 0)), some (.iadd, 1, (0, 0, 0, 0)), some (.iaload, 1, (0, 0, 0, 0)), some (.aload_n 0, 1, (0, 0, 0, 0)), some (.iload_n 3, 1, (0, 0, 0, 0)), some (.iconst 5, 1, (0, 0, 0, 0)), some (.iadd, 1, (0, 0, 0, 0)), some (.iaload, 1, (0, 0, 0, 0)), some (.invokevirtual 51, 3, (134, 6, 155, 0)), nn, nn, some (.if_icmp .eq 956, 3, (1401, 0, 0, 0))],
 [some (.iconst 0, 1, (0, 0, 0, 0)), some (.ireturn, 1, (0, 0, 0, 0)), some (.aload_n 1, 1, (0, 0, 0, 0)), some (.aload_n 0, 1, (0, 0, 0, 0)), some (.iload_n 3, 1, (0, 0, 0, 0)), some (.iconst 1, 1, (0, 0, 0, 0)), some (.iadd, 1, (0, 0, 0, 0)), some (.iaload, 1, (0, 0, 0, 0)), some (.aload_n 0, 1, (0, 0, 0, 0)), some (.iload_n 3, 1, (0, 0, 0, 0)), some (.iconst 2, 1, (0, 0, 0, 0)), some (.iadd, 1, (0, 0, 0, 0)), some (.iaload, 1, (0, 0, 0, 0)), some (.invokevirtual 52, 3, (65, 3, 64, 0))],
 [some (.aload_n 2, 1, (0, 0, 0, 0)), some (.aload_n 0, 1, (0, 0, 0, 0)), some (.iload_n 3, 1, (0, 0, 0, 0)), some (.iconst 1, 1, (0, 0, 0, 0)), some (.iadd, 1, (0, 0, 0, 0)), some (.iaload, 1, (0, 0, 0, 0)), some (.aload_n 0, 1, (0, 0, 0, 0)), some (.iload_n 3, 1, (0, 0, 0, 0)), some (.iconst 2, 1, (0, 0, 0, 0)), some (.iadd, 1, (0, 0, 0, 0)), some (.iaload, 1, (0, 0, 0, 0)), some (.invokevirtual 55, 3, (135, 3, 157, 0)), nn, nn, some (.if_icmp .eq 923, 3, (1401, 0, 0, 0))],
 [nn, some (.iconst 0, 1, (0, 0, 0, 0)), some (.ireturn, 1, (0, 0, 0, 0)), some (.aload_n 1, 1, (0, 0, 0, 0)), some (.aload_n 0, 1, (0, 0, 0, 0)), some (.iload_n 3, 1, (0, 0, 0, 0)), some (.iconst 1, 1, (0, 0, 0, 0)), some (.iadd, 1, (0, 0, 0, 0)), some (.iaload, 1, (0, 0, 0, 0)), some (.aload_n 0, 1, (0, 0, 0, 0)), some (.iload_n 3, 1, (0, 0, 0, 0)), some (.iconst 2, 1, (0, 0, 0, 0)), some (.iadd, 1, (0, 0, 0, 0)), some (.iaload, 1, (0, 0, 0, 0)), some (.aload_n 0, 1, (0, 0, 0, 0)), some (.iload_n 3, 1, (0, 0, 0, 0))],
 [some (.iconst 3, 1, (0, 0, 0, 0)), some (.iadd, 1, (0, 0, 0, 0)), some (.iaload, 1, (0, 0, 0, 0)), some (.invokevirtual 56, 3, (66, 4, 65, 0)), nn, nn, some (.aload_n 2, 1, (0, 0, 0, 0)), some (.aload_n 0, 1, (0, 0, 0, 0)), some (.iload_n 3, 1, (0, 0, 0, 0)), some (.iconst 1, 1, (0, 0, 0, 0)), some (.iadd, 1, (0, 0, 0, 0)), some (.iaload, 1, (0, 0, 0, 0)), some (.aload_n 0, 1, (0, 0, 0, 0)), some (.iload_n 3, 1, (0, 0, 0, 0)), some (.iconst 2, 1, (0, 0, 0, 0)), some (.iadd, 1, (0, 0, 0, 0))],
 [some (.iaload, 1, (0, 0, 0, 0)), some (.aload_n 0, 1, (0, 0, 0, 0)), some (.iload_n 3, 1, (0, 0, 0, 0)), some (.iconst 3, 1, (0, 0, 0, 0)), some (.iadd, 1, (0, 0, 0, 0)), some (.iaload, 1, (0, 0, 0, 0)), some (.invokevirtual 60, 3, (141, 4, 158, 0)), nn, nn, some (.if_icmp .eq 880, 3, (1401, 0, 0, 0)), nn, nn, some (.iconst 0, 1, (0, 0, 0, 0)), some (.ireturn, 1, (0, 0, 0, 0)), some (.aload_n 1, 1, (0, 0, 0, 0)), some (.aload_n 0, 1, (0, 0, 0, 0))],
 [some (.iload_n 3, 1, (0, 0, 0, 0)), some (.iconst 1, 1, (0, 0, 0, 0)), some (.iadd, 1, (0, 0, 0, 0)), some (.iaload, 1, (0, 0, 0, 0)), some (.aload_n 0, 1, (0, 0, 0, 0)), some (.iload_n 3, 1, (0, 0, 0, 0)), some (.iconst 2, 1, (0, 0, 0, 0)), some (.iadd, 1, (0, 0, 0, 0)), some (.iaload, 1, (0, 0, 0, 0)), some (.aload_n 0, 1, (0, 0, 0, 0)), some (.iload_n 3, 1, (0, 0, 0, 0)), some (.iconst 3, 1, (0, 0, 0, 0)), some (.iadd, 1, (0, 0, 0, 0)), some (.iaload, 1, (0, 0, 0, 0)), some (.invokevirtual 61, 3, (67, 4, 66, 0))],
 [nn, some (.aload_n 2, 1, (0, 0, 0, 0)), some (.aload_n 0, 1, (0, 0, 0, 0)), some (.iload_n 3, 1, (0, 0, 0, 0)), some (.iconst 1, 1, (0, 0, 0, 0)), some (.iadd, 1, (0, 0, 0, 0)), some (.iaload, 1, (0, 0, 0, 0)), some (.aload_n 0, 1, (0, 0, 0, 0)), some (.iload_n 3, 1, (0, 0, 0, 0)), some (.iconst 2, 1, (0, 0, 0, 0)), some (.iadd, 1, (0, 0, 0, 0)), some (.iaload, 1, (0, 0, 0, 0)), some (.aload_n 0, 1, (0, 0, 0, 0)), some (.iload_n 3, 1, (0, 0, 0, 0)), some (.iconst 3, 1, (0, 0, 0, 0)), some (.iadd, 1, (0, 0, 0, 0))],
 [some (.iaload, 1, (0, 0, 0, 0)), some (.invokevirtual 64, 3, (144, 4, 164, 0)), nn, nn, some (.if_icmp .eq 837, 3, (1401, 0, 0, 0)), nn, nn, some (.iconst 0, 1, (0, 0, 0, 0)), some (.ireturn, 1, (0, 0, 0, 0)), some (.aload_n 1, 1, (0, 0, 0, 0)), some (.aload_n 0, 1, (0, 0, 0, 0)), some (.iload_n 3, 1, (0, 0, 0, 0)), some (.iconst 1, 1, (0, 0, 0, 0)), some (.iadd, 1, (0, 0, 0, 0)), some (.iaload, 1, (0, 0, 0, 0)), some (.invokevirtual 65, 3, (68, 2, 67, 0))],
 [nn, nn, some (.aload_n 2, 1, (0, 0, 0, 0)), some (.aload_n 0, 1, (0, 0, 0, 0)), some (.iload_n 3, 1, (0, 0, 0, 0)), some (.iconst 1, 1, (0, 0, 0, 0)), some (.iadd, 1, (0, 0, 0, 0)), some (.iaload, 1, (0, 0, 0, 0)), some (.invokevirtual 68, 3, (145, 2, 167, 0)), nn, nn, some (.if_icmp .eq 814, 3, (1401, 0, 0, 0)), nn, nn, some (.iconst 0, 1, (0, 0, 0, 0)), some (.ireturn, 1, (0, 0, 0, 0))],
 [some (.aload_n 1, 1, (0, 0, 0, 0)), some (.aload_n 0, 1, (0, 0, 0, 0)), some (.iload_n 3, 1, (0, 0, 0, 0)), some (.iconst 1, 1, (0, 0, 0, 0)), some (.iadd, 1, (0, 0, 0, 0)), some (.iaload, 1, (0, 0, 0, 0)), some (.invokevirtual 69, 3, (69, 2, 68, 0)), nn, nn, some (.aload_n 2, 1, (0, 0, 0, 0)), some (.aload_n 0, 1, (0, 0, 0, 0)), some (.iload_n 3, 1, (0, 0, 0, 0)), some (.iconst 1, 1, (0, 0, 0, 0)), some (.iadd, 1, (0, 0, 0, 0)), some (.iaload, 1, (0, 0, 0, 0)), some (.invokevirtual 72, 3, (146, 2, 168, 0))],
 [nn, nn, some (.if_icmp .eq 791, 3, (1401, 0, 0, 0)), nn, nn, some (.iconst 0, 1, (0, 0, 0, 0)), some (.ireturn, 1, (0, 0, 0, 0)), some (.aload_n 1, 1, (0, 0, 0, 0)), some (.invokevirtual 73, 3, (70, 1, 71, 0)), nn, nn, some (.aload_n 2, 1, (0, 0, 0, 0)), some (.invokevirtual 76, 3, (147, 1, 169, 0)), nn, nn, some (.if_icmp .eq 778, 3, (1401, 0, 0, 0))],
 [nn, nn, some (.iconst 0, 1, (0, 0, 0, 0)), some (.ireturn, 1, (0, 0, 0, 0)), some (.aload_n 1, 1, (0, 0, 0, 0)), some (.aload_n 0, 1, (0, 0, 0, 0)), some (.iload_n 3, 1, (0, 0, 0, 0)), some (.iconst 1, 1, (0, 0, 0, 0)), some (.iadd, 1, (0, 0, 0, 0)), some (.iaload, 1, (0, 0, 0, 0)), some (.aload_n 0, 1, (0, 0, 0, 0)), some (.iload_n 3, 1, (0, 0, 0, 0)), some (.iconst 2, 1, (0, 0, 0, 0)), some (.iadd, 1, (0, 0, 0, 0)), some (.iaload, 1, (0, 0, 0, 0)), some (.aload_n 0, 1, (0, 0, 0, 0))],
 [some (.iload_n 3, 1, (0, 0, 0, 0)), some (.iconst 3, 1, (0, 0, 0, 0)), some (.iadd, 1, (0, 0, 0, 0)), some (.iaload, 1, (0, 0, 0, 0)), some (.invokevirtual 77, 3, (71, 4, 73, 0)), nn, nn, some (.aload_n 2, 1, (0, 0, 0, 0)), some (.aload_n 0, 1, (0, 0, 0, 0)), some (.iload_n 3, 1, (0, 0, 0, 0)), some (.iconst 1, 1, (0, 0, 0, 0)), some (.iadd, 1, (0, 0, 0, 0)), some (.iaload, 1, (0, 0, 0, 0)), some (.aload_n 0, 1, (0, 0, 0, 0)), some (.iload_n 3, 1, (0, 0, 0, 0)), some (.iconst 2, 1, (0, 0, 0, 0))],
 [some (.iadd, 1, (0, 0, 0, 0)), some (.iaload, 1, (0, 0, 0, 0)), some (.aload_n 0, 1, (0, 0, 0, 0)), some (.iload_n 3, 1, (0, 0, 0, 0)), some (.iconst 3, 1, (0, 0, 0, 0)), some (.iadd, 1, (0, 0, 0, 0)), some (.iaload, 1, (0, 0, 0, 0)), some (.invokevirtual 80, 3, (148, 4, 170, 0)), nn, nn, some (.if_icmp .eq 735, 3, (1401, 0, 0, 0)), nn, nn, some (.iconst 0, 1, (0, 0, 0, 0)), some (.ireturn, 1, (0, 0, 0, 0)), some (.aload_n 1, 1, (0, 0, 0, 0))],
 [some (.aload_n 0, 1, (0, 0, 0, 0)), some (.iload_n 3, 1, (0, 0, 0, 0)), some (.iconst 1, 1, (0, 0, 0, 0)), some (.iadd, 1, (0, 0, 0, 0)), some (.iaload, 1, (0, 0, 0, 0)), some (.aload_n 0, 1, (0, 0, 0, 0)), some (.iload_n 3, 1, (0, 0, 0, 0)), some (.iconst 2, 1, (0, 0, 0, 0)), some (.iadd, 1, (0, 0, 0, 0)), some (.iaload, 1, (0, 0, 0, 0)), some (.invokevirtual 81, 3, (72, 3, 76, 0)), nn, nn, some (.aload_n 2, 1, (0, 0, 0, 0)), some (.aload_n 0, 1, (0, 0, 0, 0)), some (.iload_n 3, 1, (0, 0, 0, 0))],
 [some (.iconst 1, 1, (0, 0, 0, 0)), some (.iadd, 1, (0, 0, 0, 0)), some (.iaload, 1, (0, 0, 0, 0)), some (.aload_n 0, 1, (0, 0, 0, 0)), some (.iload_n 3, 1, (0, 0, 0, 0)), some (.iconst 2, 1, (0, 0, 0, 0)), some (.iadd, 1, (0, 0, 0, 0)), some (.iaload, 1, (0, 0, 0, 0)), some (.invokevirtual 84, 3, (149, 3, 172, 0)), nn, nn, some (.if_icmp .eq 702, 3, (1401, 0, 0, 0)), nn, nn, some (.iconst 0, 1, (0, 0, 0, 0)), some (.ireturn, 1, (0, 0, 0, 0))],
 [some (.aload_n 1, 1, (0, 0, 0, 0)), some (.aload_n 0, 1, (0, 0, 0, 0)), some (.iload_n 3, 1, (0, 0, 0, 0)), some (.iconst 1, 1, (0, 0, 0, 0)), some (.iadd, 1, (0, 0, 0, 0)), some (.iaload, 1, (0, 0, 0, 0)), some (.invokevirtual 85, 3, (73, 2, 77, 0)), nn, nn, some (.aload_n 2, 1, (0, 0, 0, 0)), some (.aload_n 0, 1, (0, 0, 0, 0)), some (.iload_n 3, 1, (0, 0, 0, 0)), some (.iconst 1, 1, (0, 0, 0, 0)), some (.iadd, 1, (0, 0, 0, 0)), some (.iaload, 1, (0, 0, 0, 0)), some (.invokevirtual 88, 3, (150, 2, 173, 0))],
 [nn, nn, some (.if_icmp .eq 679, 3, (1401, 0, 0, 0)), nn, nn, some (.iconst 0, 1, (0, 0, 0, 0)), some (.ireturn, 1, (0, 0, 0, 0)), some (.aload_n 1, 1, (0, 0, 0, 0)), some (.invokevirtual 89, 3, (74, 1, 79, 0)), nn, nn, some (.aload_n 2, 1, (0, 0, 0, 0)), some (.invokevirtual 92, 3, (151, 1, 174, 0)), nn, nn, some (.if_icmp .eq 666, 3, (1401, 0, 0, 0))],
 [nn, nn, some (.iconst 0, 1, (0, 0, 0, 0)), some (.ireturn, 1, (0, 0, 0, 0)), some (.aload_n 1, 1, (0, 0, 0, 0)), some (.aload_n 0, 1, (0, 0, 0, 0)), some (.iload_n 3, 1, (0, 0, 0, 0)), some (.iconst 1, 1, (0, 0, 0, 0)), some (.iadd, 1, (0, 0, 0, 0)), some (.iaload, 1, (0, 0, 0, 0)), some (.invokevirtual 93, 3, (75, 2, 80, 0)), nn, nn, some (.aload_n 2, 1, (0, 0, 0, 0)), some (.aload_n 0, 1, (0, 0, 0, 0)), some (.iload_n 3, 1, (0, 0, 0, 0))],
 [some (.iconst 1, 1, (0, 0, 0, 0)), some (.iadd, 1, (0, 0, 0, 0)), some (.iaload, 1, (0, 0, 0, 0)), some (.invokevirtual 96, 3, (152, 2, 175, 0)), nn, nn, some (.if_icmp .eq 643, 3, (1401, 0, 0, 0)), nn, nn, some (.iconst 0, 1, (0, 0, 0, 0)), some (.ireturn, 1, (0, 0, 0, 0)), some (.aload_n 1, 1, (0, 0, 0, 0)), some (.aload_n 0, 1, (0, 0, 0, 0)), some (.iload_n 3, 1, (0, 0, 0, 0)), some (.iconst 1, 1, (0, 0, 0, 0)), some (.iadd, 1, (0, 0, 0, 0))],
 [some (.iaload, 1, (0, 0, 0, 0)), some (.aload_n 0, 1, (0, 0, 0, 0)), some (.iload_n 3, 1, (0, 0, 0, 0)), some (.iconst 2, 1, (0, 0, 0, 0)), some (.iadd, 1, (0, 0, 0, 0)), some (.iaload, 1, (0, 0, 0, 0)), some (.invokevirtual 97, 3, (76, 3, 83, 0)), nn, nn, some (.aload_n 2, 1, (0, 0, 0, 0)), some (.aload_n 0, 1, (0, 0, 0, 0)), some (.iload_n 3, 1, (0, 0, 0, 0)), some (.iconst 1, 1, (0, 0, 0, 0)), some (.iadd, 1, (0, 0, 0, 0)), some (.iaload, 1, (0, 0, 0, 0)), some (.aload_n 0, 1, (0, 0, 0, 0))],
 [some (.iload_n 3, 1, (0, 0, 0, 0)), some (.iconst 2, 1, (0, 0, 0, 0)), some (.iadd, 1, (0, 0, 0, 0)), some (.iaload, 1, (0, 0, 0, 0)), some (.invokevirtual 100, 3, (155, 3, 176, 0)), nn, nn, some (.if_icmp .eq 610, 3, (1401, 0, 0, 0)), nn, nn, some (.iconst 0, 1, (0, 0, 0, 0)), some (.ireturn, 1, (0, 0, 0, 0)), some (.aload_n 1, 1, (0, 0, 0, 0)), some (.aload_n 0, 1, (0, 0, 0, 0)), some (.iload_n 3, 1, (0, 0, 0, 0)), some (.iconst 1, 1, (0, 0, 0, 0))],
 [some (.iadd, 1, (0, 0, 0, 0)), some (.iaload, 1, (0, 0, 0, 0)), some (.aload_n 0, 1, (0, 0, 0, 0)), some (.iload_n 3, 1, (0, 0, 0, 0)), some (.iconst 2, 1, (0, 0, 0, 0)), some (.iadd, 1, (0, 0, 0, 0)), some (.iaload, 1, (0, 0, 0, 0)), some (.invokevirtual 101, 3, (77, 3, 91, 0)), nn, nn, some (.aload_n 2, 1, (0, 0, 0, 0)), some (.aload_n 0, 1, (0, 0, 0, 0)), some (.iload_n 3, 1, (0, 0, 0, 0)), some (.iconst 1, 1, (0, 0, 0, 0)), some (.iadd, 1, (0, 0, 0, 0)), some (.iaload, 1, (0, 0, 0, 0))],
 [some (.aload_n 0, 1, (0, 0, 0, 0)), some (.iload_n 3, 1, (0, 0, 0, 0)), some (.iconst 2, 1, (0, 0, 0, 0)), some (.iadd, 1, (0, 0, 0, 0)), some (.iaload, 1, (0, 0, 0, 0)), some (.invokevirtual 104, 3, (156, 3, 179, 0)), nn, nn, some (.if_icmp .eq 577, 3, (1401, 0, 0, 0)), nn, nn, some (.iconst 0, 1, (0, 0, 0, 0)), some (.ireturn, 1, (0, 0, 0, 0)), some (.aload_n 1, 1, (0, 0, 0, 0)), some (.aload_n 0, 1, (0, 0, 0, 0)), some (.iload_n 3, 1, (0, 0, 0, 0))],
 [some (.iconst 1, 1, (0, 0, 0, 0)), some (.iadd, 1, (0, 0, 0, 0)), some (.iaload, 1, (0, 0, 0, 0)), some (.aload_n 0, 1, (0, 0, 0, 0)), some (.iload_n 3, 1, (0, 0, 0, 0)), some (.iconst 2, 1, (0, 0, 0, 0)), some (.iadd, 1, (0, 0, 0, 0)), some (.iaload, 1, (0, 0, 0, 0)), some (.aload_n 0, 1, (0, 0, 0, 0)), some (.iload_n 3, 1, (0, 0, 0, 0)), some (.iconst 3, 1, (0, 0, 0, 0)), some (.iadd, 1, (0, 0, 0, 0)), some (.iaload, 1, (0, 0, 0, 0)), some (.ifCond .eq 7, 3, (852, 0, 0, 0))],
 [some (.iconst 1, 1, (0, 0, 0, 0)), some (.goto 4, 3, (853, 0, 0, 0)), nn, nn, some (.iconst 0, 1, (0, 0, 0, 0)), some (.invokevirtual 105, 3, (78, 4, 93, 0)), nn, nn, some (.aload_n 2, 1, (0, 0, 0, 0)), some (.aload_n 0, 1, (0, 0, 0, 0)), some (.iload_n 3, 1, (0, 0, 0, 0)), some (.iconst 1, 1, (0, 0, 0, 0)), some (.iadd, 1, (0, 0, 0, 0)), some (.iaload, 1, (0, 0, 0, 0)), some (.aload_n 0, 1, (0, 0, 0, 0)), some (.iload_n 3, 1, (0, 0, 0, 0))],
 [some (.iconst 2, 1, (0, 0, 0, 0)), some (.iadd, 1, (0, 0, 0, 0)), some (.iaload, 1, (0, 0, 0, 0)), some (.aload_n 0, 1, (0, 0, 0, 0)), some (.iload_n 3, 1, (0, 0, 0, 0)), some (.iconst 3, 1, (0, 0, 0, 0)), some (.iadd, 1, (0, 0, 0, 0)), some (.iaload, 1, (0, 0, 0, 0)), some (.ifCond .eq 7, 3, (879, 0, 0, 0)), nn, nn, some (.iconst 1, 1, (0, 0, 0, 0)), some (.goto 4, 3, (880, 0, 0, 0)), nn, nn, some (.iconst 0, 1, (0, 0, 0, 0))],
 [some (.invokevirtual 109, 3, (160, 4, 180, 0)), nn, nn, some (.lcmp, 1, (0, 0, 0, 0)), some (.ifCond .eq 517, 3, (1401, 0, 0, 0)), nn, nn, some (.iconst 0, 1, (0, 0, 0, 0)), some (.ireturn, 1, (0, 0, 0, 0)), some (.aload_n 1, 1, (0, 0, 0, 0)), some (.aload_n 0, 1, (0, 0, 0, 0)), some (.iload_n 3, 1, (0, 0, 0, 0)), some (.iconst 1, 1, (0, 0, 0, 0)), some (.iadd, 1, (0, 0, 0, 0)), some (.iaload, 1, (0, 0, 0, 0)), some (.aload_n 0, 1, (0, 0, 0, 0))],
 [some (.iload_n 3, 1, (0, 0, 0, 0)), some (.iconst 2, 1, (0, 0, 0, 0)), some (.iadd, 1, (0, 0, 0, 0)), some (.iaload, 1, (0, 0, 0, 0)), some (.aload_n 0, 1, (0, 0, 0, 0)), some (.iload_n 3, 1, (0, 0, 0, 0)), some (.iconst 3, 1, (0, 0, 0, 0)), some (.iadd, 1, (0, 0, 0, 0)), some (.iaload, 1, (0, 0, 0, 0)), some (.ifCond .eq 7, 3, (912, 0, 0, 0)), nn, nn, some (.iconst 1, 1, (0, 0, 0, 0)), some (.goto 4, 3, (913, 0, 0, 0))],
 [some (.iconst 0, 1, (0, 0, 0, 0)), some (.invokevirtual 110, 3, (79, 4, 98, 0)), nn, nn, some (.aload_n 2, 1, (0, 0, 0, 0)), some (.aload_n 0, 1, (0, 0, 0, 0)), some (.iload_n 3, 1, (0, 0, 0, 0)), some (.iconst 1, 1, (0, 0, 0, 0)), some (.iadd, 1, (0, 0, 0, 0)), some (.iaload, 1, (0, 0, 0, 0)), some (.aload_n 0, 1, (0, 0, 0, 0)), some (.iload_n 3, 1, (0, 0, 0, 0)), some (.iconst 2, 1, (0, 0, 0, 0)), some (.iadd, 1, (0, 0, 0, 0)), some (.iaload, 1, (0, 0, 0, 0)), some (.aload_n 0, 1, (0, 0, 0, 0))],
 [some (.iload_n 3, 1, (0, 0, 0, 0)), some (.iconst 3, 1, (0, 0, 0, 0)), some (.iadd, 1, (0, 0, 0, 0)), some (.iaload, 1, (0, 0, 0, 0)), some (.ifCond .eq 7, 3, (939, 0, 0, 0)), nn, nn, some (.iconst 1, 1, (0, 0, 0, 0)), some (.goto 4, 3, (940, 0, 0, 0)), nn, nn, some (.iconst 0, 1, (0, 0, 0, 0)), some (.invokevirtual 113, 3, (163, 4, 184, 0)), nn, nn, some (.lcmp, 1, (0, 0, 0, 0))],
 [some (.ifCond .eq 457, 3, (1401, 0, 0, 0)), nn, nn, some (.iconst 0, 1, (0, 0, 0, 0)), some (.ireturn, 1, (0, 0, 0, 0)), some (.aload_n 1, 1, (0, 0, 0, 0)), some (.aload_n 0, 1, (0, 0, 0, 0)), some (.iload_n 3, 1, (0, 0, 0, 0)), some (.iconst 1, 1, (0, 0, 0, 0)), some (.iadd, 1, (0, 0, 0, 0)), some (.iaload, 1, (0, 0, 0, 0)), some (.aload_n 0, 1, (0, 0, 0, 0)), some (.iload_n 3, 1, (0, 0, 0, 0)), some (.iconst 2, 1, (0, 0, 0, 0)), some (.iadd, 1, (0, 0, 0, 0)), some (.iaload, 1, (0, 0, 0, 0))],
 [some (.aload_n 0, 1, (0, 0, 0, 0)), some (.iload_n 3, 1, (0, 0, 0, 0)), some (.iconst 3, 1, (0, 0, 0, 0)), some (.iadd, 1, (0, 0, 0, 0)), some (.iaload, 1, (0, 0, 0, 0)), some (.ifCond .eq 7, 3, (972, 0, 0, 0)), nn, nn, some (.iconst 1, 1, (0, 0, 0, 0)), some (.goto 4, 3, (973, 0, 0, 0)), nn, nn, some (.iconst 0, 1, (0, 0, 0, 0)), some (.invokevirtual 114, 3, (80, 4, 105, 0))],
 [some (.aload_n 2, 1, (0, 0, 0, 0)), some (.aload_n 0, 1, (0, 0, 0, 0)), some (.iload_n 3, 1, (0, 0, 0, 0)), some (.iconst 1, 1, (0, 0, 0, 0)), some (.iadd, 1, (0, 0, 0, 0)), some (.iaload, 1, (0, 0, 0, 0)), some (.aload_n 0, 1, (0, 0, 0, 0)), some (.iload_n 3, 1, (0, 0, 0, 0)), some (.iconst 2, 1, (0, 0, 0, 0)), some (.iadd, 1, (0, 0, 0, 0)), some (.iaload, 1, (0, 0, 0, 0)), some (.aload_n 0, 1, (0, 0, 0, 0)), some (.iload_n 3, 1, (0, 0, 0, 0)), some (.iconst 3, 1, (0, 0, 0, 0)), some (.iadd, 1, (0, 0, 0, 0)), some (.iaload, 1, (0, 0, 0, 0))],
 [some (.ifCond .eq 7, 3, (999, 0, 0, 0)), nn, nn, some (.iconst 1, 1, (0, 0, 0, 0)), some (.goto 4, 3, (1000, 0, 0, 0)), nn, nn, some (.iconst 0, 1, (0, 0, 0, 0)), some (.invokevirtual 117, 3, (166, 4, 187, 0)), nn, nn, some (.lcmp, 1, (0, 0, 0, 0)), some (.ifCond .eq 397, 3, (1401, 0, 0, 0)), nn, nn, some (.iconst 0, 1, (0, 0, 0, 0))],
 [some (.ireturn, 1, (0, 0, 0, 0)), some (.aload_n 1, 1, (0, 0, 0, 0)), some (.aload_n 0, 1, (0, 0, 0, 0)), some (.iload_n 3, 1, (0, 0, 0, 0)), some (.iconst 1, 1, (0, 0, 0, 0)), some (.iadd, 1, (0, 0, 0, 0)), some (.iaload, 1, (0, 0, 0, 0)), some (.invokevirtual 118, 3, (81, 2, 109, 0)), nn, nn, some (.aload_n 2, 1, (0, 0, 0, 0)), some (.aload_n 0, 1, (0, 0, 0, 0)), some (.iload_n 3, 1, (0, 0, 0, 0)), some (.iconst 1, 1, (0, 0, 0, 0)), some (.iadd, 1, (0, 0, 0, 0)), some (.iaload, 1, (0, 0, 0, 0))],
 [some (.invokevirtual 121, 3, (168, 2, 190, 0)), nn, nn, some (.if_icmp .eq 374, 3, (1401, 0, 0, 0)), nn, nn, some (.iconst 0, 1, (0, 0, 0, 0)), some (.ireturn, 1, (0, 0, 0, 0)), some (.aload_n 1, 1, (0, 0, 0, 0)), some (.aload_n 0, 1, (0, 0, 0, 0)), some (.iload_n 3, 1, (0, 0, 0, 0)), some (.iconst 1, 1, (0, 0, 0, 0)), some (.iadd, 1, (0, 0, 0, 0)), some (.iaload, 1, (0, 0, 0, 0)), some (.aload_n 0, 1, (0, 0, 0, 0)), some (.iload_n 3, 1, (0, 0, 0, 0))],
 [some (.iconst 2, 1, (0, 0, 0, 0)), some (.iadd, 1, (0, 0, 0, 0)), some (.iaload, 1, (0, 0, 0, 0)), some (.ifCond .eq 7, 3, (1050, 0, 0, 0)), nn, nn, some (.iconst 1, 1, (0, 0, 0, 0)), some (.goto 4, 3, (1051, 0, 0, 0)), nn, nn, some (.iconst 0, 1, (0, 0, 0, 0)), some (.invokevirtual 122, 3, (82, 3, 111, 0)), nn, nn, some (.aload_n 2, 1, (0, 0, 0, 0)), some (.aload_n 0, 1, (0, 0, 0, 0))],
 [some (.iload_n 3, 1, (0, 0, 0, 0)), some (.iconst 1, 1, (0, 0, 0, 0)), some (.iadd, 1, (0, 0, 0, 0)), some (.iaload, 1, (0, 0, 0, 0)), some (.aload_n 0, 1, (0, 0, 0, 0)), some (.iload_n 3, 1, (0, 0, 0, 0)), some (.iconst 2, 1, (0, 0, 0, 0)), some (.iadd, 1, (0, 0, 0, 0)), some (.iaload, 1, (0, 0, 0, 0)), some (.ifCond .eq 7, 3, (1072, 0, 0, 0)), nn, nn, some (.iconst 1, 1, (0, 0, 0, 0)), some (.goto 4, 3, (1073, 0, 0, 0))],
 [some (.iconst 0, 1, (0, 0, 0, 0)), some (.invokevirtual 126, 3, (169, 3, 192, 0)), nn, nn, some (.lcmp, 1, (0, 0, 0, 0)), some (.ifCond .eq 324, 3, (1401, 0, 0, 0)), nn, nn, some (.iconst 0, 1, (0, 0, 0, 0)), some (.ireturn, 1, (0, 0, 0, 0)), some (.aload_n 1, 1, (0, 0, 0, 0)), some (.aload_n 0, 1, (0, 0, 0, 0)), some (.iload_n 3, 1, (0, 0, 0, 0)), some (.iconst 1, 1, (0, 0, 0, 0)), some (.iadd, 1, (0, 0, 0, 0)), some (.iaload, 1, (0, 0, 0, 0))],
 [some (.aload_n 0, 1, (0, 0, 0, 0)), some (.iload_n 3, 1, (0, 0, 0, 0)), some (.iconst 2, 1, (0, 0, 0, 0)), some (.iadd, 1, (0, 0, 0, 0)), some (.iaload, 1, (0, 0, 0, 0)), some (.aload_n 0, 1, (0, 0, 0, 0)), some (.iload_n 3, 1, (0, 0, 0, 0)), some (.iconst 3, 1, (0, 0, 0, 0)), some (.iadd, 1, (0, 0, 0, 0)), some (.iaload, 1, (0, 0, 0, 0)), some (.invokevirtual 127, 3, (83, 4, 112, 0)), nn, nn, some (.aload_n 2, 1, (0, 0, 0, 0)), some (.aload_n 0, 1, (0, 0, 0, 0)), some (.iload_n 3, 1, (0, 0, 0, 0))],
 [some (.iconst 1, 1, (0, 0, 0, 0)), some (.iadd, 1, (0, 0, 0, 0)), some (.iaload, 1, (0, 0, 0, 0)), some (.aload_n 0, 1, (0, 0, 0, 0)), some (.iload_n 3, 1, (0, 0, 0, 0)), some (.iconst 2, 1, (0, 0, 0, 0)), some (.iadd, 1, (0, 0, 0, 0)), some (.iaload, 1, (0, 0, 0, 0)), some (.aload_n 0, 1, (0, 0, 0, 0)), some (.iload_n 3, 1, (0, 0, 0, 0)), some (.iconst 3, 1, (0, 0, 0, 0)), some (.iadd, 1, (0, 0, 0, 0)), some (.iaload, 1, (0, 0, 0, 0)), some (.invokevirtual 130, 3, (170, 4, 193, 0))],
 [some (.if_icmp .eq 281, 3, (1401, 0, 0, 0)), nn, nn, some (.iconst 0, 1, (0, 0, 0, 0)), some (.ireturn, 1, (0, 0, 0, 0)), some (.aload_n 1, 1, (0, 0, 0, 0)), some (.invokevirtual 131, 3, (84, 1, 115, 0)), nn, nn, some (.aload_n 2, 1, (0, 0, 0, 0)), some (.invokevirtual 134, 3, (171, 1, 194, 0)), nn, nn, some (.if_icmp .eq 268, 3, (1401, 0, 0, 0))],
 [some (.iconst 0, 1, (0, 0, 0, 0)), some (.ireturn, 1, (0, 0, 0, 0)), some (.aload_n 1, 1, (0, 0, 0, 0)), some (.aload_n 0, 1, (0, 0, 0, 0)), some (.iload_n 3, 1, (0, 0, 0, 0)), some (.iconst 1, 1, (0, 0, 0, 0)), some (.iadd, 1, (0, 0, 0, 0)), some (.iaload, 1, (0, 0, 0, 0)), some (.aload_n 0, 1, (0, 0, 0, 0)), some (.iload_n 3, 1, (0, 0, 0, 0)), some (.iconst 2, 1, (0, 0, 0, 0)), some (.iadd, 1, (0, 0, 0, 0)), some (.iaload, 1, (0, 0, 0, 0)), some (.aload_n 0, 1, (0, 0, 0, 0)), some (.iload_n 3, 1, (0, 0, 0, 0)), some (.iconst 3, 1, (0, 0, 0, 0))],
 [some (.iadd, 1, (0, 0, 0, 0)), some (.iaload, 1, (0, 0, 0, 0)), some (.invokevirtual 135, 3, (85, 4, 117, 0)), nn, nn, some (.aload_n 2, 1, (0, 0, 0, 0)), some (.aload_n 0, 1, (0, 0, 0, 0)), some (.iload_n 3, 1, (0, 0, 0, 0)), some (.iconst 1, 1, (0, 0, 0, 0)), some (.iadd, 1, (0, 0, 0, 0)), some (.iaload, 1, (0, 0, 0, 0)), some (.aload_n 0, 1, (0, 0, 0, 0)), some (.iload_n 3, 1, (0, 0, 0, 0)), some (.iconst 2, 1, (0, 0, 0, 0)), some (.iadd, 1, (0, 0, 0, 0)), some (.iaload, 1, (0, 0, 0, 0))],
 [some (.aload_n 0, 1, (0, 0, 0, 0)), some (.iload_n 3, 1, (0, 0, 0, 0)), some (.iconst 3, 1, (0, 0, 0, 0)), some (.iadd, 1, (0, 0, 0, 0)), some (.iaload, 1, (0, 0, 0, 0)), some (.invokevirtual 138, 3, (172, 4, 195, 0)), nn, nn, some (.if_icmp .eq 225, 3, (1401, 0, 0, 0)), nn, nn, some (.iconst 0, 1, (0, 0, 0, 0)), some (.ireturn, 1, (0, 0, 0, 0)), some (.aload_n 1, 1, (0, 0, 0, 0)), some (.aload_n 0, 1, (0, 0, 0, 0)), some (.iload_n 3, 1, (0, 0, 0, 0))],
 [some (.iconst 1, 1, (0, 0, 0, 0)), some (.iadd, 1, (0, 0, 0, 0)), some (.iaload, 1, (0, 0, 0, 0)), some (.invokevirtual 139, 3, (86, 2, 119, 0)), nn, nn, some (.aload_n 2, 1, (0, 0, 0, 0)), some (.aload_n 0, 1, (0, 0, 0, 0)), some (.iload_n 3, 1, (0, 0, 0, 0)), some (.iconst 1, 1, (0, 0, 0, 0)), some (.iadd, 1, (0, 0, 0, 0)), some (.iaload, 1, (0, 0, 0, 0)), some (.invokevirtual 142, 3, (177, 2, 196, 0)), nn, nn, some (.if_icmp .eq 202, 3, (1401, 0, 0, 0))],
 [nn, nn, some (.iconst 0, 1, (0, 0, 0, 0)), some (.ireturn, 1, (0, 0, 0, 0)), some (.aload_n 1, 1, (0, 0, 0, 0)), some (.invokevirtual 143, 3, (87, 1, 121, 0)), nn, nn, some (.aload_n 2, 1, (0, 0, 0, 0)), some (.invokevirtual 146, 3, (178, 1, 201, 0)), nn, nn, some (.if_icmp .eq 189, 3, (1401, 0, 0, 0)), nn, nn, some (.iconst 0, 1, (0, 0, 0, 0))],
 [some (.ireturn, 1, (0, 0, 0, 0)), some (.aload_n 1, 1, (0, 0, 0, 0)), some (.aload_n 0, 1, (0, 0, 0, 0)), some (.iload_n 3, 1, (0, 0, 0, 0)), some (.iconst 1, 1, (0, 0, 0, 0)), some (.iadd, 1, (0, 0, 0, 0)), some (.iaload, 1, (0, 0, 0, 0)), some (.aload_n 0, 1, (0, 0, 0, 0)), some (.iload_n 3, 1, (0, 0, 0, 0)), some (.iconst 2, 1, (0, 0, 0, 0)), some (.iadd, 1, (0, 0, 0, 0)), some (.iaload, 1, (0, 0, 0, 0)), some (.aload_n 0, 1, (0, 0, 0, 0)), some (.iload_n 3, 1, (0, 0, 0, 0)), some (.iconst 3, 1, (0, 0, 0, 0)), some (.iadd, 1, (0, 0, 0, 0))],
 [some (.iaload, 1, (0, 0, 0, 0)), some (.aload_n 0, 1, (0, 0, 0, 0)), some (.iload_n 3, 1, (0, 0, 0, 0)), some (.iconst 4, 1, (0, 0, 0, 0)), some (.iadd, 1, (0, 0, 0, 0)), some (.iaload, 1, (0, 0, 0, 0)), some (.ifCond .eq 7, 3, (1245, 0, 0, 0)), nn, nn, some (.iconst 1, 1, (0, 0, 0, 0)), some (.goto 4, 3, (1246, 0, 0, 0)), nn, nn, some (.iconst 0, 1, (0, 0, 0, 0)), some (.invokevirtual 147, 3, (88, 5, 125, 0))],
 [nn, some (.aload_n 2, 1, (0, 0, 0, 0)), some (.aload_n 0, 1, (0, 0, 0, 0)), some (.iload_n 3, 1, (0, 0, 0, 0)), some (.iconst 1, 1, (0, 0, 0, 0)), some (.iadd, 1, (0, 0, 0, 0)), some (.iaload, 1, (0, 0, 0, 0)), some (.aload_n 0, 1, (0, 0, 0, 0)), some (.iload_n 3, 1, (0, 0, 0, 0)), some (.iconst 2, 1, (0, 0, 0, 0)), some (.iadd, 1, (0, 0, 0, 0)), some (.iaload, 1, (0, 0, 0, 0)), some (.aload_n 0, 1, (0, 0, 0, 0)), some (.iload_n 3, 1, (0, 0, 0, 0)), some (.iconst 3, 1, (0, 0, 0, 0)), some (.iadd, 1, (0, 0, 0, 0))],
 [some (.iaload, 1, (0, 0, 0, 0)), some (.aload_n 0, 1, (0, 0, 0, 0)), some (.iload_n 3, 1, (0, 0, 0, 0)), some (.iconst 4, 1, (0, 0, 0, 0)), some (.iadd, 1, (0, 0, 0, 0)), some (.iaload, 1, (0, 0, 0, 0)), some (.ifCond .eq 7, 3, (1277, 0, 0, 0)), nn, nn, some (.iconst 1, 1, (0, 0, 0, 0)), some (.goto 4, 3, (1278, 0, 0, 0)), nn, nn, some (.iconst 0, 1, (0, 0, 0, 0)), some (.invokevirtual 151, 3, (179, 5, 202, 0))],
 [nn, some (.if_icmp .eq 120, 3, (1401, 0, 0, 0)), nn, nn, some (.iconst 0, 1, (0, 0, 0, 0)), some (.ireturn, 1, (0, 0, 0, 0)), some (.aload_n 1, 1, (0, 0, 0, 0)), some (.aload_n 0, 1, (0, 0, 0, 0)), some (.iload_n 3, 1, (0, 0, 0, 0)), some (.iconst 1, 1, (0, 0, 0, 0)), some (.iadd, 1, (0, 0, 0, 0)), some (.iaload, 1, (0, 0, 0, 0)), some (.invokevirtual 152, 3, (89, 2, 127, 0)), nn, nn, some (.aload_n 2, 1, (0, 0, 0, 0))],
 [some (.aload_n 0, 1, (0, 0, 0, 0)), some (.iload_n 3, 1, (0, 0, 0, 0)), some (.iconst 1, 1, (0, 0, 0, 0)), some (.iadd, 1, (0, 0, 0, 0)), some (.iaload, 1, (0, 0, 0, 0)), some (.invokevirtual 155, 3, (181, 2, 203, 0)), nn, nn, some (.if_icmp .eq 97, 3, (1401, 0, 0, 0)), nn, nn, some (.iconst 0, 1, (0, 0, 0, 0)), some (.ireturn, 1, (0, 0, 0, 0)), some (.aload_n 1, 1, (0, 0, 0, 0)), some (.aload_n 0, 1, (0, 0, 0, 0)), some (.iload_n 3, 1, (0, 0, 0, 0))],
 [some (.iconst 1, 1, (0, 0, 0, 0)), some (.iadd, 1, (0, 0, 0, 0)), some (.iaload, 1, (0, 0, 0, 0)), some (.invokevirtual 156, 3, (90, 2, 129, 0)), nn, nn, some (.aload_n 2, 1, (0, 0, 0, 0)), some (.aload_n 0, 1, (0, 0, 0, 0)), some (.iload_n 3, 1, (0, 0, 0, 0)), some (.iconst 1, 1, (0, 0, 0, 0)), some (.iadd, 1, (0, 0, 0, 0)), some (.iaload, 1, (0, 0, 0, 0)), some (.invokevirtual 159, 3, (182, 2, 205, 0)), nn, nn, some (.if_icmp .eq 74, 3, (1401, 0, 0, 0))],
 [nn, nn, some (.iconst 0, 1, (0, 0, 0, 0)), some (.ireturn, 1, (0, 0, 0, 0)), some (.aload_n 1, 1, (0, 0, 0, 0)), some (.aload_n 0, 1, (0, 0, 0, 0)), some (.iload_n 3, 1, (0, 0, 0, 0)), some (.iconst 1, 1, (0, 0, 0, 0)), some (.iadd, 1, (0, 0, 0, 0)), some (.iaload, 1, (0, 0, 0, 0)), some (.invokevirtual 160, 3, (91, 2, 130, 0)), nn, nn, some (.aload_n 2, 1, (0, 0, 0, 0)), some (.aload_n 0, 1, (0, 0, 0, 0)), some (.iload_n 3, 1, (0, 0, 0, 0))],
 [some (.iconst 1, 1, (0, 0, 0, 0)), some (.iadd, 1, (0, 0, 0, 0)), some (.iaload, 1, (0, 0, 0, 0)), some (.invokevirtual 163, 3, (183, 2, 206, 0)), nn, nn, some (.if_icmp .eq 51, 3, (1401, 0, 0, 0)), nn, nn, some (.iconst 0, 1, (0, 0, 0, 0)), some (.ireturn, 1, (0, 0, 0, 0)), some (.aload_n 1, 1, (0, 0, 0, 0)), some (.aload_n 0, 1, (0, 0, 0, 0)), some (.iload_n 3, 1, (0, 0, 0, 0)), some (.iconst 1, 1, (0, 0, 0, 0)), some (.iadd, 1, (0, 0, 0, 0))],
 [some (.iaload, 1, (0, 0, 0, 0)), some (.invokevirtual 164, 3, (92, 2, 134, 0)), nn, nn, some (.aload_n 2, 1, (0, 0, 0, 0)), some (.aload_n 0, 1, (0, 0, 0, 0)), some (.iload_n 3, 1, (0, 0, 0, 0)), some (.iconst 1, 1, (0, 0, 0, 0)), some (.iadd, 1, (0, 0, 0, 0)), some (.iaload, 1, (0, 0, 0, 0)), some (.invokevirtual 167, 3, (184, 2, 207, 0)), nn, nn, some (.if_icmp .eq 28, 3, (1401, 0, 0, 0))],
 [some (.iconst 0, 1, (0, 0, 0, 0)), some (.ireturn, 1, (0, 0, 0, 0)), some (.aload_n 1, 1, (0, 0, 0, 0)), some (.aload_n 0, 1, (0, 0, 0, 0)), some (.iload_n 3, 1, (0, 0, 0, 0)), some (.iconst 1, 1, (0, 0, 0, 0)), some (.iadd, 1, (0, 0, 0, 0)), some (.iaload, 1, (0, 0, 0, 0)), some (.invokevirtual 168, 3, (93, 2, 135, 0)), nn, nn, some (.aload_n 2, 1, (0, 0, 0, 0)), some (.aload_n 0, 1, (0, 0, 0, 0)), some (.iload_n 3, 1, (0, 0, 0, 0)), some (.iconst 1, 1, (0, 0, 0, 0)), some (.iadd, 1, (0, 0, 0, 0))],
 [some (.iaload, 1, (0, 0, 0, 0)), some (.invokevirtual 171, 3, (185, 2, 208, 0)), nn, nn, some (.if_icmp .eq 5, 3, (1401, 0, 0, 0)), nn, nn, some (.iconst 0, 1, (0, 0, 0, 0)), some (.ireturn, 1, (0, 0, 0, 0)), some (.iinc 3 6, 3, (0, 0, 0, 0)), nn, nn, some (.goto (-1386), 3, (18, 0, 0, 0)), nn, nn, some (.iconst 1, 1, (0, 0, 0, 0))],
 [some (.ireturn, 1, (0, 0, 0, 0))]]
def mPT : List (List (List (Option En))) := [pX0_init, pX0_addLayer, pX0_saidIn, pX0_sortsIn, pX0_addTwig, pX0_thinsFrom, pX0_longestThinning, pX0_addBeam, pX0_latestCutUpTo, pX0_becomeLike, pX1_init, pX1_faultOf, pX1_exchange, pX1_takes, pX1_takesKind, pX1_begins, pX1_takesSort, pX1_takesKey, pX1_takesNumber, pX2_init, pX2_add, pX2_countInto, pX2_stopBy, pX2_lookAtNone, pX2_lookAt, pX2_reachedBy, pX2_mostLessNext, pX2_sortsOnlyBehind, pX3_init, pX3_append, pX4_init, pX4_become, pX4_goIn, pX4_takeNothing, pX4_takeLiked, pX4_takeOthers, pX4_takeAt, pX4_sortOfMostLeft, pX4_burn, pX4_tenthsOf, pX4_piecesTaken, pX4_reaches, pX4_milesWalkedIn, pX4_takesAnyAt, pX5_init, pX5_forget, pX5_tell, pX5_tells, pX5_tellsEach, pX5_toldOr, pX5_piecesAt, pX5_crumbsOfPiece, pX5_tenthsToAsh, pX5_tenthsUnsaid, pX5_milesTo, pX5_piecesOfAll, pX6_init, pX6_write, pX6_wipe, pX6_fault, pX6_wood, pX6_stands, pX6_sorted, pX6_miles, pX6_way, pX6_going, pX6_gathered, pX6_fire, pX6_unsaid, pX6_walk, pX6_layer, pX6_count, pX6_counted, pX6_crumb, pX6_sweep, pX6_pour, pX6_stop, pX6_missed, pX6_share, pX6_chance, pX6_odds, pX6_likeliest, pX6_far, pX6_lacks, pX6_next, pX6_twig, pX6_thins, pX6_longest, pX6_beam, pX6_earliest, pX6_tooOld, pX6_keep, pX6_again, pX6_all, pX6_isSort, pX6_isSortOrNone, pX6_isSortOrUnsaid, pX6_isPlace, pX6_isWay, pX6_isSlot, pX6_isRule, pX6_isRuleNumber, pX6_isLayer, pX6_inLeastTerms, pX6_commonDivisor, pX6_billionths, pX6_piecesBehind, pX6_by2520, pX6_isAsked, pX6_drawsThatFit, pX6_drawsInAll, pX6_power, pX6_partsOf, pX6_partsOfAll, pX6_wayOfMostParts, pX7_init, pX7_in, pX7_blank, pX7_takeWood, pX7_write, pX7_wipe, pX7_figure, pX7_open, pX7_readText, pX7_readPart, pX7_fault, pX7_wood, pX7_isSort, pX7_isPlace, pX7_isWay, pX7_isLayer, pX7_stands, pX7_sorted, pX7_miles, pX7_way, pX7_going, pX7_layNear, pX7_left, pX7_takePiece, pX7_mostAt, pX7_layTaken, pX7_gathered, pX7_allTaken, pX7_layFire, pX7_fire, pX7_unsaid, pX7_walk, pX7_layer, pX7_count, pX7_counted, pX7_crumb, pX7_sweep, pX7_pour, pX7_ahead, pX7_stopOf, pX7_stop, pX7_missed, pX7_common, pX7_told, pX7_divisor, pX7_share, pX7_crumbsOf, pX7_layChance, pX7_chance, pX7_parts, pX7_layOdds, pX7_odds, pX7_likeliestOf, pX7_likeliest, pX7_far, pX7_lacks, pX7_next, pX7_twig, pX7_twigsOf, pX7_thickOf, pX7_isThinner, pX7_hasBoth, pX7_thins, pX7_longest, pX7_beam, pX7_earliestOf, pX7_earliest, pX7_tooOld, pX7_keep, pX7_again, pX7_all, pL_law]
end
section
/-! what the tables say, checked once -/
def mO (mi : Nat) : Nat := ((mMT[mi]?).map (fun r => r.1)).getD 8
def mY (mi : Nat) : MethodName := ((mMT[mi]?).map (fun r => r.2.1)).getD ⟨R_law, "law", "([I)Z"⟩
def mB (mi : Nat) : ByteArray := ((mMT[mi]?).map (fun r => r.2.2.1)).getD cL_law
def mL (mi : Nat) : Nat := ((mMT[mi]?).map (fun r => r.2.2.2.1)).getD 4
def mR (mi : Nat) : Option FieldType := ((mMT[mi]?).map (fun r => r.2.2.2.2.1)).getD (some .boolean)
def mC (c : Nat) : String := (mNM[c]?).getD ""
def mTK (ci k : Nat) : Nat := ((mFK[ci]?).bind (fun l => l[k]?)).getD 3
def mP (mi pc : Nat) : Option En := ((mPT[mi]?).bind (fun t => (t[pc / 16]?).bind (fun l => l[pc % 16]?))).join
def mT (ci : Nat) : u_T := ((vwCl[ci]?).map (fun r => r.2.1)).getD (fun _ => ("", "", "", false))
def mNN (ci : Nat) : Nat := ((vwCl[ci]?).map (fun r => r.2.2)).getD 0
def chkF (mi idx : Nat) (x : Au) : Bool := match mFT[x.2.2.1]? with
  | some r => r.1 == mO mi && r.2.1 == idx && r.2.2.1 == x.1 && r.2.2.2.1 == x.2.1
  | none => false
def chkC (mi idx : Nat) (x : Au) : Bool := match mCT[x.2.2.1]? with
  | some r => r.1 == mO mi && r.2.1 == idx && r.2.2.1 == x.1 && r.2.2.2.1 == x.2.1 && decide ((r.2.2.2.2.1 : Int) = x.2.2.2)
  | none => false
def chkN (mi idx : Nat) (x : Au) : Bool := match mNT[x.2.2.1]? with
  | some r => r.1 == mO mi && r.2.1 == idx && r.2.2.1 == x.1 && r.2.2.2.1 == x.2.1
  | none => false
def chkA (mi idx : Nat) (x : Au) : Bool := match mAT[x.2.2.1]? with
  | some r => r.1 == mO mi && r.2.1 == idx && r.2.2.1 == x.1
  | none => false
def chkL (mi idx : Nat) (x : Au) : Bool := match mLT[x.2.2.1]? with
  | some r => r.1 == mO mi && r.2.1 == idx && decide (r.2.2.1 = x.2.2.2)
  | none => false
def chkI (mi pc : Nat) (i : Instr) (x : Au) : Bool := match i with
  | .getfield idx => chkF mi idx x
  | .putfield idx => chkF mi idx x && (!(mT x.1 x.2.1).2.2.2 || (decide ((mY mi).name = "<init>") && x.1 == mO mi))
  | .ifCond _ off => decide ((pc : Int) + off = (x.1 : Int))
  | .if_icmp _ off => decide ((pc : Int) + off = (x.1 : Int))
  | .goto off => decide ((pc : Int) + off = (x.1 : Int))
  | .invokevirtual idx => chkC mi idx x
  | .invokespecial idx => chkC mi idx x
  | .invokestatic idx => chkC mi idx x
  | .new idx => chkN mi idx x
  | .newarray at_ => decide (mTY[x.1]? = some (newarray.typeOf at_)) && decide (x.1 < 4)
  | .anewarray idx => chkA mi idx x && decide (x.1 = 4 ∨ x.1 = 5)
  | .multianewarray idx n => chkA mi idx x && decide (x.1 = 6) && decide (n = 2)
  | .ldc2_w idx => chkL mi idx x
  | _ => true
def chkE (mi pc : Nat) (e : En) : Bool := decide (decode (mB mi) pc = .ok (e.1, e.2.1)) && chkI mi pc e.1 e.2.2
def chkQ (mi q : Nat) (l : List (Option En)) : Bool := (List.range l.length).all (fun r => match (l[r]?).join with
  | some e => chkE mi (16 * q + r) e
  | none => true)
def chkM (mi : Nat) (t : List (List (Option En))) : Bool := (List.range t.length).all (fun q => match t[q]? with
  | some l => chkQ mi q l
  | none => true)
theorem mFT_ok : mFT.all (fun r => decide (lw_tbl[r.2.2.2.2]? = some (.fieldLink (mC r.1) r.2.1 (mT r.2.2.1 r.2.2.2.1).1 (mT r.2.2.1 r.2.2.2.1).2.1 (mT r.2.2.1 r.2.2.2.1).2.2.1)) && decide (r.2.2.2.1 < mNN r.2.2.1) && decide (r.2.2.1 < 8)) = true := by decide +kernel
set_option maxRecDepth 100000 in
theorem mMT_code : mMT.map (fun r => lw_tbl[r.2.2.2.2.2.2.1]?) = mMT.map (fun r => some (.code r.2.1 r.2.2.1 r.2.2.2.1 r.2.2.2.2.1)) := by rfl
theorem mMT_inst : mMT.all (fun r => decide (lw_tbl[r.2.2.2.2.2.2.2.1]? = some (if r.2.2.2.2.2.1 = 1 then .static r.2.1 else .instanceMethod r.2.1))) = true := by decide +kernel
theorem mMT_sel : mMT.all (fun r => (r.2.2.2.2.2.1 == 1) || decide (r.2.1.name = "<init>") || decide (lw_tbl[r.2.2.2.2.2.2.2.2.1]? = some (.selects (mC r.1) r.2.1 r.2.1))) = true := by decide +kernel
theorem mMT_ini : mMT.all (fun r => decide (lw_tbl[r.2.2.2.2.2.2.2.2.2]? = some (.initialized (mC r.1))) && decide (r.2.1.cls = mC r.1) && decide (r.2.2.2.1 ≤ 17) && plainName r.2.1.cls && decide (r.2.1.cls ≠ "java/lang/invoke/MethodHandle") && decide (r.2.1.cls ≠ "java/lang/invoke/VarHandle")) = true := by decide +kernel
theorem mLT_ok : mLT.all (fun r => decide (lw_tbl[r.2.2.2]? = some (.constantLong (mC r.1) r.2.1 (Int64.ofInt r.2.2.1)))) = true := by decide +kernel
theorem mNT_ok : mNT.all (fun r => decide (lw_tbl[r.2.2.2.2.1]? = some (.classLink (mC r.1) r.2.1 (mC r.2.2.1))) && decide (lw_tbl[r.2.2.2.2.2.1]? = some (.instantiable (mC r.2.2.1) r.2.2.2.1)) && decide (lw_tbl[r.2.2.2.2.2.2]? = some (.initialized (mC r.2.2.1))) && decide (r.2.2.2.1 = mNN r.2.2.1) && decide (r.2.2.1 < 8)) = true := by decide +kernel
/-- the method that a row of mCT names: a method of the system, or one of the five that the kit has rows for -/
def mS (t : Nat) : MethodName := if t < 187 then mY t else if t = 1000 then objectInit else if t = 1001 then Lib.Math.max.name else if t = 1002 then Lib.Math.min.name else if t = 1003 then Lib.MathLoose.max_long.x else arraycopyName
theorem mCT_ok : mCT.all (fun r => if r.2.2.2.2.1 = 3 then decide (lw_tbl[r.2.2.2.2.2]? = some (.methodLinkNest (mC r.1) r.2.1 (mS r.2.2.1) RX6)) else decide (lw_tbl[r.2.2.2.2.2]? = some (.methodLink (mC r.1) r.2.1 (mS r.2.2.1)))) = true := by decide +kernel
theorem mCT_n : mCT.all (fun r => decide (1000 ≤ r.2.2.1) || (decide (r.2.2.1 < 186) && decide ((parseMethodDescriptor (mY r.2.2.1).desc).map (fun d => d.parameters.length + (if r.2.2.2.2.1 = 1 then 0 else 1)) = some r.2.2.2.1) && (if r.2.2.2.2.1 = 1 then decide (((mMT[r.2.2.1]?).map (fun q => q.2.2.2.2.2.1)) = some 1) else decide (((mMT[r.2.2.1]?).map (fun q => q.2.2.2.2.2.1)) = some 0)) && (if r.2.2.2.2.1 = 0 then decide ((mY r.2.2.1).name ≠ "<init>") else if r.2.2.2.2.1 = 1 then true else decide ((mY r.2.2.1).name = "<init>") && decide (mR r.2.2.1 = none) && decide (r.2.2.2.2.1 = 2 ∨ r.2.2.2.2.1 = 3)))) = true := by decide +kernel
theorem mFK_ok : (List.range 8).all (fun ci => (List.range (mNN ci)).all (fun k => decide (mTK ci k = (match ((mTyC[ci]?).map (fun f => f k)).getD .boolean with | .int => 0 | .long => 1 | .object _ => 2 | .array _ => 2 | _ => 3)) && decide (mTK ci k < 3))) = true := by decide +kernel
end
section
/-! every entry of the program decodes as it says; its links are the table's -/
theorem dec_0 : (List.range' 0 6).all (fun mi => match mPT[mi]? with | some t => chkM mi t | none => true) = true := by decide +kernel
theorem dec_6 : (List.range' 6 4).all (fun mi => match mPT[mi]? with | some t => chkM mi t | none => true) = true := by decide +kernel
theorem dec_10 : (List.range' 10 5).all (fun mi => match mPT[mi]? with | some t => chkM mi t | none => true) = true := by decide +kernel
theorem dec_15 : (List.range' 15 7).all (fun mi => match mPT[mi]? with | some t => chkM mi t | none => true) = true := by decide +kernel
theorem dec_22 : (List.range' 22 5).all (fun mi => match mPT[mi]? with | some t => chkM mi t | none => true) = true := by decide +kernel
theorem dec_27 : (List.range' 27 6).all (fun mi => match mPT[mi]? with | some t => chkM mi t | none => true) = true := by decide +kernel
theorem dec_33 : (List.range' 33 4).all (fun mi => match mPT[mi]? with | some t => chkM mi t | none => true) = true := by decide +kernel
theorem dec_37 : (List.range' 37 4).all (fun mi => match mPT[mi]? with | some t => chkM mi t | none => true) = true := by decide +kernel
theorem dec_41 : (List.range' 41 9).all (fun mi => match mPT[mi]? with | some t => chkM mi t | none => true) = true := by decide +kernel
theorem dec_50 : (List.range' 50 7).all (fun mi => match mPT[mi]? with | some t => chkM mi t | none => true) = true := by decide +kernel
theorem dec_57 : (List.range' 57 7).all (fun mi => match mPT[mi]? with | some t => chkM mi t | none => true) = true := by decide +kernel
theorem dec_64 : (List.range' 64 5).all (fun mi => match mPT[mi]? with | some t => chkM mi t | none => true) = true := by decide +kernel
theorem dec_69 : (List.range' 69 8).all (fun mi => match mPT[mi]? with | some t => chkM mi t | none => true) = true := by decide +kernel
theorem dec_77 : (List.range' 77 5).all (fun mi => match mPT[mi]? with | some t => chkM mi t | none => true) = true := by decide +kernel
theorem dec_82 : (List.range' 82 2).all (fun mi => match mPT[mi]? with | some t => chkM mi t | none => true) = true := by decide +kernel
theorem dec_84 : (List.range' 84 4).all (fun mi => match mPT[mi]? with | some t => chkM mi t | none => true) = true := by decide +kernel
theorem dec_88 : (List.range' 88 6).all (fun mi => match mPT[mi]? with | some t => chkM mi t | none => true) = true := by decide +kernel
theorem dec_94 : (List.range' 94 11).all (fun mi => match mPT[mi]? with | some t => chkM mi t | none => true) = true := by decide +kernel
theorem dec_105 : (List.range' 105 6).all (fun mi => match mPT[mi]? with | some t => chkM mi t | none => true) = true := by decide +kernel
theorem dec_111 : (List.range' 111 4).all (fun mi => match mPT[mi]? with | some t => chkM mi t | none => true) = true := by decide +kernel
theorem dec_115 : (List.range' 115 1).all (fun mi => match mPT[mi]? with | some t => chkM mi t | none => true) = true := by decide +kernel
theorem dec_116 : (List.range' 116 5).all (fun mi => match mPT[mi]? with | some t => chkM mi t | none => true) = true := by decide +kernel
theorem dec_121 : (List.range' 121 3).all (fun mi => match mPT[mi]? with | some t => chkM mi t | none => true) = true := by decide +kernel
theorem dec_124 : (List.range' 124 1).all (fun mi => match mPT[mi]? with | some t => chkM mi t | none => true) = true := by decide +kernel
theorem dec_125 : (List.range' 125 9).all (fun mi => match mPT[mi]? with | some t => chkM mi t | none => true) = true := by decide +kernel
theorem dec_134 : (List.range' 134 2).all (fun mi => match mPT[mi]? with | some t => chkM mi t | none => true) = true := by decide +kernel
theorem dec_136 : (List.range' 136 4).all (fun mi => match mPT[mi]? with | some t => chkM mi t | none => true) = true := by decide +kernel
theorem dec_140 : (List.range' 140 1).all (fun mi => match mPT[mi]? with | some t => chkM mi t | none => true) = true := by decide +kernel
theorem dec_141 : (List.range' 141 3).all (fun mi => match mPT[mi]? with | some t => chkM mi t | none => true) = true := by decide +kernel
theorem dec_144 : (List.range' 144 3).all (fun mi => match mPT[mi]? with | some t => chkM mi t | none => true) = true := by decide +kernel
theorem dec_147 : (List.range' 147 5).all (fun mi => match mPT[mi]? with | some t => chkM mi t | none => true) = true := by decide +kernel
theorem dec_152 : (List.range' 152 2).all (fun mi => match mPT[mi]? with | some t => chkM mi t | none => true) = true := by decide +kernel
theorem dec_154 : (List.range' 154 2).all (fun mi => match mPT[mi]? with | some t => chkM mi t | none => true) = true := by decide +kernel
theorem dec_156 : (List.range' 156 4).all (fun mi => match mPT[mi]? with | some t => chkM mi t | none => true) = true := by decide +kernel
theorem dec_160 : (List.range' 160 2).all (fun mi => match mPT[mi]? with | some t => chkM mi t | none => true) = true := by decide +kernel
theorem dec_162 : (List.range' 162 2).all (fun mi => match mPT[mi]? with | some t => chkM mi t | none => true) = true := by decide +kernel
theorem dec_164 : (List.range' 164 4).all (fun mi => match mPT[mi]? with | some t => chkM mi t | none => true) = true := by decide +kernel
theorem dec_168 : (List.range' 168 2).all (fun mi => match mPT[mi]? with | some t => chkM mi t | none => true) = true := by decide +kernel
theorem dec_170 : (List.range' 170 1).all (fun mi => match mPT[mi]? with | some t => chkM mi t | none => true) = true := by decide +kernel
theorem dec_171 : (List.range' 171 3).all (fun mi => match mPT[mi]? with | some t => chkM mi t | none => true) = true := by decide +kernel
theorem dec_174 : (List.range' 174 5).all (fun mi => match mPT[mi]? with | some t => chkM mi t | none => true) = true := by decide +kernel
theorem dec_179 : (List.range' 179 4).all (fun mi => match mPT[mi]? with | some t => chkM mi t | none => true) = true := by decide +kernel
theorem dec_183 : (List.range' 183 1).all (fun mi => match mPT[mi]? with | some t => chkM mi t | none => true) = true := by decide +kernel
theorem dec_184 : (List.range' 184 1).all (fun mi => match mPT[mi]? with | some t => chkM mi t | none => true) = true := by decide +kernel
theorem dec_185 : (List.range' 185 1).all (fun mi => match mPT[mi]? with | some t => chkM mi t | none => true) = true := by decide +kernel
theorem decL_0 : (List.range' 0 8).all (fun q => match pL_law[q]? with | some l => chkQ 186 q l | none => true) = true := by decide +kernel
theorem decL_8 : (List.range' 8 8).all (fun q => match pL_law[q]? with | some l => chkQ 186 q l | none => true) = true := by decide +kernel
theorem decL_16 : (List.range' 16 8).all (fun q => match pL_law[q]? with | some l => chkQ 186 q l | none => true) = true := by decide +kernel
theorem decL_24 : (List.range' 24 8).all (fun q => match pL_law[q]? with | some l => chkQ 186 q l | none => true) = true := by decide +kernel
theorem decL_32 : (List.range' 32 8).all (fun q => match pL_law[q]? with | some l => chkQ 186 q l | none => true) = true := by decide +kernel
theorem decL_40 : (List.range' 40 8).all (fun q => match pL_law[q]? with | some l => chkQ 186 q l | none => true) = true := by decide +kernel
theorem decL_48 : (List.range' 48 8).all (fun q => match pL_law[q]? with | some l => chkQ 186 q l | none => true) = true := by decide +kernel
theorem decL_56 : (List.range' 56 8).all (fun q => match pL_law[q]? with | some l => chkQ 186 q l | none => true) = true := by decide +kernel
theorem decL_64 : (List.range' 64 8).all (fun q => match pL_law[q]? with | some l => chkQ 186 q l | none => true) = true := by decide +kernel
theorem decL_72 : (List.range' 72 8).all (fun q => match pL_law[q]? with | some l => chkQ 186 q l | none => true) = true := by decide +kernel
theorem decL_80 : (List.range' 80 8).all (fun q => match pL_law[q]? with | some l => chkQ 186 q l | none => true) = true := by decide +kernel
theorem decL_88 : (List.range' 88 1).all (fun q => match pL_law[q]? with | some l => chkQ 186 q l | none => true) = true := by decide +kernel
end
section
theorem decAll : ∀ mi, mi < 186 → (match mPT[mi]? with | some t => chkM mi t | none => true) = true := by
  intro mi h
  by_cases h6 : mi < 6
  · exact List.all_eq_true.mp dec_0 mi (List.mem_range'_1.mpr ⟨by omega, by omega⟩)
  by_cases h10 : mi < 10
  · exact List.all_eq_true.mp dec_6 mi (List.mem_range'_1.mpr ⟨by omega, by omega⟩)
  by_cases h15 : mi < 15
  · exact List.all_eq_true.mp dec_10 mi (List.mem_range'_1.mpr ⟨by omega, by omega⟩)
  by_cases h22 : mi < 22
  · exact List.all_eq_true.mp dec_15 mi (List.mem_range'_1.mpr ⟨by omega, by omega⟩)
  by_cases h27 : mi < 27
  · exact List.all_eq_true.mp dec_22 mi (List.mem_range'_1.mpr ⟨by omega, by omega⟩)
  by_cases h33 : mi < 33
  · exact List.all_eq_true.mp dec_27 mi (List.mem_range'_1.mpr ⟨by omega, by omega⟩)
  by_cases h37 : mi < 37
  · exact List.all_eq_true.mp dec_33 mi (List.mem_range'_1.mpr ⟨by omega, by omega⟩)
  by_cases h41 : mi < 41
  · exact List.all_eq_true.mp dec_37 mi (List.mem_range'_1.mpr ⟨by omega, by omega⟩)
  by_cases h50 : mi < 50
  · exact List.all_eq_true.mp dec_41 mi (List.mem_range'_1.mpr ⟨by omega, by omega⟩)
  by_cases h57 : mi < 57
  · exact List.all_eq_true.mp dec_50 mi (List.mem_range'_1.mpr ⟨by omega, by omega⟩)
  by_cases h64 : mi < 64
  · exact List.all_eq_true.mp dec_57 mi (List.mem_range'_1.mpr ⟨by omega, by omega⟩)
  by_cases h69 : mi < 69
  · exact List.all_eq_true.mp dec_64 mi (List.mem_range'_1.mpr ⟨by omega, by omega⟩)
  by_cases h77 : mi < 77
  · exact List.all_eq_true.mp dec_69 mi (List.mem_range'_1.mpr ⟨by omega, by omega⟩)
  by_cases h82 : mi < 82
  · exact List.all_eq_true.mp dec_77 mi (List.mem_range'_1.mpr ⟨by omega, by omega⟩)
  by_cases h84 : mi < 84
  · exact List.all_eq_true.mp dec_82 mi (List.mem_range'_1.mpr ⟨by omega, by omega⟩)
  by_cases h88 : mi < 88
  · exact List.all_eq_true.mp dec_84 mi (List.mem_range'_1.mpr ⟨by omega, by omega⟩)
  by_cases h94 : mi < 94
  · exact List.all_eq_true.mp dec_88 mi (List.mem_range'_1.mpr ⟨by omega, by omega⟩)
  by_cases h105 : mi < 105
  · exact List.all_eq_true.mp dec_94 mi (List.mem_range'_1.mpr ⟨by omega, by omega⟩)
  by_cases h111 : mi < 111
  · exact List.all_eq_true.mp dec_105 mi (List.mem_range'_1.mpr ⟨by omega, by omega⟩)
  by_cases h115 : mi < 115
  · exact List.all_eq_true.mp dec_111 mi (List.mem_range'_1.mpr ⟨by omega, by omega⟩)
  by_cases h116 : mi < 116
  · exact List.all_eq_true.mp dec_115 mi (List.mem_range'_1.mpr ⟨by omega, by omega⟩)
  by_cases h121 : mi < 121
  · exact List.all_eq_true.mp dec_116 mi (List.mem_range'_1.mpr ⟨by omega, by omega⟩)
  by_cases h124 : mi < 124
  · exact List.all_eq_true.mp dec_121 mi (List.mem_range'_1.mpr ⟨by omega, by omega⟩)
  by_cases h125 : mi < 125
  · exact List.all_eq_true.mp dec_124 mi (List.mem_range'_1.mpr ⟨by omega, by omega⟩)
  by_cases h134 : mi < 134
  · exact List.all_eq_true.mp dec_125 mi (List.mem_range'_1.mpr ⟨by omega, by omega⟩)
  by_cases h136 : mi < 136
  · exact List.all_eq_true.mp dec_134 mi (List.mem_range'_1.mpr ⟨by omega, by omega⟩)
  by_cases h140 : mi < 140
  · exact List.all_eq_true.mp dec_136 mi (List.mem_range'_1.mpr ⟨by omega, by omega⟩)
  by_cases h141 : mi < 141
  · exact List.all_eq_true.mp dec_140 mi (List.mem_range'_1.mpr ⟨by omega, by omega⟩)
  by_cases h144 : mi < 144
  · exact List.all_eq_true.mp dec_141 mi (List.mem_range'_1.mpr ⟨by omega, by omega⟩)
  by_cases h147 : mi < 147
  · exact List.all_eq_true.mp dec_144 mi (List.mem_range'_1.mpr ⟨by omega, by omega⟩)
  by_cases h152 : mi < 152
  · exact List.all_eq_true.mp dec_147 mi (List.mem_range'_1.mpr ⟨by omega, by omega⟩)
  by_cases h154 : mi < 154
  · exact List.all_eq_true.mp dec_152 mi (List.mem_range'_1.mpr ⟨by omega, by omega⟩)
  by_cases h156 : mi < 156
  · exact List.all_eq_true.mp dec_154 mi (List.mem_range'_1.mpr ⟨by omega, by omega⟩)
  by_cases h160 : mi < 160
  · exact List.all_eq_true.mp dec_156 mi (List.mem_range'_1.mpr ⟨by omega, by omega⟩)
  by_cases h162 : mi < 162
  · exact List.all_eq_true.mp dec_160 mi (List.mem_range'_1.mpr ⟨by omega, by omega⟩)
  by_cases h164 : mi < 164
  · exact List.all_eq_true.mp dec_162 mi (List.mem_range'_1.mpr ⟨by omega, by omega⟩)
  by_cases h168 : mi < 168
  · exact List.all_eq_true.mp dec_164 mi (List.mem_range'_1.mpr ⟨by omega, by omega⟩)
  by_cases h170 : mi < 170
  · exact List.all_eq_true.mp dec_168 mi (List.mem_range'_1.mpr ⟨by omega, by omega⟩)
  by_cases h171 : mi < 171
  · exact List.all_eq_true.mp dec_170 mi (List.mem_range'_1.mpr ⟨by omega, by omega⟩)
  by_cases h174 : mi < 174
  · exact List.all_eq_true.mp dec_171 mi (List.mem_range'_1.mpr ⟨by omega, by omega⟩)
  by_cases h179 : mi < 179
  · exact List.all_eq_true.mp dec_174 mi (List.mem_range'_1.mpr ⟨by omega, by omega⟩)
  by_cases h183 : mi < 183
  · exact List.all_eq_true.mp dec_179 mi (List.mem_range'_1.mpr ⟨by omega, by omega⟩)
  by_cases h184 : mi < 184
  · exact List.all_eq_true.mp dec_183 mi (List.mem_range'_1.mpr ⟨by omega, by omega⟩)
  by_cases h185 : mi < 185
  · exact List.all_eq_true.mp dec_184 mi (List.mem_range'_1.mpr ⟨by omega, by omega⟩)
  by_cases h186 : mi < 186
  · exact List.all_eq_true.mp dec_185 mi (List.mem_range'_1.mpr ⟨by omega, by omega⟩)
  omega
theorem decLaw : ∀ q, q < 89 → (match pL_law[q]? with | some l => chkQ 186 q l | none => true) = true := by
  intro mi h
  by_cases h8 : mi < 8
  · exact List.all_eq_true.mp decL_0 mi (List.mem_range'_1.mpr ⟨by omega, by omega⟩)
  by_cases h16 : mi < 16
  · exact List.all_eq_true.mp decL_8 mi (List.mem_range'_1.mpr ⟨by omega, by omega⟩)
  by_cases h24 : mi < 24
  · exact List.all_eq_true.mp decL_16 mi (List.mem_range'_1.mpr ⟨by omega, by omega⟩)
  by_cases h32 : mi < 32
  · exact List.all_eq_true.mp decL_24 mi (List.mem_range'_1.mpr ⟨by omega, by omega⟩)
  by_cases h40 : mi < 40
  · exact List.all_eq_true.mp decL_32 mi (List.mem_range'_1.mpr ⟨by omega, by omega⟩)
  by_cases h48 : mi < 48
  · exact List.all_eq_true.mp decL_40 mi (List.mem_range'_1.mpr ⟨by omega, by omega⟩)
  by_cases h56 : mi < 56
  · exact List.all_eq_true.mp decL_48 mi (List.mem_range'_1.mpr ⟨by omega, by omega⟩)
  by_cases h64 : mi < 64
  · exact List.all_eq_true.mp decL_56 mi (List.mem_range'_1.mpr ⟨by omega, by omega⟩)
  by_cases h72 : mi < 72
  · exact List.all_eq_true.mp decL_64 mi (List.mem_range'_1.mpr ⟨by omega, by omega⟩)
  by_cases h80 : mi < 80
  · exact List.all_eq_true.mp decL_72 mi (List.mem_range'_1.mpr ⟨by omega, by omega⟩)
  by_cases h88 : mi < 88
  · exact List.all_eq_true.mp decL_80 mi (List.mem_range'_1.mpr ⟨by omega, by omega⟩)
  by_cases h89 : mi < 89
  · exact List.all_eq_true.mp decL_88 mi (List.mem_range'_1.mpr ⟨by omega, by omega⟩)
  omega
theorem mP_ok {mi pc : Nat} {e : En} (h : mP mi pc = some e) : chkE mi pc e = true := by
  unfold mP at h
  have e0 : pc = 16 * (pc / 16) + pc % 16 := by omega
  generalize hq : pc / 16 = q at h e0
  generalize hr : pc % 16 = r at h e0
  cases ht : mPT[mi]? with
  | none => rw [ht] at h; simp at h
  | some t =>
    rw [ht] at h
    simp only [Option.bind_some] at h
    cases hl : t[q]? with
    | none => rw [hl] at h; simp at h
    | some l =>
      rw [hl] at h
      simp only [Option.bind_some] at h
      have hrl : r < l.length := by
        rcases Nat.lt_or_ge r l.length with q | q
        · exact q
        · rw [List.getElem?_eq_none q] at h; simp at h
      have hQ : chkQ mi q l = true := by
        have hmi : mi < 187 := by
          have := (List.getElem?_eq_some_iff.mp ht).1
          exact this
        have hql := (List.getElem?_eq_some_iff.mp hl).1
        by_cases h6 : mi < 186
        · have h1 := decAll mi h6
          rw [ht] at h1
          have h2 := List.all_eq_true.mp h1 q (List.mem_range.mpr hql)
          rw [hl] at h2
          exact h2
        · have h7 : mi = 186 := by omega
          subst h7
          have ht2 : t = pL_law := by
            have h8 : mPT[186]? = some pL_law := rfl
            rw [h8] at ht
            exact (Option.some.inj ht).symm
          subst ht2
          have h3 := decLaw q hql
          rw [hl] at h3
          exact h3
      have h4 := List.all_eq_true.mp hQ r (List.mem_range.mpr hrl)
      rw [h] at h4
      rw [e0]
      exact h4
/-! the pure machine: cells by number; a cell's shape; ints, longs and references of all cells -/
abbrev Hp : Type := List (Nat × Nat) × (Nat → Nat → Int32) × (Nat → Nat → Int64) × (Nat → Nat → Option Nat)
abbrev Ls : Type := List (Option Value)
abbrev Scr : Type := Option (Nat × (Nat → Int32))
def sX (h : Hp) (a k : Nat) (v : Int32) : Hp := (h.1, va_up h.2.1 a (va_up (h.2.1 a) k v), h.2.2.1, h.2.2.2)
def sY (h : Hp) (a k : Nat) (v : Int64) : Hp := (h.1, h.2.1, va_up h.2.2.1 a (va_up (h.2.2.1 a) k v), h.2.2.2)
def sZ (h : Hp) (a k : Nat) (v : Nat) : Hp := (h.1, h.2.1, h.2.2.1, va_up h.2.2.2 a (va_up (h.2.2.2 a) k (some v)))
def sR (h : Hp) (a : Nat) (g : Nat → Int32) : Hp := (h.1, va_up h.2.1 a g, h.2.2.1, h.2.2.2)
def nw (h : Hp) (kd n : Nat) : Hp := (h.1 ++ [(kd, n)], va_up h.2.1 h.1.length (fun _ => 0), va_up h.2.2.1 h.1.length (fun _ => 0), va_up h.2.2.2 h.1.length (fun _ => none))
def nwM (h : Hp) (k : Nat) : Nat → Hp
  | 0 => h
  | n + 1 => nw (nwM h k n) 100 k
def sZR (h : Hp) (a : Nat) (g : Nat → Option Nat) : Hp := (h.1, h.2.1, h.2.2.1, va_up h.2.2.2 a g)
def hSz (h : Hp) : Nat := (h.1.map (fun q => q.2)).sum
/-- an object's field, an array's element; none: it isn't there -/
def gI (h : Hp) (ci a k : Nat) : Option Int32 := match h.1[a]? with
  | some q => if q.1 = ci then some (h.2.1 a k) else none
  | none => none
def gL (h : Hp) (ci a k : Nat) : Option Int64 := match h.1[a]? with
  | some q => if q.1 = ci then some (h.2.2.1 a k) else none
  | none => none
def gR (h : Hp) (ci a k : Nat) : Option Nat := match h.1[a]? with
  | some q => if q.1 = ci then h.2.2.2 a k else none
  | none => none
def pI (h : Hp) (ci a k : Nat) (v : Int32) : Option Hp := match h.1[a]? with
  | some q => if q.1 = ci then some (sX h a k v) else none
  | none => none
def pL (h : Hp) (ci a k : Nat) (v : Int64) : Option Hp := match h.1[a]? with
  | some q => if q.1 = ci then some (sY h a k v) else none
  | none => none
def pR (h : Hp) (ci a k : Nat) (v : Nat) : Option Hp := match h.1[a]? with
  | some q => if q.1 = ci then some (sZ h a k v) else none
  | none => none
/-- element i of an array of kind t -/
def eI (h : Hp) (t a : Nat) (i : Int32) : Option Int32 := match h.1[a]? with
  | some q => if q.1 = 100 + t ∧ ¬ (i < 0 ∨ q.2 ≤ i.toNatClampNeg) then some (h.2.1 a i.toNatClampNeg) else none
  | none => none
def eL (h : Hp) (a : Nat) (i : Int32) : Option Int64 := match h.1[a]? with
  | some q => if q.1 = 103 ∧ ¬ (i < 0 ∨ q.2 ≤ i.toNatClampNeg) then some (h.2.2.1 a i.toNatClampNeg) else none
  | none => none
def eR (h : Hp) (a : Nat) (i : Int32) : Option Nat := match h.1[a]? with
  | some q => if (104 ≤ q.1 ∧ q.1 ≤ 106) ∧ ¬ (i < 0 ∨ q.2 ≤ i.toNatClampNeg) then h.2.2.2 a i.toNatClampNeg else none
  | none => none
def wI (h : Hp) (t a : Nat) (i : Int32) (v : Int32) : Option Hp := match h.1[a]? with
  | some q => if q.1 = 100 + t ∧ ¬ (i < 0 ∨ q.2 ≤ i.toNatClampNeg) then some (sX h a i.toNatClampNeg v) else none
  | none => none
def wL (h : Hp) (a : Nat) (i : Int32) (v : Int64) : Option Hp := match h.1[a]? with
  | some q => if q.1 = 103 ∧ ¬ (i < 0 ∨ q.2 ≤ i.toNatClampNeg) then some (sY h a i.toNatClampNeg v) else none
  | none => none
/-- an object of class ci into an array of references of kind t: 4 holds class 4, 5 holds class 0 -/
def wR (h : Hp) (a : Nat) (i : Int32) (v : Nat) : Option Hp := match h.1[a]?, h.1[v]? with
  | some q, some r => if ((q.1 = 104 ∧ r.1 = 4) ∨ (q.1 = 105 ∧ r.1 = 0)) ∧ ¬ (i < 0 ∨ q.2 ≤ i.toNatClampNeg) then some (sZ h a i.toNatClampNeg v) else none
  | _, _ => none
def ldL (ls : Ls) (k : Nat) : Option Value := (ls[k]?).join
def klL (ls : Ls) (k : Nat) : Ls := match k with
  | 0 => ls
  | j + 1 => match ldL ls j with
    | some v => if v.category = 2 then ls.set j none else ls
    | none => ls
def st1 (ls : Ls) (k : Nat) (v : Value) : Ls := (klL ls k).set k (some v)
def st2 (ls : Ls) (k : Nat) (v : Value) : Ls := ((klL ls k).set k (some v)).set (k + 1) none
abbrev Fr : Type := Nat × Ls × List Value × Hp
def oI1 (f : Int32 → Value) : List Value → Option (List Value)
  | .int x :: r => some (f x :: r)
  | _ => none
def oI2 (f : Int32 → Int32 → Value) : List Value → Option (List Value)
  | .int y :: .int x :: r => some (f x y :: r)
  | _ => none
def oL1 (f : Int64 → Value) : List Value → Option (List Value)
  | .long x :: r => some (f x :: r)
  | _ => none
def oL2 (f : Int64 → Int64 → Value) : List Value → Option (List Value)
  | .long y :: .long x :: r => some (f x y :: r)
  | _ => none
def oLI (f : Int64 → Int32 → Value) : List Value → Option (List Value)
  | .int y :: .long x :: r => some (f x y :: r)
  | _ => none
def fr (pc : Nat) (ls : Ls) (h : Hp) (o : Option (List Value)) : Option Fr := o.map (fun s => (pc, ls, s, h))
def dI (P : Int32 → Prop) [DecidablePred P] (a b : Nat) (ls : Ls) (h : Hp) : List Value → Option Fr
  | .int x :: r => if P x then some (a, ls, r, h) else some (b, ls, r, h)
  | _ => none
def d2 (P : Int32 → Int32 → Prop) [∀ x y, Decidable (P x y)] (a b : Nat) (ls : Ls) (h : Hp) : List Value → Option Fr
  | .int y :: .int x :: r => if P x y then some (a, ls, r, h) else some (b, ls, r, h)
  | _ => none
def cI (v : Option Value) (pc : Nat) (ls : Ls) (st : List Value) (h : Hp) : Option Fr := match v with
  | some (.int x) => some (pc, ls, .int x :: st, h)
  | _ => none
def cL (v : Option Value) (pc : Nat) (ls : Ls) (st : List Value) (h : Hp) : Option Fr := match v with
  | some (.long x) => some (pc, ls, .long x :: st, h)
  | _ => none
def cA (v : Option Value) (pc : Nat) (ls : Ls) (st : List Value) (h : Hp) : Option Fr := match v with
  | some (.ref x) => some (pc, ls, .ref x :: st, h)
  | _ => none
def kI (k pc : Nat) (ls : Ls) (h : Hp) : List Value → Option Fr
  | .int x :: r => if k < ls.length then some (pc, st1 ls k (.int x), r, h) else none
  | _ => none
def kA (k pc : Nat) (ls : Ls) (h : Hp) : List Value → Option Fr
  | .ref x :: r => if k < ls.length then some (pc, st1 ls k (.ref x), r, h) else none
  | _ => none
def kL (k pc : Nat) (ls : Ls) (h : Hp) : List Value → Option Fr
  | .long x :: r => if k + 1 < ls.length then some (pc, st2 ls k (.long x), r, h) else none
  | _ => none
def swT (pc : Nat) (off : Int) (ls : Ls) (st : List Value) (h : Hp) : Option Fr := if (pc : Int) + off = (((pc : Int) + off).toNat : Int) then some (((pc : Int) + off).toNat, ls, st, h) else none
def fGet (ci k pc : Nat) (ls : Ls) (h : Hp) : List Value → Option Fr
  | .ref a :: r => match mTK ci k with
    | 0 => (gI h ci a k).map (fun v => (pc, ls, .int v :: r, h))
    | 1 => (gL h ci a k).map (fun v => (pc, ls, .long v :: r, h))
    | 2 => (gR h ci a k).map (fun v => (pc, ls, .ref v :: r, h))
    | _ => none
  | _ => none
def fPut (ci k pc : Nat) (ls : Ls) (h : Hp) : List Value → Option Fr
  | .int v :: .ref a :: r => if mTK ci k = 0 then (pI h ci a k v).map (fun g => (pc, ls, r, g)) else none
  | .long v :: .ref a :: r => if mTK ci k = 1 then (pL h ci a k v).map (fun g => (pc, ls, r, g)) else none
  | .ref v :: .ref a :: r => if mTK ci k = 2 then (pR h ci a k v).map (fun g => (pc, ls, r, g)) else none
  | _ => none
/-- the script's cell has the number 1000 -/
def aI (scr : Scr) (pc : Nat) (ls : Ls) (h : Hp) : List Value → Option Fr
  | .int i :: .ref a :: r => if a = 1000 then (match scr with
      | some q => if ¬ (i < 0 ∨ q.1 ≤ i.toNatClampNeg) then some (pc, ls, .int (q.2 i.toNatClampNeg) :: r, h) else none
      | none => none) else (eI h 0 a i).map (fun v => (pc, ls, .int v :: r, h))
  | _ => none
def aB (pc : Nat) (ls : Ls) (h : Hp) : List Value → Option Fr
  | .int i :: .ref a :: r => match h.1[a]? with
    | some q => if q.1 = 101 then (eI h 1 a i).map (fun v => (pc, ls, .int v :: r, h)) else (eI h 2 a i).map (fun v => (pc, ls, .int v :: r, h))
    | none => none
  | _ => none
def aJ (pc : Nat) (ls : Ls) (h : Hp) : List Value → Option Fr
  | .int i :: .ref a :: r => (eL h a i).map (fun v => (pc, ls, .long v :: r, h))
  | _ => none
def aA (pc : Nat) (ls : Ls) (h : Hp) : List Value → Option Fr
  | .int i :: .ref a :: r => (eR h a i).map (fun v => (pc, ls, .ref v :: r, h))
  | _ => none
def aLen (scr : Scr) (pc : Nat) (ls : Ls) (h : Hp) : List Value → Option Fr
  | .ref a :: r => if a = 1000 then (match scr with
      | some q => some (pc, ls, .int (Int32.ofNat q.1) :: r, h)
      | none => none) else none
  | _ => none
def uI (pc : Nat) (ls : Ls) (h : Hp) : List Value → Option Fr
  | .int x :: .int i :: .ref a :: r => (wI h 0 a i x).map (fun g => (pc, ls, r, g))
  | _ => none
def uB (pc : Nat) (ls : Ls) (h : Hp) : List Value → Option Fr
  | .int x :: .int i :: .ref a :: r => match h.1[a]? with
    | some q => if q.1 = 101 then (wI h 1 a i x.toInt8.toInt32).map (fun g => (pc, ls, r, g)) else (wI h 2 a i (x &&& 1)).map (fun g => (pc, ls, r, g))
    | none => none
  | _ => none
def uJ (pc : Nat) (ls : Ls) (h : Hp) : List Value → Option Fr
  | .long x :: .int i :: .ref a :: r => (wL h a i x).map (fun g => (pc, ls, r, g))
  | _ => none
def uA (pc : Nat) (ls : Ls) (h : Hp) : List Value → Option Fr
  | .ref v :: .int i :: .ref a :: r => (wR h a i v).map (fun g => (pc, ls, r, g))
  | _ => none
def mNew (ci n pc : Nat) (ls : Ls) (st : List Value) (h : Hp) : Option Fr := if h.1.length < 900 then some (pc, ls, .ref h.1.length :: st, nw h ci n) else none
def mNwA (t pc : Nat) (ls : Ls) (h : Hp) : List Value → Option Fr
  | .int n :: r => if h.1.length < 900 ∧ ¬ n < 0 ∧ n.toNatClampNeg ≤ 1000 then some (pc, ls, .ref h.1.length :: r, nw h (100 + t) n.toNatClampNeg) else none
  | _ => none
def mNwM (pc : Nat) (ls : Ls) (h : Hp) : List Value → Option Fr
  | .int k :: .int n :: r => if h.1.length < 900 ∧ ¬ n < 0 ∧ ¬ k < 0 ∧ n.toNatClampNeg ≤ 50 ∧ k.toNatClampNeg ≤ 1000 then some (pc, ls, .ref h.1.length :: r, sZR (nwM (nw h 106 n.toNatClampNeg) k.toNatClampNeg n.toNatClampNeg) h.1.length (fun i => if i < n.toNatClampNeg then some (h.1.length + 1 + i) else none)) else none
  | _ => none
def stp (scr : Scr) (i : Instr) (x : Au) (pc : Nat) (ls : Ls) (st : List Value) (h : Hp) : Option Fr := match i with
  | .iconst n => some (pc + 1, ls, .int (Int32.ofInt n) :: st, h)
  | .bipush n => some (pc + 2, ls, .int (Int8.ofInt n).toInt32 :: st, h)
  | .sipush n => some (pc + 3, ls, .int (Int16.ofInt n).toInt32 :: st, h)
  | .lconst n => some (pc + 1, ls, .long (Int64.ofNat (n : Nat)) :: st, h)
  | .ldc2_w _ => some (pc + 3, ls, .long (Int64.ofInt x.2.2.2) :: st, h)
  | .iload k => cI (ldL ls k) (pc + 2) ls st h
  | .iload_n k => cI (ldL ls k) (pc + 1) ls st h
  | .lload k => cL (ldL ls k) (pc + 2) ls st h
  | .lload_n k => cL (ldL ls k) (pc + 1) ls st h
  | .aload k => cA (ldL ls k) (pc + 2) ls st h
  | .aload_n k => cA (ldL ls k) (pc + 1) ls st h
  | .istore k => kI k (pc + 2) ls h st
  | .istore_n k => kI k (pc + 1) ls h st
  | .lstore k => kL k (pc + 2) ls h st
  | .lstore_n k => kL k (pc + 1) ls h st
  | .astore k => kA k (pc + 2) ls h st
  | .astore_n k => kA k (pc + 1) ls h st
  | .iinc k n => (match ldL ls k with
    | some (.int v) => if k < ls.length then some (pc + 3, st1 ls k (.int (v + Int32.ofInt n)), st, h) else none
    | _ => none)
  | .iadd => fr (pc + 1) ls h (oI2 (fun a b => .int (a + b)) st)
  | .isub => fr (pc + 1) ls h (oI2 (fun a b => .int (a - b)) st)
  | .imul => fr (pc + 1) ls h (oI2 (fun a b => .int (a * b)) st)
  | .iand => fr (pc + 1) ls h (oI2 (fun a b => .int (a &&& b)) st)
  | .ior => fr (pc + 1) ls h (oI2 (fun a b => .int (a ||| b)) st)
  | .ishl => fr (pc + 1) ls h (oI2 (fun a b => .int (a <<< (b &&& 31))) st)
  | .ishr => fr (pc + 1) ls h (oI2 (fun a b => .int (a >>> (b &&& 31))) st)
  | .idiv => (match st with
    | .int b :: .int a :: r => if b = 0 then none else some (pc + 1, ls, .int (a / b) :: r, h)
    | _ => none)
  | .ladd => fr (pc + 1) ls h (oL2 (fun a b => .long (a + b)) st)
  | .lmul => fr (pc + 1) ls h (oL2 (fun a b => .long (a * b)) st)
  | .land => fr (pc + 1) ls h (oL2 (fun a b => .long (a &&& b)) st)
  | .lor => fr (pc + 1) ls h (oL2 (fun a b => .long (a ||| b)) st)
  | .ldiv => (match st with
    | .long b :: .long a :: r => if b = 0 then none else some (pc + 1, ls, .long (a / b) :: r, h)
    | _ => none)
  | .lrem => (match st with
    | .long b :: .long a :: r => if b = 0 then none else some (pc + 1, ls, .long (a - a / b * b) :: r, h)
    | _ => none)
  | .lcmp => fr (pc + 1) ls h (oL2 (fun a b => .int (lg_cmp a b)) st)
  | .lshl => fr (pc + 1) ls h (oLI (fun a b => .long (a <<< (b.toInt64 &&& 63))) st)
  | .lshr => fr (pc + 1) ls h (oLI (fun a b => .long (a >>> (b.toInt64 &&& 63))) st)
  | .lushr => fr (pc + 1) ls h (oLI (fun a b => .long (a.toUInt64 >>> (b.toInt64.toUInt64 &&& Int64.toUInt64 63)).toInt64) st)
  | .i2l => fr (pc + 1) ls h (oI1 (fun a => .long a.toInt64) st)
  | .l2i => fr (pc + 1) ls h (oL1 (fun a => .int a.toInt32) st)
  | .i2b => fr (pc + 1) ls h (oI1 (fun a => .int a.toInt8.toInt32) st)
  | .dup => (match st with
    | v :: r => if v.category = 1 then some (pc + 1, ls, v :: v :: r, h) else none
    | _ => none)
  | .dup2 => (match st with
    | v :: w :: r => if v.category = 1 ∧ w.category = 1 then some (pc + 1, ls, v :: w :: v :: w :: r, h) else none
    | _ => none)
  | .goto _ => some (x.1, ls, st, h)
  | .ifCond c _ => (match c with
    | .eq => dI (fun a => a = 0) x.1 (pc + 3) ls h st
    | .ne => dI (fun a => a = 0) (pc + 3) x.1 ls h st
    | .lt => dI (fun a => a < 0) x.1 (pc + 3) ls h st
    | .ge => dI (fun a => 0 ≤ a) x.1 (pc + 3) ls h st
    | .gt => dI (fun a => 0 < a) x.1 (pc + 3) ls h st
    | .le => dI (fun a => a ≤ 0) x.1 (pc + 3) ls h st)
  | .if_icmp c _ => (match c with
    | .eq => d2 (fun a b => a = b) x.1 (pc + 3) ls h st
    | .ne => d2 (fun a b => a = b) (pc + 3) x.1 ls h st
    | .lt => d2 (fun a b => a < b) x.1 (pc + 3) ls h st
    | .ge => d2 (fun a b => b ≤ a) x.1 (pc + 3) ls h st
    | .gt => d2 (fun a b => b < a) x.1 (pc + 3) ls h st
    | .le => d2 (fun a b => a ≤ b) x.1 (pc + 3) ls h st)
  | .tableswitch df lo hi os => (match st with
    | .int v :: r => if v.toInt < lo ∨ hi < v.toInt then swT pc df ls r h else (match os[(v.toInt - lo).toNat]? with
      | some o => swT pc o ls r h
      | none => none)
    | _ => none)
  | .lookupswitch df ps => (match st with
    | .int v :: r => if (ps.toList.zip (ps.toList.drop 1)).all (fun q => q.1.1 < q.2.1) = true then swT pc (Op.lookupswitch.offset ps.toList df v.toInt) ls r h else none
    | _ => none)
  | .getfield _ => fGet x.1 x.2.1 (pc + 3) ls h st
  | .putfield _ => fPut x.1 x.2.1 (pc + 3) ls h st
  | .iaload => aI scr (pc + 1) ls h st
  | .baload => aB (pc + 1) ls h st
  | .laload => aJ (pc + 1) ls h st
  | .aaload => aA (pc + 1) ls h st
  | .iastore => uI (pc + 1) ls h st
  | .bastore => uB (pc + 1) ls h st
  | .lastore => uJ (pc + 1) ls h st
  | .aastore => uA (pc + 1) ls h st
  | .arraylength => aLen scr (pc + 1) ls h st
  | .new _ => mNew x.1 x.2.1 (pc + 3) ls st h
  | .newarray _ => mNwA x.1 (pc + 2) ls h st
  | .anewarray _ => mNwA x.1 (pc + 3) ls h st
  | .multianewarray _ _ => mNwM (pc + 4) ls h st
  | _ => none
def isInv : Instr → Bool
  | .invokevirtual _ => true
  | .invokespecial _ => true
  | .invokestatic _ => true
  | _ => false
/-- a method's end -/
def rt (mi : Nat) (i : Instr) (st : List Value) : Option (Option Value) := match i with
  | .ireturn => (match st with
    | [.int v] => (match mR mi with
      | some .int => some (some (.int v))
      | some .boolean => if v &&& 1 = v then some (some (.int v)) else none
      | _ => none)
    | _ => none)
  | .lreturn => (match st with
    | [.long v] => (match mR mi with
      | some .long => some (some (.long v))
      | _ => none)
    | _ => none)
  | .areturn => (match st with
    | [.ref v] => (match mR mi with
      | some (.object _) => some (some (.ref v))
      | _ => none)
    | _ => none)
  | .return_ => (match st with
    | [] => (match mR mi with
      | none => some none
      | _ => none)
    | _ => none)
  | _ => none
def ctS (st : List Value) : Nat := (st.map fun v => v.category).sum
/-- the calls that the kit has rows for: Object's constructor, max, min, arraycopy -/
def inr (kd d pc : Nat) (ls : Ls) (st : List Value) (h : Hp) : Option Fr := if d = 0 then none else match kd with
  | 4 => (match st with
    | .ref _ :: r => if ctS r ≤ 8 then some (pc + 3, ls, r, h) else none
    | _ => none)
  | 5 => (match st with
    | .int y :: .int x :: r => if ctS r ≤ 8 then some (pc + 3, ls, .int (if x < y then y else x) :: r, h) else none
    | _ => none)
  | 6 => (match st with
    | .int y :: .int x :: r => if ctS r ≤ 8 then some (pc + 3, ls, .int (if y < x then y else x) :: r, h) else none
    | _ => none)
  | 7 => (match st with
    | .long y :: .long x :: r => if ctS r ≤ 8 then some (pc + 3, ls, .long (if y < x then x else y) :: r, h) else none
    | _ => none)
  | 8 => (match st with
    | .int n :: .int dp :: .ref a :: .int sp :: .ref a0 :: r => (match h.1[a0]?, h.1[a]? with
      | some q0, some q => if (q0.1 = 100 ∧ q.1 = 100 ∧ ctS r ≤ 8) ∧ ¬ sp < 0 ∧ ¬ dp < 0 ∧ ¬ n < 0 ∧ sp.toNatClampNeg + n.toNatClampNeg ≤ q0.2 ∧ dp.toNatClampNeg + n.toNatClampNeg ≤ q.2 then some (pc + 3, ls, r, sR h a (va_cpy (h.2.1 a0) (h.2.1 a) sp.toNatClampNeg dp.toNatClampNeg n.toNatClampNeg)) else none
      | _, _ => none)
    | _ => none)
  | _ => none
def entL : List Value → Ls
  | [] => []
  | v :: vs => if v.category = 2 then some v :: none :: entL vs else some v :: entL vs
def ent (t : Nat) (av : List Value) : Ls := entL av ++ List.replicate (mL t - (entL av).length) none
/-- a receiver of class c stands first -/
def rcv (h : Hp) (c : Nat) : List Value → Bool
  | .ref a :: _ => match h.1[a]? with
    | some q => q.1 == c
    | none => false
  | _ => false
def calOk (t na kd d : Nat) (st : List Value) (h : Hp) : Bool := decide (d ≠ 0) && decide (na ≤ st.length) && decide (ctS (st.drop na) ≤ 8) && (kd == 1 || rcv h (mO t) (st.take na).reverse) && decide ((entL (st.take na).reverse).length ≤ mL t)
def run : Nat → Nat → Scr → Nat → Nat → Ls → List Value → Hp → Option (Option Value × Hp)
  | 0, _, _, _, _, _, _, _ => none
  | n + 1, d, scr, mi, pc, ls, st, h => match mP mi pc with
    | none => none
    | some e => match rt mi e.1 st with
      | some v => some (v, h)
      | none => if isInv e.1 = true then (if e.2.2.2.2.2 < 4 then
            (if calOk e.2.2.1 e.2.2.2.1 e.2.2.2.2.2.toNat d st h = true then
              (match run n (d - 1) none e.2.2.1 0 (ent e.2.2.1 (st.take e.2.2.2.1).reverse) [] h with
              | some q => run n d scr mi (pc + 3) ls (q.1.toList ++ st.drop e.2.2.2.1) q.2
              | none => none)
            else none)
          else (match inr e.2.2.2.2.2.toNat d pc ls st h with
            | some q => run n d scr mi q.1 q.2.1 q.2.2.1 q.2.2.2
            | none => none))
        else (match stp scr e.1 e.2.2 pc ls st h with
          | some q => run n d scr mi q.1 q.2.1 q.2.2.1 q.2.2.2
          | none => none)
/-- the length of an instruction -/
def ilen : Instr → Nat
  | .bipush _ | .iload _ | .lload _ | .aload _ | .istore _ | .lstore _ | .astore _ | .newarray _ => 2
  | .sipush _ | .ldc2_w _ | .getfield _ | .putfield _ | .invokevirtual _ | .invokespecial _ | .invokestatic _ | .new _ | .anewarray _ | .ifCond _ _ | .if_icmp _ _ | .goto _ | .iinc _ _ => 3
  | .multianewarray _ _ => 4
  | _ => 1
/-- the length, and that a call's kind is that of its instruction -/
def lenE (e : En) : Bool := match e.1 with
  | .tableswitch _ _ _ _ => true
  | .lookupswitch _ _ => true
  | .invokevirtual _ => e.2.1 == 3 && decide (e.2.2.2.2.2 = 0)
  | .invokespecial _ => e.2.1 == 3 && decide (e.2.2.2.2.2 = 2 ∨ e.2.2.2.2.2 = 3 ∨ (e.2.2.2.2.2 = 4 ∧ e.2.2.1 = 1000))
  | .invokestatic _ => e.2.1 == 3 && decide (e.2.2.2.2.2 = 1 ∨ (e.2.2.2.2.2 = 5 ∧ e.2.2.1 = 1001) ∨ (e.2.2.2.2.2 = 6 ∧ e.2.2.1 = 1002) ∨ (e.2.2.2.2.2 = 7 ∧ e.2.2.1 = 1003) ∨ (e.2.2.2.2.2 = 8 ∧ e.2.2.1 = 1004))
  | i => e.2.1 == ilen i
theorem mPT_len : mPT.all (fun t => t.all (fun l => l.all (fun o => match o with
  | some e => lenE e
  | none => true))) = true := by decide +kernel
theorem mP_len {mi pc : Nat} {e : En} (h : mP mi pc = some e) : lenE e = true := by
  unfold mP at h
  cases ht : mPT[mi]? with
  | none => rw [ht] at h; simp at h
  | some t =>
    rw [ht] at h
    simp only [Option.bind_some] at h
    cases hl : t[pc / 16]? with
    | none => rw [hl] at h; simp at h
    | some l =>
      rw [hl] at h
      simp only [Option.bind_some] at h
      cases ho : l[pc % 16]? with
      | none => rw [ho] at h; simp at h
      | some o =>
        rw [ho] at h
        have h1 := List.all_eq_true.mp (List.all_eq_true.mp (List.all_eq_true.mp mPT_len t (List.mem_of_getElem? ht)) l (List.mem_of_getElem? hl)) o (List.mem_of_getElem? ho)
        have h2 : o = some e := h
        rw [h2] at h1
        exact h1
end
section
/-! the machine's heap and the pure one's -/
def mLY : List (List Nat) := [[176, 178, 180, 182, 184, 186, 188, 190], [117, 119, 121, 123], [142, 144, 146, 148, 150], [82, 84], [221, 223, 225, 227, 229, 231, 233, 235, 237, 239, 241], [107, 109], [253, 255, 257, 259, 261, 263, 265, 267], [764, 766, 768, 770, 772, 774, 776, 778, 780, 782, 784, 786, 788, 790, 792, 794, 796, 798, 800, 802, 804, 806, 808, 810, 812, 814, 816, 818, 820, 822, 824, 826, 828, 830, 832]]
def lw_gd : List Cond := lw_tbl.filter goodWord
theorem gdm {i : Nat} {w : Cond} (h : lw_tbl[i]? = some w) (g : goodWord w = true) : w ∈ lw_gd := List.mem_filter.mpr ⟨List.mem_of_getElem? h, g⟩
theorem mLY_ok : ((List.range 8).all fun ci => (List.range (mNN ci)).all fun k => decide (lw_tbl[((mLY[ci]?).bind (fun l => l[k]?)).getD 0]? = some (u_lay (mC ci) (mT ci) k)) && goodWord (u_lay (mC ci) (mT ci) k) && decide ((mT ci k).1 = mC ci)) = true := by decide +kernel
theorem mLay1 {ci k : Nat} (hci : ci < 8) (hk : k < mNN ci) : (lw_tbl[((mLY[ci]?).bind (fun l => l[k]?)).getD 0]? = some (u_lay (mC ci) (mT ci) k) ∧ goodWord (u_lay (mC ci) (mT ci) k) = true) ∧ (mT ci k).1 = mC ci := by
  have h := List.all_eq_true.mp (List.all_eq_true.mp mLY_ok ci (List.mem_range.mpr hci)) k (List.mem_range.mpr hk)
  simpa only [Bool.and_eq_true, decide_eq_true_eq] using h
theorem mLay {ci : Nat} (hci : ci < 8) : ∀ w ∈ u_ws (mC ci) (mT ci) (mNN ci), w ∈ lw_gd := by
  intro w hw
  obtain ⟨k, hk, rfl⟩ := List.mem_map.mp hw
  have h := mLay1 hci (List.mem_range.mp hk)
  exact gdm h.1.1 h.1.2
theorem lt8 {P : Nat → Prop} (h0 : P 0) (h1 : P 1) (h2 : P 2) (h3 : P 3) (h4 : P 4) (h5 : P 5) (h6 : P 6) (h7 : P 7) {ci : Nat} (hci : ci < 8) : P ci := by
  rcases (show ci = 0 ∨ ci = 1 ∨ ci = 2 ∨ ci = 3 ∨ ci = 4 ∨ ci = 5 ∨ ci = 6 ∨ ci = 7 by omega) with rfl | rfl | rfl | rfl | rfl | rfl | rfl | rfl <;> assumption
theorem vwAt {ci : Nat} (hci : ci < 8) : vwCl[ci]? = some (mC ci, mT ci, mNN ci) := lt8 (P := fun ci => vwCl[ci]? = some (mC ci, mT ci, mNN ci)) rfl rfl rfl rfl rfl rfl rfl rfl hci
def mTyF (ci : Nat) : Nat → FieldType := (mTyC[ci]?).getD (fun _ => .int)
theorem mTy_ok {ci : Nat} (hci : ci < 8) : ∀ k, k < mNN ci → parseFieldDescriptor (mT ci k).2.2.1 = some (mTyF ci k) :=
  lt8 (P := fun ci => ∀ k, k < mNN ci → parseFieldDescriptor (mT ci k).2.2.1 = some (mTyF ci k)) tyX0_ok tyX1_ok tyX2_ok tyX3_ok tyX4_ok tyX5_ok tyX6_ok tyX7_ok hci
theorem mNm_ok {ci : Nat} (hci : ci < 8) : ∀ a, a < mNN ci → ∀ b, b < mNN ci → a ≠ b → (mT ci a).2.1 ≠ (mT ci b).2.1 :=
  lt8 (P := fun ci => ∀ a, a < mNN ci → ∀ b, b < mNN ci → a ≠ b → (mT ci a).2.1 ≠ (mT ci b).2.1) nmX0 nmX1 nmX2 nmX3 nmX4 nmX5 nmX6 nmX7 hci
theorem mTK_of {ci k : Nat} (hci : ci < 8) (hk : k < mNN ci) : mTK ci k = (match mTyF ci k with | .int => 0 | .long => 1 | .object _ => 2 | .array _ => 2 | _ => 3) ∧ mTK ci k < 3 := by
  have h := List.all_eq_true.mp (List.all_eq_true.mp mFK_ok ci (List.mem_range.mpr hci)) k (List.mem_range.mpr hk)
  simp only [Bool.and_eq_true, decide_eq_true_eq] at h
  refine ⟨?_, h.2⟩
  rw [h.1]
  exact lt8 (P := fun ci => (match ((mTyC[ci]?).map (fun f => f k)).getD .boolean with | .int => 0 | .long => 1 | .object _ => 2 | .array _ => 2 | _ => 3) = (match mTyF ci k with | .int => 0 | .long => 1 | .object _ => 2 | .array _ => 2 | _ => 3)) rfl rfl rfl rfl rfl rfl rfl rfl hci
def ad (B b k : Nat) : Nat := if k = 1000 then b else B + k
def tr (B b : Nat) : Value → Value
  | .ref k => .ref (ad B b k)
  | v => v
theorem tr_cat (B b : Nat) (v : Value) : (tr B b v).category = v.category := by cases v <;> rfl
theorem ad_lt {B b k : Nat} (h : k < 1000) : ad B b k = B + k := if_neg (by omega)
def fv (B b : Nat) (h : Hp) (ci a k : Nat) : Value := match mTK ci k with
  | 0 => .int (h.2.1 a k)
  | 1 => .long (h.2.2.1 a k)
  | _ => va_rf ((h.2.2.2 a k).map (ad B b))
def ev (B b : Nat) (h : Hp) (t a k : Nat) : Value := if t < 3 then .int (h.2.1 a k) else if t = 3 then .long (h.2.2.1 a k) else va_rf ((h.2.2.2 a k).map (ad B b))
def mK (D : va_G) (cT : Nat → ClassId) (U : State) : Prop := (∀ (c : Nat) (q : vw_C), vwCl[c]? = some q → u_Kn U q.1 q.2.1 q.2.2 (D.1 c) (D.2 c)) ∧ ∀ (t : Nat) (ty : FieldType), mTY[t]? = some ty → ArrOfT U (cT t) ty ∧ va_RA U (cT t) ty
theorem mK.moved {D : va_G} {cT : Nat → ClassId} {u U : State} (hvm : u.vm.Alike U.vm) (h : mK D cT u) : mK D cT U := ⟨fun c q hq => u_Kn_moved hvm (h.1 c q hq), fun t ty ht => ⟨arrOfT_moved hvm (h.2 t ty ht).1, (h.2 t ty ht).2.moved hvm⟩⟩
def cAt (D : va_G) (cT : Nat → ClassId) (B b : Nat) (h : Hp) (a : Nat) (q : Nat × Nat) (H : Heap) : Prop :=
  (q.1 < 8 ∧ t_OB (B + a) (D.1 q.1) (mNN q.1) (D.2 q.1) H (fv B b h q.1 a)) ∨ (100 ≤ q.1 ∧ q.1 < 107 ∧ H[B + a]? = some (arrV (cT (q.1 - 100)) q.2 (ev B b h (q.1 - 100) a)))
def Rp (D : va_G) (cT : Nat → ClassId) (B b : Nat) (h : Hp) (H : Heap) : Prop := H.size = B + h.1.length ∧ h.1.length ≤ 1000 ∧ ∀ (a : Nat) (q : Nat × Nat), h.1[a]? = some q → cAt D cT B b h a q H
section RP
variable {D : va_G} {cT : Nat → ClassId} {B b : Nat} {h h' : Hp} {H H1 : Heap} {a ci n : Nat} {q : Nat × Nat}
theorem Rp.lt (hR : Rp D cT B b h H) (hq : h.1[a]? = some q) : a < h.1.length ∧ a < 1000 := by
  have h1 := (List.getElem?_eq_some_iff.mp hq).1
  have h2 := hR.2.1
  exact ⟨h1, by omega⟩
theorem Rp.obj (hR : Rp D cT B b h H) (hci : ci < 100) (hq : h.1[a]? = some (ci, n)) : ci < 8 ∧ t_OB (B + a) (D.1 ci) (mNN ci) (D.2 ci) H (fv B b h ci a) := by
  rcases hR.2.2 a _ hq with h1 | h1
  · exact h1
  · have := h1.1
    simp only at this
    omega
theorem Rp.arr {t : Nat} (hR : Rp D cT B b h H) (hq : h.1[a]? = some (100 + t, n)) : t < 7 ∧ H[B + a]? = some (arrV (cT t) n (ev B b h t a)) := by
  rcases hR.2.2 a _ hq with h1 | h1
  · have := h1.1
    simp only at this
    omega
  · obtain ⟨h2, h3, h4⟩ := h1
    simp only at h2 h3 h4
    rw [show 100 + t - 100 = t by omega] at h4
    exact ⟨by omega, h4⟩
theorem fv_congr (h1 : h'.2.1 a = h.2.1 a) (h2 : h'.2.2.1 a = h.2.2.1 a) (h3 : h'.2.2.2 a = h.2.2.2 a) : fv B b h' ci a = fv B b h ci a := by
  funext k
  unfold fv
  rw [h1, h2, h3]
theorem ev_congr {t : Nat} (h1 : h'.2.1 a = h.2.1 a) (h2 : h'.2.2.1 a = h.2.2.1 a) (h3 : h'.2.2.2 a = h.2.2.2 a) : ev B b h' t a = ev B b h t a := by
  funext k
  unfold ev
  rw [h1, h2, h3]
theorem cAt_congr (h1 : h'.2.1 a = h.2.1 a) (h2 : h'.2.2.1 a = h.2.2.1 a) (h3 : h'.2.2.2 a = h.2.2.2 a) (hH : H1[B + a]? = H[B + a]?) (hc : cAt D cT B b h a q H) : cAt D cT B b h' a q H1 := by
  rcases hc with ⟨c1, c2⟩ | ⟨c1, c2, c3⟩
  · exact Or.inl ⟨c1, by rw [fv_congr h1 h2 h3]; exact c2.kept hH⟩
  · exact Or.inr ⟨c1, c2, by rw [ev_congr h1 h2 h3, hH]; exact c3⟩
theorem Rp.set (hR : Rp D cT B b h H) (e1 : h'.1 = h.1) (ho : ∀ x, x ≠ a → h'.2.1 x = h.2.1 x ∧ h'.2.2.1 x = h.2.2.1 x ∧ h'.2.2.2 x = h.2.2.2 x) (z : H1.size = H.size) (oq : ∀ x : Nat, x ≠ B + a → H1[x]? = H[x]?) (hc : ∀ q, h.1[a]? = some q → cAt D cT B b h' a q H1) : Rp D cT B b h' H1 := by
  refine ⟨by rw [z, e1]; exact hR.1, by rw [e1]; exact hR.2.1, fun x q hq => ?_⟩
  rw [e1] at hq
  by_cases hx : x = a
  · subst hx
    exact hc q hq
  · obtain ⟨o1, o2, o3⟩ := ho x hx
    exact cAt_congr o1 o2 o3 (oq _ (by omega)) (hR.2.2 x q hq)
theorem up_ne {α : Type} {f : Nat → α} {k j : Nat} {v : α} (h : j ≠ k) : va_up f k v j = f j := if_neg h
theorem up_eq {α : Type} {f : Nat → α} {k : Nat} {v : α} : va_up f k v k = v := if_pos rfl
theorem sX_o (v : Int32) (k : Nat) : ∀ x, x ≠ a → (sX h a k v).2.1 x = h.2.1 x ∧ (sX h a k v).2.2.1 x = h.2.2.1 x ∧ (sX h a k v).2.2.2 x = h.2.2.2 x := fun x hx => ⟨up_ne hx, rfl, rfl⟩
theorem sY_o (v : Int64) (k : Nat) : ∀ x, x ≠ a → (sY h a k v).2.1 x = h.2.1 x ∧ (sY h a k v).2.2.1 x = h.2.2.1 x ∧ (sY h a k v).2.2.2 x = h.2.2.2 x := fun x hx => ⟨rfl, up_ne hx, rfl⟩
theorem sZ_o (v : Nat) (k : Nat) : ∀ x, x ≠ a → (sZ h a k v).2.1 x = h.2.1 x ∧ (sZ h a k v).2.2.1 x = h.2.2.1 x ∧ (sZ h a k v).2.2.2 x = h.2.2.2 x := fun x hx => ⟨rfl, rfl, up_ne hx⟩
theorem sR_o (g : Nat → Int32) : ∀ x, x ≠ a → (sR h a g).2.1 x = h.2.1 x ∧ (sR h a g).2.2.1 x = h.2.2.1 x ∧ (sR h a g).2.2.2 x = h.2.2.2 x := fun x hx => ⟨up_ne hx, rfl, rfl⟩
theorem fv_sX (v : Int32) (k : Nat) (hk : mTK ci k = 0) : fv B b (sX h a k v) ci a = updV (fv B b h ci a) k (.int v) := by
  funext j
  unfold updV
  by_cases hj : j = k
  · subst hj
    rw [if_pos rfl]
    unfold fv
    rw [hk]
    show Value.int (va_up h.2.1 a (va_up (h.2.1 a) j v) a j) = _
    rw [up_eq, up_eq]
  · rw [if_neg hj]
    unfold fv
    show (match mTK ci j with | 0 => Value.int (va_up h.2.1 a (va_up (h.2.1 a) k v) a j) | 1 => .long (h.2.2.1 a j) | _ => va_rf ((h.2.2.2 a j).map (ad B b))) = _
    rw [up_eq, up_ne hj]
theorem fv_sY (v : Int64) (k : Nat) (hk : mTK ci k = 1) : fv B b (sY h a k v) ci a = updV (fv B b h ci a) k (.long v) := by
  funext j
  unfold updV
  by_cases hj : j = k
  · subst hj
    rw [if_pos rfl]
    unfold fv
    rw [hk]
    show Value.long (va_up h.2.2.1 a (va_up (h.2.2.1 a) j v) a j) = _
    rw [up_eq, up_eq]
  · rw [if_neg hj]
    unfold fv
    show (match mTK ci j with | 0 => Value.int (h.2.1 a j) | 1 => .long (va_up h.2.2.1 a (va_up (h.2.2.1 a) k v) a j) | _ => va_rf ((h.2.2.2 a j).map (ad B b))) = _
    rw [up_eq, up_ne hj]
theorem fv_sZ (v : Nat) (k : Nat) (hk : mTK ci k = 2) : fv B b (sZ h a k v) ci a = updV (fv B b h ci a) k (.ref (ad B b v)) := by
  funext j
  unfold updV
  by_cases hj : j = k
  · subst hj
    rw [if_pos rfl]
    unfold fv
    rw [hk]
    show va_rf ((va_up h.2.2.2 a (va_up (h.2.2.2 a) j (some v)) a j).map (ad B b)) = _
    rw [up_eq, up_eq]
    rfl
  · rw [if_neg hj]
    unfold fv
    show (match mTK ci j with | 0 => Value.int (h.2.1 a j) | 1 => .long (h.2.2.1 a j) | _ => va_rf ((va_up h.2.2.2 a (va_up (h.2.2.2 a) k (some v)) a j).map (ad B b))) = _
    rw [up_eq, up_ne hj]
theorem ev_i {t : Nat} (ht : t < 3) : ev B b h t a = fun k => .int (h.2.1 a k) := by
  funext k
  exact if_pos ht
theorem ev_l : ev B b h 3 a = fun k => .long (h.2.2.1 a k) := by
  funext k
  rfl
theorem ev_r {t : Nat} (ht : 3 < t) : ev B b h t a = fun k => va_rf ((h.2.2.2 a k).map (ad B b)) := by
  funext k
  exact (if_neg (by omega)).trans (if_neg (by omega))
theorem ev_sX {t : Nat} (v : Int32) (k : Nat) (ht : t < 3) : ev B b (sX h a k v) t a = updV (ev B b h t a) k (.int v) := by
  rw [ev_i ht, ev_i ht]
  funext j
  unfold updV
  show Value.int (va_up h.2.1 a (va_up (h.2.1 a) k v) a j) = _
  rw [up_eq]
  by_cases hj : j = k
  · subst hj
    rw [if_pos rfl, up_eq]
  · rw [if_neg hj, up_ne hj]
theorem ev_sY (v : Int64) (k : Nat) : ev B b (sY h a k v) 3 a = updV (ev B b h 3 a) k (.long v) := by
  rw [ev_l, ev_l]
  funext j
  unfold updV
  show Value.long (va_up h.2.2.1 a (va_up (h.2.2.1 a) k v) a j) = _
  rw [up_eq]
  by_cases hj : j = k
  · subst hj
    rw [if_pos rfl, up_eq]
  · rw [if_neg hj, up_ne hj]
theorem ev_sZ {t : Nat} (v : Nat) (k : Nat) (ht : 3 < t) : ev B b (sZ h a k v) t a = updV (ev B b h t a) k (.ref (ad B b v)) := by
  rw [ev_r ht, ev_r ht]
  funext j
  unfold updV
  show va_rf ((va_up h.2.2.2 a (va_up (h.2.2.2 a) k (some v)) a j).map (ad B b)) = _
  rw [up_eq]
  by_cases hj : j = k
  · subst hj
    rw [if_pos rfl, up_eq]
    rfl
  · rw [if_neg hj, up_ne hj]
end RP
/-! locals -/
def LV (B b : Nat) (ls : Ls) (lsA : Array Slot) (n : Nat) : Prop := lsA.size = n ∧ lv_wf lsA ∧ ls.length ≤ n ∧ ∀ (k : Nat) (v : Value), ldL ls k = some v → lsA[k]? = some (.val (tr B b v))
def lvl (B b : Nat) (ls : Ls) : List (Nat × Value) := (List.range ls.length).filterMap (fun k => (ldL ls k).map (fun v => (k, tr B b v)))
theorem ldL_lt {ls : Ls} {k : Nat} {v : Value} (h : ldL ls k = some v) : k < ls.length := by
  rcases Nat.lt_or_ge k ls.length with q | q
  · exact q
  · unfold ldL at h
    rw [List.getElem?_eq_none q] at h
    simp at h
theorem lvl_mem {B b : Nat} {ls : Ls} {k : Nat} {v : Value} (h : ldL ls k = some v) : (k, tr B b v) ∈ lvl B b ls := List.mem_filterMap.mpr ⟨k, List.mem_range.mpr (ldL_lt h), by rw [h]; rfl⟩
theorem LV.has {B b n : Nat} {ls : Ls} {lsA : Array Slot} (h : LV B b ls lsA n) : lv_has lsA n (lvl B b ls) := by
  refine ⟨h.1, h.2.1, fun q hq => ?_⟩
  obtain ⟨k, -, hk⟩ := List.mem_filterMap.mp hq
  cases hv : ldL ls k with
  | none => rw [hv] at hk; simp at hk
  | some v =>
    rw [hv] at hk
    simp only [Option.map_some, Option.some.injEq] at hk
    rw [← hk]
    exact h.2.2.2 k v hv
theorem ldL_set {ls : Ls} {i k : Nat} {x : Option Value} {v : Value} (h : ldL (ls.set i x) k = some v) : (k = i ∧ x = some v) ∨ (k ≠ i ∧ ldL ls k = some v) := by
  unfold ldL at h ⊢
  by_cases hk : k = i
  · subst hk
    left
    refine ⟨rfl, ?_⟩
    by_cases hl : k < ls.length
    · rw [List.getElem?_set_self hl] at h
      exact h
    · rw [List.getElem?_eq_none (by simp; omega)] at h
      simp at h
  · right
    rw [List.getElem?_set_ne (Ne.symm hk)] at h
    exact ⟨hk, h⟩
theorem ldL_kl {ls : Ls} {i k : Nat} {v : Value} (h : ldL (klL ls i) k = some v) : ldL ls k = some v ∧ ¬ (k + 1 = i ∧ v.category = 2) := by
  cases i with
  | zero => exact ⟨h, fun q => by omega⟩
  | succ j =>
    unfold klL at h
    cases hj : ldL ls j with
    | none =>
      simp only [hj] at h
      refine ⟨h, fun q => ?_⟩
      have : k = j := by omega
      subst this
      rw [hj] at h
      cases h
    | some w =>
      simp only [hj] at h
      by_cases hc : w.category = 2
      · rw [if_pos hc] at h
        rcases ldL_set h with ⟨-, h2⟩ | ⟨h1, h2⟩
        · cases h2
        · exact ⟨h2, fun q => h1 (by omega)⟩
      · rw [if_neg hc] at h
        refine ⟨h, fun q => ?_⟩
        have : k = j := by omega
        subst this
        rw [hj] at h
        cases h
        exact hc q.2
theorem klL_len (ls : Ls) (i : Nat) : (klL ls i).length = ls.length := by
  cases i with
  | zero => rfl
  | succ j =>
    unfold klL
    cases hj : ldL ls j with
    | none => simp only [hj]
    | some w =>
      simp only [hj]
      split
      · exact List.length_set
      · rfl
theorem LV.put1 {B b n i : Nat} {ls : Ls} {lsA lsA' : Array Slot} {v : Value} (h : LV B b ls lsA n) (h2 : lv_has lsA' n ((i, tr B b v) :: (lvl B b ls).filter (fun q => !(q.1 == i) && !(q.1 + 1 == i && q.2.category == 2)))) : LV B b (st1 ls i v) lsA' n := by
  refine ⟨h2.1, h2.2.1, by unfold st1; rw [List.length_set, klL_len]; exact h.2.2.1, fun k w hk => ?_⟩
  rcases ldL_set hk with ⟨h1, h3⟩ | ⟨h1, h3⟩
  · cases h3
    rw [h1]
    exact h2.2.2 _ List.mem_cons_self
  · obtain ⟨g1, g2⟩ := ldL_kl h3
    refine h2.2.2 (k, tr B b w) (List.mem_cons_of_mem _ (List.mem_filter.mpr ⟨lvl_mem g1, ?_⟩))
    rw [tr_cat]
    simp only [Bool.and_eq_true, Bool.not_eq_true', Bool.and_eq_false_iff, beq_eq_false_iff_ne]
    refine ⟨h1, ?_⟩
    by_cases q : k + 1 = i
    · exact Or.inr (fun z => g2 ⟨q, z⟩)
    · exact Or.inl q
theorem LV.put2 {B b n i : Nat} {ls : Ls} {lsA lsA' : Array Slot} {v : Value} (h : LV B b ls lsA n) (h2 : lv_has lsA' n ((i, tr B b v) :: (lvl B b ls).filter (fun q => !(q.1 == i) && (!(q.1 == i + 1) && !(q.1 + 1 == i && q.2.category == 2))))) : LV B b (st2 ls i v) lsA' n := by
  refine ⟨h2.1, h2.2.1, by unfold st2; rw [List.length_set, List.length_set, klL_len]; exact h.2.2.1, fun k w hk => ?_⟩
  rcases ldL_set hk with ⟨h1, h3⟩ | ⟨h1, h3⟩
  · cases h3
  · rcases ldL_set h3 with ⟨h4, h5⟩ | ⟨h4, h5⟩
    · cases h5
      rw [h4]
      exact h2.2.2 _ List.mem_cons_self
    · obtain ⟨g1, g2⟩ := ldL_kl h5
      refine h2.2.2 (k, tr B b w) (List.mem_cons_of_mem _ (List.mem_filter.mpr ⟨lvl_mem g1, ?_⟩))
      rw [tr_cat]
      simp only [Bool.and_eq_true, Bool.not_eq_true', Bool.and_eq_false_iff, beq_eq_false_iff_ne]
      refine ⟨h4, h1, ?_⟩
      by_cases q : k + 1 = i
      · exact Or.inr (fun z => g2 ⟨q, z⟩)
      · exact Or.inl q
theorem LV.at {B b n k : Nat} {ls : Ls} {lsA : Array Slot} {v : Value} (h : LV B b ls lsA n) (hk : ldL ls k = some v) : lsA[k]? = some (.val (tr B b v)) := h.2.2.2 k v hk
theorem entL_lv (B b : Nat) (vs : List Value) : ∀ (i k : Nat) (v : Value), ldL (entL vs) k = some v → (i + k, tr B b v) ∈ lv_args i (vs.map (tr B b)) := by
  induction vs with
  | nil =>
    intro i k v h
    simp [ldL, entL] at h
  | cons w vs ih =>
    intro i k v h
    unfold entL at h
    show _ ∈ lv_args i (tr B b w :: vs.map (tr B b))
    unfold lv_args
    rw [tr_cat]
    by_cases hc : w.category = 2
    · rw [if_pos hc] at h ⊢
      match k, h with
      | 0, h =>
        have h : some w = some v := h
        cases h
        exact List.mem_cons_self
      | 1, h => cases (show (none : Option Value) = some v from h)
      | k + 2, h =>
        have h : ldL (entL vs) k = some v := h
        refine List.mem_cons_of_mem _ ?_
        have := ih (i + 2) k v h
        rw [show i + (k + 2) = i + 2 + k by omega]
        exact this
    · rw [if_neg hc] at h ⊢
      match k, h with
      | 0, h =>
        have h : some w = some v := h
        cases h
        exact List.mem_cons_self
      | k + 1, h =>
        have h : ldL (entL vs) k = some v := h
        refine List.mem_cons_of_mem _ ?_
        have := ih (i + 1) k v h
        rw [show i + (k + 1) = i + 1 + k by omega]
        exact this
theorem entL_len (B b : Nat) (vs : List Value) : (lg_sl (vs.map (tr B b))).length = (entL vs).length := by
  induction vs with
  | nil => rfl
  | cons w vs ih =>
    unfold entL
    have e : (lg_sl ((w :: vs).map (tr B b))).length = (if w.category = 2 then 2 else 1) + (lg_sl (vs.map (tr B b))).length := by
      unfold lg_sl
      rw [List.map_cons, List.flatMap_cons, List.length_append, tr_cat]
      congr 1
      split <;> rfl
    rw [e, ih]
    by_cases hc : w.category = 2
    · rw [if_pos hc, if_pos hc]; simp only [List.length_cons]; omega
    · rw [if_neg hc, if_neg hc]; simp only [List.length_cons]; omega
theorem ldL_pad {l : Ls} {j k : Nat} {v : Value} (h : ldL (l ++ List.replicate j none) k = some v) : ldL l k = some v := by
  unfold ldL at h ⊢
  by_cases hk : k < l.length
  · rw [List.getElem?_append_left hk] at h
    exact h
  · rw [List.getElem?_append_right (by omega), List.getElem?_replicate] at h
    split at h <;> simp at h
theorem LV.entry {B b n : Nat} {vs : List Value} (hn : (entL vs).length ≤ n) : LV B b (entL vs ++ List.replicate (n - (entL vs).length) none) ((lg_sl (vs.map (tr B b)) ++ List.replicate (n - (lg_sl (vs.map (tr B b))).length) Slot.unset).toArray) n := by
  have h := lv_entry (vs.map (tr B b)) (n := n) (by rw [entL_len]; exact hn)
  refine ⟨h.1, h.2.1, by rw [List.length_append, List.length_replicate]; omega, fun k v hk => ?_⟩
  have h1 := entL_lv B b vs 0 k v (ldL_pad hk)
  rw [Nat.zero_add] at h1
  exact h.2.2 _ h1
end
section
/-! what holds in a frame, and the rows that touch the heap -/
def isON : Cond → Bool
  | .arrayOver _ => true
  | .methodLinkNest _ _ _ _ => true
  | _ => false
def lw_on : List Cond := lw_tbl.filter isON
theorem onm {i : Nat} {w : Cond} (h : lw_tbl[i]? = some w) (g : isON w = true) : w ∈ lw_on := List.mem_filter.mpr ⟨List.mem_of_getElem? h, g⟩
def mN (U : State) : Prop := ∀ w ∈ lw_on, va_Nw w U
theorem mN.warm {s U : State} (hW : s.WarmedH U.vm) (h : mN s) : mN U := by
  intro w hw
  have h1 := h w hw
  have h2 : isON w = true := (List.mem_filter.mp hw).2
  match w, h2, h1 with
  | .arrayOver ty, _, h1 =>
    have e := Cond.arrayOver_setVmC (args := #[]) hW.alike ty
    have h3 : (Cond.arrayOver ty).before #[] (s.setVm U.vm) = true := by rw [e]; exact h1
    exact h3
  | .methodLinkNest a i x hh, _, h1 => exact va_Nw.warmM hW h1
theorem mN.calling {U : State} {g : JFrame} {mk : MethodId} {a : Array Value} (h : mN U) : mN (U.calling g mk a) := by
  intro w hw
  have h1 := h w hw
  have h2 : isON w = true := (List.mem_filter.mp hw).2
  match w, h2, h1 with
  | .arrayOver ty, _, h1 => exact h1
  | .methodLinkNest a i x hh, _, h1 => exact va_Nw.same rfl rfl h1
def Cx (p : Program) (R : Room) (s : State) (m : MethodId) (args : Array Value) (meth : Method) (c : Code) (D : va_G) (cT : Nat → ClassId) (B mi d : Nat) : Prop :=
  p.tables.exec = Jvm.exec ∧ c.code = mB mi ∧ c.maxLocals = mL mi ∧ s.vm.findClass (mC (mO mi)) = some m.cls ∧ (∀ w ∈ lw_gd, w.before args s = true) ∧ mK D cT s ∧ mN s ∧ d ≤ R.frames ∧ 36 * d ≤ R.locals ∧ (mi < 186 → meth.name = (mY mi).name) ∧ B ≤ s.heap.size
theorem mP_dec {mi pc len : Nat} {i : Instr} {x : Au} (h : mP mi pc = some (i, len, x)) : decode (mB mi) pc = .ok (i, len) ∧ chkI mi pc i x = true := by
  have h1 := mP_ok h
  unfold chkE at h1
  simpa only [Bool.and_eq_true, decide_eq_true_eq] using h1
theorem chkF_spec {mi idx ci k row : Nat} {z : Int} (h : chkF mi idx (ci, k, row, z) = true) : (∃ i : Nat, lw_tbl[i]? = some (.fieldLink (mC (mO mi)) idx (mT ci k).1 (mT ci k).2.1 (mT ci k).2.2.1)) ∧ k < mNN ci ∧ ci < 8 := by
  unfold chkF at h
  cases hr : mFT[row]? with
  | none => simp [hr] at h
  | some r =>
    simp only [hr, Bool.and_eq_true, beq_iff_eq] at h
    have h2 := List.all_eq_true.mp mFT_ok r (List.mem_of_getElem? hr)
    simp only [Bool.and_eq_true, decide_eq_true_eq] at h2
    obtain ⟨⟨⟨h3, h4⟩, h5⟩, h6⟩ := h
    rw [h3, h4, h5, h6] at h2
    exact ⟨⟨_, h2.1.1⟩, h2.1.2, h2.2⟩
section RW
variable {p : Program} {l : Launch} {e : Env} {R : Room} {s : State} {m : MethodId} {args : Array Value} {below : List Frame} {meth : Method} {c : Code} {H : Heap} {locs : List Loc} {cells slots : Nat} {Q : State → Prop}
variable {D : va_G} {cT : Nat → ClassId} {B b mi d pc idx : Nat} {lsA : Array Slot} {rest : List Value} {h h' : Hp} {a ci k n row : Nat} {z : Int}
theorem row_get (X : Cx p R s m args meth c D cT B mi d) (hd : decode (mB mi) pc = .ok (.getfield idx, 3)) (hF : chkF mi idx (ci, k, row, z) = true) (hR : Rp D cT B b h H) (hq : h.1[a]? = some (ci, n))
    (kk : W p l e R s m args below meth c H locs cells slots Q (F0 m (pc + 3) lsA (fv B b h ci a k :: rest))) : W p l e R s m args below meth c H locs cells slots Q (F0 m pc lsA (.ref (ad B b a) :: rest)) := by
  obtain ⟨hx, hb, hml, hown, hts, hK, -, -, -, -, -⟩ := X
  obtain ⟨⟨i, hl⟩, hk, hci⟩ := chkF_spec hF
  have hlt := hR.lt hq
  rw [ad_lt hlt.2]
  obtain ⟨-, cell, q1, q2, q3, q4⟩ := hR.obj (by omega) hq
  obtain ⟨hS, hfc, kC, hkC, hkind⟩ := hK.1 ci _ (vwAt hci)
  obtain ⟨cf, kf, fi, f, hi, hsl⟩ := hS k hk
  refine W.getf hx hb hown (hts _ (gdm hl rfl)) hi (u_facts hfc hkC (u_lays hts (mLay hci) hk) hi).1 q1 (by rw [q3]; exact fun h => by cases h) (v := fv B b h ci a k) ?_ rfl rfl hd kk
  rw [hsl, q4 k hk]
theorem mApart (hts : ∀ w ∈ lw_gd, w.before args s = true) (hK : mK D cT s) (hci : ci < 8) : ∀ x y, x < mNN ci → y < mNN ci → x ≠ y → (D.2 ci) x ≠ (D.2 ci) y := by
  intro x y hx hy hne
  obtain ⟨hS, -⟩ := hK.1 ci _ (vwAt hci)
  obtain ⟨_, _, _, fa, hia, ea⟩ := hS x hx
  obtain ⟨_, _, _, fb, hib, eb⟩ := hS y hy
  rw [← ea, ← eb]
  refine u_apart (u_lays hts (mLay hci) hx) (u_lays hts (mLay hci) hy) hia hib ?_
  rw [(State.fieldFound?_type hia (mTy_ok hci x hx)).1, (State.fieldFound?_type hib (mTy_ok hci y hy)).1]
  exact mNm_ok hci x hx y hy hne
theorem row_put {v : Value} (X : Cx p R s m args meth c D cT B mi d) (hd : decode (mB mi) pc = .ok (.putfield idx, 3)) (hF : chkF mi idx (ci, k, row, z) = true) (hfin : (!(mT ci k).2.2.2 || (decide ((mY mi).name = "<init>") && ci == mO mi)) = true)
    (hR : Rp D cT B b h H) (hS0 : va_S (fun q => B ≤ q) s.heap H locs) (hq : h.1[a]? = some (ci, n)) (hn : narrow (mTyF ci k) v = v) (hfit : fits (mTyF ci k) v = true)
    (e1 : h'.1 = h.1) (ho : ∀ x, x ≠ a → h'.2.1 x = h.2.1 x ∧ h'.2.2.1 x = h.2.2.1 x ∧ h'.2.2.2 x = h.2.2.2 x) (hv : fv B b h' ci a = updV (fv B b h ci a) k v)
    (kk : ∀ (H1 : Heap) (locs1 : List Loc), Rp D cT B b h' H1 → va_S (fun q => B ≤ q) s.heap H1 locs1 → W p l e R s m args below meth c H1 locs1 cells slots Q (F0 m (pc + 3) lsA rest)) : W p l e R s m args below meth c H locs cells slots Q (F0 m pc lsA (v :: .ref (ad B b a) :: rest)) := by
  obtain ⟨hx, hb, hml, hown, hts, hK, -, -, -, hmn, -⟩ := X
  obtain ⟨⟨i, hl⟩, hk, hci⟩ := chkF_spec hF
  have hlt := hR.lt hq
  rw [ad_lt hlt.2]
  have hap := mApart hts hK hci
  obtain ⟨-, cell, q1, q2, q3, q4⟩ := hR.obj (by omega) hq
  obtain ⟨hS, hfc, kC, hkC, hkind⟩ := hK.1 ci _ (vwAt hci)
  obtain ⟨cf, kf, fi, f, hi, hsl⟩ := hS k hk
  have hlay := hts _ (mLay hci _ (u_in_lay hk))
  have hst := (u_facts hfc hkC (u_lays hts (mLay hci) hk) hi).1
  have fin : ∀ H' : Heap, H'[B + a]? = some (cell.setSlot f.slot v) → H'.size = H.size → (∀ q, q ≠ B + a → H'[q]? = H[q]?) → Rp D cT B b h' H' := by
    intro H' g1 g2 g3
    refine hR.set e1 ho g2 g3 (fun q hq2 => ?_)
    rw [hq] at hq2
    cases hq2
    refine Or.inl ⟨hci, ?_⟩
    rw [hv]
    rw [hsl] at g1
    exact ⟨_, g1, q2, q3, t_set q4 hap hk v⟩
  cases hfl : (mT ci k).2.2.2 with
  | false =>
    unfold u_lay at hlay
    rw [if_neg (by rw [hfl]; decide)] at hlay
    have h6 := u_store hfc hkC hkind hlay hi (mTy_ok hci k hk) hn hfit
    refine W.putK hx hb (f := f) ⟨hown, hts _ (gdm hl rfl), ⟨_, _, _, hi⟩, hst⟩ (by rw [q2]; exact h6) q1 q3 (by rw [hsl]; exact k2_hasslot (q4 k hk)) rfl rfl hd fun H' g1 g2 g3 => ?_
    exact kk H' _ (fin H' g1 g2 g3) (hS0.put g2 g3 (Nat.le_add_right B a))
  | true =>
    rw [hfl] at hfin
    simp only [Bool.not_true, Bool.false_or, Bool.and_eq_true, decide_eq_true_eq, beq_iff_eq] at hfin
    have hmi : mi < 186 := by
      rcases Nat.lt_or_ge mi 186 with q | q
      · exact q
      · have h9 := hfin.1
        unfold mY at h9
        rw [List.getElem?_eq_none (show mMT.length ≤ mi from q)] at h9
        exact absurd h9 (by decide)
    unfold u_lay at hlay
    rw [if_pos hfl] at hlay
    have hcf : m.cls = cf := by
      obtain ⟨_, _, c', _, _, _, -, -, hf', -, -, -, hown2, -⟩ := Cond.laysFinal_spec hlay
      have e2 : c' = cf := by have := hi.symm.trans hf'; simp at this; exact this.1.symm
      rw [(mLay1 hci hk).2, hfin.2] at hown2
      rw [← e2]; exact Option.some.inj (hown.symm.trans hown2)
    have h6 := u_fits hfc hkC hkind (Or.inr hlay) hi (mTy_ok hci k hk) hn hfit
    refine W.putFinK hx hb hown (hts _ (gdm hl rfl)) hi hst hcf ((hmn hmi).trans hfin.1) (by rw [q2]; exact h6) q1 q3 (by rw [hsl]; exact k2_hasslot (q4 k hk)) rfl rfl hd fun H' g1 g2 g3 => ?_
    exact kk H' _ (fin H' g1 g2 g3) (hS0.put g2 g3 (Nat.le_add_right B a))
theorem vin {i : Int32} {f : Nat → Value} {cA : ClassId} (h : ¬ (i < 0 ∨ n ≤ i.toNatClampNeg)) : ¬ (i < 0 ∨ (arrV cA n f).slots.size ≤ i.toNatClampNeg) := by
  rw [arrV_size]
  exact h
theorem vrd {i : Int32} {f : Nat → Value} {cA : ClassId} (h : ¬ (i < 0 ∨ n ≤ i.toNatClampNeg)) : (arrV cA n f).slots[i.toNatClampNeg]? = some (f i.toNatClampNeg) := arrV_read _ _ (Nat.not_le.mp fun q => h (Or.inr q))
theorem row_iald {i : Int32} (X : Cx p R s m args meth c D cT B mi d) (hd : decode (mB mi) pc = .ok (.iaload, 1)) (hR : Rp D cT B b h H) (hq : h.1[a]? = some (100 + 0, n)) (hi : ¬ (i < 0 ∨ n ≤ i.toNatClampNeg))
    (kk : W p l e R s m args below meth c H locs cells slots Q (F0 m (pc + 1) lsA (.int (h.2.1 a i.toNatClampNeg) :: rest))) : W p l e R s m args below meth c H locs cells slots Q (F0 m pc lsA (.int i :: .ref (ad B b a) :: rest)) := by
  obtain ⟨hx, hb, -, -, -, hK, -⟩ := X
  rw [ad_lt (hR.lt hq).2]
  exact W.iald hx hb (hR.arr hq).2 ((hK.2 0 .int rfl).1 n _) (fun q => by cases q) (vin hi) (vrd hi) rfl rfl hd kk
theorem row_bald {i : Int32} (X : Cx p R s m args meth c D cT B mi d) (hd : decode (mB mi) pc = .ok (.baload, 1)) (hR : Rp D cT B b h H) (hq : h.1[a]? = some (100 + 1, n)) (hi : ¬ (i < 0 ∨ n ≤ i.toNatClampNeg))
    (kk : W p l e R s m args below meth c H locs cells slots Q (F0 m (pc + 1) lsA (.int (h.2.1 a i.toNatClampNeg) :: rest))) : W p l e R s m args below meth c H locs cells slots Q (F0 m pc lsA (.int i :: .ref (ad B b a) :: rest)) := by
  obtain ⟨hx, hb, -, -, -, hK, -⟩ := X
  rw [ad_lt (hR.lt hq).2]
  exact W.bald hx hb (hR.arr hq).2 ((hK.2 1 .byte rfl).1 n _) (fun q => by cases q) (vin hi) (vrd hi) rfl rfl hd kk
theorem row_zald {i : Int32} (X : Cx p R s m args meth c D cT B mi d) (hd : decode (mB mi) pc = .ok (.baload, 1)) (hR : Rp D cT B b h H) (hq : h.1[a]? = some (100 + 2, n)) (hi : ¬ (i < 0 ∨ n ≤ i.toNatClampNeg))
    (kk : W p l e R s m args below meth c H locs cells slots Q (F0 m (pc + 1) lsA (.int (h.2.1 a i.toNatClampNeg) :: rest))) : W p l e R s m args below meth c H locs cells slots Q (F0 m pc lsA (.int i :: .ref (ad B b a) :: rest)) := by
  obtain ⟨hx, hb, -, -, -, hK, -⟩ := X
  rw [ad_lt (hR.lt hq).2]
  exact W.zald hx hb (hR.arr hq).2 ((hK.2 2 .boolean rfl).1 n _) (fun q => by cases q) (vin hi) (vrd hi) rfl rfl hd kk
theorem row_lald {i : Int32} (X : Cx p R s m args meth c D cT B mi d) (hd : decode (mB mi) pc = .ok (.laload, 1)) (hR : Rp D cT B b h H) (hq : h.1[a]? = some (100 + 3, n)) (hi : ¬ (i < 0 ∨ n ≤ i.toNatClampNeg))
    (kk : W p l e R s m args below meth c H locs cells slots Q (F0 m (pc + 1) lsA (.long (h.2.2.1 a i.toNatClampNeg) :: rest))) : W p l e R s m args below meth c H locs cells slots Q (F0 m pc lsA (.int i :: .ref (ad B b a) :: rest)) := by
  obtain ⟨hx, hb, -, -, -, hK, -⟩ := X
  rw [ad_lt (hR.lt hq).2]
  exact W.lald hx hb (hR.arr hq).2 ((hK.2 3 .long rfl).1 n _) (fun q => by cases q) (vin hi) (vrd hi) rfl rfl hd kk
theorem row_aald {i : Int32} {t v : Nat} (ht : 3 < t) (hz : h.2.2.2 a i.toNatClampNeg = some v) (X : Cx p R s m args meth c D cT B mi d) (hd : decode (mB mi) pc = .ok (.aaload, 1)) (hR : Rp D cT B b h H) (hq : h.1[a]? = some (100 + t, n)) (hi : ¬ (i < 0 ∨ n ≤ i.toNatClampNeg))
    (kk : W p l e R s m args below meth c H locs cells slots Q (F0 m (pc + 1) lsA (.ref (ad B b v) :: rest))) : W p l e R s m args below meth c H locs cells slots Q (F0 m pc lsA (.int i :: .ref (ad B b a) :: rest)) := by
  obtain ⟨hx, hb, -, -, -, hK, -⟩ := X
  rw [ad_lt (hR.lt hq).2]
  have hc := hR.arr hq
  rw [ev_r ht] at hc
  have key : ∀ ty, mTY[t]? = some ty → ty.isReference = true → W p l e R s m args below meth c H locs cells slots Q (F0 m pc lsA (.int i :: .ref (B + a) :: rest)) := by
    intro ty hty hr
    refine W.aald (v := .ref (ad B b v)) hx hb hc.2 ((hK.2 t ty hty).1 n _) hr (fun q => by cases q) (vin hi) ?_ rfl rfl hd kk
    rw [vrd hi, hz]
    rfl
  rcases (show t = 4 ∨ t = 5 ∨ t = 6 by omega) with rfl | rfl | rfl
  · exact key _ rfl rfl
  · exact key _ rfl rfl
  · exact key _ rfl rfl
theorem row_st {i : Int32} {t : Nat} {v : Value} {H' : Heap} (ht : t < 7) (hR : Rp D cT B b h H) (hq : h.1[a]? = some (100 + t, n)) (e1 : h'.1 = h.1) (ho : ∀ x, x ≠ a → h'.2.1 x = h.2.1 x ∧ h'.2.2.1 x = h.2.2.1 x ∧ h'.2.2.2 x = h.2.2.2 x) (hv : ev B b h' t a = updV (ev B b h t a) i.toNatClampNeg v)
    (g1 : H'[B + a]? = some ((arrV (cT t) n (ev B b h t a)).setSlot i.toNatClampNeg v)) (g2 : H'.size = H.size) (g3 : ∀ q, q ≠ B + a → H'[q]? = H[q]?) : Rp D cT B b h' H' := by
  refine hR.set e1 ho g2 g3 (fun q hq2 => ?_)
  rw [hq] at hq2
  cases hq2
  refine Or.inr ⟨Nat.le_add_right _ _, by simp only; omega, ?_⟩
  simp only
  rw [show 100 + t - 100 = t by omega, hv, g1, arrV_store]
theorem row_iast {i x : Int32} (X : Cx p R s m args meth c D cT B mi d) (hd : decode (mB mi) pc = .ok (.iastore, 1)) (hR : Rp D cT B b h H) (hS0 : va_S (fun q => B ≤ q) s.heap H locs) (hq : h.1[a]? = some (100 + 0, n)) (hi : ¬ (i < 0 ∨ n ≤ i.toNatClampNeg))
    (kk : ∀ (H1 : Heap) (locs1 : List Loc), Rp D cT B b (sX h a i.toNatClampNeg x) H1 → va_S (fun q => B ≤ q) s.heap H1 locs1 → W p l e R s m args below meth c H1 locs1 cells slots Q (F0 m (pc + 1) lsA rest)) : W p l e R s m args below meth c H locs cells slots Q (F0 m pc lsA (.int x :: .int i :: .ref (ad B b a) :: rest)) := by
  obtain ⟨hx, hb, -, -, -, hK, -⟩ := X
  rw [ad_lt (hR.lt hq).2]
  refine W.iast hx hb (hR.arr hq).2 ((hK.2 0 .int rfl).1 n _) (fun q => by cases q) (vin hi) rfl rfl hd fun H' g1 g2 g3 => ?_
  exact kk H' _ (row_st (by decide) hR hq rfl (sX_o _ _) (ev_sX _ _ (by decide)) g1 g2 g3) (hS0.put g2 g3 (Nat.le_add_right B a))
theorem row_bast {i x : Int32} (X : Cx p R s m args meth c D cT B mi d) (hd : decode (mB mi) pc = .ok (.bastore, 1)) (hR : Rp D cT B b h H) (hS0 : va_S (fun q => B ≤ q) s.heap H locs) (hq : h.1[a]? = some (100 + 1, n)) (hi : ¬ (i < 0 ∨ n ≤ i.toNatClampNeg))
    (kk : ∀ (H1 : Heap) (locs1 : List Loc), Rp D cT B b (sX h a i.toNatClampNeg x.toInt8.toInt32) H1 → va_S (fun q => B ≤ q) s.heap H1 locs1 → W p l e R s m args below meth c H1 locs1 cells slots Q (F0 m (pc + 1) lsA rest)) : W p l e R s m args below meth c H locs cells slots Q (F0 m pc lsA (.int x :: .int i :: .ref (ad B b a) :: rest)) := by
  obtain ⟨hx, hb, -, -, -, hK, -⟩ := X
  rw [ad_lt (hR.lt hq).2]
  refine W.bast hx hb (hR.arr hq).2 ((hK.2 1 .byte rfl).1 n _) (fun q => by cases q) (vin hi) rfl rfl hd fun H' g1 g2 g3 => ?_
  exact kk H' _ (row_st (by decide) hR hq rfl (sX_o _ _) (ev_sX _ _ (by decide)) g1 g2 g3) (hS0.put g2 g3 (Nat.le_add_right B a))
theorem row_zast {i x : Int32} (X : Cx p R s m args meth c D cT B mi d) (hd : decode (mB mi) pc = .ok (.bastore, 1)) (hR : Rp D cT B b h H) (hS0 : va_S (fun q => B ≤ q) s.heap H locs) (hq : h.1[a]? = some (100 + 2, n)) (hi : ¬ (i < 0 ∨ n ≤ i.toNatClampNeg))
    (kk : ∀ (H1 : Heap) (locs1 : List Loc), Rp D cT B b (sX h a i.toNatClampNeg (x &&& 1)) H1 → va_S (fun q => B ≤ q) s.heap H1 locs1 → W p l e R s m args below meth c H1 locs1 cells slots Q (F0 m (pc + 1) lsA rest)) : W p l e R s m args below meth c H locs cells slots Q (F0 m pc lsA (.int x :: .int i :: .ref (ad B b a) :: rest)) := by
  obtain ⟨hx, hb, -, -, -, hK, -⟩ := X
  rw [ad_lt (hR.lt hq).2]
  refine W.zast hx hb (hR.arr hq).2 ((hK.2 2 .boolean rfl).1 n _) (fun q => by cases q) (vin hi) rfl rfl hd fun H' g1 g2 g3 => ?_
  exact kk H' _ (row_st (by decide) hR hq rfl (sX_o _ _) (ev_sX _ _ (by decide)) g1 g2 g3) (hS0.put g2 g3 (Nat.le_add_right B a))
theorem row_last {i : Int32} {x : Int64} (X : Cx p R s m args meth c D cT B mi d) (hd : decode (mB mi) pc = .ok (.lastore, 1)) (hR : Rp D cT B b h H) (hS0 : va_S (fun q => B ≤ q) s.heap H locs) (hq : h.1[a]? = some (100 + 3, n)) (hi : ¬ (i < 0 ∨ n ≤ i.toNatClampNeg))
    (kk : ∀ (H1 : Heap) (locs1 : List Loc), Rp D cT B b (sY h a i.toNatClampNeg x) H1 → va_S (fun q => B ≤ q) s.heap H1 locs1 → W p l e R s m args below meth c H1 locs1 cells slots Q (F0 m (pc + 1) lsA rest)) : W p l e R s m args below meth c H locs cells slots Q (F0 m pc lsA (.long x :: .int i :: .ref (ad B b a) :: rest)) := by
  obtain ⟨hx, hb, -, -, -, hK, -⟩ := X
  rw [ad_lt (hR.lt hq).2]
  refine W.last hx hb (hR.arr hq).2 ((hK.2 3 .long rfl).1 n _) (fun q => by cases q) (vin hi) rfl rfl hd fun H' g1 g2 g3 => ?_
  exact kk H' _ (row_st (by decide) hR hq rfl (sY_o _ _) (ev_sY _ _) g1 g2 g3) (hS0.put g2 g3 (Nat.le_add_right B a))
theorem row_aast {i : Int32} {t v n2 : Nat} (htc : (t = 4 ∧ ci = 4) ∨ (t = 5 ∧ ci = 0)) (X : Cx p R s m args meth c D cT B mi d) (hd : decode (mB mi) pc = .ok (.aastore, 1)) (hR : Rp D cT B b h H) (hS0 : va_S (fun q => B ≤ q) s.heap H locs) (hq : h.1[a]? = some (100 + t, n)) (hv : h.1[v]? = some (ci, n2)) (hi : ¬ (i < 0 ∨ n ≤ i.toNatClampNeg))
    (kk : ∀ (H1 : Heap) (locs1 : List Loc), Rp D cT B b (sZ h a i.toNatClampNeg v) H1 → va_S (fun q => B ≤ q) s.heap H1 locs1 → W p l e R s m args below meth c H1 locs1 cells slots Q (F0 m (pc + 1) lsA rest)) : W p l e R s m args below meth c H locs cells slots Q (F0 m pc lsA (.ref (ad B b v) :: .int i :: .ref (ad B b a) :: rest)) := by
  obtain ⟨hx, hb, -, -, -, hK, -⟩ := X
  rw [ad_lt (hR.lt hq).2]
  have hc := hR.arr hq
  have hvl := (hR.lt hv).2
  have hci : ci < 8 := by omega
  obtain ⟨-, cellV, g1, g2, g3, -⟩ := hR.obj (by omega) hv
  have hcls := (hK.1 ci _ (vwAt hci)).2
  have ht7 : 3 < t ∧ t < 7 := by omega
  have hty : mTY[t]? = some (.object (mC ci)) := by
    rcases htc with ⟨rfl, rfl⟩ | ⟨rfl, rfl⟩ <;> rfl
  obtain ⟨kA, comp, k1, k2, k3, -⟩ := (hK.2 t _ hty).2
  have hcomp : comp = D.1 ci := Option.some.inj (k3.symm.trans hcls.1)
  subst hcomp
  obtain ⟨kC, hkC, -⟩ := hcls.2
  refine W.aast (v := ad B b v) (cv := cellV) hx hb hc.2 (fun q h => by cases h) (fun h => by cases h) k1 k2 rfl hkC ⟨fun q => hi (Or.inl q), ?_⟩ (by rw [ad_lt hvl]; exact g1) (fun q h => by rw [g3] at h; cases h) (by rw [g2]; exact hkC) (by rw [g2]; exact va_assign hcls) rfl rfl hd fun H' f1 f2 f3 => ?_
  · rw [arrV_size]
    exact Nat.not_le.mp fun q => hi (Or.inr q)
  · exact kk H' _ (row_st ht7.2 hR hq rfl (sZ_o _ _) (ev_sZ _ _ ht7.1) f1 f2 f3) (hS0.put f2 f3 (Nat.le_add_right B a))
end RW
end
section
/-! what is new on the heap; arraycopy; the rows of the kit's own calls -/
theorem mAT_ok : mAT.all (fun r => decide (lw_tbl[r.2.2.2]? = some (.classLink (mC r.1) r.2.1 (if r.2.2.1 = 4 then RX4 else if r.2.2.1 = 5 then RX0 else "[" ++ (FieldType.array FieldType.int).toString)))) = true := by decide +kernel
theorem mAO_ok : decide (lw_tbl[129]? = some (.arrayOver (.object RX4))) && decide (lw_tbl[193]? = some (.arrayOver (.object RX0))) && decide (lw_tbl[160]? = some (.arrayOver (.array .int))) = true := by decide +kernel
theorem mAC_ok : decide (lw_tbl[112]? = some (.arrayClass .int)) && decide (lw_tbl[87]? = some (.arrayClass .byte)) && decide (lw_tbl[244]? = some (.arrayClass .boolean)) && decide (lw_tbl[835]? = some (.arrayClass .long)) = true := by decide +kernel
theorem mAC {t : Nat} {ty : FieldType} (ht : t < 4) (h : mTY[t]? = some ty) : .arrayClass ty ∈ lw_gd := by
  have h1 := mAC_ok
  simp only [Bool.and_eq_true, decide_eq_true_eq] at h1
  obtain ⟨⟨⟨h2, h3⟩, h4⟩, h5⟩ := h1
  rcases (show t = 0 ∨ t = 1 ∨ t = 2 ∨ t = 3 by omega) with rfl | rfl | rfl | rfl <;> cases h
  · exact gdm h2 rfl
  · exact gdm h3 rfl
  · exact gdm h4 rfl
  · exact gdm h5 rfl
theorem chkN_spec {mi idx ci n row : Nat} {z : Int} (h : chkN mi idx (ci, n, row, z) = true) : (Cond.classLink (mC (mO mi)) idx (mC ci)) ∈ lw_gd ∧ (Cond.instantiable (mC ci) n) ∈ lw_gd ∧ (Cond.initialized (mC ci)) ∈ lw_gd ∧ n = mNN ci ∧ ci < 8 := by
  unfold chkN at h
  cases hr : mNT[row]? with
  | none => simp [hr] at h
  | some r =>
    simp only [hr, Bool.and_eq_true, beq_iff_eq] at h
    have h2 := List.all_eq_true.mp mNT_ok r (List.mem_of_getElem? hr)
    simp only [Bool.and_eq_true, decide_eq_true_eq] at h2
    obtain ⟨⟨⟨h3, h4⟩, h5⟩, h6⟩ := h
    rw [h3, h4, h5, h6] at h2
    obtain ⟨⟨⟨⟨g1, g2⟩, g3⟩, g4⟩, g5⟩ := h2
    exact ⟨gdm g1 rfl, gdm g2 rfl, gdm g3 rfl, g4, g5⟩
theorem chkA_spec {mi idx t k row : Nat} {z : Int} (h : chkA mi idx (t, k, row, z) = true) : (Cond.classLink (mC (mO mi)) idx (if t = 4 then RX4 else if t = 5 then RX0 else "[" ++ (FieldType.array FieldType.int).toString)) ∈ lw_gd := by
  unfold chkA at h
  cases hr : mAT[row]? with
  | none => simp [hr] at h
  | some r =>
    simp only [hr, Bool.and_eq_true, beq_iff_eq] at h
    have h2 := List.all_eq_true.mp mAT_ok r (List.mem_of_getElem? hr)
    simp only [decide_eq_true_eq] at h2
    obtain ⟨⟨h3, h4⟩, h5⟩ := h
    rw [h3, h4, h5] at h2
    exact gdm h2 rfl
theorem hSz_nw (h : Hp) (kd n : Nat) : hSz (nw h kd n) = hSz h + n := by
  unfold hSz nw
  simp [List.map_append, List.sum_append]
theorem nw_len (h : Hp) (kd n : Nat) : (nw h kd n).1.length = h.1.length + 1 := by simp [nw]
theorem nwM_fact (h : Hp) (k : Nat) : ∀ n, (nwM h k n).1 = h.1 ++ List.replicate n (100, k) ∧ (∀ x, x < h.1.length → (nwM h k n).2.1 x = h.2.1 x ∧ (nwM h k n).2.2.1 x = h.2.2.1 x ∧ (nwM h k n).2.2.2 x = h.2.2.2 x) ∧ (∀ x, h.1.length ≤ x → x < h.1.length + n → (nwM h k n).2.1 x = fun _ => 0)
  | 0 => ⟨by simp [nwM], fun x _ => ⟨rfl, rfl, rfl⟩, fun x h1 h2 => by omega⟩
  | n + 1 => by
    obtain ⟨i1, i2, i3⟩ := nwM_fact h k n
    have hl : (nwM h k n).1.length = h.1.length + n := by rw [i1]; simp
    refine ⟨?_, fun x hx => ?_, fun x h1 h2 => ?_⟩
    · show (nwM h k n).1 ++ [(100, k)] = _
      rw [i1, List.append_assoc, ← List.replicate_succ']
    · obtain ⟨j1, j2, j3⟩ := i2 x hx
      have hne : x ≠ (nwM h k n).1.length := by omega
      exact ⟨(up_ne hne).trans j1, (up_ne hne).trans j2, (up_ne hne).trans j3⟩
    · by_cases hx : x = (nwM h k n).1.length
      · rw [hx]
        exact up_eq
      · exact (up_ne hx).trans (i3 x h1 (by omega))
/-- the outer array behind i rows -/
theorem m_outer (c : ClassId) (N h0 : Nat) : ∀ i : Nat, Jvm.Free.Multi.outerC c N h0 i = arrV c N (fun j => va_rf (if j < i then some (h0 + 1 + j) else none))
  | 0 => by
    show ({ cls := c, slots := Array.replicate N .null, vm := .none } : Cell) = _
    rw [arrV_new]
    refine congrArg (arrV c N) (funext fun j => ?_)
    simp [va_rf]
  | i + 1 => by
    show (Jvm.Free.Multi.outerC c N h0 i).setSlot i (.ref (h0 + 1 + i)) = _
    rw [m_outer c N h0 i, arrV_store]
    refine congrArg (arrV c N) (funext fun j => ?_)
    by_cases e : j = i
    · subst e
      simp [updV, va_rf]
    · by_cases h : j < i
      · simp [updV, e, h, Nat.lt_succ_of_lt h]
      · simp [updV, e, h, show ¬ j < i + 1 by omega]
section RA
variable {p : Program} {l : Launch} {e : Env} {R : Room} {s : State} {m : MethodId} {args : Array Value} {below : List Frame} {meth : Method} {c : Code} {H : Heap} {locs : List Loc} {cells slots : Nat} {Q : State → Prop}
variable {D : va_G} {cT : Nat → ClassId} {B b mi d pc idx : Nat} {lsA : Array Slot} {rest : List Value} {h h' : Hp} {a ci k n row : Nat} {z : Int}
theorem Rp.grow {H1 : Heap} {L : List (Nat × Nat)} (hR : Rp D cT B b h H) (e1 : h'.1 = h.1 ++ L) (hlen : h.1.length + L.length ≤ 1000) (ho : ∀ x, x < h.1.length → h'.2.1 x = h.2.1 x ∧ h'.2.2.1 x = h.2.2.1 x ∧ h'.2.2.2 x = h.2.2.2 x) (z : H1.size = H.size + L.length) (oq : ∀ x : Nat, x < H.size → H1[x]? = H[x]?)
    (hc : ∀ (i : Nat) (q : Nat × Nat), L[i]? = some q → cAt D cT B b h' (h.1.length + i) q H1) : Rp D cT B b h' H1 := by
  refine ⟨by rw [z, e1, hR.1, List.length_append]; omega, by rw [e1, List.length_append]; exact hlen, fun x q hq => ?_⟩
  rw [e1] at hq
  by_cases hx : x < h.1.length
  · rw [List.getElem?_append_left hx] at hq
    obtain ⟨o1, o2, o3⟩ := ho x hx
    exact cAt_congr o1 o2 o3 (oq _ (by rw [hR.1]; omega)) (hR.2.2 x q hq)
  · rw [List.getElem?_append_right (by omega)] at hq
    have := hc _ q hq
    rw [show h.1.length + (x - h.1.length) = x by omega] at this
    exact this
theorem nw_o (kd : Nat) : ∀ x, x < h.1.length → (nw h kd n).2.1 x = h.2.1 x ∧ (nw h kd n).2.2.1 x = h.2.2.1 x ∧ (nw h kd n).2.2.2 x = h.2.2.2 x := fun x hx => ⟨up_ne (by omega), up_ne (by omega), up_ne (by omega)⟩
theorem row_new (X : Cx p R s m args meth c D cT B mi d) (hd : decode (mB mi) pc = .ok (.new idx, 3)) (hF : chkN mi idx (ci, n, row, z) = true) (hR : Rp D cT B b h H) (hS0 : va_S (fun q => B ≤ q) s.heap H locs) (hlen : h.1.length < 900) (hcells : cells + 1 ≤ R.cells) (hslots : slots + n ≤ R.slots)
    (kk : ∀ (H1 : Heap) (locs1 : List Loc), Rp D cT B b (nw h ci n) H1 → va_S (fun q => B ≤ q) s.heap H1 locs1 → W p l e R s m args below meth c H1 locs1 (cells + 1) (slots + n) Q (F0 m (pc + 3) lsA (.ref (ad B b h.1.length) :: rest))) : W p l e R s m args below meth c H locs cells slots Q (F0 m pc lsA rest) := by
  obtain ⟨hx, hb, hml, hown, hts, hK, -, -, -, -, hB⟩ := X
  obtain ⟨w1, w2, w3, hn, hci⟩ := chkN_spec hF
  subst hn
  have hKn := hK.1 ci _ (vwAt hci)
  refine W.newcK hx hb hown (hts _ w1) (hts _ w2) (hts _ w3) rfl hd hcells hslots hKn.2.1 hR.1 fun H1 kC hkC e1 z1 o1 => ?_
  rw [ad_lt (show h.1.length < 1000 by omega)] at kk
  refine kk H1 _ (hR.grow (L := [(ci, mNN ci)]) rfl (by simp; omega) (nw_o ci) (by rw [z1, hR.1]; rfl) (fun x hx => o1 x (by rw [← hR.1]; exact hx)) (fun i q hq => ?_)) ⟨Nat.le_trans hS0.1 (by rw [z1, hR.1]; omega), fun x h1 h2 => (o1 x (by rw [← hR.1]; exact Nat.lt_of_lt_of_le h1 hS0.1)).trans (hS0.2.1 x h1 h2), hS0.2.2⟩
  have hi : i < 1 := (List.getElem?_eq_some_iff.mp hq).1
  have hi0 : i = 0 := by omega
  subst hi0
  cases hq
  refine Or.inl ⟨hci, (u_born (mTyF ci) hts (mLay hci) hKn hkC e1 (mTy_ok hci)).to (fun j hj => ?_)⟩
  obtain ⟨t1, t2⟩ := mTK_of hci hj
  unfold fv
  show _ = (match mTK ci j with | 0 => Value.int (va_up h.2.1 h.1.length (fun _ => 0) (h.1.length + 0) j) | 1 => .long (va_up h.2.2.1 h.1.length (fun _ => 0) (h.1.length + 0) j) | _ => va_rf ((va_up h.2.2.2 h.1.length (fun _ => none) (h.1.length + 0) j).map (ad B b)))
  rw [Nat.add_zero, up_eq, up_eq, up_eq]
  cases hty : mTyF ci j <;> simp only [hty] at t1 <;> rw [t1] at t2 ⊢ <;> first | rfl | omega
theorem row_newa {atype : ArrayType} {t N : Nat} {ty : FieldType} {v : Int32} (ht : t < 4) (hty : mTY[t]? = some ty) (hat : newarray.typeOf atype = ty) (X : Cx p R s m args meth c D cT B mi d) (hd : decode (mB mi) pc = .ok (.newarray atype, 2)) (hR : Rp D cT B b h H) (hS0 : va_S (fun q => B ≤ q) s.heap H locs) (hlen : h.1.length < 900) (hv : ¬ v < 0) (hN : v.toNatClampNeg = N) (hN2 : N ≤ 1000) (hcells : cells + 1 ≤ R.cells) (hslots : slots + N ≤ R.slots)
    (kk : ∀ (H1 : Heap) (locs1 : List Loc), Rp D cT B b (nw h (100 + t) N) H1 → va_S (fun q => B ≤ q) s.heap H1 locs1 → W p l e R s m args below meth c H1 locs1 (cells + 1) (slots + N) Q (F0 m (pc + 2) lsA (.ref (ad B b h.1.length) :: rest))) : W p l e R s m args below meth c H locs cells slots Q (F0 m pc lsA (.int v :: rest)) := by
  obtain ⟨hx, hb, hml, hown, hts, hK, -, -, -, -, hB⟩ := X
  subst hat
  have hbytes : N * componentBytes (newarray.typeOf atype) ≤ 536870912 := by
    have : componentBytes (newarray.typeOf atype) ≤ 8 := by cases atype <;> decide
    exact Nat.le_trans (Nat.mul_le_mul hN2 this) (by decide)
  refine va_newaK hx hb (hts _ (mAC ht hty)) rfl hd rfl hv hN hbytes hcells hslots hR.1 fun H1 cA e1 z1 o1 hAr hNm => ?_
  have hcA : cA = cT t := by
    have h9 := (hK.2 t _ hty).2
    have h10 : s.vm.findClass ("[" ++ (newarray.typeOf atype).toString) = some (cT t) := by cases atype <;> exact h9
    exact Option.some.inj (hNm.symm.trans h10)
  rw [ad_lt (show h.1.length < 1000 by omega)] at kk
  refine kk H1 _ (hR.grow (L := [(100 + t, N)]) rfl (by simp; omega) (nw_o (100 + t)) (by rw [z1, hR.1]; rfl) (fun x hx => o1 x (by rw [← hR.1]; exact hx)) (fun i q hq => ?_)) ⟨Nat.le_trans hS0.1 (by rw [z1, hR.1]; omega), fun x h1 h2 => (o1 x (by rw [← hR.1]; exact Nat.lt_of_lt_of_le h1 hS0.1)).trans (hS0.2.1 x h1 h2), hS0.2.2⟩
  have hi : i < 1 := (List.getElem?_eq_some_iff.mp hq).1
  have hi0 : i = 0 := by omega
  subst hi0
  cases hq
  refine Or.inr ⟨Nat.le_add_right _ _, by simp only; omega, ?_⟩
  simp only
  rw [show 100 + t - 100 = t by omega, Nat.add_zero, e1, hcA]
  refine congrArg some (congrArg (arrV (cT t) N) (funext fun j => ?_))
  rcases (show t = 0 ∨ t = 1 ∨ t = 2 ∨ t = 3 by omega) with rfl | rfl | rfl | rfl
  · have e9 : newarray.typeOf atype = .int := (Option.some.inj hty).symm
    rw [e9]
    show _ = Value.int (va_up h.2.1 h.1.length (fun _ => 0) h.1.length j)
    rw [up_eq]
    rfl
  · have e9 : newarray.typeOf atype = .byte := (Option.some.inj hty).symm
    rw [e9]
    show _ = Value.int (va_up h.2.1 h.1.length (fun _ => 0) h.1.length j)
    rw [up_eq]
    rfl
  · have e9 : newarray.typeOf atype = .boolean := (Option.some.inj hty).symm
    rw [e9]
    show _ = Value.int (va_up h.2.1 h.1.length (fun _ => 0) h.1.length j)
    rw [up_eq]
    rfl
  · have e9 : newarray.typeOf atype = .long := (Option.some.inj hty).symm
    rw [e9]
    show _ = Value.long (va_up h.2.2.1 h.1.length (fun _ => 0) h.1.length j)
    rw [up_eq]
    rfl
theorem row_newq {t N : Nat} {C : String} {v : Int32} (htC : (t = 4 ∧ C = RX4) ∨ (t = 5 ∧ C = RX0)) (X : Cx p R s m args meth c D cT B mi d) (hd : decode (mB mi) pc = .ok (.anewarray idx, 3)) (hF : chkA mi idx (t, k, row, z) = true) (hR : Rp D cT B b h H) (hS0 : va_S (fun q => B ≤ q) s.heap H locs) (hlen : h.1.length < 900) (hv : ¬ v < 0) (hN : v.toNatClampNeg = N) (hN2 : N ≤ 1000) (hcells : cells + 1 ≤ R.cells) (hslots : slots + N ≤ R.slots)
    (kk : ∀ (H1 : Heap) (locs1 : List Loc), Rp D cT B b (nw h (100 + t) N) H1 → va_S (fun q => B ≤ q) s.heap H1 locs1 → W p l e R s m args below meth c H1 locs1 (cells + 1) (slots + N) Q (F0 m (pc + 3) lsA (.ref (ad B b h.1.length) :: rest))) : W p l e R s m args below meth c H locs cells slots Q (F0 m pc lsA (.int v :: rest)) := by
  obtain ⟨hx, hb, hml, hown, hts, hK, hN9, -, -, -, hB⟩ := X
  subst hN
  have hcl := hts _ (chkA_spec hF)
  have hmo := mAO_ok
  simp only [Bool.and_eq_true, decide_eq_true_eq] at hmo
  have hover : (Cond.arrayOver (.object C)).before args s = true := by
    rcases htC with ⟨-, rfl⟩ | ⟨-, rfl⟩
    · exact hN9 _ (onm hmo.1.1 rfl)
    · exact hN9 _ (onm hmo.1.2 rfl)
  have hcl2 : (Cond.classLink (mC (mO mi)) idx C).before args s = true := by
    rcases htC with ⟨rfl, rfl⟩ | ⟨rfl, rfl⟩
    · exact hcl
    · exact hcl
  have hty : mTY[t]? = some (.object C) := by
    rcases htC with ⟨rfl, rfl⟩ | ⟨rfl, rfl⟩ <;> rfl
  refine W.anew hx hb hown hcl2 hover rfl hd rfl hv (Nat.le_trans (Nat.mul_le_mul_right 4 hN2) (by decide)) hcells hslots fun cA kA comp f1 f2 f3 f4 => ?_
  have hcA : cA = cT t := by
    obtain ⟨_, _, -, -, -, h10⟩ := (hK.2 t _ hty).2
    exact Option.some.inj (f1.symm.trans h10)
  generalize hH1 : H.push ({ cls := cA, slots := Array.replicate v.toNatClampNeg .null, vm := .none } : Cell) = H1
  have z1 : H1.size = H.size + 1 := by rw [← hH1, Array.size_push]
  have e1 : H1[H.size]? = some (arrV cA v.toNatClampNeg (fun _ => .null)) := by rw [← hH1, Array.getElem?_push_size, ← arrV_new]
  have o1 : ∀ q : Nat, q < H.size → H1[q]? = H[q]? := fun q hq => by rw [← hH1, Array.getElem?_push, if_neg (Nat.ne_of_lt hq)]
  rw [ad_lt (show h.1.length < 1000 by omega), ← hR.1] at kk
  refine kk H1 _ (hR.grow (L := [(100 + t, v.toNatClampNeg)]) rfl (by simp; omega) (nw_o (100 + t)) (by rw [z1]; rfl) o1 (fun i q hq => ?_)) ⟨Nat.le_trans hS0.1 (by rw [z1]; omega), fun x h1 h2 => (o1 x (Nat.lt_of_lt_of_le h1 hS0.1)).trans (hS0.2.1 x h1 h2), hS0.2.2⟩
  have hi : i < 1 := (List.getElem?_eq_some_iff.mp hq).1
  have hi0 : i = 0 := by omega
  subst hi0
  cases hq
  have ht : 3 < t ∧ t < 7 := by omega
  refine Or.inr ⟨Nat.le_add_right _ _, by simp only; omega, ?_⟩
  simp only
  rw [show 100 + t - 100 = t by omega, Nat.add_zero, ← hR.1, e1, hcA, ev_r ht.1]
  refine congrArg some (congrArg (arrV (cT t) _) (funext fun j => ?_))
  show _ = va_rf ((va_up h.2.2.2 h.1.length (fun _ => none) h.1.length j).map (ad B b))
  rw [up_eq]
  rfl
theorem row_mna {v w : Int32} (X : Cx p R s m args meth c D cT B mi d) (hd : decode (mB mi) pc = .ok (.multianewarray idx 2, 4)) (hF : chkA mi idx (6, k, row, z) = true) (hR : Rp D cT B b h H) (hS0 : va_S (fun q => B ≤ q) s.heap H locs) (hlen : h.1.length < 900) (hv : ¬ v < 0) (hw : ¬ w < 0) (hN : v.toNatClampNeg ≤ 50) (hM : w.toNatClampNeg ≤ 1000) (hcells : cells + (1 + v.toNatClampNeg) ≤ R.cells) (hslots : slots + (v.toNatClampNeg + v.toNatClampNeg * w.toNatClampNeg) ≤ R.slots)
    (kk : ∀ (H1 : Heap) (locs1 : List Loc), Rp D cT B b (sZR (nwM (nw h 106 v.toNatClampNeg) w.toNatClampNeg v.toNatClampNeg) h.1.length (fun i => if i < v.toNatClampNeg then some (h.1.length + 1 + i) else none)) H1 → va_S (fun q => B ≤ q) s.heap H1 locs1 → W p l e R s m args below meth c H1 locs1 (cells + 1 + v.toNatClampNeg) (slots + v.toNatClampNeg + v.toNatClampNeg * w.toNatClampNeg) Q (F0 m (pc + 4) lsA (.ref (ad B b h.1.length) :: rest))) : W p l e R s m args below meth c H locs cells slots Q (F0 m pc lsA (.int w :: .int v :: rest)) := by
  obtain ⟨hx, hb, hml, hown, hts, hK, hN9, -, -, -, hB⟩ := X
  have hcl := hts _ (chkA_spec hF)
  have hmo := mAO_ok
  simp only [Bool.and_eq_true, decide_eq_true_eq] at hmo
  have hover : (Cond.arrayOver (.array .int)).before args s = true := hN9 _ (onm hmo.2 rfl)
  have hac : (Cond.arrayClass .int).before args s = true := hts _ (mAC (t := 0) (by decide) rfl)
  intro T hT Xs
  obtain ⟨vm₁, cA, comp, -, fA, fC, hO, -, X', step⟩ := Xs.multianewarray2F hx hown hcl hover hac (g := F0 m pc lsA (.int w :: .int v :: rest)) rfl (by rw [hb]; exact hd) rfl hv hw (by omega) (Nat.le_trans (Nat.mul_le_mul hM (show componentBytes .int ≤ 8 by decide)) (by decide)) (by omega) rfl rfl hcells hslots
  have hcy : comp = cT 0 := by
    have h9 := (hK.2 0 .int rfl).2
    have h10 : s.vm.findClass ("[" ++ FieldType.int.toString) = some (cT 0) := h9
    have e9 : (FieldType.array .int).toString = "[" ++ FieldType.int.toString := rfl
    rw [e9] at fC
    exact Option.some.inj (fC.symm.trans h10)
  have hcA : cA = cT 6 := by
    have h9 := (hK.2 6 (.array .int) rfl).2
    have h10 : s.vm.findClass ("[" ++ (FieldType.array .int).toString) = some (cT 6) := h9
    exact Option.some.inj (fA.symm.trans h10)
  generalize hFF : Jvm.Free.Multi.fill (T.setVm vm₁) cA comp v.toNatClampNeg w.toNatClampNeg (defaultValue .int) v.toNatClampNeg = F at X' step
  have hTh : (T.setVm vm₁).heap = H := hT
  obtain ⟨f1, f2, -, -⟩ := Jvm.Free.Multi.fill_facts (T.setVm vm₁) cA comp v.toNatClampNeg w.toNatClampNeg (defaultValue .int) v.toNatClampNeg
  rw [hFF, hTh] at f1 f2
  have hold : ∀ x : Nat, x < H.size → F.heap[x]? = H[x]? := fun x hx => by
    have := Jvm.Free.Multi.fill_old (T.setVm vm₁) cA comp v.toNatClampNeg w.toNatClampNeg (defaultValue .int) (a := x) (by rw [hTh]; exact hx) v.toNatClampNeg
    rw [hFF, hTh] at this
    exact this
  have hrow : ∀ j : Nat, j < v.toNatClampNeg → F.heap[H.size + 1 + j]? = some (arrV comp w.toNatClampNeg (fun _ => .int 0)) := fun j hj => by
    have := Jvm.Free.Multi.fill_inner (T.setVm vm₁) cA comp v.toNatClampNeg w.toNatClampNeg (defaultValue .int) v.toNatClampNeg j hj
    rw [hFF, hTh] at this
    rw [this]
    exact congrArg some (arrV_new _ _ _)
  rw [m_outer, hR.1] at f2
  obtain ⟨n1, n2, n3⟩ := nwM_fact (nw h 106 v.toNatClampNeg) w.toNatClampNeg v.toNatClampNeg
  have hnl := nw_len h 106 v.toNatClampNeg
  have e1 : (sZR (nwM (nw h 106 v.toNatClampNeg) w.toNatClampNeg v.toNatClampNeg) h.1.length (fun i => if i < v.toNatClampNeg then some (h.1.length + 1 + i) else none)).1 = h.1 ++ ((106, v.toNatClampNeg) :: List.replicate v.toNatClampNeg (100, w.toNatClampNeg)) := by
    show (nwM (nw h 106 v.toNatClampNeg) w.toNatClampNeg v.toNatClampNeg).1 = _
    rw [n1]
    show (h.1 ++ [(106, v.toNatClampNeg)]) ++ _ = _
    rw [List.append_assoc]
    rfl
  have hRn : Rp D cT B b (sZR (nwM (nw h 106 v.toNatClampNeg) w.toNatClampNeg v.toNatClampNeg) h.1.length (fun i => if i < v.toNatClampNeg then some (h.1.length + 1 + i) else none)) F.heap := by
    refine hR.grow e1 (by simp; omega) (fun x hx => ?_) (by rw [f1, List.length_cons, List.length_replicate]; omega) hold (fun i q hq => ?_)
    · obtain ⟨j1, j2, j3⟩ := n2 x (by omega)
      obtain ⟨k1, k2, k3⟩ := nw_o (h := h) (n := v.toNatClampNeg) 106 x hx
      refine ⟨j1.trans k1, j2.trans k2, ?_⟩
      show va_up _ h.1.length _ x = _
      rw [up_ne (by omega)]
      exact j3.trans k3
    · cases i with
      | zero =>
        cases hq
        refine Or.inr ⟨by simp only; omega, by simp only; omega, ?_⟩
        rw [Nat.add_zero, f2, hcA, show (106 : Nat) - 100 = 6 from rfl, ev_r (by decide)]
        refine congrArg some (congrArg (arrV (cT 6) _) (funext fun j => ?_))
        show _ = va_rf ((va_up (α := Nat → Option Nat) _ h.1.length _ h.1.length j).map (ad B b))
        rw [up_eq]
        by_cases hj : j < v.toNatClampNeg
        · rw [if_pos hj, if_pos hj]
          show _ = va_rf (some (ad B b (h.1.length + 1 + j)))
          rw [ad_lt (by omega), show B + (h.1.length + 1 + j) = B + h.1.length + 1 + j by omega]
        · rw [if_neg hj, if_neg hj]
          rfl
      | succ i =>
        rw [List.getElem?_cons_succ, List.getElem?_replicate] at hq
        by_cases hi : i < v.toNatClampNeg
        · rw [if_pos hi] at hq
          cases hq
          refine Or.inr ⟨by simp only; omega, by simp only; omega, ?_⟩
          have hr := hrow i hi
          rw [hR.1] at hr
          rw [show B + (h.1.length + (i + 1)) = B + h.1.length + 1 + i by omega, hr, hcy, show (100 : Nat) - 100 = 0 from rfl, ev_i (by decide)]
          refine congrArg some (congrArg (arrV (cT 0) _) (funext fun j => ?_))
          show _ = Value.int ((nwM (nw h 106 v.toNatClampNeg) w.toNatClampNeg v.toNatClampNeg).2.1 (h.1.length + (i + 1)) j)
          rw [n3 _ (by omega) (by omega)]
        · rw [if_neg hi] at hq
          cases hq
  rw [ad_lt (show h.1.length < 1000 by omega), ← hR.1] at kk
  have hTs : T.heap.size = H.size := by rw [hT]
  obtain ⟨t, a1, b1⟩ := kk F.heap locs hRn ⟨Nat.le_trans hS0.1 (by rw [f1]; omega), fun x h1 h2 => (hold x (Nat.lt_of_lt_of_le h1 hS0.1)).trans (hS0.2.1 x h1 h2), hS0.2.2⟩ F rfl X'
  exact ⟨t, step t (by rw [hTs]; exact a1), b1⟩
end RA
end
section
/-! a step of the pure machine is a step of the machine -/
theorem mKW_ok : decide (lw_tbl[69]? = some (.instanceMethod objectInit)) && decide (lw_tbl[70]? = some (.code objectInit ⟨#[0xb1]⟩ 1 none)) && decide (lw_tbl[61]? = some (.initialized "java/lang/Math")) && decide (lw_tbl[62]? = some (.initialized "java/lang/System"))
  && decide (lw_tbl[361]? = some (.static Lib.Math.min.name)) && decide (lw_tbl[362]? = some (.code Lib.Math.min.name Lib.Math.min.code 2 (some .int))) && decide (lw_tbl[592]? = some (.static Lib.Math.max.name)) && decide (lw_tbl[593]? = some (.code Lib.Math.max.name Lib.Math.max.code 2 (some .int)))
  && decide (lw_tbl[636]? = some (.static Lib.MathLoose.max_long.x)) && decide (lw_tbl[637]? = some (.code Lib.MathLoose.max_long.x Lib.MathLoose.max_long.code 4 (some .long))) && decide (lw_tbl[696]? = some (.static arraycopyName)) && decide (lw_tbl[697]? = some (.native arraycopyName)) = true := by decide +kernel
theorem chkC_spec {mi idx t na row : Nat} {z : Int} (h : chkC mi idx (t, na, row, z) = true) : ∃ r, mCT[row]? = some r ∧ r.1 = mO mi ∧ r.2.1 = idx ∧ r.2.2.1 = t ∧ r.2.2.2.1 = na ∧ (r.2.2.2.2.1 : Int) = z := by
  unfold chkC at h
  cases hr : mCT[row]? with
  | none => simp [hr] at h
  | some r =>
    simp only [hr, Bool.and_eq_true, beq_iff_eq, decide_eq_true_eq] at h
    exact ⟨r, rfl, h.1.1.1.1, h.1.1.1.2, h.1.1.2, h.1.2, h.2⟩
theorem chkC_link {mi idx t na row : Nat} {z : Int} (h : chkC mi idx (t, na, row, z) = true) (hz : z ≠ 3) : Cond.methodLink (mC (mO mi)) idx (mS t) ∈ lw_gd := by
  obtain ⟨r, hr, h1, h2, h3, h4, h5⟩ := chkC_spec h
  have h6 := List.all_eq_true.mp mCT_ok r (List.mem_of_getElem? hr)
  rw [if_neg (by omega), decide_eq_true_eq, h1, h2, h3] at h6
  exact gdm h6 rfl
theorem chkL_spec {mi idx a2 k row : Nat} {z : Int} (h : chkL mi idx (a2, k, row, z) = true) : Cond.constantLong (mC (mO mi)) idx (Int64.ofInt z) ∈ lw_gd := by
  unfold chkL at h
  cases hr : mLT[row]? with
  | none => simp [hr] at h
  | some r =>
    simp only [hr, Bool.and_eq_true, beq_iff_eq, decide_eq_true_eq] at h
    have h2 := List.all_eq_true.mp mLT_ok r (List.mem_of_getElem? hr)
    rw [decide_eq_true_eq, h.1.1, h.1.2, h.2] at h2
    exact gdm h2 rfl
theorem lenD {mi pc len n : Nat} {i : Instr} {x : Au} (hm : mP mi pc = some (i, len, x)) (hl : lenE (i, len, x) = (len == n)) : decode (mB mi) pc = .ok (i, n) := by
  have h1 := mP_len hm
  rw [hl, beq_iff_eq] at h1
  rw [← h1]
  exact (mP_dec hm).1
theorem lenC {mi pc len n : Nat} {i : Instr} {x : Au} {w : Bool} (hm : mP mi pc = some (i, len, x)) (hl : lenE (i, len, x) = (len == n && w)) : decode (mB mi) pc = .ok (i, n) ∧ w = true := by
  have h1 := mP_len hm
  rw [hl, Bool.and_eq_true, beq_iff_eq] at h1
  rw [← h1.1]
  exact ⟨(mP_dec hm).1, h1.2⟩
theorem fr_some {pc : Nat} {ls : Ls} {h : Hp} {o : Option (List Value)} {q : Fr} (hs : fr pc ls h o = some q) : ∃ s, o = some s ∧ q = (pc, ls, s, h) := by
  unfold fr at hs
  cases o with
  | none => cases hs
  | some s => exact ⟨s, rfl, (Option.some.inj hs).symm⟩
theorem oI1_some {f : Int32 → Value} {st s : List Value} (h : oI1 f st = some s) : ∃ x r, st = .int x :: r ∧ s = f x :: r := by
  unfold oI1 at h
  split at h
  · exact ⟨_, _, rfl, (Option.some.inj h).symm⟩
  · cases h
theorem oI2_some {f : Int32 → Int32 → Value} {st s : List Value} (h : oI2 f st = some s) : ∃ x y r, st = .int y :: .int x :: r ∧ s = f x y :: r := by
  unfold oI2 at h
  split at h
  · exact ⟨_, _, _, rfl, (Option.some.inj h).symm⟩
  · cases h
theorem oL1_some {f : Int64 → Value} {st s : List Value} (h : oL1 f st = some s) : ∃ x r, st = .long x :: r ∧ s = f x :: r := by
  unfold oL1 at h
  split at h
  · exact ⟨_, _, rfl, (Option.some.inj h).symm⟩
  · cases h
theorem oL2_some {f : Int64 → Int64 → Value} {st s : List Value} (h : oL2 f st = some s) : ∃ x y r, st = .long y :: .long x :: r ∧ s = f x y :: r := by
  unfold oL2 at h
  split at h
  · exact ⟨_, _, _, rfl, (Option.some.inj h).symm⟩
  · cases h
theorem oLI_some {f : Int64 → Int32 → Value} {st s : List Value} (h : oLI f st = some s) : ∃ x y r, st = .int y :: .long x :: r ∧ s = f x y :: r := by
  unfold oLI at h
  split at h
  · exact ⟨_, _, _, rfl, (Option.some.inj h).symm⟩
  · cases h
def scOk (scr : Scr) (b B : Nat) (s : State) : Prop := match scr with
  | none => True
  | some q => va_X b q.1 q.2 s s.heap ∧ b < s.heap.size ∧ b < B
def SW (p : Program) (l : Launch) (e : Env) (R : Room) (s : State) (m : MethodId) (args : Array Value) (below : List Frame) (meth : Method) (c : Code) (D : va_G) (cT : Nat → ClassId) (B b mi : Nat) (Q : State → Prop) (k0 z0 pc : Nat) (ls : Ls) (st : List Value) (h : Hp) : Prop :=
  ∀ (H : Heap) (locs : List Loc) (lsA : Array Slot) (cells slots : Nat), Rp D cT B b h H → va_S (fun q => B ≤ q) s.heap H locs → LV B b ls lsA (mL mi) → cells + k0 = h.1.length → slots + z0 = hSz h →
    W p l e R s m args below meth c H locs cells slots Q (F0 m pc lsA (st.map (tr B b)))
section SP
variable {p : Program} {l : Launch} {e : Env} {R : Room} {s : State} {m : MethodId} {args : Array Value} {below : List Frame} {meth : Method} {c : Code} {Q : State → Prop}
variable {D : va_G} {cT : Nat → ClassId} {B b mi d pc len k0 z0 : Nat} {ls : Ls} {st : List Value} {h : Hp} {q : Fr} {scr : Scr}
theorem s_cI {i : Instr} {x : Au} {n k : Nat} (hs : cI (ldL ls k) (pc + n) ls st h = some q) (k1 : SW p l e R s m args below meth c D cT B b mi Q k0 z0 q.1 q.2.1 q.2.2.1 q.2.2.2)
    (row : ∀ (H : Heap) (locs : List Loc) (lsA : Array Slot) (cells slots : Nat) (v : Int32) (rest : List Value), lsA[k]? = some (.val (.int v)) → W p l e R s m args below meth c H locs cells slots Q (F0 m (pc + n) lsA (.int v :: rest)) → W p l e R s m args below meth c H locs cells slots Q (F0 m pc lsA rest)) : SW p l e R s m args below meth c D cT B b mi Q k0 z0 pc ls st h := by
  intro H locs lsA cells slots hR hS hL hc hz
  unfold cI at hs
  split at hs
  · rename_i v hv
    cases hs
    exact row H locs lsA cells slots v _ (hL.at hv) (k1 H locs lsA cells slots hR hS hL hc hz)
  · cases hs
theorem s_cL {i : Instr} {x : Au} {n k : Nat} (hs : cL (ldL ls k) (pc + n) ls st h = some q) (k1 : SW p l e R s m args below meth c D cT B b mi Q k0 z0 q.1 q.2.1 q.2.2.1 q.2.2.2)
    (row : ∀ (H : Heap) (locs : List Loc) (lsA : Array Slot) (cells slots : Nat) (v : Int64) (rest : List Value), lsA[k]? = some (.val (.long v)) → W p l e R s m args below meth c H locs cells slots Q (F0 m (pc + n) lsA (.long v :: rest)) → W p l e R s m args below meth c H locs cells slots Q (F0 m pc lsA rest)) : SW p l e R s m args below meth c D cT B b mi Q k0 z0 pc ls st h := by
  intro H locs lsA cells slots hR hS hL hc hz
  unfold cL at hs
  split at hs
  · rename_i v hv
    cases hs
    exact row H locs lsA cells slots v _ (hL.at hv) (k1 H locs lsA cells slots hR hS hL hc hz)
  · cases hs
theorem s_cA {i : Instr} {x : Au} {n k : Nat} (hs : cA (ldL ls k) (pc + n) ls st h = some q) (k1 : SW p l e R s m args below meth c D cT B b mi Q k0 z0 q.1 q.2.1 q.2.2.1 q.2.2.2)
    (row : ∀ (H : Heap) (locs : List Loc) (lsA : Array Slot) (cells slots : Nat) (v : Nat) (rest : List Value), lsA[k]? = some (.val (.ref v)) → W p l e R s m args below meth c H locs cells slots Q (F0 m (pc + n) lsA (.ref v :: rest)) → W p l e R s m args below meth c H locs cells slots Q (F0 m pc lsA rest)) : SW p l e R s m args below meth c D cT B b mi Q k0 z0 pc ls st h := by
  intro H locs lsA cells slots hR hS hL hc hz
  unfold cA at hs
  split at hs
  · rename_i v hv
    cases hs
    exact row H locs lsA cells slots _ _ (hL.at hv) (k1 H locs lsA cells slots hR hS hL hc hz)
  · cases hs
theorem s_kI {n k : Nat} (hs : kI k (pc + n) ls h st = some q) (k1 : SW p l e R s m args below meth c D cT B b mi Q k0 z0 q.1 q.2.1 q.2.2.1 q.2.2.2)
    (row : ∀ (H : Heap) (locs : List Loc) (lsA : Array Slot) (cells slots : Nat) (v : Int32) (rest : List Value) (lv : List (Nat × Value)), lv_has lsA (mL mi) lv → k < mL mi → (∀ ls' : Array Slot, lv_has ls' (mL mi) ((k, Value.int v) :: lv.filter (fun q => !(q.1 == k) && !(q.1 + 1 == k && q.2.category == 2))) → W p l e R s m args below meth c H locs cells slots Q (F0 m (pc + n) ls' rest)) → W p l e R s m args below meth c H locs cells slots Q (F0 m pc lsA (.int v :: rest))) : SW p l e R s m args below meth c D cT B b mi Q k0 z0 pc ls st h := by
  intro H locs lsA cells slots hR hS hL hc hz
  unfold kI at hs
  split at hs
  · rename_i v r
    split at hs
    · rename_i hk
      cases hs
      exact row H locs lsA cells slots v _ _ hL.has (Nat.lt_of_lt_of_le hk hL.2.2.1) (fun ls' h2 => k1 H locs ls' cells slots hR hS (hL.put1 (v := .int v) h2) hc hz)
    · cases hs
  · cases hs
theorem s_kA {n k : Nat} (hs : kA k (pc + n) ls h st = some q) (k1 : SW p l e R s m args below meth c D cT B b mi Q k0 z0 q.1 q.2.1 q.2.2.1 q.2.2.2)
    (row : ∀ (H : Heap) (locs : List Loc) (lsA : Array Slot) (cells slots : Nat) (v : Nat) (rest : List Value) (lv : List (Nat × Value)), lv_has lsA (mL mi) lv → k < mL mi → (∀ ls' : Array Slot, lv_has ls' (mL mi) ((k, Value.ref v) :: lv.filter (fun q => !(q.1 == k) && !(q.1 + 1 == k && q.2.category == 2))) → W p l e R s m args below meth c H locs cells slots Q (F0 m (pc + n) ls' rest)) → W p l e R s m args below meth c H locs cells slots Q (F0 m pc lsA (.ref v :: rest))) : SW p l e R s m args below meth c D cT B b mi Q k0 z0 pc ls st h := by
  intro H locs lsA cells slots hR hS hL hc hz
  unfold kA at hs
  split at hs
  · rename_i v r
    split at hs
    · rename_i hk
      cases hs
      exact row H locs lsA cells slots _ _ _ hL.has (Nat.lt_of_lt_of_le hk hL.2.2.1) (fun ls' h2 => k1 H locs ls' cells slots hR hS (hL.put1 (v := .ref v) h2) hc hz)
    · cases hs
  · cases hs
theorem s_kL {n k : Nat} (hs : kL k (pc + n) ls h st = some q) (k1 : SW p l e R s m args below meth c D cT B b mi Q k0 z0 q.1 q.2.1 q.2.2.1 q.2.2.2)
    (row : ∀ (H : Heap) (locs : List Loc) (lsA : Array Slot) (cells slots : Nat) (v : Int64) (rest : List Value) (lv : List (Nat × Value)), lv_has lsA (mL mi) lv → k + 1 < mL mi → (∀ ls' : Array Slot, lv_has ls' (mL mi) ((k, Value.long v) :: lv.filter (fun q => !(q.1 == k) && (!(q.1 == k + 1) && !(q.1 + 1 == k && q.2.category == 2)))) → W p l e R s m args below meth c H locs cells slots Q (F0 m (pc + n) ls' rest)) → W p l e R s m args below meth c H locs cells slots Q (F0 m pc lsA (.long v :: rest))) : SW p l e R s m args below meth c D cT B b mi Q k0 z0 pc ls st h := by
  intro H locs lsA cells slots hR hS hL hc hz
  unfold kL at hs
  split at hs
  · rename_i v r
    split at hs
    · rename_i hk
      cases hs
      exact row H locs lsA cells slots v _ _ hL.has (Nat.lt_of_lt_of_le hk hL.2.2.1) (fun ls' h2 => k1 H locs ls' cells slots hR hS (hL.put2 (v := .long v) h2) hc hz)
    · cases hs
  · cases hs
theorem s_I2 {f : Int32 → Int32 → Value} {n : Nat} (hs : fr (pc + n) ls h (oI2 f st) = some q) (k1 : SW p l e R s m args below meth c D cT B b mi Q k0 z0 q.1 q.2.1 q.2.2.1 q.2.2.2)
    (row : ∀ (H : Heap) (locs : List Loc) (lsA : Array Slot) (cells slots : Nat) (x y : Int32) (rest : List Value), W p l e R s m args below meth c H locs cells slots Q (F0 m (pc + n) lsA (tr B b (f x y) :: rest)) → W p l e R s m args below meth c H locs cells slots Q (F0 m pc lsA (.int y :: .int x :: rest))) : SW p l e R s m args below meth c D cT B b mi Q k0 z0 pc ls st h := by
  intro H locs lsA cells slots hR hS hL hc hz
  obtain ⟨s9, h1, rfl⟩ := fr_some hs
  obtain ⟨x, y, r, rfl, rfl⟩ := oI2_some h1
  exact row H locs lsA cells slots x y _ (k1 H locs lsA cells slots hR hS hL hc hz)
theorem s_I1 {f : Int32 → Value} {n : Nat} (hs : fr (pc + n) ls h (oI1 f st) = some q) (k1 : SW p l e R s m args below meth c D cT B b mi Q k0 z0 q.1 q.2.1 q.2.2.1 q.2.2.2)
    (row : ∀ (H : Heap) (locs : List Loc) (lsA : Array Slot) (cells slots : Nat) (x : Int32) (rest : List Value), W p l e R s m args below meth c H locs cells slots Q (F0 m (pc + n) lsA (tr B b (f x) :: rest)) → W p l e R s m args below meth c H locs cells slots Q (F0 m pc lsA (.int x :: rest))) : SW p l e R s m args below meth c D cT B b mi Q k0 z0 pc ls st h := by
  intro H locs lsA cells slots hR hS hL hc hz
  obtain ⟨s9, h1, rfl⟩ := fr_some hs
  obtain ⟨x, r, rfl, rfl⟩ := oI1_some h1
  exact row H locs lsA cells slots x _ (k1 H locs lsA cells slots hR hS hL hc hz)
theorem s_L1 {f : Int64 → Value} {n : Nat} (hs : fr (pc + n) ls h (oL1 f st) = some q) (k1 : SW p l e R s m args below meth c D cT B b mi Q k0 z0 q.1 q.2.1 q.2.2.1 q.2.2.2)
    (row : ∀ (H : Heap) (locs : List Loc) (lsA : Array Slot) (cells slots : Nat) (x : Int64) (rest : List Value), W p l e R s m args below meth c H locs cells slots Q (F0 m (pc + n) lsA (tr B b (f x) :: rest)) → W p l e R s m args below meth c H locs cells slots Q (F0 m pc lsA (.long x :: rest))) : SW p l e R s m args below meth c D cT B b mi Q k0 z0 pc ls st h := by
  intro H locs lsA cells slots hR hS hL hc hz
  obtain ⟨s9, h1, rfl⟩ := fr_some hs
  obtain ⟨x, r, rfl, rfl⟩ := oL1_some h1
  exact row H locs lsA cells slots x _ (k1 H locs lsA cells slots hR hS hL hc hz)
theorem s_L2 {f : Int64 → Int64 → Value} {n : Nat} (hs : fr (pc + n) ls h (oL2 f st) = some q) (k1 : SW p l e R s m args below meth c D cT B b mi Q k0 z0 q.1 q.2.1 q.2.2.1 q.2.2.2)
    (row : ∀ (H : Heap) (locs : List Loc) (lsA : Array Slot) (cells slots : Nat) (x y : Int64) (rest : List Value), W p l e R s m args below meth c H locs cells slots Q (F0 m (pc + n) lsA (tr B b (f x y) :: rest)) → W p l e R s m args below meth c H locs cells slots Q (F0 m pc lsA (.long y :: .long x :: rest))) : SW p l e R s m args below meth c D cT B b mi Q k0 z0 pc ls st h := by
  intro H locs lsA cells slots hR hS hL hc hz
  obtain ⟨s9, h1, rfl⟩ := fr_some hs
  obtain ⟨x, y, r, rfl, rfl⟩ := oL2_some h1
  exact row H locs lsA cells slots x y _ (k1 H locs lsA cells slots hR hS hL hc hz)
theorem s_LI {f : Int64 → Int32 → Value} {n : Nat} (hs : fr (pc + n) ls h (oLI f st) = some q) (k1 : SW p l e R s m args below meth c D cT B b mi Q k0 z0 q.1 q.2.1 q.2.2.1 q.2.2.2)
    (row : ∀ (H : Heap) (locs : List Loc) (lsA : Array Slot) (cells slots : Nat) (x : Int64) (y : Int32) (rest : List Value), W p l e R s m args below meth c H locs cells slots Q (F0 m (pc + n) lsA (tr B b (f x y) :: rest)) → W p l e R s m args below meth c H locs cells slots Q (F0 m pc lsA (.int y :: .long x :: rest))) : SW p l e R s m args below meth c D cT B b mi Q k0 z0 pc ls st h := by
  intro H locs lsA cells slots hR hS hL hc hz
  obtain ⟨s9, h1, rfl⟩ := fr_some hs
  obtain ⟨x, y, r, rfl, rfl⟩ := oLI_some h1
  exact row H locs lsA cells slots x y _ (k1 H locs lsA cells slots hR hS hL hc hz)
theorem s_dI {P : Int32 → Prop} [DecidablePred P] {t1 t2 : Nat} (hs : dI P t1 t2 ls h st = some q) (k1 : SW p l e R s m args below meth c D cT B b mi Q k0 z0 q.1 q.2.1 q.2.2.1 q.2.2.2)
    (row : ∀ (H : Heap) (locs : List Loc) (lsA : Array Slot) (cells slots : Nat) (x : Int32) (rest : List Value), (P x → W p l e R s m args below meth c H locs cells slots Q (F0 m t1 lsA rest)) → (¬ P x → W p l e R s m args below meth c H locs cells slots Q (F0 m t2 lsA rest)) → W p l e R s m args below meth c H locs cells slots Q (F0 m pc lsA (.int x :: rest))) : SW p l e R s m args below meth c D cT B b mi Q k0 z0 pc ls st h := by
  intro H locs lsA cells slots hR hS hL hc hz
  unfold dI at hs
  split at hs
  · rename_i x r
    split at hs
    · rename_i hp
      cases hs
      exact row H locs lsA cells slots x _ (fun _ => k1 H locs lsA cells slots hR hS hL hc hz) (fun hn => absurd hp hn)
    · rename_i hp
      cases hs
      exact row H locs lsA cells slots x _ (fun hn => absurd hn hp) (fun _ => k1 H locs lsA cells slots hR hS hL hc hz)
  · cases hs
theorem s_d2 {P : Int32 → Int32 → Prop} [∀ x y, Decidable (P x y)] {t1 t2 : Nat} (hs : d2 P t1 t2 ls h st = some q) (k1 : SW p l e R s m args below meth c D cT B b mi Q k0 z0 q.1 q.2.1 q.2.2.1 q.2.2.2)
    (row : ∀ (H : Heap) (locs : List Loc) (lsA : Array Slot) (cells slots : Nat) (x y : Int32) (rest : List Value), (P x y → W p l e R s m args below meth c H locs cells slots Q (F0 m t1 lsA rest)) → (¬ P x y → W p l e R s m args below meth c H locs cells slots Q (F0 m t2 lsA rest)) → W p l e R s m args below meth c H locs cells slots Q (F0 m pc lsA (.int y :: .int x :: rest))) : SW p l e R s m args below meth c D cT B b mi Q k0 z0 pc ls st h := by
  intro H locs lsA cells slots hR hS hL hc hz
  unfold d2 at hs
  split at hs
  · rename_i y x r
    split at hs
    · rename_i hp
      cases hs
      exact row H locs lsA cells slots x y _ (fun _ => k1 H locs lsA cells slots hR hS hL hc hz) (fun hn => absurd hp hn)
    · rename_i hp
      cases hs
      exact row H locs lsA cells slots x y _ (fun hn => absurd hn hp) (fun _ => k1 H locs lsA cells slots hR hS hL hc hz)
  · cases hs
theorem s_sw {o : Int} {r : List Value} {H : Heap} {locs : List Loc} {lsA : Array Slot} {cells slots : Nat} {T : Prop} (hs : swT pc o ls r h = some q) (hT : ∀ tgt : Nat, (pc : Int) + o = (tgt : Int) → q = (tgt, ls, r, h) → T) : T := by
  unfold swT at hs
  split at hs
  · rename_i hp
    exact hT _ hp (Option.some.inj hs).symm
  · cases hs
end SP
end
section
/-! every step of the pure machine, once -/
section SQ
variable {p : Program} {l : Launch} {e : Env} {R : Room} {s : State} {m : MethodId} {args : Array Value} {below : List Frame} {meth : Method} {c : Code} {Q : State → Prop}
variable {D : va_G} {cT : Nat → ClassId} {B b mi d pc len k0 z0 : Nat} {ls : Ls} {st : List Value} {h : Hp} {q : Fr} {scr : Scr} {x : Au}
theorem s_get {idx : Nat} (X : Cx p R s m args meth c D cT B mi d) (hm : mP mi pc = some (.getfield idx, len, x)) (hs : fGet x.1 x.2.1 (pc + 3) ls h st = some q) (k : SW p l e R s m args below meth c D cT B b mi Q k0 z0 q.1 q.2.1 q.2.2.1 q.2.2.2) : SW p l e R s m args below meth c D cT B b mi Q k0 z0 pc ls st h := by
  intro H locs lsA cells slots hR hS hL hc hz
  have hF : chkF mi idx x = true := (mP_dec hm).2
  obtain ⟨ci, kk, row, z⟩ := x
  unfold fGet at hs
  split at hs
  · rename_i a r
    have go : ∀ (n : Nat) (v : Value), h.1[a]? = some (ci, n) → q = (pc + 3, ls, v :: r, h) → tr B b v = fv B b h ci a kk → W p l e R s m args below meth c H locs cells slots Q (F0 m pc lsA ((Value.ref a :: r).map (tr B b))) := by
      intro n v hq e1 e2
      subst e1
      refine row_get X (lenD hm rfl) hF hR hq ?_
      rw [← e2]
      exact k H locs lsA cells slots hR hS hL hc hz
    split at hs
    · rename_i hk
      unfold gI at hs
      cases hq : h.1[a]? with
      | none => simp [hq] at hs
      | some y =>
        obtain ⟨y1, y2⟩ := y
        simp only [hq] at hs
        split at hs
        · rename_i h9
          try simp only at h9
          subst h9
          exact go y2 _ hq (Option.some.inj hs).symm (by unfold fv; simp only at hk; rw [hk]; rfl)
        · cases hs
    · rename_i hk
      unfold gL at hs
      cases hq : h.1[a]? with
      | none => simp [hq] at hs
      | some y =>
        obtain ⟨y1, y2⟩ := y
        simp only [hq] at hs
        split at hs
        · rename_i h9
          try simp only at h9
          subst h9
          exact go y2 _ hq (Option.some.inj hs).symm (by unfold fv; simp only at hk; rw [hk]; rfl)
        · cases hs
    · rename_i hk
      unfold gR at hs
      cases hq : h.1[a]? with
      | none => simp [hq] at hs
      | some y =>
        obtain ⟨y1, y2⟩ := y
        simp only [hq] at hs
        split at hs
        · rename_i h9
          try simp only at h9
          subst h9
          cases hz9 : h.2.2.2 a kk with
          | none => simp [hz9] at hs
          | some w =>
            simp only [hz9, Option.map_some] at hs
            exact go y2 _ hq (Option.some.inj hs).symm (by unfold fv; simp only at hk; rw [hk, hz9]; rfl)
        · cases hs
    · cases hs
  · cases hs
theorem s_put {idx : Nat} (X : Cx p R s m args meth c D cT B mi d) (hm : mP mi pc = some (.putfield idx, len, x)) (hs : fPut x.1 x.2.1 (pc + 3) ls h st = some q) (k : SW p l e R s m args below meth c D cT B b mi Q k0 z0 q.1 q.2.1 q.2.2.1 q.2.2.2) : SW p l e R s m args below meth c D cT B b mi Q k0 z0 pc ls st h := by
  intro H locs lsA cells slots hR hS hL hc hz
  have hF : (chkF mi idx x && (!(mT x.1 x.2.1).2.2.2 || (decide ((mY mi).name = "<init>") && x.1 == mO mi))) = true := (mP_dec hm).2
  rw [Bool.and_eq_true] at hF
  obtain ⟨hF, hfin⟩ := hF
  obtain ⟨ci, kk, row, z⟩ := x
  obtain ⟨-, hk, hci⟩ := chkF_spec hF
  obtain ⟨t1, t2⟩ := mTK_of hci hk
  unfold fPut at hs
  split at hs
  · rename_i v a r
    split at hs
    · rename_i hk9
      unfold pI at hs
      cases hq : h.1[a]? with
      | none => simp [hq] at hs
      | some y =>
        obtain ⟨y1, y2⟩ := y
        simp only [hq] at hs
        split at hs
        · rename_i h9
          try simp only at h9 hk9
          subst h9
          cases hs
          have hty : mTyF y1 kk = .int := by
            rw [hk9] at t1
            cases hh : mTyF y1 kk <;> simp [hh] at t1
            rfl
          refine row_put X (lenD hm rfl) hF hfin hR hS hq (h' := sX h a kk v) (by rw [hty]; rfl) (by rw [hty]; rfl) rfl (sX_o v kk) (fv_sX v kk hk9) fun H1 locs1 hR1 hS1 => ?_
          exact k H1 locs1 lsA cells slots hR1 hS1 hL hc hz
        · cases hs
    · cases hs
  · rename_i v a r
    split at hs
    · rename_i hk9
      unfold pL at hs
      cases hq : h.1[a]? with
      | none => simp [hq] at hs
      | some y =>
        obtain ⟨y1, y2⟩ := y
        simp only [hq] at hs
        split at hs
        · rename_i h9
          try simp only at h9 hk9
          subst h9
          cases hs
          have hty : mTyF y1 kk = .long := by
            rw [hk9] at t1
            cases hh : mTyF y1 kk <;> simp [hh] at t1
            rfl
          refine row_put X (lenD hm rfl) hF hfin hR hS hq (h' := sY h a kk v) (by rw [hty]; rfl) (by rw [hty]; rfl) rfl (sY_o v kk) (fv_sY v kk hk9) fun H1 locs1 hR1 hS1 => ?_
          exact k H1 locs1 lsA cells slots hR1 hS1 hL hc hz
        · cases hs
    · cases hs
  · rename_i v a r
    split at hs
    · rename_i hk9
      unfold pR at hs
      cases hq : h.1[a]? with
      | none => simp [hq] at hs
      | some y =>
        obtain ⟨y1, y2⟩ := y
        simp only [hq] at hs
        split at hs
        · rename_i h9
          try simp only at h9 hk9
          subst h9
          cases hs
          have hty : narrow (mTyF y1 kk) (.ref (ad B b v)) = .ref (ad B b v) ∧ fits (mTyF y1 kk) (.ref (ad B b v)) = true := by
            rw [hk9] at t1
            cases hh : mTyF y1 kk <;> simp [hh] at t1 <;> exact ⟨rfl, rfl⟩
          refine row_put X (lenD hm rfl) hF hfin hR hS hq (h' := sZ h a kk v) hty.1 hty.2 rfl (sZ_o v kk) (fv_sZ v kk hk9) fun H1 locs1 hR1 hS1 => ?_
          exact k H1 locs1 lsA cells slots hR1 hS1 hL hc hz
        · cases hs
    · cases hs
  · cases hs
theorem s_aI (X : Cx p R s m args meth c D cT B mi d) (hsc : scOk scr b B s) (hm : mP mi pc = some (.iaload, len, x)) (hs : aI scr (pc + 1) ls h st = some q) (k : SW p l e R s m args below meth c D cT B b mi Q k0 z0 q.1 q.2.1 q.2.2.1 q.2.2.2) : SW p l e R s m args below meth c D cT B b mi Q k0 z0 pc ls st h := by
  intro H locs lsA cells slots hR hS hL hc hz
  unfold aI at hs
  split at hs
  · rename_i i a r
    split at hs
    · rename_i ha
      subst ha
      cases scr with
      | none => cases hs
      | some y =>
        try simp only at hs
        split at hs
        · rename_i hi
          cases hs
          obtain ⟨hx, hb, -⟩ := id X
          exact va_sld hx hb hsc.1 hsc.2.1 (Nat.not_le.mpr hsc.2.2) hS (i := i) hi (lenD hm rfl) (k H locs lsA cells slots hR hS hL hc hz)
        · cases hs
    · unfold eI at hs
      cases hq : h.1[a]? with
      | none => simp [hq] at hs
      | some y =>
        obtain ⟨y1, y2⟩ := y
        simp only [hq] at hs
        split at hs
        · rename_i h9
          obtain ⟨h8, h9⟩ := h9
          try simp only at h8 h9
          subst h8
          cases hs
          exact row_iald X (lenD hm rfl) hR hq h9 (k H locs lsA cells slots hR hS hL hc hz)
        · cases hs
  · cases hs
theorem s_aLen (X : Cx p R s m args meth c D cT B mi d) (hsc : scOk scr b B s) (hm : mP mi pc = some (.arraylength, len, x)) (hs : aLen scr (pc + 1) ls h st = some q) (k : SW p l e R s m args below meth c D cT B b mi Q k0 z0 q.1 q.2.1 q.2.2.1 q.2.2.2) : SW p l e R s m args below meth c D cT B b mi Q k0 z0 pc ls st h := by
  intro H locs lsA cells slots hR hS hL hc hz
  unfold aLen at hs
  split at hs
  · rename_i a r
    split at hs
    · rename_i ha
      subst ha
      cases scr with
      | none => cases hs
      | some y =>
        try simp only at hs
        cases hs
        obtain ⟨hx, hb, -⟩ := id X
        exact va_slen hx hb hsc.1 hsc.2.1 (Nat.not_le.mpr hsc.2.2) hS (lenD hm rfl) (k H locs lsA cells slots hR hS hL hc hz)
    · cases hs
  · cases hs
theorem s_aB (X : Cx p R s m args meth c D cT B mi d) (hm : mP mi pc = some (.baload, len, x)) (hs : aB (pc + 1) ls h st = some q) (k : SW p l e R s m args below meth c D cT B b mi Q k0 z0 q.1 q.2.1 q.2.2.1 q.2.2.2) : SW p l e R s m args below meth c D cT B b mi Q k0 z0 pc ls st h := by
  intro H locs lsA cells slots hR hS hL hc hz
  unfold aB at hs
  split at hs
  · rename_i i a r
    cases hq : h.1[a]? with
    | none => simp [hq] at hs
    | some y =>
      obtain ⟨y1, y2⟩ := y
      simp only [hq] at hs
      split at hs
      · unfold eI at hs
        simp only [hq] at hs
        split at hs
        · rename_i h9
          obtain ⟨h8, h9⟩ := h9
          try simp only at h8 h9
          subst h8
          cases hs
          exact row_bald X (lenD hm rfl) hR hq h9 (k H locs lsA cells slots hR hS hL hc hz)
        · cases hs
      · unfold eI at hs
        simp only [hq] at hs
        split at hs
        · rename_i h9
          obtain ⟨h8, h9⟩ := h9
          try simp only at h8 h9
          subst h8
          cases hs
          exact row_zald X (lenD hm rfl) hR hq h9 (k H locs lsA cells slots hR hS hL hc hz)
        · cases hs
  · cases hs
theorem s_aJ (X : Cx p R s m args meth c D cT B mi d) (hm : mP mi pc = some (.laload, len, x)) (hs : aJ (pc + 1) ls h st = some q) (k : SW p l e R s m args below meth c D cT B b mi Q k0 z0 q.1 q.2.1 q.2.2.1 q.2.2.2) : SW p l e R s m args below meth c D cT B b mi Q k0 z0 pc ls st h := by
  intro H locs lsA cells slots hR hS hL hc hz
  unfold aJ at hs
  split at hs
  · rename_i i a r
    unfold eL at hs
    cases hq : h.1[a]? with
    | none => simp [hq] at hs
    | some y =>
      obtain ⟨y1, y2⟩ := y
      simp only [hq] at hs
      split at hs
      · rename_i h9
        obtain ⟨h8, h9⟩ := h9
        try simp only at h8 h9
        subst h8
        cases hs
        exact row_lald X (lenD hm rfl) hR hq h9 (k H locs lsA cells slots hR hS hL hc hz)
      · cases hs
  · cases hs
theorem s_aA (X : Cx p R s m args meth c D cT B mi d) (hm : mP mi pc = some (.aaload, len, x)) (hs : aA (pc + 1) ls h st = some q) (k : SW p l e R s m args below meth c D cT B b mi Q k0 z0 q.1 q.2.1 q.2.2.1 q.2.2.2) : SW p l e R s m args below meth c D cT B b mi Q k0 z0 pc ls st h := by
  intro H locs lsA cells slots hR hS hL hc hz
  unfold aA at hs
  split at hs
  · rename_i i a r
    unfold eR at hs
    cases hq : h.1[a]? with
    | none => simp [hq] at hs
    | some y =>
      obtain ⟨y1, y2⟩ := y
      simp only [hq] at hs
      split at hs
      · rename_i h9
        obtain ⟨h8, h9⟩ := h9
        try simp only at h8 h9
        obtain ⟨t, rfl⟩ : ∃ t, y1 = 100 + t := ⟨y1 - 100, by omega⟩
        cases hz9 : h.2.2.2 a i.toNatClampNeg with
        | none => simp [hz9] at hs
        | some w =>
          simp only [hz9, Option.map_some] at hs
          cases hs
          exact row_aald (by omega) hz9 X (lenD hm rfl) hR hq h9 (k H locs lsA cells slots hR hS hL hc hz)
      · cases hs
  · cases hs
theorem s_uI (X : Cx p R s m args meth c D cT B mi d) (hm : mP mi pc = some (.iastore, len, x)) (hs : uI (pc + 1) ls h st = some q) (k : SW p l e R s m args below meth c D cT B b mi Q k0 z0 q.1 q.2.1 q.2.2.1 q.2.2.2) : SW p l e R s m args below meth c D cT B b mi Q k0 z0 pc ls st h := by
  intro H locs lsA cells slots hR hS hL hc hz
  unfold uI at hs
  split at hs
  · rename_i v i a r
    unfold wI at hs
    cases hq : h.1[a]? with
    | none => simp [hq] at hs
    | some y =>
      obtain ⟨y1, y2⟩ := y
      simp only [hq] at hs
      split at hs
      · rename_i h9
        obtain ⟨h8, h9⟩ := h9
        try simp only at h8 h9
        subst h8
        cases hs
        exact row_iast X (lenD hm rfl) hR hS hq h9 fun H1 locs1 hR1 hS1 => k H1 locs1 lsA cells slots hR1 hS1 hL hc hz
      · cases hs
  · cases hs
theorem s_uB (X : Cx p R s m args meth c D cT B mi d) (hm : mP mi pc = some (.bastore, len, x)) (hs : uB (pc + 1) ls h st = some q) (k : SW p l e R s m args below meth c D cT B b mi Q k0 z0 q.1 q.2.1 q.2.2.1 q.2.2.2) : SW p l e R s m args below meth c D cT B b mi Q k0 z0 pc ls st h := by
  intro H locs lsA cells slots hR hS hL hc hz
  unfold uB at hs
  split at hs
  · rename_i v i a r
    cases hq : h.1[a]? with
    | none => simp [hq] at hs
    | some y =>
      obtain ⟨y1, y2⟩ := y
      simp only [hq] at hs
      split at hs
      · unfold wI at hs
        simp only [hq] at hs
        split at hs
        · rename_i h9
          obtain ⟨h8, h9⟩ := h9
          try simp only at h8 h9
          subst h8
          cases hs
          exact row_bast X (lenD hm rfl) hR hS hq h9 fun H1 locs1 hR1 hS1 => k H1 locs1 lsA cells slots hR1 hS1 hL hc hz
        · cases hs
      · unfold wI at hs
        simp only [hq] at hs
        split at hs
        · rename_i h9
          obtain ⟨h8, h9⟩ := h9
          try simp only at h8 h9
          subst h8
          cases hs
          exact row_zast X (lenD hm rfl) hR hS hq h9 fun H1 locs1 hR1 hS1 => k H1 locs1 lsA cells slots hR1 hS1 hL hc hz
        · cases hs
  · cases hs
theorem s_uJ (X : Cx p R s m args meth c D cT B mi d) (hm : mP mi pc = some (.lastore, len, x)) (hs : uJ (pc + 1) ls h st = some q) (k : SW p l e R s m args below meth c D cT B b mi Q k0 z0 q.1 q.2.1 q.2.2.1 q.2.2.2) : SW p l e R s m args below meth c D cT B b mi Q k0 z0 pc ls st h := by
  intro H locs lsA cells slots hR hS hL hc hz
  unfold uJ at hs
  split at hs
  · rename_i v i a r
    unfold wL at hs
    cases hq : h.1[a]? with
    | none => simp [hq] at hs
    | some y =>
      obtain ⟨y1, y2⟩ := y
      simp only [hq] at hs
      split at hs
      · rename_i h9
        obtain ⟨h8, h9⟩ := h9
        try simp only at h8 h9
        subst h8
        cases hs
        exact row_last X (lenD hm rfl) hR hS hq h9 fun H1 locs1 hR1 hS1 => k H1 locs1 lsA cells slots hR1 hS1 hL hc hz
      · cases hs
  · cases hs
theorem s_uA (X : Cx p R s m args meth c D cT B mi d) (hm : mP mi pc = some (.aastore, len, x)) (hs : uA (pc + 1) ls h st = some q) (k : SW p l e R s m args below meth c D cT B b mi Q k0 z0 q.1 q.2.1 q.2.2.1 q.2.2.2) : SW p l e R s m args below meth c D cT B b mi Q k0 z0 pc ls st h := by
  intro H locs lsA cells slots hR hS hL hc hz
  unfold uA at hs
  split at hs
  · rename_i v i a r
    unfold wR at hs
    cases hq : h.1[a]? with
    | none => simp [hq] at hs
    | some y =>
      cases hv : h.1[v]? with
      | none => simp [hv] at hs
      | some w =>
        obtain ⟨y1, y2⟩ := y
        obtain ⟨w1, w2⟩ := w
        simp only [hq, hv] at hs
        split at hs
        · rename_i h9
          obtain ⟨h8, h9⟩ := h9
          try simp only at h8 h9
          obtain ⟨t, rfl⟩ : ∃ t, y1 = 100 + t := ⟨y1 - 100, by omega⟩
          cases hs
          exact row_aast (by omega) X (lenD hm rfl) hR hS hq hv h9 fun H1 locs1 hR1 hS1 => k H1 locs1 lsA cells slots hR1 hS1 hL hc hz
        · cases hs
  · cases hs
theorem s_new {idx : Nat} (X : Cx p R s m args meth c D cT B mi d) (hm : mP mi pc = some (.new idx, len, x)) (hs : mNew x.1 x.2.1 (pc + 3) ls st h = some q) (l1 : q.2.2.2.1.length ≤ k0 + R.cells) (l2 : hSz q.2.2.2 ≤ z0 + R.slots) (k : SW p l e R s m args below meth c D cT B b mi Q k0 z0 q.1 q.2.1 q.2.2.1 q.2.2.2) : SW p l e R s m args below meth c D cT B b mi Q k0 z0 pc ls st h := by
  intro H locs lsA cells slots hR hS hL hc hz
  have hF : chkN mi idx x = true := (mP_dec hm).2
  obtain ⟨ci, n, row, z⟩ := x
  unfold mNew at hs
  split at hs
  · rename_i hl
    cases hs
    try simp only at l1 l2
    rw [nw_len] at l1
    rw [hSz_nw] at l2
    refine row_new X (lenD hm rfl) hF hR hS hl (by omega) (by omega) fun H1 locs1 hR1 hS1 => ?_
    exact k H1 locs1 lsA (cells + 1) (slots + n) hR1 hS1 hL (by simp only; rw [nw_len]; omega) (by simp only; rw [hSz_nw]; omega)
  · cases hs
theorem s_newa {at9 : ArrayType} (X : Cx p R s m args meth c D cT B mi d) (hm : mP mi pc = some (.newarray at9, len, x)) (hs : mNwA x.1 (pc + 2) ls h st = some q) (l1 : q.2.2.2.1.length ≤ k0 + R.cells) (l2 : hSz q.2.2.2 ≤ z0 + R.slots) (k : SW p l e R s m args below meth c D cT B b mi Q k0 z0 q.1 q.2.1 q.2.2.1 q.2.2.2) : SW p l e R s m args below meth c D cT B b mi Q k0 z0 pc ls st h := by
  intro H locs lsA cells slots hR hS hL hc hz
  have hF : (decide (mTY[x.1]? = some (newarray.typeOf at9)) && decide (x.1 < 4)) = true := (mP_dec hm).2
  rw [Bool.and_eq_true, decide_eq_true_eq, decide_eq_true_eq] at hF
  obtain ⟨t, n, row, z⟩ := x
  unfold mNwA at hs
  split at hs
  · rename_i v r
    split at hs
    · rename_i hl
      cases hs
      try simp only at l1 l2 hF
      rw [nw_len] at l1
      rw [hSz_nw] at l2
      refine row_newa hF.2 hF.1 rfl X (lenD hm rfl) hR hS hl.1 hl.2.1 rfl hl.2.2 (by omega) (by omega) fun H1 locs1 hR1 hS1 => ?_
      exact k H1 locs1 lsA (cells + 1) (slots + v.toNatClampNeg) hR1 hS1 hL (by simp only; rw [nw_len]; omega) (by simp only; rw [hSz_nw]; omega)
    · cases hs
  · cases hs
theorem s_newq {idx : Nat} (X : Cx p R s m args meth c D cT B mi d) (hm : mP mi pc = some (.anewarray idx, len, x)) (hs : mNwA x.1 (pc + 3) ls h st = some q) (l1 : q.2.2.2.1.length ≤ k0 + R.cells) (l2 : hSz q.2.2.2 ≤ z0 + R.slots) (k : SW p l e R s m args below meth c D cT B b mi Q k0 z0 q.1 q.2.1 q.2.2.1 q.2.2.2) : SW p l e R s m args below meth c D cT B b mi Q k0 z0 pc ls st h := by
  intro H locs lsA cells slots hR hS hL hc hz
  have hF : (chkA mi idx x && decide (x.1 = 4 ∨ x.1 = 5)) = true := (mP_dec hm).2
  rw [Bool.and_eq_true, decide_eq_true_eq] at hF
  obtain ⟨t, n, row, z⟩ := x
  unfold mNwA at hs
  split at hs
  · rename_i v r
    split at hs
    · rename_i hl
      cases hs
      try simp only at l1 l2 hF
      rw [nw_len] at l1
      rw [hSz_nw] at l2
      have fin : ∀ C, ((t = 4 ∧ C = RX4) ∨ (t = 5 ∧ C = RX0)) → W p l e R s m args below meth c H locs cells slots Q (F0 m pc lsA ((Value.int v :: r).map (tr B b))) := by
        intro C hC
        refine row_newq hC X (lenD hm rfl) hF.1 hR hS hl.1 hl.2.1 rfl hl.2.2 (by omega) (by omega) fun H1 locs1 hR1 hS1 => ?_
        exact k H1 locs1 lsA (cells + 1) (slots + v.toNatClampNeg) hR1 hS1 hL (by simp only; rw [nw_len]; omega) (by simp only; rw [hSz_nw]; omega)
      rcases hF.2 with h9 | h9
      · exact fin RX4 (Or.inl ⟨h9, rfl⟩)
      · exact fin RX0 (Or.inr ⟨h9, rfl⟩)
    · cases hs
  · cases hs
theorem sum_rep (n k : Nat) : (List.replicate n k).sum = n * k := by
  induction n with
  | zero => simp
  | succ n ih => rw [List.replicate_succ, List.sum_cons, ih, Nat.succ_mul]; omega
theorem mna_len (h : Hp) (n k : Nat) (g : Nat → Option Nat) (a : Nat) : (sZR (nwM (nw h 106 n) k n) a g).1.length = h.1.length + 1 + n ∧ hSz (sZR (nwM (nw h 106 n) k n) a g) = hSz h + n + n * k := by
  have h1 := (nwM_fact (nw h 106 n) k n).1
  refine ⟨?_, ?_⟩
  · show (nwM (nw h 106 n) k n).1.length = _
    rw [h1, List.length_append, nw_len, List.length_replicate]
  · show ((nwM (nw h 106 n) k n).1.map (fun q => q.2)).sum = _
    rw [h1, List.map_append, List.sum_append, List.map_replicate, sum_rep]
    have h2 := hSz_nw h 106 n
    unfold hSz at h2 ⊢
    rw [h2]
theorem s_mna {idx n9 : Nat} (X : Cx p R s m args meth c D cT B mi d) (hm : mP mi pc = some (.multianewarray idx n9, len, x)) (hs : mNwM (pc + 4) ls h st = some q) (l1 : q.2.2.2.1.length ≤ k0 + R.cells) (l2 : hSz q.2.2.2 ≤ z0 + R.slots) (k : SW p l e R s m args below meth c D cT B b mi Q k0 z0 q.1 q.2.1 q.2.2.1 q.2.2.2) : SW p l e R s m args below meth c D cT B b mi Q k0 z0 pc ls st h := by
  intro H locs lsA cells slots hR hS hL hc hz
  have hF : (chkA mi idx x && decide (x.1 = 6) && decide (n9 = 2)) = true := (mP_dec hm).2
  rw [Bool.and_eq_true, Bool.and_eq_true, decide_eq_true_eq, decide_eq_true_eq] at hF
  obtain ⟨t, n, row, z⟩ := x
  obtain ⟨⟨hF, h6⟩, h2⟩ := hF
  try simp only at h6
  subst h6
  subst h2
  unfold mNwM at hs
  split at hs
  · rename_i w v r
    split at hs
    · rename_i hl
      cases hs
      obtain ⟨e1, e2⟩ := mna_len h v.toNatClampNeg w.toNatClampNeg (fun i => if i < v.toNatClampNeg then some (h.1.length + 1 + i) else none) h.1.length
      try simp only at l1 l2
      rw [e1] at l1
      rw [e2] at l2
      refine row_mna X (lenD hm rfl) hF hR hS hl.1 hl.2.1 hl.2.2.1 hl.2.2.2.1 hl.2.2.2.2 (by omega) (by omega) fun H1 locs1 hR1 hS1 => ?_
      exact k H1 locs1 lsA _ _ hR1 hS1 hL (by simp only; rw [e1]; omega) (by simp only; rw [e2]; omega)
    · cases hs
  · cases hs
set_option maxHeartbeats 4000000 in
theorem stp_sound {i : Instr} (X : Cx p R s m args meth c D cT B mi d) (hsc : scOk scr b B s) (hm : mP mi pc = some (i, len, x)) (hs : stp scr i x pc ls st h = some q) (l1 : q.2.2.2.1.length ≤ k0 + R.cells) (l2 : hSz q.2.2.2 ≤ z0 + R.slots)
    (k : SW p l e R s m args below meth c D cT B b mi Q k0 z0 q.1 q.2.1 q.2.2.1 q.2.2.2) : SW p l e R s m args below meth c D cT B b mi Q k0 z0 pc ls st h := by
  have hx := X.1
  have hb := X.2.1
  have hown := X.2.2.2.1
  have hts := X.2.2.2.2.1
  cases i with
  | iconst n =>
    cases hs
    exact fun H locs lsA cells slots hR hS hL hc hz => lv_iconst hx hb (lenD hm rfl) rfl (k H locs lsA cells slots hR hS hL hc hz)
  | bipush n =>
    cases hs
    exact fun H locs lsA cells slots hR hS hL hc hz => lv_bipush hx hb (lenD hm rfl) rfl (k H locs lsA cells slots hR hS hL hc hz)
  | sipush n =>
    cases hs
    exact fun H locs lsA cells slots hR hS hL hc hz => lv_sipush hx hb (lenD hm rfl) rfl (k H locs lsA cells slots hR hS hL hc hz)
  | lconst n =>
    cases hs
    exact fun H locs lsA cells slots hR hS hL hc hz => lv_lconst hx hb (lenD hm rfl) rfl (k H locs lsA cells slots hR hS hL hc hz)
  | ldc2_w idx =>
    cases hs
    have hF : chkL mi idx x = true := (mP_dec hm).2
    exact fun H locs lsA cells slots hR hS hL hc hz => lv_ldc2 hx hb hown (hts _ (chkL_spec hF)) (lenD hm rfl) (k H locs lsA cells slots hR hS hL hc hz)
  | iload n => exact s_cI (i := .iadd) (x := x) hs k fun H locs lsA cells slots v rest hl kk => lv_iload hx hb (lenD hm rfl) hl kk
  | iload_n n => exact s_cI (i := .iadd) (x := x) hs k fun H locs lsA cells slots v rest hl kk => lv_iload_n hx hb (lenD hm rfl) rfl hl kk
  | lload n => exact s_cL (i := .iadd) (x := x) hs k fun H locs lsA cells slots v rest hl kk => lv_lload hx hb (lenD hm rfl) hl kk
  | lload_n n => exact s_cL (i := .iadd) (x := x) hs k fun H locs lsA cells slots v rest hl kk => lv_lload_n hx hb (lenD hm rfl) rfl hl kk
  | aload n => exact s_cA (i := .iadd) (x := x) hs k fun H locs lsA cells slots v rest hl kk => lv_aload hx hb (lenD hm rfl) hl kk
  | aload_n n => exact s_cA (i := .iadd) (x := x) hs k fun H locs lsA cells slots v rest hl kk => lv_aload_n hx hb (lenD hm rfl) rfl hl kk
  | istore n => exact s_kI hs k fun H locs lsA cells slots v rest lv h1 h2 kk => lv_istore hx hb (lenD hm rfl) h1 h2 rfl kk
  | istore_n n => exact s_kI hs k fun H locs lsA cells slots v rest lv h1 h2 kk => lv_istore_n hx hb (lenD hm rfl) rfl h1 h2 rfl kk
  | astore n => exact s_kA hs k fun H locs lsA cells slots v rest lv h1 h2 kk => lv_astore hx hb (lenD hm rfl) h1 h2 rfl kk
  | astore_n n => exact s_kA hs k fun H locs lsA cells slots v rest lv h1 h2 kk => lv_astore_n hx hb (lenD hm rfl) rfl h1 h2 rfl kk
  | lstore n => exact s_kL hs k fun H locs lsA cells slots v rest lv h1 h2 kk => lv_lstore hx hb (lenD hm rfl) h1 h2 rfl kk
  | lstore_n n => exact s_kL hs k fun H locs lsA cells slots v rest lv h1 h2 kk => lv_lstore_n hx hb (lenD hm rfl) rfl h1 h2 rfl kk
  | iinc k9 n =>
    have hs : (match ldL ls k9 with
      | some (.int v) => if k9 < ls.length then some (pc + 3, st1 ls k9 (.int (v + Int32.ofInt n)), st, h) else none
      | _ => none) = some q := hs
    split at hs
    · rename_i v hv
      split at hs
      · rename_i hk
        cases hs
        intro H locs lsA cells slots hR hS hL hc hz
        obtain ⟨j, hj⟩ := List.getElem?_of_mem (lvl_mem (B := B) (b := b) hv)
        exact lv_iinc hx hb (lenD hm rfl) hL.has hj rfl (Nat.lt_of_lt_of_le hk hL.2.2.1) rfl fun ls' h2 => k H locs ls' cells slots hR hS (hL.put1 (v := .int (v + Int32.ofInt n)) h2) hc hz
      · cases hs
    · cases hs
  | iadd => exact s_I2 hs k fun H locs lsA cells slots x y rest kk => lv_iadd hx hb (lenD hm rfl) kk
  | isub => exact s_I2 hs k fun H locs lsA cells slots x y rest kk => lv_isub hx hb (lenD hm rfl) kk
  | imul => exact s_I2 hs k fun H locs lsA cells slots x y rest kk => lv_imul hx hb (lenD hm rfl) kk
  | iand => exact s_I2 hs k fun H locs lsA cells slots x y rest kk => lv_iand hx hb (lenD hm rfl) kk
  | ior => exact s_I2 hs k fun H locs lsA cells slots x y rest kk => lv_ior hx hb (lenD hm rfl) kk
  | ishl => exact s_I2 hs k fun H locs lsA cells slots x y rest kk => lv_ishl hx hb (lenD hm rfl) kk
  | ishr => exact s_I2 hs k fun H locs lsA cells slots x y rest kk => lv_ishr hx hb (lenD hm rfl) kk
  | idiv =>
    replace hs : (match (generalizing := false) st with
      | .int b :: .int a :: r => if b = 0 then none else some (pc + 1, ls, .int (a / b) :: r, h)
      | _ => none) = some q := hs
    split at hs
    · split at hs
      · cases hs
      · rename_i hz9
        cases hs
        exact fun H locs lsA cells slots hR hS hL hc hz => lv_idiv hx hb (lenD hm rfl) hz9 (k H locs lsA cells slots hR hS hL hc hz)
    · cases hs
  | ladd => exact s_L2 hs k fun H locs lsA cells slots x y rest kk => lv_ladd hx hb (lenD hm rfl) kk
  | lmul => exact s_L2 hs k fun H locs lsA cells slots x y rest kk => lv_lmul hx hb (lenD hm rfl) kk
  | land => exact s_L2 hs k fun H locs lsA cells slots x y rest kk => lv_land hx hb (lenD hm rfl) kk
  | lor => exact s_L2 hs k fun H locs lsA cells slots x y rest kk => lv_lor hx hb (lenD hm rfl) kk
  | ldiv =>
    replace hs : (match (generalizing := false) st with
      | .long b :: .long a :: r => if b = 0 then none else some (pc + 1, ls, .long (a / b) :: r, h)
      | _ => none) = some q := hs
    split at hs
    · split at hs
      · cases hs
      · rename_i hz9
        cases hs
        exact fun H locs lsA cells slots hR hS hL hc hz => lv_ldiv hx hb (lenD hm rfl) hz9 (k H locs lsA cells slots hR hS hL hc hz)
    · cases hs
  | lrem =>
    replace hs : (match (generalizing := false) st with
      | .long b :: .long a :: r => if b = 0 then none else some (pc + 1, ls, .long (a - a / b * b) :: r, h)
      | _ => none) = some q := hs
    split at hs
    · split at hs
      · cases hs
      · rename_i hz9
        cases hs
        exact fun H locs lsA cells slots hR hS hL hc hz => lv_lrem hx hb (lenD hm rfl) hz9 (k H locs lsA cells slots hR hS hL hc hz)
    · cases hs
  | lcmp => exact s_L2 hs k fun H locs lsA cells slots x y rest kk => W.lcmp hx hb (lenD hm rfl) kk
  | lshl => exact s_LI hs k fun H locs lsA cells slots x y rest kk => lv_lshl hx hb (lenD hm rfl) rfl kk
  | lshr => exact s_LI hs k fun H locs lsA cells slots x y rest kk => lv_lshr hx hb (lenD hm rfl) rfl kk
  | lushr => exact s_LI hs k fun H locs lsA cells slots x y rest kk => lv_lushr hx hb (lenD hm rfl) rfl kk
  | i2l => exact s_I1 hs k fun H locs lsA cells slots x rest kk => lv_i2l hx hb (lenD hm rfl) rfl kk
  | l2i => exact s_L1 hs k fun H locs lsA cells slots x rest kk => lv_l2i hx hb (lenD hm rfl) rfl kk
  | i2b => exact s_I1 hs k fun H locs lsA cells slots x rest kk => lv_i2b hx hb (lenD hm rfl) rfl kk
  | dup =>
    replace hs : (match (generalizing := false) st with
      | v :: r => if v.category = 1 then some (pc + 1, ls, v :: v :: r, h) else none
      | _ => none) = some q := hs
    split at hs
    · split at hs
      · rename_i hv
        cases hs
        exact fun H locs lsA cells slots hR hS hL hc hz => lv_dup hx hb (lenD hm rfl) (by rw [tr_cat]; exact hv) (k H locs lsA cells slots hR hS hL hc hz)
      · cases hs
    · cases hs
  | dup2 =>
    replace hs : (match (generalizing := false) st with
      | v :: w :: r => if v.category = 1 ∧ w.category = 1 then some (pc + 1, ls, v :: w :: v :: w :: r, h) else none
      | _ => none) = some q := hs
    split at hs
    · split at hs
      · rename_i hv
        cases hs
        exact fun H locs lsA cells slots hR hS hL hc hz => lv_dup2_11 hx hb (lenD hm rfl) (by rw [tr_cat]; exact hv.1) (by rw [tr_cat]; exact hv.2) (k H locs lsA cells slots hR hS hL hc hz)
      · cases hs
    · cases hs
  | goto off =>
    have ht : decide ((pc : Int) + off = (x.1 : Int)) = true := (mP_dec hm).2
    rw [decide_eq_true_eq] at ht
    cases hs
    exact fun H locs lsA cells slots hR hS hL hc hz => lv_goto hx hb (lenD hm rfl) ht (k H locs lsA cells slots hR hS hL hc hz)
  | ifCond cd off =>
    have ht : decide ((pc : Int) + off = (x.1 : Int)) = true := (mP_dec hm).2
    rw [decide_eq_true_eq] at ht
    cases cd with
    | eq => exact s_dI hs k fun H locs lsA cells slots x rest k1 k2 => lv_if_eq hx hb (lenD hm rfl) ht k1 k2
    | ne => exact s_dI hs k fun H locs lsA cells slots x rest k1 k2 => lv_if_ne hx hb (lenD hm rfl) ht k2 k1
    | lt => exact s_dI hs k fun H locs lsA cells slots x rest k1 k2 => lv_if_lt hx hb (lenD hm rfl) ht k1 k2
    | ge => exact s_dI hs k fun H locs lsA cells slots x rest k1 k2 => lv_if_ge hx hb (lenD hm rfl) ht k1 k2
    | gt => exact s_dI hs k fun H locs lsA cells slots x rest k1 k2 => lv_if_gt hx hb (lenD hm rfl) ht k1 k2
    | le => exact s_dI hs k fun H locs lsA cells slots x rest k1 k2 => lv_if_le hx hb (lenD hm rfl) ht k1 k2
  | if_icmp cd off =>
    have ht : decide ((pc : Int) + off = (x.1 : Int)) = true := (mP_dec hm).2
    rw [decide_eq_true_eq] at ht
    cases cd with
    | eq => exact s_d2 hs k fun H locs lsA cells slots x y rest k1 k2 => lv_icmp_eq hx hb (lenD hm rfl) ht k1 k2
    | ne => exact s_d2 hs k fun H locs lsA cells slots x y rest k1 k2 => lv_icmp_ne hx hb (lenD hm rfl) ht k2 k1
    | lt => exact s_d2 hs k fun H locs lsA cells slots x y rest k1 k2 => lv_icmp_lt hx hb (lenD hm rfl) ht k1 k2
    | ge => exact s_d2 hs k fun H locs lsA cells slots x y rest k1 k2 => lv_icmp_ge hx hb (lenD hm rfl) ht k1 k2
    | gt => exact s_d2 hs k fun H locs lsA cells slots x y rest k1 k2 => lv_icmp_gt hx hb (lenD hm rfl) ht k1 k2
    | le => exact s_d2 hs k fun H locs lsA cells slots x y rest k1 k2 => lv_icmp_le hx hb (lenD hm rfl) ht k1 k2
  | tableswitch df lo hi os =>
    replace hs : (match (generalizing := false) st with
      | .int v :: r => if v.toInt < lo ∨ hi < v.toInt then swT pc df ls r h else (match os[(v.toInt - lo).toNat]? with
        | some o => swT pc o ls r h
        | none => none)
      | _ => none) = some q := hs
    split at hs
    · rename_i v r
      intro H locs lsA cells slots hR hS hL hc hz
      split at hs
      · rename_i hv
        unfold swT at hs
        split at hs
        · rename_i ht
          cases hs
          exact lv_tableOut hx hb (mP_dec hm).1 hv ht (k H locs lsA cells slots hR hS hL hc hz)
        · cases hs
      · rename_i hv
        cases ho : os[(v.toInt - lo).toNat]? with
        | none => simp only [ho] at hs; cases hs
        | some o =>
          simp only [ho] at hs
          unfold swT at hs
          split at hs
          · rename_i ht
            cases hs
            exact lv_tableIn hx hb (mP_dec hm).1 (fun z => hv (Or.inl z)) (fun z => hv (Or.inr z)) ho ht (k H locs lsA cells slots hR hS hL hc hz)
          · cases hs
    · cases hs
  | lookupswitch df ps =>
    replace hs : (match (generalizing := false) st with
      | .int v :: r => if (ps.toList.zip (ps.toList.drop 1)).all (fun q => q.1.1 < q.2.1) = true then swT pc (Op.lookupswitch.offset ps.toList df v.toInt) ls r h else none
      | _ => none) = some q := hs
    split at hs
    · rename_i v r
      intro H locs lsA cells slots hR hS hL hc hz
      split at hs
      · rename_i hp
        unfold swT at hs
        split at hs
        · rename_i ht
          cases hs
          exact lv_lookup hx hb (mP_dec hm).1 hp rfl ht (k H locs lsA cells slots hR hS hL hc hz)
        · cases hs
      · cases hs
    · cases hs
  | getfield idx => exact s_get X hm hs k
  | putfield idx => exact s_put X hm hs k
  | iaload => exact s_aI X hsc hm hs k
  | baload => exact s_aB X hm hs k
  | laload => exact s_aJ X hm hs k
  | aaload => exact s_aA X hm hs k
  | iastore => exact s_uI X hm hs k
  | bastore => exact s_uB X hm hs k
  | lastore => exact s_uJ X hm hs k
  | aastore => exact s_uA X hm hs k
  | arraylength => exact s_aLen X hsc hm hs k
  | new idx => exact s_new X hm hs l1 l2 k
  | newarray at9 => exact s_newa X hm hs l1 l2 k
  | anewarray idx => exact s_newq X hm hs l1 l2 k
  | multianewarray idx n => exact s_mna X hm hs l1 l2 k
  | _ => cases hs
end SQ
end
section
/-! the heap only grows; the words of a method; the kit's own calls -/
def gr (h h' : Hp) : Prop := h.1.length ≤ h'.1.length ∧ hSz h ≤ hSz h'
theorem gr.rf {h : Hp} : gr h h := ⟨Nat.le_refl _, Nat.le_refl _⟩
theorem gr.eq {h h' : Hp} (e : h'.1 = h.1) : gr h h' := by
  unfold gr hSz
  rw [e]
  exact ⟨Nat.le_refl _, Nat.le_refl _⟩
theorem gr.trans {h h' h2 : Hp} (a : gr h h') (b : gr h' h2) : gr h h2 := ⟨Nat.le_trans a.1 b.1, Nat.le_trans a.2 b.2⟩
section GR
variable {ls : Ls} {st : List Value} {h : Hp} {q : Fr} {pc k : Nat}
theorem g_fr {o : Option (List Value)} (hs : fr pc ls h o = some q) : gr h q.2.2.2 := by
  obtain ⟨s, -, rfl⟩ := fr_some hs
  exact gr.rf
theorem g_cI {v : Option Value} (hs : cI v pc ls st h = some q) : gr h q.2.2.2 := by
  unfold cI at hs
  split at hs <;> cases hs
  exact gr.rf
theorem g_cL {v : Option Value} (hs : cL v pc ls st h = some q) : gr h q.2.2.2 := by
  unfold cL at hs
  split at hs <;> cases hs
  exact gr.rf
theorem g_cA {v : Option Value} (hs : cA v pc ls st h = some q) : gr h q.2.2.2 := by
  unfold cA at hs
  split at hs <;> cases hs
  exact gr.rf
theorem g_kI (hs : kI k pc ls h st = some q) : gr h q.2.2.2 := by
  unfold kI at hs
  split at hs
  · split at hs <;> cases hs
    exact gr.rf
  · cases hs
theorem g_kA (hs : kA k pc ls h st = some q) : gr h q.2.2.2 := by
  unfold kA at hs
  split at hs
  · split at hs <;> cases hs
    exact gr.rf
  · cases hs
theorem g_kL (hs : kL k pc ls h st = some q) : gr h q.2.2.2 := by
  unfold kL at hs
  split at hs
  · split at hs <;> cases hs
    exact gr.rf
  · cases hs
theorem g_dI {P : Int32 → Prop} [DecidablePred P] {t1 t2 : Nat} (hs : dI P t1 t2 ls h st = some q) : gr h q.2.2.2 := by
  unfold dI at hs
  split at hs
  · split at hs <;> cases hs <;> exact gr.rf
  · cases hs
theorem g_d2 {P : Int32 → Int32 → Prop} [∀ x y, Decidable (P x y)] {t1 t2 : Nat} (hs : d2 P t1 t2 ls h st = some q) : gr h q.2.2.2 := by
  unfold d2 at hs
  split at hs
  · split at hs <;> cases hs <;> exact gr.rf
  · cases hs
theorem g_sw {o : Int} (hs : swT pc o ls st h = some q) : gr h q.2.2.2 := by
  unfold swT at hs
  split at hs <;> cases hs
  exact gr.rf
theorem map_some {α β : Type} {o : Option α} {f : α → β} {q : β} (h : o.map f = some q) : ∃ v, o = some v ∧ q = f v := by
  cases o with
  | none => cases h
  | some v => exact ⟨v, rfl, (Option.some.inj h).symm⟩
theorem g_get {ci : Nat} (hs : fGet ci k pc ls h st = some q) : gr h q.2.2.2 := by
  unfold fGet at hs
  split at hs
  · split at hs
    · obtain ⟨v, -, rfl⟩ := map_some hs
      exact gr.rf
    · obtain ⟨v, -, rfl⟩ := map_some hs
      exact gr.rf
    · obtain ⟨v, -, rfl⟩ := map_some hs
      exact gr.rf
    · cases hs
  · cases hs
theorem e_pI {ci a : Nat} {v : Int32} {h' : Hp} (hs : pI h ci a k v = some h') : h'.1 = h.1 := by
  unfold pI at hs
  split at hs
  · split at hs <;> cases hs
    rfl
  · cases hs
theorem e_pL {ci a : Nat} {v : Int64} {h' : Hp} (hs : pL h ci a k v = some h') : h'.1 = h.1 := by
  unfold pL at hs
  split at hs
  · split at hs <;> cases hs
    rfl
  · cases hs
theorem e_pR {ci a v : Nat} {h' : Hp} (hs : pR h ci a k v = some h') : h'.1 = h.1 := by
  unfold pR at hs
  split at hs
  · split at hs <;> cases hs
    rfl
  · cases hs
theorem e_wI {t a : Nat} {i v : Int32} {h' : Hp} (hs : wI h t a i v = some h') : h'.1 = h.1 := by
  unfold wI at hs
  split at hs
  · split at hs <;> cases hs
    rfl
  · cases hs
theorem e_wL {a : Nat} {i : Int32} {v : Int64} {h' : Hp} (hs : wL h a i v = some h') : h'.1 = h.1 := by
  unfold wL at hs
  split at hs
  · split at hs <;> cases hs
    rfl
  · cases hs
theorem e_wR {a v : Nat} {i : Int32} {h' : Hp} (hs : wR h a i v = some h') : h'.1 = h.1 := by
  unfold wR at hs
  split at hs
  · split at hs <;> cases hs
    rfl
  · cases hs
theorem g_put {ci : Nat} (hs : fPut ci k pc ls h st = some q) : gr h q.2.2.2 := by
  unfold fPut at hs
  split at hs
  · split at hs
    · obtain ⟨v, h1, rfl⟩ := map_some hs
      exact gr.eq (e_pI h1)
    · cases hs
  · split at hs
    · obtain ⟨v, h1, rfl⟩ := map_some hs
      exact gr.eq (e_pL h1)
    · cases hs
  · split at hs
    · obtain ⟨v, h1, rfl⟩ := map_some hs
      exact gr.eq (e_pR h1)
    · cases hs
  · cases hs
theorem g_aI {scr : Scr} (hs : aI scr pc ls h st = some q) : gr h q.2.2.2 := by
  unfold aI at hs
  split at hs
  · split at hs
    · split at hs
      · split at hs <;> cases hs
        exact gr.rf
      · cases hs
    · obtain ⟨v, -, rfl⟩ := map_some hs
      exact gr.rf
  · cases hs
theorem g_aB (hs : aB pc ls h st = some q) : gr h q.2.2.2 := by
  unfold aB at hs
  split at hs
  · split at hs
    · split at hs
      · obtain ⟨v, -, rfl⟩ := map_some hs
        exact gr.rf
      · obtain ⟨v, -, rfl⟩ := map_some hs
        exact gr.rf
    · cases hs
  · cases hs
theorem g_aJ (hs : aJ pc ls h st = some q) : gr h q.2.2.2 := by
  unfold aJ at hs
  split at hs
  · obtain ⟨v, -, rfl⟩ := map_some hs
    exact gr.rf
  · cases hs
theorem g_aA (hs : aA pc ls h st = some q) : gr h q.2.2.2 := by
  unfold aA at hs
  split at hs
  · obtain ⟨v, -, rfl⟩ := map_some hs
    exact gr.rf
  · cases hs
theorem g_aLen {scr : Scr} (hs : aLen scr pc ls h st = some q) : gr h q.2.2.2 := by
  unfold aLen at hs
  split at hs
  · split at hs
    · split at hs <;> cases hs
      exact gr.rf
    · cases hs
  · cases hs
theorem g_uI (hs : uI pc ls h st = some q) : gr h q.2.2.2 := by
  unfold uI at hs
  split at hs
  · obtain ⟨v, h1, rfl⟩ := map_some hs
    exact gr.eq (e_wI h1)
  · cases hs
theorem g_uB (hs : uB pc ls h st = some q) : gr h q.2.2.2 := by
  unfold uB at hs
  split at hs
  · split at hs
    · split at hs
      · obtain ⟨v, h1, rfl⟩ := map_some hs
        exact gr.eq (e_wI h1)
      · obtain ⟨v, h1, rfl⟩ := map_some hs
        exact gr.eq (e_wI h1)
    · cases hs
  · cases hs
theorem g_uJ (hs : uJ pc ls h st = some q) : gr h q.2.2.2 := by
  unfold uJ at hs
  split at hs
  · obtain ⟨v, h1, rfl⟩ := map_some hs
    exact gr.eq (e_wL h1)
  · cases hs
theorem g_uA (hs : uA pc ls h st = some q) : gr h q.2.2.2 := by
  unfold uA at hs
  split at hs
  · obtain ⟨v, h1, rfl⟩ := map_some hs
    exact gr.eq (e_wR h1)
  · cases hs
theorem gr_nw (kd n : Nat) : gr h (nw h kd n) := ⟨by rw [nw_len]; omega, by rw [hSz_nw]; omega⟩
theorem g_new {ci n : Nat} (hs : mNew ci n pc ls st h = some q) : gr h q.2.2.2 := by
  unfold mNew at hs
  split at hs <;> cases hs
  exact gr_nw _ _
theorem g_newa {t : Nat} (hs : mNwA t pc ls h st = some q) : gr h q.2.2.2 := by
  unfold mNwA at hs
  split at hs
  · split at hs <;> cases hs
    exact gr_nw _ _
  · cases hs
theorem g_mna (hs : mNwM pc ls h st = some q) : gr h q.2.2.2 := by
  unfold mNwM at hs
  split at hs
  · split at hs
    · cases hs
      have e := mna_len h
      refine ⟨?_, ?_⟩
      · show h.1.length ≤ (sZR _ _ _).1.length
        rw [(e _ _ _ _).1]
        omega
      · show hSz h ≤ hSz (sZR _ _ _)
        rw [(e _ _ _ _).2]
        omega
    · cases hs
  · cases hs
set_option maxHeartbeats 2000000 in
theorem g_stp {scr : Scr} {i : Instr} {x : Au} (hs : stp scr i x pc ls st h = some q) : gr h q.2.2.2 := by
  cases i with
  | iconst n => cases hs; exact gr.rf
  | bipush n => cases hs; exact gr.rf
  | sipush n => cases hs; exact gr.rf
  | lconst n => cases hs; exact gr.rf
  | ldc2_w n => cases hs; exact gr.rf
  | goto n => cases hs; exact gr.rf
  | iload n => exact g_cI hs
  | iload_n n => exact g_cI hs
  | lload n => exact g_cL hs
  | lload_n n => exact g_cL hs
  | aload n => exact g_cA hs
  | aload_n n => exact g_cA hs
  | istore n => exact g_kI hs
  | istore_n n => exact g_kI hs
  | lstore n => exact g_kL hs
  | lstore_n n => exact g_kL hs
  | astore n => exact g_kA hs
  | astore_n n => exact g_kA hs
  | iinc k9 n =>
    have hs : (match ldL ls k9 with
      | some (.int v) => if k9 < ls.length then some (pc + 3, st1 ls k9 (.int (v + Int32.ofInt n)), st, h) else none
      | _ => none) = some q := hs
    split at hs
    · split at hs <;> cases hs
      exact gr.rf
    · cases hs
  | iadd => exact g_fr hs
  | isub => exact g_fr hs
  | imul => exact g_fr hs
  | iand => exact g_fr hs
  | ior => exact g_fr hs
  | ishl => exact g_fr hs
  | ishr => exact g_fr hs
  | ladd => exact g_fr hs
  | lmul => exact g_fr hs
  | land => exact g_fr hs
  | lor => exact g_fr hs
  | lcmp => exact g_fr hs
  | lshl => exact g_fr hs
  | lshr => exact g_fr hs
  | lushr => exact g_fr hs
  | i2l => exact g_fr hs
  | l2i => exact g_fr hs
  | i2b => exact g_fr hs
  | idiv =>
    replace hs : (match (generalizing := false) st with
      | .int b :: .int a :: r => if b = 0 then none else some (pc + 1, ls, .int (a / b) :: r, h)
      | _ => none) = some q := hs
    split at hs
    · split at hs <;> cases hs
      exact gr.rf
    · cases hs
  | ldiv =>
    replace hs : (match (generalizing := false) st with
      | .long b :: .long a :: r => if b = 0 then none else some (pc + 1, ls, .long (a / b) :: r, h)
      | _ => none) = some q := hs
    split at hs
    · split at hs <;> cases hs
      exact gr.rf
    · cases hs
  | lrem =>
    replace hs : (match (generalizing := false) st with
      | .long b :: .long a :: r => if b = 0 then none else some (pc + 1, ls, .long (a - a / b * b) :: r, h)
      | _ => none) = some q := hs
    split at hs
    · split at hs <;> cases hs
      exact gr.rf
    · cases hs
  | dup =>
    replace hs : (match (generalizing := false) st with
      | v :: r => if v.category = 1 then some (pc + 1, ls, v :: v :: r, h) else none
      | _ => none) = some q := hs
    split at hs
    · split at hs <;> cases hs
      exact gr.rf
    · cases hs
  | dup2 =>
    replace hs : (match (generalizing := false) st with
      | v :: w :: r => if v.category = 1 ∧ w.category = 1 then some (pc + 1, ls, v :: w :: v :: w :: r, h) else none
      | _ => none) = some q := hs
    split at hs
    · split at hs <;> cases hs
      exact gr.rf
    · cases hs
  | ifCond cd off => cases cd <;> exact g_dI hs
  | if_icmp cd off => cases cd <;> exact g_d2 hs
  | tableswitch df lo hi os =>
    replace hs : (match (generalizing := false) st with
      | .int v :: r => if v.toInt < lo ∨ hi < v.toInt then swT pc df ls r h else (match os[(v.toInt - lo).toNat]? with
        | some o => swT pc o ls r h
        | none => none)
      | _ => none) = some q := hs
    split at hs
    · split at hs
      · exact g_sw hs
      · split at hs
        · exact g_sw hs
        · cases hs
    · cases hs
  | lookupswitch df ps =>
    replace hs : (match (generalizing := false) st with
      | .int v :: r => if (ps.toList.zip (ps.toList.drop 1)).all (fun q => q.1.1 < q.2.1) = true then swT pc (Op.lookupswitch.offset ps.toList df v.toInt) ls r h else none
      | _ => none) = some q := hs
    split at hs
    · split at hs
      · exact g_sw hs
      · cases hs
    · cases hs
  | getfield idx => exact g_get hs
  | putfield idx => exact g_put hs
  | iaload => exact g_aI hs
  | baload => exact g_aB hs
  | laload => exact g_aJ hs
  | aaload => exact g_aA hs
  | iastore => exact g_uI hs
  | bastore => exact g_uB hs
  | lastore => exact g_uJ hs
  | aastore => exact g_uA hs
  | arraylength => exact g_aLen hs
  | new idx => exact g_new hs
  | newarray at9 => exact g_newa hs
  | anewarray idx => exact g_newa hs
  | multianewarray idx n => exact g_mna hs
  | _ => cases hs
theorem g_inr {kd d : Nat} (hs : inr kd d pc ls st h = some q) : q.2.2.2.1 = h.1 := by
  unfold inr at hs
  split at hs
  · cases hs
  · split at hs
    · split at hs
      · split at hs <;> cases hs
        rfl
      · cases hs
    · split at hs
      · split at hs <;> cases hs
        rfl
      · cases hs
    · split at hs
      · split at hs <;> cases hs
        rfl
      · cases hs
    · split at hs
      · split at hs <;> cases hs
        rfl
      · cases hs
    · split at hs
      · split at hs
        · split at hs <;> cases hs
          rfl
        · cases hs
      · cases hs
    · cases hs
end GR
theorem run_gr : ∀ (n d : Nat) (scr : Scr) (mi pc : Nat) (ls : Ls) (st : List Value) (h : Hp) (r : Option Value × Hp), run n d scr mi pc ls st h = some r → gr h r.2
  | 0, d, scr, mi, pc, ls, st, h, r, hr => by cases hr
  | n + 1, d, scr, mi, pc, ls, st, h, r, hr => by
    unfold run at hr
    split at hr
    · cases hr
    · rename_i e he
      split at hr
      · cases hr
        exact gr.rf
      · split at hr
        · split at hr
          · split at hr
            · split at hr
              · rename_i q hq
                exact (run_gr n _ _ _ _ _ _ _ _ hq).trans (run_gr n _ _ _ _ _ _ _ _ hr)
              · cases hr
            · cases hr
          · split at hr
            · rename_i q hq
              exact (gr.eq (g_inr hq)).trans (run_gr n _ _ _ _ _ _ _ _ hr)
            · cases hr
        · split at hr
          · rename_i q hq
            exact (g_stp hq).trans (run_gr n _ _ _ _ _ _ _ _ hr)
          · cases hr
theorem mMT_at {t : Nat} (ht : t < 186) : ∃ r, mMT[t]? = some r := ⟨mMT[t]'(by show t < 186; exact ht), List.getElem?_eq_getElem _⟩
theorem w_code {t : Nat} (ht : t < 186) : Cond.code (mY t) (mB t) (mL t) (mR t) ∈ lw_gd := by
  obtain ⟨r, hr⟩ := mMT_at ht
  have h := congrArg (fun l => l[t]?) mMT_code
  simp only [List.getElem?_map, hr, Option.map_some, Option.some.injEq] at h
  unfold mY mB mL mR
  rw [hr]
  exact gdm h rfl
theorem w_inst {t f : Nat} (ht : t < 186) (hf : (mMT[t]?).map (fun q => q.2.2.2.2.2.1) = some f) : (if f = 1 then Cond.static (mY t) else Cond.instanceMethod (mY t)) ∈ lw_gd := by
  obtain ⟨r, hr⟩ := mMT_at ht
  have h := List.all_eq_true.mp mMT_inst r (List.mem_of_getElem? hr)
  rw [hr] at hf
  have hf : r.2.2.2.2.2.1 = f := Option.some.inj hf
  rw [decide_eq_true_eq, hf] at h
  have e : mY t = r.2.1 := by unfold mY; rw [hr]; rfl
  rw [e]
  split at h
  · rename_i h1
    rw [if_pos h1]
    exact gdm h rfl
  · rename_i h1
    rw [if_neg h1]
    exact gdm h rfl
theorem w_sel {t : Nat} (ht : t < 186) (hf : (mMT[t]?).map (fun q => q.2.2.2.2.2.1) = some 0) (hn : (mY t).name ≠ "<init>") : Cond.selects (mC (mO t)) (mY t) (mY t) ∈ lw_gd := by
  obtain ⟨r, hr⟩ := mMT_at ht
  have h := List.all_eq_true.mp mMT_sel r (List.mem_of_getElem? hr)
  rw [hr] at hf
  have hf : r.2.2.2.2.2.1 = 0 := Option.some.inj hf
  have e : mY t = r.2.1 := by unfold mY; rw [hr]; rfl
  have e2 : mO t = r.1 := by unfold mO; rw [hr]; rfl
  rw [e] at hn
  rw [e, e2]
  simp only [Bool.or_eq_true, beq_iff_eq, decide_eq_true_eq, hf] at h
  rcases h with (h | h) | h
  · omega
  · exact absurd h hn
  · exact gdm h rfl
theorem w_ini {t : Nat} (ht : t < 186) : Cond.initialized (mY t).cls ∈ lw_gd ∧ (mY t).cls = mC (mO t) ∧ mL t ≤ 17 ∧ plainName (mY t).cls = true ∧ (mY t).cls ≠ "java/lang/invoke/MethodHandle" ∧ (mY t).cls ≠ "java/lang/invoke/VarHandle" := by
  obtain ⟨r, hr⟩ := mMT_at ht
  have h := List.all_eq_true.mp mMT_ini r (List.mem_of_getElem? hr)
  simp only [Bool.and_eq_true, decide_eq_true_eq] at h
  have e : mY t = r.2.1 := by unfold mY; rw [hr]; rfl
  have e2 : mO t = r.1 := by unfold mO; rw [hr]; rfl
  have e3 : mL t = r.2.2.2.1 := by unfold mL; rw [hr]; rfl
  rw [e, e2, e3]
  obtain ⟨⟨⟨⟨⟨h1, h2⟩, h3⟩, h4⟩, h5⟩, h6⟩ := h
  exact ⟨by rw [h2]; exact gdm h1 rfl, h2, h3, h4, h5, h6⟩
theorem ctS_tr (B b : Nat) (st : List Value) : ((st.map (tr B b)).map fun v => v.category).sum = ctS st := by
  unfold ctS
  rw [List.map_map]
  congr 1
  apply List.map_congr_left
  intro v _
  exact tr_cat B b v
section IR
variable {p : Program} {l : Launch} {e : Env} {R : Room} {s : State} {m : MethodId} {args : Array Value} {below : List Frame} {meth : Method} {c : Code} {Q : State → Prop}
variable {D : va_G} {cT : Nat → ClassId} {B b mi d pc len k0 z0 : Nat} {ls : Ls} {st : List Value} {h : Hp} {q : Fr} {scr : Scr} {x : Au}
variable {H : Heap} {locs : List Loc} {cells slots : Nat} {lsA : Array Slot} {rest : List Value}
theorem row_copy {idx a0 a n0 n1 : Nat} {sp dp n : Int32} (X : Cx p R s m args meth c D cT B mi d) (hd0 : d ≠ 0) (hsz : lsA.size = mL mi) (hd : decode (mB mi) pc = .ok (.invokestatic idx, 3)) (hlink : (Cond.methodLink (mC (mO mi)) idx arraycopyName) ∈ lw_gd) (hR : Rp D cT B b h H) (hS0 : va_S (fun q => B ≤ q) s.heap H locs)
    (hq0 : h.1[a0]? = some (100 + 0, n0)) (hq1 : h.1[a]? = some (100 + 0, n1)) (h1 : ¬ sp < 0) (h2 : ¬ dp < 0) (h3 : ¬ n < 0) (h4 : sp.toNatClampNeg + n.toNatClampNeg ≤ n0) (h5 : dp.toNatClampNeg + n.toNatClampNeg ≤ n1) (hr : (rest.map fun v => v.category).sum ≤ 8)
    (kk : ∀ (H1 : Heap) (locs1 : List Loc), Rp D cT B b (sR h a (va_cpy (h.2.1 a0) (h.2.1 a) sp.toNatClampNeg dp.toNatClampNeg n.toNatClampNeg)) H1 → va_S (fun q => B ≤ q) s.heap H1 locs1 → W p l e R s m args below meth c H1 locs1 cells slots Q (F0 m (pc + 3) lsA rest)) : W p l e R s m args below meth c H locs cells slots Q (F0 m pc lsA (.int n :: .int dp :: .ref (ad B b a) :: .int sp :: .ref (ad B b a0) :: rest)) := by
  obtain ⟨hx, hb, hml, hown, hts, hK, -, hfr, hlo, -, -⟩ := X
  have hkw := mKW_ok
  simp only [Bool.and_eq_true, decide_eq_true_eq] at hkw
  obtain ⟨⟨⟨⟨⟨⟨⟨⟨⟨⟨⟨-, -⟩, -⟩, k62⟩, -⟩, -⟩, -⟩, -⟩, -⟩, -⟩, k696⟩, k697⟩ := hkw
  have nn : ∀ z : Int32, ¬ z < 0 → z.toInt = (z.toNatClampNeg : Int) := by
    intro z hz
    have hz0 : (0 : Int) ≤ z.toInt := by
      have := Int32.not_lt.mp hz
      simpa using Int32.le_iff_toInt_le.mp this
    show z.toInt = ((z.toInt.toNat : Nat) : Int)
    omega
  have hc0 := (hR.arr hq0).2
  have hc1 := (hR.arr hq1).2
  rw [ev_i (by decide)] at hc0 hc1
  rw [ad_lt (hR.lt hq0).2, ad_lt (hR.lt hq1).2]
  intro T hT X
  obtain ⟨-, k9, hk9, cm9, hkk9⟩ := (hK.2 0 .int rfl).1 n0 (fun j => .int (h.2.1 a0 j))
  obtain ⟨vm', X', step⟩ := X.arraycopy hx hown (hts _ hlink) (hts _ (gdm k697 rfl)) (hts _ (gdm k696 rfl)) (hts _ (gdm k62 rfl)) (src := B + a0) (dst := B + a) (cs := arrV (cT 0) n0 (fun j => .int (h.2.1 a0 j))) (cd := arrV (cT 0) n1 (fun j => .int (h.2.1 a j))) (srcPos := sp) (destPos := dp) (n := n) (by rw [hT]; exact hc0) (by rw [hT]; exact hc1)
    (fun _ h => by cases h) (fun _ h => by cases h) (fun h => by cases h) (fun h => by cases h) hk9 hk9 hkk9 hkk9 rfl h1 h2 h3
    (by rw [nn sp h1, nn n h3, arrV_size]; omega)
    (by rw [nn dp h2, nn n h3, arrV_size]; omega)
    (fun vm₁ _ i hi => by
      have e : (arrV (cT 0) n0 (fun j => Value.int (h.2.1 a0 j))).slots.getD (sp.toNatClampNeg + i) .null = .int (h.2.1 a0 (sp.toNatClampNeg + i)) := by
        rw [Array.getD_eq_getD_getElem?, arrV_read _ _ (by omega)]
        rfl
      rw [e]
      exact ⟨rfl, trivial⟩)
    (g := F0 m pc lsA (.int n :: .int dp :: .ref (B + a) :: .int sp :: .ref (B + a0) :: rest)) rfl (by rw [hml]; exact hsz) (rest := rest) rfl (by rw [hb]; exact hd) (by omega) (by
      show 2 * 0 + _ + (nativeFrameWords "java/lang/System" "arraycopy" 5 + 11) ≤ _
      have : nativeFrameWords "java/lang/System" "arraycopy" 5 = 7 := by decide +kernel
      rw [this]
      omega)
  have e1 : copied (arrV (cT 0) n0 (fun j => .int (h.2.1 a0 j))) (arrV (cT 0) n1 (fun j => .int (h.2.1 a j))) sp dp n = arrV (cT 0) n1 (fun j => .int (va_cpy (h.2.1 a0) (h.2.1 a) sp.toNatClampNeg dp.toNatClampNeg n.toNatClampNeg j)) := va_copied (fun z => .int z) (cT 0) (cT 0) (h.2.1 a0) (h.2.1 a) h4
  rw [e1] at X' step
  generalize hnc : arrV (cT 0) n1 (fun j => .int (va_cpy (h.2.1 a0) (h.2.1 a) sp.toNatClampNeg dp.toNatClampNeg n.toNatClampNeg j)) = nc at X' step
  have hl : B + a < H.size := (Array.getElem?_eq_some_iff.mp hc1).1
  have hheap : ((T.setVm vm').setCell (B + a) nc).heap = H.setIfInBounds (B + a) nc := by rw [← hT]; rfl
  have oq : ∀ q : Nat, q ≠ B + a → (H.setIfInBounds (B + a) nc)[q]? = H[q]? := fun q hq => by simp [Array.getElem?_setIfInBounds, Ne.symm hq]
  have hR1 : Rp D cT B b (sR h a (va_cpy (h.2.1 a0) (h.2.1 a) sp.toNatClampNeg dp.toNatClampNeg n.toNatClampNeg)) (H.setIfInBounds (B + a) nc) := by
    refine hR.set rfl (sR_o _) (by simp) oq (fun q hq => ?_)
    rw [hq1] at hq
    cases hq
    refine Or.inr ⟨by simp only; omega, by simp only; omega, ?_⟩
    rw [show (H.setIfInBounds (B + a) nc)[B + a]? = some nc by simp [Array.getElem?_setIfInBounds, hl], ← hnc, show (100 + 0 - 100 : Nat) = 0 from rfl, ev_i (by decide)]
    refine congrArg some (congrArg (arrV (cT 0) n1) (funext fun j => ?_))
    show _ = Value.int (va_up (α := Nat → Int32) h.2.1 a _ a j)
    rw [up_eq]
  obtain ⟨t, a1, b1⟩ := kk _ _ hR1 ⟨by simp; exact hS0.1, fun q g1 g2 => by
      rw [oq q (fun e => g2 (by rw [e]; exact Nat.le_add_right B a))]
      exact hS0.2.1 q g1 g2, fun q hq => by
      rcases List.mem_append.mp hq with h | h
      · exact hS0.2.2 q h
      · obtain ⟨z, -, hz⟩ := List.mem_map.mp h
        rw [← hz]
        exact Nat.le_add_right B a⟩ _ hheap X'
  exact ⟨t, step t a1, b1⟩
theorem inr_sound {i : Instr} (X : Cx p R s m args meth c D cT B mi d) (hm : mP mi pc = some (i, len, x)) (hi : isInv i = true) (hz4 : ¬ x.2.2.2 < 4) (hs : inr x.2.2.2.toNat d pc ls st h = some q) (l1 : h.1.length ≤ k0 + R.cells) (l2 : hSz h ≤ z0 + R.slots)
    (k : SW p l e R s m args below meth c D cT B b mi Q k0 z0 q.1 q.2.1 q.2.2.1 q.2.2.2) : SW p l e R s m args below meth c D cT B b mi Q k0 z0 pc ls st h := by
  intro H locs lsA cells slots hR hS hL hc hz
  have hx := X.1
  have hb := X.2.1
  have hml := X.2.2.1
  have hown := X.2.2.2.1
  have hts := X.2.2.2.2.1
  have hfr := X.2.2.2.2.2.2.2.1
  have hlo := X.2.2.2.2.2.2.2.2.1
  have hkw := mKW_ok
  simp only [Bool.and_eq_true, decide_eq_true_eq] at hkw
  obtain ⟨⟨⟨⟨⟨⟨⟨⟨⟨⟨⟨k69, k70⟩, k61⟩, k62⟩, k361⟩, k362⟩, k592⟩, k593⟩, k636⟩, k637⟩, k696⟩, k697⟩ := hkw
  have hd0 : d ≠ 0 := by
    intro h0
    unfold inr at hs
    rw [if_pos h0] at hs
    cases hs
  unfold inr at hs
  rw [if_neg hd0] at hs
  obtain ⟨t, na, row, z⟩ := x
  cases i with
  | invokevirtual idx =>
    have h9 := (lenC hm (n := 3) (w := decide (z = 0)) rfl).2
    rw [decide_eq_true_eq] at h9
    simp only at hz4
    omega
  | invokespecial idx =>
    obtain ⟨hd, h9⟩ := lenC hm (n := 3) (w := decide (z = 2 ∨ z = 3 ∨ (z = 4 ∧ t = 1000))) rfl
    rw [decide_eq_true_eq] at h9
    simp only at hz4 hs
    have h10 : z = 4 ∧ t = 1000 := by omega
    obtain ⟨rfl, rfl⟩ := h10
    have hF : chkC mi idx (1000, na, row, 4) = true := (mP_dec hm).2
    have hl := chkC_link hF (by decide)
    replace hs : (match (generalizing := false) st with
      | .ref _ :: r => if ctS r ≤ 8 then some (pc + 3, ls, r, h) else none
      | _ => none) = some q := hs
    split at hs
    · rename_i a r
      split at hs
      · rename_i h8
        cases hs
        refine W.objInit hx hb hown (hts _ hl) (hts _ (gdm k69 rfl)) (hts _ (gdm k70 rfl)) rfl (by rw [hml]; exact hL.1) rfl hd (by omega) ?_ (k H locs lsA cells slots hR hS hL hc hz)
        show 2 * 0 + ((r.map (tr B b)).map fun v => v.category).sum + 12 ≤ _
        rw [ctS_tr]
        omega
      · cases hs
    · cases hs
  | invokestatic idx =>
    obtain ⟨hd, h9⟩ := lenC hm (n := 3) (w := decide (z = 1 ∨ (z = 5 ∧ t = 1001) ∨ (z = 6 ∧ t = 1002) ∨ (z = 7 ∧ t = 1003) ∨ (z = 8 ∧ t = 1004))) rfl
    rw [decide_eq_true_eq] at h9
    simp only at hz4 hs
    have hF : chkC mi idx (t, na, row, z) = true := (mP_dec hm).2
    have hl := chkC_link hF (by omega)
    rcases (show (z = 5 ∧ t = 1001) ∨ (z = 6 ∧ t = 1002) ∨ (z = 7 ∧ t = 1003) ∨ (z = 8 ∧ t = 1004) by omega) with ⟨rfl, rfl⟩ | ⟨rfl, rfl⟩ | ⟨rfl, rfl⟩ | ⟨rfl, rfl⟩
    · replace hs : (match (generalizing := false) st with
        | .int y :: .int x :: r => if ctS r ≤ 8 then some (pc + 3, ls, .int (if x < y then y else x) :: r, h) else none
        | _ => none) = some q := hs
      split at hs
      · rename_i y x r
        split at hs
        · rename_i h8
          cases hs
          refine va_mmax hx hb (by rw [hml]; exact hL.1.symm) hown (hts _ hl) (hts _ (gdm k592 rfl)) (hts _ (gdm k61 rfl)) (hts _ (gdm k593 rfl)) (by omega) ?_ (by omega) (by omega) hd (k H locs lsA cells slots hR hS hL hc hz)
          show ((r.map (tr B b)).map fun v => v.category).sum + 13 ≤ _
          rw [ctS_tr]
          omega
        · cases hs
      · cases hs
    · replace hs : (match (generalizing := false) st with
        | .int y :: .int x :: r => if ctS r ≤ 8 then some (pc + 3, ls, .int (if y < x then y else x) :: r, h) else none
        | _ => none) = some q := hs
      split at hs
      · rename_i y x r
        split at hs
        · rename_i h8
          cases hs
          refine va_mmin hx hb (by rw [hml]; exact hL.1.symm) hown (hts _ hl) (hts _ (gdm k361 rfl)) (hts _ (gdm k61 rfl)) (hts _ (gdm k362 rfl)) (by omega) ?_ (by omega) (by omega) hd (k H locs lsA cells slots hR hS hL hc hz)
          show ((r.map (tr B b)).map fun v => v.category).sum + 13 ≤ _
          rw [ctS_tr]
          omega
        · cases hs
      · cases hs
    · replace hs : (match (generalizing := false) st with
        | .long y :: .long x :: r => if ctS r ≤ 8 then some (pc + 3, ls, .long (if y < x then x else y) :: r, h) else none
        | _ => none) = some q := hs
      split at hs
      · rename_i y x r
        split at hs
        · rename_i h8
          cases hs
          refine va_mmax_long hx hb (by rw [hml]; exact hL.1.symm) hown (hts _ hl) (hts _ (gdm k636 rfl)) (hts _ (gdm k61 rfl)) (hts _ (gdm k637 rfl)) (by omega) ?_ (by omega) (by omega) hd (k H locs lsA cells slots hR hS hL hc hz)
          show ((r.map (tr B b)).map fun v => v.category).sum + 15 ≤ _
          rw [ctS_tr]
          omega
        · cases hs
      · cases hs
    · replace hs : (match (generalizing := false) st with
        | .int n :: .int dp :: .ref a :: .int sp :: .ref a0 :: r => (match h.1[a0]?, h.1[a]? with
          | some q0, some q => if (q0.1 = 100 ∧ q.1 = 100 ∧ ctS r ≤ 8) ∧ ¬ sp < 0 ∧ ¬ dp < 0 ∧ ¬ n < 0 ∧ sp.toNatClampNeg + n.toNatClampNeg ≤ q0.2 ∧ dp.toNatClampNeg + n.toNatClampNeg ≤ q.2 then some (pc + 3, ls, r, sR h a (va_cpy (h.2.1 a0) (h.2.1 a) sp.toNatClampNeg dp.toNatClampNeg n.toNatClampNeg)) else none
          | _, _ => none)
        | _ => none) = some q := hs
      split at hs
      · rename_i n dp a sp a0 r
        cases hq0 : h.1[a0]? with
        | none => simp [hq0] at hs
        | some q0 =>
          cases hq1 : h.1[a]? with
          | none => simp [hq1] at hs
          | some q1 =>
            simp only [hq0, hq1] at hs
            split at hs
            · rename_i h8
              obtain ⟨⟨g1, g2, g3⟩, g4, g5, g6, g7, g8⟩ := h8
              obtain ⟨q01, q02⟩ := q0
              obtain ⟨q11, q12⟩ := q1
              simp only at g1 g2 g7 g8
              subst g1
              subst g2
              cases hs
              exact row_copy X hd0 hL.1 hd hl hR hS hq0 hq1 g4 g5 g6 g7 g8 (by rw [ctS_tr]; exact g3) fun H1 locs1 hR1 hS1 => k H1 locs1 lsA cells slots hR1 hS1 hL hc hz
            · cases hs
      · cases hs
  | _ => cases hi
end IR
end
section
/-! a run of the pure machine is a run of the machine -/
def mRm (d k z : Nat) : Room := { frames := d, cells := k, slots := z, locals := 36 * d }
def mW (t : Nat) : List Cond := .code (mY t) (mB t) (mL t) (mR t) :: lw_gd
def mPc (D : va_G) (cT : Nat → ClassId) (B b : Nat) (av : List Value) (h : Hp) : Array Value → State → Prop := fun v U => v = (av.map (tr B b)).toArray ∧ Rp D cT B b h U.heap ∧ mK D cT U ∧ mN U
def mQc (D : va_G) (cT : Nat → ClassId) (B b : Nat) (v : Option Value) (h' : Hp) : Array Value → State → Outcome → State → Prop := fun _ st o t => o = .returned (v.map (tr B b)) ∧ Rp D cT B b h' t.heap ∧ va_F (fun q => B ≤ q) st t
def MetT (l : Launch) (D : va_G) (cT : Nat → ClassId) (B b t d : Nat) (av : List Value) (h : Hp) (v : Option Value) (h' : Hp) : Prop :=
  Met l (mY t) (mW t) (mRm d (h'.1.length - h.1.length) (hSz h' - hSz h)) (mPc D cT B b av h) (mQc D cT B b v h') (h'.1.length - h.1.length) (hSz h' - hSz h) (fun q => B ≤ q)
theorem mPc_blind {D : va_G} {cT : Nat → ClassId} {B b : Nat} {av : List Value} {h : Hp} : FrameBlind (mPc D cT B b av h) := fun a U g mk q => ⟨q.1, q.2.1, mK.moved (u := U) (U := U.calling g mk a) (Vm.Alike.refl U.vm) q.2.2.1, q.2.2.2.calling⟩
theorem mW_good (t : Nat) (ht : t < 186) : GoodIn lw_gd (mW t) := by
  intro w hw
  have hm : w ∈ lw_gd := by
    rcases List.mem_cons.mp hw with rfl | h
    · exact w_code ht
    · exact h
  exact ⟨hm, good_of_word (List.mem_filter.mp hm).2⟩
theorem mCT_kindB : mCT.all (fun r => decide (r.2.2.1 < 1000) || decide (4 ≤ r.2.2.2.2.1)) = true := by decide +kernel
theorem mCT_kind : ∀ r ∈ mCT, 1000 ≤ r.2.2.1 → 4 ≤ r.2.2.2.2.1 := by
  intro r hr h
  have h1 := List.all_eq_true.mp mCT_kindB r hr
  simp only [Bool.or_eq_true, decide_eq_true_eq] at h1
  omega
theorem mMT_own : mMT.all (fun r => decide (r.1 < 8)) = true := by decide +kernel
theorem rcvO {t : Nat} (ht : t < 186) : mO t < 8 := by
  obtain ⟨r, hr⟩ := mMT_at ht
  have h := List.all_eq_true.mp mMT_own r (List.mem_of_getElem? hr)
  rw [decide_eq_true_eq] at h
  unfold mO
  rw [hr]
  exact h
section CS
variable {p : Program} {l : Launch} {e : Env} {R : Room} {s : State} {m : MethodId} {args : Array Value} {below : List Frame} {meth : Method} {c : Code} {Q : State → Prop}
variable {D : va_G} {cT : Nat → ClassId} {B b mi d pc len k0 z0 : Nat} {ls : Ls} {st : List Value} {h : Hp} {scr : Scr} {x : Au}
theorem mcall {H : Heap} {locs : List Loc} {cells slots mc ms : Nat} {lsA : Array Slot} {st0 rest : List Value} {v : Option Value} {h' : Hp} {aa : Array Value}
    (hr : va_Run p l e R s m args below meth c H locs cells slots mc ms (F0 m pc lsA st0) rest (mQc D cT B b v h' aa) (fun q => B ≤ q)) (hS : va_S (fun q => B ≤ q) s.heap H locs)
    (kk : ∀ (H1 : Heap) (locs1 : List Loc), Rp D cT B b h' H1 → va_S (fun q => B ≤ q) s.heap H1 locs1 → W p l e R s m args below meth c H1 locs1 (cells + mc) (slots + ms) Q (F0 m (pc + 3) lsA ((v.map (tr B b)).toList ++ rest))) : W p l e R s m args below meth c H locs cells slots Q (F0 m pc lsA st0) := by
  intro T hT X
  obtain ⟨v', st₀, t, T', L, h0, X', hL, e1, e2, ⟨hv, hRp, hz, hk⟩, st⟩ := hr T hT X
  have hv : v' = v.map (tr B b) := Outcome.returned.inj hv
  subst hv
  rw [h0] at hz hk
  rw [← e1] at hRp hz hk
  obtain ⟨t2, a1, b1⟩ := kk T'.heap (locs ++ L) hRp ⟨Nat.le_trans hS.1 hz, fun q h1 h2 => by rw [hk q (Nat.lt_of_lt_of_le h1 hS.1) h2]; exact hS.2.1 q h1 h2, fun q hq => by
      rcases List.mem_append.mp hq with h | h
      · exact hS.2.2 q h
      · exact hL q h⟩ T' rfl X'
  exact ⟨t2, st t2 a1, b1⟩
theorem mCB {idx t na row n : Nat} {z : Int} (X : Cx p R s m args meth c D cT B mi d) (hd0 : d ≠ 0) {k9 z9 : Nat} (ht : t < 186) (hl : Cond.methodLink (mC (mO mi)) idx (mY t) ∈ lw_gd) (hn : (parseMethodDescriptor (mY t).desc).map (fun d => d.parameters.length) = some n) : CallB R s args (mC (mO mi)) idx (mY t) (mB t) (mL t) (mR t) (mW t) (mRm (d - 1) k9 z9) k9 z9 n := by
  obtain ⟨hx, hb, hml, hown, hts, hK, hN, hfr, hlo, -, -⟩ := X
  obtain ⟨i1, i2, i3, i4, i5, i6⟩ := w_ini ht
  refine ⟨rfl, rfl, by show d - 1 + 1 ≤ _; omega, by show 8 + (mL t + 11) + 36 * (d - 1) ≤ _; omega, pay_in hts (mW_good t ht), List.mem_cons_self, hts _ (w_code ht), hts _ i1, ⟨i5, i6⟩, fun sig h9 => ?_, hts _ hl⟩
  rw [h9] at hn
  exact (Option.some.inj hn).symm
theorem mPre {H : Heap} {locs : List Loc} {av : List Value} (X : Cx p R s m args meth c D cT B mi d) (hR : Rp D cT B b h H) (U : State) (hU : U.heap = H) (hW : s.WarmedH U.vm) : mPc D cT B b av h (av.map (tr B b)).toArray U := by
  obtain ⟨hx, hb, hml, hown, hts, hK, hN, -⟩ := X
  exact ⟨rfl, by rw [hU]; exact hR, mK.moved hW.alike hK, mN.warm hW hN⟩
theorem calOk_spec {t na kd : Nat} (hk : calOk t na kd d st h = true) : d ≠ 0 ∧ na ≤ st.length ∧ ctS (st.drop na) ≤ 8 ∧ (kd = 1 ∨ rcv h (mO t) (st.take na).reverse = true) ∧ (entL (st.take na).reverse).length ≤ mL t := by
  unfold calOk at hk
  simp only [Bool.and_eq_true, decide_eq_true_eq, Bool.or_eq_true, beq_iff_eq] at hk
  obtain ⟨⟨⟨⟨h1, h2⟩, h3⟩, h4⟩, h5⟩ := hk
  exact ⟨h1, h2, h3, h4, h5⟩
theorem rcv_spec {av : List Value} {cl : Nat} (hk : rcv h cl av = true) : ∃ a As n, av = .ref a :: As ∧ h.1[a]? = some (cl, n) := by
  unfold rcv at hk
  split at hk
  · rename_i a As
    cases hq : h.1[a]? with
    | none => simp [hq] at hk
    | some y =>
      simp only [hq, beq_iff_eq] at hk
      obtain ⟨y1, y2⟩ := y
      simp only at hk
      subst hk
      exact ⟨a, As, y2, rfl, hq⟩
  · cases hk
theorem st_split {na : Nat} (hna : na ≤ st.length) : st = (st.take na).reverse.reverse ++ st.drop na := by rw [List.reverse_reverse, List.take_append_drop]
theorem call_sound {i : Instr} {v : Option Value} {h' : Hp} (X : Cx p R s m args meth c D cT B mi d) (hm : mP mi pc = some (i, len, x)) (hi : isInv i = true) (hz4 : x.2.2.2 < 4) (hok : calOk x.1 x.2.1 x.2.2.2.toNat d st h = true)
    (hM : x.1 < 186 → MetT l D cT B b x.1 (d - 1) (st.take x.2.1).reverse h v h') (hg : gr h h') (l1 : h'.1.length ≤ k0 + R.cells) (l2 : hSz h' ≤ z0 + R.slots)
    (k : SW p l e R s m args below meth c D cT B b mi Q k0 z0 (pc + 3) ls (v.toList ++ st.drop x.2.1) h') : SW p l e R s m args below meth c D cT B b mi Q k0 z0 pc ls st h := by
  intro H locs lsA cells slots hR hS hL hc hz
  have hx := X.1
  have hb := X.2.1
  have hml := X.2.2.1
  have hown := X.2.2.2.1
  have hts := X.2.2.2.2.1
  have hK := X.2.2.2.2.2.1
  have hN := X.2.2.2.2.2.2.1
  obtain ⟨t, na, row, z⟩ := x
  obtain ⟨hd0, hna, hct, hrc, hlen⟩ := calOk_spec hok
  simp only at hz4 hd0 hna hct hrc hlen hM k
  obtain ⟨g1, g2⟩ := hg
  have hCF : CallFix p m c (mB mi) (mL mi) s args lw_gd (mC (mO mi)) := ⟨hx, hb, hml, hown, hts⟩
  have hWr : 2 * (F0 m pc lsA (st.map (tr B b))).monitorRoom + (((st.drop na).map (tr B b)).map fun v => v.category).sum ≤ 8 := by
    show 2 * 0 + _ ≤ 8
    rw [ctS_tr]
    omega
  have hkk : ∀ (H1 : Heap) (locs1 : List Loc), Rp D cT B b h' H1 → va_S (fun q => B ≤ q) s.heap H1 locs1 → W p l e R s m args below meth c H1 locs1 (cells + (h'.1.length - h.1.length)) (slots + (hSz h' - hSz h)) Q (F0 m (pc + 3) lsA ((v.map (tr B b)).toList ++ (st.drop na).map (tr B b))) := by
    intro H1 locs1 hR1 hS1
    have h9 := k H1 locs1 lsA (cells + (h'.1.length - h.1.length)) (slots + (hSz h' - hSz h)) hR1 hS1 hL (by omega) (by omega)
    have e9 : (v.toList ++ st.drop na).map (tr B b) = (v.map (tr B b)).toList ++ (st.drop na).map (tr B b) := by
      rw [List.map_append]
      cases v <;> rfl
    rw [e9] at h9
    exact h9
  have hcells : cells + (h'.1.length - h.1.length) ≤ R.cells ∧ slots + (hSz h' - hSz h) ≤ R.slots := ⟨by omega, by omega⟩
  have hsp := st_split hna
  have hlen2 : (st.take na).reverse.length = na := by rw [List.length_reverse, List.length_take]; omega
  generalize hav : (st.take na).reverse = av at hsp hM hrc hlen hlen2
  have hF : ∃ idx, chkC mi idx (t, na, row, z) = true ∧ ((i = .invokevirtual idx ∧ z = 0) ∨ (i = .invokespecial idx ∧ (z = 2 ∨ z = 3)) ∨ (i = .invokestatic idx ∧ z = 1)) ∧ decode (mB mi) pc = .ok (i, 3) := by
    cases i with
    | invokevirtual idx =>
      obtain ⟨hd, h9⟩ := lenC hm (n := 3) (w := decide (z = 0)) rfl
      rw [decide_eq_true_eq] at h9
      exact ⟨idx, (mP_dec hm).2, Or.inl ⟨rfl, h9⟩, hd⟩
    | invokespecial idx =>
      obtain ⟨hd, h9⟩ := lenC hm (n := 3) (w := decide (z = 2 ∨ z = 3 ∨ (z = 4 ∧ t = 1000))) rfl
      rw [decide_eq_true_eq] at h9
      exact ⟨idx, (mP_dec hm).2, Or.inr (Or.inl ⟨rfl, by omega⟩), hd⟩
    | invokestatic idx =>
      obtain ⟨hd, h9⟩ := lenC hm (n := 3) (w := decide (z = 1 ∨ (z = 5 ∧ t = 1001) ∨ (z = 6 ∧ t = 1002) ∨ (z = 7 ∧ t = 1003) ∨ (z = 8 ∧ t = 1004))) rfl
      rw [decide_eq_true_eq] at h9
      exact ⟨idx, (mP_dec hm).2, Or.inr (Or.inr ⟨rfl, by omega⟩), hd⟩
    | _ => cases hi
  obtain ⟨idx, hF, hcase, hdd⟩ := hF
  obtain ⟨r, hr, q1, q2, q3, q4, q5⟩ := chkC_spec hF
  have hn := List.all_eq_true.mp mCT_n r (List.mem_of_getElem? hr)
  rw [Bool.or_eq_true, decide_eq_true_eq] at hn
  have hcl := List.all_eq_true.mp mCT_ok r (List.mem_of_getElem? hr)
  have hbig : ¬ 1000 ≤ r.2.2.1 := by
    intro h9
    have h10 := mP_len hm
    rcases hcase with ⟨rfl, hz9⟩ | ⟨rfl, hz9⟩ | ⟨rfl, hz9⟩
    · exact absurd (mCT_kind r (List.mem_of_getElem? hr) h9) (by omega)
    · exact absurd (mCT_kind r (List.mem_of_getElem? hr) h9) (by omega)
    · exact absurd (mCT_kind r (List.mem_of_getElem? hr) h9) (by omega)
  have hn := hn.resolve_left hbig
  rw [q3, q4] at hn
  simp only [Bool.and_eq_true, decide_eq_true_eq] at hn
  obtain ⟨⟨⟨ht, hpar⟩, hstat⟩, hkind⟩ := hn
  have hM := hM ht
  have hmS : mS t = mY t := by
    unfold mS
    rw [if_pos (by omega)]
  rcases hcase with ⟨rfl, hz9⟩ | ⟨rfl, hz9⟩ | ⟨rfl, hz9⟩
  · -- a method of an object
    have hz0 : r.2.2.2.2.1 = 0 := by omega
    rw [hz0, if_neg (by decide), decide_eq_true_eq] at hstat
    rw [hz0, if_pos rfl, decide_eq_true_eq] at hkind
    rw [hz0, if_neg (by decide)] at hpar
    obtain ⟨a, As, n, hAs, hq⟩ := rcv_spec (hrc.resolve_left (by omega))
    subst hAs
    have hlk := chkC_link hF (by omega)
    rw [hmS] at hlk
    have hpar2 : (parseMethodDescriptor (mY t).desc).map (fun d => d.parameters.length) = some As.length := by
      have hl3 : As.length + 1 = na := hlen2
      cases hpd : parseMethodDescriptor (mY t).desc with
      | none => rw [hpd] at hpar; cases hpar
      | some sg =>
        rw [hpd] at hpar
        simp only [Option.map_some, Option.some.injEq] at hpar ⊢
        omega
    have hobj := hR.obj (show mO t < 100 by rcases hR.2.2 a _ hq with h9 | h9 <;> simp only at h9 <;> first | omega | (have := (rcvO ht); omega)) hq
    obtain ⟨hci, cell, c1, c2, c3, -⟩ := hobj
    have hW := w_inst ht hstat
    rw [if_neg (by decide)] at hW
    refine mcall (va_runV (As := As.map (tr B b)) (rest := (st.drop na).map (tr B b)) (b := ad B b a) (C := mC (mO t)) hCF hM ⟨mCB (row := row) (z := z) (na := na) X hd0 ht hlk (n := As.length) hpar2, hts _ hW, hts _ (w_sel ht hstat hkind)⟩ ⟨mPc_blind, ⟨cell, by rw [ad_lt (hR.lt hq).2]; exact c1, by rw [c3]; rfl, by rw [c2]; exact (hK.1 _ _ (vwAt hci)).2.1⟩, fun U hU hW9 => mPre (locs := locs) X hR U hU hW9⟩ rfl (List.length_map _) hL.1 ?_ hWr hdd hcells) hS hkk
    show st.map (tr B b) = _
    refine (congrArg (List.map (tr B b)) hsp).trans ?_
    rw [List.map_append, List.map_reverse, List.map_cons, List.reverse_cons, List.append_assoc]
    rfl
  · -- a constructor
    have hz0 : r.2.2.2.2.1 = 2 ∨ r.2.2.2.2.1 = 3 := by omega
    rw [if_neg (by omega), decide_eq_true_eq] at hstat
    rw [if_neg (by omega), if_neg (by omega)] at hkind
    rw [if_neg (by omega)] at hpar
    simp only [Bool.and_eq_true, decide_eq_true_eq] at hkind
    obtain ⟨a, As, n, hAs, hq⟩ := rcv_spec (hrc.resolve_left (by omega))
    subst hAs
    have hpar2 : (parseMethodDescriptor (mY t).desc).map (fun d => d.parameters.length) = some As.length := by
      have hl3 : As.length + 1 = na := hlen2
      cases hpd : parseMethodDescriptor (mY t).desc with
      | none => rw [hpd] at hpar; cases hpar
      | some sg =>
        rw [hpd] at hpar
        simp only [Option.map_some, Option.some.injEq] at hpar ⊢
        omega
    have hW := w_inst ht hstat
    rw [if_neg (by decide)] at hW
    have hret : mR t = none := hkind.1.2
    have hst : st.map (tr B b) = (As.map (tr B b)).reverse ++ .ref (ad B b a) :: (st.drop na).map (tr B b) := by
      refine (congrArg (List.map (tr B b)) hsp).trans ?_
      rw [List.map_append, List.map_reverse, List.map_cons, List.reverse_cons, List.append_assoc]
      rfl
    by_cases hz2 : z = 2
    · have hlk := chkC_link hF (by omega)
      rw [hmS] at hlk
      have hCB := mCB (row := row) (z := z) (na := na) X hd0 (k9 := h'.1.length - h.1.length) (z9 := hSz h' - hSz h) ht hlk (n := As.length) hpar2
      rw [hret] at hCB
      exact mcall (va_runI (As := As.map (tr B b)) (rest := (st.drop na).map (tr B b)) (b := ad B b a) hCF hM ⟨hCB, hkind.1.1, hts _ hW⟩ ⟨mPc_blind, fun U hU hW9 => mPre (locs := locs) X hR U hU hW9⟩ rfl (List.length_map _) hL.1 hst hWr hdd hcells) hS hkk
    · have hz3 : r.2.2.2.2.1 = 3 := by omega
      rw [if_pos hz3, decide_eq_true_eq, q1, q2, q3, hmS] at hcl
      have hnl := hN _ (onm hcl rfl)
      have hCN : va_CN R s args (mC (mO mi)) idx (mY t) RX6 (mB t) (mL t) none (mW t) (mRm (d - 1) (h'.1.length - h.1.length) (hSz h' - hSz h)) (h'.1.length - h.1.length) (hSz h' - hSz h) As.length := by
        obtain ⟨i1, i2, i3, i4, i5, i6⟩ := w_ini ht
        have hfr := X.2.2.2.2.2.2.2.1
        have hlo := X.2.2.2.2.2.2.2.2.1
        have h11 := va_cnB (R := R) (own := mC (mO mi)) (host := RX6) (index := idx) (y := mY t) (bytes := mB t) (maxL := mL t) (ret := mR t) (rm := mRm (d - 1) (h'.1.length - h.1.length) (hSz h' - hSz h)) As.length hts (mW_good t ht) rfl rfl rfl hnl (hts _ i1) ⟨i5, i6, hpar2⟩ ⟨by show d - 1 + 1 ≤ _; omega, by show 8 + (mL t + 11) + 36 * (d - 1) ≤ _; omega⟩
        rw [hret] at h11
        exact h11
      exact mcall (va_runIN (As := As.map (tr B b)) (rest := (st.drop na).map (tr B b)) (b := ad B b a) hCF hM ⟨hCN, hkind.1.1, hts _ hW⟩ ⟨mPc_blind, fun U hU hW9 => mPre (locs := locs) X hR U hU hW9⟩ rfl (List.length_map _) hL.1 hst hWr hdd hcells) hS hkk
  · -- a static method
    have hz0 : r.2.2.2.2.1 = 1 := by omega
    rw [hz0, if_pos rfl, decide_eq_true_eq] at hstat
    rw [hz0, if_pos rfl] at hpar
    have hlk := chkC_link hF (by omega)
    rw [hmS] at hlk
    have hpar2 : (parseMethodDescriptor (mY t).desc).map (fun d => d.parameters.length) = some av.length := by
      cases hpd : parseMethodDescriptor (mY t).desc with
      | none => rw [hpd] at hpar; cases hpar
      | some sg =>
        rw [hpd] at hpar
        simp only [Option.map_some, Option.some.injEq] at hpar ⊢
        omega
    have hW := w_inst ht hstat
    rw [if_pos rfl] at hW
    refine mcall (va_runS (As := av.map (tr B b)) (rest := (st.drop na).map (tr B b)) hCF hM ⟨mCB (row := row) (z := z) (na := na) X hd0 ht hlk (n := av.length) hpar2, hts _ hW⟩ ⟨mPc_blind, fun U hU hW9 => mPre (locs := locs) X hR U hU hW9⟩ rfl (List.length_map _) hL.1 ?_ hWr hdd hcells) hS hkk
    show st.map (tr B b) = _
    refine (congrArg (List.map (tr B b)) hsp).trans ?_
    rw [List.map_append, List.map_reverse]
end CS
end
section
/-! a run of the pure machine is a run of the machine: by induction on its length -/
theorem metOf {l : Launch} {D : va_G} {cT : Nat → ClassId} {B b t d : Nat} {av : List Value} {h h' : Hp} {v : Option Value} (ht : t < 186) (hlen : (entL av).length ≤ mL t) (hg : gr h h')
    (IH : ∀ (p : Program) (e : Env) (R : Room) (s : State) (m : MethodId) (args : Array Value) (below : List Frame) (meth : Method) (c : Code) (Q : State → Prop) (k0 z0 : Nat), Cx p R s m args meth c D cT B t d → h'.1.length ≤ k0 + R.cells → hSz h' ≤ z0 + R.slots →
      (∀ (pc' : Nat) (ls' : Ls) (st' : List Value) (en : En), mP t pc' = some en → rt t en.1 st' = some v → SW p l e R s m args below meth c D cT B b t Q k0 z0 pc' ls' st' h') → SW p l e R s m args below meth c D cT B b t Q k0 z0 0 (ent t av) [] h) : MetT l D cT B b t d av h v h' := by
  obtain ⟨i1, i2, i3, i4, i5, i6⟩ := w_ini ht
  refine Met.ofW (cc := mB t) (maxL := mL t) (ret := mR t) i4 rfl ?_
  intro p e s m args below meth c s₁ BB hml hP
  obtain ⟨rfl, hR, hK, hN⟩ := hP
  have hx := BB.exec
  have hb := BB.bytes
  have hr := BB.returns
  have hlocks := BB.notSynchronized
  have hts := atoms_spec (ws := mW t) BB.pre
  have hown : s.vm.findClass (mY t).cls = some m.cls := findClass_of_methodNamed BB.named
  rw [i2] at hown
  have hin : meth.name = (mY t).name := (name_of_methodNamed BB.named BB.method).1
  have X : Cx p (headSpec (mW t) (mRm d (h'.1.length - h.1.length) (hSz h' - hSz h))).room s m ((av.map (tr B b)).toArray) meth c D cT B t d := ⟨hx, hb, hml, hown, fun w hw => hts w (List.mem_cons_of_mem _ hw), hK, hN, Nat.le_refl _, Nat.le_refl _, fun _ => hin, by rw [hR.1]; exact Nat.le_add_right _ _⟩
  obtain ⟨g1, g2⟩ := hg
  rw [lg_entry_eq]
  have hSW := IH p e _ s m _ below meth c (MQ below (mQc D cT B b v h') ((av.map (tr B b)).toArray) s (h'.1.length - h.1.length) (hSz h' - hSz h) (fun q => B ≤ q)) h.1.length (hSz h) X (by show _ ≤ _ + (h'.1.length - h.1.length); omega) (by show _ ≤ _ + (hSz h' - hSz h); omega) (fun pc' ls' st' en hen hrt => ?_)
  · exact hSW s.heap [] _ 0 0 hR va_S.rf (LV.entry hlen) (Nat.zero_add _) (Nat.zero_add _)
  · intro H locs lsA cells slots hR1 hS1 hL hc hz
    have ec : cells = h'.1.length - h.1.length := by omega
    have es : slots = hSz h' - hSz h := by omega
    subst ec
    subst es
    obtain ⟨i, len, x⟩ := en
    cases i with
    | ireturn =>
      have hd := lenD hen (n := 1) rfl
      replace hrt : (match (generalizing := false) st' with
        | [.int v] => (match mR t with
          | some .int => some (some (.int v))
          | some .boolean => if v &&& 1 = v then some (some (.int v)) else none
          | _ => none)
        | _ => none) = some v := hrt
      split at hrt
      · rename_i v0
        split at hrt
        · rename_i hret
          cases hrt
          exact W.iret hx hb (hr.trans hret) (fun t ht hW => ⟨rfl, by rw [ht]; exact hR1, hS1.F ht⟩) hS1.2.2 hd
        · rename_i hret
          split at hrt
          · rename_i h1
            cases hrt
            exact W.zret hx hb (hr.trans hret) (by show Value.int (v0 &&& 1) = _; rw [h1]) (fun t ht hW => ⟨rfl, by rw [ht]; exact hR1, hS1.F ht⟩) hS1.2.2 hd
          · cases hrt
        · cases hrt
      · cases hrt
    | lreturn =>
      have hd := lenD hen (n := 1) rfl
      replace hrt : (match (generalizing := false) st' with
        | [.long v] => (match mR t with
          | some .long => some (some (.long v))
          | _ => none)
        | _ => none) = some v := hrt
      split at hrt
      · rename_i v0
        split at hrt
        · rename_i hret
          cases hrt
          exact W.lret hx hb (hr.trans hret) (fun t ht hW => ⟨rfl, by rw [ht]; exact hR1, hS1.F ht⟩) hS1.2.2 hd
        · cases hrt
      · cases hrt
    | areturn =>
      have hd := lenD hen (n := 1) rfl
      replace hrt : (match (generalizing := false) st' with
        | [.ref v] => (match mR t with
          | some (.object _) => some (some (.ref v))
          | _ => none)
        | _ => none) = some v := hrt
      split at hrt
      · rename_i v0
        split at hrt
        · rename_i C hret
          cases hrt
          exact W.aret hx hb (hr.trans hret) (Or.inl ⟨C, rfl⟩) (Or.inr ⟨_, rfl⟩) (fun t ht hW => ⟨rfl, by rw [ht]; exact hR1, hS1.F ht⟩) hS1.2.2 hd
        · cases hrt
      · cases hrt
    | return_ =>
      have hd := lenD hen (n := 1) rfl
      replace hrt : (match (generalizing := false) st' with
        | [] => (match mR t with
          | none => some none
          | _ => none)
        | _ => none) = some v := hrt
      split at hrt
      · split at hrt
        · rename_i hret
          cases hrt
          exact W.vret hx hb (hr.trans hret) (fun t ht hW => ⟨rfl, by rw [ht]; exact hR1, hS1.F ht⟩) hS1.2.2 hd
        · cases hrt
      · cases hrt
    | _ => cases hrt
set_option maxHeartbeats 1000000 in
theorem run_sound {l : Launch} {D : va_G} {cT : Nat → ClassId} {B b : Nat} : ∀ (n d : Nat) (scr : Scr) (mi pc : Nat) (ls : Ls) (st : List Value) (h : Hp) (v : Option Value) (h' : Hp), run n d scr mi pc ls st h = some (v, h') →
    ∀ (p : Program) (e : Env) (R : Room) (s : State) (m : MethodId) (args : Array Value) (below : List Frame) (meth : Method) (c : Code) (Q : State → Prop) (k0 z0 : Nat), Cx p R s m args meth c D cT B mi d → scOk scr b B s → h'.1.length ≤ k0 + R.cells → hSz h' ≤ z0 + R.slots →
      (∀ (pc' : Nat) (ls' : Ls) (st' : List Value) (en : En), mP mi pc' = some en → rt mi en.1 st' = some v → SW p l e R s m args below meth c D cT B b mi Q k0 z0 pc' ls' st' h') → SW p l e R s m args below meth c D cT B b mi Q k0 z0 pc ls st h
  | 0, d, scr, mi, pc, ls, st, h, v, h', hr => by cases hr
  | n + 1, d, scr, mi, pc, ls, st, h, v, h', hr => by
    intro p e R s m args below meth c Q k0 z0 X hsc l1 l2 fin
    unfold run at hr
    split at hr
    · cases hr
    · rename_i en hen
      split at hr
      · rename_i v9 hv9
        cases hr
        exact fin pc ls st en hen hv9
      · split at hr
        · rename_i hinv
          obtain ⟨i, len, x⟩ := en
          split at hr
          · rename_i h4
            split at hr
            · rename_i hok
              split at hr
              · rename_i q9 hq9
                obtain ⟨v1, h1⟩ := q9
                have hg1 := run_gr _ _ _ _ _ _ _ _ _ hq9
                have hg2 := run_gr _ _ _ _ _ _ _ _ _ hr
                have k2 := run_sound n d scr mi (pc + 3) ls _ h1 v h' hr p e R s m args below meth c Q k0 z0 X hsc l1 l2 fin
                refine call_sound X hen hinv h4 hok (fun ht => ?_) hg1 (Nat.le_trans hg2.1 l1) (Nat.le_trans hg2.2 l2) k2
                refine metOf ht (calOk_spec hok).2.2.2.2 hg1 ?_
                intro p e R s m args below meth c Q k0 z0 X9 m1 m2 fin9
                exact run_sound n (d - 1) none x.1 0 _ [] h v1 h1 hq9 p e R s m args below meth c Q k0 z0 X9 trivial m1 m2 fin9
              · cases hr
            · cases hr
          · rename_i h4
            split at hr
            · rename_i q hq
              have hg2 := run_gr _ _ _ _ _ _ _ _ _ hr
              have hgq := g_inr hq
              have e1 : h.1.length ≤ k0 + R.cells := by
                have := hg2.1
                rw [hgq] at this
                exact Nat.le_trans this l1
              have e2 : hSz h ≤ z0 + R.slots := by
                have := hg2.2
                unfold hSz at this
                rw [hgq] at this
                exact Nat.le_trans this l2
              exact inr_sound X hen hinv h4 hq e1 e2 (run_sound n d scr mi _ _ _ _ v h' hr p e R s m args below meth c Q k0 z0 X hsc l1 l2 fin)
            · cases hr
        · split at hr
          · rename_i q hq
            have hg2 := run_gr _ _ _ _ _ _ _ _ _ hr
            obtain ⟨i, len, x⟩ := en
            exact stp_sound X hsc hen hq (Nat.le_trans hg2.1 l1) (Nat.le_trans hg2.2 l2) (run_sound n d scr mi _ _ _ _ v h' hr p e R s m args below meth c Q k0 z0 X hsc l1 l2 fin)
          · cases hr
end
section
/-! THE CLAIM OUT OF ONE WALK OF THE LAW'S BODY. Your part is whole_start (and what it stands on); all else here is the same for every law, but numbers. -/
def lw_P (b : Addr) (xs : List Int32) (args : Array Value) (s : State) : Prop := args = #[.ref b] ∧ s.IntsAt b xs ∧ xs.length ≤ 3072 ∧ (Jvm.Cond.and given_1 narrow_1).before args s = true
def lw_Q (_ : Array Value) (s : State) (o : Outcome) (t : State) : Prop := o = .returned (some (.int 1)) ∧ Framed s o t [] 600000 7302250
def lw_Z (below : List Frame) (a : Array Value) (s : State) : State → Prop := fun t => ∃ o, t.status = .running ∧ Ended t below o ∧ lw_Q a s o t
/-- the law's own end, with 1 on the stack, nothing written that was there before, its room as the claim has it -/
theorem lw_ret {p : Program} {l : Launch} {e : Env} {s : State} {m : MethodId} {below : List Frame} {meth : Method} {c : Code} {b : Nat} (hx : p.tables.exec = Jvm.exec) (hb : c.code = code) (hr : meth.sig.returnType = ret) (hlocks : meth.locks = false) {pc : Nat} {H : Heap} {ls : Array Slot} (hdg : decode code pc = .ok (.ireturn, 1)) : W p l e room_1 s m #[Value.ref b] below meth c H [] 600000 7302250 (lw_Z below #[Value.ref b] s) (F0 m pc ls [.int 1]) := by
  intro T hT X
  obtain ⟨fs, hret, hrun, hended, hW, hframe⟩ := X.leave (v := some (.int 1)) (hlocks := hlocks) (fun h => by rw [hr] at h; cases h)
  have hmeth' : T.vm.method? m = some meth := X.method'
  refine ⟨T.setFrames fs, ?_, .returned (some (.int 1)), hrun, hended, rfl, ⟨_, rfl⟩, hW, hframe⟩
  jvm_step X.here [X.here.top, hx, hb, hdg, hmeth', hr, ret, narrow_b1]
  (try refine ⟨rfl, ?_⟩); (try refine ⟨rfl, ?_⟩)
  first | (intro acts; rw [hret _ acts rfl rfl rfl]) | rw [hret _ _ rfl rfl rfl]
  exact Steps.refl _
/-- what holds at the law's entry: the machine, the code, the tables' words (any of lw_tbl by 'hts w (by decide +kernel)'), the script of L ints xs at the cell b, what the Statement gives of the start (any of its parts by flat_of_before) -/
def lw_At (p : Program) (s : State) (m : MethodId) (meth : Method) (c : Code) (b L : Nat) (xs : Nat → Int32) : Prop :=
  p.tables.exec = Jvm.exec ∧ c.code = code ∧ meth.sig.returnType = ret ∧ c.maxLocals = 4 ∧ s.vm.findClass R_law = some m.cls ∧ (∀ w ∈ lw_tbl, w.before #[Value.ref b] s = true) ∧ va_X b L xs s s.heap ∧ b < s.heap.size ∧ meth.locks = false ∧ (Jvm.Cond.and given_1 narrow_1).before #[Value.ref b] s = true
def h0 : Hp := ([], fun _ _ => 0, fun _ _ => 0, fun _ _ => none)
/-- what is left to show: a fact of the pure machine alone -/
def LawRuns (L : Nat) (xs : Nat → Int32) : Prop := ∃ (n : Nat) (h' : Hp), run n 9 (some (L, xs)) 186 0 [some (.ref 1000), none, none, none] [] h0 = some (some (.int 1), h') ∧ h'.1.length ≤ 600000 ∧ hSz h' ≤ 7302250
theorem mINS_ok : decide (lw_tbl[153 + 0]? = some (.classLink (mC 6) 43 (mC 0))) = true := by decide +kernel
theorem mI_ok : mNT.all (fun r => decide (lw_tbl[r.2.2.2.2.2.1]? = some (.instantiable (mC r.2.2.1) (mNN r.2.2.1)))) = true := by decide +kernel
theorem mI_all : (List.range 8).all (fun ci => mNT.any (fun r => r.2.2.1 == ci)) = true := by decide +kernel
theorem mInst {ci : Nat} (hci : ci < 8) : Cond.instantiable (mC ci) (mNN ci) ∈ lw_gd := by
  have h1 := List.all_eq_true.mp mI_all ci (List.mem_range.mpr hci)
  obtain ⟨r, hr, h2⟩ := List.any_eq_true.mp h1
  rw [beq_iff_eq] at h2
  have h3 := List.all_eq_true.mp mI_ok r hr
  rw [decide_eq_true_eq, h2] at h3
  exact gdm h3 rfl
theorem mKnown {s : State} {args : Array Value} (hts : ∀ w ∈ lw_gd, w.before args s = true) : ∃ D : va_G, ∀ ci, ci < 8 → u_Kn s (mC ci) (mT ci) (mNN ci) (D.1 ci) (D.2 ci) := by
  have h : ∀ ci, ∃ (cC : ClassId) (iS : Nat → Nat), ci < 8 → u_Kn s (mC ci) (mT ci) (mNN ci) cC iS := by
    intro ci
    by_cases hci : ci < 8
    · obtain ⟨cC, iS, hk⟩ := u_known (C := mC ci) (T := mT ci) (N := mNN ci) (n := mNN ci) hts (mLay hci) (hts _ (mInst hci))
      exact ⟨cC, iS, fun _ => hk⟩
    · exact ⟨0, fun _ => 0, fun h => absurd h hci⟩
  exact ⟨(fun ci => Classical.choose (h ci), fun ci => Classical.choose (Classical.choose_spec (h ci))), fun ci hci => Classical.choose_spec (Classical.choose_spec (h ci)) hci⟩
theorem mArrs {s : State} {args : Array Value} (hts : ∀ w ∈ lw_gd, w.before args s = true) (hN : mN s) : ∃ cT : Nat → ClassId, ∀ (t : Nat) (ty : FieldType), mTY[t]? = some ty → ArrOfT s (cT t) ty ∧ va_RA s (cT t) ty := by
  have hmo := mAO_ok
  simp only [Bool.and_eq_true, decide_eq_true_eq] at hmo
  have prim : ∀ (t : Nat) (ty : FieldType), t < 4 → mTY[t]? = some ty → ∃ c : ClassId, ArrOfT s c ty ∧ va_RA s c ty := by
    intro t ty ht hty
    obtain ⟨c, k, comp, h1, h2, h3⟩ := Cond.arrayClass_spec (hts _ (mAC ht hty))
    refine ⟨c, fun n z => ⟨fun k h => (by cases h), k, h2, comp, h3⟩, ?_⟩
    rcases (show t = 0 ∨ t = 1 ∨ t = 2 ∨ t = 3 by omega) with rfl | rfl | rfl | rfl <;> cases hty <;> exact h1
  have obj : ∀ C : String, Cond.arrayOver (.object C) ∈ lw_on → ∃ c : ClassId, ArrOfT s c (.object C) ∧ va_RA s c (.object C) := by
    intro C hC
    obtain ⟨comp, c, k, h1, h2, h3, h4, h5⟩ := Cond.arrayOver_spec (hN _ hC)
    exact ⟨c, fun n z => ⟨fun k h => (by cases h), k, h3, comp, h4⟩, k, comp, h3, h4, h1, h5⟩
  have arr : ∃ c : ClassId, ArrOfT s c (.array .int) ∧ va_RA s c (.array .int) := by
    obtain ⟨comp, c, k, h1, h2, h3, h4⟩ := Cond.arrayOver_specA (hN _ (onm hmo.2 rfl))
    exact ⟨c, fun n z => ⟨fun k h => (by cases h), k, h2, comp, h3⟩, h4⟩
  have h : ∀ t : Nat, ∃ c : ClassId, ∀ ty : FieldType, mTY[t]? = some ty → ArrOfT s c ty ∧ va_RA s c ty := by
    intro t
    by_cases h7 : t < 7
    · by_cases h4 : t < 4
      · obtain ⟨ty, hty⟩ : ∃ ty, mTY[t]? = some ty := by
          rcases (show t = 0 ∨ t = 1 ∨ t = 2 ∨ t = 3 by omega) with rfl | rfl | rfl | rfl <;> exact ⟨_, rfl⟩
        obtain ⟨c, hc⟩ := prim t ty h4 hty
        exact ⟨c, fun ty' h' => by rw [hty] at h'; cases h'; exact hc⟩
      · rcases (show t = 4 ∨ t = 5 ∨ t = 6 by omega) with rfl | rfl | rfl
        · obtain ⟨c, hc⟩ := obj RX4 (onm hmo.1.1 rfl)
          exact ⟨c, fun ty' h' => by cases h'; exact hc⟩
        · obtain ⟨c, hc⟩ := obj RX0 (onm hmo.1.2 rfl)
          exact ⟨c, fun ty' h' => by cases h'; exact hc⟩
        · obtain ⟨c, hc⟩ := arr
          exact ⟨c, fun ty' h' => by cases h'; exact hc⟩
    · exact ⟨0, fun ty h' => by rw [List.getElem?_eq_none (by show 7 ≤ t; omega)] at h'; cases h'⟩
  exact ⟨fun t => Classical.choose (h t), fun t ty hty => Classical.choose_spec (h t) ty hty⟩
set_option maxHeartbeats 1000000 in
theorem law_start {p : Program} {e : Env} {s : State} {m : MethodId} {below : List Frame} {meth : Method} {c : Code} (l : Launch) {b L : Nat} {xs : Nat → Int32} (hrun : LawRuns L xs) (C0 : lw_At p s m meth c b L xs) : W p l e room_1 s m #[Value.ref b] below meth c s.heap [] 0 0 (lw_Z below #[Value.ref b] s) (entryFrame m ([Value.ref b] : List Value).toArray 4) := by
  obtain ⟨hx, hb, hr, hml, hown, hts, hX, hbl, hlocks, hgv⟩ := C0
  obtain ⟨n, h', hn, hl1, hl2⟩ := hrun
  have htg : ∀ w ∈ lw_gd, w.before #[Value.ref b] s = true := fun w hw => hts w (List.mem_filter.mp hw).1
  have hN : mN s := by
    intro w hw
    have h1 := hts w (List.mem_filter.mp hw).1
    have h2 : isON w = true := (List.mem_filter.mp hw).2
    match w, h2, h1 with
    | .arrayOver ty, _, h1 => exact h1
    | .methodLinkNest a i x hh, _, h1 => exact va_Nw.of rfl h1
  obtain ⟨D, hD⟩ := mKnown htg
  obtain ⟨cT, hcT⟩ := mArrs htg hN
  have hK : mK D cT s := by
    refine ⟨fun ci q hq => ?_, hcT⟩
    have hci : ci < 8 := (List.getElem?_eq_some_iff.mp hq).1
    rw [vwAt hci] at hq
    cases hq
    exact hD ci hci
  have X : Cx p room_1 s m #[Value.ref b] meth c D cT s.heap.size 186 9 := ⟨hx, hb, hml, hown, htg, hK, hN, Nat.le_refl _, by decide, fun h => absurd h (by decide), Nat.le_refl _⟩
  have hR : Rp D cT s.heap.size b h0 s.heap := ⟨rfl, Nat.zero_le _, fun a q hq => by cases hq⟩
  have hsc : scOk (some (L, xs)) b s.heap.size s := ⟨hX, hbl, hbl⟩
  have hl := lv_entry ([.ref b]) (n := 4) (Nat.le_of_ble_eq_true rfl)
  have hLV : LV s.heap.size b [some (.ref 1000), none, none, none] ((lg_sl ([.ref b]) ++ List.replicate (4 - (lg_sl ([.ref b])).length) Slot.unset).toArray) (mL 186) := by
    have h9 := LV.entry (B := s.heap.size) (b := b) (n := 4) (vs := [.ref 1000]) (by decide)
    exact h9
  rw [lg_entry_eq]
  have hfin : ∀ (pc' : Nat) (ls' : Ls) (st' : List Value) (en : En), mP 186 pc' = some en → rt 186 en.1 st' = some (some (Value.int 1)) → SW p l e room_1 s m #[Value.ref b] below meth c D cT s.heap.size b 186 (lw_Z below #[Value.ref b] s) 0 0 pc' ls' st' h' := by
    intro pc' ls' st' en hen hrt H locs lsA cells slots hR1 hS1 hL hc hz
    obtain ⟨i, len, x⟩ := en
    cases i with
    | ireturn =>
      have hd := lenD hen (n := 1) rfl
      replace hrt : (match (generalizing := false) st' with
        | [Value.int v] => (match mR 186 with
          | some .int => some (some (Value.int v))
          | some .boolean => if v &&& 1 = v then some (some (Value.int v)) else none
          | _ => none)
        | _ => none) = some (some (Value.int 1)) := hrt
      split at hrt
      · rename_i v0
        have e9 : v0 = 1 := by
          have h9 : mR 186 = some .boolean := rfl
          rw [h9] at hrt
          simp only at hrt
          split at hrt
          · cases hrt
            rfl
          · cases hrt
        subst e9
        refine va_forget (fun q hq => hS1.2.2 q hq) ?_
        refine W.widen (k := 600000) (n := 7302250) (by omega) (by omega) ?_
        exact lw_ret hx hb hr hlocks hd
      · cases hrt
    | lreturn =>
      replace hrt : (match (generalizing := false) st' with
        | [Value.long v] => (match mR 186 with
          | some .long => some (some (Value.long v))
          | _ => none)
        | _ => none) = some (some (Value.int 1)) := hrt
      split at hrt
      · split at hrt <;> cases hrt
      · cases hrt
    | areturn =>
      replace hrt : (match (generalizing := false) st' with
        | [Value.ref v] => (match mR 186 with
          | some (.object _) => some (some (Value.ref v))
          | _ => none)
        | _ => none) = some (some (Value.int 1)) := hrt
      split at hrt
      · split at hrt <;> cases hrt
      · cases hrt
    | return_ =>
      replace hrt : (match (generalizing := false) st' with
        | [] => (match mR 186 with
          | none => some none
          | _ => none)
        | _ => none) = some (some (Value.int 1)) := hrt
      split at hrt
      · split at hrt <;> cases hrt
      · cases hrt
    | _ => cases hrt
  have hSW := run_sound n 9 (some (L, xs)) 186 0 _ [] h0 _ h' hn p e room_1 s m #[Value.ref b] below meth c (lw_Z below #[Value.ref b] s) 0 0 X hsc (by show _ ≤ 0 + 600000; omega) (by show _ ≤ 0 + 7302250; omega) hfin
  exact hSW s.heap [] _ 0 0 hR va_S.rf hLV rfl rfl
end
section
/-! the memory after the two constructors, and what a run of the pure machine comes to -/
abbrev Mm : Type := (Nat → Nat → Int32) × (Nat → Nat → Int64)
def SHc : List (Nat × Nat) := [(6, 8), (3, 2), (101, 64), (1, 4), (5, 2), (100, 46), (5, 2), (100, 46), (104, 4), (2, 5), (100, 48), (100, 7), (0, 8), (106, 6), (100, 7), (100, 7), (100, 7), (100, 7), (100, 7), (100, 7), (100, 6), (100, 6), (100, 8), (100, 8), (105, 2), (102, 2), (4, 11), (106, 6), (100, 4), (100, 4), (100, 4), (100, 4), (100, 4), (100, 4), (100, 6), (100, 6), (100, 6), (4, 11), (106, 6), (100, 4), (100, 4), (100, 4), (100, 4), (100, 4), (100, 4), (100, 6), (100, 6), (100, 6), (4, 11), (106, 6), (100, 4), (100, 4), (100, 4), (100, 4), (100, 4), (100, 4), (100, 6), (100, 6), (100, 6), (4, 11), (106, 6), (100, 4), (100, 4), (100, 4), (100, 4), (100, 4), (100, 4), (100, 6), (100, 6), (100, 6), (0, 8), (106, 6), (100, 7), (100, 7), (100, 7), (100, 7), (100, 7), (100, 7), (100, 6), (100, 6), (100, 8), (100, 8), (0, 8), (106, 6), (100, 7), (100, 7), (100, 7), (100, 7), (100, 7), (100, 7), (100, 6), (100, 6), (100, 8), (100, 8), (7, 35), (100, 46), (100, 46), (100, 64), (102, 46), (100, 16), (100, 24), (100, 4), (100, 18), (100, 42), (100, 48), (100, 7), (103, 4), (103, 4), (103, 4), (100, 16), (100, 16), (100, 8), (100, 8), (102, 2), (100, 6), (100, 84), (100, 32), (100, 32), (100, 16), (100, 16)]
def ZL : List (List (Option Nat)) := [[some 1, some 3, some 6, some 8, some 9, some 12, some 24, some 25], [some 2], [], [some 4], [some 5], [], [some 7], [], [some 26, some 37, some 48, some 59], [some 10, none, some 11], [], [], [none, some 13, none, some 20, some 21, none, some 22, some 23], [some 14, some 15, some 16, some 17, some 18, some 19], [], [], [], [], [], [], [], [], [], [], [some 70, some 82], [], [none, none, none, none, some 27, some 34, some 35, some 36], [some 28, some 29, some 30, some 31, some 32, some 33], [], [], [], [], [], [], [], [], [], [none, none, none, none, some 38, some 45, some 46, some 47], [some 39, some 40, some 41, some 42, some 43, some 44], [], [], [], [], [], [], [], [], [], [none, none, none, none, some 49, some 56, some 57, some 58], [some 50, some 51, some 52, some 53, some 54, some 55], [], [], [], [], [], [], [], [], [], [none, none, none, none, some 60, some 67, some 68, some 69], [some 61, some 62, some 63, some 64, some 65, some 66], [], [], [], [], [], [], [], [], [], [none, some 71, none, some 78, some 79, none, some 80, some 81], [some 72, some 73, some 74, some 75, some 76, some 77], [], [], [], [], [], [], [], [], [], [], [none, some 83, none, some 90, some 91, none, some 92, some 93], [some 84, some 85, some 86, some 87, some 88, some 89], [], [], [], [], [], [], [], [], [], [], [some 95, some 96, some 97, none, none, none, none, some 98, some 99, some 100, some 101, none, some 102, none, some 103, none, some 104, some 105, some 106, some 107, some 108, none, none, some 109, some 110, none, some 111, some 112, some 113, some 114, some 115, some 116, some 117, some 118, some 119], [], [], [], [], [], [], [], [], [], [], [], [], [], [], [], [], [], [], [], [], [], [], [], [], []]
def ZT (a k : Nat) : Option Nat := ((ZL[a]?).bind (fun l => l[k]?)).join
/-- the references: all but two stay as the constructors set them -/
def ZC (o r : Nat) : Nat → Nat → Option Nat := fun a k => if a = 0 ∧ k = 2 then some o else if a = 3 ∧ k = 0 then some r else ZT a k
def Hm (o r : Nat) (m : Mm) : Hp := (SHc, m.1, m.2, ZC o r)
def mX (m : Mm) (a k : Nat) (v : Int32) : Mm := (va_up m.1 a (va_up (m.1 a) k v), m.2)
def mJ (m : Mm) (a k : Nat) (v : Int64) : Mm := (m.1, va_up m.2 a (va_up (m.2 a) k v))
def mRw (m : Mm) (a : Nat) (g : Nat → Int32) : Mm := (va_up m.1 a g, m.2)
abbrev inb (i : Int32) (n : Nat) : Prop := ¬ (i < 0 ∨ n ≤ i.toNatClampNeg)
/-- the four ways, the two woods, the three finds -/
def isY (a : Nat) : Prop := a = 26 ∨ a = 37 ∨ a = 48 ∨ a = 59
def isW (a : Nat) : Prop := a = 4 ∨ a = 6
def isF (a : Nat) : Prop := a = 12 ∨ a = 70 ∨ a = 82
theorem isF_12 : isF 12 := Or.inl rfl
theorem inb_lt {i : Int32} {n : Nat} (h : inb i n) : i.toNatClampNeg < n := Nat.not_le.mp fun q => h (Or.inr q)
theorem isY_of {i : Int32} (h : inb i 4) : isY (26 + 11 * i.toNatClampNeg) := by
  have := inb_lt h
  unfold isY
  omega
theorem isF_of {i : Int32} (h : inb i 2) : isF (70 + 12 * i.toNatClampNeg) := by
  have := inb_lt h
  unfold isF
  omega
theorem cs_Y {P : Nat → Prop} (h1 : P 26) (h2 : P 37) (h3 : P 48) (h4 : P 59) {a : Nat} (h : isY a) : P a := by
  rcases h with rfl | rfl | rfl | rfl <;> assumption
theorem cs_W {P : Nat → Prop} (h1 : P 4) (h2 : P 6) {a : Nat} (h : isW a) : P a := by
  rcases h with rfl | rfl <;> assumption
theorem cs_F {P : Nat → Prop} (h1 : P 12) (h2 : P 70) (h3 : P 82) {a : Nat} (h : isF a) : P a := by
  rcases h with rfl | rfl | rfl <;> assumption
theorem sh_Y {a : Nat} (h : isY a) : SHc[a]? = some (4, 11) := cs_Y (P := fun a => SHc[a]? = some (4, 11)) rfl rfl rfl rfl h
theorem sh_W {a : Nat} (h : isW a) : SHc[a]? = some (5, 2) := cs_W (P := fun a => SHc[a]? = some (5, 2)) rfl rfl h
theorem sh_F {a : Nat} (h : isF a) : SHc[a]? = some (0, 8) := cs_F (P := fun a => SHc[a]? = some (0, 8)) rfl rfl rfl h
theorem sh_Y1 {a : Nat} (h : isY a) : SHc[a + 1]? = some (106, 6) := cs_Y (P := fun a => SHc[a + 1]? = some (106, 6)) rfl rfl rfl rfl h
theorem sh_Y8 {a : Nat} (h : isY a) : SHc[a + 8]? = some (100, 6) := cs_Y (P := fun a => SHc[a + 8]? = some (100, 6)) rfl rfl rfl rfl h
theorem sh_Y9 {a : Nat} (h : isY a) : SHc[a + 9]? = some (100, 6) := cs_Y (P := fun a => SHc[a + 9]? = some (100, 6)) rfl rfl rfl rfl h
theorem sh_Y10 {a : Nat} (h : isY a) : SHc[a + 10]? = some (100, 6) := cs_Y (P := fun a => SHc[a + 10]? = some (100, 6)) rfl rfl rfl rfl h
theorem sh_W1 {a : Nat} (h : isW a) : SHc[a + 1]? = some (100, 46) := cs_W (P := fun a => SHc[a + 1]? = some (100, 46)) rfl rfl h
theorem sh_F1 {a : Nat} (h : isF a) : SHc[a + 1]? = some (106, 6) := cs_F (P := fun a => SHc[a + 1]? = some (106, 6)) rfl rfl rfl h
theorem sh_F8 {a : Nat} (h : isF a) : SHc[a + 8]? = some (100, 6) := cs_F (P := fun a => SHc[a + 8]? = some (100, 6)) rfl rfl rfl h
theorem sh_F9 {a : Nat} (h : isF a) : SHc[a + 9]? = some (100, 6) := cs_F (P := fun a => SHc[a + 9]? = some (100, 6)) rfl rfl rfl h
theorem sh_F10 {a : Nat} (h : isF a) : SHc[a + 10]? = some (100, 8) := cs_F (P := fun a => SHc[a + 10]? = some (100, 8)) rfl rfl rfl h
theorem sh_F11 {a : Nat} (h : isF a) : SHc[a + 11]? = some (100, 8) := cs_F (P := fun a => SHc[a + 11]? = some (100, 8)) rfl rfl rfl h
theorem lt6' {P : Nat → Prop} (h0 : P 0) (h1 : P 1) (h2 : P 2) (h3 : P 3) (h4 : P 4) (h5 : P 5) {i : Nat} (hi : i < 6) : P i := by
  rcases (show i = 0 ∨ i = 1 ∨ i = 2 ∨ i = 3 ∨ i = 4 ∨ i = 5 by omega) with rfl | rfl | rfl | rfl | rfl | rfl <;> assumption
theorem sh_YrN {a j : Nat} (h : isY a) (hj : j < 6) : SHc[a + 2 + j]? = some (100, 4) :=
  cs_Y (P := fun a => SHc[a + 2 + j]? = some (100, 4)) (lt6' (P := fun j => SHc[26 + 2 + j]? = some (100, 4)) rfl rfl rfl rfl rfl rfl hj) (lt6' (P := fun j => SHc[37 + 2 + j]? = some (100, 4)) rfl rfl rfl rfl rfl rfl hj) (lt6' (P := fun j => SHc[48 + 2 + j]? = some (100, 4)) rfl rfl rfl rfl rfl rfl hj) (lt6' (P := fun j => SHc[59 + 2 + j]? = some (100, 4)) rfl rfl rfl rfl rfl rfl hj) h
theorem sh_FrN {a j : Nat} (h : isF a) (hj : j < 6) : SHc[a + 2 + j]? = some (100, 7) :=
  cs_F (P := fun a => SHc[a + 2 + j]? = some (100, 7)) (lt6' (P := fun j => SHc[12 + 2 + j]? = some (100, 7)) rfl rfl rfl rfl rfl rfl hj) (lt6' (P := fun j => SHc[70 + 2 + j]? = some (100, 7)) rfl rfl rfl rfl rfl rfl hj) (lt6' (P := fun j => SHc[82 + 2 + j]? = some (100, 7)) rfl rfl rfl rfl rfl rfl hj) h
theorem sh_Yr {a : Nat} {i : Int32} (h : isY a) (hi : inb i 6) : SHc[a + 2 + i.toNatClampNeg]? = some (100, 4) := sh_YrN h (inb_lt hi)
theorem sh_Fr {a : Nat} {i : Int32} (h : isF a) (hi : inb i 6) : SHc[a + 2 + i.toNatClampNeg]? = some (100, 7) := sh_FrN h (inb_lt hi)
section MM
variable {o r : Nat} {m : Mm} {a k n ci t : Nat}
theorem gI_ok (h : SHc[a]? = some (ci, n)) : gI (Hm o r m) ci a k = some (m.1 a k) := by
  unfold gI
  show (match SHc[a]? with | some q => if q.1 = ci then some (m.1 a k) else none | none => none) = _
  rw [h]
  exact if_pos rfl
theorem gL_ok (h : SHc[a]? = some (ci, n)) : gL (Hm o r m) ci a k = some (m.2 a k) := by
  unfold gL
  show (match SHc[a]? with | some q => if q.1 = ci then some (m.2 a k) else none | none => none) = _
  rw [h]
  exact if_pos rfl
theorem pI_ok {v : Int32} (h : SHc[a]? = some (ci, n)) : pI (Hm o r m) ci a k v = some (Hm o r (mX m a k v)) := by
  unfold pI
  show (match SHc[a]? with | some q => if q.1 = ci then some (Hm o r (mX m a k v)) else none | none => none) = _
  rw [h]
  exact if_pos rfl
theorem pL_ok {v : Int64} (h : SHc[a]? = some (ci, n)) : pL (Hm o r m) ci a k v = some (Hm o r (mJ m a k v)) := by
  unfold pL
  show (match SHc[a]? with | some q => if q.1 = ci then some (Hm o r (mJ m a k v)) else none | none => none) = _
  rw [h]
  exact if_pos rfl
theorem rcv_ok {c : Nat} {vs : List Value} (h : SHc[a]? = some (c, n)) : rcv (Hm o r m) c (.ref a :: vs) = true := by
  show (match SHc[a]? with | some q => q.1 == c | none => false) = true
  rw [h]
  exact beq_self_eq_true c
theorem gR_of {v : Nat} (h : SHc[a]? = some (ci, n)) (hz : ZC o r a k = some v) : gR (Hm o r m) ci a k = some v := by
  unfold gR
  show (match SHc[a]? with | some q => if q.1 = ci then ZC o r a k else none | none => none) = _
  rw [h]
  exact (if_pos rfl).trans hz
theorem z_Y4 (h : isY a) : gR (Hm o r m) 4 a 4 = some (a + 1) := gR_of (sh_Y h) (cs_Y (P := fun a => ZC o r a 4 = some (a + 1)) rfl rfl rfl rfl h)
theorem z_Y5 (h : isY a) : gR (Hm o r m) 4 a 5 = some (a + 8) := gR_of (sh_Y h) (cs_Y (P := fun a => ZC o r a 5 = some (a + 8)) rfl rfl rfl rfl h)
theorem z_Y6 (h : isY a) : gR (Hm o r m) 4 a 6 = some (a + 9) := gR_of (sh_Y h) (cs_Y (P := fun a => ZC o r a 6 = some (a + 9)) rfl rfl rfl rfl h)
theorem z_Y7 (h : isY a) : gR (Hm o r m) 4 a 7 = some (a + 10) := gR_of (sh_Y h) (cs_Y (P := fun a => ZC o r a 7 = some (a + 10)) rfl rfl rfl rfl h)
theorem z_W0 (h : isW a) : gR (Hm o r m) 5 a 0 = some (a + 1) := gR_of (sh_W h) (cs_W (P := fun a => ZC o r a 0 = some (a + 1)) rfl rfl h)
theorem z_F1 (h : isF a) : gR (Hm o r m) 0 a 1 = some (a + 1) := gR_of (sh_F h) (cs_F (P := fun a => ZC o r a 1 = some (a + 1)) rfl rfl rfl h)
theorem z_F3 (h : isF a) : gR (Hm o r m) 0 a 3 = some (a + 8) := gR_of (sh_F h) (cs_F (P := fun a => ZC o r a 3 = some (a + 8)) rfl rfl rfl h)
theorem z_F4 (h : isF a) : gR (Hm o r m) 0 a 4 = some (a + 9) := gR_of (sh_F h) (cs_F (P := fun a => ZC o r a 4 = some (a + 9)) rfl rfl rfl h)
theorem z_F6 (h : isF a) : gR (Hm o r m) 0 a 6 = some (a + 10) := gR_of (sh_F h) (cs_F (P := fun a => ZC o r a 6 = some (a + 10)) rfl rfl rfl h)
theorem z_F7 (h : isF a) : gR (Hm o r m) 0 a 7 = some (a + 11) := gR_of (sh_F h) (cs_F (P := fun a => ZC o r a 7 = some (a + 11)) rfl rfl rfl h)
theorem eR_of {i : Int32} {v : Nat} (h : SHc[a]? = some (100 + t, n)) (ht : 4 ≤ t ∧ t ≤ 6) (hi : inb i n) (hz : ZC o r a i.toNatClampNeg = some v) : eR (Hm o r m) a i = some v := by
  unfold eR
  show (match SHc[a]? with | some q => if (104 ≤ q.1 ∧ q.1 ≤ 106) ∧ ¬ (i < 0 ∨ q.2 ≤ i.toNatClampNeg) then ZC o r a i.toNatClampNeg else none | none => none) = _
  rw [h]
  exact (if_pos ⟨⟨by simp only; omega, by simp only; omega⟩, hi⟩).trans hz
theorem eR_Y {i : Int32} (h : isY a) (hi : inb i 6) : eR (Hm o r m) (a + 1) i = some (a + 2 + i.toNatClampNeg) := by
  refine eR_of (t := 6) (sh_Y1 h) (by decide) hi ?_
  have hj := inb_lt hi
  generalize i.toNatClampNeg = j at hj
  exact cs_Y (P := fun a => ZC o r (a + 1) j = some (a + 2 + j)) (lt6' (P := fun j => ZC o r (26 + 1) j = some (26 + 2 + j)) rfl rfl rfl rfl rfl rfl hj) (lt6' (P := fun j => ZC o r (37 + 1) j = some (37 + 2 + j)) rfl rfl rfl rfl rfl rfl hj) (lt6' (P := fun j => ZC o r (48 + 1) j = some (48 + 2 + j)) rfl rfl rfl rfl rfl rfl hj) (lt6' (P := fun j => ZC o r (59 + 1) j = some (59 + 2 + j)) rfl rfl rfl rfl rfl rfl hj) h
theorem eR_F {i : Int32} (h : isF a) (hi : inb i 6) : eR (Hm o r m) (a + 1) i = some (a + 2 + i.toNatClampNeg) := by
  refine eR_of (t := 6) (sh_F1 h) (by decide) hi ?_
  have hj := inb_lt hi
  generalize i.toNatClampNeg = j at hj
  exact cs_F (P := fun a => ZC o r (a + 1) j = some (a + 2 + j)) (lt6' (P := fun j => ZC o r (12 + 1) j = some (12 + 2 + j)) rfl rfl rfl rfl rfl rfl hj) (lt6' (P := fun j => ZC o r (70 + 1) j = some (70 + 2 + j)) rfl rfl rfl rfl rfl rfl hj) (lt6' (P := fun j => ZC o r (82 + 1) j = some (82 + 2 + j)) rfl rfl rfl rfl rfl rfl hj) h
theorem eR_ways {i : Int32} (hi : inb i 4) : eR (Hm o r m) 8 i = some (26 + 11 * i.toNatClampNeg) := by
  refine eR_of (t := 4) (n := 4) rfl (by decide) hi ?_
  have hj := inb_lt hi
  generalize i.toNatClampNeg = j at hj
  rcases (show j = 0 ∨ j = 1 ∨ j = 2 ∨ j = 3 by omega) with rfl | rfl | rfl | rfl <;> rfl
theorem eR_slots {i : Int32} (hi : inb i 2) : eR (Hm o r m) 24 i = some (70 + 12 * i.toNatClampNeg) := by
  refine eR_of (t := 5) (n := 2) rfl (by decide) hi ?_
  have hj := inb_lt hi
  generalize i.toNatClampNeg = j at hj
  rcases (show j = 0 ∨ j = 1 by omega) with rfl | rfl <;> rfl
theorem eI_ok {i : Int32} (h : SHc[a]? = some (100 + t, n)) (hi : inb i n) : eI (Hm o r m) t a i = some (m.1 a i.toNatClampNeg) := by
  unfold eI
  show (match SHc[a]? with | some q => if q.1 = 100 + t ∧ ¬ (i < 0 ∨ q.2 ≤ i.toNatClampNeg) then some (m.1 a i.toNatClampNeg) else none | none => none) = _
  rw [h]
  exact if_pos ⟨rfl, hi⟩
theorem eL_ok {i : Int32} (h : SHc[a]? = some (103, n)) (hi : inb i n) : eL (Hm o r m) a i = some (m.2 a i.toNatClampNeg) := by
  unfold eL
  show (match SHc[a]? with | some q => if q.1 = 103 ∧ ¬ (i < 0 ∨ q.2 ≤ i.toNatClampNeg) then some (m.2 a i.toNatClampNeg) else none | none => none) = _
  rw [h]
  exact if_pos ⟨rfl, hi⟩
theorem wI_ok {i v : Int32} (h : SHc[a]? = some (100 + t, n)) (hi : inb i n) : wI (Hm o r m) t a i v = some (Hm o r (mX m a i.toNatClampNeg v)) := by
  unfold wI
  show (match SHc[a]? with | some q => if q.1 = 100 + t ∧ ¬ (i < 0 ∨ q.2 ≤ i.toNatClampNeg) then some (Hm o r (mX m a i.toNatClampNeg v)) else none | none => none) = _
  rw [h]
  exact if_pos ⟨rfl, hi⟩
theorem wL_ok {i : Int32} {v : Int64} (h : SHc[a]? = some (103, n)) (hi : inb i n) : wL (Hm o r m) a i v = some (Hm o r (mJ m a i.toNatClampNeg v)) := by
  unfold wL
  show (match SHc[a]? with | some q => if q.1 = 103 ∧ ¬ (i < 0 ∨ q.2 ≤ i.toNatClampNeg) then some (Hm o r (mJ m a i.toNatClampNeg v)) else none | none => none) = _
  rw [h]
  exact if_pos ⟨rfl, hi⟩
theorem a_1000 {q : Nat × Nat} (h : SHc[a]? = some q) : a ≠ 1000 := by
  have h1 := (List.getElem?_eq_some_iff.mp h).1
  have h2 : SHc.length = 120 := rfl
  omega
end MM
/-! loops as functions -/
def itr {σ ε : Type} (f : σ → Option (σ ⊕ ε)) : Nat → σ → Option ε
  | 0, _ => none
  | n + 1, s => match f s with
    | none => none
    | some (.inl s') => itr f n s'
    | some (.inr e) => some e
theorem itr_none {σ ε : Type} {f : σ → Option (σ ⊕ ε)} {k : Nat} {s : σ} (h : f s = none) : itr f (k + 1) s = none := by
  show (match f s with | none => none | some (.inl s') => itr f k s' | some (.inr e) => some e) = none
  rw [h]
theorem itr_inl {σ ε : Type} {f : σ → Option (σ ⊕ ε)} {k : Nat} {s s' : σ} (h : f s = some (.inl s')) : itr f (k + 1) s = itr f k s' := by
  show (match f s with | none => none | some (.inl s') => itr f k s' | some (.inr e) => some e) = _
  rw [h]
theorem itr_inr {σ ε : Type} {f : σ → Option (σ ⊕ ε)} {k : Nat} {s : σ} {e : ε} (h : f s = some (.inr e)) : itr f (k + 1) s = some e := by
  show (match f s with | none => none | some (.inl s') => itr f k s' | some (.inr e) => some e) = _
  rw [h]
theorem bsome {α β : Type} {o : Option α} {g : α → Option β} {q : β} (h : o.bind g = some q) : ∃ v, o = some v ∧ g v = some q := by
  cases o with
  | none => cases h
  | some v => exact ⟨v, rfl, h⟩
/-! more fuel, more known locals: the same answer -/
def lsle : Ls → Ls → Prop
  | [], [] => True
  | none :: a, _ :: b => lsle a b
  | some v :: a, some w :: b => v = w ∧ lsle a b
  | _, _ => False
theorem lsle_len : ∀ (a b : Ls), lsle a b → a.length = b.length
  | [], [], _ => rfl
  | none :: a, _ :: b, h => by simp only [List.length_cons]; rw [lsle_len a b h]
  | some v :: a, some w :: b, h => by simp only [List.length_cons]; rw [lsle_len a b h.2]
  | [], _ :: _, h => by cases h
  | some _ :: _, none :: _, h => by cases h
  | some _ :: _, [], h => by cases h
  | none :: _, [], h => by cases h
theorem lsle_at : ∀ (a b : Ls), lsle a b → ∀ (k : Nat) (v : Value), ldL a k = some v → ldL b k = some v
  | [], [], _, k, v, hk => by simp [ldL] at hk
  | none :: a, x :: b, h, k, v, hk => by
    cases k with
    | zero => simp [ldL] at hk
    | succ k =>
      have := lsle_at a b h k v (by simpa [ldL] using hk)
      simpa [ldL] using this
  | some v0 :: a, some w :: b, h, k, v, hk => by
    obtain ⟨rfl, h⟩ := h
    cases k with
    | zero => simpa [ldL] using hk
    | succ k =>
      have := lsle_at a b h k v (by simpa [ldL] using hk)
      simpa [ldL] using this
  | [], _ :: _, h, _, _, _ => by cases h
  | some _ :: _, none :: _, h, _, _, _ => by cases h
  | some _ :: _, [], h, _, _, _ => by cases h
  | none :: _, [], h, _, _, _ => by cases h
/-- the other way about -/
def lle (a b : Ls) : Prop := a.length = b.length ∧ ∀ (k : Nat) (v : Value), ldL a k = some v → ldL b k = some v
theorem ldL_setL {a : Ls} {i k : Nat} {x : Option Value} : ldL (a.set i x) k = if k = i ∧ i < a.length then x else ldL a k := by
  unfold ldL
  by_cases h : k = i
  · subst h
    by_cases hl : k < a.length
    · rw [if_pos ⟨rfl, hl⟩, List.getElem?_set_self hl]
      rfl
    · rw [if_neg (fun q => hl q.2), List.set_eq_of_length_le (by omega)]
  · rw [if_neg (fun q => h q.1), List.getElem?_set_ne (Ne.symm h)]
theorem lle_set {a b : Ls} {i : Nat} {x y : Option Value} (h : lle a b) (hx : x = none ∨ x = y) : lle (a.set i x) (b.set i y) := by
  refine ⟨by rw [List.length_set, List.length_set]; exact h.1, fun k v hk => ?_⟩
  rw [ldL_setL] at hk ⊢
  rw [← h.1]
  by_cases hki : k = i ∧ i < a.length
  · rw [if_pos hki] at hk ⊢
    rcases hx with rfl | rfl
    · cases hk
    · exact hk
  · rw [if_neg hki] at hk ⊢
    exact h.2 k v hk
theorem lle_kl {a b : Ls} {i : Nat} (h : lle a b) : lle (klL a i) (klL b i) := by
  cases i with
  | zero => exact h
  | succ j =>
    unfold klL
    cases hb : ldL b j with
    | none =>
      cases ha : ldL a j with
      | none => simp only [ha, hb]; exact h
      | some w => rw [h.2 j w ha] at hb; cases hb
    | some w =>
      cases ha : ldL a j with
      | none =>
        simp only [ha, hb]
        split
        · refine ⟨by rw [List.length_set]; exact h.1, fun k v hk => ?_⟩
          rw [ldL_setL]
          by_cases hkj : k = j ∧ j < b.length
          · rw [hkj.1] at hk
            rw [ha] at hk
            cases hk
          · rw [if_neg hkj]
            exact h.2 k v hk
        · exact h
      | some w' =>
        have e := h.2 j w' ha
        rw [hb] at e
        cases e
        simp only [ha, hb]
        split
        · exact lle_set h (Or.inl rfl)
        · exact h
section WK
variable {scr : Scr} {i : Instr} {x : Au} {pc : Nat} {a b : Ls} {st : List Value} {h : Hp} {q : Fr}
theorem wk_fr {o : Option (List Value)} {p0 : Nat} (hs : fr p0 a h o = some q) : fr p0 b h o = some (q.1, b, q.2.2.1, q.2.2.2) ∧ q.2.1 = a := by
  obtain ⟨s, rfl, rfl⟩ := fr_some hs
  exact ⟨rfl, rfl⟩
end WK
end
section
/-! more fuel and more known locals give the same answer -/
def cg (b : Ls) (q : Fr) : Fr := (q.1, b, q.2.2)
section CM
variable {pc k t1 t2 ci n : Nat} {a b : Ls} {st : List Value} {h : Hp} {q : Fr} {scr : Scr} {v : Option Value}
theorem cm_fr {o : Option (List Value)} : fr pc b h o = (fr pc a h o).map (cg b) := by
  unfold fr
  cases o <;> rfl
theorem cm_dI {P : Int32 → Prop} [DecidablePred P] : dI P t1 t2 b h st = (dI P t1 t2 a h st).map (cg b) := by
  unfold dI
  split
  · split <;> rfl
  · rfl
theorem cm_d2 {P : Int32 → Int32 → Prop} [∀ x y, Decidable (P x y)] : d2 P t1 t2 b h st = (d2 P t1 t2 a h st).map (cg b) := by
  unfold d2
  split
  · split <;> rfl
  · rfl
theorem cm_sw {o : Int} : swT pc o b st h = (swT pc o a st h).map (cg b) := by
  unfold swT
  split <;> rfl
theorem cm_fGet : fGet ci k pc b h st = (fGet ci k pc a h st).map (cg b) := by
  unfold fGet
  split
  · split
    · cases gI h ci _ k <;> rfl
    · cases gL h ci _ k <;> rfl
    · cases gR h ci _ k <;> rfl
    · rfl
  · rfl
theorem cm_fPut : fPut ci k pc b h st = (fPut ci k pc a h st).map (cg b) := by
  unfold fPut
  split
  · split
    · cases pI h ci _ k _ <;> rfl
    · rfl
  · split
    · cases pL h ci _ k _ <;> rfl
    · rfl
  · split
    · cases pR h ci _ k _ <;> rfl
    · rfl
  · rfl
theorem cm_aI : aI scr pc b h st = (aI scr pc a h st).map (cg b) := by
  unfold aI
  split
  · split
    · split
      · split <;> rfl
      · rfl
    · cases eI h 0 _ _ <;> rfl
  · rfl
theorem cm_aB : aB pc b h st = (aB pc a h st).map (cg b) := by
  unfold aB
  split
  · split
    · split
      · cases eI h 1 _ _ <;> rfl
      · cases eI h 2 _ _ <;> rfl
    · rfl
  · rfl
theorem cm_aJ : aJ pc b h st = (aJ pc a h st).map (cg b) := by
  unfold aJ
  split
  · cases eL h _ _ <;> rfl
  · rfl
theorem cm_aA : aA pc b h st = (aA pc a h st).map (cg b) := by
  unfold aA
  split
  · cases eR h _ _ <;> rfl
  · rfl
theorem cm_aLen : aLen scr pc b h st = (aLen scr pc a h st).map (cg b) := by
  unfold aLen
  split
  · split
    · split <;> rfl
    · rfl
  · rfl
theorem cm_uI : uI pc b h st = (uI pc a h st).map (cg b) := by
  unfold uI
  split
  · cases wI h 0 _ _ _ <;> rfl
  · rfl
theorem cm_uB : uB pc b h st = (uB pc a h st).map (cg b) := by
  unfold uB
  split
  · split
    · split
      · cases wI h 1 _ _ _ <;> rfl
      · cases wI h 2 _ _ _ <;> rfl
    · rfl
  · rfl
theorem cm_uJ : uJ pc b h st = (uJ pc a h st).map (cg b) := by
  unfold uJ
  split
  · cases wL h _ _ _ <;> rfl
  · rfl
theorem cm_uA : uA pc b h st = (uA pc a h st).map (cg b) := by
  unfold uA
  split
  · cases wR h _ _ _ <;> rfl
  · rfl
theorem cm_newO : mNew ci n pc b st h = (mNew ci n pc a st h).map (cg b) := by
  unfold mNew
  split <;> rfl
theorem cm_newa : mNwA n pc b h st = (mNwA n pc a h st).map (cg b) := by
  unfold mNwA
  split
  · split <;> rfl
  · rfl
theorem cm_mna : mNwM pc b h st = (mNwM pc a h st).map (cg b) := by
  unfold mNwM
  split
  · split <;> rfl
  · rfl
theorem of_cm {A C : Option Fr} (hl : lle a b) (e : C = A.map (cg b)) (hq : ∀ q, A = some q → q.2.1 = a) (hs : A = some q) : ∃ l, C = some (q.1, l, q.2.2) ∧ lle q.2.1 l := by
  refine ⟨b, by rw [e, hs]; rfl, ?_⟩
  rw [hq q hs]
  exact hl
theorem id_cm {A : Option Fr} (e : A = A.map (cg a)) : ∀ q, A = some q → q.2.1 = a := by
  intro q hq
  rw [hq] at e
  have h1 : q = cg a q := Option.some.inj e
  rw [h1]
  rfl
set_option maxHeartbeats 2000000 in
theorem stp_wk {i : Instr} {x : Au} (hl : lle a b) (hs : stp scr i x pc a st h = some q) : ∃ l, stp scr i x pc b st h = some (q.1, l, q.2.2) ∧ lle q.2.1 l := by
  cases i with
  | iconst n => cases hs; exact ⟨b, rfl, hl⟩
  | bipush n => cases hs; exact ⟨b, rfl, hl⟩
  | sipush n => cases hs; exact ⟨b, rfl, hl⟩
  | lconst n => cases hs; exact ⟨b, rfl, hl⟩
  | ldc2_w n => cases hs; exact ⟨b, rfl, hl⟩
  | goto n => cases hs; exact ⟨b, rfl, hl⟩
  | iload k =>
    replace hs : cI (ldL a k) (pc + 2) a st h = some q := hs
    unfold cI at hs
    split at hs
    · rename_i w hw
      cases hs
      exact ⟨b, by show cI (ldL b k) _ _ _ _ = _; rw [hl.2 _ _ hw]; rfl, hl⟩
    · cases hs
  | iload_n k =>
    replace hs : cI (ldL a k) (pc + 1) a st h = some q := hs
    unfold cI at hs
    split at hs
    · rename_i w hw
      cases hs
      exact ⟨b, by show cI (ldL b k) _ _ _ _ = _; rw [hl.2 _ _ hw]; rfl, hl⟩
    · cases hs
  | lload k =>
    replace hs : cL (ldL a k) (pc + 2) a st h = some q := hs
    unfold cL at hs
    split at hs
    · rename_i w hw
      cases hs
      exact ⟨b, by show cL (ldL b k) _ _ _ _ = _; rw [hl.2 _ _ hw]; rfl, hl⟩
    · cases hs
  | lload_n k =>
    replace hs : cL (ldL a k) (pc + 1) a st h = some q := hs
    unfold cL at hs
    split at hs
    · rename_i w hw
      cases hs
      exact ⟨b, by show cL (ldL b k) _ _ _ _ = _; rw [hl.2 _ _ hw]; rfl, hl⟩
    · cases hs
  | aload k =>
    replace hs : cA (ldL a k) (pc + 2) a st h = some q := hs
    unfold cA at hs
    split at hs
    · rename_i w hw
      cases hs
      exact ⟨b, by show cA (ldL b k) _ _ _ _ = _; rw [hl.2 _ _ hw]; rfl, hl⟩
    · cases hs
  | aload_n k =>
    replace hs : cA (ldL a k) (pc + 1) a st h = some q := hs
    unfold cA at hs
    split at hs
    · rename_i w hw
      cases hs
      exact ⟨b, by show cA (ldL b k) _ _ _ _ = _; rw [hl.2 _ _ hw]; rfl, hl⟩
    · cases hs
  | istore k =>
    replace hs : kI k (pc + 2) a h st = some q := hs
    unfold kI at hs
    split at hs
    · split at hs
      · rename_i w r hk
        cases hs
        exact ⟨st1 b k (.int w), if_pos (hl.1 ▸ hk), lle_set (lle_kl hl) (Or.inr rfl)⟩
      · cases hs
    · cases hs
  | istore_n k =>
    replace hs : kI k (pc + 1) a h st = some q := hs
    unfold kI at hs
    split at hs
    · split at hs
      · rename_i w r hk
        cases hs
        exact ⟨st1 b k (.int w), if_pos (hl.1 ▸ hk), lle_set (lle_kl hl) (Or.inr rfl)⟩
      · cases hs
    · cases hs
  | astore k =>
    replace hs : kA k (pc + 2) a h st = some q := hs
    unfold kA at hs
    split at hs
    · split at hs
      · rename_i w r hk
        cases hs
        exact ⟨st1 b k (.ref w), if_pos (hl.1 ▸ hk), lle_set (lle_kl hl) (Or.inr rfl)⟩
      · cases hs
    · cases hs
  | astore_n k =>
    replace hs : kA k (pc + 1) a h st = some q := hs
    unfold kA at hs
    split at hs
    · split at hs
      · rename_i w r hk
        cases hs
        exact ⟨st1 b k (.ref w), if_pos (hl.1 ▸ hk), lle_set (lle_kl hl) (Or.inr rfl)⟩
      · cases hs
    · cases hs
  | lstore k =>
    replace hs : kL k (pc + 2) a h st = some q := hs
    unfold kL at hs
    split at hs
    · split at hs
      · rename_i w r hk
        cases hs
        exact ⟨st2 b k (.long w), if_pos (hl.1 ▸ hk), lle_set (lle_set (lle_kl hl) (Or.inr rfl)) (Or.inr rfl)⟩
      · cases hs
    · cases hs
  | lstore_n k =>
    replace hs : kL k (pc + 1) a h st = some q := hs
    unfold kL at hs
    split at hs
    · split at hs
      · rename_i w r hk
        cases hs
        exact ⟨st2 b k (.long w), if_pos (hl.1 ▸ hk), lle_set (lle_set (lle_kl hl) (Or.inr rfl)) (Or.inr rfl)⟩
      · cases hs
    · cases hs
  | iinc k n =>
    have hs : (match ldL a k with
      | some (.int v) => if k < a.length then some (pc + 3, st1 a k (.int (v + Int32.ofInt n)), st, h) else none
      | _ => none) = some q := hs
    split at hs
    · rename_i w hw
      split at hs
      · rename_i hk
        cases hs
        refine ⟨st1 b k (.int (w + Int32.ofInt n)), ?_, lle_set (lle_kl hl) (Or.inr rfl)⟩
        show (match ldL b k with
          | some (.int v) => if k < b.length then some (pc + 3, st1 b k (.int (v + Int32.ofInt n)), st, h) else none
          | _ => none) = _
        rw [hl.2 _ _ hw]
        exact if_pos (hl.1 ▸ hk)
      · cases hs
    · cases hs
  | iadd => exact of_cm hl cm_fr (id_cm cm_fr) hs
  | isub => exact of_cm hl cm_fr (id_cm cm_fr) hs
  | imul => exact of_cm hl cm_fr (id_cm cm_fr) hs
  | iand => exact of_cm hl cm_fr (id_cm cm_fr) hs
  | ior => exact of_cm hl cm_fr (id_cm cm_fr) hs
  | ishl => exact of_cm hl cm_fr (id_cm cm_fr) hs
  | ishr => exact of_cm hl cm_fr (id_cm cm_fr) hs
  | ladd => exact of_cm hl cm_fr (id_cm cm_fr) hs
  | lmul => exact of_cm hl cm_fr (id_cm cm_fr) hs
  | land => exact of_cm hl cm_fr (id_cm cm_fr) hs
  | lor => exact of_cm hl cm_fr (id_cm cm_fr) hs
  | lcmp => exact of_cm hl cm_fr (id_cm cm_fr) hs
  | lshl => exact of_cm hl cm_fr (id_cm cm_fr) hs
  | lshr => exact of_cm hl cm_fr (id_cm cm_fr) hs
  | lushr => exact of_cm hl cm_fr (id_cm cm_fr) hs
  | i2l => exact of_cm hl cm_fr (id_cm cm_fr) hs
  | l2i => exact of_cm hl cm_fr (id_cm cm_fr) hs
  | i2b => exact of_cm hl cm_fr (id_cm cm_fr) hs
  | idiv =>
    replace hs : (match (generalizing := false) st with
      | .int b :: .int a' :: r => if b = 0 then none else some (pc + 1, a, .int (a' / b) :: r, h)
      | _ => none) = some q := hs
    split at hs
    · split at hs
      · cases hs
      · rename_i hz
        cases hs
        exact ⟨b, if_neg hz, hl⟩
    · cases hs
  | ldiv =>
    replace hs : (match (generalizing := false) st with
      | .long b :: .long a' :: r => if b = 0 then none else some (pc + 1, a, .long (a' / b) :: r, h)
      | _ => none) = some q := hs
    split at hs
    · split at hs
      · cases hs
      · rename_i hz
        cases hs
        exact ⟨b, if_neg hz, hl⟩
    · cases hs
  | lrem =>
    replace hs : (match (generalizing := false) st with
      | .long b :: .long a' :: r => if b = 0 then none else some (pc + 1, a, .long (a' - a' / b * b) :: r, h)
      | _ => none) = some q := hs
    split at hs
    · split at hs
      · cases hs
      · rename_i hz
        cases hs
        exact ⟨b, if_neg hz, hl⟩
    · cases hs
  | dup =>
    replace hs : (match (generalizing := false) st with
      | v :: r => if v.category = 1 then some (pc + 1, a, v :: v :: r, h) else none
      | _ => none) = some q := hs
    split at hs
    · split at hs
      · rename_i hz
        cases hs
        exact ⟨b, if_pos hz, hl⟩
      · cases hs
    · cases hs
  | dup2 =>
    replace hs : (match (generalizing := false) st with
      | v :: w :: r => if v.category = 1 ∧ w.category = 1 then some (pc + 1, a, v :: w :: v :: w :: r, h) else none
      | _ => none) = some q := hs
    split at hs
    · split at hs
      · rename_i hz
        cases hs
        exact ⟨b, if_pos hz, hl⟩
      · cases hs
    · cases hs
  | ifCond cd off => cases cd <;> exact of_cm hl cm_dI (id_cm cm_dI) hs
  | if_icmp cd off => cases cd <;> exact of_cm hl cm_d2 (id_cm cm_d2) hs
  | tableswitch df lo hi os =>
    have e : ∀ c : Ls, stp scr (.tableswitch df lo hi os) x pc c st h = (stp scr (.tableswitch df lo hi os) x pc a st h).map (cg c) := by
      intro c
      show (match (generalizing := false) st with
        | .int v :: r => if v.toInt < lo ∨ hi < v.toInt then swT pc df c r h else (match os[(v.toInt - lo).toNat]? with
          | some o => swT pc o c r h
          | none => none)
        | _ => none) = Option.map (cg c) (match (generalizing := false) st with
        | .int v :: r => if v.toInt < lo ∨ hi < v.toInt then swT pc df a r h else (match os[(v.toInt - lo).toNat]? with
          | some o => swT pc o a r h
          | none => none)
        | _ => none)
      split
      · split
        · exact cm_sw
        · split
          · exact cm_sw
          · rfl
      · rfl
    exact of_cm hl (e b) (id_cm (e a)) hs
  | lookupswitch df ps =>
    have e : ∀ c : Ls, stp scr (.lookupswitch df ps) x pc c st h = (stp scr (.lookupswitch df ps) x pc a st h).map (cg c) := by
      intro c
      show (match (generalizing := false) st with
        | .int v :: r => if (ps.toList.zip (ps.toList.drop 1)).all (fun q => q.1.1 < q.2.1) = true then swT pc (Op.lookupswitch.offset ps.toList df v.toInt) c r h else none
        | _ => none) = Option.map (cg c) (match (generalizing := false) st with
        | .int v :: r => if (ps.toList.zip (ps.toList.drop 1)).all (fun q => q.1.1 < q.2.1) = true then swT pc (Op.lookupswitch.offset ps.toList df v.toInt) a r h else none
        | _ => none)
      split
      · split
        · exact cm_sw
        · rfl
      · rfl
    exact of_cm hl (e b) (id_cm (e a)) hs
  | getfield idx => exact of_cm hl cm_fGet (id_cm cm_fGet) hs
  | putfield idx => exact of_cm hl cm_fPut (id_cm cm_fPut) hs
  | iaload => exact of_cm hl cm_aI (id_cm cm_aI) hs
  | baload => exact of_cm hl cm_aB (id_cm cm_aB) hs
  | laload => exact of_cm hl cm_aJ (id_cm cm_aJ) hs
  | aaload => exact of_cm hl cm_aA (id_cm cm_aA) hs
  | iastore => exact of_cm hl cm_uI (id_cm cm_uI) hs
  | bastore => exact of_cm hl cm_uB (id_cm cm_uB) hs
  | lastore => exact of_cm hl cm_uJ (id_cm cm_uJ) hs
  | aastore => exact of_cm hl cm_uA (id_cm cm_uA) hs
  | arraylength => exact of_cm hl cm_aLen (id_cm cm_aLen) hs
  | new idx => exact of_cm hl cm_newO (id_cm cm_newO) hs
  | newarray at9 => exact of_cm hl cm_newa (id_cm cm_newa) hs
  | anewarray idx => exact of_cm hl cm_newa (id_cm cm_newa) hs
  | multianewarray idx n => exact of_cm hl cm_mna (id_cm cm_mna) hs
  | _ => cases hs
theorem cm_inr {kd d : Nat} : inr kd d pc b st h = (inr kd d pc a st h).map (cg b) := by
  unfold inr
  split
  · rfl
  · split
    · split
      · split <;> rfl
      · rfl
    · split
      · split <;> rfl
      · rfl
    · split
      · split <;> rfl
      · rfl
    · split
      · split <;> rfl
      · rfl
    · split
      · split
        · split <;> rfl
        · rfl
      · rfl
    · rfl
end CM
theorem run_wk : ∀ (n d : Nat) (scr : Scr) (mi pc : Nat) (a b : Ls) (st : List Value) (h : Hp) (r : Option Value × Hp), lle a b → run n d scr mi pc a st h = some r → run n d scr mi pc b st h = some r
  | 0, d, scr, mi, pc, a, b, st, h, r, hl, hr => by cases hr
  | n + 1, d, scr, mi, pc, a, b, st, h, r, hl, hr => by
    unfold run at hr ⊢
    cases he : mP mi pc with
    | none => simp only [he] at hr; cases hr
    | some e =>
      simp only [he] at hr ⊢
      cases hv : rt mi e.1 st with
      | some v => simp only [hv] at hr ⊢; exact hr
      | none =>
        simp only [hv] at hr ⊢
        split at hr
        · rename_i hi
          rw [if_pos hi]
          split at hr
          · rename_i h4
            rw [if_pos h4]
            split at hr
            · rename_i hok
              rw [if_pos hok]
              split at hr
              · rename_i q hq
                exact run_wk n _ _ _ _ _ _ _ _ _ hl hr
              · cases hr
            · cases hr
          · rename_i h4
            rw [if_neg h4]
            split at hr
            · rename_i q hq
              obtain ⟨l, e1, e2⟩ := of_cm hl (cm_inr (b := b)) (id_cm cm_inr) hq
              rw [e1]
              exact run_wk n _ _ _ _ _ _ _ _ _ e2 hr
            · cases hr
        · rename_i hi
          rw [if_neg hi]
          split at hr
          · rename_i q hq
            obtain ⟨l, e1, e2⟩ := stp_wk hl hq
            rw [e1]
            exact run_wk n _ _ _ _ _ _ _ _ _ e2 hr
          · cases hr
theorem run_up : ∀ (n d : Nat) (scr : Scr) (mi pc : Nat) (a : Ls) (st : List Value) (h : Hp) (r : Option Value × Hp), run n d scr mi pc a st h = some r → run (n + 1) d scr mi pc a st h = some r
  | 0, d, scr, mi, pc, a, st, h, r, hr => by cases hr
  | n + 1, d, scr, mi, pc, a, st, h, r, hr => by
    unfold run at hr ⊢
    cases he : mP mi pc with
    | none => simp only [he] at hr; cases hr
    | some e =>
      simp only [he] at hr ⊢
      cases hv : rt mi e.1 st with
      | some v => simp only [hv] at hr ⊢; exact hr
      | none =>
        simp only [hv] at hr ⊢
        split at hr
        · rename_i hi
          rw [if_pos hi]
          split at hr
          · rename_i h4
            rw [if_pos h4]
            split at hr
            · rename_i hok
              rw [if_pos hok]
              split at hr
              · rename_i q hq
                rw [run_up n _ _ _ _ _ _ _ _ hq]
                exact run_up n _ _ _ _ _ _ _ _ hr
              · cases hr
            · cases hr
          · rename_i h4
            rw [if_neg h4]
            split at hr
            · rename_i q hq
              exact run_up n _ _ _ _ _ _ _ _ hr
            · cases hr
        · rename_i hi
          rw [if_neg hi]
          split at hr
          · rename_i q hq
            exact run_up n _ _ _ _ _ _ _ _ hr
          · cases hr
theorem run_le {n k d : Nat} {scr : Scr} {mi pc : Nat} {a : Ls} {st : List Value} {h : Hp} {r : Option Value × Hp} (hr : run n d scr mi pc a st h = some r) (hk : n ≤ k) : run k d scr mi pc a st h = some r := by
  induction k with
  | zero =>
    have : n = 0 := by omega
    subst this
    exact hr
  | succ k ih =>
    rcases Nat.lt_or_ge k n with h9 | h9
    · have : n = k + 1 := by omega
      subst this
      exact hr
    · exact run_up k _ _ _ _ _ _ _ _ (ih h9)
end
section
/-! what a run comes to, row by row -/
def Ex (d : Nat) (scr : Scr) (mi pc : Nat) (ls : Ls) (st : List Value) (h : Hp) (r : Option Value × Hp) : Prop := ∃ n, run n d scr mi pc ls st h = some r
def nxt (i : Instr) (x : Au) (pc : Nat) : Nat := match i with
  | .goto _ => x.1
  | i => pc + ilen i
def strt : Instr → Bool
  | .iconst _ => true
  | .bipush _ => true
  | .sipush _ => true
  | .lconst _ => true
  | .ldc2_w _ => true
  | .goto _ => true
  | .iload _ => true
  | .iload_n _ => true
  | .lload _ => true
  | .lload_n _ => true
  | .aload _ => true
  | .aload_n _ => true
  | .istore _ => true
  | .istore_n _ => true
  | .lstore _ => true
  | .lstore_n _ => true
  | .astore _ => true
  | .astore_n _ => true
  | .iadd => true
  | .isub => true
  | .imul => true
  | .iand => true
  | .ior => true
  | .ishl => true
  | .ishr => true
  | .ladd => true
  | .lmul => true
  | .land => true
  | .lor => true
  | .lcmp => true
  | .lshl => true
  | .lshr => true
  | .lushr => true
  | .i2l => true
  | .i2b => true
  | .l2i => true
  | .iinc _ _ => true
  | .idiv => true
  | .ldiv => true
  | .lrem => true
  | .dup => true
  | .dup2 => true
  | .getfield _ => true
  | .putfield _ => true
  | .iaload => true
  | .baload => true
  | .laload => true
  | .aaload => true
  | .iastore => true
  | .bastore => true
  | .lastore => true
  | _ => false
theorem stp_nx {scr : Scr} {i : Instr} {x : Au} {pc : Nat} {ls : Ls} {st : List Value} {h : Hp} {q : Fr} (hs : stp scr i x pc ls st h = some q) (ht : strt i = true) : q.1 = nxt i x pc := by
  cases i with
  | iconst n =>
    cases hs
    rfl
  | bipush n =>
    cases hs
    rfl
  | sipush n =>
    cases hs
    rfl
  | lconst n =>
    cases hs
    rfl
  | ldc2_w n =>
    cases hs
    rfl
  | goto n =>
    cases hs
    rfl
  | iload k =>
    replace hs : cI (ldL ls k) (pc + 2) ls st h = some q := hs
    unfold cI at hs
    repeat' (first | (cases hs; rfl) | cases hs | (obtain ⟨_, _, rfl⟩ := Option.map_eq_some_iff.mp hs; rfl) | split at hs)
  | iload_n k =>
    replace hs : cI (ldL ls k) (pc + 1) ls st h = some q := hs
    unfold cI at hs
    repeat' (first | (cases hs; rfl) | cases hs | (obtain ⟨_, _, rfl⟩ := Option.map_eq_some_iff.mp hs; rfl) | split at hs)
  | lload k =>
    replace hs : cL (ldL ls k) (pc + 2) ls st h = some q := hs
    unfold cL at hs
    repeat' (first | (cases hs; rfl) | cases hs | (obtain ⟨_, _, rfl⟩ := Option.map_eq_some_iff.mp hs; rfl) | split at hs)
  | lload_n k =>
    replace hs : cL (ldL ls k) (pc + 1) ls st h = some q := hs
    unfold cL at hs
    repeat' (first | (cases hs; rfl) | cases hs | (obtain ⟨_, _, rfl⟩ := Option.map_eq_some_iff.mp hs; rfl) | split at hs)
  | aload k =>
    replace hs : cA (ldL ls k) (pc + 2) ls st h = some q := hs
    unfold cA at hs
    repeat' (first | (cases hs; rfl) | cases hs | (obtain ⟨_, _, rfl⟩ := Option.map_eq_some_iff.mp hs; rfl) | split at hs)
  | aload_n k =>
    replace hs : cA (ldL ls k) (pc + 1) ls st h = some q := hs
    unfold cA at hs
    repeat' (first | (cases hs; rfl) | cases hs | (obtain ⟨_, _, rfl⟩ := Option.map_eq_some_iff.mp hs; rfl) | split at hs)
  | istore k =>
    replace hs : kI k (pc + 2) ls h st = some q := hs
    unfold kI at hs
    repeat' (first | (cases hs; rfl) | cases hs | (obtain ⟨_, _, rfl⟩ := Option.map_eq_some_iff.mp hs; rfl) | split at hs)
  | istore_n k =>
    replace hs : kI k (pc + 1) ls h st = some q := hs
    unfold kI at hs
    repeat' (first | (cases hs; rfl) | cases hs | (obtain ⟨_, _, rfl⟩ := Option.map_eq_some_iff.mp hs; rfl) | split at hs)
  | lstore k =>
    replace hs : kL k (pc + 2) ls h st = some q := hs
    unfold kL at hs
    repeat' (first | (cases hs; rfl) | cases hs | (obtain ⟨_, _, rfl⟩ := Option.map_eq_some_iff.mp hs; rfl) | split at hs)
  | lstore_n k =>
    replace hs : kL k (pc + 1) ls h st = some q := hs
    unfold kL at hs
    repeat' (first | (cases hs; rfl) | cases hs | (obtain ⟨_, _, rfl⟩ := Option.map_eq_some_iff.mp hs; rfl) | split at hs)
  | astore k =>
    replace hs : kA k (pc + 2) ls h st = some q := hs
    unfold kA at hs
    repeat' (first | (cases hs; rfl) | cases hs | (obtain ⟨_, _, rfl⟩ := Option.map_eq_some_iff.mp hs; rfl) | split at hs)
  | astore_n k =>
    replace hs : kA k (pc + 1) ls h st = some q := hs
    unfold kA at hs
    repeat' (first | (cases hs; rfl) | cases hs | (obtain ⟨_, _, rfl⟩ := Option.map_eq_some_iff.mp hs; rfl) | split at hs)
  | iadd =>
    obtain ⟨_, _, rfl⟩ := Option.map_eq_some_iff.mp hs
    rfl
  | isub =>
    obtain ⟨_, _, rfl⟩ := Option.map_eq_some_iff.mp hs
    rfl
  | imul =>
    obtain ⟨_, _, rfl⟩ := Option.map_eq_some_iff.mp hs
    rfl
  | iand =>
    obtain ⟨_, _, rfl⟩ := Option.map_eq_some_iff.mp hs
    rfl
  | ior =>
    obtain ⟨_, _, rfl⟩ := Option.map_eq_some_iff.mp hs
    rfl
  | ishl =>
    obtain ⟨_, _, rfl⟩ := Option.map_eq_some_iff.mp hs
    rfl
  | ishr =>
    obtain ⟨_, _, rfl⟩ := Option.map_eq_some_iff.mp hs
    rfl
  | ladd =>
    obtain ⟨_, _, rfl⟩ := Option.map_eq_some_iff.mp hs
    rfl
  | lmul =>
    obtain ⟨_, _, rfl⟩ := Option.map_eq_some_iff.mp hs
    rfl
  | land =>
    obtain ⟨_, _, rfl⟩ := Option.map_eq_some_iff.mp hs
    rfl
  | lor =>
    obtain ⟨_, _, rfl⟩ := Option.map_eq_some_iff.mp hs
    rfl
  | lcmp =>
    obtain ⟨_, _, rfl⟩ := Option.map_eq_some_iff.mp hs
    rfl
  | lshl =>
    obtain ⟨_, _, rfl⟩ := Option.map_eq_some_iff.mp hs
    rfl
  | lshr =>
    obtain ⟨_, _, rfl⟩ := Option.map_eq_some_iff.mp hs
    rfl
  | lushr =>
    obtain ⟨_, _, rfl⟩ := Option.map_eq_some_iff.mp hs
    rfl
  | i2l =>
    obtain ⟨_, _, rfl⟩ := Option.map_eq_some_iff.mp hs
    rfl
  | i2b =>
    obtain ⟨_, _, rfl⟩ := Option.map_eq_some_iff.mp hs
    rfl
  | l2i =>
    obtain ⟨_, _, rfl⟩ := Option.map_eq_some_iff.mp hs
    rfl
  | iinc k n =>
    revert hs
    show (match ldL ls k with
    | some (.int v) => if k < ls.length then some (pc + 3, st1 ls k (.int (v + Int32.ofInt n)), st, h) else none
    | _ => none) = some q → _
    intro hs
    repeat' (first | (cases hs; rfl) | cases hs | split at hs)
  | idiv =>
    revert hs
    show (match st with
    | .int b :: .int a :: r => if b = 0 then none else some (pc + 1, ls, .int (a / b) :: r, h)
    | _ => none) = some q → _
    intro hs
    repeat' (first | (cases hs; rfl) | cases hs | split at hs)
  | ldiv =>
    revert hs
    show (match st with
    | .long b :: .long a :: r => if b = 0 then none else some (pc + 1, ls, .long (a / b) :: r, h)
    | _ => none) = some q → _
    intro hs
    repeat' (first | (cases hs; rfl) | cases hs | split at hs)
  | lrem =>
    revert hs
    show (match st with
    | .long b :: .long a :: r => if b = 0 then none else some (pc + 1, ls, .long (a - a / b * b) :: r, h)
    | _ => none) = some q → _
    intro hs
    repeat' (first | (cases hs; rfl) | cases hs | split at hs)
  | dup =>
    revert hs
    show (match st with
    | v :: r => if v.category = 1 then some (pc + 1, ls, v :: v :: r, h) else none
    | _ => none) = some q → _
    intro hs
    repeat' (first | (cases hs; rfl) | cases hs | split at hs)
  | dup2 =>
    revert hs
    show (match st with
    | v :: w :: r => if v.category = 1 ∧ w.category = 1 then some (pc + 1, ls, v :: w :: v :: w :: r, h) else none
    | _ => none) = some q → _
    intro hs
    repeat' (first | (cases hs; rfl) | cases hs | split at hs)
  | getfield k =>
    replace hs : fGet x.1 x.2.1 (pc + 3) ls h st = some q := hs
    unfold fGet at hs
    repeat' (first | (cases hs; rfl) | cases hs | (obtain ⟨_, _, rfl⟩ := Option.map_eq_some_iff.mp hs; rfl) | split at hs)
  | putfield k =>
    replace hs : fPut x.1 x.2.1 (pc + 3) ls h st = some q := hs
    unfold fPut at hs
    repeat' (first | (cases hs; rfl) | cases hs | (obtain ⟨_, _, rfl⟩ := Option.map_eq_some_iff.mp hs; rfl) | split at hs)
  | iaload =>
    replace hs : aI scr (pc + 1) ls h st = some q := hs
    unfold aI at hs
    repeat' (first | (cases hs; rfl) | cases hs | (obtain ⟨_, _, rfl⟩ := Option.map_eq_some_iff.mp hs; rfl) | split at hs)
  | baload =>
    replace hs : aB (pc + 1) ls h st = some q := hs
    unfold aB at hs
    repeat' (first | (cases hs; rfl) | cases hs | (obtain ⟨_, _, rfl⟩ := Option.map_eq_some_iff.mp hs; rfl) | split at hs)
  | laload =>
    replace hs : aJ (pc + 1) ls h st = some q := hs
    unfold aJ at hs
    repeat' (first | (cases hs; rfl) | cases hs | (obtain ⟨_, _, rfl⟩ := Option.map_eq_some_iff.mp hs; rfl) | split at hs)
  | aaload =>
    replace hs : aA (pc + 1) ls h st = some q := hs
    unfold aA at hs
    repeat' (first | (cases hs; rfl) | cases hs | (obtain ⟨_, _, rfl⟩ := Option.map_eq_some_iff.mp hs; rfl) | split at hs)
  | iastore =>
    replace hs : uI (pc + 1) ls h st = some q := hs
    unfold uI at hs
    repeat' (first | (cases hs; rfl) | cases hs | (obtain ⟨_, _, rfl⟩ := Option.map_eq_some_iff.mp hs; rfl) | split at hs)
  | bastore =>
    replace hs : uB (pc + 1) ls h st = some q := hs
    unfold uB at hs
    repeat' (first | (cases hs; rfl) | cases hs | (obtain ⟨_, _, rfl⟩ := Option.map_eq_some_iff.mp hs; rfl) | split at hs)
  | lastore =>
    replace hs : uJ (pc + 1) ls h st = some q := hs
    unfold uJ at hs
    repeat' (first | (cases hs; rfl) | cases hs | (obtain ⟨_, _, rfl⟩ := Option.map_eq_some_iff.mp hs; rfl) | split at hs)
  | _ => cases ht
def stps : Nat → Scr → Nat → Nat → Ls → List Value → Hp → Option Fr
  | 0, _, _, pc, ls, st, h => some (pc, ls, st, h)
  | k + 1, scr, mi, pc, ls, st, h => match mP mi pc with
    | none => none
    | some e => if strt e.1 = true then match stp scr e.1 e.2.2 pc ls st h with
        | none => none
        | some q => stps k scr mi (nxt e.1 e.2.2 pc) q.2.1 q.2.2.1 q.2.2.2
      else none
theorem strt_rt {i : Instr} {mi : Nat} {st : List Value} (h : strt i = true) : rt mi i st = none := by cases i <;> first | rfl | cases h
theorem strt_inv {i : Instr} (h : strt i = true) : isInv i = false := by cases i <;> first | rfl | cases h
section EX
variable {d : Nat} {scr : Scr} {mi pc pc' len : Nat} {ls ls' : Ls} {st st' : List Value} {h h' : Hp} {r : Option Value × Hp} {x : Au} {i : Instr} {off : Int} {o1 o2 : Nat} {m : Mm}
theorem Ex.step {e : En} (hp : mP mi pc = some e) (hr : rt mi e.1 st = none) (hi : isInv e.1 = false) (hs : stp scr e.1 e.2.2 pc ls st h = some (pc', ls', st', h')) (kk : Ex d scr mi pc' ls' st' h' r) : Ex d scr mi pc ls st h r := by
  obtain ⟨n, hn⟩ := kk
  refine ⟨n + 1, ?_⟩
  unfold run
  simp only [hp, hr, hi, hs, Bool.false_eq_true, if_false]
  exact hn
theorem Ex.go (k : Nat) (hs : stps k scr mi pc ls st h = some (pc', ls', st', h')) (kk : Ex d scr mi pc' ls' st' h' r) : Ex d scr mi pc ls st h r := by
  induction k generalizing pc ls st h with
  | zero =>
    have e : (pc, ls, st, h) = (pc', ls', st', h') := Option.some.inj hs
    cases e
    exact kk
  | succ k ih =>
    unfold stps at hs
    cases hp : mP mi pc with
    | none => simp only [hp] at hs; cases hs
    | some e =>
      simp only [hp] at hs
      split at hs
      · rename_i ht
        cases hq : stp scr e.1 e.2.2 pc ls st h with
        | none => simp only [hq] at hs; cases hs
        | some q =>
          simp only [hq] at hs
          have e1 := stp_nx hq ht
          rw [← e1] at hs
          exact Ex.step hp (strt_rt ht) (strt_inv ht) hq (ih hs)
      · cases hs
theorem Ex.ret {e : En} {v : Option Value} (hp : mP mi pc = some e) (hr : rt mi e.1 st = some v) : Ex d scr mi pc ls st h (v, h) := by
  refine ⟨1, ?_⟩
  unfold run
  simp only [hp, hr]
theorem Ex.retZ {v : Int32} (hp : mP mi pc = some (.ireturn, len, x)) (hm : mR mi = some .boolean) (hv : v &&& 1 = v) : Ex d scr mi pc ls [.int v] h (some (.int v), h) := by
  refine Ex.ret hp ?_
  show (match mR mi with
    | some .int => some (some (Value.int v))
    | some .boolean => if v &&& 1 = v then some (some (Value.int v)) else none
    | _ => none) = _
  rw [hm]
  exact if_pos hv
theorem Ex.wk {l : Ls} (hl : lsle l ls) (kk : Ex d scr mi pc l st h r) : Ex d scr mi pc ls st h r := by
  obtain ⟨n, hn⟩ := kk
  exact ⟨n, run_wk n _ _ _ _ _ _ _ _ _ ⟨lsle_len _ _ hl, lsle_at _ _ hl⟩ hn⟩
theorem Ex.top {v w : Int32} (hv : v = w) (kk : Ex d scr mi pc ls (.int w :: st) h r) : Ex d scr mi pc ls (.int v :: st) h r := by
  rw [hv]
  exact kk
theorem Ex.ic_eq_t {a b : Int32} (hp : mP mi pc = some (.if_icmp .eq off, len, x)) (hc : a = b) (kk : Ex d scr mi x.1 ls st h r) : Ex d scr mi pc ls (.int b :: .int a :: st) h r := Ex.step hp rfl rfl (if_pos hc) kk
theorem Ex.if_eq_t {a : Int32} (hp : mP mi pc = some (.ifCond .eq off, len, x)) (hc : a = 0) (kk : Ex d scr mi x.1 ls st h r) : Ex d scr mi pc ls (.int a :: st) h r := Ex.step hp rfl rfl (if_pos hc) kk
theorem Ex.ic_eq_f {a b : Int32} (hp : mP mi pc = some (.if_icmp .eq off, len, x)) (hc : ¬ a = b) (kk : Ex d scr mi (pc + 3) ls st h r) : Ex d scr mi pc ls (.int b :: .int a :: st) h r := Ex.step hp rfl rfl (if_neg hc) kk
theorem Ex.if_eq_f {a : Int32} (hp : mP mi pc = some (.ifCond .eq off, len, x)) (hc : ¬ a = 0) (kk : Ex d scr mi (pc + 3) ls st h r) : Ex d scr mi pc ls (.int a :: st) h r := Ex.step hp rfl rfl (if_neg hc) kk
theorem Ex.ic_ne_t {a b : Int32} (hp : mP mi pc = some (.if_icmp .ne off, len, x)) (hc : a = b) (kk : Ex d scr mi (pc + 3) ls st h r) : Ex d scr mi pc ls (.int b :: .int a :: st) h r := Ex.step hp rfl rfl (if_pos hc) kk
theorem Ex.if_ne_t {a : Int32} (hp : mP mi pc = some (.ifCond .ne off, len, x)) (hc : a = 0) (kk : Ex d scr mi (pc + 3) ls st h r) : Ex d scr mi pc ls (.int a :: st) h r := Ex.step hp rfl rfl (if_pos hc) kk
theorem Ex.ic_ne_f {a b : Int32} (hp : mP mi pc = some (.if_icmp .ne off, len, x)) (hc : ¬ a = b) (kk : Ex d scr mi x.1 ls st h r) : Ex d scr mi pc ls (.int b :: .int a :: st) h r := Ex.step hp rfl rfl (if_neg hc) kk
theorem Ex.if_ne_f {a : Int32} (hp : mP mi pc = some (.ifCond .ne off, len, x)) (hc : ¬ a = 0) (kk : Ex d scr mi x.1 ls st h r) : Ex d scr mi pc ls (.int a :: st) h r := Ex.step hp rfl rfl (if_neg hc) kk
theorem Ex.ic_lt_t {a b : Int32} (hp : mP mi pc = some (.if_icmp .lt off, len, x)) (hc : a < b) (kk : Ex d scr mi x.1 ls st h r) : Ex d scr mi pc ls (.int b :: .int a :: st) h r := Ex.step hp rfl rfl (if_pos hc) kk
theorem Ex.if_lt_t {a : Int32} (hp : mP mi pc = some (.ifCond .lt off, len, x)) (hc : a < 0) (kk : Ex d scr mi x.1 ls st h r) : Ex d scr mi pc ls (.int a :: st) h r := Ex.step hp rfl rfl (if_pos hc) kk
theorem Ex.ic_lt_f {a b : Int32} (hp : mP mi pc = some (.if_icmp .lt off, len, x)) (hc : ¬ a < b) (kk : Ex d scr mi (pc + 3) ls st h r) : Ex d scr mi pc ls (.int b :: .int a :: st) h r := Ex.step hp rfl rfl (if_neg hc) kk
theorem Ex.if_lt_f {a : Int32} (hp : mP mi pc = some (.ifCond .lt off, len, x)) (hc : ¬ a < 0) (kk : Ex d scr mi (pc + 3) ls st h r) : Ex d scr mi pc ls (.int a :: st) h r := Ex.step hp rfl rfl (if_neg hc) kk
theorem Ex.ic_ge_t {a b : Int32} (hp : mP mi pc = some (.if_icmp .ge off, len, x)) (hc : b ≤ a) (kk : Ex d scr mi x.1 ls st h r) : Ex d scr mi pc ls (.int b :: .int a :: st) h r := Ex.step hp rfl rfl (if_pos hc) kk
theorem Ex.if_ge_t {a : Int32} (hp : mP mi pc = some (.ifCond .ge off, len, x)) (hc : 0 ≤ a) (kk : Ex d scr mi x.1 ls st h r) : Ex d scr mi pc ls (.int a :: st) h r := Ex.step hp rfl rfl (if_pos hc) kk
theorem Ex.ic_ge_f {a b : Int32} (hp : mP mi pc = some (.if_icmp .ge off, len, x)) (hc : ¬ b ≤ a) (kk : Ex d scr mi (pc + 3) ls st h r) : Ex d scr mi pc ls (.int b :: .int a :: st) h r := Ex.step hp rfl rfl (if_neg hc) kk
theorem Ex.if_ge_f {a : Int32} (hp : mP mi pc = some (.ifCond .ge off, len, x)) (hc : ¬ 0 ≤ a) (kk : Ex d scr mi (pc + 3) ls st h r) : Ex d scr mi pc ls (.int a :: st) h r := Ex.step hp rfl rfl (if_neg hc) kk
theorem Ex.ic_gt_t {a b : Int32} (hp : mP mi pc = some (.if_icmp .gt off, len, x)) (hc : b < a) (kk : Ex d scr mi x.1 ls st h r) : Ex d scr mi pc ls (.int b :: .int a :: st) h r := Ex.step hp rfl rfl (if_pos hc) kk
theorem Ex.if_gt_t {a : Int32} (hp : mP mi pc = some (.ifCond .gt off, len, x)) (hc : 0 < a) (kk : Ex d scr mi x.1 ls st h r) : Ex d scr mi pc ls (.int a :: st) h r := Ex.step hp rfl rfl (if_pos hc) kk
theorem Ex.ic_gt_f {a b : Int32} (hp : mP mi pc = some (.if_icmp .gt off, len, x)) (hc : ¬ b < a) (kk : Ex d scr mi (pc + 3) ls st h r) : Ex d scr mi pc ls (.int b :: .int a :: st) h r := Ex.step hp rfl rfl (if_neg hc) kk
theorem Ex.if_gt_f {a : Int32} (hp : mP mi pc = some (.ifCond .gt off, len, x)) (hc : ¬ 0 < a) (kk : Ex d scr mi (pc + 3) ls st h r) : Ex d scr mi pc ls (.int a :: st) h r := Ex.step hp rfl rfl (if_neg hc) kk
theorem Ex.ic_le_t {a b : Int32} (hp : mP mi pc = some (.if_icmp .le off, len, x)) (hc : a ≤ b) (kk : Ex d scr mi x.1 ls st h r) : Ex d scr mi pc ls (.int b :: .int a :: st) h r := Ex.step hp rfl rfl (if_pos hc) kk
theorem Ex.if_le_t {a : Int32} (hp : mP mi pc = some (.ifCond .le off, len, x)) (hc : a ≤ 0) (kk : Ex d scr mi x.1 ls st h r) : Ex d scr mi pc ls (.int a :: st) h r := Ex.step hp rfl rfl (if_pos hc) kk
theorem Ex.ic_le_f {a b : Int32} (hp : mP mi pc = some (.if_icmp .le off, len, x)) (hc : ¬ a ≤ b) (kk : Ex d scr mi (pc + 3) ls st h r) : Ex d scr mi pc ls (.int b :: .int a :: st) h r := Ex.step hp rfl rfl (if_neg hc) kk
theorem Ex.if_le_f {a : Int32} (hp : mP mi pc = some (.ifCond .le off, len, x)) (hc : ¬ a ≤ 0) (kk : Ex d scr mi (pc + 3) ls st h r) : Ex d scr mi pc ls (.int a :: st) h r := Ex.step hp rfl rfl (if_neg hc) kk
theorem Ex.idiv {a b : Int32} (hp : mP mi pc = some (.idiv, len, x)) (hc : ¬ b = 0) (kk : Ex d scr mi (pc + 1) ls (.int (a / b) :: st) h r) : Ex d scr mi pc ls (.int b :: .int a :: st) h r := Ex.step hp rfl rfl (if_neg hc) kk
theorem Ex.ldiv {a b : Int64} (hp : mP mi pc = some (.ldiv, len, x)) (hc : ¬ b = 0) (kk : Ex d scr mi (pc + 1) ls (.long (a / b) :: st) h r) : Ex d scr mi pc ls (.long b :: .long a :: st) h r := Ex.step hp rfl rfl (if_neg hc) kk
theorem Ex.lrem {a b : Int64} (hp : mP mi pc = some (.lrem, len, x)) (hc : ¬ b = 0) (kk : Ex d scr mi (pc + 1) ls (.long (a - a / b * b) :: st) h r) : Ex d scr mi pc ls (.long b :: .long a :: st) h r := Ex.step hp rfl rfl (if_neg hc) kk
theorem Ex.get0 {idx a ci k row : Nat} {z : Int} {v : Int32} (hp : mP mi pc = some (.getfield idx, len, (ci, k, row, z))) (hk : mTK ci k = 0) (hg : gI h ci a k = some v) (kk : Ex d scr mi (pc + 3) ls (.int v :: st) h r) : Ex d scr mi pc ls (.ref a :: st) h r := by
  refine Ex.step hp rfl rfl ?_ kk
  show fGet ci k (pc + 3) ls h (.ref a :: st) = _
  unfold fGet
  simp only [hk, hg, Option.map_some]
theorem Ex.get1 {idx a ci k row : Nat} {z : Int} {v : Int64} (hp : mP mi pc = some (.getfield idx, len, (ci, k, row, z))) (hk : mTK ci k = 1) (hg : gL h ci a k = some v) (kk : Ex d scr mi (pc + 3) ls (.long v :: st) h r) : Ex d scr mi pc ls (.ref a :: st) h r := by
  refine Ex.step hp rfl rfl ?_ kk
  show fGet ci k (pc + 3) ls h (.ref a :: st) = _
  unfold fGet
  simp only [hk, hg, Option.map_some]
theorem Ex.get2 {idx a ci k row : Nat} {z : Int} {v : Nat} (hp : mP mi pc = some (.getfield idx, len, (ci, k, row, z))) (hk : mTK ci k = 2) (hg : gR h ci a k = some v) (kk : Ex d scr mi (pc + 3) ls (.ref v :: st) h r) : Ex d scr mi pc ls (.ref a :: st) h r := by
  refine Ex.step hp rfl rfl ?_ kk
  show fGet ci k (pc + 3) ls h (.ref a :: st) = _
  unfold fGet
  simp only [hk, hg, Option.map_some]
theorem Ex.put0 {idx a ci k row : Nat} {z : Int} {v : Int32} (hp : mP mi pc = some (.putfield idx, len, (ci, k, row, z))) (hk : mTK ci k = 0) (hg : pI h ci a k v = some h') (kk : Ex d scr mi (pc + 3) ls st h' r) : Ex d scr mi pc ls (.int v :: .ref a :: st) h r := by
  refine Ex.step hp rfl rfl ?_ kk
  show fPut ci k (pc + 3) ls h (.int v :: .ref a :: st) = _
  unfold fPut
  simp only [hk, hg, if_true, Option.map_some]
theorem Ex.put1 {idx a ci k row : Nat} {z : Int} {v : Int64} (hp : mP mi pc = some (.putfield idx, len, (ci, k, row, z))) (hk : mTK ci k = 1) (hg : pL h ci a k v = some h') (kk : Ex d scr mi (pc + 3) ls st h' r) : Ex d scr mi pc ls (.long v :: .ref a :: st) h r := by
  refine Ex.step hp rfl rfl ?_ kk
  show fPut ci k (pc + 3) ls h (.long v :: .ref a :: st) = _
  unfold fPut
  simp only [hk, hg, if_true, Option.map_some]
theorem Ex.iald {a n : Nat} {j : Int32} (hp : mP mi pc = some (.iaload, len, x)) (hs : SHc[a]? = some (100 + 0, n)) (hc : inb j n) (kk : Ex d scr mi (pc + 1) ls (.int (m.1 a j.toNatClampNeg) :: st) (Hm o1 o2 m) r) : Ex d scr mi pc ls (.int j :: .ref a :: st) (Hm o1 o2 m) r := by
  refine Ex.step hp rfl rfl ?_ kk
  show aI scr (pc + 1) ls (Hm o1 o2 m) (.int j :: .ref a :: st) = _
  unfold aI
  simp only [a_1000 hs, if_false, eI_ok hs hc, Option.map_some]
theorem aB_of {a t n : Nat} {j v : Int32} (ht : t = 1 ∨ t = 2) (hs : SHc[a]? = some (100 + t, n)) (he : eI (Hm o1 o2 m) t a j = some v) : aB pc ls (Hm o1 o2 m) (.int j :: .ref a :: st) = some (pc, ls, .int v :: st, Hm o1 o2 m) := by
  show (match SHc[a]? with
    | some q => if q.1 = 101 then (eI (Hm o1 o2 m) 1 a j).map (fun v => (pc, ls, Value.int v :: st, Hm o1 o2 m)) else (eI (Hm o1 o2 m) 2 a j).map (fun v => (pc, ls, Value.int v :: st, Hm o1 o2 m))
    | none => none) = _
  rw [hs]
  rcases ht with rfl | rfl
  · simp only [if_true, he, Option.map_some]
  · simp only [he, Option.map_some]
    rfl
theorem Ex.bald1 {a n : Nat} {j : Int32} (hp : mP mi pc = some (.baload, len, x)) (hs : SHc[a]? = some (100 + 1, n)) (hc : inb j n) (kk : Ex d scr mi (pc + 1) ls (.int (m.1 a j.toNatClampNeg) :: st) (Hm o1 o2 m) r) : Ex d scr mi pc ls (.int j :: .ref a :: st) (Hm o1 o2 m) r :=
  Ex.step hp rfl rfl (aB_of (Or.inl rfl) hs (eI_ok hs hc)) kk
theorem Ex.bald2 {a n : Nat} {j : Int32} (hp : mP mi pc = some (.baload, len, x)) (hs : SHc[a]? = some (100 + 2, n)) (hc : inb j n) (kk : Ex d scr mi (pc + 1) ls (.int (m.1 a j.toNatClampNeg) :: st) (Hm o1 o2 m) r) : Ex d scr mi pc ls (.int j :: .ref a :: st) (Hm o1 o2 m) r :=
  Ex.step hp rfl rfl (aB_of (Or.inr rfl) hs (eI_ok hs hc)) kk
theorem Ex.lald {a n : Nat} {j : Int32} (hp : mP mi pc = some (.laload, len, x)) (hs : SHc[a]? = some (103, n)) (hc : inb j n) (kk : Ex d scr mi (pc + 1) ls (.long (m.2 a j.toNatClampNeg) :: st) (Hm o1 o2 m) r) : Ex d scr mi pc ls (.int j :: .ref a :: st) (Hm o1 o2 m) r := by
  refine Ex.step hp rfl rfl ?_ kk
  show aJ (pc + 1) ls (Hm o1 o2 m) (.int j :: .ref a :: st) = _
  unfold aJ
  simp only [eL_ok hs hc, Option.map_some]
theorem Ex.aald {a v : Nat} {j : Int32} (hp : mP mi pc = some (.aaload, len, x)) (he : eR h a j = some v) (kk : Ex d scr mi (pc + 1) ls (.ref v :: st) h r) : Ex d scr mi pc ls (.int j :: .ref a :: st) h r := by
  refine Ex.step hp rfl rfl ?_ kk
  show aA (pc + 1) ls h (.int j :: .ref a :: st) = _
  unfold aA
  simp only [he, Option.map_some]
theorem Ex.iast {a n : Nat} {j v : Int32} (hp : mP mi pc = some (.iastore, len, x)) (hs : SHc[a]? = some (100 + 0, n)) (hc : inb j n) (kk : Ex d scr mi (pc + 1) ls st (Hm o1 o2 (mX m a j.toNatClampNeg v)) r) : Ex d scr mi pc ls (.int v :: .int j :: .ref a :: st) (Hm o1 o2 m) r := by
  refine Ex.step hp rfl rfl ?_ kk
  show uI (pc + 1) ls (Hm o1 o2 m) (.int v :: .int j :: .ref a :: st) = _
  unfold uI
  simp only [wI_ok hs hc, Option.map_some]
theorem uB_of {a n : Nat} {j v : Int32} (hs : SHc[a]? = some (100 + 1, n)) (hc : inb j n) : uB pc ls (Hm o1 o2 m) (.int v :: .int j :: .ref a :: st) = some (pc, ls, st, Hm o1 o2 (mX m a j.toNatClampNeg v.toInt8.toInt32)) := by
  show (match SHc[a]? with
    | some q => if q.1 = 101 then (wI (Hm o1 o2 m) 1 a j v.toInt8.toInt32).map (fun g => (pc, ls, st, g)) else (wI (Hm o1 o2 m) 2 a j (v &&& 1)).map (fun g => (pc, ls, st, g))
    | none => none) = _
  rw [hs]
  simp only [if_true, wI_ok hs hc, Option.map_some]
theorem uZ_of {a n : Nat} {j v : Int32} (hs : SHc[a]? = some (100 + 2, n)) (hc : inb j n) : uB pc ls (Hm o1 o2 m) (.int v :: .int j :: .ref a :: st) = some (pc, ls, st, Hm o1 o2 (mX m a j.toNatClampNeg (v &&& 1))) := by
  show (match SHc[a]? with
    | some q => if q.1 = 101 then (wI (Hm o1 o2 m) 1 a j v.toInt8.toInt32).map (fun g => (pc, ls, st, g)) else (wI (Hm o1 o2 m) 2 a j (v &&& 1)).map (fun g => (pc, ls, st, g))
    | none => none) = _
  rw [hs]
  simp only [wI_ok hs hc, Option.map_some]
  rfl
theorem Ex.bast1 {a n : Nat} {j v : Int32} (hp : mP mi pc = some (.bastore, len, x)) (hs : SHc[a]? = some (100 + 1, n)) (hc : inb j n) (kk : Ex d scr mi (pc + 1) ls st (Hm o1 o2 (mX m a j.toNatClampNeg v.toInt8.toInt32)) r) : Ex d scr mi pc ls (.int v :: .int j :: .ref a :: st) (Hm o1 o2 m) r :=
  Ex.step hp rfl rfl (uB_of hs hc) kk
theorem Ex.bast2 {a n : Nat} {j v : Int32} (hp : mP mi pc = some (.bastore, len, x)) (hs : SHc[a]? = some (100 + 2, n)) (hc : inb j n) (kk : Ex d scr mi (pc + 1) ls st (Hm o1 o2 (mX m a j.toNatClampNeg (v &&& 1))) r) : Ex d scr mi pc ls (.int v :: .int j :: .ref a :: st) (Hm o1 o2 m) r :=
  Ex.step hp rfl rfl (uZ_of hs hc) kk
theorem Ex.last {a n : Nat} {j : Int32} {v : Int64} (hp : mP mi pc = some (.lastore, len, x)) (hs : SHc[a]? = some (103, n)) (hc : inb j n) (kk : Ex d scr mi (pc + 1) ls st (Hm o1 o2 (mJ m a j.toNatClampNeg v)) r) : Ex d scr mi pc ls (.long v :: .int j :: .ref a :: st) (Hm o1 o2 m) r := by
  refine Ex.step hp rfl rfl ?_ kk
  show uJ (pc + 1) ls (Hm o1 o2 m) (.long v :: .int j :: .ref a :: st) = _
  unfold uJ
  simp only [wL_ok hs hc, Option.map_some]
theorem Ex.intr {kd t na row : Nat} {z : Int} (hp : mP mi pc = some (i, len, (t, na, row, z))) (hi : isInv i = true) (hz : z = (kd : Int)) (hd : 0 < d) (hs : inr kd 1 pc ls st h = some (pc + 3, ls, st', h')) (kk : Ex d scr mi (pc + 3) ls st' h' r) : Ex d scr mi pc ls st h r := by
  obtain ⟨n, hn⟩ := kk
  refine ⟨n + 1, ?_⟩
  have h1 : rt mi i st = none := by cases i <;> first | rfl | cases hi
  have h2 : ¬ (z < 4) := by
    intro h4
    have h5 : kd < 4 := by omega
    rcases (show kd = 0 ∨ kd = 1 ∨ kd = 2 ∨ kd = 3 by omega) with rfl | rfl | rfl | rfl <;> cases hs
  have h3 : inr kd d pc ls st h = some (pc + 3, ls, st', h') := by
    rw [← hs]
    unfold inr
    rw [if_neg (by omega), if_neg (by decide)]
  have h4 : z.toNat = kd := by rw [hz]; rfl
  unfold run
  simp only [hp, h1, hi, if_true, h2, if_false, h4, h3]
  exact hn
theorem Ex.acopy {t na row a0 a n0 n1 : Nat} {z : Int} {sp dp n : Int32} (hp : mP mi pc = some (i, len, (t, na, row, z))) (hd : 0 < d) (h0 : SHc[a0]? = some (100 + 0, n0)) (h1 : SHc[a]? = some (100 + 0, n1))
    (hc : ¬ sp < 0 ∧ ¬ dp < 0 ∧ ¬ n < 0 ∧ sp.toNatClampNeg + n.toNatClampNeg ≤ n0 ∧ dp.toNatClampNeg + n.toNatClampNeg ≤ n1) (hi : (isInv i, z, Nat.ble (ctS st) 8) = (true, 8, true)) (kk : Ex d scr mi (pc + 3) ls st (Hm o1 o2 (mRw m a (va_cpy (m.1 a0) (m.1 a) sp.toNatClampNeg dp.toNatClampNeg n.toNatClampNeg))) r) : Ex d scr mi pc ls (.int n :: .int dp :: .ref a :: .int sp :: .ref a0 :: st) (Hm o1 o2 m) r := by
  have hi1 : isInv i = true := congrArg (fun q => q.1) hi
  have hz : z = 8 := congrArg (fun q => q.2.1) hi
  have hst : ctS st ≤ 8 := Nat.le_of_ble_eq_true (congrArg (fun q => q.2.2) hi)
  refine Ex.intr (kd := 8) hp hi1 (by rw [hz]; rfl) hd ?_ kk
  show (match SHc[a0]?, SHc[a]? with
      | some q0, some q => if (q0.1 = 100 ∧ q.1 = 100 ∧ ctS st ≤ 8) ∧ ¬ sp < 0 ∧ ¬ dp < 0 ∧ ¬ n < 0 ∧ sp.toNatClampNeg + n.toNatClampNeg ≤ q0.2 ∧ dp.toNatClampNeg + n.toNatClampNeg ≤ q.2 then some (pc + 3, ls, st, sR (Hm o1 o2 m) a (va_cpy ((Hm o1 o2 m).2.1 a0) ((Hm o1 o2 m).2.1 a) sp.toNatClampNeg dp.toNatClampNeg n.toNatClampNeg)) else none
      | _, _ => none) = _
  rw [h0, h1]
  exact if_pos ⟨⟨rfl, rfl, hst⟩, hc⟩
def calR (t na : Nat) (st : List Value) : Bool := decide (na ≤ st.length) && decide (ctS (st.drop na) ≤ 8) && decide ((entL (st.take na).reverse).length ≤ mL t)
theorem Ex.call {t na row : Nat} {kd : Int} {v : Option Value} {h1 : Hp} (hp : mP mi pc = some (i, len, (t, na, row, kd))) (hi : isInv i = true) (h4 : kd < 4) (hok : calOk t na kd.toNat d st h = true) (hx : Ex (d - 1) none t 0 (ent t (st.take na).reverse) [] h (v, h1)) (kk : Ex d scr mi (pc + 3) ls (v.toList ++ st.drop na) h1 r) : Ex d scr mi pc ls st h r := by
  obtain ⟨n1, hn1⟩ := hx
  obtain ⟨n2, hn2⟩ := kk
  refine ⟨max n1 n2 + 1, ?_⟩
  have h1 : rt mi i st = none := by cases i <;> first | rfl | cases hi
  have e1 := run_le hn1 (Nat.le_max_left n1 n2)
  have e2 := run_le hn2 (Nat.le_max_right n1 n2)
  unfold run
  simp only [hp, h1, hi, if_true, h4, hok, e1]
  exact e2
theorem Ex.callS {t na row : Nat} {v : Option Value} {h1 : Hp} (hp : mP mi pc = some (i, len, (t, na, row, 1))) (hi : isInv i = true) (hd : 0 < d) (hk : calR t na st = true) (hx : Ex (d - 1) none t 0 (ent t (st.take na).reverse) [] h (v, h1)) (kk : Ex d scr mi (pc + 3) ls (v.toList ++ st.drop na) h1 r) : Ex d scr mi pc ls st h r := by
  refine Ex.call hp hi (by decide) ?_ hx kk
  unfold calR at hk
  unfold calOk
  simp only [Bool.and_eq_true, decide_eq_true_eq, Bool.or_eq_true, beq_iff_eq] at hk ⊢
  exact ⟨⟨⟨⟨by omega, hk.1.1⟩, hk.1.2⟩, Or.inl rfl⟩, hk.2⟩
theorem Ex.callV {t na row : Nat} {kd : Int} {v : Option Value} {h1 : Hp} (hp : mP mi pc = some (i, len, (t, na, row, kd))) (hi : isInv i = true) (h4 : kd < 4) (hd : 0 < d) (hk : calR t na st = true) (hr : rcv h (mO t) (st.take na).reverse = true) (hx : Ex (d - 1) none t 0 (ent t (st.take na).reverse) [] h (v, h1)) (kk : Ex d scr mi (pc + 3) ls (v.toList ++ st.drop na) h1 r) : Ex d scr mi pc ls st h r := by
  refine Ex.call hp hi h4 ?_ hx kk
  unfold calR at hk
  unfold calOk
  simp only [Bool.and_eq_true, decide_eq_true_eq, Bool.or_eq_true, beq_iff_eq] at hk ⊢
  exact ⟨⟨⟨⟨by omega, hk.1.1⟩, hk.1.2⟩, Or.inr hr⟩, hk.2⟩
theorem Ex.tswD {df lo hi : Int} {os : Array Int} {v : Int32} (hp : mP mi pc = some (.tableswitch df lo hi os, len, x)) (hv : v.toInt < lo ∨ hi < v.toInt) (ht : (pc : Int) + df = (((pc : Int) + df).toNat : Int)) (e : ((pc : Int) + df).toNat = pc') (kk : Ex d scr mi pc' ls st h r) : Ex d scr mi pc ls (.int v :: st) h r := by
  refine Ex.step hp rfl rfl ?_ kk
  refine (if_pos hv).trans ?_
  rw [← e]
  exact if_pos ht
theorem Ex.lswD {df : Int} {ps : Array (Int × Int)} {v : Int32} (hp : mP mi pc = some (.lookupswitch df ps, len, x)) (hq : (ps.toList.zip (ps.toList.drop 1)).all (fun q => decide (q.1.1 < q.2.1)) = true) (ho : Op.lookupswitch.offset ps.toList df v.toInt = df) (ht : (pc : Int) + df = (((pc : Int) + df).toNat : Int)) (e : ((pc : Int) + df).toNat = pc') (kk : Ex d scr mi pc' ls st h r) : Ex d scr mi pc ls (.int v :: st) h r := by
  refine Ex.step hp rfl rfl ?_ kk
  refine (if_pos hq).trans ?_
  rw [ho, ← e]
  exact if_pos ht
end EX
theorem ti_ne {v k : Int32} (h : ¬ v = k) : v.toInt ≠ k.toInt := fun q => h (Int32.toInt_inj.mp q)
theorem tsD2 {v : Int32} (h0 : ¬ v = 0) (h1 : ¬ v = 1) (h2 : ¬ v = 2) : v.toInt < 0 ∨ 2 < v.toInt := by
  have g0 : v.toInt ≠ 0 := ti_ne h0
  have g1 : v.toInt ≠ 1 := ti_ne h1
  have g2 : v.toInt ≠ 2 := ti_ne h2
  omega
theorem tsD3 {v : Int32} (h0 : ¬ v = 0) (h1 : ¬ v = 1) (h2 : ¬ v = 2) (h3 : ¬ v = 3) : v.toInt < 0 ∨ 3 < v.toInt := by
  have g0 : v.toInt ≠ 0 := ti_ne h0
  have g1 : v.toInt ≠ 1 := ti_ne h1
  have g2 : v.toInt ≠ 2 := ti_ne h2
  have g3 : v.toInt ≠ 3 := ti_ne h3
  omega
theorem tsD5 {v : Int32} (h0 : ¬ v = 0) (h1 : ¬ v = 1) (h2 : ¬ v = 2) (h3 : ¬ v = 3) (h4 : ¬ v = 4) (h5 : ¬ v = 5) : v.toInt < 0 ∨ 5 < v.toInt := by
  have g0 : v.toInt ≠ 0 := ti_ne h0
  have g1 : v.toInt ≠ 1 := ti_ne h1
  have g2 : v.toInt ≠ 2 := ti_ne h2
  have g3 : v.toInt ≠ 3 := ti_ne h3
  have g4 : v.toInt ≠ 4 := ti_ne h4
  have g5 : v.toInt ≠ 5 := ti_ne h5
  omega
theorem lsD2 {v k1 k2 : Int32} {a1 a2 o1 o2 df : Int} (h1 : ¬ v = k1) (e1 : k1.toInt = a1) (h2 : ¬ v = k2) (e2 : k2.toInt = a2) : Op.lookupswitch.offset [(a1, o1), (a2, o2)] df v.toInt = df := by
  rw [lv_osw h1 e1, lv_osw h2 e2]
  rfl
theorem lsD5 {v k1 k2 k3 k4 k5 : Int32} {a1 a2 a3 a4 a5 o1 o2 o3 o4 o5 df : Int} (h1 : ¬ v = k1) (e1 : k1.toInt = a1) (h2 : ¬ v = k2) (e2 : k2.toInt = a2) (h3 : ¬ v = k3) (e3 : k3.toInt = a3) (h4 : ¬ v = k4) (e4 : k4.toInt = a4) (h5 : ¬ v = k5) (e5 : k5.toInt = a5) : Op.lookupswitch.offset [(a1, o1), (a2, o2), (a3, o3), (a4, o4), (a5, o5)] df v.toInt = df := by
  rw [lv_osw h1 e1, lv_osw h2 e2, lv_osw h3 e3, lv_osw h4 e4, lv_osw h5 e5]
  rfl
end
section
/-! methods as functions: X0_addLayer, X0_saidIn, X0_sortsIn, X0_addTwig, X0_thinsFrom, X0_longestThinning, X0_addBeam, X0_latestCutUpTo, X0_becomeLike, X5_forget, X5_tells, X5_tellsEach, X1_begins, X1_takesKind, X1_takesKey, X1_takesSort, X5_tell, X1_takesNumber, X1_takes, X1_faultOf, X2_add, X2_countInto -/
def f_X0_addLayer (m : Mm) (a : Nat) : Option (Int32 × Mm) := some ((((mX m a 0 ((m.1 a 0) + 1)).1 a 0) - 1), (mX m a 0 ((m.1 a 0) + 1)))
theorem x_X0_addLayer {d : Nat} (hd : 0 ≤ d) {o r : Nat} {m : Mm} {a : Nat} (ha : isF a) {out : (Int32 × Mm)} (hf : f_X0_addLayer m a = some out) : Ex d none 1 0 [some (.ref a)] [] (Hm o r m) (some (.int out.1), Hm o r out.2) := by
  unfold f_X0_addLayer at hf
  refine Ex.go (pc' := 2) (ls' := [some (.ref a)]) (st' := [.ref a, .ref a]) (h' := Hm o r m) 2 rfl ?_
  refine Ex.get0 rfl rfl (gI_ok (sh_F ha)) ?_
  refine Ex.go (pc' := 7) (ls' := [some (.ref a)]) (st' := [.int ((m.1 a 0) + 1), .ref a]) (h' := Hm o r m) 2 rfl ?_
  refine Ex.put0 rfl rfl (pI_ok (sh_F ha)) ?_
  refine Ex.go (pc' := 11) (ls' := [some (.ref a)]) (st' := [.ref a]) (h' := Hm o r (mX m a 0 ((m.1 a 0) + 1))) 1 rfl ?_
  refine Ex.get0 rfl rfl (gI_ok (sh_F ha)) ?_
  refine Ex.go (pc' := 16) (ls' := [some (.ref a)]) (st' := [.int (((mX m a 0 ((m.1 a 0) + 1)).1 a 0) - 1)]) (h' := Hm o r (mX m a 0 ((m.1 a 0) + 1))) 2 rfl ?_
  cases hf
  exact Ex.ret rfl rfl
def f_X0_saidIn_b4 (n : Nat) (m : Mm) (x0 : Nat) (x1 : Int32) (s : Int32 × Int32) : Option ((Int32 × Int32) ⊕ (Int32)) := if (6 : Int32) ≤ s.2 then
  some (.inr s.1)
  else
  if inb x1 6 then
    if inb s.2 7 then
      some (.inl ((s.1 + (m.1 (x0 + 2 + x1.toNatClampNeg) s.2.toNatClampNeg)), (s.2 + 1)))
      else none
    else none
theorem x_X0_saidIn_b4 {d : Nat} (hd : 0 ≤ d) {n : Nat} {o r : Nat} {m : Mm} {x0 : Nat} {x1 : Int32} (hx0 : isF x0) {s : Int32 × Int32} {out : (Int32 × Int32) ⊕ (Int32)} (hf : f_X0_saidIn_b4 n m x0 x1 s = some out) {R : Option Value × Hp} (k1 : ∀ s', out = .inl s' → Ex d none 2 4 [some (.ref x0), some (.int x1), some (.int s'.1), some (.int s'.2)] [] (Hm o r m) R) (k2 : ∀ t, out = .inr t → Ex d none 2 27 [none, none, some (.int t), none] [] (Hm o r m) R) : Ex d none 2 4 [some (.ref x0), some (.int x1), some (.int s.1), some (.int s.2)] [] (Hm o r m) R := by
  unfold f_X0_saidIn_b4 at hf
  refine Ex.go (pc' := 7) (ls' := [some (.ref x0), some (.int x1), some (.int s.1), some (.int s.2)]) (st' := [.int 6, .int s.2]) (h' := Hm o r m) 2 rfl ?_
  by_cases hc2 : (6 : Int32) ≤ s.2
  · replace hf := (if_pos hc2).symm.trans hf
    refine Ex.ic_ge_t rfl hc2 ?_
    refine Ex.wk (l := [none, none, some (.int s.1), none]) ⟨rfl, trivial⟩ ?_
    cases hf
    exact k2 _ rfl
  · replace hf := (if_neg hc2).symm.trans hf
    refine Ex.ic_ge_f rfl hc2 ?_
    refine Ex.go (pc' := 12) (ls' := [some (.ref x0), some (.int x1), some (.int s.1), some (.int s.2)]) (st' := [.ref x0, .int s.1]) (h' := Hm o r m) 2 rfl ?_
    refine Ex.get2 rfl rfl (z_F1 hx0) ?_
    refine Ex.go (pc' := 16) (ls' := [some (.ref x0), some (.int x1), some (.int s.1), some (.int s.2)]) (st' := [.int x1, .ref (x0 + 1), .int s.1]) (h' := Hm o r m) 1 rfl ?_
    by_cases hc1 : inb x1 6
    · replace hf := (if_pos hc1).symm.trans hf
      refine Ex.aald rfl (eR_F hx0 hc1) ?_
      refine Ex.go (pc' := 18) (ls' := [some (.ref x0), some (.int x1), some (.int s.1), some (.int s.2)]) (st' := [.int s.2, .ref (x0 + 2 + x1.toNatClampNeg), .int s.1]) (h' := Hm o r m) 1 rfl ?_
      by_cases hc3 : inb s.2 7
      · replace hf := (if_pos hc3).symm.trans hf
        refine Ex.iald rfl (sh_Fr hx0 hc1) hc3 ?_
        refine Ex.go (pc' := 4) (ls' := [some (.ref x0), some (.int x1), some (.int (s.1 + (m.1 (x0 + 2 + x1.toNatClampNeg) s.2.toNatClampNeg))), some (.int (s.2 + 1))]) (st' := []) (h' := Hm o r m) 4 rfl ?_
        cases hf
        exact k1 _ rfl
      · replace hf := (if_neg hc3).symm.trans hf
        cases hf
    · replace hf := (if_neg hc1).symm.trans hf
      cases hf
theorem x_X0_saidIn_b4_loop {d : Nat} (hd : 0 ≤ d) {n : Nat} {o r : Nat} {m : Mm} {x0 : Nat} {x1 : Int32} (hx0 : isF x0) {k : Nat} {s : Int32 × Int32} {e : Int32} (hf : itr (f_X0_saidIn_b4 n m x0 x1) k s = some e) {R : Option Value × Hp} (k2 : ∀ t, e = t → Ex d none 2 27 [none, none, some (.int t), none] [] (Hm o r m) R) : Ex d none 2 4 [some (.ref x0), some (.int x1), some (.int s.1), some (.int s.2)] [] (Hm o r m) R := by
  induction k generalizing s with
  | zero => cases hf
  | succ k ih =>
    cases hb : f_X0_saidIn_b4 n m x0 x1 s with
    | none =>
      have h9 := (itr_none (k := k) hb).symm.trans hf
      cases h9
    | some out =>
      cases out with
      | inl s' =>
        have h9 := (itr_inl (k := k) hb).symm.trans hf
        exact x_X0_saidIn_b4 hd hx0 hb (fun s'' h => by cases h; exact ih h9) (fun t h => by cases h)
      | inr e' =>
        have h9 := (itr_inr (k := k) hb).symm.trans hf
        cases h9
        exact x_X0_saidIn_b4 hd hx0 hb (fun s'' h => by cases h) (fun t h => k2 t (Sum.inr.inj h))
def f_X0_saidIn (n : Nat) (m : Mm) (a : Nat) (p0 : Int32) : Option Int32 := (itr (f_X0_saidIn_b4 n m a p0) n ((0, 0) : Int32 × Int32)).bind fun e4 =>
  some e4
theorem x_X0_saidIn {d : Nat} (hd : 0 ≤ d) {n : Nat} {o r : Nat} {m : Mm} {a : Nat} {p0 : Int32} (ha : isF a) {out : Int32} (hf : f_X0_saidIn n m a p0 = some out) : Ex d none 2 0 [some (.ref a), some (.int p0), none, none] [] (Hm o r m) (some (.int out), Hm o r m) := by
  unfold f_X0_saidIn at hf
  refine Ex.go (pc' := 4) (ls' := [some (.ref a), some (.int p0), some (.int 0), some (.int 0)]) (st' := []) (h' := Hm o r m) 4 rfl ?_
  obtain ⟨e4, he4, hf⟩ := bsome hf
  refine x_X0_saidIn_b4_loop hd ha he4 (fun t ht => ?_)
  · cases ht
    refine Ex.go (pc' := 28) (ls' := [none, none, some (.int e4), none]) (st' := [.int e4]) (h' := Hm o r m) 1 rfl ?_
    cases hf
    exact Ex.ret rfl rfl
def f_X0_sortsIn_b4 (n : Nat) (m : Mm) (x0 : Nat) (x1 : Int32) (s : Int32 × Int32) : Option ((Int32 × Int32) ⊕ (Int32)) := if (6 : Int32) ≤ s.2 then
  some (.inr s.1)
  else
  if inb x1 6 then
    if inb s.2 7 then
      if (m.1 (x0 + 2 + x1.toNatClampNeg) s.2.toNatClampNeg) ≤ 0 then
        some (.inl ((s.1 + 0), (s.2 + 1)))
        else
        some (.inl ((s.1 + 1), (s.2 + 1)))
      else none
    else none
theorem x_X0_sortsIn_b4 {d : Nat} (hd : 0 ≤ d) {n : Nat} {o r : Nat} {m : Mm} {x0 : Nat} {x1 : Int32} (hx0 : isF x0) {s : Int32 × Int32} {out : (Int32 × Int32) ⊕ (Int32)} (hf : f_X0_sortsIn_b4 n m x0 x1 s = some out) {R : Option Value × Hp} (k1 : ∀ s', out = .inl s' → Ex d none 3 4 [some (.ref x0), some (.int x1), some (.int s'.1), some (.int s'.2)] [] (Hm o r m) R) (k2 : ∀ t, out = .inr t → Ex d none 3 35 [none, none, some (.int t), none] [] (Hm o r m) R) : Ex d none 3 4 [some (.ref x0), some (.int x1), some (.int s.1), some (.int s.2)] [] (Hm o r m) R := by
  unfold f_X0_sortsIn_b4 at hf
  refine Ex.go (pc' := 7) (ls' := [some (.ref x0), some (.int x1), some (.int s.1), some (.int s.2)]) (st' := [.int 6, .int s.2]) (h' := Hm o r m) 2 rfl ?_
  by_cases hc2 : (6 : Int32) ≤ s.2
  · replace hf := (if_pos hc2).symm.trans hf
    refine Ex.ic_ge_t rfl hc2 ?_
    refine Ex.wk (l := [none, none, some (.int s.1), none]) ⟨rfl, trivial⟩ ?_
    cases hf
    exact k2 _ rfl
  · replace hf := (if_neg hc2).symm.trans hf
    refine Ex.ic_ge_f rfl hc2 ?_
    refine Ex.go (pc' := 12) (ls' := [some (.ref x0), some (.int x1), some (.int s.1), some (.int s.2)]) (st' := [.ref x0, .int s.1]) (h' := Hm o r m) 2 rfl ?_
    refine Ex.get2 rfl rfl (z_F1 hx0) ?_
    refine Ex.go (pc' := 16) (ls' := [some (.ref x0), some (.int x1), some (.int s.1), some (.int s.2)]) (st' := [.int x1, .ref (x0 + 1), .int s.1]) (h' := Hm o r m) 1 rfl ?_
    by_cases hc1 : inb x1 6
    · replace hf := (if_pos hc1).symm.trans hf
      refine Ex.aald rfl (eR_F hx0 hc1) ?_
      refine Ex.go (pc' := 18) (ls' := [some (.ref x0), some (.int x1), some (.int s.1), some (.int s.2)]) (st' := [.int s.2, .ref (x0 + 2 + x1.toNatClampNeg), .int s.1]) (h' := Hm o r m) 1 rfl ?_
      by_cases hc3 : inb s.2 7
      · replace hf := (if_pos hc3).symm.trans hf
        refine Ex.iald rfl (sh_Fr hx0 hc1) hc3 ?_
        by_cases hc4 : (m.1 (x0 + 2 + x1.toNatClampNeg) s.2.toNatClampNeg) ≤ 0
        · replace hf := (if_pos hc4).symm.trans hf
          refine Ex.if_le_t rfl hc4 ?_
          refine Ex.go (pc' := 4) (ls' := [some (.ref x0), some (.int x1), some (.int (s.1 + 0)), some (.int (s.2 + 1))]) (st' := []) (h' := Hm o r m) 5 rfl ?_
          cases hf
          exact k1 _ rfl
        · replace hf := (if_neg hc4).symm.trans hf
          refine Ex.if_le_f rfl hc4 ?_
          refine Ex.go (pc' := 4) (ls' := [some (.ref x0), some (.int x1), some (.int (s.1 + 1)), some (.int (s.2 + 1))]) (st' := []) (h' := Hm o r m) 6 rfl ?_
          cases hf
          exact k1 _ rfl
      · replace hf := (if_neg hc3).symm.trans hf
        cases hf
    · replace hf := (if_neg hc1).symm.trans hf
      cases hf
theorem x_X0_sortsIn_b4_loop {d : Nat} (hd : 0 ≤ d) {n : Nat} {o r : Nat} {m : Mm} {x0 : Nat} {x1 : Int32} (hx0 : isF x0) {k : Nat} {s : Int32 × Int32} {e : Int32} (hf : itr (f_X0_sortsIn_b4 n m x0 x1) k s = some e) {R : Option Value × Hp} (k2 : ∀ t, e = t → Ex d none 3 35 [none, none, some (.int t), none] [] (Hm o r m) R) : Ex d none 3 4 [some (.ref x0), some (.int x1), some (.int s.1), some (.int s.2)] [] (Hm o r m) R := by
  induction k generalizing s with
  | zero => cases hf
  | succ k ih =>
    cases hb : f_X0_sortsIn_b4 n m x0 x1 s with
    | none =>
      have h9 := (itr_none (k := k) hb).symm.trans hf
      cases h9
    | some out =>
      cases out with
      | inl s' =>
        have h9 := (itr_inl (k := k) hb).symm.trans hf
        exact x_X0_sortsIn_b4 hd hx0 hb (fun s'' h => by cases h; exact ih h9) (fun t h => by cases h)
      | inr e' =>
        have h9 := (itr_inr (k := k) hb).symm.trans hf
        cases h9
        exact x_X0_sortsIn_b4 hd hx0 hb (fun s'' h => by cases h) (fun t h => k2 t (Sum.inr.inj h))
def f_X0_sortsIn (n : Nat) (m : Mm) (a : Nat) (p0 : Int32) : Option Int32 := (itr (f_X0_sortsIn_b4 n m a p0) n ((0, 0) : Int32 × Int32)).bind fun e5 =>
  some e5
theorem x_X0_sortsIn {d : Nat} (hd : 0 ≤ d) {n : Nat} {o r : Nat} {m : Mm} {a : Nat} {p0 : Int32} (ha : isF a) {out : Int32} (hf : f_X0_sortsIn n m a p0 = some out) : Ex d none 3 0 [some (.ref a), some (.int p0), none, none] [] (Hm o r m) (some (.int out), Hm o r m) := by
  unfold f_X0_sortsIn at hf
  refine Ex.go (pc' := 4) (ls' := [some (.ref a), some (.int p0), some (.int 0), some (.int 0)]) (st' := []) (h' := Hm o r m) 4 rfl ?_
  obtain ⟨e5, he5, hf⟩ := bsome hf
  refine x_X0_sortsIn_b4_loop hd ha he5 (fun t ht => ?_)
  · cases ht
    refine Ex.go (pc' := 36) (ls' := [none, none, some (.int e5), none]) (st' := [.int e5]) (h' := Hm o r m) 1 rfl ?_
    cases hf
    exact Ex.ret rfl rfl
def f_X0_addTwig (m : Mm) (a : Nat) (p0 : Int32) (p1 : Int32) : Option Mm := if inb p0 6 then
  if inb p0 6 then
    if inb p0 6 then
      if inb p0 6 then
        some (mX (mX (mX m a 2 ((m.1 a 2) + 1)) (a + 8) p0.toNatClampNeg (((mX m a 2 ((m.1 a 2) + 1)).1 (a + 8) p0.toNatClampNeg) + 1)) (a + 9) p0.toNatClampNeg (((mX (mX m a 2 ((m.1 a 2) + 1)) (a + 8) p0.toNatClampNeg (((mX m a 2 ((m.1 a 2) + 1)).1 (a + 8) p0.toNatClampNeg) + 1)).1 (a + 9) p0.toNatClampNeg) + p1))
        else none
      else none
    else none
  else none
theorem x_X0_addTwig {d : Nat} (hd : 0 ≤ d) {o r : Nat} {m : Mm} {a : Nat} {p0 : Int32} {p1 : Int32} (ha : isF a) {out : Mm} (hf : f_X0_addTwig m a p0 p1 = some out) : Ex d none 4 0 [some (.ref a), some (.int p0), some (.int p1)] [] (Hm o r m) (none, Hm o r out) := by
  unfold f_X0_addTwig at hf
  refine Ex.go (pc' := 2) (ls' := [some (.ref a), some (.int p0), some (.int p1)]) (st' := [.ref a, .ref a]) (h' := Hm o r m) 2 rfl ?_
  refine Ex.get0 rfl rfl (gI_ok (sh_F ha)) ?_
  refine Ex.go (pc' := 7) (ls' := [some (.ref a), some (.int p0), some (.int p1)]) (st' := [.int ((m.1 a 2) + 1), .ref a]) (h' := Hm o r m) 2 rfl ?_
  refine Ex.put0 rfl rfl (pI_ok (sh_F ha)) ?_
  refine Ex.go (pc' := 11) (ls' := [some (.ref a), some (.int p0), some (.int p1)]) (st' := [.ref a]) (h' := Hm o r (mX m a 2 ((m.1 a 2) + 1))) 1 rfl ?_
  refine Ex.get2 rfl rfl (z_F3 ha) ?_
  refine Ex.go (pc' := 16) (ls' := [some (.ref a), some (.int p0), some (.int p1)]) (st' := [.int p0, .ref (a + 8), .int p0, .ref (a + 8)]) (h' := Hm o r (mX m a 2 ((m.1 a 2) + 1))) 2 rfl ?_
  by_cases hc1 : inb p0 6
  · replace hf := (if_pos hc1).symm.trans hf
    refine Ex.iald rfl (sh_F8 ha) hc1 ?_
    refine Ex.go (pc' := 19) (ls' := [some (.ref a), some (.int p0), some (.int p1)]) (st' := [.int (((mX m a 2 ((m.1 a 2) + 1)).1 (a + 8) p0.toNatClampNeg) + 1), .int p0, .ref (a + 8)]) (h' := Hm o r (mX m a 2 ((m.1 a 2) + 1))) 2 rfl ?_
    by_cases hc2 : inb p0 6
    · replace hf := (if_pos hc2).symm.trans hf
      refine Ex.iast rfl (sh_F8 ha) hc2 ?_
      refine Ex.go (pc' := 21) (ls' := [some (.ref a), some (.int p0), some (.int p1)]) (st' := [.ref a]) (h' := Hm o r (mX (mX m a 2 ((m.1 a 2) + 1)) (a + 8) p0.toNatClampNeg (((mX m a 2 ((m.1 a 2) + 1)).1 (a + 8) p0.toNatClampNeg) + 1))) 1 rfl ?_
      refine Ex.get2 rfl rfl (z_F4 ha) ?_
      refine Ex.go (pc' := 26) (ls' := [some (.ref a), some (.int p0), some (.int p1)]) (st' := [.int p0, .ref (a + 9), .int p0, .ref (a + 9)]) (h' := Hm o r (mX (mX m a 2 ((m.1 a 2) + 1)) (a + 8) p0.toNatClampNeg (((mX m a 2 ((m.1 a 2) + 1)).1 (a + 8) p0.toNatClampNeg) + 1))) 2 rfl ?_
      by_cases hc3 : inb p0 6
      · replace hf := (if_pos hc3).symm.trans hf
        refine Ex.iald rfl (sh_F9 ha) hc3 ?_
        refine Ex.go (pc' := 29) (ls' := [some (.ref a), some (.int p0), some (.int p1)]) (st' := [.int (((mX (mX m a 2 ((m.1 a 2) + 1)) (a + 8) p0.toNatClampNeg (((mX m a 2 ((m.1 a 2) + 1)).1 (a + 8) p0.toNatClampNeg) + 1)).1 (a + 9) p0.toNatClampNeg) + p1), .int p0, .ref (a + 9)]) (h' := Hm o r (mX (mX m a 2 ((m.1 a 2) + 1)) (a + 8) p0.toNatClampNeg (((mX m a 2 ((m.1 a 2) + 1)).1 (a + 8) p0.toNatClampNeg) + 1))) 2 rfl ?_
        by_cases hc4 : inb p0 6
        · replace hf := (if_pos hc4).symm.trans hf
          refine Ex.iast rfl (sh_F9 ha) hc4 ?_
          cases hf
          exact Ex.ret rfl rfl
        · replace hf := (if_neg hc4).symm.trans hf
          cases hf
      · replace hf := (if_neg hc3).symm.trans hf
        cases hf
    · replace hf := (if_neg hc2).symm.trans hf
      cases hf
  · replace hf := (if_neg hc1).symm.trans hf
    cases hf
def f_X0_thinsFrom (m : Mm) (a : Nat) (p0 : Int32) (p1 : Int32) : Option Int32 := if inb p1 6 then
  if inb p0 6 then
    if inb p0 6 then
      if inb p1 6 then
        if ((m.1 (a + 9) p0.toNatClampNeg) * (m.1 (a + 8) p1.toNatClampNeg)) ≤ ((m.1 (a + 9) p1.toNatClampNeg) * (m.1 (a + 8) p0.toNatClampNeg)) then
          some (0 : Int32)
          else
          some (1 : Int32)
        else none
      else none
    else none
  else none
theorem x_X0_thinsFrom {d : Nat} (hd : 0 ≤ d) {o r : Nat} {m : Mm} {a : Nat} {p0 : Int32} {p1 : Int32} (ha : isF a) {out : Int32} (hf : f_X0_thinsFrom m a p0 p1 = some out) : Ex d none 5 0 [some (.ref a), some (.int p0), some (.int p1)] [] (Hm o r m) (some (.int out), Hm o r m) := by
  unfold f_X0_thinsFrom at hf
  refine Ex.go (pc' := 1) (ls' := [some (.ref a), some (.int p0), some (.int p1)]) (st' := [.ref a]) (h' := Hm o r m) 1 rfl ?_
  refine Ex.get2 rfl rfl (z_F4 ha) ?_
  refine Ex.go (pc' := 5) (ls' := [some (.ref a), some (.int p0), some (.int p1)]) (st' := [.int p1, .ref (a + 9)]) (h' := Hm o r m) 1 rfl ?_
  by_cases hc1 : inb p1 6
  · replace hf := (if_pos hc1).symm.trans hf
    refine Ex.iald rfl (sh_F9 ha) hc1 ?_
    refine Ex.go (pc' := 7) (ls' := [some (.ref a), some (.int p0), some (.int p1)]) (st' := [.ref a, .int (m.1 (a + 9) p1.toNatClampNeg)]) (h' := Hm o r m) 1 rfl ?_
    refine Ex.get2 rfl rfl (z_F3 ha) ?_
    refine Ex.go (pc' := 11) (ls' := [some (.ref a), some (.int p0), some (.int p1)]) (st' := [.int p0, .ref (a + 8), .int (m.1 (a + 9) p1.toNatClampNeg)]) (h' := Hm o r m) 1 rfl ?_
    by_cases hc2 : inb p0 6
    · replace hf := (if_pos hc2).symm.trans hf
      refine Ex.iald rfl (sh_F8 ha) hc2 ?_
      refine Ex.go (pc' := 14) (ls' := [some (.ref a), some (.int p0), some (.int p1)]) (st' := [.ref a, .int ((m.1 (a + 9) p1.toNatClampNeg) * (m.1 (a + 8) p0.toNatClampNeg))]) (h' := Hm o r m) 2 rfl ?_
      refine Ex.get2 rfl rfl (z_F4 ha) ?_
      refine Ex.go (pc' := 18) (ls' := [some (.ref a), some (.int p0), some (.int p1)]) (st' := [.int p0, .ref (a + 9), .int ((m.1 (a + 9) p1.toNatClampNeg) * (m.1 (a + 8) p0.toNatClampNeg))]) (h' := Hm o r m) 1 rfl ?_
      by_cases hc3 : inb p0 6
      · replace hf := (if_pos hc3).symm.trans hf
        refine Ex.iald rfl (sh_F9 ha) hc3 ?_
        refine Ex.go (pc' := 20) (ls' := [some (.ref a), some (.int p0), some (.int p1)]) (st' := [.ref a, .int (m.1 (a + 9) p0.toNatClampNeg), .int ((m.1 (a + 9) p1.toNatClampNeg) * (m.1 (a + 8) p0.toNatClampNeg))]) (h' := Hm o r m) 1 rfl ?_
        refine Ex.get2 rfl rfl (z_F3 ha) ?_
        refine Ex.go (pc' := 24) (ls' := [some (.ref a), some (.int p0), some (.int p1)]) (st' := [.int p1, .ref (a + 8), .int (m.1 (a + 9) p0.toNatClampNeg), .int ((m.1 (a + 9) p1.toNatClampNeg) * (m.1 (a + 8) p0.toNatClampNeg))]) (h' := Hm o r m) 1 rfl ?_
        by_cases hc4 : inb p1 6
        · replace hf := (if_pos hc4).symm.trans hf
          refine Ex.iald rfl (sh_F8 ha) hc4 ?_
          refine Ex.go (pc' := 26) (ls' := [some (.ref a), some (.int p0), some (.int p1)]) (st' := [.int ((m.1 (a + 9) p0.toNatClampNeg) * (m.1 (a + 8) p1.toNatClampNeg)), .int ((m.1 (a + 9) p1.toNatClampNeg) * (m.1 (a + 8) p0.toNatClampNeg))]) (h' := Hm o r m) 1 rfl ?_
          by_cases hc5 : ((m.1 (a + 9) p0.toNatClampNeg) * (m.1 (a + 8) p1.toNatClampNeg)) ≤ ((m.1 (a + 9) p1.toNatClampNeg) * (m.1 (a + 8) p0.toNatClampNeg))
          · replace hf := (if_pos hc5).symm.trans hf
            refine Ex.ic_ge_t rfl hc5 ?_
            refine Ex.go (pc' := 34) (ls' := [some (.ref a), some (.int p0), some (.int p1)]) (st' := [.int 0]) (h' := Hm o r m) 1 rfl ?_
            cases hf
            exact Ex.ret rfl rfl
          · replace hf := (if_neg hc5).symm.trans hf
            refine Ex.ic_ge_f rfl hc5 ?_
            refine Ex.go (pc' := 34) (ls' := [some (.ref a), some (.int p0), some (.int p1)]) (st' := [.int 1]) (h' := Hm o r m) 2 rfl ?_
            cases hf
            exact Ex.ret rfl rfl
        · replace hf := (if_neg hc4).symm.trans hf
          cases hf
      · replace hf := (if_neg hc3).symm.trans hf
        cases hf
    · replace hf := (if_neg hc2).symm.trans hf
      cases hf
  · replace hf := (if_neg hc1).symm.trans hf
    cases hf
def f_X0_longestThinning_b6 (n : Nat) (m : Mm) (x0 : Nat) (s : Int32 × Int32 × Int32) : Option ((Int32 × Int32 × Int32) ⊕ (Int32)) := if (m.1 x0 0) ≤ s.2.2 then
  some (.inr s.1)
  else
  if inb s.2.2 6 then
    if (m.1 (x0 + 8) s.2.2.toNatClampNeg) = 0 then
      some (.inl ((if s.1 < 0 then 0 else s.1), 0, (s.2.2 + 1)))
      else
      if s.2.1 ≤ 0 then
        some (.inl ((if s.1 < 1 then 1 else s.1), 1, (s.2.2 + 1)))
        else
        (f_X0_thinsFrom m x0 (s.2.2 - 1) s.2.2).bind fun v1 =>
          if v1 = 0 then
            some (.inl ((if s.1 < 1 then 1 else s.1), 1, (s.2.2 + 1)))
            else
            some (.inl ((if s.1 < (s.2.1 + 1) then (s.2.1 + 1) else s.1), (s.2.1 + 1), (s.2.2 + 1)))
    else none
theorem x_X0_longestThinning_b6 {d : Nat} (hd : 1 ≤ d) {n : Nat} {o r : Nat} {m : Mm} {x0 : Nat} (hx0 : isF x0) {s : Int32 × Int32 × Int32} {out : (Int32 × Int32 × Int32) ⊕ (Int32)} (hf : f_X0_longestThinning_b6 n m x0 s = some out) {R : Option Value × Hp} (k1 : ∀ s', out = .inl s' → Ex d none 6 6 [some (.ref x0), some (.int s'.1), some (.int s'.2.1), some (.int s'.2.2)] [] (Hm o r m) R) (k2 : ∀ t, out = .inr t → Ex d none 6 63 [none, some (.int t), none, none] [] (Hm o r m) R) : Ex d none 6 6 [some (.ref x0), some (.int s.1), some (.int s.2.1), some (.int s.2.2)] [] (Hm o r m) R := by
  unfold f_X0_longestThinning_b6 at hf
  refine Ex.go (pc' := 8) (ls' := [some (.ref x0), some (.int s.1), some (.int s.2.1), some (.int s.2.2)]) (st' := [.ref x0, .int s.2.2]) (h' := Hm o r m) 2 rfl ?_
  refine Ex.get0 rfl rfl (gI_ok (sh_F hx0)) ?_
  by_cases hc2 : (m.1 x0 0) ≤ s.2.2
  · replace hf := (if_pos hc2).symm.trans hf
    refine Ex.ic_ge_t rfl hc2 ?_
    refine Ex.wk (l := [none, some (.int s.1), none, none]) ⟨rfl, trivial⟩ ?_
    cases hf
    exact k2 _ rfl
  · replace hf := (if_neg hc2).symm.trans hf
    refine Ex.ic_ge_f rfl hc2 ?_
    refine Ex.go (pc' := 15) (ls' := [some (.ref x0), some (.int s.1), some (.int s.2.1), some (.int s.2.2)]) (st' := [.ref x0]) (h' := Hm o r m) 1 rfl ?_
    refine Ex.get2 rfl rfl (z_F3 hx0) ?_
    refine Ex.go (pc' := 19) (ls' := [some (.ref x0), some (.int s.1), some (.int s.2.1), some (.int s.2.2)]) (st' := [.int s.2.2, .ref (x0 + 8)]) (h' := Hm o r m) 1 rfl ?_
    by_cases hc3 : inb s.2.2 6
    · replace hf := (if_pos hc3).symm.trans hf
      refine Ex.iald rfl (sh_F8 hx0) hc3 ?_
      by_cases hc4 : (m.1 (x0 + 8) s.2.2.toNatClampNeg) = 0
      · replace hf := (if_pos hc4).symm.trans hf
        refine Ex.if_ne_t rfl hc4 ?_
        refine Ex.go (pc' := 53) (ls' := [some (.ref x0), some (.int s.1), some (.int 0), some (.int s.2.2)]) (st' := [.int 0, .int s.1]) (h' := Hm o r m) 5 rfl ?_
        refine Ex.intr rfl rfl (kd := 5) rfl (by omega) rfl ?_
        refine Ex.go (pc' := 6) (ls' := [some (.ref x0), some (.int (if s.1 < 0 then 0 else s.1)), some (.int 0), some (.int (s.2.2 + 1))]) (st' := []) (h' := Hm o r m) 3 rfl ?_
        cases hf
        exact k1 _ rfl
      · replace hf := (if_neg hc4).symm.trans hf
        refine Ex.if_ne_f rfl hc4 ?_
        refine Ex.go (pc' := 29) (ls' := [some (.ref x0), some (.int s.1), some (.int s.2.1), some (.int s.2.2)]) (st' := [.int s.2.1]) (h' := Hm o r m) 1 rfl ?_
        by_cases hc5 : s.2.1 ≤ 0
        · replace hf := (if_pos hc5).symm.trans hf
          refine Ex.if_le_t rfl hc5 ?_
          refine Ex.go (pc' := 53) (ls' := [some (.ref x0), some (.int s.1), some (.int 1), some (.int s.2.2)]) (st' := [.int 1, .int s.1]) (h' := Hm o r m) 4 rfl ?_
          refine Ex.intr rfl rfl (kd := 5) rfl (by omega) rfl ?_
          refine Ex.go (pc' := 6) (ls' := [some (.ref x0), some (.int (if s.1 < 1 then 1 else s.1)), some (.int 1), some (.int (s.2.2 + 1))]) (st' := []) (h' := Hm o r m) 3 rfl ?_
          cases hf
          exact k1 _ rfl
        · replace hf := (if_neg hc5).symm.trans hf
          refine Ex.if_le_f rfl hc5 ?_
          refine Ex.go (pc' := 37) (ls' := [some (.ref x0), some (.int s.1), some (.int s.2.1), some (.int s.2.2)]) (st' := [.int s.2.2, .int (s.2.2 - 1), .ref x0]) (h' := Hm o r m) 5 rfl ?_
          obtain ⟨v1, hv1, hf⟩ := bsome hf
          refine Ex.callV rfl rfl (by decide) (by omega) rfl (rcv_ok (sh_F hx0)) (x_X0_thinsFrom (d := d - 1) (by omega) hx0 hv1) ?_
          refine Ex.go (pc' := 40) (ls' := [some (.ref x0), some (.int s.1), some (.int s.2.1), some (.int s.2.2)]) (st' := [.int v1]) (h' := Hm o r m) 0 rfl ?_
          by_cases hc6 : v1 = 0
          · replace hf := (if_pos hc6).symm.trans hf
            refine Ex.if_eq_t rfl hc6 ?_
            refine Ex.go (pc' := 53) (ls' := [some (.ref x0), some (.int s.1), some (.int 1), some (.int s.2.2)]) (st' := [.int 1, .int s.1]) (h' := Hm o r m) 4 rfl ?_
            refine Ex.intr rfl rfl (kd := 5) rfl (by omega) rfl ?_
            refine Ex.go (pc' := 6) (ls' := [some (.ref x0), some (.int (if s.1 < 1 then 1 else s.1)), some (.int 1), some (.int (s.2.2 + 1))]) (st' := []) (h' := Hm o r m) 3 rfl ?_
            cases hf
            exact k1 _ rfl
          · replace hf := (if_neg hc6).symm.trans hf
            refine Ex.if_eq_f rfl hc6 ?_
            refine Ex.go (pc' := 53) (ls' := [some (.ref x0), some (.int s.1), some (.int (s.2.1 + 1)), some (.int s.2.2)]) (st' := [.int (s.2.1 + 1), .int s.1]) (h' := Hm o r m) 4 rfl ?_
            refine Ex.intr rfl rfl (kd := 5) rfl (by omega) rfl ?_
            refine Ex.go (pc' := 6) (ls' := [some (.ref x0), some (.int (if s.1 < (s.2.1 + 1) then (s.2.1 + 1) else s.1)), some (.int (s.2.1 + 1)), some (.int (s.2.2 + 1))]) (st' := []) (h' := Hm o r m) 3 rfl ?_
            cases hf
            exact k1 _ rfl
    · replace hf := (if_neg hc3).symm.trans hf
      cases hf
theorem x_X0_longestThinning_b6_loop {d : Nat} (hd : 1 ≤ d) {n : Nat} {o r : Nat} {m : Mm} {x0 : Nat} (hx0 : isF x0) {k : Nat} {s : Int32 × Int32 × Int32} {e : Int32} (hf : itr (f_X0_longestThinning_b6 n m x0) k s = some e) {R : Option Value × Hp} (k2 : ∀ t, e = t → Ex d none 6 63 [none, some (.int t), none, none] [] (Hm o r m) R) : Ex d none 6 6 [some (.ref x0), some (.int s.1), some (.int s.2.1), some (.int s.2.2)] [] (Hm o r m) R := by
  induction k generalizing s with
  | zero => cases hf
  | succ k ih =>
    cases hb : f_X0_longestThinning_b6 n m x0 s with
    | none =>
      have h9 := (itr_none (k := k) hb).symm.trans hf
      cases h9
    | some out =>
      cases out with
      | inl s' =>
        have h9 := (itr_inl (k := k) hb).symm.trans hf
        exact x_X0_longestThinning_b6 hd hx0 hb (fun s'' h => by cases h; exact ih h9) (fun t h => by cases h)
      | inr e' =>
        have h9 := (itr_inr (k := k) hb).symm.trans hf
        cases h9
        exact x_X0_longestThinning_b6 hd hx0 hb (fun s'' h => by cases h) (fun t h => k2 t (Sum.inr.inj h))
def f_X0_longestThinning (n : Nat) (m : Mm) (a : Nat) : Option Int32 := (itr (f_X0_longestThinning_b6 n m a) n ((0, 0, 0) : Int32 × Int32 × Int32)).bind fun e7 =>
  some e7
theorem x_X0_longestThinning {d : Nat} (hd : 1 ≤ d) {n : Nat} {o r : Nat} {m : Mm} {a : Nat} (ha : isF a) {out : Int32} (hf : f_X0_longestThinning n m a = some out) : Ex d none 6 0 [some (.ref a), none, none, none] [] (Hm o r m) (some (.int out), Hm o r m) := by
  unfold f_X0_longestThinning at hf
  refine Ex.go (pc' := 6) (ls' := [some (.ref a), some (.int 0), some (.int 0), some (.int 0)]) (st' := []) (h' := Hm o r m) 6 rfl ?_
  obtain ⟨e7, he7, hf⟩ := bsome hf
  refine x_X0_longestThinning_b6_loop hd ha he7 (fun t ht => ?_)
  · cases ht
    refine Ex.go (pc' := 64) (ls' := [none, some (.int e7), none, none]) (st' := [.int e7]) (h' := Hm o r m) 1 rfl ?_
    cases hf
    exact Ex.ret rfl rfl
def f_X0_addBeam (m : Mm) (a : Nat) (p0 : Int32) (p1 : Int32) : Option Mm := if inb (m.1 a 5) 8 then
  if inb ((mX m (a + 10) (m.1 a 5).toNatClampNeg p0).1 a 5) 8 then
    some (mX (mX (mX m (a + 10) (m.1 a 5).toNatClampNeg p0) (a + 11) ((mX m (a + 10) (m.1 a 5).toNatClampNeg p0).1 a 5).toNatClampNeg p1) a 5 (((mX (mX m (a + 10) (m.1 a 5).toNatClampNeg p0) (a + 11) ((mX m (a + 10) (m.1 a 5).toNatClampNeg p0).1 a 5).toNatClampNeg p1).1 a 5) + 1))
    else none
  else none
theorem x_X0_addBeam {d : Nat} (hd : 0 ≤ d) {o r : Nat} {m : Mm} {a : Nat} {p0 : Int32} {p1 : Int32} (ha : isF a) {out : Mm} (hf : f_X0_addBeam m a p0 p1 = some out) : Ex d none 7 0 [some (.ref a), some (.int p0), some (.int p1)] [] (Hm o r m) (none, Hm o r out) := by
  unfold f_X0_addBeam at hf
  refine Ex.go (pc' := 1) (ls' := [some (.ref a), some (.int p0), some (.int p1)]) (st' := [.ref a]) (h' := Hm o r m) 1 rfl ?_
  refine Ex.get2 rfl rfl (z_F6 ha) ?_
  refine Ex.go (pc' := 5) (ls' := [some (.ref a), some (.int p0), some (.int p1)]) (st' := [.ref a, .ref (a + 10)]) (h' := Hm o r m) 1 rfl ?_
  refine Ex.get0 rfl rfl (gI_ok (sh_F ha)) ?_
  refine Ex.go (pc' := 9) (ls' := [some (.ref a), some (.int p0), some (.int p1)]) (st' := [.int p0, .int (m.1 a 5), .ref (a + 10)]) (h' := Hm o r m) 1 rfl ?_
  by_cases hc1 : inb (m.1 a 5) 8
  · replace hf := (if_pos hc1).symm.trans hf
    refine Ex.iast rfl (sh_F10 ha) hc1 ?_
    refine Ex.go (pc' := 11) (ls' := [some (.ref a), some (.int p0), some (.int p1)]) (st' := [.ref a]) (h' := Hm o r (mX m (a + 10) (m.1 a 5).toNatClampNeg p0)) 1 rfl ?_
    refine Ex.get2 rfl rfl (z_F7 ha) ?_
    refine Ex.go (pc' := 15) (ls' := [some (.ref a), some (.int p0), some (.int p1)]) (st' := [.ref a, .ref (a + 11)]) (h' := Hm o r (mX m (a + 10) (m.1 a 5).toNatClampNeg p0)) 1 rfl ?_
    refine Ex.get0 rfl rfl (gI_ok (sh_F ha)) ?_
    refine Ex.go (pc' := 19) (ls' := [some (.ref a), some (.int p0), some (.int p1)]) (st' := [.int p1, .int ((mX m (a + 10) (m.1 a 5).toNatClampNeg p0).1 a 5), .ref (a + 11)]) (h' := Hm o r (mX m (a + 10) (m.1 a 5).toNatClampNeg p0)) 1 rfl ?_
    by_cases hc2 : inb ((mX m (a + 10) (m.1 a 5).toNatClampNeg p0).1 a 5) 8
    · replace hf := (if_pos hc2).symm.trans hf
      refine Ex.iast rfl (sh_F11 ha) hc2 ?_
      refine Ex.go (pc' := 22) (ls' := [some (.ref a), some (.int p0), some (.int p1)]) (st' := [.ref a, .ref a]) (h' := Hm o r (mX (mX m (a + 10) (m.1 a 5).toNatClampNeg p0) (a + 11) ((mX m (a + 10) (m.1 a 5).toNatClampNeg p0).1 a 5).toNatClampNeg p1)) 2 rfl ?_
      refine Ex.get0 rfl rfl (gI_ok (sh_F ha)) ?_
      refine Ex.go (pc' := 27) (ls' := [some (.ref a), some (.int p0), some (.int p1)]) (st' := [.int (((mX (mX m (a + 10) (m.1 a 5).toNatClampNeg p0) (a + 11) ((mX m (a + 10) (m.1 a 5).toNatClampNeg p0).1 a 5).toNatClampNeg p1).1 a 5) + 1), .ref a]) (h' := Hm o r (mX (mX m (a + 10) (m.1 a 5).toNatClampNeg p0) (a + 11) ((mX m (a + 10) (m.1 a 5).toNatClampNeg p0).1 a 5).toNatClampNeg p1)) 2 rfl ?_
      refine Ex.put0 rfl rfl (pI_ok (sh_F ha)) ?_
      cases hf
      exact Ex.ret rfl rfl
    · replace hf := (if_neg hc2).symm.trans hf
      cases hf
  · replace hf := (if_neg hc1).symm.trans hf
    cases hf
def f_X0_latestCutUpTo_b5 (n : Nat) (m : Mm) (x0 : Nat) (x1 : Int32) (s : Int32 × Int32) : Option ((Int32 × Int32) ⊕ (Int32)) := if (m.1 x0 5) ≤ s.2 then
  some (.inr s.1)
  else
  if inb s.2 8 then
    if x1 < (m.1 (x0 + 10) s.2.toNatClampNeg) then
      some (.inl (s.1, (s.2 + 1)))
      else
      if inb s.2 8 then
        some (.inl ((if s.1 < (m.1 (x0 + 11) s.2.toNatClampNeg) then (m.1 (x0 + 11) s.2.toNatClampNeg) else s.1), (s.2 + 1)))
        else none
    else none
theorem x_X0_latestCutUpTo_b5 {d : Nat} (hd : 1 ≤ d) {n : Nat} {o r : Nat} {m : Mm} {x0 : Nat} {x1 : Int32} (hx0 : isF x0) {s : Int32 × Int32} {out : (Int32 × Int32) ⊕ (Int32)} (hf : f_X0_latestCutUpTo_b5 n m x0 x1 s = some out) {R : Option Value × Hp} (k1 : ∀ s', out = .inl s' → Ex d none 8 5 [some (.ref x0), some (.int x1), some (.int s'.1), some (.int s'.2)] [] (Hm o r m) R) (k2 : ∀ t, out = .inr t → Ex d none 8 40 [none, none, some (.int t), none] [] (Hm o r m) R) : Ex d none 8 5 [some (.ref x0), some (.int x1), some (.int s.1), some (.int s.2)] [] (Hm o r m) R := by
  unfold f_X0_latestCutUpTo_b5 at hf
  refine Ex.go (pc' := 7) (ls' := [some (.ref x0), some (.int x1), some (.int s.1), some (.int s.2)]) (st' := [.ref x0, .int s.2]) (h' := Hm o r m) 2 rfl ?_
  refine Ex.get0 rfl rfl (gI_ok (sh_F hx0)) ?_
  by_cases hc1 : (m.1 x0 5) ≤ s.2
  · replace hf := (if_pos hc1).symm.trans hf
    refine Ex.ic_ge_t rfl hc1 ?_
    refine Ex.wk (l := [none, none, some (.int s.1), none]) ⟨rfl, trivial⟩ ?_
    cases hf
    exact k2 _ rfl
  · replace hf := (if_neg hc1).symm.trans hf
    refine Ex.ic_ge_f rfl hc1 ?_
    refine Ex.go (pc' := 14) (ls' := [some (.ref x0), some (.int x1), some (.int s.1), some (.int s.2)]) (st' := [.ref x0]) (h' := Hm o r m) 1 rfl ?_
    refine Ex.get2 rfl rfl (z_F6 hx0) ?_
    refine Ex.go (pc' := 18) (ls' := [some (.ref x0), some (.int x1), some (.int s.1), some (.int s.2)]) (st' := [.int s.2, .ref (x0 + 10)]) (h' := Hm o r m) 1 rfl ?_
    by_cases hc2 : inb s.2 8
    · replace hf := (if_pos hc2).symm.trans hf
      refine Ex.iald rfl (sh_F10 hx0) hc2 ?_
      refine Ex.go (pc' := 20) (ls' := [some (.ref x0), some (.int x1), some (.int s.1), some (.int s.2)]) (st' := [.int x1, .int (m.1 (x0 + 10) s.2.toNatClampNeg)]) (h' := Hm o r m) 1 rfl ?_
      by_cases hc3 : x1 < (m.1 (x0 + 10) s.2.toNatClampNeg)
      · replace hf := (if_pos hc3).symm.trans hf
        refine Ex.ic_gt_t rfl hc3 ?_
        refine Ex.go (pc' := 5) (ls' := [some (.ref x0), some (.int x1), some (.int s.1), some (.int (s.2 + 1))]) (st' := []) (h' := Hm o r m) 2 rfl ?_
        cases hf
        exact k1 _ rfl
      · replace hf := (if_neg hc3).symm.trans hf
        refine Ex.ic_gt_f rfl hc3 ?_
        refine Ex.go (pc' := 25) (ls' := [some (.ref x0), some (.int x1), some (.int s.1), some (.int s.2)]) (st' := [.ref x0, .int s.1]) (h' := Hm o r m) 2 rfl ?_
        refine Ex.get2 rfl rfl (z_F7 hx0) ?_
        refine Ex.go (pc' := 29) (ls' := [some (.ref x0), some (.int x1), some (.int s.1), some (.int s.2)]) (st' := [.int s.2, .ref (x0 + 11), .int s.1]) (h' := Hm o r m) 1 rfl ?_
        by_cases hc4 : inb s.2 8
        · replace hf := (if_pos hc4).symm.trans hf
          refine Ex.iald rfl (sh_F11 hx0) hc4 ?_
          refine Ex.intr rfl rfl (kd := 5) rfl (by omega) rfl ?_
          refine Ex.go (pc' := 5) (ls' := [some (.ref x0), some (.int x1), some (.int (if s.1 < (m.1 (x0 + 11) s.2.toNatClampNeg) then (m.1 (x0 + 11) s.2.toNatClampNeg) else s.1)), some (.int (s.2 + 1))]) (st' := []) (h' := Hm o r m) 3 rfl ?_
          cases hf
          exact k1 _ rfl
        · replace hf := (if_neg hc4).symm.trans hf
          cases hf
    · replace hf := (if_neg hc2).symm.trans hf
      cases hf
theorem x_X0_latestCutUpTo_b5_loop {d : Nat} (hd : 1 ≤ d) {n : Nat} {o r : Nat} {m : Mm} {x0 : Nat} {x1 : Int32} (hx0 : isF x0) {k : Nat} {s : Int32 × Int32} {e : Int32} (hf : itr (f_X0_latestCutUpTo_b5 n m x0 x1) k s = some e) {R : Option Value × Hp} (k2 : ∀ t, e = t → Ex d none 8 40 [none, none, some (.int t), none] [] (Hm o r m) R) : Ex d none 8 5 [some (.ref x0), some (.int x1), some (.int s.1), some (.int s.2)] [] (Hm o r m) R := by
  induction k generalizing s with
  | zero => cases hf
  | succ k ih =>
    cases hb : f_X0_latestCutUpTo_b5 n m x0 x1 s with
    | none =>
      have h9 := (itr_none (k := k) hb).symm.trans hf
      cases h9
    | some out =>
      cases out with
      | inl s' =>
        have h9 := (itr_inl (k := k) hb).symm.trans hf
        exact x_X0_latestCutUpTo_b5 hd hx0 hb (fun s'' h => by cases h; exact ih h9) (fun t h => by cases h)
      | inr e' =>
        have h9 := (itr_inr (k := k) hb).symm.trans hf
        cases h9
        exact x_X0_latestCutUpTo_b5 hd hx0 hb (fun s'' h => by cases h) (fun t h => k2 t (Sum.inr.inj h))
def f_X0_latestCutUpTo (n : Nat) (m : Mm) (a : Nat) (p0 : Int32) : Option Int32 := (itr (f_X0_latestCutUpTo_b5 n m a p0) n (((-9), 0) : Int32 × Int32)).bind fun e5 =>
  some e5
theorem x_X0_latestCutUpTo {d : Nat} (hd : 1 ≤ d) {n : Nat} {o r : Nat} {m : Mm} {a : Nat} {p0 : Int32} (ha : isF a) {out : Int32} (hf : f_X0_latestCutUpTo n m a p0 = some out) : Ex d none 8 0 [some (.ref a), some (.int p0), none, none] [] (Hm o r m) (some (.int out), Hm o r m) := by
  unfold f_X0_latestCutUpTo at hf
  refine Ex.go (pc' := 5) (ls' := [some (.ref a), some (.int p0), some (.int (-9)), some (.int 0)]) (st' := []) (h' := Hm o r m) 4 rfl ?_
  obtain ⟨e5, he5, hf⟩ := bsome hf
  refine x_X0_latestCutUpTo_b5_loop hd ha he5 (fun t ht => ?_)
  · cases ht
    refine Ex.go (pc' := 41) (ls' := [none, none, some (.int e5), none]) (st' := [.int e5]) (h' := Hm o r m) 1 rfl ?_
    cases hf
    exact Ex.ret rfl rfl
def f_X0_becomeLike_b26 (n : Nat) (x0 : Nat) (x1 : Nat) (s : Int32 × Mm) : Option ((Int32 × Mm) ⊕ (Mm)) := if (6 : Int32) ≤ s.1 then
  some (.inr s.2)
  else
  if inb s.1 6 then
    if inb s.1 6 then
      some (.inl ((s.1 + 1), (mRw s.2 (x0 + 2 + s.1.toNatClampNeg) (va_cpy (s.2.1 (x1 + 2 + s.1.toNatClampNeg)) (s.2.1 (x0 + 2 + s.1.toNatClampNeg)) (0 : Int32).toNatClampNeg (0 : Int32).toNatClampNeg (7 : Int32).toNatClampNeg))))
      else none
    else none
theorem x_X0_becomeLike_b26 {d : Nat} (hd : 1 ≤ d) {n : Nat} {o r : Nat} {x0 : Nat} {x1 : Nat} (hx0 : isF x0) (hx1 : isF x1) {s : Int32 × Mm} {out : (Int32 × Mm) ⊕ (Mm)} (hf : f_X0_becomeLike_b26 n x0 x1 s = some out) {R : Option Value × Hp} (k1 : ∀ s', out = .inl s' → Ex d none 9 26 [some (.ref x0), some (.ref x1), some (.int s'.1)] [] (Hm o r s'.2) R) (k2 : ∀ t, out = .inr t → Ex d none 9 57 [some (.ref x0), some (.ref x1), none] [] (Hm o r t) R) : Ex d none 9 26 [some (.ref x0), some (.ref x1), some (.int s.1)] [] (Hm o r s.2) R := by
  unfold f_X0_becomeLike_b26 at hf
  refine Ex.go (pc' := 29) (ls' := [some (.ref x0), some (.ref x1), some (.int s.1)]) (st' := [.int 6, .int s.1]) (h' := Hm o r s.2) 2 rfl ?_
  by_cases hc3 : (6 : Int32) ≤ s.1
  · replace hf := (if_pos hc3).symm.trans hf
    refine Ex.ic_ge_t rfl hc3 ?_
    refine Ex.wk (l := [some (.ref x0), some (.ref x1), none]) ⟨rfl, ⟨rfl, trivial⟩⟩ ?_
    cases hf
    exact k2 _ rfl
  · replace hf := (if_neg hc3).symm.trans hf
    refine Ex.ic_ge_f rfl hc3 ?_
    refine Ex.go (pc' := 33) (ls' := [some (.ref x0), some (.ref x1), some (.int s.1)]) (st' := [.ref x1]) (h' := Hm o r s.2) 1 rfl ?_
    refine Ex.get2 rfl rfl (z_F1 hx1) ?_
    refine Ex.go (pc' := 37) (ls' := [some (.ref x0), some (.ref x1), some (.int s.1)]) (st' := [.int s.1, .ref (x1 + 1)]) (h' := Hm o r s.2) 1 rfl ?_
    by_cases hc1 : inb s.1 6
    · replace hf := (if_pos hc1).symm.trans hf
      refine Ex.aald rfl (eR_F hx1 hc1) ?_
      refine Ex.go (pc' := 40) (ls' := [some (.ref x0), some (.ref x1), some (.int s.1)]) (st' := [.ref x0, .int 0, .ref (x1 + 2 + s.1.toNatClampNeg)]) (h' := Hm o r s.2) 2 rfl ?_
      refine Ex.get2 rfl rfl (z_F1 hx0) ?_
      refine Ex.go (pc' := 44) (ls' := [some (.ref x0), some (.ref x1), some (.int s.1)]) (st' := [.int s.1, .ref (x0 + 1), .int 0, .ref (x1 + 2 + s.1.toNatClampNeg)]) (h' := Hm o r s.2) 1 rfl ?_
      by_cases hc2 : inb s.1 6
      · replace hf := (if_pos hc2).symm.trans hf
        refine Ex.aald rfl (eR_F hx0 hc2) ?_
        refine Ex.go (pc' := 48) (ls' := [some (.ref x0), some (.ref x1), some (.int s.1)]) (st' := [.int 7, .int 0, .ref (x0 + 2 + s.1.toNatClampNeg), .int 0, .ref (x1 + 2 + s.1.toNatClampNeg)]) (h' := Hm o r s.2) 2 rfl ?_
        refine Ex.acopy rfl (by omega) (sh_Fr hx1 hc1) (sh_Fr hx0 hc2) (by decide) rfl ?_
        refine Ex.go (pc' := 26) (ls' := [some (.ref x0), some (.ref x1), some (.int (s.1 + 1))]) (st' := []) (h' := Hm o r (mRw s.2 (x0 + 2 + s.1.toNatClampNeg) (va_cpy (s.2.1 (x1 + 2 + s.1.toNatClampNeg)) (s.2.1 (x0 + 2 + s.1.toNatClampNeg)) (0 : Int32).toNatClampNeg (0 : Int32).toNatClampNeg (7 : Int32).toNatClampNeg))) 2 rfl ?_
        cases hf
        exact k1 _ rfl
      · replace hf := (if_neg hc2).symm.trans hf
        cases hf
    · replace hf := (if_neg hc1).symm.trans hf
      cases hf
theorem x_X0_becomeLike_b26_loop {d : Nat} (hd : 1 ≤ d) {n : Nat} {o r : Nat} {x0 : Nat} {x1 : Nat} (hx0 : isF x0) (hx1 : isF x1) {k : Nat} {s : Int32 × Mm} {e : Mm} (hf : itr (f_X0_becomeLike_b26 n x0 x1) k s = some e) {R : Option Value × Hp} (k2 : ∀ t, e = t → Ex d none 9 57 [some (.ref x0), some (.ref x1), none] [] (Hm o r t) R) : Ex d none 9 26 [some (.ref x0), some (.ref x1), some (.int s.1)] [] (Hm o r s.2) R := by
  induction k generalizing s with
  | zero => cases hf
  | succ k ih =>
    cases hb : f_X0_becomeLike_b26 n x0 x1 s with
    | none =>
      have h9 := (itr_none (k := k) hb).symm.trans hf
      cases h9
    | some out =>
      cases out with
      | inl s' =>
        have h9 := (itr_inl (k := k) hb).symm.trans hf
        exact x_X0_becomeLike_b26 hd hx0 hx1 hb (fun s'' h => by cases h; exact ih h9) (fun t h => by cases h)
      | inr e' =>
        have h9 := (itr_inr (k := k) hb).symm.trans hf
        cases h9
        exact x_X0_becomeLike_b26 hd hx0 hx1 hb (fun s'' h => by cases h) (fun t h => k2 t (Sum.inr.inj h))
def f_X0_becomeLike (n : Nat) (m : Mm) (a : Nat) (p0 : Nat) : Option Mm := (itr (f_X0_becomeLike_b26 n a p0) n ((0, (mX (mX (mX m a 0 (m.1 p0 0)) a 2 ((mX m a 0 (m.1 p0 0)).1 p0 2)) a 5 ((mX (mX m a 0 (m.1 p0 0)) a 2 ((mX m a 0 (m.1 p0 0)).1 p0 2)).1 p0 5))) : Int32 × Mm)).bind fun e4 =>
  some (mRw (mRw (mRw (mRw e4 (a + 8) (va_cpy (e4.1 (p0 + 8)) (e4.1 (a + 8)) (0 : Int32).toNatClampNeg (0 : Int32).toNatClampNeg (6 : Int32).toNatClampNeg)) (a + 9) (va_cpy ((mRw e4 (a + 8) (va_cpy (e4.1 (p0 + 8)) (e4.1 (a + 8)) (0 : Int32).toNatClampNeg (0 : Int32).toNatClampNeg (6 : Int32).toNatClampNeg)).1 (p0 + 9)) ((mRw e4 (a + 8) (va_cpy (e4.1 (p0 + 8)) (e4.1 (a + 8)) (0 : Int32).toNatClampNeg (0 : Int32).toNatClampNeg (6 : Int32).toNatClampNeg)).1 (a + 9)) (0 : Int32).toNatClampNeg (0 : Int32).toNatClampNeg (6 : Int32).toNatClampNeg)) (a + 10) (va_cpy ((mRw (mRw e4 (a + 8) (va_cpy (e4.1 (p0 + 8)) (e4.1 (a + 8)) (0 : Int32).toNatClampNeg (0 : Int32).toNatClampNeg (6 : Int32).toNatClampNeg)) (a + 9) (va_cpy ((mRw e4 (a + 8) (va_cpy (e4.1 (p0 + 8)) (e4.1 (a + 8)) (0 : Int32).toNatClampNeg (0 : Int32).toNatClampNeg (6 : Int32).toNatClampNeg)).1 (p0 + 9)) ((mRw e4 (a + 8) (va_cpy (e4.1 (p0 + 8)) (e4.1 (a + 8)) (0 : Int32).toNatClampNeg (0 : Int32).toNatClampNeg (6 : Int32).toNatClampNeg)).1 (a + 9)) (0 : Int32).toNatClampNeg (0 : Int32).toNatClampNeg (6 : Int32).toNatClampNeg)).1 (p0 + 10)) ((mRw (mRw e4 (a + 8) (va_cpy (e4.1 (p0 + 8)) (e4.1 (a + 8)) (0 : Int32).toNatClampNeg (0 : Int32).toNatClampNeg (6 : Int32).toNatClampNeg)) (a + 9) (va_cpy ((mRw e4 (a + 8) (va_cpy (e4.1 (p0 + 8)) (e4.1 (a + 8)) (0 : Int32).toNatClampNeg (0 : Int32).toNatClampNeg (6 : Int32).toNatClampNeg)).1 (p0 + 9)) ((mRw e4 (a + 8) (va_cpy (e4.1 (p0 + 8)) (e4.1 (a + 8)) (0 : Int32).toNatClampNeg (0 : Int32).toNatClampNeg (6 : Int32).toNatClampNeg)).1 (a + 9)) (0 : Int32).toNatClampNeg (0 : Int32).toNatClampNeg (6 : Int32).toNatClampNeg)).1 (a + 10)) (0 : Int32).toNatClampNeg (0 : Int32).toNatClampNeg (8 : Int32).toNatClampNeg)) (a + 11) (va_cpy ((mRw (mRw (mRw e4 (a + 8) (va_cpy (e4.1 (p0 + 8)) (e4.1 (a + 8)) (0 : Int32).toNatClampNeg (0 : Int32).toNatClampNeg (6 : Int32).toNatClampNeg)) (a + 9) (va_cpy ((mRw e4 (a + 8) (va_cpy (e4.1 (p0 + 8)) (e4.1 (a + 8)) (0 : Int32).toNatClampNeg (0 : Int32).toNatClampNeg (6 : Int32).toNatClampNeg)).1 (p0 + 9)) ((mRw e4 (a + 8) (va_cpy (e4.1 (p0 + 8)) (e4.1 (a + 8)) (0 : Int32).toNatClampNeg (0 : Int32).toNatClampNeg (6 : Int32).toNatClampNeg)).1 (a + 9)) (0 : Int32).toNatClampNeg (0 : Int32).toNatClampNeg (6 : Int32).toNatClampNeg)) (a + 10) (va_cpy ((mRw (mRw e4 (a + 8) (va_cpy (e4.1 (p0 + 8)) (e4.1 (a + 8)) (0 : Int32).toNatClampNeg (0 : Int32).toNatClampNeg (6 : Int32).toNatClampNeg)) (a + 9) (va_cpy ((mRw e4 (a + 8) (va_cpy (e4.1 (p0 + 8)) (e4.1 (a + 8)) (0 : Int32).toNatClampNeg (0 : Int32).toNatClampNeg (6 : Int32).toNatClampNeg)).1 (p0 + 9)) ((mRw e4 (a + 8) (va_cpy (e4.1 (p0 + 8)) (e4.1 (a + 8)) (0 : Int32).toNatClampNeg (0 : Int32).toNatClampNeg (6 : Int32).toNatClampNeg)).1 (a + 9)) (0 : Int32).toNatClampNeg (0 : Int32).toNatClampNeg (6 : Int32).toNatClampNeg)).1 (p0 + 10)) ((mRw (mRw e4 (a + 8) (va_cpy (e4.1 (p0 + 8)) (e4.1 (a + 8)) (0 : Int32).toNatClampNeg (0 : Int32).toNatClampNeg (6 : Int32).toNatClampNeg)) (a + 9) (va_cpy ((mRw e4 (a + 8) (va_cpy (e4.1 (p0 + 8)) (e4.1 (a + 8)) (0 : Int32).toNatClampNeg (0 : Int32).toNatClampNeg (6 : Int32).toNatClampNeg)).1 (p0 + 9)) ((mRw e4 (a + 8) (va_cpy (e4.1 (p0 + 8)) (e4.1 (a + 8)) (0 : Int32).toNatClampNeg (0 : Int32).toNatClampNeg (6 : Int32).toNatClampNeg)).1 (a + 9)) (0 : Int32).toNatClampNeg (0 : Int32).toNatClampNeg (6 : Int32).toNatClampNeg)).1 (a + 10)) (0 : Int32).toNatClampNeg (0 : Int32).toNatClampNeg (8 : Int32).toNatClampNeg)).1 (p0 + 11)) ((mRw (mRw (mRw e4 (a + 8) (va_cpy (e4.1 (p0 + 8)) (e4.1 (a + 8)) (0 : Int32).toNatClampNeg (0 : Int32).toNatClampNeg (6 : Int32).toNatClampNeg)) (a + 9) (va_cpy ((mRw e4 (a + 8) (va_cpy (e4.1 (p0 + 8)) (e4.1 (a + 8)) (0 : Int32).toNatClampNeg (0 : Int32).toNatClampNeg (6 : Int32).toNatClampNeg)).1 (p0 + 9)) ((mRw e4 (a + 8) (va_cpy (e4.1 (p0 + 8)) (e4.1 (a + 8)) (0 : Int32).toNatClampNeg (0 : Int32).toNatClampNeg (6 : Int32).toNatClampNeg)).1 (a + 9)) (0 : Int32).toNatClampNeg (0 : Int32).toNatClampNeg (6 : Int32).toNatClampNeg)) (a + 10) (va_cpy ((mRw (mRw e4 (a + 8) (va_cpy (e4.1 (p0 + 8)) (e4.1 (a + 8)) (0 : Int32).toNatClampNeg (0 : Int32).toNatClampNeg (6 : Int32).toNatClampNeg)) (a + 9) (va_cpy ((mRw e4 (a + 8) (va_cpy (e4.1 (p0 + 8)) (e4.1 (a + 8)) (0 : Int32).toNatClampNeg (0 : Int32).toNatClampNeg (6 : Int32).toNatClampNeg)).1 (p0 + 9)) ((mRw e4 (a + 8) (va_cpy (e4.1 (p0 + 8)) (e4.1 (a + 8)) (0 : Int32).toNatClampNeg (0 : Int32).toNatClampNeg (6 : Int32).toNatClampNeg)).1 (a + 9)) (0 : Int32).toNatClampNeg (0 : Int32).toNatClampNeg (6 : Int32).toNatClampNeg)).1 (p0 + 10)) ((mRw (mRw e4 (a + 8) (va_cpy (e4.1 (p0 + 8)) (e4.1 (a + 8)) (0 : Int32).toNatClampNeg (0 : Int32).toNatClampNeg (6 : Int32).toNatClampNeg)) (a + 9) (va_cpy ((mRw e4 (a + 8) (va_cpy (e4.1 (p0 + 8)) (e4.1 (a + 8)) (0 : Int32).toNatClampNeg (0 : Int32).toNatClampNeg (6 : Int32).toNatClampNeg)).1 (p0 + 9)) ((mRw e4 (a + 8) (va_cpy (e4.1 (p0 + 8)) (e4.1 (a + 8)) (0 : Int32).toNatClampNeg (0 : Int32).toNatClampNeg (6 : Int32).toNatClampNeg)).1 (a + 9)) (0 : Int32).toNatClampNeg (0 : Int32).toNatClampNeg (6 : Int32).toNatClampNeg)).1 (a + 10)) (0 : Int32).toNatClampNeg (0 : Int32).toNatClampNeg (8 : Int32).toNatClampNeg)).1 (a + 11)) (0 : Int32).toNatClampNeg (0 : Int32).toNatClampNeg (8 : Int32).toNatClampNeg))
theorem x_X0_becomeLike {d : Nat} (hd : 1 ≤ d) {n : Nat} {o r : Nat} {m : Mm} {a : Nat} {p0 : Nat} (ha : isF a) (hp0 : isF p0) {out : Mm} (hf : f_X0_becomeLike n m a p0 = some out) : Ex d none 9 0 [some (.ref a), some (.ref p0), none] [] (Hm o r m) (none, Hm o r out) := by
  unfold f_X0_becomeLike at hf
  refine Ex.go (pc' := 2) (ls' := [some (.ref a), some (.ref p0), none]) (st' := [.ref p0, .ref a]) (h' := Hm o r m) 2 rfl ?_
  refine Ex.get0 rfl rfl (gI_ok (sh_F hp0)) ?_
  refine Ex.put0 rfl rfl (pI_ok (sh_F ha)) ?_
  refine Ex.go (pc' := 10) (ls' := [some (.ref a), some (.ref p0), none]) (st' := [.ref p0, .ref a]) (h' := Hm o r (mX m a 0 (m.1 p0 0))) 2 rfl ?_
  refine Ex.get0 rfl rfl (gI_ok (sh_F hp0)) ?_
  refine Ex.put0 rfl rfl (pI_ok (sh_F ha)) ?_
  refine Ex.go (pc' := 18) (ls' := [some (.ref a), some (.ref p0), none]) (st' := [.ref p0, .ref a]) (h' := Hm o r (mX (mX m a 0 (m.1 p0 0)) a 2 ((mX m a 0 (m.1 p0 0)).1 p0 2))) 2 rfl ?_
  refine Ex.get0 rfl rfl (gI_ok (sh_F hp0)) ?_
  refine Ex.put0 rfl rfl (pI_ok (sh_F ha)) ?_
  refine Ex.go (pc' := 26) (ls' := [some (.ref a), some (.ref p0), some (.int 0)]) (st' := []) (h' := Hm o r (mX (mX (mX m a 0 (m.1 p0 0)) a 2 ((mX m a 0 (m.1 p0 0)).1 p0 2)) a 5 ((mX (mX m a 0 (m.1 p0 0)) a 2 ((mX m a 0 (m.1 p0 0)).1 p0 2)).1 p0 5))) 2 rfl ?_
  obtain ⟨e4, he4, hf⟩ := bsome hf
  refine x_X0_becomeLike_b26_loop hd ha hp0 he4 (fun t ht => ?_)
  · cases ht
    refine Ex.go (pc' := 58) (ls' := [some (.ref a), some (.ref p0), none]) (st' := [.ref p0]) (h' := Hm o r e4) 1 rfl ?_
    refine Ex.get2 rfl rfl (z_F3 hp0) ?_
    refine Ex.go (pc' := 63) (ls' := [some (.ref a), some (.ref p0), none]) (st' := [.ref a, .int 0, .ref (p0 + 8)]) (h' := Hm o r e4) 2 rfl ?_
    refine Ex.get2 rfl rfl (z_F3 ha) ?_
    refine Ex.go (pc' := 69) (ls' := [some (.ref a), some (.ref p0), none]) (st' := [.int 6, .int 0, .ref (a + 8), .int 0, .ref (p0 + 8)]) (h' := Hm o r e4) 2 rfl ?_
    refine Ex.acopy rfl (by omega) (sh_F8 hp0) (sh_F8 ha) (by decide) rfl ?_
    refine Ex.go (pc' := 73) (ls' := [some (.ref a), some (.ref p0), none]) (st' := [.ref p0]) (h' := Hm o r (mRw e4 (a + 8) (va_cpy (e4.1 (p0 + 8)) (e4.1 (a + 8)) (0 : Int32).toNatClampNeg (0 : Int32).toNatClampNeg (6 : Int32).toNatClampNeg))) 1 rfl ?_
    refine Ex.get2 rfl rfl (z_F4 hp0) ?_
    refine Ex.go (pc' := 78) (ls' := [some (.ref a), some (.ref p0), none]) (st' := [.ref a, .int 0, .ref (p0 + 9)]) (h' := Hm o r (mRw e4 (a + 8) (va_cpy (e4.1 (p0 + 8)) (e4.1 (a + 8)) (0 : Int32).toNatClampNeg (0 : Int32).toNatClampNeg (6 : Int32).toNatClampNeg))) 2 rfl ?_
    refine Ex.get2 rfl rfl (z_F4 ha) ?_
    refine Ex.go (pc' := 84) (ls' := [some (.ref a), some (.ref p0), none]) (st' := [.int 6, .int 0, .ref (a + 9), .int 0, .ref (p0 + 9)]) (h' := Hm o r (mRw e4 (a + 8) (va_cpy (e4.1 (p0 + 8)) (e4.1 (a + 8)) (0 : Int32).toNatClampNeg (0 : Int32).toNatClampNeg (6 : Int32).toNatClampNeg))) 2 rfl ?_
    refine Ex.acopy rfl (by omega) (sh_F9 hp0) (sh_F9 ha) (by decide) rfl ?_
    refine Ex.go (pc' := 88) (ls' := [some (.ref a), some (.ref p0), none]) (st' := [.ref p0]) (h' := Hm o r (mRw (mRw e4 (a + 8) (va_cpy (e4.1 (p0 + 8)) (e4.1 (a + 8)) (0 : Int32).toNatClampNeg (0 : Int32).toNatClampNeg (6 : Int32).toNatClampNeg)) (a + 9) (va_cpy ((mRw e4 (a + 8) (va_cpy (e4.1 (p0 + 8)) (e4.1 (a + 8)) (0 : Int32).toNatClampNeg (0 : Int32).toNatClampNeg (6 : Int32).toNatClampNeg)).1 (p0 + 9)) ((mRw e4 (a + 8) (va_cpy (e4.1 (p0 + 8)) (e4.1 (a + 8)) (0 : Int32).toNatClampNeg (0 : Int32).toNatClampNeg (6 : Int32).toNatClampNeg)).1 (a + 9)) (0 : Int32).toNatClampNeg (0 : Int32).toNatClampNeg (6 : Int32).toNatClampNeg))) 1 rfl ?_
    refine Ex.get2 rfl rfl (z_F6 hp0) ?_
    refine Ex.go (pc' := 93) (ls' := [some (.ref a), some (.ref p0), none]) (st' := [.ref a, .int 0, .ref (p0 + 10)]) (h' := Hm o r (mRw (mRw e4 (a + 8) (va_cpy (e4.1 (p0 + 8)) (e4.1 (a + 8)) (0 : Int32).toNatClampNeg (0 : Int32).toNatClampNeg (6 : Int32).toNatClampNeg)) (a + 9) (va_cpy ((mRw e4 (a + 8) (va_cpy (e4.1 (p0 + 8)) (e4.1 (a + 8)) (0 : Int32).toNatClampNeg (0 : Int32).toNatClampNeg (6 : Int32).toNatClampNeg)).1 (p0 + 9)) ((mRw e4 (a + 8) (va_cpy (e4.1 (p0 + 8)) (e4.1 (a + 8)) (0 : Int32).toNatClampNeg (0 : Int32).toNatClampNeg (6 : Int32).toNatClampNeg)).1 (a + 9)) (0 : Int32).toNatClampNeg (0 : Int32).toNatClampNeg (6 : Int32).toNatClampNeg))) 2 rfl ?_
    refine Ex.get2 rfl rfl (z_F6 ha) ?_
    refine Ex.go (pc' := 99) (ls' := [some (.ref a), some (.ref p0), none]) (st' := [.int 8, .int 0, .ref (a + 10), .int 0, .ref (p0 + 10)]) (h' := Hm o r (mRw (mRw e4 (a + 8) (va_cpy (e4.1 (p0 + 8)) (e4.1 (a + 8)) (0 : Int32).toNatClampNeg (0 : Int32).toNatClampNeg (6 : Int32).toNatClampNeg)) (a + 9) (va_cpy ((mRw e4 (a + 8) (va_cpy (e4.1 (p0 + 8)) (e4.1 (a + 8)) (0 : Int32).toNatClampNeg (0 : Int32).toNatClampNeg (6 : Int32).toNatClampNeg)).1 (p0 + 9)) ((mRw e4 (a + 8) (va_cpy (e4.1 (p0 + 8)) (e4.1 (a + 8)) (0 : Int32).toNatClampNeg (0 : Int32).toNatClampNeg (6 : Int32).toNatClampNeg)).1 (a + 9)) (0 : Int32).toNatClampNeg (0 : Int32).toNatClampNeg (6 : Int32).toNatClampNeg))) 2 rfl ?_
    refine Ex.acopy rfl (by omega) (sh_F10 hp0) (sh_F10 ha) (by decide) rfl ?_
    refine Ex.go (pc' := 103) (ls' := [some (.ref a), some (.ref p0), none]) (st' := [.ref p0]) (h' := Hm o r (mRw (mRw (mRw e4 (a + 8) (va_cpy (e4.1 (p0 + 8)) (e4.1 (a + 8)) (0 : Int32).toNatClampNeg (0 : Int32).toNatClampNeg (6 : Int32).toNatClampNeg)) (a + 9) (va_cpy ((mRw e4 (a + 8) (va_cpy (e4.1 (p0 + 8)) (e4.1 (a + 8)) (0 : Int32).toNatClampNeg (0 : Int32).toNatClampNeg (6 : Int32).toNatClampNeg)).1 (p0 + 9)) ((mRw e4 (a + 8) (va_cpy (e4.1 (p0 + 8)) (e4.1 (a + 8)) (0 : Int32).toNatClampNeg (0 : Int32).toNatClampNeg (6 : Int32).toNatClampNeg)).1 (a + 9)) (0 : Int32).toNatClampNeg (0 : Int32).toNatClampNeg (6 : Int32).toNatClampNeg)) (a + 10) (va_cpy ((mRw (mRw e4 (a + 8) (va_cpy (e4.1 (p0 + 8)) (e4.1 (a + 8)) (0 : Int32).toNatClampNeg (0 : Int32).toNatClampNeg (6 : Int32).toNatClampNeg)) (a + 9) (va_cpy ((mRw e4 (a + 8) (va_cpy (e4.1 (p0 + 8)) (e4.1 (a + 8)) (0 : Int32).toNatClampNeg (0 : Int32).toNatClampNeg (6 : Int32).toNatClampNeg)).1 (p0 + 9)) ((mRw e4 (a + 8) (va_cpy (e4.1 (p0 + 8)) (e4.1 (a + 8)) (0 : Int32).toNatClampNeg (0 : Int32).toNatClampNeg (6 : Int32).toNatClampNeg)).1 (a + 9)) (0 : Int32).toNatClampNeg (0 : Int32).toNatClampNeg (6 : Int32).toNatClampNeg)).1 (p0 + 10)) ((mRw (mRw e4 (a + 8) (va_cpy (e4.1 (p0 + 8)) (e4.1 (a + 8)) (0 : Int32).toNatClampNeg (0 : Int32).toNatClampNeg (6 : Int32).toNatClampNeg)) (a + 9) (va_cpy ((mRw e4 (a + 8) (va_cpy (e4.1 (p0 + 8)) (e4.1 (a + 8)) (0 : Int32).toNatClampNeg (0 : Int32).toNatClampNeg (6 : Int32).toNatClampNeg)).1 (p0 + 9)) ((mRw e4 (a + 8) (va_cpy (e4.1 (p0 + 8)) (e4.1 (a + 8)) (0 : Int32).toNatClampNeg (0 : Int32).toNatClampNeg (6 : Int32).toNatClampNeg)).1 (a + 9)) (0 : Int32).toNatClampNeg (0 : Int32).toNatClampNeg (6 : Int32).toNatClampNeg)).1 (a + 10)) (0 : Int32).toNatClampNeg (0 : Int32).toNatClampNeg (8 : Int32).toNatClampNeg))) 1 rfl ?_
    refine Ex.get2 rfl rfl (z_F7 hp0) ?_
    refine Ex.go (pc' := 108) (ls' := [some (.ref a), some (.ref p0), none]) (st' := [.ref a, .int 0, .ref (p0 + 11)]) (h' := Hm o r (mRw (mRw (mRw e4 (a + 8) (va_cpy (e4.1 (p0 + 8)) (e4.1 (a + 8)) (0 : Int32).toNatClampNeg (0 : Int32).toNatClampNeg (6 : Int32).toNatClampNeg)) (a + 9) (va_cpy ((mRw e4 (a + 8) (va_cpy (e4.1 (p0 + 8)) (e4.1 (a + 8)) (0 : Int32).toNatClampNeg (0 : Int32).toNatClampNeg (6 : Int32).toNatClampNeg)).1 (p0 + 9)) ((mRw e4 (a + 8) (va_cpy (e4.1 (p0 + 8)) (e4.1 (a + 8)) (0 : Int32).toNatClampNeg (0 : Int32).toNatClampNeg (6 : Int32).toNatClampNeg)).1 (a + 9)) (0 : Int32).toNatClampNeg (0 : Int32).toNatClampNeg (6 : Int32).toNatClampNeg)) (a + 10) (va_cpy ((mRw (mRw e4 (a + 8) (va_cpy (e4.1 (p0 + 8)) (e4.1 (a + 8)) (0 : Int32).toNatClampNeg (0 : Int32).toNatClampNeg (6 : Int32).toNatClampNeg)) (a + 9) (va_cpy ((mRw e4 (a + 8) (va_cpy (e4.1 (p0 + 8)) (e4.1 (a + 8)) (0 : Int32).toNatClampNeg (0 : Int32).toNatClampNeg (6 : Int32).toNatClampNeg)).1 (p0 + 9)) ((mRw e4 (a + 8) (va_cpy (e4.1 (p0 + 8)) (e4.1 (a + 8)) (0 : Int32).toNatClampNeg (0 : Int32).toNatClampNeg (6 : Int32).toNatClampNeg)).1 (a + 9)) (0 : Int32).toNatClampNeg (0 : Int32).toNatClampNeg (6 : Int32).toNatClampNeg)).1 (p0 + 10)) ((mRw (mRw e4 (a + 8) (va_cpy (e4.1 (p0 + 8)) (e4.1 (a + 8)) (0 : Int32).toNatClampNeg (0 : Int32).toNatClampNeg (6 : Int32).toNatClampNeg)) (a + 9) (va_cpy ((mRw e4 (a + 8) (va_cpy (e4.1 (p0 + 8)) (e4.1 (a + 8)) (0 : Int32).toNatClampNeg (0 : Int32).toNatClampNeg (6 : Int32).toNatClampNeg)).1 (p0 + 9)) ((mRw e4 (a + 8) (va_cpy (e4.1 (p0 + 8)) (e4.1 (a + 8)) (0 : Int32).toNatClampNeg (0 : Int32).toNatClampNeg (6 : Int32).toNatClampNeg)).1 (a + 9)) (0 : Int32).toNatClampNeg (0 : Int32).toNatClampNeg (6 : Int32).toNatClampNeg)).1 (a + 10)) (0 : Int32).toNatClampNeg (0 : Int32).toNatClampNeg (8 : Int32).toNatClampNeg))) 2 rfl ?_
    refine Ex.get2 rfl rfl (z_F7 ha) ?_
    refine Ex.go (pc' := 114) (ls' := [some (.ref a), some (.ref p0), none]) (st' := [.int 8, .int 0, .ref (a + 11), .int 0, .ref (p0 + 11)]) (h' := Hm o r (mRw (mRw (mRw e4 (a + 8) (va_cpy (e4.1 (p0 + 8)) (e4.1 (a + 8)) (0 : Int32).toNatClampNeg (0 : Int32).toNatClampNeg (6 : Int32).toNatClampNeg)) (a + 9) (va_cpy ((mRw e4 (a + 8) (va_cpy (e4.1 (p0 + 8)) (e4.1 (a + 8)) (0 : Int32).toNatClampNeg (0 : Int32).toNatClampNeg (6 : Int32).toNatClampNeg)).1 (p0 + 9)) ((mRw e4 (a + 8) (va_cpy (e4.1 (p0 + 8)) (e4.1 (a + 8)) (0 : Int32).toNatClampNeg (0 : Int32).toNatClampNeg (6 : Int32).toNatClampNeg)).1 (a + 9)) (0 : Int32).toNatClampNeg (0 : Int32).toNatClampNeg (6 : Int32).toNatClampNeg)) (a + 10) (va_cpy ((mRw (mRw e4 (a + 8) (va_cpy (e4.1 (p0 + 8)) (e4.1 (a + 8)) (0 : Int32).toNatClampNeg (0 : Int32).toNatClampNeg (6 : Int32).toNatClampNeg)) (a + 9) (va_cpy ((mRw e4 (a + 8) (va_cpy (e4.1 (p0 + 8)) (e4.1 (a + 8)) (0 : Int32).toNatClampNeg (0 : Int32).toNatClampNeg (6 : Int32).toNatClampNeg)).1 (p0 + 9)) ((mRw e4 (a + 8) (va_cpy (e4.1 (p0 + 8)) (e4.1 (a + 8)) (0 : Int32).toNatClampNeg (0 : Int32).toNatClampNeg (6 : Int32).toNatClampNeg)).1 (a + 9)) (0 : Int32).toNatClampNeg (0 : Int32).toNatClampNeg (6 : Int32).toNatClampNeg)).1 (p0 + 10)) ((mRw (mRw e4 (a + 8) (va_cpy (e4.1 (p0 + 8)) (e4.1 (a + 8)) (0 : Int32).toNatClampNeg (0 : Int32).toNatClampNeg (6 : Int32).toNatClampNeg)) (a + 9) (va_cpy ((mRw e4 (a + 8) (va_cpy (e4.1 (p0 + 8)) (e4.1 (a + 8)) (0 : Int32).toNatClampNeg (0 : Int32).toNatClampNeg (6 : Int32).toNatClampNeg)).1 (p0 + 9)) ((mRw e4 (a + 8) (va_cpy (e4.1 (p0 + 8)) (e4.1 (a + 8)) (0 : Int32).toNatClampNeg (0 : Int32).toNatClampNeg (6 : Int32).toNatClampNeg)).1 (a + 9)) (0 : Int32).toNatClampNeg (0 : Int32).toNatClampNeg (6 : Int32).toNatClampNeg)).1 (a + 10)) (0 : Int32).toNatClampNeg (0 : Int32).toNatClampNeg (8 : Int32).toNatClampNeg))) 2 rfl ?_
    refine Ex.acopy rfl (by omega) (sh_F11 hp0) (sh_F11 ha) (by decide) rfl ?_
    refine Ex.go (pc' := 117) (ls' := [some (.ref a), some (.ref p0), none]) (st' := []) (h' := Hm o r (mRw (mRw (mRw (mRw e4 (a + 8) (va_cpy (e4.1 (p0 + 8)) (e4.1 (a + 8)) (0 : Int32).toNatClampNeg (0 : Int32).toNatClampNeg (6 : Int32).toNatClampNeg)) (a + 9) (va_cpy ((mRw e4 (a + 8) (va_cpy (e4.1 (p0 + 8)) (e4.1 (a + 8)) (0 : Int32).toNatClampNeg (0 : Int32).toNatClampNeg (6 : Int32).toNatClampNeg)).1 (p0 + 9)) ((mRw e4 (a + 8) (va_cpy (e4.1 (p0 + 8)) (e4.1 (a + 8)) (0 : Int32).toNatClampNeg (0 : Int32).toNatClampNeg (6 : Int32).toNatClampNeg)).1 (a + 9)) (0 : Int32).toNatClampNeg (0 : Int32).toNatClampNeg (6 : Int32).toNatClampNeg)) (a + 10) (va_cpy ((mRw (mRw e4 (a + 8) (va_cpy (e4.1 (p0 + 8)) (e4.1 (a + 8)) (0 : Int32).toNatClampNeg (0 : Int32).toNatClampNeg (6 : Int32).toNatClampNeg)) (a + 9) (va_cpy ((mRw e4 (a + 8) (va_cpy (e4.1 (p0 + 8)) (e4.1 (a + 8)) (0 : Int32).toNatClampNeg (0 : Int32).toNatClampNeg (6 : Int32).toNatClampNeg)).1 (p0 + 9)) ((mRw e4 (a + 8) (va_cpy (e4.1 (p0 + 8)) (e4.1 (a + 8)) (0 : Int32).toNatClampNeg (0 : Int32).toNatClampNeg (6 : Int32).toNatClampNeg)).1 (a + 9)) (0 : Int32).toNatClampNeg (0 : Int32).toNatClampNeg (6 : Int32).toNatClampNeg)).1 (p0 + 10)) ((mRw (mRw e4 (a + 8) (va_cpy (e4.1 (p0 + 8)) (e4.1 (a + 8)) (0 : Int32).toNatClampNeg (0 : Int32).toNatClampNeg (6 : Int32).toNatClampNeg)) (a + 9) (va_cpy ((mRw e4 (a + 8) (va_cpy (e4.1 (p0 + 8)) (e4.1 (a + 8)) (0 : Int32).toNatClampNeg (0 : Int32).toNatClampNeg (6 : Int32).toNatClampNeg)).1 (p0 + 9)) ((mRw e4 (a + 8) (va_cpy (e4.1 (p0 + 8)) (e4.1 (a + 8)) (0 : Int32).toNatClampNeg (0 : Int32).toNatClampNeg (6 : Int32).toNatClampNeg)).1 (a + 9)) (0 : Int32).toNatClampNeg (0 : Int32).toNatClampNeg (6 : Int32).toNatClampNeg)).1 (a + 10)) (0 : Int32).toNatClampNeg (0 : Int32).toNatClampNeg (8 : Int32).toNatClampNeg)) (a + 11) (va_cpy ((mRw (mRw (mRw e4 (a + 8) (va_cpy (e4.1 (p0 + 8)) (e4.1 (a + 8)) (0 : Int32).toNatClampNeg (0 : Int32).toNatClampNeg (6 : Int32).toNatClampNeg)) (a + 9) (va_cpy ((mRw e4 (a + 8) (va_cpy (e4.1 (p0 + 8)) (e4.1 (a + 8)) (0 : Int32).toNatClampNeg (0 : Int32).toNatClampNeg (6 : Int32).toNatClampNeg)).1 (p0 + 9)) ((mRw e4 (a + 8) (va_cpy (e4.1 (p0 + 8)) (e4.1 (a + 8)) (0 : Int32).toNatClampNeg (0 : Int32).toNatClampNeg (6 : Int32).toNatClampNeg)).1 (a + 9)) (0 : Int32).toNatClampNeg (0 : Int32).toNatClampNeg (6 : Int32).toNatClampNeg)) (a + 10) (va_cpy ((mRw (mRw e4 (a + 8) (va_cpy (e4.1 (p0 + 8)) (e4.1 (a + 8)) (0 : Int32).toNatClampNeg (0 : Int32).toNatClampNeg (6 : Int32).toNatClampNeg)) (a + 9) (va_cpy ((mRw e4 (a + 8) (va_cpy (e4.1 (p0 + 8)) (e4.1 (a + 8)) (0 : Int32).toNatClampNeg (0 : Int32).toNatClampNeg (6 : Int32).toNatClampNeg)).1 (p0 + 9)) ((mRw e4 (a + 8) (va_cpy (e4.1 (p0 + 8)) (e4.1 (a + 8)) (0 : Int32).toNatClampNeg (0 : Int32).toNatClampNeg (6 : Int32).toNatClampNeg)).1 (a + 9)) (0 : Int32).toNatClampNeg (0 : Int32).toNatClampNeg (6 : Int32).toNatClampNeg)).1 (p0 + 10)) ((mRw (mRw e4 (a + 8) (va_cpy (e4.1 (p0 + 8)) (e4.1 (a + 8)) (0 : Int32).toNatClampNeg (0 : Int32).toNatClampNeg (6 : Int32).toNatClampNeg)) (a + 9) (va_cpy ((mRw e4 (a + 8) (va_cpy (e4.1 (p0 + 8)) (e4.1 (a + 8)) (0 : Int32).toNatClampNeg (0 : Int32).toNatClampNeg (6 : Int32).toNatClampNeg)).1 (p0 + 9)) ((mRw e4 (a + 8) (va_cpy (e4.1 (p0 + 8)) (e4.1 (a + 8)) (0 : Int32).toNatClampNeg (0 : Int32).toNatClampNeg (6 : Int32).toNatClampNeg)).1 (a + 9)) (0 : Int32).toNatClampNeg (0 : Int32).toNatClampNeg (6 : Int32).toNatClampNeg)).1 (a + 10)) (0 : Int32).toNatClampNeg (0 : Int32).toNatClampNeg (8 : Int32).toNatClampNeg)).1 (p0 + 11)) ((mRw (mRw (mRw e4 (a + 8) (va_cpy (e4.1 (p0 + 8)) (e4.1 (a + 8)) (0 : Int32).toNatClampNeg (0 : Int32).toNatClampNeg (6 : Int32).toNatClampNeg)) (a + 9) (va_cpy ((mRw e4 (a + 8) (va_cpy (e4.1 (p0 + 8)) (e4.1 (a + 8)) (0 : Int32).toNatClampNeg (0 : Int32).toNatClampNeg (6 : Int32).toNatClampNeg)).1 (p0 + 9)) ((mRw e4 (a + 8) (va_cpy (e4.1 (p0 + 8)) (e4.1 (a + 8)) (0 : Int32).toNatClampNeg (0 : Int32).toNatClampNeg (6 : Int32).toNatClampNeg)).1 (a + 9)) (0 : Int32).toNatClampNeg (0 : Int32).toNatClampNeg (6 : Int32).toNatClampNeg)) (a + 10) (va_cpy ((mRw (mRw e4 (a + 8) (va_cpy (e4.1 (p0 + 8)) (e4.1 (a + 8)) (0 : Int32).toNatClampNeg (0 : Int32).toNatClampNeg (6 : Int32).toNatClampNeg)) (a + 9) (va_cpy ((mRw e4 (a + 8) (va_cpy (e4.1 (p0 + 8)) (e4.1 (a + 8)) (0 : Int32).toNatClampNeg (0 : Int32).toNatClampNeg (6 : Int32).toNatClampNeg)).1 (p0 + 9)) ((mRw e4 (a + 8) (va_cpy (e4.1 (p0 + 8)) (e4.1 (a + 8)) (0 : Int32).toNatClampNeg (0 : Int32).toNatClampNeg (6 : Int32).toNatClampNeg)).1 (a + 9)) (0 : Int32).toNatClampNeg (0 : Int32).toNatClampNeg (6 : Int32).toNatClampNeg)).1 (p0 + 10)) ((mRw (mRw e4 (a + 8) (va_cpy (e4.1 (p0 + 8)) (e4.1 (a + 8)) (0 : Int32).toNatClampNeg (0 : Int32).toNatClampNeg (6 : Int32).toNatClampNeg)) (a + 9) (va_cpy ((mRw e4 (a + 8) (va_cpy (e4.1 (p0 + 8)) (e4.1 (a + 8)) (0 : Int32).toNatClampNeg (0 : Int32).toNatClampNeg (6 : Int32).toNatClampNeg)).1 (p0 + 9)) ((mRw e4 (a + 8) (va_cpy (e4.1 (p0 + 8)) (e4.1 (a + 8)) (0 : Int32).toNatClampNeg (0 : Int32).toNatClampNeg (6 : Int32).toNatClampNeg)).1 (a + 9)) (0 : Int32).toNatClampNeg (0 : Int32).toNatClampNeg (6 : Int32).toNatClampNeg)).1 (a + 10)) (0 : Int32).toNatClampNeg (0 : Int32).toNatClampNeg (8 : Int32).toNatClampNeg)).1 (a + 11)) (0 : Int32).toNatClampNeg (0 : Int32).toNatClampNeg (8 : Int32).toNatClampNeg))) 0 rfl ?_
    cases hf
    exact Ex.ret rfl rfl
def f_X5_forget_b7 (n : Nat) (x0 : Nat) (s : Int32 × Mm) : Option ((Int32 × Mm) ⊕ (Mm)) := if (46 : Int32) ≤ s.1 then
  some (.inr s.2)
  else
  if inb s.1 46 then
    some (.inl ((s.1 + 1), (mX s.2 (x0 + 1) s.1.toNatClampNeg (-1))))
    else none
theorem x_X5_forget_b7 {d : Nat} (hd : 0 ≤ d) {n : Nat} {o r : Nat} {x0 : Nat} (hx0 : isW x0) {s : Int32 × Mm} {out : (Int32 × Mm) ⊕ (Mm)} (hf : f_X5_forget_b7 n x0 s = some out) {R : Option Value × Hp} (k1 : ∀ s', out = .inl s' → Ex d none 45 7 [some (.ref x0), some (.int s'.1)] [] (Hm o r s'.2) R) (k2 : ∀ t, out = .inr t → Ex d none 45 26 [none, none] [] (Hm o r t) R) : Ex d none 45 7 [some (.ref x0), some (.int s.1)] [] (Hm o r s.2) R := by
  unfold f_X5_forget_b7 at hf
  refine Ex.go (pc' := 10) (ls' := [some (.ref x0), some (.int s.1)]) (st' := [.int 46, .int s.1]) (h' := Hm o r s.2) 2 rfl ?_
  by_cases hc1 : (46 : Int32) ≤ s.1
  · replace hf := (if_pos hc1).symm.trans hf
    refine Ex.ic_ge_t rfl hc1 ?_
    refine Ex.wk (l := [none, none]) trivial ?_
    cases hf
    exact k2 _ rfl
  · replace hf := (if_neg hc1).symm.trans hf
    refine Ex.ic_ge_f rfl hc1 ?_
    refine Ex.go (pc' := 14) (ls' := [some (.ref x0), some (.int s.1)]) (st' := [.ref x0]) (h' := Hm o r s.2) 1 rfl ?_
    refine Ex.get2 rfl rfl (z_W0 hx0) ?_
    refine Ex.go (pc' := 19) (ls' := [some (.ref x0), some (.int s.1)]) (st' := [.int (-1), .int s.1, .ref (x0 + 1)]) (h' := Hm o r s.2) 2 rfl ?_
    by_cases hc2 : inb s.1 46
    · replace hf := (if_pos hc2).symm.trans hf
      refine Ex.iast rfl (sh_W1 hx0) hc2 ?_
      refine Ex.go (pc' := 7) (ls' := [some (.ref x0), some (.int (s.1 + 1))]) (st' := []) (h' := Hm o r (mX s.2 (x0 + 1) s.1.toNatClampNeg (-1))) 2 rfl ?_
      cases hf
      exact k1 _ rfl
    · replace hf := (if_neg hc2).symm.trans hf
      cases hf
theorem x_X5_forget_b7_loop {d : Nat} (hd : 0 ≤ d) {n : Nat} {o r : Nat} {x0 : Nat} (hx0 : isW x0) {k : Nat} {s : Int32 × Mm} {e : Mm} (hf : itr (f_X5_forget_b7 n x0) k s = some e) {R : Option Value × Hp} (k2 : ∀ t, e = t → Ex d none 45 26 [none, none] [] (Hm o r t) R) : Ex d none 45 7 [some (.ref x0), some (.int s.1)] [] (Hm o r s.2) R := by
  induction k generalizing s with
  | zero => cases hf
  | succ k ih =>
    cases hb : f_X5_forget_b7 n x0 s with
    | none =>
      have h9 := (itr_none (k := k) hb).symm.trans hf
      cases h9
    | some out =>
      cases out with
      | inl s' =>
        have h9 := (itr_inl (k := k) hb).symm.trans hf
        exact x_X5_forget_b7 hd hx0 hb (fun s'' h => by cases h; exact ih h9) (fun t h => by cases h)
      | inr e' =>
        have h9 := (itr_inr (k := k) hb).symm.trans hf
        cases h9
        exact x_X5_forget_b7 hd hx0 hb (fun s'' h => by cases h) (fun t h => k2 t (Sum.inr.inj h))
def f_X5_forget (n : Nat) (m : Mm) (a : Nat) : Option Mm := (itr (f_X5_forget_b7 n a) n ((0, (mX m a 1 0)) : Int32 × Mm)).bind fun e3 =>
  some e3
theorem x_X5_forget {d : Nat} (hd : 0 ≤ d) {n : Nat} {o r : Nat} {m : Mm} {a : Nat} (ha : isW a) {out : Mm} (hf : f_X5_forget n m a = some out) : Ex d none 45 0 [some (.ref a), none] [] (Hm o r m) (none, Hm o r out) := by
  unfold f_X5_forget at hf
  refine Ex.go (pc' := 2) (ls' := [some (.ref a), none]) (st' := [.int 0, .ref a]) (h' := Hm o r m) 2 rfl ?_
  refine Ex.put0 rfl rfl (pI_ok (sh_W ha)) ?_
  refine Ex.go (pc' := 7) (ls' := [some (.ref a), some (.int 0)]) (st' := []) (h' := Hm o r (mX m a 1 0)) 2 rfl ?_
  obtain ⟨e3, he3, hf⟩ := bsome hf
  refine x_X5_forget_b7_loop hd ha he3 (fun t ht => ?_)
  · cases ht
    refine Ex.go (pc' := 26) (ls' := [none, none]) (st' := []) (h' := Hm o r e3) 0 rfl ?_
    cases hf
    exact Ex.ret rfl rfl
def f_X5_tells (m : Mm) (a : Nat) (p0 : Int32) : Option Int32 := if inb p0 46 then
  if (m.1 (a + 1) p0.toNatClampNeg) = (-1) then
    some (0 : Int32)
    else
    some (1 : Int32)
  else none
theorem x_X5_tells {d : Nat} (hd : 0 ≤ d) {o r : Nat} {m : Mm} {a : Nat} {p0 : Int32} (ha : isW a) {out : Int32} (hf : f_X5_tells m a p0 = some out) : Ex d none 47 0 [some (.ref a), some (.int p0)] [] (Hm o r m) (some (.int out), Hm o r m) := by
  unfold f_X5_tells at hf
  refine Ex.go (pc' := 1) (ls' := [some (.ref a), some (.int p0)]) (st' := [.ref a]) (h' := Hm o r m) 1 rfl ?_
  refine Ex.get2 rfl rfl (z_W0 ha) ?_
  refine Ex.go (pc' := 5) (ls' := [some (.ref a), some (.int p0)]) (st' := [.int p0, .ref (a + 1)]) (h' := Hm o r m) 1 rfl ?_
  by_cases hc1 : inb p0 46
  · replace hf := (if_pos hc1).symm.trans hf
    refine Ex.iald rfl (sh_W1 ha) hc1 ?_
    refine Ex.go (pc' := 7) (ls' := [some (.ref a), some (.int p0)]) (st' := [.int (-1), .int (m.1 (a + 1) p0.toNatClampNeg)]) (h' := Hm o r m) 1 rfl ?_
    by_cases hc2 : (m.1 (a + 1) p0.toNatClampNeg) = (-1)
    · replace hf := (if_pos hc2).symm.trans hf
      refine Ex.ic_eq_t rfl hc2 ?_
      refine Ex.go (pc' := 15) (ls' := [some (.ref a), some (.int p0)]) (st' := [.int 0]) (h' := Hm o r m) 1 rfl ?_
      cases hf
      exact Ex.ret rfl rfl
    · replace hf := (if_neg hc2).symm.trans hf
      refine Ex.ic_eq_f rfl hc2 ?_
      refine Ex.go (pc' := 15) (ls' := [some (.ref a), some (.int p0)]) (st' := [.int 1]) (h' := Hm o r m) 2 rfl ?_
      cases hf
      exact Ex.ret rfl rfl
  · replace hf := (if_neg hc1).symm.trans hf
    cases hf
def f_X5_tellsEach_b2 (n : Nat) (m : Mm) (x0 : Nat) (x1 : Int32) (x2 : Int32) (s : Int32) : Option ((Int32) ⊕ ((Unit) ⊕ Int32)) := if (x1 + x2) ≤ s then
  some (.inr (.inl ()))
  else
  (f_X5_tells m x0 s).bind fun v1 =>
    if v1 = 0 then
      some (.inr (.inr (0 : Int32)))
      else
      some (.inl (s + 1))
theorem x_X5_tellsEach_b2 {d : Nat} (hd : 1 ≤ d) {n : Nat} {o r : Nat} {m : Mm} {x0 : Nat} {x1 : Int32} {x2 : Int32} (hx0 : isW x0) {s : Int32} {out : (Int32) ⊕ ((Unit) ⊕ Int32)} (hf : f_X5_tellsEach_b2 n m x0 x1 x2 s = some out) {R : Option Value × Hp} (k1 : ∀ s', out = .inl s' → Ex d none 48 2 [some (.ref x0), some (.int x1), some (.int x2), some (.int s')] [] (Hm o r m) R) (k2 : ∀ t, out = .inr (.inl t) → Ex d none 48 25 [none, none, none, none] [] (Hm o r m) R) (k3 : ∀ q, out = .inr (.inr q) → (some (.int q), Hm o r m) = R) : Ex d none 48 2 [some (.ref x0), some (.int x1), some (.int x2), some (.int s)] [] (Hm o r m) R := by
  unfold f_X5_tellsEach_b2 at hf
  refine Ex.go (pc' := 6) (ls' := [some (.ref x0), some (.int x1), some (.int x2), some (.int s)]) (st' := [.int (x1 + x2), .int s]) (h' := Hm o r m) 4 rfl ?_
  by_cases hc2 : (x1 + x2) ≤ s
  · replace hf := (if_pos hc2).symm.trans hf
    refine Ex.ic_ge_t rfl hc2 ?_
    refine Ex.wk (l := [none, none, none, none]) trivial ?_
    cases hf
    exact k2 _ rfl
  · replace hf := (if_neg hc2).symm.trans hf
    refine Ex.ic_ge_f rfl hc2 ?_
    refine Ex.go (pc' := 11) (ls' := [some (.ref x0), some (.int x1), some (.int x2), some (.int s)]) (st' := [.int s, .ref x0]) (h' := Hm o r m) 2 rfl ?_
    obtain ⟨v1, hv1, hf⟩ := bsome hf
    refine Ex.callV rfl rfl (by decide) (by omega) rfl (rcv_ok (sh_W hx0)) (x_X5_tells (d := d - 1) (by omega) hx0 hv1) ?_
    refine Ex.go (pc' := 14) (ls' := [some (.ref x0), some (.int x1), some (.int x2), some (.int s)]) (st' := [.int v1]) (h' := Hm o r m) 0 rfl ?_
    by_cases hc3 : v1 = 0
    · replace hf := (if_pos hc3).symm.trans hf
      refine Ex.if_ne_t rfl hc3 ?_
      refine Ex.go (pc' := 18) (ls' := [some (.ref x0), some (.int x1), some (.int x2), some (.int s)]) (st' := [.int 0]) (h' := Hm o r m) 1 rfl ?_
      cases hf
      rw [← k3 _ rfl]
      exact Ex.ret rfl rfl
    · replace hf := (if_neg hc3).symm.trans hf
      refine Ex.if_ne_f rfl hc3 ?_
      refine Ex.go (pc' := 2) (ls' := [some (.ref x0), some (.int x1), some (.int x2), some (.int (s + 1))]) (st' := []) (h' := Hm o r m) 2 rfl ?_
      cases hf
      exact k1 _ rfl
theorem x_X5_tellsEach_b2_loop {d : Nat} (hd : 1 ≤ d) {n : Nat} {o r : Nat} {m : Mm} {x0 : Nat} {x1 : Int32} {x2 : Int32} (hx0 : isW x0) {k : Nat} {s : Int32} {e : (Unit) ⊕ Int32} (hf : itr (f_X5_tellsEach_b2 n m x0 x1 x2) k s = some e) {R : Option Value × Hp} (k2 : ∀ t, e = .inl t → Ex d none 48 25 [none, none, none, none] [] (Hm o r m) R) (k3 : ∀ q, e = .inr q → (some (.int q), Hm o r m) = R) : Ex d none 48 2 [some (.ref x0), some (.int x1), some (.int x2), some (.int s)] [] (Hm o r m) R := by
  induction k generalizing s with
  | zero => cases hf
  | succ k ih =>
    cases hb : f_X5_tellsEach_b2 n m x0 x1 x2 s with
    | none =>
      have h9 := (itr_none (k := k) hb).symm.trans hf
      cases h9
    | some out =>
      cases out with
      | inl s' =>
        have h9 := (itr_inl (k := k) hb).symm.trans hf
        exact x_X5_tellsEach_b2 hd hx0 hb (fun s'' h => by cases h; exact ih h9) (fun t h => by cases h) (fun q h => by cases h)
      | inr e' =>
        have h9 := (itr_inr (k := k) hb).symm.trans hf
        cases h9
        exact x_X5_tellsEach_b2 hd hx0 hb (fun s'' h => by cases h) (fun t h => k2 t (Sum.inr.inj h)) (fun q h => k3 q (Sum.inr.inj h))
def f_X5_tellsEach (n : Nat) (m : Mm) (a : Nat) (p0 : Int32) (p1 : Int32) : Option Int32 := (itr (f_X5_tellsEach_b2 n m a p0 p1) n (p0 : Int32)).bind fun e4 =>
  match e4 with
  | .inl t5 =>
    some (1 : Int32)
  | .inr q6 => some q6
theorem x_X5_tellsEach {d : Nat} (hd : 1 ≤ d) {n : Nat} {o r : Nat} {m : Mm} {a : Nat} {p0 : Int32} {p1 : Int32} (ha : isW a) {out : Int32} (hf : f_X5_tellsEach n m a p0 p1 = some out) : Ex d none 48 0 [some (.ref a), some (.int p0), some (.int p1), none] [] (Hm o r m) (some (.int out), Hm o r m) := by
  unfold f_X5_tellsEach at hf
  refine Ex.go (pc' := 2) (ls' := [some (.ref a), some (.int p0), some (.int p1), some (.int p0)]) (st' := []) (h' := Hm o r m) 2 rfl ?_
  obtain ⟨e4, he4, hf⟩ := bsome hf
  refine x_X5_tellsEach_b2_loop hd ha he4 (fun t ht => ?_) (fun q hq => ?_)
  · cases ht
    refine Ex.go (pc' := 26) (ls' := [none, none, none, none]) (st' := [.int 1]) (h' := Hm o r m) 1 rfl ?_
    cases hf
    exact Ex.ret rfl rfl
  · cases hq
    cases hf
    rfl
def f_X1_begins (n : Nat) (r : Nat) (m : Mm) (p0 : Int32) (p1 : Int32) (p2 : Int32) (p3 : Int32) : Option (Int32 × Mm) := (f_X5_tellsEach n (mX (mX (mX m 3 2 p0) 3 3 p2) 3 1 p3) r p0 p1).bind fun v1 =>
  if v1 = 0 then
    some ((1 : Int32), (mX (mX (mX m 3 2 p0) 3 3 p2) 3 1 p3))
    else
    some ((0 : Int32), (mX (mX (mX m 3 2 p0) 3 3 p2) 3 1 p3))
theorem x_X1_begins {d : Nat} (hd : 2 ≤ d) {n : Nat} {o r : Nat} (hr : isW r) {m : Mm} {p0 : Int32} {p1 : Int32} {p2 : Int32} {p3 : Int32}  {out : (Int32 × Mm)} (hf : f_X1_begins n r m p0 p1 p2 p3 = some out) : Ex d none 15 0 [some (.ref 3), some (.int p0), some (.int p1), some (.int p2), some (.int p3)] [] (Hm o r m) (some (.int out.1), Hm o r out.2) := by
  unfold f_X1_begins at hf
  refine Ex.go (pc' := 22) (ls' := [some (.ref 3), some (.int p0), some (.int p1), some (.int p2), some (.int p3)]) (st' := [.int p1, .int p0, .ref r]) (h' := Hm o r (mX (mX (mX m 3 2 p0) 3 3 p2) 3 1 p3)) 13 rfl ?_
  obtain ⟨v1, hv1, hf⟩ := bsome hf
  refine Ex.callV rfl rfl (by decide) (by omega) rfl (rcv_ok (sh_W hr)) (x_X5_tellsEach (d := d - 1) (by omega) hr hv1) ?_
  refine Ex.go (pc' := 25) (ls' := [some (.ref 3), some (.int p0), some (.int p1), some (.int p2), some (.int p3)]) (st' := [.int v1]) (h' := Hm o r (mX (mX (mX m 3 2 p0) 3 3 p2) 3 1 p3)) 0 rfl ?_
  by_cases hc2 : v1 = 0
  · replace hf := (if_pos hc2).symm.trans hf
    refine Ex.if_ne_t rfl hc2 ?_
    refine Ex.go (pc' := 33) (ls' := [some (.ref 3), some (.int p0), some (.int p1), some (.int p2), some (.int p3)]) (st' := [.int 1]) (h' := Hm o r (mX (mX (mX m 3 2 p0) 3 3 p2) 3 1 p3)) 2 rfl ?_
    cases hf
    exact Ex.ret rfl rfl
  · replace hf := (if_neg hc2).symm.trans hf
    refine Ex.if_ne_f rfl hc2 ?_
    refine Ex.go (pc' := 33) (ls' := [some (.ref 3), some (.int p0), some (.int p1), some (.int p2), some (.int p3)]) (st' := [.int 0]) (h' := Hm o r (mX (mX (mX m 3 2 p0) 3 3 p2) 3 1 p3)) 1 rfl ?_
    cases hf
    exact Ex.ret rfl rfl
def f_X1_takesKind (n : Nat) (r : Nat) (m : Mm) (p0 : Int32) : Option (Int32 × Mm) := if p0 = 65 then
  (f_X1_begins n r m (30 : Int32) (6 : Int32) (0 : Int32) (1 : Int32)).bind fun v1 =>
    if v1.1 &&& 1 = v1.1 then some (v1.1, v1.2) else none
  else if p0 = 66 then
  (f_X1_begins n r m (24 : Int32) (6 : Int32) (1 : Int32) (1 : Int32)).bind fun v2 =>
    if v2.1 &&& 1 = v2.1 then some (v2.1, v2.2) else none
  else if p0 = 68 then
  (f_X1_begins n r m (42 : Int32) (4 : Int32) (0 : Int32) (2 : Int32)).bind fun v3 =>
    if v3.1 &&& 1 = v3.1 then some (v3.1, v3.2) else none
  else if p0 = 83 then
  (f_X1_begins n r m (0 : Int32) (24 : Int32) (1 : Int32) (1 : Int32)).bind fun v4 =>
    if v4.1 &&& 1 = v4.1 then some (v4.1, v4.2) else none
  else if p0 = 85 then
  (f_X1_begins n r m (36 : Int32) (6 : Int32) (0 : Int32) (1 : Int32)).bind fun v5 =>
    if v5.1 &&& 1 = v5.1 then some (v5.1, v5.2) else none
  else 
  some ((0 : Int32), m)
theorem x_X1_takesKind {d : Nat} (hd : 3 ≤ d) {n : Nat} {o r : Nat} (hr : isW r) {m : Mm} {p0 : Int32}  {out : (Int32 × Mm)} (hf : f_X1_takesKind n r m p0 = some out) : Ex d none 14 0 [some (.ref 3), some (.int p0)] [] (Hm o r m) (some (.int out.1), Hm o r out.2) := by
  unfold f_X1_takesKind at hf
  refine Ex.go (pc' := 1) (ls' := [some (.ref 3), some (.int p0)]) (st' := [.int p0]) (h' := Hm o r m) 1 rfl ?_
  by_cases hc6 : p0 = 65
  · replace hf := (if_pos hc6).symm.trans hf
    refine Ex.top hc6 ?_
    refine Ex.step (pc' := 73) (ls' := [some (.ref 3), some (.int p0)]) (st' := []) (h' := Hm o r m) rfl rfl rfl rfl ?_
    refine Ex.go (pc' := 80) (ls' := [some (.ref 3), some (.int p0)]) (st' := [.int 1, .int 0, .int 6, .int 30, .ref 3]) (h' := Hm o r m) 5 rfl ?_
    obtain ⟨v1, hv1, hf⟩ := bsome hf
    refine Ex.callV rfl rfl (by decide) (by omega) rfl rfl (x_X1_begins (d := d - 1) (by omega) hr hv1) ?_
    refine Ex.go (pc' := 83) (ls' := [some (.ref 3), some (.int p0)]) (st' := [.int v1.1]) (h' := Hm o r v1.2) 0 rfl ?_
    by_cases hc7 : v1.1 &&& 1 = v1.1
    · replace hf := (if_pos hc7).symm.trans hf
      cases hf
      exact Ex.retZ rfl rfl hc7
    · replace hf := (if_neg hc7).symm.trans hf
      cases hf
  replace hf := (if_neg hc6).symm.trans hf
  by_cases hc8 : p0 = 66
  · replace hf := (if_pos hc8).symm.trans hf
    refine Ex.top hc8 ?_
    refine Ex.step (pc' := 62) (ls' := [some (.ref 3), some (.int p0)]) (st' := []) (h' := Hm o r m) rfl rfl rfl rfl ?_
    refine Ex.go (pc' := 69) (ls' := [some (.ref 3), some (.int p0)]) (st' := [.int 1, .int 1, .int 6, .int 24, .ref 3]) (h' := Hm o r m) 5 rfl ?_
    obtain ⟨v2, hv2, hf⟩ := bsome hf
    refine Ex.callV rfl rfl (by decide) (by omega) rfl rfl (x_X1_begins (d := d - 1) (by omega) hr hv2) ?_
    refine Ex.go (pc' := 72) (ls' := [some (.ref 3), some (.int p0)]) (st' := [.int v2.1]) (h' := Hm o r v2.2) 0 rfl ?_
    by_cases hc9 : v2.1 &&& 1 = v2.1
    · replace hf := (if_pos hc9).symm.trans hf
      cases hf
      exact Ex.retZ rfl rfl hc9
    · replace hf := (if_neg hc9).symm.trans hf
      cases hf
  replace hf := (if_neg hc8).symm.trans hf
  by_cases hc10 : p0 = 68
  · replace hf := (if_pos hc10).symm.trans hf
    refine Ex.top hc10 ?_
    refine Ex.step (pc' := 95) (ls' := [some (.ref 3), some (.int p0)]) (st' := []) (h' := Hm o r m) rfl rfl rfl rfl ?_
    refine Ex.go (pc' := 101) (ls' := [some (.ref 3), some (.int p0)]) (st' := [.int 2, .int 0, .int 4, .int 42, .ref 3]) (h' := Hm o r m) 5 rfl ?_
    obtain ⟨v3, hv3, hf⟩ := bsome hf
    refine Ex.callV rfl rfl (by decide) (by omega) rfl rfl (x_X1_begins (d := d - 1) (by omega) hr hv3) ?_
    refine Ex.go (pc' := 104) (ls' := [some (.ref 3), some (.int p0)]) (st' := [.int v3.1]) (h' := Hm o r v3.2) 0 rfl ?_
    by_cases hc11 : v3.1 &&& 1 = v3.1
    · replace hf := (if_pos hc11).symm.trans hf
      cases hf
      exact Ex.retZ rfl rfl hc11
    · replace hf := (if_neg hc11).symm.trans hf
      cases hf
  replace hf := (if_neg hc10).symm.trans hf
  by_cases hc12 : p0 = 83
  · replace hf := (if_pos hc12).symm.trans hf
    refine Ex.top hc12 ?_
    refine Ex.step (pc' := 52) (ls' := [some (.ref 3), some (.int p0)]) (st' := []) (h' := Hm o r m) rfl rfl rfl rfl ?_
    refine Ex.go (pc' := 58) (ls' := [some (.ref 3), some (.int p0)]) (st' := [.int 1, .int 1, .int 24, .int 0, .ref 3]) (h' := Hm o r m) 5 rfl ?_
    obtain ⟨v4, hv4, hf⟩ := bsome hf
    refine Ex.callV rfl rfl (by decide) (by omega) rfl rfl (x_X1_begins (d := d - 1) (by omega) hr hv4) ?_
    refine Ex.go (pc' := 61) (ls' := [some (.ref 3), some (.int p0)]) (st' := [.int v4.1]) (h' := Hm o r v4.2) 0 rfl ?_
    by_cases hc13 : v4.1 &&& 1 = v4.1
    · replace hf := (if_pos hc13).symm.trans hf
      cases hf
      exact Ex.retZ rfl rfl hc13
    · replace hf := (if_neg hc13).symm.trans hf
      cases hf
  replace hf := (if_neg hc12).symm.trans hf
  by_cases hc14 : p0 = 85
  · replace hf := (if_pos hc14).symm.trans hf
    refine Ex.top hc14 ?_
    refine Ex.step (pc' := 84) (ls' := [some (.ref 3), some (.int p0)]) (st' := []) (h' := Hm o r m) rfl rfl rfl rfl ?_
    refine Ex.go (pc' := 91) (ls' := [some (.ref 3), some (.int p0)]) (st' := [.int 1, .int 0, .int 6, .int 36, .ref 3]) (h' := Hm o r m) 5 rfl ?_
    obtain ⟨v5, hv5, hf⟩ := bsome hf
    refine Ex.callV rfl rfl (by decide) (by omega) rfl rfl (x_X1_begins (d := d - 1) (by omega) hr hv5) ?_
    refine Ex.go (pc' := 94) (ls' := [some (.ref 3), some (.int p0)]) (st' := [.int v5.1]) (h' := Hm o r v5.2) 0 rfl ?_
    by_cases hc15 : v5.1 &&& 1 = v5.1
    · replace hf := (if_pos hc15).symm.trans hf
      cases hf
      exact Ex.retZ rfl rfl hc15
    · replace hf := (if_neg hc15).symm.trans hf
      cases hf
  replace hf := (if_neg hc14).symm.trans hf
  refine Ex.lswD rfl rfl (by exact lsD5 hc6 rfl hc8 rfl hc10 rfl hc12 rfl hc14 rfl; rfl) rfl rfl ?_
  refine Ex.go (pc' := 106) (ls' := [some (.ref 3), some (.int p0)]) (st' := [.int 0]) (h' := Hm o r m) 1 rfl ?_
  cases hf
  exact Ex.ret rfl rfl
def f_X1_takesKey (r : Nat) (m : Mm) (p0 : Int32) : Option (Int32 × Mm) := (f_X5_tells (mX (mX m 3 2 p0) 3 1 3) r p0).bind fun v1 =>
  if v1 = 0 then
    some ((1 : Int32), (mX (mX m 3 2 p0) 3 1 3))
    else
    some ((0 : Int32), (mX (mX m 3 2 p0) 3 1 3))
theorem x_X1_takesKey {d : Nat} (hd : 1 ≤ d) {o r : Nat} (hr : isW r) {m : Mm} {p0 : Int32}  {out : (Int32 × Mm)} (hf : f_X1_takesKey r m p0 = some out) : Ex d none 17 0 [some (.ref 3), some (.int p0)] [] (Hm o r m) (some (.int out.1), Hm o r out.2) := by
  unfold f_X1_takesKey at hf
  refine Ex.go (pc' := 15) (ls' := [some (.ref 3), some (.int p0)]) (st' := [.int p0, .ref r]) (h' := Hm o r (mX (mX m 3 2 p0) 3 1 3)) 9 rfl ?_
  obtain ⟨v1, hv1, hf⟩ := bsome hf
  refine Ex.callV rfl rfl (by decide) (by omega) rfl (rcv_ok (sh_W hr)) (x_X5_tells (d := d - 1) (by omega) hr hv1) ?_
  refine Ex.go (pc' := 18) (ls' := [some (.ref 3), some (.int p0)]) (st' := [.int v1]) (h' := Hm o r (mX (mX m 3 2 p0) 3 1 3)) 0 rfl ?_
  by_cases hc2 : v1 = 0
  · replace hf := (if_pos hc2).symm.trans hf
    refine Ex.if_ne_t rfl hc2 ?_
    refine Ex.go (pc' := 26) (ls' := [some (.ref 3), some (.int p0)]) (st' := [.int 1]) (h' := Hm o r (mX (mX m 3 2 p0) 3 1 3)) 2 rfl ?_
    cases hf
    exact Ex.ret rfl rfl
  · replace hf := (if_neg hc2).symm.trans hf
    refine Ex.if_ne_f rfl hc2 ?_
    refine Ex.go (pc' := 26) (ls' := [some (.ref 3), some (.int p0)]) (st' := [.int 0]) (h' := Hm o r (mX (mX m 3 2 p0) 3 1 3)) 1 rfl ?_
    cases hf
    exact Ex.ret rfl rfl
def f_X1_takesSort (n : Nat) (r : Nat) (m : Mm) (p0 : Int32) : Option (Int32 × Mm) := if (m.1 3 2) = 0 then
  (f_X5_tellsEach n (mX (mX m 3 2 (0 + (p0 * 4))) 3 1 2) r ((mX (mX m 3 2 (0 + (p0 * 4))) 3 1 2).1 3 2) (4 : Int32)).bind fun v1 =>
    if v1 = 0 then
      some ((1 : Int32), (mX (mX m 3 2 (0 + (p0 * 4))) 3 1 2))
      else
      some ((0 : Int32), (mX (mX m 3 2 (0 + (p0 * 4))) 3 1 2))
  else
  (f_X1_takesKey r m ((m.1 3 2) + p0)).bind fun v2 =>
    if v2.1 &&& 1 = v2.1 then some (v2.1, v2.2) else none
theorem x_X1_takesSort {d : Nat} (hd : 2 ≤ d) {n : Nat} {o r : Nat} (hr : isW r) {m : Mm} {p0 : Int32}  {out : (Int32 × Mm)} (hf : f_X1_takesSort n r m p0 = some out) : Ex d none 16 0 [some (.ref 3), some (.int p0)] [] (Hm o r m) (some (.int out.1), Hm o r out.2) := by
  unfold f_X1_takesSort at hf
  refine Ex.go (pc' := 4) (ls' := [some (.ref 3), some (.int p0)]) (st' := [.int (m.1 3 2)]) (h' := Hm o r m) 2 rfl ?_
  by_cases hc3 : (m.1 3 2) = 0
  · replace hf := (if_pos hc3).symm.trans hf
    refine Ex.if_eq_t rfl hc3 ?_
    refine Ex.go (pc' := 41) (ls' := [some (.ref 3), some (.int p0)]) (st' := [.int 4, .int ((mX (mX m 3 2 (0 + (p0 * 4))) 3 1 2).1 3 2), .ref r]) (h' := Hm o r (mX (mX m 3 2 (0 + (p0 * 4))) 3 1 2)) 15 rfl ?_
    obtain ⟨v1, hv1, hf⟩ := bsome hf
    refine Ex.callV rfl rfl (by decide) (by omega) rfl (rcv_ok (sh_W hr)) (x_X5_tellsEach (d := d - 1) (by omega) hr hv1) ?_
    refine Ex.go (pc' := 44) (ls' := [some (.ref 3), some (.int p0)]) (st' := [.int v1]) (h' := Hm o r (mX (mX m 3 2 (0 + (p0 * 4))) 3 1 2)) 0 rfl ?_
    by_cases hc4 : v1 = 0
    · replace hf := (if_pos hc4).symm.trans hf
      refine Ex.if_ne_t rfl hc4 ?_
      refine Ex.go (pc' := 52) (ls' := [some (.ref 3), some (.int p0)]) (st' := [.int 1]) (h' := Hm o r (mX (mX m 3 2 (0 + (p0 * 4))) 3 1 2)) 2 rfl ?_
      cases hf
      exact Ex.ret rfl rfl
    · replace hf := (if_neg hc4).symm.trans hf
      refine Ex.if_ne_f rfl hc4 ?_
      refine Ex.go (pc' := 52) (ls' := [some (.ref 3), some (.int p0)]) (st' := [.int 0]) (h' := Hm o r (mX (mX m 3 2 (0 + (p0 * 4))) 3 1 2)) 1 rfl ?_
      cases hf
      exact Ex.ret rfl rfl
  · replace hf := (if_neg hc3).symm.trans hf
    refine Ex.if_eq_f rfl hc3 ?_
    refine Ex.go (pc' := 14) (ls' := [some (.ref 3), some (.int p0)]) (st' := [.int ((m.1 3 2) + p0), .ref 3]) (h' := Hm o r m) 5 rfl ?_
    obtain ⟨v2, hv2, hf⟩ := bsome hf
    refine Ex.callV rfl rfl (by decide) (by omega) rfl rfl (x_X1_takesKey (d := d - 1) (by omega) hr hv2) ?_
    refine Ex.go (pc' := 17) (ls' := [some (.ref 3), some (.int p0)]) (st' := [.int v2.1]) (h' := Hm o r v2.2) 0 rfl ?_
    by_cases hc5 : v2.1 &&& 1 = v2.1
    · replace hf := (if_pos hc5).symm.trans hf
      cases hf
      exact Ex.retZ rfl rfl hc5
    · replace hf := (if_neg hc5).symm.trans hf
      cases hf
def f_X5_tell (m : Mm) (a : Nat) (p0 : Int32) (p1 : Int32) : Option Mm := if inb p0 46 then
  some (mX (mX m (a + 1) p0.toNatClampNeg p1) a 1 (((mX m (a + 1) p0.toNatClampNeg p1).1 a 1) + 1))
  else none
theorem x_X5_tell {d : Nat} (hd : 0 ≤ d) {o r : Nat} {m : Mm} {a : Nat} {p0 : Int32} {p1 : Int32} (ha : isW a) {out : Mm} (hf : f_X5_tell m a p0 p1 = some out) : Ex d none 46 0 [some (.ref a), some (.int p0), some (.int p1)] [] (Hm o r m) (none, Hm o r out) := by
  unfold f_X5_tell at hf
  refine Ex.go (pc' := 1) (ls' := [some (.ref a), some (.int p0), some (.int p1)]) (st' := [.ref a]) (h' := Hm o r m) 1 rfl ?_
  refine Ex.get2 rfl rfl (z_W0 ha) ?_
  refine Ex.go (pc' := 6) (ls' := [some (.ref a), some (.int p0), some (.int p1)]) (st' := [.int p1, .int p0, .ref (a + 1)]) (h' := Hm o r m) 2 rfl ?_
  by_cases hc1 : inb p0 46
  · replace hf := (if_pos hc1).symm.trans hf
    refine Ex.iast rfl (sh_W1 ha) hc1 ?_
    refine Ex.go (pc' := 9) (ls' := [some (.ref a), some (.int p0), some (.int p1)]) (st' := [.ref a, .ref a]) (h' := Hm o r (mX m (a + 1) p0.toNatClampNeg p1)) 2 rfl ?_
    refine Ex.get0 rfl rfl (gI_ok (sh_W ha)) ?_
    refine Ex.go (pc' := 14) (ls' := [some (.ref a), some (.int p0), some (.int p1)]) (st' := [.int (((mX m (a + 1) p0.toNatClampNeg p1).1 a 1) + 1), .ref a]) (h' := Hm o r (mX m (a + 1) p0.toNatClampNeg p1)) 2 rfl ?_
    refine Ex.put0 rfl rfl (pI_ok (sh_W ha)) ?_
    cases hf
    exact Ex.ret rfl rfl
  · replace hf := (if_neg hc1).symm.trans hf
    cases hf
def f_X1_takesNumber (r : Nat) (m : Mm) (p0 : Int32) : Option (Int32 × Mm) := (f_X5_tell m r (m.1 3 2) p0).bind fun v1 =>
  some ((1 : Int32), (mX v1 3 1 0))
theorem x_X1_takesNumber {d : Nat} (hd : 1 ≤ d) {o r : Nat} (hr : isW r) {m : Mm} {p0 : Int32}  {out : (Int32 × Mm)} (hf : f_X1_takesNumber r m p0 = some out) : Ex d none 18 0 [some (.ref 3), some (.int p0)] [] (Hm o r m) (some (.int out.1), Hm o r out.2) := by
  unfold f_X1_takesNumber at hf
  refine Ex.go (pc' := 9) (ls' := [some (.ref 3), some (.int p0)]) (st' := [.int p0, .int (m.1 3 2), .ref r]) (h' := Hm o r m) 5 rfl ?_
  obtain ⟨v1, hv1, hf⟩ := bsome hf
  refine Ex.callV rfl rfl (by decide) (by omega) rfl (rcv_ok (sh_W hr)) (x_X5_tell (d := d - 1) (by omega) hr hv1) ?_
  refine Ex.go (pc' := 18) (ls' := [some (.ref 3), some (.int p0)]) (st' := [.int 1]) (h' := Hm o r (mX v1 3 1 0)) 4 rfl ?_
  cases hf
  exact Ex.ret rfl rfl
def f_X1_takes (n : Nat) (r : Nat) (m : Mm) (p0 : Int32) : Option (Int32 × Mm) := if (m.1 3 1) = 0 then
  (f_X1_takesKind n r m p0).bind fun v1 =>
    if v1.1 &&& 1 = v1.1 then some (v1.1, v1.2) else none
  else if (m.1 3 1) = 1 then
  if (p0 - 48) < 0 then
    some ((0 : Int32), m)
    else
    if (6 : Int32) ≤ (p0 - 48) then
      some ((0 : Int32), m)
      else
      (f_X1_takesSort n r m (p0 - 48)).bind fun v2 =>
        if v2.1 = 0 then
          some ((0 : Int32), v2.2)
          else
          some ((1 : Int32), v2.2)
  else if (m.1 3 1) = 2 then
  if (p0 - 48) < 0 then
    some ((0 : Int32), m)
    else
    if (4 : Int32) ≤ (p0 - 48) then
      some ((0 : Int32), m)
      else
      (f_X1_takesKey r m ((m.1 3 2) + (p0 - 48))).bind fun v3 =>
        if v3.1 = 0 then
          some ((0 : Int32), v3.2)
          else
          some ((1 : Int32), v3.2)
  else 
  if (p0 - 48) < (m.1 3 3) then
    some ((0 : Int32), m)
    else
    if (9 : Int32) < (p0 - 48) then
      some ((0 : Int32), m)
      else
      (f_X1_takesNumber r m (p0 - 48)).bind fun v4 =>
        if v4.1 = 0 then
          some ((0 : Int32), v4.2)
          else
          some ((1 : Int32), v4.2)
theorem x_X1_takes {d : Nat} (hd : 4 ≤ d) {n : Nat} {o r : Nat} (hr : isW r) {m : Mm} {p0 : Int32}  {out : (Int32 × Mm)} (hf : f_X1_takes n r m p0 = some out) : Ex d none 13 0 [some (.ref 3), some (.int p0), none] [] (Hm o r m) (some (.int out.1), Hm o r out.2) := by
  unfold f_X1_takes at hf
  refine Ex.go (pc' := 9) (ls' := [some (.ref 3), some (.int p0), some (.int (p0 - 48))]) (st' := [.int (m.1 3 1)]) (h' := Hm o r m) 6 rfl ?_
  by_cases hc5 : (m.1 3 1) = 0
  · replace hf := (if_pos hc5).symm.trans hf
    refine Ex.top hc5 ?_
    refine Ex.step (pc' := 36) (ls' := [some (.ref 3), some (.int p0), some (.int (p0 - 48))]) (st' := []) (h' := Hm o r m) rfl rfl rfl rfl ?_
    refine Ex.go (pc' := 38) (ls' := [some (.ref 3), some (.int p0), some (.int (p0 - 48))]) (st' := [.int p0, .ref 3]) (h' := Hm o r m) 2 rfl ?_
    obtain ⟨v1, hv1, hf⟩ := bsome hf
    refine Ex.callV rfl rfl (by decide) (by omega) rfl rfl (x_X1_takesKind (d := d - 1) (by omega) hr hv1) ?_
    refine Ex.go (pc' := 41) (ls' := [some (.ref 3), some (.int p0), some (.int (p0 - 48))]) (st' := [.int v1.1]) (h' := Hm o r v1.2) 0 rfl ?_
    by_cases hc6 : v1.1 &&& 1 = v1.1
    · replace hf := (if_pos hc6).symm.trans hf
      cases hf
      exact Ex.retZ rfl rfl hc6
    · replace hf := (if_neg hc6).symm.trans hf
      cases hf
  replace hf := (if_neg hc5).symm.trans hf
  by_cases hc7 : (m.1 3 1) = 1
  · replace hf := (if_pos hc7).symm.trans hf
    refine Ex.top hc7 ?_
    refine Ex.step (pc' := 42) (ls' := [some (.ref 3), some (.int p0), some (.int (p0 - 48))]) (st' := []) (h' := Hm o r m) rfl rfl rfl rfl ?_
    refine Ex.go (pc' := 43) (ls' := [some (.ref 3), some (.int p0), some (.int (p0 - 48))]) (st' := [.int (p0 - 48)]) (h' := Hm o r m) 1 rfl ?_
    by_cases hc8 : (p0 - 48) < 0
    · replace hf := (if_pos hc8).symm.trans hf
      refine Ex.if_lt_t rfl hc8 ?_
      refine Ex.go (pc' := 65) (ls' := [some (.ref 3), some (.int p0), some (.int (p0 - 48))]) (st' := [.int 0]) (h' := Hm o r m) 1 rfl ?_
      cases hf
      exact Ex.ret rfl rfl
    · replace hf := (if_neg hc8).symm.trans hf
      refine Ex.if_lt_f rfl hc8 ?_
      refine Ex.go (pc' := 49) (ls' := [some (.ref 3), some (.int p0), some (.int (p0 - 48))]) (st' := [.int 6, .int (p0 - 48)]) (h' := Hm o r m) 2 rfl ?_
      by_cases hc9 : (6 : Int32) ≤ (p0 - 48)
      · replace hf := (if_pos hc9).symm.trans hf
        refine Ex.ic_ge_t rfl hc9 ?_
        refine Ex.go (pc' := 65) (ls' := [some (.ref 3), some (.int p0), some (.int (p0 - 48))]) (st' := [.int 0]) (h' := Hm o r m) 1 rfl ?_
        cases hf
        exact Ex.ret rfl rfl
      · replace hf := (if_neg hc9).symm.trans hf
        refine Ex.ic_ge_f rfl hc9 ?_
        refine Ex.go (pc' := 54) (ls' := [some (.ref 3), some (.int p0), some (.int (p0 - 48))]) (st' := [.int (p0 - 48), .ref 3]) (h' := Hm o r m) 2 rfl ?_
        obtain ⟨v2, hv2, hf⟩ := bsome hf
        refine Ex.callV rfl rfl (by decide) (by omega) rfl rfl (x_X1_takesSort (d := d - 1) (by omega) hr hv2) ?_
        refine Ex.go (pc' := 57) (ls' := [some (.ref 3), some (.int p0), some (.int (p0 - 48))]) (st' := [.int v2.1]) (h' := Hm o r v2.2) 0 rfl ?_
        by_cases hc10 : v2.1 = 0
        · replace hf := (if_pos hc10).symm.trans hf
          refine Ex.if_eq_t rfl hc10 ?_
          refine Ex.go (pc' := 65) (ls' := [some (.ref 3), some (.int p0), some (.int (p0 - 48))]) (st' := [.int 0]) (h' := Hm o r v2.2) 1 rfl ?_
          cases hf
          exact Ex.ret rfl rfl
        · replace hf := (if_neg hc10).symm.trans hf
          refine Ex.if_eq_f rfl hc10 ?_
          refine Ex.go (pc' := 65) (ls' := [some (.ref 3), some (.int p0), some (.int (p0 - 48))]) (st' := [.int 1]) (h' := Hm o r v2.2) 2 rfl ?_
          cases hf
          exact Ex.ret rfl rfl
  replace hf := (if_neg hc7).symm.trans hf
  by_cases hc11 : (m.1 3 1) = 2
  · replace hf := (if_pos hc11).symm.trans hf
    refine Ex.top hc11 ?_
    refine Ex.step (pc' := 66) (ls' := [some (.ref 3), some (.int p0), some (.int (p0 - 48))]) (st' := []) (h' := Hm o r m) rfl rfl rfl rfl ?_
    refine Ex.go (pc' := 67) (ls' := [some (.ref 3), some (.int p0), some (.int (p0 - 48))]) (st' := [.int (p0 - 48)]) (h' := Hm o r m) 1 rfl ?_
    by_cases hc12 : (p0 - 48) < 0
    · replace hf := (if_pos hc12).symm.trans hf
      refine Ex.if_lt_t rfl hc12 ?_
      refine Ex.go (pc' := 93) (ls' := [some (.ref 3), some (.int p0), some (.int (p0 - 48))]) (st' := [.int 0]) (h' := Hm o r m) 1 rfl ?_
      cases hf
      exact Ex.ret rfl rfl
    · replace hf := (if_neg hc12).symm.trans hf
      refine Ex.if_lt_f rfl hc12 ?_
      refine Ex.go (pc' := 72) (ls' := [some (.ref 3), some (.int p0), some (.int (p0 - 48))]) (st' := [.int 4, .int (p0 - 48)]) (h' := Hm o r m) 2 rfl ?_
      by_cases hc13 : (4 : Int32) ≤ (p0 - 48)
      · replace hf := (if_pos hc13).symm.trans hf
        refine Ex.ic_ge_t rfl hc13 ?_
        refine Ex.go (pc' := 93) (ls' := [some (.ref 3), some (.int p0), some (.int (p0 - 48))]) (st' := [.int 0]) (h' := Hm o r m) 1 rfl ?_
        cases hf
        exact Ex.ret rfl rfl
      · replace hf := (if_neg hc13).symm.trans hf
        refine Ex.ic_ge_f rfl hc13 ?_
        refine Ex.go (pc' := 82) (ls' := [some (.ref 3), some (.int p0), some (.int (p0 - 48))]) (st' := [.int ((m.1 3 2) + (p0 - 48)), .ref 3]) (h' := Hm o r m) 5 rfl ?_
        obtain ⟨v3, hv3, hf⟩ := bsome hf
        refine Ex.callV rfl rfl (by decide) (by omega) rfl rfl (x_X1_takesKey (d := d - 1) (by omega) hr hv3) ?_
        refine Ex.go (pc' := 85) (ls' := [some (.ref 3), some (.int p0), some (.int (p0 - 48))]) (st' := [.int v3.1]) (h' := Hm o r v3.2) 0 rfl ?_
        by_cases hc14 : v3.1 = 0
        · replace hf := (if_pos hc14).symm.trans hf
          refine Ex.if_eq_t rfl hc14 ?_
          refine Ex.go (pc' := 93) (ls' := [some (.ref 3), some (.int p0), some (.int (p0 - 48))]) (st' := [.int 0]) (h' := Hm o r v3.2) 1 rfl ?_
          cases hf
          exact Ex.ret rfl rfl
        · replace hf := (if_neg hc14).symm.trans hf
          refine Ex.if_eq_f rfl hc14 ?_
          refine Ex.go (pc' := 93) (ls' := [some (.ref 3), some (.int p0), some (.int (p0 - 48))]) (st' := [.int 1]) (h' := Hm o r v3.2) 2 rfl ?_
          cases hf
          exact Ex.ret rfl rfl
  replace hf := (if_neg hc11).symm.trans hf
  refine Ex.tswD rfl (tsD2 hc5 hc7 hc11) rfl rfl ?_
  refine Ex.go (pc' := 99) (ls' := [some (.ref 3), some (.int p0), some (.int (p0 - 48))]) (st' := [.int (m.1 3 3), .int (p0 - 48)]) (h' := Hm o r m) 3 rfl ?_
  by_cases hc15 : (p0 - 48) < (m.1 3 3)
  · replace hf := (if_pos hc15).symm.trans hf
    refine Ex.ic_lt_t rfl hc15 ?_
    refine Ex.go (pc' := 121) (ls' := [some (.ref 3), some (.int p0), some (.int (p0 - 48))]) (st' := [.int 0]) (h' := Hm o r m) 1 rfl ?_
    cases hf
    exact Ex.ret rfl rfl
  · replace hf := (if_neg hc15).symm.trans hf
    refine Ex.ic_lt_f rfl hc15 ?_
    refine Ex.go (pc' := 105) (ls' := [some (.ref 3), some (.int p0), some (.int (p0 - 48))]) (st' := [.int 9, .int (p0 - 48)]) (h' := Hm o r m) 2 rfl ?_
    by_cases hc16 : (9 : Int32) < (p0 - 48)
    · replace hf := (if_pos hc16).symm.trans hf
      refine Ex.ic_gt_t rfl hc16 ?_
      refine Ex.go (pc' := 121) (ls' := [some (.ref 3), some (.int p0), some (.int (p0 - 48))]) (st' := [.int 0]) (h' := Hm o r m) 1 rfl ?_
      cases hf
      exact Ex.ret rfl rfl
    · replace hf := (if_neg hc16).symm.trans hf
      refine Ex.ic_gt_f rfl hc16 ?_
      refine Ex.go (pc' := 110) (ls' := [some (.ref 3), some (.int p0), some (.int (p0 - 48))]) (st' := [.int (p0 - 48), .ref 3]) (h' := Hm o r m) 2 rfl ?_
      obtain ⟨v4, hv4, hf⟩ := bsome hf
      refine Ex.callV rfl rfl (by decide) (by omega) rfl rfl (x_X1_takesNumber (d := d - 1) (by omega) hr hv4) ?_
      refine Ex.go (pc' := 113) (ls' := [some (.ref 3), some (.int p0), some (.int (p0 - 48))]) (st' := [.int v4.1]) (h' := Hm o r v4.2) 0 rfl ?_
      by_cases hc17 : v4.1 = 0
      · replace hf := (if_pos hc17).symm.trans hf
        refine Ex.if_eq_t rfl hc17 ?_
        refine Ex.go (pc' := 121) (ls' := [some (.ref 3), some (.int p0), some (.int (p0 - 48))]) (st' := [.int 0]) (h' := Hm o r v4.2) 1 rfl ?_
        cases hf
        exact Ex.ret rfl rfl
      · replace hf := (if_neg hc17).symm.trans hf
        refine Ex.if_eq_f rfl hc17 ?_
        refine Ex.go (pc' := 121) (ls' := [some (.ref 3), some (.int p0), some (.int (p0 - 48))]) (st' := [.int 1]) (h' := Hm o r v4.2) 2 rfl ?_
        cases hf
        exact Ex.ret rfl rfl
def f_X1_faultOf_b14 (n : Nat) (r : Nat)  (s : Int32 × Mm) : Option ((Int32 × Mm) ⊕ ((Mm) ⊕ (Int32 × Mm))) := if (s.2.1 1 1) ≤ s.1 then
  some (.inr (.inl s.2))
  else
  if inb s.1 64 then
    (f_X1_takes n r s.2 (s.2.1 2 s.1.toNatClampNeg)).bind fun v2 =>
      if v2.1 = 0 then
        some (.inr (.inr (s.1, v2.2)))
        else
        some (.inl ((s.1 + 1), v2.2))
    else none
theorem x_X1_faultOf_b14 {d : Nat} (hd : 5 ≤ d) {n : Nat} {o r : Nat} (hr : isW r)   {s : Int32 × Mm} {out : (Int32 × Mm) ⊕ ((Mm) ⊕ (Int32 × Mm))} (hf : f_X1_faultOf_b14 n r  s = some out) {R : Option Value × Hp} (k1 : ∀ s', out = .inl s' → Ex d none 11 14 [some (.ref 3), some (.ref 1), some (.int s'.1)] [] (Hm o r s'.2) R) (k2 : ∀ t, out = .inr (.inl t) → Ex d none 11 43 [some (.ref 3), some (.ref 1), none] [] (Hm o r t) R) (k3 : ∀ q, out = .inr (.inr q) → (some (.int q.1), Hm o r q.2) = R) : Ex d none 11 14 [some (.ref 3), some (.ref 1), some (.int s.1)] [] (Hm o r s.2) R := by
  unfold f_X1_faultOf_b14 at hf
  refine Ex.go (pc' := 19) (ls' := [some (.ref 3), some (.ref 1), some (.int s.1)]) (st' := [.int (s.2.1 1 1), .int s.1]) (h' := Hm o r s.2) 3 rfl ?_
  by_cases hc3 : (s.2.1 1 1) ≤ s.1
  · replace hf := (if_pos hc3).symm.trans hf
    refine Ex.ic_ge_t rfl hc3 ?_
    refine Ex.wk (l := [some (.ref 3), some (.ref 1), none]) ⟨rfl, ⟨rfl, trivial⟩⟩ ?_
    cases hf
    exact k2 _ rfl
  · replace hf := (if_neg hc3).symm.trans hf
    refine Ex.ic_ge_f rfl hc3 ?_
    refine Ex.go (pc' := 28) (ls' := [some (.ref 3), some (.ref 1), some (.int s.1)]) (st' := [.int s.1, .ref 2, .ref 3]) (h' := Hm o r s.2) 4 rfl ?_
    by_cases hc4 : inb s.1 64
    · replace hf := (if_pos hc4).symm.trans hf
      refine Ex.bald1 rfl rfl hc4 ?_
      obtain ⟨v2, hv2, hf⟩ := bsome hf
      refine Ex.callV rfl rfl (by decide) (by omega) rfl rfl (x_X1_takes (d := d - 1) (by omega) hr hv2) ?_
      refine Ex.go (pc' := 32) (ls' := [some (.ref 3), some (.ref 1), some (.int s.1)]) (st' := [.int v2.1]) (h' := Hm o r v2.2) 0 rfl ?_
      by_cases hc5 : v2.1 = 0
      · replace hf := (if_pos hc5).symm.trans hf
        refine Ex.if_ne_t rfl hc5 ?_
        refine Ex.go (pc' := 36) (ls' := [some (.ref 3), some (.ref 1), some (.int s.1)]) (st' := [.int s.1]) (h' := Hm o r v2.2) 1 rfl ?_
        cases hf
        rw [← k3 _ rfl]
        exact Ex.ret rfl rfl
      · replace hf := (if_neg hc5).symm.trans hf
        refine Ex.if_ne_f rfl hc5 ?_
        refine Ex.go (pc' := 14) (ls' := [some (.ref 3), some (.ref 1), some (.int (s.1 + 1))]) (st' := []) (h' := Hm o r v2.2) 2 rfl ?_
        cases hf
        exact k1 _ rfl
    · replace hf := (if_neg hc4).symm.trans hf
      cases hf
theorem x_X1_faultOf_b14_loop {d : Nat} (hd : 5 ≤ d) {n : Nat} {o r : Nat} (hr : isW r)   {k : Nat} {s : Int32 × Mm} {e : (Mm) ⊕ (Int32 × Mm)} (hf : itr (f_X1_faultOf_b14 n r) k s = some e) {R : Option Value × Hp} (k2 : ∀ t, e = .inl t → Ex d none 11 43 [some (.ref 3), some (.ref 1), none] [] (Hm o r t) R) (k3 : ∀ q, e = .inr q → (some (.int q.1), Hm o r q.2) = R) : Ex d none 11 14 [some (.ref 3), some (.ref 1), some (.int s.1)] [] (Hm o r s.2) R := by
  induction k generalizing s with
  | zero => cases hf
  | succ k ih =>
    cases hb : f_X1_faultOf_b14 n r s with
    | none =>
      have h9 := (itr_none (k := k) hb).symm.trans hf
      cases h9
    | some out =>
      cases out with
      | inl s' =>
        have h9 := (itr_inl (k := k) hb).symm.trans hf
        exact x_X1_faultOf_b14 hd hr hb (fun s'' h => by cases h; exact ih h9) (fun t h => by cases h) (fun q h => by cases h)
      | inr e' =>
        have h9 := (itr_inr (k := k) hb).symm.trans hf
        cases h9
        exact x_X1_faultOf_b14 hd hr hb (fun s'' h => by cases h) (fun t h => k2 t (Sum.inr.inj h)) (fun q h => k3 q (Sum.inr.inj h))
def f_X1_faultOf (n : Nat) (r : Nat) (m : Mm)  : Option (Int32 × Mm) := (f_X5_forget n m r).bind fun v1 =>
  (itr (f_X1_faultOf_b14 n r) n ((0, (mX v1 3 1 0)) : Int32 × Mm)).bind fun e6 =>
    match e6 with
    | .inl t7 =>
      if (t7.1 3 1) = 0 then
        some (((-9) : Int32), t7)
        else
        some ((t7.1 1 1), t7)
    | .inr q8 => some q8
theorem x_X1_faultOf {d : Nat} (hd : 5 ≤ d) {n : Nat} {o r : Nat} (hr : isW r) {m : Mm}   {out : (Int32 × Mm)} (hf : f_X1_faultOf n r m = some out) : Ex d none 11 0 [some (.ref 3), some (.ref 1), none] [] (Hm o r m) (some (.int out.1), Hm o r out.2) := by
  unfold f_X1_faultOf at hf
  refine Ex.go (pc' := 4) (ls' := [some (.ref 3), some (.ref 1), none]) (st' := [.ref r]) (h' := Hm o r m) 2 rfl ?_
  obtain ⟨v1, hv1, hf⟩ := bsome hf
  refine Ex.callV rfl rfl (by decide) (by omega) rfl (rcv_ok (sh_W hr)) (x_X5_forget (d := d - 1) (by omega) hr hv1) ?_
  refine Ex.go (pc' := 14) (ls' := [some (.ref 3), some (.ref 1), some (.int 0)]) (st' := []) (h' := Hm o r (mX v1 3 1 0)) 5 rfl ?_
  obtain ⟨e6, he6, hf⟩ := bsome hf
  refine x_X1_faultOf_b14_loop hd hr he6 (fun t ht => ?_) (fun q hq => ?_)
  · cases ht
    refine Ex.go (pc' := 47) (ls' := [some (.ref 3), some (.ref 1), none]) (st' := [.int (t.1 3 1)]) (h' := Hm o r t) 2 rfl ?_
    by_cases hc9 : (t.1 3 1) = 0
    · replace hf := (if_pos hc9).symm.trans hf
      refine Ex.if_ne_t rfl hc9 ?_
      refine Ex.go (pc' := 59) (ls' := [some (.ref 3), some (.ref 1), none]) (st' := [.int (-9)]) (h' := Hm o r t) 2 rfl ?_
      cases hf
      exact Ex.ret rfl rfl
    · replace hf := (if_neg hc9).symm.trans hf
      refine Ex.if_ne_f rfl hc9 ?_
      refine Ex.go (pc' := 59) (ls' := [some (.ref 3), some (.ref 1), none]) (st' := [.int (t.1 1 1)]) (h' := Hm o r t) 2 rfl ?_
      cases hf
      exact Ex.ret rfl rfl
  · cases hq
    cases hf
    rfl
def f_X2_add (m : Mm) (p0 : Int32) : Option Mm := if inb (m.1 9 1) 48 then
  some (mX (mX m 10 (m.1 9 1).toNatClampNeg p0) 9 1 (((mX m 10 (m.1 9 1).toNatClampNeg p0).1 9 1) + 1))
  else none
theorem x_X2_add {d : Nat} (hd : 0 ≤ d) {o r : Nat} {m : Mm} {p0 : Int32}  {out : Mm} (hf : f_X2_add m p0 = some out) : Ex d none 20 0 [some (.ref 9), some (.int p0)] [] (Hm o r m) (none, Hm o r out) := by
  unfold f_X2_add at hf
  refine Ex.go (pc' := 9) (ls' := [some (.ref 9), some (.int p0)]) (st' := [.int p0, .int (m.1 9 1), .ref 10]) (h' := Hm o r m) 5 rfl ?_
  by_cases hc1 : inb (m.1 9 1) 48
  · replace hf := (if_pos hc1).symm.trans hf
    refine Ex.iast rfl rfl hc1 ?_
    refine Ex.go (pc' := 20) (ls' := [some (.ref 9), some (.int p0)]) (st' := []) (h' := Hm o r (mX (mX m 10 (m.1 9 1).toNatClampNeg p0) 9 1 (((mX m 10 (m.1 9 1).toNatClampNeg p0).1 9 1) + 1))) 6 rfl ?_
    cases hf
    exact Ex.ret rfl rfl
  · replace hf := (if_neg hc1).symm.trans hf
    cases hf
def f_X2_countInto_b2 (n : Nat) (x1 : Nat) (s : Int32 × Mm) : Option ((Int32 × Mm) ⊕ (Mm)) := if (6 : Int32) < s.1 then
  some (.inr s.2)
  else
  if inb s.1 7 then
    some (.inl ((s.1 + 1), (mX s.2 x1 s.1.toNatClampNeg 0)))
    else none
theorem x_X2_countInto_b2 {d : Nat} (hd : 0 ≤ d) {n : Nat} {o r : Nat} {x1 : Nat} (hx1 : SHc[x1]? = some (100, 7)) {s : Int32 × Mm} {out : (Int32 × Mm) ⊕ (Mm)} (hf : f_X2_countInto_b2 n x1 s = some out) {R : Option Value × Hp} (k1 : ∀ s', out = .inl s' → Ex d none 21 2 [some (.ref 9), some (.ref x1), some (.int s'.1)] [] (Hm o r s'.2) R) (k2 : ∀ t, out = .inr t → Ex d none 21 18 [some (.ref 9), some (.ref x1), none] [] (Hm o r t) R) : Ex d none 21 2 [some (.ref 9), some (.ref x1), some (.int s.1)] [] (Hm o r s.2) R := by
  unfold f_X2_countInto_b2 at hf
  refine Ex.go (pc' := 5) (ls' := [some (.ref 9), some (.ref x1), some (.int s.1)]) (st' := [.int 6, .int s.1]) (h' := Hm o r s.2) 2 rfl ?_
  by_cases hc1 : (6 : Int32) < s.1
  · replace hf := (if_pos hc1).symm.trans hf
    refine Ex.ic_gt_t rfl hc1 ?_
    refine Ex.wk (l := [some (.ref 9), some (.ref x1), none]) ⟨rfl, ⟨rfl, trivial⟩⟩ ?_
    cases hf
    exact k2 _ rfl
  · replace hf := (if_neg hc1).symm.trans hf
    refine Ex.ic_gt_f rfl hc1 ?_
    refine Ex.go (pc' := 11) (ls' := [some (.ref 9), some (.ref x1), some (.int s.1)]) (st' := [.int 0, .int s.1, .ref x1]) (h' := Hm o r s.2) 3 rfl ?_
    by_cases hc2 : inb s.1 7
    · replace hf := (if_pos hc2).symm.trans hf
      refine Ex.iast rfl hx1 hc2 ?_
      refine Ex.go (pc' := 2) (ls' := [some (.ref 9), some (.ref x1), some (.int (s.1 + 1))]) (st' := []) (h' := Hm o r (mX s.2 x1 s.1.toNatClampNeg 0)) 2 rfl ?_
      cases hf
      exact k1 _ rfl
    · replace hf := (if_neg hc2).symm.trans hf
      cases hf
theorem x_X2_countInto_b2_loop {d : Nat} (hd : 0 ≤ d) {n : Nat} {o r : Nat} {x1 : Nat} (hx1 : SHc[x1]? = some (100, 7)) {k : Nat} {s : Int32 × Mm} {e : Mm} (hf : itr (f_X2_countInto_b2 n x1) k s = some e) {R : Option Value × Hp} (k2 : ∀ t, e = t → Ex d none 21 18 [some (.ref 9), some (.ref x1), none] [] (Hm o r t) R) : Ex d none 21 2 [some (.ref 9), some (.ref x1), some (.int s.1)] [] (Hm o r s.2) R := by
  induction k generalizing s with
  | zero => cases hf
  | succ k ih =>
    cases hb : f_X2_countInto_b2 n x1 s with
    | none =>
      have h9 := (itr_none (k := k) hb).symm.trans hf
      cases h9
    | some out =>
      cases out with
      | inl s' =>
        have h9 := (itr_inl (k := k) hb).symm.trans hf
        exact x_X2_countInto_b2 hd hx1 hb (fun s'' h => by cases h; exact ih h9) (fun t h => by cases h)
      | inr e' =>
        have h9 := (itr_inr (k := k) hb).symm.trans hf
        cases h9
        exact x_X2_countInto_b2 hd hx1 hb (fun s'' h => by cases h) (fun t h => k2 t (Sum.inr.inj h))
def f_X2_countInto_b20 (n : Nat) (x1 : Nat) (s : Int32 × Mm) : Option ((Int32 × Mm) ⊕ (Mm)) := if (s.2.1 9 1) ≤ s.1 then
  some (.inr s.2)
  else
  if inb s.1 48 then
    if inb (s.2.1 10 s.1.toNatClampNeg) 7 then
      if inb (s.2.1 10 s.1.toNatClampNeg) 7 then
        some (.inl ((s.1 + 1), (mX s.2 x1 (s.2.1 10 s.1.toNatClampNeg).toNatClampNeg ((s.2.1 x1 (s.2.1 10 s.1.toNatClampNeg).toNatClampNeg) + 1))))
        else none
      else none
    else none
theorem x_X2_countInto_b20 {d : Nat} (hd : 0 ≤ d) {n : Nat} {o r : Nat} {x1 : Nat} (hx1 : SHc[x1]? = some (100, 7)) {s : Int32 × Mm} {out : (Int32 × Mm) ⊕ (Mm)} (hf : f_X2_countInto_b20 n x1 s = some out) {R : Option Value × Hp} (k1 : ∀ s', out = .inl s' → Ex d none 21 20 [some (.ref 9), some (.ref x1), some (.int s'.1)] [] (Hm o r s'.2) R) (k2 : ∀ t, out = .inr t → Ex d none 21 46 [none, none, none] [] (Hm o r t) R) : Ex d none 21 20 [some (.ref 9), some (.ref x1), some (.int s.1)] [] (Hm o r s.2) R := by
  unfold f_X2_countInto_b20 at hf
  refine Ex.go (pc' := 25) (ls' := [some (.ref 9), some (.ref x1), some (.int s.1)]) (st' := [.int (s.2.1 9 1), .int s.1]) (h' := Hm o r s.2) 3 rfl ?_
  by_cases hc4 : (s.2.1 9 1) ≤ s.1
  · replace hf := (if_pos hc4).symm.trans hf
    refine Ex.ic_ge_t rfl hc4 ?_
    refine Ex.wk (l := [none, none, none]) trivial ?_
    cases hf
    exact k2 _ rfl
  · replace hf := (if_neg hc4).symm.trans hf
    refine Ex.ic_ge_f rfl hc4 ?_
    refine Ex.go (pc' := 34) (ls' := [some (.ref 9), some (.ref x1), some (.int s.1)]) (st' := [.int s.1, .ref 10, .ref x1]) (h' := Hm o r s.2) 4 rfl ?_
    by_cases hc5 : inb s.1 48
    · replace hf := (if_pos hc5).symm.trans hf
      refine Ex.iald rfl rfl hc5 ?_
      refine Ex.go (pc' := 36) (ls' := [some (.ref 9), some (.ref x1), some (.int s.1)]) (st' := [.int (s.2.1 10 s.1.toNatClampNeg), .ref x1, .int (s.2.1 10 s.1.toNatClampNeg), .ref x1]) (h' := Hm o r s.2) 1 rfl ?_
      by_cases hc6 : inb (s.2.1 10 s.1.toNatClampNeg) 7
      · replace hf := (if_pos hc6).symm.trans hf
        refine Ex.iald rfl hx1 hc6 ?_
        refine Ex.go (pc' := 39) (ls' := [some (.ref 9), some (.ref x1), some (.int s.1)]) (st' := [.int ((s.2.1 x1 (s.2.1 10 s.1.toNatClampNeg).toNatClampNeg) + 1), .int (s.2.1 10 s.1.toNatClampNeg), .ref x1]) (h' := Hm o r s.2) 2 rfl ?_
        by_cases hc7 : inb (s.2.1 10 s.1.toNatClampNeg) 7
        · replace hf := (if_pos hc7).symm.trans hf
          refine Ex.iast rfl hx1 hc7 ?_
          refine Ex.go (pc' := 20) (ls' := [some (.ref 9), some (.ref x1), some (.int (s.1 + 1))]) (st' := []) (h' := Hm o r (mX s.2 x1 (s.2.1 10 s.1.toNatClampNeg).toNatClampNeg ((s.2.1 x1 (s.2.1 10 s.1.toNatClampNeg).toNatClampNeg) + 1))) 2 rfl ?_
          cases hf
          exact k1 _ rfl
        · replace hf := (if_neg hc7).symm.trans hf
          cases hf
      · replace hf := (if_neg hc6).symm.trans hf
        cases hf
    · replace hf := (if_neg hc5).symm.trans hf
      cases hf
theorem x_X2_countInto_b20_loop {d : Nat} (hd : 0 ≤ d) {n : Nat} {o r : Nat} {x1 : Nat} (hx1 : SHc[x1]? = some (100, 7)) {k : Nat} {s : Int32 × Mm} {e : Mm} (hf : itr (f_X2_countInto_b20 n x1) k s = some e) {R : Option Value × Hp} (k2 : ∀ t, e = t → Ex d none 21 46 [none, none, none] [] (Hm o r t) R) : Ex d none 21 20 [some (.ref 9), some (.ref x1), some (.int s.1)] [] (Hm o r s.2) R := by
  induction k generalizing s with
  | zero => cases hf
  | succ k ih =>
    cases hb : f_X2_countInto_b20 n x1 s with
    | none =>
      have h9 := (itr_none (k := k) hb).symm.trans hf
      cases h9
    | some out =>
      cases out with
      | inl s' =>
        have h9 := (itr_inl (k := k) hb).symm.trans hf
        exact x_X2_countInto_b20 hd hx1 hb (fun s'' h => by cases h; exact ih h9) (fun t h => by cases h)
      | inr e' =>
        have h9 := (itr_inr (k := k) hb).symm.trans hf
        cases h9
        exact x_X2_countInto_b20 hd hx1 hb (fun s'' h => by cases h) (fun t h => k2 t (Sum.inr.inj h))
def f_X2_countInto (n : Nat) (m : Mm) (p0 : Nat) : Option Mm := (itr (f_X2_countInto_b2 n p0) n ((0, m) : Int32 × Mm)).bind fun e3 =>
  (itr (f_X2_countInto_b20 n p0) n ((0, e3) : Int32 × Mm)).bind fun e8 =>
    some e8
theorem x_X2_countInto {d : Nat} (hd : 0 ≤ d) {n : Nat} {o r : Nat} {m : Mm} {p0 : Nat} (hp0 : SHc[p0]? = some (100, 7)) {out : Mm} (hf : f_X2_countInto n m p0 = some out) : Ex d none 21 0 [some (.ref 9), some (.ref p0), none] [] (Hm o r m) (none, Hm o r out) := by
  unfold f_X2_countInto at hf
  refine Ex.go (pc' := 2) (ls' := [some (.ref 9), some (.ref p0), some (.int 0)]) (st' := []) (h' := Hm o r m) 2 rfl ?_
  obtain ⟨e3, he3, hf⟩ := bsome hf
  refine x_X2_countInto_b2_loop hd hp0 he3 (fun t ht => ?_)
  · cases ht
    refine Ex.go (pc' := 20) (ls' := [some (.ref 9), some (.ref p0), some (.int 0)]) (st' := []) (h' := Hm o r e3) 2 rfl ?_
    obtain ⟨e8, he8, hf⟩ := bsome hf
    refine x_X2_countInto_b20_loop hd hp0 he8 (fun t ht => ?_)
    · cases ht
      refine Ex.go (pc' := 46) (ls' := [none, none, none]) (st' := []) (h' := Hm o r e8) 0 rfl ?_
      cases hf
      exact Ex.ret rfl rfl
end

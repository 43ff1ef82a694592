-- ===== PART A: goes FIRST, ahead of the names: the tables' words, and 'selects' of the private methods out of them =====
/-- a private method of a class that the tables say can be made, by its rows of tables_1 -/
def lw_okq (q : MethodName × Nat) : Prop := (q.1.cls ≠ "java/lang/invoke/MethodHandle" ∧ q.1.cls ≠ "java/lang/invoke/VarHandle") ∧ Cond.instantiable q.1.cls q.2 ∈ tables_1 ∧ Cond.privateMethod q.1 ∈ tables_1 ∧ Cond.instanceMethod q.1 ∈ tables_1
theorem lw_p0 : lw_okq (⟨"BuriedHalves", "found", "(I)I"⟩, 11) := ⟨⟨by decide +kernel, by decide +kernel⟩, List.mem_of_getElem? (i := 14) (by decide +kernel), List.mem_of_getElem? (i := 261) (by decide +kernel), List.mem_of_getElem? (i := 262) (by decide +kernel)⟩
theorem lw_p1 : lw_okq (⟨"BuriedHalves", "fine", "(I)I"⟩, 11) := ⟨⟨by decide +kernel, by decide +kernel⟩, List.mem_of_getElem? (i := 14) (by decide +kernel), List.mem_of_getElem? (i := 270) (by decide +kernel), List.mem_of_getElem? (i := 271) (by decide +kernel)⟩
theorem lw_p2 : lw_okq (⟨"BuriedHalves$Text", "readLaw", "(LBuriedHalves$Mine;)V"⟩, 4) := ⟨⟨by decide +kernel, by decide +kernel⟩, List.mem_of_getElem? (i := 44) (by decide +kernel), List.mem_of_getElem? (i := 318) (by decide +kernel), List.mem_of_getElem? (i := 319) (by decide +kernel)⟩
theorem lw_p3 : lw_okq (⟨"BuriedHalves$Text", "pass", "(I)V"⟩, 4) := ⟨⟨by decide +kernel, by decide +kernel⟩, List.mem_of_getElem? (i := 44) (by decide +kernel), List.mem_of_getElem? (i := 322) (by decide +kernel), List.mem_of_getElem? (i := 323) (by decide +kernel)⟩
theorem lw_p4 : lw_okq (⟨"BuriedHalves$Text", "next", "()I"⟩, 4) := ⟨⟨by decide +kernel, by decide +kernel⟩, List.mem_of_getElem? (i := 44) (by decide +kernel), List.mem_of_getElem? (i := 326) (by decide +kernel), List.mem_of_getElem? (i := 327) (by decide +kernel)⟩
theorem lw_p5 : lw_okq (⟨"BuriedHalves$Text", "byteAt", "(I)I"⟩, 4) := ⟨⟨by decide +kernel, by decide +kernel⟩, List.mem_of_getElem? (i := 44) (by decide +kernel), List.mem_of_getElem? (i := 330) (by decide +kernel), List.mem_of_getElem? (i := 331) (by decide +kernel)⟩
theorem lw_p6 : lw_okq (⟨"BuriedHalves$Text", "fail", "(I)V"⟩, 4) := ⟨⟨by decide +kernel, by decide +kernel⟩, List.mem_of_getElem? (i := 44) (by decide +kernel), List.mem_of_getElem? (i := 334) (by decide +kernel), List.mem_of_getElem? (i := 335) (by decide +kernel)⟩
theorem lw_p7 : lw_okq (⟨"BuriedHalves$Text", "number", "(II)I"⟩, 4) := ⟨⟨by decide +kernel, by decide +kernel⟩, List.mem_of_getElem? (i := 44) (by decide +kernel), List.mem_of_getElem? (i := 338) (by decide +kernel), List.mem_of_getElem? (i := 339) (by decide +kernel)⟩
theorem lw_p8 : lw_okq (⟨"BuriedHalves$Text", "isFigure", "(I)Z"⟩, 4) := ⟨⟨by decide +kernel, by decide +kernel⟩, List.mem_of_getElem? (i := 44) (by decide +kernel), List.mem_of_getElem? (i := 342) (by decide +kernel), List.mem_of_getElem? (i := 343) (by decide +kernel)⟩
theorem lw_p9 : lw_okq (⟨"BuriedHalves$Text", "readThing", "(LBuriedHalves$Mine;)V"⟩, 4) := ⟨⟨by decide +kernel, by decide +kernel⟩, List.mem_of_getElem? (i := 44) (by decide +kernel), List.mem_of_getElem? (i := 346) (by decide +kernel), List.mem_of_getElem? (i := 347) (by decide +kernel)⟩
theorem lw_p10 : lw_okq (⟨"BuriedHalves$Mine", "ironRise", "(I)I"⟩, 12) := ⟨⟨by decide +kernel, by decide +kernel⟩, List.mem_of_getElem? (i := 65) (by decide +kernel), List.mem_of_getElem? (i := 391) (by decide +kernel), List.mem_of_getElem? (i := 392) (by decide +kernel)⟩
theorem lw_p11 : lw_okq (⟨"BuriedHalves$Mine", "isCovered", "(I)Z"⟩, 12) := ⟨⟨by decide +kernel, by decide +kernel⟩, List.mem_of_getElem? (i := 65) (by decide +kernel), List.mem_of_getElem? (i := 395) (by decide +kernel), List.mem_of_getElem? (i := 396) (by decide +kernel)⟩
theorem lw_p12 : lw_okq (⟨"BuriedHalves", "isThing", "(I)Z"⟩, 11) := ⟨⟨by decide +kernel, by decide +kernel⟩, List.mem_of_getElem? (i := 14) (by decide +kernel), List.mem_of_getElem? (i := 408) (by decide +kernel), List.mem_of_getElem? (i := 409) (by decide +kernel)⟩
theorem lw_p13 : lw_okq (⟨"BuriedHalves", "isMan", "(I)Z"⟩, 11) := ⟨⟨by decide +kernel, by decide +kernel⟩, List.mem_of_getElem? (i := 14) (by decide +kernel), List.mem_of_getElem? (i := 416) (by decide +kernel), List.mem_of_getElem? (i := 417) (by decide +kernel)⟩
theorem lw_p14 : lw_okq (⟨"BuriedHalves$Seer", "passYears", "(I)V"⟩, 2) := ⟨⟨by decide +kernel, by decide +kernel⟩, List.mem_of_getElem? (i := 161) (by decide +kernel), List.mem_of_getElem? (i := 464) (by decide +kernel), List.mem_of_getElem? (i := 465) (by decide +kernel)⟩
theorem lw_p15 : lw_okq (⟨"BuriedHalves$Layer", "oneComesUpAnywhere", "(I)Z"⟩, 5) := ⟨⟨by decide +kernel, by decide +kernel⟩, List.mem_of_getElem? (i := 177) (by decide +kernel), List.mem_of_getElem? (i := 525) (by decide +kernel), List.mem_of_getElem? (i := 526) (by decide +kernel)⟩
def lw_privs_1 : List (MethodName × Nat) := [(⟨"BuriedHalves", "found", "(I)I"⟩, 11), (⟨"BuriedHalves", "fine", "(I)I"⟩, 11), (⟨"BuriedHalves$Text", "readLaw", "(LBuriedHalves$Mine;)V"⟩, 4), (⟨"BuriedHalves$Text", "pass", "(I)V"⟩, 4), (⟨"BuriedHalves$Text", "next", "()I"⟩, 4), (⟨"BuriedHalves$Text", "byteAt", "(I)I"⟩, 4), (⟨"BuriedHalves$Text", "fail", "(I)V"⟩, 4), (⟨"BuriedHalves$Text", "number", "(II)I"⟩, 4), (⟨"BuriedHalves$Text", "isFigure", "(I)Z"⟩, 4), (⟨"BuriedHalves$Text", "readThing", "(LBuriedHalves$Mine;)V"⟩, 4), (⟨"BuriedHalves$Mine", "ironRise", "(I)I"⟩, 12), (⟨"BuriedHalves$Mine", "isCovered", "(I)Z"⟩, 12), (⟨"BuriedHalves", "isThing", "(I)Z"⟩, 11), (⟨"BuriedHalves", "isMan", "(I)Z"⟩, 11), (⟨"BuriedHalves$Seer", "passYears", "(I)V"⟩, 2), (⟨"BuriedHalves$Layer", "oneComesUpAnywhere", "(I)Z"⟩, 5)]
theorem lw_r1 : ∀ q ∈ lw_privs_1, lw_okq q := List.forall_mem_cons.mpr ⟨lw_p0, List.forall_mem_cons.mpr ⟨lw_p1, List.forall_mem_cons.mpr ⟨lw_p2, List.forall_mem_cons.mpr ⟨lw_p3, List.forall_mem_cons.mpr ⟨lw_p4, List.forall_mem_cons.mpr ⟨lw_p5, List.forall_mem_cons.mpr ⟨lw_p6, List.forall_mem_cons.mpr ⟨lw_p7, List.forall_mem_cons.mpr ⟨lw_p8, List.forall_mem_cons.mpr ⟨lw_p9, List.forall_mem_cons.mpr ⟨lw_p10, List.forall_mem_cons.mpr ⟨lw_p11, List.forall_mem_cons.mpr ⟨lw_p12, List.forall_mem_cons.mpr ⟨lw_p13, List.forall_mem_cons.mpr ⟨lw_p14, List.forall_mem_cons.mpr ⟨lw_p15, fun _ h => absurd h List.not_mem_nil⟩⟩⟩⟩⟩⟩⟩⟩⟩⟩⟩⟩⟩⟩⟩⟩
theorem lw_p16 : lw_okq (⟨"BuriedHalves$Layer", "findMoving", "(II)Z"⟩, 5) := ⟨⟨by decide +kernel, by decide +kernel⟩, List.mem_of_getElem? (i := 177) (by decide +kernel), List.mem_of_getElem? (i := 531) (by decide +kernel), List.mem_of_getElem? (i := 532) (by decide +kernel)⟩
theorem lw_p17 : lw_okq (⟨"BuriedHalves$Layer", "countMoved", "(I)I"⟩, 5) := ⟨⟨by decide +kernel, by decide +kernel⟩, List.mem_of_getElem? (i := 177) (by decide +kernel), List.mem_of_getElem? (i := 535) (by decide +kernel), List.mem_of_getElem? (i := 536) (by decide +kernel)⟩
theorem lw_p18 : lw_okq (⟨"BuriedHalves$Layer", "holds", "(I)Z"⟩, 5) := ⟨⟨by decide +kernel, by decide +kernel⟩, List.mem_of_getElem? (i := 177) (by decide +kernel), List.mem_of_getElem? (i := 539) (by decide +kernel), List.mem_of_getElem? (i := 540) (by decide +kernel)⟩
theorem lw_p19 : lw_okq (⟨"BuriedHalves$Mine", "allKnownTo", "(I)Z"⟩, 12) := ⟨⟨by decide +kernel, by decide +kernel⟩, List.mem_of_getElem? (i := 65) (by decide +kernel), List.mem_of_getElem? (i := 561) (by decide +kernel), List.mem_of_getElem? (i := 562) (by decide +kernel)⟩
theorem lw_p20 : lw_okq (⟨"BuriedHalves$Seer", "goesAsTold", "(III)Z"⟩, 2) := ⟨⟨by decide +kernel, by decide +kernel⟩, List.mem_of_getElem? (i := 161) (by decide +kernel), List.mem_of_getElem? (i := 596) (by decide +kernel), List.mem_of_getElem? (i := 597) (by decide +kernel)⟩
theorem lw_p21 : lw_okq (⟨"BuriedHalves$Seer", "weightOf", "(LBuriedHalves$Mine;II)I"⟩, 2) := ⟨⟨by decide +kernel, by decide +kernel⟩, List.mem_of_getElem? (i := 161) (by decide +kernel), List.mem_of_getElem? (i := 609) (by decide +kernel), List.mem_of_getElem? (i := 610) (by decide +kernel)⟩
theorem lw_p22 : lw_okq (⟨"BuriedHalves$Seer", "letDig", "(I)V"⟩, 2) := ⟨⟨by decide +kernel, by decide +kernel⟩, List.mem_of_getElem? (i := 161) (by decide +kernel), List.mem_of_getElem? (i := 613) (by decide +kernel), List.mem_of_getElem? (i := 614) (by decide +kernel)⟩
theorem lw_p23 : lw_okq (⟨"BuriedHalves$Asker", "answer", "(LBuriedHalves$Mine;III)I"⟩, 2) := ⟨⟨by decide +kernel, by decide +kernel⟩, List.mem_of_getElem? (i := 204) (by decide +kernel), List.mem_of_getElem? (i := 657) (by decide +kernel), List.mem_of_getElem? (i := 658) (by decide +kernel)⟩
theorem lw_p24 : lw_okq (⟨"BuriedHalves$Asker", "give", "(LBuriedHalves$Mine;III)I"⟩, 2) := ⟨⟨by decide +kernel, by decide +kernel⟩, List.mem_of_getElem? (i := 204) (by decide +kernel), List.mem_of_getElem? (i := 671) (by decide +kernel), List.mem_of_getElem? (i := 672) (by decide +kernel)⟩
theorem lw_p25 : lw_okq (⟨"BuriedHalves$Asker", "note", "(I)V"⟩, 2) := ⟨⟨by decide +kernel, by decide +kernel⟩, List.mem_of_getElem? (i := 204) (by decide +kernel), List.mem_of_getElem? (i := 675) (by decide +kernel), List.mem_of_getElem? (i := 676) (by decide +kernel)⟩
theorem lw_p26 : lw_okq (⟨"BuriedHalvesModel", "found", "(I)I"⟩, 24) := ⟨⟨by decide +kernel, by decide +kernel⟩, List.mem_of_getElem? (i := 696) (by decide +kernel), List.mem_of_getElem? (i := 789) (by decide +kernel), List.mem_of_getElem? (i := 790) (by decide +kernel)⟩
theorem lw_p27 : lw_okq (⟨"BuriedHalvesModel", "well", "(I)I"⟩, 24) := ⟨⟨by decide +kernel, by decide +kernel⟩, List.mem_of_getElem? (i := 696) (by decide +kernel), List.mem_of_getElem? (i := 794) (by decide +kernel), List.mem_of_getElem? (i := 795) (by decide +kernel)⟩
theorem lw_p28 : lw_okq (⟨"BuriedHalvesModel", "reads", "()Z"⟩, 24) := ⟨⟨by decide +kernel, by decide +kernel⟩, List.mem_of_getElem? (i := 696) (by decide +kernel), List.mem_of_getElem? (i := 820) (by decide +kernel), List.mem_of_getElem? (i := 821) (by decide +kernel)⟩
theorem lw_p29 : lw_okq (⟨"BuriedHalvesModel", "step", "()V"⟩, 24) := ⟨⟨by decide +kernel, by decide +kernel⟩, List.mem_of_getElem? (i := 696) (by decide +kernel), List.mem_of_getElem? (i := 824) (by decide +kernel), List.mem_of_getElem? (i := 825) (by decide +kernel)⟩
theorem lw_p30 : lw_okq (⟨"BuriedHalvesModel", "here", "()I"⟩, 24) := ⟨⟨by decide +kernel, by decide +kernel⟩, List.mem_of_getElem? (i := 696) (by decide +kernel), List.mem_of_getElem? (i := 828) (by decide +kernel), List.mem_of_getElem? (i := 829) (by decide +kernel)⟩
theorem lw_p31 : lw_okq (⟨"BuriedHalvesModel", "fails", "(I)Z"⟩, 24) := ⟨⟨by decide +kernel, by decide +kernel⟩, List.mem_of_getElem? (i := 696) (by decide +kernel), List.mem_of_getElem? (i := 836) (by decide +kernel), List.mem_of_getElem? (i := 837) (by decide +kernel)⟩
def lw_privs_2 : List (MethodName × Nat) := [(⟨"BuriedHalves$Layer", "findMoving", "(II)Z"⟩, 5), (⟨"BuriedHalves$Layer", "countMoved", "(I)I"⟩, 5), (⟨"BuriedHalves$Layer", "holds", "(I)Z"⟩, 5), (⟨"BuriedHalves$Mine", "allKnownTo", "(I)Z"⟩, 12), (⟨"BuriedHalves$Seer", "goesAsTold", "(III)Z"⟩, 2), (⟨"BuriedHalves$Seer", "weightOf", "(LBuriedHalves$Mine;II)I"⟩, 2), (⟨"BuriedHalves$Seer", "letDig", "(I)V"⟩, 2), (⟨"BuriedHalves$Asker", "answer", "(LBuriedHalves$Mine;III)I"⟩, 2), (⟨"BuriedHalves$Asker", "give", "(LBuriedHalves$Mine;III)I"⟩, 2), (⟨"BuriedHalves$Asker", "note", "(I)V"⟩, 2), (⟨"BuriedHalvesModel", "found", "(I)I"⟩, 24), (⟨"BuriedHalvesModel", "well", "(I)I"⟩, 24), (⟨"BuriedHalvesModel", "reads", "()Z"⟩, 24), (⟨"BuriedHalvesModel", "step", "()V"⟩, 24), (⟨"BuriedHalvesModel", "here", "()I"⟩, 24), (⟨"BuriedHalvesModel", "fails", "(I)Z"⟩, 24)]
theorem lw_r2 : ∀ q ∈ lw_privs_2, lw_okq q := List.forall_mem_cons.mpr ⟨lw_p16, List.forall_mem_cons.mpr ⟨lw_p17, List.forall_mem_cons.mpr ⟨lw_p18, List.forall_mem_cons.mpr ⟨lw_p19, List.forall_mem_cons.mpr ⟨lw_p20, List.forall_mem_cons.mpr ⟨lw_p21, List.forall_mem_cons.mpr ⟨lw_p22, List.forall_mem_cons.mpr ⟨lw_p23, List.forall_mem_cons.mpr ⟨lw_p24, List.forall_mem_cons.mpr ⟨lw_p25, List.forall_mem_cons.mpr ⟨lw_p26, List.forall_mem_cons.mpr ⟨lw_p27, List.forall_mem_cons.mpr ⟨lw_p28, List.forall_mem_cons.mpr ⟨lw_p29, List.forall_mem_cons.mpr ⟨lw_p30, List.forall_mem_cons.mpr ⟨lw_p31, fun _ h => absurd h List.not_mem_nil⟩⟩⟩⟩⟩⟩⟩⟩⟩⟩⟩⟩⟩⟩⟩⟩
theorem lw_p32 : lw_okq (⟨"BuriedHalvesModel", "number", "(IIII)Z"⟩, 24) := ⟨⟨by decide +kernel, by decide +kernel⟩, List.mem_of_getElem? (i := 696) (by decide +kernel), List.mem_of_getElem? (i := 840) (by decide +kernel), List.mem_of_getElem? (i := 841) (by decide +kernel)⟩
theorem lw_p33 : lw_okq (⟨"BuriedHalvesModel", "readsThing", "()Z"⟩, 24) := ⟨⟨by decide +kernel, by decide +kernel⟩, List.mem_of_getElem? (i := 696) (by decide +kernel), List.mem_of_getElem? (i := 844) (by decide +kernel), List.mem_of_getElem? (i := 845) (by decide +kernel)⟩
theorem lw_p34 : lw_okq (⟨"BuriedHalvesModel", "isMine", "()Z"⟩, 24) := ⟨⟨by decide +kernel, by decide +kernel⟩, List.mem_of_getElem? (i := 696) (by decide +kernel), List.mem_of_getElem? (i := 863) (by decide +kernel), List.mem_of_getElem? (i := 864) (by decide +kernel)⟩
theorem lw_p35 : lw_okq (⟨"BuriedHalvesModel", "remember", "()V"⟩, 24) := ⟨⟨by decide +kernel, by decide +kernel⟩, List.mem_of_getElem? (i := 696) (by decide +kernel), List.mem_of_getElem? (i := 869) (by decide +kernel), List.mem_of_getElem? (i := 870) (by decide +kernel)⟩
theorem lw_p36 : lw_okq (⟨"BuriedHalvesModel", "yearGoes", "([I)V"⟩, 24) := ⟨⟨by decide +kernel, by decide +kernel⟩, List.mem_of_getElem? (i := 696) (by decide +kernel), List.mem_of_getElem? (i := 873) (by decide +kernel), List.mem_of_getElem? (i := 874) (by decide +kernel)⟩
theorem lw_p37 : lw_okq (⟨"BuriedHalvesModel", "isThing", "(I)Z"⟩, 24) := ⟨⟨by decide +kernel, by decide +kernel⟩, List.mem_of_getElem? (i := 696) (by decide +kernel), List.mem_of_getElem? (i := 890) (by decide +kernel), List.mem_of_getElem? (i := 891) (by decide +kernel)⟩
theorem lw_p38 : lw_okq (⟨"BuriedHalvesModel", "layAside", "()V"⟩, 24) := ⟨⟨by decide +kernel, by decide +kernel⟩, List.mem_of_getElem? (i := 696) (by decide +kernel), List.mem_of_getElem? (i := 935) (by decide +kernel), List.mem_of_getElem? (i := 936) (by decide +kernel)⟩
theorem lw_p39 : lw_okq (⟨"BuriedHalvesModel", "go", "(I)V"⟩, 24) := ⟨⟨by decide +kernel, by decide +kernel⟩, List.mem_of_getElem? (i := 696) (by decide +kernel), List.mem_of_getElem? (i := 939) (by decide +kernel), List.mem_of_getElem? (i := 940) (by decide +kernel)⟩
theorem lw_p40 : lw_okq (⟨"BuriedHalvesModel", "layPlaces", "(I)I"⟩, 24) := ⟨⟨by decide +kernel, by decide +kernel⟩, List.mem_of_getElem? (i := 696) (by decide +kernel), List.mem_of_getElem? (i := 970) (by decide +kernel), List.mem_of_getElem? (i := 971) (by decide +kernel)⟩
theorem lw_p41 : lw_okq (⟨"BuriedHalvesModel", "rests", "(I)Z"⟩, 24) := ⟨⟨by decide +kernel, by decide +kernel⟩, List.mem_of_getElem? (i := 696) (by decide +kernel), List.mem_of_getElem? (i := 974) (by decide +kernel), List.mem_of_getElem? (i := 975) (by decide +kernel)⟩
theorem lw_p42 : lw_okq (⟨"BuriedHalvesModel", "comes", "(IIIZ)Z"⟩, 24) := ⟨⟨by decide +kernel, by decide +kernel⟩, List.mem_of_getElem? (i := 696) (by decide +kernel), List.mem_of_getElem? (i := 998) (by decide +kernel), List.mem_of_getElem? (i := 999) (by decide +kernel)⟩
theorem lw_p43 : lw_okq (⟨"BuriedHalvesModel", "mark", "(I)I"⟩, 24) := ⟨⟨by decide +kernel, by decide +kernel⟩, List.mem_of_getElem? (i := 696) (by decide +kernel), List.mem_of_getElem? (i := 1031) (by decide +kernel), List.mem_of_getElem? (i := 1032) (by decide +kernel)⟩
theorem lw_p44 : lw_okq (⟨"BuriedHalvesModel", "leave", "(J)V"⟩, 24) := ⟨⟨by decide +kernel, by decide +kernel⟩, List.mem_of_getElem? (i := 696) (by decide +kernel), List.mem_of_getElem? (i := 1038) (by decide +kernel), List.mem_of_getElem? (i := 1039) (by decide +kernel)⟩
theorem lw_p45 : lw_okq (⟨"BuriedHalvesModel", "sizeOf", "(I)I"⟩, 24) := ⟨⟨by decide +kernel, by decide +kernel⟩, List.mem_of_getElem? (i := 696) (by decide +kernel), List.mem_of_getElem? (i := 1045) (by decide +kernel), List.mem_of_getElem? (i := 1046) (by decide +kernel)⟩
def lw_privs_3 : List (MethodName × Nat) := [(⟨"BuriedHalvesModel", "number", "(IIII)Z"⟩, 24), (⟨"BuriedHalvesModel", "readsThing", "()Z"⟩, 24), (⟨"BuriedHalvesModel", "isMine", "()Z"⟩, 24), (⟨"BuriedHalvesModel", "remember", "()V"⟩, 24), (⟨"BuriedHalvesModel", "yearGoes", "([I)V"⟩, 24), (⟨"BuriedHalvesModel", "isThing", "(I)Z"⟩, 24), (⟨"BuriedHalvesModel", "layAside", "()V"⟩, 24), (⟨"BuriedHalvesModel", "go", "(I)V"⟩, 24), (⟨"BuriedHalvesModel", "layPlaces", "(I)I"⟩, 24), (⟨"BuriedHalvesModel", "rests", "(I)Z"⟩, 24), (⟨"BuriedHalvesModel", "comes", "(IIIZ)Z"⟩, 24), (⟨"BuriedHalvesModel", "mark", "(I)I"⟩, 24), (⟨"BuriedHalvesModel", "leave", "(J)V"⟩, 24), (⟨"BuriedHalvesModel", "sizeOf", "(I)I"⟩, 24)]
theorem lw_r3 : ∀ q ∈ lw_privs_3, lw_okq q := List.forall_mem_cons.mpr ⟨lw_p32, List.forall_mem_cons.mpr ⟨lw_p33, List.forall_mem_cons.mpr ⟨lw_p34, List.forall_mem_cons.mpr ⟨lw_p35, List.forall_mem_cons.mpr ⟨lw_p36, List.forall_mem_cons.mpr ⟨lw_p37, List.forall_mem_cons.mpr ⟨lw_p38, List.forall_mem_cons.mpr ⟨lw_p39, List.forall_mem_cons.mpr ⟨lw_p40, List.forall_mem_cons.mpr ⟨lw_p41, List.forall_mem_cons.mpr ⟨lw_p42, List.forall_mem_cons.mpr ⟨lw_p43, List.forall_mem_cons.mpr ⟨lw_p44, List.forall_mem_cons.mpr ⟨lw_p45, fun _ h => absurd h List.not_mem_nil⟩⟩⟩⟩⟩⟩⟩⟩⟩⟩⟩⟩⟩⟩
def lw_privs : List (MethodName × Nat) := lw_privs_1 ++ (lw_privs_2 ++ (lw_privs_3))
def lw_tbl : List Cond := k2_sels lw_privs ++ tables_1
theorem lw_privs_ok : ∀ q ∈ lw_privs, lw_okq q := by
  show ∀ q ∈ lw_privs_1 ++ (lw_privs_2 ++ (lw_privs_3)), lw_okq q
  exact List.forall_mem_append.mpr ⟨lw_r1, List.forall_mem_append.mpr ⟨lw_r2, lw_r3⟩⟩
-- ===== end of PART A; then your names; then what follows =====
/-! ===== BEGIN words of one list among another's, by their places ===== -/
theorem goodIn_r {big : List Cond} (ws : List Cond) (ps : List Nat) (hp : ws = ps.filterMap (fun i => big[i]?)) (h : ws.all goodWord = true) : GoodIn big ws := by
  intro w hw
  have h1 := List.all_eq_true.mp h w hw
  rw [hp] at hw
  obtain ⟨i, -, hi⟩ := List.mem_filterMap.mp hw
  have hm : w ∈ big := by first | exact List.mem_of_getElem? hi | exact List.getElem?_mem hi
  exact ⟨hm, good_of_word h1⟩
theorem goodIn_app {big a b : List Cond} (ha : GoodIn big a) (hb : GoodIn big b) : GoodIn big (a ++ b) := fun w h => (List.mem_append.mp h).elim (ha w) (hb w)
theorem goodIn_ca {big a b : List Cond} {c : Cond} (ha : GoodIn big (c :: a)) (hb : GoodIn big b) : GoodIn big (c :: (a ++ b)) := fun w h => (List.mem_cons.mp h).elim (fun e => ha w (List.mem_cons.mpr (Or.inl e))) (fun h => (List.mem_append.mp h).elim (fun h => ha w (List.mem_cons.mpr (Or.inr h))) (hb w))
theorem goodIn_sub {big ws : List Cond} (hm : ∀ w ∈ ws, w ∈ big) (h : ws.all goodWord = true) : GoodIn big ws := fun w hw => ⟨hm w hw, good_of_word (List.all_eq_true.mp h w hw)⟩
/-! ===== END ===== -/
/-! ===== BEGIN printed: names, fields, word lists, decode rows ===== -/
def RX0 : String := "BuriedHalves$Acts"
def TX0 : u_T := fun k => match k with
  | 0 => ("BuriedHalves$Acts", "kept", "[LBuriedHalves$Mine;", true)
  | 1 => ("BuriedHalves$Acts", "top", "I", false)
  | _ => ("BuriedHalves$Acts", "size", "I", false)
def tyX0 : Nat → FieldType := fun k => match k with
  | 0 => .array (.object "BuriedHalves$Mine")
  | 1 => .int
  | _ => .int
abbrev wsX00 : List Cond := u_ws RX0 TX0 3
theorem nmX0 : ∀ a, a < 3 → ∀ b, b < 3 → a ≠ b → (TX0 a).2.1 ≠ (TX0 b).2.1 := by decide +kernel
theorem tyX0_ok : ∀ k, k < 3 → parseFieldDescriptor (TX0 k).2.2.1 = some (tyX0 k) := by decide +kernel
abbrev cX0_init : ByteArray := prog_2_method_1_code
def yX0_init : MethodName := ⟨RX0, "<init>", "()V"⟩
abbrev cX0_forgetAll : ByteArray := prog_2_method_2_code
def yX0_forgetAll : MethodName := ⟨RX0, "forgetAll", "()V"⟩
abbrev cX0_keep : ByteArray := prog_2_method_3_code
def yX0_keep : MethodName := ⟨RX0, "keep", "(LBuriedHalves$Mine;)V"⟩
abbrev cX0_takeBack : ByteArray := prog_2_method_4_code
def yX0_takeBack : MethodName := ⟨RX0, "takeBack", "(LBuriedHalves$Mine;)V"⟩
def RX1 : String := "BuriedHalves$Asker"
def TX1 : u_T := fun k => match k with
  | 0 => ("BuriedHalves$Asker", "numbers", "[I", true)
  | _ => ("BuriedHalves$Asker", "traced", "I", false)
def tyX1 : Nat → FieldType := fun k => match k with
  | 0 => .array .int
  | _ => .int
abbrev wsX10 : List Cond := u_ws RX1 TX1 2
theorem nmX1 : ∀ a, a < 2 → ∀ b, b < 2 → a ≠ b → (TX1 a).2.1 ≠ (TX1 b).2.1 := by decide +kernel
theorem tyX1_ok : ∀ k, k < 2 → parseFieldDescriptor (TX1 k).2.2.1 = some (tyX1 k) := by decide +kernel
abbrev cX1_init : ByteArray := prog_3_method_1_code
def yX1_init : MethodName := ⟨RX1, "<init>", "()V"⟩
abbrev cX1_begin : ByteArray := prog_3_method_2_code
def yX1_begin : MethodName := ⟨RX1, "begin", "(LBuriedHalves$Mine;II)I"⟩
abbrev cX1_answer : ByteArray := prog_3_method_3_code
def yX1_answer : MethodName := ⟨RX1, "answer", "(LBuriedHalves$Mine;III)I"⟩
abbrev cX1_bodyFor : ByteArray := prog_3_method_4_code
def yX1_bodyFor : MethodName := ⟨RX1, "bodyFor", "(II)I"⟩
abbrev cX1_sizeBody : ByteArray := prog_3_method_5_code
def yX1_sizeBody : MethodName := ⟨RX1, "sizeBody", "(I)I"⟩
abbrev cX1_markBody : ByteArray := prog_3_method_6_code
def yX1_markBody : MethodName := ⟨RX1, "markBody", "(I)I"⟩
abbrev cX1_give : ByteArray := prog_3_method_7_code
def yX1_give : MethodName := ⟨RX1, "give", "(LBuriedHalves$Mine;III)I"⟩
abbrev cX1_note : ByteArray := prog_3_method_8_code
def yX1_note : MethodName := ⟨RX1, "note", "(I)V"⟩
def RX2 : String := "BuriedHalves$Layer"
def TX2 : u_T := fun k => match k with
  | 0 => ("BuriedHalves$Layer", "then", "LBuriedHalves$Mine;", true)
  | 1 => ("BuriedHalves$Layer", "asked", "LBuriedHalves$Mine;", true)
  | 2 => ("BuriedHalves$Layer", "askedYears", "I", false)
  | 3 => ("BuriedHalves$Layer", "places", "[I", true)
  | _ => ("BuriedHalves$Layer", "moved", "I", false)
def tyX2 : Nat → FieldType := fun k => match k with
  | 0 => .object "BuriedHalves$Mine"
  | 1 => .object "BuriedHalves$Mine"
  | 2 => .int
  | 3 => .array .int
  | _ => .int
abbrev wsX20 : List Cond := u_ws RX2 TX2 5
theorem nmX2 : ∀ a, a < 5 → ∀ b, b < 5 → a ≠ b → (TX2 a).2.1 ≠ (TX2 b).2.1 := by decide +kernel
theorem tyX2_ok : ∀ k, k < 5 → parseFieldDescriptor (TX2 k).2.2.1 = some (tyX2 k) := by decide +kernel
abbrev cX2_init : ByteArray := prog_4_method_1_code
def yX2_init : MethodName := ⟨RX2, "<init>", "()V"⟩
abbrev cX2_find : ByteArray := prog_4_method_2_code
def yX2_find : MethodName := ⟨RX2, "find", "(LBuriedHalves$Mine;I)V"⟩
abbrev cX2_oneComesUpAnywhere : ByteArray := prog_4_method_3_code
def yX2_oneComesUpAnywhere : MethodName := ⟨RX2, "oneComesUpAnywhere", "(I)Z"⟩
abbrev cX2_findMoving : ByteArray := prog_4_method_4_code
def yX2_findMoving : MethodName := ⟨RX2, "findMoving", "(II)Z"⟩
abbrev cX2_countMoved : ByteArray := prog_4_method_5_code
def yX2_countMoved : MethodName := ⟨RX2, "countMoved", "(I)I"⟩
abbrev cX2_holds : ByteArray := prog_4_method_6_code
def yX2_holds : MethodName := ⟨RX2, "holds", "(I)Z"⟩
def RX3 : String := "BuriedHalves$Mine"
def TX3 : u_T := fun k => match k with
  | 0 => ("BuriedHalves$Mine", "isThere", "Z", false)
  | 1 => ("BuriedHalves$Mine", "things", "I", false)
  | 2 => ("BuriedHalves$Mine", "men", "I", false)
  | 3 => ("BuriedHalves$Mine", "near", "I", false)
  | 4 => ("BuriedHalves$Mine", "year", "I", false)
  | 5 => ("BuriedHalves$Mine", "dug", "I", false)
  | 6 => ("BuriedHalves$Mine", "sort", "[I", true)
  | 7 => ("BuriedHalves$Mine", "depth", "[I", true)
  | 8 => ("BuriedHalves$Mine", "place", "[I", true)
  | 9 => ("BuriedHalves$Mine", "slow", "[I", true)
  | 10 => ("BuriedHalves$Mine", "known", "[I", true)
  | _ => ("BuriedHalves$Mine", "rises", "[I", true)
def tyX3 : Nat → FieldType := fun k => match k with
  | 0 => .boolean
  | 1 => .int
  | 2 => .int
  | 3 => .int
  | 4 => .int
  | 5 => .int
  | 6 => .array .int
  | 7 => .array .int
  | 8 => .array .int
  | 9 => .array .int
  | 10 => .array .int
  | _ => .array .int
abbrev wsX30 : List Cond := u_ws RX3 TX3 12
theorem nmX3 : ∀ a, a < 12 → ∀ b, b < 12 → a ≠ b → (TX3 a).2.1 ≠ (TX3 b).2.1 := by decide +kernel
theorem tyX3_ok : ∀ k, k < 12 → parseFieldDescriptor (TX3 k).2.2.1 = some (tyX3 k) := by decide +kernel
abbrev cX3_init : ByteArray := prog_5_method_1_code
def yX3_init : MethodName := ⟨RX3, "<init>", "()V"⟩
abbrev cX3_become : ByteArray := prog_5_method_2_code
def yX3_become : MethodName := ⟨RX3, "become", "(LBuriedHalves$Mine;)V"⟩
abbrev cX3_foretellsLike : ByteArray := prog_5_method_3_code
def yX3_foretellsLike : MethodName := ⟨RX3, "foretellsLike", "(LBuriedHalves$Mine;)Z"⟩
abbrev cX3_isUp : ByteArray := prog_5_method_4_code
def yX3_isUp : MethodName := ⟨RX3, "isUp", "(I)Z"⟩
abbrev cX3_allUp : ByteArray := prog_5_method_5_code
def yX3_allUp : MethodName := ⟨RX3, "allUp", "()I"⟩
abbrev cX3_areTooNear : ByteArray := prog_5_method_6_code
def yX3_areTooNear : MethodName := ⟨RX3, "areTooNear", "(II)Z"⟩
abbrev cX3_nearTo : ByteArray := prog_5_method_7_code
def yX3_nearTo : MethodName := ⟨RX3, "nearTo", "(I)I"⟩
abbrev cX3_firstTooNear : ByteArray := prog_5_method_8_code
def yX3_firstTooNear : MethodName := ⟨RX3, "firstTooNear", "()I"⟩
abbrev cX3_riseOf : ByteArray := prog_5_method_9_code
def yX3_riseOf : MethodName := ⟨RX3, "riseOf", "(I)I"⟩
abbrev cX3_ironRise : ByteArray := prog_5_method_10_code
def yX3_ironRise : MethodName := ⟨RX3, "ironRise", "(I)I"⟩
abbrev cX3_isCovered : ByteArray := prog_5_method_11_code
def yX3_isCovered : MethodName := ⟨RX3, "isCovered", "(I)Z"⟩
abbrev cX3_passYear : ByteArray := prog_5_method_12_code
def yX3_passYear : MethodName := ⟨RX3, "passYear", "()Z"⟩
abbrev cX3_knownTo : ByteArray := prog_5_method_13_code
def yX3_knownTo : MethodName := ⟨RX3, "knownTo", "(I)I"⟩
abbrev cX3_fewestWhoKnowAll : ByteArray := prog_5_method_14_code
def yX3_fewestWhoKnowAll : MethodName := ⟨RX3, "fewestWhoKnowAll", "()I"⟩
abbrev cX3_allKnownTo : ByteArray := prog_5_method_15_code
def yX3_allKnownTo : MethodName := ⟨RX3, "allKnownTo", "(I)Z"⟩
abbrev cX3_countHalves : ByteArray := prog_5_method_16_code
def yX3_countHalves : MethodName := ⟨RX3, "countHalves", "()I"⟩
abbrev cX3_firstHalves : ByteArray := prog_5_method_17_code
def yX3_firstHalves : MethodName := ⟨RX3, "firstHalves", "()I"⟩
def RX4 : String := "BuriedHalves$Rows"
def TX4 : u_T := fun k => match k with
  | 0 => ("BuriedHalves$Rows", "items", "[[I", true)
  | 1 => ("BuriedHalves$Rows", "lane", "[I", true)
  | _ => ("BuriedHalves$Rows", "length", "[I", true)
def tyX4 : Nat → FieldType := fun k => match k with
  | 0 => .array (.array .int)
  | 1 => .array .int
  | _ => .array .int
abbrev wsX40 : List Cond := u_ws RX4 TX4 3
theorem nmX4 : ∀ a, a < 3 → ∀ b, b < 3 → a ≠ b → (TX4 a).2.1 ≠ (TX4 b).2.1 := by decide +kernel
theorem tyX4_ok : ∀ k, k < 3 → parseFieldDescriptor (TX4 k).2.2.1 = some (tyX4 k) := by decide +kernel
abbrev cX4_init : ByteArray := prog_6_method_1_code
def yX4_init : MethodName := ⟨RX4, "<init>", "()V"⟩
abbrev cX4_isMissing : ByteArray := prog_6_method_2_code
def yX4_isMissing : MethodName := ⟨RX4, "isMissing", "(I)Z"⟩
abbrev cX4_hasRun : ByteArray := prog_6_method_3_code
def yX4_hasRun : MethodName := ⟨RX4, "hasRun", "(III)Z"⟩
abbrev cX4_makeAnew : ByteArray := prog_6_method_4_code
def yX4_makeAnew : MethodName := ⟨RX4, "makeAnew", "(III)V"⟩
abbrev cX4_put : ByteArray := prog_6_method_5_code
def yX4_put : MethodName := ⟨RX4, "put", "(III)I"⟩
abbrev cX4_readRun : ByteArray := prog_6_method_6_code
def yX4_readRun : MethodName := ⟨RX4, "readRun", "(III[I)V"⟩
abbrev cX4_countThere : ByteArray := prog_6_method_7_code
def yX4_countThere : MethodName := ⟨RX4, "countThere", "()I"⟩
def RX5 : String := "BuriedHalves$Seer"
def TX5 : u_T := fun k => match k with
  | 0 => ("BuriedHalves$Seer", "then", "LBuriedHalves$Mine;", true)
  | _ => ("BuriedHalves$Seer", "told", "[I", true)
def tyX5 : Nat → FieldType := fun k => match k with
  | 0 => .object "BuriedHalves$Mine"
  | _ => .array .int
abbrev wsX50 : List Cond := u_ws RX5 TX5 2
theorem nmX5 : ∀ a, a < 2 → ∀ b, b < 2 → a ≠ b → (TX5 a).2.1 ≠ (TX5 b).2.1 := by decide +kernel
theorem tyX5_ok : ∀ k, k < 2 → parseFieldDescriptor (TX5 k).2.2.1 = some (tyX5 k) := by decide +kernel
abbrev cX5_init : ByteArray := prog_7_method_1_code
def yX5_init : MethodName := ⟨RX5, "<init>", "()V"⟩
abbrev cX5_behind : ByteArray := prog_7_method_2_code
def yX5_behind : MethodName := ⟨RX5, "behind", "(LBuriedHalves$Mine;I)LBuriedHalves$Mine;"⟩
abbrev cX5_passYears : ByteArray := prog_7_method_3_code
def yX5_passYears : MethodName := ⟨RX5, "passYears", "(I)V"⟩
abbrev cX5_yearsUntilUp : ByteArray := prog_7_method_4_code
def yX5_yearsUntilUp : MethodName := ⟨RX5, "yearsUntilUp", "(LBuriedHalves$Mine;I)I"⟩
abbrev cX5_firstUp : ByteArray := prog_7_method_5_code
def yX5_firstUp : MethodName := ⟨RX5, "firstUp", "(LBuriedHalves$Mine;Z)I"⟩
abbrev cX5_firstTrouble : ByteArray := prog_7_method_6_code
def yX5_firstTrouble : MethodName := ⟨RX5, "firstTrouble", "(LBuriedHalves$Mine;Z)I"⟩
abbrev cX5_leastDepth : ByteArray := prog_7_method_7_code
def yX5_leastDepth : MethodName := ⟨RX5, "leastDepth", "(LBuriedHalves$Mine;II)I"⟩
abbrev cX5_thatFit : ByteArray := prog_7_method_8_code
def yX5_thatFit : MethodName := ⟨RX5, "thatFit", "(LBuriedHalves$Mine;III)I"⟩
abbrev cX5_goesAsTold : ByteArray := prog_7_method_9_code
def yX5_goesAsTold : MethodName := ⟨RX5, "goesAsTold", "(III)Z"⟩
abbrev cX5_weightOfAll : ByteArray := prog_7_method_10_code
def yX5_weightOfAll : MethodName := ⟨RX5, "weightOfAll", "(LBuriedHalves$Mine;)I"⟩
abbrev cX5_weightOfNoneUp : ByteArray := prog_7_method_11_code
def yX5_weightOfNoneUp : MethodName := ⟨RX5, "weightOfNoneUp", "(LBuriedHalves$Mine;II)I"⟩
abbrev cX5_letDig : ByteArray := prog_7_method_12_code
def yX5_letDig : MethodName := ⟨RX5, "letDig", "(I)V"⟩
abbrev cX5_weightOf : ByteArray := prog_7_method_13_code
def yX5_weightOf : MethodName := ⟨RX5, "weightOf", "(LBuriedHalves$Mine;II)I"⟩
def RX6 : String := "BuriedHalves$Text"
def TX6 : u_T := fun k => match k with
  | 0 => ("BuriedHalves$Text", "bytes", "[I", true)
  | 1 => ("BuriedHalves$Text", "length", "I", false)
  | 2 => ("BuriedHalves$Text", "at", "I", false)
  | _ => ("BuriedHalves$Text", "fault", "I", false)
def tyX6 : Nat → FieldType := fun k => match k with
  | 0 => .array .int
  | 1 => .int
  | 2 => .int
  | _ => .int
abbrev wsX60 : List Cond := u_ws RX6 TX6 4
theorem nmX6 : ∀ a, a < 4 → ∀ b, b < 4 → a ≠ b → (TX6 a).2.1 ≠ (TX6 b).2.1 := by decide +kernel
theorem tyX6_ok : ∀ k, k < 4 → parseFieldDescriptor (TX6 k).2.2.1 = some (tyX6 k) := by decide +kernel
abbrev cX6_init : ByteArray := prog_8_method_1_code
def yX6_init : MethodName := ⟨RX6, "<init>", "()V"⟩
abbrev cX6_append : ByteArray := prog_8_method_2_code
def yX6_append : MethodName := ⟨RX6, "append", "(I)V"⟩
abbrev cX6_readInto : ByteArray := prog_8_method_3_code
def yX6_readInto : MethodName := ⟨RX6, "readInto", "(LBuriedHalves$Mine;)I"⟩
abbrev cX6_readLaw : ByteArray := prog_8_method_4_code
def yX6_readLaw : MethodName := ⟨RX6, "readLaw", "(LBuriedHalves$Mine;)V"⟩
abbrev cX6_readThing : ByteArray := prog_8_method_5_code
def yX6_readThing : MethodName := ⟨RX6, "readThing", "(LBuriedHalves$Mine;)V"⟩
abbrev cX6_sortOf : ByteArray := prog_8_method_6_code
def yX6_sortOf : MethodName := ⟨RX6, "sortOf", "(I)I"⟩
abbrev cX6_fail : ByteArray := prog_8_method_7_code
def yX6_fail : MethodName := ⟨RX6, "fail", "(I)V"⟩
abbrev cX6_next : ByteArray := prog_8_method_8_code
def yX6_next : MethodName := ⟨RX6, "next", "()I"⟩
abbrev cX6_byteAt : ByteArray := prog_8_method_9_code
def yX6_byteAt : MethodName := ⟨RX6, "byteAt", "(I)I"⟩
abbrev cX6_pass : ByteArray := prog_8_method_10_code
def yX6_pass : MethodName := ⟨RX6, "pass", "(I)V"⟩
abbrev cX6_isFigure : ByteArray := prog_8_method_11_code
def yX6_isFigure : MethodName := ⟨RX6, "isFigure", "(I)Z"⟩
abbrev cX6_number : ByteArray := prog_8_method_12_code
def yX6_number : MethodName := ⟨RX6, "number", "(II)I"⟩
def RX7 : String := "BuriedHalves"
def TX7 : u_T := fun k => match k with
  | 0 => ("BuriedHalves", "rows", "LBuriedHalves$Rows;", true)
  | 1 => ("BuriedHalves", "text", "LBuriedHalves$Text;", true)
  | 2 => ("BuriedHalves", "now", "LBuriedHalves$Mine;", true)
  | 3 => ("BuriedHalves", "draft", "LBuriedHalves$Mine;", true)
  | 4 => ("BuriedHalves", "acts", "LBuriedHalves$Acts;", true)
  | 5 => ("BuriedHalves", "images", "[LBuriedHalves$Mine;", true)
  | 6 => ("BuriedHalves", "seer", "LBuriedHalves$Seer;", true)
  | 7 => ("BuriedHalves", "layer", "LBuriedHalves$Layer;", true)
  | 8 => ("BuriedHalves", "asker", "LBuriedHalves$Asker;", true)
  | 9 => ("BuriedHalves", "latestFault", "I", false)
  | _ => ("BuriedHalves", "latestFinding", "I", false)
def tyX7 : Nat → FieldType := fun k => match k with
  | 0 => .object "BuriedHalves$Rows"
  | 1 => .object "BuriedHalves$Text"
  | 2 => .object "BuriedHalves$Mine"
  | 3 => .object "BuriedHalves$Mine"
  | 4 => .object "BuriedHalves$Acts"
  | 5 => .array (.object "BuriedHalves$Mine")
  | 6 => .object "BuriedHalves$Seer"
  | 7 => .object "BuriedHalves$Layer"
  | 8 => .object "BuriedHalves$Asker"
  | 9 => .int
  | _ => .int
abbrev wsX70 : List Cond := u_ws RX7 TX7 11
theorem nmX7 : ∀ a, a < 11 → ∀ b, b < 11 → a ≠ b → (TX7 a).2.1 ≠ (TX7 b).2.1 := by decide +kernel
theorem tyX7_ok : ∀ k, k < 11 → parseFieldDescriptor (TX7 k).2.2.1 = some (tyX7 k) := by decide +kernel
abbrev cX7_init : ByteArray := prog_1_method_1_code
def yX7_init : MethodName := ⟨RX7, "<init>", "()V"⟩
abbrev cX7_row : ByteArray := prog_1_method_2_code
def yX7_row : MethodName := ⟨RX7, "row", "(III)I"⟩
abbrev cX7_set : ByteArray := prog_1_method_3_code
def yX7_set : MethodName := ⟨RX7, "set", "(III)I"⟩
abbrev cX7_copy : ByteArray := prog_1_method_4_code
def yX7_copy : MethodName := ⟨RX7, "copy", "(IIIII)I"⟩
abbrev cX7_drop : ByteArray := prog_1_method_5_code
def yX7_drop : MethodName := ⟨RX7, "drop", "(I)I"⟩
abbrev cX7_feed : ByteArray := prog_1_method_6_code
def yX7_feed : MethodName := ⟨RX7, "feed", "(I)I"⟩
abbrev cX7_mine : ByteArray := prog_1_method_7_code
def yX7_mine : MethodName := ⟨RX7, "mine", "()I"⟩
abbrev cX7_fault : ByteArray := prog_1_method_8_code
def yX7_fault : MethodName := ⟨RX7, "fault", "()I"⟩
abbrev cX7_years : ByteArray := prog_1_method_9_code
def yX7_years : MethodName := ⟨RX7, "years", "(I)I"⟩
abbrev cX7_bury : ByteArray := prog_1_method_10_code
def yX7_bury : MethodName := ⟨RX7, "bury", "(III)I"⟩
abbrev cX7_tell : ByteArray := prog_1_method_11_code
def yX7_tell : MethodName := ⟨RX7, "tell", "(III)I"⟩
abbrev cX7_undo : ByteArray := prog_1_method_12_code
def yX7_undo : MethodName := ⟨RX7, "undo", "()I"⟩
abbrev cX7_thing : ByteArray := prog_1_method_13_code
def yX7_thing : MethodName := ⟨RX7, "thing", "(II)I"⟩
abbrev cX7_knows : ByteArray := prog_1_method_14_code
def yX7_knows : MethodName := ⟨RX7, "knows", "(I)I"⟩
abbrev cX7_ahead : ByteArray := prog_1_method_15_code
def yX7_ahead : MethodName := ⟨RX7, "ahead", "(II)I"⟩
abbrev cX7_up : ByteArray := prog_1_method_16_code
def yX7_up : MethodName := ⟨RX7, "up", "(I)I"⟩
abbrev cX7_comesUp : ByteArray := prog_1_method_17_code
def yX7_comesUp : MethodName := ⟨RX7, "comesUp", "(I)I"⟩
abbrev cX7_first : ByteArray := prog_1_method_18_code
def yX7_first : MethodName := ⟨RX7, "first", "(I)I"⟩
abbrev cX7_trouble : ByteArray := prog_1_method_19_code
def yX7_trouble : MethodName := ⟨RX7, "trouble", "(I)I"⟩
abbrev cX7_lay : ByteArray := prog_1_method_20_code
def yX7_lay : MethodName := ⟨RX7, "lay", "(II)I"⟩
abbrev cX7_dig : ByteArray := prog_1_method_21_code
def yX7_dig : MethodName := ⟨RX7, "dig", "(II)I"⟩
abbrev cX7_whom : ByteArray := prog_1_method_22_code
def yX7_whom : MethodName := ⟨RX7, "whom", "(I)I"⟩
abbrev cX7_halves : ByteArray := prog_1_method_23_code
def yX7_halves : MethodName := ⟨RX7, "halves", "(I)I"⟩
abbrev cX7_fits : ByteArray := prog_1_method_24_code
def yX7_fits : MethodName := ⟨RX7, "fits", "(IIIII)I"⟩
abbrev cX7_moles : ByteArray := prog_1_method_25_code
def yX7_moles : MethodName := ⟨RX7, "moles", "(III)I"⟩
abbrev cX7_image : ByteArray := prog_1_method_26_code
def yX7_image : MethodName := ⟨RX7, "image", "(I)I"⟩
abbrev cX7_restore : ByteArray := prog_1_method_27_code
def yX7_restore : MethodName := ⟨RX7, "restore", "(I)I"⟩
abbrev cX7_kind : ByteArray := prog_1_method_28_code
def yX7_kind : MethodName := ⟨RX7, "kind", "(I)I"⟩
abbrev cX7_as : ByteArray := prog_1_method_29_code
def yX7_as : MethodName := ⟨RX7, "as", "(II)I"⟩
abbrev cX7_ask : ByteArray := prog_1_method_30_code
def yX7_ask : MethodName := ⟨RX7, "ask", "(II)I"⟩
abbrev cX7_trace : ByteArray := prog_1_method_31_code
def yX7_trace : MethodName := ⟨RX7, "trace", "(I)I"⟩
abbrev cX7_count : ByteArray := prog_1_method_32_code
def yX7_count : MethodName := ⟨RX7, "count", "(I)I"⟩
abbrev cX7_status : ByteArray := prog_1_method_33_code
def yX7_status : MethodName := ⟨RX7, "status", "()I"⟩
abbrev cX7_found : ByteArray := prog_1_method_34_code
def yX7_found : MethodName := ⟨RX7, "found", "(I)I"⟩
abbrev cX7_fine : ByteArray := prog_1_method_35_code
def yX7_fine : MethodName := ⟨RX7, "fine", "(I)I"⟩
abbrev cX7_isThing : ByteArray := prog_1_method_36_code
def yX7_isThing : MethodName := ⟨RX7, "isThing", "(I)Z"⟩
abbrev cX7_isMan : ByteArray := prog_1_method_37_code
def yX7_isMan : MethodName := ⟨RX7, "isMan", "(I)Z"⟩
abbrev cX7_isRow : ByteArray := prog_1_method_38_code
def yX7_isRow : MethodName := ⟨RX7, "isRow", "(I)Z"⟩
abbrev cX7_isImage : ByteArray := prog_1_method_39_code
def yX7_isImage : MethodName := ⟨RX7, "isImage", "(I)Z"⟩
abbrev cX7_isForetold : ByteArray := prog_1_method_40_code
def yX7_isForetold : MethodName := ⟨RX7, "isForetold", "(I)Z"⟩
abbrev cX7_isOneOfTwo : ByteArray := prog_1_method_41_code
def yX7_isOneOfTwo : MethodName := ⟨RX7, "isOneOfTwo", "(I)Z"⟩
abbrev cX7_kindAbove : ByteArray := prog_1_method_42_code
def yX7_kindAbove : MethodName := ⟨RX7, "kindAbove", "(I)I"⟩
abbrev cX7_isOfKind : ByteArray := prog_1_method_43_code
def yX7_isOfKind : MethodName := ⟨RX7, "isOfKind", "(II)Z"⟩
abbrev cX7_leastOf : ByteArray := prog_1_method_44_code
def yX7_leastOf : MethodName := ⟨RX7, "leastOf", "(I)I"⟩
abbrev cX7_commonDivisor : ByteArray := prog_1_method_45_code
def yX7_commonDivisor : MethodName := ⟨RX7, "commonDivisor", "(II)I"⟩
def RX8 : String := "BuriedHalvesModel"
def TX8 : u_T := fun k => match k with
  | 0 => ("BuriedHalvesModel", "lanes", "[I", true)
  | 1 => ("BuriedHalvesModel", "sizes", "[I", true)
  | 2 => ("BuriedHalvesModel", "items", "[I", true)
  | 3 => ("BuriedHalvesModel", "status", "I", false)
  | 4 => ("BuriedHalvesModel", "now", "[I", true)
  | 5 => ("BuriedHalvesModel", "read", "[I", true)
  | 6 => ("BuriedHalvesModel", "aside", "[I", true)
  | 7 => ("BuriedHalvesModel", "past", "[I", true)
  | 8 => ("BuriedHalvesModel", "acts", "I", false)
  | 9 => ("BuriedHalvesModel", "images", "[I", true)
  | 10 => ("BuriedHalvesModel", "kept", "[Z", true)
  | 11 => ("BuriedHalvesModel", "tape", "[I", true)
  | 12 => ("BuriedHalvesModel", "size", "I", false)
  | 13 => ("BuriedHalvesModel", "fault", "I", false)
  | 14 => ("BuriedHalvesModel", "trace", "[I", true)
  | 15 => ("BuriedHalvesModel", "traced", "I", false)
  | 16 => ("BuriedHalvesModel", "at", "I", false)
  | 17 => ("BuriedHalvesModel", "begin", "I", false)
  | 18 => ("BuriedHalvesModel", "token", "I", false)
  | 19 => ("BuriedHalvesModel", "value", "I", false)
  | 20 => ("BuriedHalvesModel", "wrong", "I", false)
  | 21 => ("BuriedHalvesModel", "rise", "[I", true)
  | 22 => ("BuriedHalvesModel", "places", "[I", true)
  | _ => ("BuriedHalvesModel", "best", "[I", true)
def tyX8 : Nat → FieldType := fun k => match k with
  | 0 => .array .int
  | 1 => .array .int
  | 2 => .array .int
  | 3 => .int
  | 4 => .array .int
  | 5 => .array .int
  | 6 => .array .int
  | 7 => .array .int
  | 8 => .int
  | 9 => .array .int
  | 10 => .array .boolean
  | 11 => .array .int
  | 12 => .int
  | 13 => .int
  | 14 => .array .int
  | 15 => .int
  | 16 => .int
  | 17 => .int
  | 18 => .int
  | 19 => .int
  | 20 => .int
  | 21 => .array .int
  | 22 => .array .int
  | _ => .array .int
abbrev wsX80 : List Cond := u_ws RX8 TX8 24
theorem nmX8 : ∀ a, a < 24 → ∀ b, b < 24 → a ≠ b → (TX8 a).2.1 ≠ (TX8 b).2.1 := by decide +kernel
theorem tyX8_ok : ∀ k, k < 24 → parseFieldDescriptor (TX8 k).2.2.1 = some (tyX8 k) := by decide +kernel
abbrev cX8_init : ByteArray := prog_10_method_1_code
def yX8_init : MethodName := ⟨RX8, "<init>", "()V"⟩
abbrev cX8_in : ByteArray := prog_10_method_3_code
def yX8_in : MethodName := ⟨RX8, "in", "(JJJ)Z"⟩
abbrev cX8_found : ByteArray := prog_10_method_4_code
def yX8_found : MethodName := ⟨RX8, "found", "(I)I"⟩
abbrev cX8_well : ByteArray := prog_10_method_5_code
def yX8_well : MethodName := ⟨RX8, "well", "(I)I"⟩
abbrev cX8_isRow : ByteArray := prog_10_method_6_code
def yX8_isRow : MethodName := ⟨RX8, "isRow", "(I)Z"⟩
abbrev cX8_row : ByteArray := prog_10_method_7_code
def yX8_row : MethodName := ⟨RX8, "row", "(III)I"⟩
abbrev cX8_set : ByteArray := prog_10_method_8_code
def yX8_set : MethodName := ⟨RX8, "set", "(III)I"⟩
abbrev cX8_copy : ByteArray := prog_10_method_9_code
def yX8_copy : MethodName := ⟨RX8, "copy", "(IIIII)I"⟩
abbrev cX8_drop : ByteArray := prog_10_method_10_code
def yX8_drop : MethodName := ⟨RX8, "drop", "(I)I"⟩
abbrev cX8_feed : ByteArray := prog_10_method_11_code
def yX8_feed : MethodName := ⟨RX8, "feed", "(I)I"⟩
abbrev cX8_here : ByteArray := prog_10_method_12_code
def yX8_here : MethodName := ⟨RX8, "here", "()I"⟩
abbrev cX8_step : ByteArray := prog_10_method_13_code
def yX8_step : MethodName := ⟨RX8, "step", "()V"⟩
abbrev cX8_fails : ByteArray := prog_10_method_14_code
def yX8_fails : MethodName := ⟨RX8, "fails", "(I)Z"⟩
abbrev cX8_number : ByteArray := prog_10_method_15_code
def yX8_number : MethodName := ⟨RX8, "number", "(IIII)Z"⟩
abbrev cX8_sortOf : ByteArray := prog_10_method_16_code
def yX8_sortOf : MethodName := ⟨RX8, "sortOf", "(I)I"⟩
abbrev cX8_readsThing : ByteArray := prog_10_method_17_code
def yX8_readsThing : MethodName := ⟨RX8, "readsThing", "()Z"⟩
abbrev cX8_reads : ByteArray := prog_10_method_18_code
def yX8_reads : MethodName := ⟨RX8, "reads", "()Z"⟩
abbrev cX8_mine : ByteArray := prog_10_method_19_code
def yX8_mine : MethodName := ⟨RX8, "mine", "()I"⟩
abbrev cX8_fault : ByteArray := prog_10_method_20_code
def yX8_fault : MethodName := ⟨RX8, "fault", "()I"⟩
abbrev cX8_copies : ByteArray := prog_10_method_21_code
def yX8_copies : MethodName := ⟨RX8, "copies", "([II[II)V"⟩
abbrev cX8_has : ByteArray := prog_10_method_22_code
def yX8_has : MethodName := ⟨RX8, "has", "(II)Z"⟩
abbrev cX8_bits : ByteArray := prog_10_method_23_code
def yX8_bits : MethodName := ⟨RX8, "bits", "(I)I"⟩
abbrev cX8_lies : ByteArray := prog_10_method_24_code
def yX8_lies : MethodName := ⟨RX8, "lies", "([II)Z"⟩
abbrev cX8_rises : ByteArray := prog_10_method_25_code
def yX8_rises : MethodName := ⟨RX8, "rises", "([II)I"⟩
abbrev cX8_yearGoes : ByteArray := prog_10_method_26_code
def yX8_yearGoes : MethodName := ⟨RX8, "yearGoes", "([I)V"⟩
abbrev cX8_upOf : ByteArray := prog_10_method_27_code
def yX8_upOf : MethodName := ⟨RX8, "upOf", "([I)I"⟩
abbrev cX8_abs : ByteArray := prog_10_method_28_code
def yX8_abs : MethodName := ⟨RX8, "abs", "(I)I"⟩
abbrev cX8_tooNear : ByteArray := prog_10_method_29_code
def yX8_tooNear : MethodName := ⟨RX8, "tooNear", "([III)Z"⟩
abbrev cX8_nearTo : ByteArray := prog_10_method_30_code
def yX8_nearTo : MethodName := ⟨RX8, "nearTo", "([II)I"⟩
abbrev cX8_twoOf : ByteArray := prog_10_method_31_code
def yX8_twoOf : MethodName := ⟨RX8, "twoOf", "([I)I"⟩
abbrev cX8_isMine : ByteArray := prog_10_method_32_code
def yX8_isMine : MethodName := ⟨RX8, "isMine", "()Z"⟩
abbrev cX8_isThing : ByteArray := prog_10_method_33_code
def yX8_isThing : MethodName := ⟨RX8, "isThing", "(I)Z"⟩
abbrev cX8_isTwo : ByteArray := prog_10_method_34_code
def yX8_isTwo : MethodName := ⟨RX8, "isTwo", "(I)Z"⟩
abbrev cX8_isSpan : ByteArray := prog_10_method_35_code
def yX8_isSpan : MethodName := ⟨RX8, "isSpan", "(I)Z"⟩
abbrev cX8_remember : ByteArray := prog_10_method_36_code
def yX8_remember : MethodName := ⟨RX8, "remember", "()V"⟩
abbrev cX8_years : ByteArray := prog_10_method_37_code
def yX8_years : MethodName := ⟨RX8, "years", "(I)I"⟩
abbrev cX8_bury : ByteArray := prog_10_method_38_code
def yX8_bury : MethodName := ⟨RX8, "bury", "(III)I"⟩
abbrev cX8_tell : ByteArray := prog_10_method_39_code
def yX8_tell : MethodName := ⟨RX8, "tell", "(III)I"⟩
abbrev cX8_undo : ByteArray := prog_10_method_40_code
def yX8_undo : MethodName := ⟨RX8, "undo", "()I"⟩
abbrev cX8_thing : ByteArray := prog_10_method_41_code
def yX8_thing : MethodName := ⟨RX8, "thing", "(II)I"⟩
abbrev cX8_knows : ByteArray := prog_10_method_42_code
def yX8_knows : MethodName := ⟨RX8, "knows", "(I)I"⟩
abbrev cX8_layAside : ByteArray := prog_10_method_43_code
def yX8_layAside : MethodName := ⟨RX8, "layAside", "()V"⟩
abbrev cX8_go : ByteArray := prog_10_method_44_code
def yX8_go : MethodName := ⟨RX8, "go", "(I)V"⟩
abbrev cX8_ahead : ByteArray := prog_10_method_45_code
def yX8_ahead : MethodName := ⟨RX8, "ahead", "(II)I"⟩
abbrev cX8_up : ByteArray := prog_10_method_46_code
def yX8_up : MethodName := ⟨RX8, "up", "(I)I"⟩
abbrev cX8_comesUp : ByteArray := prog_10_method_47_code
def yX8_comesUp : MethodName := ⟨RX8, "comesUp", "(I)I"⟩
abbrev cX8_first : ByteArray := prog_10_method_48_code
def yX8_first : MethodName := ⟨RX8, "first", "(I)I"⟩
abbrev cX8_trouble : ByteArray := prog_10_method_49_code
def yX8_trouble : MethodName := ⟨RX8, "trouble", "(I)I"⟩
abbrev cX8_rests : ByteArray := prog_10_method_50_code
def yX8_rests : MethodName := ⟨RX8, "rests", "(I)Z"⟩
abbrev cX8_layPlaces : ByteArray := prog_10_method_51_code
def yX8_layPlaces : MethodName := ⟨RX8, "layPlaces", "(I)I"⟩
abbrev cX8_lay : ByteArray := prog_10_method_52_code
def yX8_lay : MethodName := ⟨RX8, "lay", "(II)I"⟩
abbrev cX8_dig : ByteArray := prog_10_method_53_code
def yX8_dig : MethodName := ⟨RX8, "dig", "(II)I"⟩
abbrev cX8_whom : ByteArray := prog_10_method_54_code
def yX8_whom : MethodName := ⟨RX8, "whom", "(I)I"⟩
abbrev cX8_halves : ByteArray := prog_10_method_55_code
def yX8_halves : MethodName := ⟨RX8, "halves", "(I)I"⟩
abbrev cX8_comes : ByteArray := prog_10_method_56_code
def yX8_comes : MethodName := ⟨RX8, "comes", "(IIIZ)Z"⟩
abbrev cX8_fits : ByteArray := prog_10_method_57_code
def yX8_fits : MethodName := ⟨RX8, "fits", "(IIIII)I"⟩
abbrev cX8_moles : ByteArray := prog_10_method_58_code
def yX8_moles : MethodName := ⟨RX8, "moles", "(III)I"⟩
abbrev cX8_image : ByteArray := prog_10_method_59_code
def yX8_image : MethodName := ⟨RX8, "image", "(I)I"⟩
abbrev cX8_restore : ByteArray := prog_10_method_60_code
def yX8_restore : MethodName := ⟨RX8, "restore", "(I)I"⟩
abbrev cX8_kind : ByteArray := prog_10_method_61_code
def yX8_kind : MethodName := ⟨RX8, "kind", "(I)I"⟩
abbrev cX8_isOf : ByteArray := prog_10_method_62_code
def yX8_isOf : MethodName := ⟨RX8, "isOf", "(II)Z"⟩
abbrev cX8_as : ByteArray := prog_10_method_63_code
def yX8_as : MethodName := ⟨RX8, "as", "(II)I"⟩
abbrev cX8_leave : ByteArray := prog_10_method_64_code
def yX8_leave : MethodName := ⟨RX8, "leave", "(J)V"⟩
abbrev cX8_mark : ByteArray := prog_10_method_65_code
def yX8_mark : MethodName := ⟨RX8, "mark", "(I)I"⟩
abbrev cX8_sizeOf : ByteArray := prog_10_method_66_code
def yX8_sizeOf : MethodName := ⟨RX8, "sizeOf", "(I)I"⟩
abbrev cX8_ask : ByteArray := prog_10_method_67_code
def yX8_ask : MethodName := ⟨RX8, "ask", "(II)I"⟩
abbrev cX8_trace : ByteArray := prog_10_method_68_code
def yX8_trace : MethodName := ⟨RX8, "trace", "(I)I"⟩
abbrev cX8_count : ByteArray := prog_10_method_69_code
def yX8_count : MethodName := ⟨RX8, "count", "(I)I"⟩
abbrev cX8_status : ByteArray := prog_10_method_70_code
def yX8_status : MethodName := ⟨RX8, "status", "()I"⟩
def RJ6 : String := "java/lang/Integer"
def TJ6 : u_T := fun k => match k with
  | _ => ("", "", "", false)
def tyJ6 : Nat → FieldType := fun k => match k with
  | _ => .int
abbrev wsJ60 : List Cond := u_ws RJ6 TJ6 0
theorem nmJ6 : ∀ a, a < 0 → ∀ b, b < 0 → a ≠ b → (TJ6 a).2.1 ≠ (TJ6 b).2.1 := by decide +kernel
theorem tyJ6_ok : ∀ k, k < 0 → parseFieldDescriptor (TJ6 k).2.2.1 = some (tyJ6 k) := by decide +kernel
abbrev cJ6_bitCount_0f7a4 : ByteArray := prog_11_method_49_code
def yJ6_bitCount_0f7a4 : MethodName := ⟨RJ6, "bitCount", "(I)I"⟩
def RJ9 : String := "java/lang/Math"
def TJ9 : u_T := fun k => match k with
  | _ => ("", "", "", false)
def tyJ9 : Nat → FieldType := fun k => match k with
  | _ => .int
abbrev wsJ90 : List Cond := u_ws RJ9 TJ9 0
theorem nmJ9 : ∀ a, a < 0 → ∀ b, b < 0 → a ≠ b → (TJ9 a).2.1 ≠ (TJ9 b).2.1 := by decide +kernel
theorem tyJ9_ok : ∀ k, k < 0 → parseFieldDescriptor (TJ9 k).2.2.1 = some (tyJ9 k) := by decide +kernel
abbrev cJ9_abs_0f7a4 : ByteArray := prog_12_method_59_code
def yJ9_abs_0f7a4 : MethodName := ⟨RJ9, "abs", "(I)I"⟩
abbrev cJ9_min_7cf53 : ByteArray := prog_12_method_69_code
def yJ9_min_7cf53 : MethodName := ⟨RJ9, "min", "(II)I"⟩
def RJ10 : String := "java/lang/System"
def TJ10 : u_T := fun k => match k with
  | _ => ("", "", "", false)
def tyJ10 : Nat → FieldType := fun k => match k with
  | _ => .int
abbrev wsJ100 : List Cond := u_ws RJ10 TJ10 0
theorem nmJ10 : ∀ a, a < 0 → ∀ b, b < 0 → a ≠ b → (TJ10 a).2.1 ≠ (TJ10 b).2.1 := by decide +kernel
theorem tyJ10_ok : ∀ k, k < 0 → parseFieldDescriptor (TJ10 k).2.2.1 = some (tyJ10 k) := by decide +kernel
def RL : String := "BuriedHalvesLaw"
abbrev cL_law : ByteArray := code
def yL_law : MethodName := ⟨RL, "law", "([I)Z"⟩
def wsX3_init : List Cond := .code yX3_init cX3_init 1 none :: ([.methodLink RX3 3 objectInit, .instanceMethod objectInit, .code objectInit ⟨#[0xb1]⟩ 1 none, .fieldLink RX3 9 "BuriedHalves$Mine" "isThere" "Z", .fieldLink RX3 15 "BuriedHalves$Mine" "things" "I", .fieldLink RX3 19 "BuriedHalves$Mine" "men" "I", .fieldLink RX3 22 "BuriedHalves$Mine" "near" "I", .fieldLink RX3 25 "BuriedHalves$Mine" "year" "I", .fieldLink RX3 28 "BuriedHalves$Mine" "dug" "I", .arrayClass .int, .fieldLink RX3 31 "BuriedHalves$Mine" "sort" "[I", .fieldLink RX3 35 "BuriedHalves$Mine" "depth" "[I", .fieldLink RX3 38 "BuriedHalves$Mine" "place" "[I", .fieldLink RX3 41 "BuriedHalves$Mine" "slow" "[I", .fieldLink RX3 44 "BuriedHalves$Mine" "known" "[I", .fieldLink RX3 47 "BuriedHalves$Mine" "rises" "[I"] ++ wsX30)
def wsX0_init_r1 : List Cond := [Cond.methodLink RX0 3 objectInit, Cond.instanceMethod objectInit, Cond.code objectInit ⟨#[0xb1]⟩ 1 none, Cond.classLink RX0 9 RX3, Cond.fieldLink RX0 11 "BuriedHalves$Acts" "kept" "[LBuriedHalves$Mine;", Cond.fieldLink RX0 17 "BuriedHalves$Acts" "top" "I", Cond.fieldLink RX0 21 "BuriedHalves$Acts" "size" "I", Cond.instantiable RX3 12, Cond.initialized RX3, Cond.instanceMethod yX3_init, Cond.code yX3_init cX3_init 1 none, Cond.methodLink RX3 3 objectInit, Cond.fieldLink RX3 9 "BuriedHalves$Mine" "isThere" "Z", Cond.fieldLink RX3 15 "BuriedHalves$Mine" "things" "I", Cond.fieldLink RX3 19 "BuriedHalves$Mine" "men" "I", Cond.fieldLink RX3 22 "BuriedHalves$Mine" "near" "I", Cond.fieldLink RX3 25 "BuriedHalves$Mine" "year" "I", Cond.fieldLink RX3 28 "BuriedHalves$Mine" "dug" "I", Cond.arrayClass .int, Cond.fieldLink RX3 31 "BuriedHalves$Mine" "sort" "[I", Cond.fieldLink RX3 35 "BuriedHalves$Mine" "depth" "[I", Cond.fieldLink RX3 38 "BuriedHalves$Mine" "place" "[I", Cond.fieldLink RX3 41 "BuriedHalves$Mine" "slow" "[I", Cond.fieldLink RX3 44 "BuriedHalves$Mine" "known" "[I"]
def wsX0_init_r2 : List Cond := [Cond.fieldLink RX3 47 "BuriedHalves$Mine" "rises" "[I"]
def wsX0_init : List Cond := .code yX0_init cX0_init 2 none :: ((wsX0_init_r1 ++ wsX0_init_r2) ++ wsX00 ++ wsX30)
def wsX0_forgetAll : List Cond := .code yX0_forgetAll cX0_forgetAll 1 none :: ([.fieldLink RX0 21 "BuriedHalves$Acts" "size" "I"] ++ wsX00)
def wsX3_become : List Cond := .code yX3_become cX3_become 3 none :: ([.fieldLink RX3 9 "BuriedHalves$Mine" "isThere" "Z", .fieldLink RX3 15 "BuriedHalves$Mine" "things" "I", .fieldLink RX3 19 "BuriedHalves$Mine" "men" "I", .fieldLink RX3 22 "BuriedHalves$Mine" "near" "I", .fieldLink RX3 25 "BuriedHalves$Mine" "year" "I", .fieldLink RX3 28 "BuriedHalves$Mine" "dug" "I", .fieldLink RX3 31 "BuriedHalves$Mine" "sort" "[I", .fieldLink RX3 35 "BuriedHalves$Mine" "depth" "[I", .fieldLink RX3 38 "BuriedHalves$Mine" "place" "[I", .fieldLink RX3 41 "BuriedHalves$Mine" "slow" "[I", .fieldLink RX3 44 "BuriedHalves$Mine" "known" "[I"] ++ wsX30)
def wsX0_keep : List Cond := .code yX0_keep cX0_keep 2 none :: ([.fieldLink RX0 11 "BuriedHalves$Acts" "kept" "[LBuriedHalves$Mine;", .fieldLink RX0 17 "BuriedHalves$Acts" "top" "I", .fieldLink RX0 21 "BuriedHalves$Acts" "size" "I", .methodLink RX0 29 Lib.Math.min.name, .static Lib.Math.min.name, .initialized "java/lang/Math", .code Lib.Math.min.name Lib.Math.min.code 2 (some .int), .methodLink RX0 25 yX3_become, .instanceMethod yX3_become, .selects RX3 yX3_become yX3_become, .initialized RX3, .code yX3_become cX3_become 3 none, .fieldLink RX3 9 "BuriedHalves$Mine" "isThere" "Z", .fieldLink RX3 15 "BuriedHalves$Mine" "things" "I", .fieldLink RX3 19 "BuriedHalves$Mine" "men" "I", .fieldLink RX3 22 "BuriedHalves$Mine" "near" "I", .fieldLink RX3 25 "BuriedHalves$Mine" "year" "I", .fieldLink RX3 28 "BuriedHalves$Mine" "dug" "I", .fieldLink RX3 31 "BuriedHalves$Mine" "sort" "[I", .fieldLink RX3 35 "BuriedHalves$Mine" "depth" "[I", .fieldLink RX3 38 "BuriedHalves$Mine" "place" "[I", .fieldLink RX3 41 "BuriedHalves$Mine" "slow" "[I", .fieldLink RX3 44 "BuriedHalves$Mine" "known" "[I"] ++ wsX00 ++ wsX30)
def wsX0_takeBack : List Cond := .code yX0_takeBack cX0_takeBack 2 none :: ([.fieldLink RX0 21 "BuriedHalves$Acts" "size" "I", .fieldLink RX0 17 "BuriedHalves$Acts" "top" "I", .fieldLink RX0 11 "BuriedHalves$Acts" "kept" "[LBuriedHalves$Mine;", .methodLink RX0 25 yX3_become, .instanceMethod yX3_become, .selects RX3 yX3_become yX3_become, .initialized RX3, .code yX3_become cX3_become 3 none, .fieldLink RX3 9 "BuriedHalves$Mine" "isThere" "Z", .fieldLink RX3 15 "BuriedHalves$Mine" "things" "I", .fieldLink RX3 19 "BuriedHalves$Mine" "men" "I", .fieldLink RX3 22 "BuriedHalves$Mine" "near" "I", .fieldLink RX3 25 "BuriedHalves$Mine" "year" "I", .fieldLink RX3 28 "BuriedHalves$Mine" "dug" "I", .fieldLink RX3 31 "BuriedHalves$Mine" "sort" "[I", .fieldLink RX3 35 "BuriedHalves$Mine" "depth" "[I", .fieldLink RX3 38 "BuriedHalves$Mine" "place" "[I", .fieldLink RX3 41 "BuriedHalves$Mine" "slow" "[I", .fieldLink RX3 44 "BuriedHalves$Mine" "known" "[I"] ++ wsX00 ++ wsX30)
def wsX1_init : List Cond := .code yX1_init cX1_init 1 none :: ([.methodLink RX1 3 objectInit, .instanceMethod objectInit, .code objectInit ⟨#[0xb1]⟩ 1 none, .arrayClass .int, .fieldLink RX1 9 "BuriedHalves$Asker" "numbers" "[I", .fieldLink RX1 15 "BuriedHalves$Asker" "traced" "I"] ++ wsX10)
def wsX1_sizeBody : List Cond := .code yX1_sizeBody cX1_sizeBody 1 (some .int) :: ([])
def wsX1_markBody : List Cond := .code yX1_markBody cX1_markBody 1 (some .int) :: ([])
def wsX7_kindAbove : List Cond := .code yX7_kindAbove cX7_kindAbove 1 (some .int) :: ([])
def wsX1_bodyFor : List Cond := .code yX1_bodyFor cX1_bodyFor 5 (some .int) :: ([.methodLink RX1 35 yX1_sizeBody, .static yX1_sizeBody, .initialized RX1, .code yX1_sizeBody cX1_sizeBody 1 (some .int), .methodLink RX1 39 yX1_markBody, .static yX1_markBody, .code yX1_markBody cX1_markBody 1 (some .int), .static yX7_kindAbove, .initialized RX7, .code yX7_kindAbove cX7_kindAbove 1 (some .int)])
def wsX1_note : List Cond := .code yX1_note cX1_note 2 none :: ([.fieldLink RX1 15 "BuriedHalves$Asker" "traced" "I", .fieldLink RX1 9 "BuriedHalves$Asker" "numbers" "[I"] ++ wsX10)
def wsX1_answer_r1 : List Cond := [Cond.fieldLink RX1 23 "BuriedHalves$Mine" "sort" "[I", Cond.methodLink RX1 28 yX1_bodyFor, Cond.static yX1_bodyFor, Cond.initialized RX1, Cond.code yX1_bodyFor cX1_bodyFor 5 (some .int), Cond.methodLink RX1 35 yX1_sizeBody, Cond.static yX1_sizeBody, Cond.code yX1_sizeBody cX1_sizeBody 1 (some .int), Cond.methodLink RX1 39 yX1_markBody, Cond.static yX1_markBody, Cond.code yX1_markBody cX1_markBody 1 (some .int), Cond.static yX7_kindAbove, Cond.initialized RX7, Cond.code yX7_kindAbove cX7_kindAbove 1 (some .int), Cond.methodLink RX1 32 yX1_give, Cond.instanceMethod yX1_give, Cond.selects RX1 yX1_give yX1_give, Cond.code yX1_give cX1_give 6 (some .int), Cond.fieldLink RX1 49 "BuriedHalves$Mine" "slow" "[I", Cond.fieldLink RX1 52 "BuriedHalves$Mine" "depth" "[I", Cond.methodLink RX1 45 yX1_note, Cond.instanceMethod yX1_note, Cond.selects RX1 yX1_note yX1_note, Cond.code yX1_note cX1_note 2 none]
def wsX1_answer_r2 : List Cond := [Cond.fieldLink RX1 15 "BuriedHalves$Asker" "traced" "I", Cond.fieldLink RX1 9 "BuriedHalves$Asker" "numbers" "[I", Cond.methodLink RX1 19 yX1_answer, Cond.instanceMethod yX1_answer, Cond.selects RX1 yX1_answer yX1_answer]
def wsX1_answer : List Cond := .code yX1_answer cX1_answer 5 (some .int) :: ((wsX1_answer_r1 ++ wsX1_answer_r2) ++ wsX30 ++ wsX10)
def wsX1_give_r1 : List Cond := [Cond.fieldLink RX1 49 "BuriedHalves$Mine" "slow" "[I", Cond.fieldLink RX1 52 "BuriedHalves$Mine" "depth" "[I", Cond.methodLink RX1 45 yX1_note, Cond.instanceMethod yX1_note, Cond.selects RX1 yX1_note yX1_note, Cond.initialized RX1, Cond.code yX1_note cX1_note 2 none, Cond.fieldLink RX1 15 "BuriedHalves$Asker" "traced" "I", Cond.fieldLink RX1 9 "BuriedHalves$Asker" "numbers" "[I", Cond.methodLink RX1 32 yX1_give, Cond.instanceMethod yX1_give, Cond.selects RX1 yX1_give yX1_give, Cond.methodLink RX1 19 yX1_answer, Cond.instanceMethod yX1_answer, Cond.selects RX1 yX1_answer yX1_answer, Cond.code yX1_answer cX1_answer 5 (some .int), Cond.fieldLink RX1 23 "BuriedHalves$Mine" "sort" "[I", Cond.methodLink RX1 28 yX1_bodyFor, Cond.static yX1_bodyFor, Cond.code yX1_bodyFor cX1_bodyFor 5 (some .int), Cond.methodLink RX1 35 yX1_sizeBody, Cond.static yX1_sizeBody, Cond.code yX1_sizeBody cX1_sizeBody 1 (some .int), Cond.methodLink RX1 39 yX1_markBody]
def wsX1_give_r2 : List Cond := [Cond.static yX1_markBody, Cond.code yX1_markBody cX1_markBody 1 (some .int), Cond.static yX7_kindAbove, Cond.initialized RX7, Cond.code yX7_kindAbove cX7_kindAbove 1 (some .int)]
def wsX1_give : List Cond := .code yX1_give cX1_give 6 (some .int) :: ((wsX1_give_r1 ++ wsX1_give_r2) ++ wsX30 ++ wsX10)
def wsX1_begin_r1 : List Cond := [Cond.fieldLink RX1 15 "BuriedHalves$Asker" "traced" "I", Cond.methodLink RX1 19 yX1_answer, Cond.instanceMethod yX1_answer, Cond.selects RX1 yX1_answer yX1_answer, Cond.initialized RX1, Cond.code yX1_answer cX1_answer 5 (some .int), Cond.fieldLink RX1 23 "BuriedHalves$Mine" "sort" "[I", Cond.methodLink RX1 28 yX1_bodyFor, Cond.static yX1_bodyFor, Cond.code yX1_bodyFor cX1_bodyFor 5 (some .int), Cond.methodLink RX1 35 yX1_sizeBody, Cond.static yX1_sizeBody, Cond.code yX1_sizeBody cX1_sizeBody 1 (some .int), Cond.methodLink RX1 39 yX1_markBody, Cond.static yX1_markBody, Cond.code yX1_markBody cX1_markBody 1 (some .int), Cond.static yX7_kindAbove, Cond.initialized RX7, Cond.code yX7_kindAbove cX7_kindAbove 1 (some .int), Cond.methodLink RX1 32 yX1_give, Cond.instanceMethod yX1_give, Cond.selects RX1 yX1_give yX1_give, Cond.code yX1_give cX1_give 6 (some .int), Cond.fieldLink RX1 49 "BuriedHalves$Mine" "slow" "[I"]
def wsX1_begin_r2 : List Cond := [Cond.fieldLink RX1 52 "BuriedHalves$Mine" "depth" "[I", Cond.methodLink RX1 45 yX1_note, Cond.instanceMethod yX1_note, Cond.selects RX1 yX1_note yX1_note, Cond.code yX1_note cX1_note 2 none, Cond.fieldLink RX1 9 "BuriedHalves$Asker" "numbers" "[I"]
def wsX1_begin : List Cond := .code yX1_begin cX1_begin 4 (some .int) :: ((wsX1_begin_r1 ++ wsX1_begin_r2) ++ wsX10 ++ wsX30)
def wsX2_init_r1 : List Cond := [Cond.methodLink RX2 3 objectInit, Cond.instanceMethod objectInit, Cond.code objectInit ⟨#[0xb1]⟩ 1 none, Cond.classLink RX2 9 RX3, Cond.instantiable RX3 12, Cond.initialized RX3, Cond.fieldLink RX2 12 "BuriedHalves$Layer" "then" "LBuriedHalves$Mine;", Cond.fieldLink RX2 18 "BuriedHalves$Layer" "asked" "LBuriedHalves$Mine;", Cond.fieldLink RX2 21 "BuriedHalves$Layer" "askedYears" "I", Cond.arrayClass .int, Cond.fieldLink RX2 25 "BuriedHalves$Layer" "places" "[I", Cond.constant RX2 29 (-1000000), Cond.fieldLink RX2 30 "BuriedHalves$Layer" "moved" "I", Cond.instanceMethod yX3_init, Cond.code yX3_init cX3_init 1 none, Cond.methodLink RX3 3 objectInit, Cond.fieldLink RX3 9 "BuriedHalves$Mine" "isThere" "Z", Cond.fieldLink RX3 15 "BuriedHalves$Mine" "things" "I", Cond.fieldLink RX3 19 "BuriedHalves$Mine" "men" "I", Cond.fieldLink RX3 22 "BuriedHalves$Mine" "near" "I", Cond.fieldLink RX3 25 "BuriedHalves$Mine" "year" "I", Cond.fieldLink RX3 28 "BuriedHalves$Mine" "dug" "I", Cond.fieldLink RX3 31 "BuriedHalves$Mine" "sort" "[I", Cond.fieldLink RX3 35 "BuriedHalves$Mine" "depth" "[I"]
def wsX2_init_r2 : List Cond := [Cond.fieldLink RX3 38 "BuriedHalves$Mine" "place" "[I", Cond.fieldLink RX3 41 "BuriedHalves$Mine" "slow" "[I", Cond.fieldLink RX3 44 "BuriedHalves$Mine" "known" "[I", Cond.fieldLink RX3 47 "BuriedHalves$Mine" "rises" "[I"]
def wsX2_init : List Cond := .code yX2_init cX2_init 1 none :: ((wsX2_init_r1 ++ wsX2_init_r2) ++ wsX30 ++ wsX20)
def wsX3_foretellsLike : List Cond := .code yX3_foretellsLike cX3_foretellsLike 3 (some .boolean) :: ([.fieldLink RX3 15 "BuriedHalves$Mine" "things" "I", .fieldLink RX3 22 "BuriedHalves$Mine" "near" "I", .fieldLink RX3 25 "BuriedHalves$Mine" "year" "I", .fieldLink RX3 31 "BuriedHalves$Mine" "sort" "[I", .fieldLink RX3 35 "BuriedHalves$Mine" "depth" "[I", .fieldLink RX3 38 "BuriedHalves$Mine" "place" "[I", .fieldLink RX3 41 "BuriedHalves$Mine" "slow" "[I"] ++ wsX30)
def wsX3_isUp : List Cond := .code yX3_isUp cX3_isUp 2 (some .boolean) :: ([.fieldLink RX3 35 "BuriedHalves$Mine" "depth" "[I"] ++ wsX30)
def wsX3_ironRise : List Cond := .code yX3_ironRise cX3_ironRise 2 (some .int) :: ([.fieldLink RX3 41 "BuriedHalves$Mine" "slow" "[I", .fieldLink RX3 25 "BuriedHalves$Mine" "year" "I"] ++ wsX30)
def wsX3_isCovered : List Cond := .code yX3_isCovered cX3_isCovered 3 (some .boolean) :: ([.fieldLink RX3 15 "BuriedHalves$Mine" "things" "I", .fieldLink RX3 35 "BuriedHalves$Mine" "depth" "[I", .fieldLink RX3 38 "BuriedHalves$Mine" "place" "[I"] ++ wsX30)
def wsX3_riseOf : List Cond := .code yX3_riseOf cX3_riseOf 2 (some .int) :: ([.fieldLink RX3 31 "BuriedHalves$Mine" "sort" "[I", .fieldLink RX3 35 "BuriedHalves$Mine" "depth" "[I", .methodLink RX3 71 Lib.Math.min.name, .static Lib.Math.min.name, .initialized "java/lang/Math", .code Lib.Math.min.name Lib.Math.min.code 2 (some .int), .fieldLink RX3 25 "BuriedHalves$Mine" "year" "I", .methodLink RX3 50 yX3_isUp, .instanceMethod yX3_isUp, .selects RX3 yX3_isUp yX3_isUp, .initialized RX3, .code yX3_isUp cX3_isUp 2 (some .boolean), .methodLink RX3 65 yX3_ironRise, .instanceMethod yX3_ironRise, .selects RX3 yX3_ironRise yX3_ironRise, .code yX3_ironRise cX3_ironRise 2 (some .int), .fieldLink RX3 41 "BuriedHalves$Mine" "slow" "[I", .methodLink RX3 68 yX3_isCovered, .instanceMethod yX3_isCovered, .selects RX3 yX3_isCovered yX3_isCovered, .code yX3_isCovered cX3_isCovered 3 (some .boolean), .fieldLink RX3 15 "BuriedHalves$Mine" "things" "I", .fieldLink RX3 38 "BuriedHalves$Mine" "place" "[I"] ++ wsX30)
def wsX3_passYear_r1 : List Cond := [Cond.fieldLink RX3 15 "BuriedHalves$Mine" "things" "I", Cond.fieldLink RX3 47 "BuriedHalves$Mine" "rises" "[I", Cond.fieldLink RX3 35 "BuriedHalves$Mine" "depth" "[I", Cond.fieldLink RX3 25 "BuriedHalves$Mine" "year" "I", Cond.methodLink RX3 75 yX3_riseOf, Cond.instanceMethod yX3_riseOf, Cond.selects RX3 yX3_riseOf yX3_riseOf, Cond.initialized RX3, Cond.code yX3_riseOf cX3_riseOf 2 (some .int), Cond.fieldLink RX3 31 "BuriedHalves$Mine" "sort" "[I", Cond.methodLink RX3 71 Lib.Math.min.name, Cond.static Lib.Math.min.name, Cond.initialized "java/lang/Math", Cond.code Lib.Math.min.name Lib.Math.min.code 2 (some .int), Cond.methodLink RX3 50 yX3_isUp, Cond.instanceMethod yX3_isUp, Cond.selects RX3 yX3_isUp yX3_isUp, Cond.code yX3_isUp cX3_isUp 2 (some .boolean), Cond.methodLink RX3 65 yX3_ironRise, Cond.instanceMethod yX3_ironRise, Cond.selects RX3 yX3_ironRise yX3_ironRise, Cond.code yX3_ironRise cX3_ironRise 2 (some .int), Cond.fieldLink RX3 41 "BuriedHalves$Mine" "slow" "[I", Cond.methodLink RX3 68 yX3_isCovered]
def wsX3_passYear_r2 : List Cond := [Cond.instanceMethod yX3_isCovered, Cond.selects RX3 yX3_isCovered yX3_isCovered, Cond.code yX3_isCovered cX3_isCovered 3 (some .boolean), Cond.fieldLink RX3 38 "BuriedHalves$Mine" "place" "[I"]
def wsX3_passYear : List Cond := .code yX3_passYear cX3_passYear 3 (some .boolean) :: ((wsX3_passYear_r1 ++ wsX3_passYear_r2) ++ wsX30)
def wsX2_oneComesUpAnywhere_r1 : List Cond := [Cond.fieldLink RX2 12 "BuriedHalves$Layer" "then" "LBuriedHalves$Mine;", Cond.fieldLink RX2 18 "BuriedHalves$Layer" "asked" "LBuriedHalves$Mine;", Cond.fieldLink RX2 45 "BuriedHalves$Mine" "things" "I", Cond.fieldLink RX2 56 "BuriedHalves$Mine" "sort" "[I", Cond.methodLink RX2 37 yX3_become, Cond.instanceMethod yX3_become, Cond.selects RX3 yX3_become yX3_become, Cond.initialized RX3, Cond.code yX3_become cX3_become 3 none, Cond.fieldLink RX3 9 "BuriedHalves$Mine" "isThere" "Z", Cond.fieldLink RX3 15 "BuriedHalves$Mine" "things" "I", Cond.fieldLink RX3 19 "BuriedHalves$Mine" "men" "I", Cond.fieldLink RX3 22 "BuriedHalves$Mine" "near" "I", Cond.fieldLink RX3 25 "BuriedHalves$Mine" "year" "I", Cond.fieldLink RX3 28 "BuriedHalves$Mine" "dug" "I", Cond.fieldLink RX3 31 "BuriedHalves$Mine" "sort" "[I", Cond.fieldLink RX3 35 "BuriedHalves$Mine" "depth" "[I", Cond.fieldLink RX3 38 "BuriedHalves$Mine" "place" "[I", Cond.fieldLink RX3 41 "BuriedHalves$Mine" "slow" "[I", Cond.fieldLink RX3 44 "BuriedHalves$Mine" "known" "[I", Cond.methodLink RX2 52 yX3_passYear, Cond.instanceMethod yX3_passYear, Cond.selects RX3 yX3_passYear yX3_passYear, Cond.code yX3_passYear cX3_passYear 3 (some .boolean)]
def wsX2_oneComesUpAnywhere_r2 : List Cond := [Cond.fieldLink RX3 47 "BuriedHalves$Mine" "rises" "[I", Cond.methodLink RX3 75 yX3_riseOf, Cond.instanceMethod yX3_riseOf, Cond.selects RX3 yX3_riseOf yX3_riseOf, Cond.code yX3_riseOf cX3_riseOf 2 (some .int), Cond.methodLink RX3 71 Lib.Math.min.name, Cond.static Lib.Math.min.name, Cond.initialized "java/lang/Math", Cond.code Lib.Math.min.name Lib.Math.min.code 2 (some .int), Cond.methodLink RX3 50 yX3_isUp, Cond.instanceMethod yX3_isUp, Cond.selects RX3 yX3_isUp yX3_isUp, Cond.code yX3_isUp cX3_isUp 2 (some .boolean), Cond.methodLink RX3 65 yX3_ironRise, Cond.instanceMethod yX3_ironRise, Cond.selects RX3 yX3_ironRise yX3_ironRise, Cond.code yX3_ironRise cX3_ironRise 2 (some .int), Cond.methodLink RX3 68 yX3_isCovered, Cond.instanceMethod yX3_isCovered, Cond.selects RX3 yX3_isCovered yX3_isCovered, Cond.code yX3_isCovered cX3_isCovered 3 (some .boolean), Cond.methodLink RX2 59 yX3_isUp]
def wsX2_oneComesUpAnywhere : List Cond := .code yX2_oneComesUpAnywhere cX2_oneComesUpAnywhere 3 (some .boolean) :: ((wsX2_oneComesUpAnywhere_r1 ++ wsX2_oneComesUpAnywhere_r2) ++ wsX20 ++ wsX30)
def wsX2_countMoved : List Cond := .code yX2_countMoved cX2_countMoved 5 (some .int) :: ([.fieldLink RX2 18 "BuriedHalves$Layer" "asked" "LBuriedHalves$Mine;", .fieldLink RX2 45 "BuriedHalves$Mine" "things" "I", .fieldLink RX2 25 "BuriedHalves$Layer" "places" "[I", .fieldLink RX2 69 "BuriedHalves$Mine" "place" "[I", .constant RX2 29 (-1000000), .methodLink RX2 59 yX3_isUp, .instanceMethod yX3_isUp, .selects RX3 yX3_isUp yX3_isUp, .initialized RX3, .code yX3_isUp cX3_isUp 2 (some .boolean), .fieldLink RX3 35 "BuriedHalves$Mine" "depth" "[I"] ++ wsX20 ++ wsX30)
def wsX3_allUp : List Cond := .code yX3_allUp cX3_allUp 3 (some .int) :: ([.fieldLink RX3 15 "BuriedHalves$Mine" "things" "I", .methodLink RX3 50 yX3_isUp, .instanceMethod yX3_isUp, .selects RX3 yX3_isUp yX3_isUp, .initialized RX3, .code yX3_isUp cX3_isUp 2 (some .boolean), .fieldLink RX3 35 "BuriedHalves$Mine" "depth" "[I"] ++ wsX30)
def wsX3_areTooNear : List Cond := .code yX3_areTooNear cX3_areTooNear 3 (some .boolean) :: ([.fieldLink RX3 38 "BuriedHalves$Mine" "place" "[I", .methodLink RX3 54 Lib.Math.abs.name, .static Lib.Math.abs.name, .initialized "java/lang/Math", .code Lib.Math.abs.name Lib.Math.abs.code 1 (some .int), .fieldLink RX3 35 "BuriedHalves$Mine" "depth" "[I", .fieldLink RX3 22 "BuriedHalves$Mine" "near" "I", .methodLink RX3 50 yX3_isUp, .instanceMethod yX3_isUp, .selects RX3 yX3_isUp yX3_isUp, .initialized RX3, .code yX3_isUp cX3_isUp 2 (some .boolean)] ++ wsX30)
def wsX3_firstTooNear : List Cond := .code yX3_firstTooNear cX3_firstTooNear 3 (some .int) :: ([.fieldLink RX3 15 "BuriedHalves$Mine" "things" "I", .constant RX3 64 (-1000000), .methodLink RX3 60 yX3_areTooNear, .instanceMethod yX3_areTooNear, .selects RX3 yX3_areTooNear yX3_areTooNear, .initialized RX3, .code yX3_areTooNear cX3_areTooNear 3 (some .boolean), .fieldLink RX3 38 "BuriedHalves$Mine" "place" "[I", .methodLink RX3 54 Lib.Math.abs.name, .static Lib.Math.abs.name, .initialized "java/lang/Math", .code Lib.Math.abs.name Lib.Math.abs.code 1 (some .int), .fieldLink RX3 35 "BuriedHalves$Mine" "depth" "[I", .fieldLink RX3 22 "BuriedHalves$Mine" "near" "I", .methodLink RX3 50 yX3_isUp, .instanceMethod yX3_isUp, .selects RX3 yX3_isUp yX3_isUp, .code yX3_isUp cX3_isUp 2 (some .boolean)] ++ wsX30)
def wsX2_holds_r1 : List Cond := [Cond.fieldLink RX2 18 "BuriedHalves$Layer" "asked" "LBuriedHalves$Mine;", Cond.fieldLink RX2 12 "BuriedHalves$Layer" "then" "LBuriedHalves$Mine;", Cond.fieldLink RX2 45 "BuriedHalves$Mine" "things" "I", Cond.fieldLink RX2 69 "BuriedHalves$Mine" "place" "[I", Cond.fieldLink RX2 25 "BuriedHalves$Layer" "places" "[I", Cond.constant RX2 29 (-1000000), Cond.methodLink RX2 72 yX3_allUp, Cond.instanceMethod yX3_allUp, Cond.selects RX3 yX3_allUp yX3_allUp, Cond.initialized RX3, Cond.code yX3_allUp cX3_allUp 3 (some .int), Cond.fieldLink RX3 15 "BuriedHalves$Mine" "things" "I", Cond.methodLink RX3 50 yX3_isUp, Cond.instanceMethod yX3_isUp, Cond.selects RX3 yX3_isUp yX3_isUp, Cond.code yX3_isUp cX3_isUp 2 (some .boolean), Cond.fieldLink RX3 35 "BuriedHalves$Mine" "depth" "[I", Cond.methodLink RX2 37 yX3_become, Cond.instanceMethod yX3_become, Cond.selects RX3 yX3_become yX3_become, Cond.code yX3_become cX3_become 3 none, Cond.fieldLink RX3 9 "BuriedHalves$Mine" "isThere" "Z", Cond.fieldLink RX3 19 "BuriedHalves$Mine" "men" "I", Cond.fieldLink RX3 22 "BuriedHalves$Mine" "near" "I"]
def wsX2_holds_r2 : List Cond := [Cond.fieldLink RX3 25 "BuriedHalves$Mine" "year" "I", Cond.fieldLink RX3 28 "BuriedHalves$Mine" "dug" "I", Cond.fieldLink RX3 31 "BuriedHalves$Mine" "sort" "[I", Cond.fieldLink RX3 38 "BuriedHalves$Mine" "place" "[I", Cond.fieldLink RX3 41 "BuriedHalves$Mine" "slow" "[I", Cond.fieldLink RX3 44 "BuriedHalves$Mine" "known" "[I", Cond.methodLink RX2 76 yX3_firstTooNear, Cond.instanceMethod yX3_firstTooNear, Cond.selects RX3 yX3_firstTooNear yX3_firstTooNear, Cond.code yX3_firstTooNear cX3_firstTooNear 3 (some .int), Cond.constant RX3 64 (-1000000), Cond.methodLink RX3 60 yX3_areTooNear, Cond.instanceMethod yX3_areTooNear, Cond.selects RX3 yX3_areTooNear yX3_areTooNear, Cond.code yX3_areTooNear cX3_areTooNear 3 (some .boolean), Cond.methodLink RX3 54 Lib.Math.abs.name, Cond.static Lib.Math.abs.name, Cond.initialized "java/lang/Math", Cond.code Lib.Math.abs.name Lib.Math.abs.code 1 (some .int), Cond.methodLink RX2 52 yX3_passYear, Cond.instanceMethod yX3_passYear, Cond.selects RX3 yX3_passYear yX3_passYear, Cond.code yX3_passYear cX3_passYear 3 (some .boolean), Cond.fieldLink RX3 47 "BuriedHalves$Mine" "rises" "[I"]
def wsX2_holds_r3 : List Cond := [Cond.methodLink RX3 75 yX3_riseOf, Cond.instanceMethod yX3_riseOf, Cond.selects RX3 yX3_riseOf yX3_riseOf, Cond.code yX3_riseOf cX3_riseOf 2 (some .int), Cond.methodLink RX3 71 Lib.Math.min.name, Cond.static Lib.Math.min.name, Cond.code Lib.Math.min.name Lib.Math.min.code 2 (some .int), Cond.methodLink RX3 65 yX3_ironRise, Cond.instanceMethod yX3_ironRise, Cond.selects RX3 yX3_ironRise yX3_ironRise, Cond.code yX3_ironRise cX3_ironRise 2 (some .int), Cond.methodLink RX3 68 yX3_isCovered, Cond.instanceMethod yX3_isCovered, Cond.selects RX3 yX3_isCovered yX3_isCovered, Cond.code yX3_isCovered cX3_isCovered 3 (some .boolean)]
def wsX2_holds : List Cond := .code yX2_holds cX2_holds 4 (some .boolean) :: ((wsX2_holds_r1 ++ (wsX2_holds_r2 ++ wsX2_holds_r3)) ++ wsX20 ++ wsX30)
def wsX2_findMoving_r1 : List Cond := [Cond.fieldLink RX2 18 "BuriedHalves$Layer" "asked" "LBuriedHalves$Mine;", Cond.fieldLink RX2 45 "BuriedHalves$Mine" "things" "I", Cond.methodLink RX2 62 yX2_countMoved, Cond.instanceMethod yX2_countMoved, Cond.selects RX2 yX2_countMoved yX2_countMoved, Cond.initialized RX2, Cond.code yX2_countMoved cX2_countMoved 5 (some .int), Cond.fieldLink RX2 25 "BuriedHalves$Layer" "places" "[I", Cond.fieldLink RX2 69 "BuriedHalves$Mine" "place" "[I", Cond.constant RX2 29 (-1000000), Cond.methodLink RX2 59 yX3_isUp, Cond.instanceMethod yX3_isUp, Cond.selects RX3 yX3_isUp yX3_isUp, Cond.initialized RX3, Cond.code yX3_isUp cX3_isUp 2 (some .boolean), Cond.fieldLink RX3 35 "BuriedHalves$Mine" "depth" "[I", Cond.methodLink RX2 66 yX2_holds, Cond.instanceMethod yX2_holds, Cond.selects RX2 yX2_holds yX2_holds, Cond.code yX2_holds cX2_holds 4 (some .boolean), Cond.fieldLink RX2 12 "BuriedHalves$Layer" "then" "LBuriedHalves$Mine;", Cond.methodLink RX2 72 yX3_allUp, Cond.instanceMethod yX3_allUp, Cond.selects RX3 yX3_allUp yX3_allUp]
def wsX2_findMoving_r2 : List Cond := [Cond.code yX3_allUp cX3_allUp 3 (some .int), Cond.fieldLink RX3 15 "BuriedHalves$Mine" "things" "I", Cond.methodLink RX3 50 yX3_isUp, Cond.methodLink RX2 37 yX3_become, Cond.instanceMethod yX3_become, Cond.selects RX3 yX3_become yX3_become, Cond.code yX3_become cX3_become 3 none, Cond.fieldLink RX3 9 "BuriedHalves$Mine" "isThere" "Z", Cond.fieldLink RX3 19 "BuriedHalves$Mine" "men" "I", Cond.fieldLink RX3 22 "BuriedHalves$Mine" "near" "I", Cond.fieldLink RX3 25 "BuriedHalves$Mine" "year" "I", Cond.fieldLink RX3 28 "BuriedHalves$Mine" "dug" "I", Cond.fieldLink RX3 31 "BuriedHalves$Mine" "sort" "[I", Cond.fieldLink RX3 38 "BuriedHalves$Mine" "place" "[I", Cond.fieldLink RX3 41 "BuriedHalves$Mine" "slow" "[I", Cond.fieldLink RX3 44 "BuriedHalves$Mine" "known" "[I", Cond.methodLink RX2 76 yX3_firstTooNear, Cond.instanceMethod yX3_firstTooNear, Cond.selects RX3 yX3_firstTooNear yX3_firstTooNear, Cond.code yX3_firstTooNear cX3_firstTooNear 3 (some .int), Cond.constant RX3 64 (-1000000), Cond.methodLink RX3 60 yX3_areTooNear, Cond.instanceMethod yX3_areTooNear, Cond.selects RX3 yX3_areTooNear yX3_areTooNear]
def wsX2_findMoving_r3 : List Cond := [Cond.code yX3_areTooNear cX3_areTooNear 3 (some .boolean), Cond.methodLink RX3 54 Lib.Math.abs.name, Cond.static Lib.Math.abs.name, Cond.initialized "java/lang/Math", Cond.code Lib.Math.abs.name Lib.Math.abs.code 1 (some .int), Cond.methodLink RX2 52 yX3_passYear, Cond.instanceMethod yX3_passYear, Cond.selects RX3 yX3_passYear yX3_passYear, Cond.code yX3_passYear cX3_passYear 3 (some .boolean), Cond.fieldLink RX3 47 "BuriedHalves$Mine" "rises" "[I", Cond.methodLink RX3 75 yX3_riseOf, Cond.instanceMethod yX3_riseOf, Cond.selects RX3 yX3_riseOf yX3_riseOf, Cond.code yX3_riseOf cX3_riseOf 2 (some .int), Cond.methodLink RX3 71 Lib.Math.min.name, Cond.static Lib.Math.min.name, Cond.code Lib.Math.min.name Lib.Math.min.code 2 (some .int), Cond.methodLink RX3 65 yX3_ironRise, Cond.instanceMethod yX3_ironRise, Cond.selects RX3 yX3_ironRise yX3_ironRise, Cond.code yX3_ironRise cX3_ironRise 2 (some .int), Cond.methodLink RX3 68 yX3_isCovered, Cond.instanceMethod yX3_isCovered, Cond.selects RX3 yX3_isCovered yX3_isCovered]
def wsX2_findMoving_r4 : List Cond := [Cond.code yX3_isCovered cX3_isCovered 3 (some .boolean)]
def wsX2_findMoving : List Cond := .code yX2_findMoving cX2_findMoving 5 (some .boolean) :: ((wsX2_findMoving_r1 ++ (wsX2_findMoving_r2 ++ (wsX2_findMoving_r3 ++ wsX2_findMoving_r4))) ++ wsX20 ++ wsX30)
def wsX2_find_r1 : List Cond := [Cond.fieldLink RX2 21 "BuriedHalves$Layer" "askedYears" "I", Cond.fieldLink RX2 18 "BuriedHalves$Layer" "asked" "LBuriedHalves$Mine;", Cond.constant RX2 29 (-1000000), Cond.fieldLink RX2 30 "BuriedHalves$Layer" "moved" "I", Cond.fieldLink RX2 45 "BuriedHalves$Mine" "things" "I", Cond.methodLink RX2 33 yX3_foretellsLike, Cond.instanceMethod yX3_foretellsLike, Cond.selects RX3 yX3_foretellsLike yX3_foretellsLike, Cond.initialized RX3, Cond.code yX3_foretellsLike cX3_foretellsLike 3 (some .boolean), Cond.fieldLink RX3 15 "BuriedHalves$Mine" "things" "I", Cond.fieldLink RX3 22 "BuriedHalves$Mine" "near" "I", Cond.fieldLink RX3 25 "BuriedHalves$Mine" "year" "I", Cond.fieldLink RX3 31 "BuriedHalves$Mine" "sort" "[I", Cond.fieldLink RX3 35 "BuriedHalves$Mine" "depth" "[I", Cond.fieldLink RX3 38 "BuriedHalves$Mine" "place" "[I", Cond.fieldLink RX3 41 "BuriedHalves$Mine" "slow" "[I", Cond.methodLink RX2 37 yX3_become, Cond.instanceMethod yX3_become, Cond.selects RX3 yX3_become yX3_become, Cond.code yX3_become cX3_become 3 none, Cond.fieldLink RX3 9 "BuriedHalves$Mine" "isThere" "Z", Cond.fieldLink RX3 19 "BuriedHalves$Mine" "men" "I", Cond.fieldLink RX3 28 "BuriedHalves$Mine" "dug" "I"]
def wsX2_find_r2 : List Cond := [Cond.fieldLink RX3 44 "BuriedHalves$Mine" "known" "[I", Cond.methodLink RX2 41 yX2_oneComesUpAnywhere, Cond.instanceMethod yX2_oneComesUpAnywhere, Cond.selects RX2 yX2_oneComesUpAnywhere yX2_oneComesUpAnywhere, Cond.initialized RX2, Cond.code yX2_oneComesUpAnywhere cX2_oneComesUpAnywhere 3 (some .boolean), Cond.fieldLink RX2 12 "BuriedHalves$Layer" "then" "LBuriedHalves$Mine;", Cond.fieldLink RX2 56 "BuriedHalves$Mine" "sort" "[I", Cond.methodLink RX2 52 yX3_passYear, Cond.instanceMethod yX3_passYear, Cond.selects RX3 yX3_passYear yX3_passYear, Cond.code yX3_passYear cX3_passYear 3 (some .boolean), Cond.fieldLink RX3 47 "BuriedHalves$Mine" "rises" "[I", Cond.methodLink RX3 75 yX3_riseOf, Cond.instanceMethod yX3_riseOf, Cond.selects RX3 yX3_riseOf yX3_riseOf, Cond.code yX3_riseOf cX3_riseOf 2 (some .int), Cond.methodLink RX3 71 Lib.Math.min.name, Cond.static Lib.Math.min.name, Cond.initialized "java/lang/Math", Cond.code Lib.Math.min.name Lib.Math.min.code 2 (some .int), Cond.methodLink RX3 50 yX3_isUp, Cond.instanceMethod yX3_isUp, Cond.selects RX3 yX3_isUp yX3_isUp]
def wsX2_find_r3 : List Cond := [Cond.code yX3_isUp cX3_isUp 2 (some .boolean), Cond.methodLink RX3 65 yX3_ironRise, Cond.instanceMethod yX3_ironRise, Cond.selects RX3 yX3_ironRise yX3_ironRise, Cond.code yX3_ironRise cX3_ironRise 2 (some .int), Cond.methodLink RX3 68 yX3_isCovered, Cond.instanceMethod yX3_isCovered, Cond.selects RX3 yX3_isCovered yX3_isCovered, Cond.code yX3_isCovered cX3_isCovered 3 (some .boolean), Cond.methodLink RX2 59 yX3_isUp, Cond.methodLink RX2 48 yX2_findMoving, Cond.instanceMethod yX2_findMoving, Cond.selects RX2 yX2_findMoving yX2_findMoving, Cond.code yX2_findMoving cX2_findMoving 5 (some .boolean), Cond.methodLink RX2 62 yX2_countMoved, Cond.instanceMethod yX2_countMoved, Cond.selects RX2 yX2_countMoved yX2_countMoved, Cond.code yX2_countMoved cX2_countMoved 5 (some .int), Cond.fieldLink RX2 25 "BuriedHalves$Layer" "places" "[I", Cond.fieldLink RX2 69 "BuriedHalves$Mine" "place" "[I", Cond.methodLink RX2 66 yX2_holds, Cond.instanceMethod yX2_holds, Cond.selects RX2 yX2_holds yX2_holds, Cond.code yX2_holds cX2_holds 4 (some .boolean)]
def wsX2_find_r4 : List Cond := [Cond.methodLink RX2 72 yX3_allUp, Cond.instanceMethod yX3_allUp, Cond.selects RX3 yX3_allUp yX3_allUp, Cond.code yX3_allUp cX3_allUp 3 (some .int), Cond.methodLink RX2 76 yX3_firstTooNear, Cond.instanceMethod yX3_firstTooNear, Cond.selects RX3 yX3_firstTooNear yX3_firstTooNear, Cond.code yX3_firstTooNear cX3_firstTooNear 3 (some .int), Cond.constant RX3 64 (-1000000), Cond.methodLink RX3 60 yX3_areTooNear, Cond.instanceMethod yX3_areTooNear, Cond.selects RX3 yX3_areTooNear yX3_areTooNear, Cond.code yX3_areTooNear cX3_areTooNear 3 (some .boolean), Cond.methodLink RX3 54 Lib.Math.abs.name, Cond.static Lib.Math.abs.name, Cond.code Lib.Math.abs.name Lib.Math.abs.code 1 (some .int)]
def wsX2_find : List Cond := .code yX2_find cX2_find 4 none :: ((wsX2_find_r1 ++ (wsX2_find_r2 ++ (wsX2_find_r3 ++ wsX2_find_r4))) ++ wsX20 ++ wsX30)
def wsX3_nearTo : List Cond := .code yX3_nearTo cX3_nearTo 4 (some .int) :: ([.fieldLink RX3 15 "BuriedHalves$Mine" "things" "I", .methodLink RX3 60 yX3_areTooNear, .instanceMethod yX3_areTooNear, .selects RX3 yX3_areTooNear yX3_areTooNear, .initialized RX3, .code yX3_areTooNear cX3_areTooNear 3 (some .boolean), .fieldLink RX3 38 "BuriedHalves$Mine" "place" "[I", .methodLink RX3 54 Lib.Math.abs.name, .static Lib.Math.abs.name, .initialized "java/lang/Math", .code Lib.Math.abs.name Lib.Math.abs.code 1 (some .int), .fieldLink RX3 35 "BuriedHalves$Mine" "depth" "[I", .fieldLink RX3 22 "BuriedHalves$Mine" "near" "I", .methodLink RX3 50 yX3_isUp, .instanceMethod yX3_isUp, .selects RX3 yX3_isUp yX3_isUp, .code yX3_isUp cX3_isUp 2 (some .boolean)] ++ wsX30)
def wsX3_knownTo : List Cond := .code yX3_knownTo cX3_knownTo 4 (some .int) :: ([.fieldLink RX3 15 "BuriedHalves$Mine" "things" "I", .fieldLink RX3 44 "BuriedHalves$Mine" "known" "[I"] ++ wsX30)
def wsX3_allKnownTo : List Cond := .code yX3_allKnownTo cX3_allKnownTo 3 (some .boolean) :: ([.fieldLink RX3 15 "BuriedHalves$Mine" "things" "I", .fieldLink RX3 44 "BuriedHalves$Mine" "known" "[I"] ++ wsX30)
def wsJ6_bitCount_0f7a4 : List Cond := .code yJ6_bitCount_0f7a4 cJ6_bitCount_0f7a4 1 (some .int) :: ([.constant RJ6 265 (1431655765), .constant RJ6 266 (858993459), .constant RJ6 267 (252645135)])
def wsX3_fewestWhoKnowAll : List Cond := .code yX3_fewestWhoKnowAll cX3_fewestWhoKnowAll 3 (some .int) :: ([.constant RX3 64 (-1000000), .fieldLink RX3 19 "BuriedHalves$Mine" "men" "I", .methodLink RX3 78 yX3_allKnownTo, .instanceMethod yX3_allKnownTo, .selects RX3 yX3_allKnownTo yX3_allKnownTo, .initialized RX3, .code yX3_allKnownTo cX3_allKnownTo 3 (some .boolean), .fieldLink RX3 15 "BuriedHalves$Mine" "things" "I", .fieldLink RX3 44 "BuriedHalves$Mine" "known" "[I", .methodLink RX3 81 yJ6_bitCount_0f7a4, .static yJ6_bitCount_0f7a4, .initialized RJ6, .code yJ6_bitCount_0f7a4 cJ6_bitCount_0f7a4 1 (some .int), .constant RJ6 265 (1431655765), .constant RJ6 266 (858993459), .constant RJ6 267 (252645135)] ++ wsX30)
def wsX3_countHalves : List Cond := .code yX3_countHalves cX3_countHalves 4 (some .int) :: ([.fieldLink RX3 15 "BuriedHalves$Mine" "things" "I", .fieldLink RX3 44 "BuriedHalves$Mine" "known" "[I"] ++ wsX30)
def wsX3_firstHalves : List Cond := .code yX3_firstHalves cX3_firstHalves 3 (some .int) :: ([.fieldLink RX3 15 "BuriedHalves$Mine" "things" "I", .fieldLink RX3 44 "BuriedHalves$Mine" "known" "[I", .constant RX3 64 (-1000000)] ++ wsX30)
def wsX4_init : List Cond := .code yX4_init cX4_init 2 none :: ([.methodLink RX4 3 objectInit, .instanceMethod objectInit, .code objectInit ⟨#[0xb1]⟩ 1 none, .classLink RX4 9 "[[I", .arrayClass .int, .fieldLink RX4 11 "BuriedHalves$Rows" "items" "[[I", .fieldLink RX4 16 "BuriedHalves$Rows" "lane" "[I", .fieldLink RX4 20 "BuriedHalves$Rows" "length" "[I"] ++ wsX40)
def wsX4_isMissing : List Cond := .code yX4_isMissing cX4_isMissing 2 (some .boolean) :: ([.fieldLink RX4 20 "BuriedHalves$Rows" "length" "[I"] ++ wsX40)
def wsX4_hasRun : List Cond := .code yX4_hasRun cX4_hasRun 4 (some .boolean) :: ([.fieldLink RX4 20 "BuriedHalves$Rows" "length" "[I"] ++ wsX40)
def wsX4_makeAnew : List Cond := .code yX4_makeAnew cX4_makeAnew 5 none :: ([.fieldLink RX4 16 "BuriedHalves$Rows" "lane" "[I", .fieldLink RX4 20 "BuriedHalves$Rows" "length" "[I", .fieldLink RX4 11 "BuriedHalves$Rows" "items" "[[I"] ++ wsX40)
def wsX4_put : List Cond := .code yX4_put cX4_put 5 (some .int) :: ([.fieldLink RX4 16 "BuriedHalves$Rows" "lane" "[I", .fieldLink RX4 11 "BuriedHalves$Rows" "items" "[[I"] ++ wsX40)
def wsX4_readRun : List Cond := .code yX4_readRun cX4_readRun 6 none :: ([.fieldLink RX4 11 "BuriedHalves$Rows" "items" "[[I"] ++ wsX40)
def wsX4_countThere : List Cond := .code yX4_countThere cX4_countThere 3 (some .int) :: ([.methodLink RX4 23 yX4_isMissing, .instanceMethod yX4_isMissing, .selects RX4 yX4_isMissing yX4_isMissing, .initialized RX4, .code yX4_isMissing cX4_isMissing 2 (some .boolean), .fieldLink RX4 20 "BuriedHalves$Rows" "length" "[I"] ++ wsX40)
def wsX5_init : List Cond := .code yX5_init cX5_init 1 none :: ([.methodLink RX5 3 objectInit, .instanceMethod objectInit, .code objectInit ⟨#[0xb1]⟩ 1 none, .classLink RX5 9 RX3, .instantiable RX3 12, .initialized RX3, .fieldLink RX5 12 "BuriedHalves$Seer" "then" "LBuriedHalves$Mine;", .arrayClass .int, .fieldLink RX5 18 "BuriedHalves$Seer" "told" "[I", .instanceMethod yX3_init, .code yX3_init cX3_init 1 none, .methodLink RX3 3 objectInit, .fieldLink RX3 9 "BuriedHalves$Mine" "isThere" "Z", .fieldLink RX3 15 "BuriedHalves$Mine" "things" "I", .fieldLink RX3 19 "BuriedHalves$Mine" "men" "I", .fieldLink RX3 22 "BuriedHalves$Mine" "near" "I", .fieldLink RX3 25 "BuriedHalves$Mine" "year" "I", .fieldLink RX3 28 "BuriedHalves$Mine" "dug" "I", .fieldLink RX3 31 "BuriedHalves$Mine" "sort" "[I", .fieldLink RX3 35 "BuriedHalves$Mine" "depth" "[I", .fieldLink RX3 38 "BuriedHalves$Mine" "place" "[I", .fieldLink RX3 41 "BuriedHalves$Mine" "slow" "[I", .fieldLink RX3 44 "BuriedHalves$Mine" "known" "[I", .fieldLink RX3 47 "BuriedHalves$Mine" "rises" "[I"] ++ wsX30 ++ wsX50)
def wsX5_passYears_r1 : List Cond := [Cond.fieldLink RX5 12 "BuriedHalves$Seer" "then" "LBuriedHalves$Mine;", Cond.methodLink RX5 30 yX3_passYear, Cond.instanceMethod yX3_passYear, Cond.selects RX3 yX3_passYear yX3_passYear, Cond.initialized RX3, Cond.code yX3_passYear cX3_passYear 3 (some .boolean), Cond.fieldLink RX3 15 "BuriedHalves$Mine" "things" "I", Cond.fieldLink RX3 47 "BuriedHalves$Mine" "rises" "[I", Cond.fieldLink RX3 35 "BuriedHalves$Mine" "depth" "[I", Cond.fieldLink RX3 25 "BuriedHalves$Mine" "year" "I", Cond.methodLink RX3 75 yX3_riseOf, Cond.instanceMethod yX3_riseOf, Cond.selects RX3 yX3_riseOf yX3_riseOf, Cond.code yX3_riseOf cX3_riseOf 2 (some .int), Cond.fieldLink RX3 31 "BuriedHalves$Mine" "sort" "[I", Cond.methodLink RX3 71 Lib.Math.min.name, Cond.static Lib.Math.min.name, Cond.initialized "java/lang/Math", Cond.code Lib.Math.min.name Lib.Math.min.code 2 (some .int), Cond.methodLink RX3 50 yX3_isUp, Cond.instanceMethod yX3_isUp, Cond.selects RX3 yX3_isUp yX3_isUp, Cond.code yX3_isUp cX3_isUp 2 (some .boolean), Cond.methodLink RX3 65 yX3_ironRise]
def wsX5_passYears_r2 : List Cond := [Cond.instanceMethod yX3_ironRise, Cond.selects RX3 yX3_ironRise yX3_ironRise, Cond.code yX3_ironRise cX3_ironRise 2 (some .int), Cond.fieldLink RX3 41 "BuriedHalves$Mine" "slow" "[I", Cond.methodLink RX3 68 yX3_isCovered, Cond.instanceMethod yX3_isCovered, Cond.selects RX3 yX3_isCovered yX3_isCovered, Cond.code yX3_isCovered cX3_isCovered 3 (some .boolean), Cond.fieldLink RX3 38 "BuriedHalves$Mine" "place" "[I"]
def wsX5_passYears : List Cond := .code yX5_passYears cX5_passYears 3 none :: ((wsX5_passYears_r1 ++ wsX5_passYears_r2) ++ wsX50 ++ wsX30)
def wsX5_behind_r1 : List Cond := [Cond.fieldLink RX5 12 "BuriedHalves$Seer" "then" "LBuriedHalves$Mine;", Cond.methodLink RX5 22 yX3_become, Cond.instanceMethod yX3_become, Cond.selects RX3 yX3_become yX3_become, Cond.initialized RX3, Cond.code yX3_become cX3_become 3 none, Cond.fieldLink RX3 9 "BuriedHalves$Mine" "isThere" "Z", Cond.fieldLink RX3 15 "BuriedHalves$Mine" "things" "I", Cond.fieldLink RX3 19 "BuriedHalves$Mine" "men" "I", Cond.fieldLink RX3 22 "BuriedHalves$Mine" "near" "I", Cond.fieldLink RX3 25 "BuriedHalves$Mine" "year" "I", Cond.fieldLink RX3 28 "BuriedHalves$Mine" "dug" "I", Cond.fieldLink RX3 31 "BuriedHalves$Mine" "sort" "[I", Cond.fieldLink RX3 35 "BuriedHalves$Mine" "depth" "[I", Cond.fieldLink RX3 38 "BuriedHalves$Mine" "place" "[I", Cond.fieldLink RX3 41 "BuriedHalves$Mine" "slow" "[I", Cond.fieldLink RX3 44 "BuriedHalves$Mine" "known" "[I", Cond.methodLink RX5 26 yX5_passYears, Cond.instanceMethod yX5_passYears, Cond.selects RX5 yX5_passYears yX5_passYears, Cond.initialized RX5, Cond.code yX5_passYears cX5_passYears 3 none, Cond.methodLink RX5 30 yX3_passYear, Cond.instanceMethod yX3_passYear]
def wsX5_behind_r2 : List Cond := [Cond.selects RX3 yX3_passYear yX3_passYear, Cond.code yX3_passYear cX3_passYear 3 (some .boolean), Cond.fieldLink RX3 47 "BuriedHalves$Mine" "rises" "[I", Cond.methodLink RX3 75 yX3_riseOf, Cond.instanceMethod yX3_riseOf, Cond.selects RX3 yX3_riseOf yX3_riseOf, Cond.code yX3_riseOf cX3_riseOf 2 (some .int), Cond.methodLink RX3 71 Lib.Math.min.name, Cond.static Lib.Math.min.name, Cond.initialized "java/lang/Math", Cond.code Lib.Math.min.name Lib.Math.min.code 2 (some .int), Cond.methodLink RX3 50 yX3_isUp, Cond.instanceMethod yX3_isUp, Cond.selects RX3 yX3_isUp yX3_isUp, Cond.code yX3_isUp cX3_isUp 2 (some .boolean), Cond.methodLink RX3 65 yX3_ironRise, Cond.instanceMethod yX3_ironRise, Cond.selects RX3 yX3_ironRise yX3_ironRise, Cond.code yX3_ironRise cX3_ironRise 2 (some .int), Cond.methodLink RX3 68 yX3_isCovered, Cond.instanceMethod yX3_isCovered, Cond.selects RX3 yX3_isCovered yX3_isCovered, Cond.code yX3_isCovered cX3_isCovered 3 (some .boolean)]
def wsX5_behind : List Cond := .code yX5_behind cX5_behind 3 (some (.object "BuriedHalves$Mine")) :: ((wsX5_behind_r1 ++ wsX5_behind_r2) ++ wsX50 ++ wsX30)
def wsX5_yearsUntilUp_r1 : List Cond := [Cond.fieldLink RX5 12 "BuriedHalves$Seer" "then" "LBuriedHalves$Mine;", Cond.constant RX5 38 (-1000000), Cond.methodLink RX5 22 yX3_become, Cond.instanceMethod yX3_become, Cond.selects RX3 yX3_become yX3_become, Cond.initialized RX3, Cond.code yX3_become cX3_become 3 none, Cond.fieldLink RX3 9 "BuriedHalves$Mine" "isThere" "Z", Cond.fieldLink RX3 15 "BuriedHalves$Mine" "things" "I", Cond.fieldLink RX3 19 "BuriedHalves$Mine" "men" "I", Cond.fieldLink RX3 22 "BuriedHalves$Mine" "near" "I", Cond.fieldLink RX3 25 "BuriedHalves$Mine" "year" "I", Cond.fieldLink RX3 28 "BuriedHalves$Mine" "dug" "I", Cond.fieldLink RX3 31 "BuriedHalves$Mine" "sort" "[I", Cond.fieldLink RX3 35 "BuriedHalves$Mine" "depth" "[I", Cond.fieldLink RX3 38 "BuriedHalves$Mine" "place" "[I", Cond.fieldLink RX3 41 "BuriedHalves$Mine" "slow" "[I", Cond.fieldLink RX3 44 "BuriedHalves$Mine" "known" "[I", Cond.methodLink RX5 34 yX3_isUp, Cond.instanceMethod yX3_isUp, Cond.selects RX3 yX3_isUp yX3_isUp, Cond.code yX3_isUp cX3_isUp 2 (some .boolean), Cond.methodLink RX5 30 yX3_passYear, Cond.instanceMethod yX3_passYear]
def wsX5_yearsUntilUp_r2 : List Cond := [Cond.selects RX3 yX3_passYear yX3_passYear, Cond.code yX3_passYear cX3_passYear 3 (some .boolean), Cond.fieldLink RX3 47 "BuriedHalves$Mine" "rises" "[I", Cond.methodLink RX3 75 yX3_riseOf, Cond.instanceMethod yX3_riseOf, Cond.selects RX3 yX3_riseOf yX3_riseOf, Cond.code yX3_riseOf cX3_riseOf 2 (some .int), Cond.methodLink RX3 71 Lib.Math.min.name, Cond.static Lib.Math.min.name, Cond.initialized "java/lang/Math", Cond.code Lib.Math.min.name Lib.Math.min.code 2 (some .int), Cond.methodLink RX3 50 yX3_isUp, Cond.methodLink RX3 65 yX3_ironRise, Cond.instanceMethod yX3_ironRise, Cond.selects RX3 yX3_ironRise yX3_ironRise, Cond.code yX3_ironRise cX3_ironRise 2 (some .int), Cond.methodLink RX3 68 yX3_isCovered, Cond.instanceMethod yX3_isCovered, Cond.selects RX3 yX3_isCovered yX3_isCovered, Cond.code yX3_isCovered cX3_isCovered 3 (some .boolean)]
def wsX5_yearsUntilUp : List Cond := .code yX5_yearsUntilUp cX5_yearsUntilUp 4 (some .int) :: ((wsX5_yearsUntilUp_r1 ++ wsX5_yearsUntilUp_r2) ++ wsX50 ++ wsX30)
def wsX7_leastOf : List Cond := .code yX7_leastOf cX7_leastOf 2 (some .int) :: ([.constant RX7 224 (-1000000)])
def wsX5_firstUp_r1 : List Cond := [Cond.fieldLink RX5 12 "BuriedHalves$Seer" "then" "LBuriedHalves$Mine;", Cond.constant RX5 38 (-1000000), Cond.methodLink RX5 39 yX3_allUp, Cond.instanceMethod yX3_allUp, Cond.selects RX3 yX3_allUp yX3_allUp, Cond.initialized RX3, Cond.code yX3_allUp cX3_allUp 3 (some .int), Cond.fieldLink RX3 15 "BuriedHalves$Mine" "things" "I", Cond.methodLink RX3 50 yX3_isUp, Cond.instanceMethod yX3_isUp, Cond.selects RX3 yX3_isUp yX3_isUp, Cond.code yX3_isUp cX3_isUp 2 (some .boolean), Cond.fieldLink RX3 35 "BuriedHalves$Mine" "depth" "[I", Cond.methodLink RX5 22 yX3_become, Cond.instanceMethod yX3_become, Cond.selects RX3 yX3_become yX3_become, Cond.code yX3_become cX3_become 3 none, Cond.fieldLink RX3 9 "BuriedHalves$Mine" "isThere" "Z", Cond.fieldLink RX3 19 "BuriedHalves$Mine" "men" "I", Cond.fieldLink RX3 22 "BuriedHalves$Mine" "near" "I", Cond.fieldLink RX3 25 "BuriedHalves$Mine" "year" "I", Cond.fieldLink RX3 28 "BuriedHalves$Mine" "dug" "I", Cond.fieldLink RX3 31 "BuriedHalves$Mine" "sort" "[I", Cond.fieldLink RX3 38 "BuriedHalves$Mine" "place" "[I"]
def wsX5_firstUp_r2 : List Cond := [Cond.fieldLink RX3 41 "BuriedHalves$Mine" "slow" "[I", Cond.fieldLink RX3 44 "BuriedHalves$Mine" "known" "[I", Cond.methodLink RX5 30 yX3_passYear, Cond.instanceMethod yX3_passYear, Cond.selects RX3 yX3_passYear yX3_passYear, Cond.code yX3_passYear cX3_passYear 3 (some .boolean), Cond.fieldLink RX3 47 "BuriedHalves$Mine" "rises" "[I", Cond.methodLink RX3 75 yX3_riseOf, Cond.instanceMethod yX3_riseOf, Cond.selects RX3 yX3_riseOf yX3_riseOf, Cond.code yX3_riseOf cX3_riseOf 2 (some .int), Cond.methodLink RX3 71 Lib.Math.min.name, Cond.static Lib.Math.min.name, Cond.initialized "java/lang/Math", Cond.code Lib.Math.min.name Lib.Math.min.code 2 (some .int), Cond.methodLink RX3 65 yX3_ironRise, Cond.instanceMethod yX3_ironRise, Cond.selects RX3 yX3_ironRise yX3_ironRise, Cond.code yX3_ironRise cX3_ironRise 2 (some .int), Cond.methodLink RX3 68 yX3_isCovered, Cond.instanceMethod yX3_isCovered, Cond.selects RX3 yX3_isCovered yX3_isCovered, Cond.code yX3_isCovered cX3_isCovered 3 (some .boolean), Cond.static yX7_leastOf]
def wsX5_firstUp_r3 : List Cond := [Cond.initialized RX7, Cond.code yX7_leastOf cX7_leastOf 2 (some .int), Cond.constant RX7 224 (-1000000)]
def wsX5_firstUp : List Cond := .code yX5_firstUp cX5_firstUp 6 (some .int) :: ((wsX5_firstUp_r1 ++ (wsX5_firstUp_r2 ++ wsX5_firstUp_r3)) ++ wsX50 ++ wsX30)
def wsX5_firstTrouble_r1 : List Cond := [Cond.fieldLink RX5 12 "BuriedHalves$Seer" "then" "LBuriedHalves$Mine;", Cond.constant RX5 38 (-1000000), Cond.methodLink RX5 22 yX3_become, Cond.instanceMethod yX3_become, Cond.selects RX3 yX3_become yX3_become, Cond.initialized RX3, Cond.code yX3_become cX3_become 3 none, Cond.fieldLink RX3 9 "BuriedHalves$Mine" "isThere" "Z", Cond.fieldLink RX3 15 "BuriedHalves$Mine" "things" "I", Cond.fieldLink RX3 19 "BuriedHalves$Mine" "men" "I", Cond.fieldLink RX3 22 "BuriedHalves$Mine" "near" "I", Cond.fieldLink RX3 25 "BuriedHalves$Mine" "year" "I", Cond.fieldLink RX3 28 "BuriedHalves$Mine" "dug" "I", Cond.fieldLink RX3 31 "BuriedHalves$Mine" "sort" "[I", Cond.fieldLink RX3 35 "BuriedHalves$Mine" "depth" "[I", Cond.fieldLink RX3 38 "BuriedHalves$Mine" "place" "[I", Cond.fieldLink RX3 41 "BuriedHalves$Mine" "slow" "[I", Cond.fieldLink RX3 44 "BuriedHalves$Mine" "known" "[I", Cond.methodLink RX5 47 yX3_firstTooNear, Cond.instanceMethod yX3_firstTooNear, Cond.selects RX3 yX3_firstTooNear yX3_firstTooNear, Cond.code yX3_firstTooNear cX3_firstTooNear 3 (some .int), Cond.constant RX3 64 (-1000000), Cond.methodLink RX3 60 yX3_areTooNear]
def wsX5_firstTrouble_r2 : List Cond := [Cond.instanceMethod yX3_areTooNear, Cond.selects RX3 yX3_areTooNear yX3_areTooNear, Cond.code yX3_areTooNear cX3_areTooNear 3 (some .boolean), Cond.methodLink RX3 54 Lib.Math.abs.name, Cond.static Lib.Math.abs.name, Cond.initialized "java/lang/Math", Cond.code Lib.Math.abs.name Lib.Math.abs.code 1 (some .int), Cond.methodLink RX3 50 yX3_isUp, Cond.instanceMethod yX3_isUp, Cond.selects RX3 yX3_isUp yX3_isUp, Cond.code yX3_isUp cX3_isUp 2 (some .boolean), Cond.methodLink RX5 30 yX3_passYear, Cond.instanceMethod yX3_passYear, Cond.selects RX3 yX3_passYear yX3_passYear, Cond.code yX3_passYear cX3_passYear 3 (some .boolean), Cond.fieldLink RX3 47 "BuriedHalves$Mine" "rises" "[I", Cond.methodLink RX3 75 yX3_riseOf, Cond.instanceMethod yX3_riseOf, Cond.selects RX3 yX3_riseOf yX3_riseOf, Cond.code yX3_riseOf cX3_riseOf 2 (some .int), Cond.methodLink RX3 71 Lib.Math.min.name, Cond.static Lib.Math.min.name, Cond.code Lib.Math.min.name Lib.Math.min.code 2 (some .int), Cond.methodLink RX3 65 yX3_ironRise]
def wsX5_firstTrouble_r3 : List Cond := [Cond.instanceMethod yX3_ironRise, Cond.selects RX3 yX3_ironRise yX3_ironRise, Cond.code yX3_ironRise cX3_ironRise 2 (some .int), Cond.methodLink RX3 68 yX3_isCovered, Cond.instanceMethod yX3_isCovered, Cond.selects RX3 yX3_isCovered yX3_isCovered, Cond.code yX3_isCovered cX3_isCovered 3 (some .boolean)]
def wsX5_firstTrouble : List Cond := .code yX5_firstTrouble cX5_firstTrouble 5 (some .int) :: ((wsX5_firstTrouble_r1 ++ (wsX5_firstTrouble_r2 ++ wsX5_firstTrouble_r3)) ++ wsX50 ++ wsX30)
def wsX5_leastDepth_r1 : List Cond := [Cond.fieldLink RX5 12 "BuriedHalves$Seer" "then" "LBuriedHalves$Mine;", Cond.fieldLink RX5 50 "BuriedHalves$Mine" "depth" "[I", Cond.constant RX5 38 (-1000000), Cond.methodLink RX5 22 yX3_become, Cond.instanceMethod yX3_become, Cond.selects RX3 yX3_become yX3_become, Cond.initialized RX3, Cond.code yX3_become cX3_become 3 none, Cond.fieldLink RX3 9 "BuriedHalves$Mine" "isThere" "Z", Cond.fieldLink RX3 15 "BuriedHalves$Mine" "things" "I", Cond.fieldLink RX3 19 "BuriedHalves$Mine" "men" "I", Cond.fieldLink RX3 22 "BuriedHalves$Mine" "near" "I", Cond.fieldLink RX3 25 "BuriedHalves$Mine" "year" "I", Cond.fieldLink RX3 28 "BuriedHalves$Mine" "dug" "I", Cond.fieldLink RX3 31 "BuriedHalves$Mine" "sort" "[I", Cond.fieldLink RX3 35 "BuriedHalves$Mine" "depth" "[I", Cond.fieldLink RX3 38 "BuriedHalves$Mine" "place" "[I", Cond.fieldLink RX3 41 "BuriedHalves$Mine" "slow" "[I", Cond.fieldLink RX3 44 "BuriedHalves$Mine" "known" "[I", Cond.methodLink RX5 26 yX5_passYears, Cond.instanceMethod yX5_passYears, Cond.selects RX5 yX5_passYears yX5_passYears, Cond.initialized RX5, Cond.code yX5_passYears cX5_passYears 3 none]
def wsX5_leastDepth_r2 : List Cond := [Cond.methodLink RX5 30 yX3_passYear, Cond.instanceMethod yX3_passYear, Cond.selects RX3 yX3_passYear yX3_passYear, Cond.code yX3_passYear cX3_passYear 3 (some .boolean), Cond.fieldLink RX3 47 "BuriedHalves$Mine" "rises" "[I", Cond.methodLink RX3 75 yX3_riseOf, Cond.instanceMethod yX3_riseOf, Cond.selects RX3 yX3_riseOf yX3_riseOf, Cond.code yX3_riseOf cX3_riseOf 2 (some .int), Cond.methodLink RX3 71 Lib.Math.min.name, Cond.static Lib.Math.min.name, Cond.initialized "java/lang/Math", Cond.code Lib.Math.min.name Lib.Math.min.code 2 (some .int), Cond.methodLink RX3 50 yX3_isUp, Cond.instanceMethod yX3_isUp, Cond.selects RX3 yX3_isUp yX3_isUp, Cond.code yX3_isUp cX3_isUp 2 (some .boolean), Cond.methodLink RX3 65 yX3_ironRise, Cond.instanceMethod yX3_ironRise, Cond.selects RX3 yX3_ironRise yX3_ironRise, Cond.code yX3_ironRise cX3_ironRise 2 (some .int), Cond.methodLink RX3 68 yX3_isCovered, Cond.instanceMethod yX3_isCovered, Cond.selects RX3 yX3_isCovered yX3_isCovered]
def wsX5_leastDepth_r3 : List Cond := [Cond.code yX3_isCovered cX3_isCovered 3 (some .boolean), Cond.methodLink RX5 34 yX3_isUp]
def wsX5_leastDepth : List Cond := .code yX5_leastDepth cX5_leastDepth 5 (some .int) :: ((wsX5_leastDepth_r1 ++ (wsX5_leastDepth_r2 ++ wsX5_leastDepth_r3)) ++ wsX50 ++ wsX30)
def wsX5_goesAsTold_r1 : List Cond := [Cond.fieldLink RX5 12 "BuriedHalves$Seer" "then" "LBuriedHalves$Mine;", Cond.fieldLink RX5 50 "BuriedHalves$Mine" "depth" "[I", Cond.fieldLink RX5 18 "BuriedHalves$Seer" "told" "[I", Cond.methodLink RX5 30 yX3_passYear, Cond.instanceMethod yX3_passYear, Cond.selects RX3 yX3_passYear yX3_passYear, Cond.initialized RX3, Cond.code yX3_passYear cX3_passYear 3 (some .boolean), Cond.fieldLink RX3 15 "BuriedHalves$Mine" "things" "I", Cond.fieldLink RX3 47 "BuriedHalves$Mine" "rises" "[I", Cond.fieldLink RX3 35 "BuriedHalves$Mine" "depth" "[I", Cond.fieldLink RX3 25 "BuriedHalves$Mine" "year" "I", Cond.methodLink RX3 75 yX3_riseOf, Cond.instanceMethod yX3_riseOf, Cond.selects RX3 yX3_riseOf yX3_riseOf, Cond.code yX3_riseOf cX3_riseOf 2 (some .int), Cond.fieldLink RX3 31 "BuriedHalves$Mine" "sort" "[I", Cond.methodLink RX3 71 Lib.Math.min.name, Cond.static Lib.Math.min.name, Cond.initialized "java/lang/Math", Cond.code Lib.Math.min.name Lib.Math.min.code 2 (some .int), Cond.methodLink RX3 50 yX3_isUp, Cond.instanceMethod yX3_isUp, Cond.selects RX3 yX3_isUp yX3_isUp]
def wsX5_goesAsTold_r2 : List Cond := [Cond.code yX3_isUp cX3_isUp 2 (some .boolean), Cond.methodLink RX3 65 yX3_ironRise, Cond.instanceMethod yX3_ironRise, Cond.selects RX3 yX3_ironRise yX3_ironRise, Cond.code yX3_ironRise cX3_ironRise 2 (some .int), Cond.fieldLink RX3 41 "BuriedHalves$Mine" "slow" "[I", Cond.methodLink RX3 68 yX3_isCovered, Cond.instanceMethod yX3_isCovered, Cond.selects RX3 yX3_isCovered yX3_isCovered, Cond.code yX3_isCovered cX3_isCovered 3 (some .boolean), Cond.fieldLink RX3 38 "BuriedHalves$Mine" "place" "[I", Cond.methodLink RX5 66 yX3_nearTo, Cond.instanceMethod yX3_nearTo, Cond.selects RX3 yX3_nearTo yX3_nearTo, Cond.code yX3_nearTo cX3_nearTo 4 (some .int), Cond.methodLink RX3 60 yX3_areTooNear, Cond.instanceMethod yX3_areTooNear, Cond.selects RX3 yX3_areTooNear yX3_areTooNear, Cond.code yX3_areTooNear cX3_areTooNear 3 (some .boolean), Cond.methodLink RX3 54 Lib.Math.abs.name, Cond.static Lib.Math.abs.name, Cond.code Lib.Math.abs.name Lib.Math.abs.code 1 (some .int), Cond.fieldLink RX3 22 "BuriedHalves$Mine" "near" "I"]
def wsX5_goesAsTold : List Cond := .code yX5_goesAsTold cX5_goesAsTold 6 (some .boolean) :: ((wsX5_goesAsTold_r1 ++ wsX5_goesAsTold_r2) ++ wsX50 ++ wsX30)
def wsX5_thatFit_r1 : List Cond := [Cond.fieldLink RX5 12 "BuriedHalves$Seer" "then" "LBuriedHalves$Mine;", Cond.fieldLink RX5 53 "BuriedHalves$Mine" "sort" "[I", Cond.fieldLink RX5 56 "BuriedHalves$Mine" "slow" "[I", Cond.fieldLink RX5 59 "BuriedHalves$Mine" "place" "[I", Cond.methodLink RX5 22 yX3_become, Cond.instanceMethod yX3_become, Cond.selects RX3 yX3_become yX3_become, Cond.initialized RX3, Cond.code yX3_become cX3_become 3 none, Cond.fieldLink RX3 9 "BuriedHalves$Mine" "isThere" "Z", Cond.fieldLink RX3 15 "BuriedHalves$Mine" "things" "I", Cond.fieldLink RX3 19 "BuriedHalves$Mine" "men" "I", Cond.fieldLink RX3 22 "BuriedHalves$Mine" "near" "I", Cond.fieldLink RX3 25 "BuriedHalves$Mine" "year" "I", Cond.fieldLink RX3 28 "BuriedHalves$Mine" "dug" "I", Cond.fieldLink RX3 31 "BuriedHalves$Mine" "sort" "[I", Cond.fieldLink RX3 35 "BuriedHalves$Mine" "depth" "[I", Cond.fieldLink RX3 38 "BuriedHalves$Mine" "place" "[I", Cond.fieldLink RX3 41 "BuriedHalves$Mine" "slow" "[I", Cond.fieldLink RX3 44 "BuriedHalves$Mine" "known" "[I", Cond.methodLink RX5 62 yX5_goesAsTold, Cond.instanceMethod yX5_goesAsTold, Cond.selects RX5 yX5_goesAsTold yX5_goesAsTold, Cond.initialized RX5]
def wsX5_thatFit_r2 : List Cond := [Cond.code yX5_goesAsTold cX5_goesAsTold 6 (some .boolean), Cond.fieldLink RX5 50 "BuriedHalves$Mine" "depth" "[I", Cond.fieldLink RX5 18 "BuriedHalves$Seer" "told" "[I", Cond.methodLink RX5 30 yX3_passYear, Cond.instanceMethod yX3_passYear, Cond.selects RX3 yX3_passYear yX3_passYear, Cond.code yX3_passYear cX3_passYear 3 (some .boolean), Cond.fieldLink RX3 47 "BuriedHalves$Mine" "rises" "[I", Cond.methodLink RX3 75 yX3_riseOf, Cond.instanceMethod yX3_riseOf, Cond.selects RX3 yX3_riseOf yX3_riseOf, Cond.code yX3_riseOf cX3_riseOf 2 (some .int), Cond.methodLink RX3 71 Lib.Math.min.name, Cond.static Lib.Math.min.name, Cond.initialized "java/lang/Math", Cond.code Lib.Math.min.name Lib.Math.min.code 2 (some .int), Cond.methodLink RX3 50 yX3_isUp, Cond.instanceMethod yX3_isUp, Cond.selects RX3 yX3_isUp yX3_isUp, Cond.code yX3_isUp cX3_isUp 2 (some .boolean), Cond.methodLink RX3 65 yX3_ironRise, Cond.instanceMethod yX3_ironRise, Cond.selects RX3 yX3_ironRise yX3_ironRise, Cond.code yX3_ironRise cX3_ironRise 2 (some .int)]
def wsX5_thatFit_r3 : List Cond := [Cond.methodLink RX3 68 yX3_isCovered, Cond.instanceMethod yX3_isCovered, Cond.selects RX3 yX3_isCovered yX3_isCovered, Cond.code yX3_isCovered cX3_isCovered 3 (some .boolean), Cond.methodLink RX5 66 yX3_nearTo, Cond.instanceMethod yX3_nearTo, Cond.selects RX3 yX3_nearTo yX3_nearTo, Cond.code yX3_nearTo cX3_nearTo 4 (some .int), Cond.methodLink RX3 60 yX3_areTooNear, Cond.instanceMethod yX3_areTooNear, Cond.selects RX3 yX3_areTooNear yX3_areTooNear, Cond.code yX3_areTooNear cX3_areTooNear 3 (some .boolean), Cond.methodLink RX3 54 Lib.Math.abs.name, Cond.static Lib.Math.abs.name, Cond.code Lib.Math.abs.name Lib.Math.abs.code 1 (some .int)]
def wsX5_thatFit : List Cond := .code yX5_thatFit cX5_thatFit 9 (some .int) :: ((wsX5_thatFit_r1 ++ (wsX5_thatFit_r2 ++ wsX5_thatFit_r3)) ++ wsX50 ++ wsX30)
def wsX5_weightOfAll : List Cond := .code yX5_weightOfAll cX5_weightOfAll 4 (some .int) :: ([.fieldLink RX5 69 "BuriedHalves$Mine" "things" "I", .methodLink RX5 34 yX3_isUp, .instanceMethod yX3_isUp, .selects RX3 yX3_isUp yX3_isUp, .initialized RX3, .code yX3_isUp cX3_isUp 2 (some .boolean), .fieldLink RX3 35 "BuriedHalves$Mine" "depth" "[I"] ++ wsX30)
def wsX5_weightOf : List Cond := .code yX5_weightOf cX5_weightOf 6 (some .int) :: ([.fieldLink RX5 69 "BuriedHalves$Mine" "things" "I", .methodLink RX5 39 yX3_allUp, .instanceMethod yX3_allUp, .selects RX3 yX3_allUp yX3_allUp, .initialized RX3, .code yX3_allUp cX3_allUp 3 (some .int), .fieldLink RX3 15 "BuriedHalves$Mine" "things" "I", .methodLink RX3 50 yX3_isUp, .instanceMethod yX3_isUp, .selects RX3 yX3_isUp yX3_isUp, .code yX3_isUp cX3_isUp 2 (some .boolean), .fieldLink RX3 35 "BuriedHalves$Mine" "depth" "[I", .methodLink RX5 34 yX3_isUp] ++ wsX30)
def wsX5_letDig : List Cond := .code yX5_letDig cX5_letDig 3 none :: ([.fieldLink RX5 12 "BuriedHalves$Seer" "then" "LBuriedHalves$Mine;", .fieldLink RX5 69 "BuriedHalves$Mine" "things" "I", .fieldLink RX5 50 "BuriedHalves$Mine" "depth" "[I"] ++ wsX50 ++ wsX30)
def wsX5_weightOfNoneUp_r1 : List Cond := [Cond.fieldLink RX5 69 "BuriedHalves$Mine" "things" "I", Cond.fieldLink RX5 12 "BuriedHalves$Seer" "then" "LBuriedHalves$Mine;", Cond.methodLink RX5 39 yX3_allUp, Cond.instanceMethod yX3_allUp, Cond.selects RX3 yX3_allUp yX3_allUp, Cond.initialized RX3, Cond.code yX3_allUp cX3_allUp 3 (some .int), Cond.fieldLink RX3 15 "BuriedHalves$Mine" "things" "I", Cond.methodLink RX3 50 yX3_isUp, Cond.instanceMethod yX3_isUp, Cond.selects RX3 yX3_isUp yX3_isUp, Cond.code yX3_isUp cX3_isUp 2 (some .boolean), Cond.fieldLink RX3 35 "BuriedHalves$Mine" "depth" "[I", Cond.methodLink RX5 73 yX5_weightOf, Cond.instanceMethod yX5_weightOf, Cond.selects RX5 yX5_weightOf yX5_weightOf, Cond.initialized RX5, Cond.code yX5_weightOf cX5_weightOf 6 (some .int), Cond.methodLink RX5 34 yX3_isUp, Cond.methodLink RX5 22 yX3_become, Cond.instanceMethod yX3_become, Cond.selects RX3 yX3_become yX3_become, Cond.code yX3_become cX3_become 3 none, Cond.fieldLink RX3 9 "BuriedHalves$Mine" "isThere" "Z"]
def wsX5_weightOfNoneUp_r2 : List Cond := [Cond.fieldLink RX3 19 "BuriedHalves$Mine" "men" "I", Cond.fieldLink RX3 22 "BuriedHalves$Mine" "near" "I", Cond.fieldLink RX3 25 "BuriedHalves$Mine" "year" "I", Cond.fieldLink RX3 28 "BuriedHalves$Mine" "dug" "I", Cond.fieldLink RX3 31 "BuriedHalves$Mine" "sort" "[I", Cond.fieldLink RX3 38 "BuriedHalves$Mine" "place" "[I", Cond.fieldLink RX3 41 "BuriedHalves$Mine" "slow" "[I", Cond.fieldLink RX3 44 "BuriedHalves$Mine" "known" "[I", Cond.methodLink RX5 77 yX5_letDig, Cond.instanceMethod yX5_letDig, Cond.selects RX5 yX5_letDig yX5_letDig, Cond.code yX5_letDig cX5_letDig 3 none, Cond.fieldLink RX5 50 "BuriedHalves$Mine" "depth" "[I", Cond.methodLink RX5 26 yX5_passYears, Cond.instanceMethod yX5_passYears, Cond.selects RX5 yX5_passYears yX5_passYears, Cond.code yX5_passYears cX5_passYears 3 none, Cond.methodLink RX5 30 yX3_passYear, Cond.instanceMethod yX3_passYear, Cond.selects RX3 yX3_passYear yX3_passYear, Cond.code yX3_passYear cX3_passYear 3 (some .boolean), Cond.fieldLink RX3 47 "BuriedHalves$Mine" "rises" "[I", Cond.methodLink RX3 75 yX3_riseOf, Cond.instanceMethod yX3_riseOf]
def wsX5_weightOfNoneUp_r3 : List Cond := [Cond.selects RX3 yX3_riseOf yX3_riseOf, Cond.code yX3_riseOf cX3_riseOf 2 (some .int), Cond.methodLink RX3 71 Lib.Math.min.name, Cond.static Lib.Math.min.name, Cond.initialized "java/lang/Math", Cond.code Lib.Math.min.name Lib.Math.min.code 2 (some .int), Cond.methodLink RX3 65 yX3_ironRise, Cond.instanceMethod yX3_ironRise, Cond.selects RX3 yX3_ironRise yX3_ironRise, Cond.code yX3_ironRise cX3_ironRise 2 (some .int), Cond.methodLink RX3 68 yX3_isCovered, Cond.instanceMethod yX3_isCovered, Cond.selects RX3 yX3_isCovered yX3_isCovered, Cond.code yX3_isCovered cX3_isCovered 3 (some .boolean)]
def wsX5_weightOfNoneUp : List Cond := .code yX5_weightOfNoneUp cX5_weightOfNoneUp 8 (some .int) :: ((wsX5_weightOfNoneUp_r1 ++ (wsX5_weightOfNoneUp_r2 ++ wsX5_weightOfNoneUp_r3)) ++ wsX30 ++ wsX50)
def wsX6_init : List Cond := .code yX6_init cX6_init 1 none :: ([.methodLink RX6 3 objectInit, .instanceMethod objectInit, .code objectInit ⟨#[0xb1]⟩ 1 none, .arrayClass .int, .fieldLink RX6 9 "BuriedHalves$Text" "bytes" "[I", .fieldLink RX6 15 "BuriedHalves$Text" "length" "I", .fieldLink RX6 19 "BuriedHalves$Text" "at" "I", .fieldLink RX6 22 "BuriedHalves$Text" "fault" "I"] ++ wsX60)
def wsX6_append : List Cond := .code yX6_append cX6_append 2 none :: ([.fieldLink RX6 15 "BuriedHalves$Text" "length" "I", .fieldLink RX6 9 "BuriedHalves$Text" "bytes" "[I"] ++ wsX60)
def wsX6_byteAt : List Cond := .code yX6_byteAt cX6_byteAt 2 (some .int) :: ([.fieldLink RX6 15 "BuriedHalves$Text" "length" "I", .fieldLink RX6 9 "BuriedHalves$Text" "bytes" "[I"] ++ wsX60)
def wsX6_next : List Cond := .code yX6_next cX6_next 1 (some .int) :: ([.fieldLink RX6 19 "BuriedHalves$Text" "at" "I", .methodLink RX6 87 yX6_byteAt, .instanceMethod yX6_byteAt, .selects RX6 yX6_byteAt yX6_byteAt, .initialized RX6, .code yX6_byteAt cX6_byteAt 2 (some .int), .fieldLink RX6 15 "BuriedHalves$Text" "length" "I", .fieldLink RX6 9 "BuriedHalves$Text" "bytes" "[I"] ++ wsX60)
def wsX6_fail : List Cond := .code yX6_fail cX6_fail 2 none :: ([.fieldLink RX6 22 "BuriedHalves$Text" "fault" "I"] ++ wsX60)
def wsX6_pass : List Cond := .code yX6_pass cX6_pass 2 none :: ([.fieldLink RX6 22 "BuriedHalves$Text" "fault" "I", .fieldLink RX6 19 "BuriedHalves$Text" "at" "I", .methodLink RX6 61 yX6_next, .instanceMethod yX6_next, .selects RX6 yX6_next yX6_next, .initialized RX6, .code yX6_next cX6_next 1 (some .int), .methodLink RX6 87 yX6_byteAt, .instanceMethod yX6_byteAt, .selects RX6 yX6_byteAt yX6_byteAt, .code yX6_byteAt cX6_byteAt 2 (some .int), .fieldLink RX6 15 "BuriedHalves$Text" "length" "I", .fieldLink RX6 9 "BuriedHalves$Text" "bytes" "[I", .methodLink RX6 69 yX6_fail, .instanceMethod yX6_fail, .selects RX6 yX6_fail yX6_fail, .code yX6_fail cX6_fail 2 none] ++ wsX60)

section
-- ===== PART A: goes FIRST, ahead of the names: the tables' words, and 'selects' of the private methods out of them =====
/-- a private method of a class that the tables say can be made, by its rows of tables_1 -/
def lw_okq (q : MethodName × Nat) : Prop := (q.1.cls ≠ "java/lang/invoke/MethodHandle" ∧ q.1.cls ≠ "java/lang/invoke/VarHandle") ∧ Cond.instantiable q.1.cls q.2 ∈ tables_1 ∧ Cond.privateMethod q.1 ∈ tables_1 ∧ Cond.instanceMethod q.1 ∈ tables_1
theorem lw_p0 : lw_okq (⟨"BuriedHalves", "found", "(I)I"⟩, 11) := ⟨⟨by decide +kernel, by decide +kernel⟩, List.mem_of_getElem? (i := 14) (by decide +kernel), List.mem_of_getElem? (i := 261) (by decide +kernel), List.mem_of_getElem? (i := 262) (by decide +kernel)⟩
theorem lw_p1 : lw_okq (⟨"BuriedHalves", "fine", "(I)I"⟩, 11) := ⟨⟨by decide +kernel, by decide +kernel⟩, List.mem_of_getElem? (i := 14) (by decide +kernel), List.mem_of_getElem? (i := 270) (by decide +kernel), List.mem_of_getElem? (i := 271) (by decide +kernel)⟩
theorem lw_p2 : lw_okq (⟨"BuriedHalves$Text", "readLaw", "(LBuriedHalves$Mine;)V"⟩, 4) := ⟨⟨by decide +kernel, by decide +kernel⟩, List.mem_of_getElem? (i := 44) (by decide +kernel), List.mem_of_getElem? (i := 318) (by decide +kernel), List.mem_of_getElem? (i := 319) (by decide +kernel)⟩
theorem lw_p3 : lw_okq (⟨"BuriedHalves$Text", "pass", "(I)V"⟩, 4) := ⟨⟨by decide +kernel, by decide +kernel⟩, List.mem_of_getElem? (i := 44) (by decide +kernel), List.mem_of_getElem? (i := 322) (by decide +kernel), List.mem_of_getElem? (i := 323) (by decide +kernel)⟩
theorem lw_p4 : lw_okq (⟨"BuriedHalves$Text", "next", "()I"⟩, 4) := ⟨⟨by decide +kernel, by decide +kernel⟩, List.mem_of_getElem? (i := 44) (by decide +kernel), List.mem_of_getElem? (i := 326) (by decide +kernel), List.mem_of_getElem? (i := 327) (by decide +kernel)⟩
theorem lw_p5 : lw_okq (⟨"BuriedHalves$Text", "byteAt", "(I)I"⟩, 4) := ⟨⟨by decide +kernel, by decide +kernel⟩, List.mem_of_getElem? (i := 44) (by decide +kernel), List.mem_of_getElem? (i := 330) (by decide +kernel), List.mem_of_getElem? (i := 331) (by decide +kernel)⟩
theorem lw_p6 : lw_okq (⟨"BuriedHalves$Text", "fail", "(I)V"⟩, 4) := ⟨⟨by decide +kernel, by decide +kernel⟩, List.mem_of_getElem? (i := 44) (by decide +kernel), List.mem_of_getElem? (i := 334) (by decide +kernel), List.mem_of_getElem? (i := 335) (by decide +kernel)⟩
theorem lw_p7 : lw_okq (⟨"BuriedHalves$Text", "number", "(II)I"⟩, 4) := ⟨⟨by decide +kernel, by decide +kernel⟩, List.mem_of_getElem? (i := 44) (by decide +kernel), List.mem_of_getElem? (i := 338) (by decide +kernel), List.mem_of_getElem? (i := 339) (by decide +kernel)⟩
theorem lw_p8 : lw_okq (⟨"BuriedHalves$Text", "isFigure", "(I)Z"⟩, 4) := ⟨⟨by decide +kernel, by decide +kernel⟩, List.mem_of_getElem? (i := 44) (by decide +kernel), List.mem_of_getElem? (i := 342) (by decide +kernel), List.mem_of_getElem? (i := 343) (by decide +kernel)⟩
theorem lw_p9 : lw_okq (⟨"BuriedHalves$Text", "readThing", "(LBuriedHalves$Mine;)V"⟩, 4) := ⟨⟨by decide +kernel, by decide +kernel⟩, List.mem_of_getElem? (i := 44) (by decide +kernel), List.mem_of_getElem? (i := 346) (by decide +kernel), List.mem_of_getElem? (i := 347) (by decide +kernel)⟩
theorem lw_p10 : lw_okq (⟨"BuriedHalves$Mine", "ironRise", "(I)I"⟩, 12) := ⟨⟨by decide +kernel, by decide +kernel⟩, List.mem_of_getElem? (i := 65) (by decide +kernel), List.mem_of_getElem? (i := 391) (by decide +kernel), List.mem_of_getElem? (i := 392) (by decide +kernel)⟩
theorem lw_p11 : lw_okq (⟨"BuriedHalves$Mine", "isCovered", "(I)Z"⟩, 12) := ⟨⟨by decide +kernel, by decide +kernel⟩, List.mem_of_getElem? (i := 65) (by decide +kernel), List.mem_of_getElem? (i := 395) (by decide +kernel), List.mem_of_getElem? (i := 396) (by decide +kernel)⟩
theorem lw_p12 : lw_okq (⟨"BuriedHalves", "isThing", "(I)Z"⟩, 11) := ⟨⟨by decide +kernel, by decide +kernel⟩, List.mem_of_getElem? (i := 14) (by decide +kernel), List.mem_of_getElem? (i := 408) (by decide +kernel), List.mem_of_getElem? (i := 409) (by decide +kernel)⟩
theorem lw_p13 : lw_okq (⟨"BuriedHalves", "isMan", "(I)Z"⟩, 11) := ⟨⟨by decide +kernel, by decide +kernel⟩, List.mem_of_getElem? (i := 14) (by decide +kernel), List.mem_of_getElem? (i := 416) (by decide +kernel), List.mem_of_getElem? (i := 417) (by decide +kernel)⟩
theorem lw_p14 : lw_okq (⟨"BuriedHalves$Seer", "passYears", "(I)V"⟩, 2) := ⟨⟨by decide +kernel, by decide +kernel⟩, List.mem_of_getElem? (i := 161) (by decide +kernel), List.mem_of_getElem? (i := 464) (by decide +kernel), List.mem_of_getElem? (i := 465) (by decide +kernel)⟩
theorem lw_p15 : lw_okq (⟨"BuriedHalves$Layer", "oneComesUpAnywhere", "(I)Z"⟩, 5) := ⟨⟨by decide +kernel, by decide +kernel⟩, List.mem_of_getElem? (i := 177) (by decide +kernel), List.mem_of_getElem? (i := 525) (by decide +kernel), List.mem_of_getElem? (i := 526) (by decide +kernel)⟩
def lw_privs_1 : List (MethodName × Nat) := [(⟨"BuriedHalves", "found", "(I)I"⟩, 11), (⟨"BuriedHalves", "fine", "(I)I"⟩, 11), (⟨"BuriedHalves$Text", "readLaw", "(LBuriedHalves$Mine;)V"⟩, 4), (⟨"BuriedHalves$Text", "pass", "(I)V"⟩, 4), (⟨"BuriedHalves$Text", "next", "()I"⟩, 4), (⟨"BuriedHalves$Text", "byteAt", "(I)I"⟩, 4), (⟨"BuriedHalves$Text", "fail", "(I)V"⟩, 4), (⟨"BuriedHalves$Text", "number", "(II)I"⟩, 4), (⟨"BuriedHalves$Text", "isFigure", "(I)Z"⟩, 4), (⟨"BuriedHalves$Text", "readThing", "(LBuriedHalves$Mine;)V"⟩, 4), (⟨"BuriedHalves$Mine", "ironRise", "(I)I"⟩, 12), (⟨"BuriedHalves$Mine", "isCovered", "(I)Z"⟩, 12), (⟨"BuriedHalves", "isThing", "(I)Z"⟩, 11), (⟨"BuriedHalves", "isMan", "(I)Z"⟩, 11), (⟨"BuriedHalves$Seer", "passYears", "(I)V"⟩, 2), (⟨"BuriedHalves$Layer", "oneComesUpAnywhere", "(I)Z"⟩, 5)]
theorem lw_r1 : ∀ q ∈ lw_privs_1, lw_okq q := List.forall_mem_cons.mpr ⟨lw_p0, List.forall_mem_cons.mpr ⟨lw_p1, List.forall_mem_cons.mpr ⟨lw_p2, List.forall_mem_cons.mpr ⟨lw_p3, List.forall_mem_cons.mpr ⟨lw_p4, List.forall_mem_cons.mpr ⟨lw_p5, List.forall_mem_cons.mpr ⟨lw_p6, List.forall_mem_cons.mpr ⟨lw_p7, List.forall_mem_cons.mpr ⟨lw_p8, List.forall_mem_cons.mpr ⟨lw_p9, List.forall_mem_cons.mpr ⟨lw_p10, List.forall_mem_cons.mpr ⟨lw_p11, List.forall_mem_cons.mpr ⟨lw_p12, List.forall_mem_cons.mpr ⟨lw_p13, List.forall_mem_cons.mpr ⟨lw_p14, List.forall_mem_cons.mpr ⟨lw_p15, fun _ h => absurd h List.not_mem_nil⟩⟩⟩⟩⟩⟩⟩⟩⟩⟩⟩⟩⟩⟩⟩⟩
theorem lw_p16 : lw_okq (⟨"BuriedHalves$Layer", "findMoving", "(II)Z"⟩, 5) := ⟨⟨by decide +kernel, by decide +kernel⟩, List.mem_of_getElem? (i := 177) (by decide +kernel), List.mem_of_getElem? (i := 531) (by decide +kernel), List.mem_of_getElem? (i := 532) (by decide +kernel)⟩
theorem lw_p17 : lw_okq (⟨"BuriedHalves$Layer", "countMoved", "(I)I"⟩, 5) := ⟨⟨by decide +kernel, by decide +kernel⟩, List.mem_of_getElem? (i := 177) (by decide +kernel), List.mem_of_getElem? (i := 535) (by decide +kernel), List.mem_of_getElem? (i := 536) (by decide +kernel)⟩
theorem lw_p18 : lw_okq (⟨"BuriedHalves$Layer", "holds", "(I)Z"⟩, 5) := ⟨⟨by decide +kernel, by decide +kernel⟩, List.mem_of_getElem? (i := 177) (by decide +kernel), List.mem_of_getElem? (i := 539) (by decide +kernel), List.mem_of_getElem? (i := 540) (by decide +kernel)⟩
theorem lw_p19 : lw_okq (⟨"BuriedHalves$Mine", "allKnownTo", "(I)Z"⟩, 12) := ⟨⟨by decide +kernel, by decide +kernel⟩, List.mem_of_getElem? (i := 65) (by decide +kernel), List.mem_of_getElem? (i := 561) (by decide +kernel), List.mem_of_getElem? (i := 562) (by decide +kernel)⟩
theorem lw_p20 : lw_okq (⟨"BuriedHalves$Seer", "goesAsTold", "(III)Z"⟩, 2) := ⟨⟨by decide +kernel, by decide +kernel⟩, List.mem_of_getElem? (i := 161) (by decide +kernel), List.mem_of_getElem? (i := 596) (by decide +kernel), List.mem_of_getElem? (i := 597) (by decide +kernel)⟩
theorem lw_p21 : lw_okq (⟨"BuriedHalves$Seer", "weightOf", "(LBuriedHalves$Mine;II)I"⟩, 2) := ⟨⟨by decide +kernel, by decide +kernel⟩, List.mem_of_getElem? (i := 161) (by decide +kernel), List.mem_of_getElem? (i := 609) (by decide +kernel), List.mem_of_getElem? (i := 610) (by decide +kernel)⟩
theorem lw_p22 : lw_okq (⟨"BuriedHalves$Seer", "letDig", "(I)V"⟩, 2) := ⟨⟨by decide +kernel, by decide +kernel⟩, List.mem_of_getElem? (i := 161) (by decide +kernel), List.mem_of_getElem? (i := 613) (by decide +kernel), List.mem_of_getElem? (i := 614) (by decide +kernel)⟩
theorem lw_p23 : lw_okq (⟨"BuriedHalves$Asker", "answer", "(LBuriedHalves$Mine;III)I"⟩, 2) := ⟨⟨by decide +kernel, by decide +kernel⟩, List.mem_of_getElem? (i := 204) (by decide +kernel), List.mem_of_getElem? (i := 657) (by decide +kernel), List.mem_of_getElem? (i := 658) (by decide +kernel)⟩
theorem lw_p24 : lw_okq (⟨"BuriedHalves$Asker", "give", "(LBuriedHalves$Mine;III)I"⟩, 2) := ⟨⟨by decide +kernel, by decide +kernel⟩, List.mem_of_getElem? (i := 204) (by decide +kernel), List.mem_of_getElem? (i := 671) (by decide +kernel), List.mem_of_getElem? (i := 672) (by decide +kernel)⟩
theorem lw_p25 : lw_okq (⟨"BuriedHalves$Asker", "note", "(I)V"⟩, 2) := ⟨⟨by decide +kernel, by decide +kernel⟩, List.mem_of_getElem? (i := 204) (by decide +kernel), List.mem_of_getElem? (i := 675) (by decide +kernel), List.mem_of_getElem? (i := 676) (by decide +kernel)⟩
theorem lw_p26 : lw_okq (⟨"BuriedHalvesModel", "found", "(I)I"⟩, 24) := ⟨⟨by decide +kernel, by decide +kernel⟩, List.mem_of_getElem? (i := 696) (by decide +kernel), List.mem_of_getElem? (i := 789) (by decide +kernel), List.mem_of_getElem? (i := 790) (by decide +kernel)⟩
theorem lw_p27 : lw_okq (⟨"BuriedHalvesModel", "well", "(I)I"⟩, 24) := ⟨⟨by decide +kernel, by decide +kernel⟩, List.mem_of_getElem? (i := 696) (by decide +kernel), List.mem_of_getElem? (i := 794) (by decide +kernel), List.mem_of_getElem? (i := 795) (by decide +kernel)⟩
theorem lw_p28 : lw_okq (⟨"BuriedHalvesModel", "reads", "()Z"⟩, 24) := ⟨⟨by decide +kernel, by decide +kernel⟩, List.mem_of_getElem? (i := 696) (by decide +kernel), List.mem_of_getElem? (i := 820) (by decide +kernel), List.mem_of_getElem? (i := 821) (by decide +kernel)⟩
theorem lw_p29 : lw_okq (⟨"BuriedHalvesModel", "step", "()V"⟩, 24) := ⟨⟨by decide +kernel, by decide +kernel⟩, List.mem_of_getElem? (i := 696) (by decide +kernel), List.mem_of_getElem? (i := 824) (by decide +kernel), List.mem_of_getElem? (i := 825) (by decide +kernel)⟩
theorem lw_p30 : lw_okq (⟨"BuriedHalvesModel", "here", "()I"⟩, 24) := ⟨⟨by decide +kernel, by decide +kernel⟩, List.mem_of_getElem? (i := 696) (by decide +kernel), List.mem_of_getElem? (i := 828) (by decide +kernel), List.mem_of_getElem? (i := 829) (by decide +kernel)⟩
theorem lw_p31 : lw_okq (⟨"BuriedHalvesModel", "fails", "(I)Z"⟩, 24) := ⟨⟨by decide +kernel, by decide +kernel⟩, List.mem_of_getElem? (i := 696) (by decide +kernel), List.mem_of_getElem? (i := 836) (by decide +kernel), List.mem_of_getElem? (i := 837) (by decide +kernel)⟩
def lw_privs_2 : List (MethodName × Nat) := [(⟨"BuriedHalves$Layer", "findMoving", "(II)Z"⟩, 5), (⟨"BuriedHalves$Layer", "countMoved", "(I)I"⟩, 5), (⟨"BuriedHalves$Layer", "holds", "(I)Z"⟩, 5), (⟨"BuriedHalves$Mine", "allKnownTo", "(I)Z"⟩, 12), (⟨"BuriedHalves$Seer", "goesAsTold", "(III)Z"⟩, 2), (⟨"BuriedHalves$Seer", "weightOf", "(LBuriedHalves$Mine;II)I"⟩, 2), (⟨"BuriedHalves$Seer", "letDig", "(I)V"⟩, 2), (⟨"BuriedHalves$Asker", "answer", "(LBuriedHalves$Mine;III)I"⟩, 2), (⟨"BuriedHalves$Asker", "give", "(LBuriedHalves$Mine;III)I"⟩, 2), (⟨"BuriedHalves$Asker", "note", "(I)V"⟩, 2), (⟨"BuriedHalvesModel", "found", "(I)I"⟩, 24), (⟨"BuriedHalvesModel", "well", "(I)I"⟩, 24), (⟨"BuriedHalvesModel", "reads", "()Z"⟩, 24), (⟨"BuriedHalvesModel", "step", "()V"⟩, 24), (⟨"BuriedHalvesModel", "here", "()I"⟩, 24), (⟨"BuriedHalvesModel", "fails", "(I)Z"⟩, 24)]
theorem lw_r2 : ∀ q ∈ lw_privs_2, lw_okq q := List.forall_mem_cons.mpr ⟨lw_p16, List.forall_mem_cons.mpr ⟨lw_p17, List.forall_mem_cons.mpr ⟨lw_p18, List.forall_mem_cons.mpr ⟨lw_p19, List.forall_mem_cons.mpr ⟨lw_p20, List.forall_mem_cons.mpr ⟨lw_p21, List.forall_mem_cons.mpr ⟨lw_p22, List.forall_mem_cons.mpr ⟨lw_p23, List.forall_mem_cons.mpr ⟨lw_p24, List.forall_mem_cons.mpr ⟨lw_p25, List.forall_mem_cons.mpr ⟨lw_p26, List.forall_mem_cons.mpr ⟨lw_p27, List.forall_mem_cons.mpr ⟨lw_p28, List.forall_mem_cons.mpr ⟨lw_p29, List.forall_mem_cons.mpr ⟨lw_p30, List.forall_mem_cons.mpr ⟨lw_p31, fun _ h => absurd h List.not_mem_nil⟩⟩⟩⟩⟩⟩⟩⟩⟩⟩⟩⟩⟩⟩⟩⟩
theorem lw_p32 : lw_okq (⟨"BuriedHalvesModel", "number", "(IIII)Z"⟩, 24) := ⟨⟨by decide +kernel, by decide +kernel⟩, List.mem_of_getElem? (i := 696) (by decide +kernel), List.mem_of_getElem? (i := 840) (by decide +kernel), List.mem_of_getElem? (i := 841) (by decide +kernel)⟩
theorem lw_p33 : lw_okq (⟨"BuriedHalvesModel", "readsThing", "()Z"⟩, 24) := ⟨⟨by decide +kernel, by decide +kernel⟩, List.mem_of_getElem? (i := 696) (by decide +kernel), List.mem_of_getElem? (i := 844) (by decide +kernel), List.mem_of_getElem? (i := 845) (by decide +kernel)⟩
theorem lw_p34 : lw_okq (⟨"BuriedHalvesModel", "isMine", "()Z"⟩, 24) := ⟨⟨by decide +kernel, by decide +kernel⟩, List.mem_of_getElem? (i := 696) (by decide +kernel), List.mem_of_getElem? (i := 863) (by decide +kernel), List.mem_of_getElem? (i := 864) (by decide +kernel)⟩
theorem lw_p35 : lw_okq (⟨"BuriedHalvesModel", "remember", "()V"⟩, 24) := ⟨⟨by decide +kernel, by decide +kernel⟩, List.mem_of_getElem? (i := 696) (by decide +kernel), List.mem_of_getElem? (i := 869) (by decide +kernel), List.mem_of_getElem? (i := 870) (by decide +kernel)⟩
theorem lw_p36 : lw_okq (⟨"BuriedHalvesModel", "yearGoes", "([I)V"⟩, 24) := ⟨⟨by decide +kernel, by decide +kernel⟩, List.mem_of_getElem? (i := 696) (by decide +kernel), List.mem_of_getElem? (i := 873) (by decide +kernel), List.mem_of_getElem? (i := 874) (by decide +kernel)⟩
theorem lw_p37 : lw_okq (⟨"BuriedHalvesModel", "isThing", "(I)Z"⟩, 24) := ⟨⟨by decide +kernel, by decide +kernel⟩, List.mem_of_getElem? (i := 696) (by decide +kernel), List.mem_of_getElem? (i := 890) (by decide +kernel), List.mem_of_getElem? (i := 891) (by decide +kernel)⟩
theorem lw_p38 : lw_okq (⟨"BuriedHalvesModel", "layAside", "()V"⟩, 24) := ⟨⟨by decide +kernel, by decide +kernel⟩, List.mem_of_getElem? (i := 696) (by decide +kernel), List.mem_of_getElem? (i := 935) (by decide +kernel), List.mem_of_getElem? (i := 936) (by decide +kernel)⟩
theorem lw_p39 : lw_okq (⟨"BuriedHalvesModel", "go", "(I)V"⟩, 24) := ⟨⟨by decide +kernel, by decide +kernel⟩, List.mem_of_getElem? (i := 696) (by decide +kernel), List.mem_of_getElem? (i := 939) (by decide +kernel), List.mem_of_getElem? (i := 940) (by decide +kernel)⟩
theorem lw_p40 : lw_okq (⟨"BuriedHalvesModel", "layPlaces", "(I)I"⟩, 24) := ⟨⟨by decide +kernel, by decide +kernel⟩, List.mem_of_getElem? (i := 696) (by decide +kernel), List.mem_of_getElem? (i := 970) (by decide +kernel), List.mem_of_getElem? (i := 971) (by decide +kernel)⟩
theorem lw_p41 : lw_okq (⟨"BuriedHalvesModel", "rests", "(I)Z"⟩, 24) := ⟨⟨by decide +kernel, by decide +kernel⟩, List.mem_of_getElem? (i := 696) (by decide +kernel), List.mem_of_getElem? (i := 974) (by decide +kernel), List.mem_of_getElem? (i := 975) (by decide +kernel)⟩
theorem lw_p42 : lw_okq (⟨"BuriedHalvesModel", "comes", "(IIIZ)Z"⟩, 24) := ⟨⟨by decide +kernel, by decide +kernel⟩, List.mem_of_getElem? (i := 696) (by decide +kernel), List.mem_of_getElem? (i := 998) (by decide +kernel), List.mem_of_getElem? (i := 999) (by decide +kernel)⟩
theorem lw_p43 : lw_okq (⟨"BuriedHalvesModel", "mark", "(I)I"⟩, 24) := ⟨⟨by decide +kernel, by decide +kernel⟩, List.mem_of_getElem? (i := 696) (by decide +kernel), List.mem_of_getElem? (i := 1031) (by decide +kernel), List.mem_of_getElem? (i := 1032) (by decide +kernel)⟩
theorem lw_p44 : lw_okq (⟨"BuriedHalvesModel", "leave", "(J)V"⟩, 24) := ⟨⟨by decide +kernel, by decide +kernel⟩, List.mem_of_getElem? (i := 696) (by decide +kernel), List.mem_of_getElem? (i := 1038) (by decide +kernel), List.mem_of_getElem? (i := 1039) (by decide +kernel)⟩
theorem lw_p45 : lw_okq (⟨"BuriedHalvesModel", "sizeOf", "(I)I"⟩, 24) := ⟨⟨by decide +kernel, by decide +kernel⟩, List.mem_of_getElem? (i := 696) (by decide +kernel), List.mem_of_getElem? (i := 1045) (by decide +kernel), List.mem_of_getElem? (i := 1046) (by decide +kernel)⟩
def lw_privs_3 : List (MethodName × Nat) := [(⟨"BuriedHalvesModel", "number", "(IIII)Z"⟩, 24), (⟨"BuriedHalvesModel", "readsThing", "()Z"⟩, 24), (⟨"BuriedHalvesModel", "isMine", "()Z"⟩, 24), (⟨"BuriedHalvesModel", "remember", "()V"⟩, 24), (⟨"BuriedHalvesModel", "yearGoes", "([I)V"⟩, 24), (⟨"BuriedHalvesModel", "isThing", "(I)Z"⟩, 24), (⟨"BuriedHalvesModel", "layAside", "()V"⟩, 24), (⟨"BuriedHalvesModel", "go", "(I)V"⟩, 24), (⟨"BuriedHalvesModel", "layPlaces", "(I)I"⟩, 24), (⟨"BuriedHalvesModel", "rests", "(I)Z"⟩, 24), (⟨"BuriedHalvesModel", "comes", "(IIIZ)Z"⟩, 24), (⟨"BuriedHalvesModel", "mark", "(I)I"⟩, 24), (⟨"BuriedHalvesModel", "leave", "(J)V"⟩, 24), (⟨"BuriedHalvesModel", "sizeOf", "(I)I"⟩, 24)]
theorem lw_r3 : ∀ q ∈ lw_privs_3, lw_okq q := List.forall_mem_cons.mpr ⟨lw_p32, List.forall_mem_cons.mpr ⟨lw_p33, List.forall_mem_cons.mpr ⟨lw_p34, List.forall_mem_cons.mpr ⟨lw_p35, List.forall_mem_cons.mpr ⟨lw_p36, List.forall_mem_cons.mpr ⟨lw_p37, List.forall_mem_cons.mpr ⟨lw_p38, List.forall_mem_cons.mpr ⟨lw_p39, List.forall_mem_cons.mpr ⟨lw_p40, List.forall_mem_cons.mpr ⟨lw_p41, List.forall_mem_cons.mpr ⟨lw_p42, List.forall_mem_cons.mpr ⟨lw_p43, List.forall_mem_cons.mpr ⟨lw_p44, List.forall_mem_cons.mpr ⟨lw_p45, fun _ h => absurd h List.not_mem_nil⟩⟩⟩⟩⟩⟩⟩⟩⟩⟩⟩⟩⟩⟩
def lw_privs : List (MethodName × Nat) := lw_privs_1 ++ (lw_privs_2 ++ (lw_privs_3))
def lw_tbl : List Cond := k2_sels lw_privs ++ tables_1
theorem lw_privs_ok : ∀ q ∈ lw_privs, lw_okq q := by
  show ∀ q ∈ lw_privs_1 ++ (lw_privs_2 ++ (lw_privs_3)), lw_okq q
  exact List.forall_mem_append.mpr ⟨lw_r1, List.forall_mem_append.mpr ⟨lw_r2, lw_r3⟩⟩
-- ===== end of PART A; then your names; then what follows =====
/-! ===== BEGIN words of one list among another's, by their places ===== -/
theorem goodIn_r {big : List Cond} (ws : List Cond) (ps : List Nat) (hp : ws = ps.filterMap (fun i => big[i]?)) (h : ws.all goodWord = true) : GoodIn big ws := by
  intro w hw
  have h1 := List.all_eq_true.mp h w hw
  rw [hp] at hw
  obtain ⟨i, -, hi⟩ := List.mem_filterMap.mp hw
  have hm : w ∈ big := by first | exact List.mem_of_getElem? hi | exact List.getElem?_mem hi
  exact ⟨hm, good_of_word h1⟩
theorem goodIn_app {big a b : List Cond} (ha : GoodIn big a) (hb : GoodIn big b) : GoodIn big (a ++ b) := fun w h => (List.mem_append.mp h).elim (ha w) (hb w)
theorem goodIn_ca {big a b : List Cond} {c : Cond} (ha : GoodIn big (c :: a)) (hb : GoodIn big b) : GoodIn big (c :: (a ++ b)) := fun w h => (List.mem_cons.mp h).elim (fun e => ha w (List.mem_cons.mpr (Or.inl e))) (fun h => (List.mem_append.mp h).elim (fun h => ha w (List.mem_cons.mpr (Or.inr h))) (hb w))
theorem goodIn_sub {big ws : List Cond} (hm : ∀ w ∈ ws, w ∈ big) (h : ws.all goodWord = true) : GoodIn big ws := fun w hw => ⟨hm w hw, good_of_word (List.all_eq_true.mp h w hw)⟩
/-! ===== END ===== -/
/-! ===== BEGIN printed: names, fields, word lists, decode rows ===== -/
def RX0 : String := "BuriedHalves$Acts"
def TX0 : u_T := fun k => match k with
  | 0 => ("BuriedHalves$Acts", "kept", "[LBuriedHalves$Mine;", true)
  | 1 => ("BuriedHalves$Acts", "top", "I", false)
  | _ => ("BuriedHalves$Acts", "size", "I", false)
def tyX0 : Nat → FieldType := fun k => match k with
  | 0 => .array (.object "BuriedHalves$Mine")
  | 1 => .int
  | _ => .int
abbrev wsX00 : List Cond := u_ws RX0 TX0 3
theorem nmX0 : ∀ a, a < 3 → ∀ b, b < 3 → a ≠ b → (TX0 a).2.1 ≠ (TX0 b).2.1 := by decide +kernel
theorem tyX0_ok : ∀ k, k < 3 → parseFieldDescriptor (TX0 k).2.2.1 = some (tyX0 k) := by decide +kernel
abbrev cX0_init : ByteArray := prog_2_method_1_code
def yX0_init : MethodName := ⟨RX0, "<init>", "()V"⟩
abbrev cX0_forgetAll : ByteArray := prog_2_method_2_code
def yX0_forgetAll : MethodName := ⟨RX0, "forgetAll", "()V"⟩
abbrev cX0_keep : ByteArray := prog_2_method_3_code
def yX0_keep : MethodName := ⟨RX0, "keep", "(LBuriedHalves$Mine;)V"⟩
abbrev cX0_takeBack : ByteArray := prog_2_method_4_code
def yX0_takeBack : MethodName := ⟨RX0, "takeBack", "(LBuriedHalves$Mine;)V"⟩
def RX1 : String := "BuriedHalves$Asker"
def TX1 : u_T := fun k => match k with
  | 0 => ("BuriedHalves$Asker", "numbers", "[I", true)
  | _ => ("BuriedHalves$Asker", "traced", "I", false)
def tyX1 : Nat → FieldType := fun k => match k with
  | 0 => .array .int
  | _ => .int
abbrev wsX10 : List Cond := u_ws RX1 TX1 2
theorem nmX1 : ∀ a, a < 2 → ∀ b, b < 2 → a ≠ b → (TX1 a).2.1 ≠ (TX1 b).2.1 := by decide +kernel
theorem tyX1_ok : ∀ k, k < 2 → parseFieldDescriptor (TX1 k).2.2.1 = some (tyX1 k) := by decide +kernel
abbrev cX1_init : ByteArray := prog_3_method_1_code
def yX1_init : MethodName := ⟨RX1, "<init>", "()V"⟩
abbrev cX1_begin : ByteArray := prog_3_method_2_code
def yX1_begin : MethodName := ⟨RX1, "begin", "(LBuriedHalves$Mine;II)I"⟩
abbrev cX1_answer : ByteArray := prog_3_method_3_code
def yX1_answer : MethodName := ⟨RX1, "answer", "(LBuriedHalves$Mine;III)I"⟩
abbrev cX1_bodyFor : ByteArray := prog_3_method_4_code
def yX1_bodyFor : MethodName := ⟨RX1, "bodyFor", "(II)I"⟩
abbrev cX1_sizeBody : ByteArray := prog_3_method_5_code
def yX1_sizeBody : MethodName := ⟨RX1, "sizeBody", "(I)I"⟩
abbrev cX1_markBody : ByteArray := prog_3_method_6_code
def yX1_markBody : MethodName := ⟨RX1, "markBody", "(I)I"⟩
abbrev cX1_give : ByteArray := prog_3_method_7_code
def yX1_give : MethodName := ⟨RX1, "give", "(LBuriedHalves$Mine;III)I"⟩
abbrev cX1_note : ByteArray := prog_3_method_8_code
def yX1_note : MethodName := ⟨RX1, "note", "(I)V"⟩
def RX2 : String := "BuriedHalves$Layer"
def TX2 : u_T := fun k => match k with
  | 0 => ("BuriedHalves$Layer", "then", "LBuriedHalves$Mine;", true)
  | 1 => ("BuriedHalves$Layer", "asked", "LBuriedHalves$Mine;", true)
  | 2 => ("BuriedHalves$Layer", "askedYears", "I", false)
  | 3 => ("BuriedHalves$Layer", "places", "[I", true)
  | _ => ("BuriedHalves$Layer", "moved", "I", false)
def tyX2 : Nat → FieldType := fun k => match k with
  | 0 => .object "BuriedHalves$Mine"
  | 1 => .object "BuriedHalves$Mine"
  | 2 => .int
  | 3 => .array .int
  | _ => .int
abbrev wsX20 : List Cond := u_ws RX2 TX2 5
theorem nmX2 : ∀ a, a < 5 → ∀ b, b < 5 → a ≠ b → (TX2 a).2.1 ≠ (TX2 b).2.1 := by decide +kernel
theorem tyX2_ok : ∀ k, k < 5 → parseFieldDescriptor (TX2 k).2.2.1 = some (tyX2 k) := by decide +kernel
abbrev cX2_init : ByteArray := prog_4_method_1_code
def yX2_init : MethodName := ⟨RX2, "<init>", "()V"⟩
abbrev cX2_find : ByteArray := prog_4_method_2_code
def yX2_find : MethodName := ⟨RX2, "find", "(LBuriedHalves$Mine;I)V"⟩
abbrev cX2_oneComesUpAnywhere : ByteArray := prog_4_method_3_code
def yX2_oneComesUpAnywhere : MethodName := ⟨RX2, "oneComesUpAnywhere", "(I)Z"⟩
abbrev cX2_findMoving : ByteArray := prog_4_method_4_code
def yX2_findMoving : MethodName := ⟨RX2, "findMoving", "(II)Z"⟩
abbrev cX2_countMoved : ByteArray := prog_4_method_5_code
def yX2_countMoved : MethodName := ⟨RX2, "countMoved", "(I)I"⟩
abbrev cX2_holds : ByteArray := prog_4_method_6_code
def yX2_holds : MethodName := ⟨RX2, "holds", "(I)Z"⟩
def RX3 : String := "BuriedHalves$Mine"
def TX3 : u_T := fun k => match k with
  | 0 => ("BuriedHalves$Mine", "isThere", "Z", false)
  | 1 => ("BuriedHalves$Mine", "things", "I", false)
  | 2 => ("BuriedHalves$Mine", "men", "I", false)
  | 3 => ("BuriedHalves$Mine", "near", "I", false)
  | 4 => ("BuriedHalves$Mine", "year", "I", false)
  | 5 => ("BuriedHalves$Mine", "dug", "I", false)
  | 6 => ("BuriedHalves$Mine", "sort", "[I", true)
  | 7 => ("BuriedHalves$Mine", "depth", "[I", true)
  | 8 => ("BuriedHalves$Mine", "place", "[I", true)
  | 9 => ("BuriedHalves$Mine", "slow", "[I", true)
  | 10 => ("BuriedHalves$Mine", "known", "[I", true)
  | _ => ("BuriedHalves$Mine", "rises", "[I", true)
def tyX3 : Nat → FieldType := fun k => match k with
  | 0 => .boolean
  | 1 => .int
  | 2 => .int
  | 3 => .int
  | 4 => .int
  | 5 => .int
  | 6 => .array .int
  | 7 => .array .int
  | 8 => .array .int
  | 9 => .array .int
  | 10 => .array .int
  | _ => .array .int
abbrev wsX30 : List Cond := u_ws RX3 TX3 12
theorem nmX3 : ∀ a, a < 12 → ∀ b, b < 12 → a ≠ b → (TX3 a).2.1 ≠ (TX3 b).2.1 := by decide +kernel
theorem tyX3_ok : ∀ k, k < 12 → parseFieldDescriptor (TX3 k).2.2.1 = some (tyX3 k) := by decide +kernel
abbrev cX3_init : ByteArray := prog_5_method_1_code
def yX3_init : MethodName := ⟨RX3, "<init>", "()V"⟩
abbrev cX3_become : ByteArray := prog_5_method_2_code
def yX3_become : MethodName := ⟨RX3, "become", "(LBuriedHalves$Mine;)V"⟩
abbrev cX3_foretellsLike : ByteArray := prog_5_method_3_code
def yX3_foretellsLike : MethodName := ⟨RX3, "foretellsLike", "(LBuriedHalves$Mine;)Z"⟩
abbrev cX3_isUp : ByteArray := prog_5_method_4_code
def yX3_isUp : MethodName := ⟨RX3, "isUp", "(I)Z"⟩
abbrev cX3_allUp : ByteArray := prog_5_method_5_code
def yX3_allUp : MethodName := ⟨RX3, "allUp", "()I"⟩
abbrev cX3_areTooNear : ByteArray := prog_5_method_6_code
def yX3_areTooNear : MethodName := ⟨RX3, "areTooNear", "(II)Z"⟩
abbrev cX3_nearTo : ByteArray := prog_5_method_7_code
def yX3_nearTo : MethodName := ⟨RX3, "nearTo", "(I)I"⟩
abbrev cX3_firstTooNear : ByteArray := prog_5_method_8_code
def yX3_firstTooNear : MethodName := ⟨RX3, "firstTooNear", "()I"⟩
abbrev cX3_riseOf : ByteArray := prog_5_method_9_code
def yX3_riseOf : MethodName := ⟨RX3, "riseOf", "(I)I"⟩
abbrev cX3_ironRise : ByteArray := prog_5_method_10_code
def yX3_ironRise : MethodName := ⟨RX3, "ironRise", "(I)I"⟩
abbrev cX3_isCovered : ByteArray := prog_5_method_11_code
def yX3_isCovered : MethodName := ⟨RX3, "isCovered", "(I)Z"⟩
abbrev cX3_passYear : ByteArray := prog_5_method_12_code
def yX3_passYear : MethodName := ⟨RX3, "passYear", "()Z"⟩
abbrev cX3_knownTo : ByteArray := prog_5_method_13_code
def yX3_knownTo : MethodName := ⟨RX3, "knownTo", "(I)I"⟩
abbrev cX3_fewestWhoKnowAll : ByteArray := prog_5_method_14_code
def yX3_fewestWhoKnowAll : MethodName := ⟨RX3, "fewestWhoKnowAll", "()I"⟩
abbrev cX3_allKnownTo : ByteArray := prog_5_method_15_code
def yX3_allKnownTo : MethodName := ⟨RX3, "allKnownTo", "(I)Z"⟩
abbrev cX3_countHalves : ByteArray := prog_5_method_16_code
def yX3_countHalves : MethodName := ⟨RX3, "countHalves", "()I"⟩
abbrev cX3_firstHalves : ByteArray := prog_5_method_17_code
def yX3_firstHalves : MethodName := ⟨RX3, "firstHalves", "()I"⟩
def RX4 : String := "BuriedHalves$Rows"
def TX4 : u_T := fun k => match k with
  | 0 => ("BuriedHalves$Rows", "items", "[[I", true)
  | 1 => ("BuriedHalves$Rows", "lane", "[I", true)
  | _ => ("BuriedHalves$Rows", "length", "[I", true)
def tyX4 : Nat → FieldType := fun k => match k with
  | 0 => .array (.array .int)
  | 1 => .array .int
  | _ => .array .int
abbrev wsX40 : List Cond := u_ws RX4 TX4 3
theorem nmX4 : ∀ a, a < 3 → ∀ b, b < 3 → a ≠ b → (TX4 a).2.1 ≠ (TX4 b).2.1 := by decide +kernel
theorem tyX4_ok : ∀ k, k < 3 → parseFieldDescriptor (TX4 k).2.2.1 = some (tyX4 k) := by decide +kernel
abbrev cX4_init : ByteArray := prog_6_method_1_code
def yX4_init : MethodName := ⟨RX4, "<init>", "()V"⟩
abbrev cX4_isMissing : ByteArray := prog_6_method_2_code
def yX4_isMissing : MethodName := ⟨RX4, "isMissing", "(I)Z"⟩
abbrev cX4_hasRun : ByteArray := prog_6_method_3_code
def yX4_hasRun : MethodName := ⟨RX4, "hasRun", "(III)Z"⟩
abbrev cX4_makeAnew : ByteArray := prog_6_method_4_code
def yX4_makeAnew : MethodName := ⟨RX4, "makeAnew", "(III)V"⟩
abbrev cX4_put : ByteArray := prog_6_method_5_code
def yX4_put : MethodName := ⟨RX4, "put", "(III)I"⟩
abbrev cX4_readRun : ByteArray := prog_6_method_6_code
def yX4_readRun : MethodName := ⟨RX4, "readRun", "(III[I)V"⟩
abbrev cX4_countThere : ByteArray := prog_6_method_7_code
def yX4_countThere : MethodName := ⟨RX4, "countThere", "()I"⟩
def RX5 : String := "BuriedHalves$Seer"
def TX5 : u_T := fun k => match k with
  | 0 => ("BuriedHalves$Seer", "then", "LBuriedHalves$Mine;", true)
  | _ => ("BuriedHalves$Seer", "told", "[I", true)
def tyX5 : Nat → FieldType := fun k => match k with
  | 0 => .object "BuriedHalves$Mine"
  | _ => .array .int
abbrev wsX50 : List Cond := u_ws RX5 TX5 2
theorem nmX5 : ∀ a, a < 2 → ∀ b, b < 2 → a ≠ b → (TX5 a).2.1 ≠ (TX5 b).2.1 := by decide +kernel
theorem tyX5_ok : ∀ k, k < 2 → parseFieldDescriptor (TX5 k).2.2.1 = some (tyX5 k) := by decide +kernel
abbrev cX5_init : ByteArray := prog_7_method_1_code
def yX5_init : MethodName := ⟨RX5, "<init>", "()V"⟩
abbrev cX5_behind : ByteArray := prog_7_method_2_code
def yX5_behind : MethodName := ⟨RX5, "behind", "(LBuriedHalves$Mine;I)LBuriedHalves$Mine;"⟩
abbrev cX5_passYears : ByteArray := prog_7_method_3_code
def yX5_passYears : MethodName := ⟨RX5, "passYears", "(I)V"⟩
abbrev cX5_yearsUntilUp : ByteArray := prog_7_method_4_code
def yX5_yearsUntilUp : MethodName := ⟨RX5, "yearsUntilUp", "(LBuriedHalves$Mine;I)I"⟩
abbrev cX5_firstUp : ByteArray := prog_7_method_5_code
def yX5_firstUp : MethodName := ⟨RX5, "firstUp", "(LBuriedHalves$Mine;Z)I"⟩
abbrev cX5_firstTrouble : ByteArray := prog_7_method_6_code
def yX5_firstTrouble : MethodName := ⟨RX5, "firstTrouble", "(LBuriedHalves$Mine;Z)I"⟩
abbrev cX5_leastDepth : ByteArray := prog_7_method_7_code
def yX5_leastDepth : MethodName := ⟨RX5, "leastDepth", "(LBuriedHalves$Mine;II)I"⟩
abbrev cX5_thatFit : ByteArray := prog_7_method_8_code
def yX5_thatFit : MethodName := ⟨RX5, "thatFit", "(LBuriedHalves$Mine;III)I"⟩
abbrev cX5_goesAsTold : ByteArray := prog_7_method_9_code
def yX5_goesAsTold : MethodName := ⟨RX5, "goesAsTold", "(III)Z"⟩
abbrev cX5_weightOfAll : ByteArray := prog_7_method_10_code
def yX5_weightOfAll : MethodName := ⟨RX5, "weightOfAll", "(LBuriedHalves$Mine;)I"⟩
abbrev cX5_weightOfNoneUp : ByteArray := prog_7_method_11_code
def yX5_weightOfNoneUp : MethodName := ⟨RX5, "weightOfNoneUp", "(LBuriedHalves$Mine;II)I"⟩
abbrev cX5_letDig : ByteArray := prog_7_method_12_code
def yX5_letDig : MethodName := ⟨RX5, "letDig", "(I)V"⟩
abbrev cX5_weightOf : ByteArray := prog_7_method_13_code
def yX5_weightOf : MethodName := ⟨RX5, "weightOf", "(LBuriedHalves$Mine;II)I"⟩
def RX6 : String := "BuriedHalves$Text"
def TX6 : u_T := fun k => match k with
  | 0 => ("BuriedHalves$Text", "bytes", "[I", true)
  | 1 => ("BuriedHalves$Text", "length", "I", false)
  | 2 => ("BuriedHalves$Text", "at", "I", false)
  | _ => ("BuriedHalves$Text", "fault", "I", false)
def tyX6 : Nat → FieldType := fun k => match k with
  | 0 => .array .int
  | 1 => .int
  | 2 => .int
  | _ => .int
abbrev wsX60 : List Cond := u_ws RX6 TX6 4
theorem nmX6 : ∀ a, a < 4 → ∀ b, b < 4 → a ≠ b → (TX6 a).2.1 ≠ (TX6 b).2.1 := by decide +kernel
theorem tyX6_ok : ∀ k, k < 4 → parseFieldDescriptor (TX6 k).2.2.1 = some (tyX6 k) := by decide +kernel
abbrev cX6_init : ByteArray := prog_8_method_1_code
def yX6_init : MethodName := ⟨RX6, "<init>", "()V"⟩
abbrev cX6_append : ByteArray := prog_8_method_2_code
def yX6_append : MethodName := ⟨RX6, "append", "(I)V"⟩
abbrev cX6_readInto : ByteArray := prog_8_method_3_code
def yX6_readInto : MethodName := ⟨RX6, "readInto", "(LBuriedHalves$Mine;)I"⟩
abbrev cX6_readLaw : ByteArray := prog_8_method_4_code
def yX6_readLaw : MethodName := ⟨RX6, "readLaw", "(LBuriedHalves$Mine;)V"⟩
abbrev cX6_readThing : ByteArray := prog_8_method_5_code
def yX6_readThing : MethodName := ⟨RX6, "readThing", "(LBuriedHalves$Mine;)V"⟩
abbrev cX6_sortOf : ByteArray := prog_8_method_6_code
def yX6_sortOf : MethodName := ⟨RX6, "sortOf", "(I)I"⟩
abbrev cX6_fail : ByteArray := prog_8_method_7_code
def yX6_fail : MethodName := ⟨RX6, "fail", "(I)V"⟩
abbrev cX6_next : ByteArray := prog_8_method_8_code
def yX6_next : MethodName := ⟨RX6, "next", "()I"⟩
abbrev cX6_byteAt : ByteArray := prog_8_method_9_code
def yX6_byteAt : MethodName := ⟨RX6, "byteAt", "(I)I"⟩
abbrev cX6_pass : ByteArray := prog_8_method_10_code
def yX6_pass : MethodName := ⟨RX6, "pass", "(I)V"⟩
abbrev cX6_isFigure : ByteArray := prog_8_method_11_code
def yX6_isFigure : MethodName := ⟨RX6, "isFigure", "(I)Z"⟩
abbrev cX6_number : ByteArray := prog_8_method_12_code
def yX6_number : MethodName := ⟨RX6, "number", "(II)I"⟩
def RX7 : String := "BuriedHalves"
def TX7 : u_T := fun k => match k with
  | 0 => ("BuriedHalves", "rows", "LBuriedHalves$Rows;", true)
  | 1 => ("BuriedHalves", "text", "LBuriedHalves$Text;", true)
  | 2 => ("BuriedHalves", "now", "LBuriedHalves$Mine;", true)
  | 3 => ("BuriedHalves", "draft", "LBuriedHalves$Mine;", true)
  | 4 => ("BuriedHalves", "acts", "LBuriedHalves$Acts;", true)
  | 5 => ("BuriedHalves", "images", "[LBuriedHalves$Mine;", true)
  | 6 => ("BuriedHalves", "seer", "LBuriedHalves$Seer;", true)
  | 7 => ("BuriedHalves", "layer", "LBuriedHalves$Layer;", true)
  | 8 => ("BuriedHalves", "asker", "LBuriedHalves$Asker;", true)
  | 9 => ("BuriedHalves", "latestFault", "I", false)
  | _ => ("BuriedHalves", "latestFinding", "I", false)
def tyX7 : Nat → FieldType := fun k => match k with
  | 0 => .object "BuriedHalves$Rows"
  | 1 => .object "BuriedHalves$Text"
  | 2 => .object "BuriedHalves$Mine"
  | 3 => .object "BuriedHalves$Mine"
  | 4 => .object "BuriedHalves$Acts"
  | 5 => .array (.object "BuriedHalves$Mine")
  | 6 => .object "BuriedHalves$Seer"
  | 7 => .object "BuriedHalves$Layer"
  | 8 => .object "BuriedHalves$Asker"
  | 9 => .int
  | _ => .int
abbrev wsX70 : List Cond := u_ws RX7 TX7 11
theorem nmX7 : ∀ a, a < 11 → ∀ b, b < 11 → a ≠ b → (TX7 a).2.1 ≠ (TX7 b).2.1 := by decide +kernel
theorem tyX7_ok : ∀ k, k < 11 → parseFieldDescriptor (TX7 k).2.2.1 = some (tyX7 k) := by decide +kernel
abbrev cX7_init : ByteArray := prog_1_method_1_code
def yX7_init : MethodName := ⟨RX7, "<init>", "()V"⟩
abbrev cX7_row : ByteArray := prog_1_method_2_code
def yX7_row : MethodName := ⟨RX7, "row", "(III)I"⟩
abbrev cX7_set : ByteArray := prog_1_method_3_code
def yX7_set : MethodName := ⟨RX7, "set", "(III)I"⟩
abbrev cX7_copy : ByteArray := prog_1_method_4_code
def yX7_copy : MethodName := ⟨RX7, "copy", "(IIIII)I"⟩
abbrev cX7_drop : ByteArray := prog_1_method_5_code
def yX7_drop : MethodName := ⟨RX7, "drop", "(I)I"⟩
abbrev cX7_feed : ByteArray := prog_1_method_6_code
def yX7_feed : MethodName := ⟨RX7, "feed", "(I)I"⟩
abbrev cX7_mine : ByteArray := prog_1_method_7_code
def yX7_mine : MethodName := ⟨RX7, "mine", "()I"⟩
abbrev cX7_fault : ByteArray := prog_1_method_8_code
def yX7_fault : MethodName := ⟨RX7, "fault", "()I"⟩
abbrev cX7_years : ByteArray := prog_1_method_9_code
def yX7_years : MethodName := ⟨RX7, "years", "(I)I"⟩
abbrev cX7_bury : ByteArray := prog_1_method_10_code
def yX7_bury : MethodName := ⟨RX7, "bury", "(III)I"⟩
abbrev cX7_tell : ByteArray := prog_1_method_11_code
def yX7_tell : MethodName := ⟨RX7, "tell", "(III)I"⟩
abbrev cX7_undo : ByteArray := prog_1_method_12_code
def yX7_undo : MethodName := ⟨RX7, "undo", "()I"⟩
abbrev cX7_thing : ByteArray := prog_1_method_13_code
def yX7_thing : MethodName := ⟨RX7, "thing", "(II)I"⟩
abbrev cX7_knows : ByteArray := prog_1_method_14_code
def yX7_knows : MethodName := ⟨RX7, "knows", "(I)I"⟩
abbrev cX7_ahead : ByteArray := prog_1_method_15_code
def yX7_ahead : MethodName := ⟨RX7, "ahead", "(II)I"⟩
abbrev cX7_up : ByteArray := prog_1_method_16_code
def yX7_up : MethodName := ⟨RX7, "up", "(I)I"⟩
abbrev cX7_comesUp : ByteArray := prog_1_method_17_code
def yX7_comesUp : MethodName := ⟨RX7, "comesUp", "(I)I"⟩
abbrev cX7_first : ByteArray := prog_1_method_18_code
def yX7_first : MethodName := ⟨RX7, "first", "(I)I"⟩
abbrev cX7_trouble : ByteArray := prog_1_method_19_code
def yX7_trouble : MethodName := ⟨RX7, "trouble", "(I)I"⟩
abbrev cX7_lay : ByteArray := prog_1_method_20_code
def yX7_lay : MethodName := ⟨RX7, "lay", "(II)I"⟩
abbrev cX7_dig : ByteArray := prog_1_method_21_code
def yX7_dig : MethodName := ⟨RX7, "dig", "(II)I"⟩
abbrev cX7_whom : ByteArray := prog_1_method_22_code
def yX7_whom : MethodName := ⟨RX7, "whom", "(I)I"⟩
abbrev cX7_halves : ByteArray := prog_1_method_23_code
def yX7_halves : MethodName := ⟨RX7, "halves", "(I)I"⟩
abbrev cX7_fits : ByteArray := prog_1_method_24_code
def yX7_fits : MethodName := ⟨RX7, "fits", "(IIIII)I"⟩
abbrev cX7_moles : ByteArray := prog_1_method_25_code
def yX7_moles : MethodName := ⟨RX7, "moles", "(III)I"⟩
abbrev cX7_image : ByteArray := prog_1_method_26_code
def yX7_image : MethodName := ⟨RX7, "image", "(I)I"⟩
abbrev cX7_restore : ByteArray := prog_1_method_27_code
def yX7_restore : MethodName := ⟨RX7, "restore", "(I)I"⟩
abbrev cX7_kind : ByteArray := prog_1_method_28_code
def yX7_kind : MethodName := ⟨RX7, "kind", "(I)I"⟩
abbrev cX7_as : ByteArray := prog_1_method_29_code
def yX7_as : MethodName := ⟨RX7, "as", "(II)I"⟩
abbrev cX7_ask : ByteArray := prog_1_method_30_code
def yX7_ask : MethodName := ⟨RX7, "ask", "(II)I"⟩
abbrev cX7_trace : ByteArray := prog_1_method_31_code
def yX7_trace : MethodName := ⟨RX7, "trace", "(I)I"⟩
abbrev cX7_count : ByteArray := prog_1_method_32_code
def yX7_count : MethodName := ⟨RX7, "count", "(I)I"⟩
abbrev cX7_status : ByteArray := prog_1_method_33_code
def yX7_status : MethodName := ⟨RX7, "status", "()I"⟩
abbrev cX7_found : ByteArray := prog_1_method_34_code
def yX7_found : MethodName := ⟨RX7, "found", "(I)I"⟩
abbrev cX7_fine : ByteArray := prog_1_method_35_code
def yX7_fine : MethodName := ⟨RX7, "fine", "(I)I"⟩
abbrev cX7_isThing : ByteArray := prog_1_method_36_code
def yX7_isThing : MethodName := ⟨RX7, "isThing", "(I)Z"⟩
abbrev cX7_isMan : ByteArray := prog_1_method_37_code
def yX7_isMan : MethodName := ⟨RX7, "isMan", "(I)Z"⟩
abbrev cX7_isRow : ByteArray := prog_1_method_38_code
def yX7_isRow : MethodName := ⟨RX7, "isRow", "(I)Z"⟩
abbrev cX7_isImage : ByteArray := prog_1_method_39_code
def yX7_isImage : MethodName := ⟨RX7, "isImage", "(I)Z"⟩
abbrev cX7_isForetold : ByteArray := prog_1_method_40_code
def yX7_isForetold : MethodName := ⟨RX7, "isForetold", "(I)Z"⟩
abbrev cX7_isOneOfTwo : ByteArray := prog_1_method_41_code
def yX7_isOneOfTwo : MethodName := ⟨RX7, "isOneOfTwo", "(I)Z"⟩
abbrev cX7_kindAbove : ByteArray := prog_1_method_42_code
def yX7_kindAbove : MethodName := ⟨RX7, "kindAbove", "(I)I"⟩
abbrev cX7_isOfKind : ByteArray := prog_1_method_43_code
def yX7_isOfKind : MethodName := ⟨RX7, "isOfKind", "(II)Z"⟩
abbrev cX7_leastOf : ByteArray := prog_1_method_44_code
def yX7_leastOf : MethodName := ⟨RX7, "leastOf", "(I)I"⟩
abbrev cX7_commonDivisor : ByteArray := prog_1_method_45_code
def yX7_commonDivisor : MethodName := ⟨RX7, "commonDivisor", "(II)I"⟩
def RX8 : String := "BuriedHalvesModel"
def TX8 : u_T := fun k => match k with
  | 0 => ("BuriedHalvesModel", "lanes", "[I", true)
  | 1 => ("BuriedHalvesModel", "sizes", "[I", true)
  | 2 => ("BuriedHalvesModel", "items", "[I", true)
  | 3 => ("BuriedHalvesModel", "status", "I", false)
  | 4 => ("BuriedHalvesModel", "now", "[I", true)
  | 5 => ("BuriedHalvesModel", "read", "[I", true)
  | 6 => ("BuriedHalvesModel", "aside", "[I", true)
  | 7 => ("BuriedHalvesModel", "past", "[I", true)
  | 8 => ("BuriedHalvesModel", "acts", "I", false)
  | 9 => ("BuriedHalvesModel", "images", "[I", true)
  | 10 => ("BuriedHalvesModel", "kept", "[Z", true)
  | 11 => ("BuriedHalvesModel", "tape", "[I", true)
  | 12 => ("BuriedHalvesModel", "size", "I", false)
  | 13 => ("BuriedHalvesModel", "fault", "I", false)
  | 14 => ("BuriedHalvesModel", "trace", "[I", true)
  | 15 => ("BuriedHalvesModel", "traced", "I", false)
  | 16 => ("BuriedHalvesModel", "at", "I", false)
  | 17 => ("BuriedHalvesModel", "begin", "I", false)
  | 18 => ("BuriedHalvesModel", "token", "I", false)
  | 19 => ("BuriedHalvesModel", "value", "I", false)
  | 20 => ("BuriedHalvesModel", "wrong", "I", false)
  | 21 => ("BuriedHalvesModel", "rise", "[I", true)
  | 22 => ("BuriedHalvesModel", "places", "[I", true)
  | _ => ("BuriedHalvesModel", "best", "[I", true)
def tyX8 : Nat → FieldType := fun k => match k with
  | 0 => .array .int
  | 1 => .array .int
  | 2 => .array .int
  | 3 => .int
  | 4 => .array .int
  | 5 => .array .int
  | 6 => .array .int
  | 7 => .array .int
  | 8 => .int
  | 9 => .array .int
  | 10 => .array .boolean
  | 11 => .array .int
  | 12 => .int
  | 13 => .int
  | 14 => .array .int
  | 15 => .int
  | 16 => .int
  | 17 => .int
  | 18 => .int
  | 19 => .int
  | 20 => .int
  | 21 => .array .int
  | 22 => .array .int
  | _ => .array .int
abbrev wsX80 : List Cond := u_ws RX8 TX8 24
theorem nmX8 : ∀ a, a < 24 → ∀ b, b < 24 → a ≠ b → (TX8 a).2.1 ≠ (TX8 b).2.1 := by decide +kernel
theorem tyX8_ok : ∀ k, k < 24 → parseFieldDescriptor (TX8 k).2.2.1 = some (tyX8 k) := by decide +kernel
abbrev cX8_init : ByteArray := prog_10_method_1_code
def yX8_init : MethodName := ⟨RX8, "<init>", "()V"⟩
abbrev cX8_in : ByteArray := prog_10_method_3_code
def yX8_in : MethodName := ⟨RX8, "in", "(JJJ)Z"⟩
abbrev cX8_found : ByteArray := prog_10_method_4_code
def yX8_found : MethodName := ⟨RX8, "found", "(I)I"⟩
abbrev cX8_well : ByteArray := prog_10_method_5_code
def yX8_well : MethodName := ⟨RX8, "well", "(I)I"⟩
abbrev cX8_isRow : ByteArray := prog_10_method_6_code
def yX8_isRow : MethodName := ⟨RX8, "isRow", "(I)Z"⟩
abbrev cX8_row : ByteArray := prog_10_method_7_code
def yX8_row : MethodName := ⟨RX8, "row", "(III)I"⟩
abbrev cX8_set : ByteArray := prog_10_method_8_code
def yX8_set : MethodName := ⟨RX8, "set", "(III)I"⟩
abbrev cX8_copy : ByteArray := prog_10_method_9_code
def yX8_copy : MethodName := ⟨RX8, "copy", "(IIIII)I"⟩
abbrev cX8_drop : ByteArray := prog_10_method_10_code
def yX8_drop : MethodName := ⟨RX8, "drop", "(I)I"⟩
abbrev cX8_feed : ByteArray := prog_10_method_11_code
def yX8_feed : MethodName := ⟨RX8, "feed", "(I)I"⟩
abbrev cX8_here : ByteArray := prog_10_method_12_code
def yX8_here : MethodName := ⟨RX8, "here", "()I"⟩
abbrev cX8_step : ByteArray := prog_10_method_13_code
def yX8_step : MethodName := ⟨RX8, "step", "()V"⟩
abbrev cX8_fails : ByteArray := prog_10_method_14_code
def yX8_fails : MethodName := ⟨RX8, "fails", "(I)Z"⟩
abbrev cX8_number : ByteArray := prog_10_method_15_code
def yX8_number : MethodName := ⟨RX8, "number", "(IIII)Z"⟩
abbrev cX8_sortOf : ByteArray := prog_10_method_16_code
def yX8_sortOf : MethodName := ⟨RX8, "sortOf", "(I)I"⟩
abbrev cX8_readsThing : ByteArray := prog_10_method_17_code
def yX8_readsThing : MethodName := ⟨RX8, "readsThing", "()Z"⟩
abbrev cX8_reads : ByteArray := prog_10_method_18_code
def yX8_reads : MethodName := ⟨RX8, "reads", "()Z"⟩
abbrev cX8_mine : ByteArray := prog_10_method_19_code
def yX8_mine : MethodName := ⟨RX8, "mine", "()I"⟩
abbrev cX8_fault : ByteArray := prog_10_method_20_code
def yX8_fault : MethodName := ⟨RX8, "fault", "()I"⟩
abbrev cX8_copies : ByteArray := prog_10_method_21_code
def yX8_copies : MethodName := ⟨RX8, "copies", "([II[II)V"⟩
abbrev cX8_has : ByteArray := prog_10_method_22_code
def yX8_has : MethodName := ⟨RX8, "has", "(II)Z"⟩
abbrev cX8_bits : ByteArray := prog_10_method_23_code
def yX8_bits : MethodName := ⟨RX8, "bits", "(I)I"⟩
abbrev cX8_lies : ByteArray := prog_10_method_24_code
def yX8_lies : MethodName := ⟨RX8, "lies", "([II)Z"⟩
abbrev cX8_rises : ByteArray := prog_10_method_25_code
def yX8_rises : MethodName := ⟨RX8, "rises", "([II)I"⟩
abbrev cX8_yearGoes : ByteArray := prog_10_method_26_code
def yX8_yearGoes : MethodName := ⟨RX8, "yearGoes", "([I)V"⟩
abbrev cX8_upOf : ByteArray := prog_10_method_27_code
def yX8_upOf : MethodName := ⟨RX8, "upOf", "([I)I"⟩
abbrev cX8_abs : ByteArray := prog_10_method_28_code
def yX8_abs : MethodName := ⟨RX8, "abs", "(I)I"⟩
abbrev cX8_tooNear : ByteArray := prog_10_method_29_code
def yX8_tooNear : MethodName := ⟨RX8, "tooNear", "([III)Z"⟩
abbrev cX8_nearTo : ByteArray := prog_10_method_30_code
def yX8_nearTo : MethodName := ⟨RX8, "nearTo", "([II)I"⟩
abbrev cX8_twoOf : ByteArray := prog_10_method_31_code
def yX8_twoOf : MethodName := ⟨RX8, "twoOf", "([I)I"⟩
abbrev cX8_isMine : ByteArray := prog_10_method_32_code
def yX8_isMine : MethodName := ⟨RX8, "isMine", "()Z"⟩
abbrev cX8_isThing : ByteArray := prog_10_method_33_code
def yX8_isThing : MethodName := ⟨RX8, "isThing", "(I)Z"⟩
abbrev cX8_isTwo : ByteArray := prog_10_method_34_code
def yX8_isTwo : MethodName := ⟨RX8, "isTwo", "(I)Z"⟩
abbrev cX8_isSpan : ByteArray := prog_10_method_35_code
def yX8_isSpan : MethodName := ⟨RX8, "isSpan", "(I)Z"⟩
abbrev cX8_remember : ByteArray := prog_10_method_36_code
def yX8_remember : MethodName := ⟨RX8, "remember", "()V"⟩
abbrev cX8_years : ByteArray := prog_10_method_37_code
def yX8_years : MethodName := ⟨RX8, "years", "(I)I"⟩
abbrev cX8_bury : ByteArray := prog_10_method_38_code
def yX8_bury : MethodName := ⟨RX8, "bury", "(III)I"⟩
abbrev cX8_tell : ByteArray := prog_10_method_39_code
def yX8_tell : MethodName := ⟨RX8, "tell", "(III)I"⟩
abbrev cX8_undo : ByteArray := prog_10_method_40_code
def yX8_undo : MethodName := ⟨RX8, "undo", "()I"⟩
abbrev cX8_thing : ByteArray := prog_10_method_41_code
def yX8_thing : MethodName := ⟨RX8, "thing", "(II)I"⟩
abbrev cX8_knows : ByteArray := prog_10_method_42_code
def yX8_knows : MethodName := ⟨RX8, "knows", "(I)I"⟩
abbrev cX8_layAside : ByteArray := prog_10_method_43_code
def yX8_layAside : MethodName := ⟨RX8, "layAside", "()V"⟩
abbrev cX8_go : ByteArray := prog_10_method_44_code
def yX8_go : MethodName := ⟨RX8, "go", "(I)V"⟩
abbrev cX8_ahead : ByteArray := prog_10_method_45_code
def yX8_ahead : MethodName := ⟨RX8, "ahead", "(II)I"⟩
abbrev cX8_up : ByteArray := prog_10_method_46_code
def yX8_up : MethodName := ⟨RX8, "up", "(I)I"⟩
abbrev cX8_comesUp : ByteArray := prog_10_method_47_code
def yX8_comesUp : MethodName := ⟨RX8, "comesUp", "(I)I"⟩
abbrev cX8_first : ByteArray := prog_10_method_48_code
def yX8_first : MethodName := ⟨RX8, "first", "(I)I"⟩
abbrev cX8_trouble : ByteArray := prog_10_method_49_code
def yX8_trouble : MethodName := ⟨RX8, "trouble", "(I)I"⟩
abbrev cX8_rests : ByteArray := prog_10_method_50_code
def yX8_rests : MethodName := ⟨RX8, "rests", "(I)Z"⟩
abbrev cX8_layPlaces : ByteArray := prog_10_method_51_code
def yX8_layPlaces : MethodName := ⟨RX8, "layPlaces", "(I)I"⟩
abbrev cX8_lay : ByteArray := prog_10_method_52_code
def yX8_lay : MethodName := ⟨RX8, "lay", "(II)I"⟩
abbrev cX8_dig : ByteArray := prog_10_method_53_code
def yX8_dig : MethodName := ⟨RX8, "dig", "(II)I"⟩
abbrev cX8_whom : ByteArray := prog_10_method_54_code
def yX8_whom : MethodName := ⟨RX8, "whom", "(I)I"⟩
abbrev cX8_halves : ByteArray := prog_10_method_55_code
def yX8_halves : MethodName := ⟨RX8, "halves", "(I)I"⟩
abbrev cX8_comes : ByteArray := prog_10_method_56_code
def yX8_comes : MethodName := ⟨RX8, "comes", "(IIIZ)Z"⟩
abbrev cX8_fits : ByteArray := prog_10_method_57_code
def yX8_fits : MethodName := ⟨RX8, "fits", "(IIIII)I"⟩
abbrev cX8_moles : ByteArray := prog_10_method_58_code
def yX8_moles : MethodName := ⟨RX8, "moles", "(III)I"⟩
abbrev cX8_image : ByteArray := prog_10_method_59_code
def yX8_image : MethodName := ⟨RX8, "image", "(I)I"⟩
abbrev cX8_restore : ByteArray := prog_10_method_60_code
def yX8_restore : MethodName := ⟨RX8, "restore", "(I)I"⟩
abbrev cX8_kind : ByteArray := prog_10_method_61_code
def yX8_kind : MethodName := ⟨RX8, "kind", "(I)I"⟩
abbrev cX8_isOf : ByteArray := prog_10_method_62_code
def yX8_isOf : MethodName := ⟨RX8, "isOf", "(II)Z"⟩
abbrev cX8_as : ByteArray := prog_10_method_63_code
def yX8_as : MethodName := ⟨RX8, "as", "(II)I"⟩
abbrev cX8_leave : ByteArray := prog_10_method_64_code
def yX8_leave : MethodName := ⟨RX8, "leave", "(J)V"⟩
abbrev cX8_mark : ByteArray := prog_10_method_65_code
def yX8_mark : MethodName := ⟨RX8, "mark", "(I)I"⟩
abbrev cX8_sizeOf : ByteArray := prog_10_method_66_code
def yX8_sizeOf : MethodName := ⟨RX8, "sizeOf", "(I)I"⟩
abbrev cX8_ask : ByteArray := prog_10_method_67_code
def yX8_ask : MethodName := ⟨RX8, "ask", "(II)I"⟩
abbrev cX8_trace : ByteArray := prog_10_method_68_code
def yX8_trace : MethodName := ⟨RX8, "trace", "(I)I"⟩
abbrev cX8_count : ByteArray := prog_10_method_69_code
def yX8_count : MethodName := ⟨RX8, "count", "(I)I"⟩
abbrev cX8_status : ByteArray := prog_10_method_70_code
def yX8_status : MethodName := ⟨RX8, "status", "()I"⟩
def RJ6 : String := "java/lang/Integer"
def TJ6 : u_T := fun k => match k with
  | _ => ("", "", "", false)
def tyJ6 : Nat → FieldType := fun k => match k with
  | _ => .int
abbrev wsJ60 : List Cond := u_ws RJ6 TJ6 0
theorem nmJ6 : ∀ a, a < 0 → ∀ b, b < 0 → a ≠ b → (TJ6 a).2.1 ≠ (TJ6 b).2.1 := by decide +kernel
theorem tyJ6_ok : ∀ k, k < 0 → parseFieldDescriptor (TJ6 k).2.2.1 = some (tyJ6 k) := by decide +kernel
abbrev cJ6_bitCount_0f7a4 : ByteArray := prog_11_method_49_code
def yJ6_bitCount_0f7a4 : MethodName := ⟨RJ6, "bitCount", "(I)I"⟩
def RJ9 : String := "java/lang/Math"
def TJ9 : u_T := fun k => match k with
  | _ => ("", "", "", false)
def tyJ9 : Nat → FieldType := fun k => match k with
  | _ => .int
abbrev wsJ90 : List Cond := u_ws RJ9 TJ9 0
theorem nmJ9 : ∀ a, a < 0 → ∀ b, b < 0 → a ≠ b → (TJ9 a).2.1 ≠ (TJ9 b).2.1 := by decide +kernel
theorem tyJ9_ok : ∀ k, k < 0 → parseFieldDescriptor (TJ9 k).2.2.1 = some (tyJ9 k) := by decide +kernel
abbrev cJ9_abs_0f7a4 : ByteArray := prog_12_method_59_code
def yJ9_abs_0f7a4 : MethodName := ⟨RJ9, "abs", "(I)I"⟩
abbrev cJ9_min_7cf53 : ByteArray := prog_12_method_69_code
def yJ9_min_7cf53 : MethodName := ⟨RJ9, "min", "(II)I"⟩
def RJ10 : String := "java/lang/System"
def TJ10 : u_T := fun k => match k with
  | _ => ("", "", "", false)
def tyJ10 : Nat → FieldType := fun k => match k with
  | _ => .int
abbrev wsJ100 : List Cond := u_ws RJ10 TJ10 0
theorem nmJ10 : ∀ a, a < 0 → ∀ b, b < 0 → a ≠ b → (TJ10 a).2.1 ≠ (TJ10 b).2.1 := by decide +kernel
theorem tyJ10_ok : ∀ k, k < 0 → parseFieldDescriptor (TJ10 k).2.2.1 = some (tyJ10 k) := by decide +kernel
def RL : String := "BuriedHalvesLaw"
abbrev cL_law : ByteArray := code
def yL_law : MethodName := ⟨RL, "law", "([I)Z"⟩
def wsX3_init : List Cond := .code yX3_init cX3_init 1 none :: ([.methodLink RX3 3 objectInit, .instanceMethod objectInit, .code objectInit ⟨#[0xb1]⟩ 1 none, .fieldLink RX3 9 "BuriedHalves$Mine" "isThere" "Z", .fieldLink RX3 15 "BuriedHalves$Mine" "things" "I", .fieldLink RX3 19 "BuriedHalves$Mine" "men" "I", .fieldLink RX3 22 "BuriedHalves$Mine" "near" "I", .fieldLink RX3 25 "BuriedHalves$Mine" "year" "I", .fieldLink RX3 28 "BuriedHalves$Mine" "dug" "I", .arrayClass .int, .fieldLink RX3 31 "BuriedHalves$Mine" "sort" "[I", .fieldLink RX3 35 "BuriedHalves$Mine" "depth" "[I", .fieldLink RX3 38 "BuriedHalves$Mine" "place" "[I", .fieldLink RX3 41 "BuriedHalves$Mine" "slow" "[I", .fieldLink RX3 44 "BuriedHalves$Mine" "known" "[I", .fieldLink RX3 47 "BuriedHalves$Mine" "rises" "[I"] ++ wsX30)
def wsX0_init_r1 : List Cond := [Cond.methodLink RX0 3 objectInit, Cond.instanceMethod objectInit, Cond.code objectInit ⟨#[0xb1]⟩ 1 none, Cond.classLink RX0 9 RX3, Cond.fieldLink RX0 11 "BuriedHalves$Acts" "kept" "[LBuriedHalves$Mine;", Cond.fieldLink RX0 17 "BuriedHalves$Acts" "top" "I", Cond.fieldLink RX0 21 "BuriedHalves$Acts" "size" "I", Cond.instantiable RX3 12, Cond.initialized RX3, Cond.instanceMethod yX3_init, Cond.code yX3_init cX3_init 1 none, Cond.methodLink RX3 3 objectInit, Cond.fieldLink RX3 9 "BuriedHalves$Mine" "isThere" "Z", Cond.fieldLink RX3 15 "BuriedHalves$Mine" "things" "I", Cond.fieldLink RX3 19 "BuriedHalves$Mine" "men" "I", Cond.fieldLink RX3 22 "BuriedHalves$Mine" "near" "I", Cond.fieldLink RX3 25 "BuriedHalves$Mine" "year" "I", Cond.fieldLink RX3 28 "BuriedHalves$Mine" "dug" "I", Cond.arrayClass .int, Cond.fieldLink RX3 31 "BuriedHalves$Mine" "sort" "[I", Cond.fieldLink RX3 35 "BuriedHalves$Mine" "depth" "[I", Cond.fieldLink RX3 38 "BuriedHalves$Mine" "place" "[I", Cond.fieldLink RX3 41 "BuriedHalves$Mine" "slow" "[I", Cond.fieldLink RX3 44 "BuriedHalves$Mine" "known" "[I"]
def wsX0_init_r2 : List Cond := [Cond.fieldLink RX3 47 "BuriedHalves$Mine" "rises" "[I"]
def wsX0_init : List Cond := .code yX0_init cX0_init 2 none :: ((wsX0_init_r1 ++ wsX0_init_r2) ++ wsX00 ++ wsX30)
def wsX0_forgetAll : List Cond := .code yX0_forgetAll cX0_forgetAll 1 none :: ([.fieldLink RX0 21 "BuriedHalves$Acts" "size" "I"] ++ wsX00)
def wsX3_become : List Cond := .code yX3_become cX3_become 3 none :: ([.fieldLink RX3 9 "BuriedHalves$Mine" "isThere" "Z", .fieldLink RX3 15 "BuriedHalves$Mine" "things" "I", .fieldLink RX3 19 "BuriedHalves$Mine" "men" "I", .fieldLink RX3 22 "BuriedHalves$Mine" "near" "I", .fieldLink RX3 25 "BuriedHalves$Mine" "year" "I", .fieldLink RX3 28 "BuriedHalves$Mine" "dug" "I", .fieldLink RX3 31 "BuriedHalves$Mine" "sort" "[I", .fieldLink RX3 35 "BuriedHalves$Mine" "depth" "[I", .fieldLink RX3 38 "BuriedHalves$Mine" "place" "[I", .fieldLink RX3 41 "BuriedHalves$Mine" "slow" "[I", .fieldLink RX3 44 "BuriedHalves$Mine" "known" "[I"] ++ wsX30)
def wsX0_keep : List Cond := .code yX0_keep cX0_keep 2 none :: ([.fieldLink RX0 11 "BuriedHalves$Acts" "kept" "[LBuriedHalves$Mine;", .fieldLink RX0 17 "BuriedHalves$Acts" "top" "I", .fieldLink RX0 21 "BuriedHalves$Acts" "size" "I", .methodLink RX0 29 Lib.Math.min.name, .static Lib.Math.min.name, .initialized "java/lang/Math", .code Lib.Math.min.name Lib.Math.min.code 2 (some .int), .methodLink RX0 25 yX3_become, .instanceMethod yX3_become, .selects RX3 yX3_become yX3_become, .initialized RX3, .code yX3_become cX3_become 3 none, .fieldLink RX3 9 "BuriedHalves$Mine" "isThere" "Z", .fieldLink RX3 15 "BuriedHalves$Mine" "things" "I", .fieldLink RX3 19 "BuriedHalves$Mine" "men" "I", .fieldLink RX3 22 "BuriedHalves$Mine" "near" "I", .fieldLink RX3 25 "BuriedHalves$Mine" "year" "I", .fieldLink RX3 28 "BuriedHalves$Mine" "dug" "I", .fieldLink RX3 31 "BuriedHalves$Mine" "sort" "[I", .fieldLink RX3 35 "BuriedHalves$Mine" "depth" "[I", .fieldLink RX3 38 "BuriedHalves$Mine" "place" "[I", .fieldLink RX3 41 "BuriedHalves$Mine" "slow" "[I", .fieldLink RX3 44 "BuriedHalves$Mine" "known" "[I"] ++ wsX00 ++ wsX30)
def wsX0_takeBack : List Cond := .code yX0_takeBack cX0_takeBack 2 none :: ([.fieldLink RX0 21 "BuriedHalves$Acts" "size" "I", .fieldLink RX0 17 "BuriedHalves$Acts" "top" "I", .fieldLink RX0 11 "BuriedHalves$Acts" "kept" "[LBuriedHalves$Mine;", .methodLink RX0 25 yX3_become, .instanceMethod yX3_become, .selects RX3 yX3_become yX3_become, .initialized RX3, .code yX3_become cX3_become 3 none, .fieldLink RX3 9 "BuriedHalves$Mine" "isThere" "Z", .fieldLink RX3 15 "BuriedHalves$Mine" "things" "I", .fieldLink RX3 19 "BuriedHalves$Mine" "men" "I", .fieldLink RX3 22 "BuriedHalves$Mine" "near" "I", .fieldLink RX3 25 "BuriedHalves$Mine" "year" "I", .fieldLink RX3 28 "BuriedHalves$Mine" "dug" "I", .fieldLink RX3 31 "BuriedHalves$Mine" "sort" "[I", .fieldLink RX3 35 "BuriedHalves$Mine" "depth" "[I", .fieldLink RX3 38 "BuriedHalves$Mine" "place" "[I", .fieldLink RX3 41 "BuriedHalves$Mine" "slow" "[I", .fieldLink RX3 44 "BuriedHalves$Mine" "known" "[I"] ++ wsX00 ++ wsX30)
def wsX1_init : List Cond := .code yX1_init cX1_init 1 none :: ([.methodLink RX1 3 objectInit, .instanceMethod objectInit, .code objectInit ⟨#[0xb1]⟩ 1 none, .arrayClass .int, .fieldLink RX1 9 "BuriedHalves$Asker" "numbers" "[I", .fieldLink RX1 15 "BuriedHalves$Asker" "traced" "I"] ++ wsX10)
def wsX1_sizeBody : List Cond := .code yX1_sizeBody cX1_sizeBody 1 (some .int) :: ([])
def wsX1_markBody : List Cond := .code yX1_markBody cX1_markBody 1 (some .int) :: ([])
def wsX7_kindAbove : List Cond := .code yX7_kindAbove cX7_kindAbove 1 (some .int) :: ([])
def wsX1_bodyFor : List Cond := .code yX1_bodyFor cX1_bodyFor 5 (some .int) :: ([.methodLink RX1 35 yX1_sizeBody, .static yX1_sizeBody, .initialized RX1, .code yX1_sizeBody cX1_sizeBody 1 (some .int), .methodLink RX1 39 yX1_markBody, .static yX1_markBody, .code yX1_markBody cX1_markBody 1 (some .int), .static yX7_kindAbove, .initialized RX7, .code yX7_kindAbove cX7_kindAbove 1 (some .int)])
def wsX1_note : List Cond := .code yX1_note cX1_note 2 none :: ([.fieldLink RX1 15 "BuriedHalves$Asker" "traced" "I", .fieldLink RX1 9 "BuriedHalves$Asker" "numbers" "[I"] ++ wsX10)
def wsX1_answer_r1 : List Cond := [Cond.fieldLink RX1 23 "BuriedHalves$Mine" "sort" "[I", Cond.methodLink RX1 28 yX1_bodyFor, Cond.static yX1_bodyFor, Cond.initialized RX1, Cond.code yX1_bodyFor cX1_bodyFor 5 (some .int), Cond.methodLink RX1 35 yX1_sizeBody, Cond.static yX1_sizeBody, Cond.code yX1_sizeBody cX1_sizeBody 1 (some .int), Cond.methodLink RX1 39 yX1_markBody, Cond.static yX1_markBody, Cond.code yX1_markBody cX1_markBody 1 (some .int), Cond.static yX7_kindAbove, Cond.initialized RX7, Cond.code yX7_kindAbove cX7_kindAbove 1 (some .int), Cond.methodLink RX1 32 yX1_give, Cond.instanceMethod yX1_give, Cond.selects RX1 yX1_give yX1_give, Cond.code yX1_give cX1_give 6 (some .int), Cond.fieldLink RX1 49 "BuriedHalves$Mine" "slow" "[I", Cond.fieldLink RX1 52 "BuriedHalves$Mine" "depth" "[I", Cond.methodLink RX1 45 yX1_note, Cond.instanceMethod yX1_note, Cond.selects RX1 yX1_note yX1_note, Cond.code yX1_note cX1_note 2 none]
def wsX1_answer_r2 : List Cond := [Cond.fieldLink RX1 15 "BuriedHalves$Asker" "traced" "I", Cond.fieldLink RX1 9 "BuriedHalves$Asker" "numbers" "[I", Cond.methodLink RX1 19 yX1_answer, Cond.instanceMethod yX1_answer, Cond.selects RX1 yX1_answer yX1_answer]
def wsX1_answer : List Cond := .code yX1_answer cX1_answer 5 (some .int) :: ((wsX1_answer_r1 ++ wsX1_answer_r2) ++ wsX30 ++ wsX10)
def wsX1_give_r1 : List Cond := [Cond.fieldLink RX1 49 "BuriedHalves$Mine" "slow" "[I", Cond.fieldLink RX1 52 "BuriedHalves$Mine" "depth" "[I", Cond.methodLink RX1 45 yX1_note, Cond.instanceMethod yX1_note, Cond.selects RX1 yX1_note yX1_note, Cond.initialized RX1, Cond.code yX1_note cX1_note 2 none, Cond.fieldLink RX1 15 "BuriedHalves$Asker" "traced" "I", Cond.fieldLink RX1 9 "BuriedHalves$Asker" "numbers" "[I", Cond.methodLink RX1 32 yX1_give, Cond.instanceMethod yX1_give, Cond.selects RX1 yX1_give yX1_give, Cond.methodLink RX1 19 yX1_answer, Cond.instanceMethod yX1_answer, Cond.selects RX1 yX1_answer yX1_answer, Cond.code yX1_answer cX1_answer 5 (some .int), Cond.fieldLink RX1 23 "BuriedHalves$Mine" "sort" "[I", Cond.methodLink RX1 28 yX1_bodyFor, Cond.static yX1_bodyFor, Cond.code yX1_bodyFor cX1_bodyFor 5 (some .int), Cond.methodLink RX1 35 yX1_sizeBody, Cond.static yX1_sizeBody, Cond.code yX1_sizeBody cX1_sizeBody 1 (some .int), Cond.methodLink RX1 39 yX1_markBody]
def wsX1_give_r2 : List Cond := [Cond.static yX1_markBody, Cond.code yX1_markBody cX1_markBody 1 (some .int), Cond.static yX7_kindAbove, Cond.initialized RX7, Cond.code yX7_kindAbove cX7_kindAbove 1 (some .int)]
def wsX1_give : List Cond := .code yX1_give cX1_give 6 (some .int) :: ((wsX1_give_r1 ++ wsX1_give_r2) ++ wsX30 ++ wsX10)
def wsX1_begin_r1 : List Cond := [Cond.fieldLink RX1 15 "BuriedHalves$Asker" "traced" "I", Cond.methodLink RX1 19 yX1_answer, Cond.instanceMethod yX1_answer, Cond.selects RX1 yX1_answer yX1_answer, Cond.initialized RX1, Cond.code yX1_answer cX1_answer 5 (some .int), Cond.fieldLink RX1 23 "BuriedHalves$Mine" "sort" "[I", Cond.methodLink RX1 28 yX1_bodyFor, Cond.static yX1_bodyFor, Cond.code yX1_bodyFor cX1_bodyFor 5 (some .int), Cond.methodLink RX1 35 yX1_sizeBody, Cond.static yX1_sizeBody, Cond.code yX1_sizeBody cX1_sizeBody 1 (some .int), Cond.methodLink RX1 39 yX1_markBody, Cond.static yX1_markBody, Cond.code yX1_markBody cX1_markBody 1 (some .int), Cond.static yX7_kindAbove, Cond.initialized RX7, Cond.code yX7_kindAbove cX7_kindAbove 1 (some .int), Cond.methodLink RX1 32 yX1_give, Cond.instanceMethod yX1_give, Cond.selects RX1 yX1_give yX1_give, Cond.code yX1_give cX1_give 6 (some .int), Cond.fieldLink RX1 49 "BuriedHalves$Mine" "slow" "[I"]
def wsX1_begin_r2 : List Cond := [Cond.fieldLink RX1 52 "BuriedHalves$Mine" "depth" "[I", Cond.methodLink RX1 45 yX1_note, Cond.instanceMethod yX1_note, Cond.selects RX1 yX1_note yX1_note, Cond.code yX1_note cX1_note 2 none, Cond.fieldLink RX1 9 "BuriedHalves$Asker" "numbers" "[I"]
def wsX1_begin : List Cond := .code yX1_begin cX1_begin 4 (some .int) :: ((wsX1_begin_r1 ++ wsX1_begin_r2) ++ wsX10 ++ wsX30)
def wsX2_init_r1 : List Cond := [Cond.methodLink RX2 3 objectInit, Cond.instanceMethod objectInit, Cond.code objectInit ⟨#[0xb1]⟩ 1 none, Cond.classLink RX2 9 RX3, Cond.instantiable RX3 12, Cond.initialized RX3, Cond.fieldLink RX2 12 "BuriedHalves$Layer" "then" "LBuriedHalves$Mine;", Cond.fieldLink RX2 18 "BuriedHalves$Layer" "asked" "LBuriedHalves$Mine;", Cond.fieldLink RX2 21 "BuriedHalves$Layer" "askedYears" "I", Cond.arrayClass .int, Cond.fieldLink RX2 25 "BuriedHalves$Layer" "places" "[I", Cond.constant RX2 29 (-1000000), Cond.fieldLink RX2 30 "BuriedHalves$Layer" "moved" "I", Cond.instanceMethod yX3_init, Cond.code yX3_init cX3_init 1 none, Cond.methodLink RX3 3 objectInit, Cond.fieldLink RX3 9 "BuriedHalves$Mine" "isThere" "Z", Cond.fieldLink RX3 15 "BuriedHalves$Mine" "things" "I", Cond.fieldLink RX3 19 "BuriedHalves$Mine" "men" "I", Cond.fieldLink RX3 22 "BuriedHalves$Mine" "near" "I", Cond.fieldLink RX3 25 "BuriedHalves$Mine" "year" "I", Cond.fieldLink RX3 28 "BuriedHalves$Mine" "dug" "I", Cond.fieldLink RX3 31 "BuriedHalves$Mine" "sort" "[I", Cond.fieldLink RX3 35 "BuriedHalves$Mine" "depth" "[I"]
def wsX2_init_r2 : List Cond := [Cond.fieldLink RX3 38 "BuriedHalves$Mine" "place" "[I", Cond.fieldLink RX3 41 "BuriedHalves$Mine" "slow" "[I", Cond.fieldLink RX3 44 "BuriedHalves$Mine" "known" "[I", Cond.fieldLink RX3 47 "BuriedHalves$Mine" "rises" "[I"]
def wsX2_init : List Cond := .code yX2_init cX2_init 1 none :: ((wsX2_init_r1 ++ wsX2_init_r2) ++ wsX30 ++ wsX20)
def wsX3_foretellsLike : List Cond := .code yX3_foretellsLike cX3_foretellsLike 3 (some .boolean) :: ([.fieldLink RX3 15 "BuriedHalves$Mine" "things" "I", .fieldLink RX3 22 "BuriedHalves$Mine" "near" "I", .fieldLink RX3 25 "BuriedHalves$Mine" "year" "I", .fieldLink RX3 31 "BuriedHalves$Mine" "sort" "[I", .fieldLink RX3 35 "BuriedHalves$Mine" "depth" "[I", .fieldLink RX3 38 "BuriedHalves$Mine" "place" "[I", .fieldLink RX3 41 "BuriedHalves$Mine" "slow" "[I"] ++ wsX30)
def wsX3_isUp : List Cond := .code yX3_isUp cX3_isUp 2 (some .boolean) :: ([.fieldLink RX3 35 "BuriedHalves$Mine" "depth" "[I"] ++ wsX30)
def wsX3_ironRise : List Cond := .code yX3_ironRise cX3_ironRise 2 (some .int) :: ([.fieldLink RX3 41 "BuriedHalves$Mine" "slow" "[I", .fieldLink RX3 25 "BuriedHalves$Mine" "year" "I"] ++ wsX30)
def wsX3_isCovered : List Cond := .code yX3_isCovered cX3_isCovered 3 (some .boolean) :: ([.fieldLink RX3 15 "BuriedHalves$Mine" "things" "I", .fieldLink RX3 35 "BuriedHalves$Mine" "depth" "[I", .fieldLink RX3 38 "BuriedHalves$Mine" "place" "[I"] ++ wsX30)
def wsX3_riseOf : List Cond := .code yX3_riseOf cX3_riseOf 2 (some .int) :: ([.fieldLink RX3 31 "BuriedHalves$Mine" "sort" "[I", .fieldLink RX3 35 "BuriedHalves$Mine" "depth" "[I", .methodLink RX3 71 Lib.Math.min.name, .static Lib.Math.min.name, .initialized "java/lang/Math", .code Lib.Math.min.name Lib.Math.min.code 2 (some .int), .fieldLink RX3 25 "BuriedHalves$Mine" "year" "I", .methodLink RX3 50 yX3_isUp, .instanceMethod yX3_isUp, .selects RX3 yX3_isUp yX3_isUp, .initialized RX3, .code yX3_isUp cX3_isUp 2 (some .boolean), .methodLink RX3 65 yX3_ironRise, .instanceMethod yX3_ironRise, .selects RX3 yX3_ironRise yX3_ironRise, .code yX3_ironRise cX3_ironRise 2 (some .int), .fieldLink RX3 41 "BuriedHalves$Mine" "slow" "[I", .methodLink RX3 68 yX3_isCovered, .instanceMethod yX3_isCovered, .selects RX3 yX3_isCovered yX3_isCovered, .code yX3_isCovered cX3_isCovered 3 (some .boolean), .fieldLink RX3 15 "BuriedHalves$Mine" "things" "I", .fieldLink RX3 38 "BuriedHalves$Mine" "place" "[I"] ++ wsX30)
def wsX3_passYear_r1 : List Cond := [Cond.fieldLink RX3 15 "BuriedHalves$Mine" "things" "I", Cond.fieldLink RX3 47 "BuriedHalves$Mine" "rises" "[I", Cond.fieldLink RX3 35 "BuriedHalves$Mine" "depth" "[I", Cond.fieldLink RX3 25 "BuriedHalves$Mine" "year" "I", Cond.methodLink RX3 75 yX3_riseOf, Cond.instanceMethod yX3_riseOf, Cond.selects RX3 yX3_riseOf yX3_riseOf, Cond.initialized RX3, Cond.code yX3_riseOf cX3_riseOf 2 (some .int), Cond.fieldLink RX3 31 "BuriedHalves$Mine" "sort" "[I", Cond.methodLink RX3 71 Lib.Math.min.name, Cond.static Lib.Math.min.name, Cond.initialized "java/lang/Math", Cond.code Lib.Math.min.name Lib.Math.min.code 2 (some .int), Cond.methodLink RX3 50 yX3_isUp, Cond.instanceMethod yX3_isUp, Cond.selects RX3 yX3_isUp yX3_isUp, Cond.code yX3_isUp cX3_isUp 2 (some .boolean), Cond.methodLink RX3 65 yX3_ironRise, Cond.instanceMethod yX3_ironRise, Cond.selects RX3 yX3_ironRise yX3_ironRise, Cond.code yX3_ironRise cX3_ironRise 2 (some .int), Cond.fieldLink RX3 41 "BuriedHalves$Mine" "slow" "[I", Cond.methodLink RX3 68 yX3_isCovered]
def wsX3_passYear_r2 : List Cond := [Cond.instanceMethod yX3_isCovered, Cond.selects RX3 yX3_isCovered yX3_isCovered, Cond.code yX3_isCovered cX3_isCovered 3 (some .boolean), Cond.fieldLink RX3 38 "BuriedHalves$Mine" "place" "[I"]
def wsX3_passYear : List Cond := .code yX3_passYear cX3_passYear 3 (some .boolean) :: ((wsX3_passYear_r1 ++ wsX3_passYear_r2) ++ wsX30)
def wsX2_oneComesUpAnywhere_r1 : List Cond := [Cond.fieldLink RX2 12 "BuriedHalves$Layer" "then" "LBuriedHalves$Mine;", Cond.fieldLink RX2 18 "BuriedHalves$Layer" "asked" "LBuriedHalves$Mine;", Cond.fieldLink RX2 45 "BuriedHalves$Mine" "things" "I", Cond.fieldLink RX2 56 "BuriedHalves$Mine" "sort" "[I", Cond.methodLink RX2 37 yX3_become, Cond.instanceMethod yX3_become, Cond.selects RX3 yX3_become yX3_become, Cond.initialized RX3, Cond.code yX3_become cX3_become 3 none, Cond.fieldLink RX3 9 "BuriedHalves$Mine" "isThere" "Z", Cond.fieldLink RX3 15 "BuriedHalves$Mine" "things" "I", Cond.fieldLink RX3 19 "BuriedHalves$Mine" "men" "I", Cond.fieldLink RX3 22 "BuriedHalves$Mine" "near" "I", Cond.fieldLink RX3 25 "BuriedHalves$Mine" "year" "I", Cond.fieldLink RX3 28 "BuriedHalves$Mine" "dug" "I", Cond.fieldLink RX3 31 "BuriedHalves$Mine" "sort" "[I", Cond.fieldLink RX3 35 "BuriedHalves$Mine" "depth" "[I", Cond.fieldLink RX3 38 "BuriedHalves$Mine" "place" "[I", Cond.fieldLink RX3 41 "BuriedHalves$Mine" "slow" "[I", Cond.fieldLink RX3 44 "BuriedHalves$Mine" "known" "[I", Cond.methodLink RX2 52 yX3_passYear, Cond.instanceMethod yX3_passYear, Cond.selects RX3 yX3_passYear yX3_passYear, Cond.code yX3_passYear cX3_passYear 3 (some .boolean)]
def wsX2_oneComesUpAnywhere_r2 : List Cond := [Cond.fieldLink RX3 47 "BuriedHalves$Mine" "rises" "[I", Cond.methodLink RX3 75 yX3_riseOf, Cond.instanceMethod yX3_riseOf, Cond.selects RX3 yX3_riseOf yX3_riseOf, Cond.code yX3_riseOf cX3_riseOf 2 (some .int), Cond.methodLink RX3 71 Lib.Math.min.name, Cond.static Lib.Math.min.name, Cond.initialized "java/lang/Math", Cond.code Lib.Math.min.name Lib.Math.min.code 2 (some .int), Cond.methodLink RX3 50 yX3_isUp, Cond.instanceMethod yX3_isUp, Cond.selects RX3 yX3_isUp yX3_isUp, Cond.code yX3_isUp cX3_isUp 2 (some .boolean), Cond.methodLink RX3 65 yX3_ironRise, Cond.instanceMethod yX3_ironRise, Cond.selects RX3 yX3_ironRise yX3_ironRise, Cond.code yX3_ironRise cX3_ironRise 2 (some .int), Cond.methodLink RX3 68 yX3_isCovered, Cond.instanceMethod yX3_isCovered, Cond.selects RX3 yX3_isCovered yX3_isCovered, Cond.code yX3_isCovered cX3_isCovered 3 (some .boolean), Cond.methodLink RX2 59 yX3_isUp]
def wsX2_oneComesUpAnywhere : List Cond := .code yX2_oneComesUpAnywhere cX2_oneComesUpAnywhere 3 (some .boolean) :: ((wsX2_oneComesUpAnywhere_r1 ++ wsX2_oneComesUpAnywhere_r2) ++ wsX20 ++ wsX30)
def wsX2_countMoved : List Cond := .code yX2_countMoved cX2_countMoved 5 (some .int) :: ([.fieldLink RX2 18 "BuriedHalves$Layer" "asked" "LBuriedHalves$Mine;", .fieldLink RX2 45 "BuriedHalves$Mine" "things" "I", .fieldLink RX2 25 "BuriedHalves$Layer" "places" "[I", .fieldLink RX2 69 "BuriedHalves$Mine" "place" "[I", .constant RX2 29 (-1000000), .methodLink RX2 59 yX3_isUp, .instanceMethod yX3_isUp, .selects RX3 yX3_isUp yX3_isUp, .initialized RX3, .code yX3_isUp cX3_isUp 2 (some .boolean), .fieldLink RX3 35 "BuriedHalves$Mine" "depth" "[I"] ++ wsX20 ++ wsX30)
def wsX3_allUp : List Cond := .code yX3_allUp cX3_allUp 3 (some .int) :: ([.fieldLink RX3 15 "BuriedHalves$Mine" "things" "I", .methodLink RX3 50 yX3_isUp, .instanceMethod yX3_isUp, .selects RX3 yX3_isUp yX3_isUp, .initialized RX3, .code yX3_isUp cX3_isUp 2 (some .boolean), .fieldLink RX3 35 "BuriedHalves$Mine" "depth" "[I"] ++ wsX30)
def wsX3_areTooNear : List Cond := .code yX3_areTooNear cX3_areTooNear 3 (some .boolean) :: ([.fieldLink RX3 38 "BuriedHalves$Mine" "place" "[I", .methodLink RX3 54 Lib.Math.abs.name, .static Lib.Math.abs.name, .initialized "java/lang/Math", .code Lib.Math.abs.name Lib.Math.abs.code 1 (some .int), .fieldLink RX3 35 "BuriedHalves$Mine" "depth" "[I", .fieldLink RX3 22 "BuriedHalves$Mine" "near" "I", .methodLink RX3 50 yX3_isUp, .instanceMethod yX3_isUp, .selects RX3 yX3_isUp yX3_isUp, .initialized RX3, .code yX3_isUp cX3_isUp 2 (some .boolean)] ++ wsX30)
def wsX3_firstTooNear : List Cond := .code yX3_firstTooNear cX3_firstTooNear 3 (some .int) :: ([.fieldLink RX3 15 "BuriedHalves$Mine" "things" "I", .constant RX3 64 (-1000000), .methodLink RX3 60 yX3_areTooNear, .instanceMethod yX3_areTooNear, .selects RX3 yX3_areTooNear yX3_areTooNear, .initialized RX3, .code yX3_areTooNear cX3_areTooNear 3 (some .boolean), .fieldLink RX3 38 "BuriedHalves$Mine" "place" "[I", .methodLink RX3 54 Lib.Math.abs.name, .static Lib.Math.abs.name, .initialized "java/lang/Math", .code Lib.Math.abs.name Lib.Math.abs.code 1 (some .int), .fieldLink RX3 35 "BuriedHalves$Mine" "depth" "[I", .fieldLink RX3 22 "BuriedHalves$Mine" "near" "I", .methodLink RX3 50 yX3_isUp, .instanceMethod yX3_isUp, .selects RX3 yX3_isUp yX3_isUp, .code yX3_isUp cX3_isUp 2 (some .boolean)] ++ wsX30)
def wsX2_holds_r1 : List Cond := [Cond.fieldLink RX2 18 "BuriedHalves$Layer" "asked" "LBuriedHalves$Mine;", Cond.fieldLink RX2 12 "BuriedHalves$Layer" "then" "LBuriedHalves$Mine;", Cond.fieldLink RX2 45 "BuriedHalves$Mine" "things" "I", Cond.fieldLink RX2 69 "BuriedHalves$Mine" "place" "[I", Cond.fieldLink RX2 25 "BuriedHalves$Layer" "places" "[I", Cond.constant RX2 29 (-1000000), Cond.methodLink RX2 72 yX3_allUp, Cond.instanceMethod yX3_allUp, Cond.selects RX3 yX3_allUp yX3_allUp, Cond.initialized RX3, Cond.code yX3_allUp cX3_allUp 3 (some .int), Cond.fieldLink RX3 15 "BuriedHalves$Mine" "things" "I", Cond.methodLink RX3 50 yX3_isUp, Cond.instanceMethod yX3_isUp, Cond.selects RX3 yX3_isUp yX3_isUp, Cond.code yX3_isUp cX3_isUp 2 (some .boolean), Cond.fieldLink RX3 35 "BuriedHalves$Mine" "depth" "[I", Cond.methodLink RX2 37 yX3_become, Cond.instanceMethod yX3_become, Cond.selects RX3 yX3_become yX3_become, Cond.code yX3_become cX3_become 3 none, Cond.fieldLink RX3 9 "BuriedHalves$Mine" "isThere" "Z", Cond.fieldLink RX3 19 "BuriedHalves$Mine" "men" "I", Cond.fieldLink RX3 22 "BuriedHalves$Mine" "near" "I"]
def wsX2_holds_r2 : List Cond := [Cond.fieldLink RX3 25 "BuriedHalves$Mine" "year" "I", Cond.fieldLink RX3 28 "BuriedHalves$Mine" "dug" "I", Cond.fieldLink RX3 31 "BuriedHalves$Mine" "sort" "[I", Cond.fieldLink RX3 38 "BuriedHalves$Mine" "place" "[I", Cond.fieldLink RX3 41 "BuriedHalves$Mine" "slow" "[I", Cond.fieldLink RX3 44 "BuriedHalves$Mine" "known" "[I", Cond.methodLink RX2 76 yX3_firstTooNear, Cond.instanceMethod yX3_firstTooNear, Cond.selects RX3 yX3_firstTooNear yX3_firstTooNear, Cond.code yX3_firstTooNear cX3_firstTooNear 3 (some .int), Cond.constant RX3 64 (-1000000), Cond.methodLink RX3 60 yX3_areTooNear, Cond.instanceMethod yX3_areTooNear, Cond.selects RX3 yX3_areTooNear yX3_areTooNear, Cond.code yX3_areTooNear cX3_areTooNear 3 (some .boolean), Cond.methodLink RX3 54 Lib.Math.abs.name, Cond.static Lib.Math.abs.name, Cond.initialized "java/lang/Math", Cond.code Lib.Math.abs.name Lib.Math.abs.code 1 (some .int), Cond.methodLink RX2 52 yX3_passYear, Cond.instanceMethod yX3_passYear, Cond.selects RX3 yX3_passYear yX3_passYear, Cond.code yX3_passYear cX3_passYear 3 (some .boolean), Cond.fieldLink RX3 47 "BuriedHalves$Mine" "rises" "[I"]
def wsX2_holds_r3 : List Cond := [Cond.methodLink RX3 75 yX3_riseOf, Cond.instanceMethod yX3_riseOf, Cond.selects RX3 yX3_riseOf yX3_riseOf, Cond.code yX3_riseOf cX3_riseOf 2 (some .int), Cond.methodLink RX3 71 Lib.Math.min.name, Cond.static Lib.Math.min.name, Cond.code Lib.Math.min.name Lib.Math.min.code 2 (some .int), Cond.methodLink RX3 65 yX3_ironRise, Cond.instanceMethod yX3_ironRise, Cond.selects RX3 yX3_ironRise yX3_ironRise, Cond.code yX3_ironRise cX3_ironRise 2 (some .int), Cond.methodLink RX3 68 yX3_isCovered, Cond.instanceMethod yX3_isCovered, Cond.selects RX3 yX3_isCovered yX3_isCovered, Cond.code yX3_isCovered cX3_isCovered 3 (some .boolean)]
def wsX2_holds : List Cond := .code yX2_holds cX2_holds 4 (some .boolean) :: ((wsX2_holds_r1 ++ (wsX2_holds_r2 ++ wsX2_holds_r3)) ++ wsX20 ++ wsX30)
def wsX2_findMoving_r1 : List Cond := [Cond.fieldLink RX2 18 "BuriedHalves$Layer" "asked" "LBuriedHalves$Mine;", Cond.fieldLink RX2 45 "BuriedHalves$Mine" "things" "I", Cond.methodLink RX2 62 yX2_countMoved, Cond.instanceMethod yX2_countMoved, Cond.selects RX2 yX2_countMoved yX2_countMoved, Cond.initialized RX2, Cond.code yX2_countMoved cX2_countMoved 5 (some .int), Cond.fieldLink RX2 25 "BuriedHalves$Layer" "places" "[I", Cond.fieldLink RX2 69 "BuriedHalves$Mine" "place" "[I", Cond.constant RX2 29 (-1000000), Cond.methodLink RX2 59 yX3_isUp, Cond.instanceMethod yX3_isUp, Cond.selects RX3 yX3_isUp yX3_isUp, Cond.initialized RX3, Cond.code yX3_isUp cX3_isUp 2 (some .boolean), Cond.fieldLink RX3 35 "BuriedHalves$Mine" "depth" "[I", Cond.methodLink RX2 66 yX2_holds, Cond.instanceMethod yX2_holds, Cond.selects RX2 yX2_holds yX2_holds, Cond.code yX2_holds cX2_holds 4 (some .boolean), Cond.fieldLink RX2 12 "BuriedHalves$Layer" "then" "LBuriedHalves$Mine;", Cond.methodLink RX2 72 yX3_allUp, Cond.instanceMethod yX3_allUp, Cond.selects RX3 yX3_allUp yX3_allUp]
def wsX2_findMoving_r2 : List Cond := [Cond.code yX3_allUp cX3_allUp 3 (some .int), Cond.fieldLink RX3 15 "BuriedHalves$Mine" "things" "I", Cond.methodLink RX3 50 yX3_isUp, Cond.methodLink RX2 37 yX3_become, Cond.instanceMethod yX3_become, Cond.selects RX3 yX3_become yX3_become, Cond.code yX3_become cX3_become 3 none, Cond.fieldLink RX3 9 "BuriedHalves$Mine" "isThere" "Z", Cond.fieldLink RX3 19 "BuriedHalves$Mine" "men" "I", Cond.fieldLink RX3 22 "BuriedHalves$Mine" "near" "I", Cond.fieldLink RX3 25 "BuriedHalves$Mine" "year" "I", Cond.fieldLink RX3 28 "BuriedHalves$Mine" "dug" "I", Cond.fieldLink RX3 31 "BuriedHalves$Mine" "sort" "[I", Cond.fieldLink RX3 38 "BuriedHalves$Mine" "place" "[I", Cond.fieldLink RX3 41 "BuriedHalves$Mine" "slow" "[I", Cond.fieldLink RX3 44 "BuriedHalves$Mine" "known" "[I", Cond.methodLink RX2 76 yX3_firstTooNear, Cond.instanceMethod yX3_firstTooNear, Cond.selects RX3 yX3_firstTooNear yX3_firstTooNear, Cond.code yX3_firstTooNear cX3_firstTooNear 3 (some .int), Cond.constant RX3 64 (-1000000), Cond.methodLink RX3 60 yX3_areTooNear, Cond.instanceMethod yX3_areTooNear, Cond.selects RX3 yX3_areTooNear yX3_areTooNear]
def wsX2_findMoving_r3 : List Cond := [Cond.code yX3_areTooNear cX3_areTooNear 3 (some .boolean), Cond.methodLink RX3 54 Lib.Math.abs.name, Cond.static Lib.Math.abs.name, Cond.initialized "java/lang/Math", Cond.code Lib.Math.abs.name Lib.Math.abs.code 1 (some .int), Cond.methodLink RX2 52 yX3_passYear, Cond.instanceMethod yX3_passYear, Cond.selects RX3 yX3_passYear yX3_passYear, Cond.code yX3_passYear cX3_passYear 3 (some .boolean), Cond.fieldLink RX3 47 "BuriedHalves$Mine" "rises" "[I", Cond.methodLink RX3 75 yX3_riseOf, Cond.instanceMethod yX3_riseOf, Cond.selects RX3 yX3_riseOf yX3_riseOf, Cond.code yX3_riseOf cX3_riseOf 2 (some .int), Cond.methodLink RX3 71 Lib.Math.min.name, Cond.static Lib.Math.min.name, Cond.code Lib.Math.min.name Lib.Math.min.code 2 (some .int), Cond.methodLink RX3 65 yX3_ironRise, Cond.instanceMethod yX3_ironRise, Cond.selects RX3 yX3_ironRise yX3_ironRise, Cond.code yX3_ironRise cX3_ironRise 2 (some .int), Cond.methodLink RX3 68 yX3_isCovered, Cond.instanceMethod yX3_isCovered, Cond.selects RX3 yX3_isCovered yX3_isCovered]
def wsX2_findMoving_r4 : List Cond := [Cond.code yX3_isCovered cX3_isCovered 3 (some .boolean)]
def wsX2_findMoving : List Cond := .code yX2_findMoving cX2_findMoving 5 (some .boolean) :: ((wsX2_findMoving_r1 ++ (wsX2_findMoving_r2 ++ (wsX2_findMoving_r3 ++ wsX2_findMoving_r4))) ++ wsX20 ++ wsX30)
def wsX2_find_r1 : List Cond := [Cond.fieldLink RX2 21 "BuriedHalves$Layer" "askedYears" "I", Cond.fieldLink RX2 18 "BuriedHalves$Layer" "asked" "LBuriedHalves$Mine;", Cond.constant RX2 29 (-1000000), Cond.fieldLink RX2 30 "BuriedHalves$Layer" "moved" "I", Cond.fieldLink RX2 45 "BuriedHalves$Mine" "things" "I", Cond.methodLink RX2 33 yX3_foretellsLike, Cond.instanceMethod yX3_foretellsLike, Cond.selects RX3 yX3_foretellsLike yX3_foretellsLike, Cond.initialized RX3, Cond.code yX3_foretellsLike cX3_foretellsLike 3 (some .boolean), Cond.fieldLink RX3 15 "BuriedHalves$Mine" "things" "I", Cond.fieldLink RX3 22 "BuriedHalves$Mine" "near" "I", Cond.fieldLink RX3 25 "BuriedHalves$Mine" "year" "I", Cond.fieldLink RX3 31 "BuriedHalves$Mine" "sort" "[I", Cond.fieldLink RX3 35 "BuriedHalves$Mine" "depth" "[I", Cond.fieldLink RX3 38 "BuriedHalves$Mine" "place" "[I", Cond.fieldLink RX3 41 "BuriedHalves$Mine" "slow" "[I", Cond.methodLink RX2 37 yX3_become, Cond.instanceMethod yX3_become, Cond.selects RX3 yX3_become yX3_become, Cond.code yX3_become cX3_become 3 none, Cond.fieldLink RX3 9 "BuriedHalves$Mine" "isThere" "Z", Cond.fieldLink RX3 19 "BuriedHalves$Mine" "men" "I", Cond.fieldLink RX3 28 "BuriedHalves$Mine" "dug" "I"]
def wsX2_find_r2 : List Cond := [Cond.fieldLink RX3 44 "BuriedHalves$Mine" "known" "[I", Cond.methodLink RX2 41 yX2_oneComesUpAnywhere, Cond.instanceMethod yX2_oneComesUpAnywhere, Cond.selects RX2 yX2_oneComesUpAnywhere yX2_oneComesUpAnywhere, Cond.initialized RX2, Cond.code yX2_oneComesUpAnywhere cX2_oneComesUpAnywhere 3 (some .boolean), Cond.fieldLink RX2 12 "BuriedHalves$Layer" "then" "LBuriedHalves$Mine;", Cond.fieldLink RX2 56 "BuriedHalves$Mine" "sort" "[I", Cond.methodLink RX2 52 yX3_passYear, Cond.instanceMethod yX3_passYear, Cond.selects RX3 yX3_passYear yX3_passYear, Cond.code yX3_passYear cX3_passYear 3 (some .boolean), Cond.fieldLink RX3 47 "BuriedHalves$Mine" "rises" "[I", Cond.methodLink RX3 75 yX3_riseOf, Cond.instanceMethod yX3_riseOf, Cond.selects RX3 yX3_riseOf yX3_riseOf, Cond.code yX3_riseOf cX3_riseOf 2 (some .int), Cond.methodLink RX3 71 Lib.Math.min.name, Cond.static Lib.Math.min.name, Cond.initialized "java/lang/Math", Cond.code Lib.Math.min.name Lib.Math.min.code 2 (some .int), Cond.methodLink RX3 50 yX3_isUp, Cond.instanceMethod yX3_isUp, Cond.selects RX3 yX3_isUp yX3_isUp]
def wsX2_find_r3 : List Cond := [Cond.code yX3_isUp cX3_isUp 2 (some .boolean), Cond.methodLink RX3 65 yX3_ironRise, Cond.instanceMethod yX3_ironRise, Cond.selects RX3 yX3_ironRise yX3_ironRise, Cond.code yX3_ironRise cX3_ironRise 2 (some .int), Cond.methodLink RX3 68 yX3_isCovered, Cond.instanceMethod yX3_isCovered, Cond.selects RX3 yX3_isCovered yX3_isCovered, Cond.code yX3_isCovered cX3_isCovered 3 (some .boolean), Cond.methodLink RX2 59 yX3_isUp, Cond.methodLink RX2 48 yX2_findMoving, Cond.instanceMethod yX2_findMoving, Cond.selects RX2 yX2_findMoving yX2_findMoving, Cond.code yX2_findMoving cX2_findMoving 5 (some .boolean), Cond.methodLink RX2 62 yX2_countMoved, Cond.instanceMethod yX2_countMoved, Cond.selects RX2 yX2_countMoved yX2_countMoved, Cond.code yX2_countMoved cX2_countMoved 5 (some .int), Cond.fieldLink RX2 25 "BuriedHalves$Layer" "places" "[I", Cond.fieldLink RX2 69 "BuriedHalves$Mine" "place" "[I", Cond.methodLink RX2 66 yX2_holds, Cond.instanceMethod yX2_holds, Cond.selects RX2 yX2_holds yX2_holds, Cond.code yX2_holds cX2_holds 4 (some .boolean)]
def wsX2_find_r4 : List Cond := [Cond.methodLink RX2 72 yX3_allUp, Cond.instanceMethod yX3_allUp, Cond.selects RX3 yX3_allUp yX3_allUp, Cond.code yX3_allUp cX3_allUp 3 (some .int), Cond.methodLink RX2 76 yX3_firstTooNear, Cond.instanceMethod yX3_firstTooNear, Cond.selects RX3 yX3_firstTooNear yX3_firstTooNear, Cond.code yX3_firstTooNear cX3_firstTooNear 3 (some .int), Cond.constant RX3 64 (-1000000), Cond.methodLink RX3 60 yX3_areTooNear, Cond.instanceMethod yX3_areTooNear, Cond.selects RX3 yX3_areTooNear yX3_areTooNear, Cond.code yX3_areTooNear cX3_areTooNear 3 (some .boolean), Cond.methodLink RX3 54 Lib.Math.abs.name, Cond.static Lib.Math.abs.name, Cond.code Lib.Math.abs.name Lib.Math.abs.code 1 (some .int)]
def wsX2_find : List Cond := .code yX2_find cX2_find 4 none :: ((wsX2_find_r1 ++ (wsX2_find_r2 ++ (wsX2_find_r3 ++ wsX2_find_r4))) ++ wsX20 ++ wsX30)
def wsX3_nearTo : List Cond := .code yX3_nearTo cX3_nearTo 4 (some .int) :: ([.fieldLink RX3 15 "BuriedHalves$Mine" "things" "I", .methodLink RX3 60 yX3_areTooNear, .instanceMethod yX3_areTooNear, .selects RX3 yX3_areTooNear yX3_areTooNear, .initialized RX3, .code yX3_areTooNear cX3_areTooNear 3 (some .boolean), .fieldLink RX3 38 "BuriedHalves$Mine" "place" "[I", .methodLink RX3 54 Lib.Math.abs.name, .static Lib.Math.abs.name, .initialized "java/lang/Math", .code Lib.Math.abs.name Lib.Math.abs.code 1 (some .int), .fieldLink RX3 35 "BuriedHalves$Mine" "depth" "[I", .fieldLink RX3 22 "BuriedHalves$Mine" "near" "I", .methodLink RX3 50 yX3_isUp, .instanceMethod yX3_isUp, .selects RX3 yX3_isUp yX3_isUp, .code yX3_isUp cX3_isUp 2 (some .boolean)] ++ wsX30)
def wsX3_knownTo : List Cond := .code yX3_knownTo cX3_knownTo 4 (some .int) :: ([.fieldLink RX3 15 "BuriedHalves$Mine" "things" "I", .fieldLink RX3 44 "BuriedHalves$Mine" "known" "[I"] ++ wsX30)
def wsX3_allKnownTo : List Cond := .code yX3_allKnownTo cX3_allKnownTo 3 (some .boolean) :: ([.fieldLink RX3 15 "BuriedHalves$Mine" "things" "I", .fieldLink RX3 44 "BuriedHalves$Mine" "known" "[I"] ++ wsX30)
def wsJ6_bitCount_0f7a4 : List Cond := .code yJ6_bitCount_0f7a4 cJ6_bitCount_0f7a4 1 (some .int) :: ([.constant RJ6 265 (1431655765), .constant RJ6 266 (858993459), .constant RJ6 267 (252645135)])
def wsX3_fewestWhoKnowAll : List Cond := .code yX3_fewestWhoKnowAll cX3_fewestWhoKnowAll 3 (some .int) :: ([.constant RX3 64 (-1000000), .fieldLink RX3 19 "BuriedHalves$Mine" "men" "I", .methodLink RX3 78 yX3_allKnownTo, .instanceMethod yX3_allKnownTo, .selects RX3 yX3_allKnownTo yX3_allKnownTo, .initialized RX3, .code yX3_allKnownTo cX3_allKnownTo 3 (some .boolean), .fieldLink RX3 15 "BuriedHalves$Mine" "things" "I", .fieldLink RX3 44 "BuriedHalves$Mine" "known" "[I", .methodLink RX3 81 yJ6_bitCount_0f7a4, .static yJ6_bitCount_0f7a4, .initialized RJ6, .code yJ6_bitCount_0f7a4 cJ6_bitCount_0f7a4 1 (some .int), .constant RJ6 265 (1431655765), .constant RJ6 266 (858993459), .constant RJ6 267 (252645135)] ++ wsX30)
def wsX3_countHalves : List Cond := .code yX3_countHalves cX3_countHalves 4 (some .int) :: ([.fieldLink RX3 15 "BuriedHalves$Mine" "things" "I", .fieldLink RX3 44 "BuriedHalves$Mine" "known" "[I"] ++ wsX30)
def wsX3_firstHalves : List Cond := .code yX3_firstHalves cX3_firstHalves 3 (some .int) :: ([.fieldLink RX3 15 "BuriedHalves$Mine" "things" "I", .fieldLink RX3 44 "BuriedHalves$Mine" "known" "[I", .constant RX3 64 (-1000000)] ++ wsX30)
def wsX4_init : List Cond := .code yX4_init cX4_init 2 none :: ([.methodLink RX4 3 objectInit, .instanceMethod objectInit, .code objectInit ⟨#[0xb1]⟩ 1 none, .classLink RX4 9 "[[I", .arrayClass .int, .fieldLink RX4 11 "BuriedHalves$Rows" "items" "[[I", .fieldLink RX4 16 "BuriedHalves$Rows" "lane" "[I", .fieldLink RX4 20 "BuriedHalves$Rows" "length" "[I"] ++ wsX40)
def wsX4_isMissing : List Cond := .code yX4_isMissing cX4_isMissing 2 (some .boolean) :: ([.fieldLink RX4 20 "BuriedHalves$Rows" "length" "[I"] ++ wsX40)
def wsX4_hasRun : List Cond := .code yX4_hasRun cX4_hasRun 4 (some .boolean) :: ([.fieldLink RX4 20 "BuriedHalves$Rows" "length" "[I"] ++ wsX40)
def wsX4_makeAnew : List Cond := .code yX4_makeAnew cX4_makeAnew 5 none :: ([.fieldLink RX4 16 "BuriedHalves$Rows" "lane" "[I", .fieldLink RX4 20 "BuriedHalves$Rows" "length" "[I", .fieldLink RX4 11 "BuriedHalves$Rows" "items" "[[I"] ++ wsX40)
def wsX4_put : List Cond := .code yX4_put cX4_put 5 (some .int) :: ([.fieldLink RX4 16 "BuriedHalves$Rows" "lane" "[I", .fieldLink RX4 11 "BuriedHalves$Rows" "items" "[[I"] ++ wsX40)
def wsX4_readRun : List Cond := .code yX4_readRun cX4_readRun 6 none :: ([.fieldLink RX4 11 "BuriedHalves$Rows" "items" "[[I"] ++ wsX40)
def wsX4_countThere : List Cond := .code yX4_countThere cX4_countThere 3 (some .int) :: ([.methodLink RX4 23 yX4_isMissing, .instanceMethod yX4_isMissing, .selects RX4 yX4_isMissing yX4_isMissing, .initialized RX4, .code yX4_isMissing cX4_isMissing 2 (some .boolean), .fieldLink RX4 20 "BuriedHalves$Rows" "length" "[I"] ++ wsX40)
def wsX5_init : List Cond := .code yX5_init cX5_init 1 none :: ([.methodLink RX5 3 objectInit, .instanceMethod objectInit, .code objectInit ⟨#[0xb1]⟩ 1 none, .classLink RX5 9 RX3, .instantiable RX3 12, .initialized RX3, .fieldLink RX5 12 "BuriedHalves$Seer" "then" "LBuriedHalves$Mine;", .arrayClass .int, .fieldLink RX5 18 "BuriedHalves$Seer" "told" "[I", .instanceMethod yX3_init, .code yX3_init cX3_init 1 none, .methodLink RX3 3 objectInit, .fieldLink RX3 9 "BuriedHalves$Mine" "isThere" "Z", .fieldLink RX3 15 "BuriedHalves$Mine" "things" "I", .fieldLink RX3 19 "BuriedHalves$Mine" "men" "I", .fieldLink RX3 22 "BuriedHalves$Mine" "near" "I", .fieldLink RX3 25 "BuriedHalves$Mine" "year" "I", .fieldLink RX3 28 "BuriedHalves$Mine" "dug" "I", .fieldLink RX3 31 "BuriedHalves$Mine" "sort" "[I", .fieldLink RX3 35 "BuriedHalves$Mine" "depth" "[I", .fieldLink RX3 38 "BuriedHalves$Mine" "place" "[I", .fieldLink RX3 41 "BuriedHalves$Mine" "slow" "[I", .fieldLink RX3 44 "BuriedHalves$Mine" "known" "[I", .fieldLink RX3 47 "BuriedHalves$Mine" "rises" "[I"] ++ wsX30 ++ wsX50)
def wsX5_passYears_r1 : List Cond := [Cond.fieldLink RX5 12 "BuriedHalves$Seer" "then" "LBuriedHalves$Mine;", Cond.methodLink RX5 30 yX3_passYear, Cond.instanceMethod yX3_passYear, Cond.selects RX3 yX3_passYear yX3_passYear, Cond.initialized RX3, Cond.code yX3_passYear cX3_passYear 3 (some .boolean), Cond.fieldLink RX3 15 "BuriedHalves$Mine" "things" "I", Cond.fieldLink RX3 47 "BuriedHalves$Mine" "rises" "[I", Cond.fieldLink RX3 35 "BuriedHalves$Mine" "depth" "[I", Cond.fieldLink RX3 25 "BuriedHalves$Mine" "year" "I", Cond.methodLink RX3 75 yX3_riseOf, Cond.instanceMethod yX3_riseOf, Cond.selects RX3 yX3_riseOf yX3_riseOf, Cond.code yX3_riseOf cX3_riseOf 2 (some .int), Cond.fieldLink RX3 31 "BuriedHalves$Mine" "sort" "[I", Cond.methodLink RX3 71 Lib.Math.min.name, Cond.static Lib.Math.min.name, Cond.initialized "java/lang/Math", Cond.code Lib.Math.min.name Lib.Math.min.code 2 (some .int), Cond.methodLink RX3 50 yX3_isUp, Cond.instanceMethod yX3_isUp, Cond.selects RX3 yX3_isUp yX3_isUp, Cond.code yX3_isUp cX3_isUp 2 (some .boolean), Cond.methodLink RX3 65 yX3_ironRise]
def wsX5_passYears_r2 : List Cond := [Cond.instanceMethod yX3_ironRise, Cond.selects RX3 yX3_ironRise yX3_ironRise, Cond.code yX3_ironRise cX3_ironRise 2 (some .int), Cond.fieldLink RX3 41 "BuriedHalves$Mine" "slow" "[I", Cond.methodLink RX3 68 yX3_isCovered, Cond.instanceMethod yX3_isCovered, Cond.selects RX3 yX3_isCovered yX3_isCovered, Cond.code yX3_isCovered cX3_isCovered 3 (some .boolean), Cond.fieldLink RX3 38 "BuriedHalves$Mine" "place" "[I"]
def wsX5_passYears : List Cond := .code yX5_passYears cX5_passYears 3 none :: ((wsX5_passYears_r1 ++ wsX5_passYears_r2) ++ wsX50 ++ wsX30)
def wsX5_behind_r1 : List Cond := [Cond.fieldLink RX5 12 "BuriedHalves$Seer" "then" "LBuriedHalves$Mine;", Cond.methodLink RX5 22 yX3_become, Cond.instanceMethod yX3_become, Cond.selects RX3 yX3_become yX3_become, Cond.initialized RX3, Cond.code yX3_become cX3_become 3 none, Cond.fieldLink RX3 9 "BuriedHalves$Mine" "isThere" "Z", Cond.fieldLink RX3 15 "BuriedHalves$Mine" "things" "I", Cond.fieldLink RX3 19 "BuriedHalves$Mine" "men" "I", Cond.fieldLink RX3 22 "BuriedHalves$Mine" "near" "I", Cond.fieldLink RX3 25 "BuriedHalves$Mine" "year" "I", Cond.fieldLink RX3 28 "BuriedHalves$Mine" "dug" "I", Cond.fieldLink RX3 31 "BuriedHalves$Mine" "sort" "[I", Cond.fieldLink RX3 35 "BuriedHalves$Mine" "depth" "[I", Cond.fieldLink RX3 38 "BuriedHalves$Mine" "place" "[I", Cond.fieldLink RX3 41 "BuriedHalves$Mine" "slow" "[I", Cond.fieldLink RX3 44 "BuriedHalves$Mine" "known" "[I", Cond.methodLink RX5 26 yX5_passYears, Cond.instanceMethod yX5_passYears, Cond.selects RX5 yX5_passYears yX5_passYears, Cond.initialized RX5, Cond.code yX5_passYears cX5_passYears 3 none, Cond.methodLink RX5 30 yX3_passYear, Cond.instanceMethod yX3_passYear]
def wsX5_behind_r2 : List Cond := [Cond.selects RX3 yX3_passYear yX3_passYear, Cond.code yX3_passYear cX3_passYear 3 (some .boolean), Cond.fieldLink RX3 47 "BuriedHalves$Mine" "rises" "[I", Cond.methodLink RX3 75 yX3_riseOf, Cond.instanceMethod yX3_riseOf, Cond.selects RX3 yX3_riseOf yX3_riseOf, Cond.code yX3_riseOf cX3_riseOf 2 (some .int), Cond.methodLink RX3 71 Lib.Math.min.name, Cond.static Lib.Math.min.name, Cond.initialized "java/lang/Math", Cond.code Lib.Math.min.name Lib.Math.min.code 2 (some .int), Cond.methodLink RX3 50 yX3_isUp, Cond.instanceMethod yX3_isUp, Cond.selects RX3 yX3_isUp yX3_isUp, Cond.code yX3_isUp cX3_isUp 2 (some .boolean), Cond.methodLink RX3 65 yX3_ironRise, Cond.instanceMethod yX3_ironRise, Cond.selects RX3 yX3_ironRise yX3_ironRise, Cond.code yX3_ironRise cX3_ironRise 2 (some .int), Cond.methodLink RX3 68 yX3_isCovered, Cond.instanceMethod yX3_isCovered, Cond.selects RX3 yX3_isCovered yX3_isCovered, Cond.code yX3_isCovered cX3_isCovered 3 (some .boolean)]
def wsX5_behind : List Cond := .code yX5_behind cX5_behind 3 (some (.object "BuriedHalves$Mine")) :: ((wsX5_behind_r1 ++ wsX5_behind_r2) ++ wsX50 ++ wsX30)
def wsX5_yearsUntilUp_r1 : List Cond := [Cond.fieldLink RX5 12 "BuriedHalves$Seer" "then" "LBuriedHalves$Mine;", Cond.constant RX5 38 (-1000000), Cond.methodLink RX5 22 yX3_become, Cond.instanceMethod yX3_become, Cond.selects RX3 yX3_become yX3_become, Cond.initialized RX3, Cond.code yX3_become cX3_become 3 none, Cond.fieldLink RX3 9 "BuriedHalves$Mine" "isThere" "Z", Cond.fieldLink RX3 15 "BuriedHalves$Mine" "things" "I", Cond.fieldLink RX3 19 "BuriedHalves$Mine" "men" "I", Cond.fieldLink RX3 22 "BuriedHalves$Mine" "near" "I", Cond.fieldLink RX3 25 "BuriedHalves$Mine" "year" "I", Cond.fieldLink RX3 28 "BuriedHalves$Mine" "dug" "I", Cond.fieldLink RX3 31 "BuriedHalves$Mine" "sort" "[I", Cond.fieldLink RX3 35 "BuriedHalves$Mine" "depth" "[I", Cond.fieldLink RX3 38 "BuriedHalves$Mine" "place" "[I", Cond.fieldLink RX3 41 "BuriedHalves$Mine" "slow" "[I", Cond.fieldLink RX3 44 "BuriedHalves$Mine" "known" "[I", Cond.methodLink RX5 34 yX3_isUp, Cond.instanceMethod yX3_isUp, Cond.selects RX3 yX3_isUp yX3_isUp, Cond.code yX3_isUp cX3_isUp 2 (some .boolean), Cond.methodLink RX5 30 yX3_passYear, Cond.instanceMethod yX3_passYear]
def wsX5_yearsUntilUp_r2 : List Cond := [Cond.selects RX3 yX3_passYear yX3_passYear, Cond.code yX3_passYear cX3_passYear 3 (some .boolean), Cond.fieldLink RX3 47 "BuriedHalves$Mine" "rises" "[I", Cond.methodLink RX3 75 yX3_riseOf, Cond.instanceMethod yX3_riseOf, Cond.selects RX3 yX3_riseOf yX3_riseOf, Cond.code yX3_riseOf cX3_riseOf 2 (some .int), Cond.methodLink RX3 71 Lib.Math.min.name, Cond.static Lib.Math.min.name, Cond.initialized "java/lang/Math", Cond.code Lib.Math.min.name Lib.Math.min.code 2 (some .int), Cond.methodLink RX3 50 yX3_isUp, Cond.methodLink RX3 65 yX3_ironRise, Cond.instanceMethod yX3_ironRise, Cond.selects RX3 yX3_ironRise yX3_ironRise, Cond.code yX3_ironRise cX3_ironRise 2 (some .int), Cond.methodLink RX3 68 yX3_isCovered, Cond.instanceMethod yX3_isCovered, Cond.selects RX3 yX3_isCovered yX3_isCovered, Cond.code yX3_isCovered cX3_isCovered 3 (some .boolean)]
def wsX5_yearsUntilUp : List Cond := .code yX5_yearsUntilUp cX5_yearsUntilUp 4 (some .int) :: ((wsX5_yearsUntilUp_r1 ++ wsX5_yearsUntilUp_r2) ++ wsX50 ++ wsX30)
def wsX7_leastOf : List Cond := .code yX7_leastOf cX7_leastOf 2 (some .int) :: ([.constant RX7 224 (-1000000)])
def wsX5_firstUp_r1 : List Cond := [Cond.fieldLink RX5 12 "BuriedHalves$Seer" "then" "LBuriedHalves$Mine;", Cond.constant RX5 38 (-1000000), Cond.methodLink RX5 39 yX3_allUp, Cond.instanceMethod yX3_allUp, Cond.selects RX3 yX3_allUp yX3_allUp, Cond.initialized RX3, Cond.code yX3_allUp cX3_allUp 3 (some .int), Cond.fieldLink RX3 15 "BuriedHalves$Mine" "things" "I", Cond.methodLink RX3 50 yX3_isUp, Cond.instanceMethod yX3_isUp, Cond.selects RX3 yX3_isUp yX3_isUp, Cond.code yX3_isUp cX3_isUp 2 (some .boolean), Cond.fieldLink RX3 35 "BuriedHalves$Mine" "depth" "[I", Cond.methodLink RX5 22 yX3_become, Cond.instanceMethod yX3_become, Cond.selects RX3 yX3_become yX3_become, Cond.code yX3_become cX3_become 3 none, Cond.fieldLink RX3 9 "BuriedHalves$Mine" "isThere" "Z", Cond.fieldLink RX3 19 "BuriedHalves$Mine" "men" "I", Cond.fieldLink RX3 22 "BuriedHalves$Mine" "near" "I", Cond.fieldLink RX3 25 "BuriedHalves$Mine" "year" "I", Cond.fieldLink RX3 28 "BuriedHalves$Mine" "dug" "I", Cond.fieldLink RX3 31 "BuriedHalves$Mine" "sort" "[I", Cond.fieldLink RX3 38 "BuriedHalves$Mine" "place" "[I"]
def wsX5_firstUp_r2 : List Cond := [Cond.fieldLink RX3 41 "BuriedHalves$Mine" "slow" "[I", Cond.fieldLink RX3 44 "BuriedHalves$Mine" "known" "[I", Cond.methodLink RX5 30 yX3_passYear, Cond.instanceMethod yX3_passYear, Cond.selects RX3 yX3_passYear yX3_passYear, Cond.code yX3_passYear cX3_passYear 3 (some .boolean), Cond.fieldLink RX3 47 "BuriedHalves$Mine" "rises" "[I", Cond.methodLink RX3 75 yX3_riseOf, Cond.instanceMethod yX3_riseOf, Cond.selects RX3 yX3_riseOf yX3_riseOf, Cond.code yX3_riseOf cX3_riseOf 2 (some .int), Cond.methodLink RX3 71 Lib.Math.min.name, Cond.static Lib.Math.min.name, Cond.initialized "java/lang/Math", Cond.code Lib.Math.min.name Lib.Math.min.code 2 (some .int), Cond.methodLink RX3 65 yX3_ironRise, Cond.instanceMethod yX3_ironRise, Cond.selects RX3 yX3_ironRise yX3_ironRise, Cond.code yX3_ironRise cX3_ironRise 2 (some .int), Cond.methodLink RX3 68 yX3_isCovered, Cond.instanceMethod yX3_isCovered, Cond.selects RX3 yX3_isCovered yX3_isCovered, Cond.code yX3_isCovered cX3_isCovered 3 (some .boolean), Cond.static yX7_leastOf]
def wsX5_firstUp_r3 : List Cond := [Cond.initialized RX7, Cond.code yX7_leastOf cX7_leastOf 2 (some .int), Cond.constant RX7 224 (-1000000)]
def wsX5_firstUp : List Cond := .code yX5_firstUp cX5_firstUp 6 (some .int) :: ((wsX5_firstUp_r1 ++ (wsX5_firstUp_r2 ++ wsX5_firstUp_r3)) ++ wsX50 ++ wsX30)
def wsX5_firstTrouble_r1 : List Cond := [Cond.fieldLink RX5 12 "BuriedHalves$Seer" "then" "LBuriedHalves$Mine;", Cond.constant RX5 38 (-1000000), Cond.methodLink RX5 22 yX3_become, Cond.instanceMethod yX3_become, Cond.selects RX3 yX3_become yX3_become, Cond.initialized RX3, Cond.code yX3_become cX3_become 3 none, Cond.fieldLink RX3 9 "BuriedHalves$Mine" "isThere" "Z", Cond.fieldLink RX3 15 "BuriedHalves$Mine" "things" "I", Cond.fieldLink RX3 19 "BuriedHalves$Mine" "men" "I", Cond.fieldLink RX3 22 "BuriedHalves$Mine" "near" "I", Cond.fieldLink RX3 25 "BuriedHalves$Mine" "year" "I", Cond.fieldLink RX3 28 "BuriedHalves$Mine" "dug" "I", Cond.fieldLink RX3 31 "BuriedHalves$Mine" "sort" "[I", Cond.fieldLink RX3 35 "BuriedHalves$Mine" "depth" "[I", Cond.fieldLink RX3 38 "BuriedHalves$Mine" "place" "[I", Cond.fieldLink RX3 41 "BuriedHalves$Mine" "slow" "[I", Cond.fieldLink RX3 44 "BuriedHalves$Mine" "known" "[I", Cond.methodLink RX5 47 yX3_firstTooNear, Cond.instanceMethod yX3_firstTooNear, Cond.selects RX3 yX3_firstTooNear yX3_firstTooNear, Cond.code yX3_firstTooNear cX3_firstTooNear 3 (some .int), Cond.constant RX3 64 (-1000000), Cond.methodLink RX3 60 yX3_areTooNear]
def wsX5_firstTrouble_r2 : List Cond := [Cond.instanceMethod yX3_areTooNear, Cond.selects RX3 yX3_areTooNear yX3_areTooNear, Cond.code yX3_areTooNear cX3_areTooNear 3 (some .boolean), Cond.methodLink RX3 54 Lib.Math.abs.name, Cond.static Lib.Math.abs.name, Cond.initialized "java/lang/Math", Cond.code Lib.Math.abs.name Lib.Math.abs.code 1 (some .int), Cond.methodLink RX3 50 yX3_isUp, Cond.instanceMethod yX3_isUp, Cond.selects RX3 yX3_isUp yX3_isUp, Cond.code yX3_isUp cX3_isUp 2 (some .boolean), Cond.methodLink RX5 30 yX3_passYear, Cond.instanceMethod yX3_passYear, Cond.selects RX3 yX3_passYear yX3_passYear, Cond.code yX3_passYear cX3_passYear 3 (some .boolean), Cond.fieldLink RX3 47 "BuriedHalves$Mine" "rises" "[I", Cond.methodLink RX3 75 yX3_riseOf, Cond.instanceMethod yX3_riseOf, Cond.selects RX3 yX3_riseOf yX3_riseOf, Cond.code yX3_riseOf cX3_riseOf 2 (some .int), Cond.methodLink RX3 71 Lib.Math.min.name, Cond.static Lib.Math.min.name, Cond.code Lib.Math.min.name Lib.Math.min.code 2 (some .int), Cond.methodLink RX3 65 yX3_ironRise]
def wsX5_firstTrouble_r3 : List Cond := [Cond.instanceMethod yX3_ironRise, Cond.selects RX3 yX3_ironRise yX3_ironRise, Cond.code yX3_ironRise cX3_ironRise 2 (some .int), Cond.methodLink RX3 68 yX3_isCovered, Cond.instanceMethod yX3_isCovered, Cond.selects RX3 yX3_isCovered yX3_isCovered, Cond.code yX3_isCovered cX3_isCovered 3 (some .boolean)]
def wsX5_firstTrouble : List Cond := .code yX5_firstTrouble cX5_firstTrouble 5 (some .int) :: ((wsX5_firstTrouble_r1 ++ (wsX5_firstTrouble_r2 ++ wsX5_firstTrouble_r3)) ++ wsX50 ++ wsX30)
def wsX5_leastDepth_r1 : List Cond := [Cond.fieldLink RX5 12 "BuriedHalves$Seer" "then" "LBuriedHalves$Mine;", Cond.fieldLink RX5 50 "BuriedHalves$Mine" "depth" "[I", Cond.constant RX5 38 (-1000000), Cond.methodLink RX5 22 yX3_become, Cond.instanceMethod yX3_become, Cond.selects RX3 yX3_become yX3_become, Cond.initialized RX3, Cond.code yX3_become cX3_become 3 none, Cond.fieldLink RX3 9 "BuriedHalves$Mine" "isThere" "Z", Cond.fieldLink RX3 15 "BuriedHalves$Mine" "things" "I", Cond.fieldLink RX3 19 "BuriedHalves$Mine" "men" "I", Cond.fieldLink RX3 22 "BuriedHalves$Mine" "near" "I", Cond.fieldLink RX3 25 "BuriedHalves$Mine" "year" "I", Cond.fieldLink RX3 28 "BuriedHalves$Mine" "dug" "I", Cond.fieldLink RX3 31 "BuriedHalves$Mine" "sort" "[I", Cond.fieldLink RX3 35 "BuriedHalves$Mine" "depth" "[I", Cond.fieldLink RX3 38 "BuriedHalves$Mine" "place" "[I", Cond.fieldLink RX3 41 "BuriedHalves$Mine" "slow" "[I", Cond.fieldLink RX3 44 "BuriedHalves$Mine" "known" "[I", Cond.methodLink RX5 26 yX5_passYears, Cond.instanceMethod yX5_passYears, Cond.selects RX5 yX5_passYears yX5_passYears, Cond.initialized RX5, Cond.code yX5_passYears cX5_passYears 3 none]
def wsX5_leastDepth_r2 : List Cond := [Cond.methodLink RX5 30 yX3_passYear, Cond.instanceMethod yX3_passYear, Cond.selects RX3 yX3_passYear yX3_passYear, Cond.code yX3_passYear cX3_passYear 3 (some .boolean), Cond.fieldLink RX3 47 "BuriedHalves$Mine" "rises" "[I", Cond.methodLink RX3 75 yX3_riseOf, Cond.instanceMethod yX3_riseOf, Cond.selects RX3 yX3_riseOf yX3_riseOf, Cond.code yX3_riseOf cX3_riseOf 2 (some .int), Cond.methodLink RX3 71 Lib.Math.min.name, Cond.static Lib.Math.min.name, Cond.initialized "java/lang/Math", Cond.code Lib.Math.min.name Lib.Math.min.code 2 (some .int), Cond.methodLink RX3 50 yX3_isUp, Cond.instanceMethod yX3_isUp, Cond.selects RX3 yX3_isUp yX3_isUp, Cond.code yX3_isUp cX3_isUp 2 (some .boolean), Cond.methodLink RX3 65 yX3_ironRise, Cond.instanceMethod yX3_ironRise, Cond.selects RX3 yX3_ironRise yX3_ironRise, Cond.code yX3_ironRise cX3_ironRise 2 (some .int), Cond.methodLink RX3 68 yX3_isCovered, Cond.instanceMethod yX3_isCovered, Cond.selects RX3 yX3_isCovered yX3_isCovered]
def wsX5_leastDepth_r3 : List Cond := [Cond.code yX3_isCovered cX3_isCovered 3 (some .boolean), Cond.methodLink RX5 34 yX3_isUp]
def wsX5_leastDepth : List Cond := .code yX5_leastDepth cX5_leastDepth 5 (some .int) :: ((wsX5_leastDepth_r1 ++ (wsX5_leastDepth_r2 ++ wsX5_leastDepth_r3)) ++ wsX50 ++ wsX30)
def wsX5_goesAsTold_r1 : List Cond := [Cond.fieldLink RX5 12 "BuriedHalves$Seer" "then" "LBuriedHalves$Mine;", Cond.fieldLink RX5 50 "BuriedHalves$Mine" "depth" "[I", Cond.fieldLink RX5 18 "BuriedHalves$Seer" "told" "[I", Cond.methodLink RX5 30 yX3_passYear, Cond.instanceMethod yX3_passYear, Cond.selects RX3 yX3_passYear yX3_passYear, Cond.initialized RX3, Cond.code yX3_passYear cX3_passYear 3 (some .boolean), Cond.fieldLink RX3 15 "BuriedHalves$Mine" "things" "I", Cond.fieldLink RX3 47 "BuriedHalves$Mine" "rises" "[I", Cond.fieldLink RX3 35 "BuriedHalves$Mine" "depth" "[I", Cond.fieldLink RX3 25 "BuriedHalves$Mine" "year" "I", Cond.methodLink RX3 75 yX3_riseOf, Cond.instanceMethod yX3_riseOf, Cond.selects RX3 yX3_riseOf yX3_riseOf, Cond.code yX3_riseOf cX3_riseOf 2 (some .int), Cond.fieldLink RX3 31 "BuriedHalves$Mine" "sort" "[I", Cond.methodLink RX3 71 Lib.Math.min.name, Cond.static Lib.Math.min.name, Cond.initialized "java/lang/Math", Cond.code Lib.Math.min.name Lib.Math.min.code 2 (some .int), Cond.methodLink RX3 50 yX3_isUp, Cond.instanceMethod yX3_isUp, Cond.selects RX3 yX3_isUp yX3_isUp]
def wsX5_goesAsTold_r2 : List Cond := [Cond.code yX3_isUp cX3_isUp 2 (some .boolean), Cond.methodLink RX3 65 yX3_ironRise, Cond.instanceMethod yX3_ironRise, Cond.selects RX3 yX3_ironRise yX3_ironRise, Cond.code yX3_ironRise cX3_ironRise 2 (some .int), Cond.fieldLink RX3 41 "BuriedHalves$Mine" "slow" "[I", Cond.methodLink RX3 68 yX3_isCovered, Cond.instanceMethod yX3_isCovered, Cond.selects RX3 yX3_isCovered yX3_isCovered, Cond.code yX3_isCovered cX3_isCovered 3 (some .boolean), Cond.fieldLink RX3 38 "BuriedHalves$Mine" "place" "[I", Cond.methodLink RX5 66 yX3_nearTo, Cond.instanceMethod yX3_nearTo, Cond.selects RX3 yX3_nearTo yX3_nearTo, Cond.code yX3_nearTo cX3_nearTo 4 (some .int), Cond.methodLink RX3 60 yX3_areTooNear, Cond.instanceMethod yX3_areTooNear, Cond.selects RX3 yX3_areTooNear yX3_areTooNear, Cond.code yX3_areTooNear cX3_areTooNear 3 (some .boolean), Cond.methodLink RX3 54 Lib.Math.abs.name, Cond.static Lib.Math.abs.name, Cond.code Lib.Math.abs.name Lib.Math.abs.code 1 (some .int), Cond.fieldLink RX3 22 "BuriedHalves$Mine" "near" "I"]
def wsX5_goesAsTold : List Cond := .code yX5_goesAsTold cX5_goesAsTold 6 (some .boolean) :: ((wsX5_goesAsTold_r1 ++ wsX5_goesAsTold_r2) ++ wsX50 ++ wsX30)
def wsX5_thatFit_r1 : List Cond := [Cond.fieldLink RX5 12 "BuriedHalves$Seer" "then" "LBuriedHalves$Mine;", Cond.fieldLink RX5 53 "BuriedHalves$Mine" "sort" "[I", Cond.fieldLink RX5 56 "BuriedHalves$Mine" "slow" "[I", Cond.fieldLink RX5 59 "BuriedHalves$Mine" "place" "[I", Cond.methodLink RX5 22 yX3_become, Cond.instanceMethod yX3_become, Cond.selects RX3 yX3_become yX3_become, Cond.initialized RX3, Cond.code yX3_become cX3_become 3 none, Cond.fieldLink RX3 9 "BuriedHalves$Mine" "isThere" "Z", Cond.fieldLink RX3 15 "BuriedHalves$Mine" "things" "I", Cond.fieldLink RX3 19 "BuriedHalves$Mine" "men" "I", Cond.fieldLink RX3 22 "BuriedHalves$Mine" "near" "I", Cond.fieldLink RX3 25 "BuriedHalves$Mine" "year" "I", Cond.fieldLink RX3 28 "BuriedHalves$Mine" "dug" "I", Cond.fieldLink RX3 31 "BuriedHalves$Mine" "sort" "[I", Cond.fieldLink RX3 35 "BuriedHalves$Mine" "depth" "[I", Cond.fieldLink RX3 38 "BuriedHalves$Mine" "place" "[I", Cond.fieldLink RX3 41 "BuriedHalves$Mine" "slow" "[I", Cond.fieldLink RX3 44 "BuriedHalves$Mine" "known" "[I", Cond.methodLink RX5 62 yX5_goesAsTold, Cond.instanceMethod yX5_goesAsTold, Cond.selects RX5 yX5_goesAsTold yX5_goesAsTold, Cond.initialized RX5]
def wsX5_thatFit_r2 : List Cond := [Cond.code yX5_goesAsTold cX5_goesAsTold 6 (some .boolean), Cond.fieldLink RX5 50 "BuriedHalves$Mine" "depth" "[I", Cond.fieldLink RX5 18 "BuriedHalves$Seer" "told" "[I", Cond.methodLink RX5 30 yX3_passYear, Cond.instanceMethod yX3_passYear, Cond.selects RX3 yX3_passYear yX3_passYear, Cond.code yX3_passYear cX3_passYear 3 (some .boolean), Cond.fieldLink RX3 47 "BuriedHalves$Mine" "rises" "[I", Cond.methodLink RX3 75 yX3_riseOf, Cond.instanceMethod yX3_riseOf, Cond.selects RX3 yX3_riseOf yX3_riseOf, Cond.code yX3_riseOf cX3_riseOf 2 (some .int), Cond.methodLink RX3 71 Lib.Math.min.name, Cond.static Lib.Math.min.name, Cond.initialized "java/lang/Math", Cond.code Lib.Math.min.name Lib.Math.min.code 2 (some .int), Cond.methodLink RX3 50 yX3_isUp, Cond.instanceMethod yX3_isUp, Cond.selects RX3 yX3_isUp yX3_isUp, Cond.code yX3_isUp cX3_isUp 2 (some .boolean), Cond.methodLink RX3 65 yX3_ironRise, Cond.instanceMethod yX3_ironRise, Cond.selects RX3 yX3_ironRise yX3_ironRise, Cond.code yX3_ironRise cX3_ironRise 2 (some .int)]
def wsX5_thatFit_r3 : List Cond := [Cond.methodLink RX3 68 yX3_isCovered, Cond.instanceMethod yX3_isCovered, Cond.selects RX3 yX3_isCovered yX3_isCovered, Cond.code yX3_isCovered cX3_isCovered 3 (some .boolean), Cond.methodLink RX5 66 yX3_nearTo, Cond.instanceMethod yX3_nearTo, Cond.selects RX3 yX3_nearTo yX3_nearTo, Cond.code yX3_nearTo cX3_nearTo 4 (some .int), Cond.methodLink RX3 60 yX3_areTooNear, Cond.instanceMethod yX3_areTooNear, Cond.selects RX3 yX3_areTooNear yX3_areTooNear, Cond.code yX3_areTooNear cX3_areTooNear 3 (some .boolean), Cond.methodLink RX3 54 Lib.Math.abs.name, Cond.static Lib.Math.abs.name, Cond.code Lib.Math.abs.name Lib.Math.abs.code 1 (some .int)]
def wsX5_thatFit : List Cond := .code yX5_thatFit cX5_thatFit 9 (some .int) :: ((wsX5_thatFit_r1 ++ (wsX5_thatFit_r2 ++ wsX5_thatFit_r3)) ++ wsX50 ++ wsX30)
def wsX5_weightOfAll : List Cond := .code yX5_weightOfAll cX5_weightOfAll 4 (some .int) :: ([.fieldLink RX5 69 "BuriedHalves$Mine" "things" "I", .methodLink RX5 34 yX3_isUp, .instanceMethod yX3_isUp, .selects RX3 yX3_isUp yX3_isUp, .initialized RX3, .code yX3_isUp cX3_isUp 2 (some .boolean), .fieldLink RX3 35 "BuriedHalves$Mine" "depth" "[I"] ++ wsX30)
def wsX5_weightOf : List Cond := .code yX5_weightOf cX5_weightOf 6 (some .int) :: ([.fieldLink RX5 69 "BuriedHalves$Mine" "things" "I", .methodLink RX5 39 yX3_allUp, .instanceMethod yX3_allUp, .selects RX3 yX3_allUp yX3_allUp, .initialized RX3, .code yX3_allUp cX3_allUp 3 (some .int), .fieldLink RX3 15 "BuriedHalves$Mine" "things" "I", .methodLink RX3 50 yX3_isUp, .instanceMethod yX3_isUp, .selects RX3 yX3_isUp yX3_isUp, .code yX3_isUp cX3_isUp 2 (some .boolean), .fieldLink RX3 35 "BuriedHalves$Mine" "depth" "[I", .methodLink RX5 34 yX3_isUp] ++ wsX30)
def wsX5_letDig : List Cond := .code yX5_letDig cX5_letDig 3 none :: ([.fieldLink RX5 12 "BuriedHalves$Seer" "then" "LBuriedHalves$Mine;", .fieldLink RX5 69 "BuriedHalves$Mine" "things" "I", .fieldLink RX5 50 "BuriedHalves$Mine" "depth" "[I"] ++ wsX50 ++ wsX30)
def wsX5_weightOfNoneUp_r1 : List Cond := [Cond.fieldLink RX5 69 "BuriedHalves$Mine" "things" "I", Cond.fieldLink RX5 12 "BuriedHalves$Seer" "then" "LBuriedHalves$Mine;", Cond.methodLink RX5 39 yX3_allUp, Cond.instanceMethod yX3_allUp, Cond.selects RX3 yX3_allUp yX3_allUp, Cond.initialized RX3, Cond.code yX3_allUp cX3_allUp 3 (some .int), Cond.fieldLink RX3 15 "BuriedHalves$Mine" "things" "I", Cond.methodLink RX3 50 yX3_isUp, Cond.instanceMethod yX3_isUp, Cond.selects RX3 yX3_isUp yX3_isUp, Cond.code yX3_isUp cX3_isUp 2 (some .boolean), Cond.fieldLink RX3 35 "BuriedHalves$Mine" "depth" "[I", Cond.methodLink RX5 73 yX5_weightOf, Cond.instanceMethod yX5_weightOf, Cond.selects RX5 yX5_weightOf yX5_weightOf, Cond.initialized RX5, Cond.code yX5_weightOf cX5_weightOf 6 (some .int), Cond.methodLink RX5 34 yX3_isUp, Cond.methodLink RX5 22 yX3_become, Cond.instanceMethod yX3_become, Cond.selects RX3 yX3_become yX3_become, Cond.code yX3_become cX3_become 3 none, Cond.fieldLink RX3 9 "BuriedHalves$Mine" "isThere" "Z"]
def wsX5_weightOfNoneUp_r2 : List Cond := [Cond.fieldLink RX3 19 "BuriedHalves$Mine" "men" "I", Cond.fieldLink RX3 22 "BuriedHalves$Mine" "near" "I", Cond.fieldLink RX3 25 "BuriedHalves$Mine" "year" "I", Cond.fieldLink RX3 28 "BuriedHalves$Mine" "dug" "I", Cond.fieldLink RX3 31 "BuriedHalves$Mine" "sort" "[I", Cond.fieldLink RX3 38 "BuriedHalves$Mine" "place" "[I", Cond.fieldLink RX3 41 "BuriedHalves$Mine" "slow" "[I", Cond.fieldLink RX3 44 "BuriedHalves$Mine" "known" "[I", Cond.methodLink RX5 77 yX5_letDig, Cond.instanceMethod yX5_letDig, Cond.selects RX5 yX5_letDig yX5_letDig, Cond.code yX5_letDig cX5_letDig 3 none, Cond.fieldLink RX5 50 "BuriedHalves$Mine" "depth" "[I", Cond.methodLink RX5 26 yX5_passYears, Cond.instanceMethod yX5_passYears, Cond.selects RX5 yX5_passYears yX5_passYears, Cond.code yX5_passYears cX5_passYears 3 none, Cond.methodLink RX5 30 yX3_passYear, Cond.instanceMethod yX3_passYear, Cond.selects RX3 yX3_passYear yX3_passYear, Cond.code yX3_passYear cX3_passYear 3 (some .boolean), Cond.fieldLink RX3 47 "BuriedHalves$Mine" "rises" "[I", Cond.methodLink RX3 75 yX3_riseOf, Cond.instanceMethod yX3_riseOf]
def wsX5_weightOfNoneUp_r3 : List Cond := [Cond.selects RX3 yX3_riseOf yX3_riseOf, Cond.code yX3_riseOf cX3_riseOf 2 (some .int), Cond.methodLink RX3 71 Lib.Math.min.name, Cond.static Lib.Math.min.name, Cond.initialized "java/lang/Math", Cond.code Lib.Math.min.name Lib.Math.min.code 2 (some .int), Cond.methodLink RX3 65 yX3_ironRise, Cond.instanceMethod yX3_ironRise, Cond.selects RX3 yX3_ironRise yX3_ironRise, Cond.code yX3_ironRise cX3_ironRise 2 (some .int), Cond.methodLink RX3 68 yX3_isCovered, Cond.instanceMethod yX3_isCovered, Cond.selects RX3 yX3_isCovered yX3_isCovered, Cond.code yX3_isCovered cX3_isCovered 3 (some .boolean)]
def wsX5_weightOfNoneUp : List Cond := .code yX5_weightOfNoneUp cX5_weightOfNoneUp 8 (some .int) :: ((wsX5_weightOfNoneUp_r1 ++ (wsX5_weightOfNoneUp_r2 ++ wsX5_weightOfNoneUp_r3)) ++ wsX30 ++ wsX50)
def wsX6_init : List Cond := .code yX6_init cX6_init 1 none :: ([.methodLink RX6 3 objectInit, .instanceMethod objectInit, .code objectInit ⟨#[0xb1]⟩ 1 none, .arrayClass .int, .fieldLink RX6 9 "BuriedHalves$Text" "bytes" "[I", .fieldLink RX6 15 "BuriedHalves$Text" "length" "I", .fieldLink RX6 19 "BuriedHalves$Text" "at" "I", .fieldLink RX6 22 "BuriedHalves$Text" "fault" "I"] ++ wsX60)
def wsX6_append : List Cond := .code yX6_append cX6_append 2 none :: ([.fieldLink RX6 15 "BuriedHalves$Text" "length" "I", .fieldLink RX6 9 "BuriedHalves$Text" "bytes" "[I"] ++ wsX60)
def wsX6_byteAt : List Cond := .code yX6_byteAt cX6_byteAt 2 (some .int) :: ([.fieldLink RX6 15 "BuriedHalves$Text" "length" "I", .fieldLink RX6 9 "BuriedHalves$Text" "bytes" "[I"] ++ wsX60)
def wsX6_next : List Cond := .code yX6_next cX6_next 1 (some .int) :: ([.fieldLink RX6 19 "BuriedHalves$Text" "at" "I", .methodLink RX6 87 yX6_byteAt, .instanceMethod yX6_byteAt, .selects RX6 yX6_byteAt yX6_byteAt, .initialized RX6, .code yX6_byteAt cX6_byteAt 2 (some .int), .fieldLink RX6 15 "BuriedHalves$Text" "length" "I", .fieldLink RX6 9 "BuriedHalves$Text" "bytes" "[I"] ++ wsX60)
def wsX6_fail : List Cond := .code yX6_fail cX6_fail 2 none :: ([.fieldLink RX6 22 "BuriedHalves$Text" "fault" "I"] ++ wsX60)
def wsX6_pass : List Cond := .code yX6_pass cX6_pass 2 none :: ([.fieldLink RX6 22 "BuriedHalves$Text" "fault" "I", .fieldLink RX6 19 "BuriedHalves$Text" "at" "I", .methodLink RX6 61 yX6_next, .instanceMethod yX6_next, .selects RX6 yX6_next yX6_next, .initialized RX6, .code yX6_next cX6_next 1 (some .int), .methodLink RX6 87 yX6_byteAt, .instanceMethod yX6_byteAt, .selects RX6 yX6_byteAt yX6_byteAt, .code yX6_byteAt cX6_byteAt 2 (some .int), .fieldLink RX6 15 "BuriedHalves$Text" "length" "I", .fieldLink RX6 9 "BuriedHalves$Text" "bytes" "[I", .methodLink RX6 69 yX6_fail, .instanceMethod yX6_fail, .selects RX6 yX6_fail yX6_fail, .code yX6_fail cX6_fail 2 none] ++ wsX60)
end
section
def wsX6_isFigure : List Cond := .code yX6_isFigure cX6_isFigure 2 (some .boolean) :: ([])
def wsX6_number : List Cond := .code yX6_number cX6_number 6 (some .int) :: ([.fieldLink RX6 22 "BuriedHalves$Text" "fault" "I", .fieldLink RX6 19 "BuriedHalves$Text" "at" "I", .methodLink RX6 87 yX6_byteAt, .instanceMethod yX6_byteAt, .selects RX6 yX6_byteAt yX6_byteAt, .initialized RX6, .code yX6_byteAt cX6_byteAt 2 (some .int), .fieldLink RX6 15 "BuriedHalves$Text" "length" "I", .fieldLink RX6 9 "BuriedHalves$Text" "bytes" "[I", .methodLink RX6 90 yX6_isFigure, .instanceMethod yX6_isFigure, .selects RX6 yX6_isFigure yX6_isFigure, .code yX6_isFigure cX6_isFigure 2 (some .boolean), .methodLink RX6 69 yX6_fail, .instanceMethod yX6_fail, .selects RX6 yX6_fail yX6_fail, .code yX6_fail cX6_fail 2 none] ++ wsX60)
def wsX6_readLaw_r1 : List Cond := [Cond.fieldLink RX6 55 "BuriedHalves$Mine" "near" "I", Cond.fieldLink RX6 58 "BuriedHalves$Mine" "men" "I", Cond.methodLink RX6 47 yX6_pass, Cond.instanceMethod yX6_pass, Cond.selects RX6 yX6_pass yX6_pass, Cond.initialized RX6, Cond.code yX6_pass cX6_pass 2 none, Cond.fieldLink RX6 22 "BuriedHalves$Text" "fault" "I", Cond.fieldLink RX6 19 "BuriedHalves$Text" "at" "I", Cond.methodLink RX6 61 yX6_next, Cond.instanceMethod yX6_next, Cond.selects RX6 yX6_next yX6_next, Cond.code yX6_next cX6_next 1 (some .int), Cond.methodLink RX6 87 yX6_byteAt, Cond.instanceMethod yX6_byteAt, Cond.selects RX6 yX6_byteAt yX6_byteAt, Cond.code yX6_byteAt cX6_byteAt 2 (some .int), Cond.fieldLink RX6 15 "BuriedHalves$Text" "length" "I", Cond.fieldLink RX6 9 "BuriedHalves$Text" "bytes" "[I", Cond.methodLink RX6 69 yX6_fail, Cond.instanceMethod yX6_fail, Cond.selects RX6 yX6_fail yX6_fail, Cond.code yX6_fail cX6_fail 2 none, Cond.methodLink RX6 51 yX6_number]
def wsX6_readLaw_r2 : List Cond := [Cond.instanceMethod yX6_number, Cond.selects RX6 yX6_number yX6_number, Cond.code yX6_number cX6_number 6 (some .int), Cond.methodLink RX6 90 yX6_isFigure, Cond.instanceMethod yX6_isFigure, Cond.selects RX6 yX6_isFigure yX6_isFigure, Cond.code yX6_isFigure cX6_isFigure 2 (some .boolean)]
def wsX6_readLaw : List Cond := .code yX6_readLaw cX6_readLaw 2 none :: ((wsX6_readLaw_r1 ++ wsX6_readLaw_r2) ++ wsX30 ++ wsX60)
def wsX6_sortOf : List Cond := .code yX6_sortOf cX6_sortOf 1 (some .int) :: ([])
def wsX6_readThing_r1 : List Cond := [Cond.fieldLink RX6 31 "BuriedHalves$Mine" "things" "I", Cond.fieldLink RX6 19 "BuriedHalves$Text" "at" "I", Cond.fieldLink RX6 72 "BuriedHalves$Mine" "sort" "[I", Cond.fieldLink RX6 75 "BuriedHalves$Mine" "depth" "[I", Cond.fieldLink RX6 78 "BuriedHalves$Mine" "place" "[I", Cond.fieldLink RX6 81 "BuriedHalves$Mine" "slow" "[I", Cond.fieldLink RX6 84 "BuriedHalves$Mine" "known" "[I", Cond.fieldLink RX6 58 "BuriedHalves$Mine" "men" "I", Cond.methodLink RX6 61 yX6_next, Cond.instanceMethod yX6_next, Cond.selects RX6 yX6_next yX6_next, Cond.initialized RX6, Cond.code yX6_next cX6_next 1 (some .int), Cond.methodLink RX6 87 yX6_byteAt, Cond.instanceMethod yX6_byteAt, Cond.selects RX6 yX6_byteAt yX6_byteAt, Cond.code yX6_byteAt cX6_byteAt 2 (some .int), Cond.fieldLink RX6 15 "BuriedHalves$Text" "length" "I", Cond.fieldLink RX6 9 "BuriedHalves$Text" "bytes" "[I", Cond.methodLink RX6 65 yX6_sortOf, Cond.static yX6_sortOf, Cond.code yX6_sortOf cX6_sortOf 1 (some .int), Cond.methodLink RX6 69 yX6_fail, Cond.instanceMethod yX6_fail]
def wsX6_readThing_r2 : List Cond := [Cond.selects RX6 yX6_fail yX6_fail, Cond.code yX6_fail cX6_fail 2 none, Cond.fieldLink RX6 22 "BuriedHalves$Text" "fault" "I", Cond.methodLink RX6 51 yX6_number, Cond.instanceMethod yX6_number, Cond.selects RX6 yX6_number yX6_number, Cond.code yX6_number cX6_number 6 (some .int), Cond.methodLink RX6 90 yX6_isFigure, Cond.instanceMethod yX6_isFigure, Cond.selects RX6 yX6_isFigure yX6_isFigure, Cond.code yX6_isFigure cX6_isFigure 2 (some .boolean), Cond.methodLink RX6 47 yX6_pass, Cond.instanceMethod yX6_pass, Cond.selects RX6 yX6_pass yX6_pass, Cond.code yX6_pass cX6_pass 2 none]
def wsX6_readThing : List Cond := .code yX6_readThing cX6_readThing 4 none :: ((wsX6_readThing_r1 ++ wsX6_readThing_r2) ++ wsX30 ++ wsX60)
def wsX6_readInto_r1 : List Cond := [Cond.fieldLink RX6 19 "BuriedHalves$Text" "at" "I", Cond.fieldLink RX6 22 "BuriedHalves$Text" "fault" "I", Cond.fieldLink RX6 25 "BuriedHalves$Mine" "isThere" "Z", Cond.fieldLink RX6 31 "BuriedHalves$Mine" "things" "I", Cond.fieldLink RX6 34 "BuriedHalves$Mine" "year" "I", Cond.fieldLink RX6 37 "BuriedHalves$Mine" "dug" "I", Cond.fieldLink RX6 15 "BuriedHalves$Text" "length" "I", Cond.methodLink RX6 40 yX6_readLaw, Cond.instanceMethod yX6_readLaw, Cond.selects RX6 yX6_readLaw yX6_readLaw, Cond.initialized RX6, Cond.code yX6_readLaw cX6_readLaw 2 none, Cond.fieldLink RX6 55 "BuriedHalves$Mine" "near" "I", Cond.fieldLink RX6 58 "BuriedHalves$Mine" "men" "I", Cond.methodLink RX6 47 yX6_pass, Cond.instanceMethod yX6_pass, Cond.selects RX6 yX6_pass yX6_pass, Cond.code yX6_pass cX6_pass 2 none, Cond.methodLink RX6 61 yX6_next, Cond.instanceMethod yX6_next, Cond.selects RX6 yX6_next yX6_next, Cond.code yX6_next cX6_next 1 (some .int), Cond.methodLink RX6 87 yX6_byteAt, Cond.instanceMethod yX6_byteAt]
def wsX6_readInto_r2 : List Cond := [Cond.selects RX6 yX6_byteAt yX6_byteAt, Cond.code yX6_byteAt cX6_byteAt 2 (some .int), Cond.fieldLink RX6 9 "BuriedHalves$Text" "bytes" "[I", Cond.methodLink RX6 69 yX6_fail, Cond.instanceMethod yX6_fail, Cond.selects RX6 yX6_fail yX6_fail, Cond.code yX6_fail cX6_fail 2 none, Cond.methodLink RX6 51 yX6_number, Cond.instanceMethod yX6_number, Cond.selects RX6 yX6_number yX6_number, Cond.code yX6_number cX6_number 6 (some .int), Cond.methodLink RX6 90 yX6_isFigure, Cond.instanceMethod yX6_isFigure, Cond.selects RX6 yX6_isFigure yX6_isFigure, Cond.code yX6_isFigure cX6_isFigure 2 (some .boolean), Cond.methodLink RX6 44 yX6_readThing, Cond.instanceMethod yX6_readThing, Cond.selects RX6 yX6_readThing yX6_readThing, Cond.code yX6_readThing cX6_readThing 4 none, Cond.fieldLink RX6 72 "BuriedHalves$Mine" "sort" "[I", Cond.fieldLink RX6 75 "BuriedHalves$Mine" "depth" "[I", Cond.fieldLink RX6 78 "BuriedHalves$Mine" "place" "[I", Cond.fieldLink RX6 81 "BuriedHalves$Mine" "slow" "[I", Cond.fieldLink RX6 84 "BuriedHalves$Mine" "known" "[I"]
def wsX6_readInto_r3 : List Cond := [Cond.methodLink RX6 65 yX6_sortOf, Cond.static yX6_sortOf, Cond.code yX6_sortOf cX6_sortOf 1 (some .int)]
def wsX6_readInto : List Cond := .code yX6_readInto cX6_readInto 3 (some .int) :: ((wsX6_readInto_r1 ++ (wsX6_readInto_r2 ++ wsX6_readInto_r3)) ++ wsX60 ++ wsX30)
def wsX7_init_r1 : List Cond := [Cond.methodLink RX7 1 objectInit, Cond.instanceMethod objectInit, Cond.code objectInit ⟨#[0xb1]⟩ 1 none, Cond.classLink RX7 7 RX4, Cond.instantiable RX4 3, Cond.initialized RX4, Cond.fieldLink RX7 10 "BuriedHalves" "rows" "LBuriedHalves$Rows;", Cond.classLink RX7 16 RX6, Cond.instantiable RX6 4, Cond.initialized RX6, Cond.fieldLink RX7 19 "BuriedHalves" "text" "LBuriedHalves$Text;", Cond.classLink RX7 23 RX3, Cond.instantiable RX3 12, Cond.initialized RX3, Cond.fieldLink RX7 26 "BuriedHalves" "now" "LBuriedHalves$Mine;", Cond.fieldLink RX7 30 "BuriedHalves" "draft" "LBuriedHalves$Mine;", Cond.classLink RX7 33 RX0, Cond.instantiable RX0 3, Cond.initialized RX0, Cond.fieldLink RX7 36 "BuriedHalves" "acts" "LBuriedHalves$Acts;", Cond.fieldLink RX7 40 "BuriedHalves" "images" "[LBuriedHalves$Mine;", Cond.classLink RX7 44 RX5, Cond.instantiable RX5 2, Cond.initialized RX5]
def wsX7_init_r2 : List Cond := [Cond.fieldLink RX7 47 "BuriedHalves" "seer" "LBuriedHalves$Seer;", Cond.classLink RX7 51 RX2, Cond.instantiable RX2 5, Cond.initialized RX2, Cond.fieldLink RX7 54 "BuriedHalves" "layer" "LBuriedHalves$Layer;", Cond.classLink RX7 58 RX1, Cond.instantiable RX1 2, Cond.initialized RX1, Cond.fieldLink RX7 61 "BuriedHalves" "asker" "LBuriedHalves$Asker;", Cond.fieldLink RX7 65 "BuriedHalves" "latestFault" "I", Cond.fieldLink RX7 69 "BuriedHalves" "latestFinding" "I", Cond.methodLink RX7 9 yX4_init, Cond.instanceMethod yX4_init, Cond.code yX4_init cX4_init 2 none, Cond.methodLink RX4 3 objectInit, Cond.classLink RX4 9 "[[I", Cond.arrayClass .int, Cond.fieldLink RX4 11 "BuriedHalves$Rows" "items" "[[I", Cond.fieldLink RX4 16 "BuriedHalves$Rows" "lane" "[I", Cond.fieldLink RX4 20 "BuriedHalves$Rows" "length" "[I", Cond.instanceMethod yX6_init, Cond.code yX6_init cX6_init 1 none, Cond.methodLink RX6 3 objectInit, Cond.fieldLink RX6 9 "BuriedHalves$Text" "bytes" "[I"]
def wsX7_init_r3 : List Cond := [Cond.fieldLink RX6 15 "BuriedHalves$Text" "length" "I", Cond.fieldLink RX6 19 "BuriedHalves$Text" "at" "I", Cond.fieldLink RX6 22 "BuriedHalves$Text" "fault" "I", Cond.instanceMethod yX3_init, Cond.code yX3_init cX3_init 1 none, Cond.methodLink RX3 3 objectInit, Cond.fieldLink RX3 9 "BuriedHalves$Mine" "isThere" "Z", Cond.fieldLink RX3 15 "BuriedHalves$Mine" "things" "I", Cond.fieldLink RX3 19 "BuriedHalves$Mine" "men" "I", Cond.fieldLink RX3 22 "BuriedHalves$Mine" "near" "I", Cond.fieldLink RX3 25 "BuriedHalves$Mine" "year" "I", Cond.fieldLink RX3 28 "BuriedHalves$Mine" "dug" "I", Cond.fieldLink RX3 31 "BuriedHalves$Mine" "sort" "[I", Cond.fieldLink RX3 35 "BuriedHalves$Mine" "depth" "[I", Cond.fieldLink RX3 38 "BuriedHalves$Mine" "place" "[I", Cond.fieldLink RX3 41 "BuriedHalves$Mine" "slow" "[I", Cond.fieldLink RX3 44 "BuriedHalves$Mine" "known" "[I", Cond.fieldLink RX3 47 "BuriedHalves$Mine" "rises" "[I", Cond.methodLink RX7 35 yX0_init, Cond.instanceMethod yX0_init, Cond.code yX0_init cX0_init 2 none, Cond.methodLink RX0 3 objectInit, Cond.classLink RX0 9 RX3, Cond.fieldLink RX0 11 "BuriedHalves$Acts" "kept" "[LBuriedHalves$Mine;"]
def wsX7_init_r4 : List Cond := [Cond.fieldLink RX0 17 "BuriedHalves$Acts" "top" "I", Cond.fieldLink RX0 21 "BuriedHalves$Acts" "size" "I", Cond.instanceMethod yX5_init, Cond.code yX5_init cX5_init 1 none, Cond.methodLink RX5 3 objectInit, Cond.classLink RX5 9 RX3, Cond.fieldLink RX5 12 "BuriedHalves$Seer" "then" "LBuriedHalves$Mine;", Cond.fieldLink RX5 18 "BuriedHalves$Seer" "told" "[I", Cond.instanceMethod yX2_init, Cond.code yX2_init cX2_init 1 none, Cond.methodLink RX2 3 objectInit, Cond.classLink RX2 9 RX3, Cond.fieldLink RX2 12 "BuriedHalves$Layer" "then" "LBuriedHalves$Mine;", Cond.fieldLink RX2 18 "BuriedHalves$Layer" "asked" "LBuriedHalves$Mine;", Cond.fieldLink RX2 21 "BuriedHalves$Layer" "askedYears" "I", Cond.fieldLink RX2 25 "BuriedHalves$Layer" "places" "[I", Cond.constant RX2 29 (-1000000), Cond.fieldLink RX2 30 "BuriedHalves$Layer" "moved" "I", Cond.instanceMethod yX1_init, Cond.code yX1_init cX1_init 1 none, Cond.methodLink RX1 3 objectInit, Cond.fieldLink RX1 9 "BuriedHalves$Asker" "numbers" "[I", Cond.fieldLink RX1 15 "BuriedHalves$Asker" "traced" "I"]
def wsX7_init : List Cond := .code yX7_init cX7_init 2 none :: ((wsX7_init_r1 ++ (wsX7_init_r2 ++ (wsX7_init_r3 ++ wsX7_init_r4))) ++ wsX40 ++ wsX70 ++ wsX60 ++ wsX30 ++ wsX00 ++ wsX50 ++ wsX20 ++ wsX10)
def wsX7_isRow : List Cond := .code yX7_isRow cX7_isRow 1 (some .boolean) :: ([])
def wsX7_found : List Cond := .code yX7_found cX7_found 2 (some .int) :: ([.fieldLink RX7 69 "BuriedHalves" "latestFinding" "I", .constant RX7 295 (-1000010)] ++ wsX70)
def wsX7_fine : List Cond := .code yX7_fine cX7_fine 2 (some .int) :: ([.fieldLink RX7 69 "BuriedHalves" "latestFinding" "I"] ++ wsX70)
def wsX7_row : List Cond := .code yX7_row cX7_row 4 (some .int) :: ([.constant RX7 76 (-1000001), .fieldLink RX7 10 "BuriedHalves" "rows" "LBuriedHalves$Rows;", .methodLink RX7 72 yX7_isRow, .static yX7_isRow, .initialized RX7, .code yX7_isRow cX7_isRow 1 (some .boolean), .methodLink RX7 77 yX7_found, .instanceMethod yX7_found, .selects RX7 yX7_found yX7_found, .code yX7_found cX7_found 2 (some .int), .fieldLink RX7 69 "BuriedHalves" "latestFinding" "I", .constant RX7 295 (-1000010), .methodLink RX7 81 yX4_makeAnew, .instanceMethod yX4_makeAnew, .selects RX4 yX4_makeAnew yX4_makeAnew, .initialized RX4, .code yX4_makeAnew cX4_makeAnew 5 none, .fieldLink RX4 16 "BuriedHalves$Rows" "lane" "[I", .fieldLink RX4 20 "BuriedHalves$Rows" "length" "[I", .fieldLink RX4 11 "BuriedHalves$Rows" "items" "[[I", .methodLink RX7 85 yX7_fine, .instanceMethod yX7_fine, .selects RX7 yX7_fine yX7_fine, .code yX7_fine cX7_fine 2 (some .int)] ++ wsX70 ++ wsX40)
def wsX7_set_r1 : List Cond := [Cond.constant RX7 76 (-1000001), Cond.fieldLink RX7 10 "BuriedHalves" "rows" "LBuriedHalves$Rows;", Cond.methodLink RX7 72 yX7_isRow, Cond.static yX7_isRow, Cond.initialized RX7, Cond.code yX7_isRow cX7_isRow 1 (some .boolean), Cond.methodLink RX7 88 yX4_isMissing, Cond.instanceMethod yX4_isMissing, Cond.selects RX4 yX4_isMissing yX4_isMissing, Cond.initialized RX4, Cond.code yX4_isMissing cX4_isMissing 2 (some .boolean), Cond.fieldLink RX4 20 "BuriedHalves$Rows" "length" "[I", Cond.methodLink RX7 77 yX7_found, Cond.instanceMethod yX7_found, Cond.selects RX7 yX7_found yX7_found, Cond.code yX7_found cX7_found 2 (some .int), Cond.fieldLink RX7 69 "BuriedHalves" "latestFinding" "I", Cond.constant RX7 295 (-1000010), Cond.methodLink RX7 91 yX4_hasRun, Cond.instanceMethod yX4_hasRun, Cond.selects RX4 yX4_hasRun yX4_hasRun, Cond.code yX4_hasRun cX4_hasRun 4 (some .boolean), Cond.methodLink RX7 95 yX4_put, Cond.instanceMethod yX4_put]
def wsX7_set_r2 : List Cond := [Cond.selects RX4 yX4_put yX4_put, Cond.code yX4_put cX4_put 5 (some .int), Cond.fieldLink RX4 16 "BuriedHalves$Rows" "lane" "[I", Cond.fieldLink RX4 11 "BuriedHalves$Rows" "items" "[[I", Cond.methodLink RX7 85 yX7_fine, Cond.instanceMethod yX7_fine, Cond.selects RX7 yX7_fine yX7_fine, Cond.code yX7_fine cX7_fine 2 (some .int)]
def wsX7_set : List Cond := .code yX7_set cX7_set 4 (some .int) :: ((wsX7_set_r1 ++ wsX7_set_r2) ++ wsX70 ++ wsX40)
def wsX7_copy_r1 : List Cond := [Cond.constant RX7 76 (-1000001), Cond.fieldLink RX7 10 "BuriedHalves" "rows" "LBuriedHalves$Rows;", Cond.fieldLink RX7 99 "BuriedHalves$Rows" "lane" "[I", Cond.fieldLink RX7 103 "BuriedHalves$Rows" "items" "[[I", Cond.methodLink RX7 107 arraycopyName, Cond.native arraycopyName, Cond.static arraycopyName, Cond.initialized "java/lang/System", Cond.methodLink RX7 72 yX7_isRow, Cond.static yX7_isRow, Cond.initialized RX7, Cond.code yX7_isRow cX7_isRow 1 (some .boolean), Cond.methodLink RX7 88 yX4_isMissing, Cond.instanceMethod yX4_isMissing, Cond.selects RX4 yX4_isMissing yX4_isMissing, Cond.initialized RX4, Cond.code yX4_isMissing cX4_isMissing 2 (some .boolean), Cond.fieldLink RX4 20 "BuriedHalves$Rows" "length" "[I", Cond.methodLink RX7 77 yX7_found, Cond.instanceMethod yX7_found, Cond.selects RX7 yX7_found yX7_found, Cond.code yX7_found cX7_found 2 (some .int), Cond.fieldLink RX7 69 "BuriedHalves" "latestFinding" "I", Cond.constant RX7 295 (-1000010)]
def wsX7_copy_r2 : List Cond := [Cond.methodLink RX7 91 yX4_hasRun, Cond.instanceMethod yX4_hasRun, Cond.selects RX4 yX4_hasRun yX4_hasRun, Cond.code yX4_hasRun cX4_hasRun 4 (some .boolean), Cond.methodLink RX7 85 yX7_fine, Cond.instanceMethod yX7_fine, Cond.selects RX7 yX7_fine yX7_fine, Cond.code yX7_fine cX7_fine 2 (some .int)]
def wsX7_copy : List Cond := .code yX7_copy cX7_copy 6 (some .int) :: ((wsX7_copy_r1 ++ wsX7_copy_r2) ++ wsX70 ++ wsX40)
def wsX7_drop : List Cond := .code yX7_drop cX7_drop 3 (some .int) :: ([.constant RX7 76 (-1000001), .fieldLink RX7 10 "BuriedHalves" "rows" "LBuriedHalves$Rows;", .fieldLink RX7 113 "BuriedHalves$Rows" "length" "[I", .methodLink RX7 72 yX7_isRow, .static yX7_isRow, .initialized RX7, .code yX7_isRow cX7_isRow 1 (some .boolean), .methodLink RX7 88 yX4_isMissing, .instanceMethod yX4_isMissing, .selects RX4 yX4_isMissing yX4_isMissing, .initialized RX4, .code yX4_isMissing cX4_isMissing 2 (some .boolean), .fieldLink RX4 20 "BuriedHalves$Rows" "length" "[I", .methodLink RX7 77 yX7_found, .instanceMethod yX7_found, .selects RX7 yX7_found yX7_found, .code yX7_found cX7_found 2 (some .int), .fieldLink RX7 69 "BuriedHalves" "latestFinding" "I", .constant RX7 295 (-1000010), .methodLink RX7 85 yX7_fine, .instanceMethod yX7_fine, .selects RX7 yX7_fine yX7_fine, .code yX7_fine cX7_fine 2 (some .int)] ++ wsX70 ++ wsX40)
def wsX7_feed : List Cond := .code yX7_feed cX7_feed 2 (some .int) :: ([.constant RX7 76 (-1000001), .fieldLink RX7 19 "BuriedHalves" "text" "LBuriedHalves$Text;", .fieldLink RX7 116 "BuriedHalves$Text" "length" "I", .constant RX7 118 (-1000003), .methodLink RX7 119 yX6_append, .instanceMethod yX6_append, .selects RX6 yX6_append yX6_append, .initialized RX6, .code yX6_append cX6_append 2 none, .fieldLink RX6 15 "BuriedHalves$Text" "length" "I", .fieldLink RX6 9 "BuriedHalves$Text" "bytes" "[I"] ++ wsX70 ++ wsX60)
def wsX7_mine_r1 : List Cond := [Cond.fieldLink RX7 19 "BuriedHalves" "text" "LBuriedHalves$Text;", Cond.fieldLink RX7 30 "BuriedHalves" "draft" "LBuriedHalves$Mine;", Cond.fieldLink RX7 116 "BuriedHalves$Text" "length" "I", Cond.fieldLink RX7 65 "BuriedHalves" "latestFault" "I", Cond.constant RX7 127 (-1000100), Cond.fieldLink RX7 128 "BuriedHalves$Text" "at" "I", Cond.fieldLink RX7 26 "BuriedHalves" "now" "LBuriedHalves$Mine;", Cond.fieldLink RX7 36 "BuriedHalves" "acts" "LBuriedHalves$Acts;", Cond.fieldLink RX7 138 "BuriedHalves$Mine" "things" "I", Cond.methodLink RX7 123 yX6_readInto, Cond.instanceMethod yX6_readInto, Cond.selects RX6 yX6_readInto yX6_readInto, Cond.initialized RX6, Cond.code yX6_readInto cX6_readInto 3 (some .int), Cond.fieldLink RX6 19 "BuriedHalves$Text" "at" "I", Cond.fieldLink RX6 22 "BuriedHalves$Text" "fault" "I", Cond.fieldLink RX6 25 "BuriedHalves$Mine" "isThere" "Z", Cond.fieldLink RX6 31 "BuriedHalves$Mine" "things" "I", Cond.fieldLink RX6 34 "BuriedHalves$Mine" "year" "I", Cond.fieldLink RX6 37 "BuriedHalves$Mine" "dug" "I", Cond.fieldLink RX6 15 "BuriedHalves$Text" "length" "I", Cond.methodLink RX6 40 yX6_readLaw, Cond.instanceMethod yX6_readLaw, Cond.selects RX6 yX6_readLaw yX6_readLaw]
def wsX7_mine_r2 : List Cond := [Cond.code yX6_readLaw cX6_readLaw 2 none, Cond.fieldLink RX6 55 "BuriedHalves$Mine" "near" "I", Cond.fieldLink RX6 58 "BuriedHalves$Mine" "men" "I", Cond.methodLink RX6 47 yX6_pass, Cond.instanceMethod yX6_pass, Cond.selects RX6 yX6_pass yX6_pass, Cond.code yX6_pass cX6_pass 2 none, Cond.methodLink RX6 61 yX6_next, Cond.instanceMethod yX6_next, Cond.selects RX6 yX6_next yX6_next, Cond.code yX6_next cX6_next 1 (some .int), Cond.methodLink RX6 87 yX6_byteAt, Cond.instanceMethod yX6_byteAt, Cond.selects RX6 yX6_byteAt yX6_byteAt, Cond.code yX6_byteAt cX6_byteAt 2 (some .int), Cond.fieldLink RX6 9 "BuriedHalves$Text" "bytes" "[I", Cond.methodLink RX6 69 yX6_fail, Cond.instanceMethod yX6_fail, Cond.selects RX6 yX6_fail yX6_fail, Cond.code yX6_fail cX6_fail 2 none, Cond.methodLink RX6 51 yX6_number, Cond.instanceMethod yX6_number, Cond.selects RX6 yX6_number yX6_number, Cond.code yX6_number cX6_number 6 (some .int)]
def wsX7_mine_r3 : List Cond := [Cond.methodLink RX6 90 yX6_isFigure, Cond.instanceMethod yX6_isFigure, Cond.selects RX6 yX6_isFigure yX6_isFigure, Cond.code yX6_isFigure cX6_isFigure 2 (some .boolean), Cond.methodLink RX6 44 yX6_readThing, Cond.instanceMethod yX6_readThing, Cond.selects RX6 yX6_readThing yX6_readThing, Cond.code yX6_readThing cX6_readThing 4 none, Cond.fieldLink RX6 72 "BuriedHalves$Mine" "sort" "[I", Cond.fieldLink RX6 75 "BuriedHalves$Mine" "depth" "[I", Cond.fieldLink RX6 78 "BuriedHalves$Mine" "place" "[I", Cond.fieldLink RX6 81 "BuriedHalves$Mine" "slow" "[I", Cond.fieldLink RX6 84 "BuriedHalves$Mine" "known" "[I", Cond.methodLink RX6 65 yX6_sortOf, Cond.static yX6_sortOf, Cond.code yX6_sortOf cX6_sortOf 1 (some .int), Cond.methodLink RX7 131 yX3_become, Cond.instanceMethod yX3_become, Cond.selects RX3 yX3_become yX3_become, Cond.initialized RX3, Cond.code yX3_become cX3_become 3 none, Cond.fieldLink RX3 9 "BuriedHalves$Mine" "isThere" "Z", Cond.fieldLink RX3 15 "BuriedHalves$Mine" "things" "I", Cond.fieldLink RX3 19 "BuriedHalves$Mine" "men" "I"]
def wsX7_mine_r4 : List Cond := [Cond.fieldLink RX3 22 "BuriedHalves$Mine" "near" "I", Cond.fieldLink RX3 25 "BuriedHalves$Mine" "year" "I", Cond.fieldLink RX3 28 "BuriedHalves$Mine" "dug" "I", Cond.fieldLink RX3 31 "BuriedHalves$Mine" "sort" "[I", Cond.fieldLink RX3 35 "BuriedHalves$Mine" "depth" "[I", Cond.fieldLink RX3 38 "BuriedHalves$Mine" "place" "[I", Cond.fieldLink RX3 41 "BuriedHalves$Mine" "slow" "[I", Cond.fieldLink RX3 44 "BuriedHalves$Mine" "known" "[I", Cond.methodLink RX7 135 yX0_forgetAll, Cond.instanceMethod yX0_forgetAll, Cond.selects RX0 yX0_forgetAll yX0_forgetAll, Cond.initialized RX0, Cond.code yX0_forgetAll cX0_forgetAll 1 none, Cond.fieldLink RX0 21 "BuriedHalves$Acts" "size" "I"]
def wsX7_mine : List Cond := .code yX7_mine cX7_mine 2 (some .int) :: ((wsX7_mine_r1 ++ (wsX7_mine_r2 ++ (wsX7_mine_r3 ++ wsX7_mine_r4))) ++ wsX70 ++ wsX60 ++ wsX30 ++ wsX00)
def wsX7_fault : List Cond := .code yX7_fault cX7_fault 1 (some .int) :: ([.fieldLink RX7 65 "BuriedHalves" "latestFault" "I"] ++ wsX70)
def wsX7_years_r1 : List Cond := [Cond.fieldLink RX7 26 "BuriedHalves" "now" "LBuriedHalves$Mine;", Cond.fieldLink RX7 141 "BuriedHalves$Mine" "isThere" "Z", Cond.constant RX7 145 (-1000002), Cond.constant RX7 76 (-1000001), Cond.fieldLink RX7 146 "BuriedHalves$Mine" "year" "I", Cond.constant RX7 118 (-1000003), Cond.fieldLink RX7 36 "BuriedHalves" "acts" "LBuriedHalves$Acts;", Cond.methodLink RX7 149 yX0_keep, Cond.instanceMethod yX0_keep, Cond.selects RX0 yX0_keep yX0_keep, Cond.initialized RX0, Cond.code yX0_keep cX0_keep 2 none, Cond.fieldLink RX0 11 "BuriedHalves$Acts" "kept" "[LBuriedHalves$Mine;", Cond.fieldLink RX0 17 "BuriedHalves$Acts" "top" "I", Cond.fieldLink RX0 21 "BuriedHalves$Acts" "size" "I", Cond.methodLink RX0 29 Lib.Math.min.name, Cond.static Lib.Math.min.name, Cond.initialized "java/lang/Math", Cond.code Lib.Math.min.name Lib.Math.min.code 2 (some .int), Cond.methodLink RX0 25 yX3_become, Cond.instanceMethod yX3_become, Cond.selects RX3 yX3_become yX3_become, Cond.initialized RX3, Cond.code yX3_become cX3_become 3 none]
def wsX7_years_r2 : List Cond := [Cond.fieldLink RX3 9 "BuriedHalves$Mine" "isThere" "Z", Cond.fieldLink RX3 15 "BuriedHalves$Mine" "things" "I", Cond.fieldLink RX3 19 "BuriedHalves$Mine" "men" "I", Cond.fieldLink RX3 22 "BuriedHalves$Mine" "near" "I", Cond.fieldLink RX3 25 "BuriedHalves$Mine" "year" "I", Cond.fieldLink RX3 28 "BuriedHalves$Mine" "dug" "I", Cond.fieldLink RX3 31 "BuriedHalves$Mine" "sort" "[I", Cond.fieldLink RX3 35 "BuriedHalves$Mine" "depth" "[I", Cond.fieldLink RX3 38 "BuriedHalves$Mine" "place" "[I", Cond.fieldLink RX3 41 "BuriedHalves$Mine" "slow" "[I", Cond.fieldLink RX3 44 "BuriedHalves$Mine" "known" "[I", Cond.methodLink RX7 152 yX3_passYear, Cond.instanceMethod yX3_passYear, Cond.selects RX3 yX3_passYear yX3_passYear, Cond.code yX3_passYear cX3_passYear 3 (some .boolean), Cond.fieldLink RX3 47 "BuriedHalves$Mine" "rises" "[I", Cond.methodLink RX3 75 yX3_riseOf, Cond.instanceMethod yX3_riseOf, Cond.selects RX3 yX3_riseOf yX3_riseOf, Cond.code yX3_riseOf cX3_riseOf 2 (some .int), Cond.methodLink RX3 71 Lib.Math.min.name, Cond.methodLink RX3 50 yX3_isUp, Cond.instanceMethod yX3_isUp, Cond.selects RX3 yX3_isUp yX3_isUp]
def wsX7_years_r3 : List Cond := [Cond.code yX3_isUp cX3_isUp 2 (some .boolean), Cond.methodLink RX3 65 yX3_ironRise, Cond.instanceMethod yX3_ironRise, Cond.selects RX3 yX3_ironRise yX3_ironRise, Cond.code yX3_ironRise cX3_ironRise 2 (some .int), Cond.methodLink RX3 68 yX3_isCovered, Cond.instanceMethod yX3_isCovered, Cond.selects RX3 yX3_isCovered yX3_isCovered, Cond.code yX3_isCovered cX3_isCovered 3 (some .boolean), Cond.methodLink RX7 156 yX3_allUp, Cond.instanceMethod yX3_allUp, Cond.selects RX3 yX3_allUp yX3_allUp, Cond.code yX3_allUp cX3_allUp 3 (some .int)]
def wsX7_years : List Cond := .code yX7_years cX7_years 3 (some .int) :: ((wsX7_years_r1 ++ (wsX7_years_r2 ++ wsX7_years_r3)) ++ wsX70 ++ wsX30 ++ wsX00)
def wsX7_isThing : List Cond := .code yX7_isThing cX7_isThing 2 (some .boolean) :: ([.fieldLink RX7 26 "BuriedHalves" "now" "LBuriedHalves$Mine;", .fieldLink RX7 138 "BuriedHalves$Mine" "things" "I"] ++ wsX70 ++ wsX30)
def wsX7_bury_r1 : List Cond := [Cond.constant RX7 76 (-1000001), Cond.fieldLink RX7 36 "BuriedHalves" "acts" "LBuriedHalves$Acts;", Cond.fieldLink RX7 26 "BuriedHalves" "now" "LBuriedHalves$Mine;", Cond.fieldLink RX7 163 "BuriedHalves$Mine" "dug" "I", Cond.fieldLink RX7 166 "BuriedHalves$Mine" "depth" "[I", Cond.fieldLink RX7 169 "BuriedHalves$Mine" "place" "[I", Cond.methodLink RX7 160 yX7_isThing, Cond.instanceMethod yX7_isThing, Cond.selects RX7 yX7_isThing yX7_isThing, Cond.initialized RX7, Cond.code yX7_isThing cX7_isThing 2 (some .boolean), Cond.fieldLink RX7 138 "BuriedHalves$Mine" "things" "I", Cond.methodLink RX7 149 yX0_keep, Cond.instanceMethod yX0_keep, Cond.selects RX0 yX0_keep yX0_keep, Cond.initialized RX0, Cond.code yX0_keep cX0_keep 2 none, Cond.fieldLink RX0 11 "BuriedHalves$Acts" "kept" "[LBuriedHalves$Mine;", Cond.fieldLink RX0 17 "BuriedHalves$Acts" "top" "I", Cond.fieldLink RX0 21 "BuriedHalves$Acts" "size" "I", Cond.methodLink RX0 29 Lib.Math.min.name, Cond.static Lib.Math.min.name, Cond.initialized "java/lang/Math", Cond.code Lib.Math.min.name Lib.Math.min.code 2 (some .int)]
def wsX7_bury_r2 : List Cond := [Cond.methodLink RX0 25 yX3_become, Cond.instanceMethod yX3_become, Cond.selects RX3 yX3_become yX3_become, Cond.initialized RX3, Cond.code yX3_become cX3_become 3 none, Cond.fieldLink RX3 9 "BuriedHalves$Mine" "isThere" "Z", Cond.fieldLink RX3 15 "BuriedHalves$Mine" "things" "I", Cond.fieldLink RX3 19 "BuriedHalves$Mine" "men" "I", Cond.fieldLink RX3 22 "BuriedHalves$Mine" "near" "I", Cond.fieldLink RX3 25 "BuriedHalves$Mine" "year" "I", Cond.fieldLink RX3 28 "BuriedHalves$Mine" "dug" "I", Cond.fieldLink RX3 31 "BuriedHalves$Mine" "sort" "[I", Cond.fieldLink RX3 35 "BuriedHalves$Mine" "depth" "[I", Cond.fieldLink RX3 38 "BuriedHalves$Mine" "place" "[I", Cond.fieldLink RX3 41 "BuriedHalves$Mine" "slow" "[I", Cond.fieldLink RX3 44 "BuriedHalves$Mine" "known" "[I"]
def wsX7_bury : List Cond := .code yX7_bury cX7_bury 4 (some .int) :: ((wsX7_bury_r1 ++ wsX7_bury_r2) ++ wsX70 ++ wsX30 ++ wsX00)
def wsX7_isMan : List Cond := .code yX7_isMan cX7_isMan 2 (some .boolean) :: ([.fieldLink RX7 26 "BuriedHalves" "now" "LBuriedHalves$Mine;", .fieldLink RX7 289 "BuriedHalves$Mine" "men" "I"] ++ wsX70 ++ wsX30)
def wsX7_tell_r1 : List Cond := [Cond.constant RX7 76 (-1000001), Cond.fieldLink RX7 26 "BuriedHalves" "now" "LBuriedHalves$Mine;", Cond.fieldLink RX7 175 "BuriedHalves$Mine" "known" "[I", Cond.constant RX7 145 (-1000002), Cond.fieldLink RX7 36 "BuriedHalves" "acts" "LBuriedHalves$Acts;", Cond.methodLink RX7 160 yX7_isThing, Cond.instanceMethod yX7_isThing, Cond.selects RX7 yX7_isThing yX7_isThing, Cond.initialized RX7, Cond.code yX7_isThing cX7_isThing 2 (some .boolean), Cond.fieldLink RX7 138 "BuriedHalves$Mine" "things" "I", Cond.methodLink RX7 172 yX7_isMan, Cond.instanceMethod yX7_isMan, Cond.selects RX7 yX7_isMan yX7_isMan, Cond.code yX7_isMan cX7_isMan 2 (some .boolean), Cond.fieldLink RX7 289 "BuriedHalves$Mine" "men" "I", Cond.methodLink RX7 149 yX0_keep, Cond.instanceMethod yX0_keep, Cond.selects RX0 yX0_keep yX0_keep, Cond.initialized RX0, Cond.code yX0_keep cX0_keep 2 none, Cond.fieldLink RX0 11 "BuriedHalves$Acts" "kept" "[LBuriedHalves$Mine;", Cond.fieldLink RX0 17 "BuriedHalves$Acts" "top" "I", Cond.fieldLink RX0 21 "BuriedHalves$Acts" "size" "I"]
def wsX7_tell_r2 : List Cond := [Cond.methodLink RX0 29 Lib.Math.min.name, Cond.static Lib.Math.min.name, Cond.initialized "java/lang/Math", Cond.code Lib.Math.min.name Lib.Math.min.code 2 (some .int), Cond.methodLink RX0 25 yX3_become, Cond.instanceMethod yX3_become, Cond.selects RX3 yX3_become yX3_become, Cond.initialized RX3, Cond.code yX3_become cX3_become 3 none, Cond.fieldLink RX3 9 "BuriedHalves$Mine" "isThere" "Z", Cond.fieldLink RX3 15 "BuriedHalves$Mine" "things" "I", Cond.fieldLink RX3 19 "BuriedHalves$Mine" "men" "I", Cond.fieldLink RX3 22 "BuriedHalves$Mine" "near" "I", Cond.fieldLink RX3 25 "BuriedHalves$Mine" "year" "I", Cond.fieldLink RX3 28 "BuriedHalves$Mine" "dug" "I", Cond.fieldLink RX3 31 "BuriedHalves$Mine" "sort" "[I", Cond.fieldLink RX3 35 "BuriedHalves$Mine" "depth" "[I", Cond.fieldLink RX3 38 "BuriedHalves$Mine" "place" "[I", Cond.fieldLink RX3 41 "BuriedHalves$Mine" "slow" "[I", Cond.fieldLink RX3 44 "BuriedHalves$Mine" "known" "[I"]
def wsX7_tell : List Cond := .code yX7_tell cX7_tell 4 (some .int) :: ((wsX7_tell_r1 ++ wsX7_tell_r2) ++ wsX70 ++ wsX30 ++ wsX00)
def wsX7_undo_r1 : List Cond := [Cond.fieldLink RX7 36 "BuriedHalves" "acts" "LBuriedHalves$Acts;", Cond.fieldLink RX7 178 "BuriedHalves$Acts" "size" "I", Cond.constant RX7 145 (-1000002), Cond.fieldLink RX7 26 "BuriedHalves" "now" "LBuriedHalves$Mine;", Cond.methodLink RX7 181 yX0_takeBack, Cond.instanceMethod yX0_takeBack, Cond.selects RX0 yX0_takeBack yX0_takeBack, Cond.initialized RX0, Cond.code yX0_takeBack cX0_takeBack 2 none, Cond.fieldLink RX0 21 "BuriedHalves$Acts" "size" "I", Cond.fieldLink RX0 17 "BuriedHalves$Acts" "top" "I", Cond.fieldLink RX0 11 "BuriedHalves$Acts" "kept" "[LBuriedHalves$Mine;", Cond.methodLink RX0 25 yX3_become, Cond.instanceMethod yX3_become, Cond.selects RX3 yX3_become yX3_become, Cond.initialized RX3, Cond.code yX3_become cX3_become 3 none, Cond.fieldLink RX3 9 "BuriedHalves$Mine" "isThere" "Z", Cond.fieldLink RX3 15 "BuriedHalves$Mine" "things" "I", Cond.fieldLink RX3 19 "BuriedHalves$Mine" "men" "I", Cond.fieldLink RX3 22 "BuriedHalves$Mine" "near" "I", Cond.fieldLink RX3 25 "BuriedHalves$Mine" "year" "I", Cond.fieldLink RX3 28 "BuriedHalves$Mine" "dug" "I", Cond.fieldLink RX3 31 "BuriedHalves$Mine" "sort" "[I"]
def wsX7_undo_r2 : List Cond := [Cond.fieldLink RX3 35 "BuriedHalves$Mine" "depth" "[I", Cond.fieldLink RX3 38 "BuriedHalves$Mine" "place" "[I", Cond.fieldLink RX3 41 "BuriedHalves$Mine" "slow" "[I", Cond.fieldLink RX3 44 "BuriedHalves$Mine" "known" "[I"]
def wsX7_undo : List Cond := .code yX7_undo cX7_undo 1 (some .int) :: ((wsX7_undo_r1 ++ wsX7_undo_r2) ++ wsX70 ++ wsX00 ++ wsX30)
def wsX7_thing_r1 : List Cond := [Cond.constant RX7 76 (-1000001), Cond.fieldLink RX7 26 "BuriedHalves" "now" "LBuriedHalves$Mine;", Cond.fieldLink RX7 166 "BuriedHalves$Mine" "depth" "[I", Cond.fieldLink RX7 169 "BuriedHalves$Mine" "place" "[I", Cond.fieldLink RX7 184 "BuriedHalves$Mine" "slow" "[I", Cond.fieldLink RX7 175 "BuriedHalves$Mine" "known" "[I", Cond.methodLink RX7 160 yX7_isThing, Cond.instanceMethod yX7_isThing, Cond.selects RX7 yX7_isThing yX7_isThing, Cond.initialized RX7, Cond.code yX7_isThing cX7_isThing 2 (some .boolean), Cond.fieldLink RX7 138 "BuriedHalves$Mine" "things" "I", Cond.methodLink RX7 187 yX3_nearTo, Cond.instanceMethod yX3_nearTo, Cond.selects RX3 yX3_nearTo yX3_nearTo, Cond.initialized RX3, Cond.code yX3_nearTo cX3_nearTo 4 (some .int), Cond.fieldLink RX3 15 "BuriedHalves$Mine" "things" "I", Cond.methodLink RX3 60 yX3_areTooNear, Cond.instanceMethod yX3_areTooNear, Cond.selects RX3 yX3_areTooNear yX3_areTooNear, Cond.code yX3_areTooNear cX3_areTooNear 3 (some .boolean), Cond.fieldLink RX3 38 "BuriedHalves$Mine" "place" "[I", Cond.methodLink RX3 54 Lib.Math.abs.name]
def wsX7_thing_r2 : List Cond := [Cond.static Lib.Math.abs.name, Cond.initialized "java/lang/Math", Cond.code Lib.Math.abs.name Lib.Math.abs.code 1 (some .int), Cond.fieldLink RX3 35 "BuriedHalves$Mine" "depth" "[I", Cond.fieldLink RX3 22 "BuriedHalves$Mine" "near" "I", Cond.methodLink RX3 50 yX3_isUp, Cond.instanceMethod yX3_isUp, Cond.selects RX3 yX3_isUp yX3_isUp, Cond.code yX3_isUp cX3_isUp 2 (some .boolean), Cond.methodLink RX7 190 yX3_riseOf, Cond.instanceMethod yX3_riseOf, Cond.selects RX3 yX3_riseOf yX3_riseOf, Cond.code yX3_riseOf cX3_riseOf 2 (some .int), Cond.fieldLink RX3 31 "BuriedHalves$Mine" "sort" "[I", Cond.methodLink RX3 71 Lib.Math.min.name, Cond.static Lib.Math.min.name, Cond.code Lib.Math.min.name Lib.Math.min.code 2 (some .int), Cond.fieldLink RX3 25 "BuriedHalves$Mine" "year" "I", Cond.methodLink RX3 65 yX3_ironRise, Cond.instanceMethod yX3_ironRise, Cond.selects RX3 yX3_ironRise yX3_ironRise, Cond.code yX3_ironRise cX3_ironRise 2 (some .int), Cond.fieldLink RX3 41 "BuriedHalves$Mine" "slow" "[I", Cond.methodLink RX3 68 yX3_isCovered]
def wsX7_thing_r3 : List Cond := [Cond.instanceMethod yX3_isCovered, Cond.selects RX3 yX3_isCovered yX3_isCovered, Cond.code yX3_isCovered cX3_isCovered 3 (some .boolean)]
def wsX7_thing : List Cond := .code yX7_thing cX7_thing 3 (some .int) :: ((wsX7_thing_r1 ++ (wsX7_thing_r2 ++ wsX7_thing_r3)) ++ wsX70 ++ wsX30)
def wsX7_knows : List Cond := .code yX7_knows cX7_knows 2 (some .int) :: ([.fieldLink RX7 26 "BuriedHalves" "now" "LBuriedHalves$Mine;", .constant RX7 76 (-1000001), .methodLink RX7 172 yX7_isMan, .instanceMethod yX7_isMan, .selects RX7 yX7_isMan yX7_isMan, .initialized RX7, .code yX7_isMan cX7_isMan 2 (some .boolean), .fieldLink RX7 289 "BuriedHalves$Mine" "men" "I", .methodLink RX7 193 yX3_knownTo, .instanceMethod yX3_knownTo, .selects RX3 yX3_knownTo yX3_knownTo, .initialized RX3, .code yX3_knownTo cX3_knownTo 4 (some .int), .fieldLink RX3 15 "BuriedHalves$Mine" "things" "I", .fieldLink RX3 44 "BuriedHalves$Mine" "known" "[I"] ++ wsX70 ++ wsX30)
def wsX7_isForetold : List Cond := .code yX7_isForetold cX7_isForetold 1 (some .boolean) :: ([])
def wsX7_ahead_r1 : List Cond := [Cond.constant RX7 76 (-1000001), Cond.fieldLink RX7 47 "BuriedHalves" "seer" "LBuriedHalves$Seer;", Cond.fieldLink RX7 26 "BuriedHalves" "now" "LBuriedHalves$Mine;", Cond.fieldLink RX7 166 "BuriedHalves$Mine" "depth" "[I", Cond.methodLink RX7 160 yX7_isThing, Cond.instanceMethod yX7_isThing, Cond.selects RX7 yX7_isThing yX7_isThing, Cond.initialized RX7, Cond.code yX7_isThing cX7_isThing 2 (some .boolean), Cond.fieldLink RX7 138 "BuriedHalves$Mine" "things" "I", Cond.methodLink RX7 196 yX7_isForetold, Cond.static yX7_isForetold, Cond.code yX7_isForetold cX7_isForetold 1 (some .boolean), Cond.methodLink RX7 199 yX5_behind, Cond.instanceMethod yX5_behind, Cond.selects RX5 yX5_behind yX5_behind, Cond.initialized RX5, Cond.code yX5_behind cX5_behind 3 (some (.object "BuriedHalves$Mine")), Cond.fieldLink RX5 12 "BuriedHalves$Seer" "then" "LBuriedHalves$Mine;", Cond.methodLink RX5 22 yX3_become, Cond.instanceMethod yX3_become, Cond.selects RX3 yX3_become yX3_become, Cond.initialized RX3, Cond.code yX3_become cX3_become 3 none]
def wsX7_ahead_r2 : List Cond := [Cond.fieldLink RX3 9 "BuriedHalves$Mine" "isThere" "Z", Cond.fieldLink RX3 15 "BuriedHalves$Mine" "things" "I", Cond.fieldLink RX3 19 "BuriedHalves$Mine" "men" "I", Cond.fieldLink RX3 22 "BuriedHalves$Mine" "near" "I", Cond.fieldLink RX3 25 "BuriedHalves$Mine" "year" "I", Cond.fieldLink RX3 28 "BuriedHalves$Mine" "dug" "I", Cond.fieldLink RX3 31 "BuriedHalves$Mine" "sort" "[I", Cond.fieldLink RX3 35 "BuriedHalves$Mine" "depth" "[I", Cond.fieldLink RX3 38 "BuriedHalves$Mine" "place" "[I", Cond.fieldLink RX3 41 "BuriedHalves$Mine" "slow" "[I", Cond.fieldLink RX3 44 "BuriedHalves$Mine" "known" "[I", Cond.methodLink RX5 26 yX5_passYears, Cond.instanceMethod yX5_passYears, Cond.selects RX5 yX5_passYears yX5_passYears, Cond.code yX5_passYears cX5_passYears 3 none, Cond.methodLink RX5 30 yX3_passYear, Cond.instanceMethod yX3_passYear, Cond.selects RX3 yX3_passYear yX3_passYear, Cond.code yX3_passYear cX3_passYear 3 (some .boolean), Cond.fieldLink RX3 47 "BuriedHalves$Mine" "rises" "[I", Cond.methodLink RX3 75 yX3_riseOf, Cond.instanceMethod yX3_riseOf, Cond.selects RX3 yX3_riseOf yX3_riseOf, Cond.code yX3_riseOf cX3_riseOf 2 (some .int)]
def wsX7_ahead_r3 : List Cond := [Cond.methodLink RX3 71 Lib.Math.min.name, Cond.static Lib.Math.min.name, Cond.initialized "java/lang/Math", Cond.code Lib.Math.min.name Lib.Math.min.code 2 (some .int), Cond.methodLink RX3 50 yX3_isUp, Cond.instanceMethod yX3_isUp, Cond.selects RX3 yX3_isUp yX3_isUp, Cond.code yX3_isUp cX3_isUp 2 (some .boolean), Cond.methodLink RX3 65 yX3_ironRise, Cond.instanceMethod yX3_ironRise, Cond.selects RX3 yX3_ironRise yX3_ironRise, Cond.code yX3_ironRise cX3_ironRise 2 (some .int), Cond.methodLink RX3 68 yX3_isCovered, Cond.instanceMethod yX3_isCovered, Cond.selects RX3 yX3_isCovered yX3_isCovered, Cond.code yX3_isCovered cX3_isCovered 3 (some .boolean)]
def wsX7_ahead : List Cond := .code yX7_ahead cX7_ahead 3 (some .int) :: ((wsX7_ahead_r1 ++ (wsX7_ahead_r2 ++ wsX7_ahead_r3)) ++ wsX70 ++ wsX30 ++ wsX50)
def wsX7_up_r1 : List Cond := [Cond.fieldLink RX7 26 "BuriedHalves" "now" "LBuriedHalves$Mine;", Cond.fieldLink RX7 141 "BuriedHalves$Mine" "isThere" "Z", Cond.constant RX7 145 (-1000002), Cond.fieldLink RX7 47 "BuriedHalves" "seer" "LBuriedHalves$Seer;", Cond.constant RX7 76 (-1000001), Cond.methodLink RX7 196 yX7_isForetold, Cond.static yX7_isForetold, Cond.initialized RX7, Cond.code yX7_isForetold cX7_isForetold 1 (some .boolean), Cond.methodLink RX7 199 yX5_behind, Cond.instanceMethod yX5_behind, Cond.selects RX5 yX5_behind yX5_behind, Cond.initialized RX5, Cond.code yX5_behind cX5_behind 3 (some (.object "BuriedHalves$Mine")), Cond.fieldLink RX5 12 "BuriedHalves$Seer" "then" "LBuriedHalves$Mine;", Cond.methodLink RX5 22 yX3_become, Cond.instanceMethod yX3_become, Cond.selects RX3 yX3_become yX3_become, Cond.initialized RX3, Cond.code yX3_become cX3_become 3 none, Cond.fieldLink RX3 9 "BuriedHalves$Mine" "isThere" "Z", Cond.fieldLink RX3 15 "BuriedHalves$Mine" "things" "I", Cond.fieldLink RX3 19 "BuriedHalves$Mine" "men" "I", Cond.fieldLink RX3 22 "BuriedHalves$Mine" "near" "I"]
def wsX7_up_r2 : List Cond := [Cond.fieldLink RX3 25 "BuriedHalves$Mine" "year" "I", Cond.fieldLink RX3 28 "BuriedHalves$Mine" "dug" "I", Cond.fieldLink RX3 31 "BuriedHalves$Mine" "sort" "[I", Cond.fieldLink RX3 35 "BuriedHalves$Mine" "depth" "[I", Cond.fieldLink RX3 38 "BuriedHalves$Mine" "place" "[I", Cond.fieldLink RX3 41 "BuriedHalves$Mine" "slow" "[I", Cond.fieldLink RX3 44 "BuriedHalves$Mine" "known" "[I", Cond.methodLink RX5 26 yX5_passYears, Cond.instanceMethod yX5_passYears, Cond.selects RX5 yX5_passYears yX5_passYears, Cond.code yX5_passYears cX5_passYears 3 none, Cond.methodLink RX5 30 yX3_passYear, Cond.instanceMethod yX3_passYear, Cond.selects RX3 yX3_passYear yX3_passYear, Cond.code yX3_passYear cX3_passYear 3 (some .boolean), Cond.fieldLink RX3 47 "BuriedHalves$Mine" "rises" "[I", Cond.methodLink RX3 75 yX3_riseOf, Cond.instanceMethod yX3_riseOf, Cond.selects RX3 yX3_riseOf yX3_riseOf, Cond.code yX3_riseOf cX3_riseOf 2 (some .int), Cond.methodLink RX3 71 Lib.Math.min.name, Cond.static Lib.Math.min.name, Cond.initialized "java/lang/Math", Cond.code Lib.Math.min.name Lib.Math.min.code 2 (some .int)]
def wsX7_up_r3 : List Cond := [Cond.methodLink RX3 50 yX3_isUp, Cond.instanceMethod yX3_isUp, Cond.selects RX3 yX3_isUp yX3_isUp, Cond.code yX3_isUp cX3_isUp 2 (some .boolean), Cond.methodLink RX3 65 yX3_ironRise, Cond.instanceMethod yX3_ironRise, Cond.selects RX3 yX3_ironRise yX3_ironRise, Cond.code yX3_ironRise cX3_ironRise 2 (some .int), Cond.methodLink RX3 68 yX3_isCovered, Cond.instanceMethod yX3_isCovered, Cond.selects RX3 yX3_isCovered yX3_isCovered, Cond.code yX3_isCovered cX3_isCovered 3 (some .boolean), Cond.methodLink RX7 156 yX3_allUp, Cond.instanceMethod yX3_allUp, Cond.selects RX3 yX3_allUp yX3_allUp, Cond.code yX3_allUp cX3_allUp 3 (some .int)]
def wsX7_up : List Cond := .code yX7_up cX7_up 2 (some .int) :: ((wsX7_up_r1 ++ (wsX7_up_r2 ++ wsX7_up_r3)) ++ wsX70 ++ wsX30 ++ wsX50)
def wsX7_comesUp_r1 : List Cond := [Cond.fieldLink RX7 47 "BuriedHalves" "seer" "LBuriedHalves$Seer;", Cond.fieldLink RX7 26 "BuriedHalves" "now" "LBuriedHalves$Mine;", Cond.constant RX7 76 (-1000001), Cond.methodLink RX7 160 yX7_isThing, Cond.instanceMethod yX7_isThing, Cond.selects RX7 yX7_isThing yX7_isThing, Cond.initialized RX7, Cond.code yX7_isThing cX7_isThing 2 (some .boolean), Cond.fieldLink RX7 138 "BuriedHalves$Mine" "things" "I", Cond.methodLink RX7 203 yX5_yearsUntilUp, Cond.instanceMethod yX5_yearsUntilUp, Cond.selects RX5 yX5_yearsUntilUp yX5_yearsUntilUp, Cond.initialized RX5, Cond.code yX5_yearsUntilUp cX5_yearsUntilUp 4 (some .int), Cond.fieldLink RX5 12 "BuriedHalves$Seer" "then" "LBuriedHalves$Mine;", Cond.constant RX5 38 (-1000000), Cond.methodLink RX5 22 yX3_become, Cond.instanceMethod yX3_become, Cond.selects RX3 yX3_become yX3_become, Cond.initialized RX3, Cond.code yX3_become cX3_become 3 none, Cond.fieldLink RX3 9 "BuriedHalves$Mine" "isThere" "Z", Cond.fieldLink RX3 15 "BuriedHalves$Mine" "things" "I", Cond.fieldLink RX3 19 "BuriedHalves$Mine" "men" "I"]
def wsX7_comesUp_r2 : List Cond := [Cond.fieldLink RX3 22 "BuriedHalves$Mine" "near" "I", Cond.fieldLink RX3 25 "BuriedHalves$Mine" "year" "I", Cond.fieldLink RX3 28 "BuriedHalves$Mine" "dug" "I", Cond.fieldLink RX3 31 "BuriedHalves$Mine" "sort" "[I", Cond.fieldLink RX3 35 "BuriedHalves$Mine" "depth" "[I", Cond.fieldLink RX3 38 "BuriedHalves$Mine" "place" "[I", Cond.fieldLink RX3 41 "BuriedHalves$Mine" "slow" "[I", Cond.fieldLink RX3 44 "BuriedHalves$Mine" "known" "[I", Cond.methodLink RX5 34 yX3_isUp, Cond.instanceMethod yX3_isUp, Cond.selects RX3 yX3_isUp yX3_isUp, Cond.code yX3_isUp cX3_isUp 2 (some .boolean), Cond.methodLink RX5 30 yX3_passYear, Cond.instanceMethod yX3_passYear, Cond.selects RX3 yX3_passYear yX3_passYear, Cond.code yX3_passYear cX3_passYear 3 (some .boolean), Cond.fieldLink RX3 47 "BuriedHalves$Mine" "rises" "[I", Cond.methodLink RX3 75 yX3_riseOf, Cond.instanceMethod yX3_riseOf, Cond.selects RX3 yX3_riseOf yX3_riseOf, Cond.code yX3_riseOf cX3_riseOf 2 (some .int), Cond.methodLink RX3 71 Lib.Math.min.name, Cond.static Lib.Math.min.name, Cond.initialized "java/lang/Math"]
def wsX7_comesUp_r3 : List Cond := [Cond.code Lib.Math.min.name Lib.Math.min.code 2 (some .int), Cond.methodLink RX3 50 yX3_isUp, Cond.methodLink RX3 65 yX3_ironRise, Cond.instanceMethod yX3_ironRise, Cond.selects RX3 yX3_ironRise yX3_ironRise, Cond.code yX3_ironRise cX3_ironRise 2 (some .int), Cond.methodLink RX3 68 yX3_isCovered, Cond.instanceMethod yX3_isCovered, Cond.selects RX3 yX3_isCovered yX3_isCovered, Cond.code yX3_isCovered cX3_isCovered 3 (some .boolean)]
def wsX7_comesUp : List Cond := .code yX7_comesUp cX7_comesUp 2 (some .int) :: ((wsX7_comesUp_r1 ++ (wsX7_comesUp_r2 ++ wsX7_comesUp_r3)) ++ wsX70 ++ wsX30 ++ wsX50)
def wsX7_isOneOfTwo : List Cond := .code yX7_isOneOfTwo cX7_isOneOfTwo 1 (some .boolean) :: ([])
def wsX7_first_r1 : List Cond := [Cond.fieldLink RX7 26 "BuriedHalves" "now" "LBuriedHalves$Mine;", Cond.fieldLink RX7 141 "BuriedHalves$Mine" "isThere" "Z", Cond.constant RX7 145 (-1000002), Cond.fieldLink RX7 47 "BuriedHalves" "seer" "LBuriedHalves$Seer;", Cond.constant RX7 76 (-1000001), Cond.methodLink RX7 207 yX7_isOneOfTwo, Cond.static yX7_isOneOfTwo, Cond.initialized RX7, Cond.code yX7_isOneOfTwo cX7_isOneOfTwo 1 (some .boolean), Cond.methodLink RX7 210 yX5_firstUp, Cond.instanceMethod yX5_firstUp, Cond.selects RX5 yX5_firstUp yX5_firstUp, Cond.initialized RX5, Cond.code yX5_firstUp cX5_firstUp 6 (some .int), Cond.fieldLink RX5 12 "BuriedHalves$Seer" "then" "LBuriedHalves$Mine;", Cond.constant RX5 38 (-1000000), Cond.methodLink RX5 39 yX3_allUp, Cond.instanceMethod yX3_allUp, Cond.selects RX3 yX3_allUp yX3_allUp, Cond.initialized RX3, Cond.code yX3_allUp cX3_allUp 3 (some .int), Cond.fieldLink RX3 15 "BuriedHalves$Mine" "things" "I", Cond.methodLink RX3 50 yX3_isUp, Cond.instanceMethod yX3_isUp]
def wsX7_first_r2 : List Cond := [Cond.selects RX3 yX3_isUp yX3_isUp, Cond.code yX3_isUp cX3_isUp 2 (some .boolean), Cond.fieldLink RX3 35 "BuriedHalves$Mine" "depth" "[I", Cond.methodLink RX5 22 yX3_become, Cond.instanceMethod yX3_become, Cond.selects RX3 yX3_become yX3_become, Cond.code yX3_become cX3_become 3 none, Cond.fieldLink RX3 9 "BuriedHalves$Mine" "isThere" "Z", Cond.fieldLink RX3 19 "BuriedHalves$Mine" "men" "I", Cond.fieldLink RX3 22 "BuriedHalves$Mine" "near" "I", Cond.fieldLink RX3 25 "BuriedHalves$Mine" "year" "I", Cond.fieldLink RX3 28 "BuriedHalves$Mine" "dug" "I", Cond.fieldLink RX3 31 "BuriedHalves$Mine" "sort" "[I", Cond.fieldLink RX3 38 "BuriedHalves$Mine" "place" "[I", Cond.fieldLink RX3 41 "BuriedHalves$Mine" "slow" "[I", Cond.fieldLink RX3 44 "BuriedHalves$Mine" "known" "[I", Cond.methodLink RX5 30 yX3_passYear, Cond.instanceMethod yX3_passYear, Cond.selects RX3 yX3_passYear yX3_passYear, Cond.code yX3_passYear cX3_passYear 3 (some .boolean), Cond.fieldLink RX3 47 "BuriedHalves$Mine" "rises" "[I", Cond.methodLink RX3 75 yX3_riseOf, Cond.instanceMethod yX3_riseOf, Cond.selects RX3 yX3_riseOf yX3_riseOf]
def wsX7_first_r3 : List Cond := [Cond.code yX3_riseOf cX3_riseOf 2 (some .int), Cond.methodLink RX3 71 Lib.Math.min.name, Cond.static Lib.Math.min.name, Cond.initialized "java/lang/Math", Cond.code Lib.Math.min.name Lib.Math.min.code 2 (some .int), Cond.methodLink RX3 65 yX3_ironRise, Cond.instanceMethod yX3_ironRise, Cond.selects RX3 yX3_ironRise yX3_ironRise, Cond.code yX3_ironRise cX3_ironRise 2 (some .int), Cond.methodLink RX3 68 yX3_isCovered, Cond.instanceMethod yX3_isCovered, Cond.selects RX3 yX3_isCovered yX3_isCovered, Cond.code yX3_isCovered cX3_isCovered 3 (some .boolean), Cond.static yX7_leastOf, Cond.code yX7_leastOf cX7_leastOf 2 (some .int), Cond.constant RX7 224 (-1000000)]
def wsX7_first : List Cond := .code yX7_first cX7_first 2 (some .int) :: ((wsX7_first_r1 ++ (wsX7_first_r2 ++ wsX7_first_r3)) ++ wsX70 ++ wsX30 ++ wsX50)
def wsX7_trouble_r1 : List Cond := [Cond.fieldLink RX7 26 "BuriedHalves" "now" "LBuriedHalves$Mine;", Cond.fieldLink RX7 141 "BuriedHalves$Mine" "isThere" "Z", Cond.constant RX7 145 (-1000002), Cond.fieldLink RX7 47 "BuriedHalves" "seer" "LBuriedHalves$Seer;", Cond.constant RX7 76 (-1000001), Cond.methodLink RX7 207 yX7_isOneOfTwo, Cond.static yX7_isOneOfTwo, Cond.initialized RX7, Cond.code yX7_isOneOfTwo cX7_isOneOfTwo 1 (some .boolean), Cond.methodLink RX7 214 yX5_firstTrouble, Cond.instanceMethod yX5_firstTrouble, Cond.selects RX5 yX5_firstTrouble yX5_firstTrouble, Cond.initialized RX5, Cond.code yX5_firstTrouble cX5_firstTrouble 5 (some .int), Cond.fieldLink RX5 12 "BuriedHalves$Seer" "then" "LBuriedHalves$Mine;", Cond.constant RX5 38 (-1000000), Cond.methodLink RX5 22 yX3_become, Cond.instanceMethod yX3_become, Cond.selects RX3 yX3_become yX3_become, Cond.initialized RX3, Cond.code yX3_become cX3_become 3 none, Cond.fieldLink RX3 9 "BuriedHalves$Mine" "isThere" "Z", Cond.fieldLink RX3 15 "BuriedHalves$Mine" "things" "I", Cond.fieldLink RX3 19 "BuriedHalves$Mine" "men" "I"]
def wsX7_trouble_r2 : List Cond := [Cond.fieldLink RX3 22 "BuriedHalves$Mine" "near" "I", Cond.fieldLink RX3 25 "BuriedHalves$Mine" "year" "I", Cond.fieldLink RX3 28 "BuriedHalves$Mine" "dug" "I", Cond.fieldLink RX3 31 "BuriedHalves$Mine" "sort" "[I", Cond.fieldLink RX3 35 "BuriedHalves$Mine" "depth" "[I", Cond.fieldLink RX3 38 "BuriedHalves$Mine" "place" "[I", Cond.fieldLink RX3 41 "BuriedHalves$Mine" "slow" "[I", Cond.fieldLink RX3 44 "BuriedHalves$Mine" "known" "[I", Cond.methodLink RX5 47 yX3_firstTooNear, Cond.instanceMethod yX3_firstTooNear, Cond.selects RX3 yX3_firstTooNear yX3_firstTooNear, Cond.code yX3_firstTooNear cX3_firstTooNear 3 (some .int), Cond.constant RX3 64 (-1000000), Cond.methodLink RX3 60 yX3_areTooNear, Cond.instanceMethod yX3_areTooNear, Cond.selects RX3 yX3_areTooNear yX3_areTooNear, Cond.code yX3_areTooNear cX3_areTooNear 3 (some .boolean), Cond.methodLink RX3 54 Lib.Math.abs.name, Cond.static Lib.Math.abs.name, Cond.initialized "java/lang/Math", Cond.code Lib.Math.abs.name Lib.Math.abs.code 1 (some .int), Cond.methodLink RX3 50 yX3_isUp, Cond.instanceMethod yX3_isUp, Cond.selects RX3 yX3_isUp yX3_isUp]
def wsX7_trouble_r3 : List Cond := [Cond.code yX3_isUp cX3_isUp 2 (some .boolean), Cond.methodLink RX5 30 yX3_passYear, Cond.instanceMethod yX3_passYear, Cond.selects RX3 yX3_passYear yX3_passYear, Cond.code yX3_passYear cX3_passYear 3 (some .boolean), Cond.fieldLink RX3 47 "BuriedHalves$Mine" "rises" "[I", Cond.methodLink RX3 75 yX3_riseOf, Cond.instanceMethod yX3_riseOf, Cond.selects RX3 yX3_riseOf yX3_riseOf, Cond.code yX3_riseOf cX3_riseOf 2 (some .int), Cond.methodLink RX3 71 Lib.Math.min.name, Cond.static Lib.Math.min.name, Cond.code Lib.Math.min.name Lib.Math.min.code 2 (some .int), Cond.methodLink RX3 65 yX3_ironRise, Cond.instanceMethod yX3_ironRise, Cond.selects RX3 yX3_ironRise yX3_ironRise, Cond.code yX3_ironRise cX3_ironRise 2 (some .int), Cond.methodLink RX3 68 yX3_isCovered, Cond.instanceMethod yX3_isCovered, Cond.selects RX3 yX3_isCovered yX3_isCovered, Cond.code yX3_isCovered cX3_isCovered 3 (some .boolean)]
def wsX7_trouble : List Cond := .code yX7_trouble cX7_trouble 2 (some .int) :: ((wsX7_trouble_r1 ++ (wsX7_trouble_r2 ++ wsX7_trouble_r3)) ++ wsX70 ++ wsX30 ++ wsX50)
def wsX7_lay_r1 : List Cond := [Cond.fieldLink RX7 26 "BuriedHalves" "now" "LBuriedHalves$Mine;", Cond.fieldLink RX7 141 "BuriedHalves$Mine" "isThere" "Z", Cond.constant RX7 145 (-1000002), Cond.constant RX7 76 (-1000001), Cond.fieldLink RX7 54 "BuriedHalves" "layer" "LBuriedHalves$Layer;", Cond.fieldLink RX7 221 "BuriedHalves$Layer" "moved" "I", Cond.constant RX7 224 (-1000000), Cond.fieldLink RX7 138 "BuriedHalves$Mine" "things" "I", Cond.fieldLink RX7 225 "BuriedHalves$Layer" "places" "[I", Cond.methodLink RX7 196 yX7_isForetold, Cond.static yX7_isForetold, Cond.initialized RX7, Cond.code yX7_isForetold cX7_isForetold 1 (some .boolean), Cond.methodLink RX7 217 yX2_find, Cond.instanceMethod yX2_find, Cond.selects RX2 yX2_find yX2_find, Cond.initialized RX2, Cond.code yX2_find cX2_find 4 none, Cond.fieldLink RX2 21 "BuriedHalves$Layer" "askedYears" "I", Cond.fieldLink RX2 18 "BuriedHalves$Layer" "asked" "LBuriedHalves$Mine;", Cond.constant RX2 29 (-1000000), Cond.fieldLink RX2 30 "BuriedHalves$Layer" "moved" "I", Cond.fieldLink RX2 45 "BuriedHalves$Mine" "things" "I", Cond.methodLink RX2 33 yX3_foretellsLike]
def wsX7_lay_r2 : List Cond := [Cond.instanceMethod yX3_foretellsLike, Cond.selects RX3 yX3_foretellsLike yX3_foretellsLike, Cond.initialized RX3, Cond.code yX3_foretellsLike cX3_foretellsLike 3 (some .boolean), Cond.fieldLink RX3 15 "BuriedHalves$Mine" "things" "I", Cond.fieldLink RX3 22 "BuriedHalves$Mine" "near" "I", Cond.fieldLink RX3 25 "BuriedHalves$Mine" "year" "I", Cond.fieldLink RX3 31 "BuriedHalves$Mine" "sort" "[I", Cond.fieldLink RX3 35 "BuriedHalves$Mine" "depth" "[I", Cond.fieldLink RX3 38 "BuriedHalves$Mine" "place" "[I", Cond.fieldLink RX3 41 "BuriedHalves$Mine" "slow" "[I", Cond.methodLink RX2 37 yX3_become, Cond.instanceMethod yX3_become, Cond.selects RX3 yX3_become yX3_become, Cond.code yX3_become cX3_become 3 none, Cond.fieldLink RX3 9 "BuriedHalves$Mine" "isThere" "Z", Cond.fieldLink RX3 19 "BuriedHalves$Mine" "men" "I", Cond.fieldLink RX3 28 "BuriedHalves$Mine" "dug" "I", Cond.fieldLink RX3 44 "BuriedHalves$Mine" "known" "[I", Cond.methodLink RX2 41 yX2_oneComesUpAnywhere, Cond.instanceMethod yX2_oneComesUpAnywhere, Cond.selects RX2 yX2_oneComesUpAnywhere yX2_oneComesUpAnywhere, Cond.code yX2_oneComesUpAnywhere cX2_oneComesUpAnywhere 3 (some .boolean), Cond.fieldLink RX2 12 "BuriedHalves$Layer" "then" "LBuriedHalves$Mine;"]
def wsX7_lay_r3 : List Cond := [Cond.fieldLink RX2 56 "BuriedHalves$Mine" "sort" "[I", Cond.methodLink RX2 52 yX3_passYear, Cond.instanceMethod yX3_passYear, Cond.selects RX3 yX3_passYear yX3_passYear, Cond.code yX3_passYear cX3_passYear 3 (some .boolean), Cond.fieldLink RX3 47 "BuriedHalves$Mine" "rises" "[I", Cond.methodLink RX3 75 yX3_riseOf, Cond.instanceMethod yX3_riseOf, Cond.selects RX3 yX3_riseOf yX3_riseOf, Cond.code yX3_riseOf cX3_riseOf 2 (some .int), Cond.methodLink RX3 71 Lib.Math.min.name, Cond.static Lib.Math.min.name, Cond.initialized "java/lang/Math", Cond.code Lib.Math.min.name Lib.Math.min.code 2 (some .int), Cond.methodLink RX3 50 yX3_isUp, Cond.instanceMethod yX3_isUp, Cond.selects RX3 yX3_isUp yX3_isUp, Cond.code yX3_isUp cX3_isUp 2 (some .boolean), Cond.methodLink RX3 65 yX3_ironRise, Cond.instanceMethod yX3_ironRise, Cond.selects RX3 yX3_ironRise yX3_ironRise, Cond.code yX3_ironRise cX3_ironRise 2 (some .int), Cond.methodLink RX3 68 yX3_isCovered, Cond.instanceMethod yX3_isCovered]
def wsX7_lay_r4 : List Cond := [Cond.selects RX3 yX3_isCovered yX3_isCovered, Cond.code yX3_isCovered cX3_isCovered 3 (some .boolean), Cond.methodLink RX2 59 yX3_isUp, Cond.methodLink RX2 48 yX2_findMoving, Cond.instanceMethod yX2_findMoving, Cond.selects RX2 yX2_findMoving yX2_findMoving, Cond.code yX2_findMoving cX2_findMoving 5 (some .boolean), Cond.methodLink RX2 62 yX2_countMoved, Cond.instanceMethod yX2_countMoved, Cond.selects RX2 yX2_countMoved yX2_countMoved, Cond.code yX2_countMoved cX2_countMoved 5 (some .int), Cond.fieldLink RX2 25 "BuriedHalves$Layer" "places" "[I", Cond.fieldLink RX2 69 "BuriedHalves$Mine" "place" "[I", Cond.methodLink RX2 66 yX2_holds, Cond.instanceMethod yX2_holds, Cond.selects RX2 yX2_holds yX2_holds, Cond.code yX2_holds cX2_holds 4 (some .boolean), Cond.methodLink RX2 72 yX3_allUp, Cond.instanceMethod yX3_allUp, Cond.selects RX3 yX3_allUp yX3_allUp, Cond.code yX3_allUp cX3_allUp 3 (some .int), Cond.methodLink RX2 76 yX3_firstTooNear, Cond.instanceMethod yX3_firstTooNear, Cond.selects RX3 yX3_firstTooNear yX3_firstTooNear]
def wsX7_lay_r5 : List Cond := [Cond.code yX3_firstTooNear cX3_firstTooNear 3 (some .int), Cond.constant RX3 64 (-1000000), Cond.methodLink RX3 60 yX3_areTooNear, Cond.instanceMethod yX3_areTooNear, Cond.selects RX3 yX3_areTooNear yX3_areTooNear, Cond.code yX3_areTooNear cX3_areTooNear 3 (some .boolean), Cond.methodLink RX3 54 Lib.Math.abs.name, Cond.static Lib.Math.abs.name, Cond.code Lib.Math.abs.name Lib.Math.abs.code 1 (some .int)]
def wsX7_lay : List Cond := .code yX7_lay cX7_lay 3 (some .int) :: ((wsX7_lay_r1 ++ (wsX7_lay_r2 ++ (wsX7_lay_r3 ++ (wsX7_lay_r4 ++ wsX7_lay_r5)))) ++ wsX70 ++ wsX30 ++ wsX20)
def wsX7_dig_r1 : List Cond := [Cond.constant RX7 76 (-1000001), Cond.fieldLink RX7 47 "BuriedHalves" "seer" "LBuriedHalves$Seer;", Cond.fieldLink RX7 26 "BuriedHalves" "now" "LBuriedHalves$Mine;", Cond.methodLink RX7 160 yX7_isThing, Cond.instanceMethod yX7_isThing, Cond.selects RX7 yX7_isThing yX7_isThing, Cond.initialized RX7, Cond.code yX7_isThing cX7_isThing 2 (some .boolean), Cond.fieldLink RX7 138 "BuriedHalves$Mine" "things" "I", Cond.methodLink RX7 196 yX7_isForetold, Cond.static yX7_isForetold, Cond.code yX7_isForetold cX7_isForetold 1 (some .boolean), Cond.methodLink RX7 228 yX5_leastDepth, Cond.instanceMethod yX5_leastDepth, Cond.selects RX5 yX5_leastDepth yX5_leastDepth, Cond.initialized RX5, Cond.code yX5_leastDepth cX5_leastDepth 5 (some .int), Cond.fieldLink RX5 12 "BuriedHalves$Seer" "then" "LBuriedHalves$Mine;", Cond.fieldLink RX5 50 "BuriedHalves$Mine" "depth" "[I", Cond.constant RX5 38 (-1000000), Cond.methodLink RX5 22 yX3_become, Cond.instanceMethod yX3_become, Cond.selects RX3 yX3_become yX3_become, Cond.initialized RX3]
def wsX7_dig_r2 : List Cond := [Cond.code yX3_become cX3_become 3 none, Cond.fieldLink RX3 9 "BuriedHalves$Mine" "isThere" "Z", Cond.fieldLink RX3 15 "BuriedHalves$Mine" "things" "I", Cond.fieldLink RX3 19 "BuriedHalves$Mine" "men" "I", Cond.fieldLink RX3 22 "BuriedHalves$Mine" "near" "I", Cond.fieldLink RX3 25 "BuriedHalves$Mine" "year" "I", Cond.fieldLink RX3 28 "BuriedHalves$Mine" "dug" "I", Cond.fieldLink RX3 31 "BuriedHalves$Mine" "sort" "[I", Cond.fieldLink RX3 35 "BuriedHalves$Mine" "depth" "[I", Cond.fieldLink RX3 38 "BuriedHalves$Mine" "place" "[I", Cond.fieldLink RX3 41 "BuriedHalves$Mine" "slow" "[I", Cond.fieldLink RX3 44 "BuriedHalves$Mine" "known" "[I", Cond.methodLink RX5 26 yX5_passYears, Cond.instanceMethod yX5_passYears, Cond.selects RX5 yX5_passYears yX5_passYears, Cond.code yX5_passYears cX5_passYears 3 none, Cond.methodLink RX5 30 yX3_passYear, Cond.instanceMethod yX3_passYear, Cond.selects RX3 yX3_passYear yX3_passYear, Cond.code yX3_passYear cX3_passYear 3 (some .boolean), Cond.fieldLink RX3 47 "BuriedHalves$Mine" "rises" "[I", Cond.methodLink RX3 75 yX3_riseOf, Cond.instanceMethod yX3_riseOf, Cond.selects RX3 yX3_riseOf yX3_riseOf]
def wsX7_dig_r3 : List Cond := [Cond.code yX3_riseOf cX3_riseOf 2 (some .int), Cond.methodLink RX3 71 Lib.Math.min.name, Cond.static Lib.Math.min.name, Cond.initialized "java/lang/Math", Cond.code Lib.Math.min.name Lib.Math.min.code 2 (some .int), Cond.methodLink RX3 50 yX3_isUp, Cond.instanceMethod yX3_isUp, Cond.selects RX3 yX3_isUp yX3_isUp, Cond.code yX3_isUp cX3_isUp 2 (some .boolean), Cond.methodLink RX3 65 yX3_ironRise, Cond.instanceMethod yX3_ironRise, Cond.selects RX3 yX3_ironRise yX3_ironRise, Cond.code yX3_ironRise cX3_ironRise 2 (some .int), Cond.methodLink RX3 68 yX3_isCovered, Cond.instanceMethod yX3_isCovered, Cond.selects RX3 yX3_isCovered yX3_isCovered, Cond.code yX3_isCovered cX3_isCovered 3 (some .boolean), Cond.methodLink RX5 34 yX3_isUp]
def wsX7_dig : List Cond := .code yX7_dig cX7_dig 3 (some .int) :: ((wsX7_dig_r1 ++ (wsX7_dig_r2 ++ wsX7_dig_r3)) ++ wsX70 ++ wsX30 ++ wsX50)
def wsX7_whom_r1 : List Cond := [Cond.fieldLink RX7 26 "BuriedHalves" "now" "LBuriedHalves$Mine;", Cond.fieldLink RX7 141 "BuriedHalves$Mine" "isThere" "Z", Cond.constant RX7 145 (-1000002), Cond.constant RX7 76 (-1000001), Cond.constant RX7 224 (-1000000), Cond.methodLink RX7 207 yX7_isOneOfTwo, Cond.static yX7_isOneOfTwo, Cond.initialized RX7, Cond.code yX7_isOneOfTwo cX7_isOneOfTwo 1 (some .boolean), Cond.methodLink RX7 232 yX3_fewestWhoKnowAll, Cond.instanceMethod yX3_fewestWhoKnowAll, Cond.selects RX3 yX3_fewestWhoKnowAll yX3_fewestWhoKnowAll, Cond.initialized RX3, Cond.code yX3_fewestWhoKnowAll cX3_fewestWhoKnowAll 3 (some .int), Cond.constant RX3 64 (-1000000), Cond.fieldLink RX3 19 "BuriedHalves$Mine" "men" "I", Cond.methodLink RX3 78 yX3_allKnownTo, Cond.instanceMethod yX3_allKnownTo, Cond.selects RX3 yX3_allKnownTo yX3_allKnownTo, Cond.code yX3_allKnownTo cX3_allKnownTo 3 (some .boolean), Cond.fieldLink RX3 15 "BuriedHalves$Mine" "things" "I", Cond.fieldLink RX3 44 "BuriedHalves$Mine" "known" "[I", Cond.methodLink RX3 81 yJ6_bitCount_0f7a4, Cond.static yJ6_bitCount_0f7a4]
def wsX7_whom_r2 : List Cond := [Cond.initialized RJ6, Cond.code yJ6_bitCount_0f7a4 cJ6_bitCount_0f7a4 1 (some .int), Cond.constant RJ6 265 (1431655765), Cond.constant RJ6 266 (858993459), Cond.constant RJ6 267 (252645135), Cond.methodLink RX7 235 yJ6_bitCount_0f7a4]
def wsX7_whom : List Cond := .code yX7_whom cX7_whom 3 (some .int) :: ((wsX7_whom_r1 ++ wsX7_whom_r2) ++ wsX70 ++ wsX30)
def wsX7_halves : List Cond := .code yX7_halves cX7_halves 2 (some .int) :: ([.fieldLink RX7 26 "BuriedHalves" "now" "LBuriedHalves$Mine;", .fieldLink RX7 141 "BuriedHalves$Mine" "isThere" "Z", .constant RX7 145 (-1000002), .constant RX7 76 (-1000001), .methodLink RX7 207 yX7_isOneOfTwo, .static yX7_isOneOfTwo, .initialized RX7, .code yX7_isOneOfTwo cX7_isOneOfTwo 1 (some .boolean), .methodLink RX7 240 yX3_countHalves, .instanceMethod yX3_countHalves, .selects RX3 yX3_countHalves yX3_countHalves, .initialized RX3, .code yX3_countHalves cX3_countHalves 4 (some .int), .fieldLink RX3 15 "BuriedHalves$Mine" "things" "I", .fieldLink RX3 44 "BuriedHalves$Mine" "known" "[I", .methodLink RX7 243 yX3_firstHalves, .instanceMethod yX3_firstHalves, .selects RX3 yX3_firstHalves yX3_firstHalves, .code yX3_firstHalves cX3_firstHalves 3 (some .int), .constant RX3 64 (-1000000)] ++ wsX70 ++ wsX30)
def wsX7_fits_r1 : List Cond := [Cond.constant RX7 76 (-1000001), Cond.fieldLink RX7 10 "BuriedHalves" "rows" "LBuriedHalves$Rows;", Cond.fieldLink RX7 47 "BuriedHalves" "seer" "LBuriedHalves$Seer;", Cond.fieldLink RX7 246 "BuriedHalves$Seer" "told" "[I", Cond.fieldLink RX7 26 "BuriedHalves" "now" "LBuriedHalves$Mine;", Cond.methodLink RX7 160 yX7_isThing, Cond.instanceMethod yX7_isThing, Cond.selects RX7 yX7_isThing yX7_isThing, Cond.initialized RX7, Cond.code yX7_isThing cX7_isThing 2 (some .boolean), Cond.fieldLink RX7 138 "BuriedHalves$Mine" "things" "I", Cond.methodLink RX7 72 yX7_isRow, Cond.static yX7_isRow, Cond.code yX7_isRow cX7_isRow 1 (some .boolean), Cond.methodLink RX7 88 yX4_isMissing, Cond.instanceMethod yX4_isMissing, Cond.selects RX4 yX4_isMissing yX4_isMissing, Cond.initialized RX4, Cond.code yX4_isMissing cX4_isMissing 2 (some .boolean), Cond.fieldLink RX4 20 "BuriedHalves$Rows" "length" "[I", Cond.methodLink RX7 77 yX7_found, Cond.instanceMethod yX7_found, Cond.selects RX7 yX7_found yX7_found, Cond.code yX7_found cX7_found 2 (some .int)]
def wsX7_fits_r2 : List Cond := [Cond.fieldLink RX7 69 "BuriedHalves" "latestFinding" "I", Cond.constant RX7 295 (-1000010), Cond.methodLink RX7 91 yX4_hasRun, Cond.instanceMethod yX4_hasRun, Cond.selects RX4 yX4_hasRun yX4_hasRun, Cond.code yX4_hasRun cX4_hasRun 4 (some .boolean), Cond.methodLink RX7 249 yX4_readRun, Cond.instanceMethod yX4_readRun, Cond.selects RX4 yX4_readRun yX4_readRun, Cond.code yX4_readRun cX4_readRun 6 none, Cond.fieldLink RX4 11 "BuriedHalves$Rows" "items" "[[I", Cond.methodLink RX7 253 yX5_thatFit, Cond.instanceMethod yX5_thatFit, Cond.selects RX5 yX5_thatFit yX5_thatFit, Cond.initialized RX5, Cond.code yX5_thatFit cX5_thatFit 9 (some .int), Cond.fieldLink RX5 12 "BuriedHalves$Seer" "then" "LBuriedHalves$Mine;", Cond.fieldLink RX5 53 "BuriedHalves$Mine" "sort" "[I", Cond.fieldLink RX5 56 "BuriedHalves$Mine" "slow" "[I", Cond.fieldLink RX5 59 "BuriedHalves$Mine" "place" "[I", Cond.methodLink RX5 22 yX3_become, Cond.instanceMethod yX3_become, Cond.selects RX3 yX3_become yX3_become, Cond.initialized RX3]
def wsX7_fits_r3 : List Cond := [Cond.code yX3_become cX3_become 3 none, Cond.fieldLink RX3 9 "BuriedHalves$Mine" "isThere" "Z", Cond.fieldLink RX3 15 "BuriedHalves$Mine" "things" "I", Cond.fieldLink RX3 19 "BuriedHalves$Mine" "men" "I", Cond.fieldLink RX3 22 "BuriedHalves$Mine" "near" "I", Cond.fieldLink RX3 25 "BuriedHalves$Mine" "year" "I", Cond.fieldLink RX3 28 "BuriedHalves$Mine" "dug" "I", Cond.fieldLink RX3 31 "BuriedHalves$Mine" "sort" "[I", Cond.fieldLink RX3 35 "BuriedHalves$Mine" "depth" "[I", Cond.fieldLink RX3 38 "BuriedHalves$Mine" "place" "[I", Cond.fieldLink RX3 41 "BuriedHalves$Mine" "slow" "[I", Cond.fieldLink RX3 44 "BuriedHalves$Mine" "known" "[I", Cond.methodLink RX5 62 yX5_goesAsTold, Cond.instanceMethod yX5_goesAsTold, Cond.selects RX5 yX5_goesAsTold yX5_goesAsTold, Cond.code yX5_goesAsTold cX5_goesAsTold 6 (some .boolean), Cond.fieldLink RX5 50 "BuriedHalves$Mine" "depth" "[I", Cond.fieldLink RX5 18 "BuriedHalves$Seer" "told" "[I", Cond.methodLink RX5 30 yX3_passYear, Cond.instanceMethod yX3_passYear, Cond.selects RX3 yX3_passYear yX3_passYear, Cond.code yX3_passYear cX3_passYear 3 (some .boolean), Cond.fieldLink RX3 47 "BuriedHalves$Mine" "rises" "[I", Cond.methodLink RX3 75 yX3_riseOf]
def wsX7_fits_r4 : List Cond := [Cond.instanceMethod yX3_riseOf, Cond.selects RX3 yX3_riseOf yX3_riseOf, Cond.code yX3_riseOf cX3_riseOf 2 (some .int), Cond.methodLink RX3 71 Lib.Math.min.name, Cond.static Lib.Math.min.name, Cond.initialized "java/lang/Math", Cond.code Lib.Math.min.name Lib.Math.min.code 2 (some .int), Cond.methodLink RX3 50 yX3_isUp, Cond.instanceMethod yX3_isUp, Cond.selects RX3 yX3_isUp yX3_isUp, Cond.code yX3_isUp cX3_isUp 2 (some .boolean), Cond.methodLink RX3 65 yX3_ironRise, Cond.instanceMethod yX3_ironRise, Cond.selects RX3 yX3_ironRise yX3_ironRise, Cond.code yX3_ironRise cX3_ironRise 2 (some .int), Cond.methodLink RX3 68 yX3_isCovered, Cond.instanceMethod yX3_isCovered, Cond.selects RX3 yX3_isCovered yX3_isCovered, Cond.code yX3_isCovered cX3_isCovered 3 (some .boolean), Cond.methodLink RX5 66 yX3_nearTo, Cond.instanceMethod yX3_nearTo, Cond.selects RX3 yX3_nearTo yX3_nearTo, Cond.code yX3_nearTo cX3_nearTo 4 (some .int), Cond.methodLink RX3 60 yX3_areTooNear]
def wsX7_fits_r5 : List Cond := [Cond.instanceMethod yX3_areTooNear, Cond.selects RX3 yX3_areTooNear yX3_areTooNear, Cond.code yX3_areTooNear cX3_areTooNear 3 (some .boolean), Cond.methodLink RX3 54 Lib.Math.abs.name, Cond.static Lib.Math.abs.name, Cond.code Lib.Math.abs.name Lib.Math.abs.code 1 (some .int), Cond.methodLink RX7 85 yX7_fine, Cond.instanceMethod yX7_fine, Cond.selects RX7 yX7_fine yX7_fine, Cond.code yX7_fine cX7_fine 2 (some .int)]
def wsX7_fits : List Cond := .code yX7_fits cX7_fits 6 (some .int) :: ((wsX7_fits_r1 ++ (wsX7_fits_r2 ++ (wsX7_fits_r3 ++ (wsX7_fits_r4 ++ wsX7_fits_r5)))) ++ wsX70 ++ wsX50 ++ wsX30 ++ wsX40)
def wsX7_commonDivisor : List Cond := .code yX7_commonDivisor cX7_commonDivisor 6 (some .int) :: ([])
def wsX7_moles_r1 : List Cond := [Cond.fieldLink RX7 26 "BuriedHalves" "now" "LBuriedHalves$Mine;", Cond.fieldLink RX7 141 "BuriedHalves$Mine" "isThere" "Z", Cond.constant RX7 145 (-1000002), Cond.constant RX7 76 (-1000001), Cond.fieldLink RX7 47 "BuriedHalves" "seer" "LBuriedHalves$Seer;", Cond.constant RX7 224 (-1000000), Cond.methodLink RX7 196 yX7_isForetold, Cond.static yX7_isForetold, Cond.initialized RX7, Cond.code yX7_isForetold cX7_isForetold 1 (some .boolean), Cond.methodLink RX7 207 yX7_isOneOfTwo, Cond.static yX7_isOneOfTwo, Cond.code yX7_isOneOfTwo cX7_isOneOfTwo 1 (some .boolean), Cond.methodLink RX7 257 yX5_weightOfNoneUp, Cond.instanceMethod yX5_weightOfNoneUp, Cond.selects RX5 yX5_weightOfNoneUp yX5_weightOfNoneUp, Cond.initialized RX5, Cond.code yX5_weightOfNoneUp cX5_weightOfNoneUp 8 (some .int), Cond.fieldLink RX5 69 "BuriedHalves$Mine" "things" "I", Cond.fieldLink RX5 12 "BuriedHalves$Seer" "then" "LBuriedHalves$Mine;", Cond.methodLink RX5 39 yX3_allUp, Cond.instanceMethod yX3_allUp, Cond.selects RX3 yX3_allUp yX3_allUp, Cond.initialized RX3]
def wsX7_moles_r2 : List Cond := [Cond.code yX3_allUp cX3_allUp 3 (some .int), Cond.fieldLink RX3 15 "BuriedHalves$Mine" "things" "I", Cond.methodLink RX3 50 yX3_isUp, Cond.instanceMethod yX3_isUp, Cond.selects RX3 yX3_isUp yX3_isUp, Cond.code yX3_isUp cX3_isUp 2 (some .boolean), Cond.fieldLink RX3 35 "BuriedHalves$Mine" "depth" "[I", Cond.methodLink RX5 73 yX5_weightOf, Cond.instanceMethod yX5_weightOf, Cond.selects RX5 yX5_weightOf yX5_weightOf, Cond.code yX5_weightOf cX5_weightOf 6 (some .int), Cond.methodLink RX5 34 yX3_isUp, Cond.methodLink RX5 22 yX3_become, Cond.instanceMethod yX3_become, Cond.selects RX3 yX3_become yX3_become, Cond.code yX3_become cX3_become 3 none, Cond.fieldLink RX3 9 "BuriedHalves$Mine" "isThere" "Z", Cond.fieldLink RX3 19 "BuriedHalves$Mine" "men" "I", Cond.fieldLink RX3 22 "BuriedHalves$Mine" "near" "I", Cond.fieldLink RX3 25 "BuriedHalves$Mine" "year" "I", Cond.fieldLink RX3 28 "BuriedHalves$Mine" "dug" "I", Cond.fieldLink RX3 31 "BuriedHalves$Mine" "sort" "[I", Cond.fieldLink RX3 38 "BuriedHalves$Mine" "place" "[I", Cond.fieldLink RX3 41 "BuriedHalves$Mine" "slow" "[I"]
def wsX7_moles_r3 : List Cond := [Cond.fieldLink RX3 44 "BuriedHalves$Mine" "known" "[I", Cond.methodLink RX5 77 yX5_letDig, Cond.instanceMethod yX5_letDig, Cond.selects RX5 yX5_letDig yX5_letDig, Cond.code yX5_letDig cX5_letDig 3 none, Cond.fieldLink RX5 50 "BuriedHalves$Mine" "depth" "[I", Cond.methodLink RX5 26 yX5_passYears, Cond.instanceMethod yX5_passYears, Cond.selects RX5 yX5_passYears yX5_passYears, Cond.code yX5_passYears cX5_passYears 3 none, Cond.methodLink RX5 30 yX3_passYear, Cond.instanceMethod yX3_passYear, Cond.selects RX3 yX3_passYear yX3_passYear, Cond.code yX3_passYear cX3_passYear 3 (some .boolean), Cond.fieldLink RX3 47 "BuriedHalves$Mine" "rises" "[I", Cond.methodLink RX3 75 yX3_riseOf, Cond.instanceMethod yX3_riseOf, Cond.selects RX3 yX3_riseOf yX3_riseOf, Cond.code yX3_riseOf cX3_riseOf 2 (some .int), Cond.methodLink RX3 71 Lib.Math.min.name, Cond.static Lib.Math.min.name, Cond.initialized "java/lang/Math", Cond.code Lib.Math.min.name Lib.Math.min.code 2 (some .int), Cond.methodLink RX3 65 yX3_ironRise]
def wsX7_moles_r4 : List Cond := [Cond.instanceMethod yX3_ironRise, Cond.selects RX3 yX3_ironRise yX3_ironRise, Cond.code yX3_ironRise cX3_ironRise 2 (some .int), Cond.methodLink RX3 68 yX3_isCovered, Cond.instanceMethod yX3_isCovered, Cond.selects RX3 yX3_isCovered yX3_isCovered, Cond.code yX3_isCovered cX3_isCovered 3 (some .boolean), Cond.methodLink RX7 260 yX5_weightOfAll, Cond.instanceMethod yX5_weightOfAll, Cond.selects RX5 yX5_weightOfAll yX5_weightOfAll, Cond.code yX5_weightOfAll cX5_weightOfAll 4 (some .int), Cond.methodLink RX7 263 yX7_commonDivisor, Cond.static yX7_commonDivisor, Cond.code yX7_commonDivisor cX7_commonDivisor 6 (some .int)]
def wsX7_moles : List Cond := .code yX7_moles cX7_moles 7 (some .int) :: ((wsX7_moles_r1 ++ (wsX7_moles_r2 ++ (wsX7_moles_r3 ++ wsX7_moles_r4))) ++ wsX70 ++ wsX30 ++ wsX50)
def wsX7_isImage : List Cond := .code yX7_isImage cX7_isImage 1 (some .boolean) :: ([])
def wsX7_image_r1 : List Cond := [Cond.constant RX7 76 (-1000001), Cond.fieldLink RX7 26 "BuriedHalves" "now" "LBuriedHalves$Mine;", Cond.fieldLink RX7 141 "BuriedHalves$Mine" "isThere" "Z", Cond.constant RX7 145 (-1000002), Cond.fieldLink RX7 40 "BuriedHalves" "images" "[LBuriedHalves$Mine;", Cond.methodLink RX7 267 yX7_isImage, Cond.static yX7_isImage, Cond.initialized RX7, Cond.code yX7_isImage cX7_isImage 1 (some .boolean), Cond.methodLink RX7 131 yX3_become, Cond.instanceMethod yX3_become, Cond.selects RX3 yX3_become yX3_become, Cond.initialized RX3, Cond.code yX3_become cX3_become 3 none, Cond.fieldLink RX3 9 "BuriedHalves$Mine" "isThere" "Z", Cond.fieldLink RX3 15 "BuriedHalves$Mine" "things" "I", Cond.fieldLink RX3 19 "BuriedHalves$Mine" "men" "I", Cond.fieldLink RX3 22 "BuriedHalves$Mine" "near" "I", Cond.fieldLink RX3 25 "BuriedHalves$Mine" "year" "I", Cond.fieldLink RX3 28 "BuriedHalves$Mine" "dug" "I", Cond.fieldLink RX3 31 "BuriedHalves$Mine" "sort" "[I", Cond.fieldLink RX3 35 "BuriedHalves$Mine" "depth" "[I", Cond.fieldLink RX3 38 "BuriedHalves$Mine" "place" "[I", Cond.fieldLink RX3 41 "BuriedHalves$Mine" "slow" "[I"]
def wsX7_image_r2 : List Cond := [Cond.fieldLink RX3 44 "BuriedHalves$Mine" "known" "[I"]
def wsX7_image : List Cond := .code yX7_image cX7_image 2 (some .int) :: ((wsX7_image_r1 ++ wsX7_image_r2) ++ wsX70 ++ wsX30)
def wsX7_restore_r1 : List Cond := [Cond.constant RX7 76 (-1000001), Cond.fieldLink RX7 40 "BuriedHalves" "images" "[LBuriedHalves$Mine;", Cond.fieldLink RX7 141 "BuriedHalves$Mine" "isThere" "Z", Cond.constant RX7 145 (-1000002), Cond.fieldLink RX7 26 "BuriedHalves" "now" "LBuriedHalves$Mine;", Cond.fieldLink RX7 36 "BuriedHalves" "acts" "LBuriedHalves$Acts;", Cond.methodLink RX7 267 yX7_isImage, Cond.static yX7_isImage, Cond.initialized RX7, Cond.code yX7_isImage cX7_isImage 1 (some .boolean), Cond.methodLink RX7 131 yX3_become, Cond.instanceMethod yX3_become, Cond.selects RX3 yX3_become yX3_become, Cond.initialized RX3, Cond.code yX3_become cX3_become 3 none, Cond.fieldLink RX3 9 "BuriedHalves$Mine" "isThere" "Z", Cond.fieldLink RX3 15 "BuriedHalves$Mine" "things" "I", Cond.fieldLink RX3 19 "BuriedHalves$Mine" "men" "I", Cond.fieldLink RX3 22 "BuriedHalves$Mine" "near" "I", Cond.fieldLink RX3 25 "BuriedHalves$Mine" "year" "I", Cond.fieldLink RX3 28 "BuriedHalves$Mine" "dug" "I", Cond.fieldLink RX3 31 "BuriedHalves$Mine" "sort" "[I", Cond.fieldLink RX3 35 "BuriedHalves$Mine" "depth" "[I", Cond.fieldLink RX3 38 "BuriedHalves$Mine" "place" "[I"]
def wsX7_restore_r2 : List Cond := [Cond.fieldLink RX3 41 "BuriedHalves$Mine" "slow" "[I", Cond.fieldLink RX3 44 "BuriedHalves$Mine" "known" "[I", Cond.methodLink RX7 135 yX0_forgetAll, Cond.instanceMethod yX0_forgetAll, Cond.selects RX0 yX0_forgetAll yX0_forgetAll, Cond.initialized RX0, Cond.code yX0_forgetAll cX0_forgetAll 1 none, Cond.fieldLink RX0 21 "BuriedHalves$Acts" "size" "I"]
def wsX7_restore : List Cond := .code yX7_restore cX7_restore 2 (some .int) :: ((wsX7_restore_r1 ++ wsX7_restore_r2) ++ wsX70 ++ wsX30 ++ wsX00)
def wsX7_kind : List Cond := .code yX7_kind cX7_kind 2 (some .int) :: ([.fieldLink RX7 26 "BuriedHalves" "now" "LBuriedHalves$Mine;", .fieldLink RX7 270 "BuriedHalves$Mine" "sort" "[I", .constant RX7 76 (-1000001), .methodLink RX7 160 yX7_isThing, .instanceMethod yX7_isThing, .selects RX7 yX7_isThing yX7_isThing, .initialized RX7, .code yX7_isThing cX7_isThing 2 (some .boolean), .fieldLink RX7 138 "BuriedHalves$Mine" "things" "I"] ++ wsX70 ++ wsX30)
def wsX7_isOfKind : List Cond := .code yX7_isOfKind cX7_isOfKind 4 (some .boolean) :: ([.methodLink RX7 296 yX7_kindAbove, .static yX7_kindAbove, .initialized RX7, .code yX7_kindAbove cX7_kindAbove 1 (some .int)])
def wsX7_as_r1 : List Cond := [Cond.constant RX7 76 (-1000001), Cond.fieldLink RX7 26 "BuriedHalves" "now" "LBuriedHalves$Mine;", Cond.fieldLink RX7 270 "BuriedHalves$Mine" "sort" "[I", Cond.methodLink RX7 160 yX7_isThing, Cond.instanceMethod yX7_isThing, Cond.selects RX7 yX7_isThing yX7_isThing, Cond.initialized RX7, Cond.code yX7_isThing cX7_isThing 2 (some .boolean), Cond.fieldLink RX7 138 "BuriedHalves$Mine" "things" "I", Cond.methodLink RX7 273 yX7_isOfKind, Cond.static yX7_isOfKind, Cond.code yX7_isOfKind cX7_isOfKind 4 (some .boolean), Cond.methodLink RX7 296 yX7_kindAbove, Cond.static yX7_kindAbove, Cond.code yX7_kindAbove cX7_kindAbove 1 (some .int), Cond.methodLink RX7 85 yX7_fine, Cond.instanceMethod yX7_fine, Cond.selects RX7 yX7_fine yX7_fine, Cond.code yX7_fine cX7_fine 2 (some .int), Cond.fieldLink RX7 69 "BuriedHalves" "latestFinding" "I", Cond.methodLink RX7 77 yX7_found, Cond.instanceMethod yX7_found, Cond.selects RX7 yX7_found yX7_found, Cond.code yX7_found cX7_found 2 (some .int)]
def wsX7_as_r2 : List Cond := [Cond.constant RX7 295 (-1000010)]
def wsX7_as : List Cond := .code yX7_as cX7_as 3 (some .int) :: ((wsX7_as_r1 ++ wsX7_as_r2) ++ wsX70 ++ wsX30)
def wsX7_ask_r1 : List Cond := [Cond.constant RX7 76 (-1000001), Cond.fieldLink RX7 61 "BuriedHalves" "asker" "LBuriedHalves$Asker;", Cond.fieldLink RX7 26 "BuriedHalves" "now" "LBuriedHalves$Mine;", Cond.methodLink RX7 160 yX7_isThing, Cond.instanceMethod yX7_isThing, Cond.selects RX7 yX7_isThing yX7_isThing, Cond.initialized RX7, Cond.code yX7_isThing cX7_isThing 2 (some .boolean), Cond.fieldLink RX7 138 "BuriedHalves$Mine" "things" "I", Cond.methodLink RX7 207 yX7_isOneOfTwo, Cond.static yX7_isOneOfTwo, Cond.code yX7_isOneOfTwo cX7_isOneOfTwo 1 (some .boolean), Cond.methodLink RX7 277 yX1_begin, Cond.instanceMethod yX1_begin, Cond.selects RX1 yX1_begin yX1_begin, Cond.initialized RX1, Cond.code yX1_begin cX1_begin 4 (some .int), Cond.fieldLink RX1 15 "BuriedHalves$Asker" "traced" "I", Cond.methodLink RX1 19 yX1_answer, Cond.instanceMethod yX1_answer, Cond.selects RX1 yX1_answer yX1_answer, Cond.code yX1_answer cX1_answer 5 (some .int), Cond.fieldLink RX1 23 "BuriedHalves$Mine" "sort" "[I", Cond.methodLink RX1 28 yX1_bodyFor]
def wsX7_ask_r2 : List Cond := [Cond.static yX1_bodyFor, Cond.code yX1_bodyFor cX1_bodyFor 5 (some .int), Cond.methodLink RX1 35 yX1_sizeBody, Cond.static yX1_sizeBody, Cond.code yX1_sizeBody cX1_sizeBody 1 (some .int), Cond.methodLink RX1 39 yX1_markBody, Cond.static yX1_markBody, Cond.code yX1_markBody cX1_markBody 1 (some .int), Cond.static yX7_kindAbove, Cond.code yX7_kindAbove cX7_kindAbove 1 (some .int), Cond.methodLink RX1 32 yX1_give, Cond.instanceMethod yX1_give, Cond.selects RX1 yX1_give yX1_give, Cond.code yX1_give cX1_give 6 (some .int), Cond.fieldLink RX1 49 "BuriedHalves$Mine" "slow" "[I", Cond.fieldLink RX1 52 "BuriedHalves$Mine" "depth" "[I", Cond.methodLink RX1 45 yX1_note, Cond.instanceMethod yX1_note, Cond.selects RX1 yX1_note yX1_note, Cond.code yX1_note cX1_note 2 none, Cond.fieldLink RX1 9 "BuriedHalves$Asker" "numbers" "[I"]
def wsX7_ask : List Cond := .code yX7_ask cX7_ask 3 (some .int) :: ((wsX7_ask_r1 ++ wsX7_ask_r2) ++ wsX70 ++ wsX30 ++ wsX10)
def wsX7_trace : List Cond := .code yX7_trace cX7_trace 2 (some .int) :: ([.fieldLink RX7 61 "BuriedHalves" "asker" "LBuriedHalves$Asker;", .fieldLink RX7 280 "BuriedHalves$Asker" "traced" "I", .fieldLink RX7 283 "BuriedHalves$Asker" "numbers" "[I", .constant RX7 224 (-1000000)] ++ wsX70 ++ wsX10)
def wsX7_count : List Cond := .code yX7_count cX7_count 2 (some .int) :: ([.fieldLink RX7 10 "BuriedHalves" "rows" "LBuriedHalves$Rows;", .fieldLink RX7 26 "BuriedHalves" "now" "LBuriedHalves$Mine;", .fieldLink RX7 138 "BuriedHalves$Mine" "things" "I", .fieldLink RX7 289 "BuriedHalves$Mine" "men" "I", .fieldLink RX7 146 "BuriedHalves$Mine" "year" "I", .fieldLink RX7 292 "BuriedHalves$Mine" "near" "I", .fieldLink RX7 163 "BuriedHalves$Mine" "dug" "I", .fieldLink RX7 36 "BuriedHalves" "acts" "LBuriedHalves$Acts;", .fieldLink RX7 178 "BuriedHalves$Acts" "size" "I", .fieldLink RX7 19 "BuriedHalves" "text" "LBuriedHalves$Text;", .fieldLink RX7 116 "BuriedHalves$Text" "length" "I", .constant RX7 76 (-1000001), .methodLink RX7 286 yX4_countThere, .instanceMethod yX4_countThere, .selects RX4 yX4_countThere yX4_countThere, .initialized RX4, .code yX4_countThere cX4_countThere 3 (some .int), .methodLink RX4 23 yX4_isMissing, .instanceMethod yX4_isMissing, .selects RX4 yX4_isMissing yX4_isMissing, .code yX4_isMissing cX4_isMissing 2 (some .boolean), .fieldLink RX4 20 "BuriedHalves$Rows" "length" "[I"] ++ wsX70 ++ wsX30 ++ wsX00 ++ wsX60 ++ wsX40)
def wsX7_status : List Cond := .code yX7_status cX7_status 1 (some .int) :: ([.fieldLink RX7 69 "BuriedHalves" "latestFinding" "I"] ++ wsX70)
def wsX8_init : List Cond := .code yX8_init cX8_init 2 none :: ([.methodLink RX8 1 objectInit, .instanceMethod objectInit, .code objectInit ⟨#[0xb1]⟩ 1 none, .arrayClass .int, .fieldLink RX8 7 "BuriedHalvesModel" "lanes" "[I", .fieldLink RX8 13 "BuriedHalvesModel" "sizes" "[I", .fieldLink RX8 16 "BuriedHalvesModel" "items" "[I", .fieldLink RX8 19 "BuriedHalvesModel" "now" "[I", .fieldLink RX8 22 "BuriedHalvesModel" "read" "[I", .fieldLink RX8 25 "BuriedHalvesModel" "aside" "[I", .fieldLink RX8 28 "BuriedHalvesModel" "past" "[I", .fieldLink RX8 31 "BuriedHalvesModel" "images" "[I", .arrayClass .boolean, .fieldLink RX8 34 "BuriedHalvesModel" "kept" "[Z", .fieldLink RX8 38 "BuriedHalvesModel" "tape" "[I", .fieldLink RX8 41 "BuriedHalvesModel" "trace" "[I", .fieldLink RX8 44 "BuriedHalvesModel" "rise" "[I", .fieldLink RX8 47 "BuriedHalvesModel" "places" "[I", .fieldLink RX8 50 "BuriedHalvesModel" "best" "[I"] ++ wsX80)
def wsX8_in : List Cond := .code yX8_in cX8_in 6 (some .boolean) :: ([])
def wsX8_found : List Cond := .code yX8_found cX8_found 2 (some .int) :: ([.fieldLink RX8 53 "BuriedHalvesModel" "status" "I", .constant RX8 57 (-1000010)] ++ wsX80)
def wsX8_well : List Cond := .code yX8_well cX8_well 2 (some .int) :: ([.fieldLink RX8 53 "BuriedHalvesModel" "status" "I"] ++ wsX80)
def wsX8_isRow : List Cond := .code yX8_isRow cX8_isRow 1 (some .boolean) :: ([.constantLong RX8 58 (7), .methodLink RX8 60 yX8_in, .static yX8_in, .initialized RX8, .code yX8_in cX8_in 6 (some .boolean)])
def wsX8_row : List Cond := .code yX8_row cX8_row 5 (some .int) :: ([.constantLong RX8 68 (2), .constant RX8 70 (-1000001), .fieldLink RX8 7 "BuriedHalvesModel" "lanes" "[I", .fieldLink RX8 13 "BuriedHalvesModel" "sizes" "[I", .fieldLink RX8 16 "BuriedHalvesModel" "items" "[I", .methodLink RX8 64 yX8_isRow, .static yX8_isRow, .initialized RX8, .code yX8_isRow cX8_isRow 1 (some .boolean), .constantLong RX8 58 (7), .methodLink RX8 60 yX8_in, .static yX8_in, .code yX8_in cX8_in 6 (some .boolean), .methodLink RX8 71 yX8_found, .instanceMethod yX8_found, .selects RX8 yX8_found yX8_found, .code yX8_found cX8_found 2 (some .int), .fieldLink RX8 53 "BuriedHalvesModel" "status" "I", .constant RX8 57 (-1000010), .methodLink RX8 75 yX8_well, .instanceMethod yX8_well, .selects RX8 yX8_well yX8_well, .code yX8_well cX8_well 2 (some .int)] ++ wsX80)
def wsX8_set : List Cond := .code yX8_set cX8_set 4 (some .int) :: ([.constant RX8 70 (-1000001), .fieldLink RX8 13 "BuriedHalvesModel" "sizes" "[I", .fieldLink RX8 16 "BuriedHalvesModel" "items" "[I", .fieldLink RX8 7 "BuriedHalvesModel" "lanes" "[I", .methodLink RX8 64 yX8_isRow, .static yX8_isRow, .initialized RX8, .code yX8_isRow cX8_isRow 1 (some .boolean), .constantLong RX8 58 (7), .methodLink RX8 60 yX8_in, .static yX8_in, .code yX8_in cX8_in 6 (some .boolean), .methodLink RX8 71 yX8_found, .instanceMethod yX8_found, .selects RX8 yX8_found yX8_found, .code yX8_found cX8_found 2 (some .int), .fieldLink RX8 53 "BuriedHalvesModel" "status" "I", .constant RX8 57 (-1000010), .methodLink RX8 75 yX8_well, .instanceMethod yX8_well, .selects RX8 yX8_well yX8_well, .code yX8_well cX8_well 2 (some .int)] ++ wsX80)
def wsX8_copy : List Cond := .code yX8_copy cX8_copy 8 (some .int) :: ([.constant RX8 70 (-1000001), .fieldLink RX8 13 "BuriedHalvesModel" "sizes" "[I", .fieldLink RX8 7 "BuriedHalvesModel" "lanes" "[I", .fieldLink RX8 16 "BuriedHalvesModel" "items" "[I", .methodLink RX8 64 yX8_isRow, .static yX8_isRow, .initialized RX8, .code yX8_isRow cX8_isRow 1 (some .boolean), .constantLong RX8 58 (7), .methodLink RX8 60 yX8_in, .static yX8_in, .code yX8_in cX8_in 6 (some .boolean), .methodLink RX8 71 yX8_found, .instanceMethod yX8_found, .selects RX8 yX8_found yX8_found, .code yX8_found cX8_found 2 (some .int), .fieldLink RX8 53 "BuriedHalvesModel" "status" "I", .constant RX8 57 (-1000010), .methodLink RX8 75 yX8_well, .instanceMethod yX8_well, .selects RX8 yX8_well yX8_well, .code yX8_well cX8_well 2 (some .int)] ++ wsX80)
def wsX8_drop : List Cond := .code yX8_drop cX8_drop 3 (some .int) :: ([.constant RX8 70 (-1000001), .fieldLink RX8 13 "BuriedHalvesModel" "sizes" "[I", .methodLink RX8 64 yX8_isRow, .static yX8_isRow, .initialized RX8, .code yX8_isRow cX8_isRow 1 (some .boolean), .constantLong RX8 58 (7), .methodLink RX8 60 yX8_in, .static yX8_in, .code yX8_in cX8_in 6 (some .boolean), .methodLink RX8 71 yX8_found, .instanceMethod yX8_found, .selects RX8 yX8_found yX8_found, .code yX8_found cX8_found 2 (some .int), .fieldLink RX8 53 "BuriedHalvesModel" "status" "I", .constant RX8 57 (-1000010), .methodLink RX8 75 yX8_well, .instanceMethod yX8_well, .selects RX8 yX8_well yX8_well, .code yX8_well cX8_well 2 (some .int)] ++ wsX80)
def wsX8_feed : List Cond := .code yX8_feed cX8_feed 2 (some .int) :: ([.constantLong RX8 78 (255), .constant RX8 70 (-1000001), .fieldLink RX8 80 "BuriedHalvesModel" "size" "I", .constant RX8 83 (-1000003), .fieldLink RX8 38 "BuriedHalvesModel" "tape" "[I", .methodLink RX8 60 yX8_in, .static yX8_in, .initialized RX8, .code yX8_in cX8_in 6 (some .boolean)] ++ wsX80)
def wsX8_here : List Cond := .code yX8_here cX8_here 1 (some .int) :: ([.fieldLink RX8 84 "BuriedHalvesModel" "at" "I", .fieldLink RX8 80 "BuriedHalvesModel" "size" "I", .fieldLink RX8 38 "BuriedHalvesModel" "tape" "[I"] ++ wsX80)
def wsX8_step : List Cond := .code yX8_step cX8_step 1 none :: ([.fieldLink RX8 84 "BuriedHalvesModel" "at" "I", .fieldLink RX8 87 "BuriedHalvesModel" "begin" "I", .fieldLink RX8 94 "BuriedHalvesModel" "value" "I", .constantLong RX8 97 (97), .constantLong RX8 99 (122), .constantLong RX8 101 (48), .constantLong RX8 103 (57), .fieldLink RX8 105 "BuriedHalvesModel" "token" "I", .methodLink RX8 90 yX8_here, .instanceMethod yX8_here, .selects RX8 yX8_here yX8_here, .initialized RX8, .code yX8_here cX8_here 1 (some .int), .fieldLink RX8 80 "BuriedHalvesModel" "size" "I", .fieldLink RX8 38 "BuriedHalvesModel" "tape" "[I", .methodLink RX8 60 yX8_in, .static yX8_in, .code yX8_in cX8_in 6 (some .boolean)] ++ wsX80)
def wsX8_fails : List Cond := .code yX8_fails cX8_fails 2 (some .boolean) :: ([.fieldLink RX8 108 "BuriedHalvesModel" "wrong" "I"] ++ wsX80)
def wsX8_number_r1 : List Cond := [Cond.fieldLink RX8 105 "BuriedHalvesModel" "token" "I", Cond.fieldLink RX8 94 "BuriedHalvesModel" "value" "I", Cond.fieldLink RX8 22 "BuriedHalvesModel" "read" "[I", Cond.methodLink RX8 111 yX8_step, Cond.instanceMethod yX8_step, Cond.selects RX8 yX8_step yX8_step, Cond.initialized RX8, Cond.code yX8_step cX8_step 1 none, Cond.fieldLink RX8 84 "BuriedHalvesModel" "at" "I", Cond.fieldLink RX8 87 "BuriedHalvesModel" "begin" "I", Cond.constantLong RX8 97 (97), Cond.constantLong RX8 99 (122), Cond.constantLong RX8 101 (48), Cond.constantLong RX8 103 (57), Cond.methodLink RX8 90 yX8_here, Cond.instanceMethod yX8_here, Cond.selects RX8 yX8_here yX8_here, Cond.code yX8_here cX8_here 1 (some .int), Cond.fieldLink RX8 80 "BuriedHalvesModel" "size" "I", Cond.fieldLink RX8 38 "BuriedHalvesModel" "tape" "[I", Cond.methodLink RX8 60 yX8_in, Cond.static yX8_in, Cond.code yX8_in cX8_in 6 (some .boolean), Cond.methodLink RX8 114 yX8_fails]
def wsX8_number_r2 : List Cond := [Cond.instanceMethod yX8_fails, Cond.selects RX8 yX8_fails yX8_fails, Cond.code yX8_fails cX8_fails 2 (some .boolean), Cond.fieldLink RX8 108 "BuriedHalvesModel" "wrong" "I"]
def wsX8_number : List Cond := .code yX8_number cX8_number 5 (some .boolean) :: ((wsX8_number_r1 ++ wsX8_number_r2) ++ wsX80)
def wsX8_sortOf : List Cond := .code yX8_sortOf cX8_sortOf 1 (some .int) :: ([])
def wsX8_readsThing_r1 : List Cond := [Cond.fieldLink RX8 22 "BuriedHalvesModel" "read" "[I", Cond.fieldLink RX8 105 "BuriedHalvesModel" "token" "I", Cond.fieldLink RX8 94 "BuriedHalvesModel" "value" "I", Cond.methodLink RX8 117 yX8_sortOf, Cond.static yX8_sortOf, Cond.initialized RX8, Cond.code yX8_sortOf cX8_sortOf 1 (some .int), Cond.methodLink RX8 114 yX8_fails, Cond.instanceMethod yX8_fails, Cond.selects RX8 yX8_fails yX8_fails, Cond.code yX8_fails cX8_fails 2 (some .boolean), Cond.fieldLink RX8 108 "BuriedHalvesModel" "wrong" "I", Cond.methodLink RX8 120 yX8_number, Cond.instanceMethod yX8_number, Cond.selects RX8 yX8_number yX8_number, Cond.code yX8_number cX8_number 5 (some .boolean), Cond.methodLink RX8 111 yX8_step, Cond.instanceMethod yX8_step, Cond.selects RX8 yX8_step yX8_step, Cond.code yX8_step cX8_step 1 none, Cond.fieldLink RX8 84 "BuriedHalvesModel" "at" "I", Cond.fieldLink RX8 87 "BuriedHalvesModel" "begin" "I", Cond.constantLong RX8 97 (97), Cond.constantLong RX8 99 (122)]
def wsX8_readsThing_r2 : List Cond := [Cond.constantLong RX8 101 (48), Cond.constantLong RX8 103 (57), Cond.methodLink RX8 90 yX8_here, Cond.instanceMethod yX8_here, Cond.selects RX8 yX8_here yX8_here, Cond.code yX8_here cX8_here 1 (some .int), Cond.fieldLink RX8 80 "BuriedHalvesModel" "size" "I", Cond.fieldLink RX8 38 "BuriedHalvesModel" "tape" "[I", Cond.methodLink RX8 60 yX8_in, Cond.static yX8_in, Cond.code yX8_in cX8_in 6 (some .boolean)]
def wsX8_readsThing : List Cond := .code yX8_readsThing cX8_readsThing 3 (some .boolean) :: ((wsX8_readsThing_r1 ++ wsX8_readsThing_r2) ++ wsX80)
def wsX8_reads_r1 : List Cond := [Cond.fieldLink RX8 22 "BuriedHalvesModel" "read" "[I", Cond.fieldLink RX8 84 "BuriedHalvesModel" "at" "I", Cond.fieldLink RX8 105 "BuriedHalvesModel" "token" "I", Cond.fieldLink RX8 94 "BuriedHalvesModel" "value" "I", Cond.methodLink RX8 111 yX8_step, Cond.instanceMethod yX8_step, Cond.selects RX8 yX8_step yX8_step, Cond.initialized RX8, Cond.code yX8_step cX8_step 1 none, Cond.fieldLink RX8 87 "BuriedHalvesModel" "begin" "I", Cond.constantLong RX8 97 (97), Cond.constantLong RX8 99 (122), Cond.constantLong RX8 101 (48), Cond.constantLong RX8 103 (57), Cond.methodLink RX8 90 yX8_here, Cond.instanceMethod yX8_here, Cond.selects RX8 yX8_here yX8_here, Cond.code yX8_here cX8_here 1 (some .int), Cond.fieldLink RX8 80 "BuriedHalvesModel" "size" "I", Cond.fieldLink RX8 38 "BuriedHalvesModel" "tape" "[I", Cond.methodLink RX8 60 yX8_in, Cond.static yX8_in, Cond.code yX8_in cX8_in 6 (some .boolean), Cond.methodLink RX8 114 yX8_fails]
def wsX8_reads_r2 : List Cond := [Cond.instanceMethod yX8_fails, Cond.selects RX8 yX8_fails yX8_fails, Cond.code yX8_fails cX8_fails 2 (some .boolean), Cond.fieldLink RX8 108 "BuriedHalvesModel" "wrong" "I", Cond.methodLink RX8 120 yX8_number, Cond.instanceMethod yX8_number, Cond.selects RX8 yX8_number yX8_number, Cond.code yX8_number cX8_number 5 (some .boolean), Cond.methodLink RX8 124 yX8_readsThing, Cond.instanceMethod yX8_readsThing, Cond.selects RX8 yX8_readsThing yX8_readsThing, Cond.code yX8_readsThing cX8_readsThing 3 (some .boolean), Cond.methodLink RX8 117 yX8_sortOf, Cond.static yX8_sortOf, Cond.code yX8_sortOf cX8_sortOf 1 (some .int)]
def wsX8_reads : List Cond := .code yX8_reads cX8_reads 2 (some .boolean) :: ((wsX8_reads_r1 ++ wsX8_reads_r2) ++ wsX80)
def wsX8_copies : List Cond := .code yX8_copies cX8_copies 5 none :: ([])
def wsX8_mine_r1 : List Cond := [Cond.fieldLink RX8 80 "BuriedHalvesModel" "size" "I", Cond.fieldLink RX8 108 "BuriedHalvesModel" "wrong" "I", Cond.fieldLink RX8 131 "BuriedHalvesModel" "fault" "I", Cond.constant RX8 134 (-1000100), Cond.fieldLink RX8 87 "BuriedHalvesModel" "begin" "I", Cond.fieldLink RX8 22 "BuriedHalvesModel" "read" "[I", Cond.fieldLink RX8 19 "BuriedHalvesModel" "now" "[I", Cond.fieldLink RX8 139 "BuriedHalvesModel" "acts" "I", Cond.methodLink RX8 128 yX8_reads, Cond.instanceMethod yX8_reads, Cond.selects RX8 yX8_reads yX8_reads, Cond.initialized RX8, Cond.code yX8_reads cX8_reads 2 (some .boolean), Cond.fieldLink RX8 84 "BuriedHalvesModel" "at" "I", Cond.fieldLink RX8 105 "BuriedHalvesModel" "token" "I", Cond.fieldLink RX8 94 "BuriedHalvesModel" "value" "I", Cond.methodLink RX8 111 yX8_step, Cond.instanceMethod yX8_step, Cond.selects RX8 yX8_step yX8_step, Cond.code yX8_step cX8_step 1 none, Cond.constantLong RX8 97 (97), Cond.constantLong RX8 99 (122), Cond.constantLong RX8 101 (48), Cond.constantLong RX8 103 (57)]
def wsX8_mine_r2 : List Cond := [Cond.methodLink RX8 90 yX8_here, Cond.instanceMethod yX8_here, Cond.selects RX8 yX8_here yX8_here, Cond.code yX8_here cX8_here 1 (some .int), Cond.fieldLink RX8 38 "BuriedHalvesModel" "tape" "[I", Cond.methodLink RX8 60 yX8_in, Cond.static yX8_in, Cond.code yX8_in cX8_in 6 (some .boolean), Cond.methodLink RX8 114 yX8_fails, Cond.instanceMethod yX8_fails, Cond.selects RX8 yX8_fails yX8_fails, Cond.code yX8_fails cX8_fails 2 (some .boolean), Cond.methodLink RX8 120 yX8_number, Cond.instanceMethod yX8_number, Cond.selects RX8 yX8_number yX8_number, Cond.code yX8_number cX8_number 5 (some .boolean), Cond.methodLink RX8 124 yX8_readsThing, Cond.instanceMethod yX8_readsThing, Cond.selects RX8 yX8_readsThing yX8_readsThing, Cond.code yX8_readsThing cX8_readsThing 3 (some .boolean), Cond.methodLink RX8 117 yX8_sortOf, Cond.static yX8_sortOf, Cond.code yX8_sortOf cX8_sortOf 1 (some .int), Cond.methodLink RX8 135 yX8_copies]
def wsX8_mine_r3 : List Cond := [Cond.static yX8_copies, Cond.code yX8_copies cX8_copies 5 none]
def wsX8_mine : List Cond := .code yX8_mine cX8_mine 2 (some .int) :: ((wsX8_mine_r1 ++ (wsX8_mine_r2 ++ wsX8_mine_r3)) ++ wsX80)
def wsX8_fault : List Cond := .code yX8_fault cX8_fault 1 (some .int) :: ([.fieldLink RX8 131 "BuriedHalvesModel" "fault" "I"] ++ wsX80)
def wsX8_has : List Cond := .code yX8_has cX8_has 2 (some .boolean) :: ([])
def wsX8_bits : List Cond := .code yX8_bits cX8_bits 3 (some .int) :: ([])
def wsX8_lies : List Cond := .code yX8_lies cX8_lies 2 (some .boolean) :: ([])
def wsX8_rises : List Cond := .code yX8_rises cX8_rises 6 (some .int) :: ([.methodLink RX8 142 yX8_lies, .static yX8_lies, .initialized RX8, .code yX8_lies cX8_lies 2 (some .boolean)])
def wsX8_yearGoes : List Cond := .code yX8_yearGoes cX8_yearGoes 3 none :: ([.fieldLink RX8 44 "BuriedHalvesModel" "rise" "[I", .methodLink RX8 146 yX8_rises, .static yX8_rises, .initialized RX8, .code yX8_rises cX8_rises 6 (some .int), .methodLink RX8 142 yX8_lies, .static yX8_lies, .code yX8_lies cX8_lies 2 (some .boolean)] ++ wsX80)
def wsX8_upOf : List Cond := .code yX8_upOf cX8_upOf 3 (some .int) :: ([.methodLink RX8 142 yX8_lies, .static yX8_lies, .initialized RX8, .code yX8_lies cX8_lies 2 (some .boolean)])
def wsX8_abs : List Cond := .code yX8_abs cX8_abs 1 (some .int) :: ([])
def wsX8_tooNear : List Cond := .code yX8_tooNear cX8_tooNear 3 (some .boolean) :: ([.methodLink RX8 142 yX8_lies, .static yX8_lies, .initialized RX8, .code yX8_lies cX8_lies 2 (some .boolean), .methodLink RX8 150 yX8_abs, .static yX8_abs, .code yX8_abs cX8_abs 1 (some .int)])
def wsX8_nearTo : List Cond := .code yX8_nearTo cX8_nearTo 4 (some .int) :: ([.methodLink RX8 153 yX8_tooNear, .static yX8_tooNear, .initialized RX8, .code yX8_tooNear cX8_tooNear 3 (some .boolean), .methodLink RX8 142 yX8_lies, .static yX8_lies, .code yX8_lies cX8_lies 2 (some .boolean), .methodLink RX8 150 yX8_abs, .static yX8_abs, .code yX8_abs cX8_abs 1 (some .int)])
def wsX8_twoOf : List Cond := .code yX8_twoOf cX8_twoOf 3 (some .int) :: ([.constant RX8 157 (-1000000), .methodLink RX8 153 yX8_tooNear, .static yX8_tooNear, .initialized RX8, .code yX8_tooNear cX8_tooNear 3 (some .boolean), .methodLink RX8 142 yX8_lies, .static yX8_lies, .code yX8_lies cX8_lies 2 (some .boolean), .methodLink RX8 150 yX8_abs, .static yX8_abs, .code yX8_abs cX8_abs 1 (some .int)])
def wsX8_isMine : List Cond := .code yX8_isMine cX8_isMine 1 (some .boolean) :: ([.fieldLink RX8 19 "BuriedHalvesModel" "now" "[I"] ++ wsX80)
def wsX8_isThing : List Cond := .code yX8_isThing cX8_isThing 2 (some .boolean) :: ([.fieldLink RX8 19 "BuriedHalvesModel" "now" "[I", .methodLink RX8 60 yX8_in, .static yX8_in, .initialized RX8, .code yX8_in cX8_in 6 (some .boolean)] ++ wsX80)
def wsX8_isTwo : List Cond := .code yX8_isTwo cX8_isTwo 1 (some .boolean) :: ([.methodLink RX8 60 yX8_in, .static yX8_in, .initialized RX8, .code yX8_in cX8_in 6 (some .boolean)])
def wsX8_isSpan : List Cond := .code yX8_isSpan cX8_isSpan 1 (some .boolean) :: ([.constantLong RX8 158 (60), .methodLink RX8 60 yX8_in, .static yX8_in, .initialized RX8, .code yX8_in cX8_in 6 (some .boolean)])
def wsX8_remember : List Cond := .code yX8_remember cX8_remember 2 none :: ([.fieldLink RX8 139 "BuriedHalvesModel" "acts" "I", .fieldLink RX8 28 "BuriedHalvesModel" "past" "[I", .fieldLink RX8 19 "BuriedHalvesModel" "now" "[I", .methodLink RX8 135 yX8_copies, .static yX8_copies, .initialized RX8, .code yX8_copies cX8_copies 5 none] ++ wsX80)
def wsX8_years_r1 : List Cond := [Cond.constant RX8 163 (-1000002), Cond.constantLong RX8 164 (24), Cond.constant RX8 70 (-1000001), Cond.fieldLink RX8 19 "BuriedHalvesModel" "now" "[I", Cond.constant RX8 83 (-1000003), Cond.methodLink RX8 160 yX8_isMine, Cond.instanceMethod yX8_isMine, Cond.selects RX8 yX8_isMine yX8_isMine, Cond.initialized RX8, Cond.code yX8_isMine cX8_isMine 1 (some .boolean), Cond.methodLink RX8 60 yX8_in, Cond.static yX8_in, Cond.code yX8_in cX8_in 6 (some .boolean), Cond.methodLink RX8 166 yX8_remember, Cond.instanceMethod yX8_remember, Cond.selects RX8 yX8_remember yX8_remember, Cond.code yX8_remember cX8_remember 2 none, Cond.fieldLink RX8 139 "BuriedHalvesModel" "acts" "I", Cond.fieldLink RX8 28 "BuriedHalvesModel" "past" "[I", Cond.methodLink RX8 135 yX8_copies, Cond.static yX8_copies, Cond.code yX8_copies cX8_copies 5 none, Cond.methodLink RX8 169 yX8_yearGoes, Cond.instanceMethod yX8_yearGoes]
def wsX8_years_r2 : List Cond := [Cond.selects RX8 yX8_yearGoes yX8_yearGoes, Cond.code yX8_yearGoes cX8_yearGoes 3 none, Cond.fieldLink RX8 44 "BuriedHalvesModel" "rise" "[I", Cond.methodLink RX8 146 yX8_rises, Cond.static yX8_rises, Cond.code yX8_rises cX8_rises 6 (some .int), Cond.methodLink RX8 142 yX8_lies, Cond.static yX8_lies, Cond.code yX8_lies cX8_lies 2 (some .boolean), Cond.methodLink RX8 173 yX8_upOf, Cond.static yX8_upOf, Cond.code yX8_upOf cX8_upOf 3 (some .int)]
def wsX8_years : List Cond := .code yX8_years cX8_years 3 (some .int) :: ((wsX8_years_r1 ++ wsX8_years_r2) ++ wsX80)
def wsX8_bury : List Cond := .code yX8_bury cX8_bury 4 (some .int) :: ([.constantLong RX8 180 (3), .constantLong RX8 182 (40), .constant RX8 70 (-1000001), .fieldLink RX8 19 "BuriedHalvesModel" "now" "[I", .methodLink RX8 177 yX8_isThing, .instanceMethod yX8_isThing, .selects RX8 yX8_isThing yX8_isThing, .initialized RX8, .code yX8_isThing cX8_isThing 2 (some .boolean), .methodLink RX8 60 yX8_in, .static yX8_in, .code yX8_in cX8_in 6 (some .boolean), .methodLink RX8 166 yX8_remember, .instanceMethod yX8_remember, .selects RX8 yX8_remember yX8_remember, .code yX8_remember cX8_remember 2 none, .fieldLink RX8 139 "BuriedHalvesModel" "acts" "I", .fieldLink RX8 28 "BuriedHalvesModel" "past" "[I", .methodLink RX8 135 yX8_copies, .static yX8_copies, .code yX8_copies cX8_copies 5 none] ++ wsX80)
def wsX8_tell_r1 : List Cond := [Cond.fieldLink RX8 19 "BuriedHalvesModel" "now" "[I", Cond.constant RX8 70 (-1000001), Cond.constant RX8 163 (-1000002), Cond.methodLink RX8 177 yX8_isThing, Cond.instanceMethod yX8_isThing, Cond.selects RX8 yX8_isThing yX8_isThing, Cond.initialized RX8, Cond.code yX8_isThing cX8_isThing 2 (some .boolean), Cond.methodLink RX8 60 yX8_in, Cond.static yX8_in, Cond.code yX8_in cX8_in 6 (some .boolean), Cond.methodLink RX8 184 yX8_isTwo, Cond.static yX8_isTwo, Cond.code yX8_isTwo cX8_isTwo 1 (some .boolean), Cond.methodLink RX8 187 yX8_has, Cond.static yX8_has, Cond.code yX8_has cX8_has 2 (some .boolean), Cond.methodLink RX8 166 yX8_remember, Cond.instanceMethod yX8_remember, Cond.selects RX8 yX8_remember yX8_remember, Cond.code yX8_remember cX8_remember 2 none, Cond.fieldLink RX8 139 "BuriedHalvesModel" "acts" "I", Cond.fieldLink RX8 28 "BuriedHalvesModel" "past" "[I", Cond.methodLink RX8 135 yX8_copies]
def wsX8_tell_r2 : List Cond := [Cond.static yX8_copies, Cond.code yX8_copies cX8_copies 5 none]
def wsX8_tell : List Cond := .code yX8_tell cX8_tell 4 (some .int) :: ((wsX8_tell_r1 ++ wsX8_tell_r2) ++ wsX80)
def wsX8_undo : List Cond := .code yX8_undo cX8_undo 1 (some .int) :: ([.fieldLink RX8 139 "BuriedHalvesModel" "acts" "I", .constant RX8 163 (-1000002), .fieldLink RX8 28 "BuriedHalvesModel" "past" "[I", .fieldLink RX8 19 "BuriedHalvesModel" "now" "[I", .methodLink RX8 135 yX8_copies, .static yX8_copies, .initialized RX8, .code yX8_copies cX8_copies 5 none] ++ wsX80)
def wsX8_thing_r1 : List Cond := [Cond.constant RX8 70 (-1000001), Cond.fieldLink RX8 19 "BuriedHalvesModel" "now" "[I", Cond.methodLink RX8 177 yX8_isThing, Cond.instanceMethod yX8_isThing, Cond.selects RX8 yX8_isThing yX8_isThing, Cond.initialized RX8, Cond.code yX8_isThing cX8_isThing 2 (some .boolean), Cond.methodLink RX8 60 yX8_in, Cond.static yX8_in, Cond.code yX8_in cX8_in 6 (some .boolean), Cond.methodLink RX8 191 yX8_nearTo, Cond.static yX8_nearTo, Cond.code yX8_nearTo cX8_nearTo 4 (some .int), Cond.methodLink RX8 153 yX8_tooNear, Cond.static yX8_tooNear, Cond.code yX8_tooNear cX8_tooNear 3 (some .boolean), Cond.methodLink RX8 142 yX8_lies, Cond.static yX8_lies, Cond.code yX8_lies cX8_lies 2 (some .boolean), Cond.methodLink RX8 150 yX8_abs, Cond.static yX8_abs, Cond.code yX8_abs cX8_abs 1 (some .int), Cond.methodLink RX8 146 yX8_rises, Cond.static yX8_rises]
def wsX8_thing_r2 : List Cond := [Cond.code yX8_rises cX8_rises 6 (some .int)]
def wsX8_thing : List Cond := .code yX8_thing cX8_thing 3 (some .int) :: ((wsX8_thing_r1 ++ wsX8_thing_r2) ++ wsX80)
def wsX8_knows : List Cond := .code yX8_knows cX8_knows 4 (some .int) :: ([.fieldLink RX8 19 "BuriedHalvesModel" "now" "[I", .constant RX8 70 (-1000001), .methodLink RX8 60 yX8_in, .static yX8_in, .initialized RX8, .code yX8_in cX8_in 6 (some .boolean), .methodLink RX8 187 yX8_has, .static yX8_has, .code yX8_has cX8_has 2 (some .boolean)] ++ wsX80)
def wsX8_layAside : List Cond := .code yX8_layAside cX8_layAside 1 none :: ([.fieldLink RX8 19 "BuriedHalvesModel" "now" "[I", .fieldLink RX8 25 "BuriedHalvesModel" "aside" "[I", .methodLink RX8 135 yX8_copies, .static yX8_copies, .initialized RX8, .code yX8_copies cX8_copies 5 none] ++ wsX80)
def wsX8_go : List Cond := .code yX8_go cX8_go 3 none :: ([.fieldLink RX8 25 "BuriedHalvesModel" "aside" "[I", .methodLink RX8 169 yX8_yearGoes, .instanceMethod yX8_yearGoes, .selects RX8 yX8_yearGoes yX8_yearGoes, .initialized RX8, .code yX8_yearGoes cX8_yearGoes 3 none, .fieldLink RX8 44 "BuriedHalvesModel" "rise" "[I", .methodLink RX8 146 yX8_rises, .static yX8_rises, .code yX8_rises cX8_rises 6 (some .int), .methodLink RX8 142 yX8_lies, .static yX8_lies, .code yX8_lies cX8_lies 2 (some .boolean)] ++ wsX80)
def wsX8_ahead_r1 : List Cond := [Cond.constant RX8 70 (-1000001), Cond.fieldLink RX8 25 "BuriedHalvesModel" "aside" "[I", Cond.methodLink RX8 177 yX8_isThing, Cond.instanceMethod yX8_isThing, Cond.selects RX8 yX8_isThing yX8_isThing, Cond.initialized RX8, Cond.code yX8_isThing cX8_isThing 2 (some .boolean), Cond.fieldLink RX8 19 "BuriedHalvesModel" "now" "[I", Cond.methodLink RX8 60 yX8_in, Cond.static yX8_in, Cond.code yX8_in cX8_in 6 (some .boolean), Cond.methodLink RX8 194 yX8_isSpan, Cond.static yX8_isSpan, Cond.code yX8_isSpan cX8_isSpan 1 (some .boolean), Cond.constantLong RX8 158 (60), Cond.methodLink RX8 197 yX8_layAside, Cond.instanceMethod yX8_layAside, Cond.selects RX8 yX8_layAside yX8_layAside, Cond.code yX8_layAside cX8_layAside 1 none, Cond.methodLink RX8 135 yX8_copies, Cond.static yX8_copies, Cond.code yX8_copies cX8_copies 5 none, Cond.methodLink RX8 200 yX8_go, Cond.instanceMethod yX8_go]
def wsX8_ahead_r2 : List Cond := [Cond.selects RX8 yX8_go yX8_go, Cond.code yX8_go cX8_go 3 none, Cond.methodLink RX8 169 yX8_yearGoes, Cond.instanceMethod yX8_yearGoes, Cond.selects RX8 yX8_yearGoes yX8_yearGoes, Cond.code yX8_yearGoes cX8_yearGoes 3 none, Cond.fieldLink RX8 44 "BuriedHalvesModel" "rise" "[I", Cond.methodLink RX8 146 yX8_rises, Cond.static yX8_rises, Cond.code yX8_rises cX8_rises 6 (some .int), Cond.methodLink RX8 142 yX8_lies, Cond.static yX8_lies, Cond.code yX8_lies cX8_lies 2 (some .boolean)]
def wsX8_ahead : List Cond := .code yX8_ahead cX8_ahead 3 (some .int) :: ((wsX8_ahead_r1 ++ wsX8_ahead_r2) ++ wsX80)
def wsX8_up_r1 : List Cond := [Cond.constant RX8 163 (-1000002), Cond.constant RX8 70 (-1000001), Cond.fieldLink RX8 25 "BuriedHalvesModel" "aside" "[I", Cond.methodLink RX8 160 yX8_isMine, Cond.instanceMethod yX8_isMine, Cond.selects RX8 yX8_isMine yX8_isMine, Cond.initialized RX8, Cond.code yX8_isMine cX8_isMine 1 (some .boolean), Cond.fieldLink RX8 19 "BuriedHalvesModel" "now" "[I", Cond.methodLink RX8 194 yX8_isSpan, Cond.static yX8_isSpan, Cond.code yX8_isSpan cX8_isSpan 1 (some .boolean), Cond.constantLong RX8 158 (60), Cond.methodLink RX8 60 yX8_in, Cond.static yX8_in, Cond.code yX8_in cX8_in 6 (some .boolean), Cond.methodLink RX8 197 yX8_layAside, Cond.instanceMethod yX8_layAside, Cond.selects RX8 yX8_layAside yX8_layAside, Cond.code yX8_layAside cX8_layAside 1 none, Cond.methodLink RX8 135 yX8_copies, Cond.static yX8_copies, Cond.code yX8_copies cX8_copies 5 none, Cond.methodLink RX8 200 yX8_go]
def wsX8_up_r2 : List Cond := [Cond.instanceMethod yX8_go, Cond.selects RX8 yX8_go yX8_go, Cond.code yX8_go cX8_go 3 none, Cond.methodLink RX8 169 yX8_yearGoes, Cond.instanceMethod yX8_yearGoes, Cond.selects RX8 yX8_yearGoes yX8_yearGoes, Cond.code yX8_yearGoes cX8_yearGoes 3 none, Cond.fieldLink RX8 44 "BuriedHalvesModel" "rise" "[I", Cond.methodLink RX8 146 yX8_rises, Cond.static yX8_rises, Cond.code yX8_rises cX8_rises 6 (some .int), Cond.methodLink RX8 142 yX8_lies, Cond.static yX8_lies, Cond.code yX8_lies cX8_lies 2 (some .boolean), Cond.methodLink RX8 173 yX8_upOf, Cond.static yX8_upOf, Cond.code yX8_upOf cX8_upOf 3 (some .int)]
def wsX8_up : List Cond := .code yX8_up cX8_up 2 (some .int) :: ((wsX8_up_r1 ++ wsX8_up_r2) ++ wsX80)
def wsX8_comesUp_r1 : List Cond := [Cond.constant RX8 70 (-1000001), Cond.fieldLink RX8 25 "BuriedHalvesModel" "aside" "[I", Cond.constant RX8 157 (-1000000), Cond.methodLink RX8 177 yX8_isThing, Cond.instanceMethod yX8_isThing, Cond.selects RX8 yX8_isThing yX8_isThing, Cond.initialized RX8, Cond.code yX8_isThing cX8_isThing 2 (some .boolean), Cond.fieldLink RX8 19 "BuriedHalvesModel" "now" "[I", Cond.methodLink RX8 60 yX8_in, Cond.static yX8_in, Cond.code yX8_in cX8_in 6 (some .boolean), Cond.methodLink RX8 197 yX8_layAside, Cond.instanceMethod yX8_layAside, Cond.selects RX8 yX8_layAside yX8_layAside, Cond.code yX8_layAside cX8_layAside 1 none, Cond.methodLink RX8 135 yX8_copies, Cond.static yX8_copies, Cond.code yX8_copies cX8_copies 5 none, Cond.methodLink RX8 142 yX8_lies, Cond.static yX8_lies, Cond.code yX8_lies cX8_lies 2 (some .boolean), Cond.methodLink RX8 200 yX8_go, Cond.instanceMethod yX8_go]
def wsX8_comesUp_r2 : List Cond := [Cond.selects RX8 yX8_go yX8_go, Cond.code yX8_go cX8_go 3 none, Cond.methodLink RX8 169 yX8_yearGoes, Cond.instanceMethod yX8_yearGoes, Cond.selects RX8 yX8_yearGoes yX8_yearGoes, Cond.code yX8_yearGoes cX8_yearGoes 3 none, Cond.fieldLink RX8 44 "BuriedHalvesModel" "rise" "[I", Cond.methodLink RX8 146 yX8_rises, Cond.static yX8_rises, Cond.code yX8_rises cX8_rises 6 (some .int)]
def wsX8_comesUp : List Cond := .code yX8_comesUp cX8_comesUp 3 (some .int) :: ((wsX8_comesUp_r1 ++ wsX8_comesUp_r2) ++ wsX80)
def wsX8_first_r1 : List Cond := [Cond.constant RX8 163 (-1000002), Cond.constant RX8 70 (-1000001), Cond.fieldLink RX8 19 "BuriedHalvesModel" "now" "[I", Cond.fieldLink RX8 25 "BuriedHalvesModel" "aside" "[I", Cond.constant RX8 157 (-1000000), Cond.methodLink RX8 160 yX8_isMine, Cond.instanceMethod yX8_isMine, Cond.selects RX8 yX8_isMine yX8_isMine, Cond.initialized RX8, Cond.code yX8_isMine cX8_isMine 1 (some .boolean), Cond.methodLink RX8 184 yX8_isTwo, Cond.static yX8_isTwo, Cond.code yX8_isTwo cX8_isTwo 1 (some .boolean), Cond.methodLink RX8 60 yX8_in, Cond.static yX8_in, Cond.code yX8_in cX8_in 6 (some .boolean), Cond.methodLink RX8 173 yX8_upOf, Cond.static yX8_upOf, Cond.code yX8_upOf cX8_upOf 3 (some .int), Cond.methodLink RX8 142 yX8_lies, Cond.static yX8_lies, Cond.code yX8_lies cX8_lies 2 (some .boolean), Cond.methodLink RX8 197 yX8_layAside, Cond.instanceMethod yX8_layAside]
def wsX8_first_r2 : List Cond := [Cond.selects RX8 yX8_layAside yX8_layAside, Cond.code yX8_layAside cX8_layAside 1 none, Cond.methodLink RX8 135 yX8_copies, Cond.static yX8_copies, Cond.code yX8_copies cX8_copies 5 none, Cond.methodLink RX8 200 yX8_go, Cond.instanceMethod yX8_go, Cond.selects RX8 yX8_go yX8_go, Cond.code yX8_go cX8_go 3 none, Cond.methodLink RX8 169 yX8_yearGoes, Cond.instanceMethod yX8_yearGoes, Cond.selects RX8 yX8_yearGoes yX8_yearGoes, Cond.code yX8_yearGoes cX8_yearGoes 3 none, Cond.fieldLink RX8 44 "BuriedHalvesModel" "rise" "[I", Cond.methodLink RX8 146 yX8_rises, Cond.static yX8_rises, Cond.code yX8_rises cX8_rises 6 (some .int), Cond.methodLink RX8 187 yX8_has, Cond.static yX8_has, Cond.code yX8_has cX8_has 2 (some .boolean)]
def wsX8_first : List Cond := .code yX8_first cX8_first 6 (some .int) :: ((wsX8_first_r1 ++ wsX8_first_r2) ++ wsX80)
def wsX8_trouble_r1 : List Cond := [Cond.constant RX8 163 (-1000002), Cond.constant RX8 70 (-1000001), Cond.fieldLink RX8 25 "BuriedHalvesModel" "aside" "[I", Cond.constant RX8 157 (-1000000), Cond.methodLink RX8 160 yX8_isMine, Cond.instanceMethod yX8_isMine, Cond.selects RX8 yX8_isMine yX8_isMine, Cond.initialized RX8, Cond.code yX8_isMine cX8_isMine 1 (some .boolean), Cond.fieldLink RX8 19 "BuriedHalvesModel" "now" "[I", Cond.methodLink RX8 184 yX8_isTwo, Cond.static yX8_isTwo, Cond.code yX8_isTwo cX8_isTwo 1 (some .boolean), Cond.methodLink RX8 60 yX8_in, Cond.static yX8_in, Cond.code yX8_in cX8_in 6 (some .boolean), Cond.methodLink RX8 197 yX8_layAside, Cond.instanceMethod yX8_layAside, Cond.selects RX8 yX8_layAside yX8_layAside, Cond.code yX8_layAside cX8_layAside 1 none, Cond.methodLink RX8 135 yX8_copies, Cond.static yX8_copies, Cond.code yX8_copies cX8_copies 5 none, Cond.methodLink RX8 204 yX8_twoOf]
def wsX8_trouble_r2 : List Cond := [Cond.static yX8_twoOf, Cond.code yX8_twoOf cX8_twoOf 3 (some .int), Cond.methodLink RX8 153 yX8_tooNear, Cond.static yX8_tooNear, Cond.code yX8_tooNear cX8_tooNear 3 (some .boolean), Cond.methodLink RX8 142 yX8_lies, Cond.static yX8_lies, Cond.code yX8_lies cX8_lies 2 (some .boolean), Cond.methodLink RX8 150 yX8_abs, Cond.static yX8_abs, Cond.code yX8_abs cX8_abs 1 (some .int), Cond.methodLink RX8 200 yX8_go, Cond.instanceMethod yX8_go, Cond.selects RX8 yX8_go yX8_go, Cond.code yX8_go cX8_go 3 none, Cond.methodLink RX8 169 yX8_yearGoes, Cond.instanceMethod yX8_yearGoes, Cond.selects RX8 yX8_yearGoes yX8_yearGoes, Cond.code yX8_yearGoes cX8_yearGoes 3 none, Cond.fieldLink RX8 44 "BuriedHalvesModel" "rise" "[I", Cond.methodLink RX8 146 yX8_rises, Cond.static yX8_rises, Cond.code yX8_rises cX8_rises 6 (some .int)]
def wsX8_trouble : List Cond := .code yX8_trouble cX8_trouble 4 (some .int) :: ((wsX8_trouble_r1 ++ wsX8_trouble_r2) ++ wsX80)
def wsX8_rests_r1 : List Cond := [Cond.fieldLink RX8 19 "BuriedHalvesModel" "now" "[I", Cond.fieldLink RX8 25 "BuriedHalvesModel" "aside" "[I", Cond.constant RX8 157 (-1000000), Cond.methodLink RX8 173 yX8_upOf, Cond.static yX8_upOf, Cond.initialized RX8, Cond.code yX8_upOf cX8_upOf 3 (some .int), Cond.methodLink RX8 142 yX8_lies, Cond.static yX8_lies, Cond.code yX8_lies cX8_lies 2 (some .boolean), Cond.methodLink RX8 204 yX8_twoOf, Cond.static yX8_twoOf, Cond.code yX8_twoOf cX8_twoOf 3 (some .int), Cond.methodLink RX8 153 yX8_tooNear, Cond.static yX8_tooNear, Cond.code yX8_tooNear cX8_tooNear 3 (some .boolean), Cond.methodLink RX8 150 yX8_abs, Cond.static yX8_abs, Cond.code yX8_abs cX8_abs 1 (some .int), Cond.methodLink RX8 200 yX8_go, Cond.instanceMethod yX8_go, Cond.selects RX8 yX8_go yX8_go, Cond.code yX8_go cX8_go 3 none, Cond.methodLink RX8 169 yX8_yearGoes]
def wsX8_rests_r2 : List Cond := [Cond.instanceMethod yX8_yearGoes, Cond.selects RX8 yX8_yearGoes yX8_yearGoes, Cond.code yX8_yearGoes cX8_yearGoes 3 none, Cond.fieldLink RX8 44 "BuriedHalvesModel" "rise" "[I", Cond.methodLink RX8 146 yX8_rises, Cond.static yX8_rises, Cond.code yX8_rises cX8_rises 6 (some .int)]
def wsX8_rests : List Cond := .code yX8_rests cX8_rests 4 (some .boolean) :: ((wsX8_rests_r1 ++ wsX8_rests_r2) ++ wsX80)
def wsX8_layPlaces : List Cond := .code yX8_layPlaces cX8_layPlaces 6 (some .int) :: ([.fieldLink RX8 19 "BuriedHalvesModel" "now" "[I", .fieldLink RX8 47 "BuriedHalvesModel" "places" "[I", .constant RX8 207 (1000000), .fieldLink RX8 25 "BuriedHalvesModel" "aside" "[I", .methodLink RX8 197 yX8_layAside, .instanceMethod yX8_layAside, .selects RX8 yX8_layAside yX8_layAside, .initialized RX8, .code yX8_layAside cX8_layAside 1 none, .methodLink RX8 135 yX8_copies, .static yX8_copies, .code yX8_copies cX8_copies 5 none, .methodLink RX8 142 yX8_lies, .static yX8_lies, .code yX8_lies cX8_lies 2 (some .boolean)] ++ wsX80)
end
section
def wsX8_lay_r1 : List Cond := [Cond.constant RX8 163 (-1000002), Cond.constantLong RX8 208 (-1), Cond.constantLong RX8 210 (4), Cond.constant RX8 70 (-1000001), Cond.constant RX8 207 (1000000), Cond.fieldLink RX8 19 "BuriedHalvesModel" "now" "[I", Cond.fieldLink RX8 50 "BuriedHalvesModel" "best" "[I", Cond.fieldLink RX8 47 "BuriedHalvesModel" "places" "[I", Cond.constant RX8 157 (-1000000), Cond.methodLink RX8 160 yX8_isMine, Cond.instanceMethod yX8_isMine, Cond.selects RX8 yX8_isMine yX8_isMine, Cond.initialized RX8, Cond.code yX8_isMine cX8_isMine 1 (some .boolean), Cond.methodLink RX8 194 yX8_isSpan, Cond.static yX8_isSpan, Cond.code yX8_isSpan cX8_isSpan 1 (some .boolean), Cond.constantLong RX8 158 (60), Cond.methodLink RX8 60 yX8_in, Cond.static yX8_in, Cond.code yX8_in cX8_in 6 (some .boolean), Cond.methodLink RX8 212 yX8_layPlaces, Cond.instanceMethod yX8_layPlaces, Cond.selects RX8 yX8_layPlaces yX8_layPlaces]
def wsX8_lay_r2 : List Cond := [Cond.code yX8_layPlaces cX8_layPlaces 6 (some .int), Cond.fieldLink RX8 25 "BuriedHalvesModel" "aside" "[I", Cond.methodLink RX8 197 yX8_layAside, Cond.instanceMethod yX8_layAside, Cond.selects RX8 yX8_layAside yX8_layAside, Cond.code yX8_layAside cX8_layAside 1 none, Cond.methodLink RX8 135 yX8_copies, Cond.static yX8_copies, Cond.code yX8_copies cX8_copies 5 none, Cond.methodLink RX8 142 yX8_lies, Cond.static yX8_lies, Cond.code yX8_lies cX8_lies 2 (some .boolean), Cond.methodLink RX8 215 yX8_rests, Cond.instanceMethod yX8_rests, Cond.selects RX8 yX8_rests yX8_rests, Cond.code yX8_rests cX8_rests 4 (some .boolean), Cond.methodLink RX8 173 yX8_upOf, Cond.static yX8_upOf, Cond.code yX8_upOf cX8_upOf 3 (some .int), Cond.methodLink RX8 204 yX8_twoOf, Cond.static yX8_twoOf, Cond.code yX8_twoOf cX8_twoOf 3 (some .int), Cond.methodLink RX8 153 yX8_tooNear, Cond.static yX8_tooNear]
def wsX8_lay_r3 : List Cond := [Cond.code yX8_tooNear cX8_tooNear 3 (some .boolean), Cond.methodLink RX8 150 yX8_abs, Cond.static yX8_abs, Cond.code yX8_abs cX8_abs 1 (some .int), Cond.methodLink RX8 200 yX8_go, Cond.instanceMethod yX8_go, Cond.selects RX8 yX8_go yX8_go, Cond.code yX8_go cX8_go 3 none, Cond.methodLink RX8 169 yX8_yearGoes, Cond.instanceMethod yX8_yearGoes, Cond.selects RX8 yX8_yearGoes yX8_yearGoes, Cond.code yX8_yearGoes cX8_yearGoes 3 none, Cond.fieldLink RX8 44 "BuriedHalvesModel" "rise" "[I", Cond.methodLink RX8 146 yX8_rises, Cond.static yX8_rises, Cond.code yX8_rises cX8_rises 6 (some .int), Cond.methodLink RX8 177 yX8_isThing, Cond.instanceMethod yX8_isThing, Cond.selects RX8 yX8_isThing yX8_isThing, Cond.code yX8_isThing cX8_isThing 2 (some .boolean)]
def wsX8_lay : List Cond := .code yX8_lay cX8_lay 7 (some .int) :: ((wsX8_lay_r1 ++ (wsX8_lay_r2 ++ wsX8_lay_r3)) ++ wsX80)
def wsX8_dig_r1 : List Cond := [Cond.constant RX8 70 (-1000001), Cond.fieldLink RX8 25 "BuriedHalvesModel" "aside" "[I", Cond.constant RX8 157 (-1000000), Cond.methodLink RX8 177 yX8_isThing, Cond.instanceMethod yX8_isThing, Cond.selects RX8 yX8_isThing yX8_isThing, Cond.initialized RX8, Cond.code yX8_isThing cX8_isThing 2 (some .boolean), Cond.fieldLink RX8 19 "BuriedHalvesModel" "now" "[I", Cond.methodLink RX8 60 yX8_in, Cond.static yX8_in, Cond.code yX8_in cX8_in 6 (some .boolean), Cond.methodLink RX8 194 yX8_isSpan, Cond.static yX8_isSpan, Cond.code yX8_isSpan cX8_isSpan 1 (some .boolean), Cond.constantLong RX8 158 (60), Cond.methodLink RX8 197 yX8_layAside, Cond.instanceMethod yX8_layAside, Cond.selects RX8 yX8_layAside yX8_layAside, Cond.code yX8_layAside cX8_layAside 1 none, Cond.methodLink RX8 135 yX8_copies, Cond.static yX8_copies, Cond.code yX8_copies cX8_copies 5 none, Cond.methodLink RX8 200 yX8_go]
def wsX8_dig_r2 : List Cond := [Cond.instanceMethod yX8_go, Cond.selects RX8 yX8_go yX8_go, Cond.code yX8_go cX8_go 3 none, Cond.methodLink RX8 169 yX8_yearGoes, Cond.instanceMethod yX8_yearGoes, Cond.selects RX8 yX8_yearGoes yX8_yearGoes, Cond.code yX8_yearGoes cX8_yearGoes 3 none, Cond.fieldLink RX8 44 "BuriedHalvesModel" "rise" "[I", Cond.methodLink RX8 146 yX8_rises, Cond.static yX8_rises, Cond.code yX8_rises cX8_rises 6 (some .int), Cond.methodLink RX8 142 yX8_lies, Cond.static yX8_lies, Cond.code yX8_lies cX8_lies 2 (some .boolean)]
def wsX8_dig : List Cond := .code yX8_dig cX8_dig 4 (some .int) :: ((wsX8_dig_r1 ++ wsX8_dig_r2) ++ wsX80)
def wsX8_whom : List Cond := .code yX8_whom cX8_whom 6 (some .int) :: ([.constant RX8 163 (-1000002), .constant RX8 70 (-1000001), .constant RX8 157 (-1000000), .fieldLink RX8 19 "BuriedHalvesModel" "now" "[I", .methodLink RX8 160 yX8_isMine, .instanceMethod yX8_isMine, .selects RX8 yX8_isMine yX8_isMine, .initialized RX8, .code yX8_isMine cX8_isMine 1 (some .boolean), .methodLink RX8 184 yX8_isTwo, .static yX8_isTwo, .code yX8_isTwo cX8_isTwo 1 (some .boolean), .methodLink RX8 60 yX8_in, .static yX8_in, .code yX8_in cX8_in 6 (some .boolean), .methodLink RX8 218 yX8_bits, .static yX8_bits, .code yX8_bits cX8_bits 3 (some .int)] ++ wsX80)
def wsX8_halves : List Cond := .code yX8_halves cX8_halves 7 (some .int) :: ([.constant RX8 163 (-1000002), .constant RX8 70 (-1000001), .constant RX8 157 (-1000000), .fieldLink RX8 19 "BuriedHalvesModel" "now" "[I", .methodLink RX8 160 yX8_isMine, .instanceMethod yX8_isMine, .selects RX8 yX8_isMine yX8_isMine, .initialized RX8, .code yX8_isMine cX8_isMine 1 (some .boolean), .methodLink RX8 184 yX8_isTwo, .static yX8_isTwo, .code yX8_isTwo cX8_isTwo 1 (some .boolean), .methodLink RX8 60 yX8_in, .static yX8_in, .code yX8_in cX8_in 6 (some .boolean)] ++ wsX80)
def wsX8_comes_r1 : List Cond := [Cond.fieldLink RX8 16 "BuriedHalvesModel" "items" "[I", Cond.fieldLink RX8 25 "BuriedHalvesModel" "aside" "[I", Cond.methodLink RX8 200 yX8_go, Cond.instanceMethod yX8_go, Cond.selects RX8 yX8_go yX8_go, Cond.initialized RX8, Cond.code yX8_go cX8_go 3 none, Cond.methodLink RX8 169 yX8_yearGoes, Cond.instanceMethod yX8_yearGoes, Cond.selects RX8 yX8_yearGoes yX8_yearGoes, Cond.code yX8_yearGoes cX8_yearGoes 3 none, Cond.fieldLink RX8 44 "BuriedHalvesModel" "rise" "[I", Cond.methodLink RX8 146 yX8_rises, Cond.static yX8_rises, Cond.code yX8_rises cX8_rises 6 (some .int), Cond.methodLink RX8 142 yX8_lies, Cond.static yX8_lies, Cond.code yX8_lies cX8_lies 2 (some .boolean), Cond.methodLink RX8 191 yX8_nearTo, Cond.static yX8_nearTo, Cond.code yX8_nearTo cX8_nearTo 4 (some .int), Cond.methodLink RX8 153 yX8_tooNear, Cond.static yX8_tooNear, Cond.code yX8_tooNear cX8_tooNear 3 (some .boolean)]
def wsX8_comes_r2 : List Cond := [Cond.methodLink RX8 150 yX8_abs, Cond.static yX8_abs, Cond.code yX8_abs cX8_abs 1 (some .int)]
def wsX8_comes : List Cond := .code yX8_comes cX8_comes 7 (some .boolean) :: ((wsX8_comes_r1 ++ wsX8_comes_r2) ++ wsX80)
def wsX8_fits_r1 : List Cond := [Cond.constantLong RX8 221 (16), Cond.constantLong RX8 68 (2), Cond.constant RX8 70 (-1000001), Cond.fieldLink RX8 13 "BuriedHalvesModel" "sizes" "[I", Cond.fieldLink RX8 25 "BuriedHalvesModel" "aside" "[I", Cond.methodLink RX8 177 yX8_isThing, Cond.instanceMethod yX8_isThing, Cond.selects RX8 yX8_isThing yX8_isThing, Cond.initialized RX8, Cond.code yX8_isThing cX8_isThing 2 (some .boolean), Cond.fieldLink RX8 19 "BuriedHalvesModel" "now" "[I", Cond.methodLink RX8 60 yX8_in, Cond.static yX8_in, Cond.code yX8_in cX8_in 6 (some .boolean), Cond.methodLink RX8 64 yX8_isRow, Cond.static yX8_isRow, Cond.code yX8_isRow cX8_isRow 1 (some .boolean), Cond.constantLong RX8 58 (7), Cond.methodLink RX8 71 yX8_found, Cond.instanceMethod yX8_found, Cond.selects RX8 yX8_found yX8_found, Cond.code yX8_found cX8_found 2 (some .int), Cond.fieldLink RX8 53 "BuriedHalvesModel" "status" "I", Cond.constant RX8 57 (-1000010)]
def wsX8_fits_r2 : List Cond := [Cond.methodLink RX8 197 yX8_layAside, Cond.instanceMethod yX8_layAside, Cond.selects RX8 yX8_layAside yX8_layAside, Cond.code yX8_layAside cX8_layAside 1 none, Cond.methodLink RX8 135 yX8_copies, Cond.static yX8_copies, Cond.code yX8_copies cX8_copies 5 none, Cond.methodLink RX8 223 yX8_comes, Cond.instanceMethod yX8_comes, Cond.selects RX8 yX8_comes yX8_comes, Cond.code yX8_comes cX8_comes 7 (some .boolean), Cond.fieldLink RX8 16 "BuriedHalvesModel" "items" "[I", Cond.methodLink RX8 200 yX8_go, Cond.instanceMethod yX8_go, Cond.selects RX8 yX8_go yX8_go, Cond.code yX8_go cX8_go 3 none, Cond.methodLink RX8 169 yX8_yearGoes, Cond.instanceMethod yX8_yearGoes, Cond.selects RX8 yX8_yearGoes yX8_yearGoes, Cond.code yX8_yearGoes cX8_yearGoes 3 none, Cond.fieldLink RX8 44 "BuriedHalvesModel" "rise" "[I", Cond.methodLink RX8 146 yX8_rises, Cond.static yX8_rises, Cond.code yX8_rises cX8_rises 6 (some .int)]
def wsX8_fits_r3 : List Cond := [Cond.methodLink RX8 142 yX8_lies, Cond.static yX8_lies, Cond.code yX8_lies cX8_lies 2 (some .boolean), Cond.methodLink RX8 191 yX8_nearTo, Cond.static yX8_nearTo, Cond.code yX8_nearTo cX8_nearTo 4 (some .int), Cond.methodLink RX8 153 yX8_tooNear, Cond.static yX8_tooNear, Cond.code yX8_tooNear cX8_tooNear 3 (some .boolean), Cond.methodLink RX8 150 yX8_abs, Cond.static yX8_abs, Cond.code yX8_abs cX8_abs 1 (some .int), Cond.methodLink RX8 75 yX8_well, Cond.instanceMethod yX8_well, Cond.selects RX8 yX8_well yX8_well, Cond.code yX8_well cX8_well 2 (some .int)]
def wsX8_fits : List Cond := .code yX8_fits cX8_fits 11 (some .int) :: ((wsX8_fits_r1 ++ (wsX8_fits_r2 ++ wsX8_fits_r3)) ++ wsX80)
def wsX8_moles_r1 : List Cond := [Cond.constant RX8 163 (-1000002), Cond.constantLong RX8 227 (10), Cond.constant RX8 70 (-1000001), Cond.fieldLink RX8 19 "BuriedHalvesModel" "now" "[I", Cond.fieldLink RX8 25 "BuriedHalvesModel" "aside" "[I", Cond.methodLink RX8 160 yX8_isMine, Cond.instanceMethod yX8_isMine, Cond.selects RX8 yX8_isMine yX8_isMine, Cond.initialized RX8, Cond.code yX8_isMine cX8_isMine 1 (some .boolean), Cond.methodLink RX8 194 yX8_isSpan, Cond.static yX8_isSpan, Cond.code yX8_isSpan cX8_isSpan 1 (some .boolean), Cond.constantLong RX8 158 (60), Cond.methodLink RX8 60 yX8_in, Cond.static yX8_in, Cond.code yX8_in cX8_in 6 (some .boolean), Cond.methodLink RX8 184 yX8_isTwo, Cond.static yX8_isTwo, Cond.code yX8_isTwo cX8_isTwo 1 (some .boolean), Cond.methodLink RX8 173 yX8_upOf, Cond.static yX8_upOf, Cond.code yX8_upOf cX8_upOf 3 (some .int), Cond.methodLink RX8 142 yX8_lies]
def wsX8_moles_r2 : List Cond := [Cond.static yX8_lies, Cond.code yX8_lies cX8_lies 2 (some .boolean), Cond.methodLink RX8 187 yX8_has, Cond.static yX8_has, Cond.code yX8_has cX8_has 2 (some .boolean), Cond.methodLink RX8 197 yX8_layAside, Cond.instanceMethod yX8_layAside, Cond.selects RX8 yX8_layAside yX8_layAside, Cond.code yX8_layAside cX8_layAside 1 none, Cond.methodLink RX8 135 yX8_copies, Cond.static yX8_copies, Cond.code yX8_copies cX8_copies 5 none, Cond.methodLink RX8 200 yX8_go, Cond.instanceMethod yX8_go, Cond.selects RX8 yX8_go yX8_go, Cond.code yX8_go cX8_go 3 none, Cond.methodLink RX8 169 yX8_yearGoes, Cond.instanceMethod yX8_yearGoes, Cond.selects RX8 yX8_yearGoes yX8_yearGoes, Cond.code yX8_yearGoes cX8_yearGoes 3 none, Cond.fieldLink RX8 44 "BuriedHalvesModel" "rise" "[I", Cond.methodLink RX8 146 yX8_rises, Cond.static yX8_rises, Cond.code yX8_rises cX8_rises 6 (some .int)]
def wsX8_moles : List Cond := .code yX8_moles cX8_moles 16 (some .int) :: ((wsX8_moles_r1 ++ wsX8_moles_r2) ++ wsX80)
def wsX8_image : List Cond := .code yX8_image cX8_image 2 (some .int) :: ([.constant RX8 70 (-1000001), .constant RX8 163 (-1000002), .fieldLink RX8 19 "BuriedHalvesModel" "now" "[I", .fieldLink RX8 31 "BuriedHalvesModel" "images" "[I", .fieldLink RX8 34 "BuriedHalvesModel" "kept" "[Z", .methodLink RX8 184 yX8_isTwo, .static yX8_isTwo, .initialized RX8, .code yX8_isTwo cX8_isTwo 1 (some .boolean), .methodLink RX8 60 yX8_in, .static yX8_in, .code yX8_in cX8_in 6 (some .boolean), .methodLink RX8 160 yX8_isMine, .instanceMethod yX8_isMine, .selects RX8 yX8_isMine yX8_isMine, .code yX8_isMine cX8_isMine 1 (some .boolean), .methodLink RX8 135 yX8_copies, .static yX8_copies, .code yX8_copies cX8_copies 5 none] ++ wsX80)
def wsX8_restore : List Cond := .code yX8_restore cX8_restore 2 (some .int) :: ([.constant RX8 70 (-1000001), .fieldLink RX8 34 "BuriedHalvesModel" "kept" "[Z", .constant RX8 163 (-1000002), .fieldLink RX8 31 "BuriedHalvesModel" "images" "[I", .fieldLink RX8 19 "BuriedHalvesModel" "now" "[I", .fieldLink RX8 139 "BuriedHalvesModel" "acts" "I", .methodLink RX8 184 yX8_isTwo, .static yX8_isTwo, .initialized RX8, .code yX8_isTwo cX8_isTwo 1 (some .boolean), .methodLink RX8 60 yX8_in, .static yX8_in, .code yX8_in cX8_in 6 (some .boolean), .methodLink RX8 135 yX8_copies, .static yX8_copies, .code yX8_copies cX8_copies 5 none] ++ wsX80)
def wsX8_kind : List Cond := .code yX8_kind cX8_kind 2 (some .int) :: ([.fieldLink RX8 19 "BuriedHalvesModel" "now" "[I", .constant RX8 70 (-1000001), .methodLink RX8 177 yX8_isThing, .instanceMethod yX8_isThing, .selects RX8 yX8_isThing yX8_isThing, .initialized RX8, .code yX8_isThing cX8_isThing 2 (some .boolean), .methodLink RX8 60 yX8_in, .static yX8_in, .code yX8_in cX8_in 6 (some .boolean)] ++ wsX80)
def wsX8_isOf : List Cond := .code yX8_isOf cX8_isOf 2 (some .boolean) :: ([])
def wsX8_as : List Cond := .code yX8_as cX8_as 3 (some .int) :: ([.constantLong RX8 229 (5), .constant RX8 70 (-1000001), .fieldLink RX8 19 "BuriedHalvesModel" "now" "[I", .methodLink RX8 177 yX8_isThing, .instanceMethod yX8_isThing, .selects RX8 yX8_isThing yX8_isThing, .initialized RX8, .code yX8_isThing cX8_isThing 2 (some .boolean), .methodLink RX8 60 yX8_in, .static yX8_in, .code yX8_in cX8_in 6 (some .boolean), .methodLink RX8 231 yX8_isOf, .static yX8_isOf, .code yX8_isOf cX8_isOf 2 (some .boolean), .methodLink RX8 75 yX8_well, .instanceMethod yX8_well, .selects RX8 yX8_well yX8_well, .code yX8_well cX8_well 2 (some .int), .fieldLink RX8 53 "BuriedHalvesModel" "status" "I", .methodLink RX8 71 yX8_found, .instanceMethod yX8_found, .selects RX8 yX8_found yX8_found, .code yX8_found cX8_found 2 (some .int), .constant RX8 57 (-1000010)] ++ wsX80)
def wsX8_leave : List Cond := .code yX8_leave cX8_leave 7 none :: ([.constantLong RX8 234 (100), .fieldLink RX8 41 "BuriedHalvesModel" "trace" "[I", .fieldLink RX8 236 "BuriedHalvesModel" "traced" "I"] ++ wsX80)
def wsX8_mark : List Cond := .code yX8_mark cX8_mark 4 (some .int) :: ([.fieldLink RX8 19 "BuriedHalvesModel" "now" "[I", .constantLong RX8 239 (242120), .constantLong RX8 241 (222120), .constantLong RX8 243 (2120), .methodLink RX8 245 yX8_leave, .instanceMethod yX8_leave, .selects RX8 yX8_leave yX8_leave, .initialized RX8, .code yX8_leave cX8_leave 7 none, .constantLong RX8 234 (100), .fieldLink RX8 41 "BuriedHalvesModel" "trace" "[I", .fieldLink RX8 236 "BuriedHalvesModel" "traced" "I"] ++ wsX80)
def wsX8_sizeOf : List Cond := .code yX8_sizeOf cX8_sizeOf 4 (some .int) :: ([.fieldLink RX8 19 "BuriedHalvesModel" "now" "[I", .constantLong RX8 249 (141310), .constantLong RX8 251 (1310), .methodLink RX8 245 yX8_leave, .instanceMethod yX8_leave, .selects RX8 yX8_leave yX8_leave, .initialized RX8, .code yX8_leave cX8_leave 7 none, .constantLong RX8 234 (100), .fieldLink RX8 41 "BuriedHalvesModel" "trace" "[I", .fieldLink RX8 236 "BuriedHalvesModel" "traced" "I"] ++ wsX80)
def wsX8_ask_r1 : List Cond := [Cond.constant RX8 70 (-1000001), Cond.fieldLink RX8 236 "BuriedHalvesModel" "traced" "I", Cond.fieldLink RX8 19 "BuriedHalvesModel" "now" "[I", Cond.constantLong RX8 256 (121110), Cond.constantLong RX8 258 (1110), Cond.constantLong RX8 263 (2320), Cond.methodLink RX8 177 yX8_isThing, Cond.instanceMethod yX8_isThing, Cond.selects RX8 yX8_isThing yX8_isThing, Cond.initialized RX8, Cond.code yX8_isThing cX8_isThing 2 (some .boolean), Cond.methodLink RX8 60 yX8_in, Cond.static yX8_in, Cond.code yX8_in cX8_in 6 (some .boolean), Cond.methodLink RX8 184 yX8_isTwo, Cond.static yX8_isTwo, Cond.code yX8_isTwo cX8_isTwo 1 (some .boolean), Cond.methodLink RX8 253 yX8_mark, Cond.instanceMethod yX8_mark, Cond.selects RX8 yX8_mark yX8_mark, Cond.code yX8_mark cX8_mark 4 (some .int), Cond.constantLong RX8 239 (242120), Cond.constantLong RX8 241 (222120), Cond.constantLong RX8 243 (2120)]
def wsX8_ask_r2 : List Cond := [Cond.methodLink RX8 245 yX8_leave, Cond.instanceMethod yX8_leave, Cond.selects RX8 yX8_leave yX8_leave, Cond.code yX8_leave cX8_leave 7 none, Cond.constantLong RX8 234 (100), Cond.fieldLink RX8 41 "BuriedHalvesModel" "trace" "[I", Cond.methodLink RX8 260 yX8_sizeOf, Cond.instanceMethod yX8_sizeOf, Cond.selects RX8 yX8_sizeOf yX8_sizeOf, Cond.code yX8_sizeOf cX8_sizeOf 4 (some .int), Cond.constantLong RX8 249 (141310), Cond.constantLong RX8 251 (1310)]
def wsX8_ask : List Cond := .code yX8_ask cX8_ask 5 (some .int) :: ((wsX8_ask_r1 ++ wsX8_ask_r2) ++ wsX80)
def wsX8_trace : List Cond := .code yX8_trace cX8_trace 2 (some .int) :: ([.fieldLink RX8 236 "BuriedHalvesModel" "traced" "I", .fieldLink RX8 41 "BuriedHalvesModel" "trace" "[I", .constant RX8 157 (-1000000), .methodLink RX8 60 yX8_in, .static yX8_in, .initialized RX8, .code yX8_in cX8_in 6 (some .boolean)] ++ wsX80)
def wsX8_count : List Cond := .code yX8_count cX8_count 4 (some .int) :: ([.fieldLink RX8 13 "BuriedHalvesModel" "sizes" "[I", .fieldLink RX8 19 "BuriedHalvesModel" "now" "[I", .fieldLink RX8 139 "BuriedHalvesModel" "acts" "I", .fieldLink RX8 80 "BuriedHalvesModel" "size" "I", .constant RX8 70 (-1000001)] ++ wsX80)
def wsX8_status : List Cond := .code yX8_status cX8_status 1 (some .int) :: ([.fieldLink RX8 53 "BuriedHalvesModel" "status" "I"] ++ wsX80)
def wsJ9_abs_0f7a4 : List Cond := .code yJ9_abs_0f7a4 cJ9_abs_0f7a4 1 (some .int) :: ([])
def wsJ9_min_7cf53 : List Cond := .code yJ9_min_7cf53 cJ9_min_7cf53 2 (some .int) :: ([])
set_option maxRecDepth 20000 in
theorem ggX0_init_X3_init : GoodIn wsX0_init wsX3_init := goodIn_r _ [11, 12, 2, 3, 13, 14, 15, 16, 17, 18, 19, 20, 21, 22, 23, 24, 25, 29, 30, 31, 32, 33, 34, 35, 36, 37, 38, 39, 40] (by decide +kernel) (by decide +kernel)
set_option maxRecDepth 20000 in
theorem gX0_init_X3_init_n24 : GoodIn wsX0_init (wsX3_init) := ggX0_init_X3_init
theorem dX0_init_0 : decode cX0_init 0 = .ok (.aload_n 0, 1) := by decide +kernel
theorem dX0_init_1 : decode cX0_init 1 = .ok (.invokespecial 3, 3) := by decide +kernel
theorem dX0_init_4 : decode cX0_init 4 = .ok (.aload_n 0, 1) := by decide +kernel
theorem dX0_init_5 : decode cX0_init 5 = .ok (.bipush 24, 2) := by decide +kernel
theorem dX0_init_7 : decode cX0_init 7 = .ok (.anewarray 9, 3) := by decide +kernel
theorem dX0_init_10 : decode cX0_init 10 = .ok (.putfield 11, 3) := by decide +kernel
theorem dX0_init_13 : decode cX0_init 13 = .ok (.aload_n 0, 1) := by decide +kernel
theorem dX0_init_14 : decode cX0_init 14 = .ok (.iconst 0, 1) := by decide +kernel
theorem dX0_init_15 : decode cX0_init 15 = .ok (.putfield 17, 3) := by decide +kernel
theorem dX0_init_18 : decode cX0_init 18 = .ok (.aload_n 0, 1) := by decide +kernel
theorem dX0_init_19 : decode cX0_init 19 = .ok (.iconst 0, 1) := by decide +kernel
theorem dX0_init_20 : decode cX0_init 20 = .ok (.putfield 21, 3) := by decide +kernel
theorem dX0_init_23 : decode cX0_init 23 = .ok (.iconst 0, 1) := by decide +kernel
theorem dX0_init_24 : decode cX0_init 24 = .ok (.istore_n 1, 1) := by decide +kernel
theorem dX0_init_25 : decode cX0_init 25 = .ok (.iload_n 1, 1) := by decide +kernel
theorem dX0_init_26 : decode cX0_init 26 = .ok (.bipush 24, 2) := by decide +kernel
theorem dX0_init_28 : decode cX0_init 28 = .ok (.if_icmp .ge 22, 3) := by decide +kernel
theorem dX0_init_31 : decode cX0_init 31 = .ok (.aload_n 0, 1) := by decide +kernel
theorem dX0_init_32 : decode cX0_init 32 = .ok (.getfield 11, 3) := by decide +kernel
theorem dX0_init_35 : decode cX0_init 35 = .ok (.iload_n 1, 1) := by decide +kernel
theorem dX0_init_36 : decode cX0_init 36 = .ok (.new 9, 3) := by decide +kernel
theorem dX0_init_39 : decode cX0_init 39 = .ok (.dup, 1) := by decide +kernel
theorem dX0_init_40 : decode cX0_init 40 = .ok (.invokespecial 24, 3) := by decide +kernel
theorem dX0_init_43 : decode cX0_init 43 = .ok (.aastore, 1) := by decide +kernel
theorem dX0_init_44 : decode cX0_init 44 = .ok (.iinc 1 1, 3) := by decide +kernel
theorem dX0_init_47 : decode cX0_init 47 = .ok (.goto (-22), 3) := by decide +kernel
theorem dX0_init_50 : decode cX0_init 50 = .ok (.return_, 1) := by decide +kernel
theorem dX0_forgetAll_0 : decode cX0_forgetAll 0 = .ok (.aload_n 0, 1) := by decide +kernel
theorem dX0_forgetAll_1 : decode cX0_forgetAll 1 = .ok (.iconst 0, 1) := by decide +kernel
theorem dX0_forgetAll_2 : decode cX0_forgetAll 2 = .ok (.putfield 21, 3) := by decide +kernel
theorem dX0_forgetAll_5 : decode cX0_forgetAll 5 = .ok (.return_, 1) := by decide +kernel
set_option maxRecDepth 20000 in
theorem ggX0_keep_X3_become : GoodIn wsX0_keep wsX3_become := goodIn_r _ [12, 13, 14, 15, 16, 17, 18, 19, 20, 21, 22, 23, 27, 28, 29, 30, 31, 32, 33, 34, 35, 36, 37, 38] (by decide +kernel) (by decide +kernel)
set_option maxRecDepth 20000 in
theorem gX0_keep_X3_become : GoodIn wsX0_keep (wsV RX0 25 RX3 yX3_become wsX3_become) := goodIn_app (goodIn_of _ (by decide +kernel)) ggX0_keep_X3_become
theorem dX0_keep_0 : decode cX0_keep 0 = .ok (.aload_n 0, 1) := by decide +kernel
theorem dX0_keep_1 : decode cX0_keep 1 = .ok (.getfield 11, 3) := by decide +kernel
theorem dX0_keep_4 : decode cX0_keep 4 = .ok (.aload_n 0, 1) := by decide +kernel
theorem dX0_keep_5 : decode cX0_keep 5 = .ok (.getfield 17, 3) := by decide +kernel
theorem dX0_keep_8 : decode cX0_keep 8 = .ok (.aaload, 1) := by decide +kernel
theorem dX0_keep_9 : decode cX0_keep 9 = .ok (.aload_n 1, 1) := by decide +kernel
theorem dX0_keep_10 : decode cX0_keep 10 = .ok (.invokevirtual 25, 3) := by decide +kernel
theorem dX0_keep_13 : decode cX0_keep 13 = .ok (.aload_n 0, 1) := by decide +kernel
theorem dX0_keep_14 : decode cX0_keep 14 = .ok (.aload_n 0, 1) := by decide +kernel
theorem dX0_keep_15 : decode cX0_keep 15 = .ok (.getfield 17, 3) := by decide +kernel
theorem dX0_keep_18 : decode cX0_keep 18 = .ok (.iconst 1, 1) := by decide +kernel
theorem dX0_keep_19 : decode cX0_keep 19 = .ok (.iadd, 1) := by decide +kernel
theorem dX0_keep_20 : decode cX0_keep 20 = .ok (.bipush 24, 2) := by decide +kernel
theorem dX0_keep_22 : decode cX0_keep 22 = .ok (.if_icmp .ge 12, 3) := by decide +kernel
theorem dX0_keep_25 : decode cX0_keep 25 = .ok (.aload_n 0, 1) := by decide +kernel
theorem dX0_keep_26 : decode cX0_keep 26 = .ok (.getfield 17, 3) := by decide +kernel
theorem dX0_keep_29 : decode cX0_keep 29 = .ok (.iconst 1, 1) := by decide +kernel
theorem dX0_keep_30 : decode cX0_keep 30 = .ok (.iadd, 1) := by decide +kernel
theorem dX0_keep_31 : decode cX0_keep 31 = .ok (.goto 4, 3) := by decide +kernel
theorem dX0_keep_34 : decode cX0_keep 34 = .ok (.iconst 0, 1) := by decide +kernel
theorem dX0_keep_35 : decode cX0_keep 35 = .ok (.putfield 17, 3) := by decide +kernel
theorem dX0_keep_38 : decode cX0_keep 38 = .ok (.aload_n 0, 1) := by decide +kernel
theorem dX0_keep_39 : decode cX0_keep 39 = .ok (.aload_n 0, 1) := by decide +kernel
theorem dX0_keep_40 : decode cX0_keep 40 = .ok (.getfield 21, 3) := by decide +kernel
theorem dX0_keep_43 : decode cX0_keep 43 = .ok (.iconst 1, 1) := by decide +kernel
theorem dX0_keep_44 : decode cX0_keep 44 = .ok (.iadd, 1) := by decide +kernel
theorem dX0_keep_45 : decode cX0_keep 45 = .ok (.bipush 24, 2) := by decide +kernel
theorem dX0_keep_47 : decode cX0_keep 47 = .ok (.invokestatic 29, 3) := by decide +kernel
theorem dX0_keep_50 : decode cX0_keep 50 = .ok (.putfield 21, 3) := by decide +kernel
theorem dX0_keep_53 : decode cX0_keep 53 = .ok (.return_, 1) := by decide +kernel
set_option maxRecDepth 20000 in
theorem ggX0_takeBack_X3_become : GoodIn wsX0_takeBack wsX3_become := goodIn_r _ [8, 9, 10, 11, 12, 13, 14, 15, 16, 17, 18, 19, 23, 24, 25, 26, 27, 28, 29, 30, 31, 32, 33, 34] (by decide +kernel) (by decide +kernel)
set_option maxRecDepth 20000 in
theorem gX0_takeBack_X3_become : GoodIn wsX0_takeBack (wsV RX0 25 RX3 yX3_become wsX3_become) := goodIn_app (goodIn_of _ (by decide +kernel)) ggX0_takeBack_X3_become
theorem dX0_takeBack_0 : decode cX0_takeBack 0 = .ok (.aload_n 0, 1) := by decide +kernel
theorem dX0_takeBack_1 : decode cX0_takeBack 1 = .ok (.getfield 21, 3) := by decide +kernel
theorem dX0_takeBack_4 : decode cX0_takeBack 4 = .ok (.ifCond .le 48, 3) := by decide +kernel
theorem dX0_takeBack_7 : decode cX0_takeBack 7 = .ok (.aload_n 0, 1) := by decide +kernel
theorem dX0_takeBack_8 : decode cX0_takeBack 8 = .ok (.aload_n 0, 1) := by decide +kernel
theorem dX0_takeBack_9 : decode cX0_takeBack 9 = .ok (.getfield 17, 3) := by decide +kernel
theorem dX0_takeBack_12 : decode cX0_takeBack 12 = .ok (.ifCond .le 12, 3) := by decide +kernel
theorem dX0_takeBack_15 : decode cX0_takeBack 15 = .ok (.aload_n 0, 1) := by decide +kernel
theorem dX0_takeBack_16 : decode cX0_takeBack 16 = .ok (.getfield 17, 3) := by decide +kernel
theorem dX0_takeBack_19 : decode cX0_takeBack 19 = .ok (.iconst 1, 1) := by decide +kernel
theorem dX0_takeBack_20 : decode cX0_takeBack 20 = .ok (.isub, 1) := by decide +kernel
theorem dX0_takeBack_21 : decode cX0_takeBack 21 = .ok (.goto 5, 3) := by decide +kernel
theorem dX0_takeBack_24 : decode cX0_takeBack 24 = .ok (.bipush 23, 2) := by decide +kernel
theorem dX0_takeBack_26 : decode cX0_takeBack 26 = .ok (.putfield 17, 3) := by decide +kernel
theorem dX0_takeBack_29 : decode cX0_takeBack 29 = .ok (.aload_n 0, 1) := by decide +kernel
theorem dX0_takeBack_30 : decode cX0_takeBack 30 = .ok (.dup, 1) := by decide +kernel
theorem dX0_takeBack_31 : decode cX0_takeBack 31 = .ok (.getfield 21, 3) := by decide +kernel
theorem dX0_takeBack_34 : decode cX0_takeBack 34 = .ok (.iconst 1, 1) := by decide +kernel
theorem dX0_takeBack_35 : decode cX0_takeBack 35 = .ok (.isub, 1) := by decide +kernel
theorem dX0_takeBack_36 : decode cX0_takeBack 36 = .ok (.putfield 21, 3) := by decide +kernel
theorem dX0_takeBack_39 : decode cX0_takeBack 39 = .ok (.aload_n 1, 1) := by decide +kernel
theorem dX0_takeBack_40 : decode cX0_takeBack 40 = .ok (.aload_n 0, 1) := by decide +kernel
theorem dX0_takeBack_41 : decode cX0_takeBack 41 = .ok (.getfield 11, 3) := by decide +kernel
theorem dX0_takeBack_44 : decode cX0_takeBack 44 = .ok (.aload_n 0, 1) := by decide +kernel
theorem dX0_takeBack_45 : decode cX0_takeBack 45 = .ok (.getfield 17, 3) := by decide +kernel
theorem dX0_takeBack_48 : decode cX0_takeBack 48 = .ok (.aaload, 1) := by decide +kernel
theorem dX0_takeBack_49 : decode cX0_takeBack 49 = .ok (.invokevirtual 25, 3) := by decide +kernel
theorem dX0_takeBack_52 : decode cX0_takeBack 52 = .ok (.return_, 1) := by decide +kernel
theorem dX1_init_0 : decode cX1_init 0 = .ok (.aload_n 0, 1) := by decide +kernel
theorem dX1_init_1 : decode cX1_init 1 = .ok (.invokespecial 3, 3) := by decide +kernel
theorem dX1_init_4 : decode cX1_init 4 = .ok (.aload_n 0, 1) := by decide +kernel
theorem dX1_init_5 : decode cX1_init 5 = .ok (.bipush 16, 2) := by decide +kernel
theorem dX1_init_7 : decode cX1_init 7 = .ok (.newarray .int, 2) := by decide +kernel
theorem dX1_init_9 : decode cX1_init 9 = .ok (.putfield 9, 3) := by decide +kernel
theorem dX1_init_12 : decode cX1_init 12 = .ok (.aload_n 0, 1) := by decide +kernel
theorem dX1_init_13 : decode cX1_init 13 = .ok (.iconst 0, 1) := by decide +kernel
theorem dX1_init_14 : decode cX1_init 14 = .ok (.putfield 15, 3) := by decide +kernel
theorem dX1_init_17 : decode cX1_init 17 = .ok (.return_, 1) := by decide +kernel
set_option maxRecDepth 20000 in
theorem ggX1_begin_X1_answer : GoodIn wsX1_begin wsX1_answer := goodIn_r _ [6, 7, 8, 9, 5, 10, 11, 12, 13, 14, 15, 16, 17, 18, 19, 20, 21, 22, 23, 24, 25, 26, 27, 28, 29, 1, 30, 2, 3, 4, 33, 34, 35, 36, 37, 38, 39, 40, 41, 42, 43, 44, 31, 32] (by decide +kernel) (by decide +kernel)
set_option maxRecDepth 20000 in
theorem gX1_begin_X1_answer : GoodIn wsX1_begin (wsV RX1 19 RX1 yX1_answer wsX1_answer) := goodIn_app (goodIn_of _ (by decide +kernel)) ggX1_begin_X1_answer
theorem dX1_begin_0 : decode cX1_begin 0 = .ok (.aload_n 0, 1) := by decide +kernel
theorem dX1_begin_1 : decode cX1_begin 1 = .ok (.iconst 0, 1) := by decide +kernel
theorem dX1_begin_2 : decode cX1_begin 2 = .ok (.putfield 15, 3) := by decide +kernel
theorem dX1_begin_5 : decode cX1_begin 5 = .ok (.aload_n 0, 1) := by decide +kernel
theorem dX1_begin_6 : decode cX1_begin 6 = .ok (.aload_n 1, 1) := by decide +kernel
theorem dX1_begin_7 : decode cX1_begin 7 = .ok (.iload_n 2, 1) := by decide +kernel
theorem dX1_begin_8 : decode cX1_begin 8 = .ok (.iload_n 3, 1) := by decide +kernel
theorem dX1_begin_9 : decode cX1_begin 9 = .ok (.iconst 0, 1) := by decide +kernel
theorem dX1_begin_10 : decode cX1_begin 10 = .ok (.invokevirtual 19, 3) := by decide +kernel
theorem dX1_begin_13 : decode cX1_begin 13 = .ok (.ireturn, 1) := by decide +kernel
set_option maxRecDepth 20000 in
theorem ggX1_answer_X1_bodyFor : GoodIn wsX1_answer wsX1_bodyFor := goodIn_r _ [5, 6, 7, 4, 8, 9, 10, 11, 12, 13, 14] (by decide +kernel) (by decide +kernel)
set_option maxRecDepth 20000 in
theorem gX1_answer_X1_bodyFor : GoodIn wsX1_answer (va_wsS RX1 28 yX1_bodyFor wsX1_bodyFor) := goodIn_app (goodIn_of _ (by decide +kernel)) ggX1_answer_X1_bodyFor
set_option maxRecDepth 20000 in
theorem ggX1_answer_X1_give : GoodIn wsX1_answer wsX1_give := goodIn_r _ [18, 19, 20, 21, 22, 23, 4, 24, 25, 26, 15, 16, 17, 27, 28, 29, 0, 1, 2, 3, 5, 6, 7, 8, 9, 10, 11, 12, 13, 14, 30, 31, 32, 33, 34, 35, 36, 37, 38, 39, 40, 41, 42, 43] (by decide +kernel) (by decide +kernel)
set_option maxRecDepth 20000 in
theorem gX1_answer_X1_give : GoodIn wsX1_answer (wsV RX1 32 RX1 yX1_give wsX1_give) := goodIn_app (goodIn_of _ (by decide +kernel)) ggX1_answer_X1_give
theorem dX1_answer_0 : decode cX1_answer 0 = .ok (.aload_n 0, 1) := by decide +kernel
theorem dX1_answer_1 : decode cX1_answer 1 = .ok (.aload_n 1, 1) := by decide +kernel
theorem dX1_answer_2 : decode cX1_answer 2 = .ok (.iload_n 2, 1) := by decide +kernel
theorem dX1_answer_3 : decode cX1_answer 3 = .ok (.aload_n 1, 1) := by decide +kernel
theorem dX1_answer_4 : decode cX1_answer 4 = .ok (.getfield 23, 3) := by decide +kernel
theorem dX1_answer_7 : decode cX1_answer 7 = .ok (.iload_n 2, 1) := by decide +kernel
theorem dX1_answer_8 : decode cX1_answer 8 = .ok (.iaload, 1) := by decide +kernel
theorem dX1_answer_9 : decode cX1_answer 9 = .ok (.iload_n 3, 1) := by decide +kernel
theorem dX1_answer_10 : decode cX1_answer 10 = .ok (.invokestatic 28, 3) := by decide +kernel
theorem dX1_answer_13 : decode cX1_answer 13 = .ok (.iload 4, 2) := by decide +kernel
theorem dX1_answer_15 : decode cX1_answer 15 = .ok (.invokevirtual 32, 3) := by decide +kernel
theorem dX1_answer_18 : decode cX1_answer 18 = .ok (.ireturn, 1) := by decide +kernel
set_option maxRecDepth 20000 in
theorem ggX1_bodyFor_X1_sizeBody : GoodIn wsX1_bodyFor wsX1_sizeBody := goodIn_r _ [4] (by decide +kernel) (by decide +kernel)
set_option maxRecDepth 20000 in
theorem gX1_bodyFor_X1_sizeBody : GoodIn wsX1_bodyFor (va_wsS RX1 35 yX1_sizeBody wsX1_sizeBody) := goodIn_app (goodIn_of _ (by decide +kernel)) ggX1_bodyFor_X1_sizeBody
set_option maxRecDepth 20000 in
theorem ggX1_bodyFor_X1_markBody : GoodIn wsX1_bodyFor wsX1_markBody := goodIn_r _ [7] (by decide +kernel) (by decide +kernel)
set_option maxRecDepth 20000 in
theorem gX1_bodyFor_X1_markBody : GoodIn wsX1_bodyFor (va_wsS RX1 39 yX1_markBody wsX1_markBody) := goodIn_app (goodIn_of _ (by decide +kernel)) ggX1_bodyFor_X1_markBody
set_option maxRecDepth 20000 in
theorem ggX1_bodyFor_X7_kindAbove : GoodIn wsX1_bodyFor wsX7_kindAbove := goodIn_r _ [10] (by decide +kernel) (by decide +kernel)
set_option maxRecDepth 20000 in
theorem gX1_bodyFor_X7_kindAbove_n42 : GoodIn wsX1_bodyFor (wsX7_kindAbove) := ggX1_bodyFor_X7_kindAbove
theorem dX1_bodyFor_0 : decode cX1_bodyFor 0 = .ok (.iload_n 0, 1) := by decide +kernel
theorem dX1_bodyFor_1 : decode cX1_bodyFor 1 = .ok (.istore_n 2, 1) := by decide +kernel
theorem dX1_bodyFor_2 : decode cX1_bodyFor 2 = .ok (.iconst 0, 1) := by decide +kernel
theorem dX1_bodyFor_3 : decode cX1_bodyFor 3 = .ok (.istore_n 3, 1) := by decide +kernel
theorem dX1_bodyFor_4 : decode cX1_bodyFor 4 = .ok (.iload_n 3, 1) := by decide +kernel
theorem dX1_bodyFor_5 : decode cX1_bodyFor 5 = .ok (.iconst 5, 1) := by decide +kernel
theorem dX1_bodyFor_6 : decode cX1_bodyFor 6 = .ok (.if_icmp .ge 40, 3) := by decide +kernel
theorem dX1_bodyFor_9 : decode cX1_bodyFor 9 = .ok (.iload_n 1, 1) := by decide +kernel
theorem dX1_bodyFor_10 : decode cX1_bodyFor 10 = .ok (.ifCond .ne 10, 3) := by decide +kernel
theorem dX1_bodyFor_13 : decode cX1_bodyFor 13 = .ok (.iload_n 2, 1) := by decide +kernel
theorem dX1_bodyFor_14 : decode cX1_bodyFor 14 = .ok (.invokestatic 35, 3) := by decide +kernel
theorem dX1_bodyFor_17 : decode cX1_bodyFor 17 = .ok (.goto 7, 3) := by decide +kernel
theorem dX1_bodyFor_20 : decode cX1_bodyFor 20 = .ok (.iload_n 2, 1) := by decide +kernel
theorem dX1_bodyFor_21 : decode cX1_bodyFor 21 = .ok (.invokestatic 39, 3) := by decide +kernel
theorem dX1_bodyFor_24 : decode cX1_bodyFor 24 = .ok (.istore 4, 2) := by decide +kernel
theorem dX1_bodyFor_26 : decode cX1_bodyFor 26 = .ok (.iload 4, 2) := by decide +kernel
theorem dX1_bodyFor_28 : decode cX1_bodyFor 28 = .ok (.iconst (-1), 1) := by decide +kernel
theorem dX1_bodyFor_29 : decode cX1_bodyFor 29 = .ok (.if_icmp .eq 6, 3) := by decide +kernel
theorem dX1_bodyFor_32 : decode cX1_bodyFor 32 = .ok (.iload 4, 2) := by decide +kernel
theorem dX1_bodyFor_34 : decode cX1_bodyFor 34 = .ok (.ireturn, 1) := by decide +kernel
theorem dX1_bodyFor_35 : decode cX1_bodyFor 35 = .ok (.iload_n 2, 1) := by decide +kernel
theorem dX1_bodyFor_36 : decode cX1_bodyFor 36 = .ok (.invokestatic 42, 3) := by decide +kernel
theorem dX1_bodyFor_39 : decode cX1_bodyFor 39 = .ok (.istore_n 2, 1) := by decide +kernel
theorem dX1_bodyFor_40 : decode cX1_bodyFor 40 = .ok (.iinc 3 1, 3) := by decide +kernel
theorem dX1_bodyFor_43 : decode cX1_bodyFor 43 = .ok (.goto (-39), 3) := by decide +kernel
theorem dX1_bodyFor_46 : decode cX1_bodyFor 46 = .ok (.iconst (-1), 1) := by decide +kernel
theorem dX1_bodyFor_47 : decode cX1_bodyFor 47 = .ok (.ireturn, 1) := by decide +kernel
theorem dX1_sizeBody_0 : decode cX1_sizeBody 0 = .ok (.iload_n 0, 1) := by decide +kernel
theorem dX1_sizeBody_1 : decode cX1_sizeBody 1 = .ok (.tableswitch 54 0 5 #[39, 42, 45, 54, 48, 51], 39) := by decide +kernel
theorem dX1_sizeBody_40 : decode cX1_sizeBody 40 = .ok (.bipush 10, 2) := by decide +kernel
theorem dX1_sizeBody_42 : decode cX1_sizeBody 42 = .ok (.ireturn, 1) := by decide +kernel
theorem dX1_sizeBody_43 : decode cX1_sizeBody 43 = .ok (.bipush 11, 2) := by decide +kernel
theorem dX1_sizeBody_45 : decode cX1_sizeBody 45 = .ok (.ireturn, 1) := by decide +kernel
theorem dX1_sizeBody_46 : decode cX1_sizeBody 46 = .ok (.bipush 12, 2) := by decide +kernel
theorem dX1_sizeBody_48 : decode cX1_sizeBody 48 = .ok (.ireturn, 1) := by decide +kernel
theorem dX1_sizeBody_49 : decode cX1_sizeBody 49 = .ok (.bipush 13, 2) := by decide +kernel
theorem dX1_sizeBody_51 : decode cX1_sizeBody 51 = .ok (.ireturn, 1) := by decide +kernel
theorem dX1_sizeBody_52 : decode cX1_sizeBody 52 = .ok (.bipush 14, 2) := by decide +kernel
theorem dX1_sizeBody_54 : decode cX1_sizeBody 54 = .ok (.ireturn, 1) := by decide +kernel
theorem dX1_sizeBody_55 : decode cX1_sizeBody 55 = .ok (.iconst (-1), 1) := by decide +kernel
theorem dX1_sizeBody_56 : decode cX1_sizeBody 56 = .ok (.ireturn, 1) := by decide +kernel
theorem dX1_markBody_0 : decode cX1_markBody 0 = .ok (.iload_n 0, 1) := by decide +kernel
theorem dX1_markBody_1 : decode cX1_markBody 1 = .ok (.tableswitch 50 0 4 #[35, 38, 47, 41, 44], 35) := by decide +kernel
theorem dX1_markBody_36 : decode cX1_markBody 36 = .ok (.bipush 20, 2) := by decide +kernel
theorem dX1_markBody_38 : decode cX1_markBody 38 = .ok (.ireturn, 1) := by decide +kernel
theorem dX1_markBody_39 : decode cX1_markBody 39 = .ok (.bipush 21, 2) := by decide +kernel
theorem dX1_markBody_41 : decode cX1_markBody 41 = .ok (.ireturn, 1) := by decide +kernel
theorem dX1_markBody_42 : decode cX1_markBody 42 = .ok (.bipush 22, 2) := by decide +kernel
theorem dX1_markBody_44 : decode cX1_markBody 44 = .ok (.ireturn, 1) := by decide +kernel
theorem dX1_markBody_45 : decode cX1_markBody 45 = .ok (.bipush 23, 2) := by decide +kernel
theorem dX1_markBody_47 : decode cX1_markBody 47 = .ok (.ireturn, 1) := by decide +kernel
theorem dX1_markBody_48 : decode cX1_markBody 48 = .ok (.bipush 24, 2) := by decide +kernel
theorem dX1_markBody_50 : decode cX1_markBody 50 = .ok (.ireturn, 1) := by decide +kernel
theorem dX1_markBody_51 : decode cX1_markBody 51 = .ok (.iconst (-1), 1) := by decide +kernel
theorem dX1_markBody_52 : decode cX1_markBody 52 = .ok (.ireturn, 1) := by decide +kernel
set_option maxRecDepth 20000 in
theorem ggX1_give_X1_note : GoodIn wsX1_give wsX1_note := goodIn_r _ [7, 8, 9, 42, 43] (by decide +kernel) (by decide +kernel)
set_option maxRecDepth 20000 in
theorem gX1_give_X1_note : GoodIn wsX1_give (wsV RX1 45 RX1 yX1_note wsX1_note) := goodIn_app (goodIn_of _ (by decide +kernel)) ggX1_give_X1_note
set_option maxRecDepth 20000 in
theorem ggX1_give_X1_give : GoodIn wsX1_give wsX1_give := goodIn_r _ [0, 1, 2, 3, 4, 5, 6, 7, 8, 9, 10, 11, 12, 13, 14, 15, 16, 17, 18, 19, 20, 21, 22, 23, 24, 25, 26, 27, 28, 29, 30, 31, 32, 33, 34, 35, 36, 37, 38, 39, 40, 41, 42, 43] (by decide +kernel) (by decide +kernel)
set_option maxRecDepth 20000 in
theorem gX1_give_X1_give : GoodIn wsX1_give (wsV RX1 32 RX1 yX1_give wsX1_give) := goodIn_app (goodIn_of _ (by decide +kernel)) ggX1_give_X1_give
set_option maxRecDepth 20000 in
theorem ggX1_give_X1_answer : GoodIn wsX1_give wsX1_answer := goodIn_r _ [16, 17, 18, 19, 6, 20, 21, 22, 23, 24, 25, 26, 27, 28, 29, 10, 11, 12, 0, 1, 2, 3, 4, 5, 7, 8, 9, 13, 14, 15, 30, 31, 32, 33, 34, 35, 36, 37, 38, 39, 40, 41, 42, 43] (by decide +kernel) (by decide +kernel)
set_option maxRecDepth 20000 in
theorem gX1_give_X1_answer : GoodIn wsX1_give (wsV RX1 19 RX1 yX1_answer wsX1_answer) := goodIn_app (goodIn_of _ (by decide +kernel)) ggX1_give_X1_answer
theorem dX1_give_0 : decode cX1_give 0 = .ok (.iload 4, 2) := by decide +kernel
theorem dX1_give_2 : decode cX1_give 2 = .ok (.bipush 12, 2) := by decide +kernel
theorem dX1_give_4 : decode cX1_give 4 = .ok (.if_icmp .lt 5, 3) := by decide +kernel
theorem dX1_give_7 : decode cX1_give 7 = .ok (.iconst 0, 1) := by decide +kernel
theorem dX1_give_8 : decode cX1_give 8 = .ok (.ireturn, 1) := by decide +kernel
theorem dX1_give_9 : decode cX1_give 9 = .ok (.aload_n 0, 1) := by decide +kernel
theorem dX1_give_10 : decode cX1_give 10 = .ok (.iload_n 3, 1) := by decide +kernel
theorem dX1_give_11 : decode cX1_give 11 = .ok (.invokevirtual 45, 3) := by decide +kernel
theorem dX1_give_14 : decode cX1_give 14 = .ok (.iload 4, 2) := by decide +kernel
theorem dX1_give_16 : decode cX1_give 16 = .ok (.iconst 1, 1) := by decide +kernel
theorem dX1_give_17 : decode cX1_give 17 = .ok (.iadd, 1) := by decide +kernel
theorem dX1_give_18 : decode cX1_give 18 = .ok (.istore 5, 2) := by decide +kernel
theorem dX1_give_20 : decode cX1_give 20 = .ok (.iload_n 3, 1) := by decide +kernel
theorem dX1_give_21 : decode cX1_give 21 = .ok (.tableswitch 211 10 24 #[75, 82, 103, 115, 129, 211, 211, 211, 211, 211, 142, 144, 162, 177, 198], 75) := by decide +kernel
theorem dX1_give_96 : decode cX1_give 96 = .ok (.aload_n 1, 1) := by decide +kernel
theorem dX1_give_97 : decode cX1_give 97 = .ok (.getfield 49, 3) := by decide +kernel
theorem dX1_give_100 : decode cX1_give 100 = .ok (.iload_n 2, 1) := by decide +kernel
theorem dX1_give_101 : decode cX1_give 101 = .ok (.iaload, 1) := by decide +kernel
theorem dX1_give_102 : decode cX1_give 102 = .ok (.ireturn, 1) := by decide +kernel
theorem dX1_give_103 : decode cX1_give 103 = .ok (.aload_n 0, 1) := by decide +kernel
theorem dX1_give_104 : decode cX1_give 104 = .ok (.aload_n 1, 1) := by decide +kernel
theorem dX1_give_105 : decode cX1_give 105 = .ok (.iload_n 2, 1) := by decide +kernel
theorem dX1_give_106 : decode cX1_give 106 = .ok (.bipush 10, 2) := by decide +kernel
theorem dX1_give_108 : decode cX1_give 108 = .ok (.iload 5, 2) := by decide +kernel
theorem dX1_give_110 : decode cX1_give 110 = .ok (.invokevirtual 32, 3) := by decide +kernel
theorem dX1_give_113 : decode cX1_give 113 = .ok (.aload_n 0, 1) := by decide +kernel
theorem dX1_give_114 : decode cX1_give 114 = .ok (.aload_n 1, 1) := by decide +kernel
theorem dX1_give_115 : decode cX1_give 115 = .ok (.iload_n 2, 1) := by decide +kernel
theorem dX1_give_116 : decode cX1_give 116 = .ok (.iconst 1, 1) := by decide +kernel
theorem dX1_give_117 : decode cX1_give 117 = .ok (.iload 5, 2) := by decide +kernel
theorem dX1_give_119 : decode cX1_give 119 = .ok (.invokevirtual 19, 3) := by decide +kernel
theorem dX1_give_122 : decode cX1_give 122 = .ok (.iadd, 1) := by decide +kernel
theorem dX1_give_123 : decode cX1_give 123 = .ok (.ireturn, 1) := by decide +kernel
theorem dX1_give_124 : decode cX1_give 124 = .ok (.aload_n 0, 1) := by decide +kernel
theorem dX1_give_125 : decode cX1_give 125 = .ok (.aload_n 1, 1) := by decide +kernel
theorem dX1_give_126 : decode cX1_give 126 = .ok (.iload_n 2, 1) := by decide +kernel
theorem dX1_give_127 : decode cX1_give 127 = .ok (.bipush 11, 2) := by decide +kernel
theorem dX1_give_129 : decode cX1_give 129 = .ok (.iload 5, 2) := by decide +kernel
theorem dX1_give_131 : decode cX1_give 131 = .ok (.invokevirtual 32, 3) := by decide +kernel
theorem dX1_give_134 : decode cX1_give 134 = .ok (.ineg, 1) := by decide +kernel
theorem dX1_give_135 : decode cX1_give 135 = .ok (.ireturn, 1) := by decide +kernel
theorem dX1_give_136 : decode cX1_give 136 = .ok (.aload_n 0, 1) := by decide +kernel
theorem dX1_give_137 : decode cX1_give 137 = .ok (.aload_n 1, 1) := by decide +kernel
theorem dX1_give_138 : decode cX1_give 138 = .ok (.iload_n 2, 1) := by decide +kernel
theorem dX1_give_139 : decode cX1_give 139 = .ok (.bipush 10, 2) := by decide +kernel
theorem dX1_give_141 : decode cX1_give 141 = .ok (.iload 5, 2) := by decide +kernel
theorem dX1_give_143 : decode cX1_give 143 = .ok (.invokevirtual 32, 3) := by decide +kernel
theorem dX1_give_146 : decode cX1_give 146 = .ok (.bipush 100, 2) := by decide +kernel
theorem dX1_give_148 : decode cX1_give 148 = .ok (.isub, 1) := by decide +kernel
theorem dX1_give_149 : decode cX1_give 149 = .ok (.ireturn, 1) := by decide +kernel
theorem dX1_give_150 : decode cX1_give 150 = .ok (.iconst 2, 1) := by decide +kernel
theorem dX1_give_151 : decode cX1_give 151 = .ok (.aload_n 0, 1) := by decide +kernel
theorem dX1_give_152 : decode cX1_give 152 = .ok (.aload_n 1, 1) := by decide +kernel
theorem dX1_give_153 : decode cX1_give 153 = .ok (.iload_n 2, 1) := by decide +kernel
theorem dX1_give_154 : decode cX1_give 154 = .ok (.bipush 13, 2) := by decide +kernel
theorem dX1_give_156 : decode cX1_give 156 = .ok (.iload 5, 2) := by decide +kernel
theorem dX1_give_158 : decode cX1_give 158 = .ok (.invokevirtual 32, 3) := by decide +kernel
theorem dX1_give_161 : decode cX1_give 161 = .ok (.imul, 1) := by decide +kernel
theorem dX1_give_162 : decode cX1_give 162 = .ok (.ireturn, 1) := by decide +kernel
theorem dX1_give_163 : decode cX1_give 163 = .ok (.iload_n 2, 1) := by decide +kernel
theorem dX1_give_164 : decode cX1_give 164 = .ok (.ireturn, 1) := by decide +kernel
theorem dX1_give_165 : decode cX1_give 165 = .ok (.aload_n 0, 1) := by decide +kernel
theorem dX1_give_166 : decode cX1_give 166 = .ok (.aload_n 1, 1) := by decide +kernel
theorem dX1_give_167 : decode cX1_give 167 = .ok (.iload_n 2, 1) := by decide +kernel
theorem dX1_give_168 : decode cX1_give 168 = .ok (.bipush 20, 2) := by decide +kernel
theorem dX1_give_170 : decode cX1_give 170 = .ok (.iload 5, 2) := by decide +kernel
theorem dX1_give_172 : decode cX1_give 172 = .ok (.invokevirtual 32, 3) := by decide +kernel
theorem dX1_give_175 : decode cX1_give 175 = .ok (.aload_n 1, 1) := by decide +kernel
theorem dX1_give_176 : decode cX1_give 176 = .ok (.getfield 52, 3) := by decide +kernel
theorem dX1_give_179 : decode cX1_give 179 = .ok (.iload_n 2, 1) := by decide +kernel
theorem dX1_give_180 : decode cX1_give 180 = .ok (.iaload, 1) := by decide +kernel
theorem dX1_give_181 : decode cX1_give 181 = .ok (.iadd, 1) := by decide +kernel
theorem dX1_give_182 : decode cX1_give 182 = .ok (.ireturn, 1) := by decide +kernel
theorem dX1_give_183 : decode cX1_give 183 = .ok (.aload_n 0, 1) := by decide +kernel
theorem dX1_give_184 : decode cX1_give 184 = .ok (.aload_n 1, 1) := by decide +kernel
theorem dX1_give_185 : decode cX1_give 185 = .ok (.iload_n 2, 1) := by decide +kernel
theorem dX1_give_186 : decode cX1_give 186 = .ok (.bipush 21, 2) := by decide +kernel
theorem dX1_give_188 : decode cX1_give 188 = .ok (.iload 5, 2) := by decide +kernel
theorem dX1_give_190 : decode cX1_give 190 = .ok (.invokevirtual 32, 3) := by decide +kernel
theorem dX1_give_193 : decode cX1_give 193 = .ok (.sipush 1000, 3) := by decide +kernel
theorem dX1_give_196 : decode cX1_give 196 = .ok (.isub, 1) := by decide +kernel
theorem dX1_give_197 : decode cX1_give 197 = .ok (.ireturn, 1) := by decide +kernel
theorem dX1_give_198 : decode cX1_give 198 = .ok (.aload_n 0, 1) := by decide +kernel
theorem dX1_give_199 : decode cX1_give 199 = .ok (.aload_n 1, 1) := by decide +kernel
theorem dX1_give_200 : decode cX1_give 200 = .ok (.iload_n 2, 1) := by decide +kernel
theorem dX1_give_201 : decode cX1_give 201 = .ok (.bipush 20, 2) := by decide +kernel
theorem dX1_give_203 : decode cX1_give 203 = .ok (.iload 5, 2) := by decide +kernel
theorem dX1_give_205 : decode cX1_give 205 = .ok (.invokevirtual 32, 3) := by decide +kernel
theorem dX1_give_208 : decode cX1_give 208 = .ok (.aload_n 0, 1) := by decide +kernel
theorem dX1_give_209 : decode cX1_give 209 = .ok (.aload_n 1, 1) := by decide +kernel
theorem dX1_give_210 : decode cX1_give 210 = .ok (.iload_n 2, 1) := by decide +kernel
theorem dX1_give_211 : decode cX1_give 211 = .ok (.iconst 0, 1) := by decide +kernel
theorem dX1_give_212 : decode cX1_give 212 = .ok (.iload 5, 2) := by decide +kernel
theorem dX1_give_214 : decode cX1_give 214 = .ok (.invokevirtual 19, 3) := by decide +kernel
theorem dX1_give_217 : decode cX1_give 217 = .ok (.isub, 1) := by decide +kernel
theorem dX1_give_218 : decode cX1_give 218 = .ok (.ireturn, 1) := by decide +kernel
theorem dX1_give_219 : decode cX1_give 219 = .ok (.iconst 2, 1) := by decide +kernel
theorem dX1_give_220 : decode cX1_give 220 = .ok (.aload_n 0, 1) := by decide +kernel
theorem dX1_give_221 : decode cX1_give 221 = .ok (.aload_n 1, 1) := by decide +kernel
theorem dX1_give_222 : decode cX1_give 222 = .ok (.iload_n 2, 1) := by decide +kernel
theorem dX1_give_223 : decode cX1_give 223 = .ok (.bipush 21, 2) := by decide +kernel
theorem dX1_give_225 : decode cX1_give 225 = .ok (.iload 5, 2) := by decide +kernel
theorem dX1_give_227 : decode cX1_give 227 = .ok (.invokevirtual 32, 3) := by decide +kernel
theorem dX1_give_230 : decode cX1_give 230 = .ok (.imul, 1) := by decide +kernel
theorem dX1_give_231 : decode cX1_give 231 = .ok (.ireturn, 1) := by decide +kernel
theorem dX1_give_232 : decode cX1_give 232 = .ok (.iconst 0, 1) := by decide +kernel
theorem dX1_give_233 : decode cX1_give 233 = .ok (.ireturn, 1) := by decide +kernel
theorem dX1_note_0 : decode cX1_note 0 = .ok (.aload_n 0, 1) := by decide +kernel
theorem dX1_note_1 : decode cX1_note 1 = .ok (.getfield 15, 3) := by decide +kernel
theorem dX1_note_4 : decode cX1_note 4 = .ok (.bipush 16, 2) := by decide +kernel
theorem dX1_note_6 : decode cX1_note 6 = .ok (.if_icmp .ge 23, 3) := by decide +kernel
theorem dX1_note_9 : decode cX1_note 9 = .ok (.aload_n 0, 1) := by decide +kernel
theorem dX1_note_10 : decode cX1_note 10 = .ok (.getfield 9, 3) := by decide +kernel
theorem dX1_note_13 : decode cX1_note 13 = .ok (.aload_n 0, 1) := by decide +kernel
theorem dX1_note_14 : decode cX1_note 14 = .ok (.getfield 15, 3) := by decide +kernel
theorem dX1_note_17 : decode cX1_note 17 = .ok (.iload_n 1, 1) := by decide +kernel
theorem dX1_note_18 : decode cX1_note 18 = .ok (.iastore, 1) := by decide +kernel
theorem dX1_note_19 : decode cX1_note 19 = .ok (.aload_n 0, 1) := by decide +kernel
theorem dX1_note_20 : decode cX1_note 20 = .ok (.dup, 1) := by decide +kernel
theorem dX1_note_21 : decode cX1_note 21 = .ok (.getfield 15, 3) := by decide +kernel
theorem dX1_note_24 : decode cX1_note 24 = .ok (.iconst 1, 1) := by decide +kernel
theorem dX1_note_25 : decode cX1_note 25 = .ok (.iadd, 1) := by decide +kernel
theorem dX1_note_26 : decode cX1_note 26 = .ok (.putfield 15, 3) := by decide +kernel
theorem dX1_note_29 : decode cX1_note 29 = .ok (.return_, 1) := by decide +kernel
set_option maxRecDepth 20000 in
theorem ggX2_init_X3_init : GoodIn wsX2_init wsX3_init := goodIn_r _ [15, 16, 2, 3, 17, 18, 19, 20, 21, 22, 10, 23, 24, 25, 26, 27, 28, 29, 30, 31, 32, 33, 34, 35, 36, 37, 38, 39, 40] (by decide +kernel) (by decide +kernel)
set_option maxRecDepth 20000 in
theorem gX2_init_X3_init_n11 : GoodIn wsX2_init (wsX3_init) := ggX2_init_X3_init
theorem dX2_init_0 : decode cX2_init 0 = .ok (.aload_n 0, 1) := by decide +kernel
theorem dX2_init_1 : decode cX2_init 1 = .ok (.invokespecial 3, 3) := by decide +kernel
theorem dX2_init_4 : decode cX2_init 4 = .ok (.aload_n 0, 1) := by decide +kernel
theorem dX2_init_5 : decode cX2_init 5 = .ok (.new 9, 3) := by decide +kernel
theorem dX2_init_8 : decode cX2_init 8 = .ok (.dup, 1) := by decide +kernel
theorem dX2_init_9 : decode cX2_init 9 = .ok (.invokespecial 11, 3) := by decide +kernel
theorem dX2_init_12 : decode cX2_init 12 = .ok (.putfield 12, 3) := by decide +kernel
theorem dX2_init_15 : decode cX2_init 15 = .ok (.aload_n 0, 1) := by decide +kernel
theorem dX2_init_16 : decode cX2_init 16 = .ok (.new 9, 3) := by decide +kernel
theorem dX2_init_19 : decode cX2_init 19 = .ok (.dup, 1) := by decide +kernel
theorem dX2_init_20 : decode cX2_init 20 = .ok (.invokespecial 11, 3) := by decide +kernel
theorem dX2_init_23 : decode cX2_init 23 = .ok (.putfield 18, 3) := by decide +kernel
theorem dX2_init_26 : decode cX2_init 26 = .ok (.aload_n 0, 1) := by decide +kernel
theorem dX2_init_27 : decode cX2_init 27 = .ok (.iconst (-1), 1) := by decide +kernel
theorem dX2_init_28 : decode cX2_init 28 = .ok (.putfield 21, 3) := by decide +kernel
theorem dX2_init_31 : decode cX2_init 31 = .ok (.aload_n 0, 1) := by decide +kernel
theorem dX2_init_32 : decode cX2_init 32 = .ok (.iconst 5, 1) := by decide +kernel
theorem dX2_init_33 : decode cX2_init 33 = .ok (.newarray .int, 2) := by decide +kernel
theorem dX2_init_35 : decode cX2_init 35 = .ok (.putfield 25, 3) := by decide +kernel
theorem dX2_init_38 : decode cX2_init 38 = .ok (.aload_n 0, 1) := by decide +kernel
theorem dX2_init_39 : decode cX2_init 39 = .ok (.ldc 29, 2) := by decide +kernel
theorem dX2_init_41 : decode cX2_init 41 = .ok (.putfield 30, 3) := by decide +kernel
theorem dX2_init_44 : decode cX2_init 44 = .ok (.return_, 1) := by decide +kernel
set_option maxRecDepth 20000 in
theorem ggX2_find_X3_foretellsLike : GoodIn wsX2_find wsX3_foretellsLike := goodIn_r _ [10, 11, 12, 13, 14, 15, 16, 17, 94, 95, 96, 97, 98, 99, 100, 101, 102, 103, 104, 105] (by decide +kernel) (by decide +kernel)
set_option maxRecDepth 20000 in
theorem gX2_find_X3_foretellsLike : GoodIn wsX2_find (wsV RX2 33 RX3 yX3_foretellsLike wsX3_foretellsLike) := goodIn_app (goodIn_of _ (by decide +kernel)) ggX2_find_X3_foretellsLike
set_option maxRecDepth 20000 in
theorem ggX2_find_X3_become : GoodIn wsX2_find wsX3_become := goodIn_r _ [21, 22, 11, 23, 12, 13, 24, 14, 15, 16, 17, 25, 94, 95, 96, 97, 98, 99, 100, 101, 102, 103, 104, 105] (by decide +kernel) (by decide +kernel)
set_option maxRecDepth 20000 in
theorem gX2_find_X3_become : GoodIn wsX2_find (wsV RX2 37 RX3 yX3_become wsX3_become) := goodIn_app (goodIn_of _ (by decide +kernel)) ggX2_find_X3_become
set_option maxRecDepth 20000 in
theorem ggX2_find_X2_oneComesUpAnywhere : GoodIn wsX2_find wsX2_oneComesUpAnywhere := goodIn_r _ [30, 31, 2, 5, 32, 18, 19, 20, 9, 21, 22, 11, 23, 12, 13, 24, 14, 15, 16, 17, 25, 33, 34, 35, 36, 37, 38, 39, 40, 41, 42, 43, 44, 45, 46, 47, 48, 49, 50, 51, 52, 53, 54, 55, 56, 57, 58, 89, 90, 91, 92, 93, 94, 95, 96, 97, 98, 99, 100, 101, 102, 103, 104, 105] (by decide +kernel) (by decide +kernel)
set_option maxRecDepth 20000 in
theorem gX2_find_X2_oneComesUpAnywhere : GoodIn wsX2_find (wsV RX2 41 RX2 yX2_oneComesUpAnywhere wsX2_oneComesUpAnywhere) := goodIn_app (goodIn_of _ (by decide +kernel)) ggX2_find_X2_oneComesUpAnywhere
set_option maxRecDepth 20000 in
theorem ggX2_find_X2_findMoving : GoodIn wsX2_find wsX2_findMoving := goodIn_r _ [62, 2, 5, 63, 64, 65, 29, 66, 67, 68, 3, 58, 47, 48, 9, 49, 15, 69, 70, 71, 72, 31, 73, 74, 75, 76, 11, 46, 18, 19, 20, 21, 22, 23, 12, 13, 24, 14, 16, 17, 25, 77, 78, 79, 80, 81, 82, 83, 84, 85, 86, 87, 44, 88, 33, 34, 35, 36, 37, 38, 39, 40, 41, 42, 43, 45, 50, 51, 52, 53, 54, 55, 56, 57, 89, 90, 91, 92, 93, 94, 95, 96, 97, 98, 99, 100, 101, 102, 103, 104, 105] (by decide +kernel) (by decide +kernel)
set_option maxRecDepth 20000 in
theorem gX2_find_X2_findMoving : GoodIn wsX2_find (wsV RX2 48 RX2 yX2_findMoving wsX2_findMoving) := goodIn_app (goodIn_of _ (by decide +kernel)) ggX2_find_X2_findMoving
theorem dX2_find_0 : decode cX2_find 0 = .ok (.iload_n 2, 1) := by decide +kernel
theorem dX2_find_1 : decode cX2_find 1 = .ok (.aload_n 0, 1) := by decide +kernel
theorem dX2_find_2 : decode cX2_find 2 = .ok (.getfield 21, 3) := by decide +kernel
theorem dX2_find_5 : decode cX2_find 5 = .ok (.if_icmp .ne 15, 3) := by decide +kernel
theorem dX2_find_8 : decode cX2_find 8 = .ok (.aload_n 0, 1) := by decide +kernel
theorem dX2_find_9 : decode cX2_find 9 = .ok (.getfield 18, 3) := by decide +kernel
theorem dX2_find_12 : decode cX2_find 12 = .ok (.aload_n 1, 1) := by decide +kernel
theorem dX2_find_13 : decode cX2_find 13 = .ok (.invokevirtual 33, 3) := by decide +kernel
theorem dX2_find_16 : decode cX2_find 16 = .ok (.ifCond .eq 4, 3) := by decide +kernel
theorem dX2_find_19 : decode cX2_find 19 = .ok (.return_, 1) := by decide +kernel
theorem dX2_find_20 : decode cX2_find 20 = .ok (.aload_n 0, 1) := by decide +kernel
theorem dX2_find_21 : decode cX2_find 21 = .ok (.getfield 18, 3) := by decide +kernel
theorem dX2_find_24 : decode cX2_find 24 = .ok (.aload_n 1, 1) := by decide +kernel
theorem dX2_find_25 : decode cX2_find 25 = .ok (.invokevirtual 37, 3) := by decide +kernel
theorem dX2_find_28 : decode cX2_find 28 = .ok (.aload_n 0, 1) := by decide +kernel
theorem dX2_find_29 : decode cX2_find 29 = .ok (.iload_n 2, 1) := by decide +kernel
theorem dX2_find_30 : decode cX2_find 30 = .ok (.putfield 21, 3) := by decide +kernel
theorem dX2_find_33 : decode cX2_find 33 = .ok (.aload_n 0, 1) := by decide +kernel
theorem dX2_find_34 : decode cX2_find 34 = .ok (.ldc 29, 2) := by decide +kernel
theorem dX2_find_36 : decode cX2_find 36 = .ok (.putfield 30, 3) := by decide +kernel
theorem dX2_find_39 : decode cX2_find 39 = .ok (.aload_n 0, 1) := by decide +kernel
theorem dX2_find_40 : decode cX2_find 40 = .ok (.iload_n 2, 1) := by decide +kernel
theorem dX2_find_41 : decode cX2_find 41 = .ok (.invokevirtual 41, 3) := by decide +kernel
theorem dX2_find_44 : decode cX2_find 44 = .ok (.ifCond .eq 4, 3) := by decide +kernel
theorem dX2_find_47 : decode cX2_find 47 = .ok (.return_, 1) := by decide +kernel
theorem dX2_find_48 : decode cX2_find 48 = .ok (.iconst 0, 1) := by decide +kernel
theorem dX2_find_49 : decode cX2_find 49 = .ok (.istore_n 3, 1) := by decide +kernel
theorem dX2_find_50 : decode cX2_find 50 = .ok (.iload_n 3, 1) := by decide +kernel
theorem dX2_find_51 : decode cX2_find 51 = .ok (.aload_n 1, 1) := by decide +kernel
theorem dX2_find_52 : decode cX2_find 52 = .ok (.getfield 45, 3) := by decide +kernel
theorem dX2_find_55 : decode cX2_find 55 = .ok (.if_icmp .gt 32, 3) := by decide +kernel
theorem dX2_find_58 : decode cX2_find 58 = .ok (.aload_n 0, 1) := by decide +kernel
theorem dX2_find_59 : decode cX2_find 59 = .ok (.getfield 30, 3) := by decide +kernel
theorem dX2_find_62 : decode cX2_find 62 = .ok (.ldc 29, 2) := by decide +kernel
theorem dX2_find_64 : decode cX2_find 64 = .ok (.if_icmp .ne 23, 3) := by decide +kernel
theorem dX2_find_67 : decode cX2_find 67 = .ok (.aload_n 0, 1) := by decide +kernel
theorem dX2_find_68 : decode cX2_find 68 = .ok (.iload_n 3, 1) := by decide +kernel
theorem dX2_find_69 : decode cX2_find 69 = .ok (.iload_n 2, 1) := by decide +kernel
theorem dX2_find_70 : decode cX2_find 70 = .ok (.invokevirtual 48, 3) := by decide +kernel
theorem dX2_find_73 : decode cX2_find 73 = .ok (.ifCond .eq 8, 3) := by decide +kernel
theorem dX2_find_76 : decode cX2_find 76 = .ok (.aload_n 0, 1) := by decide +kernel
theorem dX2_find_77 : decode cX2_find 77 = .ok (.iload_n 3, 1) := by decide +kernel
theorem dX2_find_78 : decode cX2_find 78 = .ok (.putfield 30, 3) := by decide +kernel
theorem dX2_find_81 : decode cX2_find 81 = .ok (.iinc 3 1, 3) := by decide +kernel
theorem dX2_find_84 : decode cX2_find 84 = .ok (.goto (-34), 3) := by decide +kernel
theorem dX2_find_87 : decode cX2_find 87 = .ok (.return_, 1) := by decide +kernel
set_option maxRecDepth 20000 in
theorem ggX2_oneComesUpAnywhere_X3_become : GoodIn wsX2_oneComesUpAnywhere wsX3_become := goodIn_r _ [9, 10, 11, 12, 13, 14, 15, 16, 17, 18, 19, 20, 52, 53, 54, 55, 56, 57, 58, 59, 60, 61, 62, 63] (by decide +kernel) (by decide +kernel)
set_option maxRecDepth 20000 in
theorem gX2_oneComesUpAnywhere_X3_become : GoodIn wsX2_oneComesUpAnywhere (wsV RX2 37 RX3 yX3_become wsX3_become) := goodIn_app (goodIn_of _ (by decide +kernel)) ggX2_oneComesUpAnywhere_X3_become
set_option maxRecDepth 20000 in
theorem ggX2_oneComesUpAnywhere_X3_passYear : GoodIn wsX2_oneComesUpAnywhere wsX3_passYear := goodIn_r _ [24, 11, 25, 17, 14, 26, 27, 28, 8, 29, 16, 30, 31, 32, 33, 34, 35, 36, 37, 38, 39, 40, 41, 19, 42, 43, 44, 45, 18, 52, 53, 54, 55, 56, 57, 58, 59, 60, 61, 62, 63] (by decide +kernel) (by decide +kernel)
set_option maxRecDepth 20000 in
theorem gX2_oneComesUpAnywhere_X3_passYear : GoodIn wsX2_oneComesUpAnywhere (wsV RX2 52 RX3 yX3_passYear wsX3_passYear) := goodIn_app (goodIn_of _ (by decide +kernel)) ggX2_oneComesUpAnywhere_X3_passYear
set_option maxRecDepth 20000 in
theorem ggX2_oneComesUpAnywhere_X3_isUp : GoodIn wsX2_oneComesUpAnywhere wsX3_isUp := goodIn_r _ [37, 17, 52, 53, 54, 55, 56, 57, 58, 59, 60, 61, 62, 63] (by decide +kernel) (by decide +kernel)
set_option maxRecDepth 20000 in
theorem gX2_oneComesUpAnywhere_X3_isUp : GoodIn wsX2_oneComesUpAnywhere (wsV RX2 59 RX3 yX3_isUp wsX3_isUp) := goodIn_app (goodIn_of _ (by decide +kernel)) ggX2_oneComesUpAnywhere_X3_isUp
theorem dX2_oneComesUpAnywhere_0 : decode cX2_oneComesUpAnywhere 0 = .ok (.aload_n 0, 1) := by decide +kernel
theorem dX2_oneComesUpAnywhere_1 : decode cX2_oneComesUpAnywhere 1 = .ok (.getfield 12, 3) := by decide +kernel
theorem dX2_oneComesUpAnywhere_4 : decode cX2_oneComesUpAnywhere 4 = .ok (.aload_n 0, 1) := by decide +kernel
theorem dX2_oneComesUpAnywhere_5 : decode cX2_oneComesUpAnywhere 5 = .ok (.getfield 18, 3) := by decide +kernel
theorem dX2_oneComesUpAnywhere_8 : decode cX2_oneComesUpAnywhere 8 = .ok (.invokevirtual 37, 3) := by decide +kernel
theorem dX2_oneComesUpAnywhere_11 : decode cX2_oneComesUpAnywhere 11 = .ok (.iconst 0, 1) := by decide +kernel
theorem dX2_oneComesUpAnywhere_12 : decode cX2_oneComesUpAnywhere 12 = .ok (.istore_n 2, 1) := by decide +kernel
theorem dX2_oneComesUpAnywhere_13 : decode cX2_oneComesUpAnywhere 13 = .ok (.iload_n 2, 1) := by decide +kernel
theorem dX2_oneComesUpAnywhere_14 : decode cX2_oneComesUpAnywhere 14 = .ok (.iload_n 1, 1) := by decide +kernel
theorem dX2_oneComesUpAnywhere_15 : decode cX2_oneComesUpAnywhere 15 = .ok (.if_icmp .ge 17, 3) := by decide +kernel
theorem dX2_oneComesUpAnywhere_18 : decode cX2_oneComesUpAnywhere 18 = .ok (.aload_n 0, 1) := by decide +kernel
theorem dX2_oneComesUpAnywhere_19 : decode cX2_oneComesUpAnywhere 19 = .ok (.getfield 12, 3) := by decide +kernel
theorem dX2_oneComesUpAnywhere_22 : decode cX2_oneComesUpAnywhere 22 = .ok (.invokevirtual 52, 3) := by decide +kernel
theorem dX2_oneComesUpAnywhere_25 : decode cX2_oneComesUpAnywhere 25 = .ok (.pop, 1) := by decide +kernel
theorem dX2_oneComesUpAnywhere_26 : decode cX2_oneComesUpAnywhere 26 = .ok (.iinc 2 1, 3) := by decide +kernel
theorem dX2_oneComesUpAnywhere_29 : decode cX2_oneComesUpAnywhere 29 = .ok (.goto (-16), 3) := by decide +kernel
theorem dX2_oneComesUpAnywhere_32 : decode cX2_oneComesUpAnywhere 32 = .ok (.iconst 0, 1) := by decide +kernel
theorem dX2_oneComesUpAnywhere_33 : decode cX2_oneComesUpAnywhere 33 = .ok (.istore_n 2, 1) := by decide +kernel
theorem dX2_oneComesUpAnywhere_34 : decode cX2_oneComesUpAnywhere 34 = .ok (.iload_n 2, 1) := by decide +kernel
theorem dX2_oneComesUpAnywhere_35 : decode cX2_oneComesUpAnywhere 35 = .ok (.aload_n 0, 1) := by decide +kernel
theorem dX2_oneComesUpAnywhere_36 : decode cX2_oneComesUpAnywhere 36 = .ok (.getfield 18, 3) := by decide +kernel
theorem dX2_oneComesUpAnywhere_39 : decode cX2_oneComesUpAnywhere 39 = .ok (.getfield 45, 3) := by decide +kernel
theorem dX2_oneComesUpAnywhere_42 : decode cX2_oneComesUpAnywhere 42 = .ok (.if_icmp .ge 46, 3) := by decide +kernel
theorem dX2_oneComesUpAnywhere_45 : decode cX2_oneComesUpAnywhere 45 = .ok (.aload_n 0, 1) := by decide +kernel
theorem dX2_oneComesUpAnywhere_46 : decode cX2_oneComesUpAnywhere 46 = .ok (.getfield 18, 3) := by decide +kernel
theorem dX2_oneComesUpAnywhere_49 : decode cX2_oneComesUpAnywhere 49 = .ok (.getfield 56, 3) := by decide +kernel
theorem dX2_oneComesUpAnywhere_52 : decode cX2_oneComesUpAnywhere 52 = .ok (.iload_n 2, 1) := by decide +kernel
theorem dX2_oneComesUpAnywhere_53 : decode cX2_oneComesUpAnywhere 53 = .ok (.iaload, 1) := by decide +kernel
theorem dX2_oneComesUpAnywhere_54 : decode cX2_oneComesUpAnywhere 54 = .ok (.iconst 2, 1) := by decide +kernel
theorem dX2_oneComesUpAnywhere_55 : decode cX2_oneComesUpAnywhere 55 = .ok (.if_icmp .eq 27, 3) := by decide +kernel
theorem dX2_oneComesUpAnywhere_58 : decode cX2_oneComesUpAnywhere 58 = .ok (.aload_n 0, 1) := by decide +kernel
theorem dX2_oneComesUpAnywhere_59 : decode cX2_oneComesUpAnywhere 59 = .ok (.getfield 18, 3) := by decide +kernel
theorem dX2_oneComesUpAnywhere_62 : decode cX2_oneComesUpAnywhere 62 = .ok (.iload_n 2, 1) := by decide +kernel
theorem dX2_oneComesUpAnywhere_63 : decode cX2_oneComesUpAnywhere 63 = .ok (.invokevirtual 59, 3) := by decide +kernel
theorem dX2_oneComesUpAnywhere_66 : decode cX2_oneComesUpAnywhere 66 = .ok (.ifCond .ne 16, 3) := by decide +kernel
theorem dX2_oneComesUpAnywhere_69 : decode cX2_oneComesUpAnywhere 69 = .ok (.aload_n 0, 1) := by decide +kernel
theorem dX2_oneComesUpAnywhere_70 : decode cX2_oneComesUpAnywhere 70 = .ok (.getfield 12, 3) := by decide +kernel
theorem dX2_oneComesUpAnywhere_73 : decode cX2_oneComesUpAnywhere 73 = .ok (.iload_n 2, 1) := by decide +kernel
theorem dX2_oneComesUpAnywhere_74 : decode cX2_oneComesUpAnywhere 74 = .ok (.invokevirtual 59, 3) := by decide +kernel
theorem dX2_oneComesUpAnywhere_77 : decode cX2_oneComesUpAnywhere 77 = .ok (.ifCond .eq 5, 3) := by decide +kernel
theorem dX2_oneComesUpAnywhere_80 : decode cX2_oneComesUpAnywhere 80 = .ok (.iconst 1, 1) := by decide +kernel
theorem dX2_oneComesUpAnywhere_81 : decode cX2_oneComesUpAnywhere 81 = .ok (.ireturn, 1) := by decide +kernel
theorem dX2_oneComesUpAnywhere_82 : decode cX2_oneComesUpAnywhere 82 = .ok (.iinc 2 1, 3) := by decide +kernel
theorem dX2_oneComesUpAnywhere_85 : decode cX2_oneComesUpAnywhere 85 = .ok (.goto (-51), 3) := by decide +kernel
theorem dX2_oneComesUpAnywhere_88 : decode cX2_oneComesUpAnywhere 88 = .ok (.iconst 0, 1) := by decide +kernel
theorem dX2_oneComesUpAnywhere_89 : decode cX2_oneComesUpAnywhere 89 = .ok (.ireturn, 1) := by decide +kernel
set_option maxRecDepth 20000 in
theorem ggX2_findMoving_X2_countMoved : GoodIn wsX2_findMoving wsX2_countMoved := goodIn_r _ [7, 1, 2, 8, 9, 10, 11, 12, 13, 14, 15, 16, 74, 75, 76, 77, 78, 79, 80, 81, 82, 83, 84, 85, 86, 87, 88, 89, 90] (by decide +kernel) (by decide +kernel)
set_option maxRecDepth 20000 in
theorem gX2_findMoving_X2_countMoved : GoodIn wsX2_findMoving (wsV RX2 62 RX2 yX2_countMoved wsX2_countMoved) := goodIn_app (goodIn_of _ (by decide +kernel)) ggX2_findMoving_X2_countMoved
set_option maxRecDepth 20000 in
theorem ggX2_findMoving_X2_holds : GoodIn wsX2_findMoving wsX2_holds := goodIn_r _ [20, 1, 21, 2, 9, 8, 10, 22, 23, 24, 14, 25, 26, 27, 12, 13, 15, 16, 28, 29, 30, 31, 32, 33, 34, 35, 36, 37, 38, 39, 40, 41, 42, 43, 44, 45, 46, 47, 48, 49, 50, 51, 52, 53, 54, 55, 56, 57, 58, 59, 60, 61, 62, 63, 64, 65, 66, 67, 68, 69, 70, 71, 72, 73, 74, 75, 76, 77, 78, 79, 80, 81, 82, 83, 84, 85, 86, 87, 88, 89, 90] (by decide +kernel) (by decide +kernel)
set_option maxRecDepth 20000 in
theorem gX2_findMoving_X2_holds : GoodIn wsX2_findMoving (wsV RX2 66 RX2 yX2_holds wsX2_holds) := goodIn_app (goodIn_of _ (by decide +kernel)) ggX2_findMoving_X2_holds
theorem dX2_findMoving_0 : decode cX2_findMoving 0 = .ok (.iconst 1, 1) := by decide +kernel
theorem dX2_findMoving_1 : decode cX2_findMoving 1 = .ok (.iconst 2, 1) := by decide +kernel
theorem dX2_findMoving_2 : decode cX2_findMoving 2 = .ok (.aload_n 0, 1) := by decide +kernel
theorem dX2_findMoving_3 : decode cX2_findMoving 3 = .ok (.getfield 18, 3) := by decide +kernel
theorem dX2_findMoving_6 : decode cX2_findMoving 6 = .ok (.getfield 45, 3) := by decide +kernel
theorem dX2_findMoving_9 : decode cX2_findMoving 9 = .ok (.imul, 1) := by decide +kernel
theorem dX2_findMoving_10 : decode cX2_findMoving 10 = .ok (.ishl, 1) := by decide +kernel
theorem dX2_findMoving_11 : decode cX2_findMoving 11 = .ok (.istore_n 3, 1) := by decide +kernel
theorem dX2_findMoving_12 : decode cX2_findMoving 12 = .ok (.iconst 0, 1) := by decide +kernel
theorem dX2_findMoving_13 : decode cX2_findMoving 13 = .ok (.istore 4, 2) := by decide +kernel
theorem dX2_findMoving_15 : decode cX2_findMoving 15 = .ok (.iload 4, 2) := by decide +kernel
theorem dX2_findMoving_17 : decode cX2_findMoving 17 = .ok (.iload_n 3, 1) := by decide +kernel
theorem dX2_findMoving_18 : decode cX2_findMoving 18 = .ok (.if_icmp .ge 29, 3) := by decide +kernel
theorem dX2_findMoving_21 : decode cX2_findMoving 21 = .ok (.aload_n 0, 1) := by decide +kernel
theorem dX2_findMoving_22 : decode cX2_findMoving 22 = .ok (.iload 4, 2) := by decide +kernel
theorem dX2_findMoving_24 : decode cX2_findMoving 24 = .ok (.invokevirtual 62, 3) := by decide +kernel
theorem dX2_findMoving_27 : decode cX2_findMoving 27 = .ok (.iload_n 1, 1) := by decide +kernel
theorem dX2_findMoving_28 : decode cX2_findMoving 28 = .ok (.if_icmp .ne 13, 3) := by decide +kernel
theorem dX2_findMoving_31 : decode cX2_findMoving 31 = .ok (.aload_n 0, 1) := by decide +kernel
theorem dX2_findMoving_32 : decode cX2_findMoving 32 = .ok (.iload_n 2, 1) := by decide +kernel
theorem dX2_findMoving_33 : decode cX2_findMoving 33 = .ok (.invokevirtual 66, 3) := by decide +kernel
theorem dX2_findMoving_36 : decode cX2_findMoving 36 = .ok (.ifCond .eq 5, 3) := by decide +kernel
theorem dX2_findMoving_39 : decode cX2_findMoving 39 = .ok (.iconst 1, 1) := by decide +kernel
theorem dX2_findMoving_40 : decode cX2_findMoving 40 = .ok (.ireturn, 1) := by decide +kernel
theorem dX2_findMoving_41 : decode cX2_findMoving 41 = .ok (.iinc 4 1, 3) := by decide +kernel
theorem dX2_findMoving_44 : decode cX2_findMoving 44 = .ok (.goto (-29), 3) := by decide +kernel
theorem dX2_findMoving_47 : decode cX2_findMoving 47 = .ok (.iconst 0, 1) := by decide +kernel
theorem dX2_findMoving_48 : decode cX2_findMoving 48 = .ok (.ireturn, 1) := by decide +kernel
set_option maxRecDepth 20000 in
theorem ggX2_countMoved_X3_isUp : GoodIn wsX2_countMoved wsX3_isUp := goodIn_r _ [10, 11, 17, 18, 19, 20, 21, 22, 23, 24, 25, 26, 27, 28] (by decide +kernel) (by decide +kernel)
set_option maxRecDepth 20000 in
theorem gX2_countMoved_X3_isUp : GoodIn wsX2_countMoved (wsV RX2 59 RX3 yX3_isUp wsX3_isUp) := goodIn_app (goodIn_of _ (by decide +kernel)) ggX2_countMoved_X3_isUp
theorem dX2_countMoved_0 : decode cX2_countMoved 0 = .ok (.iconst 0, 1) := by decide +kernel
theorem dX2_countMoved_1 : decode cX2_countMoved 1 = .ok (.istore_n 2, 1) := by decide +kernel
theorem dX2_countMoved_2 : decode cX2_countMoved 2 = .ok (.iconst 0, 1) := by decide +kernel
theorem dX2_countMoved_3 : decode cX2_countMoved 3 = .ok (.istore_n 3, 1) := by decide +kernel
theorem dX2_countMoved_4 : decode cX2_countMoved 4 = .ok (.iload_n 3, 1) := by decide +kernel
theorem dX2_countMoved_5 : decode cX2_countMoved 5 = .ok (.aload_n 0, 1) := by decide +kernel
theorem dX2_countMoved_6 : decode cX2_countMoved 6 = .ok (.getfield 18, 3) := by decide +kernel
theorem dX2_countMoved_9 : decode cX2_countMoved 9 = .ok (.getfield 45, 3) := by decide +kernel
theorem dX2_countMoved_12 : decode cX2_countMoved 12 = .ok (.if_icmp .ge 67, 3) := by decide +kernel
theorem dX2_countMoved_15 : decode cX2_countMoved 15 = .ok (.iload_n 1, 1) := by decide +kernel
theorem dX2_countMoved_16 : decode cX2_countMoved 16 = .ok (.iconst 2, 1) := by decide +kernel
theorem dX2_countMoved_17 : decode cX2_countMoved 17 = .ok (.aload_n 0, 1) := by decide +kernel
theorem dX2_countMoved_18 : decode cX2_countMoved 18 = .ok (.getfield 18, 3) := by decide +kernel
theorem dX2_countMoved_21 : decode cX2_countMoved 21 = .ok (.getfield 45, 3) := by decide +kernel
theorem dX2_countMoved_24 : decode cX2_countMoved 24 = .ok (.iconst 1, 1) := by decide +kernel
theorem dX2_countMoved_25 : decode cX2_countMoved 25 = .ok (.isub, 1) := by decide +kernel
theorem dX2_countMoved_26 : decode cX2_countMoved 26 = .ok (.iload_n 3, 1) := by decide +kernel
theorem dX2_countMoved_27 : decode cX2_countMoved 27 = .ok (.isub, 1) := by decide +kernel
theorem dX2_countMoved_28 : decode cX2_countMoved 28 = .ok (.imul, 1) := by decide +kernel
theorem dX2_countMoved_29 : decode cX2_countMoved 29 = .ok (.ishr, 1) := by decide +kernel
theorem dX2_countMoved_30 : decode cX2_countMoved 30 = .ok (.iconst 3, 1) := by decide +kernel
theorem dX2_countMoved_31 : decode cX2_countMoved 31 = .ok (.iand, 1) := by decide +kernel
theorem dX2_countMoved_32 : decode cX2_countMoved 32 = .ok (.istore 4, 2) := by decide +kernel
theorem dX2_countMoved_34 : decode cX2_countMoved 34 = .ok (.aload_n 0, 1) := by decide +kernel
theorem dX2_countMoved_35 : decode cX2_countMoved 35 = .ok (.getfield 25, 3) := by decide +kernel
theorem dX2_countMoved_38 : decode cX2_countMoved 38 = .ok (.iload_n 3, 1) := by decide +kernel
theorem dX2_countMoved_39 : decode cX2_countMoved 39 = .ok (.iload 4, 2) := by decide +kernel
theorem dX2_countMoved_41 : decode cX2_countMoved 41 = .ok (.iastore, 1) := by decide +kernel
theorem dX2_countMoved_42 : decode cX2_countMoved 42 = .ok (.iload 4, 2) := by decide +kernel
theorem dX2_countMoved_44 : decode cX2_countMoved 44 = .ok (.aload_n 0, 1) := by decide +kernel
theorem dX2_countMoved_45 : decode cX2_countMoved 45 = .ok (.getfield 18, 3) := by decide +kernel
theorem dX2_countMoved_48 : decode cX2_countMoved 48 = .ok (.getfield 69, 3) := by decide +kernel
theorem dX2_countMoved_51 : decode cX2_countMoved 51 = .ok (.iload_n 3, 1) := by decide +kernel
theorem dX2_countMoved_52 : decode cX2_countMoved 52 = .ok (.iaload, 1) := by decide +kernel
theorem dX2_countMoved_53 : decode cX2_countMoved 53 = .ok (.if_icmp .eq 20, 3) := by decide +kernel
theorem dX2_countMoved_56 : decode cX2_countMoved 56 = .ok (.aload_n 0, 1) := by decide +kernel
theorem dX2_countMoved_57 : decode cX2_countMoved 57 = .ok (.getfield 18, 3) := by decide +kernel
theorem dX2_countMoved_60 : decode cX2_countMoved 60 = .ok (.iload_n 3, 1) := by decide +kernel
theorem dX2_countMoved_61 : decode cX2_countMoved 61 = .ok (.invokevirtual 59, 3) := by decide +kernel
theorem dX2_countMoved_64 : decode cX2_countMoved 64 = .ok (.ifCond .eq 6, 3) := by decide +kernel
theorem dX2_countMoved_67 : decode cX2_countMoved 67 = .ok (.ldc 29, 2) := by decide +kernel
theorem dX2_countMoved_69 : decode cX2_countMoved 69 = .ok (.ireturn, 1) := by decide +kernel
theorem dX2_countMoved_70 : decode cX2_countMoved 70 = .ok (.iinc 2 1, 3) := by decide +kernel
theorem dX2_countMoved_73 : decode cX2_countMoved 73 = .ok (.iinc 3 1, 3) := by decide +kernel
theorem dX2_countMoved_76 : decode cX2_countMoved 76 = .ok (.goto (-72), 3) := by decide +kernel
theorem dX2_countMoved_79 : decode cX2_countMoved 79 = .ok (.iload_n 2, 1) := by decide +kernel
theorem dX2_countMoved_80 : decode cX2_countMoved 80 = .ok (.ireturn, 1) := by decide +kernel
set_option maxRecDepth 20000 in
theorem ggX2_holds_X3_allUp : GoodIn wsX2_holds wsX3_allUp := goodIn_r _ [11, 12, 13, 14, 15, 10, 16, 17, 69, 70, 71, 72, 73, 74, 75, 76, 77, 78, 79, 80] (by decide +kernel) (by decide +kernel)
set_option maxRecDepth 20000 in
theorem gX2_holds_X3_allUp : GoodIn wsX2_holds (wsV RX2 72 RX3 yX3_allUp wsX3_allUp) := goodIn_app (goodIn_of _ (by decide +kernel)) ggX2_holds_X3_allUp
set_option maxRecDepth 20000 in
theorem ggX2_holds_X3_become : GoodIn wsX2_holds wsX3_become := goodIn_r _ [21, 22, 12, 23, 24, 25, 26, 27, 17, 28, 29, 30, 69, 70, 71, 72, 73, 74, 75, 76, 77, 78, 79, 80] (by decide +kernel) (by decide +kernel)
set_option maxRecDepth 20000 in
theorem gX2_holds_X3_become : GoodIn wsX2_holds (wsV RX2 37 RX3 yX3_become wsX3_become) := goodIn_app (goodIn_of _ (by decide +kernel)) ggX2_holds_X3_become
set_option maxRecDepth 20000 in
theorem ggX2_holds_X3_firstTooNear : GoodIn wsX2_holds wsX3_firstTooNear := goodIn_r _ [34, 12, 35, 36, 37, 38, 10, 39, 28, 40, 41, 42, 43, 17, 24, 13, 14, 15, 16, 69, 70, 71, 72, 73, 74, 75, 76, 77, 78, 79, 80] (by decide +kernel) (by decide +kernel)
set_option maxRecDepth 20000 in
theorem gX2_holds_X3_firstTooNear : GoodIn wsX2_holds (wsV RX2 76 RX3 yX3_firstTooNear wsX3_firstTooNear) := goodIn_app (goodIn_of _ (by decide +kernel)) ggX2_holds_X3_firstTooNear
set_option maxRecDepth 20000 in
theorem ggX2_holds_X3_passYear : GoodIn wsX2_holds wsX3_passYear := goodIn_r _ [47, 12, 48, 17, 25, 49, 50, 51, 10, 52, 27, 53, 54, 42, 55, 13, 14, 15, 16, 56, 57, 58, 59, 29, 60, 61, 62, 63, 28, 69, 70, 71, 72, 73, 74, 75, 76, 77, 78, 79, 80] (by decide +kernel) (by decide +kernel)
set_option maxRecDepth 20000 in
theorem gX2_holds_X3_passYear : GoodIn wsX2_holds (wsV RX2 52 RX3 yX3_passYear wsX3_passYear) := goodIn_app (goodIn_of _ (by decide +kernel)) ggX2_holds_X3_passYear
theorem dX2_holds_0 : decode cX2_holds 0 = .ok (.aload_n 0, 1) := by decide +kernel
theorem dX2_holds_1 : decode cX2_holds 1 = .ok (.getfield 18, 3) := by decide +kernel
theorem dX2_holds_4 : decode cX2_holds 4 = .ok (.invokevirtual 72, 3) := by decide +kernel
theorem dX2_holds_7 : decode cX2_holds 7 = .ok (.istore_n 2, 1) := by decide +kernel
theorem dX2_holds_8 : decode cX2_holds 8 = .ok (.aload_n 0, 1) := by decide +kernel
theorem dX2_holds_9 : decode cX2_holds 9 = .ok (.getfield 12, 3) := by decide +kernel
theorem dX2_holds_12 : decode cX2_holds 12 = .ok (.aload_n 0, 1) := by decide +kernel
theorem dX2_holds_13 : decode cX2_holds 13 = .ok (.getfield 18, 3) := by decide +kernel
theorem dX2_holds_16 : decode cX2_holds 16 = .ok (.invokevirtual 37, 3) := by decide +kernel
theorem dX2_holds_19 : decode cX2_holds 19 = .ok (.iconst 0, 1) := by decide +kernel
theorem dX2_holds_20 : decode cX2_holds 20 = .ok (.istore_n 3, 1) := by decide +kernel
theorem dX2_holds_21 : decode cX2_holds 21 = .ok (.iload_n 3, 1) := by decide +kernel
theorem dX2_holds_22 : decode cX2_holds 22 = .ok (.aload_n 0, 1) := by decide +kernel
theorem dX2_holds_23 : decode cX2_holds 23 = .ok (.getfield 18, 3) := by decide +kernel
theorem dX2_holds_26 : decode cX2_holds 26 = .ok (.getfield 45, 3) := by decide +kernel
theorem dX2_holds_29 : decode cX2_holds 29 = .ok (.if_icmp .ge 24, 3) := by decide +kernel
theorem dX2_holds_32 : decode cX2_holds 32 = .ok (.aload_n 0, 1) := by decide +kernel
theorem dX2_holds_33 : decode cX2_holds 33 = .ok (.getfield 12, 3) := by decide +kernel
theorem dX2_holds_36 : decode cX2_holds 36 = .ok (.getfield 69, 3) := by decide +kernel
theorem dX2_holds_39 : decode cX2_holds 39 = .ok (.iload_n 3, 1) := by decide +kernel
theorem dX2_holds_40 : decode cX2_holds 40 = .ok (.aload_n 0, 1) := by decide +kernel
theorem dX2_holds_41 : decode cX2_holds 41 = .ok (.getfield 25, 3) := by decide +kernel
theorem dX2_holds_44 : decode cX2_holds 44 = .ok (.iload_n 3, 1) := by decide +kernel
theorem dX2_holds_45 : decode cX2_holds 45 = .ok (.iaload, 1) := by decide +kernel
theorem dX2_holds_46 : decode cX2_holds 46 = .ok (.iastore, 1) := by decide +kernel
theorem dX2_holds_47 : decode cX2_holds 47 = .ok (.iinc 3 1, 3) := by decide +kernel
theorem dX2_holds_50 : decode cX2_holds 50 = .ok (.goto (-29), 3) := by decide +kernel
theorem dX2_holds_53 : decode cX2_holds 53 = .ok (.aload_n 0, 1) := by decide +kernel
theorem dX2_holds_54 : decode cX2_holds 54 = .ok (.getfield 12, 3) := by decide +kernel
theorem dX2_holds_57 : decode cX2_holds 57 = .ok (.invokevirtual 76, 3) := by decide +kernel
theorem dX2_holds_60 : decode cX2_holds 60 = .ok (.ldc 29, 2) := by decide +kernel
theorem dX2_holds_62 : decode cX2_holds 62 = .ok (.if_icmp .eq 5, 3) := by decide +kernel
theorem dX2_holds_65 : decode cX2_holds 65 = .ok (.iconst 0, 1) := by decide +kernel
theorem dX2_holds_66 : decode cX2_holds 66 = .ok (.ireturn, 1) := by decide +kernel
theorem dX2_holds_67 : decode cX2_holds 67 = .ok (.iconst 0, 1) := by decide +kernel
theorem dX2_holds_68 : decode cX2_holds 68 = .ok (.istore_n 3, 1) := by decide +kernel
theorem dX2_holds_69 : decode cX2_holds 69 = .ok (.iload_n 3, 1) := by decide +kernel
theorem dX2_holds_70 : decode cX2_holds 70 = .ok (.iload_n 1, 1) := by decide +kernel
theorem dX2_holds_71 : decode cX2_holds 71 = .ok (.if_icmp .ge 44, 3) := by decide +kernel
theorem dX2_holds_74 : decode cX2_holds 74 = .ok (.aload_n 0, 1) := by decide +kernel
theorem dX2_holds_75 : decode cX2_holds 75 = .ok (.getfield 12, 3) := by decide +kernel
theorem dX2_holds_78 : decode cX2_holds 78 = .ok (.invokevirtual 52, 3) := by decide +kernel
theorem dX2_holds_81 : decode cX2_holds 81 = .ok (.ifCond .eq 28, 3) := by decide +kernel
theorem dX2_holds_84 : decode cX2_holds 84 = .ok (.aload_n 0, 1) := by decide +kernel
theorem dX2_holds_85 : decode cX2_holds 85 = .ok (.getfield 12, 3) := by decide +kernel
theorem dX2_holds_88 : decode cX2_holds 88 = .ok (.invokevirtual 72, 3) := by decide +kernel
theorem dX2_holds_91 : decode cX2_holds 91 = .ok (.iload_n 2, 1) := by decide +kernel
theorem dX2_holds_92 : decode cX2_holds 92 = .ok (.if_icmp .ne 15, 3) := by decide +kernel
theorem dX2_holds_95 : decode cX2_holds 95 = .ok (.aload_n 0, 1) := by decide +kernel
theorem dX2_holds_96 : decode cX2_holds 96 = .ok (.getfield 12, 3) := by decide +kernel
theorem dX2_holds_99 : decode cX2_holds 99 = .ok (.invokevirtual 76, 3) := by decide +kernel
theorem dX2_holds_102 : decode cX2_holds 102 = .ok (.ldc 29, 2) := by decide +kernel
theorem dX2_holds_104 : decode cX2_holds 104 = .ok (.if_icmp .eq 5, 3) := by decide +kernel
theorem dX2_holds_107 : decode cX2_holds 107 = .ok (.iconst 0, 1) := by decide +kernel
theorem dX2_holds_108 : decode cX2_holds 108 = .ok (.ireturn, 1) := by decide +kernel
theorem dX2_holds_109 : decode cX2_holds 109 = .ok (.iinc 3 1, 3) := by decide +kernel
theorem dX2_holds_112 : decode cX2_holds 112 = .ok (.goto (-43), 3) := by decide +kernel
theorem dX2_holds_115 : decode cX2_holds 115 = .ok (.iconst 1, 1) := by decide +kernel
theorem dX2_holds_116 : decode cX2_holds 116 = .ok (.ireturn, 1) := by decide +kernel
theorem dX3_init_0 : decode cX3_init 0 = .ok (.aload_n 0, 1) := by decide +kernel
theorem dX3_init_1 : decode cX3_init 1 = .ok (.invokespecial 3, 3) := by decide +kernel
theorem dX3_init_4 : decode cX3_init 4 = .ok (.aload_n 0, 1) := by decide +kernel
theorem dX3_init_5 : decode cX3_init 5 = .ok (.iconst 0, 1) := by decide +kernel
theorem dX3_init_6 : decode cX3_init 6 = .ok (.putfield 9, 3) := by decide +kernel
theorem dX3_init_9 : decode cX3_init 9 = .ok (.aload_n 0, 1) := by decide +kernel
theorem dX3_init_10 : decode cX3_init 10 = .ok (.iconst 0, 1) := by decide +kernel
theorem dX3_init_11 : decode cX3_init 11 = .ok (.putfield 15, 3) := by decide +kernel
theorem dX3_init_14 : decode cX3_init 14 = .ok (.aload_n 0, 1) := by decide +kernel
theorem dX3_init_15 : decode cX3_init 15 = .ok (.iconst 0, 1) := by decide +kernel
theorem dX3_init_16 : decode cX3_init 16 = .ok (.putfield 19, 3) := by decide +kernel
theorem dX3_init_19 : decode cX3_init 19 = .ok (.aload_n 0, 1) := by decide +kernel
theorem dX3_init_20 : decode cX3_init 20 = .ok (.iconst 0, 1) := by decide +kernel
theorem dX3_init_21 : decode cX3_init 21 = .ok (.putfield 22, 3) := by decide +kernel
theorem dX3_init_24 : decode cX3_init 24 = .ok (.aload_n 0, 1) := by decide +kernel
theorem dX3_init_25 : decode cX3_init 25 = .ok (.iconst 0, 1) := by decide +kernel
theorem dX3_init_26 : decode cX3_init 26 = .ok (.putfield 25, 3) := by decide +kernel
theorem dX3_init_29 : decode cX3_init 29 = .ok (.aload_n 0, 1) := by decide +kernel
theorem dX3_init_30 : decode cX3_init 30 = .ok (.iconst 0, 1) := by decide +kernel
theorem dX3_init_31 : decode cX3_init 31 = .ok (.putfield 28, 3) := by decide +kernel
theorem dX3_init_34 : decode cX3_init 34 = .ok (.aload_n 0, 1) := by decide +kernel
theorem dX3_init_35 : decode cX3_init 35 = .ok (.iconst 5, 1) := by decide +kernel
theorem dX3_init_36 : decode cX3_init 36 = .ok (.newarray .int, 2) := by decide +kernel
theorem dX3_init_38 : decode cX3_init 38 = .ok (.putfield 31, 3) := by decide +kernel
theorem dX3_init_41 : decode cX3_init 41 = .ok (.aload_n 0, 1) := by decide +kernel
theorem dX3_init_42 : decode cX3_init 42 = .ok (.iconst 5, 1) := by decide +kernel
theorem dX3_init_43 : decode cX3_init 43 = .ok (.newarray .int, 2) := by decide +kernel
theorem dX3_init_45 : decode cX3_init 45 = .ok (.putfield 35, 3) := by decide +kernel
theorem dX3_init_48 : decode cX3_init 48 = .ok (.aload_n 0, 1) := by decide +kernel
theorem dX3_init_49 : decode cX3_init 49 = .ok (.iconst 5, 1) := by decide +kernel
theorem dX3_init_50 : decode cX3_init 50 = .ok (.newarray .int, 2) := by decide +kernel
theorem dX3_init_52 : decode cX3_init 52 = .ok (.putfield 38, 3) := by decide +kernel
theorem dX3_init_55 : decode cX3_init 55 = .ok (.aload_n 0, 1) := by decide +kernel
theorem dX3_init_56 : decode cX3_init 56 = .ok (.iconst 5, 1) := by decide +kernel
theorem dX3_init_57 : decode cX3_init 57 = .ok (.newarray .int, 2) := by decide +kernel
theorem dX3_init_59 : decode cX3_init 59 = .ok (.putfield 41, 3) := by decide +kernel
theorem dX3_init_62 : decode cX3_init 62 = .ok (.aload_n 0, 1) := by decide +kernel
theorem dX3_init_63 : decode cX3_init 63 = .ok (.iconst 5, 1) := by decide +kernel
theorem dX3_init_64 : decode cX3_init 64 = .ok (.newarray .int, 2) := by decide +kernel
theorem dX3_init_66 : decode cX3_init 66 = .ok (.putfield 44, 3) := by decide +kernel
theorem dX3_init_69 : decode cX3_init 69 = .ok (.aload_n 0, 1) := by decide +kernel
theorem dX3_init_70 : decode cX3_init 70 = .ok (.iconst 5, 1) := by decide +kernel
theorem dX3_init_71 : decode cX3_init 71 = .ok (.newarray .int, 2) := by decide +kernel
theorem dX3_init_73 : decode cX3_init 73 = .ok (.putfield 47, 3) := by decide +kernel
theorem dX3_init_76 : decode cX3_init 76 = .ok (.return_, 1) := by decide +kernel
theorem dX3_become_0 : decode cX3_become 0 = .ok (.aload_n 0, 1) := by decide +kernel
theorem dX3_become_1 : decode cX3_become 1 = .ok (.aload_n 1, 1) := by decide +kernel
theorem dX3_become_2 : decode cX3_become 2 = .ok (.getfield 9, 3) := by decide +kernel
theorem dX3_become_5 : decode cX3_become 5 = .ok (.putfield 9, 3) := by decide +kernel
theorem dX3_become_8 : decode cX3_become 8 = .ok (.aload_n 0, 1) := by decide +kernel
theorem dX3_become_9 : decode cX3_become 9 = .ok (.aload_n 1, 1) := by decide +kernel
theorem dX3_become_10 : decode cX3_become 10 = .ok (.getfield 15, 3) := by decide +kernel
theorem dX3_become_13 : decode cX3_become 13 = .ok (.putfield 15, 3) := by decide +kernel
theorem dX3_become_16 : decode cX3_become 16 = .ok (.aload_n 0, 1) := by decide +kernel
theorem dX3_become_17 : decode cX3_become 17 = .ok (.aload_n 1, 1) := by decide +kernel
theorem dX3_become_18 : decode cX3_become 18 = .ok (.getfield 19, 3) := by decide +kernel
theorem dX3_become_21 : decode cX3_become 21 = .ok (.putfield 19, 3) := by decide +kernel
theorem dX3_become_24 : decode cX3_become 24 = .ok (.aload_n 0, 1) := by decide +kernel
theorem dX3_become_25 : decode cX3_become 25 = .ok (.aload_n 1, 1) := by decide +kernel
theorem dX3_become_26 : decode cX3_become 26 = .ok (.getfield 22, 3) := by decide +kernel
theorem dX3_become_29 : decode cX3_become 29 = .ok (.putfield 22, 3) := by decide +kernel
theorem dX3_become_32 : decode cX3_become 32 = .ok (.aload_n 0, 1) := by decide +kernel
theorem dX3_become_33 : decode cX3_become 33 = .ok (.aload_n 1, 1) := by decide +kernel
theorem dX3_become_34 : decode cX3_become 34 = .ok (.getfield 25, 3) := by decide +kernel
theorem dX3_become_37 : decode cX3_become 37 = .ok (.putfield 25, 3) := by decide +kernel
theorem dX3_become_40 : decode cX3_become 40 = .ok (.aload_n 0, 1) := by decide +kernel
theorem dX3_become_41 : decode cX3_become 41 = .ok (.aload_n 1, 1) := by decide +kernel
theorem dX3_become_42 : decode cX3_become 42 = .ok (.getfield 28, 3) := by decide +kernel
theorem dX3_become_45 : decode cX3_become 45 = .ok (.putfield 28, 3) := by decide +kernel
theorem dX3_become_48 : decode cX3_become 48 = .ok (.iconst 0, 1) := by decide +kernel
theorem dX3_become_49 : decode cX3_become 49 = .ok (.istore_n 2, 1) := by decide +kernel
theorem dX3_become_50 : decode cX3_become 50 = .ok (.iload_n 2, 1) := by decide +kernel
theorem dX3_become_51 : decode cX3_become 51 = .ok (.iconst 5, 1) := by decide +kernel
theorem dX3_become_52 : decode cX3_become 52 = .ok (.if_icmp .ge 69, 3) := by decide +kernel
theorem dX3_become_55 : decode cX3_become 55 = .ok (.aload_n 0, 1) := by decide +kernel
theorem dX3_become_56 : decode cX3_become 56 = .ok (.getfield 31, 3) := by decide +kernel
theorem dX3_become_59 : decode cX3_become 59 = .ok (.iload_n 2, 1) := by decide +kernel
theorem dX3_become_60 : decode cX3_become 60 = .ok (.aload_n 1, 1) := by decide +kernel
theorem dX3_become_61 : decode cX3_become 61 = .ok (.getfield 31, 3) := by decide +kernel
theorem dX3_become_64 : decode cX3_become 64 = .ok (.iload_n 2, 1) := by decide +kernel
theorem dX3_become_65 : decode cX3_become 65 = .ok (.iaload, 1) := by decide +kernel
theorem dX3_become_66 : decode cX3_become 66 = .ok (.iastore, 1) := by decide +kernel
theorem dX3_become_67 : decode cX3_become 67 = .ok (.aload_n 0, 1) := by decide +kernel
theorem dX3_become_68 : decode cX3_become 68 = .ok (.getfield 35, 3) := by decide +kernel
theorem dX3_become_71 : decode cX3_become 71 = .ok (.iload_n 2, 1) := by decide +kernel
theorem dX3_become_72 : decode cX3_become 72 = .ok (.aload_n 1, 1) := by decide +kernel
theorem dX3_become_73 : decode cX3_become 73 = .ok (.getfield 35, 3) := by decide +kernel
theorem dX3_become_76 : decode cX3_become 76 = .ok (.iload_n 2, 1) := by decide +kernel
theorem dX3_become_77 : decode cX3_become 77 = .ok (.iaload, 1) := by decide +kernel
theorem dX3_become_78 : decode cX3_become 78 = .ok (.iastore, 1) := by decide +kernel
theorem dX3_become_79 : decode cX3_become 79 = .ok (.aload_n 0, 1) := by decide +kernel
theorem dX3_become_80 : decode cX3_become 80 = .ok (.getfield 38, 3) := by decide +kernel
theorem dX3_become_83 : decode cX3_become 83 = .ok (.iload_n 2, 1) := by decide +kernel
theorem dX3_become_84 : decode cX3_become 84 = .ok (.aload_n 1, 1) := by decide +kernel
theorem dX3_become_85 : decode cX3_become 85 = .ok (.getfield 38, 3) := by decide +kernel
theorem dX3_become_88 : decode cX3_become 88 = .ok (.iload_n 2, 1) := by decide +kernel
theorem dX3_become_89 : decode cX3_become 89 = .ok (.iaload, 1) := by decide +kernel
theorem dX3_become_90 : decode cX3_become 90 = .ok (.iastore, 1) := by decide +kernel
theorem dX3_become_91 : decode cX3_become 91 = .ok (.aload_n 0, 1) := by decide +kernel
theorem dX3_become_92 : decode cX3_become 92 = .ok (.getfield 41, 3) := by decide +kernel
theorem dX3_become_95 : decode cX3_become 95 = .ok (.iload_n 2, 1) := by decide +kernel
theorem dX3_become_96 : decode cX3_become 96 = .ok (.aload_n 1, 1) := by decide +kernel
theorem dX3_become_97 : decode cX3_become 97 = .ok (.getfield 41, 3) := by decide +kernel
theorem dX3_become_100 : decode cX3_become 100 = .ok (.iload_n 2, 1) := by decide +kernel
theorem dX3_become_101 : decode cX3_become 101 = .ok (.iaload, 1) := by decide +kernel
theorem dX3_become_102 : decode cX3_become 102 = .ok (.iastore, 1) := by decide +kernel
theorem dX3_become_103 : decode cX3_become 103 = .ok (.aload_n 0, 1) := by decide +kernel
theorem dX3_become_104 : decode cX3_become 104 = .ok (.getfield 44, 3) := by decide +kernel
theorem dX3_become_107 : decode cX3_become 107 = .ok (.iload_n 2, 1) := by decide +kernel
theorem dX3_become_108 : decode cX3_become 108 = .ok (.aload_n 1, 1) := by decide +kernel
theorem dX3_become_109 : decode cX3_become 109 = .ok (.getfield 44, 3) := by decide +kernel
theorem dX3_become_112 : decode cX3_become 112 = .ok (.iload_n 2, 1) := by decide +kernel
theorem dX3_become_113 : decode cX3_become 113 = .ok (.iaload, 1) := by decide +kernel
theorem dX3_become_114 : decode cX3_become 114 = .ok (.iastore, 1) := by decide +kernel
theorem dX3_become_115 : decode cX3_become 115 = .ok (.iinc 2 1, 3) := by decide +kernel
theorem dX3_become_118 : decode cX3_become 118 = .ok (.goto (-68), 3) := by decide +kernel
theorem dX3_become_121 : decode cX3_become 121 = .ok (.return_, 1) := by decide +kernel
theorem dX3_foretellsLike_0 : decode cX3_foretellsLike 0 = .ok (.aload_n 0, 1) := by decide +kernel
theorem dX3_foretellsLike_1 : decode cX3_foretellsLike 1 = .ok (.getfield 15, 3) := by decide +kernel
theorem dX3_foretellsLike_4 : decode cX3_foretellsLike 4 = .ok (.aload_n 1, 1) := by decide +kernel
theorem dX3_foretellsLike_5 : decode cX3_foretellsLike 5 = .ok (.getfield 15, 3) := by decide +kernel
theorem dX3_foretellsLike_8 : decode cX3_foretellsLike 8 = .ok (.if_icmp .ne 25, 3) := by decide +kernel
theorem dX3_foretellsLike_11 : decode cX3_foretellsLike 11 = .ok (.aload_n 0, 1) := by decide +kernel
theorem dX3_foretellsLike_12 : decode cX3_foretellsLike 12 = .ok (.getfield 22, 3) := by decide +kernel
theorem dX3_foretellsLike_15 : decode cX3_foretellsLike 15 = .ok (.aload_n 1, 1) := by decide +kernel
theorem dX3_foretellsLike_16 : decode cX3_foretellsLike 16 = .ok (.getfield 22, 3) := by decide +kernel
theorem dX3_foretellsLike_19 : decode cX3_foretellsLike 19 = .ok (.if_icmp .ne 14, 3) := by decide +kernel
theorem dX3_foretellsLike_22 : decode cX3_foretellsLike 22 = .ok (.aload_n 0, 1) := by decide +kernel
theorem dX3_foretellsLike_23 : decode cX3_foretellsLike 23 = .ok (.getfield 25, 3) := by decide +kernel
theorem dX3_foretellsLike_26 : decode cX3_foretellsLike 26 = .ok (.aload_n 1, 1) := by decide +kernel
theorem dX3_foretellsLike_27 : decode cX3_foretellsLike 27 = .ok (.getfield 25, 3) := by decide +kernel
theorem dX3_foretellsLike_30 : decode cX3_foretellsLike 30 = .ok (.if_icmp .eq 5, 3) := by decide +kernel
theorem dX3_foretellsLike_33 : decode cX3_foretellsLike 33 = .ok (.iconst 0, 1) := by decide +kernel
theorem dX3_foretellsLike_34 : decode cX3_foretellsLike 34 = .ok (.ireturn, 1) := by decide +kernel
theorem dX3_foretellsLike_35 : decode cX3_foretellsLike 35 = .ok (.iconst 0, 1) := by decide +kernel
theorem dX3_foretellsLike_36 : decode cX3_foretellsLike 36 = .ok (.istore_n 2, 1) := by decide +kernel
theorem dX3_foretellsLike_37 : decode cX3_foretellsLike 37 = .ok (.iload_n 2, 1) := by decide +kernel
theorem dX3_foretellsLike_38 : decode cX3_foretellsLike 38 = .ok (.aload_n 0, 1) := by decide +kernel
theorem dX3_foretellsLike_39 : decode cX3_foretellsLike 39 = .ok (.getfield 15, 3) := by decide +kernel
theorem dX3_foretellsLike_42 : decode cX3_foretellsLike 42 = .ok (.if_icmp .ge 71, 3) := by decide +kernel
theorem dX3_foretellsLike_45 : decode cX3_foretellsLike 45 = .ok (.aload_n 0, 1) := by decide +kernel
theorem dX3_foretellsLike_46 : decode cX3_foretellsLike 46 = .ok (.getfield 31, 3) := by decide +kernel
theorem dX3_foretellsLike_49 : decode cX3_foretellsLike 49 = .ok (.iload_n 2, 1) := by decide +kernel
theorem dX3_foretellsLike_50 : decode cX3_foretellsLike 50 = .ok (.iaload, 1) := by decide +kernel
theorem dX3_foretellsLike_51 : decode cX3_foretellsLike 51 = .ok (.aload_n 1, 1) := by decide +kernel
theorem dX3_foretellsLike_52 : decode cX3_foretellsLike 52 = .ok (.getfield 31, 3) := by decide +kernel
theorem dX3_foretellsLike_55 : decode cX3_foretellsLike 55 = .ok (.iload_n 2, 1) := by decide +kernel
theorem dX3_foretellsLike_56 : decode cX3_foretellsLike 56 = .ok (.iaload, 1) := by decide +kernel
theorem dX3_foretellsLike_57 : decode cX3_foretellsLike 57 = .ok (.if_icmp .ne 48, 3) := by decide +kernel
theorem dX3_foretellsLike_60 : decode cX3_foretellsLike 60 = .ok (.aload_n 0, 1) := by decide +kernel
theorem dX3_foretellsLike_61 : decode cX3_foretellsLike 61 = .ok (.getfield 35, 3) := by decide +kernel
theorem dX3_foretellsLike_64 : decode cX3_foretellsLike 64 = .ok (.iload_n 2, 1) := by decide +kernel
theorem dX3_foretellsLike_65 : decode cX3_foretellsLike 65 = .ok (.iaload, 1) := by decide +kernel
theorem dX3_foretellsLike_66 : decode cX3_foretellsLike 66 = .ok (.aload_n 1, 1) := by decide +kernel
theorem dX3_foretellsLike_67 : decode cX3_foretellsLike 67 = .ok (.getfield 35, 3) := by decide +kernel
theorem dX3_foretellsLike_70 : decode cX3_foretellsLike 70 = .ok (.iload_n 2, 1) := by decide +kernel
theorem dX3_foretellsLike_71 : decode cX3_foretellsLike 71 = .ok (.iaload, 1) := by decide +kernel
theorem dX3_foretellsLike_72 : decode cX3_foretellsLike 72 = .ok (.if_icmp .ne 33, 3) := by decide +kernel
theorem dX3_foretellsLike_75 : decode cX3_foretellsLike 75 = .ok (.aload_n 0, 1) := by decide +kernel
theorem dX3_foretellsLike_76 : decode cX3_foretellsLike 76 = .ok (.getfield 38, 3) := by decide +kernel
theorem dX3_foretellsLike_79 : decode cX3_foretellsLike 79 = .ok (.iload_n 2, 1) := by decide +kernel
theorem dX3_foretellsLike_80 : decode cX3_foretellsLike 80 = .ok (.iaload, 1) := by decide +kernel
theorem dX3_foretellsLike_81 : decode cX3_foretellsLike 81 = .ok (.aload_n 1, 1) := by decide +kernel
theorem dX3_foretellsLike_82 : decode cX3_foretellsLike 82 = .ok (.getfield 38, 3) := by decide +kernel
theorem dX3_foretellsLike_85 : decode cX3_foretellsLike 85 = .ok (.iload_n 2, 1) := by decide +kernel
theorem dX3_foretellsLike_86 : decode cX3_foretellsLike 86 = .ok (.iaload, 1) := by decide +kernel
theorem dX3_foretellsLike_87 : decode cX3_foretellsLike 87 = .ok (.if_icmp .ne 18, 3) := by decide +kernel
theorem dX3_foretellsLike_90 : decode cX3_foretellsLike 90 = .ok (.aload_n 0, 1) := by decide +kernel
theorem dX3_foretellsLike_91 : decode cX3_foretellsLike 91 = .ok (.getfield 41, 3) := by decide +kernel
theorem dX3_foretellsLike_94 : decode cX3_foretellsLike 94 = .ok (.iload_n 2, 1) := by decide +kernel
theorem dX3_foretellsLike_95 : decode cX3_foretellsLike 95 = .ok (.iaload, 1) := by decide +kernel
theorem dX3_foretellsLike_96 : decode cX3_foretellsLike 96 = .ok (.aload_n 1, 1) := by decide +kernel
theorem dX3_foretellsLike_97 : decode cX3_foretellsLike 97 = .ok (.getfield 41, 3) := by decide +kernel
theorem dX3_foretellsLike_100 : decode cX3_foretellsLike 100 = .ok (.iload_n 2, 1) := by decide +kernel
theorem dX3_foretellsLike_101 : decode cX3_foretellsLike 101 = .ok (.iaload, 1) := by decide +kernel
theorem dX3_foretellsLike_102 : decode cX3_foretellsLike 102 = .ok (.if_icmp .eq 5, 3) := by decide +kernel
theorem dX3_foretellsLike_105 : decode cX3_foretellsLike 105 = .ok (.iconst 0, 1) := by decide +kernel
theorem dX3_foretellsLike_106 : decode cX3_foretellsLike 106 = .ok (.ireturn, 1) := by decide +kernel
theorem dX3_foretellsLike_107 : decode cX3_foretellsLike 107 = .ok (.iinc 2 1, 3) := by decide +kernel
theorem dX3_foretellsLike_110 : decode cX3_foretellsLike 110 = .ok (.goto (-73), 3) := by decide +kernel
theorem dX3_foretellsLike_113 : decode cX3_foretellsLike 113 = .ok (.iconst 1, 1) := by decide +kernel
theorem dX3_foretellsLike_114 : decode cX3_foretellsLike 114 = .ok (.ireturn, 1) := by decide +kernel
theorem dX3_isUp_0 : decode cX3_isUp 0 = .ok (.aload_n 0, 1) := by decide +kernel
theorem dX3_isUp_1 : decode cX3_isUp 1 = .ok (.getfield 35, 3) := by decide +kernel
theorem dX3_isUp_4 : decode cX3_isUp 4 = .ok (.iload_n 1, 1) := by decide +kernel
theorem dX3_isUp_5 : decode cX3_isUp 5 = .ok (.iaload, 1) := by decide +kernel
theorem dX3_isUp_6 : decode cX3_isUp 6 = .ok (.ifCond .ne 7, 3) := by decide +kernel
theorem dX3_isUp_9 : decode cX3_isUp 9 = .ok (.iconst 1, 1) := by decide +kernel
theorem dX3_isUp_10 : decode cX3_isUp 10 = .ok (.goto 4, 3) := by decide +kernel
theorem dX3_isUp_13 : decode cX3_isUp 13 = .ok (.iconst 0, 1) := by decide +kernel
theorem dX3_isUp_14 : decode cX3_isUp 14 = .ok (.ireturn, 1) := by decide +kernel
set_option maxRecDepth 20000 in
theorem ggX3_allUp_X3_isUp : GoodIn wsX3_allUp wsX3_isUp := goodIn_r _ [6, 7, 8, 9, 10, 11, 12, 13, 14, 15, 16, 17, 18, 19] (by decide +kernel) (by decide +kernel)
set_option maxRecDepth 20000 in
theorem gX3_allUp_X3_isUp : GoodIn wsX3_allUp (wsV RX3 50 RX3 yX3_isUp wsX3_isUp) := goodIn_app (goodIn_of _ (by decide +kernel)) ggX3_allUp_X3_isUp
theorem dX3_allUp_0 : decode cX3_allUp 0 = .ok (.iconst 0, 1) := by decide +kernel
theorem dX3_allUp_1 : decode cX3_allUp 1 = .ok (.istore_n 1, 1) := by decide +kernel
theorem dX3_allUp_2 : decode cX3_allUp 2 = .ok (.iconst 0, 1) := by decide +kernel
theorem dX3_allUp_3 : decode cX3_allUp 3 = .ok (.istore_n 2, 1) := by decide +kernel
theorem dX3_allUp_4 : decode cX3_allUp 4 = .ok (.iload_n 2, 1) := by decide +kernel
theorem dX3_allUp_5 : decode cX3_allUp 5 = .ok (.aload_n 0, 1) := by decide +kernel
theorem dX3_allUp_6 : decode cX3_allUp 6 = .ok (.getfield 15, 3) := by decide +kernel
theorem dX3_allUp_9 : decode cX3_allUp 9 = .ok (.if_icmp .ge 23, 3) := by decide +kernel
theorem dX3_allUp_12 : decode cX3_allUp 12 = .ok (.aload_n 0, 1) := by decide +kernel
theorem dX3_allUp_13 : decode cX3_allUp 13 = .ok (.iload_n 2, 1) := by decide +kernel
theorem dX3_allUp_14 : decode cX3_allUp 14 = .ok (.invokevirtual 50, 3) := by decide +kernel
theorem dX3_allUp_17 : decode cX3_allUp 17 = .ok (.ifCond .eq 9, 3) := by decide +kernel
theorem dX3_allUp_20 : decode cX3_allUp 20 = .ok (.iload_n 1, 1) := by decide +kernel
theorem dX3_allUp_21 : decode cX3_allUp 21 = .ok (.iconst 1, 1) := by decide +kernel
theorem dX3_allUp_22 : decode cX3_allUp 22 = .ok (.iload_n 2, 1) := by decide +kernel
theorem dX3_allUp_23 : decode cX3_allUp 23 = .ok (.ishl, 1) := by decide +kernel
theorem dX3_allUp_24 : decode cX3_allUp 24 = .ok (.ior, 1) := by decide +kernel
theorem dX3_allUp_25 : decode cX3_allUp 25 = .ok (.istore_n 1, 1) := by decide +kernel
theorem dX3_allUp_26 : decode cX3_allUp 26 = .ok (.iinc 2 1, 3) := by decide +kernel
theorem dX3_allUp_29 : decode cX3_allUp 29 = .ok (.goto (-25), 3) := by decide +kernel
theorem dX3_allUp_32 : decode cX3_allUp 32 = .ok (.iload_n 1, 1) := by decide +kernel
theorem dX3_allUp_33 : decode cX3_allUp 33 = .ok (.ireturn, 1) := by decide +kernel
set_option maxRecDepth 20000 in
theorem ggX3_areTooNear_X3_isUp : GoodIn wsX3_areTooNear wsX3_isUp := goodIn_r _ [12, 6, 13, 14, 15, 16, 17, 18, 19, 20, 21, 22, 23, 24] (by decide +kernel) (by decide +kernel)
set_option maxRecDepth 20000 in
theorem gX3_areTooNear_X3_isUp : GoodIn wsX3_areTooNear (wsV RX3 50 RX3 yX3_isUp wsX3_isUp) := goodIn_app (goodIn_of _ (by decide +kernel)) ggX3_areTooNear_X3_isUp
theorem dX3_areTooNear_0 : decode cX3_areTooNear 0 = .ok (.aload_n 0, 1) := by decide +kernel
theorem dX3_areTooNear_1 : decode cX3_areTooNear 1 = .ok (.iload_n 1, 1) := by decide +kernel
theorem dX3_areTooNear_2 : decode cX3_areTooNear 2 = .ok (.invokevirtual 50, 3) := by decide +kernel
theorem dX3_areTooNear_5 : decode cX3_areTooNear 5 = .ok (.ifCond .ne 58, 3) := by decide +kernel
theorem dX3_areTooNear_8 : decode cX3_areTooNear 8 = .ok (.aload_n 0, 1) := by decide +kernel
theorem dX3_areTooNear_9 : decode cX3_areTooNear 9 = .ok (.iload_n 2, 1) := by decide +kernel
theorem dX3_areTooNear_10 : decode cX3_areTooNear 10 = .ok (.invokevirtual 50, 3) := by decide +kernel
theorem dX3_areTooNear_13 : decode cX3_areTooNear 13 = .ok (.ifCond .ne 50, 3) := by decide +kernel
theorem dX3_areTooNear_16 : decode cX3_areTooNear 16 = .ok (.aload_n 0, 1) := by decide +kernel
theorem dX3_areTooNear_17 : decode cX3_areTooNear 17 = .ok (.getfield 38, 3) := by decide +kernel
theorem dX3_areTooNear_20 : decode cX3_areTooNear 20 = .ok (.iload_n 1, 1) := by decide +kernel
theorem dX3_areTooNear_21 : decode cX3_areTooNear 21 = .ok (.iaload, 1) := by decide +kernel
theorem dX3_areTooNear_22 : decode cX3_areTooNear 22 = .ok (.aload_n 0, 1) := by decide +kernel
theorem dX3_areTooNear_23 : decode cX3_areTooNear 23 = .ok (.getfield 38, 3) := by decide +kernel
theorem dX3_areTooNear_26 : decode cX3_areTooNear 26 = .ok (.iload_n 2, 1) := by decide +kernel
theorem dX3_areTooNear_27 : decode cX3_areTooNear 27 = .ok (.iaload, 1) := by decide +kernel
theorem dX3_areTooNear_28 : decode cX3_areTooNear 28 = .ok (.isub, 1) := by decide +kernel
theorem dX3_areTooNear_29 : decode cX3_areTooNear 29 = .ok (.invokestatic 54, 3) := by decide +kernel
theorem dX3_areTooNear_32 : decode cX3_areTooNear 32 = .ok (.iconst 1, 1) := by decide +kernel
theorem dX3_areTooNear_33 : decode cX3_areTooNear 33 = .ok (.if_icmp .gt 30, 3) := by decide +kernel
theorem dX3_areTooNear_36 : decode cX3_areTooNear 36 = .ok (.aload_n 0, 1) := by decide +kernel
theorem dX3_areTooNear_37 : decode cX3_areTooNear 37 = .ok (.getfield 35, 3) := by decide +kernel
theorem dX3_areTooNear_40 : decode cX3_areTooNear 40 = .ok (.iload_n 1, 1) := by decide +kernel
theorem dX3_areTooNear_41 : decode cX3_areTooNear 41 = .ok (.iaload, 1) := by decide +kernel
theorem dX3_areTooNear_42 : decode cX3_areTooNear 42 = .ok (.aload_n 0, 1) := by decide +kernel
theorem dX3_areTooNear_43 : decode cX3_areTooNear 43 = .ok (.getfield 35, 3) := by decide +kernel
theorem dX3_areTooNear_46 : decode cX3_areTooNear 46 = .ok (.iload_n 2, 1) := by decide +kernel
theorem dX3_areTooNear_47 : decode cX3_areTooNear 47 = .ok (.iaload, 1) := by decide +kernel
theorem dX3_areTooNear_48 : decode cX3_areTooNear 48 = .ok (.isub, 1) := by decide +kernel
theorem dX3_areTooNear_49 : decode cX3_areTooNear 49 = .ok (.invokestatic 54, 3) := by decide +kernel
theorem dX3_areTooNear_52 : decode cX3_areTooNear 52 = .ok (.aload_n 0, 1) := by decide +kernel
theorem dX3_areTooNear_53 : decode cX3_areTooNear 53 = .ok (.getfield 22, 3) := by decide +kernel
theorem dX3_areTooNear_56 : decode cX3_areTooNear 56 = .ok (.if_icmp .gt 7, 3) := by decide +kernel
theorem dX3_areTooNear_59 : decode cX3_areTooNear 59 = .ok (.iconst 1, 1) := by decide +kernel
theorem dX3_areTooNear_60 : decode cX3_areTooNear 60 = .ok (.goto 4, 3) := by decide +kernel
theorem dX3_areTooNear_63 : decode cX3_areTooNear 63 = .ok (.iconst 0, 1) := by decide +kernel
theorem dX3_areTooNear_64 : decode cX3_areTooNear 64 = .ok (.ireturn, 1) := by decide +kernel
set_option maxRecDepth 20000 in
theorem ggX3_nearTo_X3_areTooNear : GoodIn wsX3_nearTo wsX3_areTooNear := goodIn_r _ [6, 7, 8, 9, 10, 11, 12, 13, 14, 15, 16, 5, 17, 18, 19, 20, 21, 22, 23, 24, 25, 26, 27, 28, 29] (by decide +kernel) (by decide +kernel)
set_option maxRecDepth 20000 in
theorem gX3_nearTo_X3_areTooNear : GoodIn wsX3_nearTo (wsV RX3 60 RX3 yX3_areTooNear wsX3_areTooNear) := goodIn_app (goodIn_of _ (by decide +kernel)) ggX3_nearTo_X3_areTooNear
theorem dX3_nearTo_0 : decode cX3_nearTo 0 = .ok (.iconst 0, 1) := by decide +kernel
theorem dX3_nearTo_1 : decode cX3_nearTo 1 = .ok (.istore_n 2, 1) := by decide +kernel
theorem dX3_nearTo_2 : decode cX3_nearTo 2 = .ok (.iconst 0, 1) := by decide +kernel
theorem dX3_nearTo_3 : decode cX3_nearTo 3 = .ok (.istore_n 3, 1) := by decide +kernel
theorem dX3_nearTo_4 : decode cX3_nearTo 4 = .ok (.iload_n 3, 1) := by decide +kernel
theorem dX3_nearTo_5 : decode cX3_nearTo 5 = .ok (.aload_n 0, 1) := by decide +kernel
theorem dX3_nearTo_6 : decode cX3_nearTo 6 = .ok (.getfield 15, 3) := by decide +kernel
theorem dX3_nearTo_9 : decode cX3_nearTo 9 = .ok (.if_icmp .ge 29, 3) := by decide +kernel
theorem dX3_nearTo_12 : decode cX3_nearTo 12 = .ok (.iload_n 3, 1) := by decide +kernel
theorem dX3_nearTo_13 : decode cX3_nearTo 13 = .ok (.iload_n 1, 1) := by decide +kernel
theorem dX3_nearTo_14 : decode cX3_nearTo 14 = .ok (.if_icmp .eq 18, 3) := by decide +kernel
theorem dX3_nearTo_17 : decode cX3_nearTo 17 = .ok (.aload_n 0, 1) := by decide +kernel
theorem dX3_nearTo_18 : decode cX3_nearTo 18 = .ok (.iload_n 3, 1) := by decide +kernel
theorem dX3_nearTo_19 : decode cX3_nearTo 19 = .ok (.iload_n 1, 1) := by decide +kernel
theorem dX3_nearTo_20 : decode cX3_nearTo 20 = .ok (.invokevirtual 60, 3) := by decide +kernel
theorem dX3_nearTo_23 : decode cX3_nearTo 23 = .ok (.ifCond .eq 9, 3) := by decide +kernel
theorem dX3_nearTo_26 : decode cX3_nearTo 26 = .ok (.iload_n 2, 1) := by decide +kernel
theorem dX3_nearTo_27 : decode cX3_nearTo 27 = .ok (.iconst 1, 1) := by decide +kernel
theorem dX3_nearTo_28 : decode cX3_nearTo 28 = .ok (.iload_n 3, 1) := by decide +kernel
theorem dX3_nearTo_29 : decode cX3_nearTo 29 = .ok (.ishl, 1) := by decide +kernel
theorem dX3_nearTo_30 : decode cX3_nearTo 30 = .ok (.ior, 1) := by decide +kernel
theorem dX3_nearTo_31 : decode cX3_nearTo 31 = .ok (.istore_n 2, 1) := by decide +kernel
theorem dX3_nearTo_32 : decode cX3_nearTo 32 = .ok (.iinc 3 1, 3) := by decide +kernel
theorem dX3_nearTo_35 : decode cX3_nearTo 35 = .ok (.goto (-31), 3) := by decide +kernel
theorem dX3_nearTo_38 : decode cX3_nearTo 38 = .ok (.iload_n 2, 1) := by decide +kernel
theorem dX3_nearTo_39 : decode cX3_nearTo 39 = .ok (.ireturn, 1) := by decide +kernel
set_option maxRecDepth 20000 in
theorem ggX3_firstTooNear_X3_areTooNear : GoodIn wsX3_firstTooNear wsX3_areTooNear := goodIn_r _ [7, 8, 9, 10, 11, 12, 13, 14, 15, 16, 17, 6, 18, 19, 20, 21, 22, 23, 24, 25, 26, 27, 28, 29, 30] (by decide +kernel) (by decide +kernel)
set_option maxRecDepth 20000 in
theorem gX3_firstTooNear_X3_areTooNear : GoodIn wsX3_firstTooNear (wsV RX3 60 RX3 yX3_areTooNear wsX3_areTooNear) := goodIn_app (goodIn_of _ (by decide +kernel)) ggX3_firstTooNear_X3_areTooNear
theorem dX3_firstTooNear_0 : decode cX3_firstTooNear 0 = .ok (.iconst 0, 1) := by decide +kernel
theorem dX3_firstTooNear_1 : decode cX3_firstTooNear 1 = .ok (.istore_n 1, 1) := by decide +kernel
theorem dX3_firstTooNear_2 : decode cX3_firstTooNear 2 = .ok (.iload_n 1, 1) := by decide +kernel
theorem dX3_firstTooNear_3 : decode cX3_firstTooNear 3 = .ok (.aload_n 0, 1) := by decide +kernel
theorem dX3_firstTooNear_4 : decode cX3_firstTooNear 4 = .ok (.getfield 15, 3) := by decide +kernel
theorem dX3_firstTooNear_7 : decode cX3_firstTooNear 7 = .ok (.if_icmp .ge 43, 3) := by decide +kernel
theorem dX3_firstTooNear_10 : decode cX3_firstTooNear 10 = .ok (.iload_n 1, 1) := by decide +kernel
theorem dX3_firstTooNear_11 : decode cX3_firstTooNear 11 = .ok (.iconst 1, 1) := by decide +kernel
theorem dX3_firstTooNear_12 : decode cX3_firstTooNear 12 = .ok (.iadd, 1) := by decide +kernel
theorem dX3_firstTooNear_13 : decode cX3_firstTooNear 13 = .ok (.istore_n 2, 1) := by decide +kernel
theorem dX3_firstTooNear_14 : decode cX3_firstTooNear 14 = .ok (.iload_n 2, 1) := by decide +kernel
theorem dX3_firstTooNear_15 : decode cX3_firstTooNear 15 = .ok (.aload_n 0, 1) := by decide +kernel
theorem dX3_firstTooNear_16 : decode cX3_firstTooNear 16 = .ok (.getfield 15, 3) := by decide +kernel
theorem dX3_firstTooNear_19 : decode cX3_firstTooNear 19 = .ok (.if_icmp .ge 25, 3) := by decide +kernel
theorem dX3_firstTooNear_22 : decode cX3_firstTooNear 22 = .ok (.aload_n 0, 1) := by decide +kernel
theorem dX3_firstTooNear_23 : decode cX3_firstTooNear 23 = .ok (.iload_n 1, 1) := by decide +kernel
theorem dX3_firstTooNear_24 : decode cX3_firstTooNear 24 = .ok (.iload_n 2, 1) := by decide +kernel
theorem dX3_firstTooNear_25 : decode cX3_firstTooNear 25 = .ok (.invokevirtual 60, 3) := by decide +kernel
theorem dX3_firstTooNear_28 : decode cX3_firstTooNear 28 = .ok (.ifCond .eq 10, 3) := by decide +kernel
theorem dX3_firstTooNear_31 : decode cX3_firstTooNear 31 = .ok (.bipush 10, 2) := by decide +kernel
theorem dX3_firstTooNear_33 : decode cX3_firstTooNear 33 = .ok (.iload_n 1, 1) := by decide +kernel
theorem dX3_firstTooNear_34 : decode cX3_firstTooNear 34 = .ok (.imul, 1) := by decide +kernel
theorem dX3_firstTooNear_35 : decode cX3_firstTooNear 35 = .ok (.iload_n 2, 1) := by decide +kernel
theorem dX3_firstTooNear_36 : decode cX3_firstTooNear 36 = .ok (.iadd, 1) := by decide +kernel
theorem dX3_firstTooNear_37 : decode cX3_firstTooNear 37 = .ok (.ireturn, 1) := by decide +kernel
theorem dX3_firstTooNear_38 : decode cX3_firstTooNear 38 = .ok (.iinc 2 1, 3) := by decide +kernel
theorem dX3_firstTooNear_41 : decode cX3_firstTooNear 41 = .ok (.goto (-27), 3) := by decide +kernel
theorem dX3_firstTooNear_44 : decode cX3_firstTooNear 44 = .ok (.iinc 1 1, 3) := by decide +kernel
theorem dX3_firstTooNear_47 : decode cX3_firstTooNear 47 = .ok (.goto (-45), 3) := by decide +kernel
theorem dX3_firstTooNear_50 : decode cX3_firstTooNear 50 = .ok (.ldc 64, 2) := by decide +kernel
theorem dX3_firstTooNear_52 : decode cX3_firstTooNear 52 = .ok (.ireturn, 1) := by decide +kernel
set_option maxRecDepth 20000 in
theorem ggX3_riseOf_X3_isUp : GoodIn wsX3_riseOf wsX3_isUp := goodIn_r _ [12, 2, 24, 25, 26, 27, 28, 29, 30, 31, 32, 33, 34, 35] (by decide +kernel) (by decide +kernel)
set_option maxRecDepth 20000 in
theorem gX3_riseOf_X3_isUp : GoodIn wsX3_riseOf (wsV RX3 50 RX3 yX3_isUp wsX3_isUp) := goodIn_app (goodIn_of _ (by decide +kernel)) ggX3_riseOf_X3_isUp
set_option maxRecDepth 20000 in
theorem ggX3_riseOf_X3_ironRise : GoodIn wsX3_riseOf wsX3_ironRise := goodIn_r _ [16, 17, 7, 24, 25, 26, 27, 28, 29, 30, 31, 32, 33, 34, 35] (by decide +kernel) (by decide +kernel)
set_option maxRecDepth 20000 in
theorem gX3_riseOf_X3_ironRise : GoodIn wsX3_riseOf (wsV RX3 65 RX3 yX3_ironRise wsX3_ironRise) := goodIn_app (goodIn_of _ (by decide +kernel)) ggX3_riseOf_X3_ironRise
set_option maxRecDepth 20000 in
theorem ggX3_riseOf_X3_isCovered : GoodIn wsX3_riseOf wsX3_isCovered := goodIn_r _ [21, 22, 2, 23, 24, 25, 26, 27, 28, 29, 30, 31, 32, 33, 34, 35] (by decide +kernel) (by decide +kernel)
set_option maxRecDepth 20000 in
theorem gX3_riseOf_X3_isCovered : GoodIn wsX3_riseOf (wsV RX3 68 RX3 yX3_isCovered wsX3_isCovered) := goodIn_app (goodIn_of _ (by decide +kernel)) ggX3_riseOf_X3_isCovered
theorem dX3_riseOf_0 : decode cX3_riseOf 0 = .ok (.aload_n 0, 1) := by decide +kernel
theorem dX3_riseOf_1 : decode cX3_riseOf 1 = .ok (.iload_n 1, 1) := by decide +kernel
theorem dX3_riseOf_2 : decode cX3_riseOf 2 = .ok (.invokevirtual 50, 3) := by decide +kernel
theorem dX3_riseOf_5 : decode cX3_riseOf 5 = .ok (.ifCond .eq 5, 3) := by decide +kernel
theorem dX3_riseOf_8 : decode cX3_riseOf 8 = .ok (.iconst 0, 1) := by decide +kernel
theorem dX3_riseOf_9 : decode cX3_riseOf 9 = .ok (.ireturn, 1) := by decide +kernel
theorem dX3_riseOf_10 : decode cX3_riseOf 10 = .ok (.aload_n 0, 1) := by decide +kernel
theorem dX3_riseOf_11 : decode cX3_riseOf 11 = .ok (.getfield 31, 3) := by decide +kernel
theorem dX3_riseOf_14 : decode cX3_riseOf 14 = .ok (.iload_n 1, 1) := by decide +kernel
theorem dX3_riseOf_15 : decode cX3_riseOf 15 = .ok (.iaload, 1) := by decide +kernel
theorem dX3_riseOf_16 : decode cX3_riseOf 16 = .ok (.tableswitch 97 1 5 #[36, 42, 64, 97, 81], 36) := by decide +kernel
theorem dX3_riseOf_52 : decode cX3_riseOf 52 = .ok (.aload_n 0, 1) := by decide +kernel
theorem dX3_riseOf_53 : decode cX3_riseOf 53 = .ok (.iload_n 1, 1) := by decide +kernel
theorem dX3_riseOf_54 : decode cX3_riseOf 54 = .ok (.invokevirtual 65, 3) := by decide +kernel
theorem dX3_riseOf_57 : decode cX3_riseOf 57 = .ok (.ireturn, 1) := by decide +kernel
theorem dX3_riseOf_58 : decode cX3_riseOf 58 = .ok (.aload_n 0, 1) := by decide +kernel
theorem dX3_riseOf_59 : decode cX3_riseOf 59 = .ok (.iload_n 1, 1) := by decide +kernel
theorem dX3_riseOf_60 : decode cX3_riseOf 60 = .ok (.invokevirtual 65, 3) := by decide +kernel
theorem dX3_riseOf_63 : decode cX3_riseOf 63 = .ok (.ifCond .eq 11, 3) := by decide +kernel
theorem dX3_riseOf_66 : decode cX3_riseOf 66 = .ok (.aload_n 0, 1) := by decide +kernel
theorem dX3_riseOf_67 : decode cX3_riseOf 67 = .ok (.iload_n 1, 1) := by decide +kernel
theorem dX3_riseOf_68 : decode cX3_riseOf 68 = .ok (.invokevirtual 68, 3) := by decide +kernel
theorem dX3_riseOf_71 : decode cX3_riseOf 71 = .ok (.ifCond .eq 7, 3) := by decide +kernel
theorem dX3_riseOf_74 : decode cX3_riseOf 74 = .ok (.iconst 0, 1) := by decide +kernel
theorem dX3_riseOf_75 : decode cX3_riseOf 75 = .ok (.goto 4, 3) := by decide +kernel
theorem dX3_riseOf_78 : decode cX3_riseOf 78 = .ok (.iconst 1, 1) := by decide +kernel
theorem dX3_riseOf_79 : decode cX3_riseOf 79 = .ok (.ireturn, 1) := by decide +kernel
theorem dX3_riseOf_80 : decode cX3_riseOf 80 = .ok (.iconst 2, 1) := by decide +kernel
theorem dX3_riseOf_81 : decode cX3_riseOf 81 = .ok (.aload_n 0, 1) := by decide +kernel
theorem dX3_riseOf_82 : decode cX3_riseOf 82 = .ok (.iload_n 1, 1) := by decide +kernel
theorem dX3_riseOf_83 : decode cX3_riseOf 83 = .ok (.invokevirtual 65, 3) := by decide +kernel
theorem dX3_riseOf_86 : decode cX3_riseOf 86 = .ok (.imul, 1) := by decide +kernel
theorem dX3_riseOf_87 : decode cX3_riseOf 87 = .ok (.aload_n 0, 1) := by decide +kernel
theorem dX3_riseOf_88 : decode cX3_riseOf 88 = .ok (.getfield 35, 3) := by decide +kernel
theorem dX3_riseOf_91 : decode cX3_riseOf 91 = .ok (.iload_n 1, 1) := by decide +kernel
theorem dX3_riseOf_92 : decode cX3_riseOf 92 = .ok (.iaload, 1) := by decide +kernel
theorem dX3_riseOf_93 : decode cX3_riseOf 93 = .ok (.invokestatic 71, 3) := by decide +kernel
theorem dX3_riseOf_96 : decode cX3_riseOf 96 = .ok (.ireturn, 1) := by decide +kernel
theorem dX3_riseOf_97 : decode cX3_riseOf 97 = .ok (.aload_n 0, 1) := by decide +kernel
theorem dX3_riseOf_98 : decode cX3_riseOf 98 = .ok (.getfield 25, 3) := by decide +kernel
theorem dX3_riseOf_101 : decode cX3_riseOf 101 = .ok (.iconst 5, 1) := by decide +kernel
theorem dX3_riseOf_102 : decode cX3_riseOf 102 = .ok (.irem, 1) := by decide +kernel
theorem dX3_riseOf_103 : decode cX3_riseOf 103 = .ok (.iconst 4, 1) := by decide +kernel
theorem dX3_riseOf_104 : decode cX3_riseOf 104 = .ok (.if_icmp .ne 7, 3) := by decide +kernel
theorem dX3_riseOf_107 : decode cX3_riseOf 107 = .ok (.iconst 1, 1) := by decide +kernel
theorem dX3_riseOf_108 : decode cX3_riseOf 108 = .ok (.goto 4, 3) := by decide +kernel
theorem dX3_riseOf_111 : decode cX3_riseOf 111 = .ok (.iconst 0, 1) := by decide +kernel
theorem dX3_riseOf_112 : decode cX3_riseOf 112 = .ok (.ireturn, 1) := by decide +kernel
theorem dX3_riseOf_113 : decode cX3_riseOf 113 = .ok (.iconst 0, 1) := by decide +kernel
theorem dX3_riseOf_114 : decode cX3_riseOf 114 = .ok (.ireturn, 1) := by decide +kernel
theorem dX3_ironRise_0 : decode cX3_ironRise 0 = .ok (.aload_n 0, 1) := by decide +kernel
theorem dX3_ironRise_1 : decode cX3_ironRise 1 = .ok (.getfield 41, 3) := by decide +kernel
theorem dX3_ironRise_4 : decode cX3_ironRise 4 = .ok (.iload_n 1, 1) := by decide +kernel
theorem dX3_ironRise_5 : decode cX3_ironRise 5 = .ok (.iaload, 1) := by decide +kernel
theorem dX3_ironRise_6 : decode cX3_ironRise 6 = .ok (.ifCond .le 21, 3) := by decide +kernel
theorem dX3_ironRise_9 : decode cX3_ironRise 9 = .ok (.aload_n 0, 1) := by decide +kernel
theorem dX3_ironRise_10 : decode cX3_ironRise 10 = .ok (.getfield 25, 3) := by decide +kernel
theorem dX3_ironRise_13 : decode cX3_ironRise 13 = .ok (.aload_n 0, 1) := by decide +kernel
theorem dX3_ironRise_14 : decode cX3_ironRise 14 = .ok (.getfield 41, 3) := by decide +kernel
theorem dX3_ironRise_17 : decode cX3_ironRise 17 = .ok (.iload_n 1, 1) := by decide +kernel
theorem dX3_ironRise_18 : decode cX3_ironRise 18 = .ok (.iaload, 1) := by decide +kernel
theorem dX3_ironRise_19 : decode cX3_ironRise 19 = .ok (.irem, 1) := by decide +kernel
theorem dX3_ironRise_20 : decode cX3_ironRise 20 = .ok (.ifCond .ne 7, 3) := by decide +kernel
theorem dX3_ironRise_23 : decode cX3_ironRise 23 = .ok (.iconst 1, 1) := by decide +kernel
theorem dX3_ironRise_24 : decode cX3_ironRise 24 = .ok (.goto 4, 3) := by decide +kernel
theorem dX3_ironRise_27 : decode cX3_ironRise 27 = .ok (.iconst 0, 1) := by decide +kernel
theorem dX3_ironRise_28 : decode cX3_ironRise 28 = .ok (.ireturn, 1) := by decide +kernel
theorem dX3_isCovered_0 : decode cX3_isCovered 0 = .ok (.iconst 0, 1) := by decide +kernel
theorem dX3_isCovered_1 : decode cX3_isCovered 1 = .ok (.istore_n 2, 1) := by decide +kernel
theorem dX3_isCovered_2 : decode cX3_isCovered 2 = .ok (.iload_n 2, 1) := by decide +kernel
theorem dX3_isCovered_3 : decode cX3_isCovered 3 = .ok (.aload_n 0, 1) := by decide +kernel
theorem dX3_isCovered_4 : decode cX3_isCovered 4 = .ok (.getfield 15, 3) := by decide +kernel
theorem dX3_isCovered_7 : decode cX3_isCovered 7 = .ok (.if_icmp .ge 50, 3) := by decide +kernel
theorem dX3_isCovered_10 : decode cX3_isCovered 10 = .ok (.aload_n 0, 1) := by decide +kernel
theorem dX3_isCovered_11 : decode cX3_isCovered 11 = .ok (.getfield 35, 3) := by decide +kernel
theorem dX3_isCovered_14 : decode cX3_isCovered 14 = .ok (.iload_n 2, 1) := by decide +kernel
theorem dX3_isCovered_15 : decode cX3_isCovered 15 = .ok (.iaload, 1) := by decide +kernel
theorem dX3_isCovered_16 : decode cX3_isCovered 16 = .ok (.ifCond .le 35, 3) := by decide +kernel
theorem dX3_isCovered_19 : decode cX3_isCovered 19 = .ok (.aload_n 0, 1) := by decide +kernel
theorem dX3_isCovered_20 : decode cX3_isCovered 20 = .ok (.getfield 38, 3) := by decide +kernel
theorem dX3_isCovered_23 : decode cX3_isCovered 23 = .ok (.iload_n 2, 1) := by decide +kernel
theorem dX3_isCovered_24 : decode cX3_isCovered 24 = .ok (.iaload, 1) := by decide +kernel
theorem dX3_isCovered_25 : decode cX3_isCovered 25 = .ok (.aload_n 0, 1) := by decide +kernel
theorem dX3_isCovered_26 : decode cX3_isCovered 26 = .ok (.getfield 38, 3) := by decide +kernel
theorem dX3_isCovered_29 : decode cX3_isCovered 29 = .ok (.iload_n 1, 1) := by decide +kernel
theorem dX3_isCovered_30 : decode cX3_isCovered 30 = .ok (.iaload, 1) := by decide +kernel
theorem dX3_isCovered_31 : decode cX3_isCovered 31 = .ok (.if_icmp .ne 20, 3) := by decide +kernel
theorem dX3_isCovered_34 : decode cX3_isCovered 34 = .ok (.aload_n 0, 1) := by decide +kernel
theorem dX3_isCovered_35 : decode cX3_isCovered 35 = .ok (.getfield 35, 3) := by decide +kernel
theorem dX3_isCovered_38 : decode cX3_isCovered 38 = .ok (.iload_n 2, 1) := by decide +kernel
theorem dX3_isCovered_39 : decode cX3_isCovered 39 = .ok (.iaload, 1) := by decide +kernel
theorem dX3_isCovered_40 : decode cX3_isCovered 40 = .ok (.aload_n 0, 1) := by decide +kernel
theorem dX3_isCovered_41 : decode cX3_isCovered 41 = .ok (.getfield 35, 3) := by decide +kernel
theorem dX3_isCovered_44 : decode cX3_isCovered 44 = .ok (.iload_n 1, 1) := by decide +kernel
theorem dX3_isCovered_45 : decode cX3_isCovered 45 = .ok (.iaload, 1) := by decide +kernel
theorem dX3_isCovered_46 : decode cX3_isCovered 46 = .ok (.if_icmp .ge 5, 3) := by decide +kernel
theorem dX3_isCovered_49 : decode cX3_isCovered 49 = .ok (.iconst 1, 1) := by decide +kernel
theorem dX3_isCovered_50 : decode cX3_isCovered 50 = .ok (.ireturn, 1) := by decide +kernel
theorem dX3_isCovered_51 : decode cX3_isCovered 51 = .ok (.iinc 2 1, 3) := by decide +kernel
theorem dX3_isCovered_54 : decode cX3_isCovered 54 = .ok (.goto (-52), 3) := by decide +kernel
theorem dX3_isCovered_57 : decode cX3_isCovered 57 = .ok (.iconst 0, 1) := by decide +kernel
theorem dX3_isCovered_58 : decode cX3_isCovered 58 = .ok (.ireturn, 1) := by decide +kernel
set_option maxRecDepth 20000 in
theorem ggX3_passYear_X3_riseOf : GoodIn wsX3_passYear wsX3_riseOf := goodIn_r _ [9, 10, 3, 11, 12, 13, 14, 4, 15, 16, 17, 8, 18, 19, 20, 21, 22, 23, 24, 25, 26, 27, 1, 28, 29, 30, 31, 32, 33, 34, 35, 36, 37, 38, 39, 40] (by decide +kernel) (by decide +kernel)
set_option maxRecDepth 20000 in
theorem gX3_passYear_X3_riseOf : GoodIn wsX3_passYear (wsV RX3 75 RX3 yX3_riseOf wsX3_riseOf) := goodIn_app (goodIn_of _ (by decide +kernel)) ggX3_passYear_X3_riseOf
theorem dX3_passYear_0 : decode cX3_passYear 0 = .ok (.iconst 0, 1) := by decide +kernel
theorem dX3_passYear_1 : decode cX3_passYear 1 = .ok (.istore_n 1, 1) := by decide +kernel
theorem dX3_passYear_2 : decode cX3_passYear 2 = .ok (.iconst 0, 1) := by decide +kernel
theorem dX3_passYear_3 : decode cX3_passYear 3 = .ok (.istore_n 2, 1) := by decide +kernel
theorem dX3_passYear_4 : decode cX3_passYear 4 = .ok (.iload_n 2, 1) := by decide +kernel
theorem dX3_passYear_5 : decode cX3_passYear 5 = .ok (.aload_n 0, 1) := by decide +kernel
theorem dX3_passYear_6 : decode cX3_passYear 6 = .ok (.getfield 15, 3) := by decide +kernel
theorem dX3_passYear_9 : decode cX3_passYear 9 = .ok (.if_icmp .ge 20, 3) := by decide +kernel
theorem dX3_passYear_12 : decode cX3_passYear 12 = .ok (.aload_n 0, 1) := by decide +kernel
theorem dX3_passYear_13 : decode cX3_passYear 13 = .ok (.getfield 47, 3) := by decide +kernel
theorem dX3_passYear_16 : decode cX3_passYear 16 = .ok (.iload_n 2, 1) := by decide +kernel
theorem dX3_passYear_17 : decode cX3_passYear 17 = .ok (.aload_n 0, 1) := by decide +kernel
theorem dX3_passYear_18 : decode cX3_passYear 18 = .ok (.iload_n 2, 1) := by decide +kernel
theorem dX3_passYear_19 : decode cX3_passYear 19 = .ok (.invokevirtual 75, 3) := by decide +kernel
theorem dX3_passYear_22 : decode cX3_passYear 22 = .ok (.iastore, 1) := by decide +kernel
theorem dX3_passYear_23 : decode cX3_passYear 23 = .ok (.iinc 2 1, 3) := by decide +kernel
theorem dX3_passYear_26 : decode cX3_passYear 26 = .ok (.goto (-22), 3) := by decide +kernel
theorem dX3_passYear_29 : decode cX3_passYear 29 = .ok (.iconst 0, 1) := by decide +kernel
theorem dX3_passYear_30 : decode cX3_passYear 30 = .ok (.istore_n 2, 1) := by decide +kernel
theorem dX3_passYear_31 : decode cX3_passYear 31 = .ok (.iload_n 2, 1) := by decide +kernel
theorem dX3_passYear_32 : decode cX3_passYear 32 = .ok (.aload_n 0, 1) := by decide +kernel
theorem dX3_passYear_33 : decode cX3_passYear 33 = .ok (.getfield 15, 3) := by decide +kernel
theorem dX3_passYear_36 : decode cX3_passYear 36 = .ok (.if_icmp .ge 35, 3) := by decide +kernel
theorem dX3_passYear_39 : decode cX3_passYear 39 = .ok (.aload_n 0, 1) := by decide +kernel
theorem dX3_passYear_40 : decode cX3_passYear 40 = .ok (.getfield 47, 3) := by decide +kernel
theorem dX3_passYear_43 : decode cX3_passYear 43 = .ok (.iload_n 2, 1) := by decide +kernel
theorem dX3_passYear_44 : decode cX3_passYear 44 = .ok (.iaload, 1) := by decide +kernel
theorem dX3_passYear_45 : decode cX3_passYear 45 = .ok (.ifCond .le 20, 3) := by decide +kernel
theorem dX3_passYear_48 : decode cX3_passYear 48 = .ok (.aload_n 0, 1) := by decide +kernel
theorem dX3_passYear_49 : decode cX3_passYear 49 = .ok (.getfield 35, 3) := by decide +kernel
theorem dX3_passYear_52 : decode cX3_passYear 52 = .ok (.iload_n 2, 1) := by decide +kernel
theorem dX3_passYear_53 : decode cX3_passYear 53 = .ok (.dup2, 1) := by decide +kernel
theorem dX3_passYear_54 : decode cX3_passYear 54 = .ok (.iaload, 1) := by decide +kernel
theorem dX3_passYear_55 : decode cX3_passYear 55 = .ok (.aload_n 0, 1) := by decide +kernel
theorem dX3_passYear_56 : decode cX3_passYear 56 = .ok (.getfield 47, 3) := by decide +kernel
theorem dX3_passYear_59 : decode cX3_passYear 59 = .ok (.iload_n 2, 1) := by decide +kernel
theorem dX3_passYear_60 : decode cX3_passYear 60 = .ok (.iaload, 1) := by decide +kernel
theorem dX3_passYear_61 : decode cX3_passYear 61 = .ok (.isub, 1) := by decide +kernel
theorem dX3_passYear_62 : decode cX3_passYear 62 = .ok (.iastore, 1) := by decide +kernel
theorem dX3_passYear_63 : decode cX3_passYear 63 = .ok (.iconst 1, 1) := by decide +kernel
theorem dX3_passYear_64 : decode cX3_passYear 64 = .ok (.istore_n 1, 1) := by decide +kernel
theorem dX3_passYear_65 : decode cX3_passYear 65 = .ok (.iinc 2 1, 3) := by decide +kernel
theorem dX3_passYear_68 : decode cX3_passYear 68 = .ok (.goto (-37), 3) := by decide +kernel
theorem dX3_passYear_71 : decode cX3_passYear 71 = .ok (.aload_n 0, 1) := by decide +kernel
theorem dX3_passYear_72 : decode cX3_passYear 72 = .ok (.dup, 1) := by decide +kernel
theorem dX3_passYear_73 : decode cX3_passYear 73 = .ok (.getfield 25, 3) := by decide +kernel
theorem dX3_passYear_76 : decode cX3_passYear 76 = .ok (.iconst 1, 1) := by decide +kernel
theorem dX3_passYear_77 : decode cX3_passYear 77 = .ok (.iadd, 1) := by decide +kernel
theorem dX3_passYear_78 : decode cX3_passYear 78 = .ok (.putfield 25, 3) := by decide +kernel
theorem dX3_passYear_81 : decode cX3_passYear 81 = .ok (.iload_n 1, 1) := by decide +kernel
theorem dX3_passYear_82 : decode cX3_passYear 82 = .ok (.ireturn, 1) := by decide +kernel
theorem dX3_knownTo_0 : decode cX3_knownTo 0 = .ok (.iconst 0, 1) := by decide +kernel
theorem dX3_knownTo_1 : decode cX3_knownTo 1 = .ok (.istore_n 2, 1) := by decide +kernel
theorem dX3_knownTo_2 : decode cX3_knownTo 2 = .ok (.iconst 0, 1) := by decide +kernel
theorem dX3_knownTo_3 : decode cX3_knownTo 3 = .ok (.istore_n 3, 1) := by decide +kernel
theorem dX3_knownTo_4 : decode cX3_knownTo 4 = .ok (.iload_n 3, 1) := by decide +kernel
theorem dX3_knownTo_5 : decode cX3_knownTo 5 = .ok (.aload_n 0, 1) := by decide +kernel
theorem dX3_knownTo_6 : decode cX3_knownTo 6 = .ok (.getfield 15, 3) := by decide +kernel
theorem dX3_knownTo_9 : decode cX3_knownTo 9 = .ok (.if_icmp .ge 24, 3) := by decide +kernel
theorem dX3_knownTo_12 : decode cX3_knownTo 12 = .ok (.iload_n 2, 1) := by decide +kernel
theorem dX3_knownTo_13 : decode cX3_knownTo 13 = .ok (.aload_n 0, 1) := by decide +kernel
theorem dX3_knownTo_14 : decode cX3_knownTo 14 = .ok (.getfield 44, 3) := by decide +kernel
theorem dX3_knownTo_17 : decode cX3_knownTo 17 = .ok (.iload_n 3, 1) := by decide +kernel
theorem dX3_knownTo_18 : decode cX3_knownTo 18 = .ok (.iaload, 1) := by decide +kernel
theorem dX3_knownTo_19 : decode cX3_knownTo 19 = .ok (.iload_n 1, 1) := by decide +kernel
theorem dX3_knownTo_20 : decode cX3_knownTo 20 = .ok (.ishr, 1) := by decide +kernel
theorem dX3_knownTo_21 : decode cX3_knownTo 21 = .ok (.iconst 1, 1) := by decide +kernel
theorem dX3_knownTo_22 : decode cX3_knownTo 22 = .ok (.iand, 1) := by decide +kernel
theorem dX3_knownTo_23 : decode cX3_knownTo 23 = .ok (.iload_n 3, 1) := by decide +kernel
theorem dX3_knownTo_24 : decode cX3_knownTo 24 = .ok (.ishl, 1) := by decide +kernel
theorem dX3_knownTo_25 : decode cX3_knownTo 25 = .ok (.ior, 1) := by decide +kernel
theorem dX3_knownTo_26 : decode cX3_knownTo 26 = .ok (.istore_n 2, 1) := by decide +kernel
theorem dX3_knownTo_27 : decode cX3_knownTo 27 = .ok (.iinc 3 1, 3) := by decide +kernel
theorem dX3_knownTo_30 : decode cX3_knownTo 30 = .ok (.goto (-26), 3) := by decide +kernel
theorem dX3_knownTo_33 : decode cX3_knownTo 33 = .ok (.iload_n 2, 1) := by decide +kernel
theorem dX3_knownTo_34 : decode cX3_knownTo 34 = .ok (.ireturn, 1) := by decide +kernel
set_option maxRecDepth 20000 in
theorem ggX3_fewestWhoKnowAll_X3_allKnownTo : GoodIn wsX3_fewestWhoKnowAll wsX3_allKnownTo := goodIn_r _ [7, 8, 9, 17, 18, 19, 20, 21, 22, 23, 24, 25, 26, 27, 28] (by decide +kernel) (by decide +kernel)
set_option maxRecDepth 20000 in
theorem gX3_fewestWhoKnowAll_X3_allKnownTo : GoodIn wsX3_fewestWhoKnowAll (wsV RX3 78 RX3 yX3_allKnownTo wsX3_allKnownTo) := goodIn_app (goodIn_of _ (by decide +kernel)) ggX3_fewestWhoKnowAll_X3_allKnownTo
set_option maxRecDepth 20000 in
theorem ggX3_fewestWhoKnowAll_J6_bitCount_0f7a4 : GoodIn wsX3_fewestWhoKnowAll wsJ6_bitCount_0f7a4 := goodIn_r _ [13, 14, 15, 16] (by decide +kernel) (by decide +kernel)
set_option maxRecDepth 20000 in
theorem gX3_fewestWhoKnowAll_J6_bitCount_0f7a4 : GoodIn wsX3_fewestWhoKnowAll (va_wsS RX3 81 yJ6_bitCount_0f7a4 wsJ6_bitCount_0f7a4) := goodIn_app (goodIn_of _ (by decide +kernel)) ggX3_fewestWhoKnowAll_J6_bitCount_0f7a4
theorem dX3_fewestWhoKnowAll_0 : decode cX3_fewestWhoKnowAll 0 = .ok (.ldc 64, 2) := by decide +kernel
theorem dX3_fewestWhoKnowAll_2 : decode cX3_fewestWhoKnowAll 2 = .ok (.istore_n 1, 1) := by decide +kernel
theorem dX3_fewestWhoKnowAll_3 : decode cX3_fewestWhoKnowAll 3 = .ok (.iconst 0, 1) := by decide +kernel
theorem dX3_fewestWhoKnowAll_4 : decode cX3_fewestWhoKnowAll 4 = .ok (.istore_n 2, 1) := by decide +kernel
theorem dX3_fewestWhoKnowAll_5 : decode cX3_fewestWhoKnowAll 5 = .ok (.iload_n 2, 1) := by decide +kernel
theorem dX3_fewestWhoKnowAll_6 : decode cX3_fewestWhoKnowAll 6 = .ok (.iconst 1, 1) := by decide +kernel
theorem dX3_fewestWhoKnowAll_7 : decode cX3_fewestWhoKnowAll 7 = .ok (.aload_n 0, 1) := by decide +kernel
theorem dX3_fewestWhoKnowAll_8 : decode cX3_fewestWhoKnowAll 8 = .ok (.getfield 19, 3) := by decide +kernel
theorem dX3_fewestWhoKnowAll_11 : decode cX3_fewestWhoKnowAll 11 = .ok (.ishl, 1) := by decide +kernel
theorem dX3_fewestWhoKnowAll_12 : decode cX3_fewestWhoKnowAll 12 = .ok (.if_icmp .ge 36, 3) := by decide +kernel
theorem dX3_fewestWhoKnowAll_15 : decode cX3_fewestWhoKnowAll 15 = .ok (.aload_n 0, 1) := by decide +kernel
theorem dX3_fewestWhoKnowAll_16 : decode cX3_fewestWhoKnowAll 16 = .ok (.iload_n 2, 1) := by decide +kernel
theorem dX3_fewestWhoKnowAll_17 : decode cX3_fewestWhoKnowAll 17 = .ok (.invokevirtual 78, 3) := by decide +kernel
theorem dX3_fewestWhoKnowAll_20 : decode cX3_fewestWhoKnowAll 20 = .ok (.ifCond .eq 22, 3) := by decide +kernel
theorem dX3_fewestWhoKnowAll_23 : decode cX3_fewestWhoKnowAll 23 = .ok (.iload_n 1, 1) := by decide +kernel
theorem dX3_fewestWhoKnowAll_24 : decode cX3_fewestWhoKnowAll 24 = .ok (.ldc 64, 2) := by decide +kernel
theorem dX3_fewestWhoKnowAll_26 : decode cX3_fewestWhoKnowAll 26 = .ok (.if_icmp .eq 14, 3) := by decide +kernel
theorem dX3_fewestWhoKnowAll_29 : decode cX3_fewestWhoKnowAll 29 = .ok (.iload_n 2, 1) := by decide +kernel
theorem dX3_fewestWhoKnowAll_30 : decode cX3_fewestWhoKnowAll 30 = .ok (.invokestatic 81, 3) := by decide +kernel
theorem dX3_fewestWhoKnowAll_33 : decode cX3_fewestWhoKnowAll 33 = .ok (.iload_n 1, 1) := by decide +kernel
theorem dX3_fewestWhoKnowAll_34 : decode cX3_fewestWhoKnowAll 34 = .ok (.invokestatic 81, 3) := by decide +kernel
theorem dX3_fewestWhoKnowAll_37 : decode cX3_fewestWhoKnowAll 37 = .ok (.if_icmp .ge 5, 3) := by decide +kernel
theorem dX3_fewestWhoKnowAll_40 : decode cX3_fewestWhoKnowAll 40 = .ok (.iload_n 2, 1) := by decide +kernel
theorem dX3_fewestWhoKnowAll_41 : decode cX3_fewestWhoKnowAll 41 = .ok (.istore_n 1, 1) := by decide +kernel
end
section
theorem dX3_fewestWhoKnowAll_42 : decode cX3_fewestWhoKnowAll 42 = .ok (.iinc 2 1, 3) := by decide +kernel
theorem dX3_fewestWhoKnowAll_45 : decode cX3_fewestWhoKnowAll 45 = .ok (.goto (-40), 3) := by decide +kernel
theorem dX3_fewestWhoKnowAll_48 : decode cX3_fewestWhoKnowAll 48 = .ok (.iload_n 1, 1) := by decide +kernel
theorem dX3_fewestWhoKnowAll_49 : decode cX3_fewestWhoKnowAll 49 = .ok (.ireturn, 1) := by decide +kernel
theorem dX3_allKnownTo_0 : decode cX3_allKnownTo 0 = .ok (.iconst 0, 1) := by decide +kernel
theorem dX3_allKnownTo_1 : decode cX3_allKnownTo 1 = .ok (.istore_n 2, 1) := by decide +kernel
theorem dX3_allKnownTo_2 : decode cX3_allKnownTo 2 = .ok (.iload_n 2, 1) := by decide +kernel
theorem dX3_allKnownTo_3 : decode cX3_allKnownTo 3 = .ok (.aload_n 0, 1) := by decide +kernel
theorem dX3_allKnownTo_4 : decode cX3_allKnownTo 4 = .ok (.getfield 15, 3) := by decide +kernel
theorem dX3_allKnownTo_7 : decode cX3_allKnownTo 7 = .ok (.if_icmp .ge 22, 3) := by decide +kernel
theorem dX3_allKnownTo_10 : decode cX3_allKnownTo 10 = .ok (.aload_n 0, 1) := by decide +kernel
theorem dX3_allKnownTo_11 : decode cX3_allKnownTo 11 = .ok (.getfield 44, 3) := by decide +kernel
theorem dX3_allKnownTo_14 : decode cX3_allKnownTo 14 = .ok (.iload_n 2, 1) := by decide +kernel
theorem dX3_allKnownTo_15 : decode cX3_allKnownTo 15 = .ok (.iaload, 1) := by decide +kernel
theorem dX3_allKnownTo_16 : decode cX3_allKnownTo 16 = .ok (.iload_n 1, 1) := by decide +kernel
theorem dX3_allKnownTo_17 : decode cX3_allKnownTo 17 = .ok (.iand, 1) := by decide +kernel
theorem dX3_allKnownTo_18 : decode cX3_allKnownTo 18 = .ok (.ifCond .ne 5, 3) := by decide +kernel
theorem dX3_allKnownTo_21 : decode cX3_allKnownTo 21 = .ok (.iconst 0, 1) := by decide +kernel
theorem dX3_allKnownTo_22 : decode cX3_allKnownTo 22 = .ok (.ireturn, 1) := by decide +kernel
theorem dX3_allKnownTo_23 : decode cX3_allKnownTo 23 = .ok (.iinc 2 1, 3) := by decide +kernel
theorem dX3_allKnownTo_26 : decode cX3_allKnownTo 26 = .ok (.goto (-24), 3) := by decide +kernel
theorem dX3_allKnownTo_29 : decode cX3_allKnownTo 29 = .ok (.iconst 1, 1) := by decide +kernel
theorem dX3_allKnownTo_30 : decode cX3_allKnownTo 30 = .ok (.ireturn, 1) := by decide +kernel
theorem dX3_countHalves_0 : decode cX3_countHalves 0 = .ok (.iconst 0, 1) := by decide +kernel
theorem dX3_countHalves_1 : decode cX3_countHalves 1 = .ok (.istore_n 1, 1) := by decide +kernel
theorem dX3_countHalves_2 : decode cX3_countHalves 2 = .ok (.iconst 0, 1) := by decide +kernel
theorem dX3_countHalves_3 : decode cX3_countHalves 3 = .ok (.istore_n 2, 1) := by decide +kernel
theorem dX3_countHalves_4 : decode cX3_countHalves 4 = .ok (.iload_n 2, 1) := by decide +kernel
theorem dX3_countHalves_5 : decode cX3_countHalves 5 = .ok (.aload_n 0, 1) := by decide +kernel
theorem dX3_countHalves_6 : decode cX3_countHalves 6 = .ok (.getfield 15, 3) := by decide +kernel
theorem dX3_countHalves_9 : decode cX3_countHalves 9 = .ok (.if_icmp .ge 46, 3) := by decide +kernel
theorem dX3_countHalves_12 : decode cX3_countHalves 12 = .ok (.iload_n 2, 1) := by decide +kernel
theorem dX3_countHalves_13 : decode cX3_countHalves 13 = .ok (.iconst 1, 1) := by decide +kernel
theorem dX3_countHalves_14 : decode cX3_countHalves 14 = .ok (.iadd, 1) := by decide +kernel
theorem dX3_countHalves_15 : decode cX3_countHalves 15 = .ok (.istore_n 3, 1) := by decide +kernel
theorem dX3_countHalves_16 : decode cX3_countHalves 16 = .ok (.iload_n 3, 1) := by decide +kernel
theorem dX3_countHalves_17 : decode cX3_countHalves 17 = .ok (.aload_n 0, 1) := by decide +kernel
theorem dX3_countHalves_18 : decode cX3_countHalves 18 = .ok (.getfield 15, 3) := by decide +kernel
theorem dX3_countHalves_21 : decode cX3_countHalves 21 = .ok (.if_icmp .ge 28, 3) := by decide +kernel
theorem dX3_countHalves_24 : decode cX3_countHalves 24 = .ok (.aload_n 0, 1) := by decide +kernel
theorem dX3_countHalves_25 : decode cX3_countHalves 25 = .ok (.getfield 44, 3) := by decide +kernel
theorem dX3_countHalves_28 : decode cX3_countHalves 28 = .ok (.iload_n 2, 1) := by decide +kernel
theorem dX3_countHalves_29 : decode cX3_countHalves 29 = .ok (.iaload, 1) := by decide +kernel
theorem dX3_countHalves_30 : decode cX3_countHalves 30 = .ok (.aload_n 0, 1) := by decide +kernel
theorem dX3_countHalves_31 : decode cX3_countHalves 31 = .ok (.getfield 44, 3) := by decide +kernel
theorem dX3_countHalves_34 : decode cX3_countHalves 34 = .ok (.iload_n 3, 1) := by decide +kernel
theorem dX3_countHalves_35 : decode cX3_countHalves 35 = .ok (.iaload, 1) := by decide +kernel
theorem dX3_countHalves_36 : decode cX3_countHalves 36 = .ok (.iand, 1) := by decide +kernel
theorem dX3_countHalves_37 : decode cX3_countHalves 37 = .ok (.ifCond .eq 6, 3) := by decide +kernel
theorem dX3_countHalves_40 : decode cX3_countHalves 40 = .ok (.iinc 1 1, 3) := by decide +kernel
theorem dX3_countHalves_43 : decode cX3_countHalves 43 = .ok (.iinc 3 1, 3) := by decide +kernel
theorem dX3_countHalves_46 : decode cX3_countHalves 46 = .ok (.goto (-30), 3) := by decide +kernel
theorem dX3_countHalves_49 : decode cX3_countHalves 49 = .ok (.iinc 2 1, 3) := by decide +kernel
theorem dX3_countHalves_52 : decode cX3_countHalves 52 = .ok (.goto (-48), 3) := by decide +kernel
theorem dX3_countHalves_55 : decode cX3_countHalves 55 = .ok (.iload_n 1, 1) := by decide +kernel
theorem dX3_countHalves_56 : decode cX3_countHalves 56 = .ok (.ireturn, 1) := by decide +kernel
theorem dX3_firstHalves_0 : decode cX3_firstHalves 0 = .ok (.iconst 0, 1) := by decide +kernel
theorem dX3_firstHalves_1 : decode cX3_firstHalves 1 = .ok (.istore_n 1, 1) := by decide +kernel
theorem dX3_firstHalves_2 : decode cX3_firstHalves 2 = .ok (.iload_n 1, 1) := by decide +kernel
theorem dX3_firstHalves_3 : decode cX3_firstHalves 3 = .ok (.aload_n 0, 1) := by decide +kernel
theorem dX3_firstHalves_4 : decode cX3_firstHalves 4 = .ok (.getfield 15, 3) := by decide +kernel
theorem dX3_firstHalves_7 : decode cX3_firstHalves 7 = .ok (.if_icmp .ge 50, 3) := by decide +kernel
theorem dX3_firstHalves_10 : decode cX3_firstHalves 10 = .ok (.iload_n 1, 1) := by decide +kernel
theorem dX3_firstHalves_11 : decode cX3_firstHalves 11 = .ok (.iconst 1, 1) := by decide +kernel
theorem dX3_firstHalves_12 : decode cX3_firstHalves 12 = .ok (.iadd, 1) := by decide +kernel
theorem dX3_firstHalves_13 : decode cX3_firstHalves 13 = .ok (.istore_n 2, 1) := by decide +kernel
theorem dX3_firstHalves_14 : decode cX3_firstHalves 14 = .ok (.iload_n 2, 1) := by decide +kernel
theorem dX3_firstHalves_15 : decode cX3_firstHalves 15 = .ok (.aload_n 0, 1) := by decide +kernel
theorem dX3_firstHalves_16 : decode cX3_firstHalves 16 = .ok (.getfield 15, 3) := by decide +kernel
theorem dX3_firstHalves_19 : decode cX3_firstHalves 19 = .ok (.if_icmp .ge 32, 3) := by decide +kernel
theorem dX3_firstHalves_22 : decode cX3_firstHalves 22 = .ok (.aload_n 0, 1) := by decide +kernel
theorem dX3_firstHalves_23 : decode cX3_firstHalves 23 = .ok (.getfield 44, 3) := by decide +kernel
theorem dX3_firstHalves_26 : decode cX3_firstHalves 26 = .ok (.iload_n 1, 1) := by decide +kernel
theorem dX3_firstHalves_27 : decode cX3_firstHalves 27 = .ok (.iaload, 1) := by decide +kernel
theorem dX3_firstHalves_28 : decode cX3_firstHalves 28 = .ok (.aload_n 0, 1) := by decide +kernel
theorem dX3_firstHalves_29 : decode cX3_firstHalves 29 = .ok (.getfield 44, 3) := by decide +kernel
theorem dX3_firstHalves_32 : decode cX3_firstHalves 32 = .ok (.iload_n 2, 1) := by decide +kernel
theorem dX3_firstHalves_33 : decode cX3_firstHalves 33 = .ok (.iaload, 1) := by decide +kernel
theorem dX3_firstHalves_34 : decode cX3_firstHalves 34 = .ok (.iand, 1) := by decide +kernel
theorem dX3_firstHalves_35 : decode cX3_firstHalves 35 = .ok (.ifCond .eq 10, 3) := by decide +kernel
theorem dX3_firstHalves_38 : decode cX3_firstHalves 38 = .ok (.bipush 10, 2) := by decide +kernel
theorem dX3_firstHalves_40 : decode cX3_firstHalves 40 = .ok (.iload_n 1, 1) := by decide +kernel
theorem dX3_firstHalves_41 : decode cX3_firstHalves 41 = .ok (.imul, 1) := by decide +kernel
theorem dX3_firstHalves_42 : decode cX3_firstHalves 42 = .ok (.iload_n 2, 1) := by decide +kernel
theorem dX3_firstHalves_43 : decode cX3_firstHalves 43 = .ok (.iadd, 1) := by decide +kernel
theorem dX3_firstHalves_44 : decode cX3_firstHalves 44 = .ok (.ireturn, 1) := by decide +kernel
theorem dX3_firstHalves_45 : decode cX3_firstHalves 45 = .ok (.iinc 2 1, 3) := by decide +kernel
theorem dX3_firstHalves_48 : decode cX3_firstHalves 48 = .ok (.goto (-34), 3) := by decide +kernel
theorem dX3_firstHalves_51 : decode cX3_firstHalves 51 = .ok (.iinc 1 1, 3) := by decide +kernel
theorem dX3_firstHalves_54 : decode cX3_firstHalves 54 = .ok (.goto (-52), 3) := by decide +kernel
theorem dX3_firstHalves_57 : decode cX3_firstHalves 57 = .ok (.ldc 64, 2) := by decide +kernel
theorem dX3_firstHalves_59 : decode cX3_firstHalves 59 = .ok (.ireturn, 1) := by decide +kernel
theorem dX4_init_0 : decode cX4_init 0 = .ok (.aload_n 0, 1) := by decide +kernel
theorem dX4_init_1 : decode cX4_init 1 = .ok (.invokespecial 3, 3) := by decide +kernel
theorem dX4_init_4 : decode cX4_init 4 = .ok (.aload_n 0, 1) := by decide +kernel
theorem dX4_init_5 : decode cX4_init 5 = .ok (.bipush 8, 2) := by decide +kernel
theorem dX4_init_7 : decode cX4_init 7 = .ok (.bipush 40, 2) := by decide +kernel
theorem dX4_init_9 : decode cX4_init 9 = .ok (.multianewarray 9 2, 4) := by decide +kernel
theorem dX4_init_13 : decode cX4_init 13 = .ok (.putfield 11, 3) := by decide +kernel
theorem dX4_init_16 : decode cX4_init 16 = .ok (.aload_n 0, 1) := by decide +kernel
theorem dX4_init_17 : decode cX4_init 17 = .ok (.bipush 8, 2) := by decide +kernel
theorem dX4_init_19 : decode cX4_init 19 = .ok (.newarray .int, 2) := by decide +kernel
theorem dX4_init_21 : decode cX4_init 21 = .ok (.putfield 16, 3) := by decide +kernel
theorem dX4_init_24 : decode cX4_init 24 = .ok (.aload_n 0, 1) := by decide +kernel
theorem dX4_init_25 : decode cX4_init 25 = .ok (.bipush 8, 2) := by decide +kernel
theorem dX4_init_27 : decode cX4_init 27 = .ok (.newarray .int, 2) := by decide +kernel
theorem dX4_init_29 : decode cX4_init 29 = .ok (.putfield 20, 3) := by decide +kernel
theorem dX4_init_32 : decode cX4_init 32 = .ok (.iconst 0, 1) := by decide +kernel
theorem dX4_init_33 : decode cX4_init 33 = .ok (.istore_n 1, 1) := by decide +kernel
theorem dX4_init_34 : decode cX4_init 34 = .ok (.iload_n 1, 1) := by decide +kernel
theorem dX4_init_35 : decode cX4_init 35 = .ok (.bipush 8, 2) := by decide +kernel
theorem dX4_init_37 : decode cX4_init 37 = .ok (.if_icmp .ge 16, 3) := by decide +kernel
theorem dX4_init_40 : decode cX4_init 40 = .ok (.aload_n 0, 1) := by decide +kernel
theorem dX4_init_41 : decode cX4_init 41 = .ok (.getfield 20, 3) := by decide +kernel
theorem dX4_init_44 : decode cX4_init 44 = .ok (.iload_n 1, 1) := by decide +kernel
theorem dX4_init_45 : decode cX4_init 45 = .ok (.iconst (-1), 1) := by decide +kernel
theorem dX4_init_46 : decode cX4_init 46 = .ok (.iastore, 1) := by decide +kernel
theorem dX4_init_47 : decode cX4_init 47 = .ok (.iinc 1 1, 3) := by decide +kernel
theorem dX4_init_50 : decode cX4_init 50 = .ok (.goto (-16), 3) := by decide +kernel
theorem dX4_init_53 : decode cX4_init 53 = .ok (.return_, 1) := by decide +kernel
theorem dX4_isMissing_0 : decode cX4_isMissing 0 = .ok (.aload_n 0, 1) := by decide +kernel
theorem dX4_isMissing_1 : decode cX4_isMissing 1 = .ok (.getfield 20, 3) := by decide +kernel
theorem dX4_isMissing_4 : decode cX4_isMissing 4 = .ok (.iload_n 1, 1) := by decide +kernel
theorem dX4_isMissing_5 : decode cX4_isMissing 5 = .ok (.iaload, 1) := by decide +kernel
theorem dX4_isMissing_6 : decode cX4_isMissing 6 = .ok (.iconst (-1), 1) := by decide +kernel
theorem dX4_isMissing_7 : decode cX4_isMissing 7 = .ok (.if_icmp .ne 7, 3) := by decide +kernel
theorem dX4_isMissing_10 : decode cX4_isMissing 10 = .ok (.iconst 1, 1) := by decide +kernel
theorem dX4_isMissing_11 : decode cX4_isMissing 11 = .ok (.goto 4, 3) := by decide +kernel
theorem dX4_isMissing_14 : decode cX4_isMissing 14 = .ok (.iconst 0, 1) := by decide +kernel
theorem dX4_isMissing_15 : decode cX4_isMissing 15 = .ok (.ireturn, 1) := by decide +kernel
theorem dX4_hasRun_0 : decode cX4_hasRun 0 = .ok (.iload_n 2, 1) := by decide +kernel
theorem dX4_hasRun_1 : decode cX4_hasRun 1 = .ok (.ifCond .lt 33, 3) := by decide +kernel
theorem dX4_hasRun_4 : decode cX4_hasRun 4 = .ok (.iload_n 3, 1) := by decide +kernel
theorem dX4_hasRun_5 : decode cX4_hasRun 5 = .ok (.ifCond .lt 29, 3) := by decide +kernel
theorem dX4_hasRun_8 : decode cX4_hasRun 8 = .ok (.iload_n 2, 1) := by decide +kernel
theorem dX4_hasRun_9 : decode cX4_hasRun 9 = .ok (.aload_n 0, 1) := by decide +kernel
theorem dX4_hasRun_10 : decode cX4_hasRun 10 = .ok (.getfield 20, 3) := by decide +kernel
theorem dX4_hasRun_13 : decode cX4_hasRun 13 = .ok (.iload_n 1, 1) := by decide +kernel
theorem dX4_hasRun_14 : decode cX4_hasRun 14 = .ok (.iaload, 1) := by decide +kernel
theorem dX4_hasRun_15 : decode cX4_hasRun 15 = .ok (.if_icmp .gt 19, 3) := by decide +kernel
theorem dX4_hasRun_18 : decode cX4_hasRun 18 = .ok (.iload_n 3, 1) := by decide +kernel
theorem dX4_hasRun_19 : decode cX4_hasRun 19 = .ok (.aload_n 0, 1) := by decide +kernel
theorem dX4_hasRun_20 : decode cX4_hasRun 20 = .ok (.getfield 20, 3) := by decide +kernel
theorem dX4_hasRun_23 : decode cX4_hasRun 23 = .ok (.iload_n 1, 1) := by decide +kernel
theorem dX4_hasRun_24 : decode cX4_hasRun 24 = .ok (.iaload, 1) := by decide +kernel
theorem dX4_hasRun_25 : decode cX4_hasRun 25 = .ok (.iload_n 2, 1) := by decide +kernel
theorem dX4_hasRun_26 : decode cX4_hasRun 26 = .ok (.isub, 1) := by decide +kernel
theorem dX4_hasRun_27 : decode cX4_hasRun 27 = .ok (.if_icmp .gt 7, 3) := by decide +kernel
theorem dX4_hasRun_30 : decode cX4_hasRun 30 = .ok (.iconst 1, 1) := by decide +kernel
theorem dX4_hasRun_31 : decode cX4_hasRun 31 = .ok (.goto 4, 3) := by decide +kernel
theorem dX4_hasRun_34 : decode cX4_hasRun 34 = .ok (.iconst 0, 1) := by decide +kernel
theorem dX4_hasRun_35 : decode cX4_hasRun 35 = .ok (.ireturn, 1) := by decide +kernel
theorem dX4_makeAnew_0 : decode cX4_makeAnew 0 = .ok (.aload_n 0, 1) := by decide +kernel
theorem dX4_makeAnew_1 : decode cX4_makeAnew 1 = .ok (.getfield 16, 3) := by decide +kernel
theorem dX4_makeAnew_4 : decode cX4_makeAnew 4 = .ok (.iload_n 1, 1) := by decide +kernel
theorem dX4_makeAnew_5 : decode cX4_makeAnew 5 = .ok (.iload_n 2, 1) := by decide +kernel
theorem dX4_makeAnew_6 : decode cX4_makeAnew 6 = .ok (.iastore, 1) := by decide +kernel
theorem dX4_makeAnew_7 : decode cX4_makeAnew 7 = .ok (.aload_n 0, 1) := by decide +kernel
theorem dX4_makeAnew_8 : decode cX4_makeAnew 8 = .ok (.getfield 20, 3) := by decide +kernel
theorem dX4_makeAnew_11 : decode cX4_makeAnew 11 = .ok (.iload_n 1, 1) := by decide +kernel
theorem dX4_makeAnew_12 : decode cX4_makeAnew 12 = .ok (.iload_n 3, 1) := by decide +kernel
theorem dX4_makeAnew_13 : decode cX4_makeAnew 13 = .ok (.iastore, 1) := by decide +kernel
theorem dX4_makeAnew_14 : decode cX4_makeAnew 14 = .ok (.iconst 0, 1) := by decide +kernel
theorem dX4_makeAnew_15 : decode cX4_makeAnew 15 = .ok (.istore 4, 2) := by decide +kernel
theorem dX4_makeAnew_17 : decode cX4_makeAnew 17 = .ok (.iload 4, 2) := by decide +kernel
theorem dX4_makeAnew_19 : decode cX4_makeAnew 19 = .ok (.iload_n 3, 1) := by decide +kernel
theorem dX4_makeAnew_20 : decode cX4_makeAnew 20 = .ok (.if_icmp .ge 19, 3) := by decide +kernel
theorem dX4_makeAnew_23 : decode cX4_makeAnew 23 = .ok (.aload_n 0, 1) := by decide +kernel
theorem dX4_makeAnew_24 : decode cX4_makeAnew 24 = .ok (.getfield 11, 3) := by decide +kernel
theorem dX4_makeAnew_27 : decode cX4_makeAnew 27 = .ok (.iload_n 1, 1) := by decide +kernel
theorem dX4_makeAnew_28 : decode cX4_makeAnew 28 = .ok (.aaload, 1) := by decide +kernel
theorem dX4_makeAnew_29 : decode cX4_makeAnew 29 = .ok (.iload 4, 2) := by decide +kernel
theorem dX4_makeAnew_31 : decode cX4_makeAnew 31 = .ok (.iconst 0, 1) := by decide +kernel
theorem dX4_makeAnew_32 : decode cX4_makeAnew 32 = .ok (.iastore, 1) := by decide +kernel
theorem dX4_makeAnew_33 : decode cX4_makeAnew 33 = .ok (.iinc 4 1, 3) := by decide +kernel
theorem dX4_makeAnew_36 : decode cX4_makeAnew 36 = .ok (.goto (-19), 3) := by decide +kernel
theorem dX4_makeAnew_39 : decode cX4_makeAnew 39 = .ok (.return_, 1) := by decide +kernel
theorem dX4_put_0 : decode cX4_put 0 = .ok (.iload_n 3, 1) := by decide +kernel
theorem dX4_put_1 : decode cX4_put 1 = .ok (.istore 4, 2) := by decide +kernel
theorem dX4_put_3 : decode cX4_put 3 = .ok (.aload_n 0, 1) := by decide +kernel
theorem dX4_put_4 : decode cX4_put 4 = .ok (.getfield 16, 3) := by decide +kernel
theorem dX4_put_7 : decode cX4_put 7 = .ok (.iload_n 1, 1) := by decide +kernel
theorem dX4_put_8 : decode cX4_put 8 = .ok (.iaload, 1) := by decide +kernel
theorem dX4_put_9 : decode cX4_put 9 = .ok (.ifCond .ne 10, 3) := by decide +kernel
theorem dX4_put_12 : decode cX4_put 12 = .ok (.iload_n 3, 1) := by decide +kernel
theorem dX4_put_13 : decode cX4_put 13 = .ok (.i2b, 1) := by decide +kernel
theorem dX4_put_14 : decode cX4_put 14 = .ok (.istore 4, 2) := by decide +kernel
theorem dX4_put_16 : decode cX4_put 16 = .ok (.goto 17, 3) := by decide +kernel
theorem dX4_put_19 : decode cX4_put 19 = .ok (.aload_n 0, 1) := by decide +kernel
theorem dX4_put_20 : decode cX4_put 20 = .ok (.getfield 16, 3) := by decide +kernel
theorem dX4_put_23 : decode cX4_put 23 = .ok (.iload_n 1, 1) := by decide +kernel
theorem dX4_put_24 : decode cX4_put 24 = .ok (.iaload, 1) := by decide +kernel
theorem dX4_put_25 : decode cX4_put 25 = .ok (.iconst 1, 1) := by decide +kernel
theorem dX4_put_26 : decode cX4_put 26 = .ok (.if_icmp .ne 7, 3) := by decide +kernel
theorem dX4_put_29 : decode cX4_put 29 = .ok (.iload_n 3, 1) := by decide +kernel
theorem dX4_put_30 : decode cX4_put 30 = .ok (.i2s, 1) := by decide +kernel
theorem dX4_put_31 : decode cX4_put 31 = .ok (.istore 4, 2) := by decide +kernel
theorem dX4_put_33 : decode cX4_put 33 = .ok (.aload_n 0, 1) := by decide +kernel
theorem dX4_put_34 : decode cX4_put 34 = .ok (.getfield 11, 3) := by decide +kernel
theorem dX4_put_37 : decode cX4_put 37 = .ok (.iload_n 1, 1) := by decide +kernel
theorem dX4_put_38 : decode cX4_put 38 = .ok (.aaload, 1) := by decide +kernel
theorem dX4_put_39 : decode cX4_put 39 = .ok (.iload_n 2, 1) := by decide +kernel
theorem dX4_put_40 : decode cX4_put 40 = .ok (.iload 4, 2) := by decide +kernel
theorem dX4_put_42 : decode cX4_put 42 = .ok (.iastore, 1) := by decide +kernel
theorem dX4_put_43 : decode cX4_put 43 = .ok (.iload 4, 2) := by decide +kernel
theorem dX4_put_45 : decode cX4_put 45 = .ok (.ireturn, 1) := by decide +kernel
theorem dX4_readRun_0 : decode cX4_readRun 0 = .ok (.iconst 0, 1) := by decide +kernel
theorem dX4_readRun_1 : decode cX4_readRun 1 = .ok (.istore 5, 2) := by decide +kernel
theorem dX4_readRun_3 : decode cX4_readRun 3 = .ok (.iload 5, 2) := by decide +kernel
theorem dX4_readRun_5 : decode cX4_readRun 5 = .ok (.iload_n 3, 1) := by decide +kernel
theorem dX4_readRun_6 : decode cX4_readRun 6 = .ok (.if_icmp .ge 25, 3) := by decide +kernel
theorem dX4_readRun_9 : decode cX4_readRun 9 = .ok (.aload 4, 2) := by decide +kernel
theorem dX4_readRun_11 : decode cX4_readRun 11 = .ok (.iload 5, 2) := by decide +kernel
theorem dX4_readRun_13 : decode cX4_readRun 13 = .ok (.aload_n 0, 1) := by decide +kernel
theorem dX4_readRun_14 : decode cX4_readRun 14 = .ok (.getfield 11, 3) := by decide +kernel
theorem dX4_readRun_17 : decode cX4_readRun 17 = .ok (.iload_n 1, 1) := by decide +kernel
theorem dX4_readRun_18 : decode cX4_readRun 18 = .ok (.aaload, 1) := by decide +kernel
theorem dX4_readRun_19 : decode cX4_readRun 19 = .ok (.iload_n 2, 1) := by decide +kernel
theorem dX4_readRun_20 : decode cX4_readRun 20 = .ok (.iload 5, 2) := by decide +kernel
theorem dX4_readRun_22 : decode cX4_readRun 22 = .ok (.iadd, 1) := by decide +kernel
theorem dX4_readRun_23 : decode cX4_readRun 23 = .ok (.iaload, 1) := by decide +kernel
theorem dX4_readRun_24 : decode cX4_readRun 24 = .ok (.iastore, 1) := by decide +kernel
theorem dX4_readRun_25 : decode cX4_readRun 25 = .ok (.iinc 5 1, 3) := by decide +kernel
theorem dX4_readRun_28 : decode cX4_readRun 28 = .ok (.goto (-25), 3) := by decide +kernel
theorem dX4_readRun_31 : decode cX4_readRun 31 = .ok (.return_, 1) := by decide +kernel
set_option maxRecDepth 20000 in
theorem ggX4_countThere_X4_isMissing : GoodIn wsX4_countThere wsX4_isMissing := goodIn_r _ [5, 6, 7, 8, 9] (by decide +kernel) (by decide +kernel)
set_option maxRecDepth 20000 in
theorem gX4_countThere_X4_isMissing : GoodIn wsX4_countThere (wsV RX4 23 RX4 yX4_isMissing wsX4_isMissing) := goodIn_app (goodIn_of _ (by decide +kernel)) ggX4_countThere_X4_isMissing
theorem dX4_countThere_0 : decode cX4_countThere 0 = .ok (.iconst 0, 1) := by decide +kernel
theorem dX4_countThere_1 : decode cX4_countThere 1 = .ok (.istore_n 1, 1) := by decide +kernel
theorem dX4_countThere_2 : decode cX4_countThere 2 = .ok (.iconst 0, 1) := by decide +kernel
theorem dX4_countThere_3 : decode cX4_countThere 3 = .ok (.istore_n 2, 1) := by decide +kernel
theorem dX4_countThere_4 : decode cX4_countThere 4 = .ok (.iload_n 2, 1) := by decide +kernel
theorem dX4_countThere_5 : decode cX4_countThere 5 = .ok (.bipush 8, 2) := by decide +kernel
theorem dX4_countThere_7 : decode cX4_countThere 7 = .ok (.if_icmp .ge 20, 3) := by decide +kernel
theorem dX4_countThere_10 : decode cX4_countThere 10 = .ok (.aload_n 0, 1) := by decide +kernel
theorem dX4_countThere_11 : decode cX4_countThere 11 = .ok (.iload_n 2, 1) := by decide +kernel
theorem dX4_countThere_12 : decode cX4_countThere 12 = .ok (.invokevirtual 23, 3) := by decide +kernel
theorem dX4_countThere_15 : decode cX4_countThere 15 = .ok (.ifCond .ne 6, 3) := by decide +kernel
theorem dX4_countThere_18 : decode cX4_countThere 18 = .ok (.iinc 1 1, 3) := by decide +kernel
theorem dX4_countThere_21 : decode cX4_countThere 21 = .ok (.iinc 2 1, 3) := by decide +kernel
theorem dX4_countThere_24 : decode cX4_countThere 24 = .ok (.goto (-20), 3) := by decide +kernel
theorem dX4_countThere_27 : decode cX4_countThere 27 = .ok (.iload_n 1, 1) := by decide +kernel
theorem dX4_countThere_28 : decode cX4_countThere 28 = .ok (.ireturn, 1) := by decide +kernel
set_option maxRecDepth 20000 in
theorem ggX5_init_X3_init : GoodIn wsX5_init wsX3_init := goodIn_r _ [11, 12, 2, 3, 13, 14, 15, 16, 17, 18, 8, 19, 20, 21, 22, 23, 24, 25, 26, 27, 28, 29, 30, 31, 32, 33, 34, 35, 36] (by decide +kernel) (by decide +kernel)
set_option maxRecDepth 20000 in
theorem gX5_init_X3_init_n11 : GoodIn wsX5_init (wsX3_init) := ggX5_init_X3_init
theorem dX5_init_0 : decode cX5_init 0 = .ok (.aload_n 0, 1) := by decide +kernel
theorem dX5_init_1 : decode cX5_init 1 = .ok (.invokespecial 3, 3) := by decide +kernel
theorem dX5_init_4 : decode cX5_init 4 = .ok (.aload_n 0, 1) := by decide +kernel
theorem dX5_init_5 : decode cX5_init 5 = .ok (.new 9, 3) := by decide +kernel
theorem dX5_init_8 : decode cX5_init 8 = .ok (.dup, 1) := by decide +kernel
theorem dX5_init_9 : decode cX5_init 9 = .ok (.invokespecial 11, 3) := by decide +kernel
theorem dX5_init_12 : decode cX5_init 12 = .ok (.putfield 12, 3) := by decide +kernel
theorem dX5_init_15 : decode cX5_init 15 = .ok (.aload_n 0, 1) := by decide +kernel
theorem dX5_init_16 : decode cX5_init 16 = .ok (.bipush 16, 2) := by decide +kernel
theorem dX5_init_18 : decode cX5_init 18 = .ok (.newarray .int, 2) := by decide +kernel
theorem dX5_init_20 : decode cX5_init 20 = .ok (.putfield 18, 3) := by decide +kernel
theorem dX5_init_23 : decode cX5_init 23 = .ok (.return_, 1) := by decide +kernel
set_option maxRecDepth 20000 in
theorem ggX5_behind_X3_become : GoodIn wsX5_behind wsX3_become := goodIn_r _ [6, 7, 8, 9, 10, 11, 12, 13, 14, 15, 16, 17, 50, 51, 52, 53, 54, 55, 56, 57, 58, 59, 60, 61] (by decide +kernel) (by decide +kernel)
set_option maxRecDepth 20000 in
theorem gX5_behind_X3_become : GoodIn wsX5_behind (wsV RX5 22 RX3 yX3_become wsX3_become) := goodIn_app (goodIn_of _ (by decide +kernel)) ggX5_behind_X3_become
set_option maxRecDepth 20000 in
theorem ggX5_behind_X5_passYears : GoodIn wsX5_behind wsX5_passYears := goodIn_r _ [22, 1, 23, 24, 25, 5, 26, 8, 27, 14, 11, 28, 29, 30, 31, 13, 32, 33, 34, 35, 36, 37, 38, 39, 40, 41, 42, 43, 16, 44, 45, 46, 47, 15, 48, 49, 50, 51, 52, 53, 54, 55, 56, 57, 58, 59, 60, 61] (by decide +kernel) (by decide +kernel)
set_option maxRecDepth 20000 in
theorem gX5_behind_X5_passYears : GoodIn wsX5_behind (wsV RX5 26 RX5 yX5_passYears wsX5_passYears) := goodIn_app (goodIn_of _ (by decide +kernel)) ggX5_behind_X5_passYears
theorem dX5_behind_0 : decode cX5_behind 0 = .ok (.aload_n 0, 1) := by decide +kernel
theorem dX5_behind_1 : decode cX5_behind 1 = .ok (.getfield 12, 3) := by decide +kernel
theorem dX5_behind_4 : decode cX5_behind 4 = .ok (.aload_n 1, 1) := by decide +kernel
theorem dX5_behind_5 : decode cX5_behind 5 = .ok (.invokevirtual 22, 3) := by decide +kernel
theorem dX5_behind_8 : decode cX5_behind 8 = .ok (.aload_n 0, 1) := by decide +kernel
theorem dX5_behind_9 : decode cX5_behind 9 = .ok (.iload_n 2, 1) := by decide +kernel
theorem dX5_behind_10 : decode cX5_behind 10 = .ok (.invokevirtual 26, 3) := by decide +kernel
theorem dX5_behind_13 : decode cX5_behind 13 = .ok (.aload_n 0, 1) := by decide +kernel
theorem dX5_behind_14 : decode cX5_behind 14 = .ok (.getfield 12, 3) := by decide +kernel
theorem dX5_behind_17 : decode cX5_behind 17 = .ok (.areturn, 1) := by decide +kernel
set_option maxRecDepth 20000 in
theorem ggX5_passYears_X3_passYear : GoodIn wsX5_passYears wsX3_passYear := goodIn_r _ [6, 7, 8, 9, 10, 11, 12, 13, 5, 14, 15, 16, 17, 18, 19, 20, 21, 22, 23, 24, 25, 26, 27, 28, 29, 30, 31, 32, 33, 36, 37, 38, 39, 40, 41, 42, 43, 44, 45, 46, 47] (by decide +kernel) (by decide +kernel)
set_option maxRecDepth 20000 in
theorem gX5_passYears_X3_passYear : GoodIn wsX5_passYears (wsV RX5 30 RX3 yX3_passYear wsX3_passYear) := goodIn_app (goodIn_of _ (by decide +kernel)) ggX5_passYears_X3_passYear
theorem dX5_passYears_0 : decode cX5_passYears 0 = .ok (.iconst 0, 1) := by decide +kernel
theorem dX5_passYears_1 : decode cX5_passYears 1 = .ok (.istore_n 2, 1) := by decide +kernel
theorem dX5_passYears_2 : decode cX5_passYears 2 = .ok (.iload_n 2, 1) := by decide +kernel
theorem dX5_passYears_3 : decode cX5_passYears 3 = .ok (.iload_n 1, 1) := by decide +kernel
theorem dX5_passYears_4 : decode cX5_passYears 4 = .ok (.if_icmp .ge 17, 3) := by decide +kernel
theorem dX5_passYears_7 : decode cX5_passYears 7 = .ok (.aload_n 0, 1) := by decide +kernel
theorem dX5_passYears_8 : decode cX5_passYears 8 = .ok (.getfield 12, 3) := by decide +kernel
theorem dX5_passYears_11 : decode cX5_passYears 11 = .ok (.invokevirtual 30, 3) := by decide +kernel
theorem dX5_passYears_14 : decode cX5_passYears 14 = .ok (.pop, 1) := by decide +kernel
theorem dX5_passYears_15 : decode cX5_passYears 15 = .ok (.iinc 2 1, 3) := by decide +kernel
theorem dX5_passYears_18 : decode cX5_passYears 18 = .ok (.goto (-16), 3) := by decide +kernel
theorem dX5_passYears_21 : decode cX5_passYears 21 = .ok (.return_, 1) := by decide +kernel
set_option maxRecDepth 20000 in
theorem ggX5_yearsUntilUp_X3_become : GoodIn wsX5_yearsUntilUp wsX3_become := goodIn_r _ [7, 8, 9, 10, 11, 12, 13, 14, 15, 16, 17, 18, 47, 48, 49, 50, 51, 52, 53, 54, 55, 56, 57, 58] (by decide +kernel) (by decide +kernel)
set_option maxRecDepth 20000 in
theorem gX5_yearsUntilUp_X3_become : GoodIn wsX5_yearsUntilUp (wsV RX5 22 RX3 yX3_become wsX3_become) := goodIn_app (goodIn_of _ (by decide +kernel)) ggX5_yearsUntilUp_X3_become
set_option maxRecDepth 20000 in
theorem ggX5_yearsUntilUp_X3_isUp : GoodIn wsX5_yearsUntilUp wsX3_isUp := goodIn_r _ [22, 15, 47, 48, 49, 50, 51, 52, 53, 54, 55, 56, 57, 58] (by decide +kernel) (by decide +kernel)
set_option maxRecDepth 20000 in
theorem gX5_yearsUntilUp_X3_isUp : GoodIn wsX5_yearsUntilUp (wsV RX5 34 RX3 yX3_isUp wsX3_isUp) := goodIn_app (goodIn_of _ (by decide +kernel)) ggX5_yearsUntilUp_X3_isUp
set_option maxRecDepth 20000 in
theorem ggX5_yearsUntilUp_X3_passYear : GoodIn wsX5_yearsUntilUp wsX3_passYear := goodIn_r _ [26, 9, 27, 15, 12, 28, 29, 30, 6, 31, 14, 32, 33, 34, 35, 36, 20, 21, 22, 37, 38, 39, 40, 17, 41, 42, 43, 44, 16, 47, 48, 49, 50, 51, 52, 53, 54, 55, 56, 57, 58] (by decide +kernel) (by decide +kernel)
set_option maxRecDepth 20000 in
theorem gX5_yearsUntilUp_X3_passYear : GoodIn wsX5_yearsUntilUp (wsV RX5 30 RX3 yX3_passYear wsX3_passYear) := goodIn_app (goodIn_of _ (by decide +kernel)) ggX5_yearsUntilUp_X3_passYear
theorem dX5_yearsUntilUp_0 : decode cX5_yearsUntilUp 0 = .ok (.aload_n 0, 1) := by decide +kernel
theorem dX5_yearsUntilUp_1 : decode cX5_yearsUntilUp 1 = .ok (.getfield 12, 3) := by decide +kernel
theorem dX5_yearsUntilUp_4 : decode cX5_yearsUntilUp 4 = .ok (.aload_n 1, 1) := by decide +kernel
theorem dX5_yearsUntilUp_5 : decode cX5_yearsUntilUp 5 = .ok (.invokevirtual 22, 3) := by decide +kernel
theorem dX5_yearsUntilUp_8 : decode cX5_yearsUntilUp 8 = .ok (.iconst 0, 1) := by decide +kernel
theorem dX5_yearsUntilUp_9 : decode cX5_yearsUntilUp 9 = .ok (.istore_n 3, 1) := by decide +kernel
theorem dX5_yearsUntilUp_10 : decode cX5_yearsUntilUp 10 = .ok (.iload_n 3, 1) := by decide +kernel
theorem dX5_yearsUntilUp_11 : decode cX5_yearsUntilUp 11 = .ok (.bipush 99, 2) := by decide +kernel
theorem dX5_yearsUntilUp_13 : decode cX5_yearsUntilUp 13 = .ok (.if_icmp .gt 30, 3) := by decide +kernel
theorem dX5_yearsUntilUp_16 : decode cX5_yearsUntilUp 16 = .ok (.aload_n 0, 1) := by decide +kernel
theorem dX5_yearsUntilUp_17 : decode cX5_yearsUntilUp 17 = .ok (.getfield 12, 3) := by decide +kernel
theorem dX5_yearsUntilUp_20 : decode cX5_yearsUntilUp 20 = .ok (.iload_n 2, 1) := by decide +kernel
theorem dX5_yearsUntilUp_21 : decode cX5_yearsUntilUp 21 = .ok (.invokevirtual 34, 3) := by decide +kernel
theorem dX5_yearsUntilUp_24 : decode cX5_yearsUntilUp 24 = .ok (.ifCond .eq 5, 3) := by decide +kernel
theorem dX5_yearsUntilUp_27 : decode cX5_yearsUntilUp 27 = .ok (.iload_n 3, 1) := by decide +kernel
theorem dX5_yearsUntilUp_28 : decode cX5_yearsUntilUp 28 = .ok (.ireturn, 1) := by decide +kernel
theorem dX5_yearsUntilUp_29 : decode cX5_yearsUntilUp 29 = .ok (.aload_n 0, 1) := by decide +kernel
theorem dX5_yearsUntilUp_30 : decode cX5_yearsUntilUp 30 = .ok (.getfield 12, 3) := by decide +kernel
theorem dX5_yearsUntilUp_33 : decode cX5_yearsUntilUp 33 = .ok (.invokevirtual 30, 3) := by decide +kernel
theorem dX5_yearsUntilUp_36 : decode cX5_yearsUntilUp 36 = .ok (.pop, 1) := by decide +kernel
theorem dX5_yearsUntilUp_37 : decode cX5_yearsUntilUp 37 = .ok (.iinc 3 1, 3) := by decide +kernel
theorem dX5_yearsUntilUp_40 : decode cX5_yearsUntilUp 40 = .ok (.goto (-30), 3) := by decide +kernel
theorem dX5_yearsUntilUp_43 : decode cX5_yearsUntilUp 43 = .ok (.ldc 38, 2) := by decide +kernel
theorem dX5_yearsUntilUp_45 : decode cX5_yearsUntilUp 45 = .ok (.ireturn, 1) := by decide +kernel
set_option maxRecDepth 20000 in
theorem ggX5_firstUp_X3_allUp : GoodIn wsX5_firstUp wsX3_allUp := goodIn_r _ [7, 8, 9, 10, 11, 6, 12, 13, 54, 55, 56, 57, 58, 59, 60, 61, 62, 63, 64, 65] (by decide +kernel) (by decide +kernel)
set_option maxRecDepth 20000 in
theorem gX5_firstUp_X3_allUp : GoodIn wsX5_firstUp (wsV RX5 39 RX3 yX3_allUp wsX3_allUp) := goodIn_app (goodIn_of _ (by decide +kernel)) ggX5_firstUp_X3_allUp
set_option maxRecDepth 20000 in
theorem ggX5_firstUp_X3_become : GoodIn wsX5_firstUp wsX3_become := goodIn_r _ [17, 18, 8, 19, 20, 21, 22, 23, 13, 24, 25, 26, 54, 55, 56, 57, 58, 59, 60, 61, 62, 63, 64, 65] (by decide +kernel) (by decide +kernel)
set_option maxRecDepth 20000 in
theorem gX5_firstUp_X3_become : GoodIn wsX5_firstUp (wsV RX5 22 RX3 yX3_become wsX3_become) := goodIn_app (goodIn_of _ (by decide +kernel)) ggX5_firstUp_X3_become
set_option maxRecDepth 20000 in
theorem ggX5_firstUp_X3_passYear : GoodIn wsX5_firstUp wsX3_passYear := goodIn_r _ [30, 8, 31, 13, 21, 32, 33, 34, 6, 35, 23, 36, 37, 38, 39, 9, 10, 11, 12, 40, 41, 42, 43, 25, 44, 45, 46, 47, 24, 54, 55, 56, 57, 58, 59, 60, 61, 62, 63, 64, 65] (by decide +kernel) (by decide +kernel)
set_option maxRecDepth 20000 in
theorem gX5_firstUp_X3_passYear : GoodIn wsX5_firstUp (wsV RX5 30 RX3 yX3_passYear wsX3_passYear) := goodIn_app (goodIn_of _ (by decide +kernel)) ggX5_firstUp_X3_passYear
set_option maxRecDepth 20000 in
theorem ggX5_firstUp_X7_leastOf : GoodIn wsX5_firstUp wsX7_leastOf := goodIn_r _ [50, 51] (by decide +kernel) (by decide +kernel)
set_option maxRecDepth 20000 in
theorem gX5_firstUp_X7_leastOf_n43 : GoodIn wsX5_firstUp (wsX7_leastOf) := ggX5_firstUp_X7_leastOf
theorem dX5_firstUp_0 : decode cX5_firstUp 0 = .ok (.aload_n 1, 1) := by decide +kernel
theorem dX5_firstUp_1 : decode cX5_firstUp 1 = .ok (.invokevirtual 39, 3) := by decide +kernel
theorem dX5_firstUp_4 : decode cX5_firstUp 4 = .ok (.istore_n 3, 1) := by decide +kernel
theorem dX5_firstUp_5 : decode cX5_firstUp 5 = .ok (.aload_n 0, 1) := by decide +kernel
theorem dX5_firstUp_6 : decode cX5_firstUp 6 = .ok (.getfield 12, 3) := by decide +kernel
theorem dX5_firstUp_9 : decode cX5_firstUp 9 = .ok (.aload_n 1, 1) := by decide +kernel
theorem dX5_firstUp_10 : decode cX5_firstUp 10 = .ok (.invokevirtual 22, 3) := by decide +kernel
theorem dX5_firstUp_13 : decode cX5_firstUp 13 = .ok (.iconst 1, 1) := by decide +kernel
theorem dX5_firstUp_14 : decode cX5_firstUp 14 = .ok (.istore 4, 2) := by decide +kernel
theorem dX5_firstUp_16 : decode cX5_firstUp 16 = .ok (.iload 4, 2) := by decide +kernel
theorem dX5_firstUp_18 : decode cX5_firstUp 18 = .ok (.bipush 99, 2) := by decide +kernel
theorem dX5_firstUp_20 : decode cX5_firstUp 20 = .ok (.if_icmp .gt 50, 3) := by decide +kernel
theorem dX5_firstUp_23 : decode cX5_firstUp 23 = .ok (.aload_n 0, 1) := by decide +kernel
theorem dX5_firstUp_24 : decode cX5_firstUp 24 = .ok (.getfield 12, 3) := by decide +kernel
theorem dX5_firstUp_27 : decode cX5_firstUp 27 = .ok (.invokevirtual 30, 3) := by decide +kernel
theorem dX5_firstUp_30 : decode cX5_firstUp 30 = .ok (.pop, 1) := by decide +kernel
theorem dX5_firstUp_31 : decode cX5_firstUp 31 = .ok (.aload_n 0, 1) := by decide +kernel
theorem dX5_firstUp_32 : decode cX5_firstUp 32 = .ok (.getfield 12, 3) := by decide +kernel
theorem dX5_firstUp_35 : decode cX5_firstUp 35 = .ok (.invokevirtual 39, 3) := by decide +kernel
theorem dX5_firstUp_38 : decode cX5_firstUp 38 = .ok (.iload_n 3, 1) := by decide +kernel
theorem dX5_firstUp_39 : decode cX5_firstUp 39 = .ok (.iconst (-1), 1) := by decide +kernel
theorem dX5_firstUp_40 : decode cX5_firstUp 40 = .ok (.ixor, 1) := by decide +kernel
theorem dX5_firstUp_41 : decode cX5_firstUp 41 = .ok (.iand, 1) := by decide +kernel
theorem dX5_firstUp_42 : decode cX5_firstUp 42 = .ok (.istore 5, 2) := by decide +kernel
theorem dX5_firstUp_44 : decode cX5_firstUp 44 = .ok (.iload 5, 2) := by decide +kernel
theorem dX5_firstUp_46 : decode cX5_firstUp 46 = .ok (.ifCond .eq 18, 3) := by decide +kernel
theorem dX5_firstUp_49 : decode cX5_firstUp 49 = .ok (.iload_n 2, 1) := by decide +kernel
theorem dX5_firstUp_50 : decode cX5_firstUp 50 = .ok (.ifCond .eq 11, 3) := by decide +kernel
theorem dX5_firstUp_53 : decode cX5_firstUp 53 = .ok (.iload 5, 2) := by decide +kernel
theorem dX5_firstUp_55 : decode cX5_firstUp 55 = .ok (.invokestatic 43, 3) := by decide +kernel
theorem dX5_firstUp_58 : decode cX5_firstUp 58 = .ok (.goto 5, 3) := by decide +kernel
theorem dX5_firstUp_61 : decode cX5_firstUp 61 = .ok (.iload 4, 2) := by decide +kernel
theorem dX5_firstUp_63 : decode cX5_firstUp 63 = .ok (.ireturn, 1) := by decide +kernel
theorem dX5_firstUp_64 : decode cX5_firstUp 64 = .ok (.iinc 4 1, 3) := by decide +kernel
theorem dX5_firstUp_67 : decode cX5_firstUp 67 = .ok (.goto (-51), 3) := by decide +kernel
theorem dX5_firstUp_70 : decode cX5_firstUp 70 = .ok (.ldc 38, 2) := by decide +kernel
theorem dX5_firstUp_72 : decode cX5_firstUp 72 = .ok (.ireturn, 1) := by decide +kernel
set_option maxRecDepth 20000 in
theorem ggX5_firstTrouble_X3_become : GoodIn wsX5_firstTrouble wsX3_become := goodIn_r _ [7, 8, 9, 10, 11, 12, 13, 14, 15, 16, 17, 18, 58, 59, 60, 61, 62, 63, 64, 65, 66, 67, 68, 69] (by decide +kernel) (by decide +kernel)
set_option maxRecDepth 20000 in
theorem gX5_firstTrouble_X3_become : GoodIn wsX5_firstTrouble (wsV RX5 22 RX3 yX3_become wsX3_become) := goodIn_app (goodIn_of _ (by decide +kernel)) ggX5_firstTrouble_X3_become
set_option maxRecDepth 20000 in
theorem ggX5_firstTrouble_X3_firstTooNear : GoodIn wsX5_firstTrouble wsX3_firstTooNear := goodIn_r _ [22, 9, 23, 24, 25, 26, 6, 27, 16, 28, 29, 30, 31, 15, 11, 32, 33, 34, 35, 58, 59, 60, 61, 62, 63, 64, 65, 66, 67, 68, 69] (by decide +kernel) (by decide +kernel)
set_option maxRecDepth 20000 in
theorem gX5_firstTrouble_X3_firstTooNear : GoodIn wsX5_firstTrouble (wsV RX5 47 RX3 yX3_firstTooNear wsX3_firstTooNear) := goodIn_app (goodIn_of _ (by decide +kernel)) ggX5_firstTrouble_X3_firstTooNear
set_option maxRecDepth 20000 in
theorem ggX5_firstTrouble_X3_passYear : GoodIn wsX5_firstTrouble wsX3_passYear := goodIn_r _ [39, 9, 40, 15, 12, 41, 42, 43, 6, 44, 14, 45, 46, 30, 47, 32, 33, 34, 35, 48, 49, 50, 51, 17, 52, 53, 54, 55, 16, 58, 59, 60, 61, 62, 63, 64, 65, 66, 67, 68, 69] (by decide +kernel) (by decide +kernel)
set_option maxRecDepth 20000 in
theorem gX5_firstTrouble_X3_passYear : GoodIn wsX5_firstTrouble (wsV RX5 30 RX3 yX3_passYear wsX3_passYear) := goodIn_app (goodIn_of _ (by decide +kernel)) ggX5_firstTrouble_X3_passYear
theorem dX5_firstTrouble_0 : decode cX5_firstTrouble 0 = .ok (.aload_n 0, 1) := by decide +kernel
theorem dX5_firstTrouble_1 : decode cX5_firstTrouble 1 = .ok (.getfield 12, 3) := by decide +kernel
theorem dX5_firstTrouble_4 : decode cX5_firstTrouble 4 = .ok (.aload_n 1, 1) := by decide +kernel
theorem dX5_firstTrouble_5 : decode cX5_firstTrouble 5 = .ok (.invokevirtual 22, 3) := by decide +kernel
theorem dX5_firstTrouble_8 : decode cX5_firstTrouble 8 = .ok (.iconst 0, 1) := by decide +kernel
theorem dX5_firstTrouble_9 : decode cX5_firstTrouble 9 = .ok (.istore_n 3, 1) := by decide +kernel
theorem dX5_firstTrouble_10 : decode cX5_firstTrouble 10 = .ok (.iload_n 3, 1) := by decide +kernel
theorem dX5_firstTrouble_11 : decode cX5_firstTrouble 11 = .ok (.bipush 99, 2) := by decide +kernel
theorem dX5_firstTrouble_13 : decode cX5_firstTrouble 13 = .ok (.if_icmp .gt 44, 3) := by decide +kernel
theorem dX5_firstTrouble_16 : decode cX5_firstTrouble 16 = .ok (.aload_n 0, 1) := by decide +kernel
theorem dX5_firstTrouble_17 : decode cX5_firstTrouble 17 = .ok (.getfield 12, 3) := by decide +kernel
theorem dX5_firstTrouble_20 : decode cX5_firstTrouble 20 = .ok (.invokevirtual 47, 3) := by decide +kernel
theorem dX5_firstTrouble_23 : decode cX5_firstTrouble 23 = .ok (.istore 4, 2) := by decide +kernel
theorem dX5_firstTrouble_25 : decode cX5_firstTrouble 25 = .ok (.iload 4, 2) := by decide +kernel
theorem dX5_firstTrouble_27 : decode cX5_firstTrouble 27 = .ok (.ldc 38, 2) := by decide +kernel
theorem dX5_firstTrouble_29 : decode cX5_firstTrouble 29 = .ok (.if_icmp .eq 14, 3) := by decide +kernel
theorem dX5_firstTrouble_32 : decode cX5_firstTrouble 32 = .ok (.iload_n 2, 1) := by decide +kernel
theorem dX5_firstTrouble_33 : decode cX5_firstTrouble 33 = .ok (.ifCond .eq 7, 3) := by decide +kernel
theorem dX5_firstTrouble_36 : decode cX5_firstTrouble 36 = .ok (.iload_n 3, 1) := by decide +kernel
theorem dX5_firstTrouble_37 : decode cX5_firstTrouble 37 = .ok (.goto 5, 3) := by decide +kernel
theorem dX5_firstTrouble_40 : decode cX5_firstTrouble 40 = .ok (.iload 4, 2) := by decide +kernel
theorem dX5_firstTrouble_42 : decode cX5_firstTrouble 42 = .ok (.ireturn, 1) := by decide +kernel
theorem dX5_firstTrouble_43 : decode cX5_firstTrouble 43 = .ok (.aload_n 0, 1) := by decide +kernel
theorem dX5_firstTrouble_44 : decode cX5_firstTrouble 44 = .ok (.getfield 12, 3) := by decide +kernel
theorem dX5_firstTrouble_47 : decode cX5_firstTrouble 47 = .ok (.invokevirtual 30, 3) := by decide +kernel
theorem dX5_firstTrouble_50 : decode cX5_firstTrouble 50 = .ok (.pop, 1) := by decide +kernel
theorem dX5_firstTrouble_51 : decode cX5_firstTrouble 51 = .ok (.iinc 3 1, 3) := by decide +kernel
theorem dX5_firstTrouble_54 : decode cX5_firstTrouble 54 = .ok (.goto (-44), 3) := by decide +kernel
theorem dX5_firstTrouble_57 : decode cX5_firstTrouble 57 = .ok (.ldc 38, 2) := by decide +kernel
theorem dX5_firstTrouble_59 : decode cX5_firstTrouble 59 = .ok (.ireturn, 1) := by decide +kernel
set_option maxRecDepth 20000 in
theorem ggX5_leastDepth_X3_become : GoodIn wsX5_leastDepth wsX3_become := goodIn_r _ [8, 9, 10, 11, 12, 13, 14, 15, 16, 17, 18, 19, 53, 54, 55, 56, 57, 58, 59, 60, 61, 62, 63, 64] (by decide +kernel) (by decide +kernel)
set_option maxRecDepth 20000 in
theorem gX5_leastDepth_X3_become : GoodIn wsX5_leastDepth (wsV RX5 22 RX3 yX3_become wsX3_become) := goodIn_app (goodIn_of _ (by decide +kernel)) ggX5_leastDepth_X3_become
set_option maxRecDepth 20000 in
theorem ggX5_leastDepth_X5_passYears : GoodIn wsX5_leastDepth wsX5_passYears := goodIn_r _ [24, 1, 25, 26, 27, 7, 28, 10, 29, 16, 13, 30, 31, 32, 33, 15, 34, 35, 36, 37, 38, 39, 40, 41, 42, 43, 44, 45, 18, 46, 47, 48, 49, 17, 51, 52, 53, 54, 55, 56, 57, 58, 59, 60, 61, 62, 63, 64] (by decide +kernel) (by decide +kernel)
set_option maxRecDepth 20000 in
theorem gX5_leastDepth_X5_passYears : GoodIn wsX5_leastDepth (wsV RX5 26 RX5 yX5_passYears wsX5_passYears) := goodIn_app (goodIn_of _ (by decide +kernel)) ggX5_leastDepth_X5_passYears
set_option maxRecDepth 20000 in
theorem ggX5_leastDepth_X3_isUp : GoodIn wsX5_leastDepth wsX3_isUp := goodIn_r _ [41, 16, 53, 54, 55, 56, 57, 58, 59, 60, 61, 62, 63, 64] (by decide +kernel) (by decide +kernel)
set_option maxRecDepth 20000 in
theorem gX5_leastDepth_X3_isUp : GoodIn wsX5_leastDepth (wsV RX5 34 RX3 yX3_isUp wsX3_isUp) := goodIn_app (goodIn_of _ (by decide +kernel)) ggX5_leastDepth_X3_isUp
theorem dX5_leastDepth_0 : decode cX5_leastDepth 0 = .ok (.iconst 1, 1) := by decide +kernel
theorem dX5_leastDepth_1 : decode cX5_leastDepth 1 = .ok (.istore 4, 2) := by decide +kernel
theorem dX5_leastDepth_3 : decode cX5_leastDepth 3 = .ok (.iload 4, 2) := by decide +kernel
theorem dX5_leastDepth_5 : decode cX5_leastDepth 5 = .ok (.bipush 40, 2) := by decide +kernel
theorem dX5_leastDepth_7 : decode cX5_leastDepth 7 = .ok (.if_icmp .gt 47, 3) := by decide +kernel
theorem dX5_leastDepth_10 : decode cX5_leastDepth 10 = .ok (.aload_n 0, 1) := by decide +kernel
theorem dX5_leastDepth_11 : decode cX5_leastDepth 11 = .ok (.getfield 12, 3) := by decide +kernel
theorem dX5_leastDepth_14 : decode cX5_leastDepth 14 = .ok (.aload_n 1, 1) := by decide +kernel
theorem dX5_leastDepth_15 : decode cX5_leastDepth 15 = .ok (.invokevirtual 22, 3) := by decide +kernel
theorem dX5_leastDepth_18 : decode cX5_leastDepth 18 = .ok (.aload_n 0, 1) := by decide +kernel
theorem dX5_leastDepth_19 : decode cX5_leastDepth 19 = .ok (.getfield 12, 3) := by decide +kernel
theorem dX5_leastDepth_22 : decode cX5_leastDepth 22 = .ok (.getfield 50, 3) := by decide +kernel
theorem dX5_leastDepth_25 : decode cX5_leastDepth 25 = .ok (.iload_n 2, 1) := by decide +kernel
theorem dX5_leastDepth_26 : decode cX5_leastDepth 26 = .ok (.iload 4, 2) := by decide +kernel
theorem dX5_leastDepth_28 : decode cX5_leastDepth 28 = .ok (.iastore, 1) := by decide +kernel
theorem dX5_leastDepth_29 : decode cX5_leastDepth 29 = .ok (.aload_n 0, 1) := by decide +kernel
theorem dX5_leastDepth_30 : decode cX5_leastDepth 30 = .ok (.iload_n 3, 1) := by decide +kernel
theorem dX5_leastDepth_31 : decode cX5_leastDepth 31 = .ok (.invokevirtual 26, 3) := by decide +kernel
theorem dX5_leastDepth_34 : decode cX5_leastDepth 34 = .ok (.aload_n 0, 1) := by decide +kernel
theorem dX5_leastDepth_35 : decode cX5_leastDepth 35 = .ok (.getfield 12, 3) := by decide +kernel
theorem dX5_leastDepth_38 : decode cX5_leastDepth 38 = .ok (.iload_n 2, 1) := by decide +kernel
theorem dX5_leastDepth_39 : decode cX5_leastDepth 39 = .ok (.invokevirtual 34, 3) := by decide +kernel
theorem dX5_leastDepth_42 : decode cX5_leastDepth 42 = .ok (.ifCond .ne 6, 3) := by decide +kernel
theorem dX5_leastDepth_45 : decode cX5_leastDepth 45 = .ok (.iload 4, 2) := by decide +kernel
theorem dX5_leastDepth_47 : decode cX5_leastDepth 47 = .ok (.ireturn, 1) := by decide +kernel
theorem dX5_leastDepth_48 : decode cX5_leastDepth 48 = .ok (.iinc 4 1, 3) := by decide +kernel
theorem dX5_leastDepth_51 : decode cX5_leastDepth 51 = .ok (.goto (-48), 3) := by decide +kernel
theorem dX5_leastDepth_54 : decode cX5_leastDepth 54 = .ok (.ldc 38, 2) := by decide +kernel
theorem dX5_leastDepth_56 : decode cX5_leastDepth 56 = .ok (.ireturn, 1) := by decide +kernel
set_option maxRecDepth 20000 in
theorem ggX5_thatFit_X3_become : GoodIn wsX5_thatFit wsX3_become := goodIn_r _ [9, 10, 11, 12, 13, 14, 15, 16, 17, 18, 19, 20, 66, 67, 68, 69, 70, 71, 72, 73, 74, 75, 76, 77] (by decide +kernel) (by decide +kernel)
set_option maxRecDepth 20000 in
theorem gX5_thatFit_X3_become : GoodIn wsX5_thatFit (wsV RX5 22 RX3 yX3_become wsX3_become) := goodIn_app (goodIn_of _ (by decide +kernel)) ggX5_thatFit_X3_become
set_option maxRecDepth 20000 in
theorem ggX5_thatFit_X5_goesAsTold : GoodIn wsX5_thatFit wsX5_goesAsTold := goodIn_r _ [25, 1, 26, 27, 28, 29, 30, 8, 31, 11, 32, 17, 14, 33, 34, 35, 36, 16, 37, 38, 39, 40, 41, 42, 43, 44, 45, 46, 47, 48, 19, 49, 50, 51, 52, 18, 53, 54, 55, 56, 57, 58, 59, 60, 61, 62, 63, 13, 64, 65, 66, 67, 68, 69, 70, 71, 72, 73, 74, 75, 76, 77] (by decide +kernel) (by decide +kernel)
set_option maxRecDepth 20000 in
theorem gX5_thatFit_X5_goesAsTold : GoodIn wsX5_thatFit (wsV RX5 62 RX5 yX5_goesAsTold wsX5_goesAsTold) := goodIn_app (goodIn_of _ (by decide +kernel)) ggX5_thatFit_X5_goesAsTold
theorem dX5_thatFit_0 : decode cX5_thatFit 0 = .ok (.iload 4, 2) := by decide +kernel
theorem dX5_thatFit_2 : decode cX5_thatFit 2 = .ok (.iconst 2, 1) := by decide +kernel
theorem dX5_thatFit_3 : decode cX5_thatFit 3 = .ok (.if_icmp .ne 7, 3) := by decide +kernel
theorem dX5_thatFit_6 : decode cX5_thatFit 6 = .ok (.iconst 0, 1) := by decide +kernel
theorem dX5_thatFit_7 : decode cX5_thatFit 7 = .ok (.goto 4, 3) := by decide +kernel
theorem dX5_thatFit_10 : decode cX5_thatFit 10 = .ok (.iconst 1, 1) := by decide +kernel
theorem dX5_thatFit_11 : decode cX5_thatFit 11 = .ok (.istore 5, 2) := by decide +kernel
theorem dX5_thatFit_13 : decode cX5_thatFit 13 = .ok (.iload 4, 2) := by decide +kernel
theorem dX5_thatFit_15 : decode cX5_thatFit 15 = .ok (.ifCond .ne 7, 3) := by decide +kernel
theorem dX5_thatFit_18 : decode cX5_thatFit 18 = .ok (.iconst 5, 1) := by decide +kernel
theorem dX5_thatFit_19 : decode cX5_thatFit 19 = .ok (.goto 15, 3) := by decide +kernel
theorem dX5_thatFit_22 : decode cX5_thatFit 22 = .ok (.iload 4, 2) := by decide +kernel
theorem dX5_thatFit_24 : decode cX5_thatFit 24 = .ok (.iconst 1, 1) := by decide +kernel
theorem dX5_thatFit_25 : decode cX5_thatFit 25 = .ok (.if_icmp .ne 8, 3) := by decide +kernel
theorem dX5_thatFit_28 : decode cX5_thatFit 28 = .ok (.bipush 9, 2) := by decide +kernel
theorem dX5_thatFit_30 : decode cX5_thatFit 30 = .ok (.goto 4, 3) := by decide +kernel
theorem dX5_thatFit_33 : decode cX5_thatFit 33 = .ok (.iconst 3, 1) := by decide +kernel
theorem dX5_thatFit_34 : decode cX5_thatFit 34 = .ok (.istore 6, 2) := by decide +kernel
theorem dX5_thatFit_36 : decode cX5_thatFit 36 = .ok (.iconst 0, 1) := by decide +kernel
theorem dX5_thatFit_37 : decode cX5_thatFit 37 = .ok (.istore 7, 2) := by decide +kernel
theorem dX5_thatFit_39 : decode cX5_thatFit 39 = .ok (.iload 5, 2) := by decide +kernel
theorem dX5_thatFit_41 : decode cX5_thatFit 41 = .ok (.istore 8, 2) := by decide +kernel
theorem dX5_thatFit_43 : decode cX5_thatFit 43 = .ok (.iload 8, 2) := by decide +kernel
theorem dX5_thatFit_45 : decode cX5_thatFit 45 = .ok (.iload 6, 2) := by decide +kernel
theorem dX5_thatFit_47 : decode cX5_thatFit 47 = .ok (.if_icmp .gt 87, 3) := by decide +kernel
theorem dX5_thatFit_50 : decode cX5_thatFit 50 = .ok (.aload_n 0, 1) := by decide +kernel
theorem dX5_thatFit_51 : decode cX5_thatFit 51 = .ok (.getfield 12, 3) := by decide +kernel
theorem dX5_thatFit_54 : decode cX5_thatFit 54 = .ok (.aload_n 1, 1) := by decide +kernel
theorem dX5_thatFit_55 : decode cX5_thatFit 55 = .ok (.invokevirtual 22, 3) := by decide +kernel
theorem dX5_thatFit_58 : decode cX5_thatFit 58 = .ok (.iload 4, 2) := by decide +kernel
theorem dX5_thatFit_60 : decode cX5_thatFit 60 = .ok (.ifCond .ne 17, 3) := by decide +kernel
theorem dX5_thatFit_63 : decode cX5_thatFit 63 = .ok (.aload_n 0, 1) := by decide +kernel
theorem dX5_thatFit_64 : decode cX5_thatFit 64 = .ok (.getfield 12, 3) := by decide +kernel
theorem dX5_thatFit_67 : decode cX5_thatFit 67 = .ok (.getfield 53, 3) := by decide +kernel
theorem dX5_thatFit_70 : decode cX5_thatFit 70 = .ok (.iload_n 2, 1) := by decide +kernel
theorem dX5_thatFit_71 : decode cX5_thatFit 71 = .ok (.iload 8, 2) := by decide +kernel
theorem dX5_thatFit_73 : decode cX5_thatFit 73 = .ok (.iastore, 1) := by decide +kernel
theorem dX5_thatFit_74 : decode cX5_thatFit 74 = .ok (.goto 34, 3) := by decide +kernel
theorem dX5_thatFit_77 : decode cX5_thatFit 77 = .ok (.iload 4, 2) := by decide +kernel
theorem dX5_thatFit_79 : decode cX5_thatFit 79 = .ok (.iconst 1, 1) := by decide +kernel
theorem dX5_thatFit_80 : decode cX5_thatFit 80 = .ok (.if_icmp .ne 17, 3) := by decide +kernel
theorem dX5_thatFit_83 : decode cX5_thatFit 83 = .ok (.aload_n 0, 1) := by decide +kernel
theorem dX5_thatFit_84 : decode cX5_thatFit 84 = .ok (.getfield 12, 3) := by decide +kernel
theorem dX5_thatFit_87 : decode cX5_thatFit 87 = .ok (.getfield 56, 3) := by decide +kernel
theorem dX5_thatFit_90 : decode cX5_thatFit 90 = .ok (.iload_n 2, 1) := by decide +kernel
theorem dX5_thatFit_91 : decode cX5_thatFit 91 = .ok (.iload 8, 2) := by decide +kernel
theorem dX5_thatFit_93 : decode cX5_thatFit 93 = .ok (.iastore, 1) := by decide +kernel
theorem dX5_thatFit_94 : decode cX5_thatFit 94 = .ok (.goto 14, 3) := by decide +kernel
theorem dX5_thatFit_97 : decode cX5_thatFit 97 = .ok (.aload_n 0, 1) := by decide +kernel
theorem dX5_thatFit_98 : decode cX5_thatFit 98 = .ok (.getfield 12, 3) := by decide +kernel
theorem dX5_thatFit_101 : decode cX5_thatFit 101 = .ok (.getfield 59, 3) := by decide +kernel
theorem dX5_thatFit_104 : decode cX5_thatFit 104 = .ok (.iload_n 2, 1) := by decide +kernel
theorem dX5_thatFit_105 : decode cX5_thatFit 105 = .ok (.iload 8, 2) := by decide +kernel
theorem dX5_thatFit_107 : decode cX5_thatFit 107 = .ok (.iastore, 1) := by decide +kernel
theorem dX5_thatFit_108 : decode cX5_thatFit 108 = .ok (.aload_n 0, 1) := by decide +kernel
theorem dX5_thatFit_109 : decode cX5_thatFit 109 = .ok (.iload_n 2, 1) := by decide +kernel
theorem dX5_thatFit_110 : decode cX5_thatFit 110 = .ok (.iload_n 3, 1) := by decide +kernel
theorem dX5_thatFit_111 : decode cX5_thatFit 111 = .ok (.iload 4, 2) := by decide +kernel
theorem dX5_thatFit_113 : decode cX5_thatFit 113 = .ok (.invokevirtual 62, 3) := by decide +kernel
theorem dX5_thatFit_116 : decode cX5_thatFit 116 = .ok (.ifCond .eq 12, 3) := by decide +kernel
theorem dX5_thatFit_119 : decode cX5_thatFit 119 = .ok (.iload 7, 2) := by decide +kernel
theorem dX5_thatFit_121 : decode cX5_thatFit 121 = .ok (.iconst 1, 1) := by decide +kernel
theorem dX5_thatFit_122 : decode cX5_thatFit 122 = .ok (.iload 8, 2) := by decide +kernel
theorem dX5_thatFit_124 : decode cX5_thatFit 124 = .ok (.ishl, 1) := by decide +kernel
theorem dX5_thatFit_125 : decode cX5_thatFit 125 = .ok (.ior, 1) := by decide +kernel
theorem dX5_thatFit_126 : decode cX5_thatFit 126 = .ok (.istore 7, 2) := by decide +kernel
theorem dX5_thatFit_128 : decode cX5_thatFit 128 = .ok (.iinc 8 1, 3) := by decide +kernel
theorem dX5_thatFit_131 : decode cX5_thatFit 131 = .ok (.goto (-88), 3) := by decide +kernel
theorem dX5_thatFit_134 : decode cX5_thatFit 134 = .ok (.iload 7, 2) := by decide +kernel
theorem dX5_thatFit_136 : decode cX5_thatFit 136 = .ok (.ireturn, 1) := by decide +kernel
set_option maxRecDepth 20000 in
theorem ggX5_goesAsTold_X3_passYear : GoodIn wsX5_goesAsTold wsX3_passYear := goodIn_r _ [8, 9, 10, 11, 12, 13, 14, 15, 7, 16, 17, 18, 19, 20, 21, 22, 23, 24, 25, 26, 27, 28, 29, 30, 31, 32, 33, 34, 35, 50, 51, 52, 53, 54, 55, 56, 57, 58, 59, 60, 61] (by decide +kernel) (by decide +kernel)
set_option maxRecDepth 20000 in
theorem gX5_goesAsTold_X3_passYear : GoodIn wsX5_goesAsTold (wsV RX5 30 RX3 yX3_passYear wsX3_passYear) := goodIn_app (goodIn_of _ (by decide +kernel)) ggX5_goesAsTold_X3_passYear
set_option maxRecDepth 20000 in
theorem ggX5_goesAsTold_X3_nearTo : GoodIn wsX5_goesAsTold wsX3_nearTo := goodIn_r _ [39, 9, 40, 41, 42, 7, 43, 35, 44, 45, 20, 46, 11, 47, 22, 23, 24, 25, 50, 51, 52, 53, 54, 55, 56, 57, 58, 59, 60, 61] (by decide +kernel) (by decide +kernel)
set_option maxRecDepth 20000 in
theorem gX5_goesAsTold_X3_nearTo : GoodIn wsX5_goesAsTold (wsV RX5 66 RX3 yX3_nearTo wsX3_nearTo) := goodIn_app (goodIn_of _ (by decide +kernel)) ggX5_goesAsTold_X3_nearTo
theorem dX5_goesAsTold_0 : decode cX5_goesAsTold 0 = .ok (.iconst 0, 1) := by decide +kernel
theorem dX5_goesAsTold_1 : decode cX5_goesAsTold 1 = .ok (.istore 4, 2) := by decide +kernel
theorem dX5_goesAsTold_3 : decode cX5_goesAsTold 3 = .ok (.iload 4, 2) := by decide +kernel
theorem dX5_goesAsTold_5 : decode cX5_goesAsTold 5 = .ok (.iload_n 2, 1) := by decide +kernel
theorem dX5_goesAsTold_6 : decode cX5_goesAsTold 6 = .ok (.if_icmp .ge 58, 3) := by decide +kernel
theorem dX5_goesAsTold_9 : decode cX5_goesAsTold 9 = .ok (.aload_n 0, 1) := by decide +kernel
theorem dX5_goesAsTold_10 : decode cX5_goesAsTold 10 = .ok (.getfield 12, 3) := by decide +kernel
theorem dX5_goesAsTold_13 : decode cX5_goesAsTold 13 = .ok (.invokevirtual 30, 3) := by decide +kernel
theorem dX5_goesAsTold_16 : decode cX5_goesAsTold 16 = .ok (.pop, 1) := by decide +kernel
theorem dX5_goesAsTold_17 : decode cX5_goesAsTold 17 = .ok (.iload_n 3, 1) := by decide +kernel
theorem dX5_goesAsTold_18 : decode cX5_goesAsTold 18 = .ok (.iconst 2, 1) := by decide +kernel
theorem dX5_goesAsTold_19 : decode cX5_goesAsTold 19 = .ok (.if_icmp .ne 14, 3) := by decide +kernel
theorem dX5_goesAsTold_22 : decode cX5_goesAsTold 22 = .ok (.aload_n 0, 1) := by decide +kernel
theorem dX5_goesAsTold_23 : decode cX5_goesAsTold 23 = .ok (.getfield 12, 3) := by decide +kernel
theorem dX5_goesAsTold_26 : decode cX5_goesAsTold 26 = .ok (.iload_n 1, 1) := by decide +kernel
theorem dX5_goesAsTold_27 : decode cX5_goesAsTold 27 = .ok (.invokevirtual 66, 3) := by decide +kernel
theorem dX5_goesAsTold_30 : decode cX5_goesAsTold 30 = .ok (.goto 12, 3) := by decide +kernel
theorem dX5_goesAsTold_33 : decode cX5_goesAsTold 33 = .ok (.aload_n 0, 1) := by decide +kernel
theorem dX5_goesAsTold_34 : decode cX5_goesAsTold 34 = .ok (.getfield 12, 3) := by decide +kernel
theorem dX5_goesAsTold_37 : decode cX5_goesAsTold 37 = .ok (.getfield 50, 3) := by decide +kernel
theorem dX5_goesAsTold_40 : decode cX5_goesAsTold 40 = .ok (.iload_n 1, 1) := by decide +kernel
theorem dX5_goesAsTold_41 : decode cX5_goesAsTold 41 = .ok (.iaload, 1) := by decide +kernel
theorem dX5_goesAsTold_42 : decode cX5_goesAsTold 42 = .ok (.istore 5, 2) := by decide +kernel
theorem dX5_goesAsTold_44 : decode cX5_goesAsTold 44 = .ok (.iload 5, 2) := by decide +kernel
theorem dX5_goesAsTold_46 : decode cX5_goesAsTold 46 = .ok (.aload_n 0, 1) := by decide +kernel
theorem dX5_goesAsTold_47 : decode cX5_goesAsTold 47 = .ok (.getfield 18, 3) := by decide +kernel
theorem dX5_goesAsTold_50 : decode cX5_goesAsTold 50 = .ok (.iload 4, 2) := by decide +kernel
theorem dX5_goesAsTold_52 : decode cX5_goesAsTold 52 = .ok (.iaload, 1) := by decide +kernel
theorem dX5_goesAsTold_53 : decode cX5_goesAsTold 53 = .ok (.if_icmp .eq 5, 3) := by decide +kernel
theorem dX5_goesAsTold_56 : decode cX5_goesAsTold 56 = .ok (.iconst 0, 1) := by decide +kernel
theorem dX5_goesAsTold_57 : decode cX5_goesAsTold 57 = .ok (.ireturn, 1) := by decide +kernel
theorem dX5_goesAsTold_58 : decode cX5_goesAsTold 58 = .ok (.iinc 4 1, 3) := by decide +kernel
theorem dX5_goesAsTold_61 : decode cX5_goesAsTold 61 = .ok (.goto (-58), 3) := by decide +kernel
theorem dX5_goesAsTold_64 : decode cX5_goesAsTold 64 = .ok (.iconst 1, 1) := by decide +kernel
theorem dX5_goesAsTold_65 : decode cX5_goesAsTold 65 = .ok (.ireturn, 1) := by decide +kernel
set_option maxRecDepth 20000 in
theorem ggX5_weightOfAll_X3_isUp : GoodIn wsX5_weightOfAll wsX3_isUp := goodIn_r _ [6, 7, 8, 9, 10, 11, 12, 13, 14, 15, 16, 17, 18, 19] (by decide +kernel) (by decide +kernel)
set_option maxRecDepth 20000 in
theorem gX5_weightOfAll_X3_isUp : GoodIn wsX5_weightOfAll (wsV RX5 34 RX3 yX3_isUp wsX3_isUp) := goodIn_app (goodIn_of _ (by decide +kernel)) ggX5_weightOfAll_X3_isUp
theorem dX5_weightOfAll_0 : decode cX5_weightOfAll 0 = .ok (.iconst 1, 1) := by decide +kernel
theorem dX5_weightOfAll_1 : decode cX5_weightOfAll 1 = .ok (.istore_n 2, 1) := by decide +kernel
theorem dX5_weightOfAll_2 : decode cX5_weightOfAll 2 = .ok (.iconst 0, 1) := by decide +kernel
theorem dX5_weightOfAll_3 : decode cX5_weightOfAll 3 = .ok (.istore_n 3, 1) := by decide +kernel
theorem dX5_weightOfAll_4 : decode cX5_weightOfAll 4 = .ok (.iload_n 3, 1) := by decide +kernel
theorem dX5_weightOfAll_5 : decode cX5_weightOfAll 5 = .ok (.aload_n 1, 1) := by decide +kernel
theorem dX5_weightOfAll_6 : decode cX5_weightOfAll 6 = .ok (.getfield 69, 3) := by decide +kernel
theorem dX5_weightOfAll_9 : decode cX5_weightOfAll 9 = .ok (.if_icmp .ge 22, 3) := by decide +kernel
theorem dX5_weightOfAll_12 : decode cX5_weightOfAll 12 = .ok (.aload_n 1, 1) := by decide +kernel
theorem dX5_weightOfAll_13 : decode cX5_weightOfAll 13 = .ok (.iload_n 3, 1) := by decide +kernel
theorem dX5_weightOfAll_14 : decode cX5_weightOfAll 14 = .ok (.invokevirtual 34, 3) := by decide +kernel
theorem dX5_weightOfAll_17 : decode cX5_weightOfAll 17 = .ok (.ifCond .ne 8, 3) := by decide +kernel
theorem dX5_weightOfAll_20 : decode cX5_weightOfAll 20 = .ok (.iload_n 2, 1) := by decide +kernel
theorem dX5_weightOfAll_21 : decode cX5_weightOfAll 21 = .ok (.bipush 10, 2) := by decide +kernel
theorem dX5_weightOfAll_23 : decode cX5_weightOfAll 23 = .ok (.imul, 1) := by decide +kernel
theorem dX5_weightOfAll_24 : decode cX5_weightOfAll 24 = .ok (.istore_n 2, 1) := by decide +kernel
theorem dX5_weightOfAll_25 : decode cX5_weightOfAll 25 = .ok (.iinc 3 1, 3) := by decide +kernel
theorem dX5_weightOfAll_28 : decode cX5_weightOfAll 28 = .ok (.goto (-24), 3) := by decide +kernel
theorem dX5_weightOfAll_31 : decode cX5_weightOfAll 31 = .ok (.iload_n 2, 1) := by decide +kernel
theorem dX5_weightOfAll_32 : decode cX5_weightOfAll 32 = .ok (.ireturn, 1) := by decide +kernel
set_option maxRecDepth 20000 in
theorem ggX5_weightOfNoneUp_X3_allUp : GoodIn wsX5_weightOfNoneUp wsX3_allUp := goodIn_r _ [7, 8, 9, 10, 11, 6, 12, 13, 63, 64, 65, 66, 67, 68, 69, 70, 71, 72, 73, 74] (by decide +kernel) (by decide +kernel)
set_option maxRecDepth 20000 in
theorem gX5_weightOfNoneUp_X3_allUp : GoodIn wsX5_weightOfNoneUp (wsV RX5 39 RX3 yX3_allUp wsX3_allUp) := goodIn_app (goodIn_of _ (by decide +kernel)) ggX5_weightOfNoneUp_X3_allUp
set_option maxRecDepth 20000 in
theorem ggX5_weightOfNoneUp_X5_weightOf : GoodIn wsX5_weightOfNoneUp wsX5_weightOf := goodIn_r _ [18, 1, 3, 4, 5, 6, 7, 8, 9, 10, 11, 12, 13, 19, 63, 64, 65, 66, 67, 68, 69, 70, 71, 72, 73, 74] (by decide +kernel) (by decide +kernel)
set_option maxRecDepth 20000 in
theorem gX5_weightOfNoneUp_X5_weightOf : GoodIn wsX5_weightOfNoneUp (wsV RX5 73 RX5 yX5_weightOf wsX5_weightOf) := goodIn_app (goodIn_of _ (by decide +kernel)) ggX5_weightOfNoneUp_X5_weightOf
set_option maxRecDepth 20000 in
theorem ggX5_weightOfNoneUp_X3_become : GoodIn wsX5_weightOfNoneUp wsX3_become := goodIn_r _ [23, 24, 8, 25, 26, 27, 28, 29, 13, 30, 31, 32, 63, 64, 65, 66, 67, 68, 69, 70, 71, 72, 73, 74] (by decide +kernel) (by decide +kernel)
set_option maxRecDepth 20000 in
theorem gX5_weightOfNoneUp_X3_become : GoodIn wsX5_weightOfNoneUp (wsV RX5 22 RX3 yX3_become wsX3_become) := goodIn_app (goodIn_of _ (by decide +kernel)) ggX5_weightOfNoneUp_X3_become
set_option maxRecDepth 20000 in
theorem ggX5_weightOfNoneUp_X5_letDig : GoodIn wsX5_weightOfNoneUp wsX5_letDig := goodIn_r _ [36, 2, 1, 37, 75, 76, 63, 64, 65, 66, 67, 68, 69, 70, 71, 72, 73, 74] (by decide +kernel) (by decide +kernel)
set_option maxRecDepth 20000 in
theorem gX5_weightOfNoneUp_X5_letDig : GoodIn wsX5_weightOfNoneUp (wsV RX5 77 RX5 yX5_letDig wsX5_letDig) := goodIn_app (goodIn_of _ (by decide +kernel)) ggX5_weightOfNoneUp_X5_letDig
set_option maxRecDepth 20000 in
theorem ggX5_weightOfNoneUp_X5_passYears : GoodIn wsX5_weightOfNoneUp wsX5_passYears := goodIn_r _ [41, 2, 42, 43, 44, 6, 45, 8, 46, 13, 27, 47, 48, 49, 50, 29, 51, 52, 53, 54, 9, 10, 11, 12, 55, 56, 57, 58, 31, 59, 60, 61, 62, 30, 75, 76, 63, 64, 65, 66, 67, 68, 69, 70, 71, 72, 73, 74] (by decide +kernel) (by decide +kernel)
set_option maxRecDepth 20000 in
theorem gX5_weightOfNoneUp_X5_passYears : GoodIn wsX5_weightOfNoneUp (wsV RX5 26 RX5 yX5_passYears wsX5_passYears) := goodIn_app (goodIn_of _ (by decide +kernel)) ggX5_weightOfNoneUp_X5_passYears
theorem dX5_weightOfNoneUp_0 : decode cX5_weightOfNoneUp 0 = .ok (.aload_n 1, 1) := by decide +kernel
theorem dX5_weightOfNoneUp_1 : decode cX5_weightOfNoneUp 1 = .ok (.invokevirtual 39, 3) := by decide +kernel
theorem dX5_weightOfNoneUp_4 : decode cX5_weightOfNoneUp 4 = .ok (.istore 4, 2) := by decide +kernel
theorem dX5_weightOfNoneUp_6 : decode cX5_weightOfNoneUp 6 = .ok (.iconst 0, 1) := by decide +kernel
theorem dX5_weightOfNoneUp_7 : decode cX5_weightOfNoneUp 7 = .ok (.istore 5, 2) := by decide +kernel
theorem dX5_weightOfNoneUp_9 : decode cX5_weightOfNoneUp 9 = .ok (.iconst 0, 1) := by decide +kernel
theorem dX5_weightOfNoneUp_10 : decode cX5_weightOfNoneUp 10 = .ok (.istore 6, 2) := by decide +kernel
theorem dX5_weightOfNoneUp_12 : decode cX5_weightOfNoneUp 12 = .ok (.iload 6, 2) := by decide +kernel
theorem dX5_weightOfNoneUp_14 : decode cX5_weightOfNoneUp 14 = .ok (.iconst 1, 1) := by decide +kernel
theorem dX5_weightOfNoneUp_15 : decode cX5_weightOfNoneUp 15 = .ok (.aload_n 1, 1) := by decide +kernel
theorem dX5_weightOfNoneUp_16 : decode cX5_weightOfNoneUp 16 = .ok (.getfield 69, 3) := by decide +kernel
theorem dX5_weightOfNoneUp_19 : decode cX5_weightOfNoneUp 19 = .ok (.ishl, 1) := by decide +kernel
theorem dX5_weightOfNoneUp_20 : decode cX5_weightOfNoneUp 20 = .ok (.if_icmp .ge 66, 3) := by decide +kernel
theorem dX5_weightOfNoneUp_23 : decode cX5_weightOfNoneUp 23 = .ok (.aload_n 0, 1) := by decide +kernel
theorem dX5_weightOfNoneUp_24 : decode cX5_weightOfNoneUp 24 = .ok (.aload_n 1, 1) := by decide +kernel
theorem dX5_weightOfNoneUp_25 : decode cX5_weightOfNoneUp 25 = .ok (.iload 6, 2) := by decide +kernel
theorem dX5_weightOfNoneUp_27 : decode cX5_weightOfNoneUp 27 = .ok (.iload_n 3, 1) := by decide +kernel
theorem dX5_weightOfNoneUp_28 : decode cX5_weightOfNoneUp 28 = .ok (.invokevirtual 73, 3) := by decide +kernel
theorem dX5_weightOfNoneUp_31 : decode cX5_weightOfNoneUp 31 = .ok (.istore 7, 2) := by decide +kernel
theorem dX5_weightOfNoneUp_33 : decode cX5_weightOfNoneUp 33 = .ok (.iload 7, 2) := by decide +kernel
theorem dX5_weightOfNoneUp_35 : decode cX5_weightOfNoneUp 35 = .ok (.ifCond .le 45, 3) := by decide +kernel
theorem dX5_weightOfNoneUp_38 : decode cX5_weightOfNoneUp 38 = .ok (.aload_n 0, 1) := by decide +kernel
theorem dX5_weightOfNoneUp_39 : decode cX5_weightOfNoneUp 39 = .ok (.getfield 12, 3) := by decide +kernel
theorem dX5_weightOfNoneUp_42 : decode cX5_weightOfNoneUp 42 = .ok (.aload_n 1, 1) := by decide +kernel
theorem dX5_weightOfNoneUp_43 : decode cX5_weightOfNoneUp 43 = .ok (.invokevirtual 22, 3) := by decide +kernel
theorem dX5_weightOfNoneUp_46 : decode cX5_weightOfNoneUp 46 = .ok (.aload_n 0, 1) := by decide +kernel
theorem dX5_weightOfNoneUp_47 : decode cX5_weightOfNoneUp 47 = .ok (.iload 6, 2) := by decide +kernel
theorem dX5_weightOfNoneUp_49 : decode cX5_weightOfNoneUp 49 = .ok (.invokevirtual 77, 3) := by decide +kernel
theorem dX5_weightOfNoneUp_52 : decode cX5_weightOfNoneUp 52 = .ok (.aload_n 0, 1) := by decide +kernel
theorem dX5_weightOfNoneUp_53 : decode cX5_weightOfNoneUp 53 = .ok (.iload_n 2, 1) := by decide +kernel
theorem dX5_weightOfNoneUp_54 : decode cX5_weightOfNoneUp 54 = .ok (.invokevirtual 26, 3) := by decide +kernel
theorem dX5_weightOfNoneUp_57 : decode cX5_weightOfNoneUp 57 = .ok (.iload 5, 2) := by decide +kernel
theorem dX5_weightOfNoneUp_59 : decode cX5_weightOfNoneUp 59 = .ok (.aload_n 0, 1) := by decide +kernel
theorem dX5_weightOfNoneUp_60 : decode cX5_weightOfNoneUp 60 = .ok (.getfield 12, 3) := by decide +kernel
theorem dX5_weightOfNoneUp_63 : decode cX5_weightOfNoneUp 63 = .ok (.invokevirtual 39, 3) := by decide +kernel
theorem dX5_weightOfNoneUp_66 : decode cX5_weightOfNoneUp 66 = .ok (.iload 4, 2) := by decide +kernel
theorem dX5_weightOfNoneUp_68 : decode cX5_weightOfNoneUp 68 = .ok (.if_icmp .ne 8, 3) := by decide +kernel
theorem dX5_weightOfNoneUp_71 : decode cX5_weightOfNoneUp 71 = .ok (.iload 7, 2) := by decide +kernel
theorem dX5_weightOfNoneUp_73 : decode cX5_weightOfNoneUp 73 = .ok (.goto 4, 3) := by decide +kernel
theorem dX5_weightOfNoneUp_76 : decode cX5_weightOfNoneUp 76 = .ok (.iconst 0, 1) := by decide +kernel
theorem dX5_weightOfNoneUp_77 : decode cX5_weightOfNoneUp 77 = .ok (.iadd, 1) := by decide +kernel
theorem dX5_weightOfNoneUp_78 : decode cX5_weightOfNoneUp 78 = .ok (.istore 5, 2) := by decide +kernel
theorem dX5_weightOfNoneUp_80 : decode cX5_weightOfNoneUp 80 = .ok (.iinc 6 1, 3) := by decide +kernel
theorem dX5_weightOfNoneUp_83 : decode cX5_weightOfNoneUp 83 = .ok (.goto (-71), 3) := by decide +kernel
theorem dX5_weightOfNoneUp_86 : decode cX5_weightOfNoneUp 86 = .ok (.iload 5, 2) := by decide +kernel
theorem dX5_weightOfNoneUp_88 : decode cX5_weightOfNoneUp 88 = .ok (.ireturn, 1) := by decide +kernel
theorem dX5_letDig_0 : decode cX5_letDig 0 = .ok (.iconst 0, 1) := by decide +kernel
theorem dX5_letDig_1 : decode cX5_letDig 1 = .ok (.istore_n 2, 1) := by decide +kernel
theorem dX5_letDig_2 : decode cX5_letDig 2 = .ok (.iload_n 2, 1) := by decide +kernel
theorem dX5_letDig_3 : decode cX5_letDig 3 = .ok (.aload_n 0, 1) := by decide +kernel
theorem dX5_letDig_4 : decode cX5_letDig 4 = .ok (.getfield 12, 3) := by decide +kernel
theorem dX5_letDig_7 : decode cX5_letDig 7 = .ok (.getfield 69, 3) := by decide +kernel
theorem dX5_letDig_10 : decode cX5_letDig 10 = .ok (.if_icmp .ge 26, 3) := by decide +kernel
theorem dX5_letDig_13 : decode cX5_letDig 13 = .ok (.aload_n 0, 1) := by decide +kernel
theorem dX5_letDig_14 : decode cX5_letDig 14 = .ok (.getfield 12, 3) := by decide +kernel
theorem dX5_letDig_17 : decode cX5_letDig 17 = .ok (.getfield 50, 3) := by decide +kernel
theorem dX5_letDig_20 : decode cX5_letDig 20 = .ok (.iload_n 2, 1) := by decide +kernel
theorem dX5_letDig_21 : decode cX5_letDig 21 = .ok (.dup2, 1) := by decide +kernel
theorem dX5_letDig_22 : decode cX5_letDig 22 = .ok (.iaload, 1) := by decide +kernel
theorem dX5_letDig_23 : decode cX5_letDig 23 = .ok (.iload_n 1, 1) := by decide +kernel
theorem dX5_letDig_24 : decode cX5_letDig 24 = .ok (.iload_n 2, 1) := by decide +kernel
theorem dX5_letDig_25 : decode cX5_letDig 25 = .ok (.ishr, 1) := by decide +kernel
theorem dX5_letDig_26 : decode cX5_letDig 26 = .ok (.iconst 1, 1) := by decide +kernel
theorem dX5_letDig_27 : decode cX5_letDig 27 = .ok (.iand, 1) := by decide +kernel
theorem dX5_letDig_28 : decode cX5_letDig 28 = .ok (.isub, 1) := by decide +kernel
theorem dX5_letDig_29 : decode cX5_letDig 29 = .ok (.iastore, 1) := by decide +kernel
theorem dX5_letDig_30 : decode cX5_letDig 30 = .ok (.iinc 2 1, 3) := by decide +kernel
theorem dX5_letDig_33 : decode cX5_letDig 33 = .ok (.goto (-31), 3) := by decide +kernel
theorem dX5_letDig_36 : decode cX5_letDig 36 = .ok (.return_, 1) := by decide +kernel
set_option maxRecDepth 20000 in
theorem ggX5_weightOf_X3_allUp : GoodIn wsX5_weightOf wsX3_allUp := goodIn_r _ [6, 7, 8, 9, 10, 5, 11, 12, 14, 15, 16, 17, 18, 19, 20, 21, 22, 23, 24, 25] (by decide +kernel) (by decide +kernel)
set_option maxRecDepth 20000 in
theorem gX5_weightOf_X3_allUp : GoodIn wsX5_weightOf (wsV RX5 39 RX3 yX3_allUp wsX3_allUp) := goodIn_app (goodIn_of _ (by decide +kernel)) ggX5_weightOf_X3_allUp
set_option maxRecDepth 20000 in
theorem ggX5_weightOf_X3_isUp : GoodIn wsX5_weightOf wsX3_isUp := goodIn_r _ [11, 12, 14, 15, 16, 17, 18, 19, 20, 21, 22, 23, 24, 25] (by decide +kernel) (by decide +kernel)
set_option maxRecDepth 20000 in
theorem gX5_weightOf_X3_isUp : GoodIn wsX5_weightOf (wsV RX5 34 RX3 yX3_isUp wsX3_isUp) := goodIn_app (goodIn_of _ (by decide +kernel)) ggX5_weightOf_X3_isUp
theorem dX5_weightOf_0 : decode cX5_weightOf 0 = .ok (.iload_n 2, 1) := by decide +kernel
theorem dX5_weightOf_1 : decode cX5_weightOf 1 = .ok (.aload_n 1, 1) := by decide +kernel
theorem dX5_weightOf_2 : decode cX5_weightOf 2 = .ok (.invokevirtual 39, 3) := by decide +kernel
theorem dX5_weightOf_5 : decode cX5_weightOf 5 = .ok (.iand, 1) := by decide +kernel
theorem dX5_weightOf_6 : decode cX5_weightOf 6 = .ok (.ifCond .eq 5, 3) := by decide +kernel
theorem dX5_weightOf_9 : decode cX5_weightOf 9 = .ok (.iconst 0, 1) := by decide +kernel
theorem dX5_weightOf_10 : decode cX5_weightOf 10 = .ok (.ireturn, 1) := by decide +kernel
theorem dX5_weightOf_11 : decode cX5_weightOf 11 = .ok (.iconst 1, 1) := by decide +kernel
theorem dX5_weightOf_12 : decode cX5_weightOf 12 = .ok (.istore 4, 2) := by decide +kernel
theorem dX5_weightOf_14 : decode cX5_weightOf 14 = .ok (.iconst 0, 1) := by decide +kernel
theorem dX5_weightOf_15 : decode cX5_weightOf 15 = .ok (.istore 5, 2) := by decide +kernel
theorem dX5_weightOf_17 : decode cX5_weightOf 17 = .ok (.iload 5, 2) := by decide +kernel
theorem dX5_weightOf_19 : decode cX5_weightOf 19 = .ok (.aload_n 1, 1) := by decide +kernel
theorem dX5_weightOf_20 : decode cX5_weightOf 20 = .ok (.getfield 69, 3) := by decide +kernel
theorem dX5_weightOf_23 : decode cX5_weightOf 23 = .ok (.if_icmp .ge 41, 3) := by decide +kernel
theorem dX5_weightOf_26 : decode cX5_weightOf 26 = .ok (.aload_n 1, 1) := by decide +kernel
theorem dX5_weightOf_27 : decode cX5_weightOf 27 = .ok (.iload 5, 2) := by decide +kernel
theorem dX5_weightOf_29 : decode cX5_weightOf 29 = .ok (.invokevirtual 34, 3) := by decide +kernel
theorem dX5_weightOf_32 : decode cX5_weightOf 32 = .ok (.ifCond .ne 26, 3) := by decide +kernel
theorem dX5_weightOf_35 : decode cX5_weightOf 35 = .ok (.iload 4, 2) := by decide +kernel
theorem dX5_weightOf_37 : decode cX5_weightOf 37 = .ok (.iload_n 2, 1) := by decide +kernel
theorem dX5_weightOf_38 : decode cX5_weightOf 38 = .ok (.iload 5, 2) := by decide +kernel
theorem dX5_weightOf_40 : decode cX5_weightOf 40 = .ok (.ishr, 1) := by decide +kernel
theorem dX5_weightOf_41 : decode cX5_weightOf 41 = .ok (.iconst 1, 1) := by decide +kernel
theorem dX5_weightOf_42 : decode cX5_weightOf 42 = .ok (.iand, 1) := by decide +kernel
theorem dX5_weightOf_43 : decode cX5_weightOf 43 = .ok (.iconst 1, 1) := by decide +kernel
theorem dX5_weightOf_44 : decode cX5_weightOf 44 = .ok (.if_icmp .ne 7, 3) := by decide +kernel
theorem dX5_weightOf_47 : decode cX5_weightOf 47 = .ok (.iload_n 3, 1) := by decide +kernel
theorem dX5_weightOf_48 : decode cX5_weightOf 48 = .ok (.goto 7, 3) := by decide +kernel
theorem dX5_weightOf_51 : decode cX5_weightOf 51 = .ok (.bipush 10, 2) := by decide +kernel
theorem dX5_weightOf_53 : decode cX5_weightOf 53 = .ok (.iload_n 3, 1) := by decide +kernel
theorem dX5_weightOf_54 : decode cX5_weightOf 54 = .ok (.isub, 1) := by decide +kernel
theorem dX5_weightOf_55 : decode cX5_weightOf 55 = .ok (.imul, 1) := by decide +kernel
theorem dX5_weightOf_56 : decode cX5_weightOf 56 = .ok (.istore 4, 2) := by decide +kernel
theorem dX5_weightOf_58 : decode cX5_weightOf 58 = .ok (.iinc 5 1, 3) := by decide +kernel
theorem dX5_weightOf_61 : decode cX5_weightOf 61 = .ok (.goto (-44), 3) := by decide +kernel
theorem dX5_weightOf_64 : decode cX5_weightOf 64 = .ok (.iload 4, 2) := by decide +kernel
theorem dX5_weightOf_66 : decode cX5_weightOf 66 = .ok (.ireturn, 1) := by decide +kernel
theorem dX6_init_0 : decode cX6_init 0 = .ok (.aload_n 0, 1) := by decide +kernel
theorem dX6_init_1 : decode cX6_init 1 = .ok (.invokespecial 3, 3) := by decide +kernel
theorem dX6_init_4 : decode cX6_init 4 = .ok (.aload_n 0, 1) := by decide +kernel
theorem dX6_init_5 : decode cX6_init 5 = .ok (.bipush 100, 2) := by decide +kernel
theorem dX6_init_7 : decode cX6_init 7 = .ok (.newarray .int, 2) := by decide +kernel
theorem dX6_init_9 : decode cX6_init 9 = .ok (.putfield 9, 3) := by decide +kernel
theorem dX6_init_12 : decode cX6_init 12 = .ok (.aload_n 0, 1) := by decide +kernel
theorem dX6_init_13 : decode cX6_init 13 = .ok (.iconst 0, 1) := by decide +kernel
theorem dX6_init_14 : decode cX6_init 14 = .ok (.putfield 15, 3) := by decide +kernel
theorem dX6_init_17 : decode cX6_init 17 = .ok (.aload_n 0, 1) := by decide +kernel
theorem dX6_init_18 : decode cX6_init 18 = .ok (.iconst 0, 1) := by decide +kernel
theorem dX6_init_19 : decode cX6_init 19 = .ok (.putfield 19, 3) := by decide +kernel
theorem dX6_init_22 : decode cX6_init 22 = .ok (.aload_n 0, 1) := by decide +kernel
theorem dX6_init_23 : decode cX6_init 23 = .ok (.iconst 0, 1) := by decide +kernel
theorem dX6_init_24 : decode cX6_init 24 = .ok (.putfield 22, 3) := by decide +kernel
theorem dX6_init_27 : decode cX6_init 27 = .ok (.return_, 1) := by decide +kernel
theorem dX6_append_0 : decode cX6_append 0 = .ok (.aload_n 0, 1) := by decide +kernel
theorem dX6_append_1 : decode cX6_append 1 = .ok (.getfield 15, 3) := by decide +kernel
theorem dX6_append_4 : decode cX6_append 4 = .ok (.bipush 100, 2) := by decide +kernel
theorem dX6_append_6 : decode cX6_append 6 = .ok (.if_icmp .ge 23, 3) := by decide +kernel
theorem dX6_append_9 : decode cX6_append 9 = .ok (.aload_n 0, 1) := by decide +kernel
theorem dX6_append_10 : decode cX6_append 10 = .ok (.getfield 9, 3) := by decide +kernel
theorem dX6_append_13 : decode cX6_append 13 = .ok (.aload_n 0, 1) := by decide +kernel
theorem dX6_append_14 : decode cX6_append 14 = .ok (.getfield 15, 3) := by decide +kernel
theorem dX6_append_17 : decode cX6_append 17 = .ok (.iload_n 1, 1) := by decide +kernel
theorem dX6_append_18 : decode cX6_append 18 = .ok (.iastore, 1) := by decide +kernel
theorem dX6_append_19 : decode cX6_append 19 = .ok (.aload_n 0, 1) := by decide +kernel
theorem dX6_append_20 : decode cX6_append 20 = .ok (.dup, 1) := by decide +kernel
theorem dX6_append_21 : decode cX6_append 21 = .ok (.getfield 15, 3) := by decide +kernel
theorem dX6_append_24 : decode cX6_append 24 = .ok (.iconst 1, 1) := by decide +kernel
theorem dX6_append_25 : decode cX6_append 25 = .ok (.iadd, 1) := by decide +kernel
theorem dX6_append_26 : decode cX6_append 26 = .ok (.putfield 15, 3) := by decide +kernel
theorem dX6_append_29 : decode cX6_append 29 = .ok (.return_, 1) := by decide +kernel
set_option maxRecDepth 20000 in
theorem ggX6_readInto_X6_readLaw : GoodIn wsX6_readInto wsX6_readLaw := goodIn_r _ [12, 13, 14, 15, 16, 17, 11, 18, 2, 1, 19, 20, 21, 22, 23, 24, 25, 26, 7, 27, 28, 29, 30, 31, 32, 33, 34, 35, 36, 37, 38, 39, 56, 57, 58, 59, 60, 61, 62, 63, 64, 65, 66, 67, 52, 53, 54, 55] (by decide +kernel) (by decide +kernel)
set_option maxRecDepth 20000 in
theorem gX6_readInto_X6_readLaw : GoodIn wsX6_readInto (wsV RX6 40 RX6 yX6_readLaw wsX6_readLaw) := goodIn_app (goodIn_of _ (by decide +kernel)) ggX6_readInto_X6_readLaw
set_option maxRecDepth 20000 in
theorem ggX6_readInto_X6_readThing : GoodIn wsX6_readInto wsX6_readThing := goodIn_r _ [43, 4, 1, 44, 45, 46, 47, 48, 14, 19, 20, 21, 11, 22, 23, 24, 25, 26, 7, 27, 49, 50, 51, 28, 29, 30, 31, 2, 32, 33, 34, 35, 36, 37, 38, 39, 15, 16, 17, 18, 56, 57, 58, 59, 60, 61, 62, 63, 64, 65, 66, 67, 52, 53, 54, 55] (by decide +kernel) (by decide +kernel)
set_option maxRecDepth 20000 in
theorem gX6_readInto_X6_readThing : GoodIn wsX6_readInto (wsV RX6 44 RX6 yX6_readThing wsX6_readThing) := goodIn_app (goodIn_of _ (by decide +kernel)) ggX6_readInto_X6_readThing
theorem dX6_readInto_0 : decode cX6_readInto 0 = .ok (.aload_n 0, 1) := by decide +kernel
theorem dX6_readInto_1 : decode cX6_readInto 1 = .ok (.iconst 0, 1) := by decide +kernel
theorem dX6_readInto_2 : decode cX6_readInto 2 = .ok (.putfield 19, 3) := by decide +kernel
theorem dX6_readInto_5 : decode cX6_readInto 5 = .ok (.aload_n 0, 1) := by decide +kernel
theorem dX6_readInto_6 : decode cX6_readInto 6 = .ok (.iconst 0, 1) := by decide +kernel
theorem dX6_readInto_7 : decode cX6_readInto 7 = .ok (.putfield 22, 3) := by decide +kernel
theorem dX6_readInto_10 : decode cX6_readInto 10 = .ok (.aload_n 1, 1) := by decide +kernel
theorem dX6_readInto_11 : decode cX6_readInto 11 = .ok (.iconst 1, 1) := by decide +kernel
theorem dX6_readInto_12 : decode cX6_readInto 12 = .ok (.putfield 25, 3) := by decide +kernel
theorem dX6_readInto_15 : decode cX6_readInto 15 = .ok (.aload_n 1, 1) := by decide +kernel
theorem dX6_readInto_16 : decode cX6_readInto 16 = .ok (.iconst 0, 1) := by decide +kernel
theorem dX6_readInto_17 : decode cX6_readInto 17 = .ok (.putfield 31, 3) := by decide +kernel
theorem dX6_readInto_20 : decode cX6_readInto 20 = .ok (.aload_n 1, 1) := by decide +kernel
theorem dX6_readInto_21 : decode cX6_readInto 21 = .ok (.iconst 0, 1) := by decide +kernel
theorem dX6_readInto_22 : decode cX6_readInto 22 = .ok (.putfield 34, 3) := by decide +kernel
theorem dX6_readInto_25 : decode cX6_readInto 25 = .ok (.aload_n 1, 1) := by decide +kernel
theorem dX6_readInto_26 : decode cX6_readInto 26 = .ok (.iconst 0, 1) := by decide +kernel
theorem dX6_readInto_27 : decode cX6_readInto 27 = .ok (.putfield 37, 3) := by decide +kernel
theorem dX6_readInto_30 : decode cX6_readInto 30 = .ok (.aload_n 0, 1) := by decide +kernel
theorem dX6_readInto_31 : decode cX6_readInto 31 = .ok (.aload_n 1, 1) := by decide +kernel
theorem dX6_readInto_32 : decode cX6_readInto 32 = .ok (.invokevirtual 40, 3) := by decide +kernel
theorem dX6_readInto_35 : decode cX6_readInto 35 = .ok (.iconst 0, 1) := by decide +kernel
theorem dX6_readInto_36 : decode cX6_readInto 36 = .ok (.istore_n 2, 1) := by decide +kernel
theorem dX6_readInto_37 : decode cX6_readInto 37 = .ok (.iload_n 2, 1) := by decide +kernel
theorem dX6_readInto_38 : decode cX6_readInto 38 = .ok (.bipush 100, 2) := by decide +kernel
theorem dX6_readInto_40 : decode cX6_readInto 40 = .ok (.if_icmp .ge 32, 3) := by decide +kernel
theorem dX6_readInto_43 : decode cX6_readInto 43 = .ok (.aload_n 0, 1) := by decide +kernel
theorem dX6_readInto_44 : decode cX6_readInto 44 = .ok (.getfield 22, 3) := by decide +kernel
theorem dX6_readInto_47 : decode cX6_readInto 47 = .ok (.ifCond .ne 25, 3) := by decide +kernel
theorem dX6_readInto_50 : decode cX6_readInto 50 = .ok (.aload_n 0, 1) := by decide +kernel
theorem dX6_readInto_51 : decode cX6_readInto 51 = .ok (.getfield 19, 3) := by decide +kernel
theorem dX6_readInto_54 : decode cX6_readInto 54 = .ok (.aload_n 0, 1) := by decide +kernel
theorem dX6_readInto_55 : decode cX6_readInto 55 = .ok (.getfield 15, 3) := by decide +kernel
theorem dX6_readInto_58 : decode cX6_readInto 58 = .ok (.if_icmp .ge 14, 3) := by decide +kernel
theorem dX6_readInto_61 : decode cX6_readInto 61 = .ok (.aload_n 0, 1) := by decide +kernel
theorem dX6_readInto_62 : decode cX6_readInto 62 = .ok (.aload_n 1, 1) := by decide +kernel
theorem dX6_readInto_63 : decode cX6_readInto 63 = .ok (.invokevirtual 44, 3) := by decide +kernel
theorem dX6_readInto_66 : decode cX6_readInto 66 = .ok (.iinc 2 1, 3) := by decide +kernel
theorem dX6_readInto_69 : decode cX6_readInto 69 = .ok (.goto (-32), 3) := by decide +kernel
theorem dX6_readInto_72 : decode cX6_readInto 72 = .ok (.aload_n 0, 1) := by decide +kernel
theorem dX6_readInto_73 : decode cX6_readInto 73 = .ok (.getfield 22, 3) := by decide +kernel
theorem dX6_readInto_76 : decode cX6_readInto 76 = .ok (.ireturn, 1) := by decide +kernel
set_option maxRecDepth 20000 in
theorem ggX6_readLaw_X6_pass : GoodIn wsX6_readLaw wsX6_pass := goodIn_r _ [7, 8, 9, 10, 11, 12, 6, 13, 14, 15, 16, 17, 18, 19, 20, 21, 22, 23, 44, 45, 46, 47] (by decide +kernel) (by decide +kernel)
set_option maxRecDepth 20000 in
theorem gX6_readLaw_X6_pass : GoodIn wsX6_readLaw (wsV RX6 47 RX6 yX6_pass wsX6_pass) := goodIn_app (goodIn_of _ (by decide +kernel)) ggX6_readLaw_X6_pass
set_option maxRecDepth 20000 in
theorem ggX6_readLaw_X6_number : GoodIn wsX6_readLaw wsX6_number := goodIn_r _ [27, 8, 9, 14, 15, 16, 6, 17, 18, 19, 28, 29, 30, 31, 20, 21, 22, 23, 44, 45, 46, 47] (by decide +kernel) (by decide +kernel)
set_option maxRecDepth 20000 in
theorem gX6_readLaw_X6_number : GoodIn wsX6_readLaw (wsV RX6 51 RX6 yX6_number wsX6_number) := goodIn_app (goodIn_of _ (by decide +kernel)) ggX6_readLaw_X6_number
theorem dX6_readLaw_0 : decode cX6_readLaw 0 = .ok (.aload_n 0, 1) := by decide +kernel
theorem dX6_readLaw_1 : decode cX6_readLaw 1 = .ok (.bipush 109, 2) := by decide +kernel
theorem dX6_readLaw_3 : decode cX6_readLaw 3 = .ok (.invokevirtual 47, 3) := by decide +kernel
theorem dX6_readLaw_6 : decode cX6_readLaw 6 = .ok (.aload_n 1, 1) := by decide +kernel
theorem dX6_readLaw_7 : decode cX6_readLaw 7 = .ok (.aload_n 0, 1) := by decide +kernel
theorem dX6_readLaw_8 : decode cX6_readLaw 8 = .ok (.iconst 0, 1) := by decide +kernel
theorem dX6_readLaw_9 : decode cX6_readLaw 9 = .ok (.bipush 9, 2) := by decide +kernel
theorem dX6_readLaw_11 : decode cX6_readLaw 11 = .ok (.invokevirtual 51, 3) := by decide +kernel
theorem dX6_readLaw_14 : decode cX6_readLaw 14 = .ok (.putfield 55, 3) := by decide +kernel
theorem dX6_readLaw_17 : decode cX6_readLaw 17 = .ok (.aload_n 0, 1) := by decide +kernel
theorem dX6_readLaw_18 : decode cX6_readLaw 18 = .ok (.bipush 44, 2) := by decide +kernel
theorem dX6_readLaw_20 : decode cX6_readLaw 20 = .ok (.invokevirtual 47, 3) := by decide +kernel
theorem dX6_readLaw_23 : decode cX6_readLaw 23 = .ok (.aload_n 1, 1) := by decide +kernel
theorem dX6_readLaw_24 : decode cX6_readLaw 24 = .ok (.aload_n 0, 1) := by decide +kernel
theorem dX6_readLaw_25 : decode cX6_readLaw 25 = .ok (.iconst 1, 1) := by decide +kernel
theorem dX6_readLaw_26 : decode cX6_readLaw 26 = .ok (.bipush 6, 2) := by decide +kernel
theorem dX6_readLaw_28 : decode cX6_readLaw 28 = .ok (.invokevirtual 51, 3) := by decide +kernel
theorem dX6_readLaw_31 : decode cX6_readLaw 31 = .ok (.putfield 58, 3) := by decide +kernel
theorem dX6_readLaw_34 : decode cX6_readLaw 34 = .ok (.aload_n 0, 1) := by decide +kernel
theorem dX6_readLaw_35 : decode cX6_readLaw 35 = .ok (.bipush 59, 2) := by decide +kernel
theorem dX6_readLaw_37 : decode cX6_readLaw 37 = .ok (.invokevirtual 47, 3) := by decide +kernel
theorem dX6_readLaw_40 : decode cX6_readLaw 40 = .ok (.return_, 1) := by decide +kernel
set_option maxRecDepth 20000 in
theorem ggX6_readThing_X6_next : GoodIn wsX6_readThing wsX6_next := goodIn_r _ [13, 2, 14, 15, 16, 12, 17, 18, 19, 52, 53, 54, 55] (by decide +kernel) (by decide +kernel)
set_option maxRecDepth 20000 in
theorem gX6_readThing_X6_next : GoodIn wsX6_readThing (wsV RX6 61 RX6 yX6_next wsX6_next) := goodIn_app (goodIn_of _ (by decide +kernel)) ggX6_readThing_X6_next
set_option maxRecDepth 20000 in
theorem ggX6_readThing_X6_sortOf : GoodIn wsX6_readThing wsX6_sortOf := goodIn_r _ [22] (by decide +kernel) (by decide +kernel)
set_option maxRecDepth 20000 in
theorem gX6_readThing_X6_sortOf : GoodIn wsX6_readThing (va_wsS RX6 65 yX6_sortOf wsX6_sortOf) := goodIn_app (goodIn_of _ (by decide +kernel)) ggX6_readThing_X6_sortOf
set_option maxRecDepth 20000 in
theorem ggX6_readThing_X6_fail : GoodIn wsX6_readThing wsX6_fail := goodIn_r _ [26, 27, 52, 53, 54, 55] (by decide +kernel) (by decide +kernel)
set_option maxRecDepth 20000 in
theorem gX6_readThing_X6_fail : GoodIn wsX6_readThing (wsV RX6 69 RX6 yX6_fail wsX6_fail) := goodIn_app (goodIn_of _ (by decide +kernel)) ggX6_readThing_X6_fail
set_option maxRecDepth 20000 in
theorem ggX6_readThing_X6_number : GoodIn wsX6_readThing wsX6_number := goodIn_r _ [31, 27, 2, 14, 15, 16, 12, 17, 18, 19, 32, 33, 34, 35, 23, 24, 25, 26, 52, 53, 54, 55] (by decide +kernel) (by decide +kernel)
set_option maxRecDepth 20000 in
theorem gX6_readThing_X6_number : GoodIn wsX6_readThing (wsV RX6 51 RX6 yX6_number wsX6_number) := goodIn_app (goodIn_of _ (by decide +kernel)) ggX6_readThing_X6_number
set_option maxRecDepth 20000 in
theorem ggX6_readThing_X6_pass : GoodIn wsX6_readThing wsX6_pass := goodIn_r _ [39, 27, 2, 9, 10, 11, 12, 13, 14, 15, 16, 17, 18, 19, 23, 24, 25, 26, 52, 53, 54, 55] (by decide +kernel) (by decide +kernel)
set_option maxRecDepth 20000 in
theorem gX6_readThing_X6_pass : GoodIn wsX6_readThing (wsV RX6 47 RX6 yX6_pass wsX6_pass) := goodIn_app (goodIn_of _ (by decide +kernel)) ggX6_readThing_X6_pass
theorem dX6_readThing_0 : decode cX6_readThing 0 = .ok (.aload_n 0, 1) := by decide +kernel
theorem dX6_readThing_1 : decode cX6_readThing 1 = .ok (.invokevirtual 61, 3) := by decide +kernel
theorem dX6_readThing_4 : decode cX6_readThing 4 = .ok (.invokestatic 65, 3) := by decide +kernel
theorem dX6_readThing_7 : decode cX6_readThing 7 = .ok (.istore_n 2, 1) := by decide +kernel
theorem dX6_readThing_8 : decode cX6_readThing 8 = .ok (.iload_n 2, 1) := by decide +kernel
theorem dX6_readThing_9 : decode cX6_readThing 9 = .ok (.ifCond .ne 9, 3) := by decide +kernel
theorem dX6_readThing_12 : decode cX6_readThing 12 = .ok (.aload_n 0, 1) := by decide +kernel
theorem dX6_readThing_13 : decode cX6_readThing 13 = .ok (.iconst 1, 1) := by decide +kernel
theorem dX6_readThing_14 : decode cX6_readThing 14 = .ok (.invokevirtual 69, 3) := by decide +kernel
theorem dX6_readThing_17 : decode cX6_readThing 17 = .ok (.return_, 1) := by decide +kernel
theorem dX6_readThing_18 : decode cX6_readThing 18 = .ok (.aload_n 1, 1) := by decide +kernel
theorem dX6_readThing_19 : decode cX6_readThing 19 = .ok (.getfield 31, 3) := by decide +kernel
theorem dX6_readThing_22 : decode cX6_readThing 22 = .ok (.istore_n 3, 1) := by decide +kernel
theorem dX6_readThing_23 : decode cX6_readThing 23 = .ok (.iload_n 3, 1) := by decide +kernel
theorem dX6_readThing_24 : decode cX6_readThing 24 = .ok (.iconst 5, 1) := by decide +kernel
theorem dX6_readThing_25 : decode cX6_readThing 25 = .ok (.if_icmp .lt 9, 3) := by decide +kernel
theorem dX6_readThing_28 : decode cX6_readThing 28 = .ok (.aload_n 0, 1) := by decide +kernel
theorem dX6_readThing_29 : decode cX6_readThing 29 = .ok (.iconst 3, 1) := by decide +kernel
theorem dX6_readThing_30 : decode cX6_readThing 30 = .ok (.invokevirtual 69, 3) := by decide +kernel
theorem dX6_readThing_33 : decode cX6_readThing 33 = .ok (.return_, 1) := by decide +kernel
theorem dX6_readThing_34 : decode cX6_readThing 34 = .ok (.aload_n 0, 1) := by decide +kernel
theorem dX6_readThing_35 : decode cX6_readThing 35 = .ok (.dup, 1) := by decide +kernel
theorem dX6_readThing_36 : decode cX6_readThing 36 = .ok (.getfield 19, 3) := by decide +kernel
theorem dX6_readThing_39 : decode cX6_readThing 39 = .ok (.iconst 1, 1) := by decide +kernel
theorem dX6_readThing_40 : decode cX6_readThing 40 = .ok (.iadd, 1) := by decide +kernel
theorem dX6_readThing_41 : decode cX6_readThing 41 = .ok (.putfield 19, 3) := by decide +kernel
theorem dX6_readThing_44 : decode cX6_readThing 44 = .ok (.aload_n 1, 1) := by decide +kernel
theorem dX6_readThing_45 : decode cX6_readThing 45 = .ok (.getfield 72, 3) := by decide +kernel
theorem dX6_readThing_48 : decode cX6_readThing 48 = .ok (.iload_n 3, 1) := by decide +kernel
theorem dX6_readThing_49 : decode cX6_readThing 49 = .ok (.iload_n 2, 1) := by decide +kernel
theorem dX6_readThing_50 : decode cX6_readThing 50 = .ok (.iastore, 1) := by decide +kernel
theorem dX6_readThing_51 : decode cX6_readThing 51 = .ok (.aload_n 1, 1) := by decide +kernel
theorem dX6_readThing_52 : decode cX6_readThing 52 = .ok (.getfield 75, 3) := by decide +kernel
theorem dX6_readThing_55 : decode cX6_readThing 55 = .ok (.iload_n 3, 1) := by decide +kernel
theorem dX6_readThing_56 : decode cX6_readThing 56 = .ok (.aload_n 0, 1) := by decide +kernel
theorem dX6_readThing_57 : decode cX6_readThing 57 = .ok (.iconst 0, 1) := by decide +kernel
theorem dX6_readThing_58 : decode cX6_readThing 58 = .ok (.bipush 40, 2) := by decide +kernel
theorem dX6_readThing_60 : decode cX6_readThing 60 = .ok (.invokevirtual 51, 3) := by decide +kernel
theorem dX6_readThing_63 : decode cX6_readThing 63 = .ok (.iastore, 1) := by decide +kernel
theorem dX6_readThing_64 : decode cX6_readThing 64 = .ok (.aload_n 0, 1) := by decide +kernel
theorem dX6_readThing_65 : decode cX6_readThing 65 = .ok (.bipush 44, 2) := by decide +kernel
theorem dX6_readThing_67 : decode cX6_readThing 67 = .ok (.invokevirtual 47, 3) := by decide +kernel
theorem dX6_readThing_70 : decode cX6_readThing 70 = .ok (.aload_n 1, 1) := by decide +kernel
theorem dX6_readThing_71 : decode cX6_readThing 71 = .ok (.getfield 78, 3) := by decide +kernel
theorem dX6_readThing_74 : decode cX6_readThing 74 = .ok (.iload_n 3, 1) := by decide +kernel
theorem dX6_readThing_75 : decode cX6_readThing 75 = .ok (.aload_n 0, 1) := by decide +kernel
theorem dX6_readThing_76 : decode cX6_readThing 76 = .ok (.iconst 0, 1) := by decide +kernel
theorem dX6_readThing_77 : decode cX6_readThing 77 = .ok (.iconst 3, 1) := by decide +kernel
theorem dX6_readThing_78 : decode cX6_readThing 78 = .ok (.invokevirtual 51, 3) := by decide +kernel
theorem dX6_readThing_81 : decode cX6_readThing 81 = .ok (.iastore, 1) := by decide +kernel
theorem dX6_readThing_82 : decode cX6_readThing 82 = .ok (.aload_n 0, 1) := by decide +kernel
theorem dX6_readThing_83 : decode cX6_readThing 83 = .ok (.bipush 44, 2) := by decide +kernel
theorem dX6_readThing_85 : decode cX6_readThing 85 = .ok (.invokevirtual 47, 3) := by decide +kernel
theorem dX6_readThing_88 : decode cX6_readThing 88 = .ok (.aload_n 1, 1) := by decide +kernel
theorem dX6_readThing_89 : decode cX6_readThing 89 = .ok (.getfield 81, 3) := by decide +kernel
theorem dX6_readThing_92 : decode cX6_readThing 92 = .ok (.iload_n 3, 1) := by decide +kernel
theorem dX6_readThing_93 : decode cX6_readThing 93 = .ok (.aload_n 0, 1) := by decide +kernel
theorem dX6_readThing_94 : decode cX6_readThing 94 = .ok (.iconst 1, 1) := by decide +kernel
theorem dX6_readThing_95 : decode cX6_readThing 95 = .ok (.bipush 9, 2) := by decide +kernel
theorem dX6_readThing_97 : decode cX6_readThing 97 = .ok (.invokevirtual 51, 3) := by decide +kernel
theorem dX6_readThing_100 : decode cX6_readThing 100 = .ok (.iastore, 1) := by decide +kernel
theorem dX6_readThing_101 : decode cX6_readThing 101 = .ok (.aload_n 0, 1) := by decide +kernel
theorem dX6_readThing_102 : decode cX6_readThing 102 = .ok (.bipush 44, 2) := by decide +kernel
theorem dX6_readThing_104 : decode cX6_readThing 104 = .ok (.invokevirtual 47, 3) := by decide +kernel
theorem dX6_readThing_107 : decode cX6_readThing 107 = .ok (.aload_n 1, 1) := by decide +kernel
theorem dX6_readThing_108 : decode cX6_readThing 108 = .ok (.getfield 84, 3) := by decide +kernel
theorem dX6_readThing_111 : decode cX6_readThing 111 = .ok (.iload_n 3, 1) := by decide +kernel
theorem dX6_readThing_112 : decode cX6_readThing 112 = .ok (.aload_n 0, 1) := by decide +kernel
theorem dX6_readThing_113 : decode cX6_readThing 113 = .ok (.iconst 0, 1) := by decide +kernel
theorem dX6_readThing_114 : decode cX6_readThing 114 = .ok (.iconst 1, 1) := by decide +kernel
theorem dX6_readThing_115 : decode cX6_readThing 115 = .ok (.aload_n 1, 1) := by decide +kernel
theorem dX6_readThing_116 : decode cX6_readThing 116 = .ok (.getfield 58, 3) := by decide +kernel
theorem dX6_readThing_119 : decode cX6_readThing 119 = .ok (.ishl, 1) := by decide +kernel
theorem dX6_readThing_120 : decode cX6_readThing 120 = .ok (.iconst 1, 1) := by decide +kernel
theorem dX6_readThing_121 : decode cX6_readThing 121 = .ok (.isub, 1) := by decide +kernel
theorem dX6_readThing_122 : decode cX6_readThing 122 = .ok (.invokevirtual 51, 3) := by decide +kernel
theorem dX6_readThing_125 : decode cX6_readThing 125 = .ok (.iastore, 1) := by decide +kernel
theorem dX6_readThing_126 : decode cX6_readThing 126 = .ok (.aload_n 0, 1) := by decide +kernel
theorem dX6_readThing_127 : decode cX6_readThing 127 = .ok (.bipush 59, 2) := by decide +kernel
theorem dX6_readThing_129 : decode cX6_readThing 129 = .ok (.invokevirtual 47, 3) := by decide +kernel
theorem dX6_readThing_132 : decode cX6_readThing 132 = .ok (.aload_n 1, 1) := by decide +kernel
theorem dX6_readThing_133 : decode cX6_readThing 133 = .ok (.iload_n 3, 1) := by decide +kernel
theorem dX6_readThing_134 : decode cX6_readThing 134 = .ok (.iconst 1, 1) := by decide +kernel
theorem dX6_readThing_135 : decode cX6_readThing 135 = .ok (.iadd, 1) := by decide +kernel
theorem dX6_readThing_136 : decode cX6_readThing 136 = .ok (.putfield 31, 3) := by decide +kernel
theorem dX6_readThing_139 : decode cX6_readThing 139 = .ok (.return_, 1) := by decide +kernel
theorem dX6_sortOf_0 : decode cX6_sortOf 0 = .ok (.iload_n 0, 1) := by decide +kernel
theorem dX6_sortOf_1 : decode cX6_sortOf 1 = .ok (.lookupswitch 61 #[(99, 53), (103, 59), (105, 51), (115, 57), (119, 55)], 51) := by decide +kernel
theorem dX6_sortOf_52 : decode cX6_sortOf 52 = .ok (.iconst 1, 1) := by decide +kernel
theorem dX6_sortOf_53 : decode cX6_sortOf 53 = .ok (.ireturn, 1) := by decide +kernel
theorem dX6_sortOf_54 : decode cX6_sortOf 54 = .ok (.iconst 2, 1) := by decide +kernel
theorem dX6_sortOf_55 : decode cX6_sortOf 55 = .ok (.ireturn, 1) := by decide +kernel
theorem dX6_sortOf_56 : decode cX6_sortOf 56 = .ok (.iconst 3, 1) := by decide +kernel
theorem dX6_sortOf_57 : decode cX6_sortOf 57 = .ok (.ireturn, 1) := by decide +kernel
theorem dX6_sortOf_58 : decode cX6_sortOf 58 = .ok (.iconst 4, 1) := by decide +kernel
theorem dX6_sortOf_59 : decode cX6_sortOf 59 = .ok (.ireturn, 1) := by decide +kernel
theorem dX6_sortOf_60 : decode cX6_sortOf 60 = .ok (.iconst 5, 1) := by decide +kernel
theorem dX6_sortOf_61 : decode cX6_sortOf 61 = .ok (.ireturn, 1) := by decide +kernel
theorem dX6_sortOf_62 : decode cX6_sortOf 62 = .ok (.iconst 0, 1) := by decide +kernel
theorem dX6_sortOf_63 : decode cX6_sortOf 63 = .ok (.ireturn, 1) := by decide +kernel
theorem dX6_fail_0 : decode cX6_fail 0 = .ok (.aload_n 0, 1) := by decide +kernel
theorem dX6_fail_1 : decode cX6_fail 1 = .ok (.getfield 22, 3) := by decide +kernel
theorem dX6_fail_4 : decode cX6_fail 4 = .ok (.ifCond .ne 8, 3) := by decide +kernel
theorem dX6_fail_7 : decode cX6_fail 7 = .ok (.aload_n 0, 1) := by decide +kernel
theorem dX6_fail_8 : decode cX6_fail 8 = .ok (.iload_n 1, 1) := by decide +kernel
theorem dX6_fail_9 : decode cX6_fail 9 = .ok (.putfield 22, 3) := by decide +kernel
theorem dX6_fail_12 : decode cX6_fail 12 = .ok (.return_, 1) := by decide +kernel
set_option maxRecDepth 20000 in
theorem ggX6_next_X6_byteAt : GoodIn wsX6_next wsX6_byteAt := goodIn_r _ [6, 7, 8, 9, 10, 11, 12] (by decide +kernel) (by decide +kernel)
set_option maxRecDepth 20000 in
theorem gX6_next_X6_byteAt : GoodIn wsX6_next (wsV RX6 87 RX6 yX6_byteAt wsX6_byteAt) := goodIn_app (goodIn_of _ (by decide +kernel)) ggX6_next_X6_byteAt
theorem dX6_next_0 : decode cX6_next 0 = .ok (.aload_n 0, 1) := by decide +kernel
theorem dX6_next_1 : decode cX6_next 1 = .ok (.aload_n 0, 1) := by decide +kernel
theorem dX6_next_2 : decode cX6_next 2 = .ok (.getfield 19, 3) := by decide +kernel
theorem dX6_next_5 : decode cX6_next 5 = .ok (.invokevirtual 87, 3) := by decide +kernel
theorem dX6_next_8 : decode cX6_next 8 = .ok (.ireturn, 1) := by decide +kernel
theorem dX6_byteAt_0 : decode cX6_byteAt 0 = .ok (.iload_n 1, 1) := by decide +kernel
theorem dX6_byteAt_1 : decode cX6_byteAt 1 = .ok (.ifCond .lt 26, 3) := by decide +kernel
theorem dX6_byteAt_4 : decode cX6_byteAt 4 = .ok (.iload_n 1, 1) := by decide +kernel
theorem dX6_byteAt_5 : decode cX6_byteAt 5 = .ok (.aload_n 0, 1) := by decide +kernel
theorem dX6_byteAt_6 : decode cX6_byteAt 6 = .ok (.getfield 15, 3) := by decide +kernel
theorem dX6_byteAt_9 : decode cX6_byteAt 9 = .ok (.if_icmp .ge 18, 3) := by decide +kernel
theorem dX6_byteAt_12 : decode cX6_byteAt 12 = .ok (.iload_n 1, 1) := by decide +kernel
theorem dX6_byteAt_13 : decode cX6_byteAt 13 = .ok (.bipush 100, 2) := by decide +kernel
theorem dX6_byteAt_15 : decode cX6_byteAt 15 = .ok (.if_icmp .ge 12, 3) := by decide +kernel
theorem dX6_byteAt_18 : decode cX6_byteAt 18 = .ok (.aload_n 0, 1) := by decide +kernel
theorem dX6_byteAt_19 : decode cX6_byteAt 19 = .ok (.getfield 9, 3) := by decide +kernel
theorem dX6_byteAt_22 : decode cX6_byteAt 22 = .ok (.iload_n 1, 1) := by decide +kernel
theorem dX6_byteAt_23 : decode cX6_byteAt 23 = .ok (.iaload, 1) := by decide +kernel
theorem dX6_byteAt_24 : decode cX6_byteAt 24 = .ok (.goto 4, 3) := by decide +kernel
theorem dX6_byteAt_27 : decode cX6_byteAt 27 = .ok (.iconst (-1), 1) := by decide +kernel
theorem dX6_byteAt_28 : decode cX6_byteAt 28 = .ok (.ireturn, 1) := by decide +kernel
set_option maxRecDepth 20000 in
theorem ggX6_pass_X6_next : GoodIn wsX6_pass wsX6_next := goodIn_r _ [7, 2, 8, 9, 10, 6, 11, 12, 13, 18, 19, 20, 21] (by decide +kernel) (by decide +kernel)
set_option maxRecDepth 20000 in
theorem gX6_pass_X6_next : GoodIn wsX6_pass (wsV RX6 61 RX6 yX6_next wsX6_next) := goodIn_app (goodIn_of _ (by decide +kernel)) ggX6_pass_X6_next
set_option maxRecDepth 20000 in
theorem ggX6_pass_X6_fail : GoodIn wsX6_pass wsX6_fail := goodIn_r _ [17, 1, 18, 19, 20, 21] (by decide +kernel) (by decide +kernel)
set_option maxRecDepth 20000 in
theorem gX6_pass_X6_fail : GoodIn wsX6_pass (wsV RX6 69 RX6 yX6_fail wsX6_fail) := goodIn_app (goodIn_of _ (by decide +kernel)) ggX6_pass_X6_fail
theorem dX6_pass_0 : decode cX6_pass 0 = .ok (.aload_n 0, 1) := by decide +kernel
theorem dX6_pass_1 : decode cX6_pass 1 = .ok (.getfield 22, 3) := by decide +kernel
theorem dX6_pass_4 : decode cX6_pass 4 = .ok (.ifCond .eq 4, 3) := by decide +kernel
theorem dX6_pass_7 : decode cX6_pass 7 = .ok (.return_, 1) := by decide +kernel
theorem dX6_pass_8 : decode cX6_pass 8 = .ok (.aload_n 0, 1) := by decide +kernel
theorem dX6_pass_9 : decode cX6_pass 9 = .ok (.invokevirtual 61, 3) := by decide +kernel
theorem dX6_pass_12 : decode cX6_pass 12 = .ok (.iload_n 1, 1) := by decide +kernel
theorem dX6_pass_13 : decode cX6_pass 13 = .ok (.if_icmp .ne 16, 3) := by decide +kernel
theorem dX6_pass_16 : decode cX6_pass 16 = .ok (.aload_n 0, 1) := by decide +kernel
theorem dX6_pass_17 : decode cX6_pass 17 = .ok (.dup, 1) := by decide +kernel
theorem dX6_pass_18 : decode cX6_pass 18 = .ok (.getfield 19, 3) := by decide +kernel
theorem dX6_pass_21 : decode cX6_pass 21 = .ok (.iconst 1, 1) := by decide +kernel
theorem dX6_pass_22 : decode cX6_pass 22 = .ok (.iadd, 1) := by decide +kernel
theorem dX6_pass_23 : decode cX6_pass 23 = .ok (.putfield 19, 3) := by decide +kernel
theorem dX6_pass_26 : decode cX6_pass 26 = .ok (.goto 8, 3) := by decide +kernel
theorem dX6_pass_29 : decode cX6_pass 29 = .ok (.aload_n 0, 1) := by decide +kernel
theorem dX6_pass_30 : decode cX6_pass 30 = .ok (.iconst 1, 1) := by decide +kernel
theorem dX6_pass_31 : decode cX6_pass 31 = .ok (.invokevirtual 69, 3) := by decide +kernel
theorem dX6_pass_34 : decode cX6_pass 34 = .ok (.return_, 1) := by decide +kernel
theorem dX6_isFigure_0 : decode cX6_isFigure 0 = .ok (.iload_n 1, 1) := by decide +kernel
theorem dX6_isFigure_1 : decode cX6_isFigure 1 = .ok (.bipush 48, 2) := by decide +kernel
theorem dX6_isFigure_3 : decode cX6_isFigure 3 = .ok (.if_icmp .lt 13, 3) := by decide +kernel
theorem dX6_isFigure_6 : decode cX6_isFigure 6 = .ok (.iload_n 1, 1) := by decide +kernel
theorem dX6_isFigure_7 : decode cX6_isFigure 7 = .ok (.bipush 57, 2) := by decide +kernel
theorem dX6_isFigure_9 : decode cX6_isFigure 9 = .ok (.if_icmp .gt 7, 3) := by decide +kernel
theorem dX6_isFigure_12 : decode cX6_isFigure 12 = .ok (.iconst 1, 1) := by decide +kernel
theorem dX6_isFigure_13 : decode cX6_isFigure 13 = .ok (.goto 4, 3) := by decide +kernel
theorem dX6_isFigure_16 : decode cX6_isFigure 16 = .ok (.iconst 0, 1) := by decide +kernel
theorem dX6_isFigure_17 : decode cX6_isFigure 17 = .ok (.ireturn, 1) := by decide +kernel
set_option maxRecDepth 20000 in
theorem ggX6_number_X6_byteAt : GoodIn wsX6_number wsX6_byteAt := goodIn_r _ [7, 8, 9, 18, 19, 20, 21] (by decide +kernel) (by decide +kernel)
set_option maxRecDepth 20000 in
theorem gX6_number_X6_byteAt : GoodIn wsX6_number (wsV RX6 87 RX6 yX6_byteAt wsX6_byteAt) := goodIn_app (goodIn_of _ (by decide +kernel)) ggX6_number_X6_byteAt
set_option maxRecDepth 20000 in
theorem ggX6_number_X6_isFigure : GoodIn wsX6_number wsX6_isFigure := goodIn_r _ [13] (by decide +kernel) (by decide +kernel)
set_option maxRecDepth 20000 in
theorem gX6_number_X6_isFigure : GoodIn wsX6_number (wsV RX6 90 RX6 yX6_isFigure wsX6_isFigure) := goodIn_app (goodIn_of _ (by decide +kernel)) ggX6_number_X6_isFigure
set_option maxRecDepth 20000 in
theorem ggX6_number_X6_fail : GoodIn wsX6_number wsX6_fail := goodIn_r _ [17, 1, 18, 19, 20, 21] (by decide +kernel) (by decide +kernel)
set_option maxRecDepth 20000 in
theorem gX6_number_X6_fail : GoodIn wsX6_number (wsV RX6 69 RX6 yX6_fail wsX6_fail) := goodIn_app (goodIn_of _ (by decide +kernel)) ggX6_number_X6_fail
theorem dX6_number_0 : decode cX6_number 0 = .ok (.aload_n 0, 1) := by decide +kernel
theorem dX6_number_1 : decode cX6_number 1 = .ok (.getfield 22, 3) := by decide +kernel
theorem dX6_number_4 : decode cX6_number 4 = .ok (.ifCond .eq 5, 3) := by decide +kernel
theorem dX6_number_7 : decode cX6_number 7 = .ok (.iload_n 1, 1) := by decide +kernel
theorem dX6_number_8 : decode cX6_number 8 = .ok (.ireturn, 1) := by decide +kernel
theorem dX6_number_9 : decode cX6_number 9 = .ok (.iconst 0, 1) := by decide +kernel
theorem dX6_number_10 : decode cX6_number 10 = .ok (.istore_n 3, 1) := by decide +kernel
theorem dX6_number_11 : decode cX6_number 11 = .ok (.iconst 0, 1) := by decide +kernel
theorem dX6_number_12 : decode cX6_number 12 = .ok (.istore 4, 2) := by decide +kernel
theorem dX6_number_14 : decode cX6_number 14 = .ok (.iconst 0, 1) := by decide +kernel
theorem dX6_number_15 : decode cX6_number 15 = .ok (.istore 5, 2) := by decide +kernel
theorem dX6_number_17 : decode cX6_number 17 = .ok (.iload 5, 2) := by decide +kernel
theorem dX6_number_19 : decode cX6_number 19 = .ok (.iconst 3, 1) := by decide +kernel
theorem dX6_number_20 : decode cX6_number 20 = .ok (.if_icmp .ge 52, 3) := by decide +kernel
theorem dX6_number_23 : decode cX6_number 23 = .ok (.aload_n 0, 1) := by decide +kernel
theorem dX6_number_24 : decode cX6_number 24 = .ok (.aload_n 0, 1) := by decide +kernel
theorem dX6_number_25 : decode cX6_number 25 = .ok (.aload_n 0, 1) := by decide +kernel
theorem dX6_number_26 : decode cX6_number 26 = .ok (.getfield 19, 3) := by decide +kernel
theorem dX6_number_29 : decode cX6_number 29 = .ok (.iload 5, 2) := by decide +kernel
theorem dX6_number_31 : decode cX6_number 31 = .ok (.iadd, 1) := by decide +kernel
theorem dX6_number_32 : decode cX6_number 32 = .ok (.invokevirtual 87, 3) := by decide +kernel
theorem dX6_number_35 : decode cX6_number 35 = .ok (.invokevirtual 90, 3) := by decide +kernel
theorem dX6_number_38 : decode cX6_number 38 = .ok (.ifCond .eq 34, 3) := by decide +kernel
theorem dX6_number_41 : decode cX6_number 41 = .ok (.bipush 10, 2) := by decide +kernel
theorem dX6_number_43 : decode cX6_number 43 = .ok (.iload 4, 2) := by decide +kernel
theorem dX6_number_45 : decode cX6_number 45 = .ok (.imul, 1) := by decide +kernel
theorem dX6_number_46 : decode cX6_number 46 = .ok (.aload_n 0, 1) := by decide +kernel
theorem dX6_number_47 : decode cX6_number 47 = .ok (.aload_n 0, 1) := by decide +kernel
theorem dX6_number_48 : decode cX6_number 48 = .ok (.getfield 19, 3) := by decide +kernel
theorem dX6_number_51 : decode cX6_number 51 = .ok (.iload 5, 2) := by decide +kernel
theorem dX6_number_53 : decode cX6_number 53 = .ok (.iadd, 1) := by decide +kernel
theorem dX6_number_54 : decode cX6_number 54 = .ok (.invokevirtual 87, 3) := by decide +kernel
theorem dX6_number_57 : decode cX6_number 57 = .ok (.iadd, 1) := by decide +kernel
theorem dX6_number_58 : decode cX6_number 58 = .ok (.bipush 48, 2) := by decide +kernel
theorem dX6_number_60 : decode cX6_number 60 = .ok (.isub, 1) := by decide +kernel
theorem dX6_number_61 : decode cX6_number 61 = .ok (.istore 4, 2) := by decide +kernel
theorem dX6_number_63 : decode cX6_number 63 = .ok (.iinc 3 1, 3) := by decide +kernel
theorem dX6_number_66 : decode cX6_number 66 = .ok (.iinc 5 1, 3) := by decide +kernel
theorem dX6_number_69 : decode cX6_number 69 = .ok (.goto (-52), 3) := by decide +kernel
theorem dX6_number_72 : decode cX6_number 72 = .ok (.iload_n 3, 1) := by decide +kernel
theorem dX6_number_73 : decode cX6_number 73 = .ok (.iconst 1, 1) := by decide +kernel
theorem dX6_number_74 : decode cX6_number 74 = .ok (.if_icmp .lt 8, 3) := by decide +kernel
theorem dX6_number_77 : decode cX6_number 77 = .ok (.iload_n 3, 1) := by decide +kernel
theorem dX6_number_78 : decode cX6_number 78 = .ok (.iconst 2, 1) := by decide +kernel
theorem dX6_number_79 : decode cX6_number 79 = .ok (.if_icmp .le 10, 3) := by decide +kernel
theorem dX6_number_82 : decode cX6_number 82 = .ok (.aload_n 0, 1) := by decide +kernel
theorem dX6_number_83 : decode cX6_number 83 = .ok (.iconst 1, 1) := by decide +kernel
theorem dX6_number_84 : decode cX6_number 84 = .ok (.invokevirtual 69, 3) := by decide +kernel
theorem dX6_number_87 : decode cX6_number 87 = .ok (.iload_n 1, 1) := by decide +kernel
theorem dX6_number_88 : decode cX6_number 88 = .ok (.ireturn, 1) := by decide +kernel
theorem dX6_number_89 : decode cX6_number 89 = .ok (.iload 4, 2) := by decide +kernel
theorem dX6_number_91 : decode cX6_number 91 = .ok (.iload_n 1, 1) := by decide +kernel
theorem dX6_number_92 : decode cX6_number 92 = .ok (.if_icmp .lt 9, 3) := by decide +kernel
theorem dX6_number_95 : decode cX6_number 95 = .ok (.iload 4, 2) := by decide +kernel
theorem dX6_number_97 : decode cX6_number 97 = .ok (.iload_n 2, 1) := by decide +kernel
theorem dX6_number_98 : decode cX6_number 98 = .ok (.if_icmp .le 10, 3) := by decide +kernel
theorem dX6_number_101 : decode cX6_number 101 = .ok (.aload_n 0, 1) := by decide +kernel
theorem dX6_number_102 : decode cX6_number 102 = .ok (.iconst 2, 1) := by decide +kernel
theorem dX6_number_103 : decode cX6_number 103 = .ok (.invokevirtual 69, 3) := by decide +kernel
theorem dX6_number_106 : decode cX6_number 106 = .ok (.iload_n 1, 1) := by decide +kernel
theorem dX6_number_107 : decode cX6_number 107 = .ok (.ireturn, 1) := by decide +kernel
theorem dX6_number_108 : decode cX6_number 108 = .ok (.aload_n 0, 1) := by decide +kernel
theorem dX6_number_109 : decode cX6_number 109 = .ok (.dup, 1) := by decide +kernel
theorem dX6_number_110 : decode cX6_number 110 = .ok (.getfield 19, 3) := by decide +kernel
theorem dX6_number_113 : decode cX6_number 113 = .ok (.iload_n 3, 1) := by decide +kernel
theorem dX6_number_114 : decode cX6_number 114 = .ok (.iadd, 1) := by decide +kernel
theorem dX6_number_115 : decode cX6_number 115 = .ok (.putfield 19, 3) := by decide +kernel
theorem dX6_number_118 : decode cX6_number 118 = .ok (.iload 4, 2) := by decide +kernel
theorem dX6_number_120 : decode cX6_number 120 = .ok (.ireturn, 1) := by decide +kernel
set_option maxRecDepth 20000 in
theorem ggX7_init_X4_init : GoodIn wsX7_init wsX4_init := goodIn_r _ [38, 39, 2, 3, 40, 41, 42, 43, 44, 96, 97, 98] (by decide +kernel) (by decide +kernel)
set_option maxRecDepth 20000 in
theorem gX7_init_X4_init : GoodIn wsX7_init (wsX4_init) := ggX7_init_X4_init
set_option maxRecDepth 20000 in
theorem ggX7_init_X6_init : GoodIn wsX7_init wsX6_init := goodIn_r _ [46, 47, 2, 3, 41, 48, 49, 50, 51, 110, 111, 112, 113] (by decide +kernel) (by decide +kernel)
set_option maxRecDepth 20000 in
theorem gX7_init_X6_init_n18 : GoodIn wsX7_init (wsX6_init) := ggX7_init_X6_init
set_option maxRecDepth 20000 in
theorem ggX7_init_X3_init : GoodIn wsX7_init wsX3_init := goodIn_r _ [53, 54, 2, 3, 55, 56, 57, 58, 59, 60, 41, 61, 62, 63, 64, 65, 66, 114, 115, 116, 117, 118, 119, 120, 121, 122, 123, 124, 125] (by decide +kernel) (by decide +kernel)
set_option maxRecDepth 20000 in
theorem gX7_init_X3_init_n25 : GoodIn wsX7_init (wsX3_init) := ggX7_init_X3_init
set_option maxRecDepth 20000 in
theorem ggX7_init_X0_init : GoodIn wsX7_init wsX0_init := goodIn_r _ [69, 70, 2, 3, 71, 72, 73, 74, 13, 14, 52, 53, 54, 55, 56, 57, 58, 59, 60, 41, 61, 62, 63, 64, 65, 66, 126, 127, 128, 114, 115, 116, 117, 118, 119, 120, 121, 122, 123, 124, 125] (by decide +kernel) (by decide +kernel)
set_option maxRecDepth 20000 in
theorem gX7_init_X0_init : GoodIn wsX7_init (wsX0_init) := ggX7_init_X0_init
set_option maxRecDepth 20000 in
theorem ggX7_init_X5_init : GoodIn wsX7_init wsX5_init := goodIn_r _ [76, 77, 2, 3, 78, 13, 14, 79, 41, 80, 52, 53, 54, 55, 56, 57, 58, 59, 60, 61, 62, 63, 64, 65, 66, 114, 115, 116, 117, 118, 119, 120, 121, 122, 123, 124, 125, 129, 130] (by decide +kernel) (by decide +kernel)
set_option maxRecDepth 20000 in
theorem gX7_init_X5_init_n46 : GoodIn wsX7_init (wsX5_init) := ggX7_init_X5_init
set_option maxRecDepth 20000 in
theorem ggX7_init_X2_init : GoodIn wsX7_init wsX2_init := goodIn_r _ [82, 83, 2, 3, 84, 13, 14, 85, 86, 87, 41, 88, 89, 90, 52, 53, 54, 55, 56, 57, 58, 59, 60, 61, 62, 63, 64, 65, 66, 114, 115, 116, 117, 118, 119, 120, 121, 122, 123, 124, 125, 131, 132, 133, 134, 135] (by decide +kernel) (by decide +kernel)
set_option maxRecDepth 20000 in
theorem gX7_init_X2_init_n53 : GoodIn wsX7_init (wsX2_init) := ggX7_init_X2_init
set_option maxRecDepth 20000 in
theorem ggX7_init_X1_init : GoodIn wsX7_init wsX1_init := goodIn_r _ [92, 93, 2, 3, 41, 94, 95, 136, 137] (by decide +kernel) (by decide +kernel)
set_option maxRecDepth 20000 in
theorem gX7_init_X1_init_n60 : GoodIn wsX7_init (wsX1_init) := ggX7_init_X1_init
theorem dX7_init_0 : decode cX7_init 0 = .ok (.aload_n 0, 1) := by decide +kernel
theorem dX7_init_1 : decode cX7_init 1 = .ok (.invokespecial 1, 3) := by decide +kernel
theorem dX7_init_4 : decode cX7_init 4 = .ok (.aload_n 0, 1) := by decide +kernel
theorem dX7_init_5 : decode cX7_init 5 = .ok (.new 7, 3) := by decide +kernel
theorem dX7_init_8 : decode cX7_init 8 = .ok (.dup, 1) := by decide +kernel
theorem dX7_init_9 : decode cX7_init 9 = .ok (.invokespecial 9, 3) := by decide +kernel
theorem dX7_init_12 : decode cX7_init 12 = .ok (.putfield 10, 3) := by decide +kernel
theorem dX7_init_15 : decode cX7_init 15 = .ok (.aload_n 0, 1) := by decide +kernel
theorem dX7_init_16 : decode cX7_init 16 = .ok (.new 16, 3) := by decide +kernel
theorem dX7_init_19 : decode cX7_init 19 = .ok (.dup, 1) := by decide +kernel
theorem dX7_init_20 : decode cX7_init 20 = .ok (.invokespecial 18, 3) := by decide +kernel
theorem dX7_init_23 : decode cX7_init 23 = .ok (.putfield 19, 3) := by decide +kernel
theorem dX7_init_26 : decode cX7_init 26 = .ok (.aload_n 0, 1) := by decide +kernel
theorem dX7_init_27 : decode cX7_init 27 = .ok (.new 23, 3) := by decide +kernel
theorem dX7_init_30 : decode cX7_init 30 = .ok (.dup, 1) := by decide +kernel
theorem dX7_init_31 : decode cX7_init 31 = .ok (.invokespecial 25, 3) := by decide +kernel
theorem dX7_init_34 : decode cX7_init 34 = .ok (.putfield 26, 3) := by decide +kernel
theorem dX7_init_37 : decode cX7_init 37 = .ok (.aload_n 0, 1) := by decide +kernel
theorem dX7_init_38 : decode cX7_init 38 = .ok (.new 23, 3) := by decide +kernel
theorem dX7_init_41 : decode cX7_init 41 = .ok (.dup, 1) := by decide +kernel
theorem dX7_init_42 : decode cX7_init 42 = .ok (.invokespecial 25, 3) := by decide +kernel
theorem dX7_init_45 : decode cX7_init 45 = .ok (.putfield 30, 3) := by decide +kernel
theorem dX7_init_48 : decode cX7_init 48 = .ok (.aload_n 0, 1) := by decide +kernel
theorem dX7_init_49 : decode cX7_init 49 = .ok (.new 33, 3) := by decide +kernel
theorem dX7_init_52 : decode cX7_init 52 = .ok (.dup, 1) := by decide +kernel
theorem dX7_init_53 : decode cX7_init 53 = .ok (.invokespecial 35, 3) := by decide +kernel
theorem dX7_init_56 : decode cX7_init 56 = .ok (.putfield 36, 3) := by decide +kernel
theorem dX7_init_59 : decode cX7_init 59 = .ok (.aload_n 0, 1) := by decide +kernel
theorem dX7_init_60 : decode cX7_init 60 = .ok (.iconst 2, 1) := by decide +kernel
theorem dX7_init_61 : decode cX7_init 61 = .ok (.anewarray 23, 3) := by decide +kernel
theorem dX7_init_64 : decode cX7_init 64 = .ok (.putfield 40, 3) := by decide +kernel
theorem dX7_init_67 : decode cX7_init 67 = .ok (.aload_n 0, 1) := by decide +kernel
theorem dX7_init_68 : decode cX7_init 68 = .ok (.new 44, 3) := by decide +kernel
theorem dX7_init_71 : decode cX7_init 71 = .ok (.dup, 1) := by decide +kernel
theorem dX7_init_72 : decode cX7_init 72 = .ok (.invokespecial 46, 3) := by decide +kernel
theorem dX7_init_75 : decode cX7_init 75 = .ok (.putfield 47, 3) := by decide +kernel
theorem dX7_init_78 : decode cX7_init 78 = .ok (.aload_n 0, 1) := by decide +kernel
theorem dX7_init_79 : decode cX7_init 79 = .ok (.new 51, 3) := by decide +kernel
theorem dX7_init_82 : decode cX7_init 82 = .ok (.dup, 1) := by decide +kernel
theorem dX7_init_83 : decode cX7_init 83 = .ok (.invokespecial 53, 3) := by decide +kernel
theorem dX7_init_86 : decode cX7_init 86 = .ok (.putfield 54, 3) := by decide +kernel
theorem dX7_init_89 : decode cX7_init 89 = .ok (.aload_n 0, 1) := by decide +kernel
theorem dX7_init_90 : decode cX7_init 90 = .ok (.new 58, 3) := by decide +kernel
theorem dX7_init_93 : decode cX7_init 93 = .ok (.dup, 1) := by decide +kernel
theorem dX7_init_94 : decode cX7_init 94 = .ok (.invokespecial 60, 3) := by decide +kernel
theorem dX7_init_97 : decode cX7_init 97 = .ok (.putfield 61, 3) := by decide +kernel
theorem dX7_init_100 : decode cX7_init 100 = .ok (.aload_n 0, 1) := by decide +kernel
theorem dX7_init_101 : decode cX7_init 101 = .ok (.iconst 0, 1) := by decide +kernel
theorem dX7_init_102 : decode cX7_init 102 = .ok (.putfield 65, 3) := by decide +kernel
theorem dX7_init_105 : decode cX7_init 105 = .ok (.aload_n 0, 1) := by decide +kernel
theorem dX7_init_106 : decode cX7_init 106 = .ok (.iconst 0, 1) := by decide +kernel
theorem dX7_init_107 : decode cX7_init 107 = .ok (.putfield 69, 3) := by decide +kernel
theorem dX7_init_110 : decode cX7_init 110 = .ok (.iconst 0, 1) := by decide +kernel
theorem dX7_init_111 : decode cX7_init 111 = .ok (.istore_n 1, 1) := by decide +kernel
theorem dX7_init_112 : decode cX7_init 112 = .ok (.iload_n 1, 1) := by decide +kernel
theorem dX7_init_113 : decode cX7_init 113 = .ok (.iconst 2, 1) := by decide +kernel
theorem dX7_init_114 : decode cX7_init 114 = .ok (.if_icmp .ge 22, 3) := by decide +kernel
theorem dX7_init_117 : decode cX7_init 117 = .ok (.aload_n 0, 1) := by decide +kernel
theorem dX7_init_118 : decode cX7_init 118 = .ok (.getfield 40, 3) := by decide +kernel
theorem dX7_init_121 : decode cX7_init 121 = .ok (.iload_n 1, 1) := by decide +kernel
theorem dX7_init_122 : decode cX7_init 122 = .ok (.new 23, 3) := by decide +kernel
theorem dX7_init_125 : decode cX7_init 125 = .ok (.dup, 1) := by decide +kernel
theorem dX7_init_126 : decode cX7_init 126 = .ok (.invokespecial 25, 3) := by decide +kernel
theorem dX7_init_129 : decode cX7_init 129 = .ok (.aastore, 1) := by decide +kernel
theorem dX7_init_130 : decode cX7_init 130 = .ok (.iinc 1 1, 3) := by decide +kernel
theorem dX7_init_133 : decode cX7_init 133 = .ok (.goto (-21), 3) := by decide +kernel
theorem dX7_init_136 : decode cX7_init 136 = .ok (.return_, 1) := by decide +kernel
set_option maxRecDepth 20000 in
theorem ggX7_row_X7_isRow : GoodIn wsX7_row wsX7_isRow := goodIn_r _ [6] (by decide +kernel) (by decide +kernel)
set_option maxRecDepth 20000 in
theorem gX7_row_X7_isRow : GoodIn wsX7_row (va_wsS RX7 72 yX7_isRow wsX7_isRow) := goodIn_app (goodIn_of _ (by decide +kernel)) ggX7_row_X7_isRow
set_option maxRecDepth 20000 in
theorem ggX7_row_X7_found : GoodIn wsX7_row wsX7_found := goodIn_r _ [10, 11, 12, 25, 26, 27, 28, 29, 30, 31, 32, 33, 34, 35] (by decide +kernel) (by decide +kernel)
set_option maxRecDepth 20000 in
theorem gX7_row_X7_found : GoodIn wsX7_row (wsV RX7 77 RX7 yX7_found wsX7_found) := goodIn_app (goodIn_of _ (by decide +kernel)) ggX7_row_X7_found
set_option maxRecDepth 20000 in
theorem ggX7_row_X4_makeAnew : GoodIn wsX7_row wsX4_makeAnew := goodIn_r _ [17, 18, 19, 20, 36, 37, 38] (by decide +kernel) (by decide +kernel)
set_option maxRecDepth 20000 in
theorem gX7_row_X4_makeAnew : GoodIn wsX7_row (wsV RX7 81 RX4 yX4_makeAnew wsX4_makeAnew) := goodIn_app (goodIn_of _ (by decide +kernel)) ggX7_row_X4_makeAnew
set_option maxRecDepth 20000 in
theorem ggX7_row_X7_fine : GoodIn wsX7_row wsX7_fine := goodIn_r _ [24, 11, 25, 26, 27, 28, 29, 30, 31, 32, 33, 34, 35] (by decide +kernel) (by decide +kernel)
set_option maxRecDepth 20000 in
theorem gX7_row_X7_fine : GoodIn wsX7_row (wsV RX7 85 RX7 yX7_fine wsX7_fine) := goodIn_app (goodIn_of _ (by decide +kernel)) ggX7_row_X7_fine
theorem dX7_row_0 : decode cX7_row 0 = .ok (.iload_n 1, 1) := by decide +kernel
theorem dX7_row_1 : decode cX7_row 1 = .ok (.invokestatic 72, 3) := by decide +kernel
theorem dX7_row_4 : decode cX7_row 4 = .ok (.ifCond .eq 18, 3) := by decide +kernel
theorem dX7_row_7 : decode cX7_row 7 = .ok (.iload_n 2, 1) := by decide +kernel
theorem dX7_row_8 : decode cX7_row 8 = .ok (.ifCond .lt 14, 3) := by decide +kernel
theorem dX7_row_11 : decode cX7_row 11 = .ok (.iload_n 2, 1) := by decide +kernel
theorem dX7_row_12 : decode cX7_row 12 = .ok (.iconst 3, 1) := by decide +kernel
theorem dX7_row_13 : decode cX7_row 13 = .ok (.if_icmp .ge 9, 3) := by decide +kernel
theorem dX7_row_16 : decode cX7_row 16 = .ok (.iload_n 3, 1) := by decide +kernel
theorem dX7_row_17 : decode cX7_row 17 = .ok (.bipush 40, 2) := by decide +kernel
theorem dX7_row_19 : decode cX7_row 19 = .ok (.if_icmp .le 6, 3) := by decide +kernel
theorem dX7_row_22 : decode cX7_row 22 = .ok (.ldc 76, 2) := by decide +kernel
theorem dX7_row_24 : decode cX7_row 24 = .ok (.ireturn, 1) := by decide +kernel
theorem dX7_row_25 : decode cX7_row 25 = .ok (.iload_n 3, 1) := by decide +kernel
theorem dX7_row_26 : decode cX7_row 26 = .ok (.ifCond .ge 9, 3) := by decide +kernel
theorem dX7_row_29 : decode cX7_row 29 = .ok (.aload_n 0, 1) := by decide +kernel
theorem dX7_row_30 : decode cX7_row 30 = .ok (.iconst 4, 1) := by decide +kernel
theorem dX7_row_31 : decode cX7_row 31 = .ok (.invokevirtual 77, 3) := by decide +kernel
theorem dX7_row_34 : decode cX7_row 34 = .ok (.ireturn, 1) := by decide +kernel
theorem dX7_row_35 : decode cX7_row 35 = .ok (.aload_n 0, 1) := by decide +kernel
theorem dX7_row_36 : decode cX7_row 36 = .ok (.getfield 10, 3) := by decide +kernel
theorem dX7_row_39 : decode cX7_row 39 = .ok (.iload_n 1, 1) := by decide +kernel
theorem dX7_row_40 : decode cX7_row 40 = .ok (.iload_n 2, 1) := by decide +kernel
theorem dX7_row_41 : decode cX7_row 41 = .ok (.iload_n 3, 1) := by decide +kernel
theorem dX7_row_42 : decode cX7_row 42 = .ok (.invokevirtual 81, 3) := by decide +kernel
theorem dX7_row_45 : decode cX7_row 45 = .ok (.aload_n 0, 1) := by decide +kernel
theorem dX7_row_46 : decode cX7_row 46 = .ok (.iload_n 3, 1) := by decide +kernel
theorem dX7_row_47 : decode cX7_row 47 = .ok (.invokevirtual 85, 3) := by decide +kernel
theorem dX7_row_50 : decode cX7_row 50 = .ok (.ireturn, 1) := by decide +kernel
set_option maxRecDepth 20000 in
theorem ggX7_set_X7_isRow : GoodIn wsX7_set wsX7_isRow := goodIn_r _ [6] (by decide +kernel) (by decide +kernel)
set_option maxRecDepth 20000 in
theorem gX7_set_X7_isRow : GoodIn wsX7_set (va_wsS RX7 72 yX7_isRow wsX7_isRow) := goodIn_app (goodIn_of _ (by decide +kernel)) ggX7_set_X7_isRow
set_option maxRecDepth 20000 in
theorem ggX7_set_X4_isMissing : GoodIn wsX7_set wsX4_isMissing := goodIn_r _ [11, 12, 44, 45, 46] (by decide +kernel) (by decide +kernel)
set_option maxRecDepth 20000 in
theorem gX7_set_X4_isMissing : GoodIn wsX7_set (wsV RX7 88 RX4 yX4_isMissing wsX4_isMissing) := goodIn_app (goodIn_of _ (by decide +kernel)) ggX7_set_X4_isMissing
set_option maxRecDepth 20000 in
theorem ggX7_set_X7_found : GoodIn wsX7_set wsX7_found := goodIn_r _ [16, 17, 18, 33, 34, 35, 36, 37, 38, 39, 40, 41, 42, 43] (by decide +kernel) (by decide +kernel)
set_option maxRecDepth 20000 in
theorem gX7_set_X7_found : GoodIn wsX7_set (wsV RX7 77 RX7 yX7_found wsX7_found) := goodIn_app (goodIn_of _ (by decide +kernel)) ggX7_set_X7_found
set_option maxRecDepth 20000 in
theorem ggX7_set_X4_hasRun : GoodIn wsX7_set wsX4_hasRun := goodIn_r _ [22, 12, 44, 45, 46] (by decide +kernel) (by decide +kernel)
set_option maxRecDepth 20000 in
theorem gX7_set_X4_hasRun : GoodIn wsX7_set (wsV RX7 91 RX4 yX4_hasRun wsX4_hasRun) := goodIn_app (goodIn_of _ (by decide +kernel)) ggX7_set_X4_hasRun
set_option maxRecDepth 20000 in
theorem ggX7_set_X4_put : GoodIn wsX7_set wsX4_put := goodIn_r _ [26, 27, 28, 44, 45, 46] (by decide +kernel) (by decide +kernel)
set_option maxRecDepth 20000 in
theorem gX7_set_X4_put : GoodIn wsX7_set (wsV RX7 95 RX4 yX4_put wsX4_put) := goodIn_app (goodIn_of _ (by decide +kernel)) ggX7_set_X4_put
set_option maxRecDepth 20000 in
theorem ggX7_set_X7_fine : GoodIn wsX7_set wsX7_fine := goodIn_r _ [32, 17, 33, 34, 35, 36, 37, 38, 39, 40, 41, 42, 43] (by decide +kernel) (by decide +kernel)
set_option maxRecDepth 20000 in
theorem gX7_set_X7_fine : GoodIn wsX7_set (wsV RX7 85 RX7 yX7_fine wsX7_fine) := goodIn_app (goodIn_of _ (by decide +kernel)) ggX7_set_X7_fine
theorem dX7_set_0 : decode cX7_set 0 = .ok (.iload_n 1, 1) := by decide +kernel
theorem dX7_set_1 : decode cX7_set 1 = .ok (.invokestatic 72, 3) := by decide +kernel
theorem dX7_set_4 : decode cX7_set 4 = .ok (.ifCond .ne 6, 3) := by decide +kernel
theorem dX7_set_7 : decode cX7_set 7 = .ok (.ldc 76, 2) := by decide +kernel
theorem dX7_set_9 : decode cX7_set 9 = .ok (.ireturn, 1) := by decide +kernel
theorem dX7_set_10 : decode cX7_set 10 = .ok (.aload_n 0, 1) := by decide +kernel
theorem dX7_set_11 : decode cX7_set 11 = .ok (.getfield 10, 3) := by decide +kernel
theorem dX7_set_14 : decode cX7_set 14 = .ok (.iload_n 1, 1) := by decide +kernel
theorem dX7_set_15 : decode cX7_set 15 = .ok (.invokevirtual 88, 3) := by decide +kernel
theorem dX7_set_18 : decode cX7_set 18 = .ok (.ifCond .eq 9, 3) := by decide +kernel
theorem dX7_set_21 : decode cX7_set 21 = .ok (.aload_n 0, 1) := by decide +kernel
theorem dX7_set_22 : decode cX7_set 22 = .ok (.iconst 1, 1) := by decide +kernel
theorem dX7_set_23 : decode cX7_set 23 = .ok (.invokevirtual 77, 3) := by decide +kernel
theorem dX7_set_26 : decode cX7_set 26 = .ok (.ireturn, 1) := by decide +kernel
theorem dX7_set_27 : decode cX7_set 27 = .ok (.aload_n 0, 1) := by decide +kernel
theorem dX7_set_28 : decode cX7_set 28 = .ok (.getfield 10, 3) := by decide +kernel
theorem dX7_set_31 : decode cX7_set 31 = .ok (.iload_n 1, 1) := by decide +kernel
theorem dX7_set_32 : decode cX7_set 32 = .ok (.iload_n 2, 1) := by decide +kernel
theorem dX7_set_33 : decode cX7_set 33 = .ok (.iconst 1, 1) := by decide +kernel
theorem dX7_set_34 : decode cX7_set 34 = .ok (.invokevirtual 91, 3) := by decide +kernel
theorem dX7_set_37 : decode cX7_set 37 = .ok (.ifCond .ne 9, 3) := by decide +kernel
theorem dX7_set_40 : decode cX7_set 40 = .ok (.aload_n 0, 1) := by decide +kernel
theorem dX7_set_41 : decode cX7_set 41 = .ok (.iconst 2, 1) := by decide +kernel
theorem dX7_set_42 : decode cX7_set 42 = .ok (.invokevirtual 77, 3) := by decide +kernel
theorem dX7_set_45 : decode cX7_set 45 = .ok (.ireturn, 1) := by decide +kernel
theorem dX7_set_46 : decode cX7_set 46 = .ok (.aload_n 0, 1) := by decide +kernel
theorem dX7_set_47 : decode cX7_set 47 = .ok (.aload_n 0, 1) := by decide +kernel
theorem dX7_set_48 : decode cX7_set 48 = .ok (.getfield 10, 3) := by decide +kernel
theorem dX7_set_51 : decode cX7_set 51 = .ok (.iload_n 1, 1) := by decide +kernel
theorem dX7_set_52 : decode cX7_set 52 = .ok (.iload_n 2, 1) := by decide +kernel
theorem dX7_set_53 : decode cX7_set 53 = .ok (.iload_n 3, 1) := by decide +kernel
theorem dX7_set_54 : decode cX7_set 54 = .ok (.invokevirtual 95, 3) := by decide +kernel
theorem dX7_set_57 : decode cX7_set 57 = .ok (.invokevirtual 85, 3) := by decide +kernel
theorem dX7_set_60 : decode cX7_set 60 = .ok (.ireturn, 1) := by decide +kernel
set_option maxRecDepth 20000 in
theorem ggX7_copy_X7_isRow : GoodIn wsX7_copy wsX7_isRow := goodIn_r _ [12] (by decide +kernel) (by decide +kernel)
set_option maxRecDepth 20000 in
theorem gX7_copy_X7_isRow : GoodIn wsX7_copy (va_wsS RX7 72 yX7_isRow wsX7_isRow) := goodIn_app (goodIn_of _ (by decide +kernel)) ggX7_copy_X7_isRow
set_option maxRecDepth 20000 in
theorem ggX7_copy_X4_isMissing : GoodIn wsX7_copy wsX4_isMissing := goodIn_r _ [17, 18, 44, 45, 46] (by decide +kernel) (by decide +kernel)
set_option maxRecDepth 20000 in
theorem gX7_copy_X4_isMissing : GoodIn wsX7_copy (wsV RX7 88 RX4 yX4_isMissing wsX4_isMissing) := goodIn_app (goodIn_of _ (by decide +kernel)) ggX7_copy_X4_isMissing
set_option maxRecDepth 20000 in
theorem ggX7_copy_X7_found : GoodIn wsX7_copy wsX7_found := goodIn_r _ [22, 23, 24, 33, 34, 35, 36, 37, 38, 39, 40, 41, 42, 43] (by decide +kernel) (by decide +kernel)
set_option maxRecDepth 20000 in
theorem gX7_copy_X7_found : GoodIn wsX7_copy (wsV RX7 77 RX7 yX7_found wsX7_found) := goodIn_app (goodIn_of _ (by decide +kernel)) ggX7_copy_X7_found
set_option maxRecDepth 20000 in
theorem ggX7_copy_X4_hasRun : GoodIn wsX7_copy wsX4_hasRun := goodIn_r _ [28, 18, 44, 45, 46] (by decide +kernel) (by decide +kernel)
set_option maxRecDepth 20000 in
theorem gX7_copy_X4_hasRun : GoodIn wsX7_copy (wsV RX7 91 RX4 yX4_hasRun wsX4_hasRun) := goodIn_app (goodIn_of _ (by decide +kernel)) ggX7_copy_X4_hasRun
set_option maxRecDepth 20000 in
theorem ggX7_copy_X7_fine : GoodIn wsX7_copy wsX7_fine := goodIn_r _ [32, 23, 33, 34, 35, 36, 37, 38, 39, 40, 41, 42, 43] (by decide +kernel) (by decide +kernel)
set_option maxRecDepth 20000 in
theorem gX7_copy_X7_fine : GoodIn wsX7_copy (wsV RX7 85 RX7 yX7_fine wsX7_fine) := goodIn_app (goodIn_of _ (by decide +kernel)) ggX7_copy_X7_fine
theorem dX7_copy_0 : decode cX7_copy 0 = .ok (.iload_n 1, 1) := by decide +kernel
theorem dX7_copy_1 : decode cX7_copy 1 = .ok (.invokestatic 72, 3) := by decide +kernel
theorem dX7_copy_4 : decode cX7_copy 4 = .ok (.ifCond .eq 10, 3) := by decide +kernel
theorem dX7_copy_7 : decode cX7_copy 7 = .ok (.iload_n 3, 1) := by decide +kernel
theorem dX7_copy_8 : decode cX7_copy 8 = .ok (.invokestatic 72, 3) := by decide +kernel
theorem dX7_copy_11 : decode cX7_copy 11 = .ok (.ifCond .ne 6, 3) := by decide +kernel
theorem dX7_copy_14 : decode cX7_copy 14 = .ok (.ldc 76, 2) := by decide +kernel
theorem dX7_copy_16 : decode cX7_copy 16 = .ok (.ireturn, 1) := by decide +kernel
theorem dX7_copy_17 : decode cX7_copy 17 = .ok (.aload_n 0, 1) := by decide +kernel
theorem dX7_copy_18 : decode cX7_copy 18 = .ok (.getfield 10, 3) := by decide +kernel
theorem dX7_copy_21 : decode cX7_copy 21 = .ok (.iload_n 1, 1) := by decide +kernel
theorem dX7_copy_22 : decode cX7_copy 22 = .ok (.invokevirtual 88, 3) := by decide +kernel
theorem dX7_copy_25 : decode cX7_copy 25 = .ok (.ifCond .ne 14, 3) := by decide +kernel
theorem dX7_copy_28 : decode cX7_copy 28 = .ok (.aload_n 0, 1) := by decide +kernel
theorem dX7_copy_29 : decode cX7_copy 29 = .ok (.getfield 10, 3) := by decide +kernel
theorem dX7_copy_32 : decode cX7_copy 32 = .ok (.iload_n 3, 1) := by decide +kernel
theorem dX7_copy_33 : decode cX7_copy 33 = .ok (.invokevirtual 88, 3) := by decide +kernel
theorem dX7_copy_36 : decode cX7_copy 36 = .ok (.ifCond .eq 9, 3) := by decide +kernel
theorem dX7_copy_39 : decode cX7_copy 39 = .ok (.aload_n 0, 1) := by decide +kernel
theorem dX7_copy_40 : decode cX7_copy 40 = .ok (.iconst 1, 1) := by decide +kernel
theorem dX7_copy_41 : decode cX7_copy 41 = .ok (.invokevirtual 77, 3) := by decide +kernel
theorem dX7_copy_44 : decode cX7_copy 44 = .ok (.ireturn, 1) := by decide +kernel
theorem dX7_copy_45 : decode cX7_copy 45 = .ok (.aload_n 0, 1) := by decide +kernel
theorem dX7_copy_46 : decode cX7_copy 46 = .ok (.getfield 10, 3) := by decide +kernel
theorem dX7_copy_49 : decode cX7_copy 49 = .ok (.getfield 99, 3) := by decide +kernel
theorem dX7_copy_52 : decode cX7_copy 52 = .ok (.iload_n 1, 1) := by decide +kernel
theorem dX7_copy_53 : decode cX7_copy 53 = .ok (.iaload, 1) := by decide +kernel
theorem dX7_copy_54 : decode cX7_copy 54 = .ok (.aload_n 0, 1) := by decide +kernel
theorem dX7_copy_55 : decode cX7_copy 55 = .ok (.getfield 10, 3) := by decide +kernel
theorem dX7_copy_58 : decode cX7_copy 58 = .ok (.getfield 99, 3) := by decide +kernel
theorem dX7_copy_61 : decode cX7_copy 61 = .ok (.iload_n 3, 1) := by decide +kernel
theorem dX7_copy_62 : decode cX7_copy 62 = .ok (.iaload, 1) := by decide +kernel
theorem dX7_copy_63 : decode cX7_copy 63 = .ok (.if_icmp .eq 9, 3) := by decide +kernel
theorem dX7_copy_66 : decode cX7_copy 66 = .ok (.aload_n 0, 1) := by decide +kernel
theorem dX7_copy_67 : decode cX7_copy 67 = .ok (.iconst 5, 1) := by decide +kernel
theorem dX7_copy_68 : decode cX7_copy 68 = .ok (.invokevirtual 77, 3) := by decide +kernel
theorem dX7_copy_71 : decode cX7_copy 71 = .ok (.ireturn, 1) := by decide +kernel
theorem dX7_copy_72 : decode cX7_copy 72 = .ok (.aload_n 0, 1) := by decide +kernel
theorem dX7_copy_73 : decode cX7_copy 73 = .ok (.getfield 10, 3) := by decide +kernel
theorem dX7_copy_76 : decode cX7_copy 76 = .ok (.iload_n 1, 1) := by decide +kernel
theorem dX7_copy_77 : decode cX7_copy 77 = .ok (.iload_n 2, 1) := by decide +kernel
theorem dX7_copy_78 : decode cX7_copy 78 = .ok (.iload 5, 2) := by decide +kernel
theorem dX7_copy_80 : decode cX7_copy 80 = .ok (.invokevirtual 91, 3) := by decide +kernel
theorem dX7_copy_83 : decode cX7_copy 83 = .ok (.ifCond .eq 18, 3) := by decide +kernel
theorem dX7_copy_86 : decode cX7_copy 86 = .ok (.aload_n 0, 1) := by decide +kernel
theorem dX7_copy_87 : decode cX7_copy 87 = .ok (.getfield 10, 3) := by decide +kernel
theorem dX7_copy_90 : decode cX7_copy 90 = .ok (.iload_n 3, 1) := by decide +kernel
theorem dX7_copy_91 : decode cX7_copy 91 = .ok (.iload 4, 2) := by decide +kernel
theorem dX7_copy_93 : decode cX7_copy 93 = .ok (.iload 5, 2) := by decide +kernel
theorem dX7_copy_95 : decode cX7_copy 95 = .ok (.invokevirtual 91, 3) := by decide +kernel
theorem dX7_copy_98 : decode cX7_copy 98 = .ok (.ifCond .ne 9, 3) := by decide +kernel
theorem dX7_copy_101 : decode cX7_copy 101 = .ok (.aload_n 0, 1) := by decide +kernel
theorem dX7_copy_102 : decode cX7_copy 102 = .ok (.iconst 2, 1) := by decide +kernel
theorem dX7_copy_103 : decode cX7_copy 103 = .ok (.invokevirtual 77, 3) := by decide +kernel
theorem dX7_copy_106 : decode cX7_copy 106 = .ok (.ireturn, 1) := by decide +kernel
theorem dX7_copy_107 : decode cX7_copy 107 = .ok (.aload_n 0, 1) := by decide +kernel
end
section
theorem dX7_copy_108 : decode cX7_copy 108 = .ok (.getfield 10, 3) := by decide +kernel
theorem dX7_copy_111 : decode cX7_copy 111 = .ok (.getfield 103, 3) := by decide +kernel
theorem dX7_copy_114 : decode cX7_copy 114 = .ok (.iload_n 1, 1) := by decide +kernel
theorem dX7_copy_115 : decode cX7_copy 115 = .ok (.aaload, 1) := by decide +kernel
theorem dX7_copy_116 : decode cX7_copy 116 = .ok (.iload_n 2, 1) := by decide +kernel
theorem dX7_copy_117 : decode cX7_copy 117 = .ok (.aload_n 0, 1) := by decide +kernel
theorem dX7_copy_118 : decode cX7_copy 118 = .ok (.getfield 10, 3) := by decide +kernel
theorem dX7_copy_121 : decode cX7_copy 121 = .ok (.getfield 103, 3) := by decide +kernel
theorem dX7_copy_124 : decode cX7_copy 124 = .ok (.iload_n 3, 1) := by decide +kernel
theorem dX7_copy_125 : decode cX7_copy 125 = .ok (.aaload, 1) := by decide +kernel
theorem dX7_copy_126 : decode cX7_copy 126 = .ok (.iload 4, 2) := by decide +kernel
theorem dX7_copy_128 : decode cX7_copy 128 = .ok (.iload 5, 2) := by decide +kernel
theorem dX7_copy_130 : decode cX7_copy 130 = .ok (.invokestatic 107, 3) := by decide +kernel
theorem dX7_copy_133 : decode cX7_copy 133 = .ok (.aload_n 0, 1) := by decide +kernel
theorem dX7_copy_134 : decode cX7_copy 134 = .ok (.iload 5, 2) := by decide +kernel
theorem dX7_copy_136 : decode cX7_copy 136 = .ok (.invokevirtual 85, 3) := by decide +kernel
theorem dX7_copy_139 : decode cX7_copy 139 = .ok (.ireturn, 1) := by decide +kernel
set_option maxRecDepth 20000 in
theorem ggX7_drop_X7_isRow : GoodIn wsX7_drop wsX7_isRow := goodIn_r _ [7] (by decide +kernel) (by decide +kernel)
set_option maxRecDepth 20000 in
theorem gX7_drop_X7_isRow : GoodIn wsX7_drop (va_wsS RX7 72 yX7_isRow wsX7_isRow) := goodIn_app (goodIn_of _ (by decide +kernel)) ggX7_drop_X7_isRow
set_option maxRecDepth 20000 in
theorem ggX7_drop_X4_isMissing : GoodIn wsX7_drop wsX4_isMissing := goodIn_r _ [12, 13, 35, 36, 37] (by decide +kernel) (by decide +kernel)
set_option maxRecDepth 20000 in
theorem gX7_drop_X4_isMissing : GoodIn wsX7_drop (wsV RX7 88 RX4 yX4_isMissing wsX4_isMissing) := goodIn_app (goodIn_of _ (by decide +kernel)) ggX7_drop_X4_isMissing
set_option maxRecDepth 20000 in
theorem ggX7_drop_X7_found : GoodIn wsX7_drop wsX7_found := goodIn_r _ [17, 18, 19, 24, 25, 26, 27, 28, 29, 30, 31, 32, 33, 34] (by decide +kernel) (by decide +kernel)
set_option maxRecDepth 20000 in
theorem gX7_drop_X7_found : GoodIn wsX7_drop (wsV RX7 77 RX7 yX7_found wsX7_found) := goodIn_app (goodIn_of _ (by decide +kernel)) ggX7_drop_X7_found
set_option maxRecDepth 20000 in
theorem ggX7_drop_X7_fine : GoodIn wsX7_drop wsX7_fine := goodIn_r _ [23, 18, 24, 25, 26, 27, 28, 29, 30, 31, 32, 33, 34] (by decide +kernel) (by decide +kernel)
set_option maxRecDepth 20000 in
theorem gX7_drop_X7_fine : GoodIn wsX7_drop (wsV RX7 85 RX7 yX7_fine wsX7_fine) := goodIn_app (goodIn_of _ (by decide +kernel)) ggX7_drop_X7_fine
theorem dX7_drop_0 : decode cX7_drop 0 = .ok (.iload_n 1, 1) := by decide +kernel
theorem dX7_drop_1 : decode cX7_drop 1 = .ok (.invokestatic 72, 3) := by decide +kernel
theorem dX7_drop_4 : decode cX7_drop 4 = .ok (.ifCond .ne 6, 3) := by decide +kernel
theorem dX7_drop_7 : decode cX7_drop 7 = .ok (.ldc 76, 2) := by decide +kernel
theorem dX7_drop_9 : decode cX7_drop 9 = .ok (.ireturn, 1) := by decide +kernel
theorem dX7_drop_10 : decode cX7_drop 10 = .ok (.aload_n 0, 1) := by decide +kernel
theorem dX7_drop_11 : decode cX7_drop 11 = .ok (.getfield 10, 3) := by decide +kernel
theorem dX7_drop_14 : decode cX7_drop 14 = .ok (.iload_n 1, 1) := by decide +kernel
theorem dX7_drop_15 : decode cX7_drop 15 = .ok (.invokevirtual 88, 3) := by decide +kernel
theorem dX7_drop_18 : decode cX7_drop 18 = .ok (.ifCond .eq 9, 3) := by decide +kernel
theorem dX7_drop_21 : decode cX7_drop 21 = .ok (.aload_n 0, 1) := by decide +kernel
theorem dX7_drop_22 : decode cX7_drop 22 = .ok (.iconst 1, 1) := by decide +kernel
theorem dX7_drop_23 : decode cX7_drop 23 = .ok (.invokevirtual 77, 3) := by decide +kernel
theorem dX7_drop_26 : decode cX7_drop 26 = .ok (.ireturn, 1) := by decide +kernel
theorem dX7_drop_27 : decode cX7_drop 27 = .ok (.aload_n 0, 1) := by decide +kernel
theorem dX7_drop_28 : decode cX7_drop 28 = .ok (.getfield 10, 3) := by decide +kernel
theorem dX7_drop_31 : decode cX7_drop 31 = .ok (.getfield 113, 3) := by decide +kernel
theorem dX7_drop_34 : decode cX7_drop 34 = .ok (.iload_n 1, 1) := by decide +kernel
theorem dX7_drop_35 : decode cX7_drop 35 = .ok (.iaload, 1) := by decide +kernel
theorem dX7_drop_36 : decode cX7_drop 36 = .ok (.istore_n 2, 1) := by decide +kernel
theorem dX7_drop_37 : decode cX7_drop 37 = .ok (.aload_n 0, 1) := by decide +kernel
theorem dX7_drop_38 : decode cX7_drop 38 = .ok (.getfield 10, 3) := by decide +kernel
theorem dX7_drop_41 : decode cX7_drop 41 = .ok (.getfield 113, 3) := by decide +kernel
theorem dX7_drop_44 : decode cX7_drop 44 = .ok (.iload_n 1, 1) := by decide +kernel
theorem dX7_drop_45 : decode cX7_drop 45 = .ok (.iconst (-1), 1) := by decide +kernel
theorem dX7_drop_46 : decode cX7_drop 46 = .ok (.iastore, 1) := by decide +kernel
theorem dX7_drop_47 : decode cX7_drop 47 = .ok (.aload_n 0, 1) := by decide +kernel
theorem dX7_drop_48 : decode cX7_drop 48 = .ok (.iload_n 2, 1) := by decide +kernel
theorem dX7_drop_49 : decode cX7_drop 49 = .ok (.invokevirtual 85, 3) := by decide +kernel
theorem dX7_drop_52 : decode cX7_drop 52 = .ok (.ireturn, 1) := by decide +kernel
set_option maxRecDepth 20000 in
theorem ggX7_feed_X6_append : GoodIn wsX7_feed wsX6_append := goodIn_r _ [9, 10, 11, 23, 24, 25, 26] (by decide +kernel) (by decide +kernel)
set_option maxRecDepth 20000 in
theorem gX7_feed_X6_append : GoodIn wsX7_feed (wsV RX7 119 RX6 yX6_append wsX6_append) := goodIn_app (goodIn_of _ (by decide +kernel)) ggX7_feed_X6_append
theorem dX7_feed_0 : decode cX7_feed 0 = .ok (.iload_n 1, 1) := by decide +kernel
theorem dX7_feed_1 : decode cX7_feed 1 = .ok (.ifCond .lt 10, 3) := by decide +kernel
theorem dX7_feed_4 : decode cX7_feed 4 = .ok (.iload_n 1, 1) := by decide +kernel
theorem dX7_feed_5 : decode cX7_feed 5 = .ok (.sipush 255, 3) := by decide +kernel
theorem dX7_feed_8 : decode cX7_feed 8 = .ok (.if_icmp .le 6, 3) := by decide +kernel
theorem dX7_feed_11 : decode cX7_feed 11 = .ok (.ldc 76, 2) := by decide +kernel
theorem dX7_feed_13 : decode cX7_feed 13 = .ok (.ireturn, 1) := by decide +kernel
theorem dX7_feed_14 : decode cX7_feed 14 = .ok (.aload_n 0, 1) := by decide +kernel
theorem dX7_feed_15 : decode cX7_feed 15 = .ok (.getfield 19, 3) := by decide +kernel
theorem dX7_feed_18 : decode cX7_feed 18 = .ok (.getfield 116, 3) := by decide +kernel
theorem dX7_feed_21 : decode cX7_feed 21 = .ok (.bipush 100, 2) := by decide +kernel
theorem dX7_feed_23 : decode cX7_feed 23 = .ok (.if_icmp .lt 6, 3) := by decide +kernel
theorem dX7_feed_26 : decode cX7_feed 26 = .ok (.ldc 118, 2) := by decide +kernel
theorem dX7_feed_28 : decode cX7_feed 28 = .ok (.ireturn, 1) := by decide +kernel
theorem dX7_feed_29 : decode cX7_feed 29 = .ok (.aload_n 0, 1) := by decide +kernel
theorem dX7_feed_30 : decode cX7_feed 30 = .ok (.getfield 19, 3) := by decide +kernel
theorem dX7_feed_33 : decode cX7_feed 33 = .ok (.iload_n 1, 1) := by decide +kernel
theorem dX7_feed_34 : decode cX7_feed 34 = .ok (.invokevirtual 119, 3) := by decide +kernel
theorem dX7_feed_37 : decode cX7_feed 37 = .ok (.aload_n 0, 1) := by decide +kernel
theorem dX7_feed_38 : decode cX7_feed 38 = .ok (.getfield 19, 3) := by decide +kernel
theorem dX7_feed_41 : decode cX7_feed 41 = .ok (.getfield 116, 3) := by decide +kernel
theorem dX7_feed_44 : decode cX7_feed 44 = .ok (.ireturn, 1) := by decide +kernel
set_option maxRecDepth 20000 in
theorem ggX7_mine_X6_readInto : GoodIn wsX7_mine wsX6_readInto := goodIn_r _ [14, 15, 16, 17, 18, 19, 20, 21, 22, 23, 24, 13, 25, 26, 27, 28, 29, 30, 31, 32, 33, 34, 35, 36, 37, 38, 39, 40, 41, 42, 43, 44, 45, 46, 47, 48, 49, 50, 51, 52, 53, 54, 55, 56, 57, 58, 59, 60, 61, 62, 63, 64, 98, 99, 100, 101, 102, 103, 104, 105, 106, 107, 108, 109, 110, 111, 112, 113] (by decide +kernel) (by decide +kernel)
set_option maxRecDepth 20000 in
theorem gX7_mine_X6_readInto : GoodIn wsX7_mine (wsV RX7 123 RX6 yX6_readInto wsX6_readInto) := goodIn_app (goodIn_of _ (by decide +kernel)) ggX7_mine_X6_readInto
set_option maxRecDepth 20000 in
theorem ggX7_mine_X3_become : GoodIn wsX7_mine wsX3_become := goodIn_r _ [69, 70, 71, 72, 73, 74, 75, 76, 77, 78, 79, 80, 102, 103, 104, 105, 106, 107, 108, 109, 110, 111, 112, 113] (by decide +kernel) (by decide +kernel)
set_option maxRecDepth 20000 in
theorem gX7_mine_X3_become : GoodIn wsX7_mine (wsV RX7 131 RX3 yX3_become wsX3_become) := goodIn_app (goodIn_of _ (by decide +kernel)) ggX7_mine_X3_become
set_option maxRecDepth 20000 in
theorem ggX7_mine_X0_forgetAll : GoodIn wsX7_mine wsX0_forgetAll := goodIn_r _ [85, 86, 114, 115, 116] (by decide +kernel) (by decide +kernel)
set_option maxRecDepth 20000 in
theorem gX7_mine_X0_forgetAll : GoodIn wsX7_mine (wsV RX7 135 RX0 yX0_forgetAll wsX0_forgetAll) := goodIn_app (goodIn_of _ (by decide +kernel)) ggX7_mine_X0_forgetAll
theorem dX7_mine_0 : decode cX7_mine 0 = .ok (.aload_n 0, 1) := by decide +kernel
theorem dX7_mine_1 : decode cX7_mine 1 = .ok (.getfield 19, 3) := by decide +kernel
theorem dX7_mine_4 : decode cX7_mine 4 = .ok (.aload_n 0, 1) := by decide +kernel
theorem dX7_mine_5 : decode cX7_mine 5 = .ok (.getfield 30, 3) := by decide +kernel
theorem dX7_mine_8 : decode cX7_mine 8 = .ok (.invokevirtual 123, 3) := by decide +kernel
theorem dX7_mine_11 : decode cX7_mine 11 = .ok (.istore_n 1, 1) := by decide +kernel
theorem dX7_mine_12 : decode cX7_mine 12 = .ok (.aload_n 0, 1) := by decide +kernel
theorem dX7_mine_13 : decode cX7_mine 13 = .ok (.getfield 19, 3) := by decide +kernel
theorem dX7_mine_16 : decode cX7_mine 16 = .ok (.iconst 0, 1) := by decide +kernel
theorem dX7_mine_17 : decode cX7_mine 17 = .ok (.putfield 116, 3) := by decide +kernel
theorem dX7_mine_20 : decode cX7_mine 20 = .ok (.iload_n 1, 1) := by decide +kernel
theorem dX7_mine_21 : decode cX7_mine 21 = .ok (.ifCond .eq 19, 3) := by decide +kernel
theorem dX7_mine_24 : decode cX7_mine 24 = .ok (.aload_n 0, 1) := by decide +kernel
theorem dX7_mine_25 : decode cX7_mine 25 = .ok (.iload_n 1, 1) := by decide +kernel
theorem dX7_mine_26 : decode cX7_mine 26 = .ok (.putfield 65, 3) := by decide +kernel
theorem dX7_mine_29 : decode cX7_mine 29 = .ok (.ldc 127, 2) := by decide +kernel
theorem dX7_mine_31 : decode cX7_mine 31 = .ok (.aload_n 0, 1) := by decide +kernel
theorem dX7_mine_32 : decode cX7_mine 32 = .ok (.getfield 19, 3) := by decide +kernel
theorem dX7_mine_35 : decode cX7_mine 35 = .ok (.getfield 128, 3) := by decide +kernel
theorem dX7_mine_38 : decode cX7_mine 38 = .ok (.isub, 1) := by decide +kernel
theorem dX7_mine_39 : decode cX7_mine 39 = .ok (.ireturn, 1) := by decide +kernel
theorem dX7_mine_40 : decode cX7_mine 40 = .ok (.aload_n 0, 1) := by decide +kernel
theorem dX7_mine_41 : decode cX7_mine 41 = .ok (.getfield 26, 3) := by decide +kernel
theorem dX7_mine_44 : decode cX7_mine 44 = .ok (.aload_n 0, 1) := by decide +kernel
theorem dX7_mine_45 : decode cX7_mine 45 = .ok (.getfield 30, 3) := by decide +kernel
theorem dX7_mine_48 : decode cX7_mine 48 = .ok (.invokevirtual 131, 3) := by decide +kernel
theorem dX7_mine_51 : decode cX7_mine 51 = .ok (.aload_n 0, 1) := by decide +kernel
theorem dX7_mine_52 : decode cX7_mine 52 = .ok (.getfield 36, 3) := by decide +kernel
theorem dX7_mine_55 : decode cX7_mine 55 = .ok (.invokevirtual 135, 3) := by decide +kernel
theorem dX7_mine_58 : decode cX7_mine 58 = .ok (.aload_n 0, 1) := by decide +kernel
theorem dX7_mine_59 : decode cX7_mine 59 = .ok (.getfield 26, 3) := by decide +kernel
theorem dX7_mine_62 : decode cX7_mine 62 = .ok (.getfield 138, 3) := by decide +kernel
theorem dX7_mine_65 : decode cX7_mine 65 = .ok (.ireturn, 1) := by decide +kernel
theorem dX7_fault_0 : decode cX7_fault 0 = .ok (.aload_n 0, 1) := by decide +kernel
theorem dX7_fault_1 : decode cX7_fault 1 = .ok (.getfield 65, 3) := by decide +kernel
theorem dX7_fault_4 : decode cX7_fault 4 = .ok (.ireturn, 1) := by decide +kernel
set_option maxRecDepth 20000 in
theorem ggX7_years_X0_keep : GoodIn wsX7_years wsX0_keep := goodIn_r _ [12, 13, 14, 15, 16, 17, 18, 19, 20, 21, 22, 23, 24, 25, 26, 27, 28, 29, 30, 31, 32, 33, 34, 35, 85, 86, 87, 73, 74, 75, 76, 77, 78, 79, 80, 81, 82, 83, 84] (by decide +kernel) (by decide +kernel)
set_option maxRecDepth 20000 in
theorem gX7_years_X0_keep : GoodIn wsX7_years (wsV RX7 149 RX0 yX0_keep wsX0_keep) := goodIn_app (goodIn_of _ (by decide +kernel)) ggX7_years_X0_keep
set_option maxRecDepth 20000 in
theorem ggX7_years_X3_passYear : GoodIn wsX7_years wsX3_passYear := goodIn_r _ [39, 26, 40, 32, 29, 41, 42, 43, 23, 44, 31, 45, 17, 18, 19, 46, 47, 48, 49, 50, 51, 52, 53, 34, 54, 55, 56, 57, 33, 73, 74, 75, 76, 77, 78, 79, 80, 81, 82, 83, 84] (by decide +kernel) (by decide +kernel)
set_option maxRecDepth 20000 in
theorem gX7_years_X3_passYear : GoodIn wsX7_years (wsV RX7 152 RX3 yX3_passYear wsX3_passYear) := goodIn_app (goodIn_of _ (by decide +kernel)) ggX7_years_X3_passYear
set_option maxRecDepth 20000 in
theorem ggX7_years_X3_allUp : GoodIn wsX7_years wsX3_allUp := goodIn_r _ [61, 26, 46, 47, 48, 23, 49, 32, 73, 74, 75, 76, 77, 78, 79, 80, 81, 82, 83, 84] (by decide +kernel) (by decide +kernel)
set_option maxRecDepth 20000 in
theorem gX7_years_X3_allUp : GoodIn wsX7_years (wsV RX7 156 RX3 yX3_allUp wsX3_allUp) := goodIn_app (goodIn_of _ (by decide +kernel)) ggX7_years_X3_allUp
theorem dX7_years_0 : decode cX7_years 0 = .ok (.aload_n 0, 1) := by decide +kernel
theorem dX7_years_1 : decode cX7_years 1 = .ok (.getfield 26, 3) := by decide +kernel
theorem dX7_years_4 : decode cX7_years 4 = .ok (.getfield 141, 3) := by decide +kernel
theorem dX7_years_7 : decode cX7_years 7 = .ok (.ifCond .ne 6, 3) := by decide +kernel
theorem dX7_years_10 : decode cX7_years 10 = .ok (.ldc 145, 2) := by decide +kernel
theorem dX7_years_12 : decode cX7_years 12 = .ok (.ireturn, 1) := by decide +kernel
theorem dX7_years_13 : decode cX7_years 13 = .ok (.iload_n 1, 1) := by decide +kernel
theorem dX7_years_14 : decode cX7_years 14 = .ok (.iconst 1, 1) := by decide +kernel
theorem dX7_years_15 : decode cX7_years 15 = .ok (.if_icmp .lt 9, 3) := by decide +kernel
theorem dX7_years_18 : decode cX7_years 18 = .ok (.iload_n 1, 1) := by decide +kernel
theorem dX7_years_19 : decode cX7_years 19 = .ok (.bipush 24, 2) := by decide +kernel
theorem dX7_years_21 : decode cX7_years 21 = .ok (.if_icmp .le 6, 3) := by decide +kernel
theorem dX7_years_24 : decode cX7_years 24 = .ok (.ldc 76, 2) := by decide +kernel
theorem dX7_years_26 : decode cX7_years 26 = .ok (.ireturn, 1) := by decide +kernel
theorem dX7_years_27 : decode cX7_years 27 = .ok (.aload_n 0, 1) := by decide +kernel
theorem dX7_years_28 : decode cX7_years 28 = .ok (.getfield 26, 3) := by decide +kernel
theorem dX7_years_31 : decode cX7_years 31 = .ok (.getfield 146, 3) := by decide +kernel
theorem dX7_years_34 : decode cX7_years 34 = .ok (.iload_n 1, 1) := by decide +kernel
theorem dX7_years_35 : decode cX7_years 35 = .ok (.iadd, 1) := by decide +kernel
theorem dX7_years_36 : decode cX7_years 36 = .ok (.sipush 999, 3) := by decide +kernel
theorem dX7_years_39 : decode cX7_years 39 = .ok (.if_icmp .le 6, 3) := by decide +kernel
theorem dX7_years_42 : decode cX7_years 42 = .ok (.ldc 118, 2) := by decide +kernel
theorem dX7_years_44 : decode cX7_years 44 = .ok (.ireturn, 1) := by decide +kernel
theorem dX7_years_45 : decode cX7_years 45 = .ok (.iconst 0, 1) := by decide +kernel
theorem dX7_years_46 : decode cX7_years 46 = .ok (.istore_n 2, 1) := by decide +kernel
theorem dX7_years_47 : decode cX7_years 47 = .ok (.iload_n 2, 1) := by decide +kernel
theorem dX7_years_48 : decode cX7_years 48 = .ok (.iload_n 1, 1) := by decide +kernel
theorem dX7_years_49 : decode cX7_years 49 = .ok (.if_icmp .ge 28, 3) := by decide +kernel
theorem dX7_years_52 : decode cX7_years 52 = .ok (.aload_n 0, 1) := by decide +kernel
theorem dX7_years_53 : decode cX7_years 53 = .ok (.getfield 36, 3) := by decide +kernel
theorem dX7_years_56 : decode cX7_years 56 = .ok (.aload_n 0, 1) := by decide +kernel
theorem dX7_years_57 : decode cX7_years 57 = .ok (.getfield 26, 3) := by decide +kernel
theorem dX7_years_60 : decode cX7_years 60 = .ok (.invokevirtual 149, 3) := by decide +kernel
theorem dX7_years_63 : decode cX7_years 63 = .ok (.aload_n 0, 1) := by decide +kernel
theorem dX7_years_64 : decode cX7_years 64 = .ok (.getfield 26, 3) := by decide +kernel
theorem dX7_years_67 : decode cX7_years 67 = .ok (.invokevirtual 152, 3) := by decide +kernel
theorem dX7_years_70 : decode cX7_years 70 = .ok (.pop, 1) := by decide +kernel
theorem dX7_years_71 : decode cX7_years 71 = .ok (.iinc 2 1, 3) := by decide +kernel
theorem dX7_years_74 : decode cX7_years 74 = .ok (.goto (-27), 3) := by decide +kernel
theorem dX7_years_77 : decode cX7_years 77 = .ok (.aload_n 0, 1) := by decide +kernel
theorem dX7_years_78 : decode cX7_years 78 = .ok (.getfield 26, 3) := by decide +kernel
theorem dX7_years_81 : decode cX7_years 81 = .ok (.invokevirtual 156, 3) := by decide +kernel
theorem dX7_years_84 : decode cX7_years 84 = .ok (.ireturn, 1) := by decide +kernel
set_option maxRecDepth 20000 in
theorem ggX7_bury_X7_isThing : GoodIn wsX7_bury wsX7_isThing := goodIn_r _ [11, 3, 12, 41, 42, 43, 44, 45, 46, 47, 48, 49, 50, 51, 52, 53, 54, 55, 56, 57, 58, 59, 60, 61, 62, 63] (by decide +kernel) (by decide +kernel)
set_option maxRecDepth 20000 in
theorem gX7_bury_X7_isThing : GoodIn wsX7_bury (wsV RX7 160 RX7 yX7_isThing wsX7_isThing) := goodIn_app (goodIn_of _ (by decide +kernel)) ggX7_bury_X7_isThing
set_option maxRecDepth 20000 in
theorem ggX7_bury_X0_keep : GoodIn wsX7_bury wsX0_keep := goodIn_r _ [17, 18, 19, 20, 21, 22, 23, 24, 25, 26, 27, 28, 29, 30, 31, 32, 33, 34, 35, 36, 37, 38, 39, 40, 64, 65, 66, 52, 53, 54, 55, 56, 57, 58, 59, 60, 61, 62, 63] (by decide +kernel) (by decide +kernel)
set_option maxRecDepth 20000 in
theorem gX7_bury_X0_keep : GoodIn wsX7_bury (wsV RX7 149 RX0 yX0_keep wsX0_keep) := goodIn_app (goodIn_of _ (by decide +kernel)) ggX7_bury_X0_keep
theorem dX7_bury_0 : decode cX7_bury 0 = .ok (.aload_n 0, 1) := by decide +kernel
theorem dX7_bury_1 : decode cX7_bury 1 = .ok (.iload_n 1, 1) := by decide +kernel
theorem dX7_bury_2 : decode cX7_bury 2 = .ok (.invokevirtual 160, 3) := by decide +kernel
theorem dX7_bury_5 : decode cX7_bury 5 = .ok (.ifCond .eq 23, 3) := by decide +kernel
theorem dX7_bury_8 : decode cX7_bury 8 = .ok (.iload_n 2, 1) := by decide +kernel
theorem dX7_bury_9 : decode cX7_bury 9 = .ok (.ifCond .lt 19, 3) := by decide +kernel
theorem dX7_bury_12 : decode cX7_bury 12 = .ok (.iload_n 2, 1) := by decide +kernel
theorem dX7_bury_13 : decode cX7_bury 13 = .ok (.iconst 4, 1) := by decide +kernel
theorem dX7_bury_14 : decode cX7_bury 14 = .ok (.if_icmp .ge 14, 3) := by decide +kernel
theorem dX7_bury_17 : decode cX7_bury 17 = .ok (.iload_n 3, 1) := by decide +kernel
theorem dX7_bury_18 : decode cX7_bury 18 = .ok (.iconst 1, 1) := by decide +kernel
theorem dX7_bury_19 : decode cX7_bury 19 = .ok (.if_icmp .lt 9, 3) := by decide +kernel
theorem dX7_bury_22 : decode cX7_bury 22 = .ok (.iload_n 3, 1) := by decide +kernel
theorem dX7_bury_23 : decode cX7_bury 23 = .ok (.bipush 40, 2) := by decide +kernel
theorem dX7_bury_25 : decode cX7_bury 25 = .ok (.if_icmp .le 6, 3) := by decide +kernel
theorem dX7_bury_28 : decode cX7_bury 28 = .ok (.ldc 76, 2) := by decide +kernel
theorem dX7_bury_30 : decode cX7_bury 30 = .ok (.ireturn, 1) := by decide +kernel
theorem dX7_bury_31 : decode cX7_bury 31 = .ok (.aload_n 0, 1) := by decide +kernel
theorem dX7_bury_32 : decode cX7_bury 32 = .ok (.getfield 36, 3) := by decide +kernel
theorem dX7_bury_35 : decode cX7_bury 35 = .ok (.aload_n 0, 1) := by decide +kernel
theorem dX7_bury_36 : decode cX7_bury 36 = .ok (.getfield 26, 3) := by decide +kernel
theorem dX7_bury_39 : decode cX7_bury 39 = .ok (.invokevirtual 149, 3) := by decide +kernel
theorem dX7_bury_42 : decode cX7_bury 42 = .ok (.aload_n 0, 1) := by decide +kernel
theorem dX7_bury_43 : decode cX7_bury 43 = .ok (.getfield 26, 3) := by decide +kernel
theorem dX7_bury_46 : decode cX7_bury 46 = .ok (.dup, 1) := by decide +kernel
theorem dX7_bury_47 : decode cX7_bury 47 = .ok (.getfield 163, 3) := by decide +kernel
theorem dX7_bury_50 : decode cX7_bury 50 = .ok (.aload_n 0, 1) := by decide +kernel
theorem dX7_bury_51 : decode cX7_bury 51 = .ok (.getfield 26, 3) := by decide +kernel
theorem dX7_bury_54 : decode cX7_bury 54 = .ok (.getfield 166, 3) := by decide +kernel
theorem dX7_bury_57 : decode cX7_bury 57 = .ok (.iload_n 1, 1) := by decide +kernel
theorem dX7_bury_58 : decode cX7_bury 58 = .ok (.iaload, 1) := by decide +kernel
theorem dX7_bury_59 : decode cX7_bury 59 = .ok (.iload_n 3, 1) := by decide +kernel
theorem dX7_bury_60 : decode cX7_bury 60 = .ok (.iadd, 1) := by decide +kernel
theorem dX7_bury_61 : decode cX7_bury 61 = .ok (.iadd, 1) := by decide +kernel
theorem dX7_bury_62 : decode cX7_bury 62 = .ok (.putfield 163, 3) := by decide +kernel
theorem dX7_bury_65 : decode cX7_bury 65 = .ok (.aload_n 0, 1) := by decide +kernel
theorem dX7_bury_66 : decode cX7_bury 66 = .ok (.getfield 26, 3) := by decide +kernel
theorem dX7_bury_69 : decode cX7_bury 69 = .ok (.getfield 169, 3) := by decide +kernel
theorem dX7_bury_72 : decode cX7_bury 72 = .ok (.iload_n 1, 1) := by decide +kernel
theorem dX7_bury_73 : decode cX7_bury 73 = .ok (.iload_n 2, 1) := by decide +kernel
theorem dX7_bury_74 : decode cX7_bury 74 = .ok (.iastore, 1) := by decide +kernel
theorem dX7_bury_75 : decode cX7_bury 75 = .ok (.aload_n 0, 1) := by decide +kernel
theorem dX7_bury_76 : decode cX7_bury 76 = .ok (.getfield 26, 3) := by decide +kernel
theorem dX7_bury_79 : decode cX7_bury 79 = .ok (.getfield 166, 3) := by decide +kernel
theorem dX7_bury_82 : decode cX7_bury 82 = .ok (.iload_n 1, 1) := by decide +kernel
theorem dX7_bury_83 : decode cX7_bury 83 = .ok (.iload_n 3, 1) := by decide +kernel
theorem dX7_bury_84 : decode cX7_bury 84 = .ok (.iastore, 1) := by decide +kernel
theorem dX7_bury_85 : decode cX7_bury 85 = .ok (.aload_n 0, 1) := by decide +kernel
theorem dX7_bury_86 : decode cX7_bury 86 = .ok (.getfield 26, 3) := by decide +kernel
theorem dX7_bury_89 : decode cX7_bury 89 = .ok (.getfield 163, 3) := by decide +kernel
theorem dX7_bury_92 : decode cX7_bury 92 = .ok (.ireturn, 1) := by decide +kernel
set_option maxRecDepth 20000 in
theorem ggX7_tell_X7_isThing : GoodIn wsX7_tell wsX7_isThing := goodIn_r _ [10, 2, 11, 45, 46, 47, 48, 49, 50, 51, 52, 53, 54, 55, 56, 57, 58, 59, 60, 61, 62, 63, 64, 65, 66, 67] (by decide +kernel) (by decide +kernel)
set_option maxRecDepth 20000 in
theorem gX7_tell_X7_isThing : GoodIn wsX7_tell (wsV RX7 160 RX7 yX7_isThing wsX7_isThing) := goodIn_app (goodIn_of _ (by decide +kernel)) ggX7_tell_X7_isThing
set_option maxRecDepth 20000 in
theorem ggX7_tell_X7_isMan : GoodIn wsX7_tell wsX7_isMan := goodIn_r _ [15, 2, 16, 45, 46, 47, 48, 49, 50, 51, 52, 53, 54, 55, 56, 57, 58, 59, 60, 61, 62, 63, 64, 65, 66, 67] (by decide +kernel) (by decide +kernel)
set_option maxRecDepth 20000 in
theorem gX7_tell_X7_isMan : GoodIn wsX7_tell (wsV RX7 172 RX7 yX7_isMan wsX7_isMan) := goodIn_app (goodIn_of _ (by decide +kernel)) ggX7_tell_X7_isMan
set_option maxRecDepth 20000 in
theorem ggX7_tell_X0_keep : GoodIn wsX7_tell wsX0_keep := goodIn_r _ [21, 22, 23, 24, 25, 26, 27, 28, 29, 30, 31, 32, 33, 34, 35, 36, 37, 38, 39, 40, 41, 42, 43, 44, 68, 69, 70, 56, 57, 58, 59, 60, 61, 62, 63, 64, 65, 66, 67] (by decide +kernel) (by decide +kernel)
set_option maxRecDepth 20000 in
theorem gX7_tell_X0_keep : GoodIn wsX7_tell (wsV RX7 149 RX0 yX0_keep wsX0_keep) := goodIn_app (goodIn_of _ (by decide +kernel)) ggX7_tell_X0_keep
theorem dX7_tell_0 : decode cX7_tell 0 = .ok (.aload_n 0, 1) := by decide +kernel
theorem dX7_tell_1 : decode cX7_tell 1 = .ok (.iload_n 1, 1) := by decide +kernel
theorem dX7_tell_2 : decode cX7_tell 2 = .ok (.invokevirtual 160, 3) := by decide +kernel
theorem dX7_tell_5 : decode cX7_tell 5 = .ok (.ifCond .eq 20, 3) := by decide +kernel
theorem dX7_tell_8 : decode cX7_tell 8 = .ok (.aload_n 0, 1) := by decide +kernel
theorem dX7_tell_9 : decode cX7_tell 9 = .ok (.iload_n 2, 1) := by decide +kernel
theorem dX7_tell_10 : decode cX7_tell 10 = .ok (.invokevirtual 172, 3) := by decide +kernel
theorem dX7_tell_13 : decode cX7_tell 13 = .ok (.ifCond .eq 12, 3) := by decide +kernel
theorem dX7_tell_16 : decode cX7_tell 16 = .ok (.iload_n 3, 1) := by decide +kernel
theorem dX7_tell_17 : decode cX7_tell 17 = .ok (.ifCond .lt 8, 3) := by decide +kernel
theorem dX7_tell_20 : decode cX7_tell 20 = .ok (.iload_n 3, 1) := by decide +kernel
theorem dX7_tell_21 : decode cX7_tell 21 = .ok (.iconst 1, 1) := by decide +kernel
theorem dX7_tell_22 : decode cX7_tell 22 = .ok (.if_icmp .le 6, 3) := by decide +kernel
theorem dX7_tell_25 : decode cX7_tell 25 = .ok (.ldc 76, 2) := by decide +kernel
theorem dX7_tell_27 : decode cX7_tell 27 = .ok (.ireturn, 1) := by decide +kernel
theorem dX7_tell_28 : decode cX7_tell 28 = .ok (.aload_n 0, 1) := by decide +kernel
theorem dX7_tell_29 : decode cX7_tell 29 = .ok (.getfield 26, 3) := by decide +kernel
theorem dX7_tell_32 : decode cX7_tell 32 = .ok (.getfield 175, 3) := by decide +kernel
theorem dX7_tell_35 : decode cX7_tell 35 = .ok (.iload_n 1, 1) := by decide +kernel
theorem dX7_tell_36 : decode cX7_tell 36 = .ok (.iaload, 1) := by decide +kernel
theorem dX7_tell_37 : decode cX7_tell 37 = .ok (.iload_n 2, 1) := by decide +kernel
theorem dX7_tell_38 : decode cX7_tell 38 = .ok (.ishr, 1) := by decide +kernel
theorem dX7_tell_39 : decode cX7_tell 39 = .ok (.iconst 1, 1) := by decide +kernel
theorem dX7_tell_40 : decode cX7_tell 40 = .ok (.iand, 1) := by decide +kernel
theorem dX7_tell_41 : decode cX7_tell 41 = .ok (.iload_n 3, 1) := by decide +kernel
theorem dX7_tell_42 : decode cX7_tell 42 = .ok (.if_icmp .ne 6, 3) := by decide +kernel
theorem dX7_tell_45 : decode cX7_tell 45 = .ok (.ldc 145, 2) := by decide +kernel
theorem dX7_tell_47 : decode cX7_tell 47 = .ok (.ireturn, 1) := by decide +kernel
theorem dX7_tell_48 : decode cX7_tell 48 = .ok (.aload_n 0, 1) := by decide +kernel
theorem dX7_tell_49 : decode cX7_tell 49 = .ok (.getfield 36, 3) := by decide +kernel
theorem dX7_tell_52 : decode cX7_tell 52 = .ok (.aload_n 0, 1) := by decide +kernel
theorem dX7_tell_53 : decode cX7_tell 53 = .ok (.getfield 26, 3) := by decide +kernel
theorem dX7_tell_56 : decode cX7_tell 56 = .ok (.invokevirtual 149, 3) := by decide +kernel
theorem dX7_tell_59 : decode cX7_tell 59 = .ok (.aload_n 0, 1) := by decide +kernel
theorem dX7_tell_60 : decode cX7_tell 60 = .ok (.getfield 26, 3) := by decide +kernel
theorem dX7_tell_63 : decode cX7_tell 63 = .ok (.getfield 175, 3) := by decide +kernel
theorem dX7_tell_66 : decode cX7_tell 66 = .ok (.iload_n 1, 1) := by decide +kernel
theorem dX7_tell_67 : decode cX7_tell 67 = .ok (.dup2, 1) := by decide +kernel
theorem dX7_tell_68 : decode cX7_tell 68 = .ok (.iaload, 1) := by decide +kernel
theorem dX7_tell_69 : decode cX7_tell 69 = .ok (.iconst 1, 1) := by decide +kernel
theorem dX7_tell_70 : decode cX7_tell 70 = .ok (.iload_n 2, 1) := by decide +kernel
theorem dX7_tell_71 : decode cX7_tell 71 = .ok (.ishl, 1) := by decide +kernel
theorem dX7_tell_72 : decode cX7_tell 72 = .ok (.ixor, 1) := by decide +kernel
theorem dX7_tell_73 : decode cX7_tell 73 = .ok (.iastore, 1) := by decide +kernel
theorem dX7_tell_74 : decode cX7_tell 74 = .ok (.aload_n 0, 1) := by decide +kernel
theorem dX7_tell_75 : decode cX7_tell 75 = .ok (.getfield 26, 3) := by decide +kernel
theorem dX7_tell_78 : decode cX7_tell 78 = .ok (.getfield 175, 3) := by decide +kernel
theorem dX7_tell_81 : decode cX7_tell 81 = .ok (.iload_n 1, 1) := by decide +kernel
theorem dX7_tell_82 : decode cX7_tell 82 = .ok (.iaload, 1) := by decide +kernel
theorem dX7_tell_83 : decode cX7_tell 83 = .ok (.ireturn, 1) := by decide +kernel
set_option maxRecDepth 20000 in
theorem ggX7_undo_X0_takeBack : GoodIn wsX7_undo wsX0_takeBack := goodIn_r _ [9, 10, 11, 12, 13, 14, 15, 16, 17, 18, 19, 20, 21, 22, 23, 24, 25, 26, 27, 28, 40, 41, 42, 43, 44, 45, 46, 47, 48, 49, 50, 51, 52, 53, 54] (by decide +kernel) (by decide +kernel)
set_option maxRecDepth 20000 in
theorem gX7_undo_X0_takeBack : GoodIn wsX7_undo (wsV RX7 181 RX0 yX0_takeBack wsX0_takeBack) := goodIn_app (goodIn_of _ (by decide +kernel)) ggX7_undo_X0_takeBack
theorem dX7_undo_0 : decode cX7_undo 0 = .ok (.aload_n 0, 1) := by decide +kernel
theorem dX7_undo_1 : decode cX7_undo 1 = .ok (.getfield 36, 3) := by decide +kernel
theorem dX7_undo_4 : decode cX7_undo 4 = .ok (.getfield 178, 3) := by decide +kernel
theorem dX7_undo_7 : decode cX7_undo 7 = .ok (.ifCond .ne 6, 3) := by decide +kernel
theorem dX7_undo_10 : decode cX7_undo 10 = .ok (.ldc 145, 2) := by decide +kernel
theorem dX7_undo_12 : decode cX7_undo 12 = .ok (.ireturn, 1) := by decide +kernel
theorem dX7_undo_13 : decode cX7_undo 13 = .ok (.aload_n 0, 1) := by decide +kernel
theorem dX7_undo_14 : decode cX7_undo 14 = .ok (.getfield 36, 3) := by decide +kernel
theorem dX7_undo_17 : decode cX7_undo 17 = .ok (.aload_n 0, 1) := by decide +kernel
theorem dX7_undo_18 : decode cX7_undo 18 = .ok (.getfield 26, 3) := by decide +kernel
theorem dX7_undo_21 : decode cX7_undo 21 = .ok (.invokevirtual 181, 3) := by decide +kernel
theorem dX7_undo_24 : decode cX7_undo 24 = .ok (.aload_n 0, 1) := by decide +kernel
theorem dX7_undo_25 : decode cX7_undo 25 = .ok (.getfield 36, 3) := by decide +kernel
theorem dX7_undo_28 : decode cX7_undo 28 = .ok (.getfield 178, 3) := by decide +kernel
theorem dX7_undo_31 : decode cX7_undo 31 = .ok (.ireturn, 1) := by decide +kernel
set_option maxRecDepth 20000 in
theorem ggX7_thing_X7_isThing : GoodIn wsX7_thing wsX7_isThing := goodIn_r _ [11, 2, 12, 52, 53, 54, 55, 56, 57, 58, 59, 60, 61, 62, 63, 64, 65, 66, 67, 68, 69, 70, 71, 72, 73, 74] (by decide +kernel) (by decide +kernel)
set_option maxRecDepth 20000 in
theorem gX7_thing_X7_isThing : GoodIn wsX7_thing (wsV RX7 160 RX7 yX7_isThing wsX7_isThing) := goodIn_app (goodIn_of _ (by decide +kernel)) ggX7_thing_X7_isThing
set_option maxRecDepth 20000 in
theorem ggX7_thing_X3_nearTo : GoodIn wsX7_thing wsX3_nearTo := goodIn_r _ [17, 18, 19, 20, 21, 16, 22, 23, 24, 25, 26, 27, 28, 29, 30, 31, 32, 33, 63, 64, 65, 66, 67, 68, 69, 70, 71, 72, 73, 74] (by decide +kernel) (by decide +kernel)
set_option maxRecDepth 20000 in
theorem gX7_thing_X3_nearTo : GoodIn wsX7_thing (wsV RX7 187 RX3 yX3_nearTo wsX3_nearTo) := goodIn_app (goodIn_of _ (by decide +kernel)) ggX7_thing_X3_nearTo
set_option maxRecDepth 20000 in
theorem ggX7_thing_X3_riseOf : GoodIn wsX7_thing wsX3_riseOf := goodIn_r _ [37, 38, 28, 39, 40, 26, 41, 42, 30, 31, 32, 16, 33, 43, 44, 45, 46, 47, 48, 49, 50, 51, 18, 23, 63, 64, 65, 66, 67, 68, 69, 70, 71, 72, 73, 74] (by decide +kernel) (by decide +kernel)
set_option maxRecDepth 20000 in
theorem gX7_thing_X3_riseOf : GoodIn wsX7_thing (wsV RX7 190 RX3 yX3_riseOf wsX3_riseOf) := goodIn_app (goodIn_of _ (by decide +kernel)) ggX7_thing_X3_riseOf
theorem dX7_thing_0 : decode cX7_thing 0 = .ok (.aload_n 0, 1) := by decide +kernel
theorem dX7_thing_1 : decode cX7_thing 1 = .ok (.iload_n 1, 1) := by decide +kernel
theorem dX7_thing_2 : decode cX7_thing 2 = .ok (.invokevirtual 160, 3) := by decide +kernel
theorem dX7_thing_5 : decode cX7_thing 5 = .ok (.ifCond .ne 6, 3) := by decide +kernel
theorem dX7_thing_8 : decode cX7_thing 8 = .ok (.ldc 76, 2) := by decide +kernel
theorem dX7_thing_10 : decode cX7_thing 10 = .ok (.ireturn, 1) := by decide +kernel
theorem dX7_thing_11 : decode cX7_thing 11 = .ok (.iload_n 2, 1) := by decide +kernel
theorem dX7_thing_12 : decode cX7_thing 12 = .ok (.tableswitch 98 0 5 #[40, 50, 60, 70, 80, 89], 40) := by decide +kernel
theorem dX7_thing_52 : decode cX7_thing 52 = .ok (.aload_n 0, 1) := by decide +kernel
theorem dX7_thing_53 : decode cX7_thing 53 = .ok (.getfield 26, 3) := by decide +kernel
theorem dX7_thing_56 : decode cX7_thing 56 = .ok (.getfield 166, 3) := by decide +kernel
theorem dX7_thing_59 : decode cX7_thing 59 = .ok (.iload_n 1, 1) := by decide +kernel
theorem dX7_thing_60 : decode cX7_thing 60 = .ok (.iaload, 1) := by decide +kernel
theorem dX7_thing_61 : decode cX7_thing 61 = .ok (.ireturn, 1) := by decide +kernel
theorem dX7_thing_62 : decode cX7_thing 62 = .ok (.aload_n 0, 1) := by decide +kernel
theorem dX7_thing_63 : decode cX7_thing 63 = .ok (.getfield 26, 3) := by decide +kernel
theorem dX7_thing_66 : decode cX7_thing 66 = .ok (.getfield 169, 3) := by decide +kernel
theorem dX7_thing_69 : decode cX7_thing 69 = .ok (.iload_n 1, 1) := by decide +kernel
theorem dX7_thing_70 : decode cX7_thing 70 = .ok (.iaload, 1) := by decide +kernel
theorem dX7_thing_71 : decode cX7_thing 71 = .ok (.ireturn, 1) := by decide +kernel
theorem dX7_thing_72 : decode cX7_thing 72 = .ok (.aload_n 0, 1) := by decide +kernel
theorem dX7_thing_73 : decode cX7_thing 73 = .ok (.getfield 26, 3) := by decide +kernel
theorem dX7_thing_76 : decode cX7_thing 76 = .ok (.getfield 184, 3) := by decide +kernel
theorem dX7_thing_79 : decode cX7_thing 79 = .ok (.iload_n 1, 1) := by decide +kernel
theorem dX7_thing_80 : decode cX7_thing 80 = .ok (.iaload, 1) := by decide +kernel
theorem dX7_thing_81 : decode cX7_thing 81 = .ok (.ireturn, 1) := by decide +kernel
theorem dX7_thing_82 : decode cX7_thing 82 = .ok (.aload_n 0, 1) := by decide +kernel
theorem dX7_thing_83 : decode cX7_thing 83 = .ok (.getfield 26, 3) := by decide +kernel
theorem dX7_thing_86 : decode cX7_thing 86 = .ok (.getfield 175, 3) := by decide +kernel
theorem dX7_thing_89 : decode cX7_thing 89 = .ok (.iload_n 1, 1) := by decide +kernel
theorem dX7_thing_90 : decode cX7_thing 90 = .ok (.iaload, 1) := by decide +kernel
theorem dX7_thing_91 : decode cX7_thing 91 = .ok (.ireturn, 1) := by decide +kernel
theorem dX7_thing_92 : decode cX7_thing 92 = .ok (.aload_n 0, 1) := by decide +kernel
theorem dX7_thing_93 : decode cX7_thing 93 = .ok (.getfield 26, 3) := by decide +kernel
theorem dX7_thing_96 : decode cX7_thing 96 = .ok (.iload_n 1, 1) := by decide +kernel
theorem dX7_thing_97 : decode cX7_thing 97 = .ok (.invokevirtual 187, 3) := by decide +kernel
theorem dX7_thing_100 : decode cX7_thing 100 = .ok (.ireturn, 1) := by decide +kernel
theorem dX7_thing_101 : decode cX7_thing 101 = .ok (.aload_n 0, 1) := by decide +kernel
theorem dX7_thing_102 : decode cX7_thing 102 = .ok (.getfield 26, 3) := by decide +kernel
theorem dX7_thing_105 : decode cX7_thing 105 = .ok (.iload_n 1, 1) := by decide +kernel
theorem dX7_thing_106 : decode cX7_thing 106 = .ok (.invokevirtual 190, 3) := by decide +kernel
theorem dX7_thing_109 : decode cX7_thing 109 = .ok (.ireturn, 1) := by decide +kernel
theorem dX7_thing_110 : decode cX7_thing 110 = .ok (.ldc 76, 2) := by decide +kernel
theorem dX7_thing_112 : decode cX7_thing 112 = .ok (.ireturn, 1) := by decide +kernel
set_option maxRecDepth 20000 in
theorem ggX7_knows_X7_isMan : GoodIn wsX7_knows wsX7_isMan := goodIn_r _ [7, 1, 8, 16, 17, 18, 19, 20, 21, 22, 23, 24, 25, 26, 27, 28, 29, 30, 31, 32, 33, 34, 35, 36, 37, 38] (by decide +kernel) (by decide +kernel)
set_option maxRecDepth 20000 in
theorem gX7_knows_X7_isMan : GoodIn wsX7_knows (wsV RX7 172 RX7 yX7_isMan wsX7_isMan) := goodIn_app (goodIn_of _ (by decide +kernel)) ggX7_knows_X7_isMan
set_option maxRecDepth 20000 in
theorem ggX7_knows_X3_knownTo : GoodIn wsX7_knows wsX3_knownTo := goodIn_r _ [13, 14, 15, 27, 28, 29, 30, 31, 32, 33, 34, 35, 36, 37, 38] (by decide +kernel) (by decide +kernel)
set_option maxRecDepth 20000 in
theorem gX7_knows_X3_knownTo : GoodIn wsX7_knows (wsV RX7 193 RX3 yX3_knownTo wsX3_knownTo) := goodIn_app (goodIn_of _ (by decide +kernel)) ggX7_knows_X3_knownTo
theorem dX7_knows_0 : decode cX7_knows 0 = .ok (.aload_n 0, 1) := by decide +kernel
theorem dX7_knows_1 : decode cX7_knows 1 = .ok (.iload_n 1, 1) := by decide +kernel
theorem dX7_knows_2 : decode cX7_knows 2 = .ok (.invokevirtual 172, 3) := by decide +kernel
theorem dX7_knows_5 : decode cX7_knows 5 = .ok (.ifCond .eq 14, 3) := by decide +kernel
theorem dX7_knows_8 : decode cX7_knows 8 = .ok (.aload_n 0, 1) := by decide +kernel
theorem dX7_knows_9 : decode cX7_knows 9 = .ok (.getfield 26, 3) := by decide +kernel
theorem dX7_knows_12 : decode cX7_knows 12 = .ok (.iload_n 1, 1) := by decide +kernel
theorem dX7_knows_13 : decode cX7_knows 13 = .ok (.invokevirtual 193, 3) := by decide +kernel
theorem dX7_knows_16 : decode cX7_knows 16 = .ok (.goto 5, 3) := by decide +kernel
theorem dX7_knows_19 : decode cX7_knows 19 = .ok (.ldc 76, 2) := by decide +kernel
theorem dX7_knows_21 : decode cX7_knows 21 = .ok (.ireturn, 1) := by decide +kernel
set_option maxRecDepth 20000 in
theorem ggX7_ahead_X7_isThing : GoodIn wsX7_ahead wsX7_isThing := goodIn_r _ [9, 3, 10, 65, 66, 67, 68, 69, 70, 71, 72, 73, 74, 75, 76, 77, 78, 79, 80, 81, 82, 83, 84, 85, 86, 87] (by decide +kernel) (by decide +kernel)
set_option maxRecDepth 20000 in
theorem gX7_ahead_X7_isThing : GoodIn wsX7_ahead (wsV RX7 160 RX7 yX7_isThing wsX7_isThing) := goodIn_app (goodIn_of _ (by decide +kernel)) ggX7_ahead_X7_isThing
set_option maxRecDepth 20000 in
theorem ggX7_ahead_X7_isForetold : GoodIn wsX7_ahead wsX7_isForetold := goodIn_r _ [13] (by decide +kernel) (by decide +kernel)
set_option maxRecDepth 20000 in
theorem gX7_ahead_X7_isForetold : GoodIn wsX7_ahead (va_wsS RX7 196 yX7_isForetold wsX7_isForetold) := goodIn_app (goodIn_of _ (by decide +kernel)) ggX7_ahead_X7_isForetold
set_option maxRecDepth 20000 in
theorem ggX7_ahead_X5_behind : GoodIn wsX7_ahead wsX5_behind := goodIn_r _ [18, 19, 20, 21, 22, 23, 24, 25, 26, 27, 28, 29, 30, 31, 32, 33, 34, 35, 36, 37, 38, 17, 39, 40, 41, 42, 43, 44, 45, 46, 47, 48, 49, 50, 51, 52, 53, 54, 55, 56, 57, 58, 59, 60, 61, 62, 63, 64, 88, 89, 76, 77, 78, 79, 80, 81, 82, 83, 84, 85, 86, 87] (by decide +kernel) (by decide +kernel)
set_option maxRecDepth 20000 in
theorem gX7_ahead_X5_behind : GoodIn wsX7_ahead (wsV RX7 199 RX5 yX5_behind wsX5_behind) := goodIn_app (goodIn_of _ (by decide +kernel)) ggX7_ahead_X5_behind
theorem dX7_ahead_0 : decode cX7_ahead 0 = .ok (.aload_n 0, 1) := by decide +kernel
theorem dX7_ahead_1 : decode cX7_ahead 1 = .ok (.iload_n 1, 1) := by decide +kernel
theorem dX7_ahead_2 : decode cX7_ahead 2 = .ok (.invokevirtual 160, 3) := by decide +kernel
theorem dX7_ahead_5 : decode cX7_ahead 5 = .ok (.ifCond .eq 10, 3) := by decide +kernel
theorem dX7_ahead_8 : decode cX7_ahead 8 = .ok (.iload_n 2, 1) := by decide +kernel
theorem dX7_ahead_9 : decode cX7_ahead 9 = .ok (.invokestatic 196, 3) := by decide +kernel
theorem dX7_ahead_12 : decode cX7_ahead 12 = .ok (.ifCond .ne 6, 3) := by decide +kernel
theorem dX7_ahead_15 : decode cX7_ahead 15 = .ok (.ldc 76, 2) := by decide +kernel
theorem dX7_ahead_17 : decode cX7_ahead 17 = .ok (.ireturn, 1) := by decide +kernel
theorem dX7_ahead_18 : decode cX7_ahead 18 = .ok (.aload_n 0, 1) := by decide +kernel
theorem dX7_ahead_19 : decode cX7_ahead 19 = .ok (.getfield 47, 3) := by decide +kernel
theorem dX7_ahead_22 : decode cX7_ahead 22 = .ok (.aload_n 0, 1) := by decide +kernel
theorem dX7_ahead_23 : decode cX7_ahead 23 = .ok (.getfield 26, 3) := by decide +kernel
theorem dX7_ahead_26 : decode cX7_ahead 26 = .ok (.iload_n 2, 1) := by decide +kernel
theorem dX7_ahead_27 : decode cX7_ahead 27 = .ok (.invokevirtual 199, 3) := by decide +kernel
theorem dX7_ahead_30 : decode cX7_ahead 30 = .ok (.getfield 166, 3) := by decide +kernel
theorem dX7_ahead_33 : decode cX7_ahead 33 = .ok (.iload_n 1, 1) := by decide +kernel
theorem dX7_ahead_34 : decode cX7_ahead 34 = .ok (.iaload, 1) := by decide +kernel
theorem dX7_ahead_35 : decode cX7_ahead 35 = .ok (.ireturn, 1) := by decide +kernel
set_option maxRecDepth 20000 in
theorem ggX7_up_X7_isForetold : GoodIn wsX7_up wsX7_isForetold := goodIn_r _ [9] (by decide +kernel) (by decide +kernel)
set_option maxRecDepth 20000 in
theorem gX7_up_X7_isForetold : GoodIn wsX7_up (va_wsS RX7 196 yX7_isForetold wsX7_isForetold) := goodIn_app (goodIn_of _ (by decide +kernel)) ggX7_up_X7_isForetold
set_option maxRecDepth 20000 in
theorem ggX7_up_X5_behind : GoodIn wsX7_up wsX5_behind := goodIn_r _ [14, 15, 16, 17, 18, 19, 20, 21, 22, 23, 24, 25, 26, 27, 28, 29, 30, 31, 32, 33, 34, 13, 35, 36, 37, 38, 39, 40, 41, 42, 43, 44, 45, 46, 47, 48, 49, 50, 51, 52, 53, 54, 55, 56, 57, 58, 59, 60, 88, 89, 76, 77, 78, 79, 80, 81, 82, 83, 84, 85, 86, 87] (by decide +kernel) (by decide +kernel)
set_option maxRecDepth 20000 in
theorem gX7_up_X5_behind : GoodIn wsX7_up (wsV RX7 199 RX5 yX5_behind wsX5_behind) := goodIn_app (goodIn_of _ (by decide +kernel)) ggX7_up_X5_behind
set_option maxRecDepth 20000 in
theorem ggX7_up_X3_allUp : GoodIn wsX7_up wsX3_allUp := goodIn_r _ [64, 22, 49, 50, 51, 19, 52, 28, 76, 77, 78, 79, 80, 81, 82, 83, 84, 85, 86, 87] (by decide +kernel) (by decide +kernel)
set_option maxRecDepth 20000 in
theorem gX7_up_X3_allUp : GoodIn wsX7_up (wsV RX7 156 RX3 yX3_allUp wsX3_allUp) := goodIn_app (goodIn_of _ (by decide +kernel)) ggX7_up_X3_allUp
theorem dX7_up_0 : decode cX7_up 0 = .ok (.aload_n 0, 1) := by decide +kernel
theorem dX7_up_1 : decode cX7_up 1 = .ok (.getfield 26, 3) := by decide +kernel
theorem dX7_up_4 : decode cX7_up 4 = .ok (.getfield 141, 3) := by decide +kernel
theorem dX7_up_7 : decode cX7_up 7 = .ok (.ifCond .ne 6, 3) := by decide +kernel
theorem dX7_up_10 : decode cX7_up 10 = .ok (.ldc 145, 2) := by decide +kernel
theorem dX7_up_12 : decode cX7_up 12 = .ok (.ireturn, 1) := by decide +kernel
theorem dX7_up_13 : decode cX7_up 13 = .ok (.iload_n 1, 1) := by decide +kernel
theorem dX7_up_14 : decode cX7_up 14 = .ok (.invokestatic 196, 3) := by decide +kernel
theorem dX7_up_17 : decode cX7_up 17 = .ok (.ifCond .eq 21, 3) := by decide +kernel
theorem dX7_up_20 : decode cX7_up 20 = .ok (.aload_n 0, 1) := by decide +kernel
theorem dX7_up_21 : decode cX7_up 21 = .ok (.getfield 47, 3) := by decide +kernel
theorem dX7_up_24 : decode cX7_up 24 = .ok (.aload_n 0, 1) := by decide +kernel
theorem dX7_up_25 : decode cX7_up 25 = .ok (.getfield 26, 3) := by decide +kernel
theorem dX7_up_28 : decode cX7_up 28 = .ok (.iload_n 1, 1) := by decide +kernel
theorem dX7_up_29 : decode cX7_up 29 = .ok (.invokevirtual 199, 3) := by decide +kernel
theorem dX7_up_32 : decode cX7_up 32 = .ok (.invokevirtual 156, 3) := by decide +kernel
theorem dX7_up_35 : decode cX7_up 35 = .ok (.goto 5, 3) := by decide +kernel
theorem dX7_up_38 : decode cX7_up 38 = .ok (.ldc 76, 2) := by decide +kernel
theorem dX7_up_40 : decode cX7_up 40 = .ok (.ireturn, 1) := by decide +kernel
set_option maxRecDepth 20000 in
theorem ggX7_comesUp_X7_isThing : GoodIn wsX7_comesUp wsX7_isThing := goodIn_r _ [8, 2, 9, 59, 60, 61, 62, 63, 64, 65, 66, 67, 68, 69, 70, 71, 72, 73, 74, 75, 76, 77, 78, 79, 80, 81] (by decide +kernel) (by decide +kernel)
set_option maxRecDepth 20000 in
theorem gX7_comesUp_X7_isThing : GoodIn wsX7_comesUp (wsV RX7 160 RX7 yX7_isThing wsX7_isThing) := goodIn_app (goodIn_of _ (by decide +kernel)) ggX7_comesUp_X7_isThing
set_option maxRecDepth 20000 in
theorem ggX7_comesUp_X5_yearsUntilUp : GoodIn wsX7_comesUp wsX5_yearsUntilUp := goodIn_r _ [14, 15, 16, 17, 18, 19, 20, 21, 22, 23, 24, 25, 26, 27, 28, 29, 30, 31, 32, 33, 34, 35, 36, 37, 38, 39, 40, 41, 42, 43, 44, 45, 46, 47, 48, 49, 50, 51, 52, 53, 54, 55, 56, 57, 58, 82, 83, 70, 71, 72, 73, 74, 75, 76, 77, 78, 79, 80, 81] (by decide +kernel) (by decide +kernel)
set_option maxRecDepth 20000 in
theorem gX7_comesUp_X5_yearsUntilUp : GoodIn wsX7_comesUp (wsV RX7 203 RX5 yX5_yearsUntilUp wsX5_yearsUntilUp) := goodIn_app (goodIn_of _ (by decide +kernel)) ggX7_comesUp_X5_yearsUntilUp
theorem dX7_comesUp_0 : decode cX7_comesUp 0 = .ok (.aload_n 0, 1) := by decide +kernel
theorem dX7_comesUp_1 : decode cX7_comesUp 1 = .ok (.iload_n 1, 1) := by decide +kernel
theorem dX7_comesUp_2 : decode cX7_comesUp 2 = .ok (.invokevirtual 160, 3) := by decide +kernel
theorem dX7_comesUp_5 : decode cX7_comesUp 5 = .ok (.ifCond .eq 18, 3) := by decide +kernel
theorem dX7_comesUp_8 : decode cX7_comesUp 8 = .ok (.aload_n 0, 1) := by decide +kernel
theorem dX7_comesUp_9 : decode cX7_comesUp 9 = .ok (.getfield 47, 3) := by decide +kernel
theorem dX7_comesUp_12 : decode cX7_comesUp 12 = .ok (.aload_n 0, 1) := by decide +kernel
theorem dX7_comesUp_13 : decode cX7_comesUp 13 = .ok (.getfield 26, 3) := by decide +kernel
theorem dX7_comesUp_16 : decode cX7_comesUp 16 = .ok (.iload_n 1, 1) := by decide +kernel
theorem dX7_comesUp_17 : decode cX7_comesUp 17 = .ok (.invokevirtual 203, 3) := by decide +kernel
theorem dX7_comesUp_20 : decode cX7_comesUp 20 = .ok (.goto 5, 3) := by decide +kernel
theorem dX7_comesUp_23 : decode cX7_comesUp 23 = .ok (.ldc 76, 2) := by decide +kernel
theorem dX7_comesUp_25 : decode cX7_comesUp 25 = .ok (.ireturn, 1) := by decide +kernel
set_option maxRecDepth 20000 in
theorem ggX7_first_X7_isOneOfTwo : GoodIn wsX7_first wsX7_isOneOfTwo := goodIn_r _ [9] (by decide +kernel) (by decide +kernel)
set_option maxRecDepth 20000 in
theorem gX7_first_X7_isOneOfTwo : GoodIn wsX7_first (va_wsS RX7 207 yX7_isOneOfTwo wsX7_isOneOfTwo) := goodIn_app (goodIn_of _ (by decide +kernel)) ggX7_first_X7_isOneOfTwo
set_option maxRecDepth 20000 in
theorem ggX7_first_X5_firstUp : GoodIn wsX7_first wsX5_firstUp := goodIn_r _ [14, 15, 16, 17, 18, 19, 20, 21, 22, 23, 24, 25, 26, 27, 28, 29, 30, 31, 32, 33, 34, 35, 36, 37, 38, 39, 40, 41, 42, 43, 44, 45, 46, 47, 48, 49, 50, 51, 52, 53, 54, 55, 56, 57, 58, 59, 60, 61, 62, 8, 63, 64, 88, 89, 76, 77, 78, 79, 80, 81, 82, 83, 84, 85, 86, 87] (by decide +kernel) (by decide +kernel)
set_option maxRecDepth 20000 in
theorem gX7_first_X5_firstUp : GoodIn wsX7_first (wsV RX7 210 RX5 yX5_firstUp wsX5_firstUp) := goodIn_app (goodIn_of _ (by decide +kernel)) ggX7_first_X5_firstUp
theorem dX7_first_0 : decode cX7_first 0 = .ok (.aload_n 0, 1) := by decide +kernel
theorem dX7_first_1 : decode cX7_first 1 = .ok (.getfield 26, 3) := by decide +kernel
theorem dX7_first_4 : decode cX7_first 4 = .ok (.getfield 141, 3) := by decide +kernel
theorem dX7_first_7 : decode cX7_first 7 = .ok (.ifCond .ne 6, 3) := by decide +kernel
theorem dX7_first_10 : decode cX7_first 10 = .ok (.ldc 145, 2) := by decide +kernel
theorem dX7_first_12 : decode cX7_first 12 = .ok (.ireturn, 1) := by decide +kernel
theorem dX7_first_13 : decode cX7_first 13 = .ok (.iload_n 1, 1) := by decide +kernel
theorem dX7_first_14 : decode cX7_first 14 = .ok (.invokestatic 207, 3) := by decide +kernel
theorem dX7_first_17 : decode cX7_first 17 = .ok (.ifCond .eq 26, 3) := by decide +kernel
theorem dX7_first_20 : decode cX7_first 20 = .ok (.aload_n 0, 1) := by decide +kernel
theorem dX7_first_21 : decode cX7_first 21 = .ok (.getfield 47, 3) := by decide +kernel
theorem dX7_first_24 : decode cX7_first 24 = .ok (.aload_n 0, 1) := by decide +kernel
theorem dX7_first_25 : decode cX7_first 25 = .ok (.getfield 26, 3) := by decide +kernel
theorem dX7_first_28 : decode cX7_first 28 = .ok (.iload_n 1, 1) := by decide +kernel
theorem dX7_first_29 : decode cX7_first 29 = .ok (.ifCond .ne 7, 3) := by decide +kernel
theorem dX7_first_32 : decode cX7_first 32 = .ok (.iconst 1, 1) := by decide +kernel
theorem dX7_first_33 : decode cX7_first 33 = .ok (.goto 4, 3) := by decide +kernel
theorem dX7_first_36 : decode cX7_first 36 = .ok (.iconst 0, 1) := by decide +kernel
theorem dX7_first_37 : decode cX7_first 37 = .ok (.invokevirtual 210, 3) := by decide +kernel
theorem dX7_first_40 : decode cX7_first 40 = .ok (.goto 5, 3) := by decide +kernel
theorem dX7_first_43 : decode cX7_first 43 = .ok (.ldc 76, 2) := by decide +kernel
theorem dX7_first_45 : decode cX7_first 45 = .ok (.ireturn, 1) := by decide +kernel
set_option maxRecDepth 20000 in
theorem ggX7_trouble_X7_isOneOfTwo : GoodIn wsX7_trouble wsX7_isOneOfTwo := goodIn_r _ [9] (by decide +kernel) (by decide +kernel)
set_option maxRecDepth 20000 in
theorem gX7_trouble_X7_isOneOfTwo : GoodIn wsX7_trouble (va_wsS RX7 207 yX7_isOneOfTwo wsX7_isOneOfTwo) := goodIn_app (goodIn_of _ (by decide +kernel)) ggX7_trouble_X7_isOneOfTwo
set_option maxRecDepth 20000 in
theorem ggX7_trouble_X5_firstTrouble : GoodIn wsX7_trouble wsX5_firstTrouble := goodIn_r _ [14, 15, 16, 17, 18, 19, 20, 21, 22, 23, 24, 25, 26, 27, 28, 29, 30, 31, 32, 33, 34, 35, 36, 37, 38, 39, 40, 41, 42, 43, 44, 45, 46, 47, 48, 49, 50, 51, 52, 53, 54, 55, 56, 57, 58, 59, 60, 61, 62, 63, 64, 65, 66, 67, 68, 69, 93, 94, 81, 82, 83, 84, 85, 86, 87, 88, 89, 90, 91, 92] (by decide +kernel) (by decide +kernel)
set_option maxRecDepth 20000 in
theorem gX7_trouble_X5_firstTrouble : GoodIn wsX7_trouble (wsV RX7 214 RX5 yX5_firstTrouble wsX5_firstTrouble) := goodIn_app (goodIn_of _ (by decide +kernel)) ggX7_trouble_X5_firstTrouble
theorem dX7_trouble_0 : decode cX7_trouble 0 = .ok (.aload_n 0, 1) := by decide +kernel
theorem dX7_trouble_1 : decode cX7_trouble 1 = .ok (.getfield 26, 3) := by decide +kernel
theorem dX7_trouble_4 : decode cX7_trouble 4 = .ok (.getfield 141, 3) := by decide +kernel
theorem dX7_trouble_7 : decode cX7_trouble 7 = .ok (.ifCond .ne 6, 3) := by decide +kernel
theorem dX7_trouble_10 : decode cX7_trouble 10 = .ok (.ldc 145, 2) := by decide +kernel
theorem dX7_trouble_12 : decode cX7_trouble 12 = .ok (.ireturn, 1) := by decide +kernel
theorem dX7_trouble_13 : decode cX7_trouble 13 = .ok (.iload_n 1, 1) := by decide +kernel
theorem dX7_trouble_14 : decode cX7_trouble 14 = .ok (.invokestatic 207, 3) := by decide +kernel
theorem dX7_trouble_17 : decode cX7_trouble 17 = .ok (.ifCond .eq 26, 3) := by decide +kernel
theorem dX7_trouble_20 : decode cX7_trouble 20 = .ok (.aload_n 0, 1) := by decide +kernel
theorem dX7_trouble_21 : decode cX7_trouble 21 = .ok (.getfield 47, 3) := by decide +kernel
theorem dX7_trouble_24 : decode cX7_trouble 24 = .ok (.aload_n 0, 1) := by decide +kernel
theorem dX7_trouble_25 : decode cX7_trouble 25 = .ok (.getfield 26, 3) := by decide +kernel
theorem dX7_trouble_28 : decode cX7_trouble 28 = .ok (.iload_n 1, 1) := by decide +kernel
theorem dX7_trouble_29 : decode cX7_trouble 29 = .ok (.ifCond .ne 7, 3) := by decide +kernel
theorem dX7_trouble_32 : decode cX7_trouble 32 = .ok (.iconst 1, 1) := by decide +kernel
theorem dX7_trouble_33 : decode cX7_trouble 33 = .ok (.goto 4, 3) := by decide +kernel
theorem dX7_trouble_36 : decode cX7_trouble 36 = .ok (.iconst 0, 1) := by decide +kernel
theorem dX7_trouble_37 : decode cX7_trouble 37 = .ok (.invokevirtual 214, 3) := by decide +kernel
theorem dX7_trouble_40 : decode cX7_trouble 40 = .ok (.goto 5, 3) := by decide +kernel
theorem dX7_trouble_43 : decode cX7_trouble 43 = .ok (.ldc 76, 2) := by decide +kernel
theorem dX7_trouble_45 : decode cX7_trouble 45 = .ok (.ireturn, 1) := by decide +kernel
set_option maxRecDepth 20000 in
theorem ggX7_lay_X7_isForetold : GoodIn wsX7_lay wsX7_isForetold := goodIn_r _ [13] (by decide +kernel) (by decide +kernel)
set_option maxRecDepth 20000 in
theorem gX7_lay_X7_isForetold : GoodIn wsX7_lay (va_wsS RX7 196 yX7_isForetold wsX7_isForetold) := goodIn_app (goodIn_of _ (by decide +kernel)) ggX7_lay_X7_isForetold
set_option maxRecDepth 20000 in
theorem ggX7_lay_X2_find : GoodIn wsX7_lay wsX2_find := goodIn_r _ [18, 19, 20, 21, 22, 23, 24, 25, 26, 27, 28, 29, 30, 31, 32, 33, 34, 35, 36, 37, 38, 39, 40, 41, 42, 43, 44, 45, 46, 17, 47, 48, 49, 50, 51, 52, 53, 54, 55, 56, 57, 58, 59, 60, 61, 62, 63, 64, 65, 66, 67, 68, 69, 70, 71, 72, 73, 74, 75, 76, 77, 78, 79, 80, 81, 82, 83, 84, 85, 86, 87, 88, 89, 90, 91, 92, 93, 94, 95, 96, 97, 98, 99, 100, 101, 102, 103, 104, 105, 129, 130, 131, 132, 133, 117, 118, 119, 120, 121, 122, 123, 124, 125, 126, 127, 128] (by decide +kernel) (by decide +kernel)
set_option maxRecDepth 20000 in
theorem gX7_lay_X2_find : GoodIn wsX7_lay (wsV RX7 217 RX2 yX2_find wsX2_find) := goodIn_app (goodIn_of _ (by decide +kernel)) ggX7_lay_X2_find
theorem dX7_lay_0 : decode cX7_lay 0 = .ok (.aload_n 0, 1) := by decide +kernel
theorem dX7_lay_1 : decode cX7_lay 1 = .ok (.getfield 26, 3) := by decide +kernel
theorem dX7_lay_4 : decode cX7_lay 4 = .ok (.getfield 141, 3) := by decide +kernel
theorem dX7_lay_7 : decode cX7_lay 7 = .ok (.ifCond .ne 6, 3) := by decide +kernel
theorem dX7_lay_10 : decode cX7_lay 10 = .ok (.ldc 145, 2) := by decide +kernel
theorem dX7_lay_12 : decode cX7_lay 12 = .ok (.ireturn, 1) := by decide +kernel
theorem dX7_lay_13 : decode cX7_lay 13 = .ok (.iload_n 1, 1) := by decide +kernel
theorem dX7_lay_14 : decode cX7_lay 14 = .ok (.invokestatic 196, 3) := by decide +kernel
theorem dX7_lay_17 : decode cX7_lay 17 = .ok (.ifCond .eq 13, 3) := by decide +kernel
theorem dX7_lay_20 : decode cX7_lay 20 = .ok (.iload_n 2, 1) := by decide +kernel
theorem dX7_lay_21 : decode cX7_lay 21 = .ok (.iconst (-1), 1) := by decide +kernel
theorem dX7_lay_22 : decode cX7_lay 22 = .ok (.if_icmp .lt 8, 3) := by decide +kernel
theorem dX7_lay_25 : decode cX7_lay 25 = .ok (.iload_n 2, 1) := by decide +kernel
theorem dX7_lay_26 : decode cX7_lay 26 = .ok (.iconst 5, 1) := by decide +kernel
theorem dX7_lay_27 : decode cX7_lay 27 = .ok (.if_icmp .lt 6, 3) := by decide +kernel
theorem dX7_lay_30 : decode cX7_lay 30 = .ok (.ldc 76, 2) := by decide +kernel
theorem dX7_lay_32 : decode cX7_lay 32 = .ok (.ireturn, 1) := by decide +kernel
theorem dX7_lay_33 : decode cX7_lay 33 = .ok (.aload_n 0, 1) := by decide +kernel
theorem dX7_lay_34 : decode cX7_lay 34 = .ok (.getfield 54, 3) := by decide +kernel
theorem dX7_lay_37 : decode cX7_lay 37 = .ok (.aload_n 0, 1) := by decide +kernel
theorem dX7_lay_38 : decode cX7_lay 38 = .ok (.getfield 26, 3) := by decide +kernel
theorem dX7_lay_41 : decode cX7_lay 41 = .ok (.iload_n 1, 1) := by decide +kernel
theorem dX7_lay_42 : decode cX7_lay 42 = .ok (.invokevirtual 217, 3) := by decide +kernel
theorem dX7_lay_45 : decode cX7_lay 45 = .ok (.aload_n 0, 1) := by decide +kernel
theorem dX7_lay_46 : decode cX7_lay 46 = .ok (.getfield 54, 3) := by decide +kernel
theorem dX7_lay_49 : decode cX7_lay 49 = .ok (.getfield 221, 3) := by decide +kernel
theorem dX7_lay_52 : decode cX7_lay 52 = .ok (.ldc 224, 2) := by decide +kernel
theorem dX7_lay_54 : decode cX7_lay 54 = .ok (.if_icmp .eq 14, 3) := by decide +kernel
theorem dX7_lay_57 : decode cX7_lay 57 = .ok (.iload_n 2, 1) := by decide +kernel
theorem dX7_lay_58 : decode cX7_lay 58 = .ok (.aload_n 0, 1) := by decide +kernel
theorem dX7_lay_59 : decode cX7_lay 59 = .ok (.getfield 26, 3) := by decide +kernel
theorem dX7_lay_62 : decode cX7_lay 62 = .ok (.getfield 138, 3) := by decide +kernel
theorem dX7_lay_65 : decode cX7_lay 65 = .ok (.if_icmp .lt 6, 3) := by decide +kernel
theorem dX7_lay_68 : decode cX7_lay 68 = .ok (.ldc 224, 2) := by decide +kernel
theorem dX7_lay_70 : decode cX7_lay 70 = .ok (.ireturn, 1) := by decide +kernel
theorem dX7_lay_71 : decode cX7_lay 71 = .ok (.iload_n 2, 1) := by decide +kernel
theorem dX7_lay_72 : decode cX7_lay 72 = .ok (.iconst (-1), 1) := by decide +kernel
theorem dX7_lay_73 : decode cX7_lay 73 = .ok (.if_icmp .ne 13, 3) := by decide +kernel
theorem dX7_lay_76 : decode cX7_lay 76 = .ok (.aload_n 0, 1) := by decide +kernel
theorem dX7_lay_77 : decode cX7_lay 77 = .ok (.getfield 54, 3) := by decide +kernel
theorem dX7_lay_80 : decode cX7_lay 80 = .ok (.getfield 221, 3) := by decide +kernel
theorem dX7_lay_83 : decode cX7_lay 83 = .ok (.goto 12, 3) := by decide +kernel
theorem dX7_lay_86 : decode cX7_lay 86 = .ok (.aload_n 0, 1) := by decide +kernel
theorem dX7_lay_87 : decode cX7_lay 87 = .ok (.getfield 54, 3) := by decide +kernel
theorem dX7_lay_90 : decode cX7_lay 90 = .ok (.getfield 225, 3) := by decide +kernel
theorem dX7_lay_93 : decode cX7_lay 93 = .ok (.iload_n 2, 1) := by decide +kernel
theorem dX7_lay_94 : decode cX7_lay 94 = .ok (.iaload, 1) := by decide +kernel
theorem dX7_lay_95 : decode cX7_lay 95 = .ok (.ireturn, 1) := by decide +kernel
set_option maxRecDepth 20000 in
theorem ggX7_dig_X7_isThing : GoodIn wsX7_dig wsX7_isThing := goodIn_r _ [8, 3, 9, 67, 68, 69, 70, 71, 72, 73, 74, 75, 76, 77, 78, 79, 80, 81, 82, 83, 84, 85, 86, 87, 88, 89] (by decide +kernel) (by decide +kernel)
set_option maxRecDepth 20000 in
theorem gX7_dig_X7_isThing : GoodIn wsX7_dig (wsV RX7 160 RX7 yX7_isThing wsX7_isThing) := goodIn_app (goodIn_of _ (by decide +kernel)) ggX7_dig_X7_isThing
set_option maxRecDepth 20000 in
theorem ggX7_dig_X7_isForetold : GoodIn wsX7_dig wsX7_isForetold := goodIn_r _ [12] (by decide +kernel) (by decide +kernel)
set_option maxRecDepth 20000 in
theorem gX7_dig_X7_isForetold : GoodIn wsX7_dig (va_wsS RX7 196 yX7_isForetold wsX7_isForetold) := goodIn_app (goodIn_of _ (by decide +kernel)) ggX7_dig_X7_isForetold
set_option maxRecDepth 20000 in
theorem ggX7_dig_X5_leastDepth : GoodIn wsX7_dig wsX5_leastDepth := goodIn_r _ [17, 18, 19, 20, 21, 22, 23, 24, 25, 26, 27, 28, 29, 30, 31, 32, 33, 34, 35, 36, 37, 38, 39, 16, 40, 41, 42, 43, 44, 45, 46, 47, 48, 49, 50, 51, 52, 53, 54, 55, 56, 57, 58, 59, 60, 61, 62, 63, 64, 65, 66, 90, 91, 78, 79, 80, 81, 82, 83, 84, 85, 86, 87, 88, 89] (by decide +kernel) (by decide +kernel)
set_option maxRecDepth 20000 in
theorem gX7_dig_X5_leastDepth : GoodIn wsX7_dig (wsV RX7 228 RX5 yX5_leastDepth wsX5_leastDepth) := goodIn_app (goodIn_of _ (by decide +kernel)) ggX7_dig_X5_leastDepth
theorem dX7_dig_0 : decode cX7_dig 0 = .ok (.aload_n 0, 1) := by decide +kernel
theorem dX7_dig_1 : decode cX7_dig 1 = .ok (.iload_n 1, 1) := by decide +kernel
theorem dX7_dig_2 : decode cX7_dig 2 = .ok (.invokevirtual 160, 3) := by decide +kernel
theorem dX7_dig_5 : decode cX7_dig 5 = .ok (.ifCond .eq 10, 3) := by decide +kernel
theorem dX7_dig_8 : decode cX7_dig 8 = .ok (.iload_n 2, 1) := by decide +kernel
theorem dX7_dig_9 : decode cX7_dig 9 = .ok (.invokestatic 196, 3) := by decide +kernel
theorem dX7_dig_12 : decode cX7_dig 12 = .ok (.ifCond .ne 6, 3) := by decide +kernel
theorem dX7_dig_15 : decode cX7_dig 15 = .ok (.ldc 76, 2) := by decide +kernel
theorem dX7_dig_17 : decode cX7_dig 17 = .ok (.ireturn, 1) := by decide +kernel
theorem dX7_dig_18 : decode cX7_dig 18 = .ok (.aload_n 0, 1) := by decide +kernel
theorem dX7_dig_19 : decode cX7_dig 19 = .ok (.getfield 47, 3) := by decide +kernel
theorem dX7_dig_22 : decode cX7_dig 22 = .ok (.aload_n 0, 1) := by decide +kernel
theorem dX7_dig_23 : decode cX7_dig 23 = .ok (.getfield 26, 3) := by decide +kernel
theorem dX7_dig_26 : decode cX7_dig 26 = .ok (.iload_n 1, 1) := by decide +kernel
theorem dX7_dig_27 : decode cX7_dig 27 = .ok (.iload_n 2, 1) := by decide +kernel
theorem dX7_dig_28 : decode cX7_dig 28 = .ok (.invokevirtual 228, 3) := by decide +kernel
theorem dX7_dig_31 : decode cX7_dig 31 = .ok (.ireturn, 1) := by decide +kernel
set_option maxRecDepth 20000 in
theorem ggX7_whom_X7_isOneOfTwo : GoodIn wsX7_whom wsX7_isOneOfTwo := goodIn_r _ [9] (by decide +kernel) (by decide +kernel)
set_option maxRecDepth 20000 in
theorem gX7_whom_X7_isOneOfTwo : GoodIn wsX7_whom (va_wsS RX7 207 yX7_isOneOfTwo wsX7_isOneOfTwo) := goodIn_app (goodIn_of _ (by decide +kernel)) ggX7_whom_X7_isOneOfTwo
set_option maxRecDepth 20000 in
theorem ggX7_whom_X3_fewestWhoKnowAll : GoodIn wsX7_whom wsX3_fewestWhoKnowAll := goodIn_r _ [14, 15, 16, 17, 18, 19, 13, 20, 21, 22, 23, 24, 25, 26, 27, 28, 29, 42, 43, 44, 45, 46, 47, 48, 49, 50, 51, 52, 53] (by decide +kernel) (by decide +kernel)
set_option maxRecDepth 20000 in
theorem gX7_whom_X3_fewestWhoKnowAll : GoodIn wsX7_whom (wsV RX7 232 RX3 yX3_fewestWhoKnowAll wsX3_fewestWhoKnowAll) := goodIn_app (goodIn_of _ (by decide +kernel)) ggX7_whom_X3_fewestWhoKnowAll
set_option maxRecDepth 20000 in
theorem ggX7_whom_J6_bitCount_0f7a4 : GoodIn wsX7_whom wsJ6_bitCount_0f7a4 := goodIn_r _ [26, 27, 28, 29] (by decide +kernel) (by decide +kernel)
set_option maxRecDepth 20000 in
theorem gX7_whom_J6_bitCount_0f7a4 : GoodIn wsX7_whom (va_wsS RX7 235 yJ6_bitCount_0f7a4 wsJ6_bitCount_0f7a4) := goodIn_app (goodIn_of _ (by decide +kernel)) ggX7_whom_J6_bitCount_0f7a4
theorem dX7_whom_0 : decode cX7_whom 0 = .ok (.aload_n 0, 1) := by decide +kernel
theorem dX7_whom_1 : decode cX7_whom 1 = .ok (.getfield 26, 3) := by decide +kernel
theorem dX7_whom_4 : decode cX7_whom 4 = .ok (.getfield 141, 3) := by decide +kernel
theorem dX7_whom_7 : decode cX7_whom 7 = .ok (.ifCond .ne 6, 3) := by decide +kernel
theorem dX7_whom_10 : decode cX7_whom 10 = .ok (.ldc 145, 2) := by decide +kernel
theorem dX7_whom_12 : decode cX7_whom 12 = .ok (.ireturn, 1) := by decide +kernel
theorem dX7_whom_13 : decode cX7_whom 13 = .ok (.iload_n 1, 1) := by decide +kernel
theorem dX7_whom_14 : decode cX7_whom 14 = .ok (.invokestatic 207, 3) := by decide +kernel
theorem dX7_whom_17 : decode cX7_whom 17 = .ok (.ifCond .ne 6, 3) := by decide +kernel
theorem dX7_whom_20 : decode cX7_whom 20 = .ok (.ldc 76, 2) := by decide +kernel
theorem dX7_whom_22 : decode cX7_whom 22 = .ok (.ireturn, 1) := by decide +kernel
theorem dX7_whom_23 : decode cX7_whom 23 = .ok (.aload_n 0, 1) := by decide +kernel
theorem dX7_whom_24 : decode cX7_whom 24 = .ok (.getfield 26, 3) := by decide +kernel
theorem dX7_whom_27 : decode cX7_whom 27 = .ok (.invokevirtual 232, 3) := by decide +kernel
theorem dX7_whom_30 : decode cX7_whom 30 = .ok (.istore_n 2, 1) := by decide +kernel
theorem dX7_whom_31 : decode cX7_whom 31 = .ok (.iload_n 2, 1) := by decide +kernel
theorem dX7_whom_32 : decode cX7_whom 32 = .ok (.ldc 224, 2) := by decide +kernel
theorem dX7_whom_34 : decode cX7_whom 34 = .ok (.if_icmp .ne 6, 3) := by decide +kernel
theorem dX7_whom_37 : decode cX7_whom 37 = .ok (.ldc 224, 2) := by decide +kernel
theorem dX7_whom_39 : decode cX7_whom 39 = .ok (.ireturn, 1) := by decide +kernel
theorem dX7_whom_40 : decode cX7_whom 40 = .ok (.iload_n 1, 1) := by decide +kernel
theorem dX7_whom_41 : decode cX7_whom 41 = .ok (.ifCond .ne 10, 3) := by decide +kernel
theorem dX7_whom_44 : decode cX7_whom 44 = .ok (.iload_n 2, 1) := by decide +kernel
theorem dX7_whom_45 : decode cX7_whom 45 = .ok (.invokestatic 235, 3) := by decide +kernel
theorem dX7_whom_48 : decode cX7_whom 48 = .ok (.goto 4, 3) := by decide +kernel
theorem dX7_whom_51 : decode cX7_whom 51 = .ok (.iload_n 2, 1) := by decide +kernel
theorem dX7_whom_52 : decode cX7_whom 52 = .ok (.ireturn, 1) := by decide +kernel
set_option maxRecDepth 20000 in
theorem ggX7_halves_X7_isOneOfTwo : GoodIn wsX7_halves wsX7_isOneOfTwo := goodIn_r _ [8] (by decide +kernel) (by decide +kernel)
set_option maxRecDepth 20000 in
theorem gX7_halves_X7_isOneOfTwo : GoodIn wsX7_halves (va_wsS RX7 207 yX7_isOneOfTwo wsX7_isOneOfTwo) := goodIn_app (goodIn_of _ (by decide +kernel)) ggX7_halves_X7_isOneOfTwo
set_option maxRecDepth 20000 in
theorem ggX7_halves_X3_countHalves : GoodIn wsX7_halves wsX3_countHalves := goodIn_r _ [13, 14, 15, 32, 33, 34, 35, 36, 37, 38, 39, 40, 41, 42, 43] (by decide +kernel) (by decide +kernel)
set_option maxRecDepth 20000 in
theorem gX7_halves_X3_countHalves : GoodIn wsX7_halves (wsV RX7 240 RX3 yX3_countHalves wsX3_countHalves) := goodIn_app (goodIn_of _ (by decide +kernel)) ggX7_halves_X3_countHalves
set_option maxRecDepth 20000 in
theorem ggX7_halves_X3_firstHalves : GoodIn wsX7_halves wsX3_firstHalves := goodIn_r _ [19, 14, 15, 20, 32, 33, 34, 35, 36, 37, 38, 39, 40, 41, 42, 43] (by decide +kernel) (by decide +kernel)
set_option maxRecDepth 20000 in
theorem gX7_halves_X3_firstHalves : GoodIn wsX7_halves (wsV RX7 243 RX3 yX3_firstHalves wsX3_firstHalves) := goodIn_app (goodIn_of _ (by decide +kernel)) ggX7_halves_X3_firstHalves
theorem dX7_halves_0 : decode cX7_halves 0 = .ok (.aload_n 0, 1) := by decide +kernel
theorem dX7_halves_1 : decode cX7_halves 1 = .ok (.getfield 26, 3) := by decide +kernel
theorem dX7_halves_4 : decode cX7_halves 4 = .ok (.getfield 141, 3) := by decide +kernel
theorem dX7_halves_7 : decode cX7_halves 7 = .ok (.ifCond .ne 6, 3) := by decide +kernel
theorem dX7_halves_10 : decode cX7_halves 10 = .ok (.ldc 145, 2) := by decide +kernel
theorem dX7_halves_12 : decode cX7_halves 12 = .ok (.ireturn, 1) := by decide +kernel
theorem dX7_halves_13 : decode cX7_halves 13 = .ok (.iload_n 1, 1) := by decide +kernel
theorem dX7_halves_14 : decode cX7_halves 14 = .ok (.invokestatic 207, 3) := by decide +kernel
theorem dX7_halves_17 : decode cX7_halves 17 = .ok (.ifCond .ne 6, 3) := by decide +kernel
theorem dX7_halves_20 : decode cX7_halves 20 = .ok (.ldc 76, 2) := by decide +kernel
theorem dX7_halves_22 : decode cX7_halves 22 = .ok (.ireturn, 1) := by decide +kernel
theorem dX7_halves_23 : decode cX7_halves 23 = .ok (.iload_n 1, 1) := by decide +kernel
theorem dX7_halves_24 : decode cX7_halves 24 = .ok (.ifCond .ne 13, 3) := by decide +kernel
theorem dX7_halves_27 : decode cX7_halves 27 = .ok (.aload_n 0, 1) := by decide +kernel
theorem dX7_halves_28 : decode cX7_halves 28 = .ok (.getfield 26, 3) := by decide +kernel
theorem dX7_halves_31 : decode cX7_halves 31 = .ok (.invokevirtual 240, 3) := by decide +kernel
theorem dX7_halves_34 : decode cX7_halves 34 = .ok (.goto 10, 3) := by decide +kernel
theorem dX7_halves_37 : decode cX7_halves 37 = .ok (.aload_n 0, 1) := by decide +kernel
theorem dX7_halves_38 : decode cX7_halves 38 = .ok (.getfield 26, 3) := by decide +kernel
theorem dX7_halves_41 : decode cX7_halves 41 = .ok (.invokevirtual 243, 3) := by decide +kernel
theorem dX7_halves_44 : decode cX7_halves 44 = .ok (.ireturn, 1) := by decide +kernel
set_option maxRecDepth 20000 in
theorem ggX7_fits_X7_isThing : GoodIn wsX7_fits wsX7_isThing := goodIn_r _ [10, 5, 11, 107, 108, 109, 110, 111, 112, 113, 114, 115, 116, 117, 120, 121, 122, 123, 124, 125, 126, 127, 128, 129, 130, 131] (by decide +kernel) (by decide +kernel)
set_option maxRecDepth 20000 in
theorem gX7_fits_X7_isThing : GoodIn wsX7_fits (wsV RX7 160 RX7 yX7_isThing wsX7_isThing) := goodIn_app (goodIn_of _ (by decide +kernel)) ggX7_fits_X7_isThing
set_option maxRecDepth 20000 in
theorem ggX7_fits_X7_isRow : GoodIn wsX7_fits wsX7_isRow := goodIn_r _ [14] (by decide +kernel) (by decide +kernel)
set_option maxRecDepth 20000 in
theorem gX7_fits_X7_isRow : GoodIn wsX7_fits (va_wsS RX7 72 yX7_isRow wsX7_isRow) := goodIn_app (goodIn_of _ (by decide +kernel)) ggX7_fits_X7_isRow
set_option maxRecDepth 20000 in
theorem ggX7_fits_X4_isMissing : GoodIn wsX7_fits wsX4_isMissing := goodIn_r _ [19, 20, 132, 133, 134] (by decide +kernel) (by decide +kernel)
set_option maxRecDepth 20000 in
theorem gX7_fits_X4_isMissing : GoodIn wsX7_fits (wsV RX7 88 RX4 yX4_isMissing wsX4_isMissing) := goodIn_app (goodIn_of _ (by decide +kernel)) ggX7_fits_X4_isMissing
set_option maxRecDepth 20000 in
theorem ggX7_fits_X7_found : GoodIn wsX7_fits wsX7_found := goodIn_r _ [24, 25, 26, 107, 108, 109, 110, 111, 112, 113, 114, 115, 116, 117] (by decide +kernel) (by decide +kernel)
set_option maxRecDepth 20000 in
theorem gX7_fits_X7_found : GoodIn wsX7_fits (wsV RX7 77 RX7 yX7_found wsX7_found) := goodIn_app (goodIn_of _ (by decide +kernel)) ggX7_fits_X7_found
set_option maxRecDepth 20000 in
theorem ggX7_fits_X4_hasRun : GoodIn wsX7_fits wsX4_hasRun := goodIn_r _ [30, 20, 132, 133, 134] (by decide +kernel) (by decide +kernel)
set_option maxRecDepth 20000 in
theorem gX7_fits_X4_hasRun : GoodIn wsX7_fits (wsV RX7 91 RX4 yX4_hasRun wsX4_hasRun) := goodIn_app (goodIn_of _ (by decide +kernel)) ggX7_fits_X4_hasRun
set_option maxRecDepth 20000 in
theorem ggX7_fits_X4_readRun : GoodIn wsX7_fits wsX4_readRun := goodIn_r _ [34, 35, 132, 133, 134] (by decide +kernel) (by decide +kernel)
set_option maxRecDepth 20000 in
theorem gX7_fits_X4_readRun : GoodIn wsX7_fits (wsV RX7 249 RX4 yX4_readRun wsX4_readRun) := goodIn_app (goodIn_of _ (by decide +kernel)) ggX7_fits_X4_readRun
set_option maxRecDepth 20000 in
theorem ggX7_fits_X5_thatFit : GoodIn wsX7_fits wsX5_thatFit := goodIn_r _ [40, 41, 42, 43, 44, 45, 46, 47, 48, 49, 50, 51, 52, 53, 54, 55, 56, 57, 58, 59, 60, 61, 62, 63, 39, 64, 65, 66, 67, 68, 69, 70, 71, 72, 73, 74, 75, 76, 77, 78, 79, 80, 81, 82, 83, 84, 85, 86, 87, 88, 89, 90, 91, 92, 93, 94, 95, 96, 97, 98, 99, 100, 101, 102, 118, 119, 120, 121, 122, 123, 124, 125, 126, 127, 128, 129, 130, 131] (by decide +kernel) (by decide +kernel)
set_option maxRecDepth 20000 in
theorem gX7_fits_X5_thatFit : GoodIn wsX7_fits (wsV RX7 253 RX5 yX5_thatFit wsX5_thatFit) := goodIn_app (goodIn_of _ (by decide +kernel)) ggX7_fits_X5_thatFit
set_option maxRecDepth 20000 in
theorem ggX7_fits_X7_fine : GoodIn wsX7_fits wsX7_fine := goodIn_r _ [106, 25, 107, 108, 109, 110, 111, 112, 113, 114, 115, 116, 117] (by decide +kernel) (by decide +kernel)
set_option maxRecDepth 20000 in
theorem gX7_fits_X7_fine : GoodIn wsX7_fits (wsV RX7 85 RX7 yX7_fine wsX7_fine) := goodIn_app (goodIn_of _ (by decide +kernel)) ggX7_fits_X7_fine
theorem dX7_fits_0 : decode cX7_fits 0 = .ok (.aload_n 0, 1) := by decide +kernel
theorem dX7_fits_1 : decode cX7_fits 1 = .ok (.iload_n 1, 1) := by decide +kernel
theorem dX7_fits_2 : decode cX7_fits 2 = .ok (.invokevirtual 160, 3) := by decide +kernel
theorem dX7_fits_5 : decode cX7_fits 5 = .ok (.ifCond .eq 34, 3) := by decide +kernel
theorem dX7_fits_8 : decode cX7_fits 8 = .ok (.iload_n 2, 1) := by decide +kernel
theorem dX7_fits_9 : decode cX7_fits 9 = .ok (.invokestatic 72, 3) := by decide +kernel
theorem dX7_fits_12 : decode cX7_fits 12 = .ok (.ifCond .eq 27, 3) := by decide +kernel
theorem dX7_fits_15 : decode cX7_fits 15 = .ok (.iload 4, 2) := by decide +kernel
theorem dX7_fits_17 : decode cX7_fits 17 = .ok (.iconst 1, 1) := by decide +kernel
theorem dX7_fits_18 : decode cX7_fits 18 = .ok (.if_icmp .lt 21, 3) := by decide +kernel
theorem dX7_fits_21 : decode cX7_fits 21 = .ok (.iload 4, 2) := by decide +kernel
theorem dX7_fits_23 : decode cX7_fits 23 = .ok (.bipush 16, 2) := by decide +kernel
theorem dX7_fits_25 : decode cX7_fits 25 = .ok (.if_icmp .gt 14, 3) := by decide +kernel
theorem dX7_fits_28 : decode cX7_fits 28 = .ok (.iload 5, 2) := by decide +kernel
theorem dX7_fits_30 : decode cX7_fits 30 = .ok (.ifCond .lt 9, 3) := by decide +kernel
theorem dX7_fits_33 : decode cX7_fits 33 = .ok (.iload 5, 2) := by decide +kernel
theorem dX7_fits_35 : decode cX7_fits 35 = .ok (.iconst 2, 1) := by decide +kernel
theorem dX7_fits_36 : decode cX7_fits 36 = .ok (.if_icmp .le 6, 3) := by decide +kernel
theorem dX7_fits_39 : decode cX7_fits 39 = .ok (.ldc 76, 2) := by decide +kernel
theorem dX7_fits_41 : decode cX7_fits 41 = .ok (.ireturn, 1) := by decide +kernel
theorem dX7_fits_42 : decode cX7_fits 42 = .ok (.aload_n 0, 1) := by decide +kernel
theorem dX7_fits_43 : decode cX7_fits 43 = .ok (.getfield 10, 3) := by decide +kernel
theorem dX7_fits_46 : decode cX7_fits 46 = .ok (.iload_n 2, 1) := by decide +kernel
theorem dX7_fits_47 : decode cX7_fits 47 = .ok (.invokevirtual 88, 3) := by decide +kernel
theorem dX7_fits_50 : decode cX7_fits 50 = .ok (.ifCond .eq 9, 3) := by decide +kernel
theorem dX7_fits_53 : decode cX7_fits 53 = .ok (.aload_n 0, 1) := by decide +kernel
theorem dX7_fits_54 : decode cX7_fits 54 = .ok (.iconst 1, 1) := by decide +kernel
theorem dX7_fits_55 : decode cX7_fits 55 = .ok (.invokevirtual 77, 3) := by decide +kernel
theorem dX7_fits_58 : decode cX7_fits 58 = .ok (.ireturn, 1) := by decide +kernel
theorem dX7_fits_59 : decode cX7_fits 59 = .ok (.aload_n 0, 1) := by decide +kernel
theorem dX7_fits_60 : decode cX7_fits 60 = .ok (.getfield 10, 3) := by decide +kernel
theorem dX7_fits_63 : decode cX7_fits 63 = .ok (.iload_n 2, 1) := by decide +kernel
theorem dX7_fits_64 : decode cX7_fits 64 = .ok (.iload_n 3, 1) := by decide +kernel
theorem dX7_fits_65 : decode cX7_fits 65 = .ok (.iload 4, 2) := by decide +kernel
theorem dX7_fits_67 : decode cX7_fits 67 = .ok (.invokevirtual 91, 3) := by decide +kernel
theorem dX7_fits_70 : decode cX7_fits 70 = .ok (.ifCond .ne 9, 3) := by decide +kernel
theorem dX7_fits_73 : decode cX7_fits 73 = .ok (.aload_n 0, 1) := by decide +kernel
theorem dX7_fits_74 : decode cX7_fits 74 = .ok (.iconst 2, 1) := by decide +kernel
theorem dX7_fits_75 : decode cX7_fits 75 = .ok (.invokevirtual 77, 3) := by decide +kernel
theorem dX7_fits_78 : decode cX7_fits 78 = .ok (.ireturn, 1) := by decide +kernel
theorem dX7_fits_79 : decode cX7_fits 79 = .ok (.aload_n 0, 1) := by decide +kernel
theorem dX7_fits_80 : decode cX7_fits 80 = .ok (.getfield 10, 3) := by decide +kernel
theorem dX7_fits_83 : decode cX7_fits 83 = .ok (.iload_n 2, 1) := by decide +kernel
theorem dX7_fits_84 : decode cX7_fits 84 = .ok (.iload_n 3, 1) := by decide +kernel
theorem dX7_fits_85 : decode cX7_fits 85 = .ok (.iload 4, 2) := by decide +kernel
theorem dX7_fits_87 : decode cX7_fits 87 = .ok (.aload_n 0, 1) := by decide +kernel
theorem dX7_fits_88 : decode cX7_fits 88 = .ok (.getfield 47, 3) := by decide +kernel
theorem dX7_fits_91 : decode cX7_fits 91 = .ok (.getfield 246, 3) := by decide +kernel
theorem dX7_fits_94 : decode cX7_fits 94 = .ok (.invokevirtual 249, 3) := by decide +kernel
theorem dX7_fits_97 : decode cX7_fits 97 = .ok (.aload_n 0, 1) := by decide +kernel
theorem dX7_fits_98 : decode cX7_fits 98 = .ok (.aload_n 0, 1) := by decide +kernel
theorem dX7_fits_99 : decode cX7_fits 99 = .ok (.getfield 47, 3) := by decide +kernel
theorem dX7_fits_102 : decode cX7_fits 102 = .ok (.aload_n 0, 1) := by decide +kernel
theorem dX7_fits_103 : decode cX7_fits 103 = .ok (.getfield 26, 3) := by decide +kernel
theorem dX7_fits_106 : decode cX7_fits 106 = .ok (.iload_n 1, 1) := by decide +kernel
theorem dX7_fits_107 : decode cX7_fits 107 = .ok (.iload 4, 2) := by decide +kernel
theorem dX7_fits_109 : decode cX7_fits 109 = .ok (.iload 5, 2) := by decide +kernel
theorem dX7_fits_111 : decode cX7_fits 111 = .ok (.invokevirtual 253, 3) := by decide +kernel
theorem dX7_fits_114 : decode cX7_fits 114 = .ok (.invokevirtual 85, 3) := by decide +kernel
theorem dX7_fits_117 : decode cX7_fits 117 = .ok (.ireturn, 1) := by decide +kernel
set_option maxRecDepth 20000 in
theorem ggX7_moles_X7_isForetold : GoodIn wsX7_moles wsX7_isForetold := goodIn_r _ [10] (by decide +kernel) (by decide +kernel)
set_option maxRecDepth 20000 in
theorem gX7_moles_X7_isForetold : GoodIn wsX7_moles (va_wsS RX7 196 yX7_isForetold wsX7_isForetold) := goodIn_app (goodIn_of _ (by decide +kernel)) ggX7_moles_X7_isForetold
set_option maxRecDepth 20000 in
theorem ggX7_moles_X7_isOneOfTwo : GoodIn wsX7_moles wsX7_isOneOfTwo := goodIn_r _ [13] (by decide +kernel) (by decide +kernel)
set_option maxRecDepth 20000 in
theorem gX7_moles_X7_isOneOfTwo : GoodIn wsX7_moles (va_wsS RX7 207 yX7_isOneOfTwo wsX7_isOneOfTwo) := goodIn_app (goodIn_of _ (by decide +kernel)) ggX7_moles_X7_isOneOfTwo
set_option maxRecDepth 20000 in
theorem ggX7_moles_X5_weightOfNoneUp : GoodIn wsX7_moles wsX5_weightOfNoneUp := goodIn_r _ [18, 19, 20, 21, 22, 23, 24, 25, 26, 27, 28, 29, 30, 31, 32, 33, 34, 17, 35, 36, 37, 38, 39, 40, 41, 42, 43, 44, 45, 46, 47, 48, 49, 50, 51, 52, 53, 54, 55, 56, 57, 58, 59, 60, 61, 62, 63, 64, 65, 66, 67, 68, 69, 70, 71, 72, 73, 74, 75, 76, 77, 78, 79, 98, 99, 100, 101, 102, 103, 104, 105, 106, 107, 108, 109, 110, 111] (by decide +kernel) (by decide +kernel)
set_option maxRecDepth 20000 in
theorem gX7_moles_X5_weightOfNoneUp : GoodIn wsX7_moles (wsV RX7 257 RX5 yX5_weightOfNoneUp wsX5_weightOfNoneUp) := goodIn_app (goodIn_of _ (by decide +kernel)) ggX7_moles_X5_weightOfNoneUp
set_option maxRecDepth 20000 in
theorem ggX7_moles_X5_weightOfAll : GoodIn wsX7_moles wsX5_weightOfAll := goodIn_r _ [83, 19, 36, 28, 29, 24, 30, 31, 98, 99, 100, 101, 102, 103, 104, 105, 106, 107, 108, 109] (by decide +kernel) (by decide +kernel)
set_option maxRecDepth 20000 in
theorem gX7_moles_X5_weightOfAll : GoodIn wsX7_moles (wsV RX7 260 RX5 yX5_weightOfAll wsX5_weightOfAll) := goodIn_app (goodIn_of _ (by decide +kernel)) ggX7_moles_X5_weightOfAll
set_option maxRecDepth 20000 in
theorem ggX7_moles_X7_commonDivisor : GoodIn wsX7_moles wsX7_commonDivisor := goodIn_r _ [86] (by decide +kernel) (by decide +kernel)
set_option maxRecDepth 20000 in
theorem gX7_moles_X7_commonDivisor : GoodIn wsX7_moles (va_wsS RX7 263 yX7_commonDivisor wsX7_commonDivisor) := goodIn_app (goodIn_of _ (by decide +kernel)) ggX7_moles_X7_commonDivisor
theorem dX7_moles_0 : decode cX7_moles 0 = .ok (.aload_n 0, 1) := by decide +kernel
theorem dX7_moles_1 : decode cX7_moles 1 = .ok (.getfield 26, 3) := by decide +kernel
theorem dX7_moles_4 : decode cX7_moles 4 = .ok (.getfield 141, 3) := by decide +kernel
theorem dX7_moles_7 : decode cX7_moles 7 = .ok (.ifCond .ne 6, 3) := by decide +kernel
theorem dX7_moles_10 : decode cX7_moles 10 = .ok (.ldc 145, 2) := by decide +kernel
theorem dX7_moles_12 : decode cX7_moles 12 = .ok (.ireturn, 1) := by decide +kernel
theorem dX7_moles_13 : decode cX7_moles 13 = .ok (.iload_n 1, 1) := by decide +kernel
theorem dX7_moles_14 : decode cX7_moles 14 = .ok (.invokestatic 196, 3) := by decide +kernel
theorem dX7_moles_17 : decode cX7_moles 17 = .ok (.ifCond .eq 20, 3) := by decide +kernel
theorem dX7_moles_20 : decode cX7_moles 20 = .ok (.iload_n 2, 1) := by decide +kernel
theorem dX7_moles_21 : decode cX7_moles 21 = .ok (.ifCond .lt 16, 3) := by decide +kernel
theorem dX7_moles_24 : decode cX7_moles 24 = .ok (.iload_n 2, 1) := by decide +kernel
theorem dX7_moles_25 : decode cX7_moles 25 = .ok (.bipush 10, 2) := by decide +kernel
theorem dX7_moles_27 : decode cX7_moles 27 = .ok (.if_icmp .gt 10, 3) := by decide +kernel
theorem dX7_moles_30 : decode cX7_moles 30 = .ok (.iload_n 3, 1) := by decide +kernel
theorem dX7_moles_31 : decode cX7_moles 31 = .ok (.invokestatic 207, 3) := by decide +kernel
theorem dX7_moles_34 : decode cX7_moles 34 = .ok (.ifCond .ne 6, 3) := by decide +kernel
theorem dX7_moles_37 : decode cX7_moles 37 = .ok (.ldc 76, 2) := by decide +kernel
theorem dX7_moles_39 : decode cX7_moles 39 = .ok (.ireturn, 1) := by decide +kernel
theorem dX7_moles_40 : decode cX7_moles 40 = .ok (.aload_n 0, 1) := by decide +kernel
theorem dX7_moles_41 : decode cX7_moles 41 = .ok (.getfield 47, 3) := by decide +kernel
theorem dX7_moles_44 : decode cX7_moles 44 = .ok (.aload_n 0, 1) := by decide +kernel
theorem dX7_moles_45 : decode cX7_moles 45 = .ok (.getfield 26, 3) := by decide +kernel
theorem dX7_moles_48 : decode cX7_moles 48 = .ok (.iload_n 1, 1) := by decide +kernel
theorem dX7_moles_49 : decode cX7_moles 49 = .ok (.iload_n 2, 1) := by decide +kernel
theorem dX7_moles_50 : decode cX7_moles 50 = .ok (.invokevirtual 257, 3) := by decide +kernel
theorem dX7_moles_53 : decode cX7_moles 53 = .ok (.istore 4, 2) := by decide +kernel
theorem dX7_moles_55 : decode cX7_moles 55 = .ok (.aload_n 0, 1) := by decide +kernel
theorem dX7_moles_56 : decode cX7_moles 56 = .ok (.getfield 47, 3) := by decide +kernel
theorem dX7_moles_59 : decode cX7_moles 59 = .ok (.aload_n 0, 1) := by decide +kernel
theorem dX7_moles_60 : decode cX7_moles 60 = .ok (.getfield 26, 3) := by decide +kernel
theorem dX7_moles_63 : decode cX7_moles 63 = .ok (.invokevirtual 260, 3) := by decide +kernel
theorem dX7_moles_66 : decode cX7_moles 66 = .ok (.istore 5, 2) := by decide +kernel
theorem dX7_moles_68 : decode cX7_moles 68 = .ok (.iload 4, 2) := by decide +kernel
theorem dX7_moles_70 : decode cX7_moles 70 = .ok (.iload 5, 2) := by decide +kernel
theorem dX7_moles_72 : decode cX7_moles 72 = .ok (.invokestatic 263, 3) := by decide +kernel
theorem dX7_moles_75 : decode cX7_moles 75 = .ok (.istore 6, 2) := by decide +kernel
theorem dX7_moles_77 : decode cX7_moles 77 = .ok (.iload 6, 2) := by decide +kernel
theorem dX7_moles_79 : decode cX7_moles 79 = .ok (.iconst 1, 1) := by decide +kernel
theorem dX7_moles_80 : decode cX7_moles 80 = .ok (.if_icmp .ge 6, 3) := by decide +kernel
theorem dX7_moles_83 : decode cX7_moles 83 = .ok (.ldc 224, 2) := by decide +kernel
theorem dX7_moles_85 : decode cX7_moles 85 = .ok (.ireturn, 1) := by decide +kernel
theorem dX7_moles_86 : decode cX7_moles 86 = .ok (.iload_n 3, 1) := by decide +kernel
theorem dX7_moles_87 : decode cX7_moles 87 = .ok (.ifCond .ne 8, 3) := by decide +kernel
theorem dX7_moles_90 : decode cX7_moles 90 = .ok (.iload 4, 2) := by decide +kernel
theorem dX7_moles_92 : decode cX7_moles 92 = .ok (.goto 5, 3) := by decide +kernel
theorem dX7_moles_95 : decode cX7_moles 95 = .ok (.iload 5, 2) := by decide +kernel
theorem dX7_moles_97 : decode cX7_moles 97 = .ok (.iload 6, 2) := by decide +kernel
theorem dX7_moles_99 : decode cX7_moles 99 = .ok (.idiv, 1) := by decide +kernel
theorem dX7_moles_100 : decode cX7_moles 100 = .ok (.ireturn, 1) := by decide +kernel
set_option maxRecDepth 20000 in
theorem ggX7_image_X7_isImage : GoodIn wsX7_image wsX7_isImage := goodIn_r _ [9] (by decide +kernel) (by decide +kernel)
set_option maxRecDepth 20000 in
theorem gX7_image_X7_isImage : GoodIn wsX7_image (va_wsS RX7 267 yX7_isImage wsX7_isImage) := goodIn_app (goodIn_of _ (by decide +kernel)) ggX7_image_X7_isImage
set_option maxRecDepth 20000 in
theorem ggX7_image_X3_become : GoodIn wsX7_image wsX3_become := goodIn_r _ [14, 15, 16, 17, 18, 19, 20, 21, 22, 23, 24, 25, 37, 38, 39, 40, 41, 42, 43, 44, 45, 46, 47, 48] (by decide +kernel) (by decide +kernel)
set_option maxRecDepth 20000 in
theorem gX7_image_X3_become : GoodIn wsX7_image (wsV RX7 131 RX3 yX3_become wsX3_become) := goodIn_app (goodIn_of _ (by decide +kernel)) ggX7_image_X3_become
theorem dX7_image_0 : decode cX7_image 0 = .ok (.iload_n 1, 1) := by decide +kernel
theorem dX7_image_1 : decode cX7_image 1 = .ok (.invokestatic 267, 3) := by decide +kernel
theorem dX7_image_4 : decode cX7_image 4 = .ok (.ifCond .ne 6, 3) := by decide +kernel
theorem dX7_image_7 : decode cX7_image 7 = .ok (.ldc 76, 2) := by decide +kernel
theorem dX7_image_9 : decode cX7_image 9 = .ok (.ireturn, 1) := by decide +kernel
theorem dX7_image_10 : decode cX7_image 10 = .ok (.aload_n 0, 1) := by decide +kernel
theorem dX7_image_11 : decode cX7_image 11 = .ok (.getfield 26, 3) := by decide +kernel
theorem dX7_image_14 : decode cX7_image 14 = .ok (.getfield 141, 3) := by decide +kernel
theorem dX7_image_17 : decode cX7_image 17 = .ok (.ifCond .ne 6, 3) := by decide +kernel
theorem dX7_image_20 : decode cX7_image 20 = .ok (.ldc 145, 2) := by decide +kernel
theorem dX7_image_22 : decode cX7_image 22 = .ok (.ireturn, 1) := by decide +kernel
theorem dX7_image_23 : decode cX7_image 23 = .ok (.aload_n 0, 1) := by decide +kernel
theorem dX7_image_24 : decode cX7_image 24 = .ok (.getfield 40, 3) := by decide +kernel
theorem dX7_image_27 : decode cX7_image 27 = .ok (.iload_n 1, 1) := by decide +kernel
theorem dX7_image_28 : decode cX7_image 28 = .ok (.aaload, 1) := by decide +kernel
theorem dX7_image_29 : decode cX7_image 29 = .ok (.aload_n 0, 1) := by decide +kernel
theorem dX7_image_30 : decode cX7_image 30 = .ok (.getfield 26, 3) := by decide +kernel
theorem dX7_image_33 : decode cX7_image 33 = .ok (.invokevirtual 131, 3) := by decide +kernel
theorem dX7_image_36 : decode cX7_image 36 = .ok (.iconst 1, 1) := by decide +kernel
theorem dX7_image_37 : decode cX7_image 37 = .ok (.ireturn, 1) := by decide +kernel
set_option maxRecDepth 20000 in
theorem ggX7_restore_X7_isImage : GoodIn wsX7_restore wsX7_isImage := goodIn_r _ [10] (by decide +kernel) (by decide +kernel)
set_option maxRecDepth 20000 in
theorem gX7_restore_X7_isImage : GoodIn wsX7_restore (va_wsS RX7 267 yX7_isImage wsX7_isImage) := goodIn_app (goodIn_of _ (by decide +kernel)) ggX7_restore_X7_isImage
set_option maxRecDepth 20000 in
theorem ggX7_restore_X3_become : GoodIn wsX7_restore wsX3_become := goodIn_r _ [15, 16, 17, 18, 19, 20, 21, 22, 23, 24, 25, 26, 44, 45, 46, 47, 48, 49, 50, 51, 52, 53, 54, 55] (by decide +kernel) (by decide +kernel)
set_option maxRecDepth 20000 in
theorem gX7_restore_X3_become : GoodIn wsX7_restore (wsV RX7 131 RX3 yX3_become wsX3_become) := goodIn_app (goodIn_of _ (by decide +kernel)) ggX7_restore_X3_become
set_option maxRecDepth 20000 in
theorem ggX7_restore_X0_forgetAll : GoodIn wsX7_restore wsX0_forgetAll := goodIn_r _ [31, 32, 56, 57, 58] (by decide +kernel) (by decide +kernel)
set_option maxRecDepth 20000 in
theorem gX7_restore_X0_forgetAll : GoodIn wsX7_restore (wsV RX7 135 RX0 yX0_forgetAll wsX0_forgetAll) := goodIn_app (goodIn_of _ (by decide +kernel)) ggX7_restore_X0_forgetAll
theorem dX7_restore_0 : decode cX7_restore 0 = .ok (.iload_n 1, 1) := by decide +kernel
theorem dX7_restore_1 : decode cX7_restore 1 = .ok (.invokestatic 267, 3) := by decide +kernel
theorem dX7_restore_4 : decode cX7_restore 4 = .ok (.ifCond .ne 6, 3) := by decide +kernel
theorem dX7_restore_7 : decode cX7_restore 7 = .ok (.ldc 76, 2) := by decide +kernel
theorem dX7_restore_9 : decode cX7_restore 9 = .ok (.ireturn, 1) := by decide +kernel
theorem dX7_restore_10 : decode cX7_restore 10 = .ok (.aload_n 0, 1) := by decide +kernel
theorem dX7_restore_11 : decode cX7_restore 11 = .ok (.getfield 40, 3) := by decide +kernel
theorem dX7_restore_14 : decode cX7_restore 14 = .ok (.iload_n 1, 1) := by decide +kernel
theorem dX7_restore_15 : decode cX7_restore 15 = .ok (.aaload, 1) := by decide +kernel
theorem dX7_restore_16 : decode cX7_restore 16 = .ok (.getfield 141, 3) := by decide +kernel
theorem dX7_restore_19 : decode cX7_restore 19 = .ok (.ifCond .ne 6, 3) := by decide +kernel
theorem dX7_restore_22 : decode cX7_restore 22 = .ok (.ldc 145, 2) := by decide +kernel
theorem dX7_restore_24 : decode cX7_restore 24 = .ok (.ireturn, 1) := by decide +kernel
theorem dX7_restore_25 : decode cX7_restore 25 = .ok (.aload_n 0, 1) := by decide +kernel
theorem dX7_restore_26 : decode cX7_restore 26 = .ok (.getfield 26, 3) := by decide +kernel
theorem dX7_restore_29 : decode cX7_restore 29 = .ok (.aload_n 0, 1) := by decide +kernel
theorem dX7_restore_30 : decode cX7_restore 30 = .ok (.getfield 40, 3) := by decide +kernel
theorem dX7_restore_33 : decode cX7_restore 33 = .ok (.iload_n 1, 1) := by decide +kernel
theorem dX7_restore_34 : decode cX7_restore 34 = .ok (.aaload, 1) := by decide +kernel
theorem dX7_restore_35 : decode cX7_restore 35 = .ok (.invokevirtual 131, 3) := by decide +kernel
theorem dX7_restore_38 : decode cX7_restore 38 = .ok (.aload_n 0, 1) := by decide +kernel
theorem dX7_restore_39 : decode cX7_restore 39 = .ok (.getfield 36, 3) := by decide +kernel
theorem dX7_restore_42 : decode cX7_restore 42 = .ok (.invokevirtual 135, 3) := by decide +kernel
theorem dX7_restore_45 : decode cX7_restore 45 = .ok (.iconst 1, 1) := by decide +kernel
theorem dX7_restore_46 : decode cX7_restore 46 = .ok (.ireturn, 1) := by decide +kernel
set_option maxRecDepth 20000 in
theorem ggX7_kind_X7_isThing : GoodIn wsX7_kind wsX7_isThing := goodIn_r _ [8, 1, 9, 10, 11, 12, 13, 14, 15, 16, 17, 18, 19, 20, 21, 22, 23, 24, 25, 26, 27, 28, 29, 30, 31, 32] (by decide +kernel) (by decide +kernel)
set_option maxRecDepth 20000 in
theorem gX7_kind_X7_isThing : GoodIn wsX7_kind (wsV RX7 160 RX7 yX7_isThing wsX7_isThing) := goodIn_app (goodIn_of _ (by decide +kernel)) ggX7_kind_X7_isThing
theorem dX7_kind_0 : decode cX7_kind 0 = .ok (.aload_n 0, 1) := by decide +kernel
theorem dX7_kind_1 : decode cX7_kind 1 = .ok (.iload_n 1, 1) := by decide +kernel
theorem dX7_kind_2 : decode cX7_kind 2 = .ok (.invokevirtual 160, 3) := by decide +kernel
theorem dX7_kind_5 : decode cX7_kind 5 = .ok (.ifCond .eq 15, 3) := by decide +kernel
theorem dX7_kind_8 : decode cX7_kind 8 = .ok (.aload_n 0, 1) := by decide +kernel
theorem dX7_kind_9 : decode cX7_kind 9 = .ok (.getfield 26, 3) := by decide +kernel
theorem dX7_kind_12 : decode cX7_kind 12 = .ok (.getfield 270, 3) := by decide +kernel
theorem dX7_kind_15 : decode cX7_kind 15 = .ok (.iload_n 1, 1) := by decide +kernel
theorem dX7_kind_16 : decode cX7_kind 16 = .ok (.iaload, 1) := by decide +kernel
theorem dX7_kind_17 : decode cX7_kind 17 = .ok (.goto 5, 3) := by decide +kernel
theorem dX7_kind_20 : decode cX7_kind 20 = .ok (.ldc 76, 2) := by decide +kernel
theorem dX7_kind_22 : decode cX7_kind 22 = .ok (.ireturn, 1) := by decide +kernel
set_option maxRecDepth 20000 in
theorem ggX7_as_X7_isThing : GoodIn wsX7_as wsX7_isThing := goodIn_r _ [8, 2, 9, 26, 27, 28, 29, 30, 31, 32, 33, 34, 35, 36, 37, 38, 39, 40, 41, 42, 43, 44, 45, 46, 47, 48] (by decide +kernel) (by decide +kernel)
set_option maxRecDepth 20000 in
theorem gX7_as_X7_isThing : GoodIn wsX7_as (wsV RX7 160 RX7 yX7_isThing wsX7_isThing) := goodIn_app (goodIn_of _ (by decide +kernel)) ggX7_as_X7_isThing
set_option maxRecDepth 20000 in
theorem ggX7_as_X7_isOfKind : GoodIn wsX7_as wsX7_isOfKind := goodIn_r _ [12, 13, 14, 7, 15] (by decide +kernel) (by decide +kernel)
set_option maxRecDepth 20000 in
theorem gX7_as_X7_isOfKind : GoodIn wsX7_as (va_wsS RX7 273 yX7_isOfKind wsX7_isOfKind) := goodIn_app (goodIn_of _ (by decide +kernel)) ggX7_as_X7_isOfKind
set_option maxRecDepth 20000 in
theorem ggX7_as_X7_fine : GoodIn wsX7_as wsX7_fine := goodIn_r _ [19, 20, 26, 27, 28, 29, 30, 31, 32, 33, 34, 35, 36] (by decide +kernel) (by decide +kernel)
set_option maxRecDepth 20000 in
theorem gX7_as_X7_fine : GoodIn wsX7_as (wsV RX7 85 RX7 yX7_fine wsX7_fine) := goodIn_app (goodIn_of _ (by decide +kernel)) ggX7_as_X7_fine
set_option maxRecDepth 20000 in
theorem ggX7_as_X7_found : GoodIn wsX7_as wsX7_found := goodIn_r _ [24, 20, 25, 26, 27, 28, 29, 30, 31, 32, 33, 34, 35, 36] (by decide +kernel) (by decide +kernel)
set_option maxRecDepth 20000 in
theorem gX7_as_X7_found : GoodIn wsX7_as (wsV RX7 77 RX7 yX7_found wsX7_found) := goodIn_app (goodIn_of _ (by decide +kernel)) ggX7_as_X7_found
theorem dX7_as_0 : decode cX7_as 0 = .ok (.aload_n 0, 1) := by decide +kernel
theorem dX7_as_1 : decode cX7_as 1 = .ok (.iload_n 1, 1) := by decide +kernel
theorem dX7_as_2 : decode cX7_as 2 = .ok (.invokevirtual 160, 3) := by decide +kernel
theorem dX7_as_5 : decode cX7_as 5 = .ok (.ifCond .eq 12, 3) := by decide +kernel
theorem dX7_as_8 : decode cX7_as 8 = .ok (.iload_n 2, 1) := by decide +kernel
theorem dX7_as_9 : decode cX7_as 9 = .ok (.ifCond .lt 8, 3) := by decide +kernel
theorem dX7_as_12 : decode cX7_as 12 = .ok (.iload_n 2, 1) := by decide +kernel
theorem dX7_as_13 : decode cX7_as 13 = .ok (.iconst 5, 1) := by decide +kernel
theorem dX7_as_14 : decode cX7_as 14 = .ok (.if_icmp .le 6, 3) := by decide +kernel
theorem dX7_as_17 : decode cX7_as 17 = .ok (.ldc 76, 2) := by decide +kernel
theorem dX7_as_19 : decode cX7_as 19 = .ok (.ireturn, 1) := by decide +kernel
theorem dX7_as_20 : decode cX7_as 20 = .ok (.aload_n 0, 1) := by decide +kernel
theorem dX7_as_21 : decode cX7_as 21 = .ok (.getfield 26, 3) := by decide +kernel
theorem dX7_as_24 : decode cX7_as 24 = .ok (.getfield 270, 3) := by decide +kernel
theorem dX7_as_27 : decode cX7_as 27 = .ok (.iload_n 1, 1) := by decide +kernel
theorem dX7_as_28 : decode cX7_as 28 = .ok (.iaload, 1) := by decide +kernel
theorem dX7_as_29 : decode cX7_as 29 = .ok (.iload_n 2, 1) := by decide +kernel
theorem dX7_as_30 : decode cX7_as 30 = .ok (.invokestatic 273, 3) := by decide +kernel
theorem dX7_as_33 : decode cX7_as 33 = .ok (.ifCond .eq 11, 3) := by decide +kernel
theorem dX7_as_36 : decode cX7_as 36 = .ok (.aload_n 0, 1) := by decide +kernel
theorem dX7_as_37 : decode cX7_as 37 = .ok (.iload_n 1, 1) := by decide +kernel
theorem dX7_as_38 : decode cX7_as 38 = .ok (.invokevirtual 85, 3) := by decide +kernel
theorem dX7_as_41 : decode cX7_as 41 = .ok (.goto 8, 3) := by decide +kernel
theorem dX7_as_44 : decode cX7_as 44 = .ok (.aload_n 0, 1) := by decide +kernel
theorem dX7_as_45 : decode cX7_as 45 = .ok (.iconst 3, 1) := by decide +kernel
theorem dX7_as_46 : decode cX7_as 46 = .ok (.invokevirtual 77, 3) := by decide +kernel
theorem dX7_as_49 : decode cX7_as 49 = .ok (.ireturn, 1) := by decide +kernel
set_option maxRecDepth 20000 in
theorem ggX7_ask_X7_isThing : GoodIn wsX7_ask wsX7_isThing := goodIn_r _ [8, 3, 9, 46, 47, 48, 49, 50, 51, 52, 53, 54, 55, 56, 57, 58, 59, 60, 61, 62, 63, 64, 65, 66, 67, 68] (by decide +kernel) (by decide +kernel)
set_option maxRecDepth 20000 in
theorem gX7_ask_X7_isThing : GoodIn wsX7_ask (wsV RX7 160 RX7 yX7_isThing wsX7_isThing) := goodIn_app (goodIn_of _ (by decide +kernel)) ggX7_ask_X7_isThing
set_option maxRecDepth 20000 in
theorem ggX7_ask_X7_isOneOfTwo : GoodIn wsX7_ask wsX7_isOneOfTwo := goodIn_r _ [12] (by decide +kernel) (by decide +kernel)
set_option maxRecDepth 20000 in
theorem gX7_ask_X7_isOneOfTwo : GoodIn wsX7_ask (va_wsS RX7 207 yX7_isOneOfTwo wsX7_isOneOfTwo) := goodIn_app (goodIn_of _ (by decide +kernel)) ggX7_ask_X7_isOneOfTwo
set_option maxRecDepth 20000 in
theorem ggX7_ask_X1_begin : GoodIn wsX7_ask wsX1_begin := goodIn_r _ [17, 18, 19, 20, 21, 16, 22, 23, 24, 25, 26, 27, 28, 29, 30, 31, 32, 33, 7, 34, 35, 36, 37, 38, 39, 40, 41, 42, 43, 44, 45, 69, 70, 57, 58, 59, 60, 61, 62, 63, 64, 65, 66, 67, 68] (by decide +kernel) (by decide +kernel)
set_option maxRecDepth 20000 in
theorem gX7_ask_X1_begin : GoodIn wsX7_ask (wsV RX7 277 RX1 yX1_begin wsX1_begin) := goodIn_app (goodIn_of _ (by decide +kernel)) ggX7_ask_X1_begin
theorem dX7_ask_0 : decode cX7_ask 0 = .ok (.aload_n 0, 1) := by decide +kernel
theorem dX7_ask_1 : decode cX7_ask 1 = .ok (.iload_n 1, 1) := by decide +kernel
theorem dX7_ask_2 : decode cX7_ask 2 = .ok (.invokevirtual 160, 3) := by decide +kernel
theorem dX7_ask_5 : decode cX7_ask 5 = .ok (.ifCond .eq 10, 3) := by decide +kernel
theorem dX7_ask_8 : decode cX7_ask 8 = .ok (.iload_n 2, 1) := by decide +kernel
theorem dX7_ask_9 : decode cX7_ask 9 = .ok (.invokestatic 207, 3) := by decide +kernel
theorem dX7_ask_12 : decode cX7_ask 12 = .ok (.ifCond .ne 6, 3) := by decide +kernel
theorem dX7_ask_15 : decode cX7_ask 15 = .ok (.ldc 76, 2) := by decide +kernel
theorem dX7_ask_17 : decode cX7_ask 17 = .ok (.ireturn, 1) := by decide +kernel
theorem dX7_ask_18 : decode cX7_ask 18 = .ok (.aload_n 0, 1) := by decide +kernel
theorem dX7_ask_19 : decode cX7_ask 19 = .ok (.getfield 61, 3) := by decide +kernel
theorem dX7_ask_22 : decode cX7_ask 22 = .ok (.aload_n 0, 1) := by decide +kernel
theorem dX7_ask_23 : decode cX7_ask 23 = .ok (.getfield 26, 3) := by decide +kernel
theorem dX7_ask_26 : decode cX7_ask 26 = .ok (.iload_n 1, 1) := by decide +kernel
theorem dX7_ask_27 : decode cX7_ask 27 = .ok (.iload_n 2, 1) := by decide +kernel
theorem dX7_ask_28 : decode cX7_ask 28 = .ok (.invokevirtual 277, 3) := by decide +kernel
theorem dX7_ask_31 : decode cX7_ask 31 = .ok (.ireturn, 1) := by decide +kernel
theorem dX7_trace_0 : decode cX7_trace 0 = .ok (.iload_n 1, 1) := by decide +kernel
theorem dX7_trace_1 : decode cX7_trace 1 = .ok (.ifCond .lt 26, 3) := by decide +kernel
theorem dX7_trace_4 : decode cX7_trace 4 = .ok (.iload_n 1, 1) := by decide +kernel
theorem dX7_trace_5 : decode cX7_trace 5 = .ok (.aload_n 0, 1) := by decide +kernel
theorem dX7_trace_6 : decode cX7_trace 6 = .ok (.getfield 61, 3) := by decide +kernel
theorem dX7_trace_9 : decode cX7_trace 9 = .ok (.getfield 280, 3) := by decide +kernel
theorem dX7_trace_12 : decode cX7_trace 12 = .ok (.if_icmp .ge 15, 3) := by decide +kernel
theorem dX7_trace_15 : decode cX7_trace 15 = .ok (.aload_n 0, 1) := by decide +kernel
theorem dX7_trace_16 : decode cX7_trace 16 = .ok (.getfield 61, 3) := by decide +kernel
theorem dX7_trace_19 : decode cX7_trace 19 = .ok (.getfield 283, 3) := by decide +kernel
theorem dX7_trace_22 : decode cX7_trace 22 = .ok (.iload_n 1, 1) := by decide +kernel
theorem dX7_trace_23 : decode cX7_trace 23 = .ok (.iaload, 1) := by decide +kernel
theorem dX7_trace_24 : decode cX7_trace 24 = .ok (.goto 5, 3) := by decide +kernel
theorem dX7_trace_27 : decode cX7_trace 27 = .ok (.ldc 224, 2) := by decide +kernel
theorem dX7_trace_29 : decode cX7_trace 29 = .ok (.ireturn, 1) := by decide +kernel
set_option maxRecDepth 20000 in
theorem ggX7_count_X4_countThere : GoodIn wsX7_count wsX4_countThere := goodIn_r _ [17, 18, 19, 20, 16, 21, 22, 53, 54, 55] (by decide +kernel) (by decide +kernel)
set_option maxRecDepth 20000 in
theorem gX7_count_X4_countThere : GoodIn wsX7_count (wsV RX7 286 RX4 yX4_countThere wsX4_countThere) := goodIn_app (goodIn_of _ (by decide +kernel)) ggX7_count_X4_countThere
theorem dX7_count_0 : decode cX7_count 0 = .ok (.iload_n 1, 1) := by decide +kernel
theorem dX7_count_1 : decode cX7_count 1 = .ok (.tableswitch 111 0 7 #[47, 55, 63, 71, 79, 87, 95, 103], 47) := by decide +kernel
theorem dX7_count_48 : decode cX7_count 48 = .ok (.aload_n 0, 1) := by decide +kernel
theorem dX7_count_49 : decode cX7_count 49 = .ok (.getfield 10, 3) := by decide +kernel
theorem dX7_count_52 : decode cX7_count 52 = .ok (.invokevirtual 286, 3) := by decide +kernel
theorem dX7_count_55 : decode cX7_count 55 = .ok (.ireturn, 1) := by decide +kernel
theorem dX7_count_56 : decode cX7_count 56 = .ok (.aload_n 0, 1) := by decide +kernel
theorem dX7_count_57 : decode cX7_count 57 = .ok (.getfield 26, 3) := by decide +kernel
theorem dX7_count_60 : decode cX7_count 60 = .ok (.getfield 138, 3) := by decide +kernel
theorem dX7_count_63 : decode cX7_count 63 = .ok (.ireturn, 1) := by decide +kernel
theorem dX7_count_64 : decode cX7_count 64 = .ok (.aload_n 0, 1) := by decide +kernel
theorem dX7_count_65 : decode cX7_count 65 = .ok (.getfield 26, 3) := by decide +kernel
theorem dX7_count_68 : decode cX7_count 68 = .ok (.getfield 289, 3) := by decide +kernel
theorem dX7_count_71 : decode cX7_count 71 = .ok (.ireturn, 1) := by decide +kernel
theorem dX7_count_72 : decode cX7_count 72 = .ok (.aload_n 0, 1) := by decide +kernel
theorem dX7_count_73 : decode cX7_count 73 = .ok (.getfield 26, 3) := by decide +kernel
theorem dX7_count_76 : decode cX7_count 76 = .ok (.getfield 146, 3) := by decide +kernel
theorem dX7_count_79 : decode cX7_count 79 = .ok (.ireturn, 1) := by decide +kernel
theorem dX7_count_80 : decode cX7_count 80 = .ok (.aload_n 0, 1) := by decide +kernel
theorem dX7_count_81 : decode cX7_count 81 = .ok (.getfield 26, 3) := by decide +kernel
theorem dX7_count_84 : decode cX7_count 84 = .ok (.getfield 292, 3) := by decide +kernel
theorem dX7_count_87 : decode cX7_count 87 = .ok (.ireturn, 1) := by decide +kernel
theorem dX7_count_88 : decode cX7_count 88 = .ok (.aload_n 0, 1) := by decide +kernel
theorem dX7_count_89 : decode cX7_count 89 = .ok (.getfield 26, 3) := by decide +kernel
theorem dX7_count_92 : decode cX7_count 92 = .ok (.getfield 163, 3) := by decide +kernel
theorem dX7_count_95 : decode cX7_count 95 = .ok (.ireturn, 1) := by decide +kernel
theorem dX7_count_96 : decode cX7_count 96 = .ok (.aload_n 0, 1) := by decide +kernel
theorem dX7_count_97 : decode cX7_count 97 = .ok (.getfield 36, 3) := by decide +kernel
theorem dX7_count_100 : decode cX7_count 100 = .ok (.getfield 178, 3) := by decide +kernel
theorem dX7_count_103 : decode cX7_count 103 = .ok (.ireturn, 1) := by decide +kernel
theorem dX7_count_104 : decode cX7_count 104 = .ok (.aload_n 0, 1) := by decide +kernel
theorem dX7_count_105 : decode cX7_count 105 = .ok (.getfield 19, 3) := by decide +kernel
theorem dX7_count_108 : decode cX7_count 108 = .ok (.getfield 116, 3) := by decide +kernel
theorem dX7_count_111 : decode cX7_count 111 = .ok (.ireturn, 1) := by decide +kernel
theorem dX7_count_112 : decode cX7_count 112 = .ok (.ldc 76, 2) := by decide +kernel
theorem dX7_count_114 : decode cX7_count 114 = .ok (.ireturn, 1) := by decide +kernel
theorem dX7_status_0 : decode cX7_status 0 = .ok (.aload_n 0, 1) := by decide +kernel
theorem dX7_status_1 : decode cX7_status 1 = .ok (.getfield 69, 3) := by decide +kernel
theorem dX7_status_4 : decode cX7_status 4 = .ok (.ireturn, 1) := by decide +kernel
theorem dX7_found_0 : decode cX7_found 0 = .ok (.aload_n 0, 1) := by decide +kernel
theorem dX7_found_1 : decode cX7_found 1 = .ok (.iload_n 1, 1) := by decide +kernel
theorem dX7_found_2 : decode cX7_found 2 = .ok (.putfield 69, 3) := by decide +kernel
theorem dX7_found_5 : decode cX7_found 5 = .ok (.ldc_w 295, 3) := by decide +kernel
theorem dX7_found_8 : decode cX7_found 8 = .ok (.iload_n 1, 1) := by decide +kernel
theorem dX7_found_9 : decode cX7_found 9 = .ok (.isub, 1) := by decide +kernel
theorem dX7_found_10 : decode cX7_found 10 = .ok (.ireturn, 1) := by decide +kernel
theorem dX7_fine_0 : decode cX7_fine 0 = .ok (.aload_n 0, 1) := by decide +kernel
theorem dX7_fine_1 : decode cX7_fine 1 = .ok (.iconst 0, 1) := by decide +kernel
theorem dX7_fine_2 : decode cX7_fine 2 = .ok (.putfield 69, 3) := by decide +kernel
theorem dX7_fine_5 : decode cX7_fine 5 = .ok (.iload_n 1, 1) := by decide +kernel
theorem dX7_fine_6 : decode cX7_fine 6 = .ok (.ireturn, 1) := by decide +kernel
theorem dX7_isThing_0 : decode cX7_isThing 0 = .ok (.iload_n 1, 1) := by decide +kernel
theorem dX7_isThing_1 : decode cX7_isThing 1 = .ok (.ifCond .lt 18, 3) := by decide +kernel
theorem dX7_isThing_4 : decode cX7_isThing 4 = .ok (.iload_n 1, 1) := by decide +kernel
theorem dX7_isThing_5 : decode cX7_isThing 5 = .ok (.aload_n 0, 1) := by decide +kernel
theorem dX7_isThing_6 : decode cX7_isThing 6 = .ok (.getfield 26, 3) := by decide +kernel
theorem dX7_isThing_9 : decode cX7_isThing 9 = .ok (.getfield 138, 3) := by decide +kernel
theorem dX7_isThing_12 : decode cX7_isThing 12 = .ok (.if_icmp .ge 7, 3) := by decide +kernel
theorem dX7_isThing_15 : decode cX7_isThing 15 = .ok (.iconst 1, 1) := by decide +kernel
theorem dX7_isThing_16 : decode cX7_isThing 16 = .ok (.goto 4, 3) := by decide +kernel
theorem dX7_isThing_19 : decode cX7_isThing 19 = .ok (.iconst 0, 1) := by decide +kernel
theorem dX7_isThing_20 : decode cX7_isThing 20 = .ok (.ireturn, 1) := by decide +kernel
theorem dX7_isMan_0 : decode cX7_isMan 0 = .ok (.iload_n 1, 1) := by decide +kernel
theorem dX7_isMan_1 : decode cX7_isMan 1 = .ok (.ifCond .lt 18, 3) := by decide +kernel
theorem dX7_isMan_4 : decode cX7_isMan 4 = .ok (.iload_n 1, 1) := by decide +kernel
theorem dX7_isMan_5 : decode cX7_isMan 5 = .ok (.aload_n 0, 1) := by decide +kernel
theorem dX7_isMan_6 : decode cX7_isMan 6 = .ok (.getfield 26, 3) := by decide +kernel
theorem dX7_isMan_9 : decode cX7_isMan 9 = .ok (.getfield 289, 3) := by decide +kernel
theorem dX7_isMan_12 : decode cX7_isMan 12 = .ok (.if_icmp .ge 7, 3) := by decide +kernel
theorem dX7_isMan_15 : decode cX7_isMan 15 = .ok (.iconst 1, 1) := by decide +kernel
theorem dX7_isMan_16 : decode cX7_isMan 16 = .ok (.goto 4, 3) := by decide +kernel
theorem dX7_isMan_19 : decode cX7_isMan 19 = .ok (.iconst 0, 1) := by decide +kernel
theorem dX7_isMan_20 : decode cX7_isMan 20 = .ok (.ireturn, 1) := by decide +kernel
theorem dX7_isRow_0 : decode cX7_isRow 0 = .ok (.iload_n 0, 1) := by decide +kernel
theorem dX7_isRow_1 : decode cX7_isRow 1 = .ok (.ifCond .lt 13, 3) := by decide +kernel
theorem dX7_isRow_4 : decode cX7_isRow 4 = .ok (.iload_n 0, 1) := by decide +kernel
theorem dX7_isRow_5 : decode cX7_isRow 5 = .ok (.bipush 8, 2) := by decide +kernel
theorem dX7_isRow_7 : decode cX7_isRow 7 = .ok (.if_icmp .ge 7, 3) := by decide +kernel
theorem dX7_isRow_10 : decode cX7_isRow 10 = .ok (.iconst 1, 1) := by decide +kernel
theorem dX7_isRow_11 : decode cX7_isRow 11 = .ok (.goto 4, 3) := by decide +kernel
theorem dX7_isRow_14 : decode cX7_isRow 14 = .ok (.iconst 0, 1) := by decide +kernel
theorem dX7_isRow_15 : decode cX7_isRow 15 = .ok (.ireturn, 1) := by decide +kernel
theorem dX7_isImage_0 : decode cX7_isImage 0 = .ok (.iload_n 0, 1) := by decide +kernel
theorem dX7_isImage_1 : decode cX7_isImage 1 = .ok (.ifCond .lt 12, 3) := by decide +kernel
theorem dX7_isImage_4 : decode cX7_isImage 4 = .ok (.iload_n 0, 1) := by decide +kernel
theorem dX7_isImage_5 : decode cX7_isImage 5 = .ok (.iconst 2, 1) := by decide +kernel
theorem dX7_isImage_6 : decode cX7_isImage 6 = .ok (.if_icmp .ge 7, 3) := by decide +kernel
theorem dX7_isImage_9 : decode cX7_isImage 9 = .ok (.iconst 1, 1) := by decide +kernel
theorem dX7_isImage_10 : decode cX7_isImage 10 = .ok (.goto 4, 3) := by decide +kernel
theorem dX7_isImage_13 : decode cX7_isImage 13 = .ok (.iconst 0, 1) := by decide +kernel
theorem dX7_isImage_14 : decode cX7_isImage 14 = .ok (.ireturn, 1) := by decide +kernel
theorem dX7_isForetold_0 : decode cX7_isForetold 0 = .ok (.iload_n 0, 1) := by decide +kernel
theorem dX7_isForetold_1 : decode cX7_isForetold 1 = .ok (.ifCond .lt 13, 3) := by decide +kernel
theorem dX7_isForetold_4 : decode cX7_isForetold 4 = .ok (.iload_n 0, 1) := by decide +kernel
theorem dX7_isForetold_5 : decode cX7_isForetold 5 = .ok (.bipush 60, 2) := by decide +kernel
theorem dX7_isForetold_7 : decode cX7_isForetold 7 = .ok (.if_icmp .gt 7, 3) := by decide +kernel
theorem dX7_isForetold_10 : decode cX7_isForetold 10 = .ok (.iconst 1, 1) := by decide +kernel
theorem dX7_isForetold_11 : decode cX7_isForetold 11 = .ok (.goto 4, 3) := by decide +kernel
theorem dX7_isForetold_14 : decode cX7_isForetold 14 = .ok (.iconst 0, 1) := by decide +kernel
theorem dX7_isForetold_15 : decode cX7_isForetold 15 = .ok (.ireturn, 1) := by decide +kernel
theorem dX7_isOneOfTwo_0 : decode cX7_isOneOfTwo 0 = .ok (.iload_n 0, 1) := by decide +kernel
theorem dX7_isOneOfTwo_1 : decode cX7_isOneOfTwo 1 = .ok (.ifCond .eq 8, 3) := by decide +kernel
theorem dX7_isOneOfTwo_4 : decode cX7_isOneOfTwo 4 = .ok (.iload_n 0, 1) := by decide +kernel
theorem dX7_isOneOfTwo_5 : decode cX7_isOneOfTwo 5 = .ok (.iconst 1, 1) := by decide +kernel
theorem dX7_isOneOfTwo_6 : decode cX7_isOneOfTwo 6 = .ok (.if_icmp .ne 7, 3) := by decide +kernel
theorem dX7_isOneOfTwo_9 : decode cX7_isOneOfTwo 9 = .ok (.iconst 1, 1) := by decide +kernel
theorem dX7_isOneOfTwo_10 : decode cX7_isOneOfTwo 10 = .ok (.goto 4, 3) := by decide +kernel
theorem dX7_isOneOfTwo_13 : decode cX7_isOneOfTwo 13 = .ok (.iconst 0, 1) := by decide +kernel
theorem dX7_isOneOfTwo_14 : decode cX7_isOneOfTwo 14 = .ok (.ireturn, 1) := by decide +kernel
theorem dX7_kindAbove_0 : decode cX7_kindAbove 0 = .ok (.iload_n 0, 1) := by decide +kernel
theorem dX7_kindAbove_1 : decode cX7_kindAbove 1 = .ok (.tableswitch 37 2 5 #[31, 33, 37, 35], 31) := by decide +kernel
theorem dX7_kindAbove_32 : decode cX7_kindAbove 32 = .ok (.iconst 1, 1) := by decide +kernel
theorem dX7_kindAbove_33 : decode cX7_kindAbove 33 = .ok (.ireturn, 1) := by decide +kernel
theorem dX7_kindAbove_34 : decode cX7_kindAbove 34 = .ok (.iconst 1, 1) := by decide +kernel
theorem dX7_kindAbove_35 : decode cX7_kindAbove 35 = .ok (.ireturn, 1) := by decide +kernel
theorem dX7_kindAbove_36 : decode cX7_kindAbove 36 = .ok (.iconst 4, 1) := by decide +kernel
theorem dX7_kindAbove_37 : decode cX7_kindAbove 37 = .ok (.ireturn, 1) := by decide +kernel
theorem dX7_kindAbove_38 : decode cX7_kindAbove 38 = .ok (.iconst 0, 1) := by decide +kernel
theorem dX7_kindAbove_39 : decode cX7_kindAbove 39 = .ok (.ireturn, 1) := by decide +kernel
set_option maxRecDepth 20000 in
theorem ggX7_isOfKind_X7_kindAbove : GoodIn wsX7_isOfKind wsX7_kindAbove := goodIn_r _ [4] (by decide +kernel) (by decide +kernel)
set_option maxRecDepth 20000 in
theorem gX7_isOfKind_X7_kindAbove : GoodIn wsX7_isOfKind (va_wsS RX7 296 yX7_kindAbove wsX7_kindAbove) := goodIn_app (goodIn_of _ (by decide +kernel)) ggX7_isOfKind_X7_kindAbove
theorem dX7_isOfKind_0 : decode cX7_isOfKind 0 = .ok (.iload_n 0, 1) := by decide +kernel
theorem dX7_isOfKind_1 : decode cX7_isOfKind 1 = .ok (.istore_n 2, 1) := by decide +kernel
theorem dX7_isOfKind_2 : decode cX7_isOfKind 2 = .ok (.iconst 0, 1) := by decide +kernel
theorem dX7_isOfKind_3 : decode cX7_isOfKind 3 = .ok (.istore_n 3, 1) := by decide +kernel
theorem dX7_isOfKind_4 : decode cX7_isOfKind 4 = .ok (.iload_n 3, 1) := by decide +kernel
theorem dX7_isOfKind_5 : decode cX7_isOfKind 5 = .ok (.iconst 5, 1) := by decide +kernel
theorem dX7_isOfKind_6 : decode cX7_isOfKind 6 = .ok (.if_icmp .ge 19, 3) := by decide +kernel
theorem dX7_isOfKind_9 : decode cX7_isOfKind 9 = .ok (.iload_n 2, 1) := by decide +kernel
theorem dX7_isOfKind_10 : decode cX7_isOfKind 10 = .ok (.iload_n 1, 1) := by decide +kernel
theorem dX7_isOfKind_11 : decode cX7_isOfKind 11 = .ok (.if_icmp .eq 14, 3) := by decide +kernel
theorem dX7_isOfKind_14 : decode cX7_isOfKind 14 = .ok (.iload_n 2, 1) := by decide +kernel
theorem dX7_isOfKind_15 : decode cX7_isOfKind 15 = .ok (.invokestatic 296, 3) := by decide +kernel
theorem dX7_isOfKind_18 : decode cX7_isOfKind 18 = .ok (.istore_n 2, 1) := by decide +kernel
theorem dX7_isOfKind_19 : decode cX7_isOfKind 19 = .ok (.iinc 3 1, 3) := by decide +kernel
theorem dX7_isOfKind_22 : decode cX7_isOfKind 22 = .ok (.goto (-18), 3) := by decide +kernel
theorem dX7_isOfKind_25 : decode cX7_isOfKind 25 = .ok (.iload_n 2, 1) := by decide +kernel
theorem dX7_isOfKind_26 : decode cX7_isOfKind 26 = .ok (.iload_n 1, 1) := by decide +kernel
theorem dX7_isOfKind_27 : decode cX7_isOfKind 27 = .ok (.if_icmp .ne 7, 3) := by decide +kernel
theorem dX7_isOfKind_30 : decode cX7_isOfKind 30 = .ok (.iconst 1, 1) := by decide +kernel
theorem dX7_isOfKind_31 : decode cX7_isOfKind 31 = .ok (.goto 4, 3) := by decide +kernel
theorem dX7_isOfKind_34 : decode cX7_isOfKind 34 = .ok (.iconst 0, 1) := by decide +kernel
theorem dX7_isOfKind_35 : decode cX7_isOfKind 35 = .ok (.ireturn, 1) := by decide +kernel
theorem dX7_leastOf_0 : decode cX7_leastOf 0 = .ok (.iconst 0, 1) := by decide +kernel
theorem dX7_leastOf_1 : decode cX7_leastOf 1 = .ok (.istore_n 1, 1) := by decide +kernel
theorem dX7_leastOf_2 : decode cX7_leastOf 2 = .ok (.iload_n 1, 1) := by decide +kernel
theorem dX7_leastOf_3 : decode cX7_leastOf 3 = .ok (.iconst 5, 1) := by decide +kernel
theorem dX7_leastOf_4 : decode cX7_leastOf 4 = .ok (.if_icmp .ge 20, 3) := by decide +kernel
theorem dX7_leastOf_7 : decode cX7_leastOf 7 = .ok (.iload_n 0, 1) := by decide +kernel
theorem dX7_leastOf_8 : decode cX7_leastOf 8 = .ok (.iload_n 1, 1) := by decide +kernel
theorem dX7_leastOf_9 : decode cX7_leastOf 9 = .ok (.ishr, 1) := by decide +kernel
theorem dX7_leastOf_10 : decode cX7_leastOf 10 = .ok (.iconst 1, 1) := by decide +kernel
theorem dX7_leastOf_11 : decode cX7_leastOf 11 = .ok (.iand, 1) := by decide +kernel
theorem dX7_leastOf_12 : decode cX7_leastOf 12 = .ok (.iconst 1, 1) := by decide +kernel
theorem dX7_leastOf_13 : decode cX7_leastOf 13 = .ok (.if_icmp .ne 5, 3) := by decide +kernel
theorem dX7_leastOf_16 : decode cX7_leastOf 16 = .ok (.iload_n 1, 1) := by decide +kernel
theorem dX7_leastOf_17 : decode cX7_leastOf 17 = .ok (.ireturn, 1) := by decide +kernel
theorem dX7_leastOf_18 : decode cX7_leastOf 18 = .ok (.iinc 1 1, 3) := by decide +kernel
theorem dX7_leastOf_21 : decode cX7_leastOf 21 = .ok (.goto (-19), 3) := by decide +kernel
theorem dX7_leastOf_24 : decode cX7_leastOf 24 = .ok (.ldc 224, 2) := by decide +kernel
theorem dX7_leastOf_26 : decode cX7_leastOf 26 = .ok (.ireturn, 1) := by decide +kernel
theorem dX7_commonDivisor_0 : decode cX7_commonDivisor 0 = .ok (.iload_n 0, 1) := by decide +kernel
theorem dX7_commonDivisor_1 : decode cX7_commonDivisor 1 = .ok (.istore_n 2, 1) := by decide +kernel
theorem dX7_commonDivisor_2 : decode cX7_commonDivisor 2 = .ok (.iload_n 1, 1) := by decide +kernel
theorem dX7_commonDivisor_3 : decode cX7_commonDivisor 3 = .ok (.istore_n 3, 1) := by decide +kernel
theorem dX7_commonDivisor_4 : decode cX7_commonDivisor 4 = .ok (.iconst 0, 1) := by decide +kernel
theorem dX7_commonDivisor_5 : decode cX7_commonDivisor 5 = .ok (.istore 4, 2) := by decide +kernel
theorem dX7_commonDivisor_7 : decode cX7_commonDivisor 7 = .ok (.iload 4, 2) := by decide +kernel
theorem dX7_commonDivisor_9 : decode cX7_commonDivisor 9 = .ok (.bipush 64, 2) := by decide +kernel
theorem dX7_commonDivisor_11 : decode cX7_commonDivisor 11 = .ok (.if_icmp .ge 23, 3) := by decide +kernel
theorem dX7_commonDivisor_14 : decode cX7_commonDivisor 14 = .ok (.iload_n 3, 1) := by decide +kernel
theorem dX7_commonDivisor_15 : decode cX7_commonDivisor 15 = .ok (.ifCond .eq 19, 3) := by decide +kernel
theorem dX7_commonDivisor_18 : decode cX7_commonDivisor 18 = .ok (.iload_n 2, 1) := by decide +kernel
theorem dX7_commonDivisor_19 : decode cX7_commonDivisor 19 = .ok (.iload_n 3, 1) := by decide +kernel
theorem dX7_commonDivisor_20 : decode cX7_commonDivisor 20 = .ok (.irem, 1) := by decide +kernel
theorem dX7_commonDivisor_21 : decode cX7_commonDivisor 21 = .ok (.istore 5, 2) := by decide +kernel
theorem dX7_commonDivisor_23 : decode cX7_commonDivisor 23 = .ok (.iload_n 3, 1) := by decide +kernel
theorem dX7_commonDivisor_24 : decode cX7_commonDivisor 24 = .ok (.istore_n 2, 1) := by decide +kernel
theorem dX7_commonDivisor_25 : decode cX7_commonDivisor 25 = .ok (.iload 5, 2) := by decide +kernel
theorem dX7_commonDivisor_27 : decode cX7_commonDivisor 27 = .ok (.istore_n 3, 1) := by decide +kernel
theorem dX7_commonDivisor_28 : decode cX7_commonDivisor 28 = .ok (.iinc 4 1, 3) := by decide +kernel
theorem dX7_commonDivisor_31 : decode cX7_commonDivisor 31 = .ok (.goto (-24), 3) := by decide +kernel
theorem dX7_commonDivisor_34 : decode cX7_commonDivisor 34 = .ok (.iload_n 2, 1) := by decide +kernel
theorem dX7_commonDivisor_35 : decode cX7_commonDivisor 35 = .ok (.ireturn, 1) := by decide +kernel
theorem dX8_init_0 : decode cX8_init 0 = .ok (.aload_n 0, 1) := by decide +kernel
theorem dX8_init_1 : decode cX8_init 1 = .ok (.invokespecial 1, 3) := by decide +kernel
theorem dX8_init_4 : decode cX8_init 4 = .ok (.aload_n 0, 1) := by decide +kernel
theorem dX8_init_5 : decode cX8_init 5 = .ok (.bipush 8, 2) := by decide +kernel
theorem dX8_init_7 : decode cX8_init 7 = .ok (.newarray .int, 2) := by decide +kernel
theorem dX8_init_9 : decode cX8_init 9 = .ok (.putfield 7, 3) := by decide +kernel
theorem dX8_init_12 : decode cX8_init 12 = .ok (.aload_n 0, 1) := by decide +kernel
theorem dX8_init_13 : decode cX8_init 13 = .ok (.bipush 8, 2) := by decide +kernel
theorem dX8_init_15 : decode cX8_init 15 = .ok (.newarray .int, 2) := by decide +kernel
theorem dX8_init_17 : decode cX8_init 17 = .ok (.putfield 13, 3) := by decide +kernel
theorem dX8_init_20 : decode cX8_init 20 = .ok (.aload_n 0, 1) := by decide +kernel
theorem dX8_init_21 : decode cX8_init 21 = .ok (.sipush 320, 3) := by decide +kernel
theorem dX8_init_24 : decode cX8_init 24 = .ok (.newarray .int, 2) := by decide +kernel
theorem dX8_init_26 : decode cX8_init 26 = .ok (.putfield 16, 3) := by decide +kernel
theorem dX8_init_29 : decode cX8_init 29 = .ok (.aload_n 0, 1) := by decide +kernel
theorem dX8_init_30 : decode cX8_init 30 = .ok (.bipush 30, 2) := by decide +kernel
theorem dX8_init_32 : decode cX8_init 32 = .ok (.newarray .int, 2) := by decide +kernel
theorem dX8_init_34 : decode cX8_init 34 = .ok (.putfield 19, 3) := by decide +kernel
theorem dX8_init_37 : decode cX8_init 37 = .ok (.aload_n 0, 1) := by decide +kernel
theorem dX8_init_38 : decode cX8_init 38 = .ok (.bipush 30, 2) := by decide +kernel
theorem dX8_init_40 : decode cX8_init 40 = .ok (.newarray .int, 2) := by decide +kernel
theorem dX8_init_42 : decode cX8_init 42 = .ok (.putfield 22, 3) := by decide +kernel
theorem dX8_init_45 : decode cX8_init 45 = .ok (.aload_n 0, 1) := by decide +kernel
theorem dX8_init_46 : decode cX8_init 46 = .ok (.bipush 30, 2) := by decide +kernel
theorem dX8_init_48 : decode cX8_init 48 = .ok (.newarray .int, 2) := by decide +kernel
theorem dX8_init_50 : decode cX8_init 50 = .ok (.putfield 25, 3) := by decide +kernel
theorem dX8_init_53 : decode cX8_init 53 = .ok (.aload_n 0, 1) := by decide +kernel
theorem dX8_init_54 : decode cX8_init 54 = .ok (.sipush 720, 3) := by decide +kernel
theorem dX8_init_57 : decode cX8_init 57 = .ok (.newarray .int, 2) := by decide +kernel
theorem dX8_init_59 : decode cX8_init 59 = .ok (.putfield 28, 3) := by decide +kernel
theorem dX8_init_62 : decode cX8_init 62 = .ok (.aload_n 0, 1) := by decide +kernel
theorem dX8_init_63 : decode cX8_init 63 = .ok (.bipush 60, 2) := by decide +kernel
theorem dX8_init_65 : decode cX8_init 65 = .ok (.newarray .int, 2) := by decide +kernel
theorem dX8_init_67 : decode cX8_init 67 = .ok (.putfield 31, 3) := by decide +kernel
theorem dX8_init_70 : decode cX8_init 70 = .ok (.aload_n 0, 1) := by decide +kernel
theorem dX8_init_71 : decode cX8_init 71 = .ok (.iconst 2, 1) := by decide +kernel
theorem dX8_init_72 : decode cX8_init 72 = .ok (.newarray .boolean, 2) := by decide +kernel
theorem dX8_init_74 : decode cX8_init 74 = .ok (.putfield 34, 3) := by decide +kernel
theorem dX8_init_77 : decode cX8_init 77 = .ok (.aload_n 0, 1) := by decide +kernel
theorem dX8_init_78 : decode cX8_init 78 = .ok (.bipush 100, 2) := by decide +kernel
theorem dX8_init_80 : decode cX8_init 80 = .ok (.newarray .int, 2) := by decide +kernel
theorem dX8_init_82 : decode cX8_init 82 = .ok (.putfield 38, 3) := by decide +kernel
theorem dX8_init_85 : decode cX8_init 85 = .ok (.aload_n 0, 1) := by decide +kernel
theorem dX8_init_86 : decode cX8_init 86 = .ok (.bipush 16, 2) := by decide +kernel
theorem dX8_init_88 : decode cX8_init 88 = .ok (.newarray .int, 2) := by decide +kernel
theorem dX8_init_90 : decode cX8_init 90 = .ok (.putfield 41, 3) := by decide +kernel
theorem dX8_init_93 : decode cX8_init 93 = .ok (.aload_n 0, 1) := by decide +kernel
theorem dX8_init_94 : decode cX8_init 94 = .ok (.iconst 5, 1) := by decide +kernel
theorem dX8_init_95 : decode cX8_init 95 = .ok (.newarray .int, 2) := by decide +kernel
theorem dX8_init_97 : decode cX8_init 97 = .ok (.putfield 44, 3) := by decide +kernel
theorem dX8_init_100 : decode cX8_init 100 = .ok (.aload_n 0, 1) := by decide +kernel
theorem dX8_init_101 : decode cX8_init 101 = .ok (.iconst 5, 1) := by decide +kernel
theorem dX8_init_102 : decode cX8_init 102 = .ok (.newarray .int, 2) := by decide +kernel
theorem dX8_init_104 : decode cX8_init 104 = .ok (.putfield 47, 3) := by decide +kernel
theorem dX8_init_107 : decode cX8_init 107 = .ok (.aload_n 0, 1) := by decide +kernel
theorem dX8_init_108 : decode cX8_init 108 = .ok (.iconst 5, 1) := by decide +kernel
theorem dX8_init_109 : decode cX8_init 109 = .ok (.newarray .int, 2) := by decide +kernel
theorem dX8_init_111 : decode cX8_init 111 = .ok (.putfield 50, 3) := by decide +kernel
theorem dX8_init_114 : decode cX8_init 114 = .ok (.iconst 0, 1) := by decide +kernel
theorem dX8_init_115 : decode cX8_init 115 = .ok (.istore_n 1, 1) := by decide +kernel
theorem dX8_init_116 : decode cX8_init 116 = .ok (.iload_n 1, 1) := by decide +kernel
theorem dX8_init_117 : decode cX8_init 117 = .ok (.bipush 8, 2) := by decide +kernel
theorem dX8_init_119 : decode cX8_init 119 = .ok (.if_icmp .ge 16, 3) := by decide +kernel
theorem dX8_init_122 : decode cX8_init 122 = .ok (.aload_n 0, 1) := by decide +kernel
theorem dX8_init_123 : decode cX8_init 123 = .ok (.getfield 13, 3) := by decide +kernel
theorem dX8_init_126 : decode cX8_init 126 = .ok (.iload_n 1, 1) := by decide +kernel
theorem dX8_init_127 : decode cX8_init 127 = .ok (.iconst (-1), 1) := by decide +kernel
theorem dX8_init_128 : decode cX8_init 128 = .ok (.iastore, 1) := by decide +kernel
theorem dX8_init_129 : decode cX8_init 129 = .ok (.iinc 1 1, 3) := by decide +kernel
theorem dX8_init_132 : decode cX8_init 132 = .ok (.goto (-16), 3) := by decide +kernel
theorem dX8_init_135 : decode cX8_init 135 = .ok (.return_, 1) := by decide +kernel
theorem dX8_in_0 : decode cX8_in 0 = .ok (.lload_n 0, 1) := by decide +kernel
theorem dX8_in_1 : decode cX8_in 1 = .ok (.lload_n 2, 1) := by decide +kernel
theorem dX8_in_2 : decode cX8_in 2 = .ok (.lcmp, 1) := by decide +kernel
theorem dX8_in_3 : decode cX8_in 3 = .ok (.ifCond .lt 14, 3) := by decide +kernel
theorem dX8_in_6 : decode cX8_in 6 = .ok (.lload_n 0, 1) := by decide +kernel
theorem dX8_in_7 : decode cX8_in 7 = .ok (.lload 4, 2) := by decide +kernel
theorem dX8_in_9 : decode cX8_in 9 = .ok (.lcmp, 1) := by decide +kernel
theorem dX8_in_10 : decode cX8_in 10 = .ok (.ifCond .gt 7, 3) := by decide +kernel
theorem dX8_in_13 : decode cX8_in 13 = .ok (.iconst 1, 1) := by decide +kernel
theorem dX8_in_14 : decode cX8_in 14 = .ok (.goto 4, 3) := by decide +kernel
theorem dX8_in_17 : decode cX8_in 17 = .ok (.iconst 0, 1) := by decide +kernel
theorem dX8_in_18 : decode cX8_in 18 = .ok (.ireturn, 1) := by decide +kernel
theorem dX8_found_0 : decode cX8_found 0 = .ok (.aload_n 0, 1) := by decide +kernel
theorem dX8_found_1 : decode cX8_found 1 = .ok (.iload_n 1, 1) := by decide +kernel
theorem dX8_found_2 : decode cX8_found 2 = .ok (.putfield 53, 3) := by decide +kernel
theorem dX8_found_5 : decode cX8_found 5 = .ok (.ldc 57, 2) := by decide +kernel
theorem dX8_found_7 : decode cX8_found 7 = .ok (.iload_n 1, 1) := by decide +kernel
theorem dX8_found_8 : decode cX8_found 8 = .ok (.isub, 1) := by decide +kernel
theorem dX8_found_9 : decode cX8_found 9 = .ok (.ireturn, 1) := by decide +kernel
theorem dX8_well_0 : decode cX8_well 0 = .ok (.aload_n 0, 1) := by decide +kernel
theorem dX8_well_1 : decode cX8_well 1 = .ok (.iconst 0, 1) := by decide +kernel
theorem dX8_well_2 : decode cX8_well 2 = .ok (.putfield 53, 3) := by decide +kernel
theorem dX8_well_5 : decode cX8_well 5 = .ok (.iload_n 1, 1) := by decide +kernel
theorem dX8_well_6 : decode cX8_well 6 = .ok (.ireturn, 1) := by decide +kernel
set_option maxRecDepth 20000 in
theorem ggX8_isRow_X8_in : GoodIn wsX8_isRow wsX8_in := goodIn_r _ [5] (by decide +kernel) (by decide +kernel)
set_option maxRecDepth 20000 in
theorem gX8_isRow_X8_in : GoodIn wsX8_isRow (va_wsS RX8 60 yX8_in wsX8_in) := goodIn_app (goodIn_of _ (by decide +kernel)) ggX8_isRow_X8_in
theorem dX8_isRow_0 : decode cX8_isRow 0 = .ok (.iload_n 0, 1) := by decide +kernel
theorem dX8_isRow_1 : decode cX8_isRow 1 = .ok (.i2l, 1) := by decide +kernel
theorem dX8_isRow_2 : decode cX8_isRow 2 = .ok (.lconst 0, 1) := by decide +kernel
theorem dX8_isRow_3 : decode cX8_isRow 3 = .ok (.ldc2_w 58, 3) := by decide +kernel
theorem dX8_isRow_6 : decode cX8_isRow 6 = .ok (.invokestatic 60, 3) := by decide +kernel
theorem dX8_isRow_9 : decode cX8_isRow 9 = .ok (.ireturn, 1) := by decide +kernel
set_option maxRecDepth 20000 in
theorem ggX8_row_X8_isRow : GoodIn wsX8_row wsX8_isRow := goodIn_r _ [9, 10, 11, 12, 8, 13] (by decide +kernel) (by decide +kernel)
set_option maxRecDepth 20000 in
theorem gX8_row_X8_isRow : GoodIn wsX8_row (va_wsS RX8 64 yX8_isRow wsX8_isRow) := goodIn_app (goodIn_of _ (by decide +kernel)) ggX8_row_X8_isRow
set_option maxRecDepth 20000 in
theorem ggX8_row_X8_in : GoodIn wsX8_row wsX8_in := goodIn_r _ [13] (by decide +kernel) (by decide +kernel)
set_option maxRecDepth 20000 in
theorem gX8_row_X8_in : GoodIn wsX8_row (va_wsS RX8 60 yX8_in wsX8_in) := goodIn_app (goodIn_of _ (by decide +kernel)) ggX8_row_X8_in
set_option maxRecDepth 20000 in
theorem ggX8_row_X8_found : GoodIn wsX8_row wsX8_found := goodIn_r _ [17, 18, 19, 24, 25, 26, 27, 28, 29, 30, 31, 32, 33, 34, 35, 36, 37, 38, 39, 40, 41, 42, 43, 44, 45, 46, 47] (by decide +kernel) (by decide +kernel)
set_option maxRecDepth 20000 in
theorem gX8_row_X8_found : GoodIn wsX8_row (wsV RX8 71 RX8 yX8_found wsX8_found) := goodIn_app (goodIn_of _ (by decide +kernel)) ggX8_row_X8_found
set_option maxRecDepth 20000 in
theorem ggX8_row_X8_well : GoodIn wsX8_row wsX8_well := goodIn_r _ [23, 18, 24, 25, 26, 27, 28, 29, 30, 31, 32, 33, 34, 35, 36, 37, 38, 39, 40, 41, 42, 43, 44, 45, 46, 47] (by decide +kernel) (by decide +kernel)
set_option maxRecDepth 20000 in
theorem gX8_row_X8_well : GoodIn wsX8_row (wsV RX8 75 RX8 yX8_well wsX8_well) := goodIn_app (goodIn_of _ (by decide +kernel)) ggX8_row_X8_well
theorem dX8_row_0 : decode cX8_row 0 = .ok (.iload_n 1, 1) := by decide +kernel
theorem dX8_row_1 : decode cX8_row 1 = .ok (.invokestatic 64, 3) := by decide +kernel
theorem dX8_row_4 : decode cX8_row 4 = .ok (.ifCond .eq 21, 3) := by decide +kernel
theorem dX8_row_7 : decode cX8_row 7 = .ok (.iload_n 2, 1) := by decide +kernel
theorem dX8_row_8 : decode cX8_row 8 = .ok (.i2l, 1) := by decide +kernel
theorem dX8_row_9 : decode cX8_row 9 = .ok (.lconst 0, 1) := by decide +kernel
theorem dX8_row_10 : decode cX8_row 10 = .ok (.ldc2_w 68, 3) := by decide +kernel
theorem dX8_row_13 : decode cX8_row 13 = .ok (.invokestatic 60, 3) := by decide +kernel
theorem dX8_row_16 : decode cX8_row 16 = .ok (.ifCond .eq 9, 3) := by decide +kernel
theorem dX8_row_19 : decode cX8_row 19 = .ok (.iload_n 3, 1) := by decide +kernel
theorem dX8_row_20 : decode cX8_row 20 = .ok (.bipush 40, 2) := by decide +kernel
theorem dX8_row_22 : decode cX8_row 22 = .ok (.if_icmp .le 6, 3) := by decide +kernel
theorem dX8_row_25 : decode cX8_row 25 = .ok (.ldc 70, 2) := by decide +kernel
theorem dX8_row_27 : decode cX8_row 27 = .ok (.ireturn, 1) := by decide +kernel
theorem dX8_row_28 : decode cX8_row 28 = .ok (.iload_n 3, 1) := by decide +kernel
theorem dX8_row_29 : decode cX8_row 29 = .ok (.ifCond .ge 9, 3) := by decide +kernel
theorem dX8_row_32 : decode cX8_row 32 = .ok (.aload_n 0, 1) := by decide +kernel
theorem dX8_row_33 : decode cX8_row 33 = .ok (.iconst 4, 1) := by decide +kernel
theorem dX8_row_34 : decode cX8_row 34 = .ok (.invokevirtual 71, 3) := by decide +kernel
theorem dX8_row_37 : decode cX8_row 37 = .ok (.ireturn, 1) := by decide +kernel
theorem dX8_row_38 : decode cX8_row 38 = .ok (.aload_n 0, 1) := by decide +kernel
theorem dX8_row_39 : decode cX8_row 39 = .ok (.getfield 7, 3) := by decide +kernel
theorem dX8_row_42 : decode cX8_row 42 = .ok (.iload_n 1, 1) := by decide +kernel
theorem dX8_row_43 : decode cX8_row 43 = .ok (.iload_n 2, 1) := by decide +kernel
theorem dX8_row_44 : decode cX8_row 44 = .ok (.iastore, 1) := by decide +kernel
theorem dX8_row_45 : decode cX8_row 45 = .ok (.aload_n 0, 1) := by decide +kernel
theorem dX8_row_46 : decode cX8_row 46 = .ok (.getfield 13, 3) := by decide +kernel
theorem dX8_row_49 : decode cX8_row 49 = .ok (.iload_n 1, 1) := by decide +kernel
theorem dX8_row_50 : decode cX8_row 50 = .ok (.iload_n 3, 1) := by decide +kernel
theorem dX8_row_51 : decode cX8_row 51 = .ok (.iastore, 1) := by decide +kernel
theorem dX8_row_52 : decode cX8_row 52 = .ok (.iconst 0, 1) := by decide +kernel
theorem dX8_row_53 : decode cX8_row 53 = .ok (.istore 4, 2) := by decide +kernel
theorem dX8_row_55 : decode cX8_row 55 = .ok (.iload 4, 2) := by decide +kernel
theorem dX8_row_57 : decode cX8_row 57 = .ok (.bipush 40, 2) := by decide +kernel
theorem dX8_row_59 : decode cX8_row 59 = .ok (.if_icmp .ge 22, 3) := by decide +kernel
theorem dX8_row_62 : decode cX8_row 62 = .ok (.aload_n 0, 1) := by decide +kernel
theorem dX8_row_63 : decode cX8_row 63 = .ok (.getfield 16, 3) := by decide +kernel
theorem dX8_row_66 : decode cX8_row 66 = .ok (.bipush 40, 2) := by decide +kernel
theorem dX8_row_68 : decode cX8_row 68 = .ok (.iload_n 1, 1) := by decide +kernel
theorem dX8_row_69 : decode cX8_row 69 = .ok (.imul, 1) := by decide +kernel
theorem dX8_row_70 : decode cX8_row 70 = .ok (.iload 4, 2) := by decide +kernel
theorem dX8_row_72 : decode cX8_row 72 = .ok (.iadd, 1) := by decide +kernel
theorem dX8_row_73 : decode cX8_row 73 = .ok (.iconst 0, 1) := by decide +kernel
theorem dX8_row_74 : decode cX8_row 74 = .ok (.iastore, 1) := by decide +kernel
theorem dX8_row_75 : decode cX8_row 75 = .ok (.iinc 4 1, 3) := by decide +kernel
theorem dX8_row_78 : decode cX8_row 78 = .ok (.goto (-23), 3) := by decide +kernel
theorem dX8_row_81 : decode cX8_row 81 = .ok (.aload_n 0, 1) := by decide +kernel
theorem dX8_row_82 : decode cX8_row 82 = .ok (.iload_n 3, 1) := by decide +kernel
theorem dX8_row_83 : decode cX8_row 83 = .ok (.invokevirtual 75, 3) := by decide +kernel
theorem dX8_row_86 : decode cX8_row 86 = .ok (.ireturn, 1) := by decide +kernel
set_option maxRecDepth 20000 in
theorem ggX8_set_X8_isRow : GoodIn wsX8_set wsX8_isRow := goodIn_r _ [8, 9, 10, 11, 7, 12] (by decide +kernel) (by decide +kernel)
set_option maxRecDepth 20000 in
theorem gX8_set_X8_isRow : GoodIn wsX8_set (va_wsS RX8 64 yX8_isRow wsX8_isRow) := goodIn_app (goodIn_of _ (by decide +kernel)) ggX8_set_X8_isRow
set_option maxRecDepth 20000 in
theorem ggX8_set_X8_found : GoodIn wsX8_set wsX8_found := goodIn_r _ [16, 17, 18, 23, 24, 25, 26, 27, 28, 29, 30, 31, 32, 33, 34, 35, 36, 37, 38, 39, 40, 41, 42, 43, 44, 45, 46] (by decide +kernel) (by decide +kernel)
set_option maxRecDepth 20000 in
theorem gX8_set_X8_found : GoodIn wsX8_set (wsV RX8 71 RX8 yX8_found wsX8_found) := goodIn_app (goodIn_of _ (by decide +kernel)) ggX8_set_X8_found
set_option maxRecDepth 20000 in
theorem ggX8_set_X8_in : GoodIn wsX8_set wsX8_in := goodIn_r _ [12] (by decide +kernel) (by decide +kernel)
set_option maxRecDepth 20000 in
theorem gX8_set_X8_in : GoodIn wsX8_set (va_wsS RX8 60 yX8_in wsX8_in) := goodIn_app (goodIn_of _ (by decide +kernel)) ggX8_set_X8_in
set_option maxRecDepth 20000 in
theorem ggX8_set_X8_well : GoodIn wsX8_set wsX8_well := goodIn_r _ [22, 17, 23, 24, 25, 26, 27, 28, 29, 30, 31, 32, 33, 34, 35, 36, 37, 38, 39, 40, 41, 42, 43, 44, 45, 46] (by decide +kernel) (by decide +kernel)
set_option maxRecDepth 20000 in
theorem gX8_set_X8_well : GoodIn wsX8_set (wsV RX8 75 RX8 yX8_well wsX8_well) := goodIn_app (goodIn_of _ (by decide +kernel)) ggX8_set_X8_well
theorem dX8_set_0 : decode cX8_set 0 = .ok (.iload_n 1, 1) := by decide +kernel
theorem dX8_set_1 : decode cX8_set 1 = .ok (.invokestatic 64, 3) := by decide +kernel
theorem dX8_set_4 : decode cX8_set 4 = .ok (.ifCond .ne 6, 3) := by decide +kernel
theorem dX8_set_7 : decode cX8_set 7 = .ok (.ldc 70, 2) := by decide +kernel
theorem dX8_set_9 : decode cX8_set 9 = .ok (.ireturn, 1) := by decide +kernel
theorem dX8_set_10 : decode cX8_set 10 = .ok (.aload_n 0, 1) := by decide +kernel
theorem dX8_set_11 : decode cX8_set 11 = .ok (.getfield 13, 3) := by decide +kernel
theorem dX8_set_14 : decode cX8_set 14 = .ok (.iload_n 1, 1) := by decide +kernel
theorem dX8_set_15 : decode cX8_set 15 = .ok (.iaload, 1) := by decide +kernel
theorem dX8_set_16 : decode cX8_set 16 = .ok (.ifCond .ge 9, 3) := by decide +kernel
theorem dX8_set_19 : decode cX8_set 19 = .ok (.aload_n 0, 1) := by decide +kernel
theorem dX8_set_20 : decode cX8_set 20 = .ok (.iconst 1, 1) := by decide +kernel
theorem dX8_set_21 : decode cX8_set 21 = .ok (.invokevirtual 71, 3) := by decide +kernel
theorem dX8_set_24 : decode cX8_set 24 = .ok (.ireturn, 1) := by decide +kernel
theorem dX8_set_25 : decode cX8_set 25 = .ok (.iload_n 2, 1) := by decide +kernel
theorem dX8_set_26 : decode cX8_set 26 = .ok (.i2l, 1) := by decide +kernel
theorem dX8_set_27 : decode cX8_set 27 = .ok (.lconst 0, 1) := by decide +kernel
theorem dX8_set_28 : decode cX8_set 28 = .ok (.aload_n 0, 1) := by decide +kernel
theorem dX8_set_29 : decode cX8_set 29 = .ok (.getfield 13, 3) := by decide +kernel
theorem dX8_set_32 : decode cX8_set 32 = .ok (.iload_n 1, 1) := by decide +kernel
theorem dX8_set_33 : decode cX8_set 33 = .ok (.iaload, 1) := by decide +kernel
theorem dX8_set_34 : decode cX8_set 34 = .ok (.iconst 1, 1) := by decide +kernel
theorem dX8_set_35 : decode cX8_set 35 = .ok (.isub, 1) := by decide +kernel
theorem dX8_set_36 : decode cX8_set 36 = .ok (.i2l, 1) := by decide +kernel
theorem dX8_set_37 : decode cX8_set 37 = .ok (.invokestatic 60, 3) := by decide +kernel
theorem dX8_set_40 : decode cX8_set 40 = .ok (.ifCond .ne 9, 3) := by decide +kernel
theorem dX8_set_43 : decode cX8_set 43 = .ok (.aload_n 0, 1) := by decide +kernel
theorem dX8_set_44 : decode cX8_set 44 = .ok (.iconst 2, 1) := by decide +kernel
theorem dX8_set_45 : decode cX8_set 45 = .ok (.invokevirtual 71, 3) := by decide +kernel
theorem dX8_set_48 : decode cX8_set 48 = .ok (.ireturn, 1) := by decide +kernel
theorem dX8_set_49 : decode cX8_set 49 = .ok (.aload_n 0, 1) := by decide +kernel
theorem dX8_set_50 : decode cX8_set 50 = .ok (.getfield 16, 3) := by decide +kernel
end
section
theorem dX8_set_53 : decode cX8_set 53 = .ok (.bipush 40, 2) := by decide +kernel
theorem dX8_set_55 : decode cX8_set 55 = .ok (.iload_n 1, 1) := by decide +kernel
theorem dX8_set_56 : decode cX8_set 56 = .ok (.imul, 1) := by decide +kernel
theorem dX8_set_57 : decode cX8_set 57 = .ok (.iload_n 2, 1) := by decide +kernel
theorem dX8_set_58 : decode cX8_set 58 = .ok (.iadd, 1) := by decide +kernel
theorem dX8_set_59 : decode cX8_set 59 = .ok (.aload_n 0, 1) := by decide +kernel
theorem dX8_set_60 : decode cX8_set 60 = .ok (.getfield 7, 3) := by decide +kernel
theorem dX8_set_63 : decode cX8_set 63 = .ok (.iload_n 1, 1) := by decide +kernel
theorem dX8_set_64 : decode cX8_set 64 = .ok (.iaload, 1) := by decide +kernel
theorem dX8_set_65 : decode cX8_set 65 = .ok (.ifCond .ne 8, 3) := by decide +kernel
theorem dX8_set_68 : decode cX8_set 68 = .ok (.iload_n 3, 1) := by decide +kernel
theorem dX8_set_69 : decode cX8_set 69 = .ok (.i2b, 1) := by decide +kernel
theorem dX8_set_70 : decode cX8_set 70 = .ok (.goto 19, 3) := by decide +kernel
theorem dX8_set_73 : decode cX8_set 73 = .ok (.aload_n 0, 1) := by decide +kernel
theorem dX8_set_74 : decode cX8_set 74 = .ok (.getfield 7, 3) := by decide +kernel
theorem dX8_set_77 : decode cX8_set 77 = .ok (.iload_n 1, 1) := by decide +kernel
theorem dX8_set_78 : decode cX8_set 78 = .ok (.iaload, 1) := by decide +kernel
theorem dX8_set_79 : decode cX8_set 79 = .ok (.iconst 1, 1) := by decide +kernel
theorem dX8_set_80 : decode cX8_set 80 = .ok (.if_icmp .ne 8, 3) := by decide +kernel
theorem dX8_set_83 : decode cX8_set 83 = .ok (.iload_n 3, 1) := by decide +kernel
theorem dX8_set_84 : decode cX8_set 84 = .ok (.i2s, 1) := by decide +kernel
theorem dX8_set_85 : decode cX8_set 85 = .ok (.goto 4, 3) := by decide +kernel
theorem dX8_set_88 : decode cX8_set 88 = .ok (.iload_n 3, 1) := by decide +kernel
theorem dX8_set_89 : decode cX8_set 89 = .ok (.iastore, 1) := by decide +kernel
theorem dX8_set_90 : decode cX8_set 90 = .ok (.aload_n 0, 1) := by decide +kernel
theorem dX8_set_91 : decode cX8_set 91 = .ok (.aload_n 0, 1) := by decide +kernel
theorem dX8_set_92 : decode cX8_set 92 = .ok (.getfield 16, 3) := by decide +kernel
theorem dX8_set_95 : decode cX8_set 95 = .ok (.bipush 40, 2) := by decide +kernel
theorem dX8_set_97 : decode cX8_set 97 = .ok (.iload_n 1, 1) := by decide +kernel
theorem dX8_set_98 : decode cX8_set 98 = .ok (.imul, 1) := by decide +kernel
theorem dX8_set_99 : decode cX8_set 99 = .ok (.iload_n 2, 1) := by decide +kernel
theorem dX8_set_100 : decode cX8_set 100 = .ok (.iadd, 1) := by decide +kernel
theorem dX8_set_101 : decode cX8_set 101 = .ok (.iaload, 1) := by decide +kernel
theorem dX8_set_102 : decode cX8_set 102 = .ok (.invokevirtual 75, 3) := by decide +kernel
theorem dX8_set_105 : decode cX8_set 105 = .ok (.ireturn, 1) := by decide +kernel
set_option maxRecDepth 20000 in
theorem ggX8_copy_X8_isRow : GoodIn wsX8_copy wsX8_isRow := goodIn_r _ [8, 9, 10, 11, 7, 12] (by decide +kernel) (by decide +kernel)
set_option maxRecDepth 20000 in
theorem gX8_copy_X8_isRow : GoodIn wsX8_copy (va_wsS RX8 64 yX8_isRow wsX8_isRow) := goodIn_app (goodIn_of _ (by decide +kernel)) ggX8_copy_X8_isRow
set_option maxRecDepth 20000 in
theorem ggX8_copy_X8_found : GoodIn wsX8_copy wsX8_found := goodIn_r _ [16, 17, 18, 23, 24, 25, 26, 27, 28, 29, 30, 31, 32, 33, 34, 35, 36, 37, 38, 39, 40, 41, 42, 43, 44, 45, 46] (by decide +kernel) (by decide +kernel)
set_option maxRecDepth 20000 in
theorem gX8_copy_X8_found : GoodIn wsX8_copy (wsV RX8 71 RX8 yX8_found wsX8_found) := goodIn_app (goodIn_of _ (by decide +kernel)) ggX8_copy_X8_found
set_option maxRecDepth 20000 in
theorem ggX8_copy_X8_well : GoodIn wsX8_copy wsX8_well := goodIn_r _ [22, 17, 23, 24, 25, 26, 27, 28, 29, 30, 31, 32, 33, 34, 35, 36, 37, 38, 39, 40, 41, 42, 43, 44, 45, 46] (by decide +kernel) (by decide +kernel)
set_option maxRecDepth 20000 in
theorem gX8_copy_X8_well : GoodIn wsX8_copy (wsV RX8 75 RX8 yX8_well wsX8_well) := goodIn_app (goodIn_of _ (by decide +kernel)) ggX8_copy_X8_well
theorem dX8_copy_0 : decode cX8_copy 0 = .ok (.iload_n 1, 1) := by decide +kernel
theorem dX8_copy_1 : decode cX8_copy 1 = .ok (.invokestatic 64, 3) := by decide +kernel
theorem dX8_copy_4 : decode cX8_copy 4 = .ok (.ifCond .eq 10, 3) := by decide +kernel
theorem dX8_copy_7 : decode cX8_copy 7 = .ok (.iload_n 3, 1) := by decide +kernel
theorem dX8_copy_8 : decode cX8_copy 8 = .ok (.invokestatic 64, 3) := by decide +kernel
theorem dX8_copy_11 : decode cX8_copy 11 = .ok (.ifCond .ne 6, 3) := by decide +kernel
theorem dX8_copy_14 : decode cX8_copy 14 = .ok (.ldc 70, 2) := by decide +kernel
theorem dX8_copy_16 : decode cX8_copy 16 = .ok (.ireturn, 1) := by decide +kernel
theorem dX8_copy_17 : decode cX8_copy 17 = .ok (.aload_n 0, 1) := by decide +kernel
theorem dX8_copy_18 : decode cX8_copy 18 = .ok (.getfield 13, 3) := by decide +kernel
theorem dX8_copy_21 : decode cX8_copy 21 = .ok (.iload_n 1, 1) := by decide +kernel
theorem dX8_copy_22 : decode cX8_copy 22 = .ok (.iaload, 1) := by decide +kernel
theorem dX8_copy_23 : decode cX8_copy 23 = .ok (.ifCond .lt 12, 3) := by decide +kernel
theorem dX8_copy_26 : decode cX8_copy 26 = .ok (.aload_n 0, 1) := by decide +kernel
theorem dX8_copy_27 : decode cX8_copy 27 = .ok (.getfield 13, 3) := by decide +kernel
theorem dX8_copy_30 : decode cX8_copy 30 = .ok (.iload_n 3, 1) := by decide +kernel
theorem dX8_copy_31 : decode cX8_copy 31 = .ok (.iaload, 1) := by decide +kernel
theorem dX8_copy_32 : decode cX8_copy 32 = .ok (.ifCond .ge 9, 3) := by decide +kernel
theorem dX8_copy_35 : decode cX8_copy 35 = .ok (.aload_n 0, 1) := by decide +kernel
theorem dX8_copy_36 : decode cX8_copy 36 = .ok (.iconst 1, 1) := by decide +kernel
theorem dX8_copy_37 : decode cX8_copy 37 = .ok (.invokevirtual 71, 3) := by decide +kernel
theorem dX8_copy_40 : decode cX8_copy 40 = .ok (.ireturn, 1) := by decide +kernel
theorem dX8_copy_41 : decode cX8_copy 41 = .ok (.aload_n 0, 1) := by decide +kernel
theorem dX8_copy_42 : decode cX8_copy 42 = .ok (.getfield 7, 3) := by decide +kernel
theorem dX8_copy_45 : decode cX8_copy 45 = .ok (.iload_n 1, 1) := by decide +kernel
theorem dX8_copy_46 : decode cX8_copy 46 = .ok (.iaload, 1) := by decide +kernel
theorem dX8_copy_47 : decode cX8_copy 47 = .ok (.aload_n 0, 1) := by decide +kernel
theorem dX8_copy_48 : decode cX8_copy 48 = .ok (.getfield 7, 3) := by decide +kernel
theorem dX8_copy_51 : decode cX8_copy 51 = .ok (.iload_n 3, 1) := by decide +kernel
theorem dX8_copy_52 : decode cX8_copy 52 = .ok (.iaload, 1) := by decide +kernel
theorem dX8_copy_53 : decode cX8_copy 53 = .ok (.if_icmp .eq 9, 3) := by decide +kernel
theorem dX8_copy_56 : decode cX8_copy 56 = .ok (.aload_n 0, 1) := by decide +kernel
theorem dX8_copy_57 : decode cX8_copy 57 = .ok (.iconst 5, 1) := by decide +kernel
theorem dX8_copy_58 : decode cX8_copy 58 = .ok (.invokevirtual 71, 3) := by decide +kernel
theorem dX8_copy_61 : decode cX8_copy 61 = .ok (.ireturn, 1) := by decide +kernel
theorem dX8_copy_62 : decode cX8_copy 62 = .ok (.iload_n 2, 1) := by decide +kernel
theorem dX8_copy_63 : decode cX8_copy 63 = .ok (.ifCond .lt 48, 3) := by decide +kernel
theorem dX8_copy_66 : decode cX8_copy 66 = .ok (.iload 4, 2) := by decide +kernel
theorem dX8_copy_68 : decode cX8_copy 68 = .ok (.ifCond .lt 43, 3) := by decide +kernel
theorem dX8_copy_71 : decode cX8_copy 71 = .ok (.iload 5, 2) := by decide +kernel
theorem dX8_copy_73 : decode cX8_copy 73 = .ok (.ifCond .lt 38, 3) := by decide +kernel
theorem dX8_copy_76 : decode cX8_copy 76 = .ok (.iload_n 2, 1) := by decide +kernel
theorem dX8_copy_77 : decode cX8_copy 77 = .ok (.i2l, 1) := by decide +kernel
theorem dX8_copy_78 : decode cX8_copy 78 = .ok (.iload 5, 2) := by decide +kernel
theorem dX8_copy_80 : decode cX8_copy 80 = .ok (.i2l, 1) := by decide +kernel
theorem dX8_copy_81 : decode cX8_copy 81 = .ok (.ladd, 1) := by decide +kernel
theorem dX8_copy_82 : decode cX8_copy 82 = .ok (.aload_n 0, 1) := by decide +kernel
theorem dX8_copy_83 : decode cX8_copy 83 = .ok (.getfield 13, 3) := by decide +kernel
theorem dX8_copy_86 : decode cX8_copy 86 = .ok (.iload_n 1, 1) := by decide +kernel
theorem dX8_copy_87 : decode cX8_copy 87 = .ok (.iaload, 1) := by decide +kernel
theorem dX8_copy_88 : decode cX8_copy 88 = .ok (.i2l, 1) := by decide +kernel
theorem dX8_copy_89 : decode cX8_copy 89 = .ok (.lcmp, 1) := by decide +kernel
theorem dX8_copy_90 : decode cX8_copy 90 = .ok (.ifCond .gt 21, 3) := by decide +kernel
theorem dX8_copy_93 : decode cX8_copy 93 = .ok (.iload 4, 2) := by decide +kernel
theorem dX8_copy_95 : decode cX8_copy 95 = .ok (.i2l, 1) := by decide +kernel
theorem dX8_copy_96 : decode cX8_copy 96 = .ok (.iload 5, 2) := by decide +kernel
theorem dX8_copy_98 : decode cX8_copy 98 = .ok (.i2l, 1) := by decide +kernel
theorem dX8_copy_99 : decode cX8_copy 99 = .ok (.ladd, 1) := by decide +kernel
theorem dX8_copy_100 : decode cX8_copy 100 = .ok (.aload_n 0, 1) := by decide +kernel
theorem dX8_copy_101 : decode cX8_copy 101 = .ok (.getfield 13, 3) := by decide +kernel
theorem dX8_copy_104 : decode cX8_copy 104 = .ok (.iload_n 3, 1) := by decide +kernel
theorem dX8_copy_105 : decode cX8_copy 105 = .ok (.iaload, 1) := by decide +kernel
theorem dX8_copy_106 : decode cX8_copy 106 = .ok (.i2l, 1) := by decide +kernel
theorem dX8_copy_107 : decode cX8_copy 107 = .ok (.lcmp, 1) := by decide +kernel
theorem dX8_copy_108 : decode cX8_copy 108 = .ok (.ifCond .le 9, 3) := by decide +kernel
theorem dX8_copy_111 : decode cX8_copy 111 = .ok (.aload_n 0, 1) := by decide +kernel
theorem dX8_copy_112 : decode cX8_copy 112 = .ok (.iconst 2, 1) := by decide +kernel
theorem dX8_copy_113 : decode cX8_copy 113 = .ok (.invokevirtual 71, 3) := by decide +kernel
theorem dX8_copy_116 : decode cX8_copy 116 = .ok (.ireturn, 1) := by decide +kernel
theorem dX8_copy_117 : decode cX8_copy 117 = .ok (.iconst 0, 1) := by decide +kernel
theorem dX8_copy_118 : decode cX8_copy 118 = .ok (.istore 6, 2) := by decide +kernel
theorem dX8_copy_120 : decode cX8_copy 120 = .ok (.iload 6, 2) := by decide +kernel
theorem dX8_copy_122 : decode cX8_copy 122 = .ok (.iload 5, 2) := by decide +kernel
theorem dX8_copy_124 : decode cX8_copy 124 = .ok (.if_icmp .ge 58, 3) := by decide +kernel
theorem dX8_copy_127 : decode cX8_copy 127 = .ok (.iload 4, 2) := by decide +kernel
theorem dX8_copy_129 : decode cX8_copy 129 = .ok (.iload_n 2, 1) := by decide +kernel
theorem dX8_copy_130 : decode cX8_copy 130 = .ok (.if_icmp .le 13, 3) := by decide +kernel
theorem dX8_copy_133 : decode cX8_copy 133 = .ok (.iload 5, 2) := by decide +kernel
theorem dX8_copy_135 : decode cX8_copy 135 = .ok (.iconst 1, 1) := by decide +kernel
theorem dX8_copy_136 : decode cX8_copy 136 = .ok (.isub, 1) := by decide +kernel
theorem dX8_copy_137 : decode cX8_copy 137 = .ok (.iload 6, 2) := by decide +kernel
theorem dX8_copy_139 : decode cX8_copy 139 = .ok (.isub, 1) := by decide +kernel
theorem dX8_copy_140 : decode cX8_copy 140 = .ok (.goto 5, 3) := by decide +kernel
theorem dX8_copy_143 : decode cX8_copy 143 = .ok (.iload 6, 2) := by decide +kernel
theorem dX8_copy_145 : decode cX8_copy 145 = .ok (.istore 7, 2) := by decide +kernel
theorem dX8_copy_147 : decode cX8_copy 147 = .ok (.aload_n 0, 1) := by decide +kernel
theorem dX8_copy_148 : decode cX8_copy 148 = .ok (.getfield 16, 3) := by decide +kernel
theorem dX8_copy_151 : decode cX8_copy 151 = .ok (.bipush 40, 2) := by decide +kernel
theorem dX8_copy_153 : decode cX8_copy 153 = .ok (.iload_n 3, 1) := by decide +kernel
theorem dX8_copy_154 : decode cX8_copy 154 = .ok (.imul, 1) := by decide +kernel
theorem dX8_copy_155 : decode cX8_copy 155 = .ok (.iload 4, 2) := by decide +kernel
theorem dX8_copy_157 : decode cX8_copy 157 = .ok (.iadd, 1) := by decide +kernel
theorem dX8_copy_158 : decode cX8_copy 158 = .ok (.iload 7, 2) := by decide +kernel
theorem dX8_copy_160 : decode cX8_copy 160 = .ok (.iadd, 1) := by decide +kernel
theorem dX8_copy_161 : decode cX8_copy 161 = .ok (.aload_n 0, 1) := by decide +kernel
theorem dX8_copy_162 : decode cX8_copy 162 = .ok (.getfield 16, 3) := by decide +kernel
theorem dX8_copy_165 : decode cX8_copy 165 = .ok (.bipush 40, 2) := by decide +kernel
theorem dX8_copy_167 : decode cX8_copy 167 = .ok (.iload_n 1, 1) := by decide +kernel
theorem dX8_copy_168 : decode cX8_copy 168 = .ok (.imul, 1) := by decide +kernel
theorem dX8_copy_169 : decode cX8_copy 169 = .ok (.iload_n 2, 1) := by decide +kernel
theorem dX8_copy_170 : decode cX8_copy 170 = .ok (.iadd, 1) := by decide +kernel
theorem dX8_copy_171 : decode cX8_copy 171 = .ok (.iload 7, 2) := by decide +kernel
theorem dX8_copy_173 : decode cX8_copy 173 = .ok (.iadd, 1) := by decide +kernel
theorem dX8_copy_174 : decode cX8_copy 174 = .ok (.iaload, 1) := by decide +kernel
theorem dX8_copy_175 : decode cX8_copy 175 = .ok (.iastore, 1) := by decide +kernel
theorem dX8_copy_176 : decode cX8_copy 176 = .ok (.iinc 6 1, 3) := by decide +kernel
theorem dX8_copy_179 : decode cX8_copy 179 = .ok (.goto (-59), 3) := by decide +kernel
theorem dX8_copy_182 : decode cX8_copy 182 = .ok (.aload_n 0, 1) := by decide +kernel
theorem dX8_copy_183 : decode cX8_copy 183 = .ok (.iload 5, 2) := by decide +kernel
theorem dX8_copy_185 : decode cX8_copy 185 = .ok (.invokevirtual 75, 3) := by decide +kernel
theorem dX8_copy_188 : decode cX8_copy 188 = .ok (.ireturn, 1) := by decide +kernel
set_option maxRecDepth 20000 in
theorem ggX8_drop_X8_isRow : GoodIn wsX8_drop wsX8_isRow := goodIn_r _ [6, 7, 8, 9, 5, 10] (by decide +kernel) (by decide +kernel)
set_option maxRecDepth 20000 in
theorem gX8_drop_X8_isRow : GoodIn wsX8_drop (va_wsS RX8 64 yX8_isRow wsX8_isRow) := goodIn_app (goodIn_of _ (by decide +kernel)) ggX8_drop_X8_isRow
set_option maxRecDepth 20000 in
theorem ggX8_drop_X8_found : GoodIn wsX8_drop wsX8_found := goodIn_r _ [14, 15, 16, 21, 22, 23, 24, 25, 26, 27, 28, 29, 30, 31, 32, 33, 34, 35, 36, 37, 38, 39, 40, 41, 42, 43, 44] (by decide +kernel) (by decide +kernel)
set_option maxRecDepth 20000 in
theorem gX8_drop_X8_found : GoodIn wsX8_drop (wsV RX8 71 RX8 yX8_found wsX8_found) := goodIn_app (goodIn_of _ (by decide +kernel)) ggX8_drop_X8_found
set_option maxRecDepth 20000 in
theorem ggX8_drop_X8_well : GoodIn wsX8_drop wsX8_well := goodIn_r _ [20, 15, 21, 22, 23, 24, 25, 26, 27, 28, 29, 30, 31, 32, 33, 34, 35, 36, 37, 38, 39, 40, 41, 42, 43, 44] (by decide +kernel) (by decide +kernel)
set_option maxRecDepth 20000 in
theorem gX8_drop_X8_well : GoodIn wsX8_drop (wsV RX8 75 RX8 yX8_well wsX8_well) := goodIn_app (goodIn_of _ (by decide +kernel)) ggX8_drop_X8_well
theorem dX8_drop_0 : decode cX8_drop 0 = .ok (.iload_n 1, 1) := by decide +kernel
theorem dX8_drop_1 : decode cX8_drop 1 = .ok (.invokestatic 64, 3) := by decide +kernel
theorem dX8_drop_4 : decode cX8_drop 4 = .ok (.ifCond .ne 6, 3) := by decide +kernel
theorem dX8_drop_7 : decode cX8_drop 7 = .ok (.ldc 70, 2) := by decide +kernel
theorem dX8_drop_9 : decode cX8_drop 9 = .ok (.ireturn, 1) := by decide +kernel
theorem dX8_drop_10 : decode cX8_drop 10 = .ok (.aload_n 0, 1) := by decide +kernel
theorem dX8_drop_11 : decode cX8_drop 11 = .ok (.getfield 13, 3) := by decide +kernel
theorem dX8_drop_14 : decode cX8_drop 14 = .ok (.iload_n 1, 1) := by decide +kernel
theorem dX8_drop_15 : decode cX8_drop 15 = .ok (.iaload, 1) := by decide +kernel
theorem dX8_drop_16 : decode cX8_drop 16 = .ok (.ifCond .ge 9, 3) := by decide +kernel
theorem dX8_drop_19 : decode cX8_drop 19 = .ok (.aload_n 0, 1) := by decide +kernel
theorem dX8_drop_20 : decode cX8_drop 20 = .ok (.iconst 1, 1) := by decide +kernel
theorem dX8_drop_21 : decode cX8_drop 21 = .ok (.invokevirtual 71, 3) := by decide +kernel
theorem dX8_drop_24 : decode cX8_drop 24 = .ok (.ireturn, 1) := by decide +kernel
theorem dX8_drop_25 : decode cX8_drop 25 = .ok (.aload_n 0, 1) := by decide +kernel
theorem dX8_drop_26 : decode cX8_drop 26 = .ok (.getfield 13, 3) := by decide +kernel
theorem dX8_drop_29 : decode cX8_drop 29 = .ok (.iload_n 1, 1) := by decide +kernel
theorem dX8_drop_30 : decode cX8_drop 30 = .ok (.iaload, 1) := by decide +kernel
theorem dX8_drop_31 : decode cX8_drop 31 = .ok (.istore_n 2, 1) := by decide +kernel
theorem dX8_drop_32 : decode cX8_drop 32 = .ok (.aload_n 0, 1) := by decide +kernel
theorem dX8_drop_33 : decode cX8_drop 33 = .ok (.getfield 13, 3) := by decide +kernel
theorem dX8_drop_36 : decode cX8_drop 36 = .ok (.iload_n 1, 1) := by decide +kernel
theorem dX8_drop_37 : decode cX8_drop 37 = .ok (.iconst (-1), 1) := by decide +kernel
theorem dX8_drop_38 : decode cX8_drop 38 = .ok (.iastore, 1) := by decide +kernel
theorem dX8_drop_39 : decode cX8_drop 39 = .ok (.aload_n 0, 1) := by decide +kernel
theorem dX8_drop_40 : decode cX8_drop 40 = .ok (.iload_n 2, 1) := by decide +kernel
theorem dX8_drop_41 : decode cX8_drop 41 = .ok (.invokevirtual 75, 3) := by decide +kernel
theorem dX8_drop_44 : decode cX8_drop 44 = .ok (.ireturn, 1) := by decide +kernel
set_option maxRecDepth 20000 in
theorem ggX8_feed_X8_in : GoodIn wsX8_feed wsX8_in := goodIn_r _ [9] (by decide +kernel) (by decide +kernel)
set_option maxRecDepth 20000 in
theorem gX8_feed_X8_in : GoodIn wsX8_feed (va_wsS RX8 60 yX8_in wsX8_in) := goodIn_app (goodIn_of _ (by decide +kernel)) ggX8_feed_X8_in
theorem dX8_feed_0 : decode cX8_feed 0 = .ok (.iload_n 1, 1) := by decide +kernel
theorem dX8_feed_1 : decode cX8_feed 1 = .ok (.i2l, 1) := by decide +kernel
theorem dX8_feed_2 : decode cX8_feed 2 = .ok (.lconst 0, 1) := by decide +kernel
theorem dX8_feed_3 : decode cX8_feed 3 = .ok (.ldc2_w 78, 3) := by decide +kernel
theorem dX8_feed_6 : decode cX8_feed 6 = .ok (.invokestatic 60, 3) := by decide +kernel
theorem dX8_feed_9 : decode cX8_feed 9 = .ok (.ifCond .ne 6, 3) := by decide +kernel
theorem dX8_feed_12 : decode cX8_feed 12 = .ok (.ldc 70, 2) := by decide +kernel
theorem dX8_feed_14 : decode cX8_feed 14 = .ok (.ireturn, 1) := by decide +kernel
theorem dX8_feed_15 : decode cX8_feed 15 = .ok (.aload_n 0, 1) := by decide +kernel
theorem dX8_feed_16 : decode cX8_feed 16 = .ok (.getfield 80, 3) := by decide +kernel
theorem dX8_feed_19 : decode cX8_feed 19 = .ok (.bipush 100, 2) := by decide +kernel
theorem dX8_feed_21 : decode cX8_feed 21 = .ok (.if_icmp .ne 6, 3) := by decide +kernel
theorem dX8_feed_24 : decode cX8_feed 24 = .ok (.ldc 83, 2) := by decide +kernel
theorem dX8_feed_26 : decode cX8_feed 26 = .ok (.ireturn, 1) := by decide +kernel
theorem dX8_feed_27 : decode cX8_feed 27 = .ok (.aload_n 0, 1) := by decide +kernel
theorem dX8_feed_28 : decode cX8_feed 28 = .ok (.getfield 38, 3) := by decide +kernel
theorem dX8_feed_31 : decode cX8_feed 31 = .ok (.aload_n 0, 1) := by decide +kernel
theorem dX8_feed_32 : decode cX8_feed 32 = .ok (.getfield 80, 3) := by decide +kernel
theorem dX8_feed_35 : decode cX8_feed 35 = .ok (.iload_n 1, 1) := by decide +kernel
theorem dX8_feed_36 : decode cX8_feed 36 = .ok (.iastore, 1) := by decide +kernel
theorem dX8_feed_37 : decode cX8_feed 37 = .ok (.aload_n 0, 1) := by decide +kernel
theorem dX8_feed_38 : decode cX8_feed 38 = .ok (.dup, 1) := by decide +kernel
theorem dX8_feed_39 : decode cX8_feed 39 = .ok (.getfield 80, 3) := by decide +kernel
theorem dX8_feed_42 : decode cX8_feed 42 = .ok (.iconst 1, 1) := by decide +kernel
theorem dX8_feed_43 : decode cX8_feed 43 = .ok (.iadd, 1) := by decide +kernel
theorem dX8_feed_44 : decode cX8_feed 44 = .ok (.putfield 80, 3) := by decide +kernel
theorem dX8_feed_47 : decode cX8_feed 47 = .ok (.aload_n 0, 1) := by decide +kernel
theorem dX8_feed_48 : decode cX8_feed 48 = .ok (.getfield 80, 3) := by decide +kernel
theorem dX8_feed_51 : decode cX8_feed 51 = .ok (.ireturn, 1) := by decide +kernel
theorem dX8_here_0 : decode cX8_here 0 = .ok (.aload_n 0, 1) := by decide +kernel
theorem dX8_here_1 : decode cX8_here 1 = .ok (.getfield 84, 3) := by decide +kernel
theorem dX8_here_4 : decode cX8_here 4 = .ok (.aload_n 0, 1) := by decide +kernel
theorem dX8_here_5 : decode cX8_here 5 = .ok (.getfield 80, 3) := by decide +kernel
theorem dX8_here_8 : decode cX8_here 8 = .ok (.if_icmp .ge 15, 3) := by decide +kernel
theorem dX8_here_11 : decode cX8_here 11 = .ok (.aload_n 0, 1) := by decide +kernel
theorem dX8_here_12 : decode cX8_here 12 = .ok (.getfield 38, 3) := by decide +kernel
theorem dX8_here_15 : decode cX8_here 15 = .ok (.aload_n 0, 1) := by decide +kernel
theorem dX8_here_16 : decode cX8_here 16 = .ok (.getfield 84, 3) := by decide +kernel
theorem dX8_here_19 : decode cX8_here 19 = .ok (.iaload, 1) := by decide +kernel
theorem dX8_here_20 : decode cX8_here 20 = .ok (.goto 4, 3) := by decide +kernel
theorem dX8_here_23 : decode cX8_here 23 = .ok (.iconst (-1), 1) := by decide +kernel
theorem dX8_here_24 : decode cX8_here 24 = .ok (.ireturn, 1) := by decide +kernel
set_option maxRecDepth 20000 in
theorem ggX8_step_X8_here : GoodIn wsX8_step wsX8_here := goodIn_r _ [13, 1, 14, 15, 19, 20, 21, 22, 23, 24, 25, 26, 27, 28, 29, 30, 31, 32, 33, 34, 35, 36, 37, 38, 39, 40, 41, 42] (by decide +kernel) (by decide +kernel)
set_option maxRecDepth 20000 in
theorem gX8_step_X8_here : GoodIn wsX8_step (wsV RX8 90 RX8 yX8_here wsX8_here) := goodIn_app (goodIn_of _ (by decide +kernel)) ggX8_step_X8_here
set_option maxRecDepth 20000 in
theorem ggX8_step_X8_in : GoodIn wsX8_step wsX8_in := goodIn_r _ [18] (by decide +kernel) (by decide +kernel)
set_option maxRecDepth 20000 in
theorem gX8_step_X8_in : GoodIn wsX8_step (va_wsS RX8 60 yX8_in wsX8_in) := goodIn_app (goodIn_of _ (by decide +kernel)) ggX8_step_X8_in
theorem dX8_step_0 : decode cX8_step 0 = .ok (.aload_n 0, 1) := by decide +kernel
theorem dX8_step_1 : decode cX8_step 1 = .ok (.aload_n 0, 1) := by decide +kernel
theorem dX8_step_2 : decode cX8_step 2 = .ok (.getfield 84, 3) := by decide +kernel
theorem dX8_step_5 : decode cX8_step 5 = .ok (.putfield 87, 3) := by decide +kernel
theorem dX8_step_8 : decode cX8_step 8 = .ok (.aload_n 0, 1) := by decide +kernel
theorem dX8_step_9 : decode cX8_step 9 = .ok (.aload_n 0, 1) := by decide +kernel
theorem dX8_step_10 : decode cX8_step 10 = .ok (.invokevirtual 90, 3) := by decide +kernel
theorem dX8_step_13 : decode cX8_step 13 = .ok (.putfield 94, 3) := by decide +kernel
theorem dX8_step_16 : decode cX8_step 16 = .ok (.aload_n 0, 1) := by decide +kernel
theorem dX8_step_17 : decode cX8_step 17 = .ok (.aload_n 0, 1) := by decide +kernel
theorem dX8_step_18 : decode cX8_step 18 = .ok (.getfield 94, 3) := by decide +kernel
theorem dX8_step_21 : decode cX8_step 21 = .ok (.ifCond .ge 7, 3) := by decide +kernel
theorem dX8_step_24 : decode cX8_step 24 = .ok (.iconst 0, 1) := by decide +kernel
theorem dX8_step_25 : decode cX8_step 25 = .ok (.goto 68, 3) := by decide +kernel
theorem dX8_step_28 : decode cX8_step 28 = .ok (.aload_n 0, 1) := by decide +kernel
theorem dX8_step_29 : decode cX8_step 29 = .ok (.getfield 94, 3) := by decide +kernel
theorem dX8_step_32 : decode cX8_step 32 = .ok (.i2l, 1) := by decide +kernel
theorem dX8_step_33 : decode cX8_step 33 = .ok (.ldc2_w 97, 3) := by decide +kernel
theorem dX8_step_36 : decode cX8_step 36 = .ok (.ldc2_w 99, 3) := by decide +kernel
theorem dX8_step_39 : decode cX8_step 39 = .ok (.invokestatic 60, 3) := by decide +kernel
theorem dX8_step_42 : decode cX8_step 42 = .ok (.ifCond .eq 7, 3) := by decide +kernel
theorem dX8_step_45 : decode cX8_step 45 = .ok (.iconst 1, 1) := by decide +kernel
theorem dX8_step_46 : decode cX8_step 46 = .ok (.goto 47, 3) := by decide +kernel
theorem dX8_step_49 : decode cX8_step 49 = .ok (.aload_n 0, 1) := by decide +kernel
theorem dX8_step_50 : decode cX8_step 50 = .ok (.getfield 94, 3) := by decide +kernel
theorem dX8_step_53 : decode cX8_step 53 = .ok (.i2l, 1) := by decide +kernel
theorem dX8_step_54 : decode cX8_step 54 = .ok (.ldc2_w 101, 3) := by decide +kernel
theorem dX8_step_57 : decode cX8_step 57 = .ok (.ldc2_w 103, 3) := by decide +kernel
theorem dX8_step_60 : decode cX8_step 60 = .ok (.invokestatic 60, 3) := by decide +kernel
theorem dX8_step_63 : decode cX8_step 63 = .ok (.ifCond .eq 7, 3) := by decide +kernel
theorem dX8_step_66 : decode cX8_step 66 = .ok (.iconst 2, 1) := by decide +kernel
theorem dX8_step_67 : decode cX8_step 67 = .ok (.goto 26, 3) := by decide +kernel
theorem dX8_step_70 : decode cX8_step 70 = .ok (.aload_n 0, 1) := by decide +kernel
theorem dX8_step_71 : decode cX8_step 71 = .ok (.getfield 94, 3) := by decide +kernel
theorem dX8_step_74 : decode cX8_step 74 = .ok (.bipush 44, 2) := by decide +kernel
theorem dX8_step_76 : decode cX8_step 76 = .ok (.if_icmp .eq 12, 3) := by decide +kernel
theorem dX8_step_79 : decode cX8_step 79 = .ok (.aload_n 0, 1) := by decide +kernel
theorem dX8_step_80 : decode cX8_step 80 = .ok (.getfield 94, 3) := by decide +kernel
theorem dX8_step_83 : decode cX8_step 83 = .ok (.bipush 59, 2) := by decide +kernel
theorem dX8_step_85 : decode cX8_step 85 = .ok (.if_icmp .ne 7, 3) := by decide +kernel
theorem dX8_step_88 : decode cX8_step 88 = .ok (.iconst 3, 1) := by decide +kernel
theorem dX8_step_89 : decode cX8_step 89 = .ok (.goto 4, 3) := by decide +kernel
theorem dX8_step_92 : decode cX8_step 92 = .ok (.iconst 4, 1) := by decide +kernel
theorem dX8_step_93 : decode cX8_step 93 = .ok (.putfield 105, 3) := by decide +kernel
theorem dX8_step_96 : decode cX8_step 96 = .ok (.aload_n 0, 1) := by decide +kernel
theorem dX8_step_97 : decode cX8_step 97 = .ok (.getfield 105, 3) := by decide +kernel
theorem dX8_step_100 : decode cX8_step 100 = .ok (.iconst 2, 1) := by decide +kernel
theorem dX8_step_101 : decode cX8_step 101 = .ok (.if_icmp .eq 25, 3) := by decide +kernel
theorem dX8_step_104 : decode cX8_step 104 = .ok (.aload_n 0, 1) := by decide +kernel
theorem dX8_step_105 : decode cX8_step 105 = .ok (.dup, 1) := by decide +kernel
theorem dX8_step_106 : decode cX8_step 106 = .ok (.getfield 84, 3) := by decide +kernel
theorem dX8_step_109 : decode cX8_step 109 = .ok (.aload_n 0, 1) := by decide +kernel
theorem dX8_step_110 : decode cX8_step 110 = .ok (.getfield 105, 3) := by decide +kernel
theorem dX8_step_113 : decode cX8_step 113 = .ok (.ifCond .ne 7, 3) := by decide +kernel
theorem dX8_step_116 : decode cX8_step 116 = .ok (.iconst 0, 1) := by decide +kernel
theorem dX8_step_117 : decode cX8_step 117 = .ok (.goto 4, 3) := by decide +kernel
theorem dX8_step_120 : decode cX8_step 120 = .ok (.iconst 1, 1) := by decide +kernel
theorem dX8_step_121 : decode cX8_step 121 = .ok (.iadd, 1) := by decide +kernel
theorem dX8_step_122 : decode cX8_step 122 = .ok (.putfield 84, 3) := by decide +kernel
theorem dX8_step_125 : decode cX8_step 125 = .ok (.return_, 1) := by decide +kernel
theorem dX8_step_126 : decode cX8_step 126 = .ok (.aload_n 0, 1) := by decide +kernel
theorem dX8_step_127 : decode cX8_step 127 = .ok (.iconst 0, 1) := by decide +kernel
theorem dX8_step_128 : decode cX8_step 128 = .ok (.putfield 94, 3) := by decide +kernel
theorem dX8_step_131 : decode cX8_step 131 = .ok (.aload_n 0, 1) := by decide +kernel
theorem dX8_step_132 : decode cX8_step 132 = .ok (.invokevirtual 90, 3) := by decide +kernel
theorem dX8_step_135 : decode cX8_step 135 = .ok (.i2l, 1) := by decide +kernel
theorem dX8_step_136 : decode cX8_step 136 = .ok (.ldc2_w 101, 3) := by decide +kernel
theorem dX8_step_139 : decode cX8_step 139 = .ok (.ldc2_w 103, 3) := by decide +kernel
theorem dX8_step_142 : decode cX8_step 142 = .ok (.invokestatic 60, 3) := by decide +kernel
theorem dX8_step_145 : decode cX8_step 145 = .ok (.ifCond .eq 55, 3) := by decide +kernel
theorem dX8_step_148 : decode cX8_step 148 = .ok (.aload_n 0, 1) := by decide +kernel
theorem dX8_step_149 : decode cX8_step 149 = .ok (.aload_n 0, 1) := by decide +kernel
theorem dX8_step_150 : decode cX8_step 150 = .ok (.getfield 84, 3) := by decide +kernel
theorem dX8_step_153 : decode cX8_step 153 = .ok (.aload_n 0, 1) := by decide +kernel
theorem dX8_step_154 : decode cX8_step 154 = .ok (.getfield 87, 3) := by decide +kernel
theorem dX8_step_157 : decode cX8_step 157 = .ok (.isub, 1) := by decide +kernel
theorem dX8_step_158 : decode cX8_step 158 = .ok (.iconst 2, 1) := by decide +kernel
theorem dX8_step_159 : decode cX8_step 159 = .ok (.if_icmp .ge 21, 3) := by decide +kernel
theorem dX8_step_162 : decode cX8_step 162 = .ok (.bipush 10, 2) := by decide +kernel
theorem dX8_step_164 : decode cX8_step 164 = .ok (.aload_n 0, 1) := by decide +kernel
theorem dX8_step_165 : decode cX8_step 165 = .ok (.getfield 94, 3) := by decide +kernel
theorem dX8_step_168 : decode cX8_step 168 = .ok (.imul, 1) := by decide +kernel
theorem dX8_step_169 : decode cX8_step 169 = .ok (.aload_n 0, 1) := by decide +kernel
theorem dX8_step_170 : decode cX8_step 170 = .ok (.invokevirtual 90, 3) := by decide +kernel
theorem dX8_step_173 : decode cX8_step 173 = .ok (.iadd, 1) := by decide +kernel
theorem dX8_step_174 : decode cX8_step 174 = .ok (.bipush 48, 2) := by decide +kernel
theorem dX8_step_176 : decode cX8_step 176 = .ok (.isub, 1) := by decide +kernel
theorem dX8_step_177 : decode cX8_step 177 = .ok (.goto 7, 3) := by decide +kernel
theorem dX8_step_180 : decode cX8_step 180 = .ok (.aload_n 0, 1) := by decide +kernel
theorem dX8_step_181 : decode cX8_step 181 = .ok (.getfield 94, 3) := by decide +kernel
theorem dX8_step_184 : decode cX8_step 184 = .ok (.putfield 94, 3) := by decide +kernel
theorem dX8_step_187 : decode cX8_step 187 = .ok (.aload_n 0, 1) := by decide +kernel
theorem dX8_step_188 : decode cX8_step 188 = .ok (.dup, 1) := by decide +kernel
theorem dX8_step_189 : decode cX8_step 189 = .ok (.getfield 84, 3) := by decide +kernel
theorem dX8_step_192 : decode cX8_step 192 = .ok (.iconst 1, 1) := by decide +kernel
theorem dX8_step_193 : decode cX8_step 193 = .ok (.iadd, 1) := by decide +kernel
theorem dX8_step_194 : decode cX8_step 194 = .ok (.putfield 84, 3) := by decide +kernel
theorem dX8_step_197 : decode cX8_step 197 = .ok (.goto (-66), 3) := by decide +kernel
theorem dX8_step_200 : decode cX8_step 200 = .ok (.aload_n 0, 1) := by decide +kernel
theorem dX8_step_201 : decode cX8_step 201 = .ok (.aload_n 0, 1) := by decide +kernel
theorem dX8_step_202 : decode cX8_step 202 = .ok (.getfield 84, 3) := by decide +kernel
theorem dX8_step_205 : decode cX8_step 205 = .ok (.aload_n 0, 1) := by decide +kernel
theorem dX8_step_206 : decode cX8_step 206 = .ok (.getfield 87, 3) := by decide +kernel
theorem dX8_step_209 : decode cX8_step 209 = .ok (.isub, 1) := by decide +kernel
theorem dX8_step_210 : decode cX8_step 210 = .ok (.iconst 2, 1) := by decide +kernel
theorem dX8_step_211 : decode cX8_step 211 = .ok (.if_icmp .le 7, 3) := by decide +kernel
theorem dX8_step_214 : decode cX8_step 214 = .ok (.iconst 4, 1) := by decide +kernel
theorem dX8_step_215 : decode cX8_step 215 = .ok (.goto 4, 3) := by decide +kernel
theorem dX8_step_218 : decode cX8_step 218 = .ok (.iconst 2, 1) := by decide +kernel
theorem dX8_step_219 : decode cX8_step 219 = .ok (.putfield 105, 3) := by decide +kernel
theorem dX8_step_222 : decode cX8_step 222 = .ok (.return_, 1) := by decide +kernel
theorem dX8_fails_0 : decode cX8_fails 0 = .ok (.aload_n 0, 1) := by decide +kernel
theorem dX8_fails_1 : decode cX8_fails 1 = .ok (.iload_n 1, 1) := by decide +kernel
theorem dX8_fails_2 : decode cX8_fails 2 = .ok (.putfield 108, 3) := by decide +kernel
theorem dX8_fails_5 : decode cX8_fails 5 = .ok (.iconst 0, 1) := by decide +kernel
theorem dX8_fails_6 : decode cX8_fails 6 = .ok (.ireturn, 1) := by decide +kernel
set_option maxRecDepth 20000 in
theorem ggX8_number_X8_step : GoodIn wsX8_number wsX8_step := goodIn_r _ [8, 9, 10, 2, 11, 12, 13, 14, 1, 15, 16, 17, 7, 18, 19, 20, 21, 22, 23, 29, 30, 31, 32, 33, 34, 35, 36, 37, 38, 39, 40, 41, 42, 43, 44, 45, 46, 47, 48, 49, 50, 51, 52] (by decide +kernel) (by decide +kernel)
set_option maxRecDepth 20000 in
theorem gX8_number_X8_step : GoodIn wsX8_number (wsV RX8 111 RX8 yX8_step wsX8_step) := goodIn_app (goodIn_of _ (by decide +kernel)) ggX8_number_X8_step
set_option maxRecDepth 20000 in
theorem ggX8_number_X8_fails : GoodIn wsX8_number wsX8_fails := goodIn_r _ [27, 28, 29, 30, 31, 32, 33, 34, 35, 36, 37, 38, 39, 40, 41, 42, 43, 44, 45, 46, 47, 48, 49, 50, 51, 52] (by decide +kernel) (by decide +kernel)
set_option maxRecDepth 20000 in
theorem gX8_number_X8_fails : GoodIn wsX8_number (wsV RX8 114 RX8 yX8_fails wsX8_fails) := goodIn_app (goodIn_of _ (by decide +kernel)) ggX8_number_X8_fails
set_option maxRecDepth 20000 in
theorem ggX8_number_X8_in : GoodIn wsX8_number wsX8_in := goodIn_r _ [23] (by decide +kernel) (by decide +kernel)
set_option maxRecDepth 20000 in
theorem gX8_number_X8_in : GoodIn wsX8_number (va_wsS RX8 60 yX8_in wsX8_in) := goodIn_app (goodIn_of _ (by decide +kernel)) ggX8_number_X8_in
theorem dX8_number_0 : decode cX8_number 0 = .ok (.aload_n 0, 1) := by decide +kernel
theorem dX8_number_1 : decode cX8_number 1 = .ok (.invokevirtual 111, 3) := by decide +kernel
theorem dX8_number_4 : decode cX8_number 4 = .ok (.aload_n 0, 1) := by decide +kernel
theorem dX8_number_5 : decode cX8_number 5 = .ok (.getfield 105, 3) := by decide +kernel
theorem dX8_number_8 : decode cX8_number 8 = .ok (.iconst 2, 1) := by decide +kernel
theorem dX8_number_9 : decode cX8_number 9 = .ok (.if_icmp .eq 9, 3) := by decide +kernel
theorem dX8_number_12 : decode cX8_number 12 = .ok (.aload_n 0, 1) := by decide +kernel
theorem dX8_number_13 : decode cX8_number 13 = .ok (.iconst 1, 1) := by decide +kernel
theorem dX8_number_14 : decode cX8_number 14 = .ok (.invokevirtual 114, 3) := by decide +kernel
theorem dX8_number_17 : decode cX8_number 17 = .ok (.ireturn, 1) := by decide +kernel
theorem dX8_number_18 : decode cX8_number 18 = .ok (.aload_n 0, 1) := by decide +kernel
theorem dX8_number_19 : decode cX8_number 19 = .ok (.getfield 94, 3) := by decide +kernel
theorem dX8_number_22 : decode cX8_number 22 = .ok (.i2l, 1) := by decide +kernel
theorem dX8_number_23 : decode cX8_number 23 = .ok (.iload_n 2, 1) := by decide +kernel
theorem dX8_number_24 : decode cX8_number 24 = .ok (.i2l, 1) := by decide +kernel
theorem dX8_number_25 : decode cX8_number 25 = .ok (.iload_n 3, 1) := by decide +kernel
theorem dX8_number_26 : decode cX8_number 26 = .ok (.i2l, 1) := by decide +kernel
theorem dX8_number_27 : decode cX8_number 27 = .ok (.invokestatic 60, 3) := by decide +kernel
theorem dX8_number_30 : decode cX8_number 30 = .ok (.ifCond .ne 9, 3) := by decide +kernel
theorem dX8_number_33 : decode cX8_number 33 = .ok (.aload_n 0, 1) := by decide +kernel
theorem dX8_number_34 : decode cX8_number 34 = .ok (.iconst 2, 1) := by decide +kernel
theorem dX8_number_35 : decode cX8_number 35 = .ok (.invokevirtual 114, 3) := by decide +kernel
theorem dX8_number_38 : decode cX8_number 38 = .ok (.ireturn, 1) := by decide +kernel
theorem dX8_number_39 : decode cX8_number 39 = .ok (.aload_n 0, 1) := by decide +kernel
theorem dX8_number_40 : decode cX8_number 40 = .ok (.getfield 22, 3) := by decide +kernel
theorem dX8_number_43 : decode cX8_number 43 = .ok (.iload_n 1, 1) := by decide +kernel
theorem dX8_number_44 : decode cX8_number 44 = .ok (.aload_n 0, 1) := by decide +kernel
theorem dX8_number_45 : decode cX8_number 45 = .ok (.getfield 94, 3) := by decide +kernel
theorem dX8_number_48 : decode cX8_number 48 = .ok (.iastore, 1) := by decide +kernel
theorem dX8_number_49 : decode cX8_number 49 = .ok (.aload_n 0, 1) := by decide +kernel
theorem dX8_number_50 : decode cX8_number 50 = .ok (.invokevirtual 111, 3) := by decide +kernel
theorem dX8_number_53 : decode cX8_number 53 = .ok (.aload_n 0, 1) := by decide +kernel
theorem dX8_number_54 : decode cX8_number 54 = .ok (.getfield 105, 3) := by decide +kernel
theorem dX8_number_57 : decode cX8_number 57 = .ok (.iconst 3, 1) := by decide +kernel
theorem dX8_number_58 : decode cX8_number 58 = .ok (.if_icmp .ne 12, 3) := by decide +kernel
theorem dX8_number_61 : decode cX8_number 61 = .ok (.aload_n 0, 1) := by decide +kernel
theorem dX8_number_62 : decode cX8_number 62 = .ok (.getfield 94, 3) := by decide +kernel
theorem dX8_number_65 : decode cX8_number 65 = .ok (.iload 4, 2) := by decide +kernel
theorem dX8_number_67 : decode cX8_number 67 = .ok (.if_icmp .eq 11, 3) := by decide +kernel
theorem dX8_number_70 : decode cX8_number 70 = .ok (.aload_n 0, 1) := by decide +kernel
theorem dX8_number_71 : decode cX8_number 71 = .ok (.iconst 1, 1) := by decide +kernel
theorem dX8_number_72 : decode cX8_number 72 = .ok (.invokevirtual 114, 3) := by decide +kernel
theorem dX8_number_75 : decode cX8_number 75 = .ok (.ifCond .eq 7, 3) := by decide +kernel
theorem dX8_number_78 : decode cX8_number 78 = .ok (.iconst 1, 1) := by decide +kernel
theorem dX8_number_79 : decode cX8_number 79 = .ok (.goto 4, 3) := by decide +kernel
theorem dX8_number_82 : decode cX8_number 82 = .ok (.iconst 0, 1) := by decide +kernel
theorem dX8_number_83 : decode cX8_number 83 = .ok (.ireturn, 1) := by decide +kernel
theorem dX8_sortOf_0 : decode cX8_sortOf 0 = .ok (.iload_n 0, 1) := by decide +kernel
theorem dX8_sortOf_1 : decode cX8_sortOf 1 = .ok (.bipush 105, 2) := by decide +kernel
theorem dX8_sortOf_3 : decode cX8_sortOf 3 = .ok (.if_icmp .ne 7, 3) := by decide +kernel
theorem dX8_sortOf_6 : decode cX8_sortOf 6 = .ok (.iconst 1, 1) := by decide +kernel
theorem dX8_sortOf_7 : decode cX8_sortOf 7 = .ok (.goto 44, 3) := by decide +kernel
theorem dX8_sortOf_10 : decode cX8_sortOf 10 = .ok (.iload_n 0, 1) := by decide +kernel
theorem dX8_sortOf_11 : decode cX8_sortOf 11 = .ok (.bipush 99, 2) := by decide +kernel
theorem dX8_sortOf_13 : decode cX8_sortOf 13 = .ok (.if_icmp .ne 7, 3) := by decide +kernel
theorem dX8_sortOf_16 : decode cX8_sortOf 16 = .ok (.iconst 2, 1) := by decide +kernel
theorem dX8_sortOf_17 : decode cX8_sortOf 17 = .ok (.goto 34, 3) := by decide +kernel
theorem dX8_sortOf_20 : decode cX8_sortOf 20 = .ok (.iload_n 0, 1) := by decide +kernel
theorem dX8_sortOf_21 : decode cX8_sortOf 21 = .ok (.bipush 119, 2) := by decide +kernel
theorem dX8_sortOf_23 : decode cX8_sortOf 23 = .ok (.if_icmp .ne 7, 3) := by decide +kernel
theorem dX8_sortOf_26 : decode cX8_sortOf 26 = .ok (.iconst 3, 1) := by decide +kernel
theorem dX8_sortOf_27 : decode cX8_sortOf 27 = .ok (.goto 24, 3) := by decide +kernel
theorem dX8_sortOf_30 : decode cX8_sortOf 30 = .ok (.iload_n 0, 1) := by decide +kernel
theorem dX8_sortOf_31 : decode cX8_sortOf 31 = .ok (.bipush 115, 2) := by decide +kernel
theorem dX8_sortOf_33 : decode cX8_sortOf 33 = .ok (.if_icmp .ne 7, 3) := by decide +kernel
theorem dX8_sortOf_36 : decode cX8_sortOf 36 = .ok (.iconst 4, 1) := by decide +kernel
theorem dX8_sortOf_37 : decode cX8_sortOf 37 = .ok (.goto 14, 3) := by decide +kernel
theorem dX8_sortOf_40 : decode cX8_sortOf 40 = .ok (.iload_n 0, 1) := by decide +kernel
theorem dX8_sortOf_41 : decode cX8_sortOf 41 = .ok (.bipush 103, 2) := by decide +kernel
theorem dX8_sortOf_43 : decode cX8_sortOf 43 = .ok (.if_icmp .ne 7, 3) := by decide +kernel
theorem dX8_sortOf_46 : decode cX8_sortOf 46 = .ok (.iconst 5, 1) := by decide +kernel
theorem dX8_sortOf_47 : decode cX8_sortOf 47 = .ok (.goto 4, 3) := by decide +kernel
theorem dX8_sortOf_50 : decode cX8_sortOf 50 = .ok (.iconst 0, 1) := by decide +kernel
theorem dX8_sortOf_51 : decode cX8_sortOf 51 = .ok (.ireturn, 1) := by decide +kernel
set_option maxRecDepth 20000 in
theorem ggX8_readsThing_X8_sortOf : GoodIn wsX8_readsThing wsX8_sortOf := goodIn_r _ [7] (by decide +kernel) (by decide +kernel)
set_option maxRecDepth 20000 in
theorem gX8_readsThing_X8_sortOf : GoodIn wsX8_readsThing (va_wsS RX8 117 yX8_sortOf wsX8_sortOf) := goodIn_app (goodIn_of _ (by decide +kernel)) ggX8_readsThing_X8_sortOf
set_option maxRecDepth 20000 in
theorem ggX8_readsThing_X8_fails : GoodIn wsX8_readsThing wsX8_fails := goodIn_r _ [11, 12, 36, 37, 38, 39, 40, 41, 42, 43, 44, 45, 46, 47, 48, 49, 50, 51, 52, 53, 54, 55, 56, 57, 58, 59] (by decide +kernel) (by decide +kernel)
set_option maxRecDepth 20000 in
theorem gX8_readsThing_X8_fails : GoodIn wsX8_readsThing (wsV RX8 114 RX8 yX8_fails wsX8_fails) := goodIn_app (goodIn_of _ (by decide +kernel)) ggX8_readsThing_X8_fails
set_option maxRecDepth 20000 in
theorem ggX8_readsThing_X8_number : GoodIn wsX8_readsThing wsX8_number := goodIn_r _ [16, 2, 3, 1, 17, 18, 19, 6, 20, 21, 22, 23, 24, 25, 26, 27, 28, 29, 30, 31, 32, 33, 34, 35, 8, 9, 10, 11, 12, 36, 37, 38, 39, 40, 41, 42, 43, 44, 45, 46, 47, 48, 49, 50, 51, 52, 53, 54, 55, 56, 57, 58, 59] (by decide +kernel) (by decide +kernel)
set_option maxRecDepth 20000 in
theorem gX8_readsThing_X8_number : GoodIn wsX8_readsThing (wsV RX8 120 RX8 yX8_number wsX8_number) := goodIn_app (goodIn_of _ (by decide +kernel)) ggX8_readsThing_X8_number
theorem dX8_readsThing_0 : decode cX8_readsThing 0 = .ok (.aload_n 0, 1) := by decide +kernel
theorem dX8_readsThing_1 : decode cX8_readsThing 1 = .ok (.getfield 22, 3) := by decide +kernel
theorem dX8_readsThing_4 : decode cX8_readsThing 4 = .ok (.iconst 0, 1) := by decide +kernel
theorem dX8_readsThing_5 : decode cX8_readsThing 5 = .ok (.iaload, 1) := by decide +kernel
theorem dX8_readsThing_6 : decode cX8_readsThing 6 = .ok (.istore_n 1, 1) := by decide +kernel
theorem dX8_readsThing_7 : decode cX8_readsThing 7 = .ok (.aload_n 0, 1) := by decide +kernel
theorem dX8_readsThing_8 : decode cX8_readsThing 8 = .ok (.getfield 105, 3) := by decide +kernel
theorem dX8_readsThing_11 : decode cX8_readsThing 11 = .ok (.iconst 1, 1) := by decide +kernel
theorem dX8_readsThing_12 : decode cX8_readsThing 12 = .ok (.if_icmp .ne 13, 3) := by decide +kernel
theorem dX8_readsThing_15 : decode cX8_readsThing 15 = .ok (.aload_n 0, 1) := by decide +kernel
theorem dX8_readsThing_16 : decode cX8_readsThing 16 = .ok (.getfield 94, 3) := by decide +kernel
theorem dX8_readsThing_19 : decode cX8_readsThing 19 = .ok (.invokestatic 117, 3) := by decide +kernel
theorem dX8_readsThing_22 : decode cX8_readsThing 22 = .ok (.goto 4, 3) := by decide +kernel
theorem dX8_readsThing_25 : decode cX8_readsThing 25 = .ok (.iconst 0, 1) := by decide +kernel
theorem dX8_readsThing_26 : decode cX8_readsThing 26 = .ok (.istore_n 2, 1) := by decide +kernel
theorem dX8_readsThing_27 : decode cX8_readsThing 27 = .ok (.iload_n 2, 1) := by decide +kernel
theorem dX8_readsThing_28 : decode cX8_readsThing 28 = .ok (.ifCond .ne 9, 3) := by decide +kernel
theorem dX8_readsThing_31 : decode cX8_readsThing 31 = .ok (.aload_n 0, 1) := by decide +kernel
theorem dX8_readsThing_32 : decode cX8_readsThing 32 = .ok (.iconst 1, 1) := by decide +kernel
theorem dX8_readsThing_33 : decode cX8_readsThing 33 = .ok (.invokevirtual 114, 3) := by decide +kernel
theorem dX8_readsThing_36 : decode cX8_readsThing 36 = .ok (.ireturn, 1) := by decide +kernel
theorem dX8_readsThing_37 : decode cX8_readsThing 37 = .ok (.iload_n 1, 1) := by decide +kernel
theorem dX8_readsThing_38 : decode cX8_readsThing 38 = .ok (.iconst 5, 1) := by decide +kernel
theorem dX8_readsThing_39 : decode cX8_readsThing 39 = .ok (.if_icmp .ne 9, 3) := by decide +kernel
theorem dX8_readsThing_42 : decode cX8_readsThing 42 = .ok (.aload_n 0, 1) := by decide +kernel
theorem dX8_readsThing_43 : decode cX8_readsThing 43 = .ok (.iconst 3, 1) := by decide +kernel
theorem dX8_readsThing_44 : decode cX8_readsThing 44 = .ok (.invokevirtual 114, 3) := by decide +kernel
theorem dX8_readsThing_47 : decode cX8_readsThing 47 = .ok (.ireturn, 1) := by decide +kernel
theorem dX8_readsThing_48 : decode cX8_readsThing 48 = .ok (.aload_n 0, 1) := by decide +kernel
theorem dX8_readsThing_49 : decode cX8_readsThing 49 = .ok (.getfield 22, 3) := by decide +kernel
theorem dX8_readsThing_52 : decode cX8_readsThing 52 = .ok (.iconst 3, 1) := by decide +kernel
theorem dX8_readsThing_53 : decode cX8_readsThing 53 = .ok (.iload_n 1, 1) := by decide +kernel
theorem dX8_readsThing_54 : decode cX8_readsThing 54 = .ok (.iadd, 1) := by decide +kernel
theorem dX8_readsThing_55 : decode cX8_readsThing 55 = .ok (.iload_n 2, 1) := by decide +kernel
theorem dX8_readsThing_56 : decode cX8_readsThing 56 = .ok (.iastore, 1) := by decide +kernel
theorem dX8_readsThing_57 : decode cX8_readsThing 57 = .ok (.aload_n 0, 1) := by decide +kernel
theorem dX8_readsThing_58 : decode cX8_readsThing 58 = .ok (.getfield 22, 3) := by decide +kernel
theorem dX8_readsThing_61 : decode cX8_readsThing 61 = .ok (.iconst 0, 1) := by decide +kernel
theorem dX8_readsThing_62 : decode cX8_readsThing 62 = .ok (.dup2, 1) := by decide +kernel
theorem dX8_readsThing_63 : decode cX8_readsThing 63 = .ok (.iaload, 1) := by decide +kernel
theorem dX8_readsThing_64 : decode cX8_readsThing 64 = .ok (.iconst 1, 1) := by decide +kernel
theorem dX8_readsThing_65 : decode cX8_readsThing 65 = .ok (.iadd, 1) := by decide +kernel
theorem dX8_readsThing_66 : decode cX8_readsThing 66 = .ok (.iastore, 1) := by decide +kernel
theorem dX8_readsThing_67 : decode cX8_readsThing 67 = .ok (.aload_n 0, 1) := by decide +kernel
theorem dX8_readsThing_68 : decode cX8_readsThing 68 = .ok (.bipush 13, 2) := by decide +kernel
theorem dX8_readsThing_70 : decode cX8_readsThing 70 = .ok (.iload_n 1, 1) := by decide +kernel
theorem dX8_readsThing_71 : decode cX8_readsThing 71 = .ok (.iadd, 1) := by decide +kernel
theorem dX8_readsThing_72 : decode cX8_readsThing 72 = .ok (.iconst 0, 1) := by decide +kernel
theorem dX8_readsThing_73 : decode cX8_readsThing 73 = .ok (.bipush 40, 2) := by decide +kernel
theorem dX8_readsThing_75 : decode cX8_readsThing 75 = .ok (.bipush 44, 2) := by decide +kernel
theorem dX8_readsThing_77 : decode cX8_readsThing 77 = .ok (.invokevirtual 120, 3) := by decide +kernel
theorem dX8_readsThing_80 : decode cX8_readsThing 80 = .ok (.ifCond .eq 62, 3) := by decide +kernel
theorem dX8_readsThing_83 : decode cX8_readsThing 83 = .ok (.aload_n 0, 1) := by decide +kernel
theorem dX8_readsThing_84 : decode cX8_readsThing 84 = .ok (.bipush 18, 2) := by decide +kernel
theorem dX8_readsThing_86 : decode cX8_readsThing 86 = .ok (.iload_n 1, 1) := by decide +kernel
theorem dX8_readsThing_87 : decode cX8_readsThing 87 = .ok (.iadd, 1) := by decide +kernel
theorem dX8_readsThing_88 : decode cX8_readsThing 88 = .ok (.iconst 0, 1) := by decide +kernel
theorem dX8_readsThing_89 : decode cX8_readsThing 89 = .ok (.iconst 3, 1) := by decide +kernel
theorem dX8_readsThing_90 : decode cX8_readsThing 90 = .ok (.bipush 44, 2) := by decide +kernel
theorem dX8_readsThing_92 : decode cX8_readsThing 92 = .ok (.invokevirtual 120, 3) := by decide +kernel
theorem dX8_readsThing_95 : decode cX8_readsThing 95 = .ok (.ifCond .eq 47, 3) := by decide +kernel
theorem dX8_readsThing_98 : decode cX8_readsThing 98 = .ok (.aload_n 0, 1) := by decide +kernel
theorem dX8_readsThing_99 : decode cX8_readsThing 99 = .ok (.bipush 8, 2) := by decide +kernel
theorem dX8_readsThing_101 : decode cX8_readsThing 101 = .ok (.iload_n 1, 1) := by decide +kernel
theorem dX8_readsThing_102 : decode cX8_readsThing 102 = .ok (.iadd, 1) := by decide +kernel
theorem dX8_readsThing_103 : decode cX8_readsThing 103 = .ok (.iconst 1, 1) := by decide +kernel
theorem dX8_readsThing_104 : decode cX8_readsThing 104 = .ok (.bipush 9, 2) := by decide +kernel
theorem dX8_readsThing_106 : decode cX8_readsThing 106 = .ok (.bipush 44, 2) := by decide +kernel
theorem dX8_readsThing_108 : decode cX8_readsThing 108 = .ok (.invokevirtual 120, 3) := by decide +kernel
theorem dX8_readsThing_111 : decode cX8_readsThing 111 = .ok (.ifCond .eq 31, 3) := by decide +kernel
theorem dX8_readsThing_114 : decode cX8_readsThing 114 = .ok (.aload_n 0, 1) := by decide +kernel
theorem dX8_readsThing_115 : decode cX8_readsThing 115 = .ok (.bipush 23, 2) := by decide +kernel
theorem dX8_readsThing_117 : decode cX8_readsThing 117 = .ok (.iload_n 1, 1) := by decide +kernel
theorem dX8_readsThing_118 : decode cX8_readsThing 118 = .ok (.iadd, 1) := by decide +kernel
theorem dX8_readsThing_119 : decode cX8_readsThing 119 = .ok (.iconst 0, 1) := by decide +kernel
theorem dX8_readsThing_120 : decode cX8_readsThing 120 = .ok (.iconst 1, 1) := by decide +kernel
theorem dX8_readsThing_121 : decode cX8_readsThing 121 = .ok (.aload_n 0, 1) := by decide +kernel
theorem dX8_readsThing_122 : decode cX8_readsThing 122 = .ok (.getfield 22, 3) := by decide +kernel
theorem dX8_readsThing_125 : decode cX8_readsThing 125 = .ok (.iconst 2, 1) := by decide +kernel
theorem dX8_readsThing_126 : decode cX8_readsThing 126 = .ok (.iaload, 1) := by decide +kernel
theorem dX8_readsThing_127 : decode cX8_readsThing 127 = .ok (.ishl, 1) := by decide +kernel
theorem dX8_readsThing_128 : decode cX8_readsThing 128 = .ok (.iconst 1, 1) := by decide +kernel
theorem dX8_readsThing_129 : decode cX8_readsThing 129 = .ok (.isub, 1) := by decide +kernel
theorem dX8_readsThing_130 : decode cX8_readsThing 130 = .ok (.bipush 59, 2) := by decide +kernel
theorem dX8_readsThing_132 : decode cX8_readsThing 132 = .ok (.invokevirtual 120, 3) := by decide +kernel
theorem dX8_readsThing_135 : decode cX8_readsThing 135 = .ok (.ifCond .eq 7, 3) := by decide +kernel
theorem dX8_readsThing_138 : decode cX8_readsThing 138 = .ok (.iconst 1, 1) := by decide +kernel
theorem dX8_readsThing_139 : decode cX8_readsThing 139 = .ok (.goto 4, 3) := by decide +kernel
theorem dX8_readsThing_142 : decode cX8_readsThing 142 = .ok (.iconst 0, 1) := by decide +kernel
theorem dX8_readsThing_143 : decode cX8_readsThing 143 = .ok (.ireturn, 1) := by decide +kernel
set_option maxRecDepth 20000 in
theorem ggX8_reads_X8_step : GoodIn wsX8_reads wsX8_step := goodIn_r _ [9, 2, 10, 4, 11, 12, 13, 14, 3, 15, 16, 17, 8, 18, 19, 20, 21, 22, 23, 40, 41, 42, 43, 44, 45, 46, 47, 48, 49, 50, 51, 52, 53, 54, 55, 56, 57, 58, 59, 60, 61, 62, 63] (by decide +kernel) (by decide +kernel)
set_option maxRecDepth 20000 in
theorem gX8_reads_X8_step : GoodIn wsX8_reads (wsV RX8 111 RX8 yX8_step wsX8_step) := goodIn_app (goodIn_of _ (by decide +kernel)) ggX8_reads_X8_step
set_option maxRecDepth 20000 in
theorem ggX8_reads_X8_fails : GoodIn wsX8_reads wsX8_fails := goodIn_r _ [27, 28, 40, 41, 42, 43, 44, 45, 46, 47, 48, 49, 50, 51, 52, 53, 54, 55, 56, 57, 58, 59, 60, 61, 62, 63] (by decide +kernel) (by decide +kernel)
set_option maxRecDepth 20000 in
theorem gX8_reads_X8_fails : GoodIn wsX8_reads (wsV RX8 114 RX8 yX8_fails wsX8_fails) := goodIn_app (goodIn_of _ (by decide +kernel)) ggX8_reads_X8_fails
set_option maxRecDepth 20000 in
theorem ggX8_reads_X8_number : GoodIn wsX8_reads wsX8_number := goodIn_r _ [32, 3, 4, 1, 5, 6, 7, 8, 9, 2, 10, 11, 12, 13, 14, 15, 16, 17, 18, 19, 20, 21, 22, 23, 24, 25, 26, 27, 28, 40, 41, 42, 43, 44, 45, 46, 47, 48, 49, 50, 51, 52, 53, 54, 55, 56, 57, 58, 59, 60, 61, 62, 63] (by decide +kernel) (by decide +kernel)
set_option maxRecDepth 20000 in
theorem gX8_reads_X8_number : GoodIn wsX8_reads (wsV RX8 120 RX8 yX8_number wsX8_number) := goodIn_app (goodIn_of _ (by decide +kernel)) ggX8_reads_X8_number
set_option maxRecDepth 20000 in
theorem ggX8_reads_X8_readsThing : GoodIn wsX8_reads wsX8_readsThing := goodIn_r _ [36, 1, 3, 4, 37, 38, 8, 39, 24, 25, 26, 27, 28, 29, 30, 31, 32, 5, 6, 7, 9, 2, 10, 11, 12, 13, 14, 15, 16, 17, 18, 19, 20, 21, 22, 23, 40, 41, 42, 43, 44, 45, 46, 47, 48, 49, 50, 51, 52, 53, 54, 55, 56, 57, 58, 59, 60, 61, 62, 63] (by decide +kernel) (by decide +kernel)
set_option maxRecDepth 20000 in
theorem gX8_reads_X8_readsThing : GoodIn wsX8_reads (wsV RX8 124 RX8 yX8_readsThing wsX8_readsThing) := goodIn_app (goodIn_of _ (by decide +kernel)) ggX8_reads_X8_readsThing
theorem dX8_reads_0 : decode cX8_reads 0 = .ok (.iconst 0, 1) := by decide +kernel
theorem dX8_reads_1 : decode cX8_reads 1 = .ok (.istore_n 1, 1) := by decide +kernel
theorem dX8_reads_2 : decode cX8_reads 2 = .ok (.iload_n 1, 1) := by decide +kernel
theorem dX8_reads_3 : decode cX8_reads 3 = .ok (.bipush 30, 2) := by decide +kernel
theorem dX8_reads_5 : decode cX8_reads 5 = .ok (.if_icmp .ge 16, 3) := by decide +kernel
theorem dX8_reads_8 : decode cX8_reads 8 = .ok (.aload_n 0, 1) := by decide +kernel
theorem dX8_reads_9 : decode cX8_reads 9 = .ok (.getfield 22, 3) := by decide +kernel
theorem dX8_reads_12 : decode cX8_reads 12 = .ok (.iload_n 1, 1) := by decide +kernel
theorem dX8_reads_13 : decode cX8_reads 13 = .ok (.iconst 0, 1) := by decide +kernel
theorem dX8_reads_14 : decode cX8_reads 14 = .ok (.iastore, 1) := by decide +kernel
theorem dX8_reads_15 : decode cX8_reads 15 = .ok (.iinc 1 1, 3) := by decide +kernel
theorem dX8_reads_18 : decode cX8_reads 18 = .ok (.goto (-16), 3) := by decide +kernel
theorem dX8_reads_21 : decode cX8_reads 21 = .ok (.aload_n 0, 1) := by decide +kernel
theorem dX8_reads_22 : decode cX8_reads 22 = .ok (.iconst 0, 1) := by decide +kernel
theorem dX8_reads_23 : decode cX8_reads 23 = .ok (.putfield 84, 3) := by decide +kernel
theorem dX8_reads_26 : decode cX8_reads 26 = .ok (.aload_n 0, 1) := by decide +kernel
theorem dX8_reads_27 : decode cX8_reads 27 = .ok (.invokevirtual 111, 3) := by decide +kernel
theorem dX8_reads_30 : decode cX8_reads 30 = .ok (.aload_n 0, 1) := by decide +kernel
theorem dX8_reads_31 : decode cX8_reads 31 = .ok (.getfield 105, 3) := by decide +kernel
theorem dX8_reads_34 : decode cX8_reads 34 = .ok (.iconst 1, 1) := by decide +kernel
theorem dX8_reads_35 : decode cX8_reads 35 = .ok (.if_icmp .ne 12, 3) := by decide +kernel
theorem dX8_reads_38 : decode cX8_reads 38 = .ok (.aload_n 0, 1) := by decide +kernel
theorem dX8_reads_39 : decode cX8_reads 39 = .ok (.getfield 94, 3) := by decide +kernel
theorem dX8_reads_42 : decode cX8_reads 42 = .ok (.bipush 109, 2) := by decide +kernel
theorem dX8_reads_44 : decode cX8_reads 44 = .ok (.if_icmp .eq 9, 3) := by decide +kernel
theorem dX8_reads_47 : decode cX8_reads 47 = .ok (.aload_n 0, 1) := by decide +kernel
theorem dX8_reads_48 : decode cX8_reads 48 = .ok (.iconst 1, 1) := by decide +kernel
theorem dX8_reads_49 : decode cX8_reads 49 = .ok (.invokevirtual 114, 3) := by decide +kernel
theorem dX8_reads_52 : decode cX8_reads 52 = .ok (.ireturn, 1) := by decide +kernel
theorem dX8_reads_53 : decode cX8_reads 53 = .ok (.aload_n 0, 1) := by decide +kernel
theorem dX8_reads_54 : decode cX8_reads 54 = .ok (.iconst 1, 1) := by decide +kernel
theorem dX8_reads_55 : decode cX8_reads 55 = .ok (.iconst 0, 1) := by decide +kernel
theorem dX8_reads_56 : decode cX8_reads 56 = .ok (.bipush 9, 2) := by decide +kernel
theorem dX8_reads_58 : decode cX8_reads 58 = .ok (.bipush 44, 2) := by decide +kernel
theorem dX8_reads_60 : decode cX8_reads 60 = .ok (.invokevirtual 120, 3) := by decide +kernel
theorem dX8_reads_63 : decode cX8_reads 63 = .ok (.ifCond .eq 16, 3) := by decide +kernel
theorem dX8_reads_66 : decode cX8_reads 66 = .ok (.aload_n 0, 1) := by decide +kernel
theorem dX8_reads_67 : decode cX8_reads 67 = .ok (.iconst 2, 1) := by decide +kernel
theorem dX8_reads_68 : decode cX8_reads 68 = .ok (.iconst 1, 1) := by decide +kernel
theorem dX8_reads_69 : decode cX8_reads 69 = .ok (.bipush 6, 2) := by decide +kernel
theorem dX8_reads_71 : decode cX8_reads 71 = .ok (.bipush 59, 2) := by decide +kernel
theorem dX8_reads_73 : decode cX8_reads 73 = .ok (.invokevirtual 120, 3) := by decide +kernel
theorem dX8_reads_76 : decode cX8_reads 76 = .ok (.ifCond .ne 5, 3) := by decide +kernel
theorem dX8_reads_79 : decode cX8_reads 79 = .ok (.iconst 0, 1) := by decide +kernel
theorem dX8_reads_80 : decode cX8_reads 80 = .ok (.ireturn, 1) := by decide +kernel
theorem dX8_reads_81 : decode cX8_reads 81 = .ok (.aload_n 0, 1) := by decide +kernel
theorem dX8_reads_82 : decode cX8_reads 82 = .ok (.invokevirtual 111, 3) := by decide +kernel
theorem dX8_reads_85 : decode cX8_reads 85 = .ok (.aload_n 0, 1) := by decide +kernel
theorem dX8_reads_86 : decode cX8_reads 86 = .ok (.getfield 105, 3) := by decide +kernel
theorem dX8_reads_89 : decode cX8_reads 89 = .ok (.ifCond .eq 19, 3) := by decide +kernel
theorem dX8_reads_92 : decode cX8_reads 92 = .ok (.aload_n 0, 1) := by decide +kernel
theorem dX8_reads_93 : decode cX8_reads 93 = .ok (.invokevirtual 124, 3) := by decide +kernel
theorem dX8_reads_96 : decode cX8_reads 96 = .ok (.ifCond .ne 5, 3) := by decide +kernel
theorem dX8_reads_99 : decode cX8_reads 99 = .ok (.iconst 0, 1) := by decide +kernel
theorem dX8_reads_100 : decode cX8_reads 100 = .ok (.ireturn, 1) := by decide +kernel
theorem dX8_reads_101 : decode cX8_reads 101 = .ok (.aload_n 0, 1) := by decide +kernel
theorem dX8_reads_102 : decode cX8_reads 102 = .ok (.invokevirtual 111, 3) := by decide +kernel
theorem dX8_reads_105 : decode cX8_reads 105 = .ok (.goto (-20), 3) := by decide +kernel
theorem dX8_reads_108 : decode cX8_reads 108 = .ok (.iconst 1, 1) := by decide +kernel
theorem dX8_reads_109 : decode cX8_reads 109 = .ok (.ireturn, 1) := by decide +kernel
set_option maxRecDepth 20000 in
theorem ggX8_mine_X8_reads : GoodIn wsX8_mine wsX8_reads := goodIn_r _ [13, 6, 14, 15, 16, 17, 18, 19, 12, 20, 5, 21, 22, 23, 24, 25, 26, 27, 28, 1, 29, 30, 31, 32, 33, 34, 35, 36, 2, 37, 38, 39, 40, 41, 42, 43, 44, 45, 46, 47, 51, 52, 53, 54, 55, 56, 57, 58, 59, 60, 61, 62, 63, 64, 65, 66, 67, 68, 69, 70, 71, 72, 73, 74] (by decide +kernel) (by decide +kernel)
set_option maxRecDepth 20000 in
theorem gX8_mine_X8_reads : GoodIn wsX8_mine (wsV RX8 128 RX8 yX8_reads wsX8_reads) := goodIn_app (goodIn_of _ (by decide +kernel)) ggX8_mine_X8_reads
set_option maxRecDepth 20000 in
theorem ggX8_mine_X8_copies : GoodIn wsX8_mine wsX8_copies := goodIn_r _ [50] (by decide +kernel) (by decide +kernel)
set_option maxRecDepth 20000 in
theorem gX8_mine_X8_copies : GoodIn wsX8_mine (va_wsS RX8 135 yX8_copies wsX8_copies) := goodIn_app (goodIn_of _ (by decide +kernel)) ggX8_mine_X8_copies
theorem dX8_mine_0 : decode cX8_mine 0 = .ok (.aload_n 0, 1) := by decide +kernel
theorem dX8_mine_1 : decode cX8_mine 1 = .ok (.invokevirtual 128, 3) := by decide +kernel
theorem dX8_mine_4 : decode cX8_mine 4 = .ok (.istore_n 1, 1) := by decide +kernel
theorem dX8_mine_5 : decode cX8_mine 5 = .ok (.aload_n 0, 1) := by decide +kernel
theorem dX8_mine_6 : decode cX8_mine 6 = .ok (.iconst 0, 1) := by decide +kernel
theorem dX8_mine_7 : decode cX8_mine 7 = .ok (.putfield 80, 3) := by decide +kernel
theorem dX8_mine_10 : decode cX8_mine 10 = .ok (.iload_n 1, 1) := by decide +kernel
theorem dX8_mine_11 : decode cX8_mine 11 = .ok (.ifCond .ne 19, 3) := by decide +kernel
theorem dX8_mine_14 : decode cX8_mine 14 = .ok (.aload_n 0, 1) := by decide +kernel
theorem dX8_mine_15 : decode cX8_mine 15 = .ok (.aload_n 0, 1) := by decide +kernel
theorem dX8_mine_16 : decode cX8_mine 16 = .ok (.getfield 108, 3) := by decide +kernel
theorem dX8_mine_19 : decode cX8_mine 19 = .ok (.putfield 131, 3) := by decide +kernel
theorem dX8_mine_22 : decode cX8_mine 22 = .ok (.ldc 134, 2) := by decide +kernel
theorem dX8_mine_24 : decode cX8_mine 24 = .ok (.aload_n 0, 1) := by decide +kernel
theorem dX8_mine_25 : decode cX8_mine 25 = .ok (.getfield 87, 3) := by decide +kernel
theorem dX8_mine_28 : decode cX8_mine 28 = .ok (.isub, 1) := by decide +kernel
theorem dX8_mine_29 : decode cX8_mine 29 = .ok (.ireturn, 1) := by decide +kernel
theorem dX8_mine_30 : decode cX8_mine 30 = .ok (.aload_n 0, 1) := by decide +kernel
theorem dX8_mine_31 : decode cX8_mine 31 = .ok (.getfield 22, 3) := by decide +kernel
theorem dX8_mine_34 : decode cX8_mine 34 = .ok (.iconst 0, 1) := by decide +kernel
theorem dX8_mine_35 : decode cX8_mine 35 = .ok (.aload_n 0, 1) := by decide +kernel
theorem dX8_mine_36 : decode cX8_mine 36 = .ok (.getfield 19, 3) := by decide +kernel
theorem dX8_mine_39 : decode cX8_mine 39 = .ok (.iconst 0, 1) := by decide +kernel
theorem dX8_mine_40 : decode cX8_mine 40 = .ok (.invokestatic 135, 3) := by decide +kernel
theorem dX8_mine_43 : decode cX8_mine 43 = .ok (.aload_n 0, 1) := by decide +kernel
theorem dX8_mine_44 : decode cX8_mine 44 = .ok (.iconst 0, 1) := by decide +kernel
theorem dX8_mine_45 : decode cX8_mine 45 = .ok (.putfield 139, 3) := by decide +kernel
theorem dX8_mine_48 : decode cX8_mine 48 = .ok (.aload_n 0, 1) := by decide +kernel
theorem dX8_mine_49 : decode cX8_mine 49 = .ok (.getfield 19, 3) := by decide +kernel
theorem dX8_mine_52 : decode cX8_mine 52 = .ok (.iconst 0, 1) := by decide +kernel
theorem dX8_mine_53 : decode cX8_mine 53 = .ok (.iaload, 1) := by decide +kernel
theorem dX8_mine_54 : decode cX8_mine 54 = .ok (.ireturn, 1) := by decide +kernel
theorem dX8_fault_0 : decode cX8_fault 0 = .ok (.aload_n 0, 1) := by decide +kernel
theorem dX8_fault_1 : decode cX8_fault 1 = .ok (.getfield 131, 3) := by decide +kernel
theorem dX8_fault_4 : decode cX8_fault 4 = .ok (.ireturn, 1) := by decide +kernel
theorem dX8_copies_0 : decode cX8_copies 0 = .ok (.iconst 0, 1) := by decide +kernel
theorem dX8_copies_1 : decode cX8_copies 1 = .ok (.istore 4, 2) := by decide +kernel
theorem dX8_copies_3 : decode cX8_copies 3 = .ok (.iload 4, 2) := by decide +kernel
theorem dX8_copies_5 : decode cX8_copies 5 = .ok (.bipush 30, 2) := by decide +kernel
theorem dX8_copies_7 : decode cX8_copies 7 = .ok (.if_icmp .ge 21, 3) := by decide +kernel
theorem dX8_copies_10 : decode cX8_copies 10 = .ok (.aload_n 2, 1) := by decide +kernel
theorem dX8_copies_11 : decode cX8_copies 11 = .ok (.iload_n 3, 1) := by decide +kernel
theorem dX8_copies_12 : decode cX8_copies 12 = .ok (.iload 4, 2) := by decide +kernel
theorem dX8_copies_14 : decode cX8_copies 14 = .ok (.iadd, 1) := by decide +kernel
theorem dX8_copies_15 : decode cX8_copies 15 = .ok (.aload_n 0, 1) := by decide +kernel
theorem dX8_copies_16 : decode cX8_copies 16 = .ok (.iload_n 1, 1) := by decide +kernel
theorem dX8_copies_17 : decode cX8_copies 17 = .ok (.iload 4, 2) := by decide +kernel
theorem dX8_copies_19 : decode cX8_copies 19 = .ok (.iadd, 1) := by decide +kernel
theorem dX8_copies_20 : decode cX8_copies 20 = .ok (.iaload, 1) := by decide +kernel
theorem dX8_copies_21 : decode cX8_copies 21 = .ok (.iastore, 1) := by decide +kernel
theorem dX8_copies_22 : decode cX8_copies 22 = .ok (.iinc 4 1, 3) := by decide +kernel
theorem dX8_copies_25 : decode cX8_copies 25 = .ok (.goto (-22), 3) := by decide +kernel
theorem dX8_copies_28 : decode cX8_copies 28 = .ok (.return_, 1) := by decide +kernel
theorem dX8_has_0 : decode cX8_has 0 = .ok (.iload_n 0, 1) := by decide +kernel
theorem dX8_has_1 : decode cX8_has 1 = .ok (.iload_n 1, 1) := by decide +kernel
theorem dX8_has_2 : decode cX8_has 2 = .ok (.ishr, 1) := by decide +kernel
theorem dX8_has_3 : decode cX8_has 3 = .ok (.iconst 1, 1) := by decide +kernel
theorem dX8_has_4 : decode cX8_has 4 = .ok (.iand, 1) := by decide +kernel
theorem dX8_has_5 : decode cX8_has 5 = .ok (.iconst 1, 1) := by decide +kernel
theorem dX8_has_6 : decode cX8_has 6 = .ok (.if_icmp .ne 7, 3) := by decide +kernel
theorem dX8_has_9 : decode cX8_has 9 = .ok (.iconst 1, 1) := by decide +kernel
theorem dX8_has_10 : decode cX8_has 10 = .ok (.goto 4, 3) := by decide +kernel
theorem dX8_has_13 : decode cX8_has 13 = .ok (.iconst 0, 1) := by decide +kernel
theorem dX8_has_14 : decode cX8_has 14 = .ok (.ireturn, 1) := by decide +kernel
theorem dX8_bits_0 : decode cX8_bits 0 = .ok (.iconst 0, 1) := by decide +kernel
theorem dX8_bits_1 : decode cX8_bits 1 = .ok (.istore_n 1, 1) := by decide +kernel
theorem dX8_bits_2 : decode cX8_bits 2 = .ok (.iload_n 0, 1) := by decide +kernel
theorem dX8_bits_3 : decode cX8_bits 3 = .ok (.istore_n 2, 1) := by decide +kernel
theorem dX8_bits_4 : decode cX8_bits 4 = .ok (.iload_n 2, 1) := by decide +kernel
theorem dX8_bits_5 : decode cX8_bits 5 = .ok (.ifCond .eq 15, 3) := by decide +kernel
theorem dX8_bits_8 : decode cX8_bits 8 = .ok (.iinc 1 1, 3) := by decide +kernel
theorem dX8_bits_11 : decode cX8_bits 11 = .ok (.iload_n 2, 1) := by decide +kernel
theorem dX8_bits_12 : decode cX8_bits 12 = .ok (.iload_n 2, 1) := by decide +kernel
theorem dX8_bits_13 : decode cX8_bits 13 = .ok (.iconst 1, 1) := by decide +kernel
theorem dX8_bits_14 : decode cX8_bits 14 = .ok (.isub, 1) := by decide +kernel
theorem dX8_bits_15 : decode cX8_bits 15 = .ok (.iand, 1) := by decide +kernel
theorem dX8_bits_16 : decode cX8_bits 16 = .ok (.istore_n 2, 1) := by decide +kernel
theorem dX8_bits_17 : decode cX8_bits 17 = .ok (.goto (-13), 3) := by decide +kernel
theorem dX8_bits_20 : decode cX8_bits 20 = .ok (.iload_n 1, 1) := by decide +kernel
theorem dX8_bits_21 : decode cX8_bits 21 = .ok (.ireturn, 1) := by decide +kernel
theorem dX8_lies_0 : decode cX8_lies 0 = .ok (.aload_n 0, 1) := by decide +kernel
theorem dX8_lies_1 : decode cX8_lies 1 = .ok (.bipush 13, 2) := by decide +kernel
theorem dX8_lies_3 : decode cX8_lies 3 = .ok (.iload_n 1, 1) := by decide +kernel
theorem dX8_lies_4 : decode cX8_lies 4 = .ok (.iadd, 1) := by decide +kernel
theorem dX8_lies_5 : decode cX8_lies 5 = .ok (.iaload, 1) := by decide +kernel
theorem dX8_lies_6 : decode cX8_lies 6 = .ok (.ifCond .le 7, 3) := by decide +kernel
theorem dX8_lies_9 : decode cX8_lies 9 = .ok (.iconst 1, 1) := by decide +kernel
theorem dX8_lies_10 : decode cX8_lies 10 = .ok (.goto 4, 3) := by decide +kernel
theorem dX8_lies_13 : decode cX8_lies 13 = .ok (.iconst 0, 1) := by decide +kernel
theorem dX8_lies_14 : decode cX8_lies 14 = .ok (.ireturn, 1) := by decide +kernel
set_option maxRecDepth 20000 in
theorem ggX8_rises_X8_lies : GoodIn wsX8_rises wsX8_lies := goodIn_r _ [4] (by decide +kernel) (by decide +kernel)
set_option maxRecDepth 20000 in
theorem gX8_rises_X8_lies : GoodIn wsX8_rises (va_wsS RX8 142 yX8_lies wsX8_lies) := goodIn_app (goodIn_of _ (by decide +kernel)) ggX8_rises_X8_lies
theorem dX8_rises_0 : decode cX8_rises 0 = .ok (.aload_n 0, 1) := by decide +kernel
theorem dX8_rises_1 : decode cX8_rises 1 = .ok (.iload_n 1, 1) := by decide +kernel
theorem dX8_rises_2 : decode cX8_rises 2 = .ok (.invokestatic 142, 3) := by decide +kernel
theorem dX8_rises_5 : decode cX8_rises 5 = .ok (.ifCond .ne 5, 3) := by decide +kernel
theorem dX8_rises_8 : decode cX8_rises 8 = .ok (.iconst 0, 1) := by decide +kernel
theorem dX8_rises_9 : decode cX8_rises 9 = .ok (.ireturn, 1) := by decide +kernel
theorem dX8_rises_10 : decode cX8_rises 10 = .ok (.aload_n 0, 1) := by decide +kernel
theorem dX8_rises_11 : decode cX8_rises 11 = .ok (.iconst 3, 1) := by decide +kernel
theorem dX8_rises_12 : decode cX8_rises 12 = .ok (.iload_n 1, 1) := by decide +kernel
theorem dX8_rises_13 : decode cX8_rises 13 = .ok (.iadd, 1) := by decide +kernel
theorem dX8_rises_14 : decode cX8_rises 14 = .ok (.iaload, 1) := by decide +kernel
theorem dX8_rises_15 : decode cX8_rises 15 = .ok (.istore_n 2, 1) := by decide +kernel
theorem dX8_rises_16 : decode cX8_rises 16 = .ok (.aload_n 0, 1) := by decide +kernel
theorem dX8_rises_17 : decode cX8_rises 17 = .ok (.bipush 28, 2) := by decide +kernel
theorem dX8_rises_19 : decode cX8_rises 19 = .ok (.iaload, 1) := by decide +kernel
theorem dX8_rises_20 : decode cX8_rises 20 = .ok (.aload_n 0, 1) := by decide +kernel
theorem dX8_rises_21 : decode cX8_rises 21 = .ok (.bipush 8, 2) := by decide +kernel
theorem dX8_rises_23 : decode cX8_rises 23 = .ok (.iload_n 1, 1) := by decide +kernel
theorem dX8_rises_24 : decode cX8_rises 24 = .ok (.iadd, 1) := by decide +kernel
theorem dX8_rises_25 : decode cX8_rises 25 = .ok (.iaload, 1) := by decide +kernel
theorem dX8_rises_26 : decode cX8_rises 26 = .ok (.irem, 1) := by decide +kernel
theorem dX8_rises_27 : decode cX8_rises 27 = .ok (.ifCond .ne 7, 3) := by decide +kernel
theorem dX8_rises_30 : decode cX8_rises 30 = .ok (.iconst 1, 1) := by decide +kernel
theorem dX8_rises_31 : decode cX8_rises 31 = .ok (.goto 4, 3) := by decide +kernel
theorem dX8_rises_34 : decode cX8_rises 34 = .ok (.iconst 0, 1) := by decide +kernel
theorem dX8_rises_35 : decode cX8_rises 35 = .ok (.istore_n 3, 1) := by decide +kernel
theorem dX8_rises_36 : decode cX8_rises 36 = .ok (.iconst 0, 1) := by decide +kernel
theorem dX8_rises_37 : decode cX8_rises 37 = .ok (.istore 4, 2) := by decide +kernel
theorem dX8_rises_39 : decode cX8_rises 39 = .ok (.iconst 0, 1) := by decide +kernel
theorem dX8_rises_40 : decode cX8_rises 40 = .ok (.istore 5, 2) := by decide +kernel
theorem dX8_rises_42 : decode cX8_rises 42 = .ok (.iload 5, 2) := by decide +kernel
theorem dX8_rises_44 : decode cX8_rises 44 = .ok (.aload_n 0, 1) := by decide +kernel
theorem dX8_rises_45 : decode cX8_rises 45 = .ok (.iconst 0, 1) := by decide +kernel
theorem dX8_rises_46 : decode cX8_rises 46 = .ok (.iaload, 1) := by decide +kernel
theorem dX8_rises_47 : decode cX8_rises 47 = .ok (.if_icmp .ge 68, 3) := by decide +kernel
theorem dX8_rises_50 : decode cX8_rises 50 = .ok (.iload 4, 2) := by decide +kernel
theorem dX8_rises_52 : decode cX8_rises 52 = .ok (.ifCond .ne 50, 3) := by decide +kernel
theorem dX8_rises_55 : decode cX8_rises 55 = .ok (.iload 5, 2) := by decide +kernel
theorem dX8_rises_57 : decode cX8_rises 57 = .ok (.iload_n 1, 1) := by decide +kernel
theorem dX8_rises_58 : decode cX8_rises 58 = .ok (.if_icmp .eq 48, 3) := by decide +kernel
theorem dX8_rises_61 : decode cX8_rises 61 = .ok (.aload_n 0, 1) := by decide +kernel
theorem dX8_rises_62 : decode cX8_rises 62 = .ok (.iload 5, 2) := by decide +kernel
theorem dX8_rises_64 : decode cX8_rises 64 = .ok (.invokestatic 142, 3) := by decide +kernel
theorem dX8_rises_67 : decode cX8_rises 67 = .ok (.ifCond .eq 39, 3) := by decide +kernel
theorem dX8_rises_70 : decode cX8_rises 70 = .ok (.aload_n 0, 1) := by decide +kernel
theorem dX8_rises_71 : decode cX8_rises 71 = .ok (.bipush 18, 2) := by decide +kernel
theorem dX8_rises_73 : decode cX8_rises 73 = .ok (.iload 5, 2) := by decide +kernel
theorem dX8_rises_75 : decode cX8_rises 75 = .ok (.iadd, 1) := by decide +kernel
theorem dX8_rises_76 : decode cX8_rises 76 = .ok (.iaload, 1) := by decide +kernel
theorem dX8_rises_77 : decode cX8_rises 77 = .ok (.aload_n 0, 1) := by decide +kernel
theorem dX8_rises_78 : decode cX8_rises 78 = .ok (.bipush 18, 2) := by decide +kernel
theorem dX8_rises_80 : decode cX8_rises 80 = .ok (.iload_n 1, 1) := by decide +kernel
theorem dX8_rises_81 : decode cX8_rises 81 = .ok (.iadd, 1) := by decide +kernel
theorem dX8_rises_82 : decode cX8_rises 82 = .ok (.iaload, 1) := by decide +kernel
theorem dX8_rises_83 : decode cX8_rises 83 = .ok (.if_icmp .ne 23, 3) := by decide +kernel
theorem dX8_rises_86 : decode cX8_rises 86 = .ok (.aload_n 0, 1) := by decide +kernel
theorem dX8_rises_87 : decode cX8_rises 87 = .ok (.bipush 13, 2) := by decide +kernel
theorem dX8_rises_89 : decode cX8_rises 89 = .ok (.iload 5, 2) := by decide +kernel
theorem dX8_rises_91 : decode cX8_rises 91 = .ok (.iadd, 1) := by decide +kernel
theorem dX8_rises_92 : decode cX8_rises 92 = .ok (.iaload, 1) := by decide +kernel
theorem dX8_rises_93 : decode cX8_rises 93 = .ok (.aload_n 0, 1) := by decide +kernel
theorem dX8_rises_94 : decode cX8_rises 94 = .ok (.bipush 13, 2) := by decide +kernel
theorem dX8_rises_96 : decode cX8_rises 96 = .ok (.iload_n 1, 1) := by decide +kernel
theorem dX8_rises_97 : decode cX8_rises 97 = .ok (.iadd, 1) := by decide +kernel
theorem dX8_rises_98 : decode cX8_rises 98 = .ok (.iaload, 1) := by decide +kernel
theorem dX8_rises_99 : decode cX8_rises 99 = .ok (.if_icmp .ge 7, 3) := by decide +kernel
theorem dX8_rises_102 : decode cX8_rises 102 = .ok (.iconst 1, 1) := by decide +kernel
theorem dX8_rises_103 : decode cX8_rises 103 = .ok (.goto 4, 3) := by decide +kernel
theorem dX8_rises_106 : decode cX8_rises 106 = .ok (.iconst 0, 1) := by decide +kernel
theorem dX8_rises_107 : decode cX8_rises 107 = .ok (.istore 4, 2) := by decide +kernel
theorem dX8_rises_109 : decode cX8_rises 109 = .ok (.iinc 5 1, 3) := by decide +kernel
theorem dX8_rises_112 : decode cX8_rises 112 = .ok (.goto (-70), 3) := by decide +kernel
theorem dX8_rises_115 : decode cX8_rises 115 = .ok (.iload_n 2, 1) := by decide +kernel
theorem dX8_rises_116 : decode cX8_rises 116 = .ok (.iconst 1, 1) := by decide +kernel
theorem dX8_rises_117 : decode cX8_rises 117 = .ok (.if_icmp .ne 7, 3) := by decide +kernel
theorem dX8_rises_120 : decode cX8_rises 120 = .ok (.iload_n 3, 1) := by decide +kernel
theorem dX8_rises_121 : decode cX8_rises 121 = .ok (.goto 56, 3) := by decide +kernel
theorem dX8_rises_124 : decode cX8_rises 124 = .ok (.iload_n 2, 1) := by decide +kernel
theorem dX8_rises_125 : decode cX8_rises 125 = .ok (.iconst 2, 1) := by decide +kernel
theorem dX8_rises_126 : decode cX8_rises 126 = .ok (.if_icmp .ne 16, 3) := by decide +kernel
theorem dX8_rises_129 : decode cX8_rises 129 = .ok (.iload 4, 2) := by decide +kernel
theorem dX8_rises_131 : decode cX8_rises 131 = .ok (.ifCond .eq 7, 3) := by decide +kernel
theorem dX8_rises_134 : decode cX8_rises 134 = .ok (.iconst 0, 1) := by decide +kernel
theorem dX8_rises_135 : decode cX8_rises 135 = .ok (.goto 42, 3) := by decide +kernel
theorem dX8_rises_138 : decode cX8_rises 138 = .ok (.iload_n 3, 1) := by decide +kernel
theorem dX8_rises_139 : decode cX8_rises 139 = .ok (.goto 38, 3) := by decide +kernel
theorem dX8_rises_142 : decode cX8_rises 142 = .ok (.iload_n 2, 1) := by decide +kernel
theorem dX8_rises_143 : decode cX8_rises 143 = .ok (.iconst 3, 1) := by decide +kernel
theorem dX8_rises_144 : decode cX8_rises 144 = .ok (.if_icmp .ne 9, 3) := by decide +kernel
theorem dX8_rises_147 : decode cX8_rises 147 = .ok (.iconst 2, 1) := by decide +kernel
theorem dX8_rises_148 : decode cX8_rises 148 = .ok (.iload_n 3, 1) := by decide +kernel
theorem dX8_rises_149 : decode cX8_rises 149 = .ok (.imul, 1) := by decide +kernel
theorem dX8_rises_150 : decode cX8_rises 150 = .ok (.goto 27, 3) := by decide +kernel
theorem dX8_rises_153 : decode cX8_rises 153 = .ok (.iload_n 2, 1) := by decide +kernel
theorem dX8_rises_154 : decode cX8_rises 154 = .ok (.iconst 4, 1) := by decide +kernel
theorem dX8_rises_155 : decode cX8_rises 155 = .ok (.if_icmp .ne 7, 3) := by decide +kernel
theorem dX8_rises_158 : decode cX8_rises 158 = .ok (.iconst 0, 1) := by decide +kernel
theorem dX8_rises_159 : decode cX8_rises 159 = .ok (.goto 18, 3) := by decide +kernel
theorem dX8_rises_162 : decode cX8_rises 162 = .ok (.aload_n 0, 1) := by decide +kernel
theorem dX8_rises_163 : decode cX8_rises 163 = .ok (.bipush 28, 2) := by decide +kernel
theorem dX8_rises_165 : decode cX8_rises 165 = .ok (.iaload, 1) := by decide +kernel
theorem dX8_rises_166 : decode cX8_rises 166 = .ok (.iconst 5, 1) := by decide +kernel
theorem dX8_rises_167 : decode cX8_rises 167 = .ok (.irem, 1) := by decide +kernel
theorem dX8_rises_168 : decode cX8_rises 168 = .ok (.iconst 4, 1) := by decide +kernel
theorem dX8_rises_169 : decode cX8_rises 169 = .ok (.if_icmp .ne 7, 3) := by decide +kernel
theorem dX8_rises_172 : decode cX8_rises 172 = .ok (.iconst 1, 1) := by decide +kernel
theorem dX8_rises_173 : decode cX8_rises 173 = .ok (.goto 4, 3) := by decide +kernel
theorem dX8_rises_176 : decode cX8_rises 176 = .ok (.iconst 0, 1) := by decide +kernel
theorem dX8_rises_177 : decode cX8_rises 177 = .ok (.istore 5, 2) := by decide +kernel
theorem dX8_rises_179 : decode cX8_rises 179 = .ok (.iload 5, 2) := by decide +kernel
theorem dX8_rises_181 : decode cX8_rises 181 = .ok (.aload_n 0, 1) := by decide +kernel
theorem dX8_rises_182 : decode cX8_rises 182 = .ok (.bipush 13, 2) := by decide +kernel
theorem dX8_rises_184 : decode cX8_rises 184 = .ok (.iload_n 1, 1) := by decide +kernel
theorem dX8_rises_185 : decode cX8_rises 185 = .ok (.iadd, 1) := by decide +kernel
theorem dX8_rises_186 : decode cX8_rises 186 = .ok (.iaload, 1) := by decide +kernel
theorem dX8_rises_187 : decode cX8_rises 187 = .ok (.if_icmp .le 12, 3) := by decide +kernel
theorem dX8_rises_190 : decode cX8_rises 190 = .ok (.aload_n 0, 1) := by decide +kernel
theorem dX8_rises_191 : decode cX8_rises 191 = .ok (.bipush 13, 2) := by decide +kernel
theorem dX8_rises_193 : decode cX8_rises 193 = .ok (.iload_n 1, 1) := by decide +kernel
theorem dX8_rises_194 : decode cX8_rises 194 = .ok (.iadd, 1) := by decide +kernel
theorem dX8_rises_195 : decode cX8_rises 195 = .ok (.iaload, 1) := by decide +kernel
theorem dX8_rises_196 : decode cX8_rises 196 = .ok (.goto 5, 3) := by decide +kernel
theorem dX8_rises_199 : decode cX8_rises 199 = .ok (.iload 5, 2) := by decide +kernel
theorem dX8_rises_201 : decode cX8_rises 201 = .ok (.ireturn, 1) := by decide +kernel
set_option maxRecDepth 20000 in
theorem ggX8_yearGoes_X8_rises : GoodIn wsX8_yearGoes wsX8_rises := goodIn_r _ [5, 6, 7, 4, 8] (by decide +kernel) (by decide +kernel)
set_option maxRecDepth 20000 in
theorem gX8_yearGoes_X8_rises : GoodIn wsX8_yearGoes (va_wsS RX8 146 yX8_rises wsX8_rises) := goodIn_app (goodIn_of _ (by decide +kernel)) ggX8_yearGoes_X8_rises
theorem dX8_yearGoes_0 : decode cX8_yearGoes 0 = .ok (.iconst 0, 1) := by decide +kernel
theorem dX8_yearGoes_1 : decode cX8_yearGoes 1 = .ok (.istore_n 2, 1) := by decide +kernel
theorem dX8_yearGoes_2 : decode cX8_yearGoes 2 = .ok (.iload_n 2, 1) := by decide +kernel
theorem dX8_yearGoes_3 : decode cX8_yearGoes 3 = .ok (.aload_n 1, 1) := by decide +kernel
theorem dX8_yearGoes_4 : decode cX8_yearGoes 4 = .ok (.iconst 0, 1) := by decide +kernel
theorem dX8_yearGoes_5 : decode cX8_yearGoes 5 = .ok (.iaload, 1) := by decide +kernel
theorem dX8_yearGoes_6 : decode cX8_yearGoes 6 = .ok (.if_icmp .ge 20, 3) := by decide +kernel
theorem dX8_yearGoes_9 : decode cX8_yearGoes 9 = .ok (.aload_n 0, 1) := by decide +kernel
theorem dX8_yearGoes_10 : decode cX8_yearGoes 10 = .ok (.getfield 44, 3) := by decide +kernel
theorem dX8_yearGoes_13 : decode cX8_yearGoes 13 = .ok (.iload_n 2, 1) := by decide +kernel
theorem dX8_yearGoes_14 : decode cX8_yearGoes 14 = .ok (.aload_n 1, 1) := by decide +kernel
theorem dX8_yearGoes_15 : decode cX8_yearGoes 15 = .ok (.iload_n 2, 1) := by decide +kernel
theorem dX8_yearGoes_16 : decode cX8_yearGoes 16 = .ok (.invokestatic 146, 3) := by decide +kernel
theorem dX8_yearGoes_19 : decode cX8_yearGoes 19 = .ok (.iastore, 1) := by decide +kernel
theorem dX8_yearGoes_20 : decode cX8_yearGoes 20 = .ok (.iinc 2 1, 3) := by decide +kernel
theorem dX8_yearGoes_23 : decode cX8_yearGoes 23 = .ok (.goto (-21), 3) := by decide +kernel
theorem dX8_yearGoes_26 : decode cX8_yearGoes 26 = .ok (.iconst 0, 1) := by decide +kernel
theorem dX8_yearGoes_27 : decode cX8_yearGoes 27 = .ok (.istore_n 2, 1) := by decide +kernel
theorem dX8_yearGoes_28 : decode cX8_yearGoes 28 = .ok (.iload_n 2, 1) := by decide +kernel
theorem dX8_yearGoes_29 : decode cX8_yearGoes 29 = .ok (.aload_n 1, 1) := by decide +kernel
theorem dX8_yearGoes_30 : decode cX8_yearGoes 30 = .ok (.iconst 0, 1) := by decide +kernel
theorem dX8_yearGoes_31 : decode cX8_yearGoes 31 = .ok (.iaload, 1) := by decide +kernel
theorem dX8_yearGoes_32 : decode cX8_yearGoes 32 = .ok (.if_icmp .ge 24, 3) := by decide +kernel
theorem dX8_yearGoes_35 : decode cX8_yearGoes 35 = .ok (.aload_n 1, 1) := by decide +kernel
theorem dX8_yearGoes_36 : decode cX8_yearGoes 36 = .ok (.bipush 13, 2) := by decide +kernel
theorem dX8_yearGoes_38 : decode cX8_yearGoes 38 = .ok (.iload_n 2, 1) := by decide +kernel
theorem dX8_yearGoes_39 : decode cX8_yearGoes 39 = .ok (.iadd, 1) := by decide +kernel
theorem dX8_yearGoes_40 : decode cX8_yearGoes 40 = .ok (.dup2, 1) := by decide +kernel
theorem dX8_yearGoes_41 : decode cX8_yearGoes 41 = .ok (.iaload, 1) := by decide +kernel
theorem dX8_yearGoes_42 : decode cX8_yearGoes 42 = .ok (.aload_n 0, 1) := by decide +kernel
theorem dX8_yearGoes_43 : decode cX8_yearGoes 43 = .ok (.getfield 44, 3) := by decide +kernel
theorem dX8_yearGoes_46 : decode cX8_yearGoes 46 = .ok (.iload_n 2, 1) := by decide +kernel
theorem dX8_yearGoes_47 : decode cX8_yearGoes 47 = .ok (.iaload, 1) := by decide +kernel
theorem dX8_yearGoes_48 : decode cX8_yearGoes 48 = .ok (.isub, 1) := by decide +kernel
theorem dX8_yearGoes_49 : decode cX8_yearGoes 49 = .ok (.iastore, 1) := by decide +kernel
theorem dX8_yearGoes_50 : decode cX8_yearGoes 50 = .ok (.iinc 2 1, 3) := by decide +kernel
theorem dX8_yearGoes_53 : decode cX8_yearGoes 53 = .ok (.goto (-25), 3) := by decide +kernel
theorem dX8_yearGoes_56 : decode cX8_yearGoes 56 = .ok (.aload_n 1, 1) := by decide +kernel
theorem dX8_yearGoes_57 : decode cX8_yearGoes 57 = .ok (.bipush 28, 2) := by decide +kernel
theorem dX8_yearGoes_59 : decode cX8_yearGoes 59 = .ok (.dup2, 1) := by decide +kernel
theorem dX8_yearGoes_60 : decode cX8_yearGoes 60 = .ok (.iaload, 1) := by decide +kernel
theorem dX8_yearGoes_61 : decode cX8_yearGoes 61 = .ok (.iconst 1, 1) := by decide +kernel
theorem dX8_yearGoes_62 : decode cX8_yearGoes 62 = .ok (.iadd, 1) := by decide +kernel
theorem dX8_yearGoes_63 : decode cX8_yearGoes 63 = .ok (.iastore, 1) := by decide +kernel
theorem dX8_yearGoes_64 : decode cX8_yearGoes 64 = .ok (.return_, 1) := by decide +kernel
set_option maxRecDepth 20000 in
theorem ggX8_upOf_X8_lies : GoodIn wsX8_upOf wsX8_lies := goodIn_r _ [4] (by decide +kernel) (by decide +kernel)
set_option maxRecDepth 20000 in
theorem gX8_upOf_X8_lies : GoodIn wsX8_upOf (va_wsS RX8 142 yX8_lies wsX8_lies) := goodIn_app (goodIn_of _ (by decide +kernel)) ggX8_upOf_X8_lies
theorem dX8_upOf_0 : decode cX8_upOf 0 = .ok (.iconst 0, 1) := by decide +kernel
theorem dX8_upOf_1 : decode cX8_upOf 1 = .ok (.istore_n 1, 1) := by decide +kernel
theorem dX8_upOf_2 : decode cX8_upOf 2 = .ok (.iconst 0, 1) := by decide +kernel
theorem dX8_upOf_3 : decode cX8_upOf 3 = .ok (.istore_n 2, 1) := by decide +kernel
theorem dX8_upOf_4 : decode cX8_upOf 4 = .ok (.iload_n 2, 1) := by decide +kernel
theorem dX8_upOf_5 : decode cX8_upOf 5 = .ok (.aload_n 0, 1) := by decide +kernel
theorem dX8_upOf_6 : decode cX8_upOf 6 = .ok (.iconst 0, 1) := by decide +kernel
theorem dX8_upOf_7 : decode cX8_upOf 7 = .ok (.iaload, 1) := by decide +kernel
theorem dX8_upOf_8 : decode cX8_upOf 8 = .ok (.if_icmp .ge 27, 3) := by decide +kernel
theorem dX8_upOf_11 : decode cX8_upOf 11 = .ok (.iload_n 1, 1) := by decide +kernel
theorem dX8_upOf_12 : decode cX8_upOf 12 = .ok (.aload_n 0, 1) := by decide +kernel
theorem dX8_upOf_13 : decode cX8_upOf 13 = .ok (.iload_n 2, 1) := by decide +kernel
theorem dX8_upOf_14 : decode cX8_upOf 14 = .ok (.invokestatic 142, 3) := by decide +kernel
theorem dX8_upOf_17 : decode cX8_upOf 17 = .ok (.ifCond .eq 7, 3) := by decide +kernel
theorem dX8_upOf_20 : decode cX8_upOf 20 = .ok (.iconst 0, 1) := by decide +kernel
theorem dX8_upOf_21 : decode cX8_upOf 21 = .ok (.goto 6, 3) := by decide +kernel
theorem dX8_upOf_24 : decode cX8_upOf 24 = .ok (.iconst 1, 1) := by decide +kernel
theorem dX8_upOf_25 : decode cX8_upOf 25 = .ok (.iload_n 2, 1) := by decide +kernel
theorem dX8_upOf_26 : decode cX8_upOf 26 = .ok (.ishl, 1) := by decide +kernel
theorem dX8_upOf_27 : decode cX8_upOf 27 = .ok (.ior, 1) := by decide +kernel
theorem dX8_upOf_28 : decode cX8_upOf 28 = .ok (.istore_n 1, 1) := by decide +kernel
theorem dX8_upOf_29 : decode cX8_upOf 29 = .ok (.iinc 2 1, 3) := by decide +kernel
theorem dX8_upOf_32 : decode cX8_upOf 32 = .ok (.goto (-28), 3) := by decide +kernel
theorem dX8_upOf_35 : decode cX8_upOf 35 = .ok (.iload_n 1, 1) := by decide +kernel
theorem dX8_upOf_36 : decode cX8_upOf 36 = .ok (.ireturn, 1) := by decide +kernel
theorem dX8_abs_0 : decode cX8_abs 0 = .ok (.iload_n 0, 1) := by decide +kernel
theorem dX8_abs_1 : decode cX8_abs 1 = .ok (.ifCond .ge 8, 3) := by decide +kernel
theorem dX8_abs_4 : decode cX8_abs 4 = .ok (.iload_n 0, 1) := by decide +kernel
theorem dX8_abs_5 : decode cX8_abs 5 = .ok (.ineg, 1) := by decide +kernel
theorem dX8_abs_6 : decode cX8_abs 6 = .ok (.goto 4, 3) := by decide +kernel
theorem dX8_abs_9 : decode cX8_abs 9 = .ok (.iload_n 0, 1) := by decide +kernel
theorem dX8_abs_10 : decode cX8_abs 10 = .ok (.ireturn, 1) := by decide +kernel
set_option maxRecDepth 20000 in
theorem ggX8_tooNear_X8_lies : GoodIn wsX8_tooNear wsX8_lies := goodIn_r _ [4] (by decide +kernel) (by decide +kernel)
set_option maxRecDepth 20000 in
theorem gX8_tooNear_X8_lies : GoodIn wsX8_tooNear (va_wsS RX8 142 yX8_lies wsX8_lies) := goodIn_app (goodIn_of _ (by decide +kernel)) ggX8_tooNear_X8_lies
set_option maxRecDepth 20000 in
theorem ggX8_tooNear_X8_abs : GoodIn wsX8_tooNear wsX8_abs := goodIn_r _ [7] (by decide +kernel) (by decide +kernel)
set_option maxRecDepth 20000 in
theorem gX8_tooNear_X8_abs : GoodIn wsX8_tooNear (va_wsS RX8 150 yX8_abs wsX8_abs) := goodIn_app (goodIn_of _ (by decide +kernel)) ggX8_tooNear_X8_abs
theorem dX8_tooNear_0 : decode cX8_tooNear 0 = .ok (.iload_n 1, 1) := by decide +kernel
theorem dX8_tooNear_1 : decode cX8_tooNear 1 = .ok (.iload_n 2, 1) := by decide +kernel
theorem dX8_tooNear_2 : decode cX8_tooNear 2 = .ok (.if_icmp .eq 65, 3) := by decide +kernel
theorem dX8_tooNear_5 : decode cX8_tooNear 5 = .ok (.aload_n 0, 1) := by decide +kernel
theorem dX8_tooNear_6 : decode cX8_tooNear 6 = .ok (.iload_n 1, 1) := by decide +kernel
theorem dX8_tooNear_7 : decode cX8_tooNear 7 = .ok (.invokestatic 142, 3) := by decide +kernel
theorem dX8_tooNear_10 : decode cX8_tooNear 10 = .ok (.ifCond .eq 57, 3) := by decide +kernel
theorem dX8_tooNear_13 : decode cX8_tooNear 13 = .ok (.aload_n 0, 1) := by decide +kernel
theorem dX8_tooNear_14 : decode cX8_tooNear 14 = .ok (.iload_n 2, 1) := by decide +kernel
theorem dX8_tooNear_15 : decode cX8_tooNear 15 = .ok (.invokestatic 142, 3) := by decide +kernel
theorem dX8_tooNear_18 : decode cX8_tooNear 18 = .ok (.ifCond .eq 49, 3) := by decide +kernel
theorem dX8_tooNear_21 : decode cX8_tooNear 21 = .ok (.aload_n 0, 1) := by decide +kernel
theorem dX8_tooNear_22 : decode cX8_tooNear 22 = .ok (.bipush 18, 2) := by decide +kernel
theorem dX8_tooNear_24 : decode cX8_tooNear 24 = .ok (.iload_n 1, 1) := by decide +kernel
theorem dX8_tooNear_25 : decode cX8_tooNear 25 = .ok (.iadd, 1) := by decide +kernel
theorem dX8_tooNear_26 : decode cX8_tooNear 26 = .ok (.iaload, 1) := by decide +kernel
theorem dX8_tooNear_27 : decode cX8_tooNear 27 = .ok (.aload_n 0, 1) := by decide +kernel
theorem dX8_tooNear_28 : decode cX8_tooNear 28 = .ok (.bipush 18, 2) := by decide +kernel
theorem dX8_tooNear_30 : decode cX8_tooNear 30 = .ok (.iload_n 2, 1) := by decide +kernel
theorem dX8_tooNear_31 : decode cX8_tooNear 31 = .ok (.iadd, 1) := by decide +kernel
theorem dX8_tooNear_32 : decode cX8_tooNear 32 = .ok (.iaload, 1) := by decide +kernel
theorem dX8_tooNear_33 : decode cX8_tooNear 33 = .ok (.isub, 1) := by decide +kernel
theorem dX8_tooNear_34 : decode cX8_tooNear 34 = .ok (.invokestatic 150, 3) := by decide +kernel
theorem dX8_tooNear_37 : decode cX8_tooNear 37 = .ok (.iconst 2, 1) := by decide +kernel
theorem dX8_tooNear_38 : decode cX8_tooNear 38 = .ok (.if_icmp .ge 29, 3) := by decide +kernel
theorem dX8_tooNear_41 : decode cX8_tooNear 41 = .ok (.aload_n 0, 1) := by decide +kernel
theorem dX8_tooNear_42 : decode cX8_tooNear 42 = .ok (.bipush 13, 2) := by decide +kernel
theorem dX8_tooNear_44 : decode cX8_tooNear 44 = .ok (.iload_n 1, 1) := by decide +kernel
theorem dX8_tooNear_45 : decode cX8_tooNear 45 = .ok (.iadd, 1) := by decide +kernel
theorem dX8_tooNear_46 : decode cX8_tooNear 46 = .ok (.iaload, 1) := by decide +kernel
theorem dX8_tooNear_47 : decode cX8_tooNear 47 = .ok (.aload_n 0, 1) := by decide +kernel
theorem dX8_tooNear_48 : decode cX8_tooNear 48 = .ok (.bipush 13, 2) := by decide +kernel
theorem dX8_tooNear_50 : decode cX8_tooNear 50 = .ok (.iload_n 2, 1) := by decide +kernel
theorem dX8_tooNear_51 : decode cX8_tooNear 51 = .ok (.iadd, 1) := by decide +kernel
theorem dX8_tooNear_52 : decode cX8_tooNear 52 = .ok (.iaload, 1) := by decide +kernel
theorem dX8_tooNear_53 : decode cX8_tooNear 53 = .ok (.isub, 1) := by decide +kernel
theorem dX8_tooNear_54 : decode cX8_tooNear 54 = .ok (.invokestatic 150, 3) := by decide +kernel
theorem dX8_tooNear_57 : decode cX8_tooNear 57 = .ok (.aload_n 0, 1) := by decide +kernel
theorem dX8_tooNear_58 : decode cX8_tooNear 58 = .ok (.iconst 1, 1) := by decide +kernel
theorem dX8_tooNear_59 : decode cX8_tooNear 59 = .ok (.iaload, 1) := by decide +kernel
theorem dX8_tooNear_60 : decode cX8_tooNear 60 = .ok (.if_icmp .gt 7, 3) := by decide +kernel
theorem dX8_tooNear_63 : decode cX8_tooNear 63 = .ok (.iconst 1, 1) := by decide +kernel
theorem dX8_tooNear_64 : decode cX8_tooNear 64 = .ok (.goto 4, 3) := by decide +kernel
theorem dX8_tooNear_67 : decode cX8_tooNear 67 = .ok (.iconst 0, 1) := by decide +kernel
theorem dX8_tooNear_68 : decode cX8_tooNear 68 = .ok (.ireturn, 1) := by decide +kernel
set_option maxRecDepth 20000 in
theorem ggX8_nearTo_X8_tooNear : GoodIn wsX8_nearTo wsX8_tooNear := goodIn_r _ [4, 5, 6, 3, 7, 8, 9, 10] (by decide +kernel) (by decide +kernel)
set_option maxRecDepth 20000 in
theorem gX8_nearTo_X8_tooNear : GoodIn wsX8_nearTo (va_wsS RX8 153 yX8_tooNear wsX8_tooNear) := goodIn_app (goodIn_of _ (by decide +kernel)) ggX8_nearTo_X8_tooNear
theorem dX8_nearTo_0 : decode cX8_nearTo 0 = .ok (.iconst 0, 1) := by decide +kernel
theorem dX8_nearTo_1 : decode cX8_nearTo 1 = .ok (.istore_n 2, 1) := by decide +kernel
theorem dX8_nearTo_2 : decode cX8_nearTo 2 = .ok (.iconst 0, 1) := by decide +kernel
theorem dX8_nearTo_3 : decode cX8_nearTo 3 = .ok (.istore_n 3, 1) := by decide +kernel
theorem dX8_nearTo_4 : decode cX8_nearTo 4 = .ok (.iload_n 3, 1) := by decide +kernel
theorem dX8_nearTo_5 : decode cX8_nearTo 5 = .ok (.aload_n 0, 1) := by decide +kernel
theorem dX8_nearTo_6 : decode cX8_nearTo 6 = .ok (.iconst 0, 1) := by decide +kernel
theorem dX8_nearTo_7 : decode cX8_nearTo 7 = .ok (.iaload, 1) := by decide +kernel
theorem dX8_nearTo_8 : decode cX8_nearTo 8 = .ok (.if_icmp .ge 28, 3) := by decide +kernel
theorem dX8_nearTo_11 : decode cX8_nearTo 11 = .ok (.iload_n 2, 1) := by decide +kernel
theorem dX8_nearTo_12 : decode cX8_nearTo 12 = .ok (.aload_n 0, 1) := by decide +kernel
theorem dX8_nearTo_13 : decode cX8_nearTo 13 = .ok (.iload_n 1, 1) := by decide +kernel
theorem dX8_nearTo_14 : decode cX8_nearTo 14 = .ok (.iload_n 3, 1) := by decide +kernel
theorem dX8_nearTo_15 : decode cX8_nearTo 15 = .ok (.invokestatic 153, 3) := by decide +kernel
theorem dX8_nearTo_18 : decode cX8_nearTo 18 = .ok (.ifCond .eq 9, 3) := by decide +kernel
theorem dX8_nearTo_21 : decode cX8_nearTo 21 = .ok (.iconst 1, 1) := by decide +kernel
theorem dX8_nearTo_22 : decode cX8_nearTo 22 = .ok (.iload_n 3, 1) := by decide +kernel
theorem dX8_nearTo_23 : decode cX8_nearTo 23 = .ok (.ishl, 1) := by decide +kernel
theorem dX8_nearTo_24 : decode cX8_nearTo 24 = .ok (.goto 4, 3) := by decide +kernel
theorem dX8_nearTo_27 : decode cX8_nearTo 27 = .ok (.iconst 0, 1) := by decide +kernel
theorem dX8_nearTo_28 : decode cX8_nearTo 28 = .ok (.ior, 1) := by decide +kernel
theorem dX8_nearTo_29 : decode cX8_nearTo 29 = .ok (.istore_n 2, 1) := by decide +kernel
theorem dX8_nearTo_30 : decode cX8_nearTo 30 = .ok (.iinc 3 1, 3) := by decide +kernel
theorem dX8_nearTo_33 : decode cX8_nearTo 33 = .ok (.goto (-29), 3) := by decide +kernel
theorem dX8_nearTo_36 : decode cX8_nearTo 36 = .ok (.iload_n 2, 1) := by decide +kernel
theorem dX8_nearTo_37 : decode cX8_nearTo 37 = .ok (.ireturn, 1) := by decide +kernel
set_option maxRecDepth 20000 in
theorem ggX8_twoOf_X8_tooNear : GoodIn wsX8_twoOf wsX8_tooNear := goodIn_r _ [5, 6, 7, 4, 8, 9, 10, 11] (by decide +kernel) (by decide +kernel)
set_option maxRecDepth 20000 in
theorem gX8_twoOf_X8_tooNear : GoodIn wsX8_twoOf (va_wsS RX8 153 yX8_tooNear wsX8_tooNear) := goodIn_app (goodIn_of _ (by decide +kernel)) ggX8_twoOf_X8_tooNear
theorem dX8_twoOf_0 : decode cX8_twoOf 0 = .ok (.iconst 0, 1) := by decide +kernel
theorem dX8_twoOf_1 : decode cX8_twoOf 1 = .ok (.istore_n 1, 1) := by decide +kernel
theorem dX8_twoOf_2 : decode cX8_twoOf 2 = .ok (.iload_n 1, 1) := by decide +kernel
theorem dX8_twoOf_3 : decode cX8_twoOf 3 = .ok (.aload_n 0, 1) := by decide +kernel
theorem dX8_twoOf_4 : decode cX8_twoOf 4 = .ok (.iconst 0, 1) := by decide +kernel
theorem dX8_twoOf_5 : decode cX8_twoOf 5 = .ok (.iaload, 1) := by decide +kernel
theorem dX8_twoOf_6 : decode cX8_twoOf 6 = .ok (.if_icmp .ge 42, 3) := by decide +kernel
theorem dX8_twoOf_9 : decode cX8_twoOf 9 = .ok (.iload_n 1, 1) := by decide +kernel
theorem dX8_twoOf_10 : decode cX8_twoOf 10 = .ok (.iconst 1, 1) := by decide +kernel
theorem dX8_twoOf_11 : decode cX8_twoOf 11 = .ok (.iadd, 1) := by decide +kernel
theorem dX8_twoOf_12 : decode cX8_twoOf 12 = .ok (.istore_n 2, 1) := by decide +kernel
theorem dX8_twoOf_13 : decode cX8_twoOf 13 = .ok (.iload_n 2, 1) := by decide +kernel
theorem dX8_twoOf_14 : decode cX8_twoOf 14 = .ok (.aload_n 0, 1) := by decide +kernel
theorem dX8_twoOf_15 : decode cX8_twoOf 15 = .ok (.iconst 0, 1) := by decide +kernel
theorem dX8_twoOf_16 : decode cX8_twoOf 16 = .ok (.iaload, 1) := by decide +kernel
theorem dX8_twoOf_17 : decode cX8_twoOf 17 = .ok (.if_icmp .ge 25, 3) := by decide +kernel
theorem dX8_twoOf_20 : decode cX8_twoOf 20 = .ok (.aload_n 0, 1) := by decide +kernel
theorem dX8_twoOf_21 : decode cX8_twoOf 21 = .ok (.iload_n 1, 1) := by decide +kernel
theorem dX8_twoOf_22 : decode cX8_twoOf 22 = .ok (.iload_n 2, 1) := by decide +kernel
theorem dX8_twoOf_23 : decode cX8_twoOf 23 = .ok (.invokestatic 153, 3) := by decide +kernel
theorem dX8_twoOf_26 : decode cX8_twoOf 26 = .ok (.ifCond .eq 10, 3) := by decide +kernel
theorem dX8_twoOf_29 : decode cX8_twoOf 29 = .ok (.bipush 10, 2) := by decide +kernel
theorem dX8_twoOf_31 : decode cX8_twoOf 31 = .ok (.iload_n 1, 1) := by decide +kernel
theorem dX8_twoOf_32 : decode cX8_twoOf 32 = .ok (.imul, 1) := by decide +kernel
theorem dX8_twoOf_33 : decode cX8_twoOf 33 = .ok (.iload_n 2, 1) := by decide +kernel
theorem dX8_twoOf_34 : decode cX8_twoOf 34 = .ok (.iadd, 1) := by decide +kernel
theorem dX8_twoOf_35 : decode cX8_twoOf 35 = .ok (.ireturn, 1) := by decide +kernel
theorem dX8_twoOf_36 : decode cX8_twoOf 36 = .ok (.iinc 2 1, 3) := by decide +kernel
theorem dX8_twoOf_39 : decode cX8_twoOf 39 = .ok (.goto (-26), 3) := by decide +kernel
theorem dX8_twoOf_42 : decode cX8_twoOf 42 = .ok (.iinc 1 1, 3) := by decide +kernel
theorem dX8_twoOf_45 : decode cX8_twoOf 45 = .ok (.goto (-43), 3) := by decide +kernel
theorem dX8_twoOf_48 : decode cX8_twoOf 48 = .ok (.ldc 157, 2) := by decide +kernel
theorem dX8_twoOf_50 : decode cX8_twoOf 50 = .ok (.ireturn, 1) := by decide +kernel
theorem dX8_isMine_0 : decode cX8_isMine 0 = .ok (.aload_n 0, 1) := by decide +kernel
theorem dX8_isMine_1 : decode cX8_isMine 1 = .ok (.getfield 19, 3) := by decide +kernel
theorem dX8_isMine_4 : decode cX8_isMine 4 = .ok (.iconst 2, 1) := by decide +kernel
theorem dX8_isMine_5 : decode cX8_isMine 5 = .ok (.iaload, 1) := by decide +kernel
theorem dX8_isMine_6 : decode cX8_isMine 6 = .ok (.ifCond .le 7, 3) := by decide +kernel
theorem dX8_isMine_9 : decode cX8_isMine 9 = .ok (.iconst 1, 1) := by decide +kernel
theorem dX8_isMine_10 : decode cX8_isMine 10 = .ok (.goto 4, 3) := by decide +kernel
theorem dX8_isMine_13 : decode cX8_isMine 13 = .ok (.iconst 0, 1) := by decide +kernel
theorem dX8_isMine_14 : decode cX8_isMine 14 = .ok (.ireturn, 1) := by decide +kernel
set_option maxRecDepth 20000 in
theorem ggX8_isThing_X8_in : GoodIn wsX8_isThing wsX8_in := goodIn_r _ [5] (by decide +kernel) (by decide +kernel)
set_option maxRecDepth 20000 in
theorem gX8_isThing_X8_in : GoodIn wsX8_isThing (va_wsS RX8 60 yX8_in wsX8_in) := goodIn_app (goodIn_of _ (by decide +kernel)) ggX8_isThing_X8_in
theorem dX8_isThing_0 : decode cX8_isThing 0 = .ok (.iload_n 1, 1) := by decide +kernel
theorem dX8_isThing_1 : decode cX8_isThing 1 = .ok (.i2l, 1) := by decide +kernel
theorem dX8_isThing_2 : decode cX8_isThing 2 = .ok (.lconst 0, 1) := by decide +kernel
theorem dX8_isThing_3 : decode cX8_isThing 3 = .ok (.aload_n 0, 1) := by decide +kernel
theorem dX8_isThing_4 : decode cX8_isThing 4 = .ok (.getfield 19, 3) := by decide +kernel
theorem dX8_isThing_7 : decode cX8_isThing 7 = .ok (.iconst 0, 1) := by decide +kernel
theorem dX8_isThing_8 : decode cX8_isThing 8 = .ok (.iaload, 1) := by decide +kernel
theorem dX8_isThing_9 : decode cX8_isThing 9 = .ok (.iconst 1, 1) := by decide +kernel
theorem dX8_isThing_10 : decode cX8_isThing 10 = .ok (.isub, 1) := by decide +kernel
theorem dX8_isThing_11 : decode cX8_isThing 11 = .ok (.i2l, 1) := by decide +kernel
theorem dX8_isThing_12 : decode cX8_isThing 12 = .ok (.invokestatic 60, 3) := by decide +kernel
theorem dX8_isThing_15 : decode cX8_isThing 15 = .ok (.ireturn, 1) := by decide +kernel
set_option maxRecDepth 20000 in
theorem ggX8_isTwo_X8_in : GoodIn wsX8_isTwo wsX8_in := goodIn_r _ [4] (by decide +kernel) (by decide +kernel)
set_option maxRecDepth 20000 in
theorem gX8_isTwo_X8_in : GoodIn wsX8_isTwo (va_wsS RX8 60 yX8_in wsX8_in) := goodIn_app (goodIn_of _ (by decide +kernel)) ggX8_isTwo_X8_in
theorem dX8_isTwo_0 : decode cX8_isTwo 0 = .ok (.iload_n 0, 1) := by decide +kernel
theorem dX8_isTwo_1 : decode cX8_isTwo 1 = .ok (.i2l, 1) := by decide +kernel
theorem dX8_isTwo_2 : decode cX8_isTwo 2 = .ok (.lconst 0, 1) := by decide +kernel
theorem dX8_isTwo_3 : decode cX8_isTwo 3 = .ok (.lconst 1, 1) := by decide +kernel
theorem dX8_isTwo_4 : decode cX8_isTwo 4 = .ok (.invokestatic 60, 3) := by decide +kernel
theorem dX8_isTwo_7 : decode cX8_isTwo 7 = .ok (.ireturn, 1) := by decide +kernel
set_option maxRecDepth 20000 in
theorem ggX8_isSpan_X8_in : GoodIn wsX8_isSpan wsX8_in := goodIn_r _ [5] (by decide +kernel) (by decide +kernel)
set_option maxRecDepth 20000 in
theorem gX8_isSpan_X8_in : GoodIn wsX8_isSpan (va_wsS RX8 60 yX8_in wsX8_in) := goodIn_app (goodIn_of _ (by decide +kernel)) ggX8_isSpan_X8_in
theorem dX8_isSpan_0 : decode cX8_isSpan 0 = .ok (.iload_n 0, 1) := by decide +kernel
theorem dX8_isSpan_1 : decode cX8_isSpan 1 = .ok (.i2l, 1) := by decide +kernel
theorem dX8_isSpan_2 : decode cX8_isSpan 2 = .ok (.lconst 0, 1) := by decide +kernel
theorem dX8_isSpan_3 : decode cX8_isSpan 3 = .ok (.ldc2_w 158, 3) := by decide +kernel
theorem dX8_isSpan_6 : decode cX8_isSpan 6 = .ok (.invokestatic 60, 3) := by decide +kernel
theorem dX8_isSpan_9 : decode cX8_isSpan 9 = .ok (.ireturn, 1) := by decide +kernel
set_option maxRecDepth 20000 in
theorem ggX8_remember_X8_copies : GoodIn wsX8_remember wsX8_copies := goodIn_r _ [7] (by decide +kernel) (by decide +kernel)
set_option maxRecDepth 20000 in
theorem gX8_remember_X8_copies : GoodIn wsX8_remember (va_wsS RX8 135 yX8_copies wsX8_copies) := goodIn_app (goodIn_of _ (by decide +kernel)) ggX8_remember_X8_copies
theorem dX8_remember_0 : decode cX8_remember 0 = .ok (.aload_n 0, 1) := by decide +kernel
theorem dX8_remember_1 : decode cX8_remember 1 = .ok (.getfield 139, 3) := by decide +kernel
theorem dX8_remember_4 : decode cX8_remember 4 = .ok (.bipush 24, 2) := by decide +kernel
theorem dX8_remember_6 : decode cX8_remember 6 = .ok (.if_icmp .ne 43, 3) := by decide +kernel
theorem dX8_remember_9 : decode cX8_remember 9 = .ok (.iconst 0, 1) := by decide +kernel
theorem dX8_remember_10 : decode cX8_remember 10 = .ok (.istore_n 1, 1) := by decide +kernel
theorem dX8_remember_11 : decode cX8_remember 11 = .ok (.iload_n 1, 1) := by decide +kernel
theorem dX8_remember_12 : decode cX8_remember 12 = .ok (.sipush 690, 3) := by decide +kernel
theorem dX8_remember_15 : decode cX8_remember 15 = .ok (.if_icmp .ge 24, 3) := by decide +kernel
theorem dX8_remember_18 : decode cX8_remember 18 = .ok (.aload_n 0, 1) := by decide +kernel
theorem dX8_remember_19 : decode cX8_remember 19 = .ok (.getfield 28, 3) := by decide +kernel
theorem dX8_remember_22 : decode cX8_remember 22 = .ok (.iload_n 1, 1) := by decide +kernel
theorem dX8_remember_23 : decode cX8_remember 23 = .ok (.aload_n 0, 1) := by decide +kernel
theorem dX8_remember_24 : decode cX8_remember 24 = .ok (.getfield 28, 3) := by decide +kernel
theorem dX8_remember_27 : decode cX8_remember 27 = .ok (.iload_n 1, 1) := by decide +kernel
theorem dX8_remember_28 : decode cX8_remember 28 = .ok (.bipush 30, 2) := by decide +kernel
theorem dX8_remember_30 : decode cX8_remember 30 = .ok (.iadd, 1) := by decide +kernel
theorem dX8_remember_31 : decode cX8_remember 31 = .ok (.iaload, 1) := by decide +kernel
theorem dX8_remember_32 : decode cX8_remember 32 = .ok (.iastore, 1) := by decide +kernel
theorem dX8_remember_33 : decode cX8_remember 33 = .ok (.iinc 1 1, 3) := by decide +kernel
theorem dX8_remember_36 : decode cX8_remember 36 = .ok (.goto (-25), 3) := by decide +kernel
theorem dX8_remember_39 : decode cX8_remember 39 = .ok (.aload_n 0, 1) := by decide +kernel
theorem dX8_remember_40 : decode cX8_remember 40 = .ok (.dup, 1) := by decide +kernel
theorem dX8_remember_41 : decode cX8_remember 41 = .ok (.getfield 139, 3) := by decide +kernel
theorem dX8_remember_44 : decode cX8_remember 44 = .ok (.iconst 1, 1) := by decide +kernel
theorem dX8_remember_45 : decode cX8_remember 45 = .ok (.isub, 1) := by decide +kernel
theorem dX8_remember_46 : decode cX8_remember 46 = .ok (.putfield 139, 3) := by decide +kernel
theorem dX8_remember_49 : decode cX8_remember 49 = .ok (.aload_n 0, 1) := by decide +kernel
theorem dX8_remember_50 : decode cX8_remember 50 = .ok (.getfield 19, 3) := by decide +kernel
theorem dX8_remember_53 : decode cX8_remember 53 = .ok (.iconst 0, 1) := by decide +kernel
theorem dX8_remember_54 : decode cX8_remember 54 = .ok (.aload_n 0, 1) := by decide +kernel
theorem dX8_remember_55 : decode cX8_remember 55 = .ok (.getfield 28, 3) := by decide +kernel
theorem dX8_remember_58 : decode cX8_remember 58 = .ok (.bipush 30, 2) := by decide +kernel
theorem dX8_remember_60 : decode cX8_remember 60 = .ok (.aload_n 0, 1) := by decide +kernel
theorem dX8_remember_61 : decode cX8_remember 61 = .ok (.getfield 139, 3) := by decide +kernel
theorem dX8_remember_64 : decode cX8_remember 64 = .ok (.imul, 1) := by decide +kernel
theorem dX8_remember_65 : decode cX8_remember 65 = .ok (.invokestatic 135, 3) := by decide +kernel
theorem dX8_remember_68 : decode cX8_remember 68 = .ok (.aload_n 0, 1) := by decide +kernel
theorem dX8_remember_69 : decode cX8_remember 69 = .ok (.dup, 1) := by decide +kernel
theorem dX8_remember_70 : decode cX8_remember 70 = .ok (.getfield 139, 3) := by decide +kernel
theorem dX8_remember_73 : decode cX8_remember 73 = .ok (.iconst 1, 1) := by decide +kernel
theorem dX8_remember_74 : decode cX8_remember 74 = .ok (.iadd, 1) := by decide +kernel
theorem dX8_remember_75 : decode cX8_remember 75 = .ok (.putfield 139, 3) := by decide +kernel
theorem dX8_remember_78 : decode cX8_remember 78 = .ok (.return_, 1) := by decide +kernel
set_option maxRecDepth 20000 in
theorem ggX8_years_X8_isMine : GoodIn wsX8_years wsX8_isMine := goodIn_r _ [10, 4, 37, 38, 39, 40, 41, 42, 43, 44, 45, 46, 47, 48, 49, 50, 51, 52, 53, 54, 55, 56, 57, 58, 59, 60] (by decide +kernel) (by decide +kernel)
set_option maxRecDepth 20000 in
theorem gX8_years_X8_isMine : GoodIn wsX8_years (wsV RX8 160 RX8 yX8_isMine wsX8_isMine) := goodIn_app (goodIn_of _ (by decide +kernel)) ggX8_years_X8_isMine
set_option maxRecDepth 20000 in
theorem ggX8_years_X8_in : GoodIn wsX8_years wsX8_in := goodIn_r _ [13] (by decide +kernel) (by decide +kernel)
set_option maxRecDepth 20000 in
theorem gX8_years_X8_in : GoodIn wsX8_years (va_wsS RX8 60 yX8_in wsX8_in) := goodIn_app (goodIn_of _ (by decide +kernel)) ggX8_years_X8_in
set_option maxRecDepth 20000 in
theorem ggX8_years_X8_remember : GoodIn wsX8_years wsX8_remember := goodIn_r _ [17, 18, 19, 4, 20, 21, 9, 22, 37, 38, 39, 40, 41, 42, 43, 44, 45, 46, 47, 48, 49, 50, 51, 52, 53, 54, 55, 56, 57, 58, 59, 60] (by decide +kernel) (by decide +kernel)
set_option maxRecDepth 20000 in
theorem gX8_years_X8_remember : GoodIn wsX8_years (wsV RX8 166 RX8 yX8_remember wsX8_remember) := goodIn_app (goodIn_of _ (by decide +kernel)) ggX8_years_X8_remember
set_option maxRecDepth 20000 in
theorem ggX8_years_X8_yearGoes : GoodIn wsX8_years wsX8_yearGoes := goodIn_r _ [26, 27, 28, 29, 9, 30, 31, 32, 33, 37, 38, 39, 40, 41, 42, 43, 44, 45, 46, 47, 48, 49, 50, 51, 52, 53, 54, 55, 56, 57, 58, 59, 60] (by decide +kernel) (by decide +kernel)
set_option maxRecDepth 20000 in
theorem gX8_years_X8_yearGoes : GoodIn wsX8_years (wsV RX8 169 RX8 yX8_yearGoes wsX8_yearGoes) := goodIn_app (goodIn_of _ (by decide +kernel)) ggX8_years_X8_yearGoes
set_option maxRecDepth 20000 in
theorem ggX8_years_X8_upOf : GoodIn wsX8_years wsX8_upOf := goodIn_r _ [36, 31, 32, 9, 33] (by decide +kernel) (by decide +kernel)
set_option maxRecDepth 20000 in
theorem gX8_years_X8_upOf : GoodIn wsX8_years (va_wsS RX8 173 yX8_upOf wsX8_upOf) := goodIn_app (goodIn_of _ (by decide +kernel)) ggX8_years_X8_upOf
theorem dX8_years_0 : decode cX8_years 0 = .ok (.aload_n 0, 1) := by decide +kernel
theorem dX8_years_1 : decode cX8_years 1 = .ok (.invokevirtual 160, 3) := by decide +kernel
theorem dX8_years_4 : decode cX8_years 4 = .ok (.ifCond .ne 6, 3) := by decide +kernel
theorem dX8_years_7 : decode cX8_years 7 = .ok (.ldc 163, 2) := by decide +kernel
theorem dX8_years_9 : decode cX8_years 9 = .ok (.ireturn, 1) := by decide +kernel
theorem dX8_years_10 : decode cX8_years 10 = .ok (.iload_n 1, 1) := by decide +kernel
theorem dX8_years_11 : decode cX8_years 11 = .ok (.i2l, 1) := by decide +kernel
theorem dX8_years_12 : decode cX8_years 12 = .ok (.lconst 1, 1) := by decide +kernel
theorem dX8_years_13 : decode cX8_years 13 = .ok (.ldc2_w 164, 3) := by decide +kernel
theorem dX8_years_16 : decode cX8_years 16 = .ok (.invokestatic 60, 3) := by decide +kernel
theorem dX8_years_19 : decode cX8_years 19 = .ok (.ifCond .ne 6, 3) := by decide +kernel
theorem dX8_years_22 : decode cX8_years 22 = .ok (.ldc 70, 2) := by decide +kernel
theorem dX8_years_24 : decode cX8_years 24 = .ok (.ireturn, 1) := by decide +kernel
theorem dX8_years_25 : decode cX8_years 25 = .ok (.aload_n 0, 1) := by decide +kernel
theorem dX8_years_26 : decode cX8_years 26 = .ok (.getfield 19, 3) := by decide +kernel
theorem dX8_years_29 : decode cX8_years 29 = .ok (.bipush 28, 2) := by decide +kernel
theorem dX8_years_31 : decode cX8_years 31 = .ok (.iaload, 1) := by decide +kernel
theorem dX8_years_32 : decode cX8_years 32 = .ok (.iload_n 1, 1) := by decide +kernel
theorem dX8_years_33 : decode cX8_years 33 = .ok (.iadd, 1) := by decide +kernel
theorem dX8_years_34 : decode cX8_years 34 = .ok (.sipush 999, 3) := by decide +kernel
theorem dX8_years_37 : decode cX8_years 37 = .ok (.if_icmp .le 6, 3) := by decide +kernel
theorem dX8_years_40 : decode cX8_years 40 = .ok (.ldc 83, 2) := by decide +kernel
theorem dX8_years_42 : decode cX8_years 42 = .ok (.ireturn, 1) := by decide +kernel
theorem dX8_years_43 : decode cX8_years 43 = .ok (.iconst 0, 1) := by decide +kernel
theorem dX8_years_44 : decode cX8_years 44 = .ok (.istore_n 2, 1) := by decide +kernel
theorem dX8_years_45 : decode cX8_years 45 = .ok (.iload_n 2, 1) := by decide +kernel
theorem dX8_years_46 : decode cX8_years 46 = .ok (.iload_n 1, 1) := by decide +kernel
theorem dX8_years_47 : decode cX8_years 47 = .ok (.if_icmp .ge 21, 3) := by decide +kernel
theorem dX8_years_50 : decode cX8_years 50 = .ok (.aload_n 0, 1) := by decide +kernel
theorem dX8_years_51 : decode cX8_years 51 = .ok (.invokevirtual 166, 3) := by decide +kernel
theorem dX8_years_54 : decode cX8_years 54 = .ok (.aload_n 0, 1) := by decide +kernel
theorem dX8_years_55 : decode cX8_years 55 = .ok (.aload_n 0, 1) := by decide +kernel
theorem dX8_years_56 : decode cX8_years 56 = .ok (.getfield 19, 3) := by decide +kernel
theorem dX8_years_59 : decode cX8_years 59 = .ok (.invokevirtual 169, 3) := by decide +kernel
theorem dX8_years_62 : decode cX8_years 62 = .ok (.iinc 2 1, 3) := by decide +kernel
theorem dX8_years_65 : decode cX8_years 65 = .ok (.goto (-20), 3) := by decide +kernel
theorem dX8_years_68 : decode cX8_years 68 = .ok (.aload_n 0, 1) := by decide +kernel
theorem dX8_years_69 : decode cX8_years 69 = .ok (.getfield 19, 3) := by decide +kernel
theorem dX8_years_72 : decode cX8_years 72 = .ok (.invokestatic 173, 3) := by decide +kernel
theorem dX8_years_75 : decode cX8_years 75 = .ok (.ireturn, 1) := by decide +kernel
set_option maxRecDepth 20000 in
theorem ggX8_bury_X8_isThing : GoodIn wsX8_bury wsX8_isThing := goodIn_r _ [9, 4, 10, 11, 8, 12, 22, 23, 24, 25, 26, 27, 28, 29, 30, 31, 32, 33, 34, 35, 36, 37, 38, 39, 40, 41, 42, 43, 44, 45] (by decide +kernel) (by decide +kernel)
set_option maxRecDepth 20000 in
theorem gX8_bury_X8_isThing : GoodIn wsX8_bury (wsV RX8 177 RX8 yX8_isThing wsX8_isThing) := goodIn_app (goodIn_of _ (by decide +kernel)) ggX8_bury_X8_isThing
set_option maxRecDepth 20000 in
theorem ggX8_bury_X8_in : GoodIn wsX8_bury wsX8_in := goodIn_r _ [12] (by decide +kernel) (by decide +kernel)
set_option maxRecDepth 20000 in
theorem gX8_bury_X8_in : GoodIn wsX8_bury (va_wsS RX8 60 yX8_in wsX8_in) := goodIn_app (goodIn_of _ (by decide +kernel)) ggX8_bury_X8_in
set_option maxRecDepth 20000 in
theorem ggX8_bury_X8_remember : GoodIn wsX8_bury wsX8_remember := goodIn_r _ [16, 17, 18, 4, 19, 20, 8, 21, 22, 23, 24, 25, 26, 27, 28, 29, 30, 31, 32, 33, 34, 35, 36, 37, 38, 39, 40, 41, 42, 43, 44, 45] (by decide +kernel) (by decide +kernel)
set_option maxRecDepth 20000 in
theorem gX8_bury_X8_remember : GoodIn wsX8_bury (wsV RX8 166 RX8 yX8_remember wsX8_remember) := goodIn_app (goodIn_of _ (by decide +kernel)) ggX8_bury_X8_remember
theorem dX8_bury_0 : decode cX8_bury 0 = .ok (.aload_n 0, 1) := by decide +kernel
theorem dX8_bury_1 : decode cX8_bury 1 = .ok (.iload_n 1, 1) := by decide +kernel
theorem dX8_bury_2 : decode cX8_bury 2 = .ok (.invokevirtual 177, 3) := by decide +kernel
theorem dX8_bury_5 : decode cX8_bury 5 = .ok (.ifCond .eq 27, 3) := by decide +kernel
theorem dX8_bury_8 : decode cX8_bury 8 = .ok (.iload_n 2, 1) := by decide +kernel
theorem dX8_bury_9 : decode cX8_bury 9 = .ok (.i2l, 1) := by decide +kernel
theorem dX8_bury_10 : decode cX8_bury 10 = .ok (.lconst 0, 1) := by decide +kernel
theorem dX8_bury_11 : decode cX8_bury 11 = .ok (.ldc2_w 180, 3) := by decide +kernel
theorem dX8_bury_14 : decode cX8_bury 14 = .ok (.invokestatic 60, 3) := by decide +kernel
theorem dX8_bury_17 : decode cX8_bury 17 = .ok (.ifCond .eq 15, 3) := by decide +kernel
theorem dX8_bury_20 : decode cX8_bury 20 = .ok (.iload_n 3, 1) := by decide +kernel
theorem dX8_bury_21 : decode cX8_bury 21 = .ok (.i2l, 1) := by decide +kernel
theorem dX8_bury_22 : decode cX8_bury 22 = .ok (.lconst 1, 1) := by decide +kernel
theorem dX8_bury_23 : decode cX8_bury 23 = .ok (.ldc2_w 182, 3) := by decide +kernel
theorem dX8_bury_26 : decode cX8_bury 26 = .ok (.invokestatic 60, 3) := by decide +kernel
theorem dX8_bury_29 : decode cX8_bury 29 = .ok (.ifCond .ne 6, 3) := by decide +kernel
theorem dX8_bury_32 : decode cX8_bury 32 = .ok (.ldc 70, 2) := by decide +kernel
theorem dX8_bury_34 : decode cX8_bury 34 = .ok (.ireturn, 1) := by decide +kernel
theorem dX8_bury_35 : decode cX8_bury 35 = .ok (.aload_n 0, 1) := by decide +kernel
theorem dX8_bury_36 : decode cX8_bury 36 = .ok (.invokevirtual 166, 3) := by decide +kernel
theorem dX8_bury_39 : decode cX8_bury 39 = .ok (.aload_n 0, 1) := by decide +kernel
theorem dX8_bury_40 : decode cX8_bury 40 = .ok (.getfield 19, 3) := by decide +kernel
theorem dX8_bury_43 : decode cX8_bury 43 = .ok (.bipush 29, 2) := by decide +kernel
theorem dX8_bury_45 : decode cX8_bury 45 = .ok (.dup2, 1) := by decide +kernel
theorem dX8_bury_46 : decode cX8_bury 46 = .ok (.iaload, 1) := by decide +kernel
theorem dX8_bury_47 : decode cX8_bury 47 = .ok (.aload_n 0, 1) := by decide +kernel
theorem dX8_bury_48 : decode cX8_bury 48 = .ok (.getfield 19, 3) := by decide +kernel
theorem dX8_bury_51 : decode cX8_bury 51 = .ok (.bipush 13, 2) := by decide +kernel
theorem dX8_bury_53 : decode cX8_bury 53 = .ok (.iload_n 1, 1) := by decide +kernel
theorem dX8_bury_54 : decode cX8_bury 54 = .ok (.iadd, 1) := by decide +kernel
theorem dX8_bury_55 : decode cX8_bury 55 = .ok (.iaload, 1) := by decide +kernel
theorem dX8_bury_56 : decode cX8_bury 56 = .ok (.iload_n 3, 1) := by decide +kernel
theorem dX8_bury_57 : decode cX8_bury 57 = .ok (.iadd, 1) := by decide +kernel
theorem dX8_bury_58 : decode cX8_bury 58 = .ok (.iadd, 1) := by decide +kernel
theorem dX8_bury_59 : decode cX8_bury 59 = .ok (.iastore, 1) := by decide +kernel
theorem dX8_bury_60 : decode cX8_bury 60 = .ok (.aload_n 0, 1) := by decide +kernel
theorem dX8_bury_61 : decode cX8_bury 61 = .ok (.getfield 19, 3) := by decide +kernel
theorem dX8_bury_64 : decode cX8_bury 64 = .ok (.bipush 13, 2) := by decide +kernel
theorem dX8_bury_66 : decode cX8_bury 66 = .ok (.iload_n 1, 1) := by decide +kernel
theorem dX8_bury_67 : decode cX8_bury 67 = .ok (.iadd, 1) := by decide +kernel
theorem dX8_bury_68 : decode cX8_bury 68 = .ok (.iload_n 3, 1) := by decide +kernel
theorem dX8_bury_69 : decode cX8_bury 69 = .ok (.iastore, 1) := by decide +kernel
theorem dX8_bury_70 : decode cX8_bury 70 = .ok (.aload_n 0, 1) := by decide +kernel
theorem dX8_bury_71 : decode cX8_bury 71 = .ok (.getfield 19, 3) := by decide +kernel
theorem dX8_bury_74 : decode cX8_bury 74 = .ok (.bipush 18, 2) := by decide +kernel
theorem dX8_bury_76 : decode cX8_bury 76 = .ok (.iload_n 1, 1) := by decide +kernel
theorem dX8_bury_77 : decode cX8_bury 77 = .ok (.iadd, 1) := by decide +kernel
theorem dX8_bury_78 : decode cX8_bury 78 = .ok (.iload_n 2, 1) := by decide +kernel
theorem dX8_bury_79 : decode cX8_bury 79 = .ok (.iastore, 1) := by decide +kernel
theorem dX8_bury_80 : decode cX8_bury 80 = .ok (.aload_n 0, 1) := by decide +kernel
theorem dX8_bury_81 : decode cX8_bury 81 = .ok (.getfield 19, 3) := by decide +kernel
theorem dX8_bury_84 : decode cX8_bury 84 = .ok (.bipush 29, 2) := by decide +kernel
theorem dX8_bury_86 : decode cX8_bury 86 = .ok (.iaload, 1) := by decide +kernel
theorem dX8_bury_87 : decode cX8_bury 87 = .ok (.ireturn, 1) := by decide +kernel
set_option maxRecDepth 20000 in
theorem ggX8_tell_X8_isThing : GoodIn wsX8_tell wsX8_isThing := goodIn_r _ [8, 1, 9, 10, 7, 11, 27, 28, 29, 30, 31, 32, 33, 34, 35, 36, 37, 38, 39, 40, 41, 42, 43, 44, 45, 46, 47, 48, 49, 50] (by decide +kernel) (by decide +kernel)
set_option maxRecDepth 20000 in
theorem gX8_tell_X8_isThing : GoodIn wsX8_tell (wsV RX8 177 RX8 yX8_isThing wsX8_isThing) := goodIn_app (goodIn_of _ (by decide +kernel)) ggX8_tell_X8_isThing
set_option maxRecDepth 20000 in
theorem ggX8_tell_X8_in : GoodIn wsX8_tell wsX8_in := goodIn_r _ [11] (by decide +kernel) (by decide +kernel)
set_option maxRecDepth 20000 in
theorem gX8_tell_X8_in : GoodIn wsX8_tell (va_wsS RX8 60 yX8_in wsX8_in) := goodIn_app (goodIn_of _ (by decide +kernel)) ggX8_tell_X8_in
set_option maxRecDepth 20000 in
theorem ggX8_tell_X8_isTwo : GoodIn wsX8_tell wsX8_isTwo := goodIn_r _ [14, 9, 10, 7, 11] (by decide +kernel) (by decide +kernel)
set_option maxRecDepth 20000 in
theorem gX8_tell_X8_isTwo : GoodIn wsX8_tell (va_wsS RX8 184 yX8_isTwo wsX8_isTwo) := goodIn_app (goodIn_of _ (by decide +kernel)) ggX8_tell_X8_isTwo
set_option maxRecDepth 20000 in
theorem ggX8_tell_X8_has : GoodIn wsX8_tell wsX8_has := goodIn_r _ [17] (by decide +kernel) (by decide +kernel)
set_option maxRecDepth 20000 in
theorem gX8_tell_X8_has : GoodIn wsX8_tell (va_wsS RX8 187 yX8_has wsX8_has) := goodIn_app (goodIn_of _ (by decide +kernel)) ggX8_tell_X8_has
set_option maxRecDepth 20000 in
theorem ggX8_tell_X8_remember : GoodIn wsX8_tell wsX8_remember := goodIn_r _ [21, 22, 23, 1, 24, 25, 7, 26, 27, 28, 29, 30, 31, 32, 33, 34, 35, 36, 37, 38, 39, 40, 41, 42, 43, 44, 45, 46, 47, 48, 49, 50] (by decide +kernel) (by decide +kernel)
set_option maxRecDepth 20000 in
theorem gX8_tell_X8_remember : GoodIn wsX8_tell (wsV RX8 166 RX8 yX8_remember wsX8_remember) := goodIn_app (goodIn_of _ (by decide +kernel)) ggX8_tell_X8_remember
theorem dX8_tell_0 : decode cX8_tell 0 = .ok (.aload_n 0, 1) := by decide +kernel
theorem dX8_tell_1 : decode cX8_tell 1 = .ok (.iload_n 1, 1) := by decide +kernel
theorem dX8_tell_2 : decode cX8_tell 2 = .ok (.invokevirtual 177, 3) := by decide +kernel
theorem dX8_tell_5 : decode cX8_tell 5 = .ok (.ifCond .eq 28, 3) := by decide +kernel
theorem dX8_tell_8 : decode cX8_tell 8 = .ok (.iload_n 2, 1) := by decide +kernel
theorem dX8_tell_9 : decode cX8_tell 9 = .ok (.i2l, 1) := by decide +kernel
theorem dX8_tell_10 : decode cX8_tell 10 = .ok (.lconst 0, 1) := by decide +kernel
theorem dX8_tell_11 : decode cX8_tell 11 = .ok (.aload_n 0, 1) := by decide +kernel
theorem dX8_tell_12 : decode cX8_tell 12 = .ok (.getfield 19, 3) := by decide +kernel
theorem dX8_tell_15 : decode cX8_tell 15 = .ok (.iconst 2, 1) := by decide +kernel
theorem dX8_tell_16 : decode cX8_tell 16 = .ok (.iaload, 1) := by decide +kernel
theorem dX8_tell_17 : decode cX8_tell 17 = .ok (.iconst 1, 1) := by decide +kernel
theorem dX8_tell_18 : decode cX8_tell 18 = .ok (.isub, 1) := by decide +kernel
theorem dX8_tell_19 : decode cX8_tell 19 = .ok (.i2l, 1) := by decide +kernel
theorem dX8_tell_20 : decode cX8_tell 20 = .ok (.invokestatic 60, 3) := by decide +kernel
theorem dX8_tell_23 : decode cX8_tell 23 = .ok (.ifCond .eq 10, 3) := by decide +kernel
theorem dX8_tell_26 : decode cX8_tell 26 = .ok (.iload_n 3, 1) := by decide +kernel
theorem dX8_tell_27 : decode cX8_tell 27 = .ok (.invokestatic 184, 3) := by decide +kernel
theorem dX8_tell_30 : decode cX8_tell 30 = .ok (.ifCond .ne 6, 3) := by decide +kernel
theorem dX8_tell_33 : decode cX8_tell 33 = .ok (.ldc 70, 2) := by decide +kernel
theorem dX8_tell_35 : decode cX8_tell 35 = .ok (.ireturn, 1) := by decide +kernel
theorem dX8_tell_36 : decode cX8_tell 36 = .ok (.aload_n 0, 1) := by decide +kernel
theorem dX8_tell_37 : decode cX8_tell 37 = .ok (.getfield 19, 3) := by decide +kernel
theorem dX8_tell_40 : decode cX8_tell 40 = .ok (.bipush 23, 2) := by decide +kernel
theorem dX8_tell_42 : decode cX8_tell 42 = .ok (.iload_n 1, 1) := by decide +kernel
theorem dX8_tell_43 : decode cX8_tell 43 = .ok (.iadd, 1) := by decide +kernel
theorem dX8_tell_44 : decode cX8_tell 44 = .ok (.iaload, 1) := by decide +kernel
theorem dX8_tell_45 : decode cX8_tell 45 = .ok (.iload_n 2, 1) := by decide +kernel
theorem dX8_tell_46 : decode cX8_tell 46 = .ok (.invokestatic 187, 3) := by decide +kernel
theorem dX8_tell_49 : decode cX8_tell 49 = .ok (.iload_n 3, 1) := by decide +kernel
theorem dX8_tell_50 : decode cX8_tell 50 = .ok (.iconst 1, 1) := by decide +kernel
theorem dX8_tell_51 : decode cX8_tell 51 = .ok (.if_icmp .ne 7, 3) := by decide +kernel
theorem dX8_tell_54 : decode cX8_tell 54 = .ok (.iconst 1, 1) := by decide +kernel
theorem dX8_tell_55 : decode cX8_tell 55 = .ok (.goto 4, 3) := by decide +kernel
theorem dX8_tell_58 : decode cX8_tell 58 = .ok (.iconst 0, 1) := by decide +kernel
theorem dX8_tell_59 : decode cX8_tell 59 = .ok (.if_icmp .ne 6, 3) := by decide +kernel
theorem dX8_tell_62 : decode cX8_tell 62 = .ok (.ldc 163, 2) := by decide +kernel
theorem dX8_tell_64 : decode cX8_tell 64 = .ok (.ireturn, 1) := by decide +kernel
theorem dX8_tell_65 : decode cX8_tell 65 = .ok (.aload_n 0, 1) := by decide +kernel
theorem dX8_tell_66 : decode cX8_tell 66 = .ok (.invokevirtual 166, 3) := by decide +kernel
theorem dX8_tell_69 : decode cX8_tell 69 = .ok (.aload_n 0, 1) := by decide +kernel
theorem dX8_tell_70 : decode cX8_tell 70 = .ok (.getfield 19, 3) := by decide +kernel
theorem dX8_tell_73 : decode cX8_tell 73 = .ok (.bipush 23, 2) := by decide +kernel
theorem dX8_tell_75 : decode cX8_tell 75 = .ok (.iload_n 1, 1) := by decide +kernel
theorem dX8_tell_76 : decode cX8_tell 76 = .ok (.iadd, 1) := by decide +kernel
theorem dX8_tell_77 : decode cX8_tell 77 = .ok (.dup2, 1) := by decide +kernel
theorem dX8_tell_78 : decode cX8_tell 78 = .ok (.iaload, 1) := by decide +kernel
theorem dX8_tell_79 : decode cX8_tell 79 = .ok (.iconst 1, 1) := by decide +kernel
theorem dX8_tell_80 : decode cX8_tell 80 = .ok (.iload_n 2, 1) := by decide +kernel
theorem dX8_tell_81 : decode cX8_tell 81 = .ok (.ishl, 1) := by decide +kernel
theorem dX8_tell_82 : decode cX8_tell 82 = .ok (.ixor, 1) := by decide +kernel
theorem dX8_tell_83 : decode cX8_tell 83 = .ok (.iastore, 1) := by decide +kernel
theorem dX8_tell_84 : decode cX8_tell 84 = .ok (.aload_n 0, 1) := by decide +kernel
theorem dX8_tell_85 : decode cX8_tell 85 = .ok (.getfield 19, 3) := by decide +kernel
theorem dX8_tell_88 : decode cX8_tell 88 = .ok (.bipush 23, 2) := by decide +kernel
theorem dX8_tell_90 : decode cX8_tell 90 = .ok (.iload_n 1, 1) := by decide +kernel
theorem dX8_tell_91 : decode cX8_tell 91 = .ok (.iadd, 1) := by decide +kernel
theorem dX8_tell_92 : decode cX8_tell 92 = .ok (.iaload, 1) := by decide +kernel
theorem dX8_tell_93 : decode cX8_tell 93 = .ok (.ireturn, 1) := by decide +kernel
set_option maxRecDepth 20000 in
theorem ggX8_undo_X8_copies : GoodIn wsX8_undo wsX8_copies := goodIn_r _ [8] (by decide +kernel) (by decide +kernel)
set_option maxRecDepth 20000 in
theorem gX8_undo_X8_copies : GoodIn wsX8_undo (va_wsS RX8 135 yX8_copies wsX8_copies) := goodIn_app (goodIn_of _ (by decide +kernel)) ggX8_undo_X8_copies
theorem dX8_undo_0 : decode cX8_undo 0 = .ok (.aload_n 0, 1) := by decide +kernel
theorem dX8_undo_1 : decode cX8_undo 1 = .ok (.getfield 139, 3) := by decide +kernel
theorem dX8_undo_4 : decode cX8_undo 4 = .ok (.ifCond .ne 6, 3) := by decide +kernel
theorem dX8_undo_7 : decode cX8_undo 7 = .ok (.ldc 163, 2) := by decide +kernel
theorem dX8_undo_9 : decode cX8_undo 9 = .ok (.ireturn, 1) := by decide +kernel
theorem dX8_undo_10 : decode cX8_undo 10 = .ok (.aload_n 0, 1) := by decide +kernel
theorem dX8_undo_11 : decode cX8_undo 11 = .ok (.dup, 1) := by decide +kernel
theorem dX8_undo_12 : decode cX8_undo 12 = .ok (.getfield 139, 3) := by decide +kernel
theorem dX8_undo_15 : decode cX8_undo 15 = .ok (.iconst 1, 1) := by decide +kernel
theorem dX8_undo_16 : decode cX8_undo 16 = .ok (.isub, 1) := by decide +kernel
theorem dX8_undo_17 : decode cX8_undo 17 = .ok (.putfield 139, 3) := by decide +kernel
theorem dX8_undo_20 : decode cX8_undo 20 = .ok (.aload_n 0, 1) := by decide +kernel
theorem dX8_undo_21 : decode cX8_undo 21 = .ok (.getfield 28, 3) := by decide +kernel
theorem dX8_undo_24 : decode cX8_undo 24 = .ok (.bipush 30, 2) := by decide +kernel
theorem dX8_undo_26 : decode cX8_undo 26 = .ok (.aload_n 0, 1) := by decide +kernel
theorem dX8_undo_27 : decode cX8_undo 27 = .ok (.getfield 139, 3) := by decide +kernel
theorem dX8_undo_30 : decode cX8_undo 30 = .ok (.imul, 1) := by decide +kernel
theorem dX8_undo_31 : decode cX8_undo 31 = .ok (.aload_n 0, 1) := by decide +kernel
theorem dX8_undo_32 : decode cX8_undo 32 = .ok (.getfield 19, 3) := by decide +kernel
theorem dX8_undo_35 : decode cX8_undo 35 = .ok (.iconst 0, 1) := by decide +kernel
theorem dX8_undo_36 : decode cX8_undo 36 = .ok (.invokestatic 135, 3) := by decide +kernel
theorem dX8_undo_39 : decode cX8_undo 39 = .ok (.aload_n 0, 1) := by decide +kernel
theorem dX8_undo_40 : decode cX8_undo 40 = .ok (.getfield 139, 3) := by decide +kernel
theorem dX8_undo_43 : decode cX8_undo 43 = .ok (.ireturn, 1) := by decide +kernel
set_option maxRecDepth 20000 in
theorem ggX8_thing_X8_isThing : GoodIn wsX8_thing wsX8_isThing := goodIn_r _ [7, 2, 8, 9, 6, 10, 26, 27, 28, 29, 30, 31, 32, 33, 34, 35, 36, 37, 38, 39, 40, 41, 42, 43, 44, 45, 46, 47, 48, 49] (by decide +kernel) (by decide +kernel)
set_option maxRecDepth 20000 in
theorem gX8_thing_X8_isThing : GoodIn wsX8_thing (wsV RX8 177 RX8 yX8_isThing wsX8_isThing) := goodIn_app (goodIn_of _ (by decide +kernel)) ggX8_thing_X8_isThing
set_option maxRecDepth 20000 in
theorem ggX8_thing_X8_nearTo : GoodIn wsX8_thing wsX8_nearTo := goodIn_r _ [13, 14, 15, 6, 16, 17, 18, 19, 20, 21, 22] (by decide +kernel) (by decide +kernel)
set_option maxRecDepth 20000 in
theorem gX8_thing_X8_nearTo : GoodIn wsX8_thing (va_wsS RX8 191 yX8_nearTo wsX8_nearTo) := goodIn_app (goodIn_of _ (by decide +kernel)) ggX8_thing_X8_nearTo
set_option maxRecDepth 20000 in
theorem ggX8_thing_X8_rises : GoodIn wsX8_thing wsX8_rises := goodIn_r _ [25, 17, 18, 6, 19] (by decide +kernel) (by decide +kernel)
set_option maxRecDepth 20000 in
theorem gX8_thing_X8_rises : GoodIn wsX8_thing (va_wsS RX8 146 yX8_rises wsX8_rises) := goodIn_app (goodIn_of _ (by decide +kernel)) ggX8_thing_X8_rises
theorem dX8_thing_0 : decode cX8_thing 0 = .ok (.aload_n 0, 1) := by decide +kernel
theorem dX8_thing_1 : decode cX8_thing 1 = .ok (.iload_n 1, 1) := by decide +kernel
theorem dX8_thing_2 : decode cX8_thing 2 = .ok (.invokevirtual 177, 3) := by decide +kernel
theorem dX8_thing_5 : decode cX8_thing 5 = .ok (.ifCond .ne 6, 3) := by decide +kernel
theorem dX8_thing_8 : decode cX8_thing 8 = .ok (.ldc 70, 2) := by decide +kernel
theorem dX8_thing_10 : decode cX8_thing 10 = .ok (.ireturn, 1) := by decide +kernel
theorem dX8_thing_11 : decode cX8_thing 11 = .ok (.iload_n 2, 1) := by decide +kernel
theorem dX8_thing_12 : decode cX8_thing 12 = .ok (.tableswitch 98 0 5 #[40, 50, 60, 70, 80, 89], 40) := by decide +kernel
theorem dX8_thing_52 : decode cX8_thing 52 = .ok (.aload_n 0, 1) := by decide +kernel
theorem dX8_thing_53 : decode cX8_thing 53 = .ok (.getfield 19, 3) := by decide +kernel
theorem dX8_thing_56 : decode cX8_thing 56 = .ok (.bipush 13, 2) := by decide +kernel
theorem dX8_thing_58 : decode cX8_thing 58 = .ok (.iload_n 1, 1) := by decide +kernel
theorem dX8_thing_59 : decode cX8_thing 59 = .ok (.iadd, 1) := by decide +kernel
theorem dX8_thing_60 : decode cX8_thing 60 = .ok (.iaload, 1) := by decide +kernel
theorem dX8_thing_61 : decode cX8_thing 61 = .ok (.ireturn, 1) := by decide +kernel
theorem dX8_thing_62 : decode cX8_thing 62 = .ok (.aload_n 0, 1) := by decide +kernel
theorem dX8_thing_63 : decode cX8_thing 63 = .ok (.getfield 19, 3) := by decide +kernel
theorem dX8_thing_66 : decode cX8_thing 66 = .ok (.bipush 18, 2) := by decide +kernel
theorem dX8_thing_68 : decode cX8_thing 68 = .ok (.iload_n 1, 1) := by decide +kernel
theorem dX8_thing_69 : decode cX8_thing 69 = .ok (.iadd, 1) := by decide +kernel
theorem dX8_thing_70 : decode cX8_thing 70 = .ok (.iaload, 1) := by decide +kernel
theorem dX8_thing_71 : decode cX8_thing 71 = .ok (.ireturn, 1) := by decide +kernel
theorem dX8_thing_72 : decode cX8_thing 72 = .ok (.aload_n 0, 1) := by decide +kernel
theorem dX8_thing_73 : decode cX8_thing 73 = .ok (.getfield 19, 3) := by decide +kernel
theorem dX8_thing_76 : decode cX8_thing 76 = .ok (.bipush 8, 2) := by decide +kernel
theorem dX8_thing_78 : decode cX8_thing 78 = .ok (.iload_n 1, 1) := by decide +kernel
theorem dX8_thing_79 : decode cX8_thing 79 = .ok (.iadd, 1) := by decide +kernel
theorem dX8_thing_80 : decode cX8_thing 80 = .ok (.iaload, 1) := by decide +kernel
theorem dX8_thing_81 : decode cX8_thing 81 = .ok (.ireturn, 1) := by decide +kernel
theorem dX8_thing_82 : decode cX8_thing 82 = .ok (.aload_n 0, 1) := by decide +kernel
theorem dX8_thing_83 : decode cX8_thing 83 = .ok (.getfield 19, 3) := by decide +kernel
theorem dX8_thing_86 : decode cX8_thing 86 = .ok (.bipush 23, 2) := by decide +kernel
theorem dX8_thing_88 : decode cX8_thing 88 = .ok (.iload_n 1, 1) := by decide +kernel
theorem dX8_thing_89 : decode cX8_thing 89 = .ok (.iadd, 1) := by decide +kernel
theorem dX8_thing_90 : decode cX8_thing 90 = .ok (.iaload, 1) := by decide +kernel
theorem dX8_thing_91 : decode cX8_thing 91 = .ok (.ireturn, 1) := by decide +kernel
theorem dX8_thing_92 : decode cX8_thing 92 = .ok (.aload_n 0, 1) := by decide +kernel
theorem dX8_thing_93 : decode cX8_thing 93 = .ok (.getfield 19, 3) := by decide +kernel
theorem dX8_thing_96 : decode cX8_thing 96 = .ok (.iload_n 1, 1) := by decide +kernel
theorem dX8_thing_97 : decode cX8_thing 97 = .ok (.invokestatic 191, 3) := by decide +kernel
theorem dX8_thing_100 : decode cX8_thing 100 = .ok (.ireturn, 1) := by decide +kernel
theorem dX8_thing_101 : decode cX8_thing 101 = .ok (.aload_n 0, 1) := by decide +kernel
theorem dX8_thing_102 : decode cX8_thing 102 = .ok (.getfield 19, 3) := by decide +kernel
theorem dX8_thing_105 : decode cX8_thing 105 = .ok (.iload_n 1, 1) := by decide +kernel
theorem dX8_thing_106 : decode cX8_thing 106 = .ok (.invokestatic 146, 3) := by decide +kernel
theorem dX8_thing_109 : decode cX8_thing 109 = .ok (.ireturn, 1) := by decide +kernel
theorem dX8_thing_110 : decode cX8_thing 110 = .ok (.ldc 70, 2) := by decide +kernel
theorem dX8_thing_112 : decode cX8_thing 112 = .ok (.ireturn, 1) := by decide +kernel
set_option maxRecDepth 20000 in
theorem ggX8_knows_X8_in : GoodIn wsX8_knows wsX8_in := goodIn_r _ [6] (by decide +kernel) (by decide +kernel)
set_option maxRecDepth 20000 in
theorem gX8_knows_X8_in : GoodIn wsX8_knows (va_wsS RX8 60 yX8_in wsX8_in) := goodIn_app (goodIn_of _ (by decide +kernel)) ggX8_knows_X8_in
set_option maxRecDepth 20000 in
theorem ggX8_knows_X8_has : GoodIn wsX8_knows wsX8_has := goodIn_r _ [9] (by decide +kernel) (by decide +kernel)
set_option maxRecDepth 20000 in
theorem gX8_knows_X8_has : GoodIn wsX8_knows (va_wsS RX8 187 yX8_has wsX8_has) := goodIn_app (goodIn_of _ (by decide +kernel)) ggX8_knows_X8_has
theorem dX8_knows_0 : decode cX8_knows 0 = .ok (.iload_n 1, 1) := by decide +kernel
theorem dX8_knows_1 : decode cX8_knows 1 = .ok (.i2l, 1) := by decide +kernel
theorem dX8_knows_2 : decode cX8_knows 2 = .ok (.lconst 0, 1) := by decide +kernel
theorem dX8_knows_3 : decode cX8_knows 3 = .ok (.aload_n 0, 1) := by decide +kernel
theorem dX8_knows_4 : decode cX8_knows 4 = .ok (.getfield 19, 3) := by decide +kernel
theorem dX8_knows_7 : decode cX8_knows 7 = .ok (.iconst 2, 1) := by decide +kernel
theorem dX8_knows_8 : decode cX8_knows 8 = .ok (.iaload, 1) := by decide +kernel
theorem dX8_knows_9 : decode cX8_knows 9 = .ok (.iconst 1, 1) := by decide +kernel
theorem dX8_knows_10 : decode cX8_knows 10 = .ok (.isub, 1) := by decide +kernel
theorem dX8_knows_11 : decode cX8_knows 11 = .ok (.i2l, 1) := by decide +kernel
theorem dX8_knows_12 : decode cX8_knows 12 = .ok (.invokestatic 60, 3) := by decide +kernel
theorem dX8_knows_15 : decode cX8_knows 15 = .ok (.ifCond .ne 6, 3) := by decide +kernel
theorem dX8_knows_18 : decode cX8_knows 18 = .ok (.ldc 70, 2) := by decide +kernel
theorem dX8_knows_20 : decode cX8_knows 20 = .ok (.ireturn, 1) := by decide +kernel
theorem dX8_knows_21 : decode cX8_knows 21 = .ok (.iconst 0, 1) := by decide +kernel
theorem dX8_knows_22 : decode cX8_knows 22 = .ok (.istore_n 2, 1) := by decide +kernel
theorem dX8_knows_23 : decode cX8_knows 23 = .ok (.iconst 0, 1) := by decide +kernel
theorem dX8_knows_24 : decode cX8_knows 24 = .ok (.istore_n 3, 1) := by decide +kernel
theorem dX8_knows_25 : decode cX8_knows 25 = .ok (.iload_n 3, 1) := by decide +kernel
theorem dX8_knows_26 : decode cX8_knows 26 = .ok (.aload_n 0, 1) := by decide +kernel
theorem dX8_knows_27 : decode cX8_knows 27 = .ok (.getfield 19, 3) := by decide +kernel
theorem dX8_knows_30 : decode cX8_knows 30 = .ok (.iconst 0, 1) := by decide +kernel
theorem dX8_knows_31 : decode cX8_knows 31 = .ok (.iaload, 1) := by decide +kernel
theorem dX8_knows_32 : decode cX8_knows 32 = .ok (.if_icmp .ge 35, 3) := by decide +kernel
theorem dX8_knows_35 : decode cX8_knows 35 = .ok (.iload_n 2, 1) := by decide +kernel
theorem dX8_knows_36 : decode cX8_knows 36 = .ok (.aload_n 0, 1) := by decide +kernel
theorem dX8_knows_37 : decode cX8_knows 37 = .ok (.getfield 19, 3) := by decide +kernel
theorem dX8_knows_40 : decode cX8_knows 40 = .ok (.bipush 23, 2) := by decide +kernel
theorem dX8_knows_42 : decode cX8_knows 42 = .ok (.iload_n 3, 1) := by decide +kernel
theorem dX8_knows_43 : decode cX8_knows 43 = .ok (.iadd, 1) := by decide +kernel
theorem dX8_knows_44 : decode cX8_knows 44 = .ok (.iaload, 1) := by decide +kernel
theorem dX8_knows_45 : decode cX8_knows 45 = .ok (.iload_n 1, 1) := by decide +kernel
theorem dX8_knows_46 : decode cX8_knows 46 = .ok (.invokestatic 187, 3) := by decide +kernel
theorem dX8_knows_49 : decode cX8_knows 49 = .ok (.ifCond .eq 9, 3) := by decide +kernel
theorem dX8_knows_52 : decode cX8_knows 52 = .ok (.iconst 1, 1) := by decide +kernel
end
section
theorem dX8_knows_53 : decode cX8_knows 53 = .ok (.iload_n 3, 1) := by decide +kernel
theorem dX8_knows_54 : decode cX8_knows 54 = .ok (.ishl, 1) := by decide +kernel
theorem dX8_knows_55 : decode cX8_knows 55 = .ok (.goto 4, 3) := by decide +kernel
theorem dX8_knows_58 : decode cX8_knows 58 = .ok (.iconst 0, 1) := by decide +kernel
theorem dX8_knows_59 : decode cX8_knows 59 = .ok (.ior, 1) := by decide +kernel
theorem dX8_knows_60 : decode cX8_knows 60 = .ok (.istore_n 2, 1) := by decide +kernel
theorem dX8_knows_61 : decode cX8_knows 61 = .ok (.iinc 3 1, 3) := by decide +kernel
theorem dX8_knows_64 : decode cX8_knows 64 = .ok (.goto (-39), 3) := by decide +kernel
theorem dX8_knows_67 : decode cX8_knows 67 = .ok (.iload_n 2, 1) := by decide +kernel
theorem dX8_knows_68 : decode cX8_knows 68 = .ok (.ireturn, 1) := by decide +kernel
set_option maxRecDepth 20000 in
theorem ggX8_layAside_X8_copies : GoodIn wsX8_layAside wsX8_copies := goodIn_r _ [6] (by decide +kernel) (by decide +kernel)
set_option maxRecDepth 20000 in
theorem gX8_layAside_X8_copies : GoodIn wsX8_layAside (va_wsS RX8 135 yX8_copies wsX8_copies) := goodIn_app (goodIn_of _ (by decide +kernel)) ggX8_layAside_X8_copies
theorem dX8_layAside_0 : decode cX8_layAside 0 = .ok (.aload_n 0, 1) := by decide +kernel
theorem dX8_layAside_1 : decode cX8_layAside 1 = .ok (.getfield 19, 3) := by decide +kernel
theorem dX8_layAside_4 : decode cX8_layAside 4 = .ok (.iconst 0, 1) := by decide +kernel
theorem dX8_layAside_5 : decode cX8_layAside 5 = .ok (.aload_n 0, 1) := by decide +kernel
theorem dX8_layAside_6 : decode cX8_layAside 6 = .ok (.getfield 25, 3) := by decide +kernel
theorem dX8_layAside_9 : decode cX8_layAside 9 = .ok (.iconst 0, 1) := by decide +kernel
theorem dX8_layAside_10 : decode cX8_layAside 10 = .ok (.invokestatic 135, 3) := by decide +kernel
theorem dX8_layAside_13 : decode cX8_layAside 13 = .ok (.return_, 1) := by decide +kernel
set_option maxRecDepth 20000 in
theorem ggX8_go_X8_yearGoes : GoodIn wsX8_go wsX8_yearGoes := goodIn_r _ [6, 7, 8, 9, 5, 10, 11, 12, 13, 14, 15, 16, 17, 18, 19, 20, 21, 22, 23, 24, 25, 26, 27, 28, 29, 30, 31, 32, 33, 34, 35, 36, 37] (by decide +kernel) (by decide +kernel)
set_option maxRecDepth 20000 in
theorem gX8_go_X8_yearGoes : GoodIn wsX8_go (wsV RX8 169 RX8 yX8_yearGoes wsX8_yearGoes) := goodIn_app (goodIn_of _ (by decide +kernel)) ggX8_go_X8_yearGoes
theorem dX8_go_0 : decode cX8_go 0 = .ok (.iconst 0, 1) := by decide +kernel
theorem dX8_go_1 : decode cX8_go 1 = .ok (.istore_n 2, 1) := by decide +kernel
theorem dX8_go_2 : decode cX8_go 2 = .ok (.iload_n 2, 1) := by decide +kernel
theorem dX8_go_3 : decode cX8_go 3 = .ok (.iload_n 1, 1) := by decide +kernel
theorem dX8_go_4 : decode cX8_go 4 = .ok (.if_icmp .ge 17, 3) := by decide +kernel
theorem dX8_go_7 : decode cX8_go 7 = .ok (.aload_n 0, 1) := by decide +kernel
theorem dX8_go_8 : decode cX8_go 8 = .ok (.aload_n 0, 1) := by decide +kernel
theorem dX8_go_9 : decode cX8_go 9 = .ok (.getfield 25, 3) := by decide +kernel
theorem dX8_go_12 : decode cX8_go 12 = .ok (.invokevirtual 169, 3) := by decide +kernel
theorem dX8_go_15 : decode cX8_go 15 = .ok (.iinc 2 1, 3) := by decide +kernel
theorem dX8_go_18 : decode cX8_go 18 = .ok (.goto (-16), 3) := by decide +kernel
theorem dX8_go_21 : decode cX8_go 21 = .ok (.return_, 1) := by decide +kernel
set_option maxRecDepth 20000 in
theorem ggX8_ahead_X8_isThing : GoodIn wsX8_ahead wsX8_isThing := goodIn_r _ [7, 8, 9, 10, 6, 11, 38, 39, 40, 41, 42, 43, 44, 45, 46, 47, 48, 49, 50, 51, 52, 53, 54, 55, 56, 57, 58, 59, 60, 61] (by decide +kernel) (by decide +kernel)
set_option maxRecDepth 20000 in
theorem gX8_ahead_X8_isThing : GoodIn wsX8_ahead (wsV RX8 177 RX8 yX8_isThing wsX8_isThing) := goodIn_app (goodIn_of _ (by decide +kernel)) ggX8_ahead_X8_isThing
set_option maxRecDepth 20000 in
theorem ggX8_ahead_X8_isSpan : GoodIn wsX8_ahead wsX8_isSpan := goodIn_r _ [14, 15, 9, 10, 6, 11] (by decide +kernel) (by decide +kernel)
set_option maxRecDepth 20000 in
theorem gX8_ahead_X8_isSpan : GoodIn wsX8_ahead (va_wsS RX8 194 yX8_isSpan wsX8_isSpan) := goodIn_app (goodIn_of _ (by decide +kernel)) ggX8_ahead_X8_isSpan
set_option maxRecDepth 20000 in
theorem ggX8_ahead_X8_layAside : GoodIn wsX8_ahead wsX8_layAside := goodIn_r _ [19, 8, 2, 20, 21, 6, 22, 38, 39, 40, 41, 42, 43, 44, 45, 46, 47, 48, 49, 50, 51, 52, 53, 54, 55, 56, 57, 58, 59, 60, 61] (by decide +kernel) (by decide +kernel)
set_option maxRecDepth 20000 in
theorem gX8_ahead_X8_layAside : GoodIn wsX8_ahead (wsV RX8 197 RX8 yX8_layAside wsX8_layAside) := goodIn_app (goodIn_of _ (by decide +kernel)) ggX8_ahead_X8_layAside
set_option maxRecDepth 20000 in
theorem ggX8_ahead_X8_go : GoodIn wsX8_ahead wsX8_go := goodIn_r _ [26, 2, 27, 28, 29, 6, 30, 31, 32, 33, 34, 35, 36, 37, 38, 39, 40, 41, 42, 43, 44, 45, 46, 47, 48, 49, 50, 51, 52, 53, 54, 55, 56, 57, 58, 59, 60, 61] (by decide +kernel) (by decide +kernel)
set_option maxRecDepth 20000 in
theorem gX8_ahead_X8_go : GoodIn wsX8_ahead (wsV RX8 200 RX8 yX8_go wsX8_go) := goodIn_app (goodIn_of _ (by decide +kernel)) ggX8_ahead_X8_go
theorem dX8_ahead_0 : decode cX8_ahead 0 = .ok (.aload_n 0, 1) := by decide +kernel
theorem dX8_ahead_1 : decode cX8_ahead 1 = .ok (.iload_n 1, 1) := by decide +kernel
theorem dX8_ahead_2 : decode cX8_ahead 2 = .ok (.invokevirtual 177, 3) := by decide +kernel
theorem dX8_ahead_5 : decode cX8_ahead 5 = .ok (.ifCond .eq 10, 3) := by decide +kernel
theorem dX8_ahead_8 : decode cX8_ahead 8 = .ok (.iload_n 2, 1) := by decide +kernel
theorem dX8_ahead_9 : decode cX8_ahead 9 = .ok (.invokestatic 194, 3) := by decide +kernel
theorem dX8_ahead_12 : decode cX8_ahead 12 = .ok (.ifCond .ne 6, 3) := by decide +kernel
theorem dX8_ahead_15 : decode cX8_ahead 15 = .ok (.ldc 70, 2) := by decide +kernel
theorem dX8_ahead_17 : decode cX8_ahead 17 = .ok (.ireturn, 1) := by decide +kernel
theorem dX8_ahead_18 : decode cX8_ahead 18 = .ok (.aload_n 0, 1) := by decide +kernel
theorem dX8_ahead_19 : decode cX8_ahead 19 = .ok (.invokevirtual 197, 3) := by decide +kernel
theorem dX8_ahead_22 : decode cX8_ahead 22 = .ok (.aload_n 0, 1) := by decide +kernel
theorem dX8_ahead_23 : decode cX8_ahead 23 = .ok (.iload_n 2, 1) := by decide +kernel
theorem dX8_ahead_24 : decode cX8_ahead 24 = .ok (.invokevirtual 200, 3) := by decide +kernel
theorem dX8_ahead_27 : decode cX8_ahead 27 = .ok (.aload_n 0, 1) := by decide +kernel
theorem dX8_ahead_28 : decode cX8_ahead 28 = .ok (.getfield 25, 3) := by decide +kernel
theorem dX8_ahead_31 : decode cX8_ahead 31 = .ok (.bipush 13, 2) := by decide +kernel
theorem dX8_ahead_33 : decode cX8_ahead 33 = .ok (.iload_n 1, 1) := by decide +kernel
theorem dX8_ahead_34 : decode cX8_ahead 34 = .ok (.iadd, 1) := by decide +kernel
theorem dX8_ahead_35 : decode cX8_ahead 35 = .ok (.iaload, 1) := by decide +kernel
theorem dX8_ahead_36 : decode cX8_ahead 36 = .ok (.ireturn, 1) := by decide +kernel
set_option maxRecDepth 20000 in
theorem ggX8_up_X8_isMine : GoodIn wsX8_up wsX8_isMine := goodIn_r _ [8, 9, 42, 43, 44, 45, 46, 47, 48, 49, 50, 51, 52, 53, 54, 55, 56, 57, 58, 59, 60, 61, 62, 63, 64, 65] (by decide +kernel) (by decide +kernel)
set_option maxRecDepth 20000 in
theorem gX8_up_X8_isMine : GoodIn wsX8_up (wsV RX8 160 RX8 yX8_isMine wsX8_isMine) := goodIn_app (goodIn_of _ (by decide +kernel)) ggX8_up_X8_isMine
set_option maxRecDepth 20000 in
theorem ggX8_up_X8_isSpan : GoodIn wsX8_up wsX8_isSpan := goodIn_r _ [12, 13, 14, 15, 7, 16] (by decide +kernel) (by decide +kernel)
set_option maxRecDepth 20000 in
theorem gX8_up_X8_isSpan : GoodIn wsX8_up (va_wsS RX8 194 yX8_isSpan wsX8_isSpan) := goodIn_app (goodIn_of _ (by decide +kernel)) ggX8_up_X8_isSpan
set_option maxRecDepth 20000 in
theorem ggX8_up_X8_layAside : GoodIn wsX8_up wsX8_layAside := goodIn_r _ [20, 9, 3, 21, 22, 7, 23, 42, 43, 44, 45, 46, 47, 48, 49, 50, 51, 52, 53, 54, 55, 56, 57, 58, 59, 60, 61, 62, 63, 64, 65] (by decide +kernel) (by decide +kernel)
set_option maxRecDepth 20000 in
theorem gX8_up_X8_layAside : GoodIn wsX8_up (wsV RX8 197 RX8 yX8_layAside wsX8_layAside) := goodIn_app (goodIn_of _ (by decide +kernel)) ggX8_up_X8_layAside
set_option maxRecDepth 20000 in
theorem ggX8_up_X8_go : GoodIn wsX8_up wsX8_go := goodIn_r _ [27, 3, 28, 29, 30, 7, 31, 32, 33, 34, 35, 36, 37, 38, 42, 43, 44, 45, 46, 47, 48, 49, 50, 51, 52, 53, 54, 55, 56, 57, 58, 59, 60, 61, 62, 63, 64, 65] (by decide +kernel) (by decide +kernel)
set_option maxRecDepth 20000 in
theorem gX8_up_X8_go : GoodIn wsX8_up (wsV RX8 200 RX8 yX8_go wsX8_go) := goodIn_app (goodIn_of _ (by decide +kernel)) ggX8_up_X8_go
set_option maxRecDepth 20000 in
theorem ggX8_up_X8_upOf : GoodIn wsX8_up wsX8_upOf := goodIn_r _ [41, 36, 37, 7, 38] (by decide +kernel) (by decide +kernel)
set_option maxRecDepth 20000 in
theorem gX8_up_X8_upOf : GoodIn wsX8_up (va_wsS RX8 173 yX8_upOf wsX8_upOf) := goodIn_app (goodIn_of _ (by decide +kernel)) ggX8_up_X8_upOf
theorem dX8_up_0 : decode cX8_up 0 = .ok (.aload_n 0, 1) := by decide +kernel
theorem dX8_up_1 : decode cX8_up 1 = .ok (.invokevirtual 160, 3) := by decide +kernel
theorem dX8_up_4 : decode cX8_up 4 = .ok (.ifCond .ne 6, 3) := by decide +kernel
theorem dX8_up_7 : decode cX8_up 7 = .ok (.ldc 163, 2) := by decide +kernel
theorem dX8_up_9 : decode cX8_up 9 = .ok (.ireturn, 1) := by decide +kernel
theorem dX8_up_10 : decode cX8_up 10 = .ok (.iload_n 1, 1) := by decide +kernel
theorem dX8_up_11 : decode cX8_up 11 = .ok (.invokestatic 194, 3) := by decide +kernel
theorem dX8_up_14 : decode cX8_up 14 = .ok (.ifCond .ne 6, 3) := by decide +kernel
theorem dX8_up_17 : decode cX8_up 17 = .ok (.ldc 70, 2) := by decide +kernel
theorem dX8_up_19 : decode cX8_up 19 = .ok (.ireturn, 1) := by decide +kernel
theorem dX8_up_20 : decode cX8_up 20 = .ok (.aload_n 0, 1) := by decide +kernel
theorem dX8_up_21 : decode cX8_up 21 = .ok (.invokevirtual 197, 3) := by decide +kernel
theorem dX8_up_24 : decode cX8_up 24 = .ok (.aload_n 0, 1) := by decide +kernel
theorem dX8_up_25 : decode cX8_up 25 = .ok (.iload_n 1, 1) := by decide +kernel
theorem dX8_up_26 : decode cX8_up 26 = .ok (.invokevirtual 200, 3) := by decide +kernel
theorem dX8_up_29 : decode cX8_up 29 = .ok (.aload_n 0, 1) := by decide +kernel
theorem dX8_up_30 : decode cX8_up 30 = .ok (.getfield 25, 3) := by decide +kernel
theorem dX8_up_33 : decode cX8_up 33 = .ok (.invokestatic 173, 3) := by decide +kernel
theorem dX8_up_36 : decode cX8_up 36 = .ok (.ireturn, 1) := by decide +kernel
set_option maxRecDepth 20000 in
theorem ggX8_comesUp_X8_isThing : GoodIn wsX8_comesUp wsX8_isThing := goodIn_r _ [8, 9, 10, 11, 7, 12, 35, 36, 37, 38, 39, 40, 41, 42, 43, 44, 45, 46, 47, 48, 49, 50, 51, 52, 53, 54, 55, 56, 57, 58] (by decide +kernel) (by decide +kernel)
set_option maxRecDepth 20000 in
theorem gX8_comesUp_X8_isThing : GoodIn wsX8_comesUp (wsV RX8 177 RX8 yX8_isThing wsX8_isThing) := goodIn_app (goodIn_of _ (by decide +kernel)) ggX8_comesUp_X8_isThing
set_option maxRecDepth 20000 in
theorem ggX8_comesUp_X8_layAside : GoodIn wsX8_comesUp wsX8_layAside := goodIn_r _ [16, 9, 2, 17, 18, 7, 19, 35, 36, 37, 38, 39, 40, 41, 42, 43, 44, 45, 46, 47, 48, 49, 50, 51, 52, 53, 54, 55, 56, 57, 58] (by decide +kernel) (by decide +kernel)
set_option maxRecDepth 20000 in
theorem gX8_comesUp_X8_layAside : GoodIn wsX8_comesUp (wsV RX8 197 RX8 yX8_layAside wsX8_layAside) := goodIn_app (goodIn_of _ (by decide +kernel)) ggX8_comesUp_X8_layAside
set_option maxRecDepth 20000 in
theorem ggX8_comesUp_X8_lies : GoodIn wsX8_comesUp wsX8_lies := goodIn_r _ [22] (by decide +kernel) (by decide +kernel)
set_option maxRecDepth 20000 in
theorem gX8_comesUp_X8_lies : GoodIn wsX8_comesUp (va_wsS RX8 142 yX8_lies wsX8_lies) := goodIn_app (goodIn_of _ (by decide +kernel)) ggX8_comesUp_X8_lies
set_option maxRecDepth 20000 in
theorem ggX8_comesUp_X8_go : GoodIn wsX8_comesUp wsX8_go := goodIn_r _ [26, 2, 27, 28, 29, 7, 30, 31, 32, 33, 34, 20, 21, 22, 35, 36, 37, 38, 39, 40, 41, 42, 43, 44, 45, 46, 47, 48, 49, 50, 51, 52, 53, 54, 55, 56, 57, 58] (by decide +kernel) (by decide +kernel)
set_option maxRecDepth 20000 in
theorem gX8_comesUp_X8_go : GoodIn wsX8_comesUp (wsV RX8 200 RX8 yX8_go wsX8_go) := goodIn_app (goodIn_of _ (by decide +kernel)) ggX8_comesUp_X8_go
theorem dX8_comesUp_0 : decode cX8_comesUp 0 = .ok (.aload_n 0, 1) := by decide +kernel
theorem dX8_comesUp_1 : decode cX8_comesUp 1 = .ok (.iload_n 1, 1) := by decide +kernel
theorem dX8_comesUp_2 : decode cX8_comesUp 2 = .ok (.invokevirtual 177, 3) := by decide +kernel
theorem dX8_comesUp_5 : decode cX8_comesUp 5 = .ok (.ifCond .ne 6, 3) := by decide +kernel
theorem dX8_comesUp_8 : decode cX8_comesUp 8 = .ok (.ldc 70, 2) := by decide +kernel
theorem dX8_comesUp_10 : decode cX8_comesUp 10 = .ok (.ireturn, 1) := by decide +kernel
theorem dX8_comesUp_11 : decode cX8_comesUp 11 = .ok (.aload_n 0, 1) := by decide +kernel
theorem dX8_comesUp_12 : decode cX8_comesUp 12 = .ok (.invokevirtual 197, 3) := by decide +kernel
theorem dX8_comesUp_15 : decode cX8_comesUp 15 = .ok (.iconst 0, 1) := by decide +kernel
theorem dX8_comesUp_16 : decode cX8_comesUp 16 = .ok (.istore_n 2, 1) := by decide +kernel
theorem dX8_comesUp_17 : decode cX8_comesUp 17 = .ok (.iload_n 2, 1) := by decide +kernel
theorem dX8_comesUp_18 : decode cX8_comesUp 18 = .ok (.bipush 100, 2) := by decide +kernel
theorem dX8_comesUp_20 : decode cX8_comesUp 20 = .ok (.if_icmp .ge 27, 3) := by decide +kernel
theorem dX8_comesUp_23 : decode cX8_comesUp 23 = .ok (.aload_n 0, 1) := by decide +kernel
theorem dX8_comesUp_24 : decode cX8_comesUp 24 = .ok (.getfield 25, 3) := by decide +kernel
theorem dX8_comesUp_27 : decode cX8_comesUp 27 = .ok (.iload_n 1, 1) := by decide +kernel
theorem dX8_comesUp_28 : decode cX8_comesUp 28 = .ok (.invokestatic 142, 3) := by decide +kernel
theorem dX8_comesUp_31 : decode cX8_comesUp 31 = .ok (.ifCond .ne 5, 3) := by decide +kernel
theorem dX8_comesUp_34 : decode cX8_comesUp 34 = .ok (.iload_n 2, 1) := by decide +kernel
theorem dX8_comesUp_35 : decode cX8_comesUp 35 = .ok (.ireturn, 1) := by decide +kernel
theorem dX8_comesUp_36 : decode cX8_comesUp 36 = .ok (.aload_n 0, 1) := by decide +kernel
theorem dX8_comesUp_37 : decode cX8_comesUp 37 = .ok (.iconst 1, 1) := by decide +kernel
theorem dX8_comesUp_38 : decode cX8_comesUp 38 = .ok (.invokevirtual 200, 3) := by decide +kernel
theorem dX8_comesUp_41 : decode cX8_comesUp 41 = .ok (.iinc 2 1, 3) := by decide +kernel
theorem dX8_comesUp_44 : decode cX8_comesUp 44 = .ok (.goto (-27), 3) := by decide +kernel
theorem dX8_comesUp_47 : decode cX8_comesUp 47 = .ok (.ldc 157, 2) := by decide +kernel
theorem dX8_comesUp_49 : decode cX8_comesUp 49 = .ok (.ireturn, 1) := by decide +kernel
set_option maxRecDepth 20000 in
theorem ggX8_first_X8_isMine : GoodIn wsX8_first wsX8_isMine := goodIn_r _ [10, 3, 45, 46, 47, 48, 49, 50, 51, 52, 53, 54, 55, 56, 57, 58, 59, 60, 61, 62, 63, 64, 65, 66, 67, 68] (by decide +kernel) (by decide +kernel)
set_option maxRecDepth 20000 in
theorem gX8_first_X8_isMine : GoodIn wsX8_first (wsV RX8 160 RX8 yX8_isMine wsX8_isMine) := goodIn_app (goodIn_of _ (by decide +kernel)) ggX8_first_X8_isMine
set_option maxRecDepth 20000 in
theorem ggX8_first_X8_isTwo : GoodIn wsX8_first wsX8_isTwo := goodIn_r _ [13, 14, 15, 9, 16] (by decide +kernel) (by decide +kernel)
set_option maxRecDepth 20000 in
theorem gX8_first_X8_isTwo : GoodIn wsX8_first (va_wsS RX8 184 yX8_isTwo wsX8_isTwo) := goodIn_app (goodIn_of _ (by decide +kernel)) ggX8_first_X8_isTwo
set_option maxRecDepth 20000 in
theorem ggX8_first_X8_upOf : GoodIn wsX8_first wsX8_upOf := goodIn_r _ [19, 20, 21, 9, 22] (by decide +kernel) (by decide +kernel)
set_option maxRecDepth 20000 in
theorem gX8_first_X8_upOf : GoodIn wsX8_first (va_wsS RX8 173 yX8_upOf wsX8_upOf) := goodIn_app (goodIn_of _ (by decide +kernel)) ggX8_first_X8_upOf
set_option maxRecDepth 20000 in
theorem ggX8_first_X8_layAside : GoodIn wsX8_first wsX8_layAside := goodIn_r _ [26, 3, 4, 27, 28, 9, 29, 45, 46, 47, 48, 49, 50, 51, 52, 53, 54, 55, 56, 57, 58, 59, 60, 61, 62, 63, 64, 65, 66, 67, 68] (by decide +kernel) (by decide +kernel)
set_option maxRecDepth 20000 in
theorem gX8_first_X8_layAside : GoodIn wsX8_first (wsV RX8 197 RX8 yX8_layAside wsX8_layAside) := goodIn_app (goodIn_of _ (by decide +kernel)) ggX8_first_X8_layAside
set_option maxRecDepth 20000 in
theorem ggX8_first_X8_go : GoodIn wsX8_first wsX8_go := goodIn_r _ [33, 4, 34, 35, 36, 9, 37, 38, 39, 40, 41, 20, 21, 22, 45, 46, 47, 48, 49, 50, 51, 52, 53, 54, 55, 56, 57, 58, 59, 60, 61, 62, 63, 64, 65, 66, 67, 68] (by decide +kernel) (by decide +kernel)
set_option maxRecDepth 20000 in
theorem gX8_first_X8_go : GoodIn wsX8_first (wsV RX8 200 RX8 yX8_go wsX8_go) := goodIn_app (goodIn_of _ (by decide +kernel)) ggX8_first_X8_go
set_option maxRecDepth 20000 in
theorem ggX8_first_X8_has : GoodIn wsX8_first wsX8_has := goodIn_r _ [44] (by decide +kernel) (by decide +kernel)
set_option maxRecDepth 20000 in
theorem gX8_first_X8_has : GoodIn wsX8_first (va_wsS RX8 187 yX8_has wsX8_has) := goodIn_app (goodIn_of _ (by decide +kernel)) ggX8_first_X8_has
theorem dX8_first_0 : decode cX8_first 0 = .ok (.aload_n 0, 1) := by decide +kernel
theorem dX8_first_1 : decode cX8_first 1 = .ok (.invokevirtual 160, 3) := by decide +kernel
theorem dX8_first_4 : decode cX8_first 4 = .ok (.ifCond .ne 6, 3) := by decide +kernel
theorem dX8_first_7 : decode cX8_first 7 = .ok (.ldc 163, 2) := by decide +kernel
theorem dX8_first_9 : decode cX8_first 9 = .ok (.ireturn, 1) := by decide +kernel
theorem dX8_first_10 : decode cX8_first 10 = .ok (.iload_n 1, 1) := by decide +kernel
theorem dX8_first_11 : decode cX8_first 11 = .ok (.invokestatic 184, 3) := by decide +kernel
theorem dX8_first_14 : decode cX8_first 14 = .ok (.ifCond .ne 6, 3) := by decide +kernel
theorem dX8_first_17 : decode cX8_first 17 = .ok (.ldc 70, 2) := by decide +kernel
theorem dX8_first_19 : decode cX8_first 19 = .ok (.ireturn, 1) := by decide +kernel
theorem dX8_first_20 : decode cX8_first 20 = .ok (.aload_n 0, 1) := by decide +kernel
theorem dX8_first_21 : decode cX8_first 21 = .ok (.getfield 19, 3) := by decide +kernel
theorem dX8_first_24 : decode cX8_first 24 = .ok (.invokestatic 173, 3) := by decide +kernel
theorem dX8_first_27 : decode cX8_first 27 = .ok (.istore_n 2, 1) := by decide +kernel
theorem dX8_first_28 : decode cX8_first 28 = .ok (.aload_n 0, 1) := by decide +kernel
theorem dX8_first_29 : decode cX8_first 29 = .ok (.invokevirtual 197, 3) := by decide +kernel
theorem dX8_first_32 : decode cX8_first 32 = .ok (.iconst 1, 1) := by decide +kernel
theorem dX8_first_33 : decode cX8_first 33 = .ok (.istore_n 3, 1) := by decide +kernel
theorem dX8_first_34 : decode cX8_first 34 = .ok (.iload_n 3, 1) := by decide +kernel
theorem dX8_first_35 : decode cX8_first 35 = .ok (.bipush 100, 2) := by decide +kernel
theorem dX8_first_37 : decode cX8_first 37 = .ok (.if_icmp .ge 63, 3) := by decide +kernel
theorem dX8_first_40 : decode cX8_first 40 = .ok (.aload_n 0, 1) := by decide +kernel
theorem dX8_first_41 : decode cX8_first 41 = .ok (.iconst 1, 1) := by decide +kernel
theorem dX8_first_42 : decode cX8_first 42 = .ok (.invokevirtual 200, 3) := by decide +kernel
theorem dX8_first_45 : decode cX8_first 45 = .ok (.aload_n 0, 1) := by decide +kernel
theorem dX8_first_46 : decode cX8_first 46 = .ok (.getfield 25, 3) := by decide +kernel
theorem dX8_first_49 : decode cX8_first 49 = .ok (.invokestatic 173, 3) := by decide +kernel
theorem dX8_first_52 : decode cX8_first 52 = .ok (.iload_n 2, 1) := by decide +kernel
theorem dX8_first_53 : decode cX8_first 53 = .ok (.iconst (-1), 1) := by decide +kernel
theorem dX8_first_54 : decode cX8_first 54 = .ok (.ixor, 1) := by decide +kernel
theorem dX8_first_55 : decode cX8_first 55 = .ok (.iand, 1) := by decide +kernel
theorem dX8_first_56 : decode cX8_first 56 = .ok (.istore 4, 2) := by decide +kernel
theorem dX8_first_58 : decode cX8_first 58 = .ok (.iconst 0, 1) := by decide +kernel
theorem dX8_first_59 : decode cX8_first 59 = .ok (.istore 5, 2) := by decide +kernel
theorem dX8_first_61 : decode cX8_first 61 = .ok (.iload 5, 2) := by decide +kernel
theorem dX8_first_63 : decode cX8_first 63 = .ok (.iconst 5, 1) := by decide +kernel
theorem dX8_first_64 : decode cX8_first 64 = .ok (.if_icmp .ge 30, 3) := by decide +kernel
theorem dX8_first_67 : decode cX8_first 67 = .ok (.iload 4, 2) := by decide +kernel
theorem dX8_first_69 : decode cX8_first 69 = .ok (.iload 5, 2) := by decide +kernel
theorem dX8_first_71 : decode cX8_first 71 = .ok (.invokestatic 187, 3) := by decide +kernel
theorem dX8_first_74 : decode cX8_first 74 = .ok (.ifCond .eq 14, 3) := by decide +kernel
theorem dX8_first_77 : decode cX8_first 77 = .ok (.iload_n 1, 1) := by decide +kernel
theorem dX8_first_78 : decode cX8_first 78 = .ok (.ifCond .ne 8, 3) := by decide +kernel
theorem dX8_first_81 : decode cX8_first 81 = .ok (.iload 5, 2) := by decide +kernel
theorem dX8_first_83 : decode cX8_first 83 = .ok (.goto 4, 3) := by decide +kernel
theorem dX8_first_86 : decode cX8_first 86 = .ok (.iload_n 3, 1) := by decide +kernel
theorem dX8_first_87 : decode cX8_first 87 = .ok (.ireturn, 1) := by decide +kernel
theorem dX8_first_88 : decode cX8_first 88 = .ok (.iinc 5 1, 3) := by decide +kernel
theorem dX8_first_91 : decode cX8_first 91 = .ok (.goto (-30), 3) := by decide +kernel
theorem dX8_first_94 : decode cX8_first 94 = .ok (.iinc 3 1, 3) := by decide +kernel
theorem dX8_first_97 : decode cX8_first 97 = .ok (.goto (-63), 3) := by decide +kernel
theorem dX8_first_100 : decode cX8_first 100 = .ok (.ldc 157, 2) := by decide +kernel
theorem dX8_first_102 : decode cX8_first 102 = .ok (.ireturn, 1) := by decide +kernel
set_option maxRecDepth 20000 in
theorem ggX8_trouble_X8_isMine : GoodIn wsX8_trouble wsX8_isMine := goodIn_r _ [9, 10, 48, 49, 50, 51, 52, 53, 54, 55, 56, 57, 58, 59, 60, 61, 62, 63, 64, 65, 66, 67, 68, 69, 70, 71] (by decide +kernel) (by decide +kernel)
set_option maxRecDepth 20000 in
theorem gX8_trouble_X8_isMine : GoodIn wsX8_trouble (wsV RX8 160 RX8 yX8_isMine wsX8_isMine) := goodIn_app (goodIn_of _ (by decide +kernel)) ggX8_trouble_X8_isMine
set_option maxRecDepth 20000 in
theorem ggX8_trouble_X8_isTwo : GoodIn wsX8_trouble wsX8_isTwo := goodIn_r _ [13, 14, 15, 8, 16] (by decide +kernel) (by decide +kernel)
set_option maxRecDepth 20000 in
theorem gX8_trouble_X8_isTwo : GoodIn wsX8_trouble (va_wsS RX8 184 yX8_isTwo wsX8_isTwo) := goodIn_app (goodIn_of _ (by decide +kernel)) ggX8_trouble_X8_isTwo
set_option maxRecDepth 20000 in
theorem ggX8_trouble_X8_layAside : GoodIn wsX8_trouble wsX8_layAside := goodIn_r _ [20, 10, 3, 21, 22, 8, 23, 48, 49, 50, 51, 52, 53, 54, 55, 56, 57, 58, 59, 60, 61, 62, 63, 64, 65, 66, 67, 68, 69, 70, 71] (by decide +kernel) (by decide +kernel)
set_option maxRecDepth 20000 in
theorem gX8_trouble_X8_layAside : GoodIn wsX8_trouble (wsV RX8 197 RX8 yX8_layAside wsX8_layAside) := goodIn_app (goodIn_of _ (by decide +kernel)) ggX8_trouble_X8_layAside
set_option maxRecDepth 20000 in
theorem ggX8_trouble_X8_twoOf : GoodIn wsX8_trouble wsX8_twoOf := goodIn_r _ [26, 4, 27, 28, 8, 29, 30, 31, 32, 33, 34, 35] (by decide +kernel) (by decide +kernel)
set_option maxRecDepth 20000 in
theorem gX8_trouble_X8_twoOf : GoodIn wsX8_trouble (va_wsS RX8 204 yX8_twoOf wsX8_twoOf) := goodIn_app (goodIn_of _ (by decide +kernel)) ggX8_trouble_X8_twoOf
set_option maxRecDepth 20000 in
theorem ggX8_trouble_X8_go : GoodIn wsX8_trouble wsX8_go := goodIn_r _ [39, 3, 40, 41, 42, 8, 43, 44, 45, 46, 47, 30, 31, 32, 48, 49, 50, 51, 52, 53, 54, 55, 56, 57, 58, 59, 60, 61, 62, 63, 64, 65, 66, 67, 68, 69, 70, 71] (by decide +kernel) (by decide +kernel)
set_option maxRecDepth 20000 in
theorem gX8_trouble_X8_go : GoodIn wsX8_trouble (wsV RX8 200 RX8 yX8_go wsX8_go) := goodIn_app (goodIn_of _ (by decide +kernel)) ggX8_trouble_X8_go
theorem dX8_trouble_0 : decode cX8_trouble 0 = .ok (.aload_n 0, 1) := by decide +kernel
theorem dX8_trouble_1 : decode cX8_trouble 1 = .ok (.invokevirtual 160, 3) := by decide +kernel
theorem dX8_trouble_4 : decode cX8_trouble 4 = .ok (.ifCond .ne 6, 3) := by decide +kernel
theorem dX8_trouble_7 : decode cX8_trouble 7 = .ok (.ldc 163, 2) := by decide +kernel
theorem dX8_trouble_9 : decode cX8_trouble 9 = .ok (.ireturn, 1) := by decide +kernel
theorem dX8_trouble_10 : decode cX8_trouble 10 = .ok (.iload_n 1, 1) := by decide +kernel
theorem dX8_trouble_11 : decode cX8_trouble 11 = .ok (.invokestatic 184, 3) := by decide +kernel
theorem dX8_trouble_14 : decode cX8_trouble 14 = .ok (.ifCond .ne 6, 3) := by decide +kernel
theorem dX8_trouble_17 : decode cX8_trouble 17 = .ok (.ldc 70, 2) := by decide +kernel
theorem dX8_trouble_19 : decode cX8_trouble 19 = .ok (.ireturn, 1) := by decide +kernel
theorem dX8_trouble_20 : decode cX8_trouble 20 = .ok (.aload_n 0, 1) := by decide +kernel
theorem dX8_trouble_21 : decode cX8_trouble 21 = .ok (.invokevirtual 197, 3) := by decide +kernel
theorem dX8_trouble_24 : decode cX8_trouble 24 = .ok (.iconst 0, 1) := by decide +kernel
theorem dX8_trouble_25 : decode cX8_trouble 25 = .ok (.istore_n 2, 1) := by decide +kernel
theorem dX8_trouble_26 : decode cX8_trouble 26 = .ok (.iload_n 2, 1) := by decide +kernel
theorem dX8_trouble_27 : decode cX8_trouble 27 = .ok (.bipush 100, 2) := by decide +kernel
theorem dX8_trouble_29 : decode cX8_trouble 29 = .ok (.if_icmp .ge 38, 3) := by decide +kernel
theorem dX8_trouble_32 : decode cX8_trouble 32 = .ok (.aload_n 0, 1) := by decide +kernel
theorem dX8_trouble_33 : decode cX8_trouble 33 = .ok (.getfield 25, 3) := by decide +kernel
theorem dX8_trouble_36 : decode cX8_trouble 36 = .ok (.invokestatic 204, 3) := by decide +kernel
theorem dX8_trouble_39 : decode cX8_trouble 39 = .ok (.istore_n 3, 1) := by decide +kernel
theorem dX8_trouble_40 : decode cX8_trouble 40 = .ok (.iload_n 3, 1) := by decide +kernel
theorem dX8_trouble_41 : decode cX8_trouble 41 = .ok (.ldc 157, 2) := by decide +kernel
theorem dX8_trouble_43 : decode cX8_trouble 43 = .ok (.if_icmp .eq 13, 3) := by decide +kernel
theorem dX8_trouble_46 : decode cX8_trouble 46 = .ok (.iload_n 1, 1) := by decide +kernel
theorem dX8_trouble_47 : decode cX8_trouble 47 = .ok (.ifCond .ne 7, 3) := by decide +kernel
theorem dX8_trouble_50 : decode cX8_trouble 50 = .ok (.iload_n 2, 1) := by decide +kernel
theorem dX8_trouble_51 : decode cX8_trouble 51 = .ok (.goto 4, 3) := by decide +kernel
theorem dX8_trouble_54 : decode cX8_trouble 54 = .ok (.iload_n 3, 1) := by decide +kernel
theorem dX8_trouble_55 : decode cX8_trouble 55 = .ok (.ireturn, 1) := by decide +kernel
theorem dX8_trouble_56 : decode cX8_trouble 56 = .ok (.aload_n 0, 1) := by decide +kernel
theorem dX8_trouble_57 : decode cX8_trouble 57 = .ok (.iconst 1, 1) := by decide +kernel
theorem dX8_trouble_58 : decode cX8_trouble 58 = .ok (.invokevirtual 200, 3) := by decide +kernel
theorem dX8_trouble_61 : decode cX8_trouble 61 = .ok (.iinc 2 1, 3) := by decide +kernel
theorem dX8_trouble_64 : decode cX8_trouble 64 = .ok (.goto (-38), 3) := by decide +kernel
theorem dX8_trouble_67 : decode cX8_trouble 67 = .ok (.ldc 157, 2) := by decide +kernel
theorem dX8_trouble_69 : decode cX8_trouble 69 = .ok (.ireturn, 1) := by decide +kernel
set_option maxRecDepth 20000 in
theorem ggX8_rests_X8_upOf : GoodIn wsX8_rests wsX8_upOf := goodIn_r _ [7, 8, 9, 6, 10] (by decide +kernel) (by decide +kernel)
set_option maxRecDepth 20000 in
theorem gX8_rests_X8_upOf : GoodIn wsX8_rests (va_wsS RX8 173 yX8_upOf wsX8_upOf) := goodIn_app (goodIn_of _ (by decide +kernel)) ggX8_rests_X8_upOf
set_option maxRecDepth 20000 in
theorem ggX8_rests_X8_twoOf : GoodIn wsX8_rests wsX8_twoOf := goodIn_r _ [13, 3, 14, 15, 6, 16, 8, 9, 10, 17, 18, 19] (by decide +kernel) (by decide +kernel)
set_option maxRecDepth 20000 in
theorem gX8_rests_X8_twoOf : GoodIn wsX8_rests (va_wsS RX8 204 yX8_twoOf wsX8_twoOf) := goodIn_app (goodIn_of _ (by decide +kernel)) ggX8_rests_X8_twoOf
set_option maxRecDepth 20000 in
theorem ggX8_rests_X8_go : GoodIn wsX8_rests wsX8_go := goodIn_r _ [23, 2, 24, 25, 26, 6, 27, 28, 29, 30, 31, 8, 9, 10, 32, 33, 34, 35, 36, 37, 38, 39, 40, 41, 42, 43, 44, 45, 46, 47, 48, 49, 50, 51, 52, 53, 54, 55] (by decide +kernel) (by decide +kernel)
set_option maxRecDepth 20000 in
theorem gX8_rests_X8_go : GoodIn wsX8_rests (wsV RX8 200 RX8 yX8_go wsX8_go) := goodIn_app (goodIn_of _ (by decide +kernel)) ggX8_rests_X8_go
theorem dX8_rests_0 : decode cX8_rests 0 = .ok (.aload_n 0, 1) := by decide +kernel
theorem dX8_rests_1 : decode cX8_rests 1 = .ok (.getfield 19, 3) := by decide +kernel
theorem dX8_rests_4 : decode cX8_rests 4 = .ok (.invokestatic 173, 3) := by decide +kernel
theorem dX8_rests_7 : decode cX8_rests 7 = .ok (.istore_n 2, 1) := by decide +kernel
theorem dX8_rests_8 : decode cX8_rests 8 = .ok (.iconst 0, 1) := by decide +kernel
theorem dX8_rests_9 : decode cX8_rests 9 = .ok (.istore_n 3, 1) := by decide +kernel
theorem dX8_rests_10 : decode cX8_rests 10 = .ok (.iload_n 3, 1) := by decide +kernel
theorem dX8_rests_11 : decode cX8_rests 11 = .ok (.iload_n 1, 1) := by decide +kernel
theorem dX8_rests_12 : decode cX8_rests 12 = .ok (.if_icmp .gt 39, 3) := by decide +kernel
theorem dX8_rests_15 : decode cX8_rests 15 = .ok (.aload_n 0, 1) := by decide +kernel
theorem dX8_rests_16 : decode cX8_rests 16 = .ok (.getfield 25, 3) := by decide +kernel
theorem dX8_rests_19 : decode cX8_rests 19 = .ok (.invokestatic 204, 3) := by decide +kernel
theorem dX8_rests_22 : decode cX8_rests 22 = .ok (.ldc 157, 2) := by decide +kernel
theorem dX8_rests_24 : decode cX8_rests 24 = .ok (.if_icmp .ne 14, 3) := by decide +kernel
theorem dX8_rests_27 : decode cX8_rests 27 = .ok (.aload_n 0, 1) := by decide +kernel
theorem dX8_rests_28 : decode cX8_rests 28 = .ok (.getfield 25, 3) := by decide +kernel
theorem dX8_rests_31 : decode cX8_rests 31 = .ok (.invokestatic 173, 3) := by decide +kernel
theorem dX8_rests_34 : decode cX8_rests 34 = .ok (.iload_n 2, 1) := by decide +kernel
theorem dX8_rests_35 : decode cX8_rests 35 = .ok (.if_icmp .eq 5, 3) := by decide +kernel
theorem dX8_rests_38 : decode cX8_rests 38 = .ok (.iconst 0, 1) := by decide +kernel
theorem dX8_rests_39 : decode cX8_rests 39 = .ok (.ireturn, 1) := by decide +kernel
theorem dX8_rests_40 : decode cX8_rests 40 = .ok (.aload_n 0, 1) := by decide +kernel
theorem dX8_rests_41 : decode cX8_rests 41 = .ok (.iconst 1, 1) := by decide +kernel
theorem dX8_rests_42 : decode cX8_rests 42 = .ok (.invokevirtual 200, 3) := by decide +kernel
theorem dX8_rests_45 : decode cX8_rests 45 = .ok (.iinc 3 1, 3) := by decide +kernel
theorem dX8_rests_48 : decode cX8_rests 48 = .ok (.goto (-38), 3) := by decide +kernel
theorem dX8_rests_51 : decode cX8_rests 51 = .ok (.iconst 1, 1) := by decide +kernel
theorem dX8_rests_52 : decode cX8_rests 52 = .ok (.ireturn, 1) := by decide +kernel
set_option maxRecDepth 20000 in
theorem ggX8_layPlaces_X8_layAside : GoodIn wsX8_layPlaces wsX8_layAside := goodIn_r _ [9, 1, 4, 10, 11, 8, 12, 16, 17, 18, 19, 20, 21, 22, 23, 24, 25, 26, 27, 28, 29, 30, 31, 32, 33, 34, 35, 36, 37, 38, 39] (by decide +kernel) (by decide +kernel)
set_option maxRecDepth 20000 in
theorem gX8_layPlaces_X8_layAside : GoodIn wsX8_layPlaces (wsV RX8 197 RX8 yX8_layAside wsX8_layAside) := goodIn_app (goodIn_of _ (by decide +kernel)) ggX8_layPlaces_X8_layAside
set_option maxRecDepth 20000 in
theorem ggX8_layPlaces_X8_lies : GoodIn wsX8_layPlaces wsX8_lies := goodIn_r _ [15] (by decide +kernel) (by decide +kernel)
set_option maxRecDepth 20000 in
theorem gX8_layPlaces_X8_lies : GoodIn wsX8_layPlaces (va_wsS RX8 142 yX8_lies wsX8_lies) := goodIn_app (goodIn_of _ (by decide +kernel)) ggX8_layPlaces_X8_lies
theorem dX8_layPlaces_0 : decode cX8_layPlaces 0 = .ok (.iload_n 1, 1) := by decide +kernel
theorem dX8_layPlaces_1 : decode cX8_layPlaces 1 = .ok (.istore_n 2, 1) := by decide +kernel
theorem dX8_layPlaces_2 : decode cX8_layPlaces 2 = .ok (.iconst 0, 1) := by decide +kernel
theorem dX8_layPlaces_3 : decode cX8_layPlaces 3 = .ok (.istore_n 3, 1) := by decide +kernel
theorem dX8_layPlaces_4 : decode cX8_layPlaces 4 = .ok (.aload_n 0, 1) := by decide +kernel
theorem dX8_layPlaces_5 : decode cX8_layPlaces 5 = .ok (.invokevirtual 197, 3) := by decide +kernel
theorem dX8_layPlaces_8 : decode cX8_layPlaces 8 = .ok (.aload_n 0, 1) := by decide +kernel
theorem dX8_layPlaces_9 : decode cX8_layPlaces 9 = .ok (.getfield 19, 3) := by decide +kernel
theorem dX8_layPlaces_12 : decode cX8_layPlaces 12 = .ok (.iconst 0, 1) := by decide +kernel
theorem dX8_layPlaces_13 : decode cX8_layPlaces 13 = .ok (.iaload, 1) := by decide +kernel
theorem dX8_layPlaces_14 : decode cX8_layPlaces 14 = .ok (.iconst 1, 1) := by decide +kernel
theorem dX8_layPlaces_15 : decode cX8_layPlaces 15 = .ok (.isub, 1) := by decide +kernel
theorem dX8_layPlaces_16 : decode cX8_layPlaces 16 = .ok (.istore 4, 2) := by decide +kernel
theorem dX8_layPlaces_18 : decode cX8_layPlaces 18 = .ok (.iload 4, 2) := by decide +kernel
theorem dX8_layPlaces_20 : decode cX8_layPlaces 20 = .ok (.ifCond .lt 97, 3) := by decide +kernel
theorem dX8_layPlaces_23 : decode cX8_layPlaces 23 = .ok (.aload_n 0, 1) := by decide +kernel
theorem dX8_layPlaces_24 : decode cX8_layPlaces 24 = .ok (.getfield 47, 3) := by decide +kernel
theorem dX8_layPlaces_27 : decode cX8_layPlaces 27 = .ok (.iload 4, 2) := by decide +kernel
theorem dX8_layPlaces_29 : decode cX8_layPlaces 29 = .ok (.iload_n 2, 1) := by decide +kernel
theorem dX8_layPlaces_30 : decode cX8_layPlaces 30 = .ok (.iconst 4, 1) := by decide +kernel
theorem dX8_layPlaces_31 : decode cX8_layPlaces 31 = .ok (.irem, 1) := by decide +kernel
theorem dX8_layPlaces_32 : decode cX8_layPlaces 32 = .ok (.iastore, 1) := by decide +kernel
theorem dX8_layPlaces_33 : decode cX8_layPlaces 33 = .ok (.iload_n 2, 1) := by decide +kernel
theorem dX8_layPlaces_34 : decode cX8_layPlaces 34 = .ok (.iconst 4, 1) := by decide +kernel
theorem dX8_layPlaces_35 : decode cX8_layPlaces 35 = .ok (.idiv, 1) := by decide +kernel
theorem dX8_layPlaces_36 : decode cX8_layPlaces 36 = .ok (.istore_n 2, 1) := by decide +kernel
theorem dX8_layPlaces_37 : decode cX8_layPlaces 37 = .ok (.aload_n 0, 1) := by decide +kernel
theorem dX8_layPlaces_38 : decode cX8_layPlaces 38 = .ok (.getfield 47, 3) := by decide +kernel
theorem dX8_layPlaces_41 : decode cX8_layPlaces 41 = .ok (.iload 4, 2) := by decide +kernel
theorem dX8_layPlaces_43 : decode cX8_layPlaces 43 = .ok (.iaload, 1) := by decide +kernel
theorem dX8_layPlaces_44 : decode cX8_layPlaces 44 = .ok (.aload_n 0, 1) := by decide +kernel
theorem dX8_layPlaces_45 : decode cX8_layPlaces 45 = .ok (.getfield 19, 3) := by decide +kernel
theorem dX8_layPlaces_48 : decode cX8_layPlaces 48 = .ok (.bipush 18, 2) := by decide +kernel
theorem dX8_layPlaces_50 : decode cX8_layPlaces 50 = .ok (.iload 4, 2) := by decide +kernel
theorem dX8_layPlaces_52 : decode cX8_layPlaces 52 = .ok (.iadd, 1) := by decide +kernel
theorem dX8_layPlaces_53 : decode cX8_layPlaces 53 = .ok (.iaload, 1) := by decide +kernel
theorem dX8_layPlaces_54 : decode cX8_layPlaces 54 = .ok (.if_icmp .eq 7, 3) := by decide +kernel
theorem dX8_layPlaces_57 : decode cX8_layPlaces 57 = .ok (.iconst 1, 1) := by decide +kernel
theorem dX8_layPlaces_58 : decode cX8_layPlaces 58 = .ok (.goto 4, 3) := by decide +kernel
theorem dX8_layPlaces_61 : decode cX8_layPlaces 61 = .ok (.iconst 0, 1) := by decide +kernel
theorem dX8_layPlaces_62 : decode cX8_layPlaces 62 = .ok (.istore 5, 2) := by decide +kernel
theorem dX8_layPlaces_64 : decode cX8_layPlaces 64 = .ok (.iload_n 3, 1) := by decide +kernel
theorem dX8_layPlaces_65 : decode cX8_layPlaces 65 = .ok (.iload 5, 2) := by decide +kernel
theorem dX8_layPlaces_67 : decode cX8_layPlaces 67 = .ok (.ifCond .ne 7, 3) := by decide +kernel
theorem dX8_layPlaces_70 : decode cX8_layPlaces 70 = .ok (.iconst 0, 1) := by decide +kernel
theorem dX8_layPlaces_71 : decode cX8_layPlaces 71 = .ok (.goto 21, 3) := by decide +kernel
theorem dX8_layPlaces_74 : decode cX8_layPlaces 74 = .ok (.aload_n 0, 1) := by decide +kernel
theorem dX8_layPlaces_75 : decode cX8_layPlaces 75 = .ok (.getfield 19, 3) := by decide +kernel
theorem dX8_layPlaces_78 : decode cX8_layPlaces 78 = .ok (.iload 4, 2) := by decide +kernel
theorem dX8_layPlaces_80 : decode cX8_layPlaces 80 = .ok (.invokestatic 142, 3) := by decide +kernel
theorem dX8_layPlaces_83 : decode cX8_layPlaces 83 = .ok (.ifCond .eq 7, 3) := by decide +kernel
theorem dX8_layPlaces_86 : decode cX8_layPlaces 86 = .ok (.iconst 1, 1) := by decide +kernel
theorem dX8_layPlaces_87 : decode cX8_layPlaces 87 = .ok (.goto 5, 3) := by decide +kernel
theorem dX8_layPlaces_90 : decode cX8_layPlaces 90 = .ok (.ldc 207, 2) := by decide +kernel
theorem dX8_layPlaces_92 : decode cX8_layPlaces 92 = .ok (.iadd, 1) := by decide +kernel
theorem dX8_layPlaces_93 : decode cX8_layPlaces 93 = .ok (.istore_n 3, 1) := by decide +kernel
theorem dX8_layPlaces_94 : decode cX8_layPlaces 94 = .ok (.aload_n 0, 1) := by decide +kernel
theorem dX8_layPlaces_95 : decode cX8_layPlaces 95 = .ok (.getfield 25, 3) := by decide +kernel
theorem dX8_layPlaces_98 : decode cX8_layPlaces 98 = .ok (.bipush 18, 2) := by decide +kernel
theorem dX8_layPlaces_100 : decode cX8_layPlaces 100 = .ok (.iload 4, 2) := by decide +kernel
theorem dX8_layPlaces_102 : decode cX8_layPlaces 102 = .ok (.iadd, 1) := by decide +kernel
theorem dX8_layPlaces_103 : decode cX8_layPlaces 103 = .ok (.aload_n 0, 1) := by decide +kernel
theorem dX8_layPlaces_104 : decode cX8_layPlaces 104 = .ok (.getfield 47, 3) := by decide +kernel
theorem dX8_layPlaces_107 : decode cX8_layPlaces 107 = .ok (.iload 4, 2) := by decide +kernel
theorem dX8_layPlaces_109 : decode cX8_layPlaces 109 = .ok (.iaload, 1) := by decide +kernel
theorem dX8_layPlaces_110 : decode cX8_layPlaces 110 = .ok (.iastore, 1) := by decide +kernel
theorem dX8_layPlaces_111 : decode cX8_layPlaces 111 = .ok (.iinc 4 (-1), 3) := by decide +kernel
theorem dX8_layPlaces_114 : decode cX8_layPlaces 114 = .ok (.goto (-96), 3) := by decide +kernel
theorem dX8_layPlaces_117 : decode cX8_layPlaces 117 = .ok (.iload_n 3, 1) := by decide +kernel
theorem dX8_layPlaces_118 : decode cX8_layPlaces 118 = .ok (.ireturn, 1) := by decide +kernel
set_option maxRecDepth 20000 in
theorem ggX8_lay_X8_isMine : GoodIn wsX8_lay wsX8_isMine := goodIn_r _ [14, 6, 69, 70, 71, 72, 73, 74, 75, 76, 77, 78, 79, 80, 81, 82, 83, 84, 85, 86, 87, 88, 89, 90, 91, 92] (by decide +kernel) (by decide +kernel)
set_option maxRecDepth 20000 in
theorem gX8_lay_X8_isMine : GoodIn wsX8_lay (wsV RX8 160 RX8 yX8_isMine wsX8_isMine) := goodIn_app (goodIn_of _ (by decide +kernel)) ggX8_lay_X8_isMine
set_option maxRecDepth 20000 in
theorem ggX8_lay_X8_isSpan : GoodIn wsX8_lay wsX8_isSpan := goodIn_r _ [17, 18, 19, 20, 13, 21] (by decide +kernel) (by decide +kernel)
set_option maxRecDepth 20000 in
theorem gX8_lay_X8_isSpan : GoodIn wsX8_lay (va_wsS RX8 194 yX8_isSpan wsX8_isSpan) := goodIn_app (goodIn_of _ (by decide +kernel)) ggX8_lay_X8_isSpan
set_option maxRecDepth 20000 in
theorem ggX8_lay_X8_in : GoodIn wsX8_lay wsX8_in := goodIn_r _ [21] (by decide +kernel) (by decide +kernel)
set_option maxRecDepth 20000 in
theorem gX8_lay_X8_in : GoodIn wsX8_lay (va_wsS RX8 60 yX8_in wsX8_in) := goodIn_app (goodIn_of _ (by decide +kernel)) ggX8_lay_X8_in
set_option maxRecDepth 20000 in
theorem ggX8_lay_X8_layPlaces : GoodIn wsX8_lay wsX8_layPlaces := goodIn_r _ [25, 6, 8, 5, 26, 27, 28, 29, 13, 30, 31, 32, 33, 34, 35, 36, 69, 70, 71, 72, 73, 74, 75, 76, 77, 78, 79, 80, 81, 82, 83, 84, 85, 86, 87, 88, 89, 90, 91, 92] (by decide +kernel) (by decide +kernel)
set_option maxRecDepth 20000 in
theorem gX8_lay_X8_layPlaces : GoodIn wsX8_lay (wsV RX8 212 RX8 yX8_layPlaces wsX8_layPlaces) := goodIn_app (goodIn_of _ (by decide +kernel)) ggX8_lay_X8_layPlaces
set_option maxRecDepth 20000 in
theorem ggX8_lay_X8_rests : GoodIn wsX8_lay wsX8_rests := goodIn_r _ [40, 6, 26, 9, 41, 42, 13, 43, 34, 35, 36, 44, 45, 46, 47, 48, 49, 50, 51, 52, 53, 54, 55, 56, 57, 58, 59, 60, 61, 62, 63, 64, 69, 70, 71, 72, 73, 74, 75, 76, 77, 78, 79, 80, 81, 82, 83, 84, 85, 86, 87, 88, 89, 90, 91, 92] (by decide +kernel) (by decide +kernel)
set_option maxRecDepth 20000 in
theorem gX8_lay_X8_rests : GoodIn wsX8_lay (wsV RX8 215 RX8 yX8_rests wsX8_rests) := goodIn_app (goodIn_of _ (by decide +kernel)) ggX8_lay_X8_rests
set_option maxRecDepth 20000 in
theorem ggX8_lay_X8_isThing : GoodIn wsX8_lay wsX8_isThing := goodIn_r _ [68, 6, 19, 20, 13, 21, 69, 70, 71, 72, 73, 74, 75, 76, 77, 78, 79, 80, 81, 82, 83, 84, 85, 86, 87, 88, 89, 90, 91, 92] (by decide +kernel) (by decide +kernel)
set_option maxRecDepth 20000 in
theorem gX8_lay_X8_isThing : GoodIn wsX8_lay (wsV RX8 177 RX8 yX8_isThing wsX8_isThing) := goodIn_app (goodIn_of _ (by decide +kernel)) ggX8_lay_X8_isThing
theorem dX8_lay_0 : decode cX8_lay 0 = .ok (.aload_n 0, 1) := by decide +kernel
theorem dX8_lay_1 : decode cX8_lay 1 = .ok (.invokevirtual 160, 3) := by decide +kernel
theorem dX8_lay_4 : decode cX8_lay 4 = .ok (.ifCond .ne 6, 3) := by decide +kernel
theorem dX8_lay_7 : decode cX8_lay 7 = .ok (.ldc 163, 2) := by decide +kernel
theorem dX8_lay_9 : decode cX8_lay 9 = .ok (.ireturn, 1) := by decide +kernel
theorem dX8_lay_10 : decode cX8_lay 10 = .ok (.iload_n 1, 1) := by decide +kernel
theorem dX8_lay_11 : decode cX8_lay 11 = .ok (.invokestatic 194, 3) := by decide +kernel
theorem dX8_lay_14 : decode cX8_lay 14 = .ok (.ifCond .eq 17, 3) := by decide +kernel
theorem dX8_lay_17 : decode cX8_lay 17 = .ok (.iload_n 2, 1) := by decide +kernel
theorem dX8_lay_18 : decode cX8_lay 18 = .ok (.i2l, 1) := by decide +kernel
theorem dX8_lay_19 : decode cX8_lay 19 = .ok (.ldc2_w 208, 3) := by decide +kernel
theorem dX8_lay_22 : decode cX8_lay 22 = .ok (.ldc2_w 210, 3) := by decide +kernel
theorem dX8_lay_25 : decode cX8_lay 25 = .ok (.invokestatic 60, 3) := by decide +kernel
theorem dX8_lay_28 : decode cX8_lay 28 = .ok (.ifCond .ne 6, 3) := by decide +kernel
theorem dX8_lay_31 : decode cX8_lay 31 = .ok (.ldc 70, 2) := by decide +kernel
theorem dX8_lay_33 : decode cX8_lay 33 = .ok (.ireturn, 1) := by decide +kernel
theorem dX8_lay_34 : decode cX8_lay 34 = .ok (.ldc 207, 2) := by decide +kernel
theorem dX8_lay_36 : decode cX8_lay 36 = .ok (.istore_n 3, 1) := by decide +kernel
theorem dX8_lay_37 : decode cX8_lay 37 = .ok (.iconst 0, 1) := by decide +kernel
theorem dX8_lay_38 : decode cX8_lay 38 = .ok (.istore 4, 2) := by decide +kernel
theorem dX8_lay_40 : decode cX8_lay 40 = .ok (.iload 4, 2) := by decide +kernel
theorem dX8_lay_42 : decode cX8_lay 42 = .ok (.iconst 1, 1) := by decide +kernel
theorem dX8_lay_43 : decode cX8_lay 43 = .ok (.iconst 2, 1) := by decide +kernel
theorem dX8_lay_44 : decode cX8_lay 44 = .ok (.aload_n 0, 1) := by decide +kernel
theorem dX8_lay_45 : decode cX8_lay 45 = .ok (.getfield 19, 3) := by decide +kernel
theorem dX8_lay_48 : decode cX8_lay 48 = .ok (.iconst 0, 1) := by decide +kernel
theorem dX8_lay_49 : decode cX8_lay 49 = .ok (.iaload, 1) := by decide +kernel
theorem dX8_lay_50 : decode cX8_lay 50 = .ok (.imul, 1) := by decide +kernel
theorem dX8_lay_51 : decode cX8_lay 51 = .ok (.ishl, 1) := by decide +kernel
theorem dX8_lay_52 : decode cX8_lay 52 = .ok (.if_icmp .ge 63, 3) := by decide +kernel
theorem dX8_lay_55 : decode cX8_lay 55 = .ok (.aload_n 0, 1) := by decide +kernel
theorem dX8_lay_56 : decode cX8_lay 56 = .ok (.iload 4, 2) := by decide +kernel
theorem dX8_lay_58 : decode cX8_lay 58 = .ok (.invokevirtual 212, 3) := by decide +kernel
theorem dX8_lay_61 : decode cX8_lay 61 = .ok (.istore 5, 2) := by decide +kernel
theorem dX8_lay_63 : decode cX8_lay 63 = .ok (.iload 5, 2) := by decide +kernel
theorem dX8_lay_65 : decode cX8_lay 65 = .ok (.iload_n 3, 1) := by decide +kernel
theorem dX8_lay_66 : decode cX8_lay 66 = .ok (.if_icmp .ge 43, 3) := by decide +kernel
theorem dX8_lay_69 : decode cX8_lay 69 = .ok (.aload_n 0, 1) := by decide +kernel
theorem dX8_lay_70 : decode cX8_lay 70 = .ok (.iload_n 1, 1) := by decide +kernel
theorem dX8_lay_71 : decode cX8_lay 71 = .ok (.invokevirtual 215, 3) := by decide +kernel
theorem dX8_lay_74 : decode cX8_lay 74 = .ok (.ifCond .eq 35, 3) := by decide +kernel
theorem dX8_lay_77 : decode cX8_lay 77 = .ok (.iload 5, 2) := by decide +kernel
theorem dX8_lay_79 : decode cX8_lay 79 = .ok (.istore_n 3, 1) := by decide +kernel
theorem dX8_lay_80 : decode cX8_lay 80 = .ok (.iconst 0, 1) := by decide +kernel
theorem dX8_lay_81 : decode cX8_lay 81 = .ok (.istore 6, 2) := by decide +kernel
theorem dX8_lay_83 : decode cX8_lay 83 = .ok (.iload 6, 2) := by decide +kernel
theorem dX8_lay_85 : decode cX8_lay 85 = .ok (.iconst 5, 1) := by decide +kernel
theorem dX8_lay_86 : decode cX8_lay 86 = .ok (.if_icmp .ge 23, 3) := by decide +kernel
theorem dX8_lay_89 : decode cX8_lay 89 = .ok (.aload_n 0, 1) := by decide +kernel
theorem dX8_lay_90 : decode cX8_lay 90 = .ok (.getfield 50, 3) := by decide +kernel
theorem dX8_lay_93 : decode cX8_lay 93 = .ok (.iload 6, 2) := by decide +kernel
theorem dX8_lay_95 : decode cX8_lay 95 = .ok (.aload_n 0, 1) := by decide +kernel
theorem dX8_lay_96 : decode cX8_lay 96 = .ok (.getfield 47, 3) := by decide +kernel
theorem dX8_lay_99 : decode cX8_lay 99 = .ok (.iload 6, 2) := by decide +kernel
theorem dX8_lay_101 : decode cX8_lay 101 = .ok (.iaload, 1) := by decide +kernel
theorem dX8_lay_102 : decode cX8_lay 102 = .ok (.iastore, 1) := by decide +kernel
theorem dX8_lay_103 : decode cX8_lay 103 = .ok (.iinc 6 1, 3) := by decide +kernel
theorem dX8_lay_106 : decode cX8_lay 106 = .ok (.goto (-23), 3) := by decide +kernel
theorem dX8_lay_109 : decode cX8_lay 109 = .ok (.iinc 4 1, 3) := by decide +kernel
theorem dX8_lay_112 : decode cX8_lay 112 = .ok (.goto (-72), 3) := by decide +kernel
theorem dX8_lay_115 : decode cX8_lay 115 = .ok (.iload_n 3, 1) := by decide +kernel
theorem dX8_lay_116 : decode cX8_lay 116 = .ok (.ldc 207, 2) := by decide +kernel
theorem dX8_lay_118 : decode cX8_lay 118 = .ok (.if_icmp .ne 8, 3) := by decide +kernel
theorem dX8_lay_121 : decode cX8_lay 121 = .ok (.ldc 157, 2) := by decide +kernel
theorem dX8_lay_123 : decode cX8_lay 123 = .ok (.goto 31, 3) := by decide +kernel
theorem dX8_lay_126 : decode cX8_lay 126 = .ok (.iload_n 2, 1) := by decide +kernel
theorem dX8_lay_127 : decode cX8_lay 127 = .ok (.iconst (-1), 1) := by decide +kernel
theorem dX8_lay_128 : decode cX8_lay 128 = .ok (.if_icmp .ne 7, 3) := by decide +kernel
theorem dX8_lay_131 : decode cX8_lay 131 = .ok (.iload_n 3, 1) := by decide +kernel
theorem dX8_lay_132 : decode cX8_lay 132 = .ok (.goto 22, 3) := by decide +kernel
theorem dX8_lay_135 : decode cX8_lay 135 = .ok (.aload_n 0, 1) := by decide +kernel
theorem dX8_lay_136 : decode cX8_lay 136 = .ok (.iload_n 2, 1) := by decide +kernel
theorem dX8_lay_137 : decode cX8_lay 137 = .ok (.invokevirtual 177, 3) := by decide +kernel
theorem dX8_lay_140 : decode cX8_lay 140 = .ok (.ifCond .eq 12, 3) := by decide +kernel
theorem dX8_lay_143 : decode cX8_lay 143 = .ok (.aload_n 0, 1) := by decide +kernel
theorem dX8_lay_144 : decode cX8_lay 144 = .ok (.getfield 50, 3) := by decide +kernel
theorem dX8_lay_147 : decode cX8_lay 147 = .ok (.iload_n 2, 1) := by decide +kernel
theorem dX8_lay_148 : decode cX8_lay 148 = .ok (.iaload, 1) := by decide +kernel
theorem dX8_lay_149 : decode cX8_lay 149 = .ok (.goto 5, 3) := by decide +kernel
theorem dX8_lay_152 : decode cX8_lay 152 = .ok (.ldc 157, 2) := by decide +kernel
theorem dX8_lay_154 : decode cX8_lay 154 = .ok (.ireturn, 1) := by decide +kernel
set_option maxRecDepth 20000 in
theorem ggX8_dig_X8_isThing : GoodIn wsX8_dig wsX8_isThing := goodIn_r _ [8, 9, 10, 11, 7, 12, 39, 40, 41, 42, 43, 44, 45, 46, 47, 48, 49, 50, 51, 52, 53, 54, 55, 56, 57, 58, 59, 60, 61, 62] (by decide +kernel) (by decide +kernel)
set_option maxRecDepth 20000 in
theorem gX8_dig_X8_isThing : GoodIn wsX8_dig (wsV RX8 177 RX8 yX8_isThing wsX8_isThing) := goodIn_app (goodIn_of _ (by decide +kernel)) ggX8_dig_X8_isThing
set_option maxRecDepth 20000 in
theorem ggX8_dig_X8_isSpan : GoodIn wsX8_dig wsX8_isSpan := goodIn_r _ [15, 16, 10, 11, 7, 12] (by decide +kernel) (by decide +kernel)
set_option maxRecDepth 20000 in
theorem gX8_dig_X8_isSpan : GoodIn wsX8_dig (va_wsS RX8 194 yX8_isSpan wsX8_isSpan) := goodIn_app (goodIn_of _ (by decide +kernel)) ggX8_dig_X8_isSpan
set_option maxRecDepth 20000 in
theorem ggX8_dig_X8_layAside : GoodIn wsX8_dig wsX8_layAside := goodIn_r _ [20, 9, 2, 21, 22, 7, 23, 39, 40, 41, 42, 43, 44, 45, 46, 47, 48, 49, 50, 51, 52, 53, 54, 55, 56, 57, 58, 59, 60, 61, 62] (by decide +kernel) (by decide +kernel)
set_option maxRecDepth 20000 in
theorem gX8_dig_X8_layAside : GoodIn wsX8_dig (wsV RX8 197 RX8 yX8_layAside wsX8_layAside) := goodIn_app (goodIn_of _ (by decide +kernel)) ggX8_dig_X8_layAside
set_option maxRecDepth 20000 in
theorem ggX8_dig_X8_go : GoodIn wsX8_dig wsX8_go := goodIn_r _ [27, 2, 28, 29, 30, 7, 31, 32, 33, 34, 35, 36, 37, 38, 39, 40, 41, 42, 43, 44, 45, 46, 47, 48, 49, 50, 51, 52, 53, 54, 55, 56, 57, 58, 59, 60, 61, 62] (by decide +kernel) (by decide +kernel)
set_option maxRecDepth 20000 in
theorem gX8_dig_X8_go : GoodIn wsX8_dig (wsV RX8 200 RX8 yX8_go wsX8_go) := goodIn_app (goodIn_of _ (by decide +kernel)) ggX8_dig_X8_go
set_option maxRecDepth 20000 in
theorem ggX8_dig_X8_lies : GoodIn wsX8_dig wsX8_lies := goodIn_r _ [38] (by decide +kernel) (by decide +kernel)
set_option maxRecDepth 20000 in
theorem gX8_dig_X8_lies : GoodIn wsX8_dig (va_wsS RX8 142 yX8_lies wsX8_lies) := goodIn_app (goodIn_of _ (by decide +kernel)) ggX8_dig_X8_lies
theorem dX8_dig_0 : decode cX8_dig 0 = .ok (.aload_n 0, 1) := by decide +kernel
theorem dX8_dig_1 : decode cX8_dig 1 = .ok (.iload_n 1, 1) := by decide +kernel
theorem dX8_dig_2 : decode cX8_dig 2 = .ok (.invokevirtual 177, 3) := by decide +kernel
theorem dX8_dig_5 : decode cX8_dig 5 = .ok (.ifCond .eq 10, 3) := by decide +kernel
theorem dX8_dig_8 : decode cX8_dig 8 = .ok (.iload_n 2, 1) := by decide +kernel
theorem dX8_dig_9 : decode cX8_dig 9 = .ok (.invokestatic 194, 3) := by decide +kernel
theorem dX8_dig_12 : decode cX8_dig 12 = .ok (.ifCond .ne 6, 3) := by decide +kernel
theorem dX8_dig_15 : decode cX8_dig 15 = .ok (.ldc 70, 2) := by decide +kernel
theorem dX8_dig_17 : decode cX8_dig 17 = .ok (.ireturn, 1) := by decide +kernel
theorem dX8_dig_18 : decode cX8_dig 18 = .ok (.iconst 1, 1) := by decide +kernel
theorem dX8_dig_19 : decode cX8_dig 19 = .ok (.istore_n 3, 1) := by decide +kernel
theorem dX8_dig_20 : decode cX8_dig 20 = .ok (.iload_n 3, 1) := by decide +kernel
theorem dX8_dig_21 : decode cX8_dig 21 = .ok (.bipush 41, 2) := by decide +kernel
theorem dX8_dig_23 : decode cX8_dig 23 = .ok (.if_icmp .ge 41, 3) := by decide +kernel
theorem dX8_dig_26 : decode cX8_dig 26 = .ok (.aload_n 0, 1) := by decide +kernel
theorem dX8_dig_27 : decode cX8_dig 27 = .ok (.invokevirtual 197, 3) := by decide +kernel
theorem dX8_dig_30 : decode cX8_dig 30 = .ok (.aload_n 0, 1) := by decide +kernel
theorem dX8_dig_31 : decode cX8_dig 31 = .ok (.getfield 25, 3) := by decide +kernel
theorem dX8_dig_34 : decode cX8_dig 34 = .ok (.bipush 13, 2) := by decide +kernel
theorem dX8_dig_36 : decode cX8_dig 36 = .ok (.iload_n 1, 1) := by decide +kernel
theorem dX8_dig_37 : decode cX8_dig 37 = .ok (.iadd, 1) := by decide +kernel
theorem dX8_dig_38 : decode cX8_dig 38 = .ok (.iload_n 3, 1) := by decide +kernel
theorem dX8_dig_39 : decode cX8_dig 39 = .ok (.iastore, 1) := by decide +kernel
theorem dX8_dig_40 : decode cX8_dig 40 = .ok (.aload_n 0, 1) := by decide +kernel
theorem dX8_dig_41 : decode cX8_dig 41 = .ok (.iload_n 2, 1) := by decide +kernel
theorem dX8_dig_42 : decode cX8_dig 42 = .ok (.invokevirtual 200, 3) := by decide +kernel
theorem dX8_dig_45 : decode cX8_dig 45 = .ok (.aload_n 0, 1) := by decide +kernel
theorem dX8_dig_46 : decode cX8_dig 46 = .ok (.getfield 25, 3) := by decide +kernel
theorem dX8_dig_49 : decode cX8_dig 49 = .ok (.iload_n 1, 1) := by decide +kernel
theorem dX8_dig_50 : decode cX8_dig 50 = .ok (.invokestatic 142, 3) := by decide +kernel
theorem dX8_dig_53 : decode cX8_dig 53 = .ok (.ifCond .eq 5, 3) := by decide +kernel
theorem dX8_dig_56 : decode cX8_dig 56 = .ok (.iload_n 3, 1) := by decide +kernel
theorem dX8_dig_57 : decode cX8_dig 57 = .ok (.ireturn, 1) := by decide +kernel
theorem dX8_dig_58 : decode cX8_dig 58 = .ok (.iinc 3 1, 3) := by decide +kernel
theorem dX8_dig_61 : decode cX8_dig 61 = .ok (.goto (-41), 3) := by decide +kernel
theorem dX8_dig_64 : decode cX8_dig 64 = .ok (.ldc 157, 2) := by decide +kernel
theorem dX8_dig_66 : decode cX8_dig 66 = .ok (.ireturn, 1) := by decide +kernel
set_option maxRecDepth 20000 in
theorem ggX8_whom_X8_isMine : GoodIn wsX8_whom wsX8_isMine := goodIn_r _ [9, 4, 19, 20, 21, 22, 23, 24, 25, 26, 27, 28, 29, 30, 31, 32, 33, 34, 35, 36, 37, 38, 39, 40, 41, 42] (by decide +kernel) (by decide +kernel)
set_option maxRecDepth 20000 in
theorem gX8_whom_X8_isMine : GoodIn wsX8_whom (wsV RX8 160 RX8 yX8_isMine wsX8_isMine) := goodIn_app (goodIn_of _ (by decide +kernel)) ggX8_whom_X8_isMine
set_option maxRecDepth 20000 in
theorem ggX8_whom_X8_isTwo : GoodIn wsX8_whom wsX8_isTwo := goodIn_r _ [12, 13, 14, 8, 15] (by decide +kernel) (by decide +kernel)
set_option maxRecDepth 20000 in
theorem gX8_whom_X8_isTwo : GoodIn wsX8_whom (va_wsS RX8 184 yX8_isTwo wsX8_isTwo) := goodIn_app (goodIn_of _ (by decide +kernel)) ggX8_whom_X8_isTwo
set_option maxRecDepth 20000 in
theorem ggX8_whom_X8_bits : GoodIn wsX8_whom wsX8_bits := goodIn_r _ [18] (by decide +kernel) (by decide +kernel)
set_option maxRecDepth 20000 in
theorem gX8_whom_X8_bits : GoodIn wsX8_whom (va_wsS RX8 218 yX8_bits wsX8_bits) := goodIn_app (goodIn_of _ (by decide +kernel)) ggX8_whom_X8_bits
theorem dX8_whom_0 : decode cX8_whom 0 = .ok (.aload_n 0, 1) := by decide +kernel
theorem dX8_whom_1 : decode cX8_whom 1 = .ok (.invokevirtual 160, 3) := by decide +kernel
theorem dX8_whom_4 : decode cX8_whom 4 = .ok (.ifCond .ne 6, 3) := by decide +kernel
theorem dX8_whom_7 : decode cX8_whom 7 = .ok (.ldc 163, 2) := by decide +kernel
theorem dX8_whom_9 : decode cX8_whom 9 = .ok (.ireturn, 1) := by decide +kernel
theorem dX8_whom_10 : decode cX8_whom 10 = .ok (.iload_n 1, 1) := by decide +kernel
theorem dX8_whom_11 : decode cX8_whom 11 = .ok (.invokestatic 184, 3) := by decide +kernel
theorem dX8_whom_14 : decode cX8_whom 14 = .ok (.ifCond .ne 6, 3) := by decide +kernel
theorem dX8_whom_17 : decode cX8_whom 17 = .ok (.ldc 70, 2) := by decide +kernel
theorem dX8_whom_19 : decode cX8_whom 19 = .ok (.ireturn, 1) := by decide +kernel
theorem dX8_whom_20 : decode cX8_whom 20 = .ok (.ldc 157, 2) := by decide +kernel
theorem dX8_whom_22 : decode cX8_whom 22 = .ok (.istore_n 2, 1) := by decide +kernel
theorem dX8_whom_23 : decode cX8_whom 23 = .ok (.iconst 0, 1) := by decide +kernel
theorem dX8_whom_24 : decode cX8_whom 24 = .ok (.istore_n 3, 1) := by decide +kernel
theorem dX8_whom_25 : decode cX8_whom 25 = .ok (.iload_n 3, 1) := by decide +kernel
theorem dX8_whom_26 : decode cX8_whom 26 = .ok (.iconst 1, 1) := by decide +kernel
theorem dX8_whom_27 : decode cX8_whom 27 = .ok (.aload_n 0, 1) := by decide +kernel
theorem dX8_whom_28 : decode cX8_whom 28 = .ok (.getfield 19, 3) := by decide +kernel
theorem dX8_whom_31 : decode cX8_whom 31 = .ok (.iconst 2, 1) := by decide +kernel
theorem dX8_whom_32 : decode cX8_whom 32 = .ok (.iaload, 1) := by decide +kernel
theorem dX8_whom_33 : decode cX8_whom 33 = .ok (.ishl, 1) := by decide +kernel
theorem dX8_whom_34 : decode cX8_whom 34 = .ok (.if_icmp .ge 87, 3) := by decide +kernel
theorem dX8_whom_37 : decode cX8_whom 37 = .ok (.iconst 1, 1) := by decide +kernel
theorem dX8_whom_38 : decode cX8_whom 38 = .ok (.istore 4, 2) := by decide +kernel
theorem dX8_whom_40 : decode cX8_whom 40 = .ok (.iconst 0, 1) := by decide +kernel
theorem dX8_whom_41 : decode cX8_whom 41 = .ok (.istore 5, 2) := by decide +kernel
theorem dX8_whom_43 : decode cX8_whom 43 = .ok (.iload 5, 2) := by decide +kernel
theorem dX8_whom_45 : decode cX8_whom 45 = .ok (.aload_n 0, 1) := by decide +kernel
theorem dX8_whom_46 : decode cX8_whom 46 = .ok (.getfield 19, 3) := by decide +kernel
theorem dX8_whom_49 : decode cX8_whom 49 = .ok (.iconst 0, 1) := by decide +kernel
theorem dX8_whom_50 : decode cX8_whom 50 = .ok (.iaload, 1) := by decide +kernel
theorem dX8_whom_51 : decode cX8_whom 51 = .ok (.if_icmp .ge 36, 3) := by decide +kernel
theorem dX8_whom_54 : decode cX8_whom 54 = .ok (.iload 4, 2) := by decide +kernel
theorem dX8_whom_56 : decode cX8_whom 56 = .ok (.ifCond .eq 22, 3) := by decide +kernel
theorem dX8_whom_59 : decode cX8_whom 59 = .ok (.aload_n 0, 1) := by decide +kernel
theorem dX8_whom_60 : decode cX8_whom 60 = .ok (.getfield 19, 3) := by decide +kernel
theorem dX8_whom_63 : decode cX8_whom 63 = .ok (.bipush 23, 2) := by decide +kernel
theorem dX8_whom_65 : decode cX8_whom 65 = .ok (.iload 5, 2) := by decide +kernel
theorem dX8_whom_67 : decode cX8_whom 67 = .ok (.iadd, 1) := by decide +kernel
theorem dX8_whom_68 : decode cX8_whom 68 = .ok (.iaload, 1) := by decide +kernel
theorem dX8_whom_69 : decode cX8_whom 69 = .ok (.iload_n 3, 1) := by decide +kernel
theorem dX8_whom_70 : decode cX8_whom 70 = .ok (.iand, 1) := by decide +kernel
theorem dX8_whom_71 : decode cX8_whom 71 = .ok (.ifCond .eq 7, 3) := by decide +kernel
theorem dX8_whom_74 : decode cX8_whom 74 = .ok (.iconst 1, 1) := by decide +kernel
theorem dX8_whom_75 : decode cX8_whom 75 = .ok (.goto 4, 3) := by decide +kernel
theorem dX8_whom_78 : decode cX8_whom 78 = .ok (.iconst 0, 1) := by decide +kernel
theorem dX8_whom_79 : decode cX8_whom 79 = .ok (.istore 4, 2) := by decide +kernel
theorem dX8_whom_81 : decode cX8_whom 81 = .ok (.iinc 5 1, 3) := by decide +kernel
theorem dX8_whom_84 : decode cX8_whom 84 = .ok (.goto (-41), 3) := by decide +kernel
theorem dX8_whom_87 : decode cX8_whom 87 = .ok (.iload 4, 2) := by decide +kernel
theorem dX8_whom_89 : decode cX8_whom 89 = .ok (.ifCond .eq 24, 3) := by decide +kernel
theorem dX8_whom_92 : decode cX8_whom 92 = .ok (.iload_n 2, 1) := by decide +kernel
theorem dX8_whom_93 : decode cX8_whom 93 = .ok (.ldc 157, 2) := by decide +kernel
theorem dX8_whom_95 : decode cX8_whom 95 = .ok (.if_icmp .eq 14, 3) := by decide +kernel
theorem dX8_whom_98 : decode cX8_whom 98 = .ok (.iload_n 3, 1) := by decide +kernel
theorem dX8_whom_99 : decode cX8_whom 99 = .ok (.invokestatic 218, 3) := by decide +kernel
theorem dX8_whom_102 : decode cX8_whom 102 = .ok (.iload_n 2, 1) := by decide +kernel
theorem dX8_whom_103 : decode cX8_whom 103 = .ok (.invokestatic 218, 3) := by decide +kernel
theorem dX8_whom_106 : decode cX8_whom 106 = .ok (.if_icmp .ge 7, 3) := by decide +kernel
theorem dX8_whom_109 : decode cX8_whom 109 = .ok (.iload_n 3, 1) := by decide +kernel
theorem dX8_whom_110 : decode cX8_whom 110 = .ok (.goto 4, 3) := by decide +kernel
theorem dX8_whom_113 : decode cX8_whom 113 = .ok (.iload_n 2, 1) := by decide +kernel
theorem dX8_whom_114 : decode cX8_whom 114 = .ok (.istore_n 2, 1) := by decide +kernel
theorem dX8_whom_115 : decode cX8_whom 115 = .ok (.iinc 3 1, 3) := by decide +kernel
theorem dX8_whom_118 : decode cX8_whom 118 = .ok (.goto (-93), 3) := by decide +kernel
theorem dX8_whom_121 : decode cX8_whom 121 = .ok (.iload_n 2, 1) := by decide +kernel
theorem dX8_whom_122 : decode cX8_whom 122 = .ok (.ldc 157, 2) := by decide +kernel
theorem dX8_whom_124 : decode cX8_whom 124 = .ok (.if_icmp .eq 8, 3) := by decide +kernel
theorem dX8_whom_127 : decode cX8_whom 127 = .ok (.iload_n 1, 1) := by decide +kernel
theorem dX8_whom_128 : decode cX8_whom 128 = .ok (.iconst 1, 1) := by decide +kernel
theorem dX8_whom_129 : decode cX8_whom 129 = .ok (.if_icmp .ne 7, 3) := by decide +kernel
theorem dX8_whom_132 : decode cX8_whom 132 = .ok (.iload_n 2, 1) := by decide +kernel
theorem dX8_whom_133 : decode cX8_whom 133 = .ok (.goto 7, 3) := by decide +kernel
theorem dX8_whom_136 : decode cX8_whom 136 = .ok (.iload_n 2, 1) := by decide +kernel
theorem dX8_whom_137 : decode cX8_whom 137 = .ok (.invokestatic 218, 3) := by decide +kernel
theorem dX8_whom_140 : decode cX8_whom 140 = .ok (.ireturn, 1) := by decide +kernel
set_option maxRecDepth 20000 in
theorem ggX8_halves_X8_isMine : GoodIn wsX8_halves wsX8_isMine := goodIn_r _ [9, 4, 16, 17, 18, 19, 20, 21, 22, 23, 24, 25, 26, 27, 28, 29, 30, 31, 32, 33, 34, 35, 36, 37, 38, 39] (by decide +kernel) (by decide +kernel)
set_option maxRecDepth 20000 in
theorem gX8_halves_X8_isMine : GoodIn wsX8_halves (wsV RX8 160 RX8 yX8_isMine wsX8_isMine) := goodIn_app (goodIn_of _ (by decide +kernel)) ggX8_halves_X8_isMine
set_option maxRecDepth 20000 in
theorem ggX8_halves_X8_isTwo : GoodIn wsX8_halves wsX8_isTwo := goodIn_r _ [12, 13, 14, 8, 15] (by decide +kernel) (by decide +kernel)
set_option maxRecDepth 20000 in
theorem gX8_halves_X8_isTwo : GoodIn wsX8_halves (va_wsS RX8 184 yX8_isTwo wsX8_isTwo) := goodIn_app (goodIn_of _ (by decide +kernel)) ggX8_halves_X8_isTwo
theorem dX8_halves_0 : decode cX8_halves 0 = .ok (.aload_n 0, 1) := by decide +kernel
theorem dX8_halves_1 : decode cX8_halves 1 = .ok (.invokevirtual 160, 3) := by decide +kernel
theorem dX8_halves_4 : decode cX8_halves 4 = .ok (.ifCond .ne 6, 3) := by decide +kernel
theorem dX8_halves_7 : decode cX8_halves 7 = .ok (.ldc 163, 2) := by decide +kernel
theorem dX8_halves_9 : decode cX8_halves 9 = .ok (.ireturn, 1) := by decide +kernel
theorem dX8_halves_10 : decode cX8_halves 10 = .ok (.iload_n 1, 1) := by decide +kernel
theorem dX8_halves_11 : decode cX8_halves 11 = .ok (.invokestatic 184, 3) := by decide +kernel
theorem dX8_halves_14 : decode cX8_halves 14 = .ok (.ifCond .ne 6, 3) := by decide +kernel
theorem dX8_halves_17 : decode cX8_halves 17 = .ok (.ldc 70, 2) := by decide +kernel
theorem dX8_halves_19 : decode cX8_halves 19 = .ok (.ireturn, 1) := by decide +kernel
theorem dX8_halves_20 : decode cX8_halves 20 = .ok (.iconst 0, 1) := by decide +kernel
theorem dX8_halves_21 : decode cX8_halves 21 = .ok (.istore_n 2, 1) := by decide +kernel
theorem dX8_halves_22 : decode cX8_halves 22 = .ok (.ldc 157, 2) := by decide +kernel
theorem dX8_halves_24 : decode cX8_halves 24 = .ok (.istore_n 3, 1) := by decide +kernel
theorem dX8_halves_25 : decode cX8_halves 25 = .ok (.iconst 0, 1) := by decide +kernel
theorem dX8_halves_26 : decode cX8_halves 26 = .ok (.istore 4, 2) := by decide +kernel
theorem dX8_halves_28 : decode cX8_halves 28 = .ok (.iload 4, 2) := by decide +kernel
theorem dX8_halves_30 : decode cX8_halves 30 = .ok (.aload_n 0, 1) := by decide +kernel
theorem dX8_halves_31 : decode cX8_halves 31 = .ok (.getfield 19, 3) := by decide +kernel
theorem dX8_halves_34 : decode cX8_halves 34 = .ok (.iconst 0, 1) := by decide +kernel
theorem dX8_halves_35 : decode cX8_halves 35 = .ok (.iaload, 1) := by decide +kernel
theorem dX8_halves_36 : decode cX8_halves 36 = .ok (.if_icmp .ge 100, 3) := by decide +kernel
theorem dX8_halves_39 : decode cX8_halves 39 = .ok (.iload 4, 2) := by decide +kernel
theorem dX8_halves_41 : decode cX8_halves 41 = .ok (.iconst 1, 1) := by decide +kernel
theorem dX8_halves_42 : decode cX8_halves 42 = .ok (.iadd, 1) := by decide +kernel
theorem dX8_halves_43 : decode cX8_halves 43 = .ok (.istore 5, 2) := by decide +kernel
theorem dX8_halves_45 : decode cX8_halves 45 = .ok (.iload 5, 2) := by decide +kernel
theorem dX8_halves_47 : decode cX8_halves 47 = .ok (.aload_n 0, 1) := by decide +kernel
theorem dX8_halves_48 : decode cX8_halves 48 = .ok (.getfield 19, 3) := by decide +kernel
theorem dX8_halves_51 : decode cX8_halves 51 = .ok (.iconst 0, 1) := by decide +kernel
theorem dX8_halves_52 : decode cX8_halves 52 = .ok (.iaload, 1) := by decide +kernel
theorem dX8_halves_53 : decode cX8_halves 53 = .ok (.if_icmp .ge 77, 3) := by decide +kernel
theorem dX8_halves_56 : decode cX8_halves 56 = .ok (.aload_n 0, 1) := by decide +kernel
theorem dX8_halves_57 : decode cX8_halves 57 = .ok (.getfield 19, 3) := by decide +kernel
theorem dX8_halves_60 : decode cX8_halves 60 = .ok (.bipush 23, 2) := by decide +kernel
theorem dX8_halves_62 : decode cX8_halves 62 = .ok (.iload 4, 2) := by decide +kernel
theorem dX8_halves_64 : decode cX8_halves 64 = .ok (.iadd, 1) := by decide +kernel
theorem dX8_halves_65 : decode cX8_halves 65 = .ok (.iaload, 1) := by decide +kernel
theorem dX8_halves_66 : decode cX8_halves 66 = .ok (.aload_n 0, 1) := by decide +kernel
theorem dX8_halves_67 : decode cX8_halves 67 = .ok (.getfield 19, 3) := by decide +kernel
theorem dX8_halves_70 : decode cX8_halves 70 = .ok (.bipush 23, 2) := by decide +kernel
theorem dX8_halves_72 : decode cX8_halves 72 = .ok (.iload 5, 2) := by decide +kernel
theorem dX8_halves_74 : decode cX8_halves 74 = .ok (.iadd, 1) := by decide +kernel
theorem dX8_halves_75 : decode cX8_halves 75 = .ok (.iaload, 1) := by decide +kernel
theorem dX8_halves_76 : decode cX8_halves 76 = .ok (.iand, 1) := by decide +kernel
theorem dX8_halves_77 : decode cX8_halves 77 = .ok (.ifCond .eq 7, 3) := by decide +kernel
theorem dX8_halves_80 : decode cX8_halves 80 = .ok (.iconst 1, 1) := by decide +kernel
theorem dX8_halves_81 : decode cX8_halves 81 = .ok (.goto 4, 3) := by decide +kernel
theorem dX8_halves_84 : decode cX8_halves 84 = .ok (.iconst 0, 1) := by decide +kernel
theorem dX8_halves_85 : decode cX8_halves 85 = .ok (.istore 6, 2) := by decide +kernel
theorem dX8_halves_87 : decode cX8_halves 87 = .ok (.iload_n 2, 1) := by decide +kernel
theorem dX8_halves_88 : decode cX8_halves 88 = .ok (.iload 6, 2) := by decide +kernel
theorem dX8_halves_90 : decode cX8_halves 90 = .ok (.ifCond .eq 7, 3) := by decide +kernel
theorem dX8_halves_93 : decode cX8_halves 93 = .ok (.iconst 1, 1) := by decide +kernel
theorem dX8_halves_94 : decode cX8_halves 94 = .ok (.goto 4, 3) := by decide +kernel
theorem dX8_halves_97 : decode cX8_halves 97 = .ok (.iconst 0, 1) := by decide +kernel
theorem dX8_halves_98 : decode cX8_halves 98 = .ok (.iadd, 1) := by decide +kernel
theorem dX8_halves_99 : decode cX8_halves 99 = .ok (.istore_n 2, 1) := by decide +kernel
theorem dX8_halves_100 : decode cX8_halves 100 = .ok (.iload 6, 2) := by decide +kernel
theorem dX8_halves_102 : decode cX8_halves 102 = .ok (.ifCond .eq 20, 3) := by decide +kernel
theorem dX8_halves_105 : decode cX8_halves 105 = .ok (.iload_n 3, 1) := by decide +kernel
theorem dX8_halves_106 : decode cX8_halves 106 = .ok (.ldc 157, 2) := by decide +kernel
theorem dX8_halves_108 : decode cX8_halves 108 = .ok (.if_icmp .ne 14, 3) := by decide +kernel
theorem dX8_halves_111 : decode cX8_halves 111 = .ok (.bipush 10, 2) := by decide +kernel
theorem dX8_halves_113 : decode cX8_halves 113 = .ok (.iload 4, 2) := by decide +kernel
theorem dX8_halves_115 : decode cX8_halves 115 = .ok (.imul, 1) := by decide +kernel
theorem dX8_halves_116 : decode cX8_halves 116 = .ok (.iload 5, 2) := by decide +kernel
theorem dX8_halves_118 : decode cX8_halves 118 = .ok (.iadd, 1) := by decide +kernel
theorem dX8_halves_119 : decode cX8_halves 119 = .ok (.goto 4, 3) := by decide +kernel
theorem dX8_halves_122 : decode cX8_halves 122 = .ok (.iload_n 3, 1) := by decide +kernel
theorem dX8_halves_123 : decode cX8_halves 123 = .ok (.istore_n 3, 1) := by decide +kernel
theorem dX8_halves_124 : decode cX8_halves 124 = .ok (.iinc 5 1, 3) := by decide +kernel
theorem dX8_halves_127 : decode cX8_halves 127 = .ok (.goto (-82), 3) := by decide +kernel
theorem dX8_halves_130 : decode cX8_halves 130 = .ok (.iinc 4 1, 3) := by decide +kernel
theorem dX8_halves_133 : decode cX8_halves 133 = .ok (.goto (-105), 3) := by decide +kernel
theorem dX8_halves_136 : decode cX8_halves 136 = .ok (.iload_n 1, 1) := by decide +kernel
theorem dX8_halves_137 : decode cX8_halves 137 = .ok (.ifCond .ne 7, 3) := by decide +kernel
theorem dX8_halves_140 : decode cX8_halves 140 = .ok (.iload_n 2, 1) := by decide +kernel
theorem dX8_halves_141 : decode cX8_halves 141 = .ok (.goto 4, 3) := by decide +kernel
theorem dX8_halves_144 : decode cX8_halves 144 = .ok (.iload_n 3, 1) := by decide +kernel
theorem dX8_halves_145 : decode cX8_halves 145 = .ok (.ireturn, 1) := by decide +kernel
set_option maxRecDepth 20000 in
theorem ggX8_comes_X8_go : GoodIn wsX8_comes wsX8_go := goodIn_r _ [7, 2, 8, 9, 10, 6, 11, 12, 13, 14, 15, 16, 17, 18, 28, 29, 30, 31, 32, 33, 34, 35, 36, 37, 38, 39, 40, 41, 42, 43, 44, 45, 46, 47, 48, 49, 50, 51] (by decide +kernel) (by decide +kernel)
set_option maxRecDepth 20000 in
theorem gX8_comes_X8_go : GoodIn wsX8_comes (wsV RX8 200 RX8 yX8_go wsX8_go) := goodIn_app (goodIn_of _ (by decide +kernel)) ggX8_comes_X8_go
set_option maxRecDepth 20000 in
theorem ggX8_comes_X8_nearTo : GoodIn wsX8_comes wsX8_nearTo := goodIn_r _ [21, 22, 23, 6, 24, 16, 17, 18, 25, 26, 27] (by decide +kernel) (by decide +kernel)
set_option maxRecDepth 20000 in
theorem gX8_comes_X8_nearTo : GoodIn wsX8_comes (va_wsS RX8 191 yX8_nearTo wsX8_nearTo) := goodIn_app (goodIn_of _ (by decide +kernel)) ggX8_comes_X8_nearTo
theorem dX8_comes_0 : decode cX8_comes 0 = .ok (.iconst 1, 1) := by decide +kernel
theorem dX8_comes_1 : decode cX8_comes 1 = .ok (.istore 5, 2) := by decide +kernel
theorem dX8_comes_3 : decode cX8_comes 3 = .ok (.iconst 0, 1) := by decide +kernel
theorem dX8_comes_4 : decode cX8_comes 4 = .ok (.istore 6, 2) := by decide +kernel
theorem dX8_comes_6 : decode cX8_comes 6 = .ok (.iload 6, 2) := by decide +kernel
theorem dX8_comes_8 : decode cX8_comes 8 = .ok (.iload_n 3, 1) := by decide +kernel
theorem dX8_comes_9 : decode cX8_comes 9 = .ok (.if_icmp .ge 63, 3) := by decide +kernel
theorem dX8_comes_12 : decode cX8_comes 12 = .ok (.aload_n 0, 1) := by decide +kernel
theorem dX8_comes_13 : decode cX8_comes 13 = .ok (.iconst 1, 1) := by decide +kernel
theorem dX8_comes_14 : decode cX8_comes 14 = .ok (.invokevirtual 200, 3) := by decide +kernel
theorem dX8_comes_17 : decode cX8_comes 17 = .ok (.iload 5, 2) := by decide +kernel
theorem dX8_comes_19 : decode cX8_comes 19 = .ok (.ifCond .eq 44, 3) := by decide +kernel
theorem dX8_comes_22 : decode cX8_comes 22 = .ok (.aload_n 0, 1) := by decide +kernel
theorem dX8_comes_23 : decode cX8_comes 23 = .ok (.getfield 16, 3) := by decide +kernel
theorem dX8_comes_26 : decode cX8_comes 26 = .ok (.iload_n 2, 1) := by decide +kernel
theorem dX8_comes_27 : decode cX8_comes 27 = .ok (.iload 6, 2) := by decide +kernel
theorem dX8_comes_29 : decode cX8_comes 29 = .ok (.iadd, 1) := by decide +kernel
theorem dX8_comes_30 : decode cX8_comes 30 = .ok (.iaload, 1) := by decide +kernel
theorem dX8_comes_31 : decode cX8_comes 31 = .ok (.iload 4, 2) := by decide +kernel
theorem dX8_comes_33 : decode cX8_comes 33 = .ok (.ifCond .eq 14, 3) := by decide +kernel
theorem dX8_comes_36 : decode cX8_comes 36 = .ok (.aload_n 0, 1) := by decide +kernel
theorem dX8_comes_37 : decode cX8_comes 37 = .ok (.getfield 25, 3) := by decide +kernel
theorem dX8_comes_40 : decode cX8_comes 40 = .ok (.iload_n 1, 1) := by decide +kernel
theorem dX8_comes_41 : decode cX8_comes 41 = .ok (.invokestatic 191, 3) := by decide +kernel
theorem dX8_comes_44 : decode cX8_comes 44 = .ok (.goto 12, 3) := by decide +kernel
theorem dX8_comes_47 : decode cX8_comes 47 = .ok (.aload_n 0, 1) := by decide +kernel
theorem dX8_comes_48 : decode cX8_comes 48 = .ok (.getfield 25, 3) := by decide +kernel
theorem dX8_comes_51 : decode cX8_comes 51 = .ok (.bipush 13, 2) := by decide +kernel
theorem dX8_comes_53 : decode cX8_comes 53 = .ok (.iload_n 1, 1) := by decide +kernel
theorem dX8_comes_54 : decode cX8_comes 54 = .ok (.iadd, 1) := by decide +kernel
theorem dX8_comes_55 : decode cX8_comes 55 = .ok (.iaload, 1) := by decide +kernel
theorem dX8_comes_56 : decode cX8_comes 56 = .ok (.if_icmp .ne 7, 3) := by decide +kernel
theorem dX8_comes_59 : decode cX8_comes 59 = .ok (.iconst 1, 1) := by decide +kernel
theorem dX8_comes_60 : decode cX8_comes 60 = .ok (.goto 4, 3) := by decide +kernel
theorem dX8_comes_63 : decode cX8_comes 63 = .ok (.iconst 0, 1) := by decide +kernel
theorem dX8_comes_64 : decode cX8_comes 64 = .ok (.istore 5, 2) := by decide +kernel
theorem dX8_comes_66 : decode cX8_comes 66 = .ok (.iinc 6 1, 3) := by decide +kernel
theorem dX8_comes_69 : decode cX8_comes 69 = .ok (.goto (-63), 3) := by decide +kernel
theorem dX8_comes_72 : decode cX8_comes 72 = .ok (.iload 5, 2) := by decide +kernel
theorem dX8_comes_74 : decode cX8_comes 74 = .ok (.ireturn, 1) := by decide +kernel
set_option maxRecDepth 20000 in
theorem ggX8_fits_X8_isThing : GoodIn wsX8_fits wsX8_isThing := goodIn_r _ [10, 11, 12, 13, 9, 14, 65, 66, 67, 68, 69, 70, 71, 72, 73, 74, 75, 76, 77, 78, 79, 80, 81, 82, 83, 84, 85, 86, 87, 88] (by decide +kernel) (by decide +kernel)
set_option maxRecDepth 20000 in
theorem gX8_fits_X8_isThing : GoodIn wsX8_fits (wsV RX8 177 RX8 yX8_isThing wsX8_isThing) := goodIn_app (goodIn_of _ (by decide +kernel)) ggX8_fits_X8_isThing
set_option maxRecDepth 20000 in
theorem ggX8_fits_X8_isRow : GoodIn wsX8_fits wsX8_isRow := goodIn_r _ [17, 18, 12, 13, 9, 14] (by decide +kernel) (by decide +kernel)
set_option maxRecDepth 20000 in
theorem gX8_fits_X8_isRow : GoodIn wsX8_fits (va_wsS RX8 64 yX8_isRow wsX8_isRow) := goodIn_app (goodIn_of _ (by decide +kernel)) ggX8_fits_X8_isRow
set_option maxRecDepth 20000 in
theorem ggX8_fits_X8_in : GoodIn wsX8_fits wsX8_in := goodIn_r _ [14] (by decide +kernel) (by decide +kernel)
set_option maxRecDepth 20000 in
theorem gX8_fits_X8_in : GoodIn wsX8_fits (va_wsS RX8 60 yX8_in wsX8_in) := goodIn_app (goodIn_of _ (by decide +kernel)) ggX8_fits_X8_in
set_option maxRecDepth 20000 in
theorem ggX8_fits_X8_found : GoodIn wsX8_fits wsX8_found := goodIn_r _ [22, 23, 24, 65, 66, 67, 68, 69, 70, 71, 72, 73, 74, 75, 76, 77, 78, 79, 80, 81, 82, 83, 84, 85, 86, 87, 88] (by decide +kernel) (by decide +kernel)
set_option maxRecDepth 20000 in
theorem gX8_fits_X8_found : GoodIn wsX8_fits (wsV RX8 71 RX8 yX8_found wsX8_found) := goodIn_app (goodIn_of _ (by decide +kernel)) ggX8_fits_X8_found
set_option maxRecDepth 20000 in
theorem ggX8_fits_X8_layAside : GoodIn wsX8_fits wsX8_layAside := goodIn_r _ [28, 11, 5, 29, 30, 9, 31, 65, 66, 67, 68, 69, 70, 71, 72, 73, 74, 75, 76, 77, 78, 79, 80, 81, 82, 83, 84, 85, 86, 87, 88] (by decide +kernel) (by decide +kernel)
set_option maxRecDepth 20000 in
theorem gX8_fits_X8_layAside : GoodIn wsX8_fits (wsV RX8 197 RX8 yX8_layAside wsX8_layAside) := goodIn_app (goodIn_of _ (by decide +kernel)) ggX8_fits_X8_layAside
set_option maxRecDepth 20000 in
theorem ggX8_fits_X8_comes : GoodIn wsX8_fits wsX8_comes := goodIn_r _ [35, 36, 5, 37, 38, 39, 9, 40, 41, 42, 43, 44, 45, 46, 47, 48, 49, 50, 51, 52, 53, 54, 55, 56, 57, 58, 59, 60, 65, 66, 67, 68, 69, 70, 71, 72, 73, 74, 75, 76, 77, 78, 79, 80, 81, 82, 83, 84, 85, 86, 87, 88] (by decide +kernel) (by decide +kernel)
set_option maxRecDepth 20000 in
theorem gX8_fits_X8_comes : GoodIn wsX8_fits (wsV RX8 223 RX8 yX8_comes wsX8_comes) := goodIn_app (goodIn_of _ (by decide +kernel)) ggX8_fits_X8_comes
set_option maxRecDepth 20000 in
theorem ggX8_fits_X8_well : GoodIn wsX8_fits wsX8_well := goodIn_r _ [64, 23, 65, 66, 67, 68, 69, 70, 71, 72, 73, 74, 75, 76, 77, 78, 79, 80, 81, 82, 83, 84, 85, 86, 87, 88] (by decide +kernel) (by decide +kernel)
set_option maxRecDepth 20000 in
theorem gX8_fits_X8_well : GoodIn wsX8_fits (wsV RX8 75 RX8 yX8_well wsX8_well) := goodIn_app (goodIn_of _ (by decide +kernel)) ggX8_fits_X8_well
theorem dX8_fits_0 : decode cX8_fits 0 = .ok (.aload_n 0, 1) := by decide +kernel
theorem dX8_fits_1 : decode cX8_fits 1 = .ok (.iload_n 1, 1) := by decide +kernel
theorem dX8_fits_2 : decode cX8_fits 2 = .ok (.invokevirtual 177, 3) := by decide +kernel
theorem dX8_fits_5 : decode cX8_fits 5 = .ok (.ifCond .eq 36, 3) := by decide +kernel
theorem dX8_fits_8 : decode cX8_fits 8 = .ok (.iload_n 2, 1) := by decide +kernel
theorem dX8_fits_9 : decode cX8_fits 9 = .ok (.invokestatic 64, 3) := by decide +kernel
theorem dX8_fits_12 : decode cX8_fits 12 = .ok (.ifCond .eq 29, 3) := by decide +kernel
theorem dX8_fits_15 : decode cX8_fits 15 = .ok (.iload 4, 2) := by decide +kernel
theorem dX8_fits_17 : decode cX8_fits 17 = .ok (.i2l, 1) := by decide +kernel
theorem dX8_fits_18 : decode cX8_fits 18 = .ok (.lconst 1, 1) := by decide +kernel
theorem dX8_fits_19 : decode cX8_fits 19 = .ok (.ldc2_w 221, 3) := by decide +kernel
theorem dX8_fits_22 : decode cX8_fits 22 = .ok (.invokestatic 60, 3) := by decide +kernel
theorem dX8_fits_25 : decode cX8_fits 25 = .ok (.ifCond .eq 16, 3) := by decide +kernel
theorem dX8_fits_28 : decode cX8_fits 28 = .ok (.iload 5, 2) := by decide +kernel
theorem dX8_fits_30 : decode cX8_fits 30 = .ok (.i2l, 1) := by decide +kernel
theorem dX8_fits_31 : decode cX8_fits 31 = .ok (.lconst 0, 1) := by decide +kernel
theorem dX8_fits_32 : decode cX8_fits 32 = .ok (.ldc2_w 68, 3) := by decide +kernel
theorem dX8_fits_35 : decode cX8_fits 35 = .ok (.invokestatic 60, 3) := by decide +kernel
theorem dX8_fits_38 : decode cX8_fits 38 = .ok (.ifCond .ne 6, 3) := by decide +kernel
theorem dX8_fits_41 : decode cX8_fits 41 = .ok (.ldc 70, 2) := by decide +kernel
theorem dX8_fits_43 : decode cX8_fits 43 = .ok (.ireturn, 1) := by decide +kernel
theorem dX8_fits_44 : decode cX8_fits 44 = .ok (.aload_n 0, 1) := by decide +kernel
theorem dX8_fits_45 : decode cX8_fits 45 = .ok (.getfield 13, 3) := by decide +kernel
theorem dX8_fits_48 : decode cX8_fits 48 = .ok (.iload_n 2, 1) := by decide +kernel
theorem dX8_fits_49 : decode cX8_fits 49 = .ok (.iaload, 1) := by decide +kernel
theorem dX8_fits_50 : decode cX8_fits 50 = .ok (.ifCond .ge 9, 3) := by decide +kernel
theorem dX8_fits_53 : decode cX8_fits 53 = .ok (.aload_n 0, 1) := by decide +kernel
theorem dX8_fits_54 : decode cX8_fits 54 = .ok (.iconst 1, 1) := by decide +kernel
theorem dX8_fits_55 : decode cX8_fits 55 = .ok (.invokevirtual 71, 3) := by decide +kernel
theorem dX8_fits_58 : decode cX8_fits 58 = .ok (.ireturn, 1) := by decide +kernel
theorem dX8_fits_59 : decode cX8_fits 59 = .ok (.iload_n 3, 1) := by decide +kernel
theorem dX8_fits_60 : decode cX8_fits 60 = .ok (.ifCond .lt 20, 3) := by decide +kernel
theorem dX8_fits_63 : decode cX8_fits 63 = .ok (.iload_n 3, 1) := by decide +kernel
theorem dX8_fits_64 : decode cX8_fits 64 = .ok (.i2l, 1) := by decide +kernel
theorem dX8_fits_65 : decode cX8_fits 65 = .ok (.iload 4, 2) := by decide +kernel
theorem dX8_fits_67 : decode cX8_fits 67 = .ok (.i2l, 1) := by decide +kernel
theorem dX8_fits_68 : decode cX8_fits 68 = .ok (.ladd, 1) := by decide +kernel
theorem dX8_fits_69 : decode cX8_fits 69 = .ok (.aload_n 0, 1) := by decide +kernel
theorem dX8_fits_70 : decode cX8_fits 70 = .ok (.getfield 13, 3) := by decide +kernel
theorem dX8_fits_73 : decode cX8_fits 73 = .ok (.iload_n 2, 1) := by decide +kernel
theorem dX8_fits_74 : decode cX8_fits 74 = .ok (.iaload, 1) := by decide +kernel
theorem dX8_fits_75 : decode cX8_fits 75 = .ok (.i2l, 1) := by decide +kernel
theorem dX8_fits_76 : decode cX8_fits 76 = .ok (.lcmp, 1) := by decide +kernel
theorem dX8_fits_77 : decode cX8_fits 77 = .ok (.ifCond .le 9, 3) := by decide +kernel
theorem dX8_fits_80 : decode cX8_fits 80 = .ok (.aload_n 0, 1) := by decide +kernel
theorem dX8_fits_81 : decode cX8_fits 81 = .ok (.iconst 2, 1) := by decide +kernel
theorem dX8_fits_82 : decode cX8_fits 82 = .ok (.invokevirtual 71, 3) := by decide +kernel
theorem dX8_fits_85 : decode cX8_fits 85 = .ok (.ireturn, 1) := by decide +kernel
theorem dX8_fits_86 : decode cX8_fits 86 = .ok (.iconst 0, 1) := by decide +kernel
theorem dX8_fits_87 : decode cX8_fits 87 = .ok (.istore 6, 2) := by decide +kernel
theorem dX8_fits_89 : decode cX8_fits 89 = .ok (.iload 5, 2) := by decide +kernel
theorem dX8_fits_91 : decode cX8_fits 91 = .ok (.iconst 2, 1) := by decide +kernel
theorem dX8_fits_92 : decode cX8_fits 92 = .ok (.if_icmp .ne 7, 3) := by decide +kernel
theorem dX8_fits_95 : decode cX8_fits 95 = .ok (.iconst 0, 1) := by decide +kernel
theorem dX8_fits_96 : decode cX8_fits 96 = .ok (.goto 4, 3) := by decide +kernel
theorem dX8_fits_99 : decode cX8_fits 99 = .ok (.iconst 1, 1) := by decide +kernel
theorem dX8_fits_100 : decode cX8_fits 100 = .ok (.istore 7, 2) := by decide +kernel
theorem dX8_fits_102 : decode cX8_fits 102 = .ok (.iload 5, 2) := by decide +kernel
theorem dX8_fits_104 : decode cX8_fits 104 = .ok (.ifCond .ne 7, 3) := by decide +kernel
theorem dX8_fits_107 : decode cX8_fits 107 = .ok (.iconst 5, 1) := by decide +kernel
theorem dX8_fits_108 : decode cX8_fits 108 = .ok (.goto 15, 3) := by decide +kernel
theorem dX8_fits_111 : decode cX8_fits 111 = .ok (.iload 5, 2) := by decide +kernel
theorem dX8_fits_113 : decode cX8_fits 113 = .ok (.iconst 1, 1) := by decide +kernel
theorem dX8_fits_114 : decode cX8_fits 114 = .ok (.if_icmp .ne 8, 3) := by decide +kernel
theorem dX8_fits_117 : decode cX8_fits 117 = .ok (.bipush 9, 2) := by decide +kernel
theorem dX8_fits_119 : decode cX8_fits 119 = .ok (.goto 4, 3) := by decide +kernel
theorem dX8_fits_122 : decode cX8_fits 122 = .ok (.iconst 3, 1) := by decide +kernel
theorem dX8_fits_123 : decode cX8_fits 123 = .ok (.istore 8, 2) := by decide +kernel
theorem dX8_fits_125 : decode cX8_fits 125 = .ok (.iload 5, 2) := by decide +kernel
theorem dX8_fits_127 : decode cX8_fits 127 = .ok (.ifCond .ne 7, 3) := by decide +kernel
theorem dX8_fits_130 : decode cX8_fits 130 = .ok (.iconst 3, 1) := by decide +kernel
theorem dX8_fits_131 : decode cX8_fits 131 = .ok (.goto 16, 3) := by decide +kernel
theorem dX8_fits_134 : decode cX8_fits 134 = .ok (.iload 5, 2) := by decide +kernel
theorem dX8_fits_136 : decode cX8_fits 136 = .ok (.iconst 1, 1) := by decide +kernel
theorem dX8_fits_137 : decode cX8_fits 137 = .ok (.if_icmp .ne 8, 3) := by decide +kernel
theorem dX8_fits_140 : decode cX8_fits 140 = .ok (.bipush 8, 2) := by decide +kernel
theorem dX8_fits_142 : decode cX8_fits 142 = .ok (.goto 5, 3) := by decide +kernel
theorem dX8_fits_145 : decode cX8_fits 145 = .ok (.bipush 18, 2) := by decide +kernel
theorem dX8_fits_147 : decode cX8_fits 147 = .ok (.istore 9, 2) := by decide +kernel
theorem dX8_fits_149 : decode cX8_fits 149 = .ok (.iload 7, 2) := by decide +kernel
theorem dX8_fits_151 : decode cX8_fits 151 = .ok (.istore 10, 2) := by decide +kernel
theorem dX8_fits_153 : decode cX8_fits 153 = .ok (.iload 10, 2) := by decide +kernel
theorem dX8_fits_155 : decode cX8_fits 155 = .ok (.iload 8, 2) := by decide +kernel
theorem dX8_fits_157 : decode cX8_fits 157 = .ok (.if_icmp .gt 64, 3) := by decide +kernel
theorem dX8_fits_160 : decode cX8_fits 160 = .ok (.aload_n 0, 1) := by decide +kernel
theorem dX8_fits_161 : decode cX8_fits 161 = .ok (.invokevirtual 197, 3) := by decide +kernel
theorem dX8_fits_164 : decode cX8_fits 164 = .ok (.aload_n 0, 1) := by decide +kernel
theorem dX8_fits_165 : decode cX8_fits 165 = .ok (.getfield 25, 3) := by decide +kernel
theorem dX8_fits_168 : decode cX8_fits 168 = .ok (.iload 9, 2) := by decide +kernel
theorem dX8_fits_170 : decode cX8_fits 170 = .ok (.iload_n 1, 1) := by decide +kernel
theorem dX8_fits_171 : decode cX8_fits 171 = .ok (.iadd, 1) := by decide +kernel
theorem dX8_fits_172 : decode cX8_fits 172 = .ok (.iload 10, 2) := by decide +kernel
theorem dX8_fits_174 : decode cX8_fits 174 = .ok (.iastore, 1) := by decide +kernel
theorem dX8_fits_175 : decode cX8_fits 175 = .ok (.iload 6, 2) := by decide +kernel
theorem dX8_fits_177 : decode cX8_fits 177 = .ok (.aload_n 0, 1) := by decide +kernel
theorem dX8_fits_178 : decode cX8_fits 178 = .ok (.iload_n 1, 1) := by decide +kernel
theorem dX8_fits_179 : decode cX8_fits 179 = .ok (.bipush 40, 2) := by decide +kernel
theorem dX8_fits_181 : decode cX8_fits 181 = .ok (.iload_n 2, 1) := by decide +kernel
theorem dX8_fits_182 : decode cX8_fits 182 = .ok (.imul, 1) := by decide +kernel
theorem dX8_fits_183 : decode cX8_fits 183 = .ok (.iload_n 3, 1) := by decide +kernel
theorem dX8_fits_184 : decode cX8_fits 184 = .ok (.iadd, 1) := by decide +kernel
theorem dX8_fits_185 : decode cX8_fits 185 = .ok (.iload 4, 2) := by decide +kernel
theorem dX8_fits_187 : decode cX8_fits 187 = .ok (.iload 5, 2) := by decide +kernel
theorem dX8_fits_189 : decode cX8_fits 189 = .ok (.iconst 2, 1) := by decide +kernel
theorem dX8_fits_190 : decode cX8_fits 190 = .ok (.if_icmp .ne 7, 3) := by decide +kernel
theorem dX8_fits_193 : decode cX8_fits 193 = .ok (.iconst 1, 1) := by decide +kernel
theorem dX8_fits_194 : decode cX8_fits 194 = .ok (.goto 4, 3) := by decide +kernel
theorem dX8_fits_197 : decode cX8_fits 197 = .ok (.iconst 0, 1) := by decide +kernel
theorem dX8_fits_198 : decode cX8_fits 198 = .ok (.invokevirtual 223, 3) := by decide +kernel
theorem dX8_fits_201 : decode cX8_fits 201 = .ok (.ifCond .eq 10, 3) := by decide +kernel
theorem dX8_fits_204 : decode cX8_fits 204 = .ok (.iconst 1, 1) := by decide +kernel
theorem dX8_fits_205 : decode cX8_fits 205 = .ok (.iload 10, 2) := by decide +kernel
theorem dX8_fits_207 : decode cX8_fits 207 = .ok (.ishl, 1) := by decide +kernel
theorem dX8_fits_208 : decode cX8_fits 208 = .ok (.goto 4, 3) := by decide +kernel
theorem dX8_fits_211 : decode cX8_fits 211 = .ok (.iconst 0, 1) := by decide +kernel
theorem dX8_fits_212 : decode cX8_fits 212 = .ok (.ior, 1) := by decide +kernel
theorem dX8_fits_213 : decode cX8_fits 213 = .ok (.istore 6, 2) := by decide +kernel
theorem dX8_fits_215 : decode cX8_fits 215 = .ok (.iinc 10 1, 3) := by decide +kernel
theorem dX8_fits_218 : decode cX8_fits 218 = .ok (.goto (-65), 3) := by decide +kernel
theorem dX8_fits_221 : decode cX8_fits 221 = .ok (.aload_n 0, 1) := by decide +kernel
theorem dX8_fits_222 : decode cX8_fits 222 = .ok (.iload 6, 2) := by decide +kernel
theorem dX8_fits_224 : decode cX8_fits 224 = .ok (.invokevirtual 75, 3) := by decide +kernel
theorem dX8_fits_227 : decode cX8_fits 227 = .ok (.ireturn, 1) := by decide +kernel
set_option maxRecDepth 20000 in
theorem ggX8_moles_X8_isMine : GoodIn wsX8_moles wsX8_isMine := goodIn_r _ [10, 4, 49, 50, 51, 52, 53, 54, 55, 56, 57, 58, 59, 60, 61, 62, 63, 64, 65, 66, 67, 68, 69, 70, 71, 72] (by decide +kernel) (by decide +kernel)
set_option maxRecDepth 20000 in
theorem gX8_moles_X8_isMine : GoodIn wsX8_moles (wsV RX8 160 RX8 yX8_isMine wsX8_isMine) := goodIn_app (goodIn_of _ (by decide +kernel)) ggX8_moles_X8_isMine
set_option maxRecDepth 20000 in
theorem ggX8_moles_X8_isSpan : GoodIn wsX8_moles wsX8_isSpan := goodIn_r _ [13, 14, 15, 16, 9, 17] (by decide +kernel) (by decide +kernel)
set_option maxRecDepth 20000 in
theorem gX8_moles_X8_isSpan : GoodIn wsX8_moles (va_wsS RX8 194 yX8_isSpan wsX8_isSpan) := goodIn_app (goodIn_of _ (by decide +kernel)) ggX8_moles_X8_isSpan
set_option maxRecDepth 20000 in
theorem ggX8_moles_X8_in : GoodIn wsX8_moles wsX8_in := goodIn_r _ [17] (by decide +kernel) (by decide +kernel)
set_option maxRecDepth 20000 in
theorem gX8_moles_X8_in : GoodIn wsX8_moles (va_wsS RX8 60 yX8_in wsX8_in) := goodIn_app (goodIn_of _ (by decide +kernel)) ggX8_moles_X8_in
set_option maxRecDepth 20000 in
theorem ggX8_moles_X8_isTwo : GoodIn wsX8_moles wsX8_isTwo := goodIn_r _ [20, 15, 16, 9, 17] (by decide +kernel) (by decide +kernel)
set_option maxRecDepth 20000 in
theorem gX8_moles_X8_isTwo : GoodIn wsX8_moles (va_wsS RX8 184 yX8_isTwo wsX8_isTwo) := goodIn_app (goodIn_of _ (by decide +kernel)) ggX8_moles_X8_isTwo
set_option maxRecDepth 20000 in
theorem ggX8_moles_X8_upOf : GoodIn wsX8_moles wsX8_upOf := goodIn_r _ [23, 24, 25, 9, 26] (by decide +kernel) (by decide +kernel)
set_option maxRecDepth 20000 in
theorem gX8_moles_X8_upOf : GoodIn wsX8_moles (va_wsS RX8 173 yX8_upOf wsX8_upOf) := goodIn_app (goodIn_of _ (by decide +kernel)) ggX8_moles_X8_upOf
set_option maxRecDepth 20000 in
theorem ggX8_moles_X8_has : GoodIn wsX8_moles wsX8_has := goodIn_r _ [29] (by decide +kernel) (by decide +kernel)
set_option maxRecDepth 20000 in
theorem gX8_moles_X8_has : GoodIn wsX8_moles (va_wsS RX8 187 yX8_has wsX8_has) := goodIn_app (goodIn_of _ (by decide +kernel)) ggX8_moles_X8_has
set_option maxRecDepth 20000 in
theorem ggX8_moles_X8_layAside : GoodIn wsX8_moles wsX8_layAside := goodIn_r _ [33, 4, 5, 34, 35, 9, 36, 49, 50, 51, 52, 53, 54, 55, 56, 57, 58, 59, 60, 61, 62, 63, 64, 65, 66, 67, 68, 69, 70, 71, 72] (by decide +kernel) (by decide +kernel)
set_option maxRecDepth 20000 in
theorem gX8_moles_X8_layAside : GoodIn wsX8_moles (wsV RX8 197 RX8 yX8_layAside wsX8_layAside) := goodIn_app (goodIn_of _ (by decide +kernel)) ggX8_moles_X8_layAside
set_option maxRecDepth 20000 in
theorem ggX8_moles_X8_go : GoodIn wsX8_moles wsX8_go := goodIn_r _ [40, 5, 41, 42, 43, 9, 44, 45, 46, 47, 48, 24, 25, 26, 49, 50, 51, 52, 53, 54, 55, 56, 57, 58, 59, 60, 61, 62, 63, 64, 65, 66, 67, 68, 69, 70, 71, 72] (by decide +kernel) (by decide +kernel)
set_option maxRecDepth 20000 in
theorem gX8_moles_X8_go : GoodIn wsX8_moles (wsV RX8 200 RX8 yX8_go wsX8_go) := goodIn_app (goodIn_of _ (by decide +kernel)) ggX8_moles_X8_go
theorem dX8_moles_0 : decode cX8_moles 0 = .ok (.aload_n 0, 1) := by decide +kernel
theorem dX8_moles_1 : decode cX8_moles 1 = .ok (.invokevirtual 160, 3) := by decide +kernel
theorem dX8_moles_4 : decode cX8_moles 4 = .ok (.ifCond .ne 6, 3) := by decide +kernel
theorem dX8_moles_7 : decode cX8_moles 7 = .ok (.ldc 163, 2) := by decide +kernel
theorem dX8_moles_9 : decode cX8_moles 9 = .ok (.ireturn, 1) := by decide +kernel
theorem dX8_moles_10 : decode cX8_moles 10 = .ok (.iload_n 1, 1) := by decide +kernel
theorem dX8_moles_11 : decode cX8_moles 11 = .ok (.invokestatic 194, 3) := by decide +kernel
theorem dX8_moles_14 : decode cX8_moles 14 = .ok (.ifCond .eq 22, 3) := by decide +kernel
theorem dX8_moles_17 : decode cX8_moles 17 = .ok (.iload_n 2, 1) := by decide +kernel
theorem dX8_moles_18 : decode cX8_moles 18 = .ok (.i2l, 1) := by decide +kernel
theorem dX8_moles_19 : decode cX8_moles 19 = .ok (.lconst 0, 1) := by decide +kernel
theorem dX8_moles_20 : decode cX8_moles 20 = .ok (.ldc2_w 227, 3) := by decide +kernel
theorem dX8_moles_23 : decode cX8_moles 23 = .ok (.invokestatic 60, 3) := by decide +kernel
theorem dX8_moles_26 : decode cX8_moles 26 = .ok (.ifCond .eq 10, 3) := by decide +kernel
theorem dX8_moles_29 : decode cX8_moles 29 = .ok (.iload_n 3, 1) := by decide +kernel
theorem dX8_moles_30 : decode cX8_moles 30 = .ok (.invokestatic 184, 3) := by decide +kernel
theorem dX8_moles_33 : decode cX8_moles 33 = .ok (.ifCond .ne 6, 3) := by decide +kernel
theorem dX8_moles_36 : decode cX8_moles 36 = .ok (.ldc 70, 2) := by decide +kernel
theorem dX8_moles_38 : decode cX8_moles 38 = .ok (.ireturn, 1) := by decide +kernel
theorem dX8_moles_39 : decode cX8_moles 39 = .ok (.aload_n 0, 1) := by decide +kernel
theorem dX8_moles_40 : decode cX8_moles 40 = .ok (.getfield 19, 3) := by decide +kernel
theorem dX8_moles_43 : decode cX8_moles 43 = .ok (.invokestatic 173, 3) := by decide +kernel
theorem dX8_moles_46 : decode cX8_moles 46 = .ok (.istore 4, 2) := by decide +kernel
theorem dX8_moles_48 : decode cX8_moles 48 = .ok (.iconst 1, 1) := by decide +kernel
theorem dX8_moles_49 : decode cX8_moles 49 = .ok (.aload_n 0, 1) := by decide +kernel
theorem dX8_moles_50 : decode cX8_moles 50 = .ok (.getfield 19, 3) := by decide +kernel
theorem dX8_moles_53 : decode cX8_moles 53 = .ok (.iconst 0, 1) := by decide +kernel
theorem dX8_moles_54 : decode cX8_moles 54 = .ok (.iaload, 1) := by decide +kernel
theorem dX8_moles_55 : decode cX8_moles 55 = .ok (.ishl, 1) := by decide +kernel
theorem dX8_moles_56 : decode cX8_moles 56 = .ok (.iconst 1, 1) := by decide +kernel
theorem dX8_moles_57 : decode cX8_moles 57 = .ok (.isub, 1) := by decide +kernel
theorem dX8_moles_58 : decode cX8_moles 58 = .ok (.istore 5, 2) := by decide +kernel
theorem dX8_moles_60 : decode cX8_moles 60 = .ok (.lconst 0, 1) := by decide +kernel
theorem dX8_moles_61 : decode cX8_moles 61 = .ok (.lstore 6, 2) := by decide +kernel
theorem dX8_moles_63 : decode cX8_moles 63 = .ok (.lconst 1, 1) := by decide +kernel
theorem dX8_moles_64 : decode cX8_moles 64 = .ok (.lstore 8, 2) := by decide +kernel
theorem dX8_moles_66 : decode cX8_moles 66 = .ok (.iconst 0, 1) := by decide +kernel
theorem dX8_moles_67 : decode cX8_moles 67 = .ok (.istore 10, 2) := by decide +kernel
theorem dX8_moles_69 : decode cX8_moles 69 = .ok (.iload 10, 2) := by decide +kernel
theorem dX8_moles_71 : decode cX8_moles 71 = .ok (.aload_n 0, 1) := by decide +kernel
theorem dX8_moles_72 : decode cX8_moles 72 = .ok (.getfield 19, 3) := by decide +kernel
theorem dX8_moles_75 : decode cX8_moles 75 = .ok (.iconst 0, 1) := by decide +kernel
theorem dX8_moles_76 : decode cX8_moles 76 = .ok (.iaload, 1) := by decide +kernel
theorem dX8_moles_77 : decode cX8_moles 77 = .ok (.if_icmp .ge 31, 3) := by decide +kernel
theorem dX8_moles_80 : decode cX8_moles 80 = .ok (.lload 8, 2) := by decide +kernel
theorem dX8_moles_82 : decode cX8_moles 82 = .ok (.iload 4, 2) := by decide +kernel
theorem dX8_moles_84 : decode cX8_moles 84 = .ok (.iload 10, 2) := by decide +kernel
theorem dX8_moles_86 : decode cX8_moles 86 = .ok (.invokestatic 187, 3) := by decide +kernel
theorem dX8_moles_89 : decode cX8_moles 89 = .ok (.ifCond .eq 7, 3) := by decide +kernel
theorem dX8_moles_92 : decode cX8_moles 92 = .ok (.lconst 1, 1) := by decide +kernel
theorem dX8_moles_93 : decode cX8_moles 93 = .ok (.goto 6, 3) := by decide +kernel
theorem dX8_moles_96 : decode cX8_moles 96 = .ok (.ldc2_w 227, 3) := by decide +kernel
theorem dX8_moles_99 : decode cX8_moles 99 = .ok (.lmul, 1) := by decide +kernel
theorem dX8_moles_100 : decode cX8_moles 100 = .ok (.lstore 8, 2) := by decide +kernel
theorem dX8_moles_102 : decode cX8_moles 102 = .ok (.iinc 10 1, 3) := by decide +kernel
theorem dX8_moles_105 : decode cX8_moles 105 = .ok (.goto (-36), 3) := by decide +kernel
theorem dX8_moles_108 : decode cX8_moles 108 = .ok (.iconst 0, 1) := by decide +kernel
theorem dX8_moles_109 : decode cX8_moles 109 = .ok (.istore 10, 2) := by decide +kernel
theorem dX8_moles_111 : decode cX8_moles 111 = .ok (.iload 10, 2) := by decide +kernel
theorem dX8_moles_113 : decode cX8_moles 113 = .ok (.iload 5, 2) := by decide +kernel
theorem dX8_moles_115 : decode cX8_moles 115 = .ok (.if_icmp .gt 139, 3) := by decide +kernel
theorem dX8_moles_118 : decode cX8_moles 118 = .ok (.iload 10, 2) := by decide +kernel
theorem dX8_moles_120 : decode cX8_moles 120 = .ok (.iload 4, 2) := by decide +kernel
theorem dX8_moles_122 : decode cX8_moles 122 = .ok (.iand, 1) := by decide +kernel
theorem dX8_moles_123 : decode cX8_moles 123 = .ok (.ifCond .ne 125, 3) := by decide +kernel
theorem dX8_moles_126 : decode cX8_moles 126 = .ok (.aload_n 0, 1) := by decide +kernel
theorem dX8_moles_127 : decode cX8_moles 127 = .ok (.invokevirtual 197, 3) := by decide +kernel
theorem dX8_moles_130 : decode cX8_moles 130 = .ok (.lconst 1, 1) := by decide +kernel
theorem dX8_moles_131 : decode cX8_moles 131 = .ok (.lstore 11, 2) := by decide +kernel
theorem dX8_moles_133 : decode cX8_moles 133 = .ok (.iconst 0, 1) := by decide +kernel
theorem dX8_moles_134 : decode cX8_moles 134 = .ok (.istore 13, 2) := by decide +kernel
theorem dX8_moles_136 : decode cX8_moles 136 = .ok (.iload 13, 2) := by decide +kernel
theorem dX8_moles_138 : decode cX8_moles 138 = .ok (.aload_n 0, 1) := by decide +kernel
theorem dX8_moles_139 : decode cX8_moles 139 = .ok (.getfield 19, 3) := by decide +kernel
theorem dX8_moles_142 : decode cX8_moles 142 = .ok (.iconst 0, 1) := by decide +kernel
theorem dX8_moles_143 : decode cX8_moles 143 = .ok (.iaload, 1) := by decide +kernel
theorem dX8_moles_144 : decode cX8_moles 144 = .ok (.if_icmp .ge 76, 3) := by decide +kernel
theorem dX8_moles_147 : decode cX8_moles 147 = .ok (.lload 11, 2) := by decide +kernel
theorem dX8_moles_149 : decode cX8_moles 149 = .ok (.iload 4, 2) := by decide +kernel
theorem dX8_moles_151 : decode cX8_moles 151 = .ok (.iload 13, 2) := by decide +kernel
theorem dX8_moles_153 : decode cX8_moles 153 = .ok (.invokestatic 187, 3) := by decide +kernel
theorem dX8_moles_156 : decode cX8_moles 156 = .ok (.ifCond .eq 7, 3) := by decide +kernel
theorem dX8_moles_159 : decode cX8_moles 159 = .ok (.lconst 1, 1) := by decide +kernel
theorem dX8_moles_160 : decode cX8_moles 160 = .ok (.goto 23, 3) := by decide +kernel
theorem dX8_moles_163 : decode cX8_moles 163 = .ok (.iload 10, 2) := by decide +kernel
theorem dX8_moles_165 : decode cX8_moles 165 = .ok (.iload 13, 2) := by decide +kernel
theorem dX8_moles_167 : decode cX8_moles 167 = .ok (.invokestatic 187, 3) := by decide +kernel
theorem dX8_moles_170 : decode cX8_moles 170 = .ok (.ifCond .eq 8, 3) := by decide +kernel
theorem dX8_moles_173 : decode cX8_moles 173 = .ok (.iload_n 2, 1) := by decide +kernel
theorem dX8_moles_174 : decode cX8_moles 174 = .ok (.i2l, 1) := by decide +kernel
theorem dX8_moles_175 : decode cX8_moles 175 = .ok (.goto 8, 3) := by decide +kernel
theorem dX8_moles_178 : decode cX8_moles 178 = .ok (.bipush 10, 2) := by decide +kernel
theorem dX8_moles_180 : decode cX8_moles 180 = .ok (.iload_n 2, 1) := by decide +kernel
theorem dX8_moles_181 : decode cX8_moles 181 = .ok (.isub, 1) := by decide +kernel
theorem dX8_moles_182 : decode cX8_moles 182 = .ok (.i2l, 1) := by decide +kernel
theorem dX8_moles_183 : decode cX8_moles 183 = .ok (.lmul, 1) := by decide +kernel
theorem dX8_moles_184 : decode cX8_moles 184 = .ok (.lstore 11, 2) := by decide +kernel
theorem dX8_moles_186 : decode cX8_moles 186 = .ok (.aload_n 0, 1) := by decide +kernel
theorem dX8_moles_187 : decode cX8_moles 187 = .ok (.getfield 25, 3) := by decide +kernel
theorem dX8_moles_190 : decode cX8_moles 190 = .ok (.bipush 13, 2) := by decide +kernel
theorem dX8_moles_192 : decode cX8_moles 192 = .ok (.iload 13, 2) := by decide +kernel
theorem dX8_moles_194 : decode cX8_moles 194 = .ok (.iadd, 1) := by decide +kernel
theorem dX8_moles_195 : decode cX8_moles 195 = .ok (.dup2, 1) := by decide +kernel
theorem dX8_moles_196 : decode cX8_moles 196 = .ok (.iaload, 1) := by decide +kernel
theorem dX8_moles_197 : decode cX8_moles 197 = .ok (.iload 10, 2) := by decide +kernel
theorem dX8_moles_199 : decode cX8_moles 199 = .ok (.iload 13, 2) := by decide +kernel
theorem dX8_moles_201 : decode cX8_moles 201 = .ok (.invokestatic 187, 3) := by decide +kernel
theorem dX8_moles_204 : decode cX8_moles 204 = .ok (.ifCond .eq 7, 3) := by decide +kernel
theorem dX8_moles_207 : decode cX8_moles 207 = .ok (.iconst 1, 1) := by decide +kernel
theorem dX8_moles_208 : decode cX8_moles 208 = .ok (.goto 4, 3) := by decide +kernel
theorem dX8_moles_211 : decode cX8_moles 211 = .ok (.iconst 0, 1) := by decide +kernel
theorem dX8_moles_212 : decode cX8_moles 212 = .ok (.isub, 1) := by decide +kernel
theorem dX8_moles_213 : decode cX8_moles 213 = .ok (.iastore, 1) := by decide +kernel
theorem dX8_moles_214 : decode cX8_moles 214 = .ok (.iinc 13 1, 3) := by decide +kernel
theorem dX8_moles_217 : decode cX8_moles 217 = .ok (.goto (-81), 3) := by decide +kernel
theorem dX8_moles_220 : decode cX8_moles 220 = .ok (.aload_n 0, 1) := by decide +kernel
theorem dX8_moles_221 : decode cX8_moles 221 = .ok (.iload_n 1, 1) := by decide +kernel
theorem dX8_moles_222 : decode cX8_moles 222 = .ok (.invokevirtual 200, 3) := by decide +kernel
theorem dX8_moles_225 : decode cX8_moles 225 = .ok (.lload 6, 2) := by decide +kernel
theorem dX8_moles_227 : decode cX8_moles 227 = .ok (.aload_n 0, 1) := by decide +kernel
theorem dX8_moles_228 : decode cX8_moles 228 = .ok (.getfield 25, 3) := by decide +kernel
theorem dX8_moles_231 : decode cX8_moles 231 = .ok (.invokestatic 173, 3) := by decide +kernel
theorem dX8_moles_234 : decode cX8_moles 234 = .ok (.iload 4, 2) := by decide +kernel
theorem dX8_moles_236 : decode cX8_moles 236 = .ok (.if_icmp .ne 8, 3) := by decide +kernel
theorem dX8_moles_239 : decode cX8_moles 239 = .ok (.lload 11, 2) := by decide +kernel
theorem dX8_moles_241 : decode cX8_moles 241 = .ok (.goto 4, 3) := by decide +kernel
theorem dX8_moles_244 : decode cX8_moles 244 = .ok (.lconst 0, 1) := by decide +kernel
theorem dX8_moles_245 : decode cX8_moles 245 = .ok (.ladd, 1) := by decide +kernel
theorem dX8_moles_246 : decode cX8_moles 246 = .ok (.lstore 6, 2) := by decide +kernel
theorem dX8_moles_248 : decode cX8_moles 248 = .ok (.iinc 10 1, 3) := by decide +kernel
theorem dX8_moles_251 : decode cX8_moles 251 = .ok (.goto (-140), 3) := by decide +kernel
theorem dX8_moles_254 : decode cX8_moles 254 = .ok (.lload 6, 2) := by decide +kernel
theorem dX8_moles_256 : decode cX8_moles 256 = .ok (.lstore 10, 2) := by decide +kernel
theorem dX8_moles_258 : decode cX8_moles 258 = .ok (.lload 8, 2) := by decide +kernel
theorem dX8_moles_260 : decode cX8_moles 260 = .ok (.lstore 12, 2) := by decide +kernel
theorem dX8_moles_262 : decode cX8_moles 262 = .ok (.lload 12, 2) := by decide +kernel
theorem dX8_moles_264 : decode cX8_moles 264 = .ok (.lconst 0, 1) := by decide +kernel
theorem dX8_moles_265 : decode cX8_moles 265 = .ok (.lcmp, 1) := by decide +kernel
theorem dX8_moles_266 : decode cX8_moles 266 = .ok (.ifCond .eq 21, 3) := by decide +kernel
theorem dX8_moles_269 : decode cX8_moles 269 = .ok (.lload 10, 2) := by decide +kernel
theorem dX8_moles_271 : decode cX8_moles 271 = .ok (.lload 12, 2) := by decide +kernel
theorem dX8_moles_273 : decode cX8_moles 273 = .ok (.lrem, 1) := by decide +kernel
theorem dX8_moles_274 : decode cX8_moles 274 = .ok (.lstore 14, 2) := by decide +kernel
theorem dX8_moles_276 : decode cX8_moles 276 = .ok (.lload 12, 2) := by decide +kernel
theorem dX8_moles_278 : decode cX8_moles 278 = .ok (.lstore 10, 2) := by decide +kernel
theorem dX8_moles_280 : decode cX8_moles 280 = .ok (.lload 14, 2) := by decide +kernel
theorem dX8_moles_282 : decode cX8_moles 282 = .ok (.lstore 12, 2) := by decide +kernel
theorem dX8_moles_284 : decode cX8_moles 284 = .ok (.goto (-22), 3) := by decide +kernel
theorem dX8_moles_287 : decode cX8_moles 287 = .ok (.iload_n 3, 1) := by decide +kernel
theorem dX8_moles_288 : decode cX8_moles 288 = .ok (.ifCond .ne 11, 3) := by decide +kernel
theorem dX8_moles_291 : decode cX8_moles 291 = .ok (.lload 6, 2) := by decide +kernel
theorem dX8_moles_293 : decode cX8_moles 293 = .ok (.lload 10, 2) := by decide +kernel
theorem dX8_moles_295 : decode cX8_moles 295 = .ok (.ldiv, 1) := by decide +kernel
theorem dX8_moles_296 : decode cX8_moles 296 = .ok (.goto 8, 3) := by decide +kernel
theorem dX8_moles_299 : decode cX8_moles 299 = .ok (.lload 8, 2) := by decide +kernel
theorem dX8_moles_301 : decode cX8_moles 301 = .ok (.lload 10, 2) := by decide +kernel
theorem dX8_moles_303 : decode cX8_moles 303 = .ok (.ldiv, 1) := by decide +kernel
theorem dX8_moles_304 : decode cX8_moles 304 = .ok (.l2i, 1) := by decide +kernel
theorem dX8_moles_305 : decode cX8_moles 305 = .ok (.ireturn, 1) := by decide +kernel
set_option maxRecDepth 20000 in
theorem ggX8_image_X8_isTwo : GoodIn wsX8_image wsX8_isTwo := goodIn_r _ [9, 10, 11, 8, 12] (by decide +kernel) (by decide +kernel)
set_option maxRecDepth 20000 in
theorem gX8_image_X8_isTwo : GoodIn wsX8_image (va_wsS RX8 184 yX8_isTwo wsX8_isTwo) := goodIn_app (goodIn_of _ (by decide +kernel)) ggX8_image_X8_isTwo
set_option maxRecDepth 20000 in
theorem ggX8_image_X8_isMine : GoodIn wsX8_image wsX8_isMine := goodIn_r _ [16, 3, 20, 21, 22, 23, 24, 25, 26, 27, 28, 29, 30, 31, 32, 33, 34, 35, 36, 37, 38, 39, 40, 41, 42, 43] (by decide +kernel) (by decide +kernel)
set_option maxRecDepth 20000 in
theorem gX8_image_X8_isMine : GoodIn wsX8_image (wsV RX8 160 RX8 yX8_isMine wsX8_isMine) := goodIn_app (goodIn_of _ (by decide +kernel)) ggX8_image_X8_isMine
set_option maxRecDepth 20000 in
theorem ggX8_image_X8_copies : GoodIn wsX8_image wsX8_copies := goodIn_r _ [19] (by decide +kernel) (by decide +kernel)
set_option maxRecDepth 20000 in
theorem gX8_image_X8_copies : GoodIn wsX8_image (va_wsS RX8 135 yX8_copies wsX8_copies) := goodIn_app (goodIn_of _ (by decide +kernel)) ggX8_image_X8_copies
theorem dX8_image_0 : decode cX8_image 0 = .ok (.iload_n 1, 1) := by decide +kernel
theorem dX8_image_1 : decode cX8_image 1 = .ok (.invokestatic 184, 3) := by decide +kernel
theorem dX8_image_4 : decode cX8_image 4 = .ok (.ifCond .ne 6, 3) := by decide +kernel
theorem dX8_image_7 : decode cX8_image 7 = .ok (.ldc 70, 2) := by decide +kernel
theorem dX8_image_9 : decode cX8_image 9 = .ok (.ireturn, 1) := by decide +kernel
theorem dX8_image_10 : decode cX8_image 10 = .ok (.aload_n 0, 1) := by decide +kernel
theorem dX8_image_11 : decode cX8_image 11 = .ok (.invokevirtual 160, 3) := by decide +kernel
theorem dX8_image_14 : decode cX8_image 14 = .ok (.ifCond .ne 6, 3) := by decide +kernel
theorem dX8_image_17 : decode cX8_image 17 = .ok (.ldc 163, 2) := by decide +kernel
theorem dX8_image_19 : decode cX8_image 19 = .ok (.ireturn, 1) := by decide +kernel
theorem dX8_image_20 : decode cX8_image 20 = .ok (.aload_n 0, 1) := by decide +kernel
theorem dX8_image_21 : decode cX8_image 21 = .ok (.getfield 19, 3) := by decide +kernel
theorem dX8_image_24 : decode cX8_image 24 = .ok (.iconst 0, 1) := by decide +kernel
theorem dX8_image_25 : decode cX8_image 25 = .ok (.aload_n 0, 1) := by decide +kernel
theorem dX8_image_26 : decode cX8_image 26 = .ok (.getfield 31, 3) := by decide +kernel
theorem dX8_image_29 : decode cX8_image 29 = .ok (.bipush 30, 2) := by decide +kernel
theorem dX8_image_31 : decode cX8_image 31 = .ok (.iload_n 1, 1) := by decide +kernel
theorem dX8_image_32 : decode cX8_image 32 = .ok (.imul, 1) := by decide +kernel
theorem dX8_image_33 : decode cX8_image 33 = .ok (.invokestatic 135, 3) := by decide +kernel
theorem dX8_image_36 : decode cX8_image 36 = .ok (.aload_n 0, 1) := by decide +kernel
theorem dX8_image_37 : decode cX8_image 37 = .ok (.getfield 34, 3) := by decide +kernel
theorem dX8_image_40 : decode cX8_image 40 = .ok (.iload_n 1, 1) := by decide +kernel
theorem dX8_image_41 : decode cX8_image 41 = .ok (.iconst 1, 1) := by decide +kernel
theorem dX8_image_42 : decode cX8_image 42 = .ok (.bastore, 1) := by decide +kernel
theorem dX8_image_43 : decode cX8_image 43 = .ok (.iconst 1, 1) := by decide +kernel
theorem dX8_image_44 : decode cX8_image 44 = .ok (.ireturn, 1) := by decide +kernel
set_option maxRecDepth 20000 in
theorem ggX8_restore_X8_isTwo : GoodIn wsX8_restore wsX8_isTwo := goodIn_r _ [10, 11, 12, 9, 13] (by decide +kernel) (by decide +kernel)
set_option maxRecDepth 20000 in
theorem gX8_restore_X8_isTwo : GoodIn wsX8_restore (va_wsS RX8 184 yX8_isTwo wsX8_isTwo) := goodIn_app (goodIn_of _ (by decide +kernel)) ggX8_restore_X8_isTwo
set_option maxRecDepth 20000 in
theorem ggX8_restore_X8_copies : GoodIn wsX8_restore wsX8_copies := goodIn_r _ [16] (by decide +kernel) (by decide +kernel)
set_option maxRecDepth 20000 in
theorem gX8_restore_X8_copies : GoodIn wsX8_restore (va_wsS RX8 135 yX8_copies wsX8_copies) := goodIn_app (goodIn_of _ (by decide +kernel)) ggX8_restore_X8_copies
theorem dX8_restore_0 : decode cX8_restore 0 = .ok (.iload_n 1, 1) := by decide +kernel
theorem dX8_restore_1 : decode cX8_restore 1 = .ok (.invokestatic 184, 3) := by decide +kernel
theorem dX8_restore_4 : decode cX8_restore 4 = .ok (.ifCond .ne 6, 3) := by decide +kernel
theorem dX8_restore_7 : decode cX8_restore 7 = .ok (.ldc 70, 2) := by decide +kernel
theorem dX8_restore_9 : decode cX8_restore 9 = .ok (.ireturn, 1) := by decide +kernel
theorem dX8_restore_10 : decode cX8_restore 10 = .ok (.aload_n 0, 1) := by decide +kernel
theorem dX8_restore_11 : decode cX8_restore 11 = .ok (.getfield 34, 3) := by decide +kernel
theorem dX8_restore_14 : decode cX8_restore 14 = .ok (.iload_n 1, 1) := by decide +kernel
theorem dX8_restore_15 : decode cX8_restore 15 = .ok (.baload, 1) := by decide +kernel
theorem dX8_restore_16 : decode cX8_restore 16 = .ok (.ifCond .ne 6, 3) := by decide +kernel
theorem dX8_restore_19 : decode cX8_restore 19 = .ok (.ldc 163, 2) := by decide +kernel
theorem dX8_restore_21 : decode cX8_restore 21 = .ok (.ireturn, 1) := by decide +kernel
theorem dX8_restore_22 : decode cX8_restore 22 = .ok (.aload_n 0, 1) := by decide +kernel
theorem dX8_restore_23 : decode cX8_restore 23 = .ok (.getfield 31, 3) := by decide +kernel
theorem dX8_restore_26 : decode cX8_restore 26 = .ok (.bipush 30, 2) := by decide +kernel
theorem dX8_restore_28 : decode cX8_restore 28 = .ok (.iload_n 1, 1) := by decide +kernel
theorem dX8_restore_29 : decode cX8_restore 29 = .ok (.imul, 1) := by decide +kernel
theorem dX8_restore_30 : decode cX8_restore 30 = .ok (.aload_n 0, 1) := by decide +kernel
theorem dX8_restore_31 : decode cX8_restore 31 = .ok (.getfield 19, 3) := by decide +kernel
theorem dX8_restore_34 : decode cX8_restore 34 = .ok (.iconst 0, 1) := by decide +kernel
theorem dX8_restore_35 : decode cX8_restore 35 = .ok (.invokestatic 135, 3) := by decide +kernel
theorem dX8_restore_38 : decode cX8_restore 38 = .ok (.aload_n 0, 1) := by decide +kernel
theorem dX8_restore_39 : decode cX8_restore 39 = .ok (.iconst 0, 1) := by decide +kernel
theorem dX8_restore_40 : decode cX8_restore 40 = .ok (.putfield 139, 3) := by decide +kernel
theorem dX8_restore_43 : decode cX8_restore 43 = .ok (.iconst 1, 1) := by decide +kernel
theorem dX8_restore_44 : decode cX8_restore 44 = .ok (.ireturn, 1) := by decide +kernel
set_option maxRecDepth 20000 in
theorem ggX8_kind_X8_isThing : GoodIn wsX8_kind wsX8_isThing := goodIn_r _ [7, 1, 8, 9, 6, 10, 11, 12, 13, 14, 15, 16, 17, 18, 19, 20, 21, 22, 23, 24, 25, 26, 27, 28, 29, 30, 31, 32, 33, 34] (by decide +kernel) (by decide +kernel)
set_option maxRecDepth 20000 in
theorem gX8_kind_X8_isThing : GoodIn wsX8_kind (wsV RX8 177 RX8 yX8_isThing wsX8_isThing) := goodIn_app (goodIn_of _ (by decide +kernel)) ggX8_kind_X8_isThing
theorem dX8_kind_0 : decode cX8_kind 0 = .ok (.aload_n 0, 1) := by decide +kernel
theorem dX8_kind_1 : decode cX8_kind 1 = .ok (.iload_n 1, 1) := by decide +kernel
theorem dX8_kind_2 : decode cX8_kind 2 = .ok (.invokevirtual 177, 3) := by decide +kernel
theorem dX8_kind_5 : decode cX8_kind 5 = .ok (.ifCond .eq 14, 3) := by decide +kernel
theorem dX8_kind_8 : decode cX8_kind 8 = .ok (.aload_n 0, 1) := by decide +kernel
theorem dX8_kind_9 : decode cX8_kind 9 = .ok (.getfield 19, 3) := by decide +kernel
theorem dX8_kind_12 : decode cX8_kind 12 = .ok (.iconst 3, 1) := by decide +kernel
theorem dX8_kind_13 : decode cX8_kind 13 = .ok (.iload_n 1, 1) := by decide +kernel
theorem dX8_kind_14 : decode cX8_kind 14 = .ok (.iadd, 1) := by decide +kernel
theorem dX8_kind_15 : decode cX8_kind 15 = .ok (.iaload, 1) := by decide +kernel
theorem dX8_kind_16 : decode cX8_kind 16 = .ok (.goto 5, 3) := by decide +kernel
theorem dX8_kind_19 : decode cX8_kind 19 = .ok (.ldc 70, 2) := by decide +kernel
theorem dX8_kind_21 : decode cX8_kind 21 = .ok (.ireturn, 1) := by decide +kernel
theorem dX8_isOf_0 : decode cX8_isOf 0 = .ok (.iload_n 1, 1) := by decide +kernel
theorem dX8_isOf_1 : decode cX8_isOf 1 = .ok (.ifCond .eq 33, 3) := by decide +kernel
theorem dX8_isOf_4 : decode cX8_isOf 4 = .ok (.iload_n 0, 1) := by decide +kernel
theorem dX8_isOf_5 : decode cX8_isOf 5 = .ok (.iload_n 1, 1) := by decide +kernel
theorem dX8_isOf_6 : decode cX8_isOf 6 = .ok (.if_icmp .eq 28, 3) := by decide +kernel
theorem dX8_isOf_9 : decode cX8_isOf 9 = .ok (.iload_n 1, 1) := by decide +kernel
theorem dX8_isOf_10 : decode cX8_isOf 10 = .ok (.iconst 1, 1) := by decide +kernel
theorem dX8_isOf_11 : decode cX8_isOf 11 = .ok (.if_icmp .ne 13, 3) := by decide +kernel
theorem dX8_isOf_14 : decode cX8_isOf 14 = .ok (.iload_n 0, 1) := by decide +kernel
theorem dX8_isOf_15 : decode cX8_isOf 15 = .ok (.iconst 2, 1) := by decide +kernel
theorem dX8_isOf_16 : decode cX8_isOf 16 = .ok (.if_icmp .eq 18, 3) := by decide +kernel
theorem dX8_isOf_19 : decode cX8_isOf 19 = .ok (.iload_n 0, 1) := by decide +kernel
theorem dX8_isOf_20 : decode cX8_isOf 20 = .ok (.iconst 3, 1) := by decide +kernel
theorem dX8_isOf_21 : decode cX8_isOf 21 = .ok (.if_icmp .eq 13, 3) := by decide +kernel
theorem dX8_isOf_24 : decode cX8_isOf 24 = .ok (.iload_n 1, 1) := by decide +kernel
theorem dX8_isOf_25 : decode cX8_isOf 25 = .ok (.iconst 4, 1) := by decide +kernel
theorem dX8_isOf_26 : decode cX8_isOf 26 = .ok (.if_icmp .ne 12, 3) := by decide +kernel
theorem dX8_isOf_29 : decode cX8_isOf 29 = .ok (.iload_n 0, 1) := by decide +kernel
theorem dX8_isOf_30 : decode cX8_isOf 30 = .ok (.iconst 5, 1) := by decide +kernel
theorem dX8_isOf_31 : decode cX8_isOf 31 = .ok (.if_icmp .ne 7, 3) := by decide +kernel
theorem dX8_isOf_34 : decode cX8_isOf 34 = .ok (.iconst 1, 1) := by decide +kernel
theorem dX8_isOf_35 : decode cX8_isOf 35 = .ok (.goto 4, 3) := by decide +kernel
theorem dX8_isOf_38 : decode cX8_isOf 38 = .ok (.iconst 0, 1) := by decide +kernel
theorem dX8_isOf_39 : decode cX8_isOf 39 = .ok (.ireturn, 1) := by decide +kernel
set_option maxRecDepth 20000 in
theorem ggX8_as_X8_isThing : GoodIn wsX8_as wsX8_isThing := goodIn_r _ [8, 3, 9, 10, 7, 11, 25, 26, 27, 28, 29, 30, 31, 32, 33, 34, 35, 36, 37, 38, 39, 40, 41, 42, 43, 44, 45, 46, 47, 48] (by decide +kernel) (by decide +kernel)
set_option maxRecDepth 20000 in
theorem gX8_as_X8_isThing : GoodIn wsX8_as (wsV RX8 177 RX8 yX8_isThing wsX8_isThing) := goodIn_app (goodIn_of _ (by decide +kernel)) ggX8_as_X8_isThing
set_option maxRecDepth 20000 in
theorem ggX8_as_X8_in : GoodIn wsX8_as wsX8_in := goodIn_r _ [11] (by decide +kernel) (by decide +kernel)
set_option maxRecDepth 20000 in
theorem gX8_as_X8_in : GoodIn wsX8_as (va_wsS RX8 60 yX8_in wsX8_in) := goodIn_app (goodIn_of _ (by decide +kernel)) ggX8_as_X8_in
set_option maxRecDepth 20000 in
theorem ggX8_as_X8_isOf : GoodIn wsX8_as wsX8_isOf := goodIn_r _ [14] (by decide +kernel) (by decide +kernel)
set_option maxRecDepth 20000 in
theorem gX8_as_X8_isOf : GoodIn wsX8_as (va_wsS RX8 231 yX8_isOf wsX8_isOf) := goodIn_app (goodIn_of _ (by decide +kernel)) ggX8_as_X8_isOf
set_option maxRecDepth 20000 in
theorem ggX8_as_X8_well : GoodIn wsX8_as wsX8_well := goodIn_r _ [18, 19, 25, 26, 27, 28, 29, 30, 31, 32, 33, 34, 35, 36, 37, 38, 39, 40, 41, 42, 43, 44, 45, 46, 47, 48] (by decide +kernel) (by decide +kernel)
set_option maxRecDepth 20000 in
theorem gX8_as_X8_well : GoodIn wsX8_as (wsV RX8 75 RX8 yX8_well wsX8_well) := goodIn_app (goodIn_of _ (by decide +kernel)) ggX8_as_X8_well
set_option maxRecDepth 20000 in
theorem ggX8_as_X8_found : GoodIn wsX8_as wsX8_found := goodIn_r _ [23, 19, 24, 25, 26, 27, 28, 29, 30, 31, 32, 33, 34, 35, 36, 37, 38, 39, 40, 41, 42, 43, 44, 45, 46, 47, 48] (by decide +kernel) (by decide +kernel)
set_option maxRecDepth 20000 in
theorem gX8_as_X8_found : GoodIn wsX8_as (wsV RX8 71 RX8 yX8_found wsX8_found) := goodIn_app (goodIn_of _ (by decide +kernel)) ggX8_as_X8_found
theorem dX8_as_0 : decode cX8_as 0 = .ok (.aload_n 0, 1) := by decide +kernel
theorem dX8_as_1 : decode cX8_as 1 = .ok (.iload_n 1, 1) := by decide +kernel
theorem dX8_as_2 : decode cX8_as 2 = .ok (.invokevirtual 177, 3) := by decide +kernel
theorem dX8_as_5 : decode cX8_as 5 = .ok (.ifCond .eq 15, 3) := by decide +kernel
theorem dX8_as_8 : decode cX8_as 8 = .ok (.iload_n 2, 1) := by decide +kernel
theorem dX8_as_9 : decode cX8_as 9 = .ok (.i2l, 1) := by decide +kernel
theorem dX8_as_10 : decode cX8_as 10 = .ok (.lconst 0, 1) := by decide +kernel
theorem dX8_as_11 : decode cX8_as 11 = .ok (.ldc2_w 229, 3) := by decide +kernel
theorem dX8_as_14 : decode cX8_as 14 = .ok (.invokestatic 60, 3) := by decide +kernel
theorem dX8_as_17 : decode cX8_as 17 = .ok (.ifCond .ne 6, 3) := by decide +kernel
theorem dX8_as_20 : decode cX8_as 20 = .ok (.ldc 70, 2) := by decide +kernel
theorem dX8_as_22 : decode cX8_as 22 = .ok (.ireturn, 1) := by decide +kernel
theorem dX8_as_23 : decode cX8_as 23 = .ok (.aload_n 0, 1) := by decide +kernel
theorem dX8_as_24 : decode cX8_as 24 = .ok (.getfield 19, 3) := by decide +kernel
theorem dX8_as_27 : decode cX8_as 27 = .ok (.iconst 3, 1) := by decide +kernel
theorem dX8_as_28 : decode cX8_as 28 = .ok (.iload_n 1, 1) := by decide +kernel
theorem dX8_as_29 : decode cX8_as 29 = .ok (.iadd, 1) := by decide +kernel
theorem dX8_as_30 : decode cX8_as 30 = .ok (.iaload, 1) := by decide +kernel
theorem dX8_as_31 : decode cX8_as 31 = .ok (.iload_n 2, 1) := by decide +kernel
theorem dX8_as_32 : decode cX8_as 32 = .ok (.invokestatic 231, 3) := by decide +kernel
theorem dX8_as_35 : decode cX8_as 35 = .ok (.ifCond .eq 11, 3) := by decide +kernel
theorem dX8_as_38 : decode cX8_as 38 = .ok (.aload_n 0, 1) := by decide +kernel
theorem dX8_as_39 : decode cX8_as 39 = .ok (.iload_n 1, 1) := by decide +kernel
theorem dX8_as_40 : decode cX8_as 40 = .ok (.invokevirtual 75, 3) := by decide +kernel
theorem dX8_as_43 : decode cX8_as 43 = .ok (.goto 8, 3) := by decide +kernel
theorem dX8_as_46 : decode cX8_as 46 = .ok (.aload_n 0, 1) := by decide +kernel
theorem dX8_as_47 : decode cX8_as 47 = .ok (.iconst 3, 1) := by decide +kernel
theorem dX8_as_48 : decode cX8_as 48 = .ok (.invokevirtual 71, 3) := by decide +kernel
theorem dX8_as_51 : decode cX8_as 51 = .ok (.ireturn, 1) := by decide +kernel
theorem dX8_leave_0 : decode cX8_leave 0 = .ok (.lconst 1, 1) := by decide +kernel
theorem dX8_leave_1 : decode cX8_leave 1 = .ok (.lstore_n 3, 1) := by decide +kernel
theorem dX8_leave_2 : decode cX8_leave 2 = .ok (.lload_n 3, 1) := by decide +kernel
theorem dX8_leave_3 : decode cX8_leave 3 = .ok (.ldc2_w 234, 3) := by decide +kernel
theorem dX8_leave_6 : decode cX8_leave 6 = .ok (.lmul, 1) := by decide +kernel
theorem dX8_leave_7 : decode cX8_leave 7 = .ok (.lload_n 1, 1) := by decide +kernel
theorem dX8_leave_8 : decode cX8_leave 8 = .ok (.lcmp, 1) := by decide +kernel
theorem dX8_leave_9 : decode cX8_leave 9 = .ok (.ifCond .gt 12, 3) := by decide +kernel
theorem dX8_leave_12 : decode cX8_leave 12 = .ok (.lload_n 3, 1) := by decide +kernel
theorem dX8_leave_13 : decode cX8_leave 13 = .ok (.ldc2_w 234, 3) := by decide +kernel
theorem dX8_leave_16 : decode cX8_leave 16 = .ok (.lmul, 1) := by decide +kernel
theorem dX8_leave_17 : decode cX8_leave 17 = .ok (.lstore_n 3, 1) := by decide +kernel
theorem dX8_leave_18 : decode cX8_leave 18 = .ok (.goto (-16), 3) := by decide +kernel
theorem dX8_leave_21 : decode cX8_leave 21 = .ok (.lload_n 1, 1) := by decide +kernel
theorem dX8_leave_22 : decode cX8_leave 22 = .ok (.lstore 5, 2) := by decide +kernel
theorem dX8_leave_24 : decode cX8_leave 24 = .ok (.lload_n 3, 1) := by decide +kernel
theorem dX8_leave_25 : decode cX8_leave 25 = .ok (.lconst 0, 1) := by decide +kernel
theorem dX8_leave_26 : decode cX8_leave 26 = .ok (.lcmp, 1) := by decide +kernel
theorem dX8_leave_27 : decode cX8_leave 27 = .ok (.ifCond .le 42, 3) := by decide +kernel
theorem dX8_leave_30 : decode cX8_leave 30 = .ok (.aload_n 0, 1) := by decide +kernel
theorem dX8_leave_31 : decode cX8_leave 31 = .ok (.getfield 41, 3) := by decide +kernel
theorem dX8_leave_34 : decode cX8_leave 34 = .ok (.aload_n 0, 1) := by decide +kernel
theorem dX8_leave_35 : decode cX8_leave 35 = .ok (.getfield 236, 3) := by decide +kernel
theorem dX8_leave_38 : decode cX8_leave 38 = .ok (.lload 5, 2) := by decide +kernel
theorem dX8_leave_40 : decode cX8_leave 40 = .ok (.lload_n 3, 1) := by decide +kernel
theorem dX8_leave_41 : decode cX8_leave 41 = .ok (.ldiv, 1) := by decide +kernel
theorem dX8_leave_42 : decode cX8_leave 42 = .ok (.l2i, 1) := by decide +kernel
theorem dX8_leave_43 : decode cX8_leave 43 = .ok (.iastore, 1) := by decide +kernel
theorem dX8_leave_44 : decode cX8_leave 44 = .ok (.lload 5, 2) := by decide +kernel
theorem dX8_leave_46 : decode cX8_leave 46 = .ok (.lload_n 3, 1) := by decide +kernel
theorem dX8_leave_47 : decode cX8_leave 47 = .ok (.lrem, 1) := by decide +kernel
theorem dX8_leave_48 : decode cX8_leave 48 = .ok (.lstore 5, 2) := by decide +kernel
theorem dX8_leave_50 : decode cX8_leave 50 = .ok (.aload_n 0, 1) := by decide +kernel
theorem dX8_leave_51 : decode cX8_leave 51 = .ok (.dup, 1) := by decide +kernel
theorem dX8_leave_52 : decode cX8_leave 52 = .ok (.getfield 236, 3) := by decide +kernel
theorem dX8_leave_55 : decode cX8_leave 55 = .ok (.iconst 1, 1) := by decide +kernel
theorem dX8_leave_56 : decode cX8_leave 56 = .ok (.iadd, 1) := by decide +kernel
theorem dX8_leave_57 : decode cX8_leave 57 = .ok (.putfield 236, 3) := by decide +kernel
theorem dX8_leave_60 : decode cX8_leave 60 = .ok (.lload_n 3, 1) := by decide +kernel
theorem dX8_leave_61 : decode cX8_leave 61 = .ok (.ldc2_w 234, 3) := by decide +kernel
theorem dX8_leave_64 : decode cX8_leave 64 = .ok (.ldiv, 1) := by decide +kernel
theorem dX8_leave_65 : decode cX8_leave 65 = .ok (.lstore_n 3, 1) := by decide +kernel
theorem dX8_leave_66 : decode cX8_leave 66 = .ok (.goto (-42), 3) := by decide +kernel
theorem dX8_leave_69 : decode cX8_leave 69 = .ok (.return_, 1) := by decide +kernel
set_option maxRecDepth 20000 in
theorem ggX8_mark_X8_leave : GoodIn wsX8_mark wsX8_leave := goodIn_r _ [9, 10, 11, 12, 13, 14, 15, 16, 17, 18, 19, 20, 21, 22, 23, 24, 25, 26, 27, 28, 29, 30, 31, 32, 33, 34, 35, 36] (by decide +kernel) (by decide +kernel)
set_option maxRecDepth 20000 in
theorem gX8_mark_X8_leave : GoodIn wsX8_mark (wsV RX8 245 RX8 yX8_leave wsX8_leave) := goodIn_app (goodIn_of _ (by decide +kernel)) ggX8_mark_X8_leave
theorem dX8_mark_0 : decode cX8_mark 0 = .ok (.aload_n 0, 1) := by decide +kernel
theorem dX8_mark_1 : decode cX8_mark 1 = .ok (.getfield 19, 3) := by decide +kernel
theorem dX8_mark_4 : decode cX8_mark 4 = .ok (.iconst 3, 1) := by decide +kernel
theorem dX8_mark_5 : decode cX8_mark 5 = .ok (.iload_n 1, 1) := by decide +kernel
theorem dX8_mark_6 : decode cX8_mark 6 = .ok (.iadd, 1) := by decide +kernel
theorem dX8_mark_7 : decode cX8_mark 7 = .ok (.iaload, 1) := by decide +kernel
theorem dX8_mark_8 : decode cX8_mark 8 = .ok (.istore_n 2, 1) := by decide +kernel
theorem dX8_mark_9 : decode cX8_mark 9 = .ok (.iload_n 1, 1) := by decide +kernel
theorem dX8_mark_10 : decode cX8_mark 10 = .ok (.aload_n 0, 1) := by decide +kernel
theorem dX8_mark_11 : decode cX8_mark 11 = .ok (.getfield 19, 3) := by decide +kernel
theorem dX8_mark_14 : decode cX8_mark 14 = .ok (.bipush 13, 2) := by decide +kernel
theorem dX8_mark_16 : decode cX8_mark 16 = .ok (.iload_n 1, 1) := by decide +kernel
theorem dX8_mark_17 : decode cX8_mark 17 = .ok (.iadd, 1) := by decide +kernel
theorem dX8_mark_18 : decode cX8_mark 18 = .ok (.iaload, 1) := by decide +kernel
theorem dX8_mark_19 : decode cX8_mark 19 = .ok (.iadd, 1) := by decide +kernel
theorem dX8_mark_20 : decode cX8_mark 20 = .ok (.istore_n 3, 1) := by decide +kernel
theorem dX8_mark_21 : decode cX8_mark 21 = .ok (.aload_n 0, 1) := by decide +kernel
theorem dX8_mark_22 : decode cX8_mark 22 = .ok (.iload_n 2, 1) := by decide +kernel
theorem dX8_mark_23 : decode cX8_mark 23 = .ok (.iconst 2, 1) := by decide +kernel
theorem dX8_mark_24 : decode cX8_mark 24 = .ok (.if_icmp .ne 9, 3) := by decide +kernel
theorem dX8_mark_27 : decode cX8_mark 27 = .ok (.ldc2_w 239, 3) := by decide +kernel
theorem dX8_mark_30 : decode cX8_mark 30 = .ok (.goto 17, 3) := by decide +kernel
theorem dX8_mark_33 : decode cX8_mark 33 = .ok (.iload_n 2, 1) := by decide +kernel
theorem dX8_mark_34 : decode cX8_mark 34 = .ok (.iconst 3, 1) := by decide +kernel
theorem dX8_mark_35 : decode cX8_mark 35 = .ok (.if_icmp .ne 9, 3) := by decide +kernel
theorem dX8_mark_38 : decode cX8_mark 38 = .ok (.ldc2_w 241, 3) := by decide +kernel
theorem dX8_mark_41 : decode cX8_mark 41 = .ok (.goto 6, 3) := by decide +kernel
theorem dX8_mark_44 : decode cX8_mark 44 = .ok (.ldc2_w 243, 3) := by decide +kernel
theorem dX8_mark_47 : decode cX8_mark 47 = .ok (.invokevirtual 245, 3) := by decide +kernel
theorem dX8_mark_50 : decode cX8_mark 50 = .ok (.iload_n 2, 1) := by decide +kernel
theorem dX8_mark_51 : decode cX8_mark 51 = .ok (.iconst 2, 1) := by decide +kernel
theorem dX8_mark_52 : decode cX8_mark 52 = .ok (.if_icmp .ne 9, 3) := by decide +kernel
theorem dX8_mark_55 : decode cX8_mark 55 = .ok (.iconst 2, 1) := by decide +kernel
theorem dX8_mark_56 : decode cX8_mark 56 = .ok (.iload_n 3, 1) := by decide +kernel
theorem dX8_mark_57 : decode cX8_mark 57 = .ok (.imul, 1) := by decide +kernel
theorem dX8_mark_58 : decode cX8_mark 58 = .ok (.goto 17, 3) := by decide +kernel
theorem dX8_mark_61 : decode cX8_mark 61 = .ok (.iload_n 2, 1) := by decide +kernel
theorem dX8_mark_62 : decode cX8_mark 62 = .ok (.iconst 3, 1) := by decide +kernel
theorem dX8_mark_63 : decode cX8_mark 63 = .ok (.if_icmp .ne 11, 3) := by decide +kernel
theorem dX8_mark_66 : decode cX8_mark 66 = .ok (.iload_n 3, 1) := by decide +kernel
theorem dX8_mark_67 : decode cX8_mark 67 = .ok (.sipush 1000, 3) := by decide +kernel
theorem dX8_mark_70 : decode cX8_mark 70 = .ok (.isub, 1) := by decide +kernel
theorem dX8_mark_71 : decode cX8_mark 71 = .ok (.goto 4, 3) := by decide +kernel
theorem dX8_mark_74 : decode cX8_mark 74 = .ok (.iload_n 3, 1) := by decide +kernel
theorem dX8_mark_75 : decode cX8_mark 75 = .ok (.ireturn, 1) := by decide +kernel
set_option maxRecDepth 20000 in
theorem ggX8_sizeOf_X8_leave : GoodIn wsX8_sizeOf wsX8_leave := goodIn_r _ [8, 9, 10, 11, 12, 13, 14, 15, 16, 17, 18, 19, 20, 21, 22, 23, 24, 25, 26, 27, 28, 29, 30, 31, 32, 33, 34, 35] (by decide +kernel) (by decide +kernel)
set_option maxRecDepth 20000 in
theorem gX8_sizeOf_X8_leave : GoodIn wsX8_sizeOf (wsV RX8 245 RX8 yX8_leave wsX8_leave) := goodIn_app (goodIn_of _ (by decide +kernel)) ggX8_sizeOf_X8_leave
theorem dX8_sizeOf_0 : decode cX8_sizeOf 0 = .ok (.aload_n 0, 1) := by decide +kernel
theorem dX8_sizeOf_1 : decode cX8_sizeOf 1 = .ok (.getfield 19, 3) := by decide +kernel
theorem dX8_sizeOf_4 : decode cX8_sizeOf 4 = .ok (.bipush 8, 2) := by decide +kernel
theorem dX8_sizeOf_6 : decode cX8_sizeOf 6 = .ok (.iload_n 1, 1) := by decide +kernel
theorem dX8_sizeOf_7 : decode cX8_sizeOf 7 = .ok (.iadd, 1) := by decide +kernel
theorem dX8_sizeOf_8 : decode cX8_sizeOf 8 = .ok (.iaload, 1) := by decide +kernel
theorem dX8_sizeOf_9 : decode cX8_sizeOf 9 = .ok (.bipush 100, 2) := by decide +kernel
theorem dX8_sizeOf_11 : decode cX8_sizeOf 11 = .ok (.isub, 1) := by decide +kernel
theorem dX8_sizeOf_12 : decode cX8_sizeOf 12 = .ok (.istore_n 2, 1) := by decide +kernel
theorem dX8_sizeOf_13 : decode cX8_sizeOf 13 = .ok (.aload_n 0, 1) := by decide +kernel
theorem dX8_sizeOf_14 : decode cX8_sizeOf 14 = .ok (.getfield 19, 3) := by decide +kernel
theorem dX8_sizeOf_17 : decode cX8_sizeOf 17 = .ok (.iconst 3, 1) := by decide +kernel
theorem dX8_sizeOf_18 : decode cX8_sizeOf 18 = .ok (.iload_n 1, 1) := by decide +kernel
theorem dX8_sizeOf_19 : decode cX8_sizeOf 19 = .ok (.iadd, 1) := by decide +kernel
theorem dX8_sizeOf_20 : decode cX8_sizeOf 20 = .ok (.iaload, 1) := by decide +kernel
theorem dX8_sizeOf_21 : decode cX8_sizeOf 21 = .ok (.iconst 5, 1) := by decide +kernel
theorem dX8_sizeOf_22 : decode cX8_sizeOf 22 = .ok (.if_icmp .ne 7, 3) := by decide +kernel
theorem dX8_sizeOf_25 : decode cX8_sizeOf 25 = .ok (.iconst 1, 1) := by decide +kernel
theorem dX8_sizeOf_26 : decode cX8_sizeOf 26 = .ok (.goto 4, 3) := by decide +kernel
theorem dX8_sizeOf_29 : decode cX8_sizeOf 29 = .ok (.iconst 0, 1) := by decide +kernel
theorem dX8_sizeOf_30 : decode cX8_sizeOf 30 = .ok (.istore_n 3, 1) := by decide +kernel
theorem dX8_sizeOf_31 : decode cX8_sizeOf 31 = .ok (.aload_n 0, 1) := by decide +kernel
theorem dX8_sizeOf_32 : decode cX8_sizeOf 32 = .ok (.iload_n 3, 1) := by decide +kernel
theorem dX8_sizeOf_33 : decode cX8_sizeOf 33 = .ok (.ifCond .eq 9, 3) := by decide +kernel
theorem dX8_sizeOf_36 : decode cX8_sizeOf 36 = .ok (.ldc2_w 249, 3) := by decide +kernel
theorem dX8_sizeOf_39 : decode cX8_sizeOf 39 = .ok (.goto 6, 3) := by decide +kernel
theorem dX8_sizeOf_42 : decode cX8_sizeOf 42 = .ok (.ldc2_w 251, 3) := by decide +kernel
theorem dX8_sizeOf_45 : decode cX8_sizeOf 45 = .ok (.invokevirtual 245, 3) := by decide +kernel
theorem dX8_sizeOf_48 : decode cX8_sizeOf 48 = .ok (.iload_n 3, 1) := by decide +kernel
theorem dX8_sizeOf_49 : decode cX8_sizeOf 49 = .ok (.ifCond .eq 9, 3) := by decide +kernel
theorem dX8_sizeOf_52 : decode cX8_sizeOf 52 = .ok (.iconst 2, 1) := by decide +kernel
theorem dX8_sizeOf_53 : decode cX8_sizeOf 53 = .ok (.iload_n 2, 1) := by decide +kernel
theorem dX8_sizeOf_54 : decode cX8_sizeOf 54 = .ok (.imul, 1) := by decide +kernel
theorem dX8_sizeOf_55 : decode cX8_sizeOf 55 = .ok (.goto 4, 3) := by decide +kernel
theorem dX8_sizeOf_58 : decode cX8_sizeOf 58 = .ok (.iload_n 2, 1) := by decide +kernel
theorem dX8_sizeOf_59 : decode cX8_sizeOf 59 = .ok (.ireturn, 1) := by decide +kernel
set_option maxRecDepth 20000 in
theorem ggX8_ask_X8_isThing : GoodIn wsX8_ask wsX8_isThing := goodIn_r _ [11, 3, 12, 13, 10, 14, 37, 38, 39, 40, 41, 42, 43, 44, 45, 46, 47, 48, 49, 50, 51, 52, 53, 54, 55, 56, 57, 58, 59, 60] (by decide +kernel) (by decide +kernel)
set_option maxRecDepth 20000 in
theorem gX8_ask_X8_isThing : GoodIn wsX8_ask (wsV RX8 177 RX8 yX8_isThing wsX8_isThing) := goodIn_app (goodIn_of _ (by decide +kernel)) ggX8_ask_X8_isThing
set_option maxRecDepth 20000 in
theorem ggX8_ask_X8_isTwo : GoodIn wsX8_ask wsX8_isTwo := goodIn_r _ [17, 12, 13, 10, 14] (by decide +kernel) (by decide +kernel)
set_option maxRecDepth 20000 in
theorem gX8_ask_X8_isTwo : GoodIn wsX8_ask (va_wsS RX8 184 yX8_isTwo wsX8_isTwo) := goodIn_app (goodIn_of _ (by decide +kernel)) ggX8_ask_X8_isTwo
set_option maxRecDepth 20000 in
theorem ggX8_ask_X8_mark : GoodIn wsX8_ask wsX8_mark := goodIn_r _ [21, 3, 22, 23, 24, 25, 26, 27, 10, 28, 29, 30, 2, 37, 38, 39, 40, 41, 42, 43, 44, 45, 46, 47, 48, 49, 50, 51, 52, 53, 54, 55, 56, 57, 58, 59, 60] (by decide +kernel) (by decide +kernel)
set_option maxRecDepth 20000 in
theorem gX8_ask_X8_mark : GoodIn wsX8_ask (wsV RX8 253 RX8 yX8_mark wsX8_mark) := goodIn_app (goodIn_of _ (by decide +kernel)) ggX8_ask_X8_mark
set_option maxRecDepth 20000 in
theorem ggX8_ask_X8_leave : GoodIn wsX8_ask wsX8_leave := goodIn_r _ [28, 29, 30, 2, 37, 38, 39, 40, 41, 42, 43, 44, 45, 46, 47, 48, 49, 50, 51, 52, 53, 54, 55, 56, 57, 58, 59, 60] (by decide +kernel) (by decide +kernel)
set_option maxRecDepth 20000 in
theorem gX8_ask_X8_leave : GoodIn wsX8_ask (wsV RX8 245 RX8 yX8_leave wsX8_leave) := goodIn_app (goodIn_of _ (by decide +kernel)) ggX8_ask_X8_leave
set_option maxRecDepth 20000 in
theorem ggX8_ask_X8_sizeOf : GoodIn wsX8_ask wsX8_sizeOf := goodIn_r _ [34, 3, 35, 36, 25, 26, 27, 10, 28, 29, 30, 2, 37, 38, 39, 40, 41, 42, 43, 44, 45, 46, 47, 48, 49, 50, 51, 52, 53, 54, 55, 56, 57, 58, 59, 60] (by decide +kernel) (by decide +kernel)
set_option maxRecDepth 20000 in
theorem gX8_ask_X8_sizeOf : GoodIn wsX8_ask (wsV RX8 260 RX8 yX8_sizeOf wsX8_sizeOf) := goodIn_app (goodIn_of _ (by decide +kernel)) ggX8_ask_X8_sizeOf
theorem dX8_ask_0 : decode cX8_ask 0 = .ok (.aload_n 0, 1) := by decide +kernel
theorem dX8_ask_1 : decode cX8_ask 1 = .ok (.iload_n 1, 1) := by decide +kernel
theorem dX8_ask_2 : decode cX8_ask 2 = .ok (.invokevirtual 177, 3) := by decide +kernel
theorem dX8_ask_5 : decode cX8_ask 5 = .ok (.ifCond .eq 10, 3) := by decide +kernel
theorem dX8_ask_8 : decode cX8_ask 8 = .ok (.iload_n 2, 1) := by decide +kernel
theorem dX8_ask_9 : decode cX8_ask 9 = .ok (.invokestatic 184, 3) := by decide +kernel
theorem dX8_ask_12 : decode cX8_ask 12 = .ok (.ifCond .ne 6, 3) := by decide +kernel
theorem dX8_ask_15 : decode cX8_ask 15 = .ok (.ldc 70, 2) := by decide +kernel
theorem dX8_ask_17 : decode cX8_ask 17 = .ok (.ireturn, 1) := by decide +kernel
theorem dX8_ask_18 : decode cX8_ask 18 = .ok (.aload_n 0, 1) := by decide +kernel
theorem dX8_ask_19 : decode cX8_ask 19 = .ok (.iconst 0, 1) := by decide +kernel
theorem dX8_ask_20 : decode cX8_ask 20 = .ok (.putfield 236, 3) := by decide +kernel
end
section
theorem dX8_ask_23 : decode cX8_ask 23 = .ok (.aload_n 0, 1) := by decide +kernel
theorem dX8_ask_24 : decode cX8_ask 24 = .ok (.getfield 19, 3) := by decide +kernel
theorem dX8_ask_27 : decode cX8_ask 27 = .ok (.iconst 3, 1) := by decide +kernel
theorem dX8_ask_28 : decode cX8_ask 28 = .ok (.iload_n 1, 1) := by decide +kernel
theorem dX8_ask_29 : decode cX8_ask 29 = .ok (.iadd, 1) := by decide +kernel
theorem dX8_ask_30 : decode cX8_ask 30 = .ok (.iaload, 1) := by decide +kernel
theorem dX8_ask_31 : decode cX8_ask 31 = .ok (.istore_n 3, 1) := by decide +kernel
theorem dX8_ask_32 : decode cX8_ask 32 = .ok (.iload_n 3, 1) := by decide +kernel
theorem dX8_ask_33 : decode cX8_ask 33 = .ok (.iconst 4, 1) := by decide +kernel
theorem dX8_ask_34 : decode cX8_ask 34 = .ok (.if_icmp .ge 63, 3) := by decide +kernel
theorem dX8_ask_37 : decode cX8_ask 37 = .ok (.iload_n 2, 1) := by decide +kernel
theorem dX8_ask_38 : decode cX8_ask 38 = .ok (.iconst 1, 1) := by decide +kernel
theorem dX8_ask_39 : decode cX8_ask 39 = .ok (.if_icmp .ne 9, 3) := by decide +kernel
theorem dX8_ask_42 : decode cX8_ask 42 = .ok (.aload_n 0, 1) := by decide +kernel
theorem dX8_ask_43 : decode cX8_ask 43 = .ok (.iload_n 1, 1) := by decide +kernel
theorem dX8_ask_44 : decode cX8_ask 44 = .ok (.invokevirtual 253, 3) := by decide +kernel
theorem dX8_ask_47 : decode cX8_ask 47 = .ok (.ireturn, 1) := by decide +kernel
theorem dX8_ask_48 : decode cX8_ask 48 = .ok (.aload_n 0, 1) := by decide +kernel
theorem dX8_ask_49 : decode cX8_ask 49 = .ok (.iload_n 3, 1) := by decide +kernel
theorem dX8_ask_50 : decode cX8_ask 50 = .ok (.iconst 2, 1) := by decide +kernel
theorem dX8_ask_51 : decode cX8_ask 51 = .ok (.if_icmp .ne 9, 3) := by decide +kernel
theorem dX8_ask_54 : decode cX8_ask 54 = .ok (.ldc2_w 256, 3) := by decide +kernel
theorem dX8_ask_57 : decode cX8_ask 57 = .ok (.goto 6, 3) := by decide +kernel
theorem dX8_ask_60 : decode cX8_ask 60 = .ok (.ldc2_w 258, 3) := by decide +kernel
theorem dX8_ask_63 : decode cX8_ask 63 = .ok (.invokevirtual 245, 3) := by decide +kernel
theorem dX8_ask_66 : decode cX8_ask 66 = .ok (.aload_n 0, 1) := by decide +kernel
theorem dX8_ask_67 : decode cX8_ask 67 = .ok (.getfield 19, 3) := by decide +kernel
theorem dX8_ask_70 : decode cX8_ask 70 = .ok (.bipush 8, 2) := by decide +kernel
theorem dX8_ask_72 : decode cX8_ask 72 = .ok (.iload_n 1, 1) := by decide +kernel
theorem dX8_ask_73 : decode cX8_ask 73 = .ok (.iadd, 1) := by decide +kernel
theorem dX8_ask_74 : decode cX8_ask 74 = .ok (.iaload, 1) := by decide +kernel
theorem dX8_ask_75 : decode cX8_ask 75 = .ok (.aload_n 0, 1) := by decide +kernel
theorem dX8_ask_76 : decode cX8_ask 76 = .ok (.iload_n 1, 1) := by decide +kernel
theorem dX8_ask_77 : decode cX8_ask 77 = .ok (.invokevirtual 253, 3) := by decide +kernel
theorem dX8_ask_80 : decode cX8_ask 80 = .ok (.iadd, 1) := by decide +kernel
theorem dX8_ask_81 : decode cX8_ask 81 = .ok (.istore 4, 2) := by decide +kernel
theorem dX8_ask_83 : decode cX8_ask 83 = .ok (.iload_n 3, 1) := by decide +kernel
theorem dX8_ask_84 : decode cX8_ask 84 = .ok (.iconst 2, 1) := by decide +kernel
theorem dX8_ask_85 : decode cX8_ask 85 = .ok (.if_icmp .ne 9, 3) := by decide +kernel
theorem dX8_ask_88 : decode cX8_ask 88 = .ok (.iload 4, 2) := by decide +kernel
theorem dX8_ask_90 : decode cX8_ask 90 = .ok (.ineg, 1) := by decide +kernel
theorem dX8_ask_91 : decode cX8_ask 91 = .ok (.goto 5, 3) := by decide +kernel
theorem dX8_ask_94 : decode cX8_ask 94 = .ok (.iload 4, 2) := by decide +kernel
theorem dX8_ask_96 : decode cX8_ask 96 = .ok (.ireturn, 1) := by decide +kernel
theorem dX8_ask_97 : decode cX8_ask 97 = .ok (.iload_n 2, 1) := by decide +kernel
theorem dX8_ask_98 : decode cX8_ask 98 = .ok (.ifCond .ne 9, 3) := by decide +kernel
theorem dX8_ask_101 : decode cX8_ask 101 = .ok (.aload_n 0, 1) := by decide +kernel
theorem dX8_ask_102 : decode cX8_ask 102 = .ok (.iload_n 1, 1) := by decide +kernel
theorem dX8_ask_103 : decode cX8_ask 103 = .ok (.invokevirtual 260, 3) := by decide +kernel
theorem dX8_ask_106 : decode cX8_ask 106 = .ok (.ireturn, 1) := by decide +kernel
theorem dX8_ask_107 : decode cX8_ask 107 = .ok (.aload_n 0, 1) := by decide +kernel
theorem dX8_ask_108 : decode cX8_ask 108 = .ok (.ldc2_w 263, 3) := by decide +kernel
theorem dX8_ask_111 : decode cX8_ask 111 = .ok (.invokevirtual 245, 3) := by decide +kernel
theorem dX8_ask_114 : decode cX8_ask 114 = .ok (.iload_n 1, 1) := by decide +kernel
theorem dX8_ask_115 : decode cX8_ask 115 = .ok (.aload_n 0, 1) := by decide +kernel
theorem dX8_ask_116 : decode cX8_ask 116 = .ok (.iload_n 1, 1) := by decide +kernel
theorem dX8_ask_117 : decode cX8_ask 117 = .ok (.invokevirtual 260, 3) := by decide +kernel
theorem dX8_ask_120 : decode cX8_ask 120 = .ok (.isub, 1) := by decide +kernel
theorem dX8_ask_121 : decode cX8_ask 121 = .ok (.ireturn, 1) := by decide +kernel
set_option maxRecDepth 20000 in
theorem ggX8_trace_X8_in : GoodIn wsX8_trace wsX8_in := goodIn_r _ [7] (by decide +kernel) (by decide +kernel)
set_option maxRecDepth 20000 in
theorem gX8_trace_X8_in : GoodIn wsX8_trace (va_wsS RX8 60 yX8_in wsX8_in) := goodIn_app (goodIn_of _ (by decide +kernel)) ggX8_trace_X8_in
theorem dX8_trace_0 : decode cX8_trace 0 = .ok (.iload_n 1, 1) := by decide +kernel
theorem dX8_trace_1 : decode cX8_trace 1 = .ok (.i2l, 1) := by decide +kernel
theorem dX8_trace_2 : decode cX8_trace 2 = .ok (.lconst 0, 1) := by decide +kernel
theorem dX8_trace_3 : decode cX8_trace 3 = .ok (.aload_n 0, 1) := by decide +kernel
theorem dX8_trace_4 : decode cX8_trace 4 = .ok (.getfield 236, 3) := by decide +kernel
theorem dX8_trace_7 : decode cX8_trace 7 = .ok (.iconst 1, 1) := by decide +kernel
theorem dX8_trace_8 : decode cX8_trace 8 = .ok (.isub, 1) := by decide +kernel
theorem dX8_trace_9 : decode cX8_trace 9 = .ok (.i2l, 1) := by decide +kernel
theorem dX8_trace_10 : decode cX8_trace 10 = .ok (.invokestatic 60, 3) := by decide +kernel
theorem dX8_trace_13 : decode cX8_trace 13 = .ok (.ifCond .eq 12, 3) := by decide +kernel
theorem dX8_trace_16 : decode cX8_trace 16 = .ok (.aload_n 0, 1) := by decide +kernel
theorem dX8_trace_17 : decode cX8_trace 17 = .ok (.getfield 41, 3) := by decide +kernel
theorem dX8_trace_20 : decode cX8_trace 20 = .ok (.iload_n 1, 1) := by decide +kernel
theorem dX8_trace_21 : decode cX8_trace 21 = .ok (.iaload, 1) := by decide +kernel
theorem dX8_trace_22 : decode cX8_trace 22 = .ok (.goto 5, 3) := by decide +kernel
theorem dX8_trace_25 : decode cX8_trace 25 = .ok (.ldc 157, 2) := by decide +kernel
theorem dX8_trace_27 : decode cX8_trace 27 = .ok (.ireturn, 1) := by decide +kernel
theorem dX8_count_0 : decode cX8_count 0 = .ok (.iconst 0, 1) := by decide +kernel
theorem dX8_count_1 : decode cX8_count 1 = .ok (.istore_n 2, 1) := by decide +kernel
theorem dX8_count_2 : decode cX8_count 2 = .ok (.iconst 0, 1) := by decide +kernel
theorem dX8_count_3 : decode cX8_count 3 = .ok (.istore_n 3, 1) := by decide +kernel
theorem dX8_count_4 : decode cX8_count 4 = .ok (.iload_n 3, 1) := by decide +kernel
theorem dX8_count_5 : decode cX8_count 5 = .ok (.bipush 8, 2) := by decide +kernel
theorem dX8_count_7 : decode cX8_count 7 = .ok (.if_icmp .ge 26, 3) := by decide +kernel
theorem dX8_count_10 : decode cX8_count 10 = .ok (.iload_n 2, 1) := by decide +kernel
theorem dX8_count_11 : decode cX8_count 11 = .ok (.aload_n 0, 1) := by decide +kernel
theorem dX8_count_12 : decode cX8_count 12 = .ok (.getfield 13, 3) := by decide +kernel
theorem dX8_count_15 : decode cX8_count 15 = .ok (.iload_n 3, 1) := by decide +kernel
theorem dX8_count_16 : decode cX8_count 16 = .ok (.iaload, 1) := by decide +kernel
theorem dX8_count_17 : decode cX8_count 17 = .ok (.ifCond .ge 7, 3) := by decide +kernel
theorem dX8_count_20 : decode cX8_count 20 = .ok (.iconst 0, 1) := by decide +kernel
theorem dX8_count_21 : decode cX8_count 21 = .ok (.goto 4, 3) := by decide +kernel
theorem dX8_count_24 : decode cX8_count 24 = .ok (.iconst 1, 1) := by decide +kernel
theorem dX8_count_25 : decode cX8_count 25 = .ok (.iadd, 1) := by decide +kernel
theorem dX8_count_26 : decode cX8_count 26 = .ok (.istore_n 2, 1) := by decide +kernel
theorem dX8_count_27 : decode cX8_count 27 = .ok (.iinc 3 1, 3) := by decide +kernel
theorem dX8_count_30 : decode cX8_count 30 = .ok (.goto (-26), 3) := by decide +kernel
theorem dX8_count_33 : decode cX8_count 33 = .ok (.iload_n 1, 1) := by decide +kernel
theorem dX8_count_34 : decode cX8_count 34 = .ok (.tableswitch 95 0 7 #[46, 48, 55, 62, 70, 77, 85, 90], 46) := by decide +kernel
theorem dX8_count_80 : decode cX8_count 80 = .ok (.iload_n 2, 1) := by decide +kernel
theorem dX8_count_81 : decode cX8_count 81 = .ok (.ireturn, 1) := by decide +kernel
theorem dX8_count_82 : decode cX8_count 82 = .ok (.aload_n 0, 1) := by decide +kernel
theorem dX8_count_83 : decode cX8_count 83 = .ok (.getfield 19, 3) := by decide +kernel
theorem dX8_count_86 : decode cX8_count 86 = .ok (.iconst 0, 1) := by decide +kernel
theorem dX8_count_87 : decode cX8_count 87 = .ok (.iaload, 1) := by decide +kernel
theorem dX8_count_88 : decode cX8_count 88 = .ok (.ireturn, 1) := by decide +kernel
theorem dX8_count_89 : decode cX8_count 89 = .ok (.aload_n 0, 1) := by decide +kernel
theorem dX8_count_90 : decode cX8_count 90 = .ok (.getfield 19, 3) := by decide +kernel
theorem dX8_count_93 : decode cX8_count 93 = .ok (.iconst 2, 1) := by decide +kernel
theorem dX8_count_94 : decode cX8_count 94 = .ok (.iaload, 1) := by decide +kernel
theorem dX8_count_95 : decode cX8_count 95 = .ok (.ireturn, 1) := by decide +kernel
theorem dX8_count_96 : decode cX8_count 96 = .ok (.aload_n 0, 1) := by decide +kernel
theorem dX8_count_97 : decode cX8_count 97 = .ok (.getfield 19, 3) := by decide +kernel
theorem dX8_count_100 : decode cX8_count 100 = .ok (.bipush 28, 2) := by decide +kernel
theorem dX8_count_102 : decode cX8_count 102 = .ok (.iaload, 1) := by decide +kernel
theorem dX8_count_103 : decode cX8_count 103 = .ok (.ireturn, 1) := by decide +kernel
theorem dX8_count_104 : decode cX8_count 104 = .ok (.aload_n 0, 1) := by decide +kernel
theorem dX8_count_105 : decode cX8_count 105 = .ok (.getfield 19, 3) := by decide +kernel
theorem dX8_count_108 : decode cX8_count 108 = .ok (.iconst 1, 1) := by decide +kernel
theorem dX8_count_109 : decode cX8_count 109 = .ok (.iaload, 1) := by decide +kernel
theorem dX8_count_110 : decode cX8_count 110 = .ok (.ireturn, 1) := by decide +kernel
theorem dX8_count_111 : decode cX8_count 111 = .ok (.aload_n 0, 1) := by decide +kernel
theorem dX8_count_112 : decode cX8_count 112 = .ok (.getfield 19, 3) := by decide +kernel
theorem dX8_count_115 : decode cX8_count 115 = .ok (.bipush 29, 2) := by decide +kernel
theorem dX8_count_117 : decode cX8_count 117 = .ok (.iaload, 1) := by decide +kernel
theorem dX8_count_118 : decode cX8_count 118 = .ok (.ireturn, 1) := by decide +kernel
theorem dX8_count_119 : decode cX8_count 119 = .ok (.aload_n 0, 1) := by decide +kernel
theorem dX8_count_120 : decode cX8_count 120 = .ok (.getfield 139, 3) := by decide +kernel
theorem dX8_count_123 : decode cX8_count 123 = .ok (.ireturn, 1) := by decide +kernel
theorem dX8_count_124 : decode cX8_count 124 = .ok (.aload_n 0, 1) := by decide +kernel
theorem dX8_count_125 : decode cX8_count 125 = .ok (.getfield 80, 3) := by decide +kernel
theorem dX8_count_128 : decode cX8_count 128 = .ok (.ireturn, 1) := by decide +kernel
theorem dX8_count_129 : decode cX8_count 129 = .ok (.ldc 70, 2) := by decide +kernel
theorem dX8_count_131 : decode cX8_count 131 = .ok (.ireturn, 1) := by decide +kernel
theorem dX8_status_0 : decode cX8_status 0 = .ok (.aload_n 0, 1) := by decide +kernel
theorem dX8_status_1 : decode cX8_status 1 = .ok (.getfield 53, 3) := by decide +kernel
theorem dX8_status_4 : decode cX8_status 4 = .ok (.ireturn, 1) := by decide +kernel
theorem dJ6_bitCount_0f7a4_0 : decode cJ6_bitCount_0f7a4 0 = .ok (.iload_n 0, 1) := by decide +kernel
theorem dJ6_bitCount_0f7a4_1 : decode cJ6_bitCount_0f7a4 1 = .ok (.iload_n 0, 1) := by decide +kernel
theorem dJ6_bitCount_0f7a4_2 : decode cJ6_bitCount_0f7a4 2 = .ok (.iconst 1, 1) := by decide +kernel
theorem dJ6_bitCount_0f7a4_3 : decode cJ6_bitCount_0f7a4 3 = .ok (.iushr, 1) := by decide +kernel
theorem dJ6_bitCount_0f7a4_4 : decode cJ6_bitCount_0f7a4 4 = .ok (.ldc_w 265, 3) := by decide +kernel
theorem dJ6_bitCount_0f7a4_7 : decode cJ6_bitCount_0f7a4 7 = .ok (.iand, 1) := by decide +kernel
theorem dJ6_bitCount_0f7a4_8 : decode cJ6_bitCount_0f7a4 8 = .ok (.isub, 1) := by decide +kernel
theorem dJ6_bitCount_0f7a4_9 : decode cJ6_bitCount_0f7a4 9 = .ok (.istore_n 0, 1) := by decide +kernel
theorem dJ6_bitCount_0f7a4_10 : decode cJ6_bitCount_0f7a4 10 = .ok (.iload_n 0, 1) := by decide +kernel
theorem dJ6_bitCount_0f7a4_11 : decode cJ6_bitCount_0f7a4 11 = .ok (.ldc_w 266, 3) := by decide +kernel
theorem dJ6_bitCount_0f7a4_14 : decode cJ6_bitCount_0f7a4 14 = .ok (.iand, 1) := by decide +kernel
theorem dJ6_bitCount_0f7a4_15 : decode cJ6_bitCount_0f7a4 15 = .ok (.iload_n 0, 1) := by decide +kernel
theorem dJ6_bitCount_0f7a4_16 : decode cJ6_bitCount_0f7a4 16 = .ok (.iconst 2, 1) := by decide +kernel
theorem dJ6_bitCount_0f7a4_17 : decode cJ6_bitCount_0f7a4 17 = .ok (.iushr, 1) := by decide +kernel
theorem dJ6_bitCount_0f7a4_18 : decode cJ6_bitCount_0f7a4 18 = .ok (.ldc_w 266, 3) := by decide +kernel
theorem dJ6_bitCount_0f7a4_21 : decode cJ6_bitCount_0f7a4 21 = .ok (.iand, 1) := by decide +kernel
theorem dJ6_bitCount_0f7a4_22 : decode cJ6_bitCount_0f7a4 22 = .ok (.iadd, 1) := by decide +kernel
theorem dJ6_bitCount_0f7a4_23 : decode cJ6_bitCount_0f7a4 23 = .ok (.istore_n 0, 1) := by decide +kernel
theorem dJ6_bitCount_0f7a4_24 : decode cJ6_bitCount_0f7a4 24 = .ok (.iload_n 0, 1) := by decide +kernel
theorem dJ6_bitCount_0f7a4_25 : decode cJ6_bitCount_0f7a4 25 = .ok (.iload_n 0, 1) := by decide +kernel
theorem dJ6_bitCount_0f7a4_26 : decode cJ6_bitCount_0f7a4 26 = .ok (.iconst 4, 1) := by decide +kernel
theorem dJ6_bitCount_0f7a4_27 : decode cJ6_bitCount_0f7a4 27 = .ok (.iushr, 1) := by decide +kernel
theorem dJ6_bitCount_0f7a4_28 : decode cJ6_bitCount_0f7a4 28 = .ok (.iadd, 1) := by decide +kernel
theorem dJ6_bitCount_0f7a4_29 : decode cJ6_bitCount_0f7a4 29 = .ok (.ldc_w 267, 3) := by decide +kernel
theorem dJ6_bitCount_0f7a4_32 : decode cJ6_bitCount_0f7a4 32 = .ok (.iand, 1) := by decide +kernel
theorem dJ6_bitCount_0f7a4_33 : decode cJ6_bitCount_0f7a4 33 = .ok (.istore_n 0, 1) := by decide +kernel
theorem dJ6_bitCount_0f7a4_34 : decode cJ6_bitCount_0f7a4 34 = .ok (.iload_n 0, 1) := by decide +kernel
theorem dJ6_bitCount_0f7a4_35 : decode cJ6_bitCount_0f7a4 35 = .ok (.iload_n 0, 1) := by decide +kernel
theorem dJ6_bitCount_0f7a4_36 : decode cJ6_bitCount_0f7a4 36 = .ok (.bipush 8, 2) := by decide +kernel
theorem dJ6_bitCount_0f7a4_38 : decode cJ6_bitCount_0f7a4 38 = .ok (.iushr, 1) := by decide +kernel
theorem dJ6_bitCount_0f7a4_39 : decode cJ6_bitCount_0f7a4 39 = .ok (.iadd, 1) := by decide +kernel
theorem dJ6_bitCount_0f7a4_40 : decode cJ6_bitCount_0f7a4 40 = .ok (.istore_n 0, 1) := by decide +kernel
theorem dJ6_bitCount_0f7a4_41 : decode cJ6_bitCount_0f7a4 41 = .ok (.iload_n 0, 1) := by decide +kernel
theorem dJ6_bitCount_0f7a4_42 : decode cJ6_bitCount_0f7a4 42 = .ok (.iload_n 0, 1) := by decide +kernel
theorem dJ6_bitCount_0f7a4_43 : decode cJ6_bitCount_0f7a4 43 = .ok (.bipush 16, 2) := by decide +kernel
theorem dJ6_bitCount_0f7a4_45 : decode cJ6_bitCount_0f7a4 45 = .ok (.iushr, 1) := by decide +kernel
theorem dJ6_bitCount_0f7a4_46 : decode cJ6_bitCount_0f7a4 46 = .ok (.iadd, 1) := by decide +kernel
theorem dJ6_bitCount_0f7a4_47 : decode cJ6_bitCount_0f7a4 47 = .ok (.istore_n 0, 1) := by decide +kernel
theorem dJ6_bitCount_0f7a4_48 : decode cJ6_bitCount_0f7a4 48 = .ok (.iload_n 0, 1) := by decide +kernel
theorem dJ6_bitCount_0f7a4_49 : decode cJ6_bitCount_0f7a4 49 = .ok (.bipush 63, 2) := by decide +kernel
theorem dJ6_bitCount_0f7a4_51 : decode cJ6_bitCount_0f7a4 51 = .ok (.iand, 1) := by decide +kernel
theorem dJ6_bitCount_0f7a4_52 : decode cJ6_bitCount_0f7a4 52 = .ok (.ireturn, 1) := by decide +kernel
theorem dJ9_abs_0f7a4_0 : decode cJ9_abs_0f7a4 0 = .ok (.iload_n 0, 1) := by decide +kernel
theorem dJ9_abs_0f7a4_1 : decode cJ9_abs_0f7a4 1 = .ok (.ifCond .ge 8, 3) := by decide +kernel
theorem dJ9_abs_0f7a4_4 : decode cJ9_abs_0f7a4 4 = .ok (.iload_n 0, 1) := by decide +kernel
theorem dJ9_abs_0f7a4_5 : decode cJ9_abs_0f7a4 5 = .ok (.ineg, 1) := by decide +kernel
theorem dJ9_abs_0f7a4_6 : decode cJ9_abs_0f7a4 6 = .ok (.goto 4, 3) := by decide +kernel
theorem dJ9_abs_0f7a4_9 : decode cJ9_abs_0f7a4 9 = .ok (.iload_n 0, 1) := by decide +kernel
theorem dJ9_abs_0f7a4_10 : decode cJ9_abs_0f7a4 10 = .ok (.ireturn, 1) := by decide +kernel
theorem dJ9_min_7cf53_0 : decode cJ9_min_7cf53 0 = .ok (.iload_n 0, 1) := by decide +kernel
theorem dJ9_min_7cf53_1 : decode cJ9_min_7cf53 1 = .ok (.iload_n 1, 1) := by decide +kernel
theorem dJ9_min_7cf53_2 : decode cJ9_min_7cf53 2 = .ok (.if_icmp .gt 7, 3) := by decide +kernel
theorem dJ9_min_7cf53_5 : decode cJ9_min_7cf53 5 = .ok (.iload_n 0, 1) := by decide +kernel
theorem dJ9_min_7cf53_6 : decode cJ9_min_7cf53 6 = .ok (.goto 4, 3) := by decide +kernel
theorem dJ9_min_7cf53_9 : decode cJ9_min_7cf53 9 = .ok (.iload_n 1, 1) := by decide +kernel
theorem dJ9_min_7cf53_10 : decode cJ9_min_7cf53 10 = .ok (.ireturn, 1) := by decide +kernel
abbrev vwCl : List vw_C := [(RX0, TX0, 3), (RX1, TX1, 2), (RX2, TX2, 5), (RX3, TX3, 12), (RX4, TX4, 3), (RX5, TX5, 2), (RX6, TX6, 4), (RX7, TX7, 11), (RX8, TX8, 24)]
end
section
/-! THE PURE HEAP: a list of cells; references by their place in it; what a method does, as a partial function over it. -/
abbrev zE : Type := (Nat × Nat × ((Nat → Int32) ⊕ (Nat → Option Nat))) ⊕ (Nat × List Value)
abbrev zH : Type := List zE
def zv (b0 : Nat) : Value → Value
  | .ref k => .ref (b0 + k)
  | v => v
def ze (dA : Nat → ClassId) (b0 : Nat) : zE → va_E
  | .inl (t, n, .inl f) => .inl (dA t, n, .inl f)
  | .inl (t, n, .inr g) => .inl (dA t, n, .inr (.inr (.inr (.inr (fun i => (g i).map (fun k => b0 + k))))))
  | .inr (ci, fs) => .inr (ci, fs.map (zv b0))
def zw (dA : Nat → ClassId) (b0 : Nat) (h : zH) : va_W := h.mapIdx (fun k e => (b0 + k, ze dA b0 e))
def zA (b0 : Nat) : Nat → Prop := fun q => b0 ≤ q
theorem zw_get (dA : Nat → ClassId) (b0 : Nat) (h : zH) (k : Nat) : (zw dA b0 h)[k]? = (h[k]?).map (fun e => (b0 + k, ze dA b0 e)) := by
  simp [zw]
theorem zw_at {dA : Nat → ClassId} {b0 : Nat} {h : zH} {k : Nat} {e : zE} (he : h[k]? = some e) : (zw dA b0 h)[k]? = some (b0 + k, ze dA b0 e) := by
  rw [zw_get, he]; rfl
theorem zw_len (dA : Nat → ClassId) (b0 : Nat) (h : zH) : (zw dA b0 h).length = h.length := by
  simp [zw]
theorem zw_set (dA : Nat → ClassId) (b0 : Nat) (h : zH) (r : Nat) (e : zE) : zw dA b0 (h.set r e) = (zw dA b0 h).set r (b0 + r, ze dA b0 e) := by
  apply List.ext_getElem?
  intro i
  rw [zw_get, List.getElem?_set, List.getElem?_set, zw_get, zw_len]
  by_cases hi : r = i
  · rw [if_pos hi, if_pos hi]
    subst hi
    split <;> rfl
  · rw [if_neg hi, if_neg hi]
theorem zw_app (dA : Nat → ClassId) (b0 : Nat) (h : zH) (e : zE) : zw dA b0 (h ++ [e]) = zw dA b0 h ++ [(b0 + h.length, ze dA b0 e)] := by
  simp [zw, List.mapIdx_append]
theorem zw_D (dA : Nat → ClassId) (b0 : Nat) (h : zH) : va_D (zA b0) (zw dA b0 h) := by
  refine ⟨fun i j p q hi hj he => ?_, fun k q hk => ?_⟩
  · rw [zw_get] at hi hj
    obtain ⟨x, -, rfl⟩ := Option.map_eq_some_iff.mp hi
    obtain ⟨y, -, rfl⟩ := Option.map_eq_some_iff.mp hj
    have h9 : b0 + i = b0 + j := he
    omega
  · rw [zw_get] at hk
    obtain ⟨x, -, rfl⟩ := Option.map_eq_some_iff.mp hk
    exact Nat.le_add_right _ _
def zTys (dA : Nat → ClassId) : List (ClassId × FieldType) := [(dA 0, .int), (dA 1, .boolean), (dA 2, .object "BuriedHalves$Mine"), (dA 3, .array .int)]
/-- the private calls among nest mates -/
def zNest : List Cond := [.methodLinkNest RX7 18 yX6_init "BuriedHalves", .methodLinkNest RX7 25 yX3_init "BuriedHalves", .methodLinkNest RX0 24 yX3_init "BuriedHalves", .methodLinkNest RX7 46 yX5_init "BuriedHalves", .methodLinkNest RX5 11 yX3_init "BuriedHalves", .methodLinkNest RX7 53 yX2_init "BuriedHalves", .methodLinkNest RX2 11 yX3_init "BuriedHalves", .methodLinkNest RX7 60 yX1_init "BuriedHalves", .methodLinkNest RX5 43 yX7_leastOf "BuriedHalves", .methodLinkNest RX1 42 yX7_kindAbove "BuriedHalves"]
def zN (U : State) : Prop := (∀ w ∈ zNest, va_Nw w U) ∧ va_AO "BuriedHalves$Mine" U
theorem zN.same {u U : State} (h : u.vm = U.vm) (hN : zN u) : zN U := by
  refine ⟨fun w hw => ?_, va_AO.moved (by rw [h]; exact Vm.Alike.refl _) hN.2⟩
  have h1 := hN.1 w hw
  simp only [zNest, List.mem_cons, List.not_mem_nil, or_false] at hw
  rcases hw with rfl | rfl | rfl | rfl | rfl | rfl | rfl | rfl | rfl | rfl <;> exact va_Nw.same rfl h h1
theorem zN.warm {s U : State} (hW : s.WarmedH U.vm) (hN : zN s) : zN U := by
  refine ⟨fun w hw => ?_, va_AO.moved hW.alike hN.2⟩
  have h1 := hN.1 w hw
  simp only [zNest, List.mem_cons, List.not_mem_nil, or_false] at hw
  rcases hw with rfl | rfl | rfl | rfl | rfl | rfl | rfl | rfl | rfl | rfl <;> exact va_Nw.warmM hW h1
/-- the machine's heap holds the pure one, from b0 on, and nothing else from there on -/
def zG (D : va_G) (dA : Nat → ClassId) (b0 : Nat) (H0 : Heap) (h : zH) (H : Heap) (locs : List Loc) : Prop := va_P D vwCl (zw dA b0 h) H ∧ H.size = b0 + h.length ∧ va_S (zA b0) H0 H locs
def zX (p : Program) (s : State) (m : MethodId) (args : Array Value) (c : Code) (cc : ByteArray) (nL : Nat) (own : String) (Ts : List Cond) (D : va_G) (dA : Nat → ClassId) : Prop := CallFix p m c cc nL s args Ts own ∧ va_K D vwCl (zTys dA) s ∧ zN s
def zPc (D : va_G) (dA : Nat → ClassId) (b0 : Nat) (av : List Value) (h : zH) : Array Value → State → Prop := va_Pc av (fun U => va_P D vwCl (zw dA b0 h) U.heap ∧ U.heap.size = b0 + h.length ∧ va_K D vwCl (zTys dA) U ∧ zN U)
def zQ (D : va_G) (dA : Nat → ClassId) (b0 : Nat) (v : Option Value) (h' : zH) : Array Value → State → Outcome → State → Prop := fun _ st oc t => oc = .returned v ∧ va_P D vwCl (zw dA b0 h') t.heap ∧ t.heap.size = b0 + h'.length ∧ va_F (zA b0) st t
theorem zPc_blind {D : va_G} {dA : Nat → ClassId} {b0 : Nat} {av : List Value} {h : zH} : FrameBlind (zPc D dA b0 av h) := by
  intro a U g mk q
  obtain ⟨e, hP, hz, hK, hN⟩ := q
  exact ⟨e, hP, hz, va_K.moved (u := U) (U := U.calling g mk a) (Vm.Alike.refl U.vm) hK, zN.same (u := U) (U := U.calling g mk a) rfl hN⟩
/-! the pure operations -/
def zLet {α β : Type} (a : α) (f : α → β) : β := f a
def zF : Nat := 5000
def zD : Nat := 14
def zI (h : zH) (r ci k : Nat) : Option Int32 := match h[r]? with
  | some (.inr (c, fs)) => if c = ci then (match fs[k]? with
    | some (.int v) => some v
    | _ => none) else none
  | _ => none
def zR (h : zH) (r ci k : Nat) : Option Nat := match h[r]? with
  | some (.inr (c, fs)) => if c = ci then (match fs[k]? with
    | some (.ref v) => some v
    | _ => none) else none
  | _ => none
def zP (h : zH) (r ci k : Nat) (v : Value) : Option zH := match h[r]? with
  | some (.inr (c, fs)) => if c = ci ∧ k < fs.length then some (h.set r (.inr (c, fs.set k v))) else none
  | _ => none
def zB (x : Int32) : Option Int32 := if x = 0 ∨ x = 1 then some x else none
def zL (h : zH) (t r : Nat) (i : Int32) : Option Int32 := match h[r]? with
  | some (.inl (t', n, .inl f)) => if t' = t ∧ ¬ (i < 0 ∨ n ≤ i.toNatClampNeg) then some (f i.toNatClampNeg) else none
  | _ => none
def zS (h : zH) (t r : Nat) (i x : Int32) : Option zH := match h[r]? with
  | some (.inl (t', n, .inl f)) => if t' = t ∧ ¬ (i < 0 ∨ n ≤ i.toNatClampNeg) then some (h.set r (.inl (t', n, .inl (upd f i.toNatClampNeg x)))) else none
  | _ => none
def zLr (h : zH) (t r : Nat) (i : Int32) : Option Nat := match h[r]? with
  | some (.inl (t', n, .inr g)) => if t' = t ∧ ¬ (i < 0 ∨ n ≤ i.toNatClampNeg) then g i.toNatClampNeg else none
  | _ => none
def zSr (h : zH) (t r : Nat) (i : Int32) (v : Nat) : Option zH := match h[r]? with
  | some (.inl (t', n, .inr g)) => if t' = t ∧ ¬ (i < 0 ∨ n ≤ i.toNatClampNeg) then some (h.set r (.inl (t', n, .inr (va_up g i.toNatClampNeg (some v))))) else none
  | _ => none
/-- at the place r stands an object of the class ci -/
def zK (h : zH) (r ci : Nat) : Option Unit := match h[r]? with
  | some (.inr (c, _)) => if c = ci then some () else none
  | _ => none
def zO (h : zH) (r ci : Nat) : Prop := ∃ fs, h[r]? = some (.inr (ci, fs))
theorem zck {h : zH} {r ci : Nat} {α : Type} {z : α} {f : Unit → Option α} (hf : (zK h r ci).bind f = some z) : zO h r ci ∧ f () = some z := by
  obtain ⟨u, hv, hf2⟩ := Option.bind_eq_some_iff.mp hf
  unfold zK at hv
  split at hv
  · rename_i c fs he
    split at hv
    · rename_i hc
      subst hc
      exact ⟨⟨fs, he⟩, hf2⟩
    · cases hv
  · cases hv
/-- System.arraycopy over int rows -/
def zCp (h : zH) (r : Nat) (sp : Int32) (q : Nat) (dp n : Int32) : Option zH := match h[r]?, h[q]? with
  | some (.inl (t0, n0, .inl f)), some (.inl (t1, n1, .inl g)) => if t0 = 0 ∧ t1 = 0 ∧ ¬ sp < 0 ∧ ¬ dp < 0 ∧ ¬ n < 0 ∧ sp.toNatClampNeg + n.toNatClampNeg ≤ n0 ∧ dp.toNatClampNeg + n.toNatClampNeg ≤ n1 then some (h.set q (.inl (t1, n1, .inl (va_cpy f g sp.toNatClampNeg dp.toNatClampNeg n.toNatClampNeg)))) else none
  | _, _ => none
theorem zI_spec {h : zH} {r ci k : Nat} {v : Int32} (hv : zI h r ci k = some v) : ∃ fs, h[r]? = some (.inr (ci, fs)) ∧ fs[k]? = some (.int v) := by
  unfold zI at hv
  split at hv
  · rename_i c fs he
    split at hv
    · rename_i hc
      subst hc
      split at hv
      · rename_i w hw
        cases hv
        exact ⟨fs, he, hw⟩
      · cases hv
    · cases hv
  · cases hv
theorem zR_spec {h : zH} {r ci k : Nat} {v : Nat} (hv : zR h r ci k = some v) : ∃ fs, h[r]? = some (.inr (ci, fs)) ∧ fs[k]? = some (.ref v) := by
  unfold zR at hv
  split at hv
  · rename_i c fs he
    split at hv
    · rename_i hc
      subst hc
      split at hv
      · rename_i w hw
        cases hv
        exact ⟨fs, he, hw⟩
      · cases hv
    · cases hv
  · cases hv
theorem zP_spec {h h' : zH} {r ci k : Nat} {v : Value} (hv : zP h r ci k v = some h') : ∃ fs, h[r]? = some (.inr (ci, fs)) ∧ k < fs.length ∧ h' = h.set r (.inr (ci, fs.set k v)) := by
  unfold zP at hv
  split at hv
  · rename_i c fs he
    split at hv
    · rename_i hc
      obtain ⟨rfl, hk⟩ := hc
      cases hv
      exact ⟨fs, he, hk, rfl⟩
    · cases hv
  · cases hv
theorem zL_spec {h : zH} {t r : Nat} {i v : Int32} (hv : zL h t r i = some v) : ∃ n f, h[r]? = some (.inl (t, n, .inl f)) ∧ vp_in i n ∧ v = f i.toNatClampNeg := by
  unfold zL at hv
  split at hv
  · rename_i c n f he
    split at hv
    · rename_i hc
      obtain ⟨rfl, hk⟩ := hc
      cases hv
      exact ⟨n, f, he, hk, rfl⟩
    · cases hv
  · cases hv
theorem zS_spec {h h' : zH} {t r : Nat} {i x : Int32} (hv : zS h t r i x = some h') : ∃ n f, h[r]? = some (.inl (t, n, .inl f)) ∧ vp_in i n ∧ h' = h.set r (.inl (t, n, .inl (upd f i.toNatClampNeg x))) := by
  unfold zS at hv
  split at hv
  · rename_i c n f he
    split at hv
    · rename_i hc
      obtain ⟨rfl, hk⟩ := hc
      cases hv
      exact ⟨n, f, he, hk, rfl⟩
    · cases hv
  · cases hv
theorem zLr_spec {h : zH} {t r : Nat} {i : Int32} {v : Nat} (hv : zLr h t r i = some v) : ∃ n g, h[r]? = some (.inl (t, n, .inr g)) ∧ vp_in i n ∧ g i.toNatClampNeg = some v := by
  unfold zLr at hv
  split at hv
  · rename_i c n g he
    split at hv
    · rename_i hc
      obtain ⟨rfl, hk⟩ := hc
      exact ⟨n, g, he, hk, hv⟩
    · cases hv
  · cases hv
theorem zSr_spec {h h' : zH} {t r : Nat} {i : Int32} {v : Nat} (hv : zSr h t r i v = some h') : ∃ n g, h[r]? = some (.inl (t, n, .inr g)) ∧ vp_in i n ∧ h' = h.set r (.inl (t, n, .inr (va_up g i.toNatClampNeg (some v)))) := by
  unfold zSr at hv
  split at hv
  · rename_i c n g he
    split at hv
    · rename_i hc
      obtain ⟨rfl, hk⟩ := hc
      cases hv
      exact ⟨n, g, he, hk, rfl⟩
    · cases hv
  · cases hv
theorem zCp_spec {h h' : zH} {r q : Nat} {sp dp n : Int32} (hv : zCp h r sp q dp n = some h') : ∃ n0 f n1 g, h[r]? = some (.inl (0, n0, .inl f)) ∧ h[q]? = some (.inl (0, n1, .inl g)) ∧ ¬ sp < 0 ∧ ¬ dp < 0 ∧ ¬ n < 0 ∧ sp.toNatClampNeg + n.toNatClampNeg ≤ n0 ∧ dp.toNatClampNeg + n.toNatClampNeg ≤ n1 ∧ h' = h.set q (.inl (0, n1, .inl (va_cpy f g sp.toNatClampNeg dp.toNatClampNeg n.toNatClampNeg))) := by
  unfold zCp at hv
  split at hv
  · rename_i t0 n0 f t1 n1 g he he2
    split at hv
    · rename_i hc
      obtain ⟨rfl, rfl, h1, h2, h3, h4, h5⟩ := hc
      cases hv
      exact ⟨n0, f, n1, g, he, he2, h1, h2, h3, h4, h5, rfl⟩
    · cases hv
  · cases hv
end
section
/-! ROWS: one an instruction that reads or writes the heap, decides, calls or returns: the machine's step beside the pure one -/
section ZROW
variable {p : Program} {l : Launch} {e : Env} {R : Room} {s : State} {m : MethodId} {args : Array Value} {below : List Frame} {meth : Method} {c : Code} {H : Heap} {locs : List Loc} {cells slots : Nat} {Q : State → Prop}
variable {cc : ByteArray} {nL : Nat} {own : String} {Ts : List Cond} {D : va_G} {dA : Nat → ClassId} {b0 : Nat} {h : zH} {pc : Nat} {ls : Array Slot} {rest : List Value} {H0 : Heap}
theorem zgetI (X : zX p s m args c cc nL own Ts D dA) (G : zG D dA b0 H0 h H locs) {ci k N index : Nat} {C : String} {T : u_T} (hc : vwCl[ci]? = some (C, T, N)) (hin : ∀ w ∈ u_ws C T N, w ∈ Ts) (hk : k < N) (hlink : Cond.fieldLink own index (T k).1 (T k).2.1 (T k).2.2.1 ∈ Ts) (hdg : decode cc pc = .ok (.getfield index, 3)) {r : Nat} {α : Type} {z : α} {f : Int32 → Option α} (hf : (zI h r ci k).bind f = some z)
    (kk : ∀ v, f v = some z → W p l e R s m args below meth c H locs cells slots Q (F0 m (pc + 3) ls (.int v :: rest))) : W p l e R s m args below meth c H locs cells slots Q (F0 m pc ls (.ref (b0 + r) :: rest)) := by
  obtain ⟨v, hv, hf⟩ := Option.bind_eq_some_iff.mp hf
  obtain ⟨fs, he, hv2⟩ := zI_spec hv
  obtain ⟨⟨hx, hb, hml, hown, hts⟩, hK, hN⟩ := X
  exact va_get (D := D) (ci := ci) (v := .int v) (fs := fs.map (zv b0)) hx hb hts hin hown hK G.1 r (zw_at he) hc k hk (hts _ hlink) (fun _ h9 => h9) (by rw [List.getElem?_map, hv2]; rfl) hdg (kk v hf)
theorem zgetR (X : zX p s m args c cc nL own Ts D dA) (G : zG D dA b0 H0 h H locs) {ci k N index : Nat} {C : String} {T : u_T} (hc : vwCl[ci]? = some (C, T, N)) (hin : ∀ w ∈ u_ws C T N, w ∈ Ts) (hk : k < N) (hlink : Cond.fieldLink own index (T k).1 (T k).2.1 (T k).2.2.1 ∈ Ts) (hdg : decode cc pc = .ok (.getfield index, 3)) {r : Nat} {α : Type} {z : α} {f : Nat → Option α} (hf : (zR h r ci k).bind f = some z)
    (kk : ∀ v, f v = some z → W p l e R s m args below meth c H locs cells slots Q (F0 m (pc + 3) ls (.ref (b0 + v) :: rest))) : W p l e R s m args below meth c H locs cells slots Q (F0 m pc ls (.ref (b0 + r) :: rest)) := by
  obtain ⟨v, hv, hf⟩ := Option.bind_eq_some_iff.mp hf
  obtain ⟨fs, he, hv2⟩ := zR_spec hv
  obtain ⟨⟨hx, hb, hml, hown, hts⟩, hK, hN⟩ := X
  exact va_get (D := D) (ci := ci) (v := .ref (b0 + v)) (fs := fs.map (zv b0)) hx hb hts hin hown hK G.1 r (zw_at he) hc k hk (hts _ hlink) (fun _ h9 => h9) (by rw [List.getElem?_map, hv2]; rfl) hdg (kk v hf)
theorem zput (X : zX p s m args c cc nL own Ts D dA) (G : zG D dA b0 H0 h H locs) {ci k N index : Nat} {C : String} {T : u_T} (hc : vwCl[ci]? = some (C, T, N)) (hin : ∀ w ∈ u_ws C T N, w ∈ Ts) (ty0 : Nat → FieldType) (hty : ∀ k, k < N → parseFieldDescriptor (T k).2.2.1 = some (ty0 k)) (hnm : ∀ a, a < N → ∀ b, b < N → a ≠ b → (T a).2.1 ≠ (T b).2.1) (hk : k < N) (hlink : Cond.fieldLink own index (T k).1 (T k).2.1 (T k).2.2.1 ∈ Ts) (hfin : (T k).2.2.2 = false) {ty : FieldType} (v : Value) (hd : parseFieldDescriptor (T k).2.2.1 = some ty) (hn : narrow ty (zv b0 v) = zv b0 v) (hfit : fits ty (zv b0 v) = true) (hdg : decode cc pc = .ok (.putfield index, 3)) {r : Nat} {α : Type} {z : α} {f : zH → Option α} (hf : (zP h r ci k v).bind f = some z)
    (kk : ∀ h' H locs, f h' = some z → zG D dA b0 H0 h' H locs → W p l e R s m args below meth c H locs cells slots Q (F0 m (pc + 3) ls rest)) : W p l e R s m args below meth c H locs cells slots Q (F0 m pc ls (zv b0 v :: .ref (b0 + r) :: rest)) := by
  obtain ⟨h', hv, hf⟩ := Option.bind_eq_some_iff.mp hf
  obtain ⟨fs, he, hl, rfl⟩ := zP_spec hv
  obtain ⟨⟨hx, hb, hml, hown, hts⟩, hK, hN⟩ := X
  obtain ⟨hP, hz, hS0⟩ := G
  have hD := zw_D dA b0 h
  have hap := va_apart (own := own) hts hin ty0 hty hnm hK hc
  have he' : (zw dA b0 h)[r]? = some (b0 + r, .inr (ci, fs.map (zv b0))) := zw_at he
  obtain ⟨r1, h1, cell, q1, q2, q3, q4⟩ := hP r _ he'
  have hr : r1 = (C, T, N) := Option.some.inj (h1.symm.trans hc)
  subst hr
  obtain ⟨hS, hfc, kC, hkC, hkind⟩ := hK.1 ci _ hc
  obtain ⟨cf, kf, fi, f1, hi, hsl⟩ := hS k hk
  have hlay := hts _ (hin _ (u_in_lay hk))
  unfold u_lay at hlay
  rw [if_neg (by rw [hfin]; decide)] at hlay
  have hst := (u_facts hfc hkC (u_lays hts hin hk) hi).1
  have h6 := u_store hfc hkC hkind hlay hi hd hn hfit
  refine W.putK hx hb (f := f1) ⟨hown, hts _ hlink, ⟨_, _, _, hi⟩, hst⟩ (by rw [q2]; exact h6) q1 q3 (by rw [hsl]; exact k2_hasslot (q4 k hk)) rfl rfl hdg fun H' e1 e2 e3 => ?_
  rw [hsl] at e1 ⊢
  refine kk _ H' _ hf ⟨?_, by rw [e2, hz, List.length_set], hS0.put e2 e3 (Nat.le_add_right _ _)⟩
  rw [zw_set]
  show va_P D vwCl ((zw dA b0 h).set r (b0 + r, .inr (ci, (fs.set k v).map (zv b0)))) H'
  rw [List.map_set]
  exact hP.set hD he' ⟨_, hc, t_OB.to (V := updV (vp_V (fs.map (zv b0))) k (zv b0 v)) ⟨_, e1, q2, q3, t_set q4 hap hk (zv b0 v)⟩ (fun j _ => vp_updV_set (by rw [List.length_map]; exact hl) (zv b0 v) j)⟩ e3
theorem zputI (X : zX p s m args c cc nL own Ts D dA) (G : zG D dA b0 H0 h H locs) {ci k N index : Nat} {C : String} {T : u_T} (hc : vwCl[ci]? = some (C, T, N)) (hin : ∀ w ∈ u_ws C T N, w ∈ Ts) {ty0 : Nat → FieldType} (hty : ∀ k, k < N → parseFieldDescriptor (T k).2.2.1 = some (ty0 k)) (hnm : ∀ a, a < N → ∀ b, b < N → a ≠ b → (T a).2.1 ≠ (T b).2.1) (hk : k < N) (hlink : Cond.fieldLink own index (T k).1 (T k).2.1 (T k).2.2.1 ∈ Ts) (hfin : (T k).2.2.2 = false) (hd : parseFieldDescriptor (T k).2.2.1 = some .int) (hdg : decode cc pc = .ok (.putfield index, 3)) {x : Int32} {r : Nat} {α : Type} {z : α} {f : zH → Option α} (hf : (zP h r ci k (.int x)).bind f = some z)
    (kk : ∀ h' H locs, f h' = some z → zG D dA b0 H0 h' H locs → W p l e R s m args below meth c H locs cells slots Q (F0 m (pc + 3) ls rest)) : W p l e R s m args below meth c H locs cells slots Q (F0 m pc ls (.int x :: .ref (b0 + r) :: rest)) :=
  zput X G hc hin ty0 hty hnm hk hlink hfin (.int x) hd rfl rfl hdg hf kk
theorem zputB (X : zX p s m args c cc nL own Ts D dA) (G : zG D dA b0 H0 h H locs) {ci k N index : Nat} {C : String} {T : u_T} (hc : vwCl[ci]? = some (C, T, N)) (hin : ∀ w ∈ u_ws C T N, w ∈ Ts) {ty0 : Nat → FieldType} (hty : ∀ k, k < N → parseFieldDescriptor (T k).2.2.1 = some (ty0 k)) (hnm : ∀ a, a < N → ∀ b, b < N → a ≠ b → (T a).2.1 ≠ (T b).2.1) (hk : k < N) (hlink : Cond.fieldLink own index (T k).1 (T k).2.1 (T k).2.2.1 ∈ Ts) (hfin : (T k).2.2.2 = false) (hd : parseFieldDescriptor (T k).2.2.1 = some .boolean) (hdg : decode cc pc = .ok (.putfield index, 3)) {x : Int32} {r : Nat} {α : Type} {z : α} {f : zH → Option α} (hf : ((zB x).bind fun x => (zP h r ci k (.int x)).bind f) = some z)
    (kk : ∀ h' H locs, f h' = some z → zG D dA b0 H0 h' H locs → W p l e R s m args below meth c H locs cells slots Q (F0 m (pc + 3) ls rest)) : W p l e R s m args below meth c H locs cells slots Q (F0 m pc ls (.int x :: .ref (b0 + r) :: rest)) := by
  obtain ⟨y, hy, hf⟩ := Option.bind_eq_some_iff.mp hf
  unfold zB at hy
  split at hy
  · rename_i h01
    cases hy
    rcases h01 with rfl | rfl
    · exact zput X G hc hin ty0 hty hnm hk hlink hfin (.int 0) hd rfl rfl hdg hf kk
    · exact zput X G hc hin ty0 hty hnm hk hlink hfin (.int 1) hd rfl rfl hdg hf kk
  · cases hy
/-- a final field, in a constructor -/
theorem zputF (X : zX p s m args c cc nL own Ts D dA) (G : zG D dA b0 H0 h H locs) {ci k N index : Nat} {C : String} {T : u_T} (hc : vwCl[ci]? = some (C, T, N)) (hin : ∀ w ∈ u_ws C T N, w ∈ Ts) {ty0 : Nat → FieldType} (hty : ∀ k, k < N → parseFieldDescriptor (T k).2.2.1 = some (ty0 k)) (hnm : ∀ a, a < N → ∀ b, b < N → a ≠ b → (T a).2.1 ≠ (T b).2.1) (hk : k < N) (hlink : Cond.fieldLink own index (T k).1 (T k).2.1 (T k).2.2.1 ∈ Ts) (hfin : (T k).2.2.2 = true) (hin2 : meth.name = "<init>") (hdecl : (T k).1 = own) {ty : FieldType} {k0 : Nat} (hd : parseFieldDescriptor (T k).2.2.1 = some ty) (hn : ∀ q : Nat, narrow ty (.ref q) = .ref q) (hfit : ∀ q : Nat, fits ty (.ref q) = true) (hdg : decode cc pc = .ok (.putfield index, 3)) {r : Nat} {α : Type} {z : α} {f : zH → Option α} (hf : (zP h r ci k (.ref k0)).bind f = some z)
    (kk : ∀ h' H locs, f h' = some z → zG D dA b0 H0 h' H locs → W p l e R s m args below meth c H locs cells slots Q (F0 m (pc + 3) ls rest)) : W p l e R s m args below meth c H locs cells slots Q (F0 m pc ls (.ref (b0 + k0) :: .ref (b0 + r) :: rest)) := by
  obtain ⟨h', hv, hf⟩ := Option.bind_eq_some_iff.mp hf
  obtain ⟨fs, he, hl, rfl⟩ := zP_spec hv
  obtain ⟨⟨hx, hb, hml, hown, hts⟩, hK, hN⟩ := X
  obtain ⟨hP, hz, hS0⟩ := G
  have hD := zw_D dA b0 h
  have hap := va_apart (own := own) hts hin ty0 hty hnm hK hc
  have he' : (zw dA b0 h)[r]? = some (b0 + r, .inr (ci, fs.map (zv b0))) := zw_at he
  obtain ⟨r1, h1, cell, q1, q2, q3, q4⟩ := hP r _ he'
  have hr : r1 = (C, T, N) := Option.some.inj (h1.symm.trans hc)
  subst hr
  obtain ⟨hS, hfc, kC, hkC, hkind⟩ := hK.1 ci _ hc
  obtain ⟨cf, kf, fi, f1, hi, hsl⟩ := hS k hk
  have hlay := hts _ (hin _ (u_in_lay hk))
  unfold u_lay at hlay
  rw [if_pos hfin] at hlay
  have hst := (u_facts hfc hkC (u_lays hts hin hk) hi).1
  have hcf : m.cls = cf := by
    obtain ⟨_, _, c', _, _, _, -, -, hf', -, -, -, hown2, -⟩ := Cond.laysFinal_spec hlay
    have e1 : c' = cf := by have := hi.symm.trans hf'; simp at this; exact this.1.symm
    rw [hdecl] at hown2
    rw [← e1]; exact Option.some.inj (hown.symm.trans hown2)
  have h6 := u_fits hfc hkC hkind (Or.inr hlay) hi hd (hn (b0 + k0)) (hfit (b0 + k0))
  refine W.putFinK hx hb hown (hts _ hlink) hi hst hcf hin2 (by rw [q2]; exact h6) q1 q3 (by rw [hsl]; exact k2_hasslot (q4 k hk)) rfl rfl hdg fun H' e1 e2 e3 => ?_
  rw [hsl] at e1 ⊢
  refine kk _ H' _ hf ⟨?_, by rw [e2, hz, List.length_set], hS0.put e2 e3 (Nat.le_add_right _ _)⟩
  rw [zw_set]
  show va_P D vwCl ((zw dA b0 h).set r (b0 + r, .inr (ci, (fs.set k (.ref k0)).map (zv b0)))) H'
  rw [List.map_set]
  exact hP.set hD he' ⟨_, hc, t_OB.to (V := updV (vp_V (fs.map (zv b0))) k (.ref (b0 + k0))) ⟨_, e1, q2, q3, t_set q4 hap hk (.ref (b0 + k0))⟩ (fun j _ => vp_updV_set (by rw [List.length_map]; exact hl) (.ref (b0 + k0)) j)⟩ e3
theorem ziald (X : zX p s m args c cc nL own Ts D dA) (G : zG D dA b0 H0 h H locs) (hdg : decode cc pc = .ok (.iaload, 1)) {r : Nat} {i : Int32} {α : Type} {z : α} {f : Int32 → Option α} (hf : (zL h 0 r i).bind f = some z)
    (kk : ∀ v, f v = some z → W p l e R s m args below meth c H locs cells slots Q (F0 m (pc + 1) ls (.int v :: rest))) : W p l e R s m args below meth c H locs cells slots Q (F0 m pc ls (.int i :: .ref (b0 + r) :: rest)) := by
  obtain ⟨v, hv, hf⟩ := Option.bind_eq_some_iff.mp hf
  obtain ⟨n, g, he, hin, rfl⟩ := zL_spec hv
  exact va_iald X.1.1 X.1.2.1 X.2.1 G.1 r 0 (zw_at he) rfl hin hdg (kk _ hf)
theorem zzald (X : zX p s m args c cc nL own Ts D dA) (G : zG D dA b0 H0 h H locs) (hdg : decode cc pc = .ok (.baload, 1)) {r : Nat} {i : Int32} {α : Type} {z : α} {f : Int32 → Option α} (hf : (zL h 1 r i).bind f = some z)
    (kk : ∀ v, f v = some z → W p l e R s m args below meth c H locs cells slots Q (F0 m (pc + 1) ls (.int v :: rest))) : W p l e R s m args below meth c H locs cells slots Q (F0 m pc ls (.int i :: .ref (b0 + r) :: rest)) := by
  obtain ⟨v, hv, hf⟩ := Option.bind_eq_some_iff.mp hf
  obtain ⟨n, g, he, hin, rfl⟩ := zL_spec hv
  exact va_zald X.1.1 X.1.2.1 X.2.1 G.1 r 1 (zw_at he) rfl hin hdg (kk _ hf)
theorem ziast (X : zX p s m args c cc nL own Ts D dA) (G : zG D dA b0 H0 h H locs) (hdg : decode cc pc = .ok (.iastore, 1)) {r : Nat} {i x : Int32} {α : Type} {z : α} {f : zH → Option α} (hf : (zS h 0 r i x).bind f = some z)
    (kk : ∀ h' H locs, f h' = some z → zG D dA b0 H0 h' H locs → W p l e R s m args below meth c H locs cells slots Q (F0 m (pc + 1) ls rest)) : W p l e R s m args below meth c H locs cells slots Q (F0 m pc ls (.int x :: .int i :: .ref (b0 + r) :: rest)) := by
  obtain ⟨h', hv, hf⟩ := Option.bind_eq_some_iff.mp hf
  obtain ⟨n, g, he, hin, rfl⟩ := zS_spec hv
  obtain ⟨hP, hz, hS⟩ := G
  have ha : (zw dA b0 h)[r]? = some (b0 + r, .inl (dA 0, n, .inl g)) := zw_at he
  refine W.iast X.1.1 X.1.2.1 (hP r _ ha) ((X.2.1.2 0 _ rfl).1 n (fun j => .int (g j))) (fun q => by cases q) (by show ¬ (i < 0 ∨ (arrV _ _ _).slots.size ≤ _); rw [arrV_size]; exact hin) rfl rfl hdg fun H1 e1 z1 oq => ?_
  refine kk _ H1 _ hf ⟨?_, by rw [z1, hz, List.length_set], hS.put z1 oq (Nat.le_add_right _ _)⟩
  rw [zw_set]
  refine hP.set (zw_D dA b0 h) ha ?_ oq
  show H1[b0 + r]? = some (vp_cell (dA 0) (n, .inl (upd g i.toNatClampNeg x)))
  rw [e1]
  rw [vp_cell_i, vp_cell_i, arrV_store]
  congr 2
  funext q
  by_cases hq : q = i.toNatClampNeg
  · subst hq
    simp [updV, upd]
  · simp [updV, upd, hq]
theorem zzast (X : zX p s m args c cc nL own Ts D dA) (G : zG D dA b0 H0 h H locs) (hdg : decode cc pc = .ok (.bastore, 1)) {r : Nat} {i x : Int32} {α : Type} {z : α} {f : zH → Option α} (hf : ((zB x).bind fun x => (zS h 1 r i x).bind f) = some z)
    (kk : ∀ h' H locs, f h' = some z → zG D dA b0 H0 h' H locs → W p l e R s m args below meth c H locs cells slots Q (F0 m (pc + 1) ls rest)) : W p l e R s m args below meth c H locs cells slots Q (F0 m pc ls (.int x :: .int i :: .ref (b0 + r) :: rest)) := by
  obtain ⟨y, hy, hf2⟩ := Option.bind_eq_some_iff.mp hf
  have hnx : narrow .boolean (.int x) = .int x ∧ y = x := by
    unfold zB at hy
    split at hy
    · rename_i h01
      cases hy
      rcases h01 with rfl | rfl
      · exact ⟨rfl, rfl⟩
      · exact ⟨rfl, rfl⟩
    · cases hy
  obtain ⟨hnx, rfl⟩ := hnx
  obtain ⟨h', hv, hf3⟩ := Option.bind_eq_some_iff.mp hf2
  obtain ⟨n, g, he, hin, rfl⟩ := zS_spec hv
  obtain ⟨hP, hz, hS⟩ := G
  have ha : (zw dA b0 h)[r]? = some (b0 + r, .inl (dA 1, n, .inl g)) := zw_at he
  refine W.zast X.1.1 X.1.2.1 (hP r _ ha) ((X.2.1.2 1 _ rfl).1 n (fun j => .int (g j))) (fun q => by cases q) (by show ¬ (i < 0 ∨ (arrV _ _ _).slots.size ≤ _); rw [arrV_size]; exact hin) rfl rfl hdg fun H1 e1 z1 oq => ?_
  rw [hnx] at e1
  refine kk _ H1 _ hf3 ⟨?_, by rw [z1, hz, List.length_set], hS.put z1 oq (Nat.le_add_right _ _)⟩
  rw [zw_set]
  refine hP.set (zw_D dA b0 h) ha ?_ oq
  show H1[b0 + r]? = some (vp_cell (dA 1) (n, .inl (upd g i.toNatClampNeg y)))
  rw [e1]
  rw [vp_cell_i, vp_cell_i, arrV_store]
  congr 2
  funext q
  by_cases hq : q = i.toNatClampNeg
  · subst hq
    simp [updV, upd]
  · simp [updV, upd, hq]
theorem zaald (t : Nat) {ty : FieldType} (X : zX p s m args c cc nL own Ts D dA) (G : zG D dA b0 H0 h H locs) (ht : (zTys dA)[t]? = some (dA t, ty)) (hty : ty.isReference = true) (hdg : decode cc pc = .ok (.aaload, 1)) {r : Nat} {i : Int32} {α : Type} {z : α} {f : Nat → Option α} (hf : (zLr h t r i).bind f = some z)
    (kk : ∀ v, f v = some z → W p l e R s m args below meth c H locs cells slots Q (F0 m (pc + 1) ls (.ref (b0 + v) :: rest))) : W p l e R s m args below meth c H locs cells slots Q (F0 m pc ls (.int i :: .ref (b0 + r) :: rest)) := by
  obtain ⟨v, hv, hf⟩ := Option.bind_eq_some_iff.mp hf
  obtain ⟨n, g, he, hin, hg⟩ := zLr_spec hv
  have hlt : i.toNatClampNeg < n := Nat.not_le.mp fun q => hin (Or.inr q)
  have ha : (zw dA b0 h)[r]? = some (b0 + r, .inl (dA t, n, .inr (.inr (.inr (.inr (fun i => (g i).map (fun k => b0 + k))))))) := zw_at he
  exact W.aald (v := .ref (b0 + v)) (ty := ty) X.1.1 X.1.2.1 (G.1 r _ ha) ((X.2.1.2 t _ ht).1 n (fun j => va_rf ((g j).map (fun k => b0 + k)))) hty (fun q => by cases q) (by show ¬ (i < 0 ∨ (arrV _ _ _).slots.size ≤ _); rw [arrV_size]; exact hin) (by show (arrV _ _ _).slots[_]? = _; rw [arrV_read _ _ hlt]; show some (va_rf ((g i.toNatClampNeg).map (fun k => b0 + k))) = _; rw [hg]; rfl) rfl rfl hdg (kk v hf)
/-- a reference to an object of Mine, stored in a row of such -/
theorem zaast (X : zX p s m args c cc nL own Ts D dA) (G : zG D dA b0 H0 h H locs) (hdg : decode cc pc = .ok (.aastore, 1)) {r v : Nat} {fs : List Value} (hv : h[v]? = some (.inr (3, fs))) {i : Int32} {α : Type} {z : α} {f : zH → Option α} (hf : (zSr h 2 r i v).bind f = some z)
    (kk : ∀ h' H locs, f h' = some z → zG D dA b0 H0 h' H locs → W p l e R s m args below meth c H locs cells slots Q (F0 m (pc + 1) ls rest)) : W p l e R s m args below meth c H locs cells slots Q (F0 m pc ls (.ref (b0 + v) :: .int i :: .ref (b0 + r) :: rest)) := by
  obtain ⟨h', hv', hf⟩ := Option.bind_eq_some_iff.mp hf
  obtain ⟨n, g, he, hin, rfl⟩ := zSr_spec hv'
  obtain ⟨hP, hz, hS⟩ := G
  have hK := X.2.1
  have ha : (zw dA b0 h)[r]? = some (b0 + r, .inl (dA 2, n, .inr (.inr (.inr (.inr (fun i => (g i).map (fun k => b0 + k))))))) := zw_at he
  have hvw : (zw dA b0 h)[v]? = some (b0 + v, .inr (3, fs.map (zv b0))) := zw_at hv
  have hlt : i.toNatClampNeg < n := Nat.not_le.mp fun q => hin (Or.inr q)
  have h0 : ¬ i < 0 := fun q => hin (Or.inl q)
  obtain ⟨r', hr', cellV, g1, g2, g3, -⟩ := hP v _ hvw
  have hc : vwCl[3]? = some (RX3, TX3, 12) := rfl
  have hcls := (hK.1 3 _ hc).2
  obtain ⟨kA, comp, k1, k2, k3, -⟩ := (hK.2 2 _ (rfl : (zTys dA)[2]? = some (dA 2, .object "BuriedHalves$Mine"))).2
  have hcomp : comp = D.1 3 := Option.some.inj (k3.symm.trans hcls.1)
  subst hcomp
  obtain ⟨kC, hkC, -⟩ := hcls.2
  refine W.aast X.1.1 X.1.2.1 (hP r _ ha) (fun q h => by cases h) (fun h => by cases h) k1 k2 rfl hkC ⟨h0, by show _ < (arrV _ _ _).slots.size; rw [arrV_size]; exact hlt⟩ g1 (fun q h => by rw [g3] at h; cases h) (by rw [g2]; exact hkC) (by rw [g2]; exact va_assign hcls) rfl rfl hdg fun H1 e1 z1 oq => ?_
  refine kk _ H1 _ hf ⟨?_, by rw [z1, hz, List.length_set], hS.put z1 oq (Nat.le_add_right _ _)⟩
  rw [zw_set]
  refine hP.set (zw_D dA b0 h) ha ?_ oq
  show H1[b0 + r]? = some (vp_cell (dA 2) (n, .inr (.inr (.inr (.inr (fun j => (va_up g i.toNatClampNeg (some v) j).map (fun k => b0 + k)))))))
  rw [e1]
  rw [vp_cell_q, vp_cell_q, arrV_store]
  congr 2
  funext q
  by_cases hq : q = i.toNatClampNeg
  · subst hq
    simp [updV, va_up, va_rf]
  · simp [updV, va_up, hq]
end ZROW
end
section
/-! ROWS: deciding, calling, returning, making -/
section ZCALL
variable {p : Program} {l : Launch} {e : Env} {R : Room} {s : State} {m : MethodId} {args : Array Value} {below : List Frame} {meth : Method} {c : Code} {H : Heap} {locs : List Loc} {cells slots : Nat} {Q : State → Prop}
variable {cc : ByteArray} {nL : Nat} {own : String} {Ts : List Cond} {D : va_G} {dA : Nat → ClassId} {b0 : Nat} {h : zH} {pc : Nat} {ls : Array Slot} {rest : List Value} {H0 : Heap}
theorem zif_eq (X : zX p s m args c cc nL own Ts D dA) {x : Int32} {off : Int} {tgt : Nat} (hdg : decode cc pc = .ok (.ifCond .eq off, 3)) (ht : (pc : Int) + off = (tgt : Int)) {α : Type} {z : α} {A B : Option α} (hf : (if x = 0 then A else B) = some z) (kt : A = some z → W p l e R s m args below meth c H locs cells slots Q (F0 m tgt ls rest)) (kf : B = some z → W p l e R s m args below meth c H locs cells slots Q (F0 m (pc + 3) ls rest)) : W p l e R s m args below meth c H locs cells slots Q (F0 m pc ls (.int x :: rest)) :=
  lv_if_eq X.1.1 X.1.2.1 hdg ht (fun q => kt (by rw [if_pos q] at hf; exact hf)) (fun q => kf (by rw [if_neg q] at hf; exact hf))
theorem zif_ne (X : zX p s m args c cc nL own Ts D dA) {x : Int32} {off : Int} {tgt : Nat} (hdg : decode cc pc = .ok (.ifCond .ne off, 3)) (ht : (pc : Int) + off = (tgt : Int)) {α : Type} {z : α} {A B : Option α} (hf : (if x = 0 then B else A) = some z) (kt : A = some z → W p l e R s m args below meth c H locs cells slots Q (F0 m tgt ls rest)) (kf : B = some z → W p l e R s m args below meth c H locs cells slots Q (F0 m (pc + 3) ls rest)) : W p l e R s m args below meth c H locs cells slots Q (F0 m pc ls (.int x :: rest)) :=
  lv_if_ne X.1.1 X.1.2.1 hdg ht (fun q => kt (by rw [if_neg q] at hf; exact hf)) (fun q => kf (by rw [if_pos q] at hf; exact hf))
theorem zif_lt (X : zX p s m args c cc nL own Ts D dA) {x : Int32} {off : Int} {tgt : Nat} (hdg : decode cc pc = .ok (.ifCond .lt off, 3)) (ht : (pc : Int) + off = (tgt : Int)) {α : Type} {z : α} {A B : Option α} (hf : (if x < 0 then A else B) = some z) (kt : A = some z → W p l e R s m args below meth c H locs cells slots Q (F0 m tgt ls rest)) (kf : B = some z → W p l e R s m args below meth c H locs cells slots Q (F0 m (pc + 3) ls rest)) : W p l e R s m args below meth c H locs cells slots Q (F0 m pc ls (.int x :: rest)) :=
  lv_if_lt X.1.1 X.1.2.1 hdg ht (fun q => kt (by rw [if_pos q] at hf; exact hf)) (fun q => kf (by rw [if_neg q] at hf; exact hf))
theorem zif_ge (X : zX p s m args c cc nL own Ts D dA) {x : Int32} {off : Int} {tgt : Nat} (hdg : decode cc pc = .ok (.ifCond .ge off, 3)) (ht : (pc : Int) + off = (tgt : Int)) {α : Type} {z : α} {A B : Option α} (hf : (if 0 ≤ x then A else B) = some z) (kt : A = some z → W p l e R s m args below meth c H locs cells slots Q (F0 m tgt ls rest)) (kf : B = some z → W p l e R s m args below meth c H locs cells slots Q (F0 m (pc + 3) ls rest)) : W p l e R s m args below meth c H locs cells slots Q (F0 m pc ls (.int x :: rest)) :=
  lv_if_ge X.1.1 X.1.2.1 hdg ht (fun q => kt (by rw [if_pos q] at hf; exact hf)) (fun q => kf (by rw [if_neg q] at hf; exact hf))
theorem zif_gt (X : zX p s m args c cc nL own Ts D dA) {x : Int32} {off : Int} {tgt : Nat} (hdg : decode cc pc = .ok (.ifCond .gt off, 3)) (ht : (pc : Int) + off = (tgt : Int)) {α : Type} {z : α} {A B : Option α} (hf : (if 0 < x then A else B) = some z) (kt : A = some z → W p l e R s m args below meth c H locs cells slots Q (F0 m tgt ls rest)) (kf : B = some z → W p l e R s m args below meth c H locs cells slots Q (F0 m (pc + 3) ls rest)) : W p l e R s m args below meth c H locs cells slots Q (F0 m pc ls (.int x :: rest)) :=
  lv_if_gt X.1.1 X.1.2.1 hdg ht (fun q => kt (by rw [if_pos q] at hf; exact hf)) (fun q => kf (by rw [if_neg q] at hf; exact hf))
theorem zif_le (X : zX p s m args c cc nL own Ts D dA) {x : Int32} {off : Int} {tgt : Nat} (hdg : decode cc pc = .ok (.ifCond .le off, 3)) (ht : (pc : Int) + off = (tgt : Int)) {α : Type} {z : α} {A B : Option α} (hf : (if x ≤ 0 then A else B) = some z) (kt : A = some z → W p l e R s m args below meth c H locs cells slots Q (F0 m tgt ls rest)) (kf : B = some z → W p l e R s m args below meth c H locs cells slots Q (F0 m (pc + 3) ls rest)) : W p l e R s m args below meth c H locs cells slots Q (F0 m pc ls (.int x :: rest)) :=
  lv_if_le X.1.1 X.1.2.1 hdg ht (fun q => kt (by rw [if_pos q] at hf; exact hf)) (fun q => kf (by rw [if_neg q] at hf; exact hf))
theorem zic_eq (X : zX p s m args c cc nL own Ts D dA) {x y : Int32} {off : Int} {tgt : Nat} (hdg : decode cc pc = .ok (.if_icmp .eq off, 3)) (ht : (pc : Int) + off = (tgt : Int)) {α : Type} {z : α} {A B : Option α} (hf : (if x = y then A else B) = some z) (kt : A = some z → W p l e R s m args below meth c H locs cells slots Q (F0 m tgt ls rest)) (kf : B = some z → W p l e R s m args below meth c H locs cells slots Q (F0 m (pc + 3) ls rest)) : W p l e R s m args below meth c H locs cells slots Q (F0 m pc ls (.int y :: .int x :: rest)) :=
  lv_icmp_eq X.1.1 X.1.2.1 hdg ht (fun q => kt (by rw [if_pos q] at hf; exact hf)) (fun q => kf (by rw [if_neg q] at hf; exact hf))
theorem zic_ne (X : zX p s m args c cc nL own Ts D dA) {x y : Int32} {off : Int} {tgt : Nat} (hdg : decode cc pc = .ok (.if_icmp .ne off, 3)) (ht : (pc : Int) + off = (tgt : Int)) {α : Type} {z : α} {A B : Option α} (hf : (if x = y then B else A) = some z) (kt : A = some z → W p l e R s m args below meth c H locs cells slots Q (F0 m tgt ls rest)) (kf : B = some z → W p l e R s m args below meth c H locs cells slots Q (F0 m (pc + 3) ls rest)) : W p l e R s m args below meth c H locs cells slots Q (F0 m pc ls (.int y :: .int x :: rest)) :=
  lv_icmp_ne X.1.1 X.1.2.1 hdg ht (fun q => kt (by rw [if_neg q] at hf; exact hf)) (fun q => kf (by rw [if_pos q] at hf; exact hf))
theorem zic_lt (X : zX p s m args c cc nL own Ts D dA) {x y : Int32} {off : Int} {tgt : Nat} (hdg : decode cc pc = .ok (.if_icmp .lt off, 3)) (ht : (pc : Int) + off = (tgt : Int)) {α : Type} {z : α} {A B : Option α} (hf : (if x < y then A else B) = some z) (kt : A = some z → W p l e R s m args below meth c H locs cells slots Q (F0 m tgt ls rest)) (kf : B = some z → W p l e R s m args below meth c H locs cells slots Q (F0 m (pc + 3) ls rest)) : W p l e R s m args below meth c H locs cells slots Q (F0 m pc ls (.int y :: .int x :: rest)) :=
  lv_icmp_lt X.1.1 X.1.2.1 hdg ht (fun q => kt (by rw [if_pos q] at hf; exact hf)) (fun q => kf (by rw [if_neg q] at hf; exact hf))
theorem zic_ge (X : zX p s m args c cc nL own Ts D dA) {x y : Int32} {off : Int} {tgt : Nat} (hdg : decode cc pc = .ok (.if_icmp .ge off, 3)) (ht : (pc : Int) + off = (tgt : Int)) {α : Type} {z : α} {A B : Option α} (hf : (if y ≤ x then A else B) = some z) (kt : A = some z → W p l e R s m args below meth c H locs cells slots Q (F0 m tgt ls rest)) (kf : B = some z → W p l e R s m args below meth c H locs cells slots Q (F0 m (pc + 3) ls rest)) : W p l e R s m args below meth c H locs cells slots Q (F0 m pc ls (.int y :: .int x :: rest)) :=
  lv_icmp_ge X.1.1 X.1.2.1 hdg ht (fun q => kt (by rw [if_pos q] at hf; exact hf)) (fun q => kf (by rw [if_neg q] at hf; exact hf))
theorem zic_gt (X : zX p s m args c cc nL own Ts D dA) {x y : Int32} {off : Int} {tgt : Nat} (hdg : decode cc pc = .ok (.if_icmp .gt off, 3)) (ht : (pc : Int) + off = (tgt : Int)) {α : Type} {z : α} {A B : Option α} (hf : (if y < x then A else B) = some z) (kt : A = some z → W p l e R s m args below meth c H locs cells slots Q (F0 m tgt ls rest)) (kf : B = some z → W p l e R s m args below meth c H locs cells slots Q (F0 m (pc + 3) ls rest)) : W p l e R s m args below meth c H locs cells slots Q (F0 m pc ls (.int y :: .int x :: rest)) :=
  lv_icmp_gt X.1.1 X.1.2.1 hdg ht (fun q => kt (by rw [if_pos q] at hf; exact hf)) (fun q => kf (by rw [if_neg q] at hf; exact hf))
theorem zic_le (X : zX p s m args c cc nL own Ts D dA) {x y : Int32} {off : Int} {tgt : Nat} (hdg : decode cc pc = .ok (.if_icmp .le off, 3)) (ht : (pc : Int) + off = (tgt : Int)) {α : Type} {z : α} {A B : Option α} (hf : (if x ≤ y then A else B) = some z) (kt : A = some z → W p l e R s m args below meth c H locs cells slots Q (F0 m tgt ls rest)) (kf : B = some z → W p l e R s m args below meth c H locs cells slots Q (F0 m (pc + 3) ls rest)) : W p l e R s m args below meth c H locs cells slots Q (F0 m pc ls (.int y :: .int x :: rest)) :=
  lv_icmp_le X.1.1 X.1.2.1 hdg ht (fun q => kt (by rw [if_pos q] at hf; exact hf)) (fun q => kf (by rw [if_neg q] at hf; exact hf))
theorem zidiv (X : zX p s m args c cc nL own Ts D dA) {x y : Int32} (hdg : decode cc pc = .ok (.idiv, 1)) {α : Type} {z : α} {A : Option α} (hf : (if y = 0 then none else A) = some z) (kk : A = some z → W p l e R s m args below meth c H locs cells slots Q (F0 m (pc + 1) ls (.int (x / y) :: rest))) : W p l e R s m args below meth c H locs cells slots Q (F0 m pc ls (.int y :: .int x :: rest)) := by
  by_cases q : y = 0
  · rw [if_pos q] at hf; cases hf
  · rw [if_neg q] at hf; exact lv_idiv X.1.1 X.1.2.1 hdg q (kk hf)
theorem zirem (X : zX p s m args c cc nL own Ts D dA) {x y : Int32} (hdg : decode cc pc = .ok (.irem, 1)) {α : Type} {z : α} {A : Option α} (hf : (if y = 0 then none else A) = some z) (kk : A = some z → W p l e R s m args below meth c H locs cells slots Q (F0 m (pc + 1) ls (.int (x - x / y * y) :: rest))) : W p l e R s m args below meth c H locs cells slots Q (F0 m pc ls (.int y :: .int x :: rest)) := by
  by_cases q : y = 0
  · rw [if_pos q] at hf; cases hf
  · rw [if_neg q] at hf; exact lv_irem X.1.1 X.1.2.1 hdg q (kk hf)
theorem zldiv (X : zX p s m args c cc nL own Ts D dA) {x y : Int64} (hdg : decode cc pc = .ok (.ldiv, 1)) {α : Type} {z : α} {A : Option α} (hf : (if y = 0 then none else A) = some z) (kk : A = some z → W p l e R s m args below meth c H locs cells slots Q (F0 m (pc + 1) ls (.long (x / y) :: rest))) : W p l e R s m args below meth c H locs cells slots Q (F0 m pc ls (.long y :: .long x :: rest)) := by
  by_cases q : y = 0
  · rw [if_pos q] at hf; cases hf
  · rw [if_neg q] at hf; exact lv_ldiv X.1.1 X.1.2.1 hdg q (kk hf)
theorem zlrem (X : zX p s m args c cc nL own Ts D dA) {x y : Int64} (hdg : decode cc pc = .ok (.lrem, 1)) {α : Type} {z : α} {A : Option α} (hf : (if y = 0 then none else A) = some z) (kk : A = some z → W p l e R s m args below meth c H locs cells slots Q (F0 m (pc + 1) ls (.long (x - x / y * y) :: rest))) : W p l e R s m args below meth c H locs cells slots Q (F0 m pc ls (.long y :: .long x :: rest)) := by
  by_cases q : y = 0
  · rw [if_pos q] at hf; cases hf
  · rw [if_neg q] at hf; exact lv_lrem X.1.1 X.1.2.1 hdg q (kk hf)
theorem zleti {x : Int32} {α : Type} {z : α} {f : Int32 → Option α} (hf : zLet x f = some z) (kk : ∀ y, f y = some z → W p l e R s m args below meth c H locs cells slots Q (F0 m pc ls (.int y :: rest))) : W p l e R s m args below meth c H locs cells slots Q (F0 m pc ls (.int x :: rest)) := kk x hf
theorem zletl {x : Int64} {α : Type} {z : α} {f : Int64 → Option α} (hf : zLet x f = some z) (kk : ∀ y, f y = some z → W p l e R s m args below meth c H locs cells slots Q (F0 m pc ls (.long y :: rest))) : W p l e R s m args below meth c H locs cells slots Q (F0 m pc ls (.long x :: rest)) := kk x hf
theorem zmin (X : zX p s m args c cc nL own Ts D dA) {index : Nat} (hsz : ls.size = nL) (hlink : Cond.methodLink own index Lib.Math.min.name ∈ Ts) (hstat : Cond.static Lib.Math.min.name ∈ Ts) (hini : Cond.initialized "java/lang/Math" ∈ Ts) (hcode : Cond.code Lib.Math.min.name Lib.Math.min.code 2 (some .int) ∈ Ts) (hframes : 1 ≤ R.frames) (hlocals : (rest.map fun v => v.category).sum + 13 ≤ R.locals) (hc : cells ≤ R.cells) (hs : slots ≤ R.slots) {x y : Int32} (hdg : decode cc pc = .ok (.invokestatic index, 3))
    (kk : W p l e R s m args below meth c H locs cells slots Q (F0 m (pc + 3) ls (.int (if y < x then y else x) :: rest))) : W p l e R s m args below meth c H locs cells slots Q (F0 m pc ls (.int y :: .int x :: rest)) :=
  va_mmin X.1.1 X.1.2.1 (X.1.2.2.1.trans hsz.symm) X.1.2.2.2.1 (X.1.2.2.2.2 _ hlink) (X.1.2.2.2.2 _ hstat) (X.1.2.2.2.2 _ hini) (X.1.2.2.2.2 _ hcode) hframes hlocals hc hs hdg kk
theorem zabs (X : zX p s m args c cc nL own Ts D dA) {index : Nat} (hsz : ls.size = nL) (hlink : Cond.methodLink own index Lib.Math.abs.name ∈ Ts) (hstat : Cond.static Lib.Math.abs.name ∈ Ts) (hini : Cond.initialized "java/lang/Math" ∈ Ts) (hcode : Cond.code Lib.Math.abs.name Lib.Math.abs.code 1 (some .int) ∈ Ts) (hframes : 1 ≤ R.frames) (hlocals : (rest.map fun v => v.category).sum + 13 ≤ R.locals) (hc : cells ≤ R.cells) (hs : slots ≤ R.slots) {x : Int32} (hdg : decode cc pc = .ok (.invokestatic index, 3))
    (kk : W p l e R s m args below meth c H locs cells slots Q (F0 m (pc + 3) ls (.int (if 0 ≤ x then x else 0 - x) :: rest))) : W p l e R s m args below meth c H locs cells slots Q (F0 m pc ls (.int x :: rest)) :=
  va_mabs X.1.1 X.1.2.1 (X.1.2.2.1.trans hsz.symm) X.1.2.2.2.1 (X.1.2.2.2.2 _ hlink) (X.1.2.2.2.2 _ hstat) (X.1.2.2.2.2 _ hini) (X.1.2.2.2.2 _ hcode) hframes hlocals hc hs hdg kk
/-- behind a call -/
theorem zcall {st0 : List Value} {a : Array Value} {v : Option Value} {h' : zH} {mc ms : Nat} (hr : va_Run p l e R s m args below meth c H locs cells slots mc ms (F0 m pc ls st0) rest (zQ D dA b0 v h' a) (zA b0)) (G : zG D dA b0 H0 h H locs)
    (kk : ∀ H1 locs1, zG D dA b0 H0 h' H1 locs1 → W p l e R s m args below meth c H1 locs1 (cells + mc) (slots + ms) Q (F0 m (pc + 3) ls (v.toList ++ rest))) : W p l e R s m args below meth c H locs cells slots Q (F0 m pc ls st0) := by
  intro T hT X
  obtain ⟨v', st₀, t, T', L, h0, X', hL, e1, e2, ⟨hv, hP, hz, hF⟩, st⟩ := hr T hT X
  cases hv
  obtain ⟨hG1, hG2, hS⟩ := G
  obtain ⟨hz1, hk⟩ := hF
  rw [h0] at hz1 hk
  obtain ⟨t2, a1, b1⟩ := kk T'.heap (locs ++ L) ⟨by rw [e1]; exact hP, by rw [e1]; exact hz, Nat.le_trans hS.1 (by rw [e1]; exact hz1), fun q h1 h2 => by rw [e1, hk q (Nat.lt_of_lt_of_le h1 hS.1) h2]; exact hS.2.1 q h1 h2, fun q hq => by
      rcases List.mem_append.mp hq with h | h
      · exact hS.2.2 q h
      · exact hL q h⟩ T' rfl X'
  exact ⟨t2, st t2 a1, b1⟩
theorem zPre (X : zX p s m args c cc nL own Ts D dA) (G : zG D dA b0 H0 h H locs) (As : List Value) : PreS s H (zPc D dA b0 As h) As :=
  ⟨zPc_blind, fun U hU hW => ⟨rfl, by rw [hU]; exact G.1, by rw [hU]; exact G.2.1, va_K.moved hW.alike X.2.1, zN.warm hW X.2.2⟩⟩
theorem zPreV (X : zX p s m args c cc nL own Ts D dA) (G : zG D dA b0 H0 h H locs) {r ci : Nat} {fs : List Value} {q : vw_C} (hc : vwCl[ci]? = some q) (he : h[r]? = some (.inr (ci, fs))) (As : List Value) : PreV s H q.1 (b0 + r) (zPc D dA b0 (.ref (b0 + r) :: As) h) As :=
  ⟨zPc_blind, va_recv X.2.1 G.1 (ci := ci) (q0 := r) hc (zw_at he), fun U hU hW => ⟨rfl, by rw [hU]; exact G.1, by rw [hU]; exact G.2.1, va_K.moved hW.alike X.2.1, zN.warm hW X.2.2⟩⟩
variable {y : MethodName} {bytes : ByteArray} {maxL mc ms n index : Nat} {ret : Option FieldType} {ws : List Cond} {rm : Room} {As st0 : List Value} {v : Option Value} {h' : zH}
theorem zcS (X : zX p s m args c cc nL own Ts D dA) (G : zG D dA b0 H0 h H locs) (hM : Met l y ws rm (zPc D dA b0 As h) (zQ D dA b0 v h') mc ms (zA b0)) (cw : CallB R s args own index y bytes maxL ret ws rm mc ms n ∧ (Cond.static y).before args s = true) (hn : As.length = n) (hsz : ls.size = nL) (hst : st0 = As.reverse ++ rest) (hW : (rest.map fun v => v.category).sum ≤ 8) (hdg : decode cc pc = .ok (.invokestatic index, 3)) (hf : cells + mc ≤ R.cells ∧ slots + ms ≤ R.slots)
    (kk : ∀ H1 locs1, zG D dA b0 H0 h' H1 locs1 → W p l e R s m args below meth c H1 locs1 (cells + mc) (slots + ms) Q (F0 m (pc + 3) ls (v.toList ++ rest))) : W p l e R s m args below meth c H locs cells slots Q (F0 m pc ls st0) :=
  zcall (va_runS X.1 hM cw (zPre X G As) rfl hn hsz hst (lv_room hW) hdg hf) G kk
theorem zcSN {host : String} (X : zX p s m args c cc nL own Ts D dA) (G : zG D dA b0 H0 h H locs) (hM : Met l y ws rm (zPc D dA b0 As h) (zQ D dA b0 v h') mc ms (zA b0)) (cw : va_CN R s args own index y host bytes maxL ret ws rm mc ms n ∧ (Cond.static y).before args s = true ∧ True) (hn : As.length = n) (hsz : ls.size = nL) (hst : st0 = As.reverse ++ rest) (hW : (rest.map fun v => v.category).sum ≤ 8) (hdg : decode cc pc = .ok (.invokestatic index, 3)) (hf : cells + mc ≤ R.cells ∧ slots + ms ≤ R.slots)
    (kk : ∀ H1 locs1, zG D dA b0 H0 h' H1 locs1 → W p l e R s m args below meth c H1 locs1 (cells + mc) (slots + ms) Q (F0 m (pc + 3) ls (v.toList ++ rest))) : W p l e R s m args below meth c H locs cells slots Q (F0 m pc ls st0) :=
  zcall (va_runSN X.1 hM cw (zPre X G As) rfl hn hsz hst (lv_room hW) hdg hf) G kk
theorem zcV {q : vw_C} {r ci : Nat} (X : zX p s m args c cc nL own Ts D dA) (G : zG D dA b0 H0 h H locs) (hc : vwCl[ci]? = some q) (he : zO h r ci) (hM : Met l y ws rm (zPc D dA b0 (.ref (b0 + r) :: As) h) (zQ D dA b0 v h') mc ms (zA b0)) (cw : CallW R s args own q.1 index y bytes maxL ret ws rm mc ms n) (hn : As.length = n) (hsz : ls.size = nL) (hst : st0 = As.reverse ++ .ref (b0 + r) :: rest) (hW : (rest.map fun v => v.category).sum ≤ 8) (hdg : decode cc pc = .ok (.invokevirtual index, 3)) (hf : cells + mc ≤ R.cells ∧ slots + ms ≤ R.slots)
    (kk : ∀ H1 locs1, zG D dA b0 H0 h' H1 locs1 → W p l e R s m args below meth c H1 locs1 (cells + mc) (slots + ms) Q (F0 m (pc + 3) ls (v.toList ++ rest))) : W p l e R s m args below meth c H locs cells slots Q (F0 m pc ls st0) := by
  obtain ⟨fs, he⟩ := he
  exact zcall (va_runV X.1 hM cw (zPreV X G hc he As) rfl hn hsz hst (lv_room hW) hdg hf) G kk
theorem zcI {r : Nat} (X : zX p s m args c cc nL own Ts D dA) (G : zG D dA b0 H0 h H locs) (hM : Met l y ws rm (zPc D dA b0 (.ref (b0 + r) :: As) h) (zQ D dA b0 v h') mc ms (zA b0)) (cw : CallB R s args own index y bytes maxL none ws rm mc ms n ∧ y.name = "<init>" ∧ (Cond.instanceMethod y).before args s = true) (hn : As.length = n) (hsz : ls.size = nL) (hst : st0 = As.reverse ++ .ref (b0 + r) :: rest) (hW : (rest.map fun v => v.category).sum ≤ 8) (hdg : decode cc pc = .ok (.invokespecial index, 3)) (hf : cells + mc ≤ R.cells ∧ slots + ms ≤ R.slots)
    (kk : ∀ H1 locs1, zG D dA b0 H0 h' H1 locs1 → W p l e R s m args below meth c H1 locs1 (cells + mc) (slots + ms) Q (F0 m (pc + 3) ls (v.toList ++ rest))) : W p l e R s m args below meth c H locs cells slots Q (F0 m pc ls st0) :=
  zcall (va_runI X.1 hM cw (zPre X G (.ref (b0 + r) :: As)) rfl hn hsz hst (lv_room hW) hdg hf) G kk
theorem zcIN {host : String} {r : Nat} (X : zX p s m args c cc nL own Ts D dA) (G : zG D dA b0 H0 h H locs) (hM : Met l y ws rm (zPc D dA b0 (.ref (b0 + r) :: As) h) (zQ D dA b0 v h') mc ms (zA b0)) (cw : va_CN R s args own index y host bytes maxL none ws rm mc ms n ∧ y.name = "<init>" ∧ (Cond.instanceMethod y).before args s = true) (hn : As.length = n) (hsz : ls.size = nL) (hst : st0 = As.reverse ++ .ref (b0 + r) :: rest) (hW : (rest.map fun v => v.category).sum ≤ 8) (hdg : decode cc pc = .ok (.invokespecial index, 3)) (hf : cells + mc ≤ R.cells ∧ slots + ms ≤ R.slots)
    (kk : ∀ H1 locs1, zG D dA b0 H0 h' H1 locs1 → W p l e R s m args below meth c H1 locs1 (cells + mc) (slots + ms) Q (F0 m (pc + 3) ls (v.toList ++ rest))) : W p l e R s m args below meth c H locs cells slots Q (F0 m pc ls st0) :=
  zcall (va_runIN X.1 hM cw (zPre X G (.ref (b0 + r) :: As)) rfl hn hsz hst (lv_room hW) hdg hf) G kk
/-! the same, of a method that makes nothing -/
theorem zcS0 (X : zX p s m args c cc nL own Ts D dA) (G : zG D dA b0 H0 h H locs) (hM : Met l y ws rm (zPc D dA b0 As h) (zQ D dA b0 v h') 0 0 (zA b0)) (cw : CallB R s args own index y bytes maxL ret ws rm 0 0 n ∧ (Cond.static y).before args s = true) (hn : As.length = n) (hsz : ls.size = nL) (hst : st0 = As.reverse ++ rest) (hW : (rest.map fun v => v.category).sum ≤ 8) (hdg : decode cc pc = .ok (.invokestatic index, 3)) (hf : cells ≤ R.cells ∧ slots ≤ R.slots)
    (kk : ∀ H1 locs1, zG D dA b0 H0 h' H1 locs1 → W p l e R s m args below meth c H1 locs1 cells slots Q (F0 m (pc + 3) ls (v.toList ++ rest))) : W p l e R s m args below meth c H locs cells slots Q (F0 m pc ls st0) :=
  zcS X G hM cw hn hsz hst hW hdg hf kk
theorem zcSN0 {host : String} (X : zX p s m args c cc nL own Ts D dA) (G : zG D dA b0 H0 h H locs) (hM : Met l y ws rm (zPc D dA b0 As h) (zQ D dA b0 v h') 0 0 (zA b0)) (cw : va_CN R s args own index y host bytes maxL ret ws rm 0 0 n ∧ (Cond.static y).before args s = true ∧ True) (hn : As.length = n) (hsz : ls.size = nL) (hst : st0 = As.reverse ++ rest) (hW : (rest.map fun v => v.category).sum ≤ 8) (hdg : decode cc pc = .ok (.invokestatic index, 3)) (hf : cells ≤ R.cells ∧ slots ≤ R.slots)
    (kk : ∀ H1 locs1, zG D dA b0 H0 h' H1 locs1 → W p l e R s m args below meth c H1 locs1 cells slots Q (F0 m (pc + 3) ls (v.toList ++ rest))) : W p l e R s m args below meth c H locs cells slots Q (F0 m pc ls st0) :=
  zcSN X G hM cw hn hsz hst hW hdg hf kk
theorem zcV0 {q : vw_C} {r ci : Nat} (X : zX p s m args c cc nL own Ts D dA) (G : zG D dA b0 H0 h H locs) (hc : vwCl[ci]? = some q) (he : zO h r ci) (hM : Met l y ws rm (zPc D dA b0 (.ref (b0 + r) :: As) h) (zQ D dA b0 v h') 0 0 (zA b0)) (cw : CallW R s args own q.1 index y bytes maxL ret ws rm 0 0 n) (hn : As.length = n) (hsz : ls.size = nL) (hst : st0 = As.reverse ++ .ref (b0 + r) :: rest) (hW : (rest.map fun v => v.category).sum ≤ 8) (hdg : decode cc pc = .ok (.invokevirtual index, 3)) (hf : cells ≤ R.cells ∧ slots ≤ R.slots)
    (kk : ∀ H1 locs1, zG D dA b0 H0 h' H1 locs1 → W p l e R s m args below meth c H1 locs1 cells slots Q (F0 m (pc + 3) ls (v.toList ++ rest))) : W p l e R s m args below meth c H locs cells slots Q (F0 m pc ls st0) :=
  zcV X G hc he hM cw hn hsz hst hW hdg hf kk
theorem zcp (X : zX p s m args c cc nL own Ts D dA) (G : zG D dA b0 H0 h H locs) {index : Nat} (hsz : ls.size = nL) (hlink : Cond.methodLink own index arraycopyName ∈ Ts) (hnat : Cond.native arraycopyName ∈ Ts) (hstat : Cond.static arraycopyName ∈ Ts) (hini : Cond.initialized "java/lang/System" ∈ Ts) (hframes : 1 ≤ R.frames) (hlocals : (rest.map fun v => v.category).sum + (nativeFrameWords "java/lang/System" "arraycopy" 5 + 11) ≤ R.locals) (hdg : decode cc pc = .ok (.invokestatic index, 3)) {r q : Nat} {sp dp n : Int32} {α : Type} {z : α} {f : zH → Option α} (hf : (zCp h r sp q dp n).bind f = some z)
    (kk : ∀ h' H locs, f h' = some z → zG D dA b0 H0 h' H locs → W p l e R s m args below meth c H locs cells slots Q (F0 m (pc + 3) ls rest)) : W p l e R s m args below meth c H locs cells slots Q (F0 m pc ls (.int n :: .int dp :: .ref (b0 + q) :: .int sp :: .ref (b0 + r) :: rest)) := by
  obtain ⟨h', hv, hf⟩ := Option.bind_eq_some_iff.mp hf
  obtain ⟨n0, f0, n1, g, he, he2, h1, h2, h3, h4, h5, rfl⟩ := zCp_spec hv
  obtain ⟨hP, hz, hS⟩ := G
  obtain ⟨⟨hx, hb, hml, hown, hts⟩, hK, hN⟩ := X
  have nn : ∀ w : Int32, ¬ w < 0 → w.toInt = (w.toNatClampNeg : Int) := by
    intro w hw
    have hz0 : (0 : Int) ≤ w.toInt := by
      have := Int32.not_lt.mp hw
      simpa using Int32.le_iff_toInt_le.mp this
    show w.toInt = ((w.toInt.toNat : Nat) : Int)
    omega
  intro T hT X
  have ha0 : (zw dA b0 h)[r]? = some (b0 + r, .inl (dA 0, n0, .inl f0)) := zw_at he
  have ha1 : (zw dA b0 h)[q]? = some (b0 + q, .inl (dA 0, n1, .inl g)) := zw_at he2
  have hc0 : H[b0 + r]? = some (vp_cell (dA 0) (n0, .inl f0)) := hP r _ ha0
  have hc1 : H[b0 + q]? = some (vp_cell (dA 0) (n1, .inl g)) := hP q _ ha1
  obtain ⟨-, k0, hk0, cm0, hkk0⟩ := (hK.2 0 _ rfl).1 n0 (fun j => .int (f0 j))
  obtain ⟨-, k1, hk1, cm1, hkk1⟩ := (hK.2 0 _ rfl).1 n1 (fun j => .int (g j))
  obtain ⟨vm', X', step⟩ := X.arraycopy hx hown (hts _ hlink) (hts _ hnat) (hts _ hstat) (hts _ hini) (src := b0 + r) (dst := b0 + q) (cs := vp_cell (dA 0) (n0, .inl f0)) (cd := vp_cell (dA 0) (n1, .inl g)) (srcPos := sp) (destPos := dp) (n := n) (by rw [hT]; exact hc0) (by rw [hT]; exact hc1)
    (fun _ h => by cases h) (fun _ h => by cases h) (fun h => by cases h) (fun h => by cases h) hk0 hk1 hkk0 hkk1 (by rfl) h1 h2 h3
    (by rw [nn sp h1, nn n h3]; show ¬ _ > ((arrV (dA 0) n0 (fun j => .int (f0 j))).slots.size : Int); rw [arrV_size]; omega)
    (by rw [nn dp h2, nn n h3]; show ¬ _ > ((arrV (dA 0) n1 (fun j => .int (g j))).slots.size : Int); rw [arrV_size]; omega)
    (fun vm₁ _ i hi => by
      have e1 : (vp_cell (dA 0) (n0, .inl f0)).slots.getD (sp.toNatClampNeg + i) .null = .int (f0 (sp.toNatClampNeg + i)) := by
        show (arrV (dA 0) n0 (fun j => .int (f0 j))).slots.getD _ _ = _
        rw [Array.getD_eq_getD_getElem?, arrV_read _ _ (by omega)]
        rfl
      refine ⟨?_, ?_⟩
      · rw [e1]
        rfl
      · rw [e1]
        exact trivial)
    (g := F0 m pc ls (.int n :: .int dp :: .ref (b0 + q) :: .int sp :: .ref (b0 + r) :: rest)) rfl (by rw [hml, ← hsz]) (rest := rest) rfl (by rw [hb]; exact hdg) hframes (by show 2 * 0 + _ + _ ≤ _; omega)
  have e1 : copied (vp_cell (dA 0) (n0, .inl f0)) (vp_cell (dA 0) (n1, .inl g)) sp dp n = vp_cell (dA 0) (n1, .inl (va_cpy f0 g sp.toNatClampNeg dp.toNatClampNeg n.toNatClampNeg)) := va_copied (fun w => .int w) (dA 0) (dA 0) f0 g h4
  rw [e1] at X' step
  have hl : b0 + q < H.size := (Array.getElem?_eq_some_iff.mp hc1).1
  have hheap : ((T.setVm vm').setCell (b0 + q) (vp_cell (dA 0) (n1, .inl (va_cpy f0 g sp.toNatClampNeg dp.toNatClampNeg n.toNatClampNeg)))).heap = H.setIfInBounds (b0 + q) (vp_cell (dA 0) (n1, .inl (va_cpy f0 g sp.toNatClampNeg dp.toNatClampNeg n.toNatClampNeg))) := by rw [← hT]; rfl
  have oq : ∀ x : Nat, x ≠ b0 + q → (H.setIfInBounds (b0 + q) (vp_cell (dA 0) (n1, .inl (va_cpy f0 g sp.toNatClampNeg dp.toNatClampNeg n.toNatClampNeg))))[x]? = H[x]? := fun x hq => by simp [Array.getElem?_setIfInBounds, Ne.symm hq]
  obtain ⟨t, a1, b1⟩ := kk _ _ _ hf ⟨by
      rw [zw_set]
      exact hP.set (zw_D dA b0 h) ha1 (show (H.setIfInBounds (b0 + q) _)[b0 + q]? = some _ by simp [Array.getElem?_setIfInBounds, hl]) oq, by rw [Array.size_setIfInBounds, hz, List.length_set], by simp; exact hS.1, fun x g1 g2 => by
      rw [oq x (fun e => g2 (by rw [e]; exact Nat.le_add_right _ _))]
      exact hS.2.1 x g1 g2, fun x hq => by
      rcases List.mem_append.mp hq with h | h
      · exact hS.2.2 x h
      · obtain ⟨w, -, hw⟩ := List.mem_map.mp h
        rw [← hw]
        exact Nat.le_add_right _ _⟩ _ hheap X'
  exact ⟨t, step t a1, b1⟩
/-! returns -/
theorem zretI (X : zX p s m args c cc nL own Ts D dA) (hr : meth.sig.returnType = some .int) (hlk : meth.locks = false) (G : zG D dA b0 s.heap h H locs) {x : Int32} {z : Int32 × zH} (hf : some (x, h) = some z) (hdg : decode cc pc = .ok (.ireturn, 1)) : W p l e R s m args below meth c H locs cells slots (MQ below (zQ D dA b0 (some (.int z.1)) z.2) args s cells slots (zA b0)) (F0 m pc ls [.int x]) := by
  cases hf
  exact W.iret X.1.1 X.1.2.1 hr (fun t ht hW => ⟨rfl, by rw [ht]; exact G.1, by rw [ht]; exact G.2.1, G.2.2.F ht⟩) (fun q hq => G.2.2.2.2 q hq) hdg hlk
theorem zretIr (X : zX p s m args c cc nL own Ts D dA) (hr : meth.sig.returnType = some .int) (hlk : meth.locks = false) (G : zG D dA b0 s.heap h H locs) {x z : Int32} (hf : some x = some z) (hdg : decode cc pc = .ok (.ireturn, 1)) : W p l e R s m args below meth c H locs cells slots (MQ below (zQ D dA b0 (some (.int z)) h) args s cells slots (zA b0)) (F0 m pc ls [.int x]) := by
  cases hf
  exact W.iret X.1.1 X.1.2.1 hr (fun t ht hW => ⟨rfl, by rw [ht]; exact G.1, by rw [ht]; exact G.2.1, G.2.2.F ht⟩) (fun q hq => G.2.2.2.2 q hq) hdg hlk
theorem zB_nar {x y : Int32} (hv : zB x = some y) : x = y ∧ narrow .boolean (.int y) = .int y := by
  unfold zB at hv
  split at hv
  · rename_i h01
    cases hv
    rcases h01 with rfl | rfl <;> exact ⟨rfl, rfl⟩
  · cases hv
theorem zretZ (X : zX p s m args c cc nL own Ts D dA) (hr : meth.sig.returnType = some .boolean) (hlk : meth.locks = false) (G : zG D dA b0 s.heap h H locs) {x : Int32} {z : Int32 × zH} (hf : ((zB x).bind fun x => some (x, h)) = some z) (hdg : decode cc pc = .ok (.ireturn, 1)) : W p l e R s m args below meth c H locs cells slots (MQ below (zQ D dA b0 (some (.int z.1)) z.2) args s cells slots (zA b0)) (F0 m pc ls [.int x]) := by
  obtain ⟨y, hy, hf⟩ := Option.bind_eq_some_iff.mp hf
  obtain ⟨rfl, hn⟩ := zB_nar hy
  cases hf
  exact W.zret X.1.1 X.1.2.1 hr hn (fun t ht hW => ⟨rfl, by rw [ht]; exact G.1, by rw [ht]; exact G.2.1, G.2.2.F ht⟩) (fun q hq => G.2.2.2.2 q hq) hdg hlk
theorem zretZr (X : zX p s m args c cc nL own Ts D dA) (hr : meth.sig.returnType = some .boolean) (hlk : meth.locks = false) (G : zG D dA b0 s.heap h H locs) {x z : Int32} (hf : zB x = some z) (hdg : decode cc pc = .ok (.ireturn, 1)) : W p l e R s m args below meth c H locs cells slots (MQ below (zQ D dA b0 (some (.int z)) h) args s cells slots (zA b0)) (F0 m pc ls [.int x]) := by
  obtain ⟨rfl, hn⟩ := zB_nar hf
  exact W.zret X.1.1 X.1.2.1 hr hn (fun t ht hW => ⟨rfl, by rw [ht]; exact G.1, by rw [ht]; exact G.2.1, G.2.2.F ht⟩) (fun q hq => G.2.2.2.2 q hq) hdg hlk
theorem zretV (X : zX p s m args c cc nL own Ts D dA) (hr : meth.sig.returnType = none) (hlk : meth.locks = false) (G : zG D dA b0 s.heap h H locs) {z : zH} (hf : some h = some z) (hdg : decode cc pc = .ok (.return_, 1)) : W p l e R s m args below meth c H locs cells slots (MQ below (zQ D dA b0 none z) args s cells slots (zA b0)) (F0 m pc ls []) := by
  cases hf
  exact W.vret X.1.1 X.1.2.1 hr (fun t ht hW => ⟨rfl, by rw [ht]; exact G.1, by rw [ht]; exact G.2.1, G.2.2.F ht⟩) (fun q hq => G.2.2.2.2 q hq) hdg hlk
theorem zretA {rt : FieldType} (X : zX p s m args c cc nL own Ts D dA) (hr : meth.sig.returnType = some rt) (hrt : (∃ n, rt = .object n) ∨ ∃ t, rt = .array t) (hlk : meth.locks = false) (G : zG D dA b0 s.heap h H locs) {x : Nat} {z : Nat × zH} (hf : some (x, h) = some z) (hdg : decode cc pc = .ok (.areturn, 1)) : W p l e R s m args below meth c H locs cells slots (MQ below (zQ D dA b0 (some (.ref (b0 + z.1))) z.2) args s cells slots (zA b0)) (F0 m pc ls [.ref (b0 + x)]) := by
  cases hf
  exact W.aret X.1.1 X.1.2.1 hr hrt (Or.inr ⟨_, rfl⟩) (fun t ht hW => ⟨rfl, by rw [ht]; exact G.1, by rw [ht]; exact G.2.1, G.2.2.F ht⟩) (fun q hq => G.2.2.2.2 q hq) hdg hlk
end ZCALL
end
section
/-! ROWS: making -/
def zMk (h : zH) (e : zE) : Option (Nat × zH) := some (h.length, h ++ [e])
section ZMAKE
variable {p : Program} {l : Launch} {e : Env} {R : Room} {s : State} {m : MethodId} {args : Array Value} {below : List Frame} {meth : Method} {c : Code} {H : Heap} {locs : List Loc} {cells slots : Nat} {Q : State → Prop}
variable {cc : ByteArray} {nL : Nat} {own : String} {Ts : List Cond} {D : va_G} {dA : Nat → ClassId} {b0 : Nat} {h : zH} {pc : Nat} {ls : Array Slot} {rest : List Value} {H0 : Heap}
theorem zgrow {H1 : Heap} {x : zE} (hb : b0 ≤ H0.size) (G : zG D dA b0 H0 h H locs) (z1 : H1.size = b0 + h.length + 1) (o1 : ∀ q, q < b0 + h.length → H1[q]? = H[q]?) (hx : va_at D vwCl (b0 + h.length, ze dA b0 x) H1) : zG D dA b0 H0 (h ++ [x]) H1 locs := by
  obtain ⟨hP, hz, hS⟩ := G
  refine ⟨?_, by rw [z1, List.length_append]; rfl, ⟨by rw [z1, ← hz]; exact Nat.le_succ_of_le hS.1, fun q h1 h2 => (o1 q (by rw [← hz]; exact Nat.lt_of_lt_of_le h1 hS.1)).trans (hS.2.1 q h1 h2), hS.2.2⟩⟩
  rw [zw_app]
  refine (hP.kept (fun k y hk => o1 y.1 (by rw [← hz]; exact (hP k y hk).lt))).app (fun k y hk => ?_)
  have h0 : k < 1 := (List.getElem?_eq_some_iff.mp hk).1
  rw [show k = 0 by omega] at hk
  cases hk
  exact hx
theorem znew (X : zX p s m args c cc nL own Ts D dA) (hb0 : b0 ≤ H0.size) (G : zG D dA b0 H0 h H locs) {ci N index : Nat} {C : String} {T : u_T} (hc : vwCl[ci]? = some (C, T, N)) (hin : ∀ w ∈ u_ws C T N, w ∈ Ts) {ty : Nat → FieldType} (hty : ∀ k, k < N → parseFieldDescriptor (T k).2.2.1 = some (ty k)) (hcl : Cond.classLink own index C ∈ Ts) (hinst : Cond.instantiable C N ∈ Ts) (hini : Cond.initialized C ∈ Ts) {fs : List Value} (hfs : fs.map (zv b0) = fs) (hdf : ∀ j, j < N → defaultValue (ty j) = vp_V fs j) (hcells : cells + 1 ≤ R.cells) (hslots : slots + N ≤ R.slots) (hdg : decode cc pc = .ok (.new index, 3)) {α : Type} {z : α} {f : Nat × zH → Option α} (hf : (zMk h (.inr (ci, fs))).bind f = some z)
    (kk : ∀ q H, f q = some z → zG D dA b0 H0 q.2 H locs → W p l e R s m args below meth c H locs (cells + 1) (slots + N) Q (F0 m (pc + 3) ls (.ref (b0 + q.1) :: rest))) : W p l e R s m args below meth c H locs cells slots Q (F0 m pc ls rest) := by
  obtain ⟨⟨hx, hb, hml, hown, hts⟩, hK, hN⟩ := X
  have hKn := hK.1 ci _ hc
  refine W.newcK hx hb hown (hts _ hcl) (hts _ hinst) (hts _ hini) rfl hdg hcells hslots hKn.2.1 G.2.1 fun H1 kC hkC e1 z1 o1 => ?_
  refine kk (h.length, h ++ [(.inr (ci, fs) : zE)]) H1 hf (zgrow (x := .inr (ci, fs)) hb0 G z1 o1 ?_)
  refine ⟨_, hc, ?_⟩
  show t_OB (b0 + h.length) (D.1 ci) N (D.2 ci) H1 (vp_V (fs.map (zv b0)))
  rw [hfs]
  exact (u_born ty hts hin hKn hkC e1 hty).to hdf
theorem znewI (X : zX p s m args c cc nL own Ts D dA) (hb0 : b0 ≤ H0.size) (G : zG D dA b0 H0 h H locs) (harr : Cond.arrayClass .int ∈ Ts) {n : Int32} {N : Nat} (hn : ¬ n < 0) (hN : n.toNatClampNeg = N) (hbytes : N * 4 ≤ 536870912) (hcells : cells + 1 ≤ R.cells) (hslots : slots + N ≤ R.slots) (hdg : decode cc pc = .ok (.newarray .int, 2)) {α : Type} {z : α} {f : Nat × zH → Option α} (hf : (zMk h (.inl (0, N, .inl (fun _ => 0)))).bind f = some z)
    (kk : ∀ q H, f q = some z → zG D dA b0 H0 q.2 H locs → W p l e R s m args below meth c H locs (cells + 1) (slots + N) Q (F0 m (pc + 2) ls (.ref (b0 + q.1) :: rest))) : W p l e R s m args below meth c H locs cells slots Q (F0 m pc ls (.int n :: rest)) := by
  obtain ⟨⟨hx, hb, hml, hown, hts⟩, hK, hN2⟩ := X
  refine va_newaK (atype := .int) hx hb (hts _ harr) rfl hdg rfl hn hN hbytes hcells hslots G.2.1 fun H1 cA e1 z1 o1 hAr hNm => ?_
  have hRA : s.vm.findClass ("[" ++ (FieldType.int).toString) = some (dA 0) := (hK.2 0 _ rfl).2
  have hcA : cA = dA 0 := Option.some.inj (hNm.symm.trans hRA)
  subst hcA
  exact kk (h.length, h ++ [(.inl (0, N, .inl (fun _ => 0)) : zE)]) H1 hf (zgrow (x := .inl (0, N, .inl (fun _ => 0))) hb0 G z1 o1 e1)
theorem znewZ (X : zX p s m args c cc nL own Ts D dA) (hb0 : b0 ≤ H0.size) (G : zG D dA b0 H0 h H locs) (harr : Cond.arrayClass .boolean ∈ Ts) {n : Int32} {N : Nat} (hn : ¬ n < 0) (hN : n.toNatClampNeg = N) (hbytes : N * 1 ≤ 536870912) (hcells : cells + 1 ≤ R.cells) (hslots : slots + N ≤ R.slots) (hdg : decode cc pc = .ok (.newarray .boolean, 2)) {α : Type} {z : α} {f : Nat × zH → Option α} (hf : (zMk h (.inl (1, N, .inl (fun _ => 0)))).bind f = some z)
    (kk : ∀ q H, f q = some z → zG D dA b0 H0 q.2 H locs → W p l e R s m args below meth c H locs (cells + 1) (slots + N) Q (F0 m (pc + 2) ls (.ref (b0 + q.1) :: rest))) : W p l e R s m args below meth c H locs cells slots Q (F0 m pc ls (.int n :: rest)) := by
  obtain ⟨⟨hx, hb, hml, hown, hts⟩, hK, hN2⟩ := X
  refine va_newaK (atype := .boolean) hx hb (hts _ harr) rfl hdg rfl hn hN hbytes hcells hslots G.2.1 fun H1 cA e1 z1 o1 hAr hNm => ?_
  have hRA : s.vm.findClass ("[" ++ (FieldType.boolean).toString) = some (dA 1) := (hK.2 1 _ rfl).2
  have hcA : cA = dA 1 := Option.some.inj (hNm.symm.trans hRA)
  subst hcA
  exact kk (h.length, h ++ [(.inl (1, N, .inl (fun _ => 0)) : zE)]) H1 hf (zgrow (x := .inl (1, N, .inl (fun _ => 0))) hb0 G z1 o1 e1)
theorem znewM (X : zX p s m args c cc nL own Ts D dA) (hb0 : b0 ≤ H0.size) (G : zG D dA b0 H0 h H locs) {index : Nat} (hcl : Cond.classLink own index "BuriedHalves$Mine" ∈ Ts) {n : Int32} {N : Nat} (hn : ¬ n < 0) (hN : n.toNatClampNeg = N) (hbytes : N * 4 ≤ 536870912) (hcells : cells + 1 ≤ R.cells) (hslots : slots + N ≤ R.slots) (hdg : decode cc pc = .ok (.anewarray index, 3)) {α : Type} {z : α} {f : Nat × zH → Option α} (hf : (zMk h (.inl (2, N, .inr (fun _ => none)))).bind f = some z)
    (kk : ∀ q H, f q = some z → zG D dA b0 H0 q.2 H locs → W p l e R s m args below meth c H locs (cells + 1) (slots + N) Q (F0 m (pc + 3) ls (.ref (b0 + q.1) :: rest))) : W p l e R s m args below meth c H locs cells slots Q (F0 m pc ls (.int n :: rest)) := by
  subst hN
  obtain ⟨⟨hx, hb, hml, hown, hts⟩, hK, hN2⟩ := X
  obtain ⟨hP, hz, hS⟩ := G
  refine W.anew hx hb hown (hts _ hcl) (va_AO.use hN2.2) rfl hdg rfl hn hbytes hcells hslots fun cA kA comp f1 f2 f3 f4 => ?_
  obtain ⟨kA0, comp0, g1, g2, g3, g4⟩ := (hK.2 2 _ (rfl : (zTys dA)[2]? = some (dA 2, .object "BuriedHalves$Mine"))).2
  have hcA : cA = dA 2 := Option.some.inj (f1.symm.trans g4)
  subst hcA
  generalize hH1 : H.push ({ cls := dA 2, slots := Array.replicate n.toNatClampNeg .null, vm := .none } : Cell) = H1
  have z1 : H1.size = b0 + h.length + 1 := by rw [← hH1, Array.size_push, hz]
  have e1 : H1[b0 + h.length]? = some (arrV (dA 2) n.toNatClampNeg (fun _ => .null)) := by rw [← hH1, ← hz, Array.getElem?_push_size, ← arrV_new]
  have o1 : ∀ q : Nat, q < b0 + h.length → H1[q]? = H[q]? := fun q hq => by rw [← hH1, Array.getElem?_push, if_neg (by omega)]
  rw [hz]
  refine kk (h.length, h ++ [(.inl (2, n.toNatClampNeg, .inr (fun _ => none)) : zE)]) H1 hf (zgrow (x := .inl (2, n.toNatClampNeg, .inr (fun _ => none))) hb0 ⟨hP, hz, hS⟩ z1 o1 ?_)
  show H1[b0 + h.length]? = some (vp_cell (dA 2) (n.toNatClampNeg, .inr (.inr (.inr (.inr (fun _ => none))))))
  rw [vp_cell_q]
  exact e1
end ZMAKE
end

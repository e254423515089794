section
-- ===== PART A: goes FIRST, ahead of the names: the tables' words, and 'selects' of the private methods out of them =====
/-- a private method of a class that the tables say can be made, by its rows of tables_1 -/
def lw_okq (q : MethodName × Nat) : Prop := (q.1.cls ≠ "java/lang/invoke/MethodHandle" ∧ q.1.cls ≠ "java/lang/invoke/VarHandle") ∧ Cond.instantiable q.1.cls q.2 ∈ tables_1 ∧ Cond.privateMethod q.1 ∈ tables_1 ∧ Cond.instanceMethod q.1 ∈ tables_1
theorem lw_p0 : lw_okq (⟨"PaperBoxes", "putSolid", "(LPaperBoxes$Shelf;IIII)I"⟩, 10) := ⟨⟨by decide +kernel, by decide +kernel⟩, List.mem_of_getElem? (i := 15) (by decide +kernel), List.mem_of_getElem? (i := 265) (by decide +kernel), List.mem_of_getElem? (i := 266) (by decide +kernel)⟩
theorem lw_p1 : lw_okq (⟨"PaperBoxes$Pad", "startList", "()V"⟩, 9) := ⟨⟨by decide +kernel, by decide +kernel⟩, List.mem_of_getElem? (i := 95) (by decide +kernel), List.mem_of_getElem? (i := 364) (by decide +kernel), List.mem_of_getElem? (i := 365) (by decide +kernel)⟩
theorem lw_p2 : lw_okq (⟨"PaperBoxes$Pad", "accepts", "(I)Z"⟩, 9) := ⟨⟨by decide +kernel, by decide +kernel⟩, List.mem_of_getElem? (i := 95) (by decide +kernel), List.mem_of_getElem? (i := 368) (by decide +kernel), List.mem_of_getElem? (i := 369) (by decide +kernel)⟩
theorem lw_p3 : lw_okq (⟨"PaperBoxes$Pad", "acceptsLetter", "(I)Z"⟩, 9) := ⟨⟨by decide +kernel, by decide +kernel⟩, List.mem_of_getElem? (i := 95) (by decide +kernel), List.mem_of_getElem? (i := 372) (by decide +kernel), List.mem_of_getElem? (i := 373) (by decide +kernel)⟩
theorem lw_p4 : lw_okq (⟨"PaperBoxes$Pad", "startPart", "(III)V"⟩, 9) := ⟨⟨by decide +kernel, by decide +kernel⟩, List.mem_of_getElem? (i := 95) (by decide +kernel), List.mem_of_getElem? (i := 376) (by decide +kernel), List.mem_of_getElem? (i := 377) (by decide +kernel)⟩
theorem lw_p5 : lw_okq (⟨"PaperBoxes$Pad", "acceptsDigit", "(I)Z"⟩, 9) := ⟨⟨by decide +kernel, by decide +kernel⟩, List.mem_of_getElem? (i := 95) (by decide +kernel), List.mem_of_getElem? (i := 381) (by decide +kernel), List.mem_of_getElem? (i := 382) (by decide +kernel)⟩
theorem lw_p6 : lw_okq (⟨"PaperBoxes$Pad", "keepNumber", "()V"⟩, 9) := ⟨⟨by decide +kernel, by decide +kernel⟩, List.mem_of_getElem? (i := 95) (by decide +kernel), List.mem_of_getElem? (i := 385) (by decide +kernel), List.mem_of_getElem? (i := 386) (by decide +kernel)⟩
theorem lw_p7 : lw_okq (⟨"PaperBoxes$Pad", "endPart", "(LPaperBoxes$Goods;)V"⟩, 9) := ⟨⟨by decide +kernel, by decide +kernel⟩, List.mem_of_getElem? (i := 95) (by decide +kernel), List.mem_of_getElem? (i := 389) (by decide +kernel), List.mem_of_getElem? (i := 390) (by decide +kernel)⟩
theorem lw_p8 : lw_okq (⟨"PaperBoxes", "isBoxByAxis", "(II)Z"⟩, 10) := ⟨⟨by decide +kernel, by decide +kernel⟩, List.mem_of_getElem? (i := 15) (by decide +kernel), List.mem_of_getElem? (i := 417) (by decide +kernel), List.mem_of_getElem? (i := 418) (by decide +kernel)⟩
theorem lw_p9 : lw_okq (⟨"PaperBoxes", "wrapOf", "(I)LPaperBoxes$Wrap;"⟩, 10) := ⟨⟨by decide +kernel, by decide +kernel⟩, List.mem_of_getElem? (i := 15) (by decide +kernel), List.mem_of_getElem? (i := 421) (by decide +kernel), List.mem_of_getElem? (i := 422) (by decide +kernel)⟩
theorem lw_p10 : lw_okq (⟨"PaperBoxes", "measure", "(III)V"⟩, 10) := ⟨⟨by decide +kernel, by decide +kernel⟩, List.mem_of_getElem? (i := 15) (by decide +kernel), List.mem_of_getElem? (i := 429) (by decide +kernel), List.mem_of_getElem? (i := 430) (by decide +kernel)⟩
theorem lw_p11 : lw_okq (⟨"PaperBoxes", "sheetsDoingFor", "(I)I"⟩, 10) := ⟨⟨by decide +kernel, by decide +kernel⟩, List.mem_of_getElem? (i := 15) (by decide +kernel), List.mem_of_getElem? (i := 512) (by decide +kernel), List.mem_of_getElem? (i := 513) (by decide +kernel)⟩
theorem lw_p12 : lw_okq (⟨"PaperBoxes", "priceOff", "(III)I"⟩, 10) := ⟨⟨by decide +kernel, by decide +kernel⟩, List.mem_of_getElem? (i := 15) (by decide +kernel), List.mem_of_getElem? (i := 579) (by decide +kernel), List.mem_of_getElem? (i := 580) (by decide +kernel)⟩
theorem lw_p13 : lw_okq (⟨"PaperBoxes$Pieces", "sumOf", "(I)I"⟩, 1) := ⟨⟨by decide +kernel, by decide +kernel⟩, List.mem_of_getElem? (i := 151) (by decide +kernel), List.mem_of_getElem? (i := 611) (by decide +kernel), List.mem_of_getElem? (i := 612) (by decide +kernel)⟩
theorem lw_p14 : lw_okq (⟨"PaperBoxes", "startCuts", "(II)V"⟩, 10) := ⟨⟨by decide +kernel, by decide +kernel⟩, List.mem_of_getElem? (i := 15) (by decide +kernel), List.mem_of_getElem? (i := 625) (by decide +kernel), List.mem_of_getElem? (i := 626) (by decide +kernel)⟩
theorem lw_p15 : lw_okq (⟨"PaperBoxes$Cutter", "stripByHeight", "(I)I"⟩, 6) := ⟨⟨by decide +kernel, by decide +kernel⟩, List.mem_of_getElem? (i := 161) (by decide +kernel), List.mem_of_getElem? (i := 649) (by decide +kernel), List.mem_of_getElem? (i := 650) (by decide +kernel)⟩
def lw_privs_1 : List (MethodName × Nat) := [(⟨"PaperBoxes", "putSolid", "(LPaperBoxes$Shelf;IIII)I"⟩, 10), (⟨"PaperBoxes$Pad", "startList", "()V"⟩, 9), (⟨"PaperBoxes$Pad", "accepts", "(I)Z"⟩, 9), (⟨"PaperBoxes$Pad", "acceptsLetter", "(I)Z"⟩, 9), (⟨"PaperBoxes$Pad", "startPart", "(III)V"⟩, 9), (⟨"PaperBoxes$Pad", "acceptsDigit", "(I)Z"⟩, 9), (⟨"PaperBoxes$Pad", "keepNumber", "()V"⟩, 9), (⟨"PaperBoxes$Pad", "endPart", "(LPaperBoxes$Goods;)V"⟩, 9), (⟨"PaperBoxes", "isBoxByAxis", "(II)Z"⟩, 10), (⟨"PaperBoxes", "wrapOf", "(I)LPaperBoxes$Wrap;"⟩, 10), (⟨"PaperBoxes", "measure", "(III)V"⟩, 10), (⟨"PaperBoxes", "sheetsDoingFor", "(I)I"⟩, 10), (⟨"PaperBoxes", "priceOff", "(III)I"⟩, 10), (⟨"PaperBoxes$Pieces", "sumOf", "(I)I"⟩, 1), (⟨"PaperBoxes", "startCuts", "(II)V"⟩, 10), (⟨"PaperBoxes$Cutter", "stripByHeight", "(I)I"⟩, 6)]
theorem lw_r1 : ∀ q ∈ lw_privs_1, lw_okq q := List.forall_mem_cons.mpr ⟨lw_p0, List.forall_mem_cons.mpr ⟨lw_p1, List.forall_mem_cons.mpr ⟨lw_p2, List.forall_mem_cons.mpr ⟨lw_p3, List.forall_mem_cons.mpr ⟨lw_p4, List.forall_mem_cons.mpr ⟨lw_p5, List.forall_mem_cons.mpr ⟨lw_p6, List.forall_mem_cons.mpr ⟨lw_p7, List.forall_mem_cons.mpr ⟨lw_p8, List.forall_mem_cons.mpr ⟨lw_p9, List.forall_mem_cons.mpr ⟨lw_p10, List.forall_mem_cons.mpr ⟨lw_p11, List.forall_mem_cons.mpr ⟨lw_p12, List.forall_mem_cons.mpr ⟨lw_p13, List.forall_mem_cons.mpr ⟨lw_p14, List.forall_mem_cons.mpr ⟨lw_p15, fun _ h => absurd h List.not_mem_nil⟩⟩⟩⟩⟩⟩⟩⟩⟩⟩⟩⟩⟩⟩⟩⟩
theorem lw_p16 : lw_okq (⟨"PaperBoxes$Cutter", "strip", "(II)I"⟩, 6) := ⟨⟨by decide +kernel, by decide +kernel⟩, List.mem_of_getElem? (i := 161) (by decide +kernel), List.mem_of_getElem? (i := 654) (by decide +kernel), List.mem_of_getElem? (i := 655) (by decide +kernel)⟩
theorem lw_p17 : lw_okq (⟨"PaperBoxes$Cutter", "stripParted", "(III)I"⟩, 6) := ⟨⟨by decide +kernel, by decide +kernel⟩, List.mem_of_getElem? (i := 161) (by decide +kernel), List.mem_of_getElem? (i := 658) (by decide +kernel), List.mem_of_getElem? (i := 659) (by decide +kernel)⟩
theorem lw_p18 : lw_okq (⟨"PaperBoxes$Cutter", "givesBoth", "(II)Z"⟩, 6) := ⟨⟨by decide +kernel, by decide +kernel⟩, List.mem_of_getElem? (i := 161) (by decide +kernel), List.mem_of_getElem? (i := 664) (by decide +kernel), List.mem_of_getElem? (i := 665) (by decide +kernel)⟩
theorem lw_p19 : lw_okq (⟨"PaperBoxes$Cutter", "stripByWidth", "(I)I"⟩, 6) := ⟨⟨by decide +kernel, by decide +kernel⟩, List.mem_of_getElem? (i := 161) (by decide +kernel), List.mem_of_getElem? (i := 668) (by decide +kernel), List.mem_of_getElem? (i := 669) (by decide +kernel)⟩
theorem lw_p20 : lw_okq (⟨"PaperBoxes$Order", "extend", "(LPaperBoxes$Shelf;IIII)V"⟩, 5) := ⟨⟨by decide +kernel, by decide +kernel⟩, List.mem_of_getElem? (i := 186) (by decide +kernel), List.mem_of_getElem? (i := 701) (by decide +kernel), List.mem_of_getElem? (i := 702) (by decide +kernel)⟩
theorem lw_p21 : lw_okq (⟨"PaperBoxes$Order", "keep", "(I)V"⟩, 5) := ⟨⟨by decide +kernel, by decide +kernel⟩, List.mem_of_getElem? (i := 186) (by decide +kernel), List.mem_of_getElem? (i := 706) (by decide +kernel), List.mem_of_getElem? (i := 707) (by decide +kernel)⟩
theorem lw_p22 : lw_okq (⟨"PaperBoxes", "pleatOf", "(I)I"⟩, 10) := ⟨⟨by decide +kernel, by decide +kernel⟩, List.mem_of_getElem? (i := 15) (by decide +kernel), List.mem_of_getElem? (i := 724) (by decide +kernel), List.mem_of_getElem? (i := 725) (by decide +kernel)⟩
theorem lw_p23 : lw_okq (⟨"PaperBoxes", "isRoomFor", "(II)Z"⟩, 10) := ⟨⟨by decide +kernel, by decide +kernel⟩, List.mem_of_getElem? (i := 15) (by decide +kernel), List.mem_of_getElem? (i := 750) (by decide +kernel), List.mem_of_getElem? (i := 751) (by decide +kernel)⟩
theorem lw_p24 : lw_okq (⟨"PaperBoxes", "boxesWithRoomFor", "(I)I"⟩, 10) := ⟨⟨by decide +kernel, by decide +kernel⟩, List.mem_of_getElem? (i := 15) (by decide +kernel), List.mem_of_getElem? (i := 774) (by decide +kernel), List.mem_of_getElem? (i := 775) (by decide +kernel)⟩
theorem lw_p25 : lw_okq (⟨"PaperBoxes", "startPairs", "(I)V"⟩, 10) := ⟨⟨by decide +kernel, by decide +kernel⟩, List.mem_of_getElem? (i := 15) (by decide +kernel), List.mem_of_getElem? (i := 782) (by decide +kernel), List.mem_of_getElem? (i := 783) (by decide +kernel)⟩
theorem lw_p26 : lw_okq (⟨"PaperBoxes$Pairing", "extend", "(IIII)V"⟩, 5) := ⟨⟨by decide +kernel, by decide +kernel⟩, List.mem_of_getElem? (i := 208) (by decide +kernel), List.mem_of_getElem? (i := 799) (by decide +kernel), List.mem_of_getElem? (i := 800) (by decide +kernel)⟩
theorem lw_p27 : lw_okq (⟨"PaperBoxes$Pairing", "keep", "(I)V"⟩, 5) := ⟨⟨by decide +kernel, by decide +kernel⟩, List.mem_of_getElem? (i := 208) (by decide +kernel), List.mem_of_getElem? (i := 803) (by decide +kernel), List.mem_of_getElem? (i := 804) (by decide +kernel)⟩
theorem lw_p28 : lw_okq (⟨"PaperBoxes", "imageOf", "(I)LPaperBoxes$Goods;"⟩, 10) := ⟨⟨by decide +kernel, by decide +kernel⟩, List.mem_of_getElem? (i := 15) (by decide +kernel), List.mem_of_getElem? (i := 871) (by decide +kernel), List.mem_of_getElem? (i := 872) (by decide +kernel)⟩
theorem lw_p29 : lw_okq (⟨"PaperBoxes", "toldSide", "(II)I"⟩, 10) := ⟨⟨by decide +kernel, by decide +kernel⟩, List.mem_of_getElem? (i := 15) (by decide +kernel), List.mem_of_getElem? (i := 895) (by decide +kernel), List.mem_of_getElem? (i := 896) (by decide +kernel)⟩
theorem lw_p30 : lw_okq (⟨"PaperBoxesModel", "putBox", "(IIII)V"⟩, 46) := ⟨⟨by decide +kernel, by decide +kernel⟩, List.mem_of_getElem? (i := 903) (by decide +kernel), List.mem_of_getElem? (i := 1064) (by decide +kernel), List.mem_of_getElem? (i := 1065) (by decide +kernel)⟩
theorem lw_p31 : lw_okq (⟨"PaperBoxesModel", "putThing", "(IIII)V"⟩, 46) := ⟨⟨by decide +kernel, by decide +kernel⟩, List.mem_of_getElem? (i := 903) (by decide +kernel), List.mem_of_getElem? (i := 1075) (by decide +kernel), List.mem_of_getElem? (i := 1076) (by decide +kernel)⟩
def lw_privs_2 : List (MethodName × Nat) := [(⟨"PaperBoxes$Cutter", "strip", "(II)I"⟩, 6), (⟨"PaperBoxes$Cutter", "stripParted", "(III)I"⟩, 6), (⟨"PaperBoxes$Cutter", "givesBoth", "(II)Z"⟩, 6), (⟨"PaperBoxes$Cutter", "stripByWidth", "(I)I"⟩, 6), (⟨"PaperBoxes$Order", "extend", "(LPaperBoxes$Shelf;IIII)V"⟩, 5), (⟨"PaperBoxes$Order", "keep", "(I)V"⟩, 5), (⟨"PaperBoxes", "pleatOf", "(I)I"⟩, 10), (⟨"PaperBoxes", "isRoomFor", "(II)Z"⟩, 10), (⟨"PaperBoxes", "boxesWithRoomFor", "(I)I"⟩, 10), (⟨"PaperBoxes", "startPairs", "(I)V"⟩, 10), (⟨"PaperBoxes$Pairing", "extend", "(IIII)V"⟩, 5), (⟨"PaperBoxes$Pairing", "keep", "(I)V"⟩, 5), (⟨"PaperBoxes", "imageOf", "(I)LPaperBoxes$Goods;"⟩, 10), (⟨"PaperBoxes", "toldSide", "(II)I"⟩, 10), (⟨"PaperBoxesModel", "putBox", "(IIII)V"⟩, 46), (⟨"PaperBoxesModel", "putThing", "(IIII)V"⟩, 46)]
theorem lw_r2 : ∀ q ∈ lw_privs_2, lw_okq q := List.forall_mem_cons.mpr ⟨lw_p16, List.forall_mem_cons.mpr ⟨lw_p17, List.forall_mem_cons.mpr ⟨lw_p18, List.forall_mem_cons.mpr ⟨lw_p19, List.forall_mem_cons.mpr ⟨lw_p20, List.forall_mem_cons.mpr ⟨lw_p21, List.forall_mem_cons.mpr ⟨lw_p22, List.forall_mem_cons.mpr ⟨lw_p23, List.forall_mem_cons.mpr ⟨lw_p24, List.forall_mem_cons.mpr ⟨lw_p25, List.forall_mem_cons.mpr ⟨lw_p26, List.forall_mem_cons.mpr ⟨lw_p27, List.forall_mem_cons.mpr ⟨lw_p28, List.forall_mem_cons.mpr ⟨lw_p29, List.forall_mem_cons.mpr ⟨lw_p30, List.forall_mem_cons.mpr ⟨lw_p31, fun _ h => absurd h List.not_mem_nil⟩⟩⟩⟩⟩⟩⟩⟩⟩⟩⟩⟩⟩⟩⟩⟩
theorem lw_p32 : lw_okq (⟨"PaperBoxesModel", "putSheet", "(III)V"⟩, 46) := ⟨⟨by decide +kernel, by decide +kernel⟩, List.mem_of_getElem? (i := 903) (by decide +kernel), List.mem_of_getElem? (i := 1084) (by decide +kernel), List.mem_of_getElem? (i := 1085) (by decide +kernel)⟩
theorem lw_p33 : lw_okq (⟨"PaperBoxesModel", "isBox", "(I)Z"⟩, 46) := ⟨⟨by decide +kernel, by decide +kernel⟩, List.mem_of_getElem? (i := 903) (by decide +kernel), List.mem_of_getElem? (i := 1093) (by decide +kernel), List.mem_of_getElem? (i := 1094) (by decide +kernel)⟩
theorem lw_p34 : lw_okq (⟨"PaperBoxesModel", "isThing", "(I)Z"⟩, 46) := ⟨⟨by decide +kernel, by decide +kernel⟩, List.mem_of_getElem? (i := 903) (by decide +kernel), List.mem_of_getElem? (i := 1097) (by decide +kernel), List.mem_of_getElem? (i := 1098) (by decide +kernel)⟩
theorem lw_p35 : lw_okq (⟨"PaperBoxesModel", "isSheet", "(I)Z"⟩, 46) := ⟨⟨by decide +kernel, by decide +kernel⟩, List.mem_of_getElem? (i := 903) (by decide +kernel), List.mem_of_getElem? (i := 1101) (by decide +kernel), List.mem_of_getElem? (i := 1102) (by decide +kernel)⟩
theorem lw_p36 : lw_okq (⟨"PaperBoxesModel", "readMore", "(I)Z"⟩, 46) := ⟨⟨by decide +kernel, by decide +kernel⟩, List.mem_of_getElem? (i := 903) (by decide +kernel), List.mem_of_getElem? (i := 1124) (by decide +kernel), List.mem_of_getElem? (i := 1125) (by decide +kernel)⟩
theorem lw_p37 : lw_okq (⟨"PaperBoxesModel", "readSort", "(I)Z"⟩, 46) := ⟨⟨by decide +kernel, by decide +kernel⟩, List.mem_of_getElem? (i := 903) (by decide +kernel), List.mem_of_getElem? (i := 1130) (by decide +kernel), List.mem_of_getElem? (i := 1131) (by decide +kernel)⟩
theorem lw_p38 : lw_okq (⟨"PaperBoxesModel", "countOf", "(I)I"⟩, 46) := ⟨⟨by decide +kernel, by decide +kernel⟩, List.mem_of_getElem? (i := 903) (by decide +kernel), List.mem_of_getElem? (i := 1139) (by decide +kernel), List.mem_of_getElem? (i := 1140) (by decide +kernel)⟩
theorem lw_p39 : lw_okq (⟨"PaperBoxesModel", "look", "(I)V"⟩, 46) := ⟨⟨by decide +kernel, by decide +kernel⟩, List.mem_of_getElem? (i := 903) (by decide +kernel), List.mem_of_getElem? (i := 1153) (by decide +kernel), List.mem_of_getElem? (i := 1154) (by decide +kernel)⟩
theorem lw_p40 : lw_okq (⟨"PaperBoxesModel", "layBox", "(III)V"⟩, 46) := ⟨⟨by decide +kernel, by decide +kernel⟩, List.mem_of_getElem? (i := 903) (by decide +kernel), List.mem_of_getElem? (i := 1157) (by decide +kernel), List.mem_of_getElem? (i := 1158) (by decide +kernel)⟩
theorem lw_p41 : lw_okq (⟨"PaperBoxesModel", "paper", "(I)I"⟩, 46) := ⟨⟨by decide +kernel, by decide +kernel⟩, List.mem_of_getElem? (i := 903) (by decide +kernel), List.mem_of_getElem? (i := 1161) (by decide +kernel), List.mem_of_getElem? (i := 1162) (by decide +kernel)⟩
theorem lw_p42 : lw_okq (⟨"PaperBoxesModel", "leastAxis", "()I"⟩, 46) := ⟨⟨by decide +kernel, by decide +kernel⟩, List.mem_of_getElem? (i := 903) (by decide +kernel), List.mem_of_getElem? (i := 1169) (by decide +kernel), List.mem_of_getElem? (i := 1170) (by decide +kernel)⟩
theorem lw_p43 : lw_okq (⟨"PaperBoxesModel", "doesBy", "(I)I"⟩, 46) := ⟨⟨by decide +kernel, by decide +kernel⟩, List.mem_of_getElem? (i := 903) (by decide +kernel), List.mem_of_getElem? (i := 1177) (by decide +kernel), List.mem_of_getElem? (i := 1178) (by decide +kernel)⟩
theorem lw_p44 : lw_okq (⟨"PaperBoxesModel", "areaOf", "(I)I"⟩, 46) := ⟨⟨by decide +kernel, by decide +kernel⟩, List.mem_of_getElem? (i := 903) (by decide +kernel), List.mem_of_getElem? (i := 1181) (by decide +kernel), List.mem_of_getElem? (i := 1182) (by decide +kernel)⟩
theorem lw_p45 : lw_okq (⟨"PaperBoxesModel", "takenOf", "(I)I"⟩, 46) := ⟨⟨by decide +kernel, by decide +kernel⟩, List.mem_of_getElem? (i := 903) (by decide +kernel), List.mem_of_getElem? (i := 1189) (by decide +kernel), List.mem_of_getElem? (i := 1190) (by decide +kernel)⟩
theorem lw_p46 : lw_okq (⟨"PaperBoxesModel", "slantBy", "(I)I"⟩, 46) := ⟨⟨by decide +kernel, by decide +kernel⟩, List.mem_of_getElem? (i := 903) (by decide +kernel), List.mem_of_getElem? (i := 1204) (by decide +kernel), List.mem_of_getElem? (i := 1205) (by decide +kernel)⟩
theorem lw_p47 : lw_okq (⟨"PaperBoxesModel", "leastSlant", "()I"⟩, 46) := ⟨⟨by decide +kernel, by decide +kernel⟩, List.mem_of_getElem? (i := 903) (by decide +kernel), List.mem_of_getElem? (i := 1215) (by decide +kernel), List.mem_of_getElem? (i := 1216) (by decide +kernel)⟩
def lw_privs_3 : List (MethodName × Nat) := [(⟨"PaperBoxesModel", "putSheet", "(III)V"⟩, 46), (⟨"PaperBoxesModel", "isBox", "(I)Z"⟩, 46), (⟨"PaperBoxesModel", "isThing", "(I)Z"⟩, 46), (⟨"PaperBoxesModel", "isSheet", "(I)Z"⟩, 46), (⟨"PaperBoxesModel", "readMore", "(I)Z"⟩, 46), (⟨"PaperBoxesModel", "readSort", "(I)Z"⟩, 46), (⟨"PaperBoxesModel", "countOf", "(I)I"⟩, 46), (⟨"PaperBoxesModel", "look", "(I)V"⟩, 46), (⟨"PaperBoxesModel", "layBox", "(III)V"⟩, 46), (⟨"PaperBoxesModel", "paper", "(I)I"⟩, 46), (⟨"PaperBoxesModel", "leastAxis", "()I"⟩, 46), (⟨"PaperBoxesModel", "doesBy", "(I)I"⟩, 46), (⟨"PaperBoxesModel", "areaOf", "(I)I"⟩, 46), (⟨"PaperBoxesModel", "takenOf", "(I)I"⟩, 46), (⟨"PaperBoxesModel", "slantBy", "(I)I"⟩, 46), (⟨"PaperBoxesModel", "leastSlant", "()I"⟩, 46)]
theorem lw_r3 : ∀ q ∈ lw_privs_3, lw_okq q := List.forall_mem_cons.mpr ⟨lw_p32, List.forall_mem_cons.mpr ⟨lw_p33, List.forall_mem_cons.mpr ⟨lw_p34, List.forall_mem_cons.mpr ⟨lw_p35, List.forall_mem_cons.mpr ⟨lw_p36, List.forall_mem_cons.mpr ⟨lw_p37, List.forall_mem_cons.mpr ⟨lw_p38, List.forall_mem_cons.mpr ⟨lw_p39, List.forall_mem_cons.mpr ⟨lw_p40, List.forall_mem_cons.mpr ⟨lw_p41, List.forall_mem_cons.mpr ⟨lw_p42, List.forall_mem_cons.mpr ⟨lw_p43, List.forall_mem_cons.mpr ⟨lw_p44, List.forall_mem_cons.mpr ⟨lw_p45, List.forall_mem_cons.mpr ⟨lw_p46, List.forall_mem_cons.mpr ⟨lw_p47, fun _ h => absurd h List.not_mem_nil⟩⟩⟩⟩⟩⟩⟩⟩⟩⟩⟩⟩⟩⟩⟩⟩
theorem lw_p48 : lw_okq (⟨"PaperBoxesModel", "rollBy", "(I)I"⟩, 46) := ⟨⟨by decide +kernel, by decide +kernel⟩, List.mem_of_getElem? (i := 903) (by decide +kernel), List.mem_of_getElem? (i := 1231) (by decide +kernel), List.mem_of_getElem? (i := 1232) (by decide +kernel)⟩
theorem lw_p49 : lw_okq (⟨"PaperBoxesModel", "acrossBy", "(I)I"⟩, 46) := ⟨⟨by decide +kernel, by decide +kernel⟩, List.mem_of_getElem? (i := 903) (by decide +kernel), List.mem_of_getElem? (i := 1235) (by decide +kernel), List.mem_of_getElem? (i := 1236) (by decide +kernel)⟩
theorem lw_p50 : lw_okq (⟨"PaperBoxesModel", "lengthBy", "(I)I"⟩, 46) := ⟨⟨by decide +kernel, by decide +kernel⟩, List.mem_of_getElem? (i := 903) (by decide +kernel), List.mem_of_getElem? (i := 1239) (by decide +kernel), List.mem_of_getElem? (i := 1240) (by decide +kernel)⟩
theorem lw_p51 : lw_okq (⟨"PaperBoxesModel", "goRound", "(II)Z"⟩, 46) := ⟨⟨by decide +kernel, by decide +kernel⟩, List.mem_of_getElem? (i := 903) (by decide +kernel), List.mem_of_getElem? (i := 1258) (by decide +kernel), List.mem_of_getElem? (i := 1259) (by decide +kernel)⟩
theorem lw_p52 : lw_okq (⟨"PaperBoxesModel", "givenBy", "(II)I"⟩, 46) := ⟨⟨by decide +kernel, by decide +kernel⟩, List.mem_of_getElem? (i := 903) (by decide +kernel), List.mem_of_getElem? (i := 1262) (by decide +kernel), List.mem_of_getElem? (i := 1263) (by decide +kernel)⟩
theorem lw_p53 : lw_okq (⟨"PaperBoxesModel", "areBoxes", "(I)Z"⟩, 46) := ⟨⟨by decide +kernel, by decide +kernel⟩, List.mem_of_getElem? (i := 903) (by decide +kernel), List.mem_of_getElem? (i := 1270) (by decide +kernel), List.mem_of_getElem? (i := 1271) (by decide +kernel)⟩
theorem lw_p54 : lw_okq (⟨"PaperBoxesModel", "canCut", "(II)Z"⟩, 46) := ⟨⟨by decide +kernel, by decide +kernel⟩, List.mem_of_getElem? (i := 903) (by decide +kernel), List.mem_of_getElem? (i := 1275) (by decide +kernel), List.mem_of_getElem? (i := 1276) (by decide +kernel)⟩
theorem lw_p55 : lw_okq (⟨"PaperBoxesModel", "layPieces", "(I)V"⟩, 46) := ⟨⟨by decide +kernel, by decide +kernel⟩, List.mem_of_getElem? (i := 903) (by decide +kernel), List.mem_of_getElem? (i := 1279) (by decide +kernel), List.mem_of_getElem? (i := 1280) (by decide +kernel)⟩
theorem lw_p56 : lw_okq (⟨"PaperBoxesModel", "findShapes", "()V"⟩, 46) := ⟨⟨by decide +kernel, by decide +kernel⟩, List.mem_of_getElem? (i := 903) (by decide +kernel), List.mem_of_getElem? (i := 1283) (by decide +kernel), List.mem_of_getElem? (i := 1284) (by decide +kernel)⟩
theorem lw_p57 : lw_okq (⟨"PaperBoxesModel", "putShape", "(III)V"⟩, 46) := ⟨⟨by decide +kernel, by decide +kernel⟩, List.mem_of_getElem? (i := 903) (by decide +kernel), List.mem_of_getElem? (i := 1287) (by decide +kernel), List.mem_of_getElem? (i := 1288) (by decide +kernel)⟩
theorem lw_p58 : lw_okq (⟨"PaperBoxesModel", "joinShapes", "(III)V"⟩, 46) := ⟨⟨by decide +kernel, by decide +kernel⟩, List.mem_of_getElem? (i := 903) (by decide +kernel), List.mem_of_getElem? (i := 1291) (by decide +kernel), List.mem_of_getElem? (i := 1292) (by decide +kernel)⟩
theorem lw_p59 : lw_okq (⟨"PaperBoxesModel", "paperOf", "(I)I"⟩, 46) := ⟨⟨by decide +kernel, by decide +kernel⟩, List.mem_of_getElem? (i := 903) (by decide +kernel), List.mem_of_getElem? (i := 1302) (by decide +kernel), List.mem_of_getElem? (i := 1303) (by decide +kernel)⟩
theorem lw_p60 : lw_okq (⟨"PaperBoxesModel", "layMembers", "(I)V"⟩, 46) := ⟨⟨by decide +kernel, by decide +kernel⟩, List.mem_of_getElem? (i := 903) (by decide +kernel), List.mem_of_getElem? (i := 1310) (by decide +kernel), List.mem_of_getElem? (i := 1311) (by decide +kernel)⟩
theorem lw_p61 : lw_okq (⟨"PaperBoxesModel", "layRow", "(I)Z"⟩, 46) := ⟨⟨by decide +kernel, by decide +kernel⟩, List.mem_of_getElem? (i := 903) (by decide +kernel), List.mem_of_getElem? (i := 1314) (by decide +kernel), List.mem_of_getElem? (i := 1315) (by decide +kernel)⟩
theorem lw_p62 : lw_okq (⟨"PaperBoxesModel", "wrappedByRow", "()I"⟩, 46) := ⟨⟨by decide +kernel, by decide +kernel⟩, List.mem_of_getElem? (i := 903) (by decide +kernel), List.mem_of_getElem? (i := 1318) (by decide +kernel), List.mem_of_getElem? (i := 1319) (by decide +kernel)⟩
theorem lw_p63 : lw_okq (⟨"PaperBoxesModel", "pleatBy", "(I)I"⟩, 46) := ⟨⟨by decide +kernel, by decide +kernel⟩, List.mem_of_getElem? (i := 903) (by decide +kernel), List.mem_of_getElem? (i := 1326) (by decide +kernel), List.mem_of_getElem? (i := 1327) (by decide +kernel)⟩
def lw_privs_4 : List (MethodName × Nat) := [(⟨"PaperBoxesModel", "rollBy", "(I)I"⟩, 46), (⟨"PaperBoxesModel", "acrossBy", "(I)I"⟩, 46), (⟨"PaperBoxesModel", "lengthBy", "(I)I"⟩, 46), (⟨"PaperBoxesModel", "goRound", "(II)Z"⟩, 46), (⟨"PaperBoxesModel", "givenBy", "(II)I"⟩, 46), (⟨"PaperBoxesModel", "areBoxes", "(I)Z"⟩, 46), (⟨"PaperBoxesModel", "canCut", "(II)Z"⟩, 46), (⟨"PaperBoxesModel", "layPieces", "(I)V"⟩, 46), (⟨"PaperBoxesModel", "findShapes", "()V"⟩, 46), (⟨"PaperBoxesModel", "putShape", "(III)V"⟩, 46), (⟨"PaperBoxesModel", "joinShapes", "(III)V"⟩, 46), (⟨"PaperBoxesModel", "paperOf", "(I)I"⟩, 46), (⟨"PaperBoxesModel", "layMembers", "(I)V"⟩, 46), (⟨"PaperBoxesModel", "layRow", "(I)Z"⟩, 46), (⟨"PaperBoxesModel", "wrappedByRow", "()I"⟩, 46), (⟨"PaperBoxesModel", "pleatBy", "(I)I"⟩, 46)]
theorem lw_r4 : ∀ q ∈ lw_privs_4, lw_okq q := List.forall_mem_cons.mpr ⟨lw_p48, List.forall_mem_cons.mpr ⟨lw_p49, List.forall_mem_cons.mpr ⟨lw_p50, List.forall_mem_cons.mpr ⟨lw_p51, List.forall_mem_cons.mpr ⟨lw_p52, List.forall_mem_cons.mpr ⟨lw_p53, List.forall_mem_cons.mpr ⟨lw_p54, List.forall_mem_cons.mpr ⟨lw_p55, List.forall_mem_cons.mpr ⟨lw_p56, List.forall_mem_cons.mpr ⟨lw_p57, List.forall_mem_cons.mpr ⟨lw_p58, List.forall_mem_cons.mpr ⟨lw_p59, List.forall_mem_cons.mpr ⟨lw_p60, List.forall_mem_cons.mpr ⟨lw_p61, List.forall_mem_cons.mpr ⟨lw_p62, List.forall_mem_cons.mpr ⟨lw_p63, fun _ h => absurd h List.not_mem_nil⟩⟩⟩⟩⟩⟩⟩⟩⟩⟩⟩⟩⟩⟩⟩⟩
theorem lw_p64 : lw_okq (⟨"PaperBoxesModel", "fitsIn", "(II)Z"⟩, 46) := ⟨⟨by decide +kernel, by decide +kernel⟩, List.mem_of_getElem? (i := 903) (by decide +kernel), List.mem_of_getElem? (i := 1346) (by decide +kernel), List.mem_of_getElem? (i := 1347) (by decide +kernel)⟩
theorem lw_p65 : lw_okq (⟨"PaperBoxesModel", "sortSides", "(IIII)V"⟩, 46) := ⟨⟨by decide +kernel, by decide +kernel⟩, List.mem_of_getElem? (i := 903) (by decide +kernel), List.mem_of_getElem? (i := 1350) (by decide +kernel), List.mem_of_getElem? (i := 1351) (by decide +kernel)⟩
theorem lw_p66 : lw_okq (⟨"PaperBoxesModel", "leastPaper", "(I)I"⟩, 46) := ⟨⟨by decide +kernel, by decide +kernel⟩, List.mem_of_getElem? (i := 903) (by decide +kernel), List.mem_of_getElem? (i := 1358) (by decide +kernel), List.mem_of_getElem? (i := 1359) (by decide +kernel)⟩
theorem lw_p67 : lw_okq (⟨"PaperBoxesModel", "findPairs", "()V"⟩, 46) := ⟨⟨by decide +kernel, by decide +kernel⟩, List.mem_of_getElem? (i := 903) (by decide +kernel), List.mem_of_getElem? (i := 1366) (by decide +kernel), List.mem_of_getElem? (i := 1367) (by decide +kernel)⟩
theorem lw_p68 : lw_okq (⟨"PaperBoxesModel", "paperOfRow", "(I)I"⟩, 46) := ⟨⟨by decide +kernel, by decide +kernel⟩, List.mem_of_getElem? (i := 903) (by decide +kernel), List.mem_of_getElem? (i := 1370) (by decide +kernel), List.mem_of_getElem? (i := 1371) (by decide +kernel)⟩
theorem lw_p69 : lw_okq (⟨"PaperBoxesModel", "isHiddenFrom", "(II)Z"⟩, 46) := ⟨⟨by decide +kernel, by decide +kernel⟩, List.mem_of_getElem? (i := 903) (by decide +kernel), List.mem_of_getElem? (i := 1387) (by decide +kernel), List.mem_of_getElem? (i := 1388) (by decide +kernel)⟩
theorem lw_p70 : lw_okq (⟨"PaperBoxesModel", "areCreasesOf", "(II)Z"⟩, 46) := ⟨⟨by decide +kernel, by decide +kernel⟩, List.mem_of_getElem? (i := 903) (by decide +kernel), List.mem_of_getElem? (i := 1396) (by decide +kernel), List.mem_of_getElem? (i := 1397) (by decide +kernel)⟩
theorem lw_p71 : lw_okq (⟨"PaperBoxesModel", "passAll", "()V"⟩, 46) := ⟨⟨by decide +kernel, by decide +kernel⟩, List.mem_of_getElem? (i := 903) (by decide +kernel), List.mem_of_getElem? (i := 1412) (by decide +kernel), List.mem_of_getElem? (i := 1413) (by decide +kernel)⟩
theorem lw_p72 : lw_okq (⟨"PaperBoxesModel", "pass", "(I)I"⟩, 46) := ⟨⟨by decide +kernel, by decide +kernel⟩, List.mem_of_getElem? (i := 903) (by decide +kernel), List.mem_of_getElem? (i := 1416) (by decide +kernel), List.mem_of_getElem? (i := 1417) (by decide +kernel)⟩
theorem lw_p73 : lw_okq (⟨"PaperBoxesModel", "toldOf", "(II)I"⟩, 46) := ⟨⟨by decide +kernel, by decide +kernel⟩, List.mem_of_getElem? (i := 903) (by decide +kernel), List.mem_of_getElem? (i := 1430) (by decide +kernel), List.mem_of_getElem? (i := 1431) (by decide +kernel)⟩
def lw_privs_5 : List (MethodName × Nat) := [(⟨"PaperBoxesModel", "fitsIn", "(II)Z"⟩, 46), (⟨"PaperBoxesModel", "sortSides", "(IIII)V"⟩, 46), (⟨"PaperBoxesModel", "leastPaper", "(I)I"⟩, 46), (⟨"PaperBoxesModel", "findPairs", "()V"⟩, 46), (⟨"PaperBoxesModel", "paperOfRow", "(I)I"⟩, 46), (⟨"PaperBoxesModel", "isHiddenFrom", "(II)Z"⟩, 46), (⟨"PaperBoxesModel", "areCreasesOf", "(II)Z"⟩, 46), (⟨"PaperBoxesModel", "passAll", "()V"⟩, 46), (⟨"PaperBoxesModel", "pass", "(I)I"⟩, 46), (⟨"PaperBoxesModel", "toldOf", "(II)I"⟩, 46)]
theorem lw_r5 : ∀ q ∈ lw_privs_5, lw_okq q := List.forall_mem_cons.mpr ⟨lw_p64, List.forall_mem_cons.mpr ⟨lw_p65, List.forall_mem_cons.mpr ⟨lw_p66, List.forall_mem_cons.mpr ⟨lw_p67, List.forall_mem_cons.mpr ⟨lw_p68, List.forall_mem_cons.mpr ⟨lw_p69, List.forall_mem_cons.mpr ⟨lw_p70, List.forall_mem_cons.mpr ⟨lw_p71, List.forall_mem_cons.mpr ⟨lw_p72, List.forall_mem_cons.mpr ⟨lw_p73, fun _ h => absurd h List.not_mem_nil⟩⟩⟩⟩⟩⟩⟩⟩⟩⟩
def lw_privs : List (MethodName × Nat) := lw_privs_1 ++ (lw_privs_2 ++ (lw_privs_3 ++ (lw_privs_4 ++ (lw_privs_5))))
def lw_tbl : List Cond := k2_sels lw_privs ++ tables_1
theorem lw_privs_ok : ∀ q ∈ lw_privs, lw_okq q := by
  show ∀ q ∈ lw_privs_1 ++ (lw_privs_2 ++ (lw_privs_3 ++ (lw_privs_4 ++ (lw_privs_5)))), lw_okq q
  exact List.forall_mem_append.mpr ⟨lw_r1, List.forall_mem_append.mpr ⟨lw_r2, List.forall_mem_append.mpr ⟨lw_r3, List.forall_mem_append.mpr ⟨lw_r4, lw_r5⟩⟩⟩⟩
end
section
def RX0 : String := "PaperBoxes$Cutter"
def TX0 : u_T := fun k => match k with
  | 0 => ("PaperBoxes$Cutter", "rounds", "[I", true)
  | 1 => ("PaperBoxes$Cutter", "reaches", "[I", true)
  | 2 => ("PaperBoxes$Cutter", "stripsByWidth", "[I", true)
  | 3 => ("PaperBoxes$Cutter", "stripsByHeight", "[I", true)
  | 4 => ("PaperBoxes$Cutter", "width", "I", false)
  | _ => ("PaperBoxes$Cutter", "height", "I", false)
def tyX0 : Nat → FieldType := fun k => match k with
  | 0 => .array .int
  | 1 => .array .int
  | 2 => .array .int
  | 3 => .array .int
  | 4 => .int
  | _ => .int
theorem nmX0 : ∀ a, a < 6 → ∀ b, b < 6 → a ≠ b → (TX0 a).2.1 ≠ (TX0 b).2.1 := by decide +kernel
theorem tyX0_ok : ∀ k, k < 6 → parseFieldDescriptor (TX0 k).2.2.1 = some (tyX0 k) := by decide +kernel
abbrev cX0_init : ByteArray := prog_2_method_1_code
def yX0_init : MethodName := ⟨RX0, "<init>", "()V"⟩
abbrev cX0_start : ByteArray := prog_2_method_2_code
def yX0_start : MethodName := ⟨RX0, "start", "(II)V"⟩
abbrev cX0_want : ByteArray := prog_2_method_3_code
def yX0_want : MethodName := ⟨RX0, "want", "(III)V"⟩
abbrev cX0_paperOf : ByteArray := prog_2_method_4_code
def yX0_paperOf : MethodName := ⟨RX0, "paperOf", "(I)I"⟩
abbrev cX0_greatestOf : ByteArray := prog_2_method_5_code
def yX0_greatestOf : MethodName := ⟨RX0, "greatestOf", "(I)I"⟩
abbrev cX0_gives : ByteArray := prog_2_method_6_code
def yX0_gives : MethodName := ⟨RX0, "gives", "(I)Z"⟩
abbrev cX0_givesBoth : ByteArray := prog_2_method_7_code
def yX0_givesBoth : MethodName := ⟨RX0, "givesBoth", "(II)Z"⟩
abbrev cX0_stripByHeight : ByteArray := prog_2_method_8_code
def yX0_stripByHeight : MethodName := ⟨RX0, "stripByHeight", "(I)I"⟩
abbrev cX0_stripByWidth : ByteArray := prog_2_method_9_code
def yX0_stripByWidth : MethodName := ⟨RX0, "stripByWidth", "(I)I"⟩
abbrev cX0_strip : ByteArray := prog_2_method_10_code
def yX0_strip : MethodName := ⟨RX0, "strip", "(II)I"⟩
abbrev cX0_stripParted : ByteArray := prog_2_method_11_code
def yX0_stripParted : MethodName := ⟨RX0, "stripParted", "(III)I"⟩
def RX1 : String := "PaperBoxes$Goods"
def TX1 : u_T := fun k => match k with
  | 0 => ("PaperBoxes$Goods", "boxes", "LPaperBoxes$Shelf;", true)
  | 1 => ("PaperBoxes$Goods", "things", "LPaperBoxes$Shelf;", true)
  | 2 => ("PaperBoxes$Goods", "sheets", "LPaperBoxes$Shelf;", true)
  | 3 => ("PaperBoxes$Goods", "folds", "LPaperBoxes$Marks;", true)
  | 4 => ("PaperBoxes$Goods", "creases", "LPaperBoxes$Marks;", true)
  | 5 => ("PaperBoxes$Goods", "lap", "I", false)
  | 6 => ("PaperBoxes$Goods", "edge", "I", false)
  | 7 => ("PaperBoxes$Goods", "period", "I", false)
  | _ => ("PaperBoxes$Goods", "knot", "I", false)
def tyX1 : Nat → FieldType := fun k => match k with
  | 0 => .object "PaperBoxes$Shelf"
  | 1 => .object "PaperBoxes$Shelf"
  | 2 => .object "PaperBoxes$Shelf"
  | 3 => .object "PaperBoxes$Marks"
  | 4 => .object "PaperBoxes$Marks"
  | 5 => .int
  | 6 => .int
  | 7 => .int
  | _ => .int
theorem nmX1 : ∀ a, a < 9 → ∀ b, b < 9 → a ≠ b → (TX1 a).2.1 ≠ (TX1 b).2.1 := by decide +kernel
theorem tyX1_ok : ∀ k, k < 9 → parseFieldDescriptor (TX1 k).2.2.1 = some (tyX1 k) := by decide +kernel
abbrev cX1_init : ByteArray := prog_3_method_1_code
def yX1_init : MethodName := ⟨RX1, "<init>", "()V"⟩
abbrev cX1_shelf : ByteArray := prog_3_method_2_code
def yX1_shelf : MethodName := ⟨RX1, "shelf", "(I)LPaperBoxes$Shelf;"⟩
abbrev cX1_marks : ByteArray := prog_3_method_3_code
def yX1_marks : MethodName := ⟨RX1, "marks", "(I)LPaperBoxes$Marks;"⟩
abbrev cX1_setting : ByteArray := prog_3_method_4_code
def yX1_setting : MethodName := ⟨RX1, "setting", "(I)I"⟩
abbrev cX1_change : ByteArray := prog_3_method_5_code
def yX1_change : MethodName := ⟨RX1, "change", "(II)V"⟩
abbrev cX1_copyFrom : ByteArray := prog_3_method_6_code
def yX1_copyFrom : MethodName := ⟨RX1, "copyFrom", "(LPaperBoxes$Goods;)V"⟩
def RX2 : String := "PaperBoxes$Marks"
def TX2 : u_T := fun k => match k with
  | 0 => ("PaperBoxes$Marks", "farthest", "I", true)
  | 1 => ("PaperBoxes$Marks", "distances", "[I", true)
  | _ => ("PaperBoxes$Marks", "count", "I", false)
def tyX2 : Nat → FieldType := fun k => match k with
  | 0 => .int
  | 1 => .array .int
  | _ => .int
theorem nmX2 : ∀ a, a < 3 → ∀ b, b < 3 → a ≠ b → (TX2 a).2.1 ≠ (TX2 b).2.1 := by decide +kernel
theorem tyX2_ok : ∀ k, k < 3 → parseFieldDescriptor (TX2 k).2.2.1 = some (tyX2 k) := by decide +kernel
abbrev cX2_init : ByteArray := prog_4_method_1_code
def yX2_init : MethodName := ⟨RX2, "<init>", "(I)V"⟩
abbrev cX2_farthest : ByteArray := prog_4_method_2_code
def yX2_farthest : MethodName := ⟨RX2, "farthest", "()I"⟩
abbrev cX2_count : ByteArray := prog_4_method_3_code
def yX2_count : MethodName := ⟨RX2, "count", "()I"⟩
abbrev cX2_add : ByteArray := prog_4_method_4_code
def yX2_add : MethodName := ⟨RX2, "add", "(I)Z"⟩
abbrev cX2_clear : ByteArray := prog_4_method_5_code
def yX2_clear : MethodName := ⟨RX2, "clear", "()V"⟩
abbrev cX2_areHidden : ByteArray := prog_4_method_6_code
def yX2_areHidden : MethodName := ⟨RX2, "areHidden", "(III)Z"⟩
abbrev cX2_areOf : ByteArray := prog_4_method_7_code
def yX2_areOf : MethodName := ⟨RX2, "areOf", "(III)Z"⟩
abbrev cX2_copyFrom : ByteArray := prog_4_method_8_code
def yX2_copyFrom : MethodName := ⟨RX2, "copyFrom", "(LPaperBoxes$Marks;)V"⟩
def RX3 : String := "PaperBoxes$Order"
def TX3 : u_T := fun k => match k with
  | 0 => ("PaperBoxes$Order", "suiting", "[I", true)
  | 1 => ("PaperBoxes$Order", "trial", "[I", true)
  | 2 => ("PaperBoxes$Order", "best", "[I", true)
  | 3 => ("PaperBoxes$Order", "size", "I", false)
  | _ => ("PaperBoxes$Order", "bestWrapped", "I", false)
def tyX3 : Nat → FieldType := fun k => match k with
  | 0 => .array .int
  | 1 => .array .int
  | 2 => .array .int
  | 3 => .int
  | _ => .int
theorem nmX3 : ∀ a, a < 5 → ∀ b, b < 5 → a ≠ b → (TX3 a).2.1 ≠ (TX3 b).2.1 := by decide +kernel
theorem tyX3_ok : ∀ k, k < 5 → parseFieldDescriptor (TX3 k).2.2.1 = some (tyX3 k) := by decide +kernel
abbrev cX3_init : ByteArray := prog_5_method_1_code
def yX3_init : MethodName := ⟨RX3, "<init>", "()V"⟩
abbrev cX3_suit : ByteArray := prog_5_method_2_code
def yX3_suit : MethodName := ⟨RX3, "suit", "(II)V"⟩
abbrev cX3_search : ByteArray := prog_5_method_3_code
def yX3_search : MethodName := ⟨RX3, "search", "(ILPaperBoxes$Shelf;)V"⟩
abbrev cX3_wrapped : ByteArray := prog_5_method_4_code
def yX3_wrapped : MethodName := ⟨RX3, "wrapped", "()I"⟩
abbrev cX3_boxAt : ByteArray := prog_5_method_5_code
def yX3_boxAt : MethodName := ⟨RX3, "boxAt", "(I)I"⟩
abbrev cX3_extend : ByteArray := prog_5_method_6_code
def yX3_extend : MethodName := ⟨RX3, "extend", "(LPaperBoxes$Shelf;IIII)V"⟩
abbrev cX3_keep : ByteArray := prog_5_method_7_code
def yX3_keep : MethodName := ⟨RX3, "keep", "(I)V"⟩
def RX4 : String := "PaperBoxes$Pad"
def TX4 : u_T := fun k => match k with
  | 0 => ("PaperBoxes$Pad", "signs", "[I", true)
  | 1 => ("PaperBoxes$Pad", "count", "I", false)
  | 2 => ("PaperBoxes$Pad", "sort", "I", false)
  | 3 => ("PaperBoxes$Pad", "columns", "I", false)
  | 4 => ("PaperBoxes$Pad", "greatest", "I", false)
  | 5 => ("PaperBoxes$Pad", "column", "I", false)
  | 6 => ("PaperBoxes$Pad", "number", "I", false)
  | 7 => ("PaperBoxes$Pad", "numbers", "[I", true)
  | _ => ("PaperBoxes$Pad", "partsOf", "[I", true)
def tyX4 : Nat → FieldType := fun k => match k with
  | 0 => .array .int
  | 1 => .int
  | 2 => .int
  | 3 => .int
  | 4 => .int
  | 5 => .int
  | 6 => .int
  | 7 => .array .int
  | _ => .array .int
theorem nmX4 : ∀ a, a < 9 → ∀ b, b < 9 → a ≠ b → (TX4 a).2.1 ≠ (TX4 b).2.1 := by decide +kernel
theorem tyX4_ok : ∀ k, k < 9 → parseFieldDescriptor (TX4 k).2.2.1 = some (tyX4 k) := by decide +kernel
abbrev cX4_init : ByteArray := prog_6_method_1_code
def yX4_init : MethodName := ⟨RX4, "<init>", "()V"⟩
abbrev cX4_count : ByteArray := prog_6_method_2_code
def yX4_count : MethodName := ⟨RX4, "count", "()I"⟩
abbrev cX4_add : ByteArray := prog_6_method_3_code
def yX4_add : MethodName := ⟨RX4, "add", "(I)Z"⟩
abbrev cX4_clear : ByteArray := prog_6_method_4_code
def yX4_clear : MethodName := ⟨RX4, "clear", "()V"⟩
abbrev cX4_parts : ByteArray := prog_6_method_5_code
def yX4_parts : MethodName := ⟨RX4, "parts", "()I"⟩
abbrev cX4_hasPlaceIn : ByteArray := prog_6_method_6_code
def yX4_hasPlaceIn : MethodName := ⟨RX4, "hasPlaceIn", "(LPaperBoxes$Goods;)Z"⟩
abbrev cX4_scan : ByteArray := prog_6_method_7_code
def yX4_scan : MethodName := ⟨RX4, "scan", "(LPaperBoxes$Goods;)I"⟩
abbrev cX4_startList : ByteArray := prog_6_method_8_code
def yX4_startList : MethodName := ⟨RX4, "startList", "()V"⟩
abbrev cX4_accepts : ByteArray := prog_6_method_9_code
def yX4_accepts : MethodName := ⟨RX4, "accepts", "(I)Z"⟩
abbrev cX4_acceptsLetter : ByteArray := prog_6_method_10_code
def yX4_acceptsLetter : MethodName := ⟨RX4, "acceptsLetter", "(I)Z"⟩
abbrev cX4_acceptsDigit : ByteArray := prog_6_method_11_code
def yX4_acceptsDigit : MethodName := ⟨RX4, "acceptsDigit", "(I)Z"⟩
abbrev cX4_startPart : ByteArray := prog_6_method_12_code
def yX4_startPart : MethodName := ⟨RX4, "startPart", "(III)V"⟩
abbrev cX4_keepNumber : ByteArray := prog_6_method_13_code
def yX4_keepNumber : MethodName := ⟨RX4, "keepNumber", "()V"⟩
abbrev cX4_endPart : ByteArray := prog_6_method_14_code
def yX4_endPart : MethodName := ⟨RX4, "endPart", "(LPaperBoxes$Goods;)V"⟩
def RX5 : String := "PaperBoxes$Pairing"
def TX5 : u_T := fun k => match k with
  | 0 => ("PaperBoxes$Pairing", "prices", "[I", true)
  | 1 => ("PaperBoxes$Pairing", "allowed", "[I", true)
  | 2 => ("PaperBoxes$Pairing", "trial", "[I", true)
  | 3 => ("PaperBoxes$Pairing", "best", "[I", true)
  | _ => ("PaperBoxes$Pairing", "bestPaper", "I", false)
def tyX5 : Nat → FieldType := fun k => match k with
  | 0 => .array .int
  | 1 => .array .int
  | 2 => .array .int
  | 3 => .array .int
  | _ => .int
theorem nmX5 : ∀ a, a < 5 → ∀ b, b < 5 → a ≠ b → (TX5 a).2.1 ≠ (TX5 b).2.1 := by decide +kernel
theorem tyX5_ok : ∀ k, k < 5 → parseFieldDescriptor (TX5 k).2.2.1 = some (tyX5 k) := by decide +kernel
abbrev cX5_init : ByteArray := prog_7_method_1_code
def yX5_init : MethodName := ⟨RX5, "<init>", "()V"⟩
abbrev cX5_price : ByteArray := prog_7_method_2_code
def yX5_price : MethodName := ⟨RX5, "price", "(II)V"⟩
abbrev cX5_allow : ByteArray := prog_7_method_3_code
def yX5_allow : MethodName := ⟨RX5, "allow", "(II)V"⟩
abbrev cX5_search : ByteArray := prog_7_method_4_code
def yX5_search : MethodName := ⟨RX5, "search", "(II)V"⟩
abbrev cX5_paper : ByteArray := prog_7_method_5_code
def yX5_paper : MethodName := ⟨RX5, "paper", "()I"⟩
abbrev cX5_boxOf : ByteArray := prog_7_method_6_code
def yX5_boxOf : MethodName := ⟨RX5, "boxOf", "(I)I"⟩
abbrev cX5_extend : ByteArray := prog_7_method_7_code
def yX5_extend : MethodName := ⟨RX5, "extend", "(IIII)V"⟩
abbrev cX5_keep : ByteArray := prog_7_method_8_code
def yX5_keep : MethodName := ⟨RX5, "keep", "(I)V"⟩
def RX6 : String := "PaperBoxes$Pieces"
def TX6 : u_T := fun k => match k with
  | _ => ("PaperBoxes$Pieces", "gifts", "[I", true)
def tyX6 : Nat → FieldType := fun k => match k with
  | _ => .array .int
theorem nmX6 : ∀ a, a < 1 → ∀ b, b < 1 → a ≠ b → (TX6 a).2.1 ≠ (TX6 b).2.1 := by decide +kernel
theorem tyX6_ok : ∀ k, k < 1 → parseFieldDescriptor (TX6 k).2.2.1 = some (tyX6 k) := by decide +kernel
abbrev cX6_init : ByteArray := prog_8_method_1_code
def yX6_init : MethodName := ⟨RX6, "<init>", "()V"⟩
abbrev cX6_gather : ByteArray := prog_8_method_2_code
def yX6_gather : MethodName := ⟨RX6, "gather", "(LPaperBoxes$Shelf;I)V"⟩
abbrev cX6_fewest : ByteArray := prog_8_method_3_code
def yX6_fewest : MethodName := ⟨RX6, "fewest", "(II)I"⟩
abbrev cX6_sumOf : ByteArray := prog_8_method_4_code
def yX6_sumOf : MethodName := ⟨RX6, "sumOf", "(I)I"⟩
def RX7 : String := "PaperBoxes$Shelf"
def TX7 : u_T := fun k => match k with
  | 0 => ("PaperBoxes$Shelf", "columns", "I", true)
  | 1 => ("PaperBoxes$Shelf", "sides", "[I", true)
  | _ => ("PaperBoxes$Shelf", "bits", "I", false)
def tyX7 : Nat → FieldType := fun k => match k with
  | 0 => .int
  | 1 => .array .int
  | _ => .int
theorem nmX7 : ∀ a, a < 3 → ∀ b, b < 3 → a ≠ b → (TX7 a).2.1 ≠ (TX7 b).2.1 := by decide +kernel
theorem tyX7_ok : ∀ k, k < 3 → parseFieldDescriptor (TX7 k).2.2.1 = some (tyX7 k) := by decide +kernel
abbrev cX7_init : ByteArray := prog_9_method_1_code
def yX7_init : MethodName := ⟨RX7, "<init>", "(I)V"⟩
abbrev cX7_columns : ByteArray := prog_9_method_2_code
def yX7_columns : MethodName := ⟨RX7, "columns", "()I"⟩
abbrev cX7_bits : ByteArray := prog_9_method_3_code
def yX7_bits : MethodName := ⟨RX7, "bits", "()I"⟩
abbrev cX7_count : ByteArray := prog_9_method_4_code
def yX7_count : MethodName := ⟨RX7, "count", "()I"⟩
abbrev cX7_has : ByteArray := prog_9_method_5_code
def yX7_has : MethodName := ⟨RX7, "has", "(I)Z"⟩
abbrev cX7_holdsAll : ByteArray := prog_9_method_6_code
def yX7_holdsAll : MethodName := ⟨RX7, "holdsAll", "(I)Z"⟩
abbrev cX7_put : ByteArray := prog_9_method_7_code
def yX7_put : MethodName := ⟨RX7, "put", "(IIII)V"⟩
abbrev cX7_putAtFirstFree : ByteArray := prog_9_method_8_code
def yX7_putAtFirstFree : MethodName := ⟨RX7, "putAtFirstFree", "(III)V"⟩
abbrev cX7_remove : ByteArray := prog_9_method_9_code
def yX7_remove : MethodName := ⟨RX7, "remove", "(I)V"⟩
abbrev cX7_side : ByteArray := prog_9_method_10_code
def yX7_side : MethodName := ⟨RX7, "side", "(II)I"⟩
abbrev cX7_area : ByteArray := prog_9_method_11_code
def yX7_area : MethodName := ⟨RX7, "area", "(I)I"⟩
abbrev cX7_leastAreaOf : ByteArray := prog_9_method_12_code
def yX7_leastAreaOf : MethodName := ⟨RX7, "leastAreaOf", "(I)I"⟩
abbrev cX7_lesserSide : ByteArray := prog_9_method_13_code
def yX7_lesserSide : MethodName := ⟨RX7, "lesserSide", "(I)I"⟩
abbrev cX7_greaterSide : ByteArray := prog_9_method_14_code
def yX7_greaterSide : MethodName := ⟨RX7, "greaterSide", "(I)I"⟩
abbrev cX7_middleSide : ByteArray := prog_9_method_15_code
def yX7_middleSide : MethodName := ⟨RX7, "middleSide", "(I)I"⟩
abbrev cX7_copyFrom : ByteArray := prog_9_method_16_code
def yX7_copyFrom : MethodName := ⟨RX7, "copyFrom", "(LPaperBoxes$Shelf;)V"⟩
def RX8 : String := "PaperBoxes$Wrap"
def TX8 : u_T := fun k => match k with
  | 0 => ("PaperBoxes$Wrap", "a", "I", false)
  | 1 => ("PaperBoxes$Wrap", "b", "I", false)
  | 2 => ("PaperBoxes$Wrap", "c", "I", false)
  | 3 => ("PaperBoxes$Wrap", "lap", "I", false)
  | _ => ("PaperBoxes$Wrap", "edge", "I", false)
def tyX8 : Nat → FieldType := fun k => match k with
  | 0 => .int
  | 1 => .int
  | 2 => .int
  | 3 => .int
  | _ => .int
theorem nmX8 : ∀ a, a < 5 → ∀ b, b < 5 → a ≠ b → (TX8 a).2.1 ≠ (TX8 b).2.1 := by decide +kernel
theorem tyX8_ok : ∀ k, k < 5 → parseFieldDescriptor (TX8 k).2.2.1 = some (tyX8 k) := by decide +kernel
abbrev cX8_init : ByteArray := prog_10_method_1_code
def yX8_init : MethodName := ⟨RX8, "<init>", "()V"⟩
abbrev cX8_measure : ByteArray := prog_10_method_2_code
def yX8_measure : MethodName := ⟨RX8, "measure", "(IIIII)V"⟩
abbrev cX8_along : ByteArray := prog_10_method_3_code
def yX8_along : MethodName := ⟨RX8, "along", "(I)I"⟩
abbrev cX8_u : ByteArray := prog_10_method_4_code
def yX8_u : MethodName := ⟨RX8, "u", "(I)I"⟩
abbrev cX8_v : ByteArray := prog_10_method_5_code
def yX8_v : MethodName := ⟨RX8, "v", "(I)I"⟩
abbrev cX8_girth : ByteArray := prog_10_method_6_code
def yX8_girth : MethodName := ⟨RX8, "girth", "(I)I"⟩
abbrev cX8_round : ByteArray := prog_10_method_7_code
def yX8_round : MethodName := ⟨RX8, "round", "(I)I"⟩
abbrev cX8_reach : ByteArray := prog_10_method_8_code
def yX8_reach : MethodName := ⟨RX8, "reach", "(I)I"⟩
abbrev cX8_paper : ByteArray := prog_10_method_9_code
def yX8_paper : MethodName := ⟨RX8, "paper", "(I)I"⟩
abbrev cX8_leastAxis : ByteArray := prog_10_method_10_code
def yX8_leastAxis : MethodName := ⟨RX8, "leastAxis", "()I"⟩
abbrev cX8_leastPaper : ByteArray := prog_10_method_11_code
def yX8_leastPaper : MethodName := ⟨RX8, "leastPaper", "()I"⟩
abbrev cX8_lackOn : ByteArray := prog_10_method_12_code
def yX8_lackOn : MethodName := ⟨RX8, "lackOn", "(IIII)I"⟩
abbrev cX8_wayOnSheet : ByteArray := prog_10_method_13_code
def yX8_wayOnSheet : MethodName := ⟨RX8, "wayOnSheet", "(II)I"⟩
abbrev cX8_lengthOff : ByteArray := prog_10_method_14_code
def yX8_lengthOff : MethodName := ⟨RX8, "lengthOff", "(I)I"⟩
abbrev cX8_acrossOff : ByteArray := prog_10_method_15_code
def yX8_acrossOff : MethodName := ⟨RX8, "acrossOff", "(I)I"⟩
abbrev cX8_wayOffRoll : ByteArray := prog_10_method_16_code
def yX8_wayOffRoll : MethodName := ⟨RX8, "wayOffRoll", "(I)I"⟩
abbrev cX8_leastAcross : ByteArray := prog_10_method_17_code
def yX8_leastAcross : MethodName := ⟨RX8, "leastAcross", "(I)I"⟩
abbrev cX8_squareFor : ByteArray := prog_10_method_18_code
def yX8_squareFor : MethodName := ⟨RX8, "squareFor", "(I)I"⟩
abbrev cX8_leastSquare : ByteArray := prog_10_method_19_code
def yX8_leastSquare : MethodName := ⟨RX8, "leastSquare", "()I"⟩
abbrev cX8_cornerSquare : ByteArray := prog_10_method_20_code
def yX8_cornerSquare : MethodName := ⟨RX8, "cornerSquare", "(I)I"⟩
def RX9 : String := "PaperBoxes"
def TX9 : u_T := fun k => match k with
  | 0 => ("PaperBoxes", "goods", "LPaperBoxes$Goods;", true)
  | 1 => ("PaperBoxes", "firstImage", "LPaperBoxes$Goods;", true)
  | 2 => ("PaperBoxes", "secondImage", "LPaperBoxes$Goods;", true)
  | 3 => ("PaperBoxes", "imagesKept", "I", false)
  | 4 => ("PaperBoxes", "pad", "LPaperBoxes$Pad;", true)
  | 5 => ("PaperBoxes", "wrap", "LPaperBoxes$Wrap;", true)
  | 6 => ("PaperBoxes", "sideBySide", "LPaperBoxes$Pieces;", true)
  | 7 => ("PaperBoxes", "cutter", "LPaperBoxes$Cutter;", true)
  | 8 => ("PaperBoxes", "order", "LPaperBoxes$Order;", true)
  | _ => ("PaperBoxes", "pairing", "LPaperBoxes$Pairing;", true)
def tyX9 : Nat → FieldType := fun k => match k with
  | 0 => .object "PaperBoxes$Goods"
  | 1 => .object "PaperBoxes$Goods"
  | 2 => .object "PaperBoxes$Goods"
  | 3 => .int
  | 4 => .object "PaperBoxes$Pad"
  | 5 => .object "PaperBoxes$Wrap"
  | 6 => .object "PaperBoxes$Pieces"
  | 7 => .object "PaperBoxes$Cutter"
  | 8 => .object "PaperBoxes$Order"
  | _ => .object "PaperBoxes$Pairing"
theorem nmX9 : ∀ a, a < 10 → ∀ b, b < 10 → a ≠ b → (TX9 a).2.1 ≠ (TX9 b).2.1 := by decide +kernel
theorem tyX9_ok : ∀ k, k < 10 → parseFieldDescriptor (TX9 k).2.2.1 = some (tyX9 k) := by decide +kernel
abbrev cX9_init : ByteArray := prog_1_method_1_code
def yX9_init : MethodName := ⟨RX9, "<init>", "()V"⟩
abbrev cX9_box : ByteArray := prog_1_method_2_code
def yX9_box : MethodName := ⟨RX9, "box", "(IIII)I"⟩
abbrev cX9_thing : ByteArray := prog_1_method_3_code
def yX9_thing : MethodName := ⟨RX9, "thing", "(IIII)I"⟩
abbrev cX9_sheet : ByteArray := prog_1_method_4_code
def yX9_sheet : MethodName := ⟨RX9, "sheet", "(III)I"⟩
abbrev cX9_drop : ByteArray := prog_1_method_5_code
def yX9_drop : MethodName := ⟨RX9, "drop", "(II)I"⟩
abbrev cX9_set : ByteArray := prog_1_method_6_code
def yX9_set : MethodName := ⟨RX9, "set", "(II)I"⟩
abbrev cX9_say : ByteArray := prog_1_method_7_code
def yX9_say : MethodName := ⟨RX9, "say", "(I)I"⟩
abbrev cX9_wipe : ByteArray := prog_1_method_8_code
def yX9_wipe : MethodName := ⟨RX9, "wipe", "()I"⟩
abbrev cX9_fault : ByteArray := prog_1_method_9_code
def yX9_fault : MethodName := ⟨RX9, "fault", "()I"⟩
abbrev cX9_lay : ByteArray := prog_1_method_10_code
def yX9_lay : MethodName := ⟨RX9, "lay", "()I"⟩
abbrev cX9_need : ByteArray := prog_1_method_11_code
def yX9_need : MethodName := ⟨RX9, "need", "(III)I"⟩
abbrev cX9_least : ByteArray := prog_1_method_12_code
def yX9_least : MethodName := ⟨RX9, "least", "(II)I"⟩
abbrev cX9_does : ByteArray := prog_1_method_13_code
def yX9_does : MethodName := ⟨RX9, "does", "(III)I"⟩
abbrev cX9_taken : ByteArray := prog_1_method_14_code
def yX9_taken : MethodName := ⟨RX9, "taken", "(I)I"⟩
abbrev cX9_shortBy : ByteArray := prog_1_method_15_code
def yX9_shortBy : MethodName := ⟨RX9, "shortBy", "(IIII)I"⟩
abbrev cX9_slant : ByteArray := prog_1_method_16_code
def yX9_slant : MethodName := ⟨RX9, "slant", "(II)I"⟩
abbrev cX9_slants : ByteArray := prog_1_method_17_code
def yX9_slants : MethodName := ⟨RX9, "slants", "(II)I"⟩
abbrev cX9_saved : ByteArray := prog_1_method_18_code
def yX9_saved : MethodName := ⟨RX9, "saved", "(I)I"⟩
abbrev cX9_roll : ByteArray := prog_1_method_19_code
def yX9_roll : MethodName := ⟨RX9, "roll", "(III)I"⟩
abbrev cX9_cheaper : ByteArray := prog_1_method_20_code
def yX9_cheaper : MethodName := ⟨RX9, "cheaper", "(IIIIII)I"⟩
abbrev cX9_narrow : ByteArray := prog_1_method_21_code
def yX9_narrow : MethodName := ⟨RX9, "narrow", "(II)I"⟩
abbrev cX9_pieces : ByteArray := prog_1_method_22_code
def yX9_pieces : MethodName := ⟨RX9, "pieces", "(III)I"⟩
abbrev cX9_cut : ByteArray := prog_1_method_23_code
def yX9_cut : MethodName := ⟨RX9, "cut", "(II)I"⟩
abbrev cX9_most : ByteArray := prog_1_method_24_code
def yX9_most : MethodName := ⟨RX9, "most", "(II)I"⟩
abbrev cX9_usedUp : ByteArray := prog_1_method_25_code
def yX9_usedUp : MethodName := ⟨RX9, "usedUp", "(II)I"⟩
abbrev cX9_pleat : ByteArray := prog_1_method_26_code
def yX9_pleat : MethodName := ⟨RX9, "pleat", "(II)I"⟩
abbrev cX9_match : ByteArray := prog_1_method_27_code
def yX9_match : MethodName := ⟨RX9, "match", "(I)I"⟩
abbrev cX9_ribbon : ByteArray := prog_1_method_28_code
def yX9_ribbon : MethodName := ⟨RX9, "ribbon", "(II)I"⟩
abbrev cX9_corners : ByteArray := prog_1_method_29_code
def yX9_corners : MethodName := ⟨RX9, "corners", "(III)I"⟩
abbrev cX9_fits : ByteArray := prog_1_method_30_code
def yX9_fits : MethodName := ⟨RX9, "fits", "(II)I"⟩
abbrev cX9_tight : ByteArray := prog_1_method_31_code
def yX9_tight : MethodName := ⟨RX9, "tight", "(I)I"⟩
abbrev cX9_paired : ByteArray := prog_1_method_32_code
def yX9_paired : MethodName := ⟨RX9, "paired", "(II)I"⟩
abbrev cX9_mark : ByteArray := prog_1_method_33_code
def yX9_mark : MethodName := ⟨RX9, "mark", "(II)I"⟩
abbrev cX9_iron : ByteArray := prog_1_method_34_code
def yX9_iron : MethodName := ⟨RX9, "iron", "(I)I"⟩
abbrev cX9_hidden : ByteArray := prog_1_method_35_code
def yX9_hidden : MethodName := ⟨RX9, "hidden", "(IIII)I"⟩
abbrev cX9_undone : ByteArray := prog_1_method_36_code
def yX9_undone : MethodName := ⟨RX9, "undone", "(II)I"⟩
abbrev cX9_year : ByteArray := prog_1_method_37_code
def yX9_year : MethodName := ⟨RX9, "year", "(IIII)I"⟩
abbrev cX9_image : ByteArray := prog_1_method_38_code
def yX9_image : MethodName := ⟨RX9, "image", "(I)I"⟩
abbrev cX9_restore : ByteArray := prog_1_method_39_code
def yX9_restore : MethodName := ⟨RX9, "restore", "(I)I"⟩
abbrev cX9_told : ByteArray := prog_1_method_40_code
def yX9_told : MethodName := ⟨RX9, "told", "(I)I"⟩
abbrev cX9_isWithin : ByteArray := prog_1_method_41_code
def yX9_isWithin : MethodName := ⟨RX9, "isWithin", "(III)Z"⟩
abbrev cX9_isNumber : ByteArray := prog_1_method_42_code
def yX9_isNumber : MethodName := ⟨RX9, "isNumber", "(I)Z"⟩
abbrev cX9_isSide : ByteArray := prog_1_method_43_code
def yX9_isSide : MethodName := ⟨RX9, "isSide", "(I)Z"⟩
abbrev cX9_isIn : ByteArray := prog_1_method_44_code
def yX9_isIn : MethodName := ⟨RX9, "isIn", "(II)Z"⟩
abbrev cX9_isRoll : ByteArray := prog_1_method_45_code
def yX9_isRoll : MethodName := ⟨RX9, "isRoll", "(II)Z"⟩
abbrev cX9_axisOf : ByteArray := prog_1_method_46_code
def yX9_axisOf : MethodName := ⟨RX9, "axisOf", "(I)I"⟩
abbrev cX9_turnOf : ByteArray := prog_1_method_47_code
def yX9_turnOf : MethodName := ⟨RX9, "turnOf", "(I)I"⟩
abbrev cX9_rootBelow : ByteArray := prog_1_method_48_code
def yX9_rootBelow : MethodName := ⟨RX9, "rootBelow", "(I)I"⟩
abbrev cX9_rootAbove : ByteArray := prog_1_method_49_code
def yX9_rootAbove : MethodName := ⟨RX9, "rootAbove", "(I)I"⟩
abbrev cX9_isBoxByAxis : ByteArray := prog_1_method_50_code
def yX9_isBoxByAxis : MethodName := ⟨RX9, "isBoxByAxis", "(II)Z"⟩
abbrev cX9_putSolid : ByteArray := prog_1_method_51_code
def yX9_putSolid : MethodName := ⟨RX9, "putSolid", "(LPaperBoxes$Shelf;IIII)I"⟩
abbrev cX9_measure : ByteArray := prog_1_method_52_code
def yX9_measure : MethodName := ⟨RX9, "measure", "(III)V"⟩
abbrev cX9_wrapOf : ByteArray := prog_1_method_53_code
def yX9_wrapOf : MethodName := ⟨RX9, "wrapOf", "(I)LPaperBoxes$Wrap;"⟩
abbrev cX9_sheetsDoingFor : ByteArray := prog_1_method_54_code
def yX9_sheetsDoingFor : MethodName := ⟨RX9, "sheetsDoingFor", "(I)I"⟩
abbrev cX9_priceOff : ByteArray := prog_1_method_55_code
def yX9_priceOff : MethodName := ⟨RX9, "priceOff", "(III)I"⟩
abbrev cX9_startCuts : ByteArray := prog_1_method_56_code
def yX9_startCuts : MethodName := ⟨RX9, "startCuts", "(II)V"⟩
abbrev cX9_pleatOf : ByteArray := prog_1_method_57_code
def yX9_pleatOf : MethodName := ⟨RX9, "pleatOf", "(I)I"⟩
abbrev cX9_isRoomFor : ByteArray := prog_1_method_58_code
def yX9_isRoomFor : MethodName := ⟨RX9, "isRoomFor", "(II)Z"⟩
abbrev cX9_boxesWithRoomFor : ByteArray := prog_1_method_59_code
def yX9_boxesWithRoomFor : MethodName := ⟨RX9, "boxesWithRoomFor", "(I)I"⟩
abbrev cX9_startPairs : ByteArray := prog_1_method_60_code
def yX9_startPairs : MethodName := ⟨RX9, "startPairs", "(I)V"⟩
abbrev cX9_imageOf : ByteArray := prog_1_method_61_code
def yX9_imageOf : MethodName := ⟨RX9, "imageOf", "(I)LPaperBoxes$Goods;"⟩
abbrev cX9_toldSide : ByteArray := prog_1_method_62_code
def yX9_toldSide : MethodName := ⟨RX9, "toldSide", "(II)I"⟩
def RX10 : String := "PaperBoxesModel"
def TX10 : u_T := fun k => match k with
  | 0 => ("PaperBoxesModel", "boxes", "I", false)
  | 1 => ("PaperBoxesModel", "things", "I", false)
  | 2 => ("PaperBoxesModel", "sheets", "I", false)
  | 3 => ("PaperBoxesModel", "boxSide", "[I", true)
  | 4 => ("PaperBoxesModel", "thingSide", "[I", true)
  | 5 => ("PaperBoxesModel", "width", "[I", true)
  | 6 => ("PaperBoxesModel", "height", "[I", true)
  | 7 => ("PaperBoxesModel", "lap", "I", false)
  | 8 => ("PaperBoxesModel", "edge", "I", false)
  | 9 => ("PaperBoxesModel", "period", "I", false)
  | 10 => ("PaperBoxesModel", "knot", "I", false)
  | 11 => ("PaperBoxesModel", "fold", "[I", true)
  | 12 => ("PaperBoxesModel", "folds", "I", false)
  | 13 => ("PaperBoxesModel", "crease", "[I", true)
  | 14 => ("PaperBoxesModel", "creases", "I", false)
  | 15 => ("PaperBoxesModel", "pad", "[I", true)
  | 16 => ("PaperBoxesModel", "padMany", "I", false)
  | 17 => ("PaperBoxesModel", "sortOf", "[I", true)
  | 18 => ("PaperBoxesModel", "numberOf", "[I", true)
  | 19 => ("PaperBoxesModel", "parts", "I", false)
  | 20 => ("PaperBoxesModel", "had", "I", false)
  | 21 => ("PaperBoxesModel", "isReading", "Z", false)
  | 22 => ("PaperBoxesModel", "number", "I", false)
  | 23 => ("PaperBoxesModel", "round", "[I", true)
  | 24 => ("PaperBoxesModel", "along", "[I", true)
  | 25 => ("PaperBoxesModel", "u", "[I", true)
  | 26 => ("PaperBoxesModel", "v", "[I", true)
  | 27 => ("PaperBoxesModel", "side", "[I", true)
  | 28 => ("PaperBoxesModel", "pieceWide", "[I", true)
  | 29 => ("PaperBoxesModel", "pieceHigh", "[I", true)
  | 30 => ("PaperBoxesModel", "pieces", "I", false)
  | 31 => ("PaperBoxesModel", "shapeFrom", "[I", true)
  | 32 => ("PaperBoxesModel", "shapeMany", "[I", true)
  | 33 => ("PaperBoxesModel", "shapeWide", "[I", true)
  | 34 => ("PaperBoxesModel", "shapeHigh", "[I", true)
  | 35 => ("PaperBoxesModel", "shapes", "I", false)
  | 36 => ("PaperBoxesModel", "member", "[I", true)
  | 37 => ("PaperBoxesModel", "members", "I", false)
  | 38 => ("PaperBoxesModel", "row", "[I", true)
  | 39 => ("PaperBoxesModel", "bestRow", "[I", true)
  | 40 => ("PaperBoxesModel", "sorted", "[I", true)
  | 41 => ("PaperBoxesModel", "pairPaper", "[I", true)
  | 42 => ("PaperBoxesModel", "kept", "[I", true)
  | 43 => ("PaperBoxesModel", "isKept", "[Z", true)
  | 44 => ("PaperBoxesModel", "keptAt", "I", false)
  | _ => ("PaperBoxesModel", "isWriting", "Z", false)
def tyX10 : Nat → FieldType := fun k => match k with
  | 0 => .int
  | 1 => .int
  | 2 => .int
  | 3 => .array .int
  | 4 => .array .int
  | 5 => .array .int
  | 6 => .array .int
  | 7 => .int
  | 8 => .int
  | 9 => .int
  | 10 => .int
  | 11 => .array .int
  | 12 => .int
  | 13 => .array .int
  | 14 => .int
  | 15 => .array .int
  | 16 => .int
  | 17 => .array .int
  | 18 => .array .int
  | 19 => .int
  | 20 => .int
  | 21 => .boolean
  | 22 => .int
  | 23 => .array .int
  | 24 => .array .int
  | 25 => .array .int
  | 26 => .array .int
  | 27 => .array .int
  | 28 => .array .int
  | 29 => .array .int
  | 30 => .int
  | 31 => .array .int
  | 32 => .array .int
  | 33 => .array .int
  | 34 => .array .int
  | 35 => .int
  | 36 => .array .int
  | 37 => .int
  | 38 => .array .int
  | 39 => .array .int
  | 40 => .array .int
  | 41 => .array .int
  | 42 => .array .int
  | 43 => .array .boolean
  | 44 => .int
  | _ => .boolean
theorem nmX10 : ∀ a, a < 46 → ∀ b, b < 46 → a ≠ b → (TX10 a).2.1 ≠ (TX10 b).2.1 := by decide +kernel
theorem tyX10_ok : ∀ k, k < 46 → parseFieldDescriptor (TX10 k).2.2.1 = some (tyX10 k) := by decide +kernel
abbrev cX10_init : ByteArray := prog_12_method_1_code
def yX10_init : MethodName := ⟨RX10, "<init>", "()V"⟩
abbrev cX10_in : ByteArray := prog_12_method_3_code
def yX10_in : MethodName := ⟨RX10, "in", "(JJJ)Z"⟩
abbrev cX10_ones : ByteArray := prog_12_method_4_code
def yX10_ones : MethodName := ⟨RX10, "ones", "(I)I"⟩
abbrev cX10_isNumber : ByteArray := prog_12_method_5_code
def yX10_isNumber : MethodName := ⟨RX10, "isNumber", "(I)Z"⟩
abbrev cX10_isBox : ByteArray := prog_12_method_6_code
def yX10_isBox : MethodName := ⟨RX10, "isBox", "(I)Z"⟩
abbrev cX10_isThing : ByteArray := prog_12_method_7_code
def yX10_isThing : MethodName := ⟨RX10, "isThing", "(I)Z"⟩
abbrev cX10_isSheet : ByteArray := prog_12_method_8_code
def yX10_isSheet : MethodName := ⟨RX10, "isSheet", "(I)Z"⟩
abbrev cX10_areSides : ByteArray := prog_12_method_9_code
def yX10_areSides : MethodName := ⟨RX10, "areSides", "(III)Z"⟩
abbrev cX10_putBox : ByteArray := prog_12_method_10_code
def yX10_putBox : MethodName := ⟨RX10, "putBox", "(IIII)V"⟩
abbrev cX10_putThing : ByteArray := prog_12_method_11_code
def yX10_putThing : MethodName := ⟨RX10, "putThing", "(IIII)V"⟩
abbrev cX10_putSheet : ByteArray := prog_12_method_12_code
def yX10_putSheet : MethodName := ⟨RX10, "putSheet", "(III)V"⟩
abbrev cX10_box : ByteArray := prog_12_method_13_code
def yX10_box : MethodName := ⟨RX10, "box", "(IIII)I"⟩
abbrev cX10_thing : ByteArray := prog_12_method_14_code
def yX10_thing : MethodName := ⟨RX10, "thing", "(IIII)I"⟩
abbrev cX10_sheet : ByteArray := prog_12_method_15_code
def yX10_sheet : MethodName := ⟨RX10, "sheet", "(III)I"⟩
abbrev cX10_drop : ByteArray := prog_12_method_16_code
def yX10_drop : MethodName := ⟨RX10, "drop", "(II)I"⟩
abbrev cX10_set : ByteArray := prog_12_method_17_code
def yX10_set : MethodName := ⟨RX10, "set", "(II)I"⟩
abbrev cX10_say : ByteArray := prog_12_method_18_code
def yX10_say : MethodName := ⟨RX10, "say", "(I)I"⟩
abbrev cX10_wipe : ByteArray := prog_12_method_19_code
def yX10_wipe : MethodName := ⟨RX10, "wipe", "()I"⟩
abbrev cX10_readSort : ByteArray := prog_12_method_20_code
def yX10_readSort : MethodName := ⟨RX10, "readSort", "(I)Z"⟩
abbrev cX10_readMore : ByteArray := prog_12_method_21_code
def yX10_readMore : MethodName := ⟨RX10, "readMore", "(I)Z"⟩
abbrev cX10_fault : ByteArray := prog_12_method_22_code
def yX10_fault : MethodName := ⟨RX10, "fault", "()I"⟩
abbrev cX10_countOf : ByteArray := prog_12_method_23_code
def yX10_countOf : MethodName := ⟨RX10, "countOf", "(I)I"⟩
abbrev cX10_freeOf : ByteArray := prog_12_method_24_code
def yX10_freeOf : MethodName := ⟨RX10, "freeOf", "(I)I"⟩
abbrev cX10_lay : ByteArray := prog_12_method_25_code
def yX10_lay : MethodName := ⟨RX10, "lay", "()I"⟩
abbrev cX10_layBox : ByteArray := prog_12_method_26_code
def yX10_layBox : MethodName := ⟨RX10, "layBox", "(III)V"⟩
abbrev cX10_look : ByteArray := prog_12_method_27_code
def yX10_look : MethodName := ⟨RX10, "look", "(I)V"⟩
abbrev cX10_paper : ByteArray := prog_12_method_28_code
def yX10_paper : MethodName := ⟨RX10, "paper", "(I)I"⟩
abbrev cX10_leastAxis : ByteArray := prog_12_method_29_code
def yX10_leastAxis : MethodName := ⟨RX10, "leastAxis", "()I"⟩
abbrev cX10_isAxis : ByteArray := prog_12_method_30_code
def yX10_isAxis : MethodName := ⟨RX10, "isAxis", "(I)Z"⟩
abbrev cX10_need : ByteArray := prog_12_method_31_code
def yX10_need : MethodName := ⟨RX10, "need", "(III)I"⟩
abbrev cX10_least : ByteArray := prog_12_method_32_code
def yX10_least : MethodName := ⟨RX10, "least", "(II)I"⟩
abbrev cX10_doesBy : ByteArray := prog_12_method_33_code
def yX10_doesBy : MethodName := ⟨RX10, "doesBy", "(I)I"⟩
abbrev cX10_areaOf : ByteArray := prog_12_method_34_code
def yX10_areaOf : MethodName := ⟨RX10, "areaOf", "(I)I"⟩
abbrev cX10_does : ByteArray := prog_12_method_35_code
def yX10_does : MethodName := ⟨RX10, "does", "(III)I"⟩
abbrev cX10_takenOf : ByteArray := prog_12_method_36_code
def yX10_takenOf : MethodName := ⟨RX10, "takenOf", "(I)I"⟩
abbrev cX10_taken : ByteArray := prog_12_method_37_code
def yX10_taken : MethodName := ⟨RX10, "taken", "(I)I"⟩
abbrev cX10_above : ByteArray := prog_12_method_38_code
def yX10_above : MethodName := ⟨RX10, "above", "(I)I"⟩
abbrev cX10_shortBy : ByteArray := prog_12_method_39_code
def yX10_shortBy : MethodName := ⟨RX10, "shortBy", "(IIII)I"⟩
abbrev cX10_rootOf : ByteArray := prog_12_method_40_code
def yX10_rootOf : MethodName := ⟨RX10, "rootOf", "(I)I"⟩
abbrev cX10_slantBy : ByteArray := prog_12_method_41_code
def yX10_slantBy : MethodName := ⟨RX10, "slantBy", "(I)I"⟩
abbrev cX10_slant : ByteArray := prog_12_method_42_code
def yX10_slant : MethodName := ⟨RX10, "slant", "(II)I"⟩
abbrev cX10_leastSlant : ByteArray := prog_12_method_43_code
def yX10_leastSlant : MethodName := ⟨RX10, "leastSlant", "()I"⟩
abbrev cX10_slants : ByteArray := prog_12_method_44_code
def yX10_slants : MethodName := ⟨RX10, "slants", "(II)I"⟩
abbrev cX10_saved : ByteArray := prog_12_method_45_code
def yX10_saved : MethodName := ⟨RX10, "saved", "(I)I"⟩
abbrev cX10_lengthBy : ByteArray := prog_12_method_46_code
def yX10_lengthBy : MethodName := ⟨RX10, "lengthBy", "(I)I"⟩
abbrev cX10_acrossBy : ByteArray := prog_12_method_47_code
def yX10_acrossBy : MethodName := ⟨RX10, "acrossBy", "(I)I"⟩
abbrev cX10_rollBy : ByteArray := prog_12_method_48_code
def yX10_rollBy : MethodName := ⟨RX10, "rollBy", "(I)I"⟩
abbrev cX10_isWide : ByteArray := prog_12_method_49_code
def yX10_isWide : MethodName := ⟨RX10, "isWide", "(I)Z"⟩
abbrev cX10_roll : ByteArray := prog_12_method_50_code
def yX10_roll : MethodName := ⟨RX10, "roll", "(III)I"⟩
abbrev cX10_cheaper : ByteArray := prog_12_method_51_code
def yX10_cheaper : MethodName := ⟨RX10, "cheaper", "(IIIIII)I"⟩
abbrev cX10_narrow : ByteArray := prog_12_method_52_code
def yX10_narrow : MethodName := ⟨RX10, "narrow", "(II)I"⟩
abbrev cX10_givenBy : ByteArray := prog_12_method_53_code
def yX10_givenBy : MethodName := ⟨RX10, "givenBy", "(II)I"⟩
abbrev cX10_goRound : ByteArray := prog_12_method_54_code
def yX10_goRound : MethodName := ⟨RX10, "goRound", "(II)Z"⟩
abbrev cX10_pieces : ByteArray := prog_12_method_55_code
def yX10_pieces : MethodName := ⟨RX10, "pieces", "(III)I"⟩
abbrev cX10_putShape : ByteArray := prog_12_method_56_code
def yX10_putShape : MethodName := ⟨RX10, "putShape", "(III)V"⟩
abbrev cX10_more : ByteArray := prog_12_method_57_code
def yX10_more : MethodName := ⟨RX10, "more", "(II)I"⟩
abbrev cX10_joinShapes : ByteArray := prog_12_method_58_code
def yX10_joinShapes : MethodName := ⟨RX10, "joinShapes", "(III)V"⟩
abbrev cX10_findShapes : ByteArray := prog_12_method_59_code
def yX10_findShapes : MethodName := ⟨RX10, "findShapes", "()V"⟩
abbrev cX10_layPieces : ByteArray := prog_12_method_60_code
def yX10_layPieces : MethodName := ⟨RX10, "layPieces", "(I)V"⟩
abbrev cX10_canCut : ByteArray := prog_12_method_61_code
def yX10_canCut : MethodName := ⟨RX10, "canCut", "(II)Z"⟩
abbrev cX10_areBoxes : ByteArray := prog_12_method_62_code
def yX10_areBoxes : MethodName := ⟨RX10, "areBoxes", "(I)Z"⟩
abbrev cX10_cut : ByteArray := prog_12_method_63_code
def yX10_cut : MethodName := ⟨RX10, "cut", "(II)I"⟩
abbrev cX10_paperOf : ByteArray := prog_12_method_64_code
def yX10_paperOf : MethodName := ⟨RX10, "paperOf", "(I)I"⟩
abbrev cX10_most : ByteArray := prog_12_method_65_code
def yX10_most : MethodName := ⟨RX10, "most", "(II)I"⟩
abbrev cX10_layMembers : ByteArray := prog_12_method_66_code
def yX10_layMembers : MethodName := ⟨RX10, "layMembers", "(I)V"⟩
abbrev cX10_layRow : ByteArray := prog_12_method_67_code
def yX10_layRow : MethodName := ⟨RX10, "layRow", "(I)Z"⟩
abbrev cX10_wrappedByRow : ByteArray := prog_12_method_68_code
def yX10_wrappedByRow : MethodName := ⟨RX10, "wrappedByRow", "()I"⟩
abbrev cX10_usedUp : ByteArray := prog_12_method_69_code
def yX10_usedUp : MethodName := ⟨RX10, "usedUp", "(II)I"⟩
abbrev cX10_pleatBy : ByteArray := prog_12_method_70_code
def yX10_pleatBy : MethodName := ⟨RX10, "pleatBy", "(I)I"⟩
abbrev cX10_pleat : ByteArray := prog_12_method_71_code
def yX10_pleat : MethodName := ⟨RX10, "pleat", "(II)I"⟩
abbrev cX10_match : ByteArray := prog_12_method_72_code
def yX10_match : MethodName := ⟨RX10, "match", "(I)I"⟩
abbrev cX10_ribbon : ByteArray := prog_12_method_73_code
def yX10_ribbon : MethodName := ⟨RX10, "ribbon", "(II)I"⟩
abbrev cX10_corners : ByteArray := prog_12_method_74_code
def yX10_corners : MethodName := ⟨RX10, "corners", "(III)I"⟩
abbrev cX10_sortSides : ByteArray := prog_12_method_75_code
def yX10_sortSides : MethodName := ⟨RX10, "sortSides", "(IIII)V"⟩
abbrev cX10_fitsIn : ByteArray := prog_12_method_76_code
def yX10_fitsIn : MethodName := ⟨RX10, "fitsIn", "(II)Z"⟩
abbrev cX10_fits : ByteArray := prog_12_method_77_code
def yX10_fits : MethodName := ⟨RX10, "fits", "(II)I"⟩
abbrev cX10_leastPaper : ByteArray := prog_12_method_78_code
def yX10_leastPaper : MethodName := ⟨RX10, "leastPaper", "(I)I"⟩
abbrev cX10_tight : ByteArray := prog_12_method_79_code
def yX10_tight : MethodName := ⟨RX10, "tight", "(I)I"⟩
abbrev cX10_findPairs : ByteArray := prog_12_method_80_code
def yX10_findPairs : MethodName := ⟨RX10, "findPairs", "()V"⟩
abbrev cX10_paperOfRow : ByteArray := prog_12_method_81_code
def yX10_paperOfRow : MethodName := ⟨RX10, "paperOfRow", "(I)I"⟩
abbrev cX10_paired : ByteArray := prog_12_method_82_code
def yX10_paired : MethodName := ⟨RX10, "paired", "(II)I"⟩
abbrev cX10_mark : ByteArray := prog_12_method_83_code
def yX10_mark : MethodName := ⟨RX10, "mark", "(II)I"⟩
abbrev cX10_iron : ByteArray := prog_12_method_84_code
def yX10_iron : MethodName := ⟨RX10, "iron", "(I)I"⟩
abbrev cX10_isHiddenFrom : ByteArray := prog_12_method_85_code
def yX10_isHiddenFrom : MethodName := ⟨RX10, "isHiddenFrom", "(II)Z"⟩
abbrev cX10_hidden : ByteArray := prog_12_method_86_code
def yX10_hidden : MethodName := ⟨RX10, "hidden", "(IIII)I"⟩
abbrev cX10_areCreasesOf : ByteArray := prog_12_method_87_code
def yX10_areCreasesOf : MethodName := ⟨RX10, "areCreasesOf", "(II)Z"⟩
abbrev cX10_undone : ByteArray := prog_12_method_88_code
def yX10_undone : MethodName := ⟨RX10, "undone", "(II)I"⟩
abbrev cX10_year : ByteArray := prog_12_method_89_code
def yX10_year : MethodName := ⟨RX10, "year", "(IIII)I"⟩
abbrev cX10_pass : ByteArray := prog_12_method_90_code
def yX10_pass : MethodName := ⟨RX10, "pass", "(I)I"⟩
abbrev cX10_passAll : ByteArray := prog_12_method_91_code
def yX10_passAll : MethodName := ⟨RX10, "passAll", "()V"⟩
abbrev cX10_image : ByteArray := prog_12_method_92_code
def yX10_image : MethodName := ⟨RX10, "image", "(I)I"⟩
abbrev cX10_restore : ByteArray := prog_12_method_93_code
def yX10_restore : MethodName := ⟨RX10, "restore", "(I)I"⟩
abbrev cX10_toldOf : ByteArray := prog_12_method_94_code
def yX10_toldOf : MethodName := ⟨RX10, "toldOf", "(II)I"⟩
abbrev cX10_told : ByteArray := prog_12_method_95_code
def yX10_told : MethodName := ⟨RX10, "told", "(I)I"⟩
def RJ6 : String := "java/lang/Integer"
def TJ6 : u_T := fun k => match k with
  | _ => ("", "", "", false)
def tyJ6 : Nat → FieldType := fun k => match k with
  | _ => .int
theorem nmJ6 : ∀ a, a < 0 → ∀ b, b < 0 → a ≠ b → (TJ6 a).2.1 ≠ (TJ6 b).2.1 := by decide +kernel
theorem tyJ6_ok : ∀ k, k < 0 → parseFieldDescriptor (TJ6 k).2.2.1 = some (tyJ6 k) := by decide +kernel
abbrev cJ6_bitCount_0f7a4 : ByteArray := prog_13_method_49_code
def yJ6_bitCount_0f7a4 : MethodName := ⟨RJ6, "bitCount", "(I)I"⟩
def RJ9 : String := "java/lang/Math"
def TJ9 : u_T := fun k => match k with
  | _ => ("", "", "", false)
def tyJ9 : Nat → FieldType := fun k => match k with
  | _ => .int
theorem nmJ9 : ∀ a, a < 0 → ∀ b, b < 0 → a ≠ b → (TJ9 a).2.1 ≠ (TJ9 b).2.1 := by decide +kernel
theorem tyJ9_ok : ∀ k, k < 0 → parseFieldDescriptor (TJ9 k).2.2.1 = some (tyJ9 k) := by decide +kernel
abbrev cJ9_max_7cf53 : ByteArray := prog_14_method_65_code
def yJ9_max_7cf53 : MethodName := ⟨RJ9, "max", "(II)I"⟩
abbrev cJ9_min_7cf53 : ByteArray := prog_14_method_69_code
def yJ9_min_7cf53 : MethodName := ⟨RJ9, "min", "(II)I"⟩
def RL : String := "PaperBoxesLaw"
abbrev cL_law : ByteArray := code
def yL_law : MethodName := ⟨RL, "law", "([I)Z"⟩
abbrev vwCl : List vw_C := [(RX0, TX0, 6), (RX1, TX1, 9), (RX2, TX2, 3), (RX3, TX3, 5), (RX4, TX4, 9), (RX5, TX5, 5), (RX6, TX6, 1), (RX7, TX7, 3), (RX8, TX8, 5), (RX9, TX9, 10), (RX10, TX10, 46)]
end
section
/-! THE SMALL MACHINE: the run's world as shapes and one table of numbers; one judgement mv_MW, a row an instruction -/
def mv_tb : List Cond := lw_tbl.filter goodWord
theorem mv_tb_in {w : Cond} (h : w ∈ lw_tbl) (g : goodWord w = true) : w ∈ mv_tb := List.mem_filter.mpr ⟨h, g⟩
theorem mv_tb_at {w : Cond} (i : Nat) (h : lw_tbl[i]? = some w) (g : goodWord w = true) : w ∈ mv_tb := mv_tb_in (List.mem_of_getElem? h) g
theorem mv_tb_good : GoodIn mv_tb mv_tb := fun w h => ⟨h, good_of_word (List.mem_filter.mp h).2⟩
theorem mv_tb_code {w : Cond} (hw : w ∈ mv_tb) : GoodIn mv_tb (w :: mv_tb) := fun v h => by
  rcases List.mem_cons.mp h with rfl | h
  · exact mv_tb_good _ hw
  · exact mv_tb_good _ h
/-- launch, classes, the two array classes, the first address that is ours, the arrays outside: address, length, contents -/
abbrev mv_G : Type := Launch × va_G × ClassId × ClassId × Nat × (Nat → Nat × Nat × (Nat → Int32))
def mv_l (G : mv_G) : Launch := G.1
def mv_D (G : mv_G) : va_G := G.2.1
def mv_cI (G : mv_G) : ClassId := G.2.2.1
def mv_cZ (G : mv_G) : ClassId := G.2.2.2.1
def mv_b (G : mv_G) : Nat := G.2.2.2.2.1
def mv_x (G : mv_G) : Nat → Nat × Nat × (Nat → Int32) := G.2.2.2.2.2
def mv_ty (G : mv_G) : List (ClassId × FieldType) := [(mv_cI G, .int), (mv_cZ G, .boolean)]
def mv_a (G : mv_G) (o : Nat) : Nat := if o < 900 then mv_b G + o else (mv_x G (o - 900)).1
def mv_v (G : mv_G) : Value → Value
  | .ref o => .ref (mv_a G o)
  | v => v
theorem mv_v_cat (G : mv_G) (v : Value) : (mv_v G v).category = v.category := by cases v <;> rfl
abbrev mv_S : Type := List ((Bool × Nat) ⊕ (Nat × List (Option (Option Nat))))
abbrev mv_H : Type := Nat → Nat → Int32
def mv_fv (G : mv_G) (n : Int32) : Option (Option Nat) → Value
  | none => .int n
  | some none => .null
  | some (some o) => .ref (mv_a G o)
def mv_f (G : mv_G) (hv : Nat → Int32) : Nat → List (Option (Option Nat)) → List Value
  | _, [] => []
  | k, x :: r => mv_fv G (hv k) x :: mv_f G hv (k + 1) r
def mv_e (G : mv_G) (hv : Nat → Int32) : ((Bool × Nat) ⊕ (Nat × List (Option (Option Nat)))) → va_E
  | .inl (b, n) => .inl (if b then mv_cZ G else mv_cI G, n, .inl hv)
  | .inr (ci, fl) => .inr (ci, mv_f G hv 0 fl)
def mv_c (G : mv_G) (sh : mv_S) (h : mv_H) : va_W := sh.mapIdx (fun o x => (mv_b G + o, mv_e G (h o) x))
def mv_u (h : mv_H) (o k : Nat) (v : Int32) : mv_H := fun o' => if o' = o then upd (h o) k v else h o'
def mv_z (h : mv_H) (o : Nat) : mv_H := fun o' => if o' = o then fun _ => 0 else h o'
theorem mv_u_s (h : mv_H) (o k : Nat) (v : Int32) : mv_u h o k v o = upd (h o) k v := by simp [mv_u]
theorem mv_u_n {h : mv_H} {o o' k : Nat} {v : Int32} (q : o' ≠ o) : mv_u h o k v o' = h o' := by simp [mv_u, q]
theorem mv_z_s (h : mv_H) (o : Nat) : mv_z h o o = fun _ => 0 := by simp [mv_z]
theorem mv_z_n {h : mv_H} {o o' : Nat} (q : o' ≠ o) : mv_z h o o' = h o' := by simp [mv_z, q]
theorem mv_c_len (G : mv_G) (sh : mv_S) (h : mv_H) : (mv_c G sh h).length = sh.length := by simp [mv_c]
theorem mv_c_get {G : mv_G} {sh : mv_S} {h : mv_H} {o : Nat} {x : (Bool × Nat) ⊕ (Nat × List (Option (Option Nat)))} (hx : sh[o]? = some x) : (mv_c G sh h)[o]? = some (mv_b G + o, mv_e G (h o) x) := by
  simp [mv_c, List.getElem?_mapIdx, hx]
theorem mv_c_inv {G : mv_G} {sh : mv_S} {h : mv_H} {o : Nat} {q : Nat × va_E} (hq : (mv_c G sh h)[o]? = some q) : ∃ x, sh[o]? = some x ∧ q = (mv_b G + o, mv_e G (h o) x) := by
  simp only [mv_c, List.getElem?_mapIdx, Option.map_eq_some_iff] at hq
  obtain ⟨x, h1, h2⟩ := hq
  exact ⟨x, h1, h2.symm⟩
theorem mv_c_set {G : mv_G} {sh : mv_S} {h h' : mv_H} {o : Nat} {x' : (Bool × Nat) ⊕ (Nat × List (Option (Option Nat)))} (hn : ∀ i, i ≠ o → h' i = h i) : (mv_c G sh h).set o (mv_b G + o, mv_e G (h' o) x') = mv_c G (sh.set o x') h' := by
  apply List.ext_getElem?
  intro i
  simp only [mv_c, List.getElem?_set, List.getElem?_mapIdx, List.length_mapIdx]
  by_cases hi : o = i
  · subst hi
    by_cases hl : o < sh.length <;> simp [hl]
  · simp only [hi, if_false]
    rw [hn i (fun e => hi e.symm)]
theorem mv_set_same {sh : mv_S} {o : Nat} {x : (Bool × Nat) ⊕ (Nat × List (Option (Option Nat)))} (hx : sh[o]? = some x) : sh.set o x = sh := by
  apply List.ext_getElem?
  intro i
  rw [List.getElem?_set]
  by_cases hi : o = i
  · subst hi
    have := (List.getElem?_eq_some_iff.mp hx).1
    simp only [if_true, this]
    exact hx.symm
  · simp [hi]
theorem mv_f_get {G : mv_G} {hv : Nat → Int32} : ∀ (fl : List (Option (Option Nat))) (j k : Nat) (x : Option (Option Nat)), fl[k]? = some x → (mv_f G hv j fl)[k]? = some (mv_fv G (hv (j + k)) x)
  | [], _, _, _, h => by simp at h
  | y :: r, j, 0, x, h => by simp at h; subst h; rfl
  | y :: r, j, k + 1, x, h => by
    have := mv_f_get (G := G) (hv := hv) r (j + 1) k x (by simpa using h)
    simp only [mv_f, List.getElem?_cons_succ]
    rw [this]
    congr 3
    omega
theorem mv_f_len {G : mv_G} {hv : Nat → Int32} : ∀ (fl : List (Option (Option Nat))) (j : Nat), (mv_f G hv j fl).length = fl.length
  | [], _ => rfl
  | _ :: r, j => by simp [mv_f, mv_f_len r (j + 1)]
theorem mv_f_congr {G : mv_G} {hv hv' : Nat → Int32} : ∀ (fl : List (Option (Option Nat))) (j : Nat), (∀ k, j ≤ k → hv k = hv' k) → mv_f G hv j fl = mv_f G hv' j fl
  | [], _, _ => rfl
  | _ :: r, j, h => by simp only [mv_f]; rw [h j (Nat.le_refl j), mv_f_congr r (j + 1) (fun k hk => h k (by omega))]
theorem mv_f_seti {G : mv_G} {hv : Nat → Int32} {v : Int32} : ∀ (fl : List (Option (Option Nat))) (j k : Nat), fl[k]? = some none → (mv_f G hv j fl).set k (.int v) = mv_f G (upd hv (j + k) v) j fl
  | [], _, _, h => by simp at h
  | y :: r, j, 0, h => by
    simp at h; subst h
    simp only [mv_f, List.set_cons_zero, mv_fv, Nat.add_zero]
    congr 1
    · simp [upd]
    · exact mv_f_congr r (j + 1) (fun k hk => by have : k ≠ j := by omega
                                                 simp [upd, this])
  | y :: r, j, k + 1, h => by
    have e := mv_f_seti (G := G) (hv := hv) (v := v) r (j + 1) k (by simpa using h)
    simp only [mv_f, List.set_cons_succ]
    rw [e, show j + 1 + k = j + (k + 1) by omega]
    congr 2
    have : j ≠ j + (k + 1) := by omega
    simp [upd, this]
theorem mv_f_setr {G : mv_G} {hv : Nat → Int32} {r0 : Nat} : ∀ (fl : List (Option (Option Nat))) (j k : Nat), (mv_f G hv j fl).set k (.ref (mv_a G r0)) = mv_f G hv j (fl.set k (some (some r0)))
  | [], _, _ => rfl
  | y :: r, j, 0 => rfl
  | y :: r, j, k + 1 => by
    simp only [mv_f, List.set_cons_succ]
    rw [mv_f_setr r (j + 1) k]
/-- the world in the heap -/
def mv_w (G : mv_G) (sh : mv_S) (h : mv_H) (H : Heap) : Prop := va_P (mv_D G) vwCl (mv_c G sh h) H ∧ H.size = mv_b G + sh.length ∧ sh.length ≤ 900
def mv_A (G : mv_G) : Nat → Prop := fun q => mv_b G ≤ q
theorem mv_dis (G : mv_G) (sh : mv_S) (h : mv_H) : va_D (mv_A G) (mv_c G sh h) := by
  refine ⟨fun i j p q hi hj e => ?_, fun k q hk => ?_⟩
  · obtain ⟨x, -, rfl⟩ := mv_c_inv hi
    obtain ⟨y, -, rfl⟩ := mv_c_inv hj
    have : mv_b G + i = mv_b G + j := e
    omega
  · obtain ⟨x, -, rfl⟩ := mv_c_inv hk
    exact Nat.le_add_right _ _
theorem mv_own {G : mv_G} {sh : mv_S} {h : mv_H} {H : Heap} {o : Nat} {x : (Bool × Nat) ⊕ (Nat × List (Option (Option Nat)))} (hw : mv_w G sh h H) (hx : sh[o]? = some x) : mv_a G o = mv_b G + o := by
  have h1 := (List.getElem?_eq_some_iff.mp hx).1
  have h2 := hw.2.2
  simp only [mv_a]
  rw [if_pos (by omega)]
def mv_nf : List (String × Nat × String × String × String × String) := [("PaperBoxes", 64, "PaperBoxes$Goods", "boxes", "LPaperBoxes$Shelf;", "PaperBoxes"), ("PaperBoxes", 72, "PaperBoxes$Goods", "things", "LPaperBoxes$Shelf;", "PaperBoxes"), ("PaperBoxes", 83, "PaperBoxes$Goods", "sheets", "LPaperBoxes$Shelf;", "PaperBoxes"), ("PaperBoxes", 312, "PaperBoxes$Goods", "folds", "LPaperBoxes$Marks;", "PaperBoxes"), ("PaperBoxes", 319, "PaperBoxes$Goods", "creases", "LPaperBoxes$Marks;", "PaperBoxes")]
def mv_nm : List (String × Nat × MethodName × String) := [("PaperBoxes", 9, ⟨"PaperBoxes$Goods", "<init>", "()V"⟩, "PaperBoxes"), ("PaperBoxes", 24, ⟨"PaperBoxes$Pad", "<init>", "()V"⟩, "PaperBoxes"), ("PaperBoxes", 31, ⟨"PaperBoxes$Wrap", "<init>", "()V"⟩, "PaperBoxes"), ("PaperBoxes", 38, ⟨"PaperBoxes$Pieces", "<init>", "()V"⟩, "PaperBoxes"), ("PaperBoxes", 45, ⟨"PaperBoxes$Cutter", "<init>", "()V"⟩, "PaperBoxes"), ("PaperBoxes", 52, ⟨"PaperBoxes$Order", "<init>", "()V"⟩, "PaperBoxes"), ("PaperBoxes", 59, ⟨"PaperBoxes$Pairing", "<init>", "()V"⟩, "PaperBoxes"), ("PaperBoxes$Shelf", 28, ⟨"PaperBoxes", "isNumber", "(I)Z"⟩, "PaperBoxes"), ("PaperBoxes$Shelf", 32, ⟨"PaperBoxes", "isIn", "(II)Z"⟩, "PaperBoxes"), ("PaperBoxes$Pad", 53, ⟨"PaperBoxes", "isWithin", "(III)Z"⟩, "PaperBoxes"), ("PaperBoxes$Wrap", 59, ⟨"PaperBoxes", "axisOf", "(I)I"⟩, "PaperBoxes"), ("PaperBoxes$Wrap", 62, ⟨"PaperBoxes", "turnOf", "(I)I"⟩, "PaperBoxes"), ("PaperBoxes$Wrap", 75, ⟨"PaperBoxes", "rootAbove", "(I)I"⟩, "PaperBoxes"), ("PaperBoxes$Pieces", 39, ⟨"PaperBoxes", "isIn", "(II)Z"⟩, "PaperBoxes"), ("PaperBoxes$Cutter", 31, ⟨"PaperBoxes", "isNumber", "(I)Z"⟩, "PaperBoxes"), ("PaperBoxes$Cutter", 35, ⟨"PaperBoxes", "isIn", "(II)Z"⟩, "PaperBoxes"), ("PaperBoxes$Cutter", 60, ⟨"PaperBoxes", "isWithin", "(III)Z"⟩, "PaperBoxes"), ("PaperBoxes$Order", 21, ⟨"PaperBoxes", "isNumber", "(I)Z"⟩, "PaperBoxes"), ("PaperBoxes$Order", 58, ⟨"PaperBoxes", "isIn", "(II)Z"⟩, "PaperBoxes"), ("PaperBoxes$Pairing", 24, ⟨"PaperBoxes", "isNumber", "(I)Z"⟩, "PaperBoxes"), ("PaperBoxes$Pairing", 40, ⟨"PaperBoxes", "isIn", "(II)Z"⟩, "PaperBoxes")]
/-- what lies outside and is never written, and the words on nest mates -/
def mv_X (G : mv_G) (U : State) (H : Heap) : Prop :=
  (∀ j, j < 3 → (mv_x G j).1 < mv_b G ∧ va_X (mv_x G j).1 (mv_x G j).2.1 (mv_x G j).2.2 U H) ∧
  va_Z "PaperBoxes" "SETTINGS_LEAST" "[I" (.ref (mv_x G 1).1) (mv_A G) U H ∧ va_Z "PaperBoxes" "SETTINGS_MOST" "[I" (.ref (mv_x G 2).1) (mv_A G) U H ∧
  (∀ q ∈ mv_nf, va_Nw (.fieldLinkNest q.1 q.2.1 q.2.2.1 q.2.2.2.1 q.2.2.2.2.1 q.2.2.2.2.2) U) ∧ (∀ q ∈ mv_nm, va_Nw (.methodLinkNest q.1 q.2.1 q.2.2.1 q.2.2.2) U)
theorem mv_X.moved {G : mv_G} {s U : State} {H H' : Heap} (hW : s.WarmedH U.vm) (h : mv_X G s H) (hq : ∀ q, q < mv_b G → H'[q]? = H[q]?) : mv_X G U H' := by
  obtain ⟨h1, h2, h3, h4, h5⟩ := h
  refine ⟨fun j hj => ⟨(h1 j hj).1, ((h1 j hj).2.moved hW.alike).kept (hq _ (h1 j hj).1)⟩, (h2.moved hW.alike).kept (fun a _ ha => hq a (Nat.not_le.mp ha)), (h3.moved hW.alike).kept (fun a _ ha => hq a (Nat.not_le.mp ha)), fun q hm => (h4 q hm).warmF hW, fun q hm => (h5 q hm).warmM hW⟩
theorem mv_X.same {G : mv_G} {u U : State} {H : Heap} (hv : u.vm = U.vm) (h : mv_X G u H) : mv_X G U H := by
  have ha : u.vm.Alike U.vm := by rw [hv]; exact Vm.Alike.refl U.vm
  obtain ⟨h1, h2, h3, h4, h5⟩ := h
  exact ⟨fun j hj => ⟨(h1 j hj).1, (h1 j hj).2.moved ha⟩, h2.moved ha, h3.moved ha, fun q hm => (h4 q hm).same rfl hv, fun q hm => (h5 q hm).same rfl hv⟩
/-- a method: its name, code, locals, answer, cells and slots that it makes -/
abbrev mv_M : Type := MethodName × ByteArray × Nat × Option FieldType × Nat × Nat
def mv_Cx (G : mv_G) (M : mv_M) (p : Program) (s : State) (m : MethodId) (args : Array Value) (meth : Method) (c : Code) : Prop :=
  p.tables.exec = Jvm.exec ∧ c.code = M.2.1 ∧ meth.sig.returnType = M.2.2.2.1 ∧ c.maxLocals = M.2.2.1 ∧ s.vm.findClass M.1.cls = some m.cls ∧ (∀ w ∈ mv_tb, w.before args s = true) ∧ meth.locks = false ∧ (M.1.name = "<init>" → meth.name = "<init>") ∧ va_K (mv_D G) vwCl (mv_ty G) s ∧ mv_X G s s.heap ∧ mv_b G ≤ s.heap.size
def mv_L (G : mv_G) (ls : Array Slot) (nL : Nat) (lv : List Value) : Prop := ls.size = nL ∧ lv_wf ls ∧ ∀ (i : Nat) (v : Value), lv[i]? = some v → (∀ b, v ≠ .float b) → ls[i]? = some (.val (mv_v G v))
def mv_MW (G : mv_G) (M : mv_M) (R : Room) (Zf : List Frame → Array Value → State → State → Prop) (cells slots pc : Nat) (lv st : List Value) (sh : mv_S) (h : mv_H) : Prop :=
  ∀ (p : Program) (e : Env) (s : State) (m : MethodId) (args : Array Value) (below : List Frame) (meth : Method) (c : Code), mv_Cx G M p s m args meth c → ∀ (H : Heap) (locs : List Loc) (ls : Array Slot), mv_w G sh h H → va_S (mv_A G) s.heap H locs → mv_L G ls M.2.2.1 lv →
    W p (mv_l G) e R s m args below meth c H locs cells slots (Zf below args s) (F0 m pc ls (st.map (mv_v G)))
/-- a step's instruction and where it goes on -/
abbrev mv_dc (cc : ByteArray) (pc : Nat) (i : Instr) (len pc' : Nat) : Prop := decode cc pc = .ok (i, len) ∧ pc + len = pc'
abbrev mv_db (cc : ByteArray) (pc : Nat) (i : Instr) (off : Int) (pc' tgt : Nat) : Prop := decode cc pc = .ok (i, 3) ∧ pc + 3 = pc' ∧ (pc : Int) + off = (tgt : Int)
def mv_sat {ρ : Type} (o : Option ρ) (Q : ρ → Prop) : Prop := ∃ r, o = some r ∧ Q r
def mv_let {α β : Type} (a : α) (f : α → β) : β := f a
theorem mv_sat_none {ρ : Type} {Q : ρ → Prop} (h : mv_sat none Q) : False := by obtain ⟨r, h, -⟩ := h; cases h
theorem mv_sat_some {ρ : Type} {r : ρ} {Q : ρ → Prop} (h : mv_sat (some r) Q) : Q r := by obtain ⟨r, h, q⟩ := h; cases h; exact q
theorem mv_sat_bind {ρ σ : Type} {o : Option ρ} {f : ρ → Option σ} {Q : σ → Prop} (h : mv_sat (o.bind f) Q) : mv_sat o (fun r => mv_sat (f r) Q) := by
  obtain ⟨r, h, q⟩ := h
  cases o with
  | none => cases h
  | some a => exact ⟨a, rfl, r, h, q⟩
theorem mv_sat_mono {ρ : Type} {o : Option ρ} {Q Q' : ρ → Prop} (h : mv_sat o Q) (f : ∀ r, Q r → Q' r) : mv_sat o Q' := by
  obtain ⟨r, h, q⟩ := h
  exact ⟨r, h, f r q⟩
theorem mv_sat_t {ρ : Type} {c : Prop} {d : Decidable c} {A B : Option ρ} {Q : ρ → Prop} (h : mv_sat (@ite _ c d A B) Q) (hc : c) : mv_sat A Q := by rwa [if_pos hc] at h
theorem mv_sat_f {ρ : Type} {c : Prop} {d : Decidable c} {A B : Option ρ} {Q : ρ → Prop} (h : mv_sat (@ite _ c d A B) Q) (hc : ¬ c) : mv_sat B Q := by rwa [if_neg hc] at h
theorem mv_sat_g {ρ : Type} {c : Prop} {d : Decidable c} {A : Option ρ} {Q : ρ → Prop} (h : mv_sat (@ite _ c d A none) Q) : c ∧ mv_sat A Q := by
  by_cases hc : c
  · exact ⟨hc, mv_sat_t h hc⟩
  · exact (mv_sat_none (mv_sat_f h hc)).elim
/-- the place is in the row -/
abbrev mv_in (i : Int32) (n : Nat) : Prop := 0 ≤ i ∧ i.toNatClampNeg < n
theorem mv_in_vp {i : Int32} {n : Nat} (h : mv_in i n) : vp_in i n := by
  rintro (q | q)
  · exact absurd h.1 (Int32.not_le.mpr q)
  · have := h.2
    omega
end
section
/-! rows of the small machine: one an instruction -/
section MvRows
variable {G : mv_G} {M : mv_M} {R : Room} {Zf : List Frame → Array Value → State → State → Prop} {cells slots pc pc' tgt : Nat} {lv st : List Value} {sh : mv_S} {h : mv_H}
theorem mv_iconst {n : Int} (v : Int32) (hd : mv_dc M.2.1 pc (.iconst n) 1 pc') (hv : Int32.ofInt n = v) (k : mv_MW G M R Zf cells slots pc' lv (.int v :: st) sh h) : mv_MW G M R Zf cells slots pc lv st sh h := by
  obtain ⟨hd, rfl⟩ := hd
  exact fun p e s m args below meth c C H locs ls hw hS hl => lv_iconst C.1 C.2.1 hd hv (k p e s m args below meth c C H locs ls hw hS hl)
theorem mv_bipush {n : Int} (v : Int32) (hd : mv_dc M.2.1 pc (.bipush n) 2 pc') (hv : (Int8.ofInt n).toInt32 = v) (k : mv_MW G M R Zf cells slots pc' lv (.int v :: st) sh h) : mv_MW G M R Zf cells slots pc lv st sh h := by
  obtain ⟨hd, rfl⟩ := hd
  exact fun p e s m args below meth c C H locs ls hw hS hl => lv_bipush C.1 C.2.1 hd hv (k p e s m args below meth c C H locs ls hw hS hl)
theorem mv_sipush {n : Int} (v : Int32) (hd : mv_dc M.2.1 pc (.sipush n) 3 pc') (hv : (Int16.ofInt n).toInt32 = v) (k : mv_MW G M R Zf cells slots pc' lv (.int v :: st) sh h) : mv_MW G M R Zf cells slots pc lv st sh h := by
  obtain ⟨hd, rfl⟩ := hd
  exact fun p e s m args below meth c C H locs ls hw hS hl => lv_sipush C.1 C.2.1 hd hv (k p e s m args below meth c C H locs ls hw hS hl)
theorem mv_lconst {n : Fin 2} (v : Int64) (hd : mv_dc M.2.1 pc (.lconst n) 1 pc') (hv : Int64.ofNat (n : Nat) = v) (k : mv_MW G M R Zf cells slots pc' lv (.long v :: st) sh h) : mv_MW G M R Zf cells slots pc lv st sh h := by
  obtain ⟨hd, rfl⟩ := hd
  exact fun p e s m args below meth c C H locs ls hw hS hl => lv_lconst C.1 C.2.1 hd hv (k p e s m args below meth c C H locs ls hw hS hl)
theorem mv_ldc {i : Nat} {v : Int32} (hd : mv_dc M.2.1 pc (.ldc i) 2 pc') (hc : Cond.constant M.1.cls i v ∈ mv_tb) (k : mv_MW G M R Zf cells slots pc' lv (.int v :: st) sh h) : mv_MW G M R Zf cells slots pc lv st sh h := by
  obtain ⟨hd, rfl⟩ := hd
  exact fun p e s m args below meth c C H locs ls hw hS hl => lv_ldc C.1 C.2.1 C.2.2.2.2.1 (C.2.2.2.2.2.1 _ hc) hd (k p e s m args below meth c C H locs ls hw hS hl)
theorem mv_ldcw {i : Nat} {v : Int32} (hd : mv_dc M.2.1 pc (.ldc_w i) 3 pc') (hc : Cond.constant M.1.cls i v ∈ mv_tb) (k : mv_MW G M R Zf cells slots pc' lv (.int v :: st) sh h) : mv_MW G M R Zf cells slots pc lv st sh h := by
  obtain ⟨hd, rfl⟩ := hd
  exact fun p e s m args below meth c C H locs ls hw hS hl => lv_ldcw C.1 C.2.1 C.2.2.2.2.1 (C.2.2.2.2.2.1 _ hc) hd (k p e s m args below meth c C H locs ls hw hS hl)
theorem mv_ldc2 {i : Nat} {v : Int64} (hd : mv_dc M.2.1 pc (.ldc2_w i) 3 pc') (hc : Cond.constantLong M.1.cls i v ∈ mv_tb) (k : mv_MW G M R Zf cells slots pc' lv (.long v :: st) sh h) : mv_MW G M R Zf cells slots pc lv st sh h := by
  obtain ⟨hd, rfl⟩ := hd
  exact fun p e s m args below meth c C H locs ls hw hS hl => lv_ldc2 C.1 C.2.1 C.2.2.2.2.1 (C.2.2.2.2.2.1 _ hc) hd (k p e s m args below meth c C H locs ls hw hS hl)
theorem mv_iload_n {j : Fin 4} {x : Int32} (hd : mv_dc M.2.1 pc (.iload_n j) 1 pc') (hv : lv[(j : Nat)]? = some (.int x)) (k : mv_MW G M R Zf cells slots pc' lv (.int x :: st) sh h) : mv_MW G M R Zf cells slots pc lv st sh h := by
  obtain ⟨hd, rfl⟩ := hd
  exact fun p e s m args below meth c C H locs ls hw hS hl => lv_iload_n C.1 C.2.1 hd rfl (hl.2.2 _ _ hv (fun _ q => by cases q)) (k p e s m args below meth c C H locs ls hw hS hl)
theorem mv_iload {i : Nat} {x : Int32} (hd : mv_dc M.2.1 pc (.iload i) 2 pc') (hv : lv[i]? = some (.int x)) (k : mv_MW G M R Zf cells slots pc' lv (.int x :: st) sh h) : mv_MW G M R Zf cells slots pc lv st sh h := by
  obtain ⟨hd, rfl⟩ := hd
  exact fun p e s m args below meth c C H locs ls hw hS hl => lv_iload C.1 C.2.1 hd (hl.2.2 _ _ hv (fun _ q => by cases q)) (k p e s m args below meth c C H locs ls hw hS hl)
theorem mv_lload_n {j : Fin 4} {x : Int64} (hd : mv_dc M.2.1 pc (.lload_n j) 1 pc') (hv : lv[(j : Nat)]? = some (.long x)) (k : mv_MW G M R Zf cells slots pc' lv (.long x :: st) sh h) : mv_MW G M R Zf cells slots pc lv st sh h := by
  obtain ⟨hd, rfl⟩ := hd
  exact fun p e s m args below meth c C H locs ls hw hS hl => lv_lload_n C.1 C.2.1 hd rfl (hl.2.2 _ _ hv (fun _ q => by cases q)) (k p e s m args below meth c C H locs ls hw hS hl)
theorem mv_lload {i : Nat} {x : Int64} (hd : mv_dc M.2.1 pc (.lload i) 2 pc') (hv : lv[i]? = some (.long x)) (k : mv_MW G M R Zf cells slots pc' lv (.long x :: st) sh h) : mv_MW G M R Zf cells slots pc lv st sh h := by
  obtain ⟨hd, rfl⟩ := hd
  exact fun p e s m args below meth c C H locs ls hw hS hl => lv_lload C.1 C.2.1 hd (hl.2.2 _ _ hv (fun _ q => by cases q)) (k p e s m args below meth c C H locs ls hw hS hl)
theorem mv_aload_n {j : Fin 4} {x : Nat} (hd : mv_dc M.2.1 pc (.aload_n j) 1 pc') (hv : lv[(j : Nat)]? = some (.ref x)) (k : mv_MW G M R Zf cells slots pc' lv (.ref x :: st) sh h) : mv_MW G M R Zf cells slots pc lv st sh h := by
  obtain ⟨hd, rfl⟩ := hd
  exact fun p e s m args below meth c C H locs ls hw hS hl => lv_aload_n C.1 C.2.1 hd rfl (hl.2.2 _ _ hv (fun _ q => by cases q)) (k p e s m args below meth c C H locs ls hw hS hl)
theorem mv_aload {i : Nat} {x : Nat} (hd : mv_dc M.2.1 pc (.aload i) 2 pc') (hv : lv[i]? = some (.ref x)) (k : mv_MW G M R Zf cells slots pc' lv (.ref x :: st) sh h) : mv_MW G M R Zf cells slots pc lv st sh h := by
  obtain ⟨hd, rfl⟩ := hd
  exact fun p e s m args below meth c C H locs ls hw hS hl => lv_aload C.1 C.2.1 hd (hl.2.2 _ _ hv (fun _ q => by cases q)) (k p e s m args below meth c C H locs ls hw hS hl)
theorem mv_aload_nN {j : Fin 4} (hd : mv_dc M.2.1 pc (.aload_n j) 1 pc') (hv : lv[(j : Nat)]? = some .null) (k : mv_MW G M R Zf cells slots pc' lv (.null :: st) sh h) : mv_MW G M R Zf cells slots pc lv st sh h := by
  obtain ⟨hd, rfl⟩ := hd
  exact fun p e s m args below meth c C H locs ls hw hS hl => lv_aload_nN C.1 C.2.1 hd rfl (hl.2.2 _ _ hv (fun _ q => by cases q)) (k p e s m args below meth c C H locs ls hw hS hl)
theorem mv_null (hd : mv_dc M.2.1 pc .aconst_null 1 pc') (k : mv_MW G M R Zf cells slots pc' lv (.null :: st) sh h) : mv_MW G M R Zf cells slots pc lv st sh h := by
  obtain ⟨hd, rfl⟩ := hd
  exact fun p e s m args below meth c C H locs ls hw hS hl => lv_null C.1 C.2.1 hd (k p e s m args below meth c C H locs ls hw hS hl)
theorem mv_iadd {x y : Int32} (hd : mv_dc M.2.1 pc .iadd 1 pc') (k : mv_MW G M R Zf cells slots pc' lv (.int (x + y) :: st) sh h) : mv_MW G M R Zf cells slots pc lv (.int y :: .int x :: st) sh h := by
  obtain ⟨hd, rfl⟩ := hd
  exact fun p e s m args below meth c C H locs ls hw hS hl => lv_iadd C.1 C.2.1 hd (k p e s m args below meth c C H locs ls hw hS hl)
theorem mv_isub {x y : Int32} (hd : mv_dc M.2.1 pc .isub 1 pc') (k : mv_MW G M R Zf cells slots pc' lv (.int (x - y) :: st) sh h) : mv_MW G M R Zf cells slots pc lv (.int y :: .int x :: st) sh h := by
  obtain ⟨hd, rfl⟩ := hd
  exact fun p e s m args below meth c C H locs ls hw hS hl => lv_isub C.1 C.2.1 hd (k p e s m args below meth c C H locs ls hw hS hl)
theorem mv_imul {x y : Int32} (hd : mv_dc M.2.1 pc .imul 1 pc') (k : mv_MW G M R Zf cells slots pc' lv (.int (x * y) :: st) sh h) : mv_MW G M R Zf cells slots pc lv (.int y :: .int x :: st) sh h := by
  obtain ⟨hd, rfl⟩ := hd
  exact fun p e s m args below meth c C H locs ls hw hS hl => lv_imul C.1 C.2.1 hd (k p e s m args below meth c C H locs ls hw hS hl)
theorem mv_iand {x y : Int32} (hd : mv_dc M.2.1 pc .iand 1 pc') (k : mv_MW G M R Zf cells slots pc' lv (.int (x &&& y) :: st) sh h) : mv_MW G M R Zf cells slots pc lv (.int y :: .int x :: st) sh h := by
  obtain ⟨hd, rfl⟩ := hd
  exact fun p e s m args below meth c C H locs ls hw hS hl => lv_iand C.1 C.2.1 hd (k p e s m args below meth c C H locs ls hw hS hl)
theorem mv_ior {x y : Int32} (hd : mv_dc M.2.1 pc .ior 1 pc') (k : mv_MW G M R Zf cells slots pc' lv (.int (x ||| y) :: st) sh h) : mv_MW G M R Zf cells slots pc lv (.int y :: .int x :: st) sh h := by
  obtain ⟨hd, rfl⟩ := hd
  exact fun p e s m args below meth c C H locs ls hw hS hl => lv_ior C.1 C.2.1 hd (k p e s m args below meth c C H locs ls hw hS hl)
theorem mv_ixor {x y : Int32} (hd : mv_dc M.2.1 pc .ixor 1 pc') (k : mv_MW G M R Zf cells slots pc' lv (.int (x ^^^ y) :: st) sh h) : mv_MW G M R Zf cells slots pc lv (.int y :: .int x :: st) sh h := by
  obtain ⟨hd, rfl⟩ := hd
  exact fun p e s m args below meth c C H locs ls hw hS hl => lv_ixor C.1 C.2.1 hd (k p e s m args below meth c C H locs ls hw hS hl)
theorem mv_ishl {x y : Int32} (hd : mv_dc M.2.1 pc .ishl 1 pc') (k : mv_MW G M R Zf cells slots pc' lv (.int (x <<< (y &&& 31)) :: st) sh h) : mv_MW G M R Zf cells slots pc lv (.int y :: .int x :: st) sh h := by
  obtain ⟨hd, rfl⟩ := hd
  exact fun p e s m args below meth c C H locs ls hw hS hl => lv_ishl C.1 C.2.1 hd (k p e s m args below meth c C H locs ls hw hS hl)
theorem mv_ishr {x y : Int32} (hd : mv_dc M.2.1 pc .ishr 1 pc') (k : mv_MW G M R Zf cells slots pc' lv (.int (x >>> (y &&& 31)) :: st) sh h) : mv_MW G M R Zf cells slots pc lv (.int y :: .int x :: st) sh h := by
  obtain ⟨hd, rfl⟩ := hd
  exact fun p e s m args below meth c C H locs ls hw hS hl => lv_ishr C.1 C.2.1 hd (k p e s m args below meth c C H locs ls hw hS hl)
theorem mv_iushr {x y : Int32} (hd : mv_dc M.2.1 pc .iushr 1 pc') (k : mv_MW G M R Zf cells slots pc' lv (.int ((x.toUInt32 >>> (y.toUInt32 &&& Int32.toUInt32 31)).toInt32) :: st) sh h) : mv_MW G M R Zf cells slots pc lv (.int y :: .int x :: st) sh h := by
  obtain ⟨hd, rfl⟩ := hd
  exact fun p e s m args below meth c C H locs ls hw hS hl => lv_iushr C.1 C.2.1 hd rfl (k p e s m args below meth c C H locs ls hw hS hl)
theorem mv_ineg {x : Int32} (hd : mv_dc M.2.1 pc .ineg 1 pc') (k : mv_MW G M R Zf cells slots pc' lv (.int (-x) :: st) sh h) : mv_MW G M R Zf cells slots pc lv (.int x :: st) sh h := by
  obtain ⟨hd, rfl⟩ := hd
  exact fun p e s m args below meth c C H locs ls hw hS hl => lv_ineg C.1 C.2.1 hd (k p e s m args below meth c C H locs ls hw hS hl)
theorem mv_i2l {x : Int32} (hd : mv_dc M.2.1 pc .i2l 1 pc') (k : mv_MW G M R Zf cells slots pc' lv (.long x.toInt64 :: st) sh h) : mv_MW G M R Zf cells slots pc lv (.int x :: st) sh h := by
  obtain ⟨hd, rfl⟩ := hd
  exact fun p e s m args below meth c C H locs ls hw hS hl => lv_i2l C.1 C.2.1 hd rfl (k p e s m args below meth c C H locs ls hw hS hl)
theorem mv_l2i {x : Int64} (hd : mv_dc M.2.1 pc .l2i 1 pc') (k : mv_MW G M R Zf cells slots pc' lv (.int x.toInt32 :: st) sh h) : mv_MW G M R Zf cells slots pc lv (.long x :: st) sh h := by
  obtain ⟨hd, rfl⟩ := hd
  exact fun p e s m args below meth c C H locs ls hw hS hl => lv_l2i C.1 C.2.1 hd rfl (k p e s m args below meth c C H locs ls hw hS hl)
theorem mv_ladd {x y : Int64} (hd : mv_dc M.2.1 pc .ladd 1 pc') (k : mv_MW G M R Zf cells slots pc' lv (.long (x + y) :: st) sh h) : mv_MW G M R Zf cells slots pc lv (.long y :: .long x :: st) sh h := by
  obtain ⟨hd, rfl⟩ := hd
  exact fun p e s m args below meth c C H locs ls hw hS hl => lv_ladd C.1 C.2.1 hd (k p e s m args below meth c C H locs ls hw hS hl)
theorem mv_lmul {x y : Int64} (hd : mv_dc M.2.1 pc .lmul 1 pc') (k : mv_MW G M R Zf cells slots pc' lv (.long (x * y) :: st) sh h) : mv_MW G M R Zf cells slots pc lv (.long y :: .long x :: st) sh h := by
  obtain ⟨hd, rfl⟩ := hd
  exact fun p e s m args below meth c C H locs ls hw hS hl => lv_lmul C.1 C.2.1 hd (k p e s m args below meth c C H locs ls hw hS hl)
theorem mv_lcmp {x y : Int64} (hd : mv_dc M.2.1 pc .lcmp 1 pc') (k : mv_MW G M R Zf cells slots pc' lv (.int (lg_cmp x y) :: st) sh h) : mv_MW G M R Zf cells slots pc lv (.long y :: .long x :: st) sh h := by
  obtain ⟨hd, rfl⟩ := hd
  exact fun p e s m args below meth c C H locs ls hw hS hl => W.lcmp C.1 C.2.1 hd (k p e s m args below meth c C H locs ls hw hS hl)
theorem mv_idiv {x y : Int32} {ρ : Type} {K : Option ρ} {Q : ρ → Prop} (hd : mv_dc M.2.1 pc .idiv 1 pc') (hs : mv_sat (if ¬ y = 0 then K else none) Q) (k : mv_sat K Q → mv_MW G M R Zf cells slots pc' lv (.int (x / y) :: st) sh h) : mv_MW G M R Zf cells slots pc lv (.int y :: .int x :: st) sh h := by
  obtain ⟨hd, rfl⟩ := hd
  obtain ⟨hg, hs⟩ := mv_sat_g hs
  exact fun p e s m args below meth c C H locs ls hw hS hl => lv_idiv C.1 C.2.1 hd hg (k hs p e s m args below meth c C H locs ls hw hS hl)
theorem mv_irem {x y : Int32} {ρ : Type} {K : Option ρ} {Q : ρ → Prop} (hd : mv_dc M.2.1 pc .irem 1 pc') (hs : mv_sat (if ¬ y = 0 then K else none) Q) (k : mv_sat K Q → mv_MW G M R Zf cells slots pc' lv (.int (x - x / y * y) :: st) sh h) : mv_MW G M R Zf cells slots pc lv (.int y :: .int x :: st) sh h := by
  obtain ⟨hd, rfl⟩ := hd
  obtain ⟨hg, hs⟩ := mv_sat_g hs
  exact fun p e s m args below meth c C H locs ls hw hS hl => lv_irem C.1 C.2.1 hd hg (k hs p e s m args below meth c C H locs ls hw hS hl)
theorem mv_lrem {x y : Int64} {ρ : Type} {K : Option ρ} {Q : ρ → Prop} (hd : mv_dc M.2.1 pc .lrem 1 pc') (hs : mv_sat (if ¬ y = 0 then K else none) Q) (k : mv_sat K Q → mv_MW G M R Zf cells slots pc' lv (.long (x - x / y * y) :: st) sh h) : mv_MW G M R Zf cells slots pc lv (.long y :: .long x :: st) sh h := by
  obtain ⟨hd, rfl⟩ := hd
  obtain ⟨hg, hs⟩ := mv_sat_g hs
  exact fun p e s m args below meth c C H locs ls hw hS hl => lv_lrem C.1 C.2.1 hd hg (k hs p e s m args below meth c C H locs ls hw hS hl)
theorem mv_idivk {x y : Int32} (hd : mv_dc M.2.1 pc .idiv 1 pc') (hg : ¬ y = 0) (k : mv_MW G M R Zf cells slots pc' lv (.int (x / y) :: st) sh h) : mv_MW G M R Zf cells slots pc lv (.int y :: .int x :: st) sh h := by
  obtain ⟨hd, rfl⟩ := hd
  exact fun p e s m args below meth c C H locs ls hw hS hl => lv_idiv C.1 C.2.1 hd hg (k p e s m args below meth c C H locs ls hw hS hl)
theorem mv_iremk {x y : Int32} (hd : mv_dc M.2.1 pc .irem 1 pc') (hg : ¬ y = 0) (k : mv_MW G M R Zf cells slots pc' lv (.int (x - x / y * y) :: st) sh h) : mv_MW G M R Zf cells slots pc lv (.int y :: .int x :: st) sh h := by
  obtain ⟨hd, rfl⟩ := hd
  exact fun p e s m args below meth c C H locs ls hw hS hl => lv_irem C.1 C.2.1 hd hg (k p e s m args below meth c C H locs ls hw hS hl)
theorem mv_lremk {x y : Int64} (hd : mv_dc M.2.1 pc .lrem 1 pc') (hg : ¬ y = 0) (k : mv_MW G M R Zf cells slots pc' lv (.long (x - x / y * y) :: st) sh h) : mv_MW G M R Zf cells slots pc lv (.long y :: .long x :: st) sh h := by
  obtain ⟨hd, rfl⟩ := hd
  exact fun p e s m args below meth c C H locs ls hw hS hl => lv_lrem C.1 C.2.1 hd hg (k p e s m args below meth c C H locs ls hw hS hl)
theorem mv_dup {v : Value} (hd : mv_dc M.2.1 pc .dup 1 pc') (hv : v.category = 1) (k : mv_MW G M R Zf cells slots pc' lv (v :: v :: st) sh h) : mv_MW G M R Zf cells slots pc lv (v :: st) sh h := by
  obtain ⟨hd, rfl⟩ := hd
  exact fun p e s m args below meth c C H locs ls hw hS hl => lv_dup C.1 C.2.1 hd ((mv_v_cat G v).trans hv) (k p e s m args below meth c C H locs ls hw hS hl)
theorem mv_pop {v : Value} (hd : mv_dc M.2.1 pc .pop 1 pc') (hv : v.category = 1) (k : mv_MW G M R Zf cells slots pc' lv st sh h) : mv_MW G M R Zf cells slots pc lv (v :: st) sh h := by
  obtain ⟨hd, rfl⟩ := hd
  exact fun p e s m args below meth c C H locs ls hw hS hl => lv_pop C.1 C.2.1 hd ((mv_v_cat G v).trans hv) (k p e s m args below meth c C H locs ls hw hS hl)
theorem mv_dup2 {v w : Value} (hd : mv_dc M.2.1 pc .dup2 1 pc') (hv : v.category = 1) (hw' : w.category = 1) (k : mv_MW G M R Zf cells slots pc' lv (v :: w :: v :: w :: st) sh h) : mv_MW G M R Zf cells slots pc lv (v :: w :: st) sh h := by
  obtain ⟨hd, rfl⟩ := hd
  exact fun p e s m args below meth c C H locs ls hw hS hl => lv_dup2_11 C.1 C.2.1 hd ((mv_v_cat G v).trans hv) ((mv_v_cat G w).trans hw') (k p e s m args below meth c C H locs ls hw hS hl)
theorem mv_goto {off : Int} (hd : mv_db M.2.1 pc (.goto off) off pc' tgt) (k : mv_MW G M R Zf cells slots tgt lv st sh h) : mv_MW G M R Zf cells slots pc lv st sh h := by
  obtain ⟨hd, -, ht⟩ := hd
  exact fun p e s m args below meth c C H locs ls hw hS hl => lv_goto C.1 C.2.1 hd ht (k p e s m args below meth c C H locs ls hw hS hl)
theorem mv_if_eq {x : Int32} {ρ : Type} {K1 K2 : Option ρ} {Q : ρ → Prop} {off : Int} (hd : mv_db M.2.1 pc (.ifCond .eq off) off pc' tgt) (hs : mv_sat (if x = 0 then K1 else K2) Q) (k1 : x = 0 → mv_sat K1 Q → mv_MW G M R Zf cells slots tgt lv st sh h) (k2 : ¬ x = 0 → mv_sat K2 Q → mv_MW G M R Zf cells slots pc' lv st sh h) : mv_MW G M R Zf cells slots pc lv (.int x :: st) sh h := by
  obtain ⟨hd, rfl, ht⟩ := hd
  refine fun p e s m args below meth c C H locs ls hw hS hl => lv_if_eq C.1 C.2.1 hd ht (fun q => ?_) (fun q => ?_)
  · exact k1 q (mv_sat_t hs q) p e s m args below meth c C H locs ls hw hS hl
  · exact k2 q (mv_sat_f hs q) p e s m args below meth c C H locs ls hw hS hl
theorem mv_icmp_eq {x y : Int32} {ρ : Type} {K1 K2 : Option ρ} {Q : ρ → Prop} {off : Int} (hd : mv_db M.2.1 pc (.if_icmp .eq off) off pc' tgt) (hs : mv_sat (if x = y then K1 else K2) Q) (k1 : x = y → mv_sat K1 Q → mv_MW G M R Zf cells slots tgt lv st sh h) (k2 : ¬ x = y → mv_sat K2 Q → mv_MW G M R Zf cells slots pc' lv st sh h) : mv_MW G M R Zf cells slots pc lv (.int y :: .int x :: st) sh h := by
  obtain ⟨hd, rfl, ht⟩ := hd
  refine fun p e s m args below meth c C H locs ls hw hS hl => lv_icmp_eq C.1 C.2.1 hd ht (fun q => ?_) (fun q => ?_)
  · exact k1 q (mv_sat_t hs q) p e s m args below meth c C H locs ls hw hS hl
  · exact k2 q (mv_sat_f hs q) p e s m args below meth c C H locs ls hw hS hl
theorem mv_if_ne {x : Int32} {ρ : Type} {K1 K2 : Option ρ} {Q : ρ → Prop} {off : Int} (hd : mv_db M.2.1 pc (.ifCond .ne off) off pc' tgt) (hs : mv_sat (if x = 0 then K1 else K2) Q) (k1 : x = 0 → mv_sat K1 Q → mv_MW G M R Zf cells slots pc' lv st sh h) (k2 : ¬ x = 0 → mv_sat K2 Q → mv_MW G M R Zf cells slots tgt lv st sh h) : mv_MW G M R Zf cells slots pc lv (.int x :: st) sh h := by
  obtain ⟨hd, rfl, ht⟩ := hd
  refine fun p e s m args below meth c C H locs ls hw hS hl => lv_if_ne C.1 C.2.1 hd ht (fun q => ?_) (fun q => ?_)
  · exact k2 q (mv_sat_f hs q) p e s m args below meth c C H locs ls hw hS hl
  · have q := q
    exact k1 q (mv_sat_t hs q) p e s m args below meth c C H locs ls hw hS hl
theorem mv_icmp_ne {x y : Int32} {ρ : Type} {K1 K2 : Option ρ} {Q : ρ → Prop} {off : Int} (hd : mv_db M.2.1 pc (.if_icmp .ne off) off pc' tgt) (hs : mv_sat (if x = y then K1 else K2) Q) (k1 : x = y → mv_sat K1 Q → mv_MW G M R Zf cells slots pc' lv st sh h) (k2 : ¬ x = y → mv_sat K2 Q → mv_MW G M R Zf cells slots tgt lv st sh h) : mv_MW G M R Zf cells slots pc lv (.int y :: .int x :: st) sh h := by
  obtain ⟨hd, rfl, ht⟩ := hd
  refine fun p e s m args below meth c C H locs ls hw hS hl => lv_icmp_ne C.1 C.2.1 hd ht (fun q => ?_) (fun q => ?_)
  · exact k2 q (mv_sat_f hs q) p e s m args below meth c C H locs ls hw hS hl
  · have q := q
    exact k1 q (mv_sat_t hs q) p e s m args below meth c C H locs ls hw hS hl
theorem mv_if_lt {x : Int32} {ρ : Type} {K1 K2 : Option ρ} {Q : ρ → Prop} {off : Int} (hd : mv_db M.2.1 pc (.ifCond .lt off) off pc' tgt) (hs : mv_sat (if x < 0 then K1 else K2) Q) (k1 : x < 0 → mv_sat K1 Q → mv_MW G M R Zf cells slots tgt lv st sh h) (k2 : ¬ x < 0 → mv_sat K2 Q → mv_MW G M R Zf cells slots pc' lv st sh h) : mv_MW G M R Zf cells slots pc lv (.int x :: st) sh h := by
  obtain ⟨hd, rfl, ht⟩ := hd
  refine fun p e s m args below meth c C H locs ls hw hS hl => lv_if_lt C.1 C.2.1 hd ht (fun q => ?_) (fun q => ?_)
  · exact k1 q (mv_sat_t hs q) p e s m args below meth c C H locs ls hw hS hl
  · exact k2 q (mv_sat_f hs q) p e s m args below meth c C H locs ls hw hS hl
theorem mv_icmp_lt {x y : Int32} {ρ : Type} {K1 K2 : Option ρ} {Q : ρ → Prop} {off : Int} (hd : mv_db M.2.1 pc (.if_icmp .lt off) off pc' tgt) (hs : mv_sat (if x < y then K1 else K2) Q) (k1 : x < y → mv_sat K1 Q → mv_MW G M R Zf cells slots tgt lv st sh h) (k2 : ¬ x < y → mv_sat K2 Q → mv_MW G M R Zf cells slots pc' lv st sh h) : mv_MW G M R Zf cells slots pc lv (.int y :: .int x :: st) sh h := by
  obtain ⟨hd, rfl, ht⟩ := hd
  refine fun p e s m args below meth c C H locs ls hw hS hl => lv_icmp_lt C.1 C.2.1 hd ht (fun q => ?_) (fun q => ?_)
  · exact k1 q (mv_sat_t hs q) p e s m args below meth c C H locs ls hw hS hl
  · exact k2 q (mv_sat_f hs q) p e s m args below meth c C H locs ls hw hS hl
theorem mv_if_ge {x : Int32} {ρ : Type} {K1 K2 : Option ρ} {Q : ρ → Prop} {off : Int} (hd : mv_db M.2.1 pc (.ifCond .ge off) off pc' tgt) (hs : mv_sat (if x < 0 then K1 else K2) Q) (k1 : x < 0 → mv_sat K1 Q → mv_MW G M R Zf cells slots pc' lv st sh h) (k2 : ¬ x < 0 → mv_sat K2 Q → mv_MW G M R Zf cells slots tgt lv st sh h) : mv_MW G M R Zf cells slots pc lv (.int x :: st) sh h := by
  obtain ⟨hd, rfl, ht⟩ := hd
  refine fun p e s m args below meth c C H locs ls hw hS hl => lv_if_ge C.1 C.2.1 hd ht (fun q => ?_) (fun q => ?_)
  · have q := Int32.not_lt.mpr q
    exact k2 q (mv_sat_f hs q) p e s m args below meth c C H locs ls hw hS hl
  · have q := Int32.not_le.mp q
    exact k1 q (mv_sat_t hs q) p e s m args below meth c C H locs ls hw hS hl
theorem mv_icmp_ge {x y : Int32} {ρ : Type} {K1 K2 : Option ρ} {Q : ρ → Prop} {off : Int} (hd : mv_db M.2.1 pc (.if_icmp .ge off) off pc' tgt) (hs : mv_sat (if x < y then K1 else K2) Q) (k1 : x < y → mv_sat K1 Q → mv_MW G M R Zf cells slots pc' lv st sh h) (k2 : ¬ x < y → mv_sat K2 Q → mv_MW G M R Zf cells slots tgt lv st sh h) : mv_MW G M R Zf cells slots pc lv (.int y :: .int x :: st) sh h := by
  obtain ⟨hd, rfl, ht⟩ := hd
  refine fun p e s m args below meth c C H locs ls hw hS hl => lv_icmp_ge C.1 C.2.1 hd ht (fun q => ?_) (fun q => ?_)
  · have q := Int32.not_lt.mpr q
    exact k2 q (mv_sat_f hs q) p e s m args below meth c C H locs ls hw hS hl
  · have q := Int32.not_le.mp q
    exact k1 q (mv_sat_t hs q) p e s m args below meth c C H locs ls hw hS hl
theorem mv_if_gt {x : Int32} {ρ : Type} {K1 K2 : Option ρ} {Q : ρ → Prop} {off : Int} (hd : mv_db M.2.1 pc (.ifCond .gt off) off pc' tgt) (hs : mv_sat (if 0 < x then K1 else K2) Q) (k1 : 0 < x → mv_sat K1 Q → mv_MW G M R Zf cells slots tgt lv st sh h) (k2 : ¬ 0 < x → mv_sat K2 Q → mv_MW G M R Zf cells slots pc' lv st sh h) : mv_MW G M R Zf cells slots pc lv (.int x :: st) sh h := by
  obtain ⟨hd, rfl, ht⟩ := hd
  refine fun p e s m args below meth c C H locs ls hw hS hl => lv_if_gt C.1 C.2.1 hd ht (fun q => ?_) (fun q => ?_)
  · exact k1 q (mv_sat_t hs q) p e s m args below meth c C H locs ls hw hS hl
  · exact k2 q (mv_sat_f hs q) p e s m args below meth c C H locs ls hw hS hl
theorem mv_icmp_gt {x y : Int32} {ρ : Type} {K1 K2 : Option ρ} {Q : ρ → Prop} {off : Int} (hd : mv_db M.2.1 pc (.if_icmp .gt off) off pc' tgt) (hs : mv_sat (if y < x then K1 else K2) Q) (k1 : y < x → mv_sat K1 Q → mv_MW G M R Zf cells slots tgt lv st sh h) (k2 : ¬ y < x → mv_sat K2 Q → mv_MW G M R Zf cells slots pc' lv st sh h) : mv_MW G M R Zf cells slots pc lv (.int y :: .int x :: st) sh h := by
  obtain ⟨hd, rfl, ht⟩ := hd
  refine fun p e s m args below meth c C H locs ls hw hS hl => lv_icmp_gt C.1 C.2.1 hd ht (fun q => ?_) (fun q => ?_)
  · exact k1 q (mv_sat_t hs q) p e s m args below meth c C H locs ls hw hS hl
  · exact k2 q (mv_sat_f hs q) p e s m args below meth c C H locs ls hw hS hl
theorem mv_if_le {x : Int32} {ρ : Type} {K1 K2 : Option ρ} {Q : ρ → Prop} {off : Int} (hd : mv_db M.2.1 pc (.ifCond .le off) off pc' tgt) (hs : mv_sat (if 0 < x then K1 else K2) Q) (k1 : 0 < x → mv_sat K1 Q → mv_MW G M R Zf cells slots pc' lv st sh h) (k2 : ¬ 0 < x → mv_sat K2 Q → mv_MW G M R Zf cells slots tgt lv st sh h) : mv_MW G M R Zf cells slots pc lv (.int x :: st) sh h := by
  obtain ⟨hd, rfl, ht⟩ := hd
  refine fun p e s m args below meth c C H locs ls hw hS hl => lv_if_le C.1 C.2.1 hd ht (fun q => ?_) (fun q => ?_)
  · have q := Int32.not_lt.mpr q
    exact k2 q (mv_sat_f hs q) p e s m args below meth c C H locs ls hw hS hl
  · have q := Int32.not_le.mp q
    exact k1 q (mv_sat_t hs q) p e s m args below meth c C H locs ls hw hS hl
theorem mv_icmp_le {x y : Int32} {ρ : Type} {K1 K2 : Option ρ} {Q : ρ → Prop} {off : Int} (hd : mv_db M.2.1 pc (.if_icmp .le off) off pc' tgt) (hs : mv_sat (if y < x then K1 else K2) Q) (k1 : y < x → mv_sat K1 Q → mv_MW G M R Zf cells slots pc' lv st sh h) (k2 : ¬ y < x → mv_sat K2 Q → mv_MW G M R Zf cells slots tgt lv st sh h) : mv_MW G M R Zf cells slots pc lv (.int y :: .int x :: st) sh h := by
  obtain ⟨hd, rfl, ht⟩ := hd
  refine fun p e s m args below meth c C H locs ls hw hS hl => lv_icmp_le C.1 C.2.1 hd ht (fun q => ?_) (fun q => ?_)
  · have q := Int32.not_lt.mpr q
    exact k2 q (mv_sat_f hs q) p e s m args below meth c C H locs ls hw hS hl
  · have q := Int32.not_le.mp q
    exact k1 q (mv_sat_t hs q) p e s m args below meth c C H locs ls hw hS hl
end MvRows
end
section
/-! rows: locals that change, fields, arrays, switches, weakening -/
def mv_nl : List Value → Bool
  | [] => true
  | .long _ :: _ => false
  | .double _ :: _ => false
  | _ :: r => mv_nl r
theorem mv_nl_at : ∀ {lv : List Value} (_ : mv_nl lv = true) {i : Nat} {v : Value} (_ : lv[i]? = some v), v.category = 1
  | [], _, i, v, h => by simp at h
  | w :: r, hn, 0, v, h => by
    simp at h; subst h
    cases w <;> first | rfl | simp [mv_nl] at hn
  | w :: r, hn, i + 1, v, h => by
    have hr : mv_nl r = true := by cases w <;> first | exact hn | simp [mv_nl] at hn
    exact mv_nl_at hr (by simpa using h)
def mv_prs (G : mv_G) : Nat → List Value → List (Nat × Value)
  | _, [] => []
  | i, .float _ :: r => mv_prs G (i + 1) r
  | i, v :: r => (i, mv_v G v) :: mv_prs G (i + 1) r
theorem mv_prs_in {G : mv_G} : ∀ {lv : List Value} {j i : Nat} {v : Value}, lv[i]? = some v → (∀ b, v ≠ .float b) → (j + i, mv_v G v) ∈ mv_prs G j lv
  | [], j, i, v, h, _ => by simp at h
  | w :: r, j, 0, v, h, hf => by
    simp at h; subst h
    cases w <;> first | exact absurd rfl (hf _) | simp [mv_prs]
  | w :: r, j, i + 1, v, h, hf => by
    have := mv_prs_in (G := G) (lv := r) (j := j + 1) (i := i) (by simpa using h) hf
    rw [show j + 1 + i = j + (i + 1) by omega] at this
    cases w <;> first | exact this | exact List.mem_cons_of_mem _ this
theorem mv_prs_of {G : mv_G} : ∀ {lv : List Value} {j : Nat} {q : Nat × Value}, q ∈ mv_prs G j lv → ∃ i v, q = (j + i, mv_v G v) ∧ lv[i]? = some v ∧ ∀ b, v ≠ .float b
  | [], j, q, h => by simp [mv_prs] at h
  | w :: r, j, q, h => by
    have step : q ∈ mv_prs G (j + 1) r → ∃ i v, q = (j + i, mv_v G v) ∧ (w :: r)[i]? = some v ∧ ∀ b, v ≠ .float b := fun h => by
      obtain ⟨i, v, e, h1, h2⟩ := mv_prs_of h
      exact ⟨i + 1, v, by rw [e, show j + 1 + i = j + (i + 1) by omega], by simpa using h1, h2⟩
    cases w <;> first
      | exact step h
      | (rcases List.mem_cons.mp h with e | h
         · exact ⟨0, _, e, rfl, fun b q => by cases q⟩
         · exact step h)
theorem mv_L.has {G : mv_G} {ls : Array Slot} {nL : Nat} {lv : List Value} (h : mv_L G ls nL lv) : lv_has ls nL (mv_prs G 0 lv) := by
  refine ⟨h.1, h.2.1, fun q hq => ?_⟩
  obtain ⟨i, v, rfl, h1, h2⟩ := mv_prs_of hq
  rw [Nat.zero_add]
  exact h.2.2 i v h1 h2
theorem mv_L.stored {G : mv_G} {ls : Array Slot} {nL i : Nat} {lv : List Value} {v : Value} (hn : mv_nl lv = true) (h : lv_has ls nL ((i, mv_v G v) :: (mv_prs G 0 lv).filter (fun q => !(q.1 == i) && !(q.1 + 1 == i && q.2.category == 2)))) : mv_L G ls nL (lv.set i v) := by
  refine ⟨h.1, h.2.1, fun j w hj hf => ?_⟩
  rw [List.getElem?_set] at hj
  by_cases hi : i = j
  · subst hi
    rw [if_pos rfl] at hj
    split at hj
    · cases hj
      exact h.2.2 _ (List.mem_cons_self)
    · cases hj
  · rw [if_neg hi] at hj
    have hm := mv_prs_in (G := G) (j := 0) hj hf
    rw [Nat.zero_add] at hm
    refine h.2.2 (j, mv_v G w) (List.mem_cons_of_mem _ (List.mem_filter.mpr ⟨hm, ?_⟩))
    have hc := mv_nl_at hn hj
    have : ¬ j = i := fun e => hi e.symm
    simp [this, mv_v_cat, hc]
/-- the second list says less -/
def mv_le : List Value → List Value → Prop
  | [], [] => True
  | v :: a, w :: b => (w = v ∨ ∃ x, w = .float x) ∧ mv_le a b
  | _, _ => False
theorem mv_le_at : ∀ {a b : List Value} {i : Nat} {w : Value}, mv_le a b → b[i]? = some w → (∀ x, w ≠ .float x) → a[i]? = some w
  | [], [], i, w, _, h, _ => by simp at h
  | v :: a, w0 :: b, 0, w, hl, h, hf => by
    simp at h; subst h
    rcases hl.1 with e | ⟨x, e⟩
    · simp [e]
    · exact absurd e (hf x)
  | v :: a, w0 :: b, i + 1, w, hl, h, hf => by
    have := mv_le_at hl.2 (i := i) (w := w) (by simpa using h) hf
    simpa using this
  | [], _ :: _, _, _, hl, _, _ => hl.elim
  | _ :: _, [], _, _, hl, _, _ => hl.elim
section MvRows2
variable {G : mv_G} {M : mv_M} {R : Room} {Zf : List Frame → Array Value → State → State → Prop} {cells slots pc pc' tgt : Nat} {lv lv' st : List Value} {sh sh' : mv_S} {h : mv_H}
theorem mv_weak (hl : mv_le lv lv') (k : mv_MW G M R Zf cells slots pc lv' st sh h) : mv_MW G M R Zf cells slots pc lv st sh h :=
  fun p e s m args below meth c C H locs ls hw hS hv => k p e s m args below meth c C H locs ls hw hS ⟨hv.1, hv.2.1, fun i v hi hf => hv.2.2 i v (mv_le_at hl hi hf) hf⟩
theorem mv_istore_n {j : Fin 4} {x : Int32} (hd : mv_dc M.2.1 pc (.istore_n j) 1 pc') (hj : (j : Nat) < M.2.2.1) (hn : mv_nl lv = true) (hl : lv.set (j : Nat) (.int x) = lv') (k : mv_MW G M R Zf cells slots pc' lv' st sh h) : mv_MW G M R Zf cells slots pc lv (.int x :: st) sh h := by
  obtain ⟨hd, rfl⟩ := hd
  subst hl
  exact fun p e s m args below meth c C H locs ls hw hS hv => lv_istore_n C.1 C.2.1 hd rfl hv.has hj rfl (fun ls' hl' => k p e s m args below meth c C H locs ls' hw hS (mv_L.stored (v := .int x) hn hl'))
theorem mv_istore {i : Nat} {x : Int32} (hd : mv_dc M.2.1 pc (.istore i) 2 pc') (hj : i < M.2.2.1) (hn : mv_nl lv = true) (hl : lv.set i (.int x) = lv') (k : mv_MW G M R Zf cells slots pc' lv' st sh h) : mv_MW G M R Zf cells slots pc lv (.int x :: st) sh h := by
  obtain ⟨hd, rfl⟩ := hd
  subst hl
  exact fun p e s m args below meth c C H locs ls hw hS hv => lv_istore C.1 C.2.1 hd hv.has hj rfl (fun ls' hl' => k p e s m args below meth c C H locs ls' hw hS (mv_L.stored (v := .int x) hn hl'))
theorem mv_astore_n {j : Fin 4} {x : Nat} (hd : mv_dc M.2.1 pc (.astore_n j) 1 pc') (hj : (j : Nat) < M.2.2.1) (hn : mv_nl lv = true) (hl : lv.set (j : Nat) (.ref x) = lv') (k : mv_MW G M R Zf cells slots pc' lv' st sh h) : mv_MW G M R Zf cells slots pc lv (.ref x :: st) sh h := by
  obtain ⟨hd, rfl⟩ := hd
  subst hl
  exact fun p e s m args below meth c C H locs ls hw hS hv => lv_astore_n C.1 C.2.1 hd rfl hv.has hj rfl (fun ls' hl' => k p e s m args below meth c C H locs ls' hw hS (mv_L.stored (v := .ref x) hn hl'))
theorem mv_astore {i : Nat} {x : Nat} (hd : mv_dc M.2.1 pc (.astore i) 2 pc') (hj : i < M.2.2.1) (hn : mv_nl lv = true) (hl : lv.set i (.ref x) = lv') (k : mv_MW G M R Zf cells slots pc' lv' st sh h) : mv_MW G M R Zf cells slots pc lv (.ref x :: st) sh h := by
  obtain ⟨hd, rfl⟩ := hd
  subst hl
  exact fun p e s m args below meth c C H locs ls hw hS hv => lv_astore C.1 C.2.1 hd hv.has hj rfl (fun ls' hl' => k p e s m args below meth c C H locs ls' hw hS (mv_L.stored (v := .ref x) hn hl'))
theorem mv_iinc {i : Nat} {n : Int} {x : Int32} (w : Int32) (hd : mv_dc M.2.1 pc (.iinc i n) 3 pc') (hv0 : lv[i]? = some (.int x)) (hw0 : Int32.ofInt n = w) (hj : i < M.2.2.1) (hn : mv_nl lv = true) (hl : lv.set i (.int (x + w)) = lv') (k : mv_MW G M R Zf cells slots pc' lv' st sh h) : mv_MW G M R Zf cells slots pc lv st sh h := by
  obtain ⟨hd, rfl⟩ := hd
  subst hl
  subst hw0
  intro p e s m args below meth c C H locs ls hw hS hv
  have hm := mv_prs_in (G := G) (j := 0) hv0 (fun b q => by cases q)
  rw [Nat.zero_add] at hm
  obtain ⟨kk, hk⟩ := List.getElem?_of_mem hm
  exact lv_iinc (v := x + Int32.ofInt n) C.1 C.2.1 hd hv.has hk rfl hj rfl (fun ls' hl' => k p e s m args below meth c C H locs ls' hw hS (mv_L.stored (v := .int (x + Int32.ofInt n)) hn hl'))
theorem mv_name {x : Int32} {ρ : Type} {K : Int32 → Option ρ} {Q : ρ → Prop} (hs : mv_sat (mv_let x K) Q) (k : ∀ y : Int32, mv_sat (K y) Q → mv_MW G M R Zf cells slots pc lv (.int y :: st) sh h) : mv_MW G M R Zf cells slots pc lv (.int x :: st) sh h := k x hs
/-- a class: its fields -/
def mv_cls (ci : Nat) (C : String) (T : u_T) (N : Nat) (ty : Nat → FieldType) : Prop := vwCl[ci]? = some (C, T, N) ∧ (∀ w ∈ u_ws C T N, w ∈ mv_tb) ∧ (∀ k, k < N → parseFieldDescriptor (T k).2.2.1 = some (ty k)) ∧ (∀ a, a < N → ∀ b, b < N → a ≠ b → (T a).2.1 ≠ (T b).2.1)
def mv_fl (own : String) (idx ci k : Nat) (fin : Bool) (fty : FieldType) : Prop := ∃ (C : String) (T : u_T) (N : Nat) (ty : Nat → FieldType), mv_cls ci C T N ty ∧ k < N ∧ (T k).2.2.2 = fin ∧ ty k = fty ∧ ((Cond.fieldLink own idx (T k).1 (T k).2.1 (T k).2.2.1 ∈ mv_tb ∧ (fin = true → (T k).1 = own)) ∨ (fin = true ∧ ∃ host, (own, idx, (T k).1, (T k).2.1, (T k).2.2.1, host) ∈ mv_nf))
def mv_gf (sh : mv_S) (o ci k : Nat) (x : Option (Option Nat)) : Prop := ∃ fl, sh[o]? = some (.inr (ci, fl)) ∧ fl[k]? = some x
theorem mv_get0 {idx ci k o : Nat} {fin : Bool} {fty : FieldType} {x : Option (Option Nat)} {w : Value} (hd : mv_dc M.2.1 pc (.getfield idx) 3 pc') (hf : mv_fl M.1.cls idx ci k fin fty) (hg : mv_gf sh o ci k x) (hw0 : mv_v G w = mv_fv G (h o k) x) (kk : mv_MW G M R Zf cells slots pc' lv (w :: st) sh h) : mv_MW G M R Zf cells slots pc lv (.ref o :: st) sh h := by
  obtain ⟨hd, rfl⟩ := hd
  obtain ⟨C0, T, N, ty, ⟨hc1, hc2, hc3, hc4⟩, hk, hfin, hty, hl⟩ := hf
  obtain ⟨fl, hs1, hs2⟩ := hg
  intro p e s m args below meth c C H locs ls hw hS hv
  have hk2 := kk p e s m args below meth c C H locs ls hw hS hv
  obtain ⟨hx, hb, hr, hml, hown, hts, hlk, hin, hK, hX, hbs⟩ := C
  have ha := mv_own hw hs1
  have hcell := mv_c_get (G := G) (h := h) hs1
  have hval := mv_f_get (G := G) (hv := h o) fl 0 k x hs2
  rw [Nat.zero_add, ← hw0] at hval
  show W p (mv_l G) e R s m args below meth c H locs cells slots (Zf below args s) (F0 m pc ls (.ref (mv_a G o) :: st.map (mv_v G)))
  rw [ha]
  rcases hl with ⟨hl, -⟩ | ⟨-, host, hl⟩
  · exact va_get hx hb hts hc2 hown hK hw.1 o hcell hc1 k hk (hts _ hl) (fun _ q => q) hval hd hk2
  · exact va_getN hx hb hts hc2 hown hK hw.1 o hcell hc1 k hk (va_Nw.use rfl (hX.2.2.2.1 _ hl)) (fun _ q => q) hval hd hk2
theorem mv_geti {idx ci k o : Nat} {fin : Bool} {fty : FieldType} (hd : mv_dc M.2.1 pc (.getfield idx) 3 pc') (hf : mv_fl M.1.cls idx ci k fin fty) (hg : mv_gf sh o ci k none) (kk : mv_MW G M R Zf cells slots pc' lv (.int (h o k) :: st) sh h) : mv_MW G M R Zf cells slots pc lv (.ref o :: st) sh h := mv_get0 hd hf hg rfl kk
theorem mv_getr {idx ci k o r : Nat} {fin : Bool} {fty : FieldType} (hd : mv_dc M.2.1 pc (.getfield idx) 3 pc') (hf : mv_fl M.1.cls idx ci k fin fty) (hg : mv_gf sh o ci k (some (some r))) (kk : mv_MW G M R Zf cells slots pc' lv (.ref r :: st) sh h) : mv_MW G M R Zf cells slots pc lv (.ref o :: st) sh h := mv_get0 hd hf hg rfl kk
theorem mv_put0 {idx ci k o : Nat} {fin : Bool} {fty : FieldType} {fl fl' : List (Option (Option Nat))} {w : Value} {h' : mv_H} (hd : mv_dc M.2.1 pc (.putfield idx) 3 pc') (hf : mv_fl M.1.cls idx ci k fin fty) (hini : fin = true → M.1.name = "<init>" ∧ ∀ q ∈ mv_nf, q.1 ≠ M.1.cls ∨ q.2.1 ≠ idx) (hs1 : sh[o]? = some (.inr (ci, fl))) (hkl : k < fl.length) (hn : ∀ i, i ≠ o → h' i = h i) (hset : (mv_f G (h o) 0 fl).set k (mv_v G w) = mv_f G (h' o) 0 fl') (hnar : narrow fty (mv_v G w) = mv_v G w) (hfit : fits fty (mv_v G w) = true) (kk : mv_MW G M R Zf cells slots pc' lv st (sh.set o (.inr (ci, fl'))) h') : mv_MW G M R Zf cells slots pc lv (w :: .ref o :: st) sh h := by
  obtain ⟨hd, rfl⟩ := hd
  obtain ⟨C0, T, N, ty, ⟨hc1, hc2, hc3, hc4⟩, hk, hfin, hty, hl⟩ := hf
  intro p e s m args below meth c C H locs ls hw hS hv
  have hk2 := kk p e s m args below meth c C
  obtain ⟨hx, hb, hr, hml, hown, hts, hlk, hin, hK, hX, hbs⟩ := C
  have ha := mv_own hw hs1
  have hcell := mv_c_get (G := G) (h := h) hs1
  show W p (mv_l G) e R s m args below meth c H locs cells slots (Zf below args s) (F0 m pc ls (mv_v G w :: .ref (mv_a G o) :: st.map (mv_v G)))
  rw [ha]
  have hgo : ∀ (H1 : Heap) (locs1 : List Loc), va_P (mv_D G) vwCl ((mv_c G sh h).set o (mv_b G + o, .inr (ci, (mv_f G (h o) 0 fl).set k (mv_v G w)))) H1 → H1.size = H.size → va_S (mv_A G) s.heap H1 locs1 → W p (mv_l G) e R s m args below meth c H1 locs1 cells slots (Zf below args s) (F0 m (pc + 3) ls (st.map (mv_v G))) := by
    intro H1 locs1 h1 h2 h3
    refine hk2 H1 locs1 ls ⟨?_, ?_, ?_⟩ h3 hv
    · rw [hset] at h1
      rw [← mv_c_set (G := G) (x' := .inr (ci, fl')) hn]
      exact h1
    · rw [h2, hw.2.1, List.length_set]
    · rw [List.length_set]; exact hw.2.2
  have hlen : k < (mv_f G (h o) 0 fl).length := by rw [mv_f_len]; exact hkl
  have hD := mv_dis G sh h
  have hap := va_apart (own := M.1.cls) hts hc2 ty hc3 hc4 hK hc1
  obtain ⟨r, h1, cell, q1, q2, q3, q4⟩ := hw.1 o _ hcell
  have hr0 : r = (C0, T, N) := Option.some.inj (h1.symm.trans hc1)
  subst hr0
  obtain ⟨hSl, hfc, kC, hkC, hkind⟩ := hK.1 ci _ hc1
  obtain ⟨cf, kf, fi, f, hi, hsl⟩ := hSl k hk
  have hlay := hts _ (hc2 _ (u_in_lay hk))
  unfold u_lay at hlay
  have hst := (u_facts hfc hkC (u_lays hts hc2 hk) hi).1
  have hdp : parseFieldDescriptor (T k).2.2.1 = some fty := by rw [hc3 k hk, hty]
  have hend : ∀ H' : Heap, H'[mv_b G + o]? = some (cell.setSlot f.slot (mv_v G w)) → H'.size = H.size → (∀ q, q ≠ mv_b G + o → H'[q]? = H[q]?) → W p (mv_l G) e R s m args below meth c H' (locs ++ [⟨mv_b G + o, f.slot⟩]) cells slots (Zf below args s) (F0 m (pc + 3) ls (st.map (mv_v G))) := by
    intro H' e1 e2 e3
    rw [hsl] at e1 ⊢
    exact hgo H' _ (hw.1.set hD hcell ⟨_, hc1, t_OB.to (V := updV (vp_V (mv_f G (h o) 0 fl)) k (mv_v G w)) ⟨_, e1, q2, q3, t_set q4 hap hk (mv_v G w)⟩ (fun j _ => vp_updV_set hlen (mv_v G w) j)⟩ e3) e2 (hS.put e2 e3 (hD.2 o _ hcell))
  rcases hl with ⟨hl, hdecl⟩ | ⟨hft, host, hl⟩
  · cases fin with
    | false =>
      rw [if_neg (by rw [hfin]; decide)] at hlay
      have h6 := u_store hfc hkC hkind hlay hi hdp hnar hfit
      exact W.putK hx hb (f := f) ⟨hown, hts _ hl, ⟨_, _, _, hi⟩, hst⟩ (by rw [q2]; exact h6) q1 q3 (by rw [hsl]; exact k2_hasslot (q4 k hk)) rfl rfl hd hend
    | true =>
      rw [if_pos hfin] at hlay
      have hcf : m.cls = cf := by
        obtain ⟨_, _, c', _, _, _, -, -, hf', -, -, -, hown2, -⟩ := Cond.laysFinal_spec hlay
        have e1 : c' = cf := by have := hi.symm.trans hf'; simp at this; exact this.1.symm
        rw [hdecl rfl] at hown2
        rw [← e1]; exact Option.some.inj (hown.symm.trans hown2)
      have h6 := u_fits hfc hkC hkind (Or.inr hlay) hi hdp hnar hfit
      exact W.putFinK hx hb hown (hts _ hl) hi hst hcf (hin (hini rfl).1) (by rw [q2]; exact h6) q1 q3 (by rw [hsl]; exact k2_hasslot (q4 k hk)) rfl rfl hd hend
  · have h8 := (hini hft).2 _ hl
    rcases h8 with h8 | h8
    · exact absurd rfl h8
    · exact absurd rfl h8
theorem mv_puti {idx ci k o : Nat} {fin : Bool} {x : Int32} (hd : mv_dc M.2.1 pc (.putfield idx) 3 pc') (hf : mv_fl M.1.cls idx ci k fin .int) (hini : fin = true → M.1.name = "<init>" ∧ ∀ q ∈ mv_nf, q.1 ≠ M.1.cls ∨ q.2.1 ≠ idx) (hg : mv_gf sh o ci k none) (kk : mv_MW G M R Zf cells slots pc' lv st sh (mv_u h o k x)) : mv_MW G M R Zf cells slots pc lv (.int x :: .ref o :: st) sh h := by
  obtain ⟨fl, hs1, hs2⟩ := hg
  refine mv_put0 (w := .int x) (h' := mv_u h o k x) (fl' := fl) hd hf hini hs1 (List.getElem?_eq_some_iff.mp hs2).1 (fun i hi => mv_u_n hi) ?_ rfl rfl ?_
  · rw [mv_u_s]
    have := mv_f_seti (G := G) (hv := h o) (v := x) fl 0 k hs2
    rw [Nat.zero_add] at this
    exact this
  · rw [mv_set_same hs1]; exact kk
/-- a boolean: 0 or 1 -/
abbrev mv_01 (x : Int32) : Prop := x = 0 ∨ x = 1
theorem mv_putz {idx ci k o : Nat} {fin : Bool} {x : Int32} (hd : mv_dc M.2.1 pc (.putfield idx) 3 pc') (hf : mv_fl M.1.cls idx ci k fin .boolean) (hini : fin = true → M.1.name = "<init>" ∧ ∀ q ∈ mv_nf, q.1 ≠ M.1.cls ∨ q.2.1 ≠ idx) (hg : mv_gf sh o ci k none) (hx : mv_01 x) (kk : mv_MW G M R Zf cells slots pc' lv st sh (mv_u h o k x)) : mv_MW G M R Zf cells slots pc lv (.int x :: .ref o :: st) sh h := by
  obtain ⟨fl, hs1, hs2⟩ := hg
  refine mv_put0 (w := .int x) (h' := mv_u h o k x) (fl' := fl) hd hf hini hs1 (List.getElem?_eq_some_iff.mp hs2).1 (fun i hi => mv_u_n hi) ?_ (by rcases hx with rfl | rfl <;> rfl) (by rcases hx with rfl | rfl <;> rfl) ?_
  · rw [mv_u_s]
    have := mv_f_seti (G := G) (hv := h o) (v := x) fl 0 k hs2
    rw [Nat.zero_add] at this
    exact this
  · rw [mv_set_same hs1]; exact kk
theorem mv_putr {idx ci k o r : Nat} {fin : Bool} {fty : FieldType} {fl : List (Option (Option Nat))} (hd : mv_dc M.2.1 pc (.putfield idx) 3 pc') (hf : mv_fl M.1.cls idx ci k fin fty) (hini : fin = true → M.1.name = "<init>" ∧ ∀ q ∈ mv_nf, q.1 ≠ M.1.cls ∨ q.2.1 ≠ idx) (hs1 : sh[o]? = some (.inr (ci, fl))) (hkl : k < fl.length) (hty : (∃ C, fty = .object C) ∨ ∃ C, fty = .array C) (hsh : sh.set o (.inr (ci, fl.set k (some (some r)))) = sh') (kk : mv_MW G M R Zf cells slots pc' lv st sh' h) : mv_MW G M R Zf cells slots pc lv (.ref r :: .ref o :: st) sh h := by
  subst hsh
  exact mv_put0 (w := .ref r) (h' := h) (fl' := fl.set k (some (some r))) hd hf hini hs1 hkl (fun _ _ => rfl) (mv_f_setr fl 0 k) (by rcases hty with ⟨C, rfl⟩ | ⟨C, rfl⟩ <;> rfl) (by rcases hty with ⟨C, rfl⟩ | ⟨C, rfl⟩ <;> rfl) kk
theorem mv_iaload {o n : Nat} {i : Int32} {ρ : Type} {K : Option ρ} {Q : ρ → Prop} (hd : mv_dc M.2.1 pc .iaload 1 pc') (hg : sh[o]? = some (.inl (false, n))) (hs : mv_sat (if mv_in i n then K else none) Q) (kk : mv_sat K Q → mv_MW G M R Zf cells slots pc' lv (.int (h o i.toNatClampNeg) :: st) sh h) : mv_MW G M R Zf cells slots pc lv (.int i :: .ref o :: st) sh h := by
  obtain ⟨hd, rfl⟩ := hd
  obtain ⟨hi, hs⟩ := mv_sat_g hs
  intro p e s m args below meth c C H locs ls hw hS hv
  have hk2 := kk hs p e s m args below meth c C H locs ls hw hS hv
  obtain ⟨hx, hb, hr, hml, hown, hts, hlk, hin, hK, hX, hbs⟩ := C
  show W p (mv_l G) e R s m args below meth c H locs cells slots (Zf below args s) (F0 m pc ls (.int i :: .ref (mv_a G o) :: st.map (mv_v G)))
  rw [mv_own hw hg]
  exact va_iald hx hb hK hw.1 o 0 (mv_c_get (G := G) (h := h) hg) rfl (mv_in_vp hi) hd hk2
theorem mv_zaload {o n : Nat} {i : Int32} {ρ : Type} {K : Option ρ} {Q : ρ → Prop} (hd : mv_dc M.2.1 pc .baload 1 pc') (hg : sh[o]? = some (.inl (true, n))) (hs : mv_sat (if mv_in i n then K else none) Q) (kk : mv_sat K Q → mv_MW G M R Zf cells slots pc' lv (.int (h o i.toNatClampNeg) :: st) sh h) : mv_MW G M R Zf cells slots pc lv (.int i :: .ref o :: st) sh h := by
  obtain ⟨hd, rfl⟩ := hd
  obtain ⟨hi, hs⟩ := mv_sat_g hs
  intro p e s m args below meth c C H locs ls hw hS hv
  have hk2 := kk hs p e s m args below meth c C H locs ls hw hS hv
  obtain ⟨hx, hb, hr, hml, hown, hts, hlk, hin, hK, hX, hbs⟩ := C
  show W p (mv_l G) e R s m args below meth c H locs cells slots (Zf below args s) (F0 m pc ls (.int i :: .ref (mv_a G o) :: st.map (mv_v G)))
  rw [mv_own hw hg]
  exact va_zald hx hb hK hw.1 o 1 (mv_c_get (G := G) (h := h) hg) rfl (mv_in_vp hi) hd hk2
theorem mv_iastore {o n : Nat} {i x : Int32} {ρ : Type} {K : Option ρ} {Q : ρ → Prop} (hd : mv_dc M.2.1 pc .iastore 1 pc') (hg : sh[o]? = some (.inl (false, n))) (hs : mv_sat (if mv_in i n then K else none) Q) (kk : mv_sat K Q → mv_MW G M R Zf cells slots pc' lv st sh (mv_u h o i.toNatClampNeg x)) : mv_MW G M R Zf cells slots pc lv (.int x :: .int i :: .ref o :: st) sh h := by
  obtain ⟨hd, rfl⟩ := hd
  obtain ⟨hi, hs⟩ := mv_sat_g hs
  intro p e s m args below meth c C H locs ls hw hS hv
  have hk2 := kk hs p e s m args below meth c C
  obtain ⟨hx, hb, hr, hml, hown, hts, hlk, hin, hK, hX, hbs⟩ := C
  have ha := mv_c_get (G := G) (h := h) hg
  have hD := mv_dis G sh h
  show W p (mv_l G) e R s m args below meth c H locs cells slots (Zf below args s) (F0 m pc ls (.int x :: .int i :: .ref (mv_a G o) :: st.map (mv_v G)))
  rw [mv_own hw hg]
  refine W.iast hx hb (hw.1 o _ ha) ((hK.2 0 _ rfl).1 n (fun j => .int (h o j))) (fun q => by cases q) (by show ¬ (i < 0 ∨ (arrV _ _ _).slots.size ≤ _); rw [arrV_size]; exact mv_in_vp hi) rfl rfl hd fun H1 e1 z oq => ?_
  refine hk2 H1 _ ls ⟨?_, z.trans hw.2.1, hw.2.2⟩ (hS.put z oq (hD.2 o _ ha)) hv
  have hset : (mv_c G sh h).set o (mv_b G + o, mv_e G (mv_u h o i.toNatClampNeg x o) (.inl (false, n))) = mv_c G sh (mv_u h o i.toNatClampNeg x) := by
    rw [mv_c_set (fun j hj => mv_u_n hj), mv_set_same hg]
  rw [← hset]
  refine hw.1.set hD ha ?_ oq
  show H1[mv_b G + o]? = some (vp_cell _ _)
  rw [e1, mv_u_s]
  show some ((vp_cell _ (n, .inl (h o))).setSlot _ _) = some (vp_cell _ (n, .inl (upd (h o) i.toNatClampNeg x)))
  rw [vp_cell_i, vp_cell_i, arrV_store]
  congr 2
  funext q
  by_cases hq : q = i.toNatClampNeg
  · subst hq
    simp [updV, upd]
  · simp [updV, upd, hq]
theorem mv_zastore {o n : Nat} {i x : Int32} {ρ : Type} {K : Option ρ} {Q : ρ → Prop} (hd : mv_dc M.2.1 pc .bastore 1 pc') (hg : sh[o]? = some (.inl (true, n))) (h01 : mv_01 x) (hs : mv_sat (if mv_in i n then K else none) Q) (kk : mv_sat K Q → mv_MW G M R Zf cells slots pc' lv st sh (mv_u h o i.toNatClampNeg x)) : mv_MW G M R Zf cells slots pc lv (.int x :: .int i :: .ref o :: st) sh h := by
  obtain ⟨hd, rfl⟩ := hd
  obtain ⟨hi, hs⟩ := mv_sat_g hs
  intro p e s m args below meth c C H locs ls hw hS hv
  have hk2 := kk hs p e s m args below meth c C
  obtain ⟨hx, hb, hr, hml, hown, hts, hlk, hin, hK, hX, hbs⟩ := C
  have ha := mv_c_get (G := G) (h := h) hg
  have hD := mv_dis G sh h
  show W p (mv_l G) e R s m args below meth c H locs cells slots (Zf below args s) (F0 m pc ls (.int x :: .int i :: .ref (mv_a G o) :: st.map (mv_v G)))
  rw [mv_own hw hg]
  refine W.zast hx hb (hw.1 o _ ha) ((hK.2 1 _ rfl).1 n (fun j => .int (h o j))) (fun q => by cases q) (by show ¬ (i < 0 ∨ (arrV _ _ _).slots.size ≤ _); rw [arrV_size]; exact mv_in_vp hi) rfl rfl hd fun H1 e1 z oq => ?_
  refine hk2 H1 _ ls ⟨?_, z.trans hw.2.1, hw.2.2⟩ (hS.put z oq (hD.2 o _ ha)) hv
  have hset : (mv_c G sh h).set o (mv_b G + o, mv_e G (mv_u h o i.toNatClampNeg x o) (.inl (true, n))) = mv_c G sh (mv_u h o i.toNatClampNeg x) := by
    rw [mv_c_set (fun j hj => mv_u_n hj), mv_set_same hg]
  have hnar : narrow .boolean (.int x) = .int x := by rcases h01 with rfl | rfl <;> rfl
  rw [hnar] at e1
  rw [← hset]
  refine hw.1.set hD ha ?_ oq
  show H1[mv_b G + o]? = some (vp_cell _ _)
  rw [e1, mv_u_s]
  show some ((vp_cell _ (n, .inl (h o))).setSlot _ _) = some (vp_cell _ (n, .inl (upd (h o) i.toNatClampNeg x)))
  rw [vp_cell_i, vp_cell_i, arrV_store]
  congr 2
  funext q
  by_cases hq : q = i.toNatClampNeg
  · subst hq
    simp [updV, upd]
  · simp [updV, upd, hq]
/-- an array outside: read alone -/
theorem mv_xload {j : Nat} {i : Int32} {ρ : Type} {K : Option ρ} {Q : ρ → Prop} (hj : j < 3) (hd : mv_dc M.2.1 pc .iaload 1 pc') (hs : mv_sat (if mv_in i (mv_x G j).2.1 then K else none) Q) (kk : mv_sat K Q → mv_MW G M R Zf cells slots pc' lv (.int ((mv_x G j).2.2 i.toNatClampNeg) :: st) sh h) : mv_MW G M R Zf cells slots pc lv (.int i :: .ref (900 + j) :: st) sh h := by
  obtain ⟨hd, rfl⟩ := hd
  obtain ⟨hi, hs⟩ := mv_sat_g hs
  intro p e s m args below meth c C H locs ls hw hS hv
  have hk2 := kk hs p e s m args below meth c C H locs ls hw hS hv
  obtain ⟨hx, hb, hr, hml, hown, hts, hlk, hin, hK, hX, hbs⟩ := C
  have ha : mv_a G (900 + j) = (mv_x G j).1 := by rw [mv_a, if_neg (by omega), Nat.add_sub_cancel_left]
  show W p (mv_l G) e R s m args below meth c H locs cells slots (Zf below args s) (F0 m pc ls (.int i :: .ref (mv_a G (900 + j)) :: st.map (mv_v G)))
  rw [ha]
  exact va_sld hx hb (hX.1 j hj).2 (Nat.lt_of_lt_of_le (hX.1 j hj).1 hbs) (Nat.not_le.mpr (hX.1 j hj).1) hS (mv_in_vp hi) hd hk2
theorem mv_xlen {j : Nat} (hj : j < 3) (hd : mv_dc M.2.1 pc .arraylength 1 pc') (kk : mv_MW G M R Zf cells slots pc' lv (.int (Int32.ofNat (mv_x G j).2.1) :: st) sh h) : mv_MW G M R Zf cells slots pc lv (.ref (900 + j) :: st) sh h := by
  obtain ⟨hd, rfl⟩ := hd
  intro p e s m args below meth c C H locs ls hw hS hv
  have hk2 := kk p e s m args below meth c C H locs ls hw hS hv
  obtain ⟨hx, hb, hr, hml, hown, hts, hlk, hin, hK, hX, hbs⟩ := C
  have ha : mv_a G (900 + j) = (mv_x G j).1 := by rw [mv_a, if_neg (by omega), Nat.add_sub_cancel_left]
  show W p (mv_l G) e R s m args below meth c H locs cells slots (Zf below args s) (F0 m pc ls (.ref (mv_a G (900 + j)) :: st.map (mv_v G)))
  rw [ha]
  exact va_slen hx hb (hX.1 j hj).2 (Nat.lt_of_lt_of_le (hX.1 j hj).1 hbs) (Nat.not_le.mpr (hX.1 j hj).1) hS hd hk2
theorem mv_gets1 {idx : Nat} (hd : mv_dc M.2.1 pc (.getstatic idx) 3 pc') (hl : Cond.fieldLink M.1.cls idx "PaperBoxes" "SETTINGS_LEAST" "[I" ∈ mv_tb) (kk : mv_MW G M R Zf cells slots pc' lv (.ref 901 :: st) sh h) : mv_MW G M R Zf cells slots pc lv st sh h := by
  obtain ⟨hd, rfl⟩ := hd
  intro p e s m args below meth c C H locs ls hw hS hv
  have hk2 := kk p e s m args below meth c C H locs ls hw hS hv
  obtain ⟨hx, hb, hr, hml, hown, hts, hlk, hin, hK, hX, hbs⟩ := C
  exact va_gets hx hb hX.2.1 hS hown (hts _ hl) (fun _ q => q) hd hk2
theorem mv_gets2 {idx : Nat} (hd : mv_dc M.2.1 pc (.getstatic idx) 3 pc') (hl : Cond.fieldLink M.1.cls idx "PaperBoxes" "SETTINGS_MOST" "[I" ∈ mv_tb) (kk : mv_MW G M R Zf cells slots pc' lv (.ref 902 :: st) sh h) : mv_MW G M R Zf cells slots pc lv st sh h := by
  obtain ⟨hd, rfl⟩ := hd
  intro p e s m args below meth c C H locs ls hw hS hv
  have hk2 := kk p e s m args below meth c C H locs ls hw hS hv
  obtain ⟨hx, hb, hr, hml, hown, hts, hlk, hin, hK, hX, hbs⟩ := C
  exact va_gets hx hb hX.2.2.1 hS hown (hts _ hl) (fun _ q => q) hd hk2
theorem mv_ifnullR {o : Nat} {off : Int} (hd : mv_db M.2.1 pc (.ifnull off) off pc' tgt) (k : mv_MW G M R Zf cells slots pc' lv st sh h) : mv_MW G M R Zf cells slots pc lv (.ref o :: st) sh h := by
  obtain ⟨hd, rfl, ht⟩ := hd
  exact fun p e s m args below meth c C H locs ls hw hS hl => lv_ifnull C.1 C.2.1 hd (k p e s m args below meth c C H locs ls hw hS hl)
theorem mv_ifnullN {off : Int} (hd : mv_db M.2.1 pc (.ifnull off) off pc' tgt) (k : mv_MW G M R Zf cells slots tgt lv st sh h) : mv_MW G M R Zf cells slots pc lv (.null :: st) sh h := by
  obtain ⟨hd, rfl, ht⟩ := hd
  exact fun p e s m args below meth c C H locs ls hw hS hl => lv_ifnullN C.1 C.2.1 hd ht (k p e s m args below meth c C H locs ls hw hS hl)
end MvRows2
end

/-- a private method of a class that the tables say can be made, by its rows of tables_1 -/
def lw_okq (q : MethodName × Nat) : Prop := (q.1.cls ≠ "java/lang/invoke/MethodHandle" ∧ q.1.cls ≠ "java/lang/invoke/VarHandle") ∧ Cond.instantiable q.1.cls q.2 ∈ tables_1 ∧ Cond.privateMethod q.1 ∈ tables_1 ∧ Cond.instanceMethod q.1 ∈ tables_1
theorem lw_p0 : lw_okq (⟨"PaneOrder", "found", "(I)I"⟩, 15) := ⟨⟨by decide +kernel, by decide +kernel⟩, List.mem_of_getElem? (i := 16) (by decide +kernel), List.mem_of_getElem? (i := 238) (by decide +kernel), List.mem_of_getElem? (i := 239) (by decide +kernel)⟩
theorem lw_p1 : lw_okq (⟨"PaneOrder", "refusalOfPlace", "(II)I"⟩, 15) := ⟨⟨by decide +kernel, by decide +kernel⟩, List.mem_of_getElem? (i := 16) (by decide +kernel), List.mem_of_getElem? (i := 253) (by decide +kernel), List.mem_of_getElem? (i := 254) (by decide +kernel)⟩
theorem lw_p2 : lw_okq (⟨"PaneOrder$Text", "readPane", "(ILPaneOrder$Pane;)I"⟩, 2) := ⟨⟨by decide +kernel, by decide +kernel⟩, List.mem_of_getElem? (i := 169) (by decide +kernel), List.mem_of_getElem? (i := 310) (by decide +kernel), List.mem_of_getElem? (i := 311) (by decide +kernel)⟩
theorem lw_p3 : lw_okq (⟨"PaneOrder$Text", "kindAt", "(I)I"⟩, 2) := ⟨⟨by decide +kernel, by decide +kernel⟩, List.mem_of_getElem? (i := 169) (by decide +kernel), List.mem_of_getElem? (i := 314) (by decide +kernel), List.mem_of_getElem? (i := 315) (by decide +kernel)⟩
theorem lw_p4 : lw_okq (⟨"PaneOrder$Text", "figureAt", "(III)I"⟩, 2) := ⟨⟨by decide +kernel, by decide +kernel⟩, List.mem_of_getElem? (i := 169) (by decide +kernel), List.mem_of_getElem? (i := 320) (by decide +kernel), List.mem_of_getElem? (i := 321) (by decide +kernel)⟩
theorem lw_p5 : lw_okq (⟨"PaneOrder$Pane", "findCells", "()V"⟩, 9) := ⟨⟨by decide +kernel, by decide +kernel⟩, List.mem_of_getElem? (i := 35) (by decide +kernel), List.mem_of_getElem? (i := 331) (by decide +kernel), List.mem_of_getElem? (i := 332) (by decide +kernel)⟩
theorem lw_p6 : lw_okq (⟨"PaneOrder$Pane", "reaches", "(III)Z"⟩, 9) := ⟨⟨by decide +kernel, by decide +kernel⟩, List.mem_of_getElem? (i := 35) (by decide +kernel), List.mem_of_getElem? (i := 335) (by decide +kernel), List.mem_of_getElem? (i := 336) (by decide +kernel)⟩
theorem lw_p7 : lw_okq (⟨"PaneOrder$Pane", "addCell", "(I)V"⟩, 9) := ⟨⟨by decide +kernel, by decide +kernel⟩, List.mem_of_getElem? (i := 35) (by decide +kernel), List.mem_of_getElem? (i := 339) (by decide +kernel), List.mem_of_getElem? (i := 340) (by decide +kernel)⟩
theorem lw_p8 : lw_okq (⟨"PaneOrder", "ofPane", "(II)I"⟩, 15) := ⟨⟨by decide +kernel, by decide +kernel⟩, List.mem_of_getElem? (i := 16) (by decide +kernel), List.mem_of_getElem? (i := 363) (by decide +kernel), List.mem_of_getElem? (i := 364) (by decide +kernel)⟩
theorem lw_p9 : lw_okq (⟨"PaneOrder$Screen", "wouldBeOver", "(III)Z"⟩, 2) := ⟨⟨by decide +kernel, by decide +kernel⟩, List.mem_of_getElem? (i := 28) (by decide +kernel), List.mem_of_getElem? (i := 379) (by decide +kernel), List.mem_of_getElem? (i := 380) (by decide +kernel)⟩
theorem lw_p10 : lw_okq (⟨"PaneOrder", "reorder", "(II)I"⟩, 15) := ⟨⟨by decide +kernel, by decide +kernel⟩, List.mem_of_getElem? (i := 16) (by decide +kernel), List.mem_of_getElem? (i := 425) (by decide +kernel), List.mem_of_getElem? (i := 426) (by decide +kernel)⟩
theorem lw_p11 : lw_okq (⟨"PaneOrder", "refusalOfOpen", "(I)I"⟩, 15) := ⟨⟨by decide +kernel, by decide +kernel⟩, List.mem_of_getElem? (i := 16) (by decide +kernel), List.mem_of_getElem? (i := 544) (by decide +kernel), List.mem_of_getElem? (i := 545) (by decide +kernel)⟩
theorem lw_p12 : lw_okq (⟨"PaneOrder$BestOrder", "findFor", "(LPaneOrder$Screen;I)V"⟩, 2) := ⟨⟨by decide +kernel, by decide +kernel⟩, List.mem_of_getElem? (i := 129) (by decide +kernel), List.mem_of_getElem? (i := 566) (by decide +kernel), List.mem_of_getElem? (i := 567) (by decide +kernel)⟩
theorem lw_p13 : lw_okq (⟨"PaneOrder", "refusalOfSights", "(II)I"⟩, 15) := ⟨⟨by decide +kernel, by decide +kernel⟩, List.mem_of_getElem? (i := 16) (by decide +kernel), List.mem_of_getElem? (i := 575) (by decide +kernel), List.mem_of_getElem? (i := 576) (by decide +kernel)⟩
theorem lw_p14 : lw_okq (⟨"PaneOrder", "possibleKinds", "(ILPaneOrder$Row;)I"⟩, 15) := ⟨⟨by decide +kernel, by decide +kernel⟩, List.mem_of_getElem? (i := 16) (by decide +kernel), List.mem_of_getElem? (i := 579) (by decide +kernel), List.mem_of_getElem? (i := 580) (by decide +kernel)⟩
theorem lw_p15 : lw_okq (⟨"PaneOrder", "sortIntoParts", "(II)V"⟩, 15) := ⟨⟨by decide +kernel, by decide +kernel⟩, List.mem_of_getElem? (i := 16) (by decide +kernel), List.mem_of_getElem? (i := 600) (by decide +kernel), List.mem_of_getElem? (i := 601) (by decide +kernel)⟩
def lw_privs_1 : List (MethodName × Nat) := [(⟨"PaneOrder", "found", "(I)I"⟩, 15), (⟨"PaneOrder", "refusalOfPlace", "(II)I"⟩, 15), (⟨"PaneOrder$Text", "readPane", "(ILPaneOrder$Pane;)I"⟩, 2), (⟨"PaneOrder$Text", "kindAt", "(I)I"⟩, 2), (⟨"PaneOrder$Text", "figureAt", "(III)I"⟩, 2), (⟨"PaneOrder$Pane", "findCells", "()V"⟩, 9), (⟨"PaneOrder$Pane", "reaches", "(III)Z"⟩, 9), (⟨"PaneOrder$Pane", "addCell", "(I)V"⟩, 9), (⟨"PaneOrder", "ofPane", "(II)I"⟩, 15), (⟨"PaneOrder$Screen", "wouldBeOver", "(III)Z"⟩, 2), (⟨"PaneOrder", "reorder", "(II)I"⟩, 15), (⟨"PaneOrder", "refusalOfOpen", "(I)I"⟩, 15), (⟨"PaneOrder$BestOrder", "findFor", "(LPaneOrder$Screen;I)V"⟩, 2), (⟨"PaneOrder", "refusalOfSights", "(II)I"⟩, 15), (⟨"PaneOrder", "possibleKinds", "(ILPaneOrder$Row;)I"⟩, 15), (⟨"PaneOrder", "sortIntoParts", "(II)V"⟩, 15)]
theorem lw_r1 : ∀ q ∈ lw_privs_1, lw_okq q := List.forall_mem_cons.mpr ⟨lw_p0, List.forall_mem_cons.mpr ⟨lw_p1, List.forall_mem_cons.mpr ⟨lw_p2, List.forall_mem_cons.mpr ⟨lw_p3, List.forall_mem_cons.mpr ⟨lw_p4, List.forall_mem_cons.mpr ⟨lw_p5, List.forall_mem_cons.mpr ⟨lw_p6, List.forall_mem_cons.mpr ⟨lw_p7, List.forall_mem_cons.mpr ⟨lw_p8, List.forall_mem_cons.mpr ⟨lw_p9, List.forall_mem_cons.mpr ⟨lw_p10, List.forall_mem_cons.mpr ⟨lw_p11, List.forall_mem_cons.mpr ⟨lw_p12, List.forall_mem_cons.mpr ⟨lw_p13, List.forall_mem_cons.mpr ⟨lw_p14, List.forall_mem_cons.mpr ⟨lw_p15, fun _ h => absurd h List.not_mem_nil⟩⟩⟩⟩⟩⟩⟩⟩⟩⟩⟩⟩⟩⟩⟩⟩
theorem lw_p16 : lw_okq (⟨"PaneOrder", "greatestPart", "(I)I"⟩, 15) := ⟨⟨by decide +kernel, by decide +kernel⟩, List.mem_of_getElem? (i := 16) (by decide +kernel), List.mem_of_getElem? (i := 605) (by decide +kernel), List.mem_of_getElem? (i := 606) (by decide +kernel)⟩
theorem lw_p17 : lw_okq (⟨"PaneOrder$Turns", "afterTurn", "(IIIZI)I"⟩, 1) := ⟨⟨by decide +kernel, by decide +kernel⟩, List.mem_of_getElem? (i := 142) (by decide +kernel), List.mem_of_getElem? (i := 621) (by decide +kernel), List.mem_of_getElem? (i := 622) (by decide +kernel)⟩
theorem lw_p18 : lw_okq (⟨"PaneOrder", "refusalOfChance", "(II)I"⟩, 15) := ⟨⟨by decide +kernel, by decide +kernel⟩, List.mem_of_getElem? (i := 16) (by decide +kernel), List.mem_of_getElem? (i := 632) (by decide +kernel), List.mem_of_getElem? (i := 633) (by decide +kernel)⟩
theorem lw_p19 : lw_okq (⟨"PaneOrder", "tellFraction", "(JJ)V"⟩, 15) := ⟨⟨by decide +kernel, by decide +kernel⟩, List.mem_of_getElem? (i := 16) (by decide +kernel), List.mem_of_getElem? (i := 639) (by decide +kernel), List.mem_of_getElem? (i := 640) (by decide +kernel)⟩
theorem lw_p20 : lw_okq (⟨"PaneOrder", "doByLot", "(I)V"⟩, 15) := ⟨⟨by decide +kernel, by decide +kernel⟩, List.mem_of_getElem? (i := 16) (by decide +kernel), List.mem_of_getElem? (i := 657) (by decide +kernel), List.mem_of_getElem? (i := 658) (by decide +kernel)⟩
theorem lw_p21 : lw_okq (⟨"PaneOrder", "ofAll", "(I)I"⟩, 15) := ⟨⟨by decide +kernel, by decide +kernel⟩, List.mem_of_getElem? (i := 16) (by decide +kernel), List.mem_of_getElem? (i := 687) (by decide +kernel), List.mem_of_getElem? (i := 688) (by decide +kernel)⟩
theorem lw_p22 : lw_okq (⟨"PaneOrder", "rowsThere", "()I"⟩, 15) := ⟨⟨by decide +kernel, by decide +kernel⟩, List.mem_of_getElem? (i := 16) (by decide +kernel), List.mem_of_getElem? (i := 692) (by decide +kernel), List.mem_of_getElem? (i := 693) (by decide +kernel)⟩
theorem lw_p23 : lw_okq (⟨"PaneOrder", "textsThere", "()I"⟩, 15) := ⟨⟨by decide +kernel, by decide +kernel⟩, List.mem_of_getElem? (i := 16) (by decide +kernel), List.mem_of_getElem? (i := 696) (by decide +kernel), List.mem_of_getElem? (i := 697) (by decide +kernel)⟩
theorem lw_p24 : lw_okq (⟨"PaneOrder", "keptThere", "()I"⟩, 15) := ⟨⟨by decide +kernel, by decide +kernel⟩, List.mem_of_getElem? (i := 16) (by decide +kernel), List.mem_of_getElem? (i := 700) (by decide +kernel), List.mem_of_getElem? (i := 701) (by decide +kernel)⟩
theorem lw_p25 : lw_okq (⟨"PaneOrderModel", "found", "(I)I"⟩, 33) := ⟨⟨by decide +kernel, by decide +kernel⟩, List.mem_of_getElem? (i := 733) (by decide +kernel), List.mem_of_getElem? (i := 850) (by decide +kernel), List.mem_of_getElem? (i := 851) (by decide +kernel)⟩
theorem lw_p26 : lw_okq (⟨"PaneOrderModel", "against", "(II)I"⟩, 33) := ⟨⟨by decide +kernel, by decide +kernel⟩, List.mem_of_getElem? (i := 733) (by decide +kernel), List.mem_of_getElem? (i := 858) (by decide +kernel), List.mem_of_getElem? (i := 859) (by decide +kernel)⟩
theorem lw_p27 : lw_okq (⟨"PaneOrderModel", "tells", "(II)I"⟩, 33) := ⟨⟨by decide +kernel, by decide +kernel⟩, List.mem_of_getElem? (i := 733) (by decide +kernel), List.mem_of_getElem? (i := 862) (by decide +kernel), List.mem_of_getElem? (i := 863) (by decide +kernel)⟩
theorem lw_p28 : lw_okq (⟨"PaneOrderModel", "isPart", "(III)Z"⟩, 33) := ⟨⟨by decide +kernel, by decide +kernel⟩, List.mem_of_getElem? (i := 733) (by decide +kernel), List.mem_of_getElem? (i := 878) (by decide +kernel), List.mem_of_getElem? (i := 879) (by decide +kernel)⟩
theorem lw_p29 : lw_okq (⟨"PaneOrderModel", "reads", "(I)I"⟩, 33) := ⟨⟨by decide +kernel, by decide +kernel⟩, List.mem_of_getElem? (i := 733) (by decide +kernel), List.mem_of_getElem? (i := 901) (by decide +kernel), List.mem_of_getElem? (i := 902) (by decide +kernel)⟩
theorem lw_p30 : lw_okq (⟨"PaneOrderModel", "blanks", "()V"⟩, 33) := ⟨⟨by decide +kernel, by decide +kernel⟩, List.mem_of_getElem? (i := 733) (by decide +kernel), List.mem_of_getElem? (i := 905) (by decide +kernel), List.mem_of_getElem? (i := 906) (by decide +kernel)⟩
theorem lw_p31 : lw_okq (⟨"PaneOrderModel", "byteAt", "(I)I"⟩, 33) := ⟨⟨by decide +kernel, by decide +kernel⟩, List.mem_of_getElem? (i := 733) (by decide +kernel), List.mem_of_getElem? (i := 909) (by decide +kernel), List.mem_of_getElem? (i := 910) (by decide +kernel)⟩
def lw_privs_2 : List (MethodName × Nat) := [(⟨"PaneOrder", "greatestPart", "(I)I"⟩, 15), (⟨"PaneOrder$Turns", "afterTurn", "(IIIZI)I"⟩, 1), (⟨"PaneOrder", "refusalOfChance", "(II)I"⟩, 15), (⟨"PaneOrder", "tellFraction", "(JJ)V"⟩, 15), (⟨"PaneOrder", "doByLot", "(I)V"⟩, 15), (⟨"PaneOrder", "ofAll", "(I)I"⟩, 15), (⟨"PaneOrder", "rowsThere", "()I"⟩, 15), (⟨"PaneOrder", "textsThere", "()I"⟩, 15), (⟨"PaneOrder", "keptThere", "()I"⟩, 15), (⟨"PaneOrderModel", "found", "(I)I"⟩, 33), (⟨"PaneOrderModel", "against", "(II)I"⟩, 33), (⟨"PaneOrderModel", "tells", "(II)I"⟩, 33), (⟨"PaneOrderModel", "isPart", "(III)Z"⟩, 33), (⟨"PaneOrderModel", "reads", "(I)I"⟩, 33), (⟨"PaneOrderModel", "blanks", "()V"⟩, 33), (⟨"PaneOrderModel", "byteAt", "(I)I"⟩, 33)]
theorem lw_r2 : ∀ q ∈ lw_privs_2, lw_okq q := List.forall_mem_cons.mpr ⟨lw_p16, List.forall_mem_cons.mpr ⟨lw_p17, List.forall_mem_cons.mpr ⟨lw_p18, List.forall_mem_cons.mpr ⟨lw_p19, List.forall_mem_cons.mpr ⟨lw_p20, List.forall_mem_cons.mpr ⟨lw_p21, List.forall_mem_cons.mpr ⟨lw_p22, List.forall_mem_cons.mpr ⟨lw_p23, List.forall_mem_cons.mpr ⟨lw_p24, List.forall_mem_cons.mpr ⟨lw_p25, List.forall_mem_cons.mpr ⟨lw_p26, List.forall_mem_cons.mpr ⟨lw_p27, List.forall_mem_cons.mpr ⟨lw_p28, List.forall_mem_cons.mpr ⟨lw_p29, List.forall_mem_cons.mpr ⟨lw_p30, List.forall_mem_cons.mpr ⟨lw_p31, fun _ h => absurd h List.not_mem_nil⟩⟩⟩⟩⟩⟩⟩⟩⟩⟩⟩⟩⟩⟩⟩⟩
theorem lw_p32 : lw_okq (⟨"PaneOrderModel", "figure", "(II)I"⟩, 33) := ⟨⟨by decide +kernel, by decide +kernel⟩, List.mem_of_getElem? (i := 733) (by decide +kernel), List.mem_of_getElem? (i := 916) (by decide +kernel), List.mem_of_getElem? (i := 917) (by decide +kernel)⟩
theorem lw_p33 : lw_okq (⟨"PaneOrderModel", "isPane", "(I)Z"⟩, 33) := ⟨⟨by decide +kernel, by decide +kernel⟩, List.mem_of_getElem? (i := 733) (by decide +kernel), List.mem_of_getElem? (i := 928) (by decide +kernel), List.mem_of_getElem? (i := 929) (by decide +kernel)⟩
theorem lw_p34 : lw_okq (⟨"PaneOrderModel", "ofPane", "(II)I"⟩, 33) := ⟨⟨by decide +kernel, by decide +kernel⟩, List.mem_of_getElem? (i := 733) (by decide +kernel), List.mem_of_getElem? (i := 932) (by decide +kernel), List.mem_of_getElem? (i := 933) (by decide +kernel)⟩
theorem lw_p35 : lw_okq (⟨"PaneOrderModel", "sees", "()V"⟩, 33) := ⟨⟨by decide +kernel, by decide +kernel⟩, List.mem_of_getElem? (i := 733) (by decide +kernel), List.mem_of_getElem? (i := 936) (by decide +kernel), List.mem_of_getElem? (i := 937) (by decide +kernel)⟩
theorem lw_p36 : lw_okq (⟨"PaneOrderModel", "asNow", "()V"⟩, 33) := ⟨⟨by decide +kernel, by decide +kernel⟩, List.mem_of_getElem? (i := 733) (by decide +kernel), List.mem_of_getElem? (i := 940) (by decide +kernel), List.mem_of_getElem? (i := 941) (by decide +kernel)⟩
theorem lw_p37 : lw_okq (⟨"PaneOrderModel", "coveringAll", "()V"⟩, 33) := ⟨⟨by decide +kernel, by decide +kernel⟩, List.mem_of_getElem? (i := 733) (by decide +kernel), List.mem_of_getElem? (i := 944) (by decide +kernel), List.mem_of_getElem? (i := 945) (by decide +kernel)⟩
theorem lw_p38 : lw_okq (⟨"PaneOrderModel", "covering", "(I)V"⟩, 33) := ⟨⟨by decide +kernel, by decide +kernel⟩, List.mem_of_getElem? (i := 733) (by decide +kernel), List.mem_of_getElem? (i := 948) (by decide +kernel), List.mem_of_getElem? (i := 949) (by decide +kernel)⟩
theorem lw_p39 : lw_okq (⟨"PaneOrderModel", "isCovered", "(IIIII)Z"⟩, 33) := ⟨⟨by decide +kernel, by decide +kernel⟩, List.mem_of_getElem? (i := 733) (by decide +kernel), List.mem_of_getElem? (i := 952) (by decide +kernel), List.mem_of_getElem? (i := 953) (by decide +kernel)⟩
theorem lw_p40 : lw_okq (⟨"PaneOrderModel", "seeing", "()V"⟩, 33) := ⟨⟨by decide +kernel, by decide +kernel⟩, List.mem_of_getElem? (i := 733) (by decide +kernel), List.mem_of_getElem? (i := 956) (by decide +kernel), List.mem_of_getElem? (i := 957) (by decide +kernel)⟩
theorem lw_p41 : lw_okq (⟨"PaneOrderModel", "cellsOf", "(I)I"⟩, 33) := ⟨⟨by decide +kernel, by decide +kernel⟩, List.mem_of_getElem? (i := 733) (by decide +kernel), List.mem_of_getElem? (i := 964) (by decide +kernel), List.mem_of_getElem? (i := 965) (by decide +kernel)⟩
theorem lw_p42 : lw_okq (⟨"PaneOrderModel", "placeOf", "(I)I"⟩, 33) := ⟨⟨by decide +kernel, by decide +kernel⟩, List.mem_of_getElem? (i := 733) (by decide +kernel), List.mem_of_getElem? (i := 971) (by decide +kernel), List.mem_of_getElem? (i := 972) (by decide +kernel)⟩
theorem lw_p43 : lw_okq (⟨"PaneOrderModel", "coveredOf", "(I)I"⟩, 33) := ⟨⟨by decide +kernel, by decide +kernel⟩, List.mem_of_getElem? (i := 733) (by decide +kernel), List.mem_of_getElem? (i := 982) (by decide +kernel), List.mem_of_getElem? (i := 983) (by decide +kernel)⟩
theorem lw_p44 : lw_okq (⟨"PaneOrderModel", "shifts", "(II)I"⟩, 33) := ⟨⟨by decide +kernel, by decide +kernel⟩, List.mem_of_getElem? (i := 733) (by decide +kernel), List.mem_of_getElem? (i := 994) (by decide +kernel), List.mem_of_getElem? (i := 995) (by decide +kernel)⟩
theorem lw_p45 : lw_okq (⟨"PaneOrderModel", "notes", "()V"⟩, 33) := ⟨⟨by decide +kernel, by decide +kernel⟩, List.mem_of_getElem? (i := 733) (by decide +kernel), List.mem_of_getElem? (i := 998) (by decide +kernel), List.mem_of_getElem? (i := 999) (by decide +kernel)⟩
theorem lw_p46 : lw_okq (⟨"PaneOrderModel", "comesTo", "([III)V"⟩, 33) := ⟨⟨by decide +kernel, by decide +kernel⟩, List.mem_of_getElem? (i := 733) (by decide +kernel), List.mem_of_getElem? (i := 1002) (by decide +kernel), List.mem_of_getElem? (i := 1003) (by decide +kernel)⟩
theorem lw_p47 : lw_okq (⟨"PaneOrderModel", "isOn", "(III)Z"⟩, 33) := ⟨⟨by decide +kernel, by decide +kernel⟩, List.mem_of_getElem? (i := 733) (by decide +kernel), List.mem_of_getElem? (i := 1014) (by decide +kernel), List.mem_of_getElem? (i := 1015) (by decide +kernel)⟩
def lw_privs_3 : List (MethodName × Nat) := [(⟨"PaneOrderModel", "figure", "(II)I"⟩, 33), (⟨"PaneOrderModel", "isPane", "(I)Z"⟩, 33), (⟨"PaneOrderModel", "ofPane", "(II)I"⟩, 33), (⟨"PaneOrderModel", "sees", "()V"⟩, 33), (⟨"PaneOrderModel", "asNow", "()V"⟩, 33), (⟨"PaneOrderModel", "coveringAll", "()V"⟩, 33), (⟨"PaneOrderModel", "covering", "(I)V"⟩, 33), (⟨"PaneOrderModel", "isCovered", "(IIIII)Z"⟩, 33), (⟨"PaneOrderModel", "seeing", "()V"⟩, 33), (⟨"PaneOrderModel", "cellsOf", "(I)I"⟩, 33), (⟨"PaneOrderModel", "placeOf", "(I)I"⟩, 33), (⟨"PaneOrderModel", "coveredOf", "(I)I"⟩, 33), (⟨"PaneOrderModel", "shifts", "(II)I"⟩, 33), (⟨"PaneOrderModel", "notes", "()V"⟩, 33), (⟨"PaneOrderModel", "comesTo", "([III)V"⟩, 33), (⟨"PaneOrderModel", "isOn", "(III)Z"⟩, 33)]
theorem lw_r3 : ∀ q ∈ lw_privs_3, lw_okq q := List.forall_mem_cons.mpr ⟨lw_p32, List.forall_mem_cons.mpr ⟨lw_p33, List.forall_mem_cons.mpr ⟨lw_p34, List.forall_mem_cons.mpr ⟨lw_p35, List.forall_mem_cons.mpr ⟨lw_p36, List.forall_mem_cons.mpr ⟨lw_p37, List.forall_mem_cons.mpr ⟨lw_p38, List.forall_mem_cons.mpr ⟨lw_p39, List.forall_mem_cons.mpr ⟨lw_p40, List.forall_mem_cons.mpr ⟨lw_p41, List.forall_mem_cons.mpr ⟨lw_p42, List.forall_mem_cons.mpr ⟨lw_p43, List.forall_mem_cons.mpr ⟨lw_p44, List.forall_mem_cons.mpr ⟨lw_p45, List.forall_mem_cons.mpr ⟨lw_p46, List.forall_mem_cons.mpr ⟨lw_p47, fun _ h => absurd h List.not_mem_nil⟩⟩⟩⟩⟩⟩⟩⟩⟩⟩⟩⟩⟩⟩⟩⟩
theorem lw_p48 : lw_okq (⟨"PaneOrderModel", "whoAt", "(I)I"⟩, 33) := ⟨⟨by decide +kernel, by decide +kernel⟩, List.mem_of_getElem? (i := 733) (by decide +kernel), List.mem_of_getElem? (i := 1038) (by decide +kernel), List.mem_of_getElem? (i := 1039) (by decide +kernel)⟩
theorem lw_p49 : lw_okq (⟨"PaneOrderModel", "isSeenAt", "(II)Z"⟩, 33) := ⟨⟨by decide +kernel, by decide +kernel⟩, List.mem_of_getElem? (i := 733) (by decide +kernel), List.mem_of_getElem? (i := 1042) (by decide +kernel), List.mem_of_getElem? (i := 1043) (by decide +kernel)⟩
theorem lw_p50 : lw_okq (⟨"PaneOrderModel", "isCoverAt", "(II)Z"⟩, 33) := ⟨⟨by decide +kernel, by decide +kernel⟩, List.mem_of_getElem? (i := 733) (by decide +kernel), List.mem_of_getElem? (i := 1046) (by decide +kernel), List.mem_of_getElem? (i := 1047) (by decide +kernel)⟩
theorem lw_p51 : lw_okq (⟨"PaneOrderModel", "shown", "()I"⟩, 33) := ⟨⟨by decide +kernel, by decide +kernel⟩, List.mem_of_getElem? (i := 733) (by decide +kernel), List.mem_of_getElem? (i := 1054) (by decide +kernel), List.mem_of_getElem? (i := 1055) (by decide +kernel)⟩
theorem lw_p52 : lw_okq (⟨"PaneOrderModel", "isOver", "(II)Z"⟩, 33) := ⟨⟨by decide +kernel, by decide +kernel⟩, List.mem_of_getElem? (i := 733) (by decide +kernel), List.mem_of_getElem? (i := 1062) (by decide +kernel), List.mem_of_getElem? (i := 1063) (by decide +kernel)⟩
theorem lw_p53 : lw_okq (⟨"PaneOrderModel", "againstOpen", "(I)I"⟩, 33) := ⟨⟨by decide +kernel, by decide +kernel⟩, List.mem_of_getElem? (i := 733) (by decide +kernel), List.mem_of_getElem? (i := 1070) (by decide +kernel), List.mem_of_getElem? (i := 1071) (by decide +kernel)⟩
theorem lw_p54 : lw_okq (⟨"PaneOrderModel", "overIt", "(I)I"⟩, 33) := ⟨⟨by decide +kernel, by decide +kernel⟩, List.mem_of_getElem? (i := 733) (by decide +kernel), List.mem_of_getElem? (i := 1074) (by decide +kernel), List.mem_of_getElem? (i := 1075) (by decide +kernel)⟩
theorem lw_p55 : lw_okq (⟨"PaneOrderModel", "manySeen", "()I"⟩, 33) := ⟨⟨by decide +kernel, by decide +kernel⟩, List.mem_of_getElem? (i := 733) (by decide +kernel), List.mem_of_getElem? (i := 1086) (by decide +kernel), List.mem_of_getElem? (i := 1087) (by decide +kernel)⟩
theorem lw_p56 : lw_okq (⟨"PaneOrderModel", "nextOrder", "()Z"⟩, 33) := ⟨⟨by decide +kernel, by decide +kernel⟩, List.mem_of_getElem? (i := 733) (by decide +kernel), List.mem_of_getElem? (i := 1090) (by decide +kernel), List.mem_of_getElem? (i := 1091) (by decide +kernel)⟩
theorem lw_p57 : lw_okq (⟨"PaneOrderModel", "trades", "(II)V"⟩, 33) := ⟨⟨by decide +kernel, by decide +kernel⟩, List.mem_of_getElem? (i := 733) (by decide +kernel), List.mem_of_getElem? (i := 1094) (by decide +kernel), List.mem_of_getElem? (i := 1095) (by decide +kernel)⟩
theorem lw_p58 : lw_okq (⟨"PaneOrderModel", "againstPairs", "(II)I"⟩, 33) := ⟨⟨by decide +kernel, by decide +kernel⟩, List.mem_of_getElem? (i := 733) (by decide +kernel), List.mem_of_getElem? (i := 1102) (by decide +kernel), List.mem_of_getElem? (i := 1103) (by decide +kernel)⟩
theorem lw_p59 : lw_okq (⟨"PaneOrderModel", "kindsOf", "(II)I"⟩, 33) := ⟨⟨by decide +kernel, by decide +kernel⟩, List.mem_of_getElem? (i := 733) (by decide +kernel), List.mem_of_getElem? (i := 1106) (by decide +kernel), List.mem_of_getElem? (i := 1107) (by decide +kernel)⟩
theorem lw_p60 : lw_okq (⟨"PaneOrderModel", "isSo", "(I)Z"⟩, 33) := ⟨⟨by decide +kernel, by decide +kernel⟩, List.mem_of_getElem? (i := 733) (by decide +kernel), List.mem_of_getElem? (i := 1110) (by decide +kernel), List.mem_of_getElem? (i := 1111) (by decide +kernel)⟩
theorem lw_p61 : lw_okq (⟨"PaneOrderModel", "placeIf", "(I)I"⟩, 33) := ⟨⟨by decide +kernel, by decide +kernel⟩, List.mem_of_getElem? (i := 733) (by decide +kernel), List.mem_of_getElem? (i := 1126) (by decide +kernel), List.mem_of_getElem? (i := 1127) (by decide +kernel)⟩
theorem lw_p62 : lw_okq (⟨"PaneOrderModel", "fraction", "(JJ)V"⟩, 33) := ⟨⟨by decide +kernel, by decide +kernel⟩, List.mem_of_getElem? (i := 733) (by decide +kernel), List.mem_of_getElem? (i := 1138) (by decide +kernel), List.mem_of_getElem? (i := 1139) (by decide +kernel)⟩
theorem lw_p63 : lw_okq (⟨"PaneOrderModel", "countOf", "(I)I"⟩, 33) := ⟨⟨by decide +kernel, by decide +kernel⟩, List.mem_of_getElem? (i := 733) (by decide +kernel), List.mem_of_getElem? (i := 1172) (by decide +kernel), List.mem_of_getElem? (i := 1173) (by decide +kernel)⟩
def lw_privs_4 : List (MethodName × Nat) := [(⟨"PaneOrderModel", "whoAt", "(I)I"⟩, 33), (⟨"PaneOrderModel", "isSeenAt", "(II)Z"⟩, 33), (⟨"PaneOrderModel", "isCoverAt", "(II)Z"⟩, 33), (⟨"PaneOrderModel", "shown", "()I"⟩, 33), (⟨"PaneOrderModel", "isOver", "(II)Z"⟩, 33), (⟨"PaneOrderModel", "againstOpen", "(I)I"⟩, 33), (⟨"PaneOrderModel", "overIt", "(I)I"⟩, 33), (⟨"PaneOrderModel", "manySeen", "()I"⟩, 33), (⟨"PaneOrderModel", "nextOrder", "()Z"⟩, 33), (⟨"PaneOrderModel", "trades", "(II)V"⟩, 33), (⟨"PaneOrderModel", "againstPairs", "(II)I"⟩, 33), (⟨"PaneOrderModel", "kindsOf", "(II)I"⟩, 33), (⟨"PaneOrderModel", "isSo", "(I)Z"⟩, 33), (⟨"PaneOrderModel", "placeIf", "(I)I"⟩, 33), (⟨"PaneOrderModel", "fraction", "(JJ)V"⟩, 33), (⟨"PaneOrderModel", "countOf", "(I)I"⟩, 33)]
theorem lw_r4 : ∀ q ∈ lw_privs_4, lw_okq q := List.forall_mem_cons.mpr ⟨lw_p48, List.forall_mem_cons.mpr ⟨lw_p49, List.forall_mem_cons.mpr ⟨lw_p50, List.forall_mem_cons.mpr ⟨lw_p51, List.forall_mem_cons.mpr ⟨lw_p52, List.forall_mem_cons.mpr ⟨lw_p53, List.forall_mem_cons.mpr ⟨lw_p54, List.forall_mem_cons.mpr ⟨lw_p55, List.forall_mem_cons.mpr ⟨lw_p56, List.forall_mem_cons.mpr ⟨lw_p57, List.forall_mem_cons.mpr ⟨lw_p58, List.forall_mem_cons.mpr ⟨lw_p59, List.forall_mem_cons.mpr ⟨lw_p60, List.forall_mem_cons.mpr ⟨lw_p61, List.forall_mem_cons.mpr ⟨lw_p62, List.forall_mem_cons.mpr ⟨lw_p63, fun _ h => absurd h List.not_mem_nil⟩⟩⟩⟩⟩⟩⟩⟩⟩⟩⟩⟩⟩⟩⟩⟩
def lw_privs : List (MethodName × Nat) := lw_privs_1 ++ (lw_privs_2 ++ (lw_privs_3 ++ (lw_privs_4)))
def lw_tbl : List Cond := k2_sels lw_privs ++ tables_1
theorem lw_privs_ok : ∀ q ∈ lw_privs, lw_okq q := by
  show ∀ q ∈ lw_privs_1 ++ (lw_privs_2 ++ (lw_privs_3 ++ (lw_privs_4))), lw_okq q
  exact List.forall_mem_append.mpr ⟨lw_r1, List.forall_mem_append.mpr ⟨lw_r2, List.forall_mem_append.mpr ⟨lw_r3, lw_r4⟩⟩⟩
def RX0 : String := "PaneOrder$BestOrder"
def TX0 : u_T := fun k => match k with
  | 0 => ("PaneOrder$BestOrder", "most", "[I", true)
  | _ => ("PaneOrder$BestOrder", "lowest", "[I", true)
def tyX0 : Nat → FieldType := fun k => match k with
  | 0 => .array .int
  | _ => .array .int
abbrev wsX00 : List Cond := u_ws RX0 TX0 2
theorem nmX0 : ∀ a, a < 2 → ∀ b, b < 2 → a ≠ b → (TX0 a).2.1 ≠ (TX0 b).2.1 := by decide +kernel
theorem tyX0_ok : ∀ k, k < 2 → parseFieldDescriptor (TX0 k).2.2.1 = some (tyX0 k) := by decide +kernel
abbrev cX0_init : ByteArray := prog_2_method_1_code
def yX0_init : MethodName := ⟨RX0, "<init>", "()V"⟩
abbrev cX0_findInto : ByteArray := prog_2_method_2_code
def yX0_findInto : MethodName := ⟨RX0, "findInto", "([ILPaneOrder$Screen;)I"⟩
abbrev cX0_findFor : ByteArray := prog_2_method_3_code
def yX0_findFor : MethodName := ⟨RX0, "findFor", "(LPaneOrder$Screen;I)V"⟩
def RX1 : String := "PaneOrder$Deeds"
def TX1 : u_T := fun k => match k with
  | 0 => ("PaneOrder$Deeds", "what", "[I", true)
  | 1 => ("PaneOrder$Deeds", "who", "[I", true)
  | 2 => ("PaneOrder$Deeds", "first", "[I", true)
  | 3 => ("PaneOrder$Deeds", "second", "[I", true)
  | _ => ("PaneOrder$Deeds", "size", "I", false)
def tyX1 : Nat → FieldType := fun k => match k with
  | 0 => .array .int
  | 1 => .array .int
  | 2 => .array .int
  | 3 => .array .int
  | _ => .int
abbrev wsX10 : List Cond := u_ws RX1 TX1 5
theorem nmX1 : ∀ a, a < 5 → ∀ b, b < 5 → a ≠ b → (TX1 a).2.1 ≠ (TX1 b).2.1 := by decide +kernel
theorem tyX1_ok : ∀ k, k < 5 → parseFieldDescriptor (TX1 k).2.2.1 = some (tyX1 k) := by decide +kernel
abbrev cX1_init : ByteArray := prog_3_method_1_code
def yX1_init : MethodName := ⟨RX1, "<init>", "()V"⟩
abbrev cX1_hasRoomFor : ByteArray := prog_3_method_2_code
def yX1_hasRoomFor : MethodName := ⟨RX1, "hasRoomFor", "(I)Z"⟩
abbrev cX1_note : ByteArray := prog_3_method_3_code
def yX1_note : MethodName := ⟨RX1, "note", "(IIII)V"⟩
abbrev cX1_takeBackLast : ByteArray := prog_3_method_4_code
def yX1_takeBackLast : MethodName := ⟨RX1, "takeBackLast", "(LPaneOrder$Screen;)V"⟩
abbrev cX1_become : ByteArray := prog_3_method_5_code
def yX1_become : MethodName := ⟨RX1, "become", "(LPaneOrder$Deeds;)V"⟩
def RX2 : String := "PaneOrder$Pane"
def TX2 : u_T := fun k => match k with
  | 0 => ("PaneOrder$Pane", "kind", "I", false)
  | 1 => ("PaneOrder$Pane", "left", "I", false)
  | 2 => ("PaneOrder$Pane", "top", "I", false)
  | 3 => ("PaneOrder$Pane", "wide", "I", false)
  | 4 => ("PaneOrder$Pane", "high", "I", false)
  | 5 => ("PaneOrder$Pane", "place", "I", false)
  | 6 => ("PaneOrder$Pane", "open", "Z", false)
  | 7 => ("PaneOrder$Pane", "upperHalf", "J", false)
  | _ => ("PaneOrder$Pane", "lowerHalf", "J", false)
def tyX2 : Nat → FieldType := fun k => match k with
  | 0 => .int
  | 1 => .int
  | 2 => .int
  | 3 => .int
  | 4 => .int
  | 5 => .int
  | 6 => .boolean
  | 7 => .long
  | _ => .long
abbrev wsX20 : List Cond := u_ws RX2 TX2 9
theorem nmX2 : ∀ a, a < 9 → ∀ b, b < 9 → a ≠ b → (TX2 a).2.1 ≠ (TX2 b).2.1 := by decide +kernel
theorem tyX2_ok : ∀ k, k < 9 → parseFieldDescriptor (TX2 k).2.2.1 = some (tyX2 k) := by decide +kernel
abbrev cX2_init : ByteArray := prog_4_method_1_code
def yX2_init : MethodName := ⟨RX2, "<init>", "()V"⟩
abbrev cX2_become : ByteArray := prog_4_method_2_code
def yX2_become : MethodName := ⟨RX2, "become", "(LPaneOrder$Pane;)V"⟩
abbrev cX2_rank : ByteArray := prog_4_method_3_code
def yX2_rank : MethodName := ⟨RX2, "rank", "()I"⟩
abbrev cX2_fitsAt : ByteArray := prog_4_method_4_code
def yX2_fitsAt : MethodName := ⟨RX2, "fitsAt", "(II)Z"⟩
abbrev cX2_lieAt : ByteArray := prog_4_method_5_code
def yX2_lieAt : MethodName := ⟨RX2, "lieAt", "(II)V"⟩
abbrev cX2_turnInto : ByteArray := prog_4_method_6_code
def yX2_turnInto : MethodName := ⟨RX2, "turnInto", "(I)V"⟩
abbrev cX2_findCells : ByteArray := prog_4_method_7_code
def yX2_findCells : MethodName := ⟨RX2, "findCells", "()V"⟩
abbrev cX2_addCell : ByteArray := prog_4_method_8_code
def yX2_addCell : MethodName := ⟨RX2, "addCell", "(I)V"⟩
abbrev cX2_reaches : ByteArray := prog_4_method_9_code
def yX2_reaches : MethodName := ⟨RX2, "reaches", "(III)Z"⟩
abbrev cX2_hasCell : ByteArray := prog_4_method_10_code
def yX2_hasCell : MethodName := ⟨RX2, "hasCell", "(I)Z"⟩
abbrev cX2_covered : ByteArray := prog_4_method_11_code
def yX2_covered : MethodName := ⟨RX2, "covered", "()I"⟩
abbrev cX2_coveredAs : ByteArray := prog_4_method_12_code
def yX2_coveredAs : MethodName := ⟨RX2, "coveredAs", "(I)I"⟩
abbrev cX2_cellsShared : ByteArray := prog_4_method_13_code
def yX2_cellsShared : MethodName := ⟨RX2, "cellsShared", "(LPaneOrder$Pane;)I"⟩
def RX3 : String := "PaneOrder$Row"
def TX3 : u_T := fun k => match k with
  | 0 => ("PaneOrder$Row", "ints", "[I", true)
  | _ => ("PaneOrder$Row", "size", "I", false)
def tyX3 : Nat → FieldType := fun k => match k with
  | 0 => .array .int
  | _ => .int
abbrev wsX30 : List Cond := u_ws RX3 TX3 2
theorem nmX3 : ∀ a, a < 2 → ∀ b, b < 2 → a ≠ b → (TX3 a).2.1 ≠ (TX3 b).2.1 := by decide +kernel
theorem tyX3_ok : ∀ k, k < 2 → parseFieldDescriptor (TX3 k).2.2.1 = some (tyX3 k) := by decide +kernel
abbrev cX3_init : ByteArray := prog_5_method_1_code
def yX3_init : MethodName := ⟨RX3, "<init>", "()V"⟩
abbrev cX3_renew : ByteArray := prog_5_method_2_code
def yX3_renew : MethodName := ⟨RX3, "renew", "(I)V"⟩
abbrev cX3_hasPlaces : ByteArray := prog_5_method_3_code
def yX3_hasPlaces : MethodName := ⟨RX3, "hasPlaces", "(II)Z"⟩
abbrev cX3_sum : ByteArray := prog_5_method_4_code
def yX3_sum : MethodName := ⟨RX3, "sum", "()J"⟩
abbrev cX3_digestFrom : ByteArray := prog_5_method_5_code
def yX3_digestFrom : MethodName := ⟨RX3, "digestFrom", "(J)J"⟩
def RX4 : String := "PaneOrder$Screen"
def TX4 : u_T := fun k => match k with
  | 0 => ("PaneOrder$Screen", "panes", "[LPaneOrder$Pane;", true)
  | _ => ("PaneOrder$Screen", "size", "I", false)
def tyX4 : Nat → FieldType := fun k => match k with
  | 0 => .array (.object "PaneOrder$Pane")
  | _ => .int
abbrev wsX40 : List Cond := u_ws RX4 TX4 2
theorem nmX4 : ∀ a, a < 2 → ∀ b, b < 2 → a ≠ b → (TX4 a).2.1 ≠ (TX4 b).2.1 := by decide +kernel
theorem tyX4_ok : ∀ k, k < 2 → parseFieldDescriptor (TX4 k).2.2.1 = some (tyX4 k) := by decide +kernel
abbrev cX4_init : ByteArray := prog_6_method_1_code
def yX4_init : MethodName := ⟨RX4, "<init>", "()V"⟩
abbrev cX4_has : ByteArray := prog_6_method_2_code
def yX4_has : MethodName := ⟨RX4, "has", "(I)Z"⟩
abbrev cX4_become : ByteArray := prog_6_method_3_code
def yX4_become : MethodName := ⟨RX4, "become", "(LPaneOrder$Screen;)V"⟩
abbrev cX4_placeAt : ByteArray := prog_6_method_4_code
def yX4_placeAt : MethodName := ⟨RX4, "placeAt", "(II)V"⟩
abbrev cX4_after : ByteArray := prog_6_method_5_code
def yX4_after : MethodName := ⟨RX4, "after", "(I)I"⟩
abbrev cX4_notTopAfter : ByteArray := prog_6_method_6_code
def yX4_notTopAfter : MethodName := ⟨RX4, "notTopAfter", "(I)I"⟩
abbrev cX4_shownNow : ByteArray := prog_6_method_7_code
def yX4_shownNow : MethodName := ⟨RX4, "shownNow", "(I)I"⟩
abbrev cX4_shown : ByteArray := prog_6_method_8_code
def yX4_shown : MethodName := ⟨RX4, "shown", "(II)I"⟩
abbrev cX4_wouldBeOver : ByteArray := prog_6_method_9_code
def yX4_wouldBeOver : MethodName := ⟨RX4, "wouldBeOver", "(III)Z"⟩
abbrev cX4_whoAt : ByteArray := prog_6_method_10_code
def yX4_whoAt : MethodName := ⟨RX4, "whoAt", "(I)I"⟩
abbrev cX4_howManyCover : ByteArray := prog_6_method_11_code
def yX4_howManyCover : MethodName := ⟨RX4, "howManyCover", "(I)I"⟩
abbrev cX4_howManyOver : ByteArray := prog_6_method_12_code
def yX4_howManyOver : MethodName := ⟨RX4, "howManyOver", "(II)I"⟩
abbrev cX4_inTheWayOf : ByteArray := prog_6_method_13_code
def yX4_inTheWayOf : MethodName := ⟨RX4, "inTheWayOf", "(I)I"⟩
abbrev cX4_unseenOpenOnes : ByteArray := prog_6_method_14_code
def yX4_unseenOpenOnes : MethodName := ⟨RX4, "unseenOpenOnes", "()I"⟩
abbrev cX4_howManySeen : ByteArray := prog_6_method_15_code
def yX4_howManySeen : MethodName := ⟨RX4, "howManySeen", "()I"⟩
abbrev cX4_shutOnes : ByteArray := prog_6_method_16_code
def yX4_shutOnes : MethodName := ⟨RX4, "shutOnes", "()I"⟩
abbrev cX4_howManyOpen : ByteArray := prog_6_method_17_code
def yX4_howManyOpen : MethodName := ⟨RX4, "howManyOpen", "()I"⟩
abbrev cX4_howManyAre : ByteArray := prog_6_method_18_code
def yX4_howManyAre : MethodName := ⟨RX4, "howManyAre", "(I)I"⟩
abbrev cX4_cellsThatShowOne : ByteArray := prog_6_method_19_code
def yX4_cellsThatShowOne : MethodName := ⟨RX4, "cellsThatShowOne", "()I"⟩
abbrev cX4_agreesWith : ByteArray := prog_6_method_20_code
def yX4_agreesWith : MethodName := ⟨RX4, "agreesWith", "(LPaneOrder$Row;)Z"⟩
def RX5 : String := "PaneOrder$Text"
def TX5 : u_T := fun k => match k with
  | 0 => ("PaneOrder$Text", "bytes", "[B", true)
  | _ => ("PaneOrder$Text", "size", "I", false)
def tyX5 : Nat → FieldType := fun k => match k with
  | 0 => .array .byte
  | _ => .int
abbrev wsX50 : List Cond := u_ws RX5 TX5 2
theorem nmX5 : ∀ a, a < 2 → ∀ b, b < 2 → a ≠ b → (TX5 a).2.1 ≠ (TX5 b).2.1 := by decide +kernel
theorem tyX5_ok : ∀ k, k < 2 → parseFieldDescriptor (TX5 k).2.2.1 = some (tyX5 k) := by decide +kernel
abbrev cX5_init : ByteArray := prog_7_method_1_code
def yX5_init : MethodName := ⟨RX5, "<init>", "()V"⟩
abbrev cX5_renew : ByteArray := prog_7_method_2_code
def yX5_renew : MethodName := ⟨RX5, "renew", "(I)V"⟩
abbrev cX5_readInto : ByteArray := prog_7_method_3_code
def yX5_readInto : MethodName := ⟨RX5, "readInto", "(LPaneOrder$Screen;)I"⟩
abbrev cX5_readPane : ByteArray := prog_7_method_4_code
def yX5_readPane : MethodName := ⟨RX5, "readPane", "(ILPaneOrder$Pane;)I"⟩
abbrev cX5_kindAt : ByteArray := prog_7_method_5_code
def yX5_kindAt : MethodName := ⟨RX5, "kindAt", "(I)I"⟩
abbrev cX5_figureAt : ByteArray := prog_7_method_6_code
def yX5_figureAt : MethodName := ⟨RX5, "figureAt", "(III)I"⟩
abbrev cX5_digestFrom : ByteArray := prog_7_method_7_code
def yX5_digestFrom : MethodName := ⟨RX5, "digestFrom", "(J)J"⟩
def RX6 : String := "PaneOrder$Turns"
def TX6 : u_T := fun k => match k with
  | _ => ("PaneOrder$Turns", "cells", "[I", true)
def tyX6 : Nat → FieldType := fun k => match k with
  | _ => .array .int
abbrev wsX60 : List Cond := u_ws RX6 TX6 1
theorem nmX6 : ∀ a, a < 1 → ∀ b, b < 1 → a ≠ b → (TX6 a).2.1 ≠ (TX6 b).2.1 := by decide +kernel
theorem tyX6_ok : ∀ k, k < 1 → parseFieldDescriptor (TX6 k).2.2.1 = some (tyX6 k) := by decide +kernel
abbrev cX6_init : ByteArray := prog_8_method_1_code
def yX6_init : MethodName := ⟨RX6, "<init>", "()V"⟩
abbrev cX6_cellsInTheEnd : ByteArray := prog_8_method_2_code
def yX6_cellsInTheEnd : MethodName := ⟨RX6, "cellsInTheEnd", "(LPaneOrder$Screen;II)I"⟩
abbrev cX6_afterTurn : ByteArray := prog_8_method_3_code
def yX6_afterTurn : MethodName := ⟨RX6, "afterTurn", "(IIIZI)I"⟩
def RX7 : String := "PaneOrder"
def TX7 : u_T := fun k => match k with
  | 0 => ("PaneOrder", "rows", "[LPaneOrder$Row;", true)
  | 1 => ("PaneOrder", "texts", "[LPaneOrder$Text;", true)
  | 2 => ("PaneOrder", "screen", "LPaneOrder$Screen;", true)
  | 3 => ("PaneOrder", "deeds", "LPaneOrder$Deeds;", true)
  | 4 => ("PaneOrder", "keptScreens", "[LPaneOrder$Screen;", true)
  | 5 => ("PaneOrder", "keptDeeds", "[LPaneOrder$Deeds;", true)
  | 6 => ("PaneOrder", "aside", "LPaneOrder$Screen;", true)
  | 7 => ("PaneOrder", "bestOrder", "LPaneOrder$BestOrder;", true)
  | 8 => ("PaneOrder", "turns", "LPaneOrder$Turns;", true)
  | 9 => ("PaneOrder", "parts", "[[I", true)
  | 10 => ("PaneOrder", "foundTimes", "[I", true)
  | 11 => ("PaneOrder", "latestFinding", "I", false)
  | 12 => ("PaneOrder", "told", "I", false)
  | 13 => ("PaneOrder", "upperNumber", "J", false)
  | _ => ("PaneOrder", "lowerNumber", "J", false)
def tyX7 : Nat → FieldType := fun k => match k with
  | 0 => .array (.object "PaneOrder$Row")
  | 1 => .array (.object "PaneOrder$Text")
  | 2 => .object "PaneOrder$Screen"
  | 3 => .object "PaneOrder$Deeds"
  | 4 => .array (.object "PaneOrder$Screen")
  | 5 => .array (.object "PaneOrder$Deeds")
  | 6 => .object "PaneOrder$Screen"
  | 7 => .object "PaneOrder$BestOrder"
  | 8 => .object "PaneOrder$Turns"
  | 9 => .array (.array .int)
  | 10 => .array .int
  | 11 => .int
  | 12 => .int
  | 13 => .long
  | _ => .long
abbrev wsX70 : List Cond := u_ws RX7 TX7 15
theorem nmX7 : ∀ a, a < 15 → ∀ b, b < 15 → a ≠ b → (TX7 a).2.1 ≠ (TX7 b).2.1 := by decide +kernel
theorem tyX7_ok : ∀ k, k < 15 → parseFieldDescriptor (TX7 k).2.2.1 = some (tyX7 k) := by decide +kernel
abbrev cX7_init : ByteArray := prog_1_method_1_code
def yX7_init : MethodName := ⟨RX7, "<init>", "()V"⟩
abbrev cX7_row : ByteArray := prog_1_method_2_code
def yX7_row : MethodName := ⟨RX7, "row", "(II)I"⟩
abbrev cX7_lay : ByteArray := prog_1_method_3_code
def yX7_lay : MethodName := ⟨RX7, "lay", "(III)I"⟩
abbrev cX7_at : ByteArray := prog_1_method_4_code
def yX7_at : MethodName := ⟨RX7, "at", "(II)I"⟩
abbrev cX7_tear : ByteArray := prog_1_method_5_code
def yX7_tear : MethodName := ⟨RX7, "tear", "(I)I"⟩
abbrev cX7_copy : ByteArray := prog_1_method_6_code
def yX7_copy : MethodName := ⟨RX7, "copy", "(IIIII)I"⟩
abbrev cX7_mean : ByteArray := prog_1_method_7_code
def yX7_mean : MethodName := ⟨RX7, "mean", "(I)I"⟩
abbrev cX7_text : ByteArray := prog_1_method_8_code
def yX7_text : MethodName := ⟨RX7, "text", "(II)I"⟩
abbrev cX7_put : ByteArray := prog_1_method_9_code
def yX7_put : MethodName := ⟨RX7, "put", "(III)I"⟩
abbrev cX7_fault : ByteArray := prog_1_method_10_code
def yX7_fault : MethodName := ⟨RX7, "fault", "(I)I"⟩
abbrev cX7_screen : ByteArray := prog_1_method_11_code
def yX7_screen : MethodName := ⟨RX7, "screen", "(I)I"⟩
abbrev cX7_pane : ByteArray := prog_1_method_12_code
def yX7_pane : MethodName := ⟨RX7, "pane", "(II)I"⟩
abbrev cX7_mark : ByteArray := prog_1_method_13_code
def yX7_mark : MethodName := ⟨RX7, "mark", "(II)I"⟩
abbrev cX7_covers : ByteArray := prog_1_method_14_code
def yX7_covers : MethodName := ⟨RX7, "covers", "(II)I"⟩
abbrev cX7_raise : ByteArray := prog_1_method_15_code
def yX7_raise : MethodName := ⟨RX7, "raise", "(I)I"⟩
abbrev cX7_sink : ByteArray := prog_1_method_16_code
def yX7_sink : MethodName := ⟨RX7, "sink", "(I)I"⟩
abbrev cX7_move : ByteArray := prog_1_method_17_code
def yX7_move : MethodName := ⟨RX7, "move", "(III)I"⟩
abbrev cX7_shut : ByteArray := prog_1_method_18_code
def yX7_shut : MethodName := ⟨RX7, "shut", "(I)I"⟩
abbrev cX7_undo : ByteArray := prog_1_method_19_code
def yX7_undo : MethodName := ⟨RX7, "undo", "(I)I"⟩
abbrev cX7_keep : ByteArray := prog_1_method_20_code
def yX7_keep : MethodName := ⟨RX7, "keep", "(I)I"⟩
abbrev cX7_on : ByteArray := prog_1_method_21_code
def yX7_on : MethodName := ⟨RX7, "on", "(I)I"⟩
abbrev cX7_seen : ByteArray := prog_1_method_22_code
def yX7_seen : MethodName := ⟨RX7, "seen", "(I)I"⟩
abbrev cX7_buried : ByteArray := prog_1_method_23_code
def yX7_buried : MethodName := ⟨RX7, "buried", "()I"⟩
abbrev cX7_both : ByteArray := prog_1_method_24_code
def yX7_both : MethodName := ⟨RX7, "both", "(II)I"⟩
abbrev cX7_free : ByteArray := prog_1_method_25_code
def yX7_free : MethodName := ⟨RX7, "free", "(I)I"⟩
abbrev cX7_shift : ByteArray := prog_1_method_26_code
def yX7_shift : MethodName := ⟨RX7, "shift", "(I)I"⟩
abbrev cX7_order : ByteArray := prog_1_method_27_code
def yX7_order : MethodName := ⟨RX7, "order", "(I)I"⟩
abbrev cX7_kinds : ByteArray := prog_1_method_28_code
def yX7_kinds : MethodName := ⟨RX7, "kinds", "(II)I"⟩
abbrev cX7_places : ByteArray := prog_1_method_29_code
def yX7_places : MethodName := ⟨RX7, "places", "(II)I"⟩
abbrev cX7_test : ByteArray := prog_1_method_30_code
def yX7_test : MethodName := ⟨RX7, "test", "(II)I"⟩
abbrev cX7_duel : ByteArray := prog_1_method_31_code
def yX7_duel : MethodName := ⟨RX7, "duel", "(II)I"⟩
abbrev cX7_odds : ByteArray := prog_1_method_32_code
def yX7_odds : MethodName := ⟨RX7, "odds", "(II)I"⟩
abbrev cX7_mid : ByteArray := prog_1_method_33_code
def yX7_mid : MethodName := ⟨RX7, "mid", "(II)I"⟩
abbrev cX7_lots : ByteArray := prog_1_method_34_code
def yX7_lots : MethodName := ⟨RX7, "lots", "(II)I"⟩
abbrev cX7_asked : ByteArray := prog_1_method_35_code
def yX7_asked : MethodName := ⟨RX7, "asked", "()I"⟩
abbrev cX7_upper : ByteArray := prog_1_method_36_code
def yX7_upper : MethodName := ⟨RX7, "upper", "()J"⟩
abbrev cX7_lower : ByteArray := prog_1_method_37_code
def yX7_lower : MethodName := ⟨RX7, "lower", "()J"⟩
abbrev cX7_count : ByteArray := prog_1_method_38_code
def yX7_count : MethodName := ⟨RX7, "count", "(I)I"⟩
abbrev cX7_finding : ByteArray := prog_1_method_39_code
def yX7_finding : MethodName := ⟨RX7, "finding", "()I"⟩
abbrev cX7_findings : ByteArray := prog_1_method_40_code
def yX7_findings : MethodName := ⟨RX7, "findings", "(I)I"⟩
abbrev cX7_digest : ByteArray := prog_1_method_41_code
def yX7_digest : MethodName := ⟨RX7, "digest", "()J"⟩
abbrev cX7_isRow : ByteArray := prog_1_method_42_code
def yX7_isRow : MethodName := ⟨RX7, "isRow", "(I)Z"⟩
abbrev cX7_isText : ByteArray := prog_1_method_43_code
def yX7_isText : MethodName := ⟨RX7, "isText", "(I)Z"⟩
abbrev cX7_isKept : ByteArray := prog_1_method_44_code
def yX7_isKept : MethodName := ⟨RX7, "isKept", "(I)Z"⟩
abbrev cX7_isCell : ByteArray := prog_1_method_45_code
def yX7_isCell : MethodName := ⟨RX7, "isCell", "(I)Z"⟩
abbrev cX7_isNear : ByteArray := prog_1_method_46_code
def yX7_isNear : MethodName := ⟨RX7, "isNear", "(I)Z"⟩
abbrev cX7_isOf : ByteArray := prog_1_method_47_code
def yX7_isOf : MethodName := ⟨RX7, "isOf", "(II)Z"⟩
abbrev cX7_found : ByteArray := prog_1_method_48_code
def yX7_found : MethodName := ⟨RX7, "found", "(I)I"⟩
abbrev cX7_refusalOfPlace : ByteArray := prog_1_method_49_code
def yX7_refusalOfPlace : MethodName := ⟨RX7, "refusalOfPlace", "(II)I"⟩
abbrev cX7_refusalOfOpen : ByteArray := prog_1_method_50_code
def yX7_refusalOfOpen : MethodName := ⟨RX7, "refusalOfOpen", "(I)I"⟩
abbrev cX7_refusalOfChance : ByteArray := prog_1_method_51_code
def yX7_refusalOfChance : MethodName := ⟨RX7, "refusalOfChance", "(II)I"⟩
abbrev cX7_refusalOfSights : ByteArray := prog_1_method_52_code
def yX7_refusalOfSights : MethodName := ⟨RX7, "refusalOfSights", "(II)I"⟩
abbrev cX7_ofPane : ByteArray := prog_1_method_53_code
def yX7_ofPane : MethodName := ⟨RX7, "ofPane", "(II)I"⟩
abbrev cX7_ofAll : ByteArray := prog_1_method_54_code
def yX7_ofAll : MethodName := ⟨RX7, "ofAll", "(I)I"⟩
abbrev cX7_rowsThere : ByteArray := prog_1_method_55_code
def yX7_rowsThere : MethodName := ⟨RX7, "rowsThere", "()I"⟩
abbrev cX7_textsThere : ByteArray := prog_1_method_56_code
def yX7_textsThere : MethodName := ⟨RX7, "textsThere", "()I"⟩
abbrev cX7_keptThere : ByteArray := prog_1_method_57_code
def yX7_keptThere : MethodName := ⟨RX7, "keptThere", "()I"⟩
abbrev cX7_reorder : ByteArray := prog_1_method_58_code
def yX7_reorder : MethodName := ⟨RX7, "reorder", "(II)I"⟩
abbrev cX7_doByLot : ByteArray := prog_1_method_59_code
def yX7_doByLot : MethodName := ⟨RX7, "doByLot", "(I)V"⟩
abbrev cX7_possibleKinds : ByteArray := prog_1_method_60_code
def yX7_possibleKinds : MethodName := ⟨RX7, "possibleKinds", "(ILPaneOrder$Row;)I"⟩
abbrev cX7_sortIntoParts : ByteArray := prog_1_method_61_code
def yX7_sortIntoParts : MethodName := ⟨RX7, "sortIntoParts", "(II)V"⟩
abbrev cX7_greatestPart : ByteArray := prog_1_method_62_code
def yX7_greatestPart : MethodName := ⟨RX7, "greatestPart", "(I)I"⟩
abbrev cX7_power : ByteArray := prog_1_method_63_code
def yX7_power : MethodName := ⟨RX7, "power", "(II)J"⟩
abbrev cX7_tellFraction : ByteArray := prog_1_method_64_code
def yX7_tellFraction : MethodName := ⟨RX7, "tellFraction", "(JJ)V"⟩
def RX8 : String := "PaneOrderModel"
def TX8 : u_T := fun k => match k with
  | 0 => ("PaneOrderModel", "thrown", "I", false)
  | 1 => ("PaneOrderModel", "askedLast", "I", false)
  | 2 => ("PaneOrderModel", "above", "J", false)
  | 3 => ("PaneOrderModel", "below", "J", false)
  | 4 => ("PaneOrderModel", "findingLast", "I", false)
  | 5 => ("PaneOrderModel", "findingMany", "[I", true)
  | 6 => ("PaneOrderModel", "rows", "[I", true)
  | 7 => ("PaneOrderModel", "rowSize", "[I", true)
  | 8 => ("PaneOrderModel", "bytes", "[I", true)
  | 9 => ("PaneOrderModel", "byteSize", "[I", true)
  | 10 => ("PaneOrderModel", "panes", "I", false)
  | 11 => ("PaneOrderModel", "kind", "[I", true)
  | 12 => ("PaneOrderModel", "wide", "[I", true)
  | 13 => ("PaneOrderModel", "high", "[I", true)
  | 14 => ("PaneOrderModel", "s", "[I", true)
  | 15 => ("PaneOrderModel", "ahead", "[I", true)
  | 16 => ("PaneOrderModel", "deeds", "I", false)
  | 17 => ("PaneOrderModel", "kept", "[I", true)
  | 18 => ("PaneOrderModel", "keptAhead", "[I", true)
  | 19 => ("PaneOrderModel", "keptDeeds", "[I", true)
  | 20 => ("PaneOrderModel", "kindIf", "[I", true)
  | 21 => ("PaneOrderModel", "w", "[I", true)
  | 22 => ("PaneOrderModel", "coverLow", "[J", true)
  | 23 => ("PaneOrderModel", "coverHigh", "[J", true)
  | 24 => ("PaneOrderModel", "seenLow", "[J", true)
  | 25 => ("PaneOrderModel", "seenHigh", "[J", true)
  | 26 => ("PaneOrderModel", "value", "[I", true)
  | 27 => ("PaneOrderModel", "place", "I", false)
  | 28 => ("PaneOrderModel", "of", "I", false)
  | 29 => ("PaneOrderModel", "faultAt", "I", false)
  | 30 => ("PaneOrderModel", "manyTold", "I", false)
  | 31 => ("PaneOrderModel", "told", "[I", true)
  | _ => ("PaneOrderModel", "whoBy", "[I", true)
def tyX8 : Nat → FieldType := fun k => match k with
  | 0 => .int
  | 1 => .int
  | 2 => .long
  | 3 => .long
  | 4 => .int
  | 5 => .array .int
  | 6 => .array .int
  | 7 => .array .int
  | 8 => .array .int
  | 9 => .array .int
  | 10 => .int
  | 11 => .array .int
  | 12 => .array .int
  | 13 => .array .int
  | 14 => .array .int
  | 15 => .array .int
  | 16 => .int
  | 17 => .array .int
  | 18 => .array .int
  | 19 => .array .int
  | 20 => .array .int
  | 21 => .array .int
  | 22 => .array .long
  | 23 => .array .long
  | 24 => .array .long
  | 25 => .array .long
  | 26 => .array .int
  | 27 => .int
  | 28 => .int
  | 29 => .int
  | 30 => .int
  | 31 => .array .int
  | _ => .array .int
abbrev wsX80 : List Cond := u_ws RX8 TX8 33
theorem nmX8 : ∀ a, a < 33 → ∀ b, b < 33 → a ≠ b → (TX8 a).2.1 ≠ (TX8 b).2.1 := by decide +kernel
theorem tyX8_ok : ∀ k, k < 33 → parseFieldDescriptor (TX8 k).2.2.1 = some (tyX8 k) := by decide +kernel
abbrev cX8_init : ByteArray := prog_10_method_1_code
def yX8_init : MethodName := ⟨RX8, "<init>", "()V"⟩
abbrev cX8_in : ByteArray := prog_10_method_3_code
def yX8_in : MethodName := ⟨RX8, "in", "(III)Z"⟩
abbrev cX8_has : ByteArray := prog_10_method_4_code
def yX8_has : MethodName := ⟨RX8, "has", "(II)Z"⟩
abbrev cX8_ones : ByteArray := prog_10_method_5_code
def yX8_ones : MethodName := ⟨RX8, "ones", "(J)I"⟩
abbrev cX8_found : ByteArray := prog_10_method_6_code
def yX8_found : MethodName := ⟨RX8, "found", "(I)I"⟩
abbrev cX8_tells : ByteArray := prog_10_method_7_code
def yX8_tells : MethodName := ⟨RX8, "tells", "(II)I"⟩
abbrev cX8_isRow : ByteArray := prog_10_method_8_code
def yX8_isRow : MethodName := ⟨RX8, "isRow", "(I)Z"⟩
abbrev cX8_row : ByteArray := prog_10_method_9_code
def yX8_row : MethodName := ⟨RX8, "row", "(II)I"⟩
abbrev cX8_against : ByteArray := prog_10_method_10_code
def yX8_against : MethodName := ⟨RX8, "against", "(II)I"⟩
abbrev cX8_lay : ByteArray := prog_10_method_11_code
def yX8_lay : MethodName := ⟨RX8, "lay", "(III)I"⟩
abbrev cX8_at : ByteArray := prog_10_method_12_code
def yX8_at : MethodName := ⟨RX8, "at", "(II)I"⟩
abbrev cX8_tear : ByteArray := prog_10_method_13_code
def yX8_tear : MethodName := ⟨RX8, "tear", "(I)I"⟩
abbrev cX8_isPart : ByteArray := prog_10_method_14_code
def yX8_isPart : MethodName := ⟨RX8, "isPart", "(III)Z"⟩
abbrev cX8_copy : ByteArray := prog_10_method_15_code
def yX8_copy : MethodName := ⟨RX8, "copy", "(IIIII)I"⟩
abbrev cX8_mean : ByteArray := prog_10_method_16_code
def yX8_mean : MethodName := ⟨RX8, "mean", "(I)I"⟩
abbrev cX8_isText : ByteArray := prog_10_method_17_code
def yX8_isText : MethodName := ⟨RX8, "isText", "(I)Z"⟩
abbrev cX8_text : ByteArray := prog_10_method_18_code
def yX8_text : MethodName := ⟨RX8, "text", "(II)I"⟩
abbrev cX8_put : ByteArray := prog_10_method_19_code
def yX8_put : MethodName := ⟨RX8, "put", "(III)I"⟩
abbrev cX8_byteAt : ByteArray := prog_10_method_20_code
def yX8_byteAt : MethodName := ⟨RX8, "byteAt", "(I)I"⟩
abbrev cX8_blanks : ByteArray := prog_10_method_21_code
def yX8_blanks : MethodName := ⟨RX8, "blanks", "()V"⟩
abbrev cX8_figure : ByteArray := prog_10_method_22_code
def yX8_figure : MethodName := ⟨RX8, "figure", "(II)I"⟩
abbrev cX8_kindOf : ByteArray := prog_10_method_23_code
def yX8_kindOf : MethodName := ⟨RX8, "kindOf", "(I)I"⟩
abbrev cX8_reads : ByteArray := prog_10_method_24_code
def yX8_reads : MethodName := ⟨RX8, "reads", "(I)I"⟩
abbrev cX8_fault : ByteArray := prog_10_method_25_code
def yX8_fault : MethodName := ⟨RX8, "fault", "(I)I"⟩
abbrev cX8_screen : ByteArray := prog_10_method_26_code
def yX8_screen : MethodName := ⟨RX8, "screen", "(I)I"⟩
abbrev cX8_isPane : ByteArray := prog_10_method_27_code
def yX8_isPane : MethodName := ⟨RX8, "isPane", "(I)Z"⟩
abbrev cX8_asNow : ByteArray := prog_10_method_28_code
def yX8_asNow : MethodName := ⟨RX8, "asNow", "()V"⟩
abbrev cX8_isCovered : ByteArray := prog_10_method_29_code
def yX8_isCovered : MethodName := ⟨RX8, "isCovered", "(IIIII)Z"⟩
abbrev cX8_covering : ByteArray := prog_10_method_30_code
def yX8_covering : MethodName := ⟨RX8, "covering", "(I)V"⟩
abbrev cX8_coveringAll : ByteArray := prog_10_method_31_code
def yX8_coveringAll : MethodName := ⟨RX8, "coveringAll", "()V"⟩
abbrev cX8_seeing : ByteArray := prog_10_method_32_code
def yX8_seeing : MethodName := ⟨RX8, "seeing", "()V"⟩
abbrev cX8_sees : ByteArray := prog_10_method_33_code
def yX8_sees : MethodName := ⟨RX8, "sees", "()V"⟩
abbrev cX8_cellsOf : ByteArray := prog_10_method_34_code
def yX8_cellsOf : MethodName := ⟨RX8, "cellsOf", "(I)I"⟩
abbrev cX8_coveredOf : ByteArray := prog_10_method_35_code
def yX8_coveredOf : MethodName := ⟨RX8, "coveredOf", "(I)I"⟩
abbrev cX8_isSeenAt : ByteArray := prog_10_method_36_code
def yX8_isSeenAt : MethodName := ⟨RX8, "isSeenAt", "(II)Z"⟩
abbrev cX8_isCoverAt : ByteArray := prog_10_method_37_code
def yX8_isCoverAt : MethodName := ⟨RX8, "isCoverAt", "(II)Z"⟩
abbrev cX8_whoAt : ByteArray := prog_10_method_38_code
def yX8_whoAt : MethodName := ⟨RX8, "whoAt", "(I)I"⟩
abbrev cX8_manySeen : ByteArray := prog_10_method_39_code
def yX8_manySeen : MethodName := ⟨RX8, "manySeen", "()I"⟩
abbrev cX8_placeOf : ByteArray := prog_10_method_40_code
def yX8_placeOf : MethodName := ⟨RX8, "placeOf", "(I)I"⟩
abbrev cX8_isOver : ByteArray := prog_10_method_41_code
def yX8_isOver : MethodName := ⟨RX8, "isOver", "(II)Z"⟩
abbrev cX8_ofPane : ByteArray := prog_10_method_42_code
def yX8_ofPane : MethodName := ⟨RX8, "ofPane", "(II)I"⟩
abbrev cX8_pane : ByteArray := prog_10_method_43_code
def yX8_pane : MethodName := ⟨RX8, "pane", "(II)I"⟩
abbrev cX8_isOne : ByteArray := prog_10_method_44_code
def yX8_isOne : MethodName := ⟨RX8, "isOne", "(II)Z"⟩
abbrev cX8_mark : ByteArray := prog_10_method_45_code
def yX8_mark : MethodName := ⟨RX8, "mark", "(II)I"⟩
abbrev cX8_covers : ByteArray := prog_10_method_46_code
def yX8_covers : MethodName := ⟨RX8, "covers", "(II)I"⟩
abbrev cX8_notes : ByteArray := prog_10_method_47_code
def yX8_notes : MethodName := ⟨RX8, "notes", "()V"⟩
abbrev cX8_comesTo : ByteArray := prog_10_method_48_code
def yX8_comesTo : MethodName := ⟨RX8, "comesTo", "([III)V"⟩
abbrev cX8_shifts : ByteArray := prog_10_method_49_code
def yX8_shifts : MethodName := ⟨RX8, "shifts", "(II)I"⟩
abbrev cX8_raise : ByteArray := prog_10_method_50_code
def yX8_raise : MethodName := ⟨RX8, "raise", "(I)I"⟩
abbrev cX8_sink : ByteArray := prog_10_method_51_code
def yX8_sink : MethodName := ⟨RX8, "sink", "(I)I"⟩
abbrev cX8_isOn : ByteArray := prog_10_method_52_code
def yX8_isOn : MethodName := ⟨RX8, "isOn", "(III)Z"⟩
abbrev cX8_move : ByteArray := prog_10_method_53_code
def yX8_move : MethodName := ⟨RX8, "move", "(III)I"⟩
abbrev cX8_shut : ByteArray := prog_10_method_54_code
def yX8_shut : MethodName := ⟨RX8, "shut", "(I)I"⟩
abbrev cX8_undo : ByteArray := prog_10_method_55_code
def yX8_undo : MethodName := ⟨RX8, "undo", "(I)I"⟩
abbrev cX8_keep : ByteArray := prog_10_method_56_code
def yX8_keep : MethodName := ⟨RX8, "keep", "(I)I"⟩
abbrev cX8_on : ByteArray := prog_10_method_57_code
def yX8_on : MethodName := ⟨RX8, "on", "(I)I"⟩
abbrev cX8_seen : ByteArray := prog_10_method_58_code
def yX8_seen : MethodName := ⟨RX8, "seen", "(I)I"⟩
abbrev cX8_shown : ByteArray := prog_10_method_59_code
def yX8_shown : MethodName := ⟨RX8, "shown", "()I"⟩
abbrev cX8_buried : ByteArray := prog_10_method_60_code
def yX8_buried : MethodName := ⟨RX8, "buried", "()I"⟩
abbrev cX8_both : ByteArray := prog_10_method_61_code
def yX8_both : MethodName := ⟨RX8, "both", "(II)I"⟩
abbrev cX8_againstOpen : ByteArray := prog_10_method_62_code
def yX8_againstOpen : MethodName := ⟨RX8, "againstOpen", "(I)I"⟩
abbrev cX8_overIt : ByteArray := prog_10_method_63_code
def yX8_overIt : MethodName := ⟨RX8, "overIt", "(I)I"⟩
abbrev cX8_free : ByteArray := prog_10_method_64_code
def yX8_free : MethodName := ⟨RX8, "free", "(I)I"⟩
abbrev cX8_shift : ByteArray := prog_10_method_65_code
def yX8_shift : MethodName := ⟨RX8, "shift", "(I)I"⟩
abbrev cX8_nextOrder : ByteArray := prog_10_method_66_code
def yX8_nextOrder : MethodName := ⟨RX8, "nextOrder", "()Z"⟩
abbrev cX8_trades : ByteArray := prog_10_method_67_code
def yX8_trades : MethodName := ⟨RX8, "trades", "(II)V"⟩
abbrev cX8_order : ByteArray := prog_10_method_68_code
def yX8_order : MethodName := ⟨RX8, "order", "(I)I"⟩
abbrev cX8_againstPairs : ByteArray := prog_10_method_69_code
def yX8_againstPairs : MethodName := ⟨RX8, "againstPairs", "(II)I"⟩
abbrev cX8_isSo : ByteArray := prog_10_method_70_code
def yX8_isSo : MethodName := ⟨RX8, "isSo", "(I)Z"⟩
abbrev cX8_kindsOf : ByteArray := prog_10_method_71_code
def yX8_kindsOf : MethodName := ⟨RX8, "kindsOf", "(II)I"⟩
abbrev cX8_kinds : ByteArray := prog_10_method_72_code
def yX8_kinds : MethodName := ⟨RX8, "kinds", "(II)I"⟩
abbrev cX8_places : ByteArray := prog_10_method_73_code
def yX8_places : MethodName := ⟨RX8, "places", "(II)I"⟩
abbrev cX8_test : ByteArray := prog_10_method_74_code
def yX8_test : MethodName := ⟨RX8, "test", "(II)I"⟩
abbrev cX8_placeIf : ByteArray := prog_10_method_75_code
def yX8_placeIf : MethodName := ⟨RX8, "placeIf", "(I)I"⟩
abbrev cX8_duel : ByteArray := prog_10_method_76_code
def yX8_duel : MethodName := ⟨RX8, "duel", "(II)I"⟩
abbrev cX8_gcd : ByteArray := prog_10_method_77_code
def yX8_gcd : MethodName := ⟨RX8, "gcd", "(JJ)J"⟩
abbrev cX8_fraction : ByteArray := prog_10_method_78_code
def yX8_fraction : MethodName := ⟨RX8, "fraction", "(JJ)V"⟩
abbrev cX8_power : ByteArray := prog_10_method_79_code
def yX8_power : MethodName := ⟨RX8, "power", "(JI)J"⟩
abbrev cX8_odds : ByteArray := prog_10_method_80_code
def yX8_odds : MethodName := ⟨RX8, "odds", "(II)I"⟩
abbrev cX8_mid : ByteArray := prog_10_method_81_code
def yX8_mid : MethodName := ⟨RX8, "mid", "(II)I"⟩
abbrev cX8_lots : ByteArray := prog_10_method_82_code
def yX8_lots : MethodName := ⟨RX8, "lots", "(II)I"⟩
abbrev cX8_asked : ByteArray := prog_10_method_83_code
def yX8_asked : MethodName := ⟨RX8, "asked", "()I"⟩
abbrev cX8_upper : ByteArray := prog_10_method_84_code
def yX8_upper : MethodName := ⟨RX8, "upper", "()J"⟩
abbrev cX8_lower : ByteArray := prog_10_method_85_code
def yX8_lower : MethodName := ⟨RX8, "lower", "()J"⟩
abbrev cX8_countOf : ByteArray := prog_10_method_86_code
def yX8_countOf : MethodName := ⟨RX8, "countOf", "(I)I"⟩
abbrev cX8_count : ByteArray := prog_10_method_87_code
def yX8_count : MethodName := ⟨RX8, "count", "(I)I"⟩
abbrev cX8_finding : ByteArray := prog_10_method_88_code
def yX8_finding : MethodName := ⟨RX8, "finding", "()I"⟩
abbrev cX8_findings : ByteArray := prog_10_method_89_code
def yX8_findings : MethodName := ⟨RX8, "findings", "(I)I"⟩
abbrev cX8_digest : ByteArray := prog_10_method_90_code
def yX8_digest : MethodName := ⟨RX8, "digest", "()J"⟩
def RJ6 : String := "java/lang/Integer"
abbrev cJ6_bitCount_0f7a4 : ByteArray := prog_11_method_49_code
def yJ6_bitCount_0f7a4 : MethodName := ⟨RJ6, "bitCount", "(I)I"⟩
def RJ13 : String := "java/lang/Long"
abbrev cJ13_bitCount_95d88 : ByteArray := prog_12_method_50_code
def yJ13_bitCount_95d88 : MethodName := ⟨RJ13, "bitCount", "(J)I"⟩
def RJ9 : String := "java/lang/Math"
abbrev cJ9_max_7cf53 : ByteArray := prog_13_method_65_code
def yJ9_max_7cf53 : MethodName := ⟨RJ9, "max", "(II)I"⟩
abbrev cJ9_min_7cf53 : ByteArray := prog_13_method_69_code
def yJ9_min_7cf53 : MethodName := ⟨RJ9, "min", "(II)I"⟩
def RJ10 : String := "java/lang/System"
def RJ7 : String := "java/util/Arrays"
abbrev cJ7_fill_53178 : ByteArray := prog_15_method_103_code
def yJ7_fill_53178 : MethodName := ⟨RJ7, "fill", "([II)V"⟩
abbrev cJ7_fill_031fb : ByteArray := prog_15_method_109_code
def yJ7_fill_031fb : MethodName := ⟨RJ7, "fill", "([BB)V"⟩
def RL : String := "PaneOrderLaw"
abbrev cL_law : ByteArray := code
def yL_law : MethodName := ⟨RL, "law", "([I)Z"⟩
abbrev vwCl : List vw_C := [(RX0, TX0, 2), (RX1, TX1, 5), (RX2, TX2, 9), (RX3, TX3, 2), (RX4, TX4, 2), (RX5, TX5, 2), (RX6, TX6, 1), (RX7, TX7, 15), (RX8, TX8, 33)]

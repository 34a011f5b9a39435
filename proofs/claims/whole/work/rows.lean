section
-- ===== PART A: goes FIRST, ahead of the names: the tables' words, and 'selects' of the private methods out of them =====
/-- a private method of a class that the tables say can be made, by its rows of tables_1 -/
def lw_okq (q : MethodName × Nat) : Prop := (q.1.cls ≠ "java/lang/invoke/MethodHandle" ∧ q.1.cls ≠ "java/lang/invoke/VarHandle") ∧ Cond.instantiable q.1.cls q.2 ∈ tables_1 ∧ Cond.privateMethod q.1 ∈ tables_1 ∧ Cond.instanceMethod q.1 ∈ tables_1
theorem lw_p0 : lw_okq (⟨"LastMark", "tapeFour", "(I)V"⟩, 14) := ⟨⟨by decide +kernel, by decide +kernel⟩, List.mem_of_getElem? (i := 24) (by decide +kernel), List.mem_of_getElem? (i := 466) (by decide +kernel), List.mem_of_getElem? (i := 467) (by decide +kernel)⟩
theorem lw_p1 : lw_okq (⟨"LastMark$Reader", "forget", "()V"⟩, 14) := ⟨⟨by decide +kernel, by decide +kernel⟩, List.mem_of_getElem? (i := 172) (by decide +kernel), List.mem_of_getElem? (i := 478) (by decide +kernel), List.mem_of_getElem? (i := 479) (by decide +kernel)⟩
theorem lw_p2 : lw_okq (⟨"LastMark$Tokens", "append", "(II)V"⟩, 6) := ⟨⟨by decide +kernel, by decide +kernel⟩, List.mem_of_getElem? (i := 178) (by decide +kernel), List.mem_of_getElem? (i := 621) (by decide +kernel), List.mem_of_getElem? (i := 622) (by decide +kernel)⟩
theorem lw_p3 : lw_okq (⟨"LastMark$Reader", "head", "()V"⟩, 14) := ⟨⟨by decide +kernel, by decide +kernel⟩, List.mem_of_getElem? (i := 172) (by decide +kernel), List.mem_of_getElem? (i := 625) (by decide +kernel), List.mem_of_getElem? (i := 626) (by decide +kernel)⟩
theorem lw_p4 : lw_okq (⟨"LastMark$Reader", "expect", "(I)V"⟩, 14) := ⟨⟨by decide +kernel, by decide +kernel⟩, List.mem_of_getElem? (i := 172) (by decide +kernel), List.mem_of_getElem? (i := 629) (by decide +kernel), List.mem_of_getElem? (i := 630) (by decide +kernel)⟩
theorem lw_p5 : lw_okq (⟨"LastMark$Reader", "refuse", "(I)V"⟩, 14) := ⟨⟨by decide +kernel, by decide +kernel⟩, List.mem_of_getElem? (i := 172) (by decide +kernel), List.mem_of_getElem? (i := 637) (by decide +kernel), List.mem_of_getElem? (i := 638) (by decide +kernel)⟩
theorem lw_p6 : lw_okq (⟨"LastMark$Reader", "number", "(II)I"⟩, 14) := ⟨⟨by decide +kernel, by decide +kernel⟩, List.mem_of_getElem? (i := 172) (by decide +kernel), List.mem_of_getElem? (i := 641) (by decide +kernel), List.mem_of_getElem? (i := 642) (by decide +kernel)⟩
theorem lw_p7 : lw_okq (⟨"LastMark$Reader", "beginLaw", "(Z)V"⟩, 14) := ⟨⟨by decide +kernel, by decide +kernel⟩, List.mem_of_getElem? (i := 172) (by decide +kernel), List.mem_of_getElem? (i := 646) (by decide +kernel), List.mem_of_getElem? (i := 647) (by decide +kernel)⟩
theorem lw_p8 : lw_okq (⟨"LastMark$Reader", "truth", "(I)V"⟩, 14) := ⟨⟨by decide +kernel, by decide +kernel⟩, List.mem_of_getElem? (i := 172) (by decide +kernel), List.mem_of_getElem? (i := 650) (by decide +kernel), List.mem_of_getElem? (i := 651) (by decide +kernel)⟩
theorem lw_p9 : lw_okq (⟨"LastMark$Reader", "unit", "(I)V"⟩, 14) := ⟨⟨by decide +kernel, by decide +kernel⟩, List.mem_of_getElem? (i := 172) (by decide +kernel), List.mem_of_getElem? (i := 654) (by decide +kernel), List.mem_of_getElem? (i := 655) (by decide +kernel)⟩
theorem lw_p10 : lw_okq (⟨"LastMark$Reader", "mayNest", "(I)Z"⟩, 14) := ⟨⟨by decide +kernel, by decide +kernel⟩, List.mem_of_getElem? (i := 172) (by decide +kernel), List.mem_of_getElem? (i := 658) (by decide +kernel), List.mem_of_getElem? (i := 659) (by decide +kernel)⟩
theorem lw_p11 : lw_okq (⟨"LastMark$Reader", "emit", "(I)V"⟩, 14) := ⟨⟨by decide +kernel, by decide +kernel⟩, List.mem_of_getElem? (i := 172) (by decide +kernel), List.mem_of_getElem? (i := 662) (by decide +kernel), List.mem_of_getElem? (i := 663) (by decide +kernel)⟩
theorem lw_p12 : lw_okq (⟨"LastMark$Reader", "sum", "(I)V"⟩, 14) := ⟨⟨by decide +kernel, by decide +kernel⟩, List.mem_of_getElem? (i := 172) (by decide +kernel), List.mem_of_getElem? (i := 666) (by decide +kernel), List.mem_of_getElem? (i := 667) (by decide +kernel)⟩
theorem lw_p13 : lw_okq (⟨"LastMark$Reader", "atom", "(I)V"⟩, 14) := ⟨⟨by decide +kernel, by decide +kernel⟩, List.mem_of_getElem? (i := 172) (by decide +kernel), List.mem_of_getElem? (i := 670) (by decide +kernel), List.mem_of_getElem? (i := 671) (by decide +kernel)⟩
theorem lw_p14 : lw_okq (⟨"LastMark$Reader", "fact", "(I)I"⟩, 14) := ⟨⟨by decide +kernel, by decide +kernel⟩, List.mem_of_getElem? (i := 172) (by decide +kernel), List.mem_of_getElem? (i := 674) (by decide +kernel), List.mem_of_getElem? (i := 675) (by decide +kernel)⟩
theorem lw_p15 : lw_okq (⟨"LastMark$Reader", "comparison", "()I"⟩, 14) := ⟨⟨by decide +kernel, by decide +kernel⟩, List.mem_of_getElem? (i := 172) (by decide +kernel), List.mem_of_getElem? (i := 678) (by decide +kernel), List.mem_of_getElem? (i := 679) (by decide +kernel)⟩
def lw_privs_1 : List (MethodName × Nat) := [(⟨"LastMark", "tapeFour", "(I)V"⟩, 14), (⟨"LastMark$Reader", "forget", "()V"⟩, 14), (⟨"LastMark$Tokens", "append", "(II)V"⟩, 6), (⟨"LastMark$Reader", "head", "()V"⟩, 14), (⟨"LastMark$Reader", "expect", "(I)V"⟩, 14), (⟨"LastMark$Reader", "refuse", "(I)V"⟩, 14), (⟨"LastMark$Reader", "number", "(II)I"⟩, 14), (⟨"LastMark$Reader", "beginLaw", "(Z)V"⟩, 14), (⟨"LastMark$Reader", "truth", "(I)V"⟩, 14), (⟨"LastMark$Reader", "unit", "(I)V"⟩, 14), (⟨"LastMark$Reader", "mayNest", "(I)Z"⟩, 14), (⟨"LastMark$Reader", "emit", "(I)V"⟩, 14), (⟨"LastMark$Reader", "sum", "(I)V"⟩, 14), (⟨"LastMark$Reader", "atom", "(I)V"⟩, 14), (⟨"LastMark$Reader", "fact", "(I)I"⟩, 14), (⟨"LastMark$Reader", "comparison", "()I"⟩, 14)]
theorem lw_r1 : ∀ q ∈ lw_privs_1, lw_okq q := List.forall_mem_cons.mpr ⟨lw_p0, List.forall_mem_cons.mpr ⟨lw_p1, List.forall_mem_cons.mpr ⟨lw_p2, List.forall_mem_cons.mpr ⟨lw_p3, List.forall_mem_cons.mpr ⟨lw_p4, List.forall_mem_cons.mpr ⟨lw_p5, List.forall_mem_cons.mpr ⟨lw_p6, List.forall_mem_cons.mpr ⟨lw_p7, List.forall_mem_cons.mpr ⟨lw_p8, List.forall_mem_cons.mpr ⟨lw_p9, List.forall_mem_cons.mpr ⟨lw_p10, List.forall_mem_cons.mpr ⟨lw_p11, List.forall_mem_cons.mpr ⟨lw_p12, List.forall_mem_cons.mpr ⟨lw_p13, List.forall_mem_cons.mpr ⟨lw_p14, List.forall_mem_cons.mpr ⟨lw_p15, fun _ h => absurd h List.not_mem_nil⟩⟩⟩⟩⟩⟩⟩⟩⟩⟩⟩⟩⟩⟩⟩⟩
theorem lw_p16 : lw_okq (⟨"LastMark$Reader", "line", "()V"⟩, 14) := ⟨⟨by decide +kernel, by decide +kernel⟩, List.mem_of_getElem? (i := 172) (by decide +kernel), List.mem_of_getElem? (i := 702) (by decide +kernel), List.mem_of_getElem? (i := 703) (by decide +kernel)⟩
theorem lw_p17 : lw_okq (⟨"LastMark$Reader", "rowLine", "()V"⟩, 14) := ⟨⟨by decide +kernel, by decide +kernel⟩, List.mem_of_getElem? (i := 172) (by decide +kernel), List.mem_of_getElem? (i := 706) (by decide +kernel), List.mem_of_getElem? (i := 707) (by decide +kernel)⟩
theorem lw_p18 : lw_okq (⟨"LastMark$Reader", "handLine", "()V"⟩, 14) := ⟨⟨by decide +kernel, by decide +kernel⟩, List.mem_of_getElem? (i := 172) (by decide +kernel), List.mem_of_getElem? (i := 710) (by decide +kernel), List.mem_of_getElem? (i := 711) (by decide +kernel)⟩
theorem lw_p19 : lw_okq (⟨"LastMark$Reader", "drawnLine", "()I"⟩, 14) := ⟨⟨by decide +kernel, by decide +kernel⟩, List.mem_of_getElem? (i := 172) (by decide +kernel), List.mem_of_getElem? (i := 718) (by decide +kernel), List.mem_of_getElem? (i := 719) (by decide +kernel)⟩
theorem lw_p20 : lw_okq (⟨"LastMark$Sheet", "tellPlace", "(III)V"⟩, 14) := ⟨⟨by decide +kernel, by decide +kernel⟩, List.mem_of_getElem? (i := 32) (by decide +kernel), List.mem_of_getElem? (i := 772) (by decide +kernel), List.mem_of_getElem? (i := 773) (by decide +kernel)⟩
theorem lw_p21 : lw_okq (⟨"LastMark", "handsFor", "(I)I"⟩, 14) := ⟨⟨by decide +kernel, by decide +kernel⟩, List.mem_of_getElem? (i := 24) (by decide +kernel), List.mem_of_getElem? (i := 792) (by decide +kernel), List.mem_of_getElem? (i := 793) (by decide +kernel)⟩
theorem lw_p22 : lw_okq (⟨"LastMark", "cellsFor", "(I)I"⟩, 14) := ⟨⟨by decide +kernel, by decide +kernel⟩, List.mem_of_getElem? (i := 24) (by decide +kernel), List.mem_of_getElem? (i := 836) (by decide +kernel), List.mem_of_getElem? (i := 837) (by decide +kernel)⟩
theorem lw_p23 : lw_okq (⟨"LastMark", "keptLeft", "()I"⟩, 14) := ⟨⟨by decide +kernel, by decide +kernel⟩, List.mem_of_getElem? (i := 24) (by decide +kernel), List.mem_of_getElem? (i := 853) (by decide +kernel), List.mem_of_getElem? (i := 854) (by decide +kernel)⟩
theorem lw_p24 : lw_okq (⟨"LastMark", "keptIfAny", "(I)I"⟩, 14) := ⟨⟨by decide +kernel, by decide +kernel⟩, List.mem_of_getElem? (i := 24) (by decide +kernel), List.mem_of_getElem? (i := 932) (by decide +kernel), List.mem_of_getElem? (i := 933) (by decide +kernel)⟩
theorem lw_p25 : lw_okq (⟨"LastMark", "refusedCell", "(II)I"⟩, 14) := ⟨⟨by decide +kernel, by decide +kernel⟩, List.mem_of_getElem? (i := 24) (by decide +kernel), List.mem_of_getElem? (i := 951) (by decide +kernel), List.mem_of_getElem? (i := 952) (by decide +kernel)⟩
theorem lw_p26 : lw_okq (⟨"LastMark$Paths", "makeRoom", "()V"⟩, 20) := ⟨⟨by decide +kernel, by decide +kernel⟩, List.mem_of_getElem? (i := 277) (by decide +kernel), List.mem_of_getElem? (i := 968) (by decide +kernel), List.mem_of_getElem? (i := 969) (by decide +kernel)⟩
theorem lw_p27 : lw_okq (⟨"LastMark$Paths", "rankOf", "(I)I"⟩, 20) := ⟨⟨by decide +kernel, by decide +kernel⟩, List.mem_of_getElem? (i := 277) (by decide +kernel), List.mem_of_getElem? (i := 973) (by decide +kernel), List.mem_of_getElem? (i := 974) (by decide +kernel)⟩
theorem lw_p28 : lw_okq (⟨"LastMark$Paths", "spread", "(I)V"⟩, 20) := ⟨⟨by decide +kernel, by decide +kernel⟩, List.mem_of_getElem? (i := 277) (by decide +kernel), List.mem_of_getElem? (i := 977) (by decide +kernel), List.mem_of_getElem? (i := 978) (by decide +kernel)⟩
theorem lw_p29 : lw_okq (⟨"LastMark$Paths", "strokesTo", "(I)I"⟩, 20) := ⟨⟨by decide +kernel, by decide +kernel⟩, List.mem_of_getElem? (i := 277) (by decide +kernel), List.mem_of_getElem? (i := 981) (by decide +kernel), List.mem_of_getElem? (i := 982) (by decide +kernel)⟩
theorem lw_p30 : lw_okq (⟨"LastMark$Permit", "learn", "(IJII)V"⟩, 5) := ⟨⟨by decide +kernel, by decide +kernel⟩, List.mem_of_getElem? (i := 254) (by decide +kernel), List.mem_of_getElem? (i := 996) (by decide +kernel), List.mem_of_getElem? (i := 997) (by decide +kernel)⟩
theorem lw_p31 : lw_okq (⟨"LastMark$Paths", "isBeyond", "(I)Z"⟩, 20) := ⟨⟨by decide +kernel, by decide +kernel⟩, List.mem_of_getElem? (i := 277) (by decide +kernel), List.mem_of_getElem? (i := 1005) (by decide +kernel), List.mem_of_getElem? (i := 1006) (by decide +kernel)⟩
def lw_privs_2 : List (MethodName × Nat) := [(⟨"LastMark$Reader", "line", "()V"⟩, 14), (⟨"LastMark$Reader", "rowLine", "()V"⟩, 14), (⟨"LastMark$Reader", "handLine", "()V"⟩, 14), (⟨"LastMark$Reader", "drawnLine", "()I"⟩, 14), (⟨"LastMark$Sheet", "tellPlace", "(III)V"⟩, 14), (⟨"LastMark", "handsFor", "(I)I"⟩, 14), (⟨"LastMark", "cellsFor", "(I)I"⟩, 14), (⟨"LastMark", "keptLeft", "()I"⟩, 14), (⟨"LastMark", "keptIfAny", "(I)I"⟩, 14), (⟨"LastMark", "refusedCell", "(II)I"⟩, 14), (⟨"LastMark$Paths", "makeRoom", "()V"⟩, 20), (⟨"LastMark$Paths", "rankOf", "(I)I"⟩, 20), (⟨"LastMark$Paths", "spread", "(I)V"⟩, 20), (⟨"LastMark$Paths", "strokesTo", "(I)I"⟩, 20), (⟨"LastMark$Permit", "learn", "(IJII)V"⟩, 5), (⟨"LastMark$Paths", "isBeyond", "(I)Z"⟩, 20)]
theorem lw_r2 : ∀ q ∈ lw_privs_2, lw_okq q := List.forall_mem_cons.mpr ⟨lw_p16, List.forall_mem_cons.mpr ⟨lw_p17, List.forall_mem_cons.mpr ⟨lw_p18, List.forall_mem_cons.mpr ⟨lw_p19, List.forall_mem_cons.mpr ⟨lw_p20, List.forall_mem_cons.mpr ⟨lw_p21, List.forall_mem_cons.mpr ⟨lw_p22, List.forall_mem_cons.mpr ⟨lw_p23, List.forall_mem_cons.mpr ⟨lw_p24, List.forall_mem_cons.mpr ⟨lw_p25, List.forall_mem_cons.mpr ⟨lw_p26, List.forall_mem_cons.mpr ⟨lw_p27, List.forall_mem_cons.mpr ⟨lw_p28, List.forall_mem_cons.mpr ⟨lw_p29, List.forall_mem_cons.mpr ⟨lw_p30, List.forall_mem_cons.mpr ⟨lw_p31, fun _ h => absurd h List.not_mem_nil⟩⟩⟩⟩⟩⟩⟩⟩⟩⟩⟩⟩⟩⟩⟩⟩
theorem lw_p32 : lw_okq (⟨"LastMark$Paths", "settle", "(I)V"⟩, 20) := ⟨⟨by decide +kernel, by decide +kernel⟩, List.mem_of_getElem? (i := 277) (by decide +kernel), List.mem_of_getElem? (i := 1009) (by decide +kernel), List.mem_of_getElem? (i := 1010) (by decide +kernel)⟩
theorem lw_p33 : lw_okq (⟨"LastMark$Paths", "worth", "(II)I"⟩, 20) := ⟨⟨by decide +kernel, by decide +kernel⟩, List.mem_of_getElem? (i := 277) (by decide +kernel), List.mem_of_getElem? (i := 1013) (by decide +kernel), List.mem_of_getElem? (i := 1014) (by decide +kernel)⟩
theorem lw_p34 : lw_okq (⟨"LastMark$Paths", "most", "(II)I"⟩, 20) := ⟨⟨by decide +kernel, by decide +kernel⟩, List.mem_of_getElem? (i := 277) (by decide +kernel), List.mem_of_getElem? (i := 1017) (by decide +kernel), List.mem_of_getElem? (i := 1018) (by decide +kernel)⟩
theorem lw_p35 : lw_okq (⟨"LastMark$Paths", "least", "(II)I"⟩, 20) := ⟨⟨by decide +kernel, by decide +kernel⟩, List.mem_of_getElem? (i := 277) (by decide +kernel), List.mem_of_getElem? (i := 1022) (by decide +kernel), List.mem_of_getElem? (i := 1023) (by decide +kernel)⟩
theorem lw_p36 : lw_okq (⟨"LastMark$Paths", "played", "(II)I"⟩, 20) := ⟨⟨by decide +kernel, by decide +kernel⟩, List.mem_of_getElem? (i := 277) (by decide +kernel), List.mem_of_getElem? (i := 1028) (by decide +kernel), List.mem_of_getElem? (i := 1029) (by decide +kernel)⟩
theorem lw_p37 : lw_okq (⟨"LastMark$Paths", "trace", "()V"⟩, 20) := ⟨⟨by decide +kernel, by decide +kernel⟩, List.mem_of_getElem? (i := 277) (by decide +kernel), List.mem_of_getElem? (i := 1033) (by decide +kernel), List.mem_of_getElem? (i := 1034) (by decide +kernel)⟩
theorem lw_p38 : lw_okq (⟨"LastMark$Paths", "nextStep", "(II)I"⟩, 20) := ⟨⟨by decide +kernel, by decide +kernel⟩, List.mem_of_getElem? (i := 277) (by decide +kernel), List.mem_of_getElem? (i := 1037) (by decide +kernel), List.mem_of_getElem? (i := 1038) (by decide +kernel)⟩
theorem lw_p39 : lw_okq (⟨"LastMark$Paths", "leads", "(III)Z"⟩, 20) := ⟨⟨by decide +kernel, by decide +kernel⟩, List.mem_of_getElem? (i := 277) (by decide +kernel), List.mem_of_getElem? (i := 1041) (by decide +kernel), List.mem_of_getElem? (i := 1042) (by decide +kernel)⟩
theorem lw_p40 : lw_okq (⟨"LastMark$Paths", "opens", "(II)Z"⟩, 20) := ⟨⟨by decide +kernel, by decide +kernel⟩, List.mem_of_getElem? (i := 277) (by decide +kernel), List.mem_of_getElem? (i := 1086) (by decide +kernel), List.mem_of_getElem? (i := 1087) (by decide +kernel)⟩
theorem lw_p41 : lw_okq (⟨"LastMark$Paths", "tallyAt", "(I)V"⟩, 20) := ⟨⟨by decide +kernel, by decide +kernel⟩, List.mem_of_getElem? (i := 277) (by decide +kernel), List.mem_of_getElem? (i := 1101) (by decide +kernel), List.mem_of_getElem? (i := 1102) (by decide +kernel)⟩
theorem lw_p42 : lw_okq (⟨"LastMark$Paths", "passOn", "(III)V"⟩, 20) := ⟨⟨by decide +kernel, by decide +kernel⟩, List.mem_of_getElem? (i := 277) (by decide +kernel), List.mem_of_getElem? (i := 1105) (by decide +kernel), List.mem_of_getElem? (i := 1106) (by decide +kernel)⟩
theorem lw_p43 : lw_okq (⟨"LastMark", "isNoGame", "(III)Z"⟩, 14) := ⟨⟨by decide +kernel, by decide +kernel⟩, List.mem_of_getElem? (i := 24) (by decide +kernel), List.mem_of_getElem? (i := 1140) (by decide +kernel), List.mem_of_getElem? (i := 1141) (by decide +kernel)⟩
theorem lw_p44 : lw_okq (⟨"LastMark$Seen", "fits", "(LLastMark$Sheet;LLastMark$Page;LLastMark$Tray;II)Z"⟩, 4) := ⟨⟨by decide +kernel, by decide +kernel⟩, List.mem_of_getElem? (i := 378) (by decide +kernel), List.mem_of_getElem? (i := 1171) (by decide +kernel), List.mem_of_getElem? (i := 1172) (by decide +kernel)⟩
theorem lw_p45 : lw_okq (⟨"LastMark$Seen", "findAble", "(LLastMark$Sheet;LLastMark$Page;LLastMark$Tray;)V"⟩, 4) := ⟨⟨by decide +kernel, by decide +kernel⟩, List.mem_of_getElem? (i := 378) (by decide +kernel), List.mem_of_getElem? (i := 1201) (by decide +kernel), List.mem_of_getElem? (i := 1202) (by decide +kernel)⟩
theorem lw_p46 : lw_okq (⟨"LastMark$Seen", "fewestAfter", "(II)I"⟩, 4) := ⟨⟨by decide +kernel, by decide +kernel⟩, List.mem_of_getElem? (i := 378) (by decide +kernel), List.mem_of_getElem? (i := 1215) (by decide +kernel), List.mem_of_getElem? (i := 1216) (by decide +kernel)⟩
theorem lw_p47 : lw_okq (⟨"LastMark$Seen", "changesBy", "(III)I"⟩, 4) := ⟨⟨by decide +kernel, by decide +kernel⟩, List.mem_of_getElem? (i := 378) (by decide +kernel), List.mem_of_getElem? (i := 1219) (by decide +kernel), List.mem_of_getElem? (i := 1220) (by decide +kernel)⟩
def lw_privs_3 : List (MethodName × Nat) := [(⟨"LastMark$Paths", "settle", "(I)V"⟩, 20), (⟨"LastMark$Paths", "worth", "(II)I"⟩, 20), (⟨"LastMark$Paths", "most", "(II)I"⟩, 20), (⟨"LastMark$Paths", "least", "(II)I"⟩, 20), (⟨"LastMark$Paths", "played", "(II)I"⟩, 20), (⟨"LastMark$Paths", "trace", "()V"⟩, 20), (⟨"LastMark$Paths", "nextStep", "(II)I"⟩, 20), (⟨"LastMark$Paths", "leads", "(III)Z"⟩, 20), (⟨"LastMark$Paths", "opens", "(II)Z"⟩, 20), (⟨"LastMark$Paths", "tallyAt", "(I)V"⟩, 20), (⟨"LastMark$Paths", "passOn", "(III)V"⟩, 20), (⟨"LastMark", "isNoGame", "(III)Z"⟩, 14), (⟨"LastMark$Seen", "fits", "(LLastMark$Sheet;LLastMark$Page;LLastMark$Tray;II)Z"⟩, 4), (⟨"LastMark$Seen", "findAble", "(LLastMark$Sheet;LLastMark$Page;LLastMark$Tray;)V"⟩, 4), (⟨"LastMark$Seen", "fewestAfter", "(II)I"⟩, 4), (⟨"LastMark$Seen", "changesBy", "(III)I"⟩, 4)]
theorem lw_r3 : ∀ q ∈ lw_privs_3, lw_okq q := List.forall_mem_cons.mpr ⟨lw_p32, List.forall_mem_cons.mpr ⟨lw_p33, List.forall_mem_cons.mpr ⟨lw_p34, List.forall_mem_cons.mpr ⟨lw_p35, List.forall_mem_cons.mpr ⟨lw_p36, List.forall_mem_cons.mpr ⟨lw_p37, List.forall_mem_cons.mpr ⟨lw_p38, List.forall_mem_cons.mpr ⟨lw_p39, List.forall_mem_cons.mpr ⟨lw_p40, List.forall_mem_cons.mpr ⟨lw_p41, List.forall_mem_cons.mpr ⟨lw_p42, List.forall_mem_cons.mpr ⟨lw_p43, List.forall_mem_cons.mpr ⟨lw_p44, List.forall_mem_cons.mpr ⟨lw_p45, List.forall_mem_cons.mpr ⟨lw_p46, List.forall_mem_cons.mpr ⟨lw_p47, fun _ h => absurd h List.not_mem_nil⟩⟩⟩⟩⟩⟩⟩⟩⟩⟩⟩⟩⟩⟩⟩⟩
theorem lw_p48 : lw_okq (⟨"LastMark$Seen", "chooseAuthors", "(I)V"⟩, 4) := ⟨⟨by decide +kernel, by decide +kernel⟩, List.mem_of_getElem? (i := 378) (by decide +kernel), List.mem_of_getElem? (i := 1223) (by decide +kernel), List.mem_of_getElem? (i := 1224) (by decide +kernel)⟩
theorem lw_p49 : lw_okq (⟨"LastMark$Chances", "spread", "(IIJI)V"⟩, 7) := ⟨⟨by decide +kernel, by decide +kernel⟩, List.mem_of_getElem? (i := 348) (by decide +kernel), List.mem_of_getElem? (i := 1259) (by decide +kernel), List.mem_of_getElem? (i := 1260) (by decide +kernel)⟩
theorem lw_p50 : lw_okq (⟨"LastMark$Tray", "cut", "(J)J"⟩, 3) := ⟨⟨by decide +kernel, by decide +kernel⟩, List.mem_of_getElem? (i := 400) (by decide +kernel), List.mem_of_getElem? (i := 1292) (by decide +kernel), List.mem_of_getElem? (i := 1293) (by decide +kernel)⟩
theorem lw_p51 : lw_okq (⟨"LastMarkModel", "next", "()V"⟩, 31) := ⟨⟨by decide +kernel, by decide +kernel⟩, List.mem_of_getElem? (i := 1313) (by decide +kernel), List.mem_of_getElem? (i := 1429) (by decide +kernel), List.mem_of_getElem? (i := 1430) (by decide +kernel)⟩
theorem lw_p52 : lw_okq (⟨"LastMarkModel", "see", "(I)I"⟩, 31) := ⟨⟨by decide +kernel, by decide +kernel⟩, List.mem_of_getElem? (i := 1313) (by decide +kernel), List.mem_of_getElem? (i := 1433) (by decide +kernel), List.mem_of_getElem? (i := 1434) (by decide +kernel)⟩
theorem lw_p53 : lw_okq (⟨"LastMarkModel", "keyAt", "()I"⟩, 31) := ⟨⟨by decide +kernel, by decide +kernel⟩, List.mem_of_getElem? (i := 1313) (by decide +kernel), List.mem_of_getElem? (i := 1440) (by decide +kernel), List.mem_of_getElem? (i := 1441) (by decide +kernel)⟩
theorem lw_p54 : lw_okq (⟨"LastMarkModel", "eats", "(I)Z"⟩, 31) := ⟨⟨by decide +kernel, by decide +kernel⟩, List.mem_of_getElem? (i := 1313) (by decide +kernel), List.mem_of_getElem? (i := 1451) (by decide +kernel), List.mem_of_getElem? (i := 1452) (by decide +kernel)⟩
theorem lw_p55 : lw_okq (⟨"LastMarkModel", "is", "(I)Z"⟩, 31) := ⟨⟨by decide +kernel, by decide +kernel⟩, List.mem_of_getElem? (i := 1313) (by decide +kernel), List.mem_of_getElem? (i := 1455) (by decide +kernel), List.mem_of_getElem? (i := 1456) (by decide +kernel)⟩
theorem lw_p56 : lw_okq (⟨"LastMarkModel", "fails", "(I)V"⟩, 31) := ⟨⟨by decide +kernel, by decide +kernel⟩, List.mem_of_getElem? (i := 1313) (by decide +kernel), List.mem_of_getElem? (i := 1459) (by decide +kernel), List.mem_of_getElem? (i := 1460) (by decide +kernel)⟩
theorem lw_p57 : lw_okq (⟨"LastMarkModel", "takes", "(II)I"⟩, 31) := ⟨⟨by decide +kernel, by decide +kernel⟩, List.mem_of_getElem? (i := 1313) (by decide +kernel), List.mem_of_getElem? (i := 1463) (by decide +kernel), List.mem_of_getElem? (i := 1464) (by decide +kernel)⟩
theorem lw_p58 : lw_okq (⟨"LastMarkModel", "ends1", "()V"⟩, 31) := ⟨⟨by decide +kernel, by decide +kernel⟩, List.mem_of_getElem? (i := 1313) (by decide +kernel), List.mem_of_getElem? (i := 1467) (by decide +kernel), List.mem_of_getElem? (i := 1468) (by decide +kernel)⟩
theorem lw_p59 : lw_okq (⟨"LastMarkModel", "readLine", "()V"⟩, 31) := ⟨⟨by decide +kernel, by decide +kernel⟩, List.mem_of_getElem? (i := 1313) (by decide +kernel), List.mem_of_getElem? (i := 1471) (by decide +kernel), List.mem_of_getElem? (i := 1472) (by decide +kernel)⟩
theorem lw_p60 : lw_okq (⟨"LastMarkModel", "readRow", "()V"⟩, 31) := ⟨⟨by decide +kernel, by decide +kernel⟩, List.mem_of_getElem? (i := 1313) (by decide +kernel), List.mem_of_getElem? (i := 1475) (by decide +kernel), List.mem_of_getElem? (i := 1476) (by decide +kernel)⟩
theorem lw_p61 : lw_okq (⟨"LastMarkModel", "readHand", "()V"⟩, 31) := ⟨⟨by decide +kernel, by decide +kernel⟩, List.mem_of_getElem? (i := 1313) (by decide +kernel), List.mem_of_getElem? (i := 1479) (by decide +kernel), List.mem_of_getElem? (i := 1480) (by decide +kernel)⟩
theorem lw_p62 : lw_okq (⟨"LastMarkModel", "readDrawn", "(Z)V"⟩, 31) := ⟨⟨by decide +kernel, by decide +kernel⟩, List.mem_of_getElem? (i := 1313) (by decide +kernel), List.mem_of_getElem? (i := 1483) (by decide +kernel), List.mem_of_getElem? (i := 1484) (by decide +kernel)⟩
theorem lw_p63 : lw_okq (⟨"LastMarkModel", "readLaw", "(I)V"⟩, 31) := ⟨⟨by decide +kernel, by decide +kernel⟩, List.mem_of_getElem? (i := 1313) (by decide +kernel), List.mem_of_getElem? (i := 1487) (by decide +kernel), List.mem_of_getElem? (i := 1488) (by decide +kernel)⟩
def lw_privs_4 : List (MethodName × Nat) := [(⟨"LastMark$Seen", "chooseAuthors", "(I)V"⟩, 4), (⟨"LastMark$Chances", "spread", "(IIJI)V"⟩, 7), (⟨"LastMark$Tray", "cut", "(J)J"⟩, 3), (⟨"LastMarkModel", "next", "()V"⟩, 31), (⟨"LastMarkModel", "see", "(I)I"⟩, 31), (⟨"LastMarkModel", "keyAt", "()I"⟩, 31), (⟨"LastMarkModel", "eats", "(I)Z"⟩, 31), (⟨"LastMarkModel", "is", "(I)Z"⟩, 31), (⟨"LastMarkModel", "fails", "(I)V"⟩, 31), (⟨"LastMarkModel", "takes", "(II)I"⟩, 31), (⟨"LastMarkModel", "ends1", "()V"⟩, 31), (⟨"LastMarkModel", "readLine", "()V"⟩, 31), (⟨"LastMarkModel", "readRow", "()V"⟩, 31), (⟨"LastMarkModel", "readHand", "()V"⟩, 31), (⟨"LastMarkModel", "readDrawn", "(Z)V"⟩, 31), (⟨"LastMarkModel", "readLaw", "(I)V"⟩, 31)]
theorem lw_r4 : ∀ q ∈ lw_privs_4, lw_okq q := List.forall_mem_cons.mpr ⟨lw_p48, List.forall_mem_cons.mpr ⟨lw_p49, List.forall_mem_cons.mpr ⟨lw_p50, List.forall_mem_cons.mpr ⟨lw_p51, List.forall_mem_cons.mpr ⟨lw_p52, List.forall_mem_cons.mpr ⟨lw_p53, List.forall_mem_cons.mpr ⟨lw_p54, List.forall_mem_cons.mpr ⟨lw_p55, List.forall_mem_cons.mpr ⟨lw_p56, List.forall_mem_cons.mpr ⟨lw_p57, List.forall_mem_cons.mpr ⟨lw_p58, List.forall_mem_cons.mpr ⟨lw_p59, List.forall_mem_cons.mpr ⟨lw_p60, List.forall_mem_cons.mpr ⟨lw_p61, List.forall_mem_cons.mpr ⟨lw_p62, List.forall_mem_cons.mpr ⟨lw_p63, fun _ h => absurd h List.not_mem_nil⟩⟩⟩⟩⟩⟩⟩⟩⟩⟩⟩⟩⟩⟩⟩⟩
theorem lw_p64 : lw_okq (⟨"LastMarkModel", "readSum", "(I)V"⟩, 31) := ⟨⟨by decide +kernel, by decide +kernel⟩, List.mem_of_getElem? (i := 1313) (by decide +kernel), List.mem_of_getElem? (i := 1491) (by decide +kernel), List.mem_of_getElem? (i := 1492) (by decide +kernel)⟩
theorem lw_p65 : lw_okq (⟨"LastMarkModel", "readTerm", "(I)V"⟩, 31) := ⟨⟨by decide +kernel, by decide +kernel⟩, List.mem_of_getElem? (i := 1313) (by decide +kernel), List.mem_of_getElem? (i := 1495) (by decide +kernel), List.mem_of_getElem? (i := 1496) (by decide +kernel)⟩
theorem lw_p66 : lw_okq (⟨"LastMarkModel", "readAtom", "(I)V"⟩, 31) := ⟨⟨by decide +kernel, by decide +kernel⟩, List.mem_of_getElem? (i := 1313) (by decide +kernel), List.mem_of_getElem? (i := 1499) (by decide +kernel), List.mem_of_getElem? (i := 1500) (by decide +kernel)⟩
theorem lw_p67 : lw_okq (⟨"LastMarkModel", "codes", "(I)V"⟩, 31) := ⟨⟨by decide +kernel, by decide +kernel⟩, List.mem_of_getElem? (i := 1313) (by decide +kernel), List.mem_of_getElem? (i := 1503) (by decide +kernel), List.mem_of_getElem? (i := 1504) (by decide +kernel)⟩
theorem lw_p68 : lw_okq (⟨"LastMarkModel", "wordOf", "(I)I"⟩, 31) := ⟨⟨by decide +kernel, by decide +kernel⟩, List.mem_of_getElem? (i := 1313) (by decide +kernel), List.mem_of_getElem? (i := 1507) (by decide +kernel), List.mem_of_getElem? (i := 1508) (by decide +kernel)⟩
theorem lw_p69 : lw_okq (⟨"LastMarkModel", "goesIn", "(I)Z"⟩, 31) := ⟨⟨by decide +kernel, by decide +kernel⟩, List.mem_of_getElem? (i := 1313) (by decide +kernel), List.mem_of_getElem? (i := 1513) (by decide +kernel), List.mem_of_getElem? (i := 1514) (by decide +kernel)⟩
theorem lw_p70 : lw_okq (⟨"LastMarkModel", "readTruth", "(I)V"⟩, 31) := ⟨⟨by decide +kernel, by decide +kernel⟩, List.mem_of_getElem? (i := 1313) (by decide +kernel), List.mem_of_getElem? (i := 1517) (by decide +kernel), List.mem_of_getElem? (i := 1518) (by decide +kernel)⟩
theorem lw_p71 : lw_okq (⟨"LastMarkModel", "readBoth", "(I)V"⟩, 31) := ⟨⟨by decide +kernel, by decide +kernel⟩, List.mem_of_getElem? (i := 1313) (by decide +kernel), List.mem_of_getElem? (i := 1521) (by decide +kernel), List.mem_of_getElem? (i := 1522) (by decide +kernel)⟩
theorem lw_p72 : lw_okq (⟨"LastMarkModel", "readUnit", "(I)V"⟩, 31) := ⟨⟨by decide +kernel, by decide +kernel⟩, List.mem_of_getElem? (i := 1313) (by decide +kernel), List.mem_of_getElem? (i := 1525) (by decide +kernel), List.mem_of_getElem? (i := 1526) (by decide +kernel)⟩
theorem lw_p73 : lw_okq (⟨"LastMarkModel", "isCell", "(J)Z"⟩, 31) := ⟨⟨by decide +kernel, by decide +kernel⟩, List.mem_of_getElem? (i := 1313) (by decide +kernel), List.mem_of_getElem? (i := 1537) (by decide +kernel), List.mem_of_getElem? (i := 1538) (by decide +kernel)⟩
theorem lw_p74 : lw_okq (⟨"LastMarkModel", "cells", "()I"⟩, 31) := ⟨⟨by decide +kernel, by decide +kernel⟩, List.mem_of_getElem? (i := 1313) (by decide +kernel), List.mem_of_getElem? (i := 1541) (by decide +kernel), List.mem_of_getElem? (i := 1542) (by decide +kernel)⟩
theorem lw_p75 : lw_okq (⟨"LastMarkModel", "nearOf", "(II)I"⟩, 31) := ⟨⟨by decide +kernel, by decide +kernel⟩, List.mem_of_getElem? (i := 1313) (by decide +kernel), List.mem_of_getElem? (i := 1545) (by decide +kernel), List.mem_of_getElem? (i := 1546) (by decide +kernel)⟩
theorem lw_p76 : lw_okq (⟨"LastMarkModel", "farOf", "(II)I"⟩, 31) := ⟨⟨by decide +kernel, by decide +kernel⟩, List.mem_of_getElem? (i := 1313) (by decide +kernel), List.mem_of_getElem? (i := 1552) (by decide +kernel), List.mem_of_getElem? (i := 1553) (by decide +kernel)⟩
theorem lw_p77 : lw_okq (⟨"LastMarkModel", "oddsOf", "(I)I"⟩, 31) := ⟨⟨by decide +kernel, by decide +kernel⟩, List.mem_of_getElem? (i := 1313) (by decide +kernel), List.mem_of_getElem? (i := 1559) (by decide +kernel), List.mem_of_getElem? (i := 1560) (by decide +kernel)⟩
theorem lw_p78 : lw_okq (⟨"LastMarkModel", "reckons", "(III)I"⟩, 31) := ⟨⟨by decide +kernel, by decide +kernel⟩, List.mem_of_getElem? (i := 1313) (by decide +kernel), List.mem_of_getElem? (i := 1563) (by decide +kernel), List.mem_of_getElem? (i := 1564) (by decide +kernel)⟩
theorem lw_p79 : lw_okq (⟨"LastMarkModel", "handsOf", "(I)I"⟩, 31) := ⟨⟨by decide +kernel, by decide +kernel⟩, List.mem_of_getElem? (i := 1313) (by decide +kernel), List.mem_of_getElem? (i := 1575) (by decide +kernel), List.mem_of_getElem? (i := 1576) (by decide +kernel)⟩
def lw_privs_5 : List (MethodName × Nat) := [(⟨"LastMarkModel", "readSum", "(I)V"⟩, 31), (⟨"LastMarkModel", "readTerm", "(I)V"⟩, 31), (⟨"LastMarkModel", "readAtom", "(I)V"⟩, 31), (⟨"LastMarkModel", "codes", "(I)V"⟩, 31), (⟨"LastMarkModel", "wordOf", "(I)I"⟩, 31), (⟨"LastMarkModel", "goesIn", "(I)Z"⟩, 31), (⟨"LastMarkModel", "readTruth", "(I)V"⟩, 31), (⟨"LastMarkModel", "readBoth", "(I)V"⟩, 31), (⟨"LastMarkModel", "readUnit", "(I)V"⟩, 31), (⟨"LastMarkModel", "isCell", "(J)Z"⟩, 31), (⟨"LastMarkModel", "cells", "()I"⟩, 31), (⟨"LastMarkModel", "nearOf", "(II)I"⟩, 31), (⟨"LastMarkModel", "farOf", "(II)I"⟩, 31), (⟨"LastMarkModel", "oddsOf", "(I)I"⟩, 31), (⟨"LastMarkModel", "reckons", "(III)I"⟩, 31), (⟨"LastMarkModel", "handsOf", "(I)I"⟩, 31)]
theorem lw_r5 : ∀ q ∈ lw_privs_5, lw_okq q := List.forall_mem_cons.mpr ⟨lw_p64, List.forall_mem_cons.mpr ⟨lw_p65, List.forall_mem_cons.mpr ⟨lw_p66, List.forall_mem_cons.mpr ⟨lw_p67, List.forall_mem_cons.mpr ⟨lw_p68, List.forall_mem_cons.mpr ⟨lw_p69, List.forall_mem_cons.mpr ⟨lw_p70, List.forall_mem_cons.mpr ⟨lw_p71, List.forall_mem_cons.mpr ⟨lw_p72, List.forall_mem_cons.mpr ⟨lw_p73, List.forall_mem_cons.mpr ⟨lw_p74, List.forall_mem_cons.mpr ⟨lw_p75, List.forall_mem_cons.mpr ⟨lw_p76, List.forall_mem_cons.mpr ⟨lw_p77, List.forall_mem_cons.mpr ⟨lw_p78, List.forall_mem_cons.mpr ⟨lw_p79, fun _ h => absurd h List.not_mem_nil⟩⟩⟩⟩⟩⟩⟩⟩⟩⟩⟩⟩⟩⟩⟩⟩
theorem lw_p80 : lw_okq (⟨"LastMarkModel", "mayNow", "(II)Z"⟩, 31) := ⟨⟨by decide +kernel, by decide +kernel⟩, List.mem_of_getElem? (i := 1313) (by decide +kernel), List.mem_of_getElem? (i := 1579) (by decide +kernel), List.mem_of_getElem? (i := 1580) (by decide +kernel)⟩
theorem lw_p81 : lw_okq (⟨"LastMarkModel", "isFound", "()Z"⟩, 31) := ⟨⟨by decide +kernel, by decide +kernel⟩, List.mem_of_getElem? (i := 1313) (by decide +kernel), List.mem_of_getElem? (i := 1583) (by decide +kernel), List.mem_of_getElem? (i := 1584) (by decide +kernel)⟩
theorem lw_p82 : lw_okq (⟨"LastMarkModel", "mayDraw", "(IIII)Z"⟩, 31) := ⟨⟨by decide +kernel, by decide +kernel⟩, List.mem_of_getElem? (i := 1313) (by decide +kernel), List.mem_of_getElem? (i := 1587) (by decide +kernel), List.mem_of_getElem? (i := 1588) (by decide +kernel)⟩
theorem lw_p83 : lw_okq (⟨"LastMarkModel", "isHand", "(J)Z"⟩, 31) := ⟨⟨by decide +kernel, by decide +kernel⟩, List.mem_of_getElem? (i := 1313) (by decide +kernel), List.mem_of_getElem? (i := 1595) (by decide +kernel), List.mem_of_getElem? (i := 1596) (by decide +kernel)⟩
theorem lw_p84 : lw_okq (⟨"LastMarkModel", "cellsOf", "(I)I"⟩, 31) := ⟨⟨by decide +kernel, by decide +kernel⟩, List.mem_of_getElem? (i := 1313) (by decide +kernel), List.mem_of_getElem? (i := 1599) (by decide +kernel), List.mem_of_getElem? (i := 1600) (by decide +kernel)⟩
theorem lw_p85 : lw_okq (⟨"LastMarkModel", "whyStroke", "(JJ)I"⟩, 31) := ⟨⟨by decide +kernel, by decide +kernel⟩, List.mem_of_getElem? (i := 1313) (by decide +kernel), List.mem_of_getElem? (i := 1607) (by decide +kernel), List.mem_of_getElem? (i := 1608) (by decide +kernel)⟩
theorem lw_p86 : lw_okq (⟨"LastMarkModel", "keeps", "()V"⟩, 31) := ⟨⟨by decide +kernel, by decide +kernel⟩, List.mem_of_getElem? (i := 1313) (by decide +kernel), List.mem_of_getElem? (i := 1611) (by decide +kernel), List.mem_of_getElem? (i := 1612) (by decide +kernel)⟩
theorem lw_p87 : lw_okq (⟨"LastMarkModel", "draws", "(I)V"⟩, 31) := ⟨⟨by decide +kernel, by decide +kernel⟩, List.mem_of_getElem? (i := 1313) (by decide +kernel), List.mem_of_getElem? (i := 1615) (by decide +kernel), List.mem_of_getElem? (i := 1616) (by decide +kernel)⟩
theorem lw_p88 : lw_okq (⟨"LastMarkModel", "notes", "()V"⟩, 31) := ⟨⟨by decide +kernel, by decide +kernel⟩, List.mem_of_getElem? (i := 1313) (by decide +kernel), List.mem_of_getElem? (i := 1619) (by decide +kernel), List.mem_of_getElem? (i := 1620) (by decide +kernel)⟩
theorem lw_p89 : lw_okq (⟨"LastMarkModel", "leftNow", "()I"⟩, 31) := ⟨⟨by decide +kernel, by decide +kernel⟩, List.mem_of_getElem? (i := 1313) (by decide +kernel), List.mem_of_getElem? (i := 1623) (by decide +kernel), List.mem_of_getElem? (i := 1624) (by decide +kernel)⟩
theorem lw_p90 : lw_okq (⟨"LastMarkModel", "whyRub", "(J)I"⟩, 31) := ⟨⟨by decide +kernel, by decide +kernel⟩, List.mem_of_getElem? (i := 1313) (by decide +kernel), List.mem_of_getElem? (i := 1631) (by decide +kernel), List.mem_of_getElem? (i := 1632) (by decide +kernel)⟩
theorem lw_p91 : lw_okq (⟨"LastMarkModel", "rubs", "(I)V"⟩, 31) := ⟨⟨by decide +kernel, by decide +kernel⟩, List.mem_of_getElem? (i := 1313) (by decide +kernel), List.mem_of_getElem? (i := 1635) (by decide +kernel), List.mem_of_getElem? (i := 1636) (by decide +kernel)⟩
theorem lw_p92 : lw_okq (⟨"LastMarkModel", "whyHide", "(J)I"⟩, 31) := ⟨⟨by decide +kernel, by decide +kernel⟩, List.mem_of_getElem? (i := 1313) (by decide +kernel), List.mem_of_getElem? (i := 1648) (by decide +kernel), List.mem_of_getElem? (i := 1649) (by decide +kernel)⟩
theorem lw_p93 : lw_okq (⟨"LastMarkModel", "noTray", "(I)I"⟩, 31) := ⟨⟨by decide +kernel, by decide +kernel⟩, List.mem_of_getElem? (i := 1313) (by decide +kernel), List.mem_of_getElem? (i := 1662) (by decide +kernel), List.mem_of_getElem? (i := 1663) (by decide +kernel)⟩
theorem lw_p94 : lw_okq (⟨"LastMarkModel", "tells", "(I)I"⟩, 31) := ⟨⟨by decide +kernel, by decide +kernel⟩, List.mem_of_getElem? (i := 1313) (by decide +kernel), List.mem_of_getElem? (i := 1666) (by decide +kernel), List.mem_of_getElem? (i := 1667) (by decide +kernel)⟩
theorem lw_p95 : lw_okq (⟨"LastMarkModel", "whyNot", "(J)I"⟩, 31) := ⟨⟨by decide +kernel, by decide +kernel⟩, List.mem_of_getElem? (i := 1313) (by decide +kernel), List.mem_of_getElem? (i := 1670) (by decide +kernel), List.mem_of_getElem? (i := 1671) (by decide +kernel)⟩
def lw_privs_6 : List (MethodName × Nat) := [(⟨"LastMarkModel", "mayNow", "(II)Z"⟩, 31), (⟨"LastMarkModel", "isFound", "()Z"⟩, 31), (⟨"LastMarkModel", "mayDraw", "(IIII)Z"⟩, 31), (⟨"LastMarkModel", "isHand", "(J)Z"⟩, 31), (⟨"LastMarkModel", "cellsOf", "(I)I"⟩, 31), (⟨"LastMarkModel", "whyStroke", "(JJ)I"⟩, 31), (⟨"LastMarkModel", "keeps", "()V"⟩, 31), (⟨"LastMarkModel", "draws", "(I)V"⟩, 31), (⟨"LastMarkModel", "notes", "()V"⟩, 31), (⟨"LastMarkModel", "leftNow", "()I"⟩, 31), (⟨"LastMarkModel", "whyRub", "(J)I"⟩, 31), (⟨"LastMarkModel", "rubs", "(I)V"⟩, 31), (⟨"LastMarkModel", "whyHide", "(J)I"⟩, 31), (⟨"LastMarkModel", "noTray", "(I)I"⟩, 31), (⟨"LastMarkModel", "tells", "(I)I"⟩, 31), (⟨"LastMarkModel", "whyNot", "(J)I"⟩, 31)]
theorem lw_r6 : ∀ q ∈ lw_privs_6, lw_okq q := List.forall_mem_cons.mpr ⟨lw_p80, List.forall_mem_cons.mpr ⟨lw_p81, List.forall_mem_cons.mpr ⟨lw_p82, List.forall_mem_cons.mpr ⟨lw_p83, List.forall_mem_cons.mpr ⟨lw_p84, List.forall_mem_cons.mpr ⟨lw_p85, List.forall_mem_cons.mpr ⟨lw_p86, List.forall_mem_cons.mpr ⟨lw_p87, List.forall_mem_cons.mpr ⟨lw_p88, List.forall_mem_cons.mpr ⟨lw_p89, List.forall_mem_cons.mpr ⟨lw_p90, List.forall_mem_cons.mpr ⟨lw_p91, List.forall_mem_cons.mpr ⟨lw_p92, List.forall_mem_cons.mpr ⟨lw_p93, List.forall_mem_cons.mpr ⟨lw_p94, List.forall_mem_cons.mpr ⟨lw_p95, fun _ h => absurd h List.not_mem_nil⟩⟩⟩⟩⟩⟩⟩⟩⟩⟩⟩⟩⟩⟩⟩⟩
theorem lw_p96 : lw_okq (⟨"LastMarkModel", "does", "(I)V"⟩, 31) := ⟨⟨by decide +kernel, by decide +kernel⟩, List.mem_of_getElem? (i := 1313) (by decide +kernel), List.mem_of_getElem? (i := 1682) (by decide +kernel), List.mem_of_getElem? (i := 1683) (by decide +kernel)⟩
theorem lw_p97 : lw_okq (⟨"LastMarkModel", "isAgain", "()V"⟩, 31) := ⟨⟨by decide +kernel, by decide +kernel⟩, List.mem_of_getElem? (i := 1313) (by decide +kernel), List.mem_of_getElem? (i := 1686) (by decide +kernel), List.mem_of_getElem? (i := 1687) (by decide +kernel)⟩
theorem lw_p98 : lw_okq (⟨"LastMarkModel", "drawnDeed", "()I"⟩, 31) := ⟨⟨by decide +kernel, by decide +kernel⟩, List.mem_of_getElem? (i := 1313) (by decide +kernel), List.mem_of_getElem? (i := 1699) (by decide +kernel), List.mem_of_getElem? (i := 1700) (by decide +kernel)⟩
theorem lw_p99 : lw_okq (⟨"LastMarkModel", "draw", "(I)I"⟩, 31) := ⟨⟨by decide +kernel, by decide +kernel⟩, List.mem_of_getElem? (i := 1313) (by decide +kernel), List.mem_of_getElem? (i := 1703) (by decide +kernel), List.mem_of_getElem? (i := 1704) (by decide +kernel)⟩
theorem lw_p100 : lw_okq (⟨"LastMarkModel", "noGoal", "(II)I"⟩, 31) := ⟨⟨by decide +kernel, by decide +kernel⟩, List.mem_of_getElem? (i := 1313) (by decide +kernel), List.mem_of_getElem? (i := 1712) (by decide +kernel), List.mem_of_getElem? (i := 1713) (by decide +kernel)⟩
theorem lw_p101 : lw_okq (⟨"LastMarkModel", "laysRow", "(III)I"⟩, 31) := ⟨⟨by decide +kernel, by decide +kernel⟩, List.mem_of_getElem? (i := 1313) (by decide +kernel), List.mem_of_getElem? (i := 1716) (by decide +kernel), List.mem_of_getElem? (i := 1717) (by decide +kernel)⟩
theorem lw_p102 : lw_okq (⟨"LastMarkModel", "laysMays", "(I[I)V"⟩, 31) := ⟨⟨by decide +kernel, by decide +kernel⟩, List.mem_of_getElem? (i := 1313) (by decide +kernel), List.mem_of_getElem? (i := 1720) (by decide +kernel), List.mem_of_getElem? (i := 1721) (by decide +kernel)⟩
theorem lw_p103 : lw_okq (⟨"LastMarkModel", "everyCell", "()I"⟩, 31) := ⟨⟨by decide +kernel, by decide +kernel⟩, List.mem_of_getElem? (i := 1313) (by decide +kernel), List.mem_of_getElem? (i := 1724) (by decide +kernel), List.mem_of_getElem? (i := 1725) (by decide +kernel)⟩
theorem lw_p104 : lw_okq (⟨"LastMarkModel", "canBe", "(II)Z"⟩, 31) := ⟨⟨by decide +kernel, by decide +kernel⟩, List.mem_of_getElem? (i := 1313) (by decide +kernel), List.mem_of_getElem? (i := 1728) (by decide +kernel), List.mem_of_getElem? (i := 1729) (by decide +kernel)⟩
theorem lw_p105 : lw_okq (⟨"LastMarkModel", "laysStill", "(II)I"⟩, 31) := ⟨⟨by decide +kernel, by decide +kernel⟩, List.mem_of_getElem? (i := 1313) (by decide +kernel), List.mem_of_getElem? (i := 1735) (by decide +kernel), List.mem_of_getElem? (i := 1736) (by decide +kernel)⟩
theorem lw_p106 : lw_okq (⟨"LastMarkModel", "stillAt", "(III)I"⟩, 31) := ⟨⟨by decide +kernel, by decide +kernel⟩, List.mem_of_getElem? (i := 1313) (by decide +kernel), List.mem_of_getElem? (i := 1739) (by decide +kernel), List.mem_of_getElem? (i := 1740) (by decide +kernel)⟩
theorem lw_p107 : lw_okq (⟨"LastMarkModel", "stillBy", "(IIII)I"⟩, 31) := ⟨⟨by decide +kernel, by decide +kernel⟩, List.mem_of_getElem? (i := 1313) (by decide +kernel), List.mem_of_getElem? (i := 1743) (by decide +kernel), List.mem_of_getElem? (i := 1744) (by decide +kernel)⟩
theorem lw_p108 : lw_okq (⟨"LastMarkModel", "standNow", "()I"⟩, 31) := ⟨⟨by decide +kernel, by decide +kernel⟩, List.mem_of_getElem? (i := 1313) (by decide +kernel), List.mem_of_getElem? (i := 1750) (by decide +kernel), List.mem_of_getElem? (i := 1751) (by decide +kernel)⟩
theorem lw_p109 : lw_okq (⟨"LastMarkModel", "rowAt", "(IIII)I"⟩, 31) := ⟨⟨by decide +kernel, by decide +kernel⟩, List.mem_of_getElem? (i := 1313) (by decide +kernel), List.mem_of_getElem? (i := 1758) (by decide +kernel), List.mem_of_getElem? (i := 1759) (by decide +kernel)⟩
theorem lw_p110 : lw_okq (⟨"LastMarkModel", "reachBut", "(I)I"⟩, 31) := ⟨⟨by decide +kernel, by decide +kernel⟩, List.mem_of_getElem? (i := 1313) (by decide +kernel), List.mem_of_getElem? (i := 1782) (by decide +kernel), List.mem_of_getElem? (i := 1783) (by decide +kernel)⟩
theorem lw_p111 : lw_okq (⟨"LastMarkModel", "laysMany", "(I)V"⟩, 31) := ⟨⟨by decide +kernel, by decide +kernel⟩, List.mem_of_getElem? (i := 1313) (by decide +kernel), List.mem_of_getElem? (i := 1786) (by decide +kernel), List.mem_of_getElem? (i := 1787) (by decide +kernel)⟩
def lw_privs_7 : List (MethodName × Nat) := [(⟨"LastMarkModel", "does", "(I)V"⟩, 31), (⟨"LastMarkModel", "isAgain", "()V"⟩, 31), (⟨"LastMarkModel", "drawnDeed", "()I"⟩, 31), (⟨"LastMarkModel", "draw", "(I)I"⟩, 31), (⟨"LastMarkModel", "noGoal", "(II)I"⟩, 31), (⟨"LastMarkModel", "laysRow", "(III)I"⟩, 31), (⟨"LastMarkModel", "laysMays", "(I[I)V"⟩, 31), (⟨"LastMarkModel", "everyCell", "()I"⟩, 31), (⟨"LastMarkModel", "canBe", "(II)Z"⟩, 31), (⟨"LastMarkModel", "laysStill", "(II)I"⟩, 31), (⟨"LastMarkModel", "stillAt", "(III)I"⟩, 31), (⟨"LastMarkModel", "stillBy", "(IIII)I"⟩, 31), (⟨"LastMarkModel", "standNow", "()I"⟩, 31), (⟨"LastMarkModel", "rowAt", "(IIII)I"⟩, 31), (⟨"LastMarkModel", "reachBut", "(I)I"⟩, 31), (⟨"LastMarkModel", "laysMany", "(I)V"⟩, 31)]
theorem lw_r7 : ∀ q ∈ lw_privs_7, lw_okq q := List.forall_mem_cons.mpr ⟨lw_p96, List.forall_mem_cons.mpr ⟨lw_p97, List.forall_mem_cons.mpr ⟨lw_p98, List.forall_mem_cons.mpr ⟨lw_p99, List.forall_mem_cons.mpr ⟨lw_p100, List.forall_mem_cons.mpr ⟨lw_p101, List.forall_mem_cons.mpr ⟨lw_p102, List.forall_mem_cons.mpr ⟨lw_p103, List.forall_mem_cons.mpr ⟨lw_p104, List.forall_mem_cons.mpr ⟨lw_p105, List.forall_mem_cons.mpr ⟨lw_p106, List.forall_mem_cons.mpr ⟨lw_p107, List.forall_mem_cons.mpr ⟨lw_p108, List.forall_mem_cons.mpr ⟨lw_p109, List.forall_mem_cons.mpr ⟨lw_p110, List.forall_mem_cons.mpr ⟨lw_p111, fun _ h => absurd h List.not_mem_nil⟩⟩⟩⟩⟩⟩⟩⟩⟩⟩⟩⟩⟩⟩⟩⟩
theorem lw_p112 : lw_okq (⟨"LastMarkModel", "oddsAll", "()I"⟩, 31) := ⟨⟨by decide +kernel, by decide +kernel⟩, List.mem_of_getElem? (i := 1313) (by decide +kernel), List.mem_of_getElem? (i := 1809) (by decide +kernel), List.mem_of_getElem? (i := 1810) (by decide +kernel)⟩
theorem lw_p113 : lw_okq (⟨"LastMarkModel", "laysSafest", "(I)I"⟩, 31) := ⟨⟨by decide +kernel, by decide +kernel⟩, List.mem_of_getElem? (i := 1313) (by decide +kernel), List.mem_of_getElem? (i := 1824) (by decide +kernel), List.mem_of_getElem? (i := 1825) (by decide +kernel)⟩
theorem lw_p114 : lw_okq (⟨"LastMarkModel", "safeBy", "(II)I"⟩, 31) := ⟨⟨by decide +kernel, by decide +kernel⟩, List.mem_of_getElem? (i := 1313) (by decide +kernel), List.mem_of_getElem? (i := 1829) (by decide +kernel), List.mem_of_getElem? (i := 1830) (by decide +kernel)⟩
theorem lw_p115 : lw_okq (⟨"LastMarkModel", "isGame", "(III)Z"⟩, 31) := ⟨⟨by decide +kernel, by decide +kernel⟩, List.mem_of_getElem? (i := 1313) (by decide +kernel), List.mem_of_getElem? (i := 1841) (by decide +kernel), List.mem_of_getElem? (i := 1842) (by decide +kernel)⟩
theorem lw_p116 : lw_okq (⟨"LastMarkModel", "laysGame", "(III)I"⟩, 31) := ⟨⟨by decide +kernel, by decide +kernel⟩, List.mem_of_getElem? (i := 1313) (by decide +kernel), List.mem_of_getElem? (i := 1845) (by decide +kernel), List.mem_of_getElem? (i := 1846) (by decide +kernel)⟩
theorem lw_p117 : lw_okq (⟨"LastMarkModel", "mayAt", "(I)I"⟩, 31) := ⟨⟨by decide +kernel, by decide +kernel⟩, List.mem_of_getElem? (i := 1313) (by decide +kernel), List.mem_of_getElem? (i := 1849) (by decide +kernel), List.mem_of_getElem? (i := 1850) (by decide +kernel)⟩
theorem lw_p118 : lw_okq (⟨"LastMarkModel", "gameAt", "(III)I"⟩, 31) := ⟨⟨by decide +kernel, by decide +kernel⟩, List.mem_of_getElem? (i := 1313) (by decide +kernel), List.mem_of_getElem? (i := 1853) (by decide +kernel), List.mem_of_getElem? (i := 1854) (by decide +kernel)⟩
theorem lw_p119 : lw_okq (⟨"LastMarkModel", "gameBy", "(II)I"⟩, 31) := ⟨⟨by decide +kernel, by decide +kernel⟩, List.mem_of_getElem? (i := 1313) (by decide +kernel), List.mem_of_getElem? (i := 1857) (by decide +kernel), List.mem_of_getElem? (i := 1858) (by decide +kernel)⟩
theorem lw_p120 : lw_okq (⟨"LastMarkModel", "noSeenBy", "(II)I"⟩, 31) := ⟨⟨by decide +kernel, by decide +kernel⟩, List.mem_of_getElem? (i := 1313) (by decide +kernel), List.mem_of_getElem? (i := 1873) (by decide +kernel), List.mem_of_getElem? (i := 1874) (by decide +kernel)⟩
theorem lw_p121 : lw_okq (⟨"LastMarkModel", "noSeen", "(I)I"⟩, 31) := ⟨⟨by decide +kernel, by decide +kernel⟩, List.mem_of_getElem? (i := 1313) (by decide +kernel), List.mem_of_getElem? (i := 1877) (by decide +kernel), List.mem_of_getElem? (i := 1878) (by decide +kernel)⟩
theorem lw_p122 : lw_okq (⟨"LastMarkModel", "habitsOf", "(II)I"⟩, 31) := ⟨⟨by decide +kernel, by decide +kernel⟩, List.mem_of_getElem? (i := 1313) (by decide +kernel), List.mem_of_getElem? (i := 1881) (by decide +kernel), List.mem_of_getElem? (i := 1882) (by decide +kernel)⟩
theorem lw_p123 : lw_okq (⟨"LastMarkModel", "mayAs", "(III)Z"⟩, 31) := ⟨⟨by decide +kernel, by decide +kernel⟩, List.mem_of_getElem? (i := 1313) (by decide +kernel), List.mem_of_getElem? (i := 1885) (by decide +kernel), List.mem_of_getElem? (i := 1886) (by decide +kernel)⟩
theorem lw_p124 : lw_okq (⟨"LastMarkModel", "mayBy", "(III)I"⟩, 31) := ⟨⟨by decide +kernel, by decide +kernel⟩, List.mem_of_getElem? (i := 1313) (by decide +kernel), List.mem_of_getElem? (i := 1893) (by decide +kernel), List.mem_of_getElem? (i := 1894) (by decide +kernel)⟩
theorem lw_p125 : lw_okq (⟨"LastMarkModel", "handsAs", "(II)I"⟩, 31) := ⟨⟨by decide +kernel, by decide +kernel⟩, List.mem_of_getElem? (i := 1313) (by decide +kernel), List.mem_of_getElem? (i := 1901) (by decide +kernel), List.mem_of_getElem? (i := 1902) (by decide +kernel)⟩
theorem lw_p126 : lw_okq (⟨"LastMarkModel", "laysFew", "(I)V"⟩, 31) := ⟨⟨by decide +kernel, by decide +kernel⟩, List.mem_of_getElem? (i := 1313) (by decide +kernel), List.mem_of_getElem? (i := 1909) (by decide +kernel), List.mem_of_getElem? (i := 1910) (by decide +kernel)⟩
theorem lw_p127 : lw_okq (⟨"LastMarkModel", "fewBy", "(III)I"⟩, 31) := ⟨⟨by decide +kernel, by decide +kernel⟩, List.mem_of_getElem? (i := 1313) (by decide +kernel), List.mem_of_getElem? (i := 1913) (by decide +kernel), List.mem_of_getElem? (i := 1914) (by decide +kernel)⟩
def lw_privs_8 : List (MethodName × Nat) := [(⟨"LastMarkModel", "oddsAll", "()I"⟩, 31), (⟨"LastMarkModel", "laysSafest", "(I)I"⟩, 31), (⟨"LastMarkModel", "safeBy", "(II)I"⟩, 31), (⟨"LastMarkModel", "isGame", "(III)Z"⟩, 31), (⟨"LastMarkModel", "laysGame", "(III)I"⟩, 31), (⟨"LastMarkModel", "mayAt", "(I)I"⟩, 31), (⟨"LastMarkModel", "gameAt", "(III)I"⟩, 31), (⟨"LastMarkModel", "gameBy", "(II)I"⟩, 31), (⟨"LastMarkModel", "noSeenBy", "(II)I"⟩, 31), (⟨"LastMarkModel", "noSeen", "(I)I"⟩, 31), (⟨"LastMarkModel", "habitsOf", "(II)I"⟩, 31), (⟨"LastMarkModel", "mayAs", "(III)Z"⟩, 31), (⟨"LastMarkModel", "mayBy", "(III)I"⟩, 31), (⟨"LastMarkModel", "handsAs", "(II)I"⟩, 31), (⟨"LastMarkModel", "laysFew", "(I)V"⟩, 31), (⟨"LastMarkModel", "fewBy", "(III)I"⟩, 31)]
theorem lw_r8 : ∀ q ∈ lw_privs_8, lw_okq q := List.forall_mem_cons.mpr ⟨lw_p112, List.forall_mem_cons.mpr ⟨lw_p113, List.forall_mem_cons.mpr ⟨lw_p114, List.forall_mem_cons.mpr ⟨lw_p115, List.forall_mem_cons.mpr ⟨lw_p116, List.forall_mem_cons.mpr ⟨lw_p117, List.forall_mem_cons.mpr ⟨lw_p118, List.forall_mem_cons.mpr ⟨lw_p119, List.forall_mem_cons.mpr ⟨lw_p120, List.forall_mem_cons.mpr ⟨lw_p121, List.forall_mem_cons.mpr ⟨lw_p122, List.forall_mem_cons.mpr ⟨lw_p123, List.forall_mem_cons.mpr ⟨lw_p124, List.forall_mem_cons.mpr ⟨lw_p125, List.forall_mem_cons.mpr ⟨lw_p126, List.forall_mem_cons.mpr ⟨lw_p127, fun _ h => absurd h List.not_mem_nil⟩⟩⟩⟩⟩⟩⟩⟩⟩⟩⟩⟩⟩⟩⟩⟩
theorem lw_p128 : lw_okq (⟨"LastMarkModel", "chanceOf", "(IIIII)J"⟩, 31) := ⟨⟨by decide +kernel, by decide +kernel⟩, List.mem_of_getElem? (i := 1313) (by decide +kernel), List.mem_of_getElem? (i := 1926) (by decide +kernel), List.mem_of_getElem? (i := 1927) (by decide +kernel)⟩
def lw_privs_9 : List (MethodName × Nat) := [(⟨"LastMarkModel", "chanceOf", "(IIIII)J"⟩, 31)]
theorem lw_r9 : ∀ q ∈ lw_privs_9, lw_okq q := List.forall_mem_cons.mpr ⟨lw_p128, fun _ h => absurd h List.not_mem_nil⟩
def lw_privs : List (MethodName × Nat) := lw_privs_1 ++ (lw_privs_2 ++ (lw_privs_3 ++ (lw_privs_4 ++ (lw_privs_5 ++ (lw_privs_6 ++ (lw_privs_7 ++ (lw_privs_8 ++ (lw_privs_9))))))))
def lw_tbl : List Cond := k2_sels lw_privs ++ tables_1
theorem lw_privs_ok : ∀ q ∈ lw_privs, lw_okq q := by
  show ∀ q ∈ lw_privs_1 ++ (lw_privs_2 ++ (lw_privs_3 ++ (lw_privs_4 ++ (lw_privs_5 ++ (lw_privs_6 ++ (lw_privs_7 ++ (lw_privs_8 ++ (lw_privs_9)))))))), lw_okq q
  exact List.forall_mem_append.mpr ⟨lw_r1, List.forall_mem_append.mpr ⟨lw_r2, List.forall_mem_append.mpr ⟨lw_r3, List.forall_mem_append.mpr ⟨lw_r4, List.forall_mem_append.mpr ⟨lw_r5, List.forall_mem_append.mpr ⟨lw_r6, List.forall_mem_append.mpr ⟨lw_r7, List.forall_mem_append.mpr ⟨lw_r8, lw_r9⟩⟩⟩⟩⟩⟩⟩⟩
-- ===== end of PART A; then your names; then what follows =====
end
section
-- names, fields, codes: the printed names of the claim (claim/NAMES.whole.lean.txt), without word lists and decode rows
def RX0 : String := "LastMark$Chances"
def TX0 : u_T := fun k => match k with
  | 0 => ("LastMark$Chances", "permits", "[LLastMark$Permit;", true)
  | 1 => ("LastMark$Chances", "sheet", "LLastMark$Sheet;", false)
  | 2 => ("LastMark$Chances", "version", "I", false)
  | 3 => ("LastMark$Chances", "hand", "I", false)
  | 4 => ("LastMark$Chances", "strokes", "I", false)
  | 5 => ("LastMark$Chances", "shares", "[J", true)
  | _ => ("LastMark$Chances", "whole", "J", false)
def tyX0 : Nat → FieldType := fun k => match k with
  | 0 => .array (.object "LastMark$Permit")
  | 1 => .object "LastMark$Sheet"
  | 2 => .int
  | 3 => .int
  | 4 => .int
  | 5 => .array .long
  | _ => .long
abbrev wsX00 : List Cond := u_ws RX0 TX0 7
theorem nmX0 : ∀ a, a < 7 → ∀ b, b < 7 → a ≠ b → (TX0 a).2.1 ≠ (TX0 b).2.1 := by decide +kernel
theorem tyX0_ok : ∀ k, k < 7 → parseFieldDescriptor (TX0 k).2.2.1 = some (tyX0 k) := by decide +kernel
abbrev cX0_init : ByteArray := prog_2_method_1_code
def yX0_init : MethodName := ⟨RX0, "<init>", "([LLastMark$Permit;)V"⟩
abbrev cX0_begin : ByteArray := prog_2_method_2_code
def yX0_begin : MethodName := ⟨RX0, "begin", "(LLastMark$Sheet;LLastMark$Page;II)V"⟩
abbrev cX0_spread : ByteArray := prog_2_method_3_code
def yX0_spread : MethodName := ⟨RX0, "spread", "(IIJI)V"⟩
def RX1 : String := "LastMark$History"
def TX1 : u_T := fun k => match k with
  | 0 => ("LastMark$History", "pages", "[LLastMark$Page;", true)
  | 1 => ("LastMark$History", "next", "I", false)
  | _ => ("LastMark$History", "kept", "I", false)
def tyX1 : Nat → FieldType := fun k => match k with
  | 0 => .array (.object "LastMark$Page")
  | 1 => .int
  | _ => .int
abbrev wsX10 : List Cond := u_ws RX1 TX1 3
theorem nmX1 : ∀ a, a < 3 → ∀ b, b < 3 → a ≠ b → (TX1 a).2.1 ≠ (TX1 b).2.1 := by decide +kernel
theorem tyX1_ok : ∀ k, k < 3 → parseFieldDescriptor (TX1 k).2.2.1 = some (tyX1 k) := by decide +kernel
abbrev cX1_init : ByteArray := prog_3_method_1_code
def yX1_init : MethodName := ⟨RX1, "<init>", "()V"⟩
abbrev cX1_keep : ByteArray := prog_3_method_2_code
def yX1_keep : MethodName := ⟨RX1, "keep", "(LLastMark$Page;)V"⟩
abbrev cX1_bringBack : ByteArray := prog_3_method_3_code
def yX1_bringBack : MethodName := ⟨RX1, "bringBack", "(ILLastMark$Page;)V"⟩
abbrev cX1_forget : ByteArray := prog_3_method_4_code
def yX1_forget : MethodName := ⟨RX1, "forget", "()V"⟩
def RX2 : String := "LastMark$Law"
def TX2 : u_T := fun k => match k with
  | 0 => ("LastMark$Law", "codes", "[I", true)
  | 1 => ("LastMark$Law", "stack", "[I", true)
  | _ => ("LastMark$Law", "uses", "I", true)
def tyX2 : Nat → FieldType := fun k => match k with
  | 0 => .array .int
  | 1 => .array .int
  | _ => .int
abbrev wsX20 : List Cond := u_ws RX2 TX2 3
theorem nmX2 : ∀ a, a < 3 → ∀ b, b < 3 → a ≠ b → (TX2 a).2.1 ≠ (TX2 b).2.1 := by decide +kernel
theorem tyX2_ok : ∀ k, k < 3 → parseFieldDescriptor (TX2 k).2.2.1 = some (tyX2 k) := by decide +kernel
abbrev cX2_init : ByteArray := prog_4_method_1_code
def yX2_init : MethodName := ⟨RX2, "<init>", "([II)V"⟩
abbrev cX2_value : ByteArray := prog_4_method_2_code
def yX2_value : MethodName := ⟨RX2, "value", "([I)I"⟩
abbrev cX2_joined : ByteArray := prog_4_method_3_code
def yX2_joined : MethodName := ⟨RX2, "joined", "(III)I"⟩
def RX3 : String := "LastMark$Page"
def TX3 : u_T := fun k => match k with
  | 0 => ("LastMark$Page", "drawn", "I", false)
  | 1 => ("LastMark$Page", "last", "I", false)
  | 2 => ("LastMark$Page", "spot", "I", false)
  | 3 => ("LastMark$Page", "version", "I", false)
  | _ => ("LastMark$Page", "habitsOfHands", "[I", true)
def tyX3 : Nat → FieldType := fun k => match k with
  | 0 => .int
  | 1 => .int
  | 2 => .int
  | 3 => .int
  | _ => .array .int
abbrev wsX30 : List Cond := u_ws RX3 TX3 5
theorem nmX3 : ∀ a, a < 5 → ∀ b, b < 5 → a ≠ b → (TX3 a).2.1 ≠ (TX3 b).2.1 := by decide +kernel
theorem tyX3_ok : ∀ k, k < 5 → parseFieldDescriptor (TX3 k).2.2.1 = some (tyX3 k) := by decide +kernel
abbrev cX3_init : ByteArray := prog_5_method_1_code
def yX3_init : MethodName := ⟨RX3, "<init>", "()V"⟩
abbrev cX3_copy : ByteArray := prog_5_method_2_code
def yX3_copy : MethodName := ⟨RX3, "copy", "(LLastMark$Page;)V"⟩
abbrev cX3_isDrawn : ByteArray := prog_5_method_3_code
def yX3_isDrawn : MethodName := ⟨RX3, "isDrawn", "(I)Z"⟩
abbrev cX3_isFound : ByteArray := prog_5_method_4_code
def yX3_isFound : MethodName := ⟨RX3, "isFound", "()Z"⟩
abbrev cX3_habitOf : ByteArray := prog_5_method_5_code
def yX3_habitOf : MethodName := ⟨RX3, "habitOf", "(I)I"⟩
abbrev cX3_whyNotDraw : ByteArray := prog_5_method_6_code
def yX3_whyNotDraw : MethodName := ⟨RX3, "whyNotDraw", "(LLastMark$Sheet;II)I"⟩
abbrev cX3_draw : ByteArray := prog_5_method_7_code
def yX3_draw : MethodName := ⟨RX3, "draw", "(LLastMark$Sheet;II)I"⟩
abbrev cX3_mark : ByteArray := prog_5_method_8_code
def yX3_mark : MethodName := ⟨RX3, "mark", "(I)V"⟩
abbrev cX3_erase : ByteArray := prog_5_method_9_code
def yX3_erase : MethodName := ⟨RX3, "erase", "(LLastMark$Sheet;I)I"⟩
abbrev cX3_adopt : ByteArray := prog_5_method_10_code
def yX3_adopt : MethodName := ⟨RX3, "adopt", "(LLastMark$Sheet;II)I"⟩
abbrev cX3_setHabit : ByteArray := prog_5_method_11_code
def yX3_setHabit : MethodName := ⟨RX3, "setHabit", "(II)V"⟩
abbrev cX3_conceal : ByteArray := prog_5_method_12_code
def yX3_conceal : MethodName := ⟨RX3, "conceal", "(LLastMark$Sheet;I)I"⟩
abbrev cX3_obey : ByteArray := prog_5_method_13_code
def yX3_obey : MethodName := ⟨RX3, "obey", "(LLastMark$Sheet;J)I"⟩
abbrev cX3_clear : ByteArray := prog_5_method_14_code
def yX3_clear : MethodName := ⟨RX3, "clear", "()V"⟩
def RX4 : String := "LastMark$Paths"
def TX4 : u_T := fun k => match k with
  | 0 => ("LastMark$Paths", "permits", "[LLastMark$Permit;", true)
  | 1 => ("LastMark$Paths", "sheet", "LLastMark$Sheet;", false)
  | 2 => ("LastMark$Paths", "version", "I", false)
  | 3 => ("LastMark$Paths", "first", "I", false)
  | 4 => ("LastMark$Paths", "second", "I", false)
  | 5 => ("LastMark$Paths", "from", "I", false)
  | 6 => ("LastMark$Paths", "width", "I", false)
  | 7 => ("LastMark$Paths", "startRank", "I", false)
  | 8 => ("LastMark$Paths", "leaps", "[I", true)
  | 9 => ("LastMark$Paths", "arrived", "[I", false)
  | 10 => ("LastMark$Paths", "moves", "[S", false)
  | 11 => ("LastMark$Paths", "values", "[I", false)
  | 12 => ("LastMark$Paths", "aim", "I", false)
  | 13 => ("LastMark$Paths", "target", "I", false)
  | 14 => ("LastMark$Paths", "score", "I", false)
  | 15 => ("LastMark$Paths", "odds", "[I", true)
  | 16 => ("LastMark$Paths", "steps", "[I", true)
  | 17 => ("LastMark$Paths", "length", "I", false)
  | 18 => ("LastMark$Paths", "totals", "[J", true)
  | _ => ("LastMark$Paths", "stuckRows", "J", false)
def tyX4 : Nat → FieldType := fun k => match k with
  | 0 => .array (.object "LastMark$Permit")
  | 1 => .object "LastMark$Sheet"
  | 2 => .int
  | 3 => .int
  | 4 => .int
  | 5 => .int
  | 6 => .int
  | 7 => .int
  | 8 => .array .int
  | 9 => .array .int
  | 10 => .array .short
  | 11 => .array .int
  | 12 => .int
  | 13 => .int
  | 14 => .int
  | 15 => .array .int
  | 16 => .array .int
  | 17 => .int
  | 18 => .array .long
  | _ => .long
abbrev wsX40 : List Cond := u_ws RX4 TX4 20
theorem nmX4 : ∀ a, a < 20 → ∀ b, b < 20 → a ≠ b → (TX4 a).2.1 ≠ (TX4 b).2.1 := by decide +kernel
theorem tyX4_ok : ∀ k, k < 20 → parseFieldDescriptor (TX4 k).2.2.1 = some (tyX4 k) := by decide +kernel
abbrev cX4_init : ByteArray := prog_6_method_1_code
def yX4_init : MethodName := ⟨RX4, "<init>", "(LLastMark$Sheet;[LLastMark$Permit;)V"⟩
abbrev cX4_begin : ByteArray := prog_6_method_2_code
def yX4_begin : MethodName := ⟨RX4, "begin", "(LLastMark$Sheet;LLastMark$Page;II)V"⟩
abbrev cX4_makeRoom : ByteArray := prog_6_method_3_code
def yX4_makeRoom : MethodName := ⟨RX4, "makeRoom", "()V"⟩
abbrev cX4_spread : ByteArray := prog_6_method_4_code
def yX4_spread : MethodName := ⟨RX4, "spread", "(I)V"⟩
abbrev cX4_strokesTo : ByteArray := prog_6_method_5_code
def yX4_strokesTo : MethodName := ⟨RX4, "strokesTo", "(I)I"⟩
abbrev cX4_rankOf : ByteArray := prog_6_method_6_code
def yX4_rankOf : MethodName := ⟨RX4, "rankOf", "(I)I"⟩
abbrev cX4_solve : ByteArray := prog_6_method_7_code
def yX4_solve : MethodName := ⟨RX4, "solve", "(II)I"⟩
abbrev cX4_isBeyond : ByteArray := prog_6_method_8_code
def yX4_isBeyond : MethodName := ⟨RX4, "isBeyond", "(I)Z"⟩
abbrev cX4_settle : ByteArray := prog_6_method_9_code
def yX4_settle : MethodName := ⟨RX4, "settle", "(I)V"⟩
abbrev cX4_worth : ByteArray := prog_6_method_10_code
def yX4_worth : MethodName := ⟨RX4, "worth", "(II)I"⟩
abbrev cX4_most : ByteArray := prog_6_method_11_code
def yX4_most : MethodName := ⟨RX4, "most", "(II)I"⟩
abbrev cX4_least : ByteArray := prog_6_method_12_code
def yX4_least : MethodName := ⟨RX4, "least", "(II)I"⟩
abbrev cX4_played : ByteArray := prog_6_method_13_code
def yX4_played : MethodName := ⟨RX4, "played", "(II)I"⟩
abbrev cX4_trace : ByteArray := prog_6_method_14_code
def yX4_trace : MethodName := ⟨RX4, "trace", "()V"⟩
abbrev cX4_nextStep : ByteArray := prog_6_method_15_code
def yX4_nextStep : MethodName := ⟨RX4, "nextStep", "(II)I"⟩
abbrev cX4_leads : ByteArray := prog_6_method_16_code
def yX4_leads : MethodName := ⟨RX4, "leads", "(III)Z"⟩
abbrev cX4_step : ByteArray := prog_6_method_17_code
def yX4_step : MethodName := ⟨RX4, "step", "(I)I"⟩
abbrev cX4_firstWinning : ByteArray := prog_6_method_18_code
def yX4_firstWinning : MethodName := ⟨RX4, "firstWinning", "()I"⟩
abbrev cX4_reached : ByteArray := prog_6_method_19_code
def yX4_reached : MethodName := ⟨RX4, "reached", "()I"⟩
abbrev cX4_needed : ByteArray := prog_6_method_20_code
def yX4_needed : MethodName := ⟨RX4, "needed", "(I)I"⟩
abbrev cX4_opens : ByteArray := prog_6_method_21_code
def yX4_opens : MethodName := ⟨RX4, "opens", "(II)Z"⟩
abbrev cX4_tally : ByteArray := prog_6_method_22_code
def yX4_tally : MethodName := ⟨RX4, "tally", "()V"⟩
abbrev cX4_tallyAt : ByteArray := prog_6_method_23_code
def yX4_tallyAt : MethodName := ⟨RX4, "tallyAt", "(I)V"⟩
abbrev cX4_passOn : ByteArray := prog_6_method_24_code
def yX4_passOn : MethodName := ⟨RX4, "passOn", "(III)V"⟩
def RX5 : String := "LastMark$Permit"
def TX5 : u_T := fun k => match k with
  | 0 => ("LastMark$Permit", "hand", "I", true)
  | 1 => ("LastMark$Permit", "sheet", "LLastMark$Sheet;", false)
  | 2 => ("LastMark$Permit", "habit", "I", false)
  | 3 => ("LastMark$Permit", "asked", "[J", true)
  | _ => ("LastMark$Permit", "holding", "[J", true)
def tyX5 : Nat → FieldType := fun k => match k with
  | 0 => .int
  | 1 => .object "LastMark$Sheet"
  | 2 => .int
  | 3 => .array .long
  | _ => .array .long
abbrev wsX50 : List Cond := u_ws RX5 TX5 5
theorem nmX5 : ∀ a, a < 5 → ∀ b, b < 5 → a ≠ b → (TX5 a).2.1 ≠ (TX5 b).2.1 := by decide +kernel
theorem tyX5_ok : ∀ k, k < 5 → parseFieldDescriptor (TX5 k).2.2.1 = some (tyX5 k) := by decide +kernel
abbrev cX5_init : ByteArray := prog_7_method_1_code
def yX5_init : MethodName := ⟨RX5, "<init>", "(LLastMark$Sheet;I)V"⟩
abbrev cX5_serve : ByteArray := prog_7_method_2_code
def yX5_serve : MethodName := ⟨RX5, "serve", "(LLastMark$Sheet;I)V"⟩
abbrev cX5_open : ByteArray := prog_7_method_3_code
def yX5_open : MethodName := ⟨RX5, "open", "(JII)I"⟩
abbrev cX5_learn : ByteArray := prog_7_method_4_code
def yX5_learn : MethodName := ⟨RX5, "learn", "(IJII)V"⟩
def RX6 : String := "LastMark$Reader"
def TX6 : u_T := fun k => match k with
  | 0 => ("LastMark$Reader", "tokens", "LLastMark$Tokens;", true)
  | 1 => ("LastMark$Reader", "kinds", "[I", true)
  | 2 => ("LastMark$Reader", "codes", "[I", true)
  | 3 => ("LastMark$Reader", "size", "I", false)
  | 4 => ("LastMark$Reader", "inMay", "Z", false)
  | 5 => ("LastMark$Reader", "rowCount", "I", false)
  | 6 => ("LastMark$Reader", "columns", "I", false)
  | 7 => ("LastMark$Reader", "hands", "I", false)
  | 8 => ("LastMark$Reader", "lines", "I", false)
  | 9 => ("LastMark$Reader", "may", "LLastMark$Law;", false)
  | 10 => ("LastMark$Reader", "odds", "LLastMark$Law;", false)
  | 11 => ("LastMark$Reader", "fault", "I", false)
  | 12 => ("LastMark$Reader", "place", "I", false)
  | _ => ("LastMark$Reader", "start", "LLastMark$Page;", true)
def tyX6 : Nat → FieldType := fun k => match k with
  | 0 => .object "LastMark$Tokens"
  | 1 => .array .int
  | 2 => .array .int
  | 3 => .int
  | 4 => .boolean
  | 5 => .int
  | 6 => .int
  | 7 => .int
  | 8 => .int
  | 9 => .object "LastMark$Law"
  | 10 => .object "LastMark$Law"
  | 11 => .int
  | 12 => .int
  | _ => .object "LastMark$Page"
abbrev wsX60 : List Cond := u_ws RX6 TX6 14
theorem nmX6 : ∀ a, a < 14 → ∀ b, b < 14 → a ≠ b → (TX6 a).2.1 ≠ (TX6 b).2.1 := by decide +kernel
theorem tyX6_ok : ∀ k, k < 14 → parseFieldDescriptor (TX6 k).2.2.1 = some (tyX6 k) := by decide +kernel
abbrev cX6_init : ByteArray := prog_8_method_1_code
def yX6_init : MethodName := ⟨RX6, "<init>", "()V"⟩
abbrev cX6_read : ByteArray := prog_8_method_2_code
def yX6_read : MethodName := ⟨RX6, "read", "([BI)LLastMark$Sheet;"⟩
abbrev cX6_forget : ByteArray := prog_8_method_3_code
def yX6_forget : MethodName := ⟨RX6, "forget", "()V"⟩
abbrev cX6_refuse : ByteArray := prog_8_method_4_code
def yX6_refuse : MethodName := ⟨RX6, "refuse", "(I)V"⟩
abbrev cX6_expect : ByteArray := prog_8_method_5_code
def yX6_expect : MethodName := ⟨RX6, "expect", "(I)V"⟩
abbrev cX6_number : ByteArray := prog_8_method_6_code
def yX6_number : MethodName := ⟨RX6, "number", "(II)I"⟩
abbrev cX6_head : ByteArray := prog_8_method_7_code
def yX6_head : MethodName := ⟨RX6, "head", "()V"⟩
abbrev cX6_line : ByteArray := prog_8_method_8_code
def yX6_line : MethodName := ⟨RX6, "line", "()V"⟩
abbrev cX6_rowLine : ByteArray := prog_8_method_9_code
def yX6_rowLine : MethodName := ⟨RX6, "rowLine", "()V"⟩
abbrev cX6_handLine : ByteArray := prog_8_method_10_code
def yX6_handLine : MethodName := ⟨RX6, "handLine", "()V"⟩
abbrev cX6_drawnLine : ByteArray := prog_8_method_11_code
def yX6_drawnLine : MethodName := ⟨RX6, "drawnLine", "()I"⟩
abbrev cX6_beginLaw : ByteArray := prog_8_method_12_code
def yX6_beginLaw : MethodName := ⟨RX6, "beginLaw", "(Z)V"⟩
abbrev cX6_truth : ByteArray := prog_8_method_13_code
def yX6_truth : MethodName := ⟨RX6, "truth", "(I)V"⟩
abbrev cX6_unit : ByteArray := prog_8_method_14_code
def yX6_unit : MethodName := ⟨RX6, "unit", "(I)V"⟩
abbrev cX6_mayNest : ByteArray := prog_8_method_15_code
def yX6_mayNest : MethodName := ⟨RX6, "mayNest", "(I)Z"⟩
abbrev cX6_comparison : ByteArray := prog_8_method_16_code
def yX6_comparison : MethodName := ⟨RX6, "comparison", "()I"⟩
abbrev cX6_sum : ByteArray := prog_8_method_17_code
def yX6_sum : MethodName := ⟨RX6, "sum", "(I)V"⟩
abbrev cX6_atom : ByteArray := prog_8_method_18_code
def yX6_atom : MethodName := ⟨RX6, "atom", "(I)V"⟩
abbrev cX6_fact : ByteArray := prog_8_method_19_code
def yX6_fact : MethodName := ⟨RX6, "fact", "(I)I"⟩
abbrev cX6_emit : ByteArray := prog_8_method_20_code
def yX6_emit : MethodName := ⟨RX6, "emit", "(I)V"⟩
def RX7 : String := "LastMark$Seen"
def TX7 : u_T := fun k => match k with
  | 0 => ("LastMark$Seen", "trial", "LLastMark$Page;", true)
  | 1 => ("LastMark$Seen", "able", "[I", true)
  | 2 => ("LastMark$Seen", "fewest", "[I", true)
  | _ => ("LastMark$Seen", "chosen", "[I", true)
def tyX7 : Nat → FieldType := fun k => match k with
  | 0 => .object "LastMark$Page"
  | 1 => .array .int
  | 2 => .array .int
  | _ => .array .int
abbrev wsX70 : List Cond := u_ws RX7 TX7 4
theorem nmX7 : ∀ a, a < 4 → ∀ b, b < 4 → a ≠ b → (TX7 a).2.1 ≠ (TX7 b).2.1 := by decide +kernel
theorem tyX7_ok : ∀ k, k < 4 → parseFieldDescriptor (TX7 k).2.2.1 = some (tyX7 k) := by decide +kernel
abbrev cX7_init : ByteArray := prog_9_method_1_code
def yX7_init : MethodName := ⟨RX7, "<init>", "()V"⟩
abbrev cX7_refusal : ByteArray := prog_9_method_2_code
def yX7_refusal : MethodName := ⟨RX7, "refusal", "(LLastMark$Sheet;LLastMark$Page;LLastMark$Tray;)I"⟩
abbrev cX7_fitting : ByteArray := prog_9_method_3_code
def yX7_fitting : MethodName := ⟨RX7, "fitting", "(LLastMark$Sheet;LLastMark$Page;LLastMark$Tray;I)I"⟩
abbrev cX7_fits : ByteArray := prog_9_method_4_code
def yX7_fits : MethodName := ⟨RX7, "fits", "(LLastMark$Sheet;LLastMark$Page;LLastMark$Tray;II)Z"⟩
abbrev cX7_telling : ByteArray := prog_9_method_5_code
def yX7_telling : MethodName := ⟨RX7, "telling", "(LLastMark$Sheet;LLastMark$Page;LLastMark$Tray;I)I"⟩
abbrev cX7_lesserPart : ByteArray := prog_9_method_6_code
def yX7_lesserPart : MethodName := ⟨RX7, "lesserPart", "(LLastMark$Sheet;LLastMark$Page;III)I"⟩
abbrev cX7_findAble : ByteArray := prog_9_method_7_code
def yX7_findAble : MethodName := ⟨RX7, "findAble", "(LLastMark$Sheet;LLastMark$Page;LLastMark$Tray;)V"⟩
abbrev cX7_authors : ByteArray := prog_9_method_8_code
def yX7_authors : MethodName := ⟨RX7, "authors", "(LLastMark$Sheet;LLastMark$Page;LLastMark$Tray;)J"⟩
abbrev cX7_fewestChanges : ByteArray := prog_9_method_9_code
def yX7_fewestChanges : MethodName := ⟨RX7, "fewestChanges", "(LLastMark$Sheet;LLastMark$Page;LLastMark$Tray;)I"⟩
abbrev cX7_fewestAfter : ByteArray := prog_9_method_10_code
def yX7_fewestAfter : MethodName := ⟨RX7, "fewestAfter", "(II)I"⟩
abbrev cX7_changesBy : ByteArray := prog_9_method_11_code
def yX7_changesBy : MethodName := ⟨RX7, "changesBy", "(III)I"⟩
abbrev cX7_chooseAuthors : ByteArray := prog_9_method_12_code
def yX7_chooseAuthors : MethodName := ⟨RX7, "chooseAuthors", "(I)V"⟩
abbrev cX7_author : ByteArray := prog_9_method_13_code
def yX7_author : MethodName := ⟨RX7, "author", "(I)I"⟩
abbrev cX7_fewestCovering : ByteArray := prog_9_method_14_code
def yX7_fewestCovering : MethodName := ⟨RX7, "fewestCovering", "(LLastMark$Tray;I)I"⟩
abbrev cX7_union : ByteArray := prog_9_method_15_code
def yX7_union : MethodName := ⟨RX7, "union", "(LLastMark$Tray;I)I"⟩
def RX8 : String := "LastMark$Sheet"
def TX8 : u_T := fun k => match k with
  | 0 => ("LastMark$Sheet", "rowCount", "I", true)
  | 1 => ("LastMark$Sheet", "columns", "I", true)
  | 2 => ("LastMark$Sheet", "cells", "I", true)
  | 3 => ("LastMark$Sheet", "all", "I", true)
  | 4 => ("LastMark$Sheet", "hands", "I", true)
  | 5 => ("LastMark$Sheet", "lines", "I", true)
  | 6 => ("LastMark$Sheet", "nearMatters", "Z", true)
  | 7 => ("LastMark$Sheet", "leftMatters", "Z", true)
  | 8 => ("LastMark$Sheet", "lastMatters", "Z", true)
  | 9 => ("LastMark$Sheet", "kinds", "[I", true)
  | 10 => ("LastMark$Sheet", "neighbours", "[I", true)
  | 11 => ("LastMark$Sheet", "may", "LLastMark$Law;", true)
  | 12 => ("LastMark$Sheet", "odds", "LLastMark$Law;", true)
  | _ => ("LastMark$Sheet", "facts", "[I", true)
def tyX8 : Nat → FieldType := fun k => match k with
  | 0 => .int
  | 1 => .int
  | 2 => .int
  | 3 => .int
  | 4 => .int
  | 5 => .int
  | 6 => .boolean
  | 7 => .boolean
  | 8 => .boolean
  | 9 => .array .int
  | 10 => .array .int
  | 11 => .object "LastMark$Law"
  | 12 => .object "LastMark$Law"
  | _ => .array .int
abbrev wsX80 : List Cond := u_ws RX8 TX8 14
theorem nmX8 : ∀ a, a < 14 → ∀ b, b < 14 → a ≠ b → (TX8 a).2.1 ≠ (TX8 b).2.1 := by decide +kernel
theorem tyX8_ok : ∀ k, k < 14 → parseFieldDescriptor (TX8 k).2.2.1 = some (tyX8 k) := by decide +kernel
abbrev cX8_init : ByteArray := prog_10_method_1_code
def yX8_init : MethodName := ⟨RX8, "<init>", "(II[IIILLastMark$Law;LLastMark$Law;)V"⟩
abbrev cX8_hasHand : ByteArray := prog_10_method_2_code
def yX8_hasHand : MethodName := ⟨RX8, "hasHand", "(I)Z"⟩
abbrev cX8_hasCell : ByteArray := prog_10_method_3_code
def yX8_hasCell : MethodName := ⟨RX8, "hasCell", "(I)Z"⟩
abbrev cX8_kindOf : ByteArray := prog_10_method_4_code
def yX8_kindOf : MethodName := ⟨RX8, "kindOf", "(I)I"⟩
abbrev cX8_near : ByteArray := prog_10_method_5_code
def yX8_near : MethodName := ⟨RX8, "near", "(II)I"⟩
abbrev cX8_left : ByteArray := prog_10_method_6_code
def yX8_left : MethodName := ⟨RX8, "left", "(I)I"⟩
abbrev cX8_steps : ByteArray := prog_10_method_7_code
def yX8_steps : MethodName := ⟨RX8, "steps", "(II)I"⟩
abbrev cX8_oddsOf : ByteArray := prog_10_method_8_code
def yX8_oddsOf : MethodName := ⟨RX8, "oddsOf", "(II)I"⟩
abbrev cX8_allOdds : ByteArray := prog_10_method_9_code
def yX8_allOdds : MethodName := ⟨RX8, "allOdds", "(I)I"⟩
abbrev cX8_tellPlace : ByteArray := prog_10_method_10_code
def yX8_tellPlace : MethodName := ⟨RX8, "tellPlace", "(III)V"⟩
abbrev cX8_holds : ByteArray := prog_10_method_11_code
def yX8_holds : MethodName := ⟨RX8, "holds", "(IIIIII)Z"⟩
abbrev cX8_allows : ByteArray := prog_10_method_12_code
def yX8_allows : MethodName := ⟨RX8, "allows", "(IIIII)Z"⟩
abbrev cX8_nearness : ByteArray := prog_10_method_13_code
def yX8_nearness : MethodName := ⟨RX8, "nearness", "(I)J"⟩
def RX9 : String := "LastMark$Tokens"
def TX9 : u_T := fun k => match k with
  | 0 => ("LastMark$Tokens", "codes", "[I", true)
  | 1 => ("LastMark$Tokens", "places", "[I", true)
  | 2 => ("LastMark$Tokens", "size", "I", false)
  | 3 => ("LastMark$Tokens", "at", "I", false)
  | 4 => ("LastMark$Tokens", "code", "I", false)
  | _ => ("LastMark$Tokens", "place", "I", false)
def tyX9 : Nat → FieldType := fun k => match k with
  | 0 => .array .int
  | 1 => .array .int
  | 2 => .int
  | 3 => .int
  | 4 => .int
  | _ => .int
abbrev wsX90 : List Cond := u_ws RX9 TX9 6
theorem nmX9 : ∀ a, a < 6 → ∀ b, b < 6 → a ≠ b → (TX9 a).2.1 ≠ (TX9 b).2.1 := by decide +kernel
theorem tyX9_ok : ∀ k, k < 6 → parseFieldDescriptor (TX9 k).2.2.1 = some (tyX9 k) := by decide +kernel
abbrev cX9_init : ByteArray := prog_11_method_1_code
def yX9_init : MethodName := ⟨RX9, "<init>", "()V"⟩
abbrev cX9_open : ByteArray := prog_11_method_2_code
def yX9_open : MethodName := ⟨RX9, "open", "([BI)V"⟩
abbrev cX9_append : ByteArray := prog_11_method_3_code
def yX9_append : MethodName := ⟨RX9, "append", "(II)V"⟩
abbrev cX9_tokenEnd : ByteArray := prog_11_method_4_code
def yX9_tokenEnd : MethodName := ⟨RX9, "tokenEnd", "([BII)I"⟩
abbrev cX9_isLetter : ByteArray := prog_11_method_5_code
def yX9_isLetter : MethodName := ⟨RX9, "isLetter", "(B)Z"⟩
abbrev cX9_isDigit : ByteArray := prog_11_method_6_code
def yX9_isDigit : MethodName := ⟨RX9, "isDigit", "(B)Z"⟩
abbrev cX9_codeOf : ByteArray := prog_11_method_7_code
def yX9_codeOf : MethodName := ⟨RX9, "codeOf", "([BII)I"⟩
abbrev cX9_wordCode : ByteArray := prog_11_method_8_code
def yX9_wordCode : MethodName := ⟨RX9, "wordCode", "([BII)I"⟩
abbrev cX9_isWord : ByteArray := prog_11_method_9_code
def yX9_isWord : MethodName := ⟨RX9, "isWord", "(I[BII)Z"⟩
abbrev cX9_numberCode : ByteArray := prog_11_method_10_code
def yX9_numberCode : MethodName := ⟨RX9, "numberCode", "([BII)I"⟩
abbrev cX9_advance : ByteArray := prog_11_method_11_code
def yX9_advance : MethodName := ⟨RX9, "advance", "()V"⟩
def RX10 : String := "LastMark$Tray"
def TX10 : u_T := fun k => match k with
  | 0 => ("LastMark$Tray", "values", "[J", true)
  | 1 => ("LastMark$Tray", "sort", "I", false)
  | _ => ("LastMark$Tray", "size", "I", false)
def tyX10 : Nat → FieldType := fun k => match k with
  | 0 => .array .long
  | 1 => .int
  | _ => .int
abbrev wsX100 : List Cond := u_ws RX10 TX10 3
theorem nmX10 : ∀ a, a < 3 → ∀ b, b < 3 → a ≠ b → (TX10 a).2.1 ≠ (TX10 b).2.1 := by decide +kernel
theorem tyX10_ok : ∀ k, k < 3 → parseFieldDescriptor (TX10 k).2.2.1 = some (tyX10 k) := by decide +kernel
abbrev cX10_init : ByteArray := prog_12_method_1_code
def yX10_init : MethodName := ⟨RX10, "<init>", "()V"⟩
abbrev cX10_isMissing : ByteArray := prog_12_method_2_code
def yX10_isMissing : MethodName := ⟨RX10, "isMissing", "()Z"⟩
abbrev cX10_lay : ByteArray := prog_12_method_3_code
def yX10_lay : MethodName := ⟨RX10, "lay", "(II)V"⟩
abbrev cX10_at : ByteArray := prog_12_method_4_code
def yX10_at : MethodName := ⟨RX10, "at", "(I)J"⟩
abbrev cX10_put : ByteArray := prog_12_method_5_code
def yX10_put : MethodName := ⟨RX10, "put", "(IJ)J"⟩
abbrev cX10_cut : ByteArray := prog_12_method_6_code
def yX10_cut : MethodName := ⟨RX10, "cut", "(J)J"⟩
abbrev cX10_isWithin : ByteArray := prog_12_method_7_code
def yX10_isWithin : MethodName := ⟨RX10, "isWithin", "(I)Z"⟩
def RX11 : String := "LastMark"
def TX11 : u_T := fun k => match k with
  | 0 => ("LastMark", "tape", "[B", true)
  | 1 => ("LastMark", "taped", "I", false)
  | 2 => ("LastMark", "paper", "LLastMark$Sheet;", false)
  | 3 => ("LastMark", "page", "LLastMark$Page;", true)
  | 4 => ("LastMark", "before", "LLastMark$Page;", true)
  | 5 => ("LastMark", "trial", "LLastMark$Page;", true)
  | 6 => ("LastMark", "history", "LLastMark$History;", true)
  | 7 => ("LastMark", "reader", "LLastMark$Reader;", true)
  | 8 => ("LastMark", "paths", "LLastMark$Paths;", true)
  | 9 => ("LastMark", "chances", "LLastMark$Chances;", true)
  | 10 => ("LastMark", "seen", "LLastMark$Seen;", true)
  | 11 => ("LastMark", "trays", "[LLastMark$Tray;", true)
  | 12 => ("LastMark", "imagePapers", "[LLastMark$Sheet;", true)
  | _ => ("LastMark", "imagePages", "[LLastMark$Page;", true)
def tyX11 : Nat → FieldType := fun k => match k with
  | 0 => .array .byte
  | 1 => .int
  | 2 => .object "LastMark$Sheet"
  | 3 => .object "LastMark$Page"
  | 4 => .object "LastMark$Page"
  | 5 => .object "LastMark$Page"
  | 6 => .object "LastMark$History"
  | 7 => .object "LastMark$Reader"
  | 8 => .object "LastMark$Paths"
  | 9 => .object "LastMark$Chances"
  | 10 => .object "LastMark$Seen"
  | 11 => .array (.object "LastMark$Tray")
  | 12 => .array (.object "LastMark$Sheet")
  | _ => .array (.object "LastMark$Page")
abbrev wsX110 : List Cond := u_ws RX11 TX11 14
theorem nmX11 : ∀ a, a < 14 → ∀ b, b < 14 → a ≠ b → (TX11 a).2.1 ≠ (TX11 b).2.1 := by decide +kernel
theorem tyX11_ok : ∀ k, k < 14 → parseFieldDescriptor (TX11 k).2.2.1 = some (tyX11 k) := by decide +kernel
abbrev cX11_init : ByteArray := prog_1_method_1_code
def yX11_init : MethodName := ⟨RX11, "<init>", "()V"⟩
abbrev cX11_feed : ByteArray := prog_1_method_2_code
def yX11_feed : MethodName := ⟨RX11, "feed", "(IIIII)I"⟩
abbrev cX11_tapeFour : ByteArray := prog_1_method_3_code
def yX11_tapeFour : MethodName := ⟨RX11, "tapeFour", "(I)V"⟩
abbrev cX11_sheet : ByteArray := prog_1_method_4_code
def yX11_sheet : MethodName := ⟨RX11, "sheet", "(I)I"⟩
abbrev cX11_fault : ByteArray := prog_1_method_5_code
def yX11_fault : MethodName := ⟨RX11, "fault", "(I)I"⟩
abbrev cX11_cell : ByteArray := prog_1_method_6_code
def yX11_cell : MethodName := ⟨RX11, "cell", "(II)I"⟩
abbrev cX11_handsFor : ByteArray := prog_1_method_7_code
def yX11_handsFor : MethodName := ⟨RX11, "handsFor", "(I)I"⟩
abbrev cX11_hand : ByteArray := prog_1_method_8_code
def yX11_hand : MethodName := ⟨RX11, "hand", "(II)I"⟩
abbrev cX11_cellsFor : ByteArray := prog_1_method_9_code
def yX11_cellsFor : MethodName := ⟨RX11, "cellsFor", "(I)I"⟩
abbrev cX11_stroke : ByteArray := prog_1_method_10_code
def yX11_stroke : MethodName := ⟨RX11, "stroke", "(II)I"⟩
abbrev cX11_rub : ByteArray := prog_1_method_11_code
def yX11_rub : MethodName := ⟨RX11, "rub", "(I)I"⟩
abbrev cX11_keptLeft : ByteArray := prog_1_method_12_code
def yX11_keptLeft : MethodName := ⟨RX11, "keptLeft", "()I"⟩
abbrev cX11_habit : ByteArray := prog_1_method_13_code
def yX11_habit : MethodName := ⟨RX11, "habit", "(II)I"⟩
abbrev cX11_hide : ByteArray := prog_1_method_14_code
def yX11_hide : MethodName := ⟨RX11, "hide", "(I)I"⟩
abbrev cX11_undo : ByteArray := prog_1_method_15_code
def yX11_undo : MethodName := ⟨RX11, "undo", "(I)I"⟩
abbrev cX11_judge : ByteArray := prog_1_method_16_code
def yX11_judge : MethodName := ⟨RX11, "judge", "(II)I"⟩
abbrev cX11_perform : ByteArray := prog_1_method_17_code
def yX11_perform : MethodName := ⟨RX11, "perform", "(I)I"⟩
abbrev cX11_keptIfAny : ByteArray := prog_1_method_18_code
def yX11_keptIfAny : MethodName := ⟨RX11, "keptIfAny", "(I)I"⟩
abbrev cX11_night : ByteArray := prog_1_method_19_code
def yX11_night : MethodName := ⟨RX11, "night", "(II)I"⟩
abbrev cX11_shaken : ByteArray := prog_1_method_20_code
def yX11_shaken : MethodName := ⟨RX11, "shaken", "(I)I"⟩
abbrev cX11_nightDeed : ByteArray := prog_1_method_21_code
def yX11_nightDeed : MethodName := ⟨RX11, "nightDeed", "(III)I"⟩
abbrev cX11_longest : ByteArray := prog_1_method_22_code
def yX11_longest : MethodName := ⟨RX11, "longest", "(II)I"⟩
abbrev cX11_refusedCell : ByteArray := prog_1_method_23_code
def yX11_refusedCell : MethodName := ⟨RX11, "refusedCell", "(II)I"⟩
abbrev cX11_longWay : ByteArray := prog_1_method_24_code
def yX11_longWay : MethodName := ⟨RX11, "longWay", "(III)I"⟩
abbrev cX11_stuck : ByteArray := prog_1_method_25_code
def yX11_stuck : MethodName := ⟨RX11, "stuck", "(I)I"⟩
abbrev cX11_stuckWay : ByteArray := prog_1_method_26_code
def yX11_stuckWay : MethodName := ⟨RX11, "stuckWay", "(II)I"⟩
abbrev cX11_soonest : ByteArray := prog_1_method_27_code
def yX11_soonest : MethodName := ⟨RX11, "soonest", "(II)I"⟩
abbrev cX11_way : ByteArray := prog_1_method_28_code
def yX11_way : MethodName := ⟨RX11, "way", "(III)I"⟩
abbrev cX11_reach : ByteArray := prog_1_method_29_code
def yX11_reach : MethodName := ⟨RX11, "reach", "(I)I"⟩
abbrev cX11_ahead : ByteArray := prog_1_method_30_code
def yX11_ahead : MethodName := ⟨RX11, "ahead", "(II)I"⟩
abbrev cX11_rows : ByteArray := prog_1_method_31_code
def yX11_rows : MethodName := ⟨RX11, "rows", "(II)J"⟩
abbrev cX11_ends : ByteArray := prog_1_method_32_code
def yX11_ends : MethodName := ⟨RX11, "ends", "(I)J"⟩
abbrev cX11_likely : ByteArray := prog_1_method_33_code
def yX11_likely : MethodName := ⟨RX11, "likely", "(II)I"⟩
abbrev cX11_inLowestTerms : ByteArray := prog_1_method_34_code
def yX11_inLowestTerms : MethodName := ⟨RX11, "inLowestTerms", "(JJI)J"⟩
abbrev cX11_safest : ByteArray := prog_1_method_35_code
def yX11_safest : MethodName := ⟨RX11, "safest", "(III)I"⟩
abbrev cX11_isPart : ByteArray := prog_1_method_36_code
def yX11_isPart : MethodName := ⟨RX11, "isPart", "(II)Z"⟩
abbrev cX11_likeliest : ByteArray := prog_1_method_37_code
def yX11_likeliest : MethodName := ⟨RX11, "likeliest", "()I"⟩
abbrev cX11_wins : ByteArray := prog_1_method_38_code
def yX11_wins : MethodName := ⟨RX11, "wins", "(III)I"⟩
abbrev cX11_isNoGame : ByteArray := prog_1_method_39_code
def yX11_isNoGame : MethodName := ⟨RX11, "isNoGame", "(III)Z"⟩
abbrev cX11_best : ByteArray := prog_1_method_40_code
def yX11_best : MethodName := ⟨RX11, "best", "(III)I"⟩
abbrev cX11_lasts : ByteArray := prog_1_method_41_code
def yX11_lasts : MethodName := ⟨RX11, "lasts", "(III)I"⟩
abbrev cX11_habits : ByteArray := prog_1_method_42_code
def yX11_habits : MethodName := ⟨RX11, "habits", "(II)I"⟩
abbrev cX11_look : ByteArray := prog_1_method_43_code
def yX11_look : MethodName := ⟨RX11, "look", "(II)I"⟩
abbrev cX11_carried : ByteArray := prog_1_method_44_code
def yX11_carried : MethodName := ⟨RX11, "carried", "(I)J"⟩
abbrev cX11_changes : ByteArray := prog_1_method_45_code
def yX11_changes : MethodName := ⟨RX11, "changes", "(II)I"⟩
abbrev cX11_covers : ByteArray := prog_1_method_46_code
def yX11_covers : MethodName := ⟨RX11, "covers", "(III)I"⟩
abbrev cX11_chance : ByteArray := prog_1_method_47_code
def yX11_chance : MethodName := ⟨RX11, "chance", "(IIII)J"⟩
abbrev cX11_latest : ByteArray := prog_1_method_48_code
def yX11_latest : MethodName := ⟨RX11, "latest", "(II)I"⟩
abbrev cX11_isTray : ByteArray := prog_1_method_49_code
def yX11_isTray : MethodName := ⟨RX11, "isTray", "(I)Z"⟩
abbrev cX11_numbers : ByteArray := prog_1_method_50_code
def yX11_numbers : MethodName := ⟨RX11, "numbers", "(III)I"⟩
abbrev cX11_write : ByteArray := prog_1_method_51_code
def yX11_write : MethodName := ⟨RX11, "write", "(IIJ)J"⟩
abbrev cX11_lists : ByteArray := prog_1_method_52_code
def yX11_lists : MethodName := ⟨RX11, "lists", "(II)I"⟩
abbrev cX11_image : ByteArray := prog_1_method_53_code
def yX11_image : MethodName := ⟨RX11, "image", "(I)I"⟩
abbrev cX11_restore : ByteArray := prog_1_method_54_code
def yX11_restore : MethodName := ⟨RX11, "restore", "(I)I"⟩
abbrev cX11_count : ByteArray := prog_1_method_55_code
def yX11_count : MethodName := ⟨RX11, "count", "(I)I"⟩
def RX12 : String := "LastMarkModel"
def TX12 : u_T := fun k => match k with
  | 0 => ("LastMarkModel", "thrown", "I", false)
  | 1 => ("LastMarkModel", "all", "[I", true)
  | 2 => ("LastMarkModel", "hasImage", "[Z", true)
  | 3 => ("LastMarkModel", "tape", "[I", true)
  | 4 => ("LastMarkModel", "fresh", "[I", true)
  | 5 => ("LastMarkModel", "taped", "I", false)
  | 6 => ("LastMarkModel", "at", "I", false)
  | 7 => ("LastMarkModel", "behind", "I", false)
  | 8 => ("LastMarkModel", "size", "I", false)
  | 9 => ("LastMarkModel", "kind", "I", false)
  | 10 => ("LastMarkModel", "number", "I", false)
  | 11 => ("LastMarkModel", "wrong", "I", false)
  | 12 => ("LastMarkModel", "wrongAt", "I", false)
  | 13 => ("LastMarkModel", "faultKind", "I", false)
  | 14 => ("LastMarkModel", "faultPlace", "I", false)
  | 15 => ("LastMarkModel", "reading", "I", false)
  | 16 => ("LastMarkModel", "reckoned", "[I", true)
  | 17 => ("LastMarkModel", "words", "[I", true)
  | 18 => ("LastMarkModel", "was", "[I", true)
  | 19 => ("LastMarkModel", "toldWhy", "I", false)
  | 20 => ("LastMarkModel", "x", "I", false)
  | 21 => ("LastMarkModel", "mays", "[I", true)
  | 22 => ("LastMarkModel", "otherMays", "[I", true)
  | 23 => ("LastMarkModel", "still", "[I", true)
  | 24 => ("LastMarkModel", "row", "[I", true)
  | 25 => ("LastMarkModel", "many", "[J", true)
  | 26 => ("LastMarkModel", "odds", "[I", true)
  | 27 => ("LastMarkModel", "few", "[I", true)
  | 28 => ("LastMarkModel", "rowSort", "[I", true)
  | 29 => ("LastMarkModel", "rowMany", "[I", true)
  | _ => ("LastMarkModel", "numbers", "[J", true)
def tyX12 : Nat → FieldType := fun k => match k with
  | 0 => .int
  | 1 => .array .int
  | 2 => .array .boolean
  | 3 => .array .int
  | 4 => .array .int
  | 5 => .int
  | 6 => .int
  | 7 => .int
  | 8 => .int
  | 9 => .int
  | 10 => .int
  | 11 => .int
  | 12 => .int
  | 13 => .int
  | 14 => .int
  | 15 => .int
  | 16 => .array .int
  | 17 => .array .int
  | 18 => .array .int
  | 19 => .int
  | 20 => .int
  | 21 => .array .int
  | 22 => .array .int
  | 23 => .array .int
  | 24 => .array .int
  | 25 => .array .long
  | 26 => .array .int
  | 27 => .array .int
  | 28 => .array .int
  | 29 => .array .int
  | _ => .array .long
abbrev wsX120 : List Cond := u_ws RX12 TX12 31
theorem nmX12 : ∀ a, a < 31 → ∀ b, b < 31 → a ≠ b → (TX12 a).2.1 ≠ (TX12 b).2.1 := by decide +kernel
theorem tyX12_ok : ∀ k, k < 31 → parseFieldDescriptor (TX12 k).2.2.1 = some (tyX12 k) := by decide +kernel
abbrev cX12_within : ByteArray := prog_14_method_2_code
def yX12_within : MethodName := ⟨RX12, "within", "(JJJ)Z"⟩
abbrev cX12_init : ByteArray := prog_14_method_3_code
def yX12_init : MethodName := ⟨RX12, "<init>", "()V"⟩
abbrev cX12_plain : ByteArray := prog_14_method_4_code
def yX12_plain : MethodName := ⟨RX12, "plain", "([I)V"⟩
abbrev cX12_feed : ByteArray := prog_14_method_5_code
def yX12_feed : MethodName := ⟨RX12, "feed", "(IIIII)I"⟩
abbrev cX12_see : ByteArray := prog_14_method_6_code
def yX12_see : MethodName := ⟨RX12, "see", "(I)I"⟩
abbrev cX12_isSmall : ByteArray := prog_14_method_7_code
def yX12_isSmall : MethodName := ⟨RX12, "isSmall", "(I)Z"⟩
abbrev cX12_isDigit : ByteArray := prog_14_method_8_code
def yX12_isDigit : MethodName := ⟨RX12, "isDigit", "(I)Z"⟩
abbrev cX12_keyAt : ByteArray := prog_14_method_9_code
def yX12_keyAt : MethodName := ⟨RX12, "keyAt", "()I"⟩
abbrev cX12_next : ByteArray := prog_14_method_10_code
def yX12_next : MethodName := ⟨RX12, "next", "()V"⟩
abbrev cX12_fails : ByteArray := prog_14_method_11_code
def yX12_fails : MethodName := ⟨RX12, "fails", "(I)V"⟩
abbrev cX12_is : ByteArray := prog_14_method_12_code
def yX12_is : MethodName := ⟨RX12, "is", "(I)Z"⟩
abbrev cX12_eats : ByteArray := prog_14_method_13_code
def yX12_eats : MethodName := ⟨RX12, "eats", "(I)Z"⟩
abbrev cX12_takes : ByteArray := prog_14_method_14_code
def yX12_takes : MethodName := ⟨RX12, "takes", "(II)I"⟩
abbrev cX12_isIn : ByteArray := prog_14_method_15_code
def yX12_isIn : MethodName := ⟨RX12, "isIn", "(JI)Z"⟩
abbrev cX12_wordOf : ByteArray := prog_14_method_16_code
def yX12_wordOf : MethodName := ⟨RX12, "wordOf", "(I)I"⟩
abbrev cX12_codes : ByteArray := prog_14_method_17_code
def yX12_codes : MethodName := ⟨RX12, "codes", "(I)V"⟩
abbrev cX12_goesIn : ByteArray := prog_14_method_18_code
def yX12_goesIn : MethodName := ⟨RX12, "goesIn", "(I)Z"⟩
abbrev cX12_readAtom : ByteArray := prog_14_method_19_code
def yX12_readAtom : MethodName := ⟨RX12, "readAtom", "(I)V"⟩
abbrev cX12_readTerm : ByteArray := prog_14_method_20_code
def yX12_readTerm : MethodName := ⟨RX12, "readTerm", "(I)V"⟩
abbrev cX12_readSum : ByteArray := prog_14_method_21_code
def yX12_readSum : MethodName := ⟨RX12, "readSum", "(I)V"⟩
abbrev cX12_readUnit : ByteArray := prog_14_method_22_code
def yX12_readUnit : MethodName := ⟨RX12, "readUnit", "(I)V"⟩
abbrev cX12_readBoth : ByteArray := prog_14_method_23_code
def yX12_readBoth : MethodName := ⟨RX12, "readBoth", "(I)V"⟩
abbrev cX12_readTruth : ByteArray := prog_14_method_24_code
def yX12_readTruth : MethodName := ⟨RX12, "readTruth", "(I)V"⟩
abbrev cX12_readRow : ByteArray := prog_14_method_25_code
def yX12_readRow : MethodName := ⟨RX12, "readRow", "()V"⟩
abbrev cX12_readHand : ByteArray := prog_14_method_26_code
def yX12_readHand : MethodName := ⟨RX12, "readHand", "()V"⟩
abbrev cX12_readDrawn : ByteArray := prog_14_method_27_code
def yX12_readDrawn : MethodName := ⟨RX12, "readDrawn", "(Z)V"⟩
abbrev cX12_readLaw : ByteArray := prog_14_method_28_code
def yX12_readLaw : MethodName := ⟨RX12, "readLaw", "(I)V"⟩
abbrev cX12_readLine : ByteArray := prog_14_method_29_code
def yX12_readLine : MethodName := ⟨RX12, "readLine", "()V"⟩
abbrev cX12_ends1 : ByteArray := prog_14_method_30_code
def yX12_ends1 : MethodName := ⟨RX12, "ends1", "()V"⟩
abbrev cX12_sheet : ByteArray := prog_14_method_31_code
def yX12_sheet : MethodName := ⟨RX12, "sheet", "(I)I"⟩
abbrev cX12_fault : ByteArray := prog_14_method_32_code
def yX12_fault : MethodName := ⟨RX12, "fault", "(I)I"⟩
abbrev cX12_cells : ByteArray := prog_14_method_33_code
def yX12_cells : MethodName := ⟨RX12, "cells", "()I"⟩
abbrev cX12_isCell : ByteArray := prog_14_method_34_code
def yX12_isCell : MethodName := ⟨RX12, "isCell", "(J)Z"⟩
abbrev cX12_isHand : ByteArray := prog_14_method_35_code
def yX12_isHand : MethodName := ⟨RX12, "isHand", "(J)Z"⟩
abbrev cX12_bitsOf : ByteArray := prog_14_method_36_code
def yX12_bitsOf : MethodName := ⟨RX12, "bitsOf", "(I)I"⟩
abbrev cX12_everyCell : ByteArray := prog_14_method_37_code
def yX12_everyCell : MethodName := ⟨RX12, "everyCell", "()I"⟩
abbrev cX12_apart : ByteArray := prog_14_method_38_code
def yX12_apart : MethodName := ⟨RX12, "apart", "(II)I"⟩
abbrev cX12_farOf : ByteArray := prog_14_method_39_code
def yX12_farOf : MethodName := ⟨RX12, "farOf", "(II)I"⟩
abbrev cX12_nearOf : ByteArray := prog_14_method_40_code
def yX12_nearOf : MethodName := ⟨RX12, "nearOf", "(II)I"⟩
abbrev cX12_between : ByteArray := prog_14_method_41_code
def yX12_between : MethodName := ⟨RX12, "between", "(III)I"⟩
abbrev cX12_reckons : ByteArray := prog_14_method_42_code
def yX12_reckons : MethodName := ⟨RX12, "reckons", "(III)I"⟩
abbrev cX12_mayDraw : ByteArray := prog_14_method_43_code
def yX12_mayDraw : MethodName := ⟨RX12, "mayDraw", "(IIII)Z"⟩
abbrev cX12_oddsOf : ByteArray := prog_14_method_44_code
def yX12_oddsOf : MethodName := ⟨RX12, "oddsOf", "(I)I"⟩
abbrev cX12_oddsAll : ByteArray := prog_14_method_45_code
def yX12_oddsAll : MethodName := ⟨RX12, "oddsAll", "()I"⟩
abbrev cX12_isFound : ByteArray := prog_14_method_46_code
def yX12_isFound : MethodName := ⟨RX12, "isFound", "()Z"⟩
abbrev cX12_mayNow : ByteArray := prog_14_method_47_code
def yX12_mayNow : MethodName := ⟨RX12, "mayNow", "(II)Z"⟩
abbrev cX12_handsOf : ByteArray := prog_14_method_48_code
def yX12_handsOf : MethodName := ⟨RX12, "handsOf", "(I)I"⟩
abbrev cX12_cellsOf : ByteArray := prog_14_method_49_code
def yX12_cellsOf : MethodName := ⟨RX12, "cellsOf", "(I)I"⟩
abbrev cX12_cell : ByteArray := prog_14_method_50_code
def yX12_cell : MethodName := ⟨RX12, "cell", "(II)I"⟩
abbrev cX12_hand : ByteArray := prog_14_method_51_code
def yX12_hand : MethodName := ⟨RX12, "hand", "(II)I"⟩
abbrev cX12_keeps : ByteArray := prog_14_method_52_code
def yX12_keeps : MethodName := ⟨RX12, "keeps", "()V"⟩
abbrev cX12_isAgain : ByteArray := prog_14_method_53_code
def yX12_isAgain : MethodName := ⟨RX12, "isAgain", "()V"⟩
abbrev cX12_notes : ByteArray := prog_14_method_54_code
def yX12_notes : MethodName := ⟨RX12, "notes", "()V"⟩
abbrev cX12_whyStroke : ByteArray := prog_14_method_55_code
def yX12_whyStroke : MethodName := ⟨RX12, "whyStroke", "(JJ)I"⟩
abbrev cX12_whyRub : ByteArray := prog_14_method_56_code
def yX12_whyRub : MethodName := ⟨RX12, "whyRub", "(J)I"⟩
abbrev cX12_whyHide : ByteArray := prog_14_method_57_code
def yX12_whyHide : MethodName := ⟨RX12, "whyHide", "(J)I"⟩
abbrev cX12_draws : ByteArray := prog_14_method_58_code
def yX12_draws : MethodName := ⟨RX12, "draws", "(I)V"⟩
abbrev cX12_rubs : ByteArray := prog_14_method_59_code
def yX12_rubs : MethodName := ⟨RX12, "rubs", "(I)V"⟩
abbrev cX12_leftNow : ByteArray := prog_14_method_60_code
def yX12_leftNow : MethodName := ⟨RX12, "leftNow", "()I"⟩
abbrev cX12_stroke : ByteArray := prog_14_method_61_code
def yX12_stroke : MethodName := ⟨RX12, "stroke", "(II)I"⟩
abbrev cX12_rub : ByteArray := prog_14_method_62_code
def yX12_rub : MethodName := ⟨RX12, "rub", "(I)I"⟩
abbrev cX12_habit : ByteArray := prog_14_method_63_code
def yX12_habit : MethodName := ⟨RX12, "habit", "(II)I"⟩
abbrev cX12_hide : ByteArray := prog_14_method_64_code
def yX12_hide : MethodName := ⟨RX12, "hide", "(I)I"⟩
abbrev cX12_undo : ByteArray := prog_14_method_65_code
def yX12_undo : MethodName := ⟨RX12, "undo", "(I)I"⟩
abbrev cX12_whyNot : ByteArray := prog_14_method_66_code
def yX12_whyNot : MethodName := ⟨RX12, "whyNot", "(J)I"⟩
abbrev cX12_does : ByteArray := prog_14_method_67_code
def yX12_does : MethodName := ⟨RX12, "does", "(I)V"⟩
abbrev cX12_tells : ByteArray := prog_14_method_68_code
def yX12_tells : MethodName := ⟨RX12, "tells", "(I)I"⟩
abbrev cX12_noTray : ByteArray := prog_14_method_69_code
def yX12_noTray : MethodName := ⟨RX12, "noTray", "(I)I"⟩
abbrev cX12_judge : ByteArray := prog_14_method_70_code
def yX12_judge : MethodName := ⟨RX12, "judge", "(II)I"⟩
abbrev cX12_perform : ByteArray := prog_14_method_71_code
def yX12_perform : MethodName := ⟨RX12, "perform", "(I)I"⟩
abbrev cX12_draw : ByteArray := prog_14_method_72_code
def yX12_draw : MethodName := ⟨RX12, "draw", "(I)I"⟩
abbrev cX12_drawnDeed : ByteArray := prog_14_method_73_code
def yX12_drawnDeed : MethodName := ⟨RX12, "drawnDeed", "()I"⟩
abbrev cX12_night : ByteArray := prog_14_method_74_code
def yX12_night : MethodName := ⟨RX12, "night", "(II)I"⟩
abbrev cX12_standOf : ByteArray := prog_14_method_75_code
def yX12_standOf : MethodName := ⟨RX12, "standOf", "(II)I"⟩
abbrev cX12_standNow : ByteArray := prog_14_method_76_code
def yX12_standNow : MethodName := ⟨RX12, "standNow", "()I"⟩
abbrev cX12_canBe : ByteArray := prog_14_method_77_code
def yX12_canBe : MethodName := ⟨RX12, "canBe", "(II)Z"⟩
abbrev cX12_laysMays : ByteArray := prog_14_method_78_code
def yX12_laysMays : MethodName := ⟨RX12, "laysMays", "(I[I)V"⟩
abbrev cX12_behindStroke : ByteArray := prog_14_method_79_code
def yX12_behindStroke : MethodName := ⟨RX12, "behindStroke", "(II)I"⟩
abbrev cX12_stillBy : ByteArray := prog_14_method_80_code
def yX12_stillBy : MethodName := ⟨RX12, "stillBy", "(IIII)I"⟩
abbrev cX12_stillAt : ByteArray := prog_14_method_81_code
def yX12_stillAt : MethodName := ⟨RX12, "stillAt", "(III)I"⟩
abbrev cX12_laysStill : ByteArray := prog_14_method_82_code
def yX12_laysStill : MethodName := ⟨RX12, "laysStill", "(II)I"⟩
abbrev cX12_laysRow : ByteArray := prog_14_method_83_code
def yX12_laysRow : MethodName := ⟨RX12, "laysRow", "(III)I"⟩
abbrev cX12_noGoal : ByteArray := prog_14_method_84_code
def yX12_noGoal : MethodName := ⟨RX12, "noGoal", "(II)I"⟩
abbrev cX12_longest : ByteArray := prog_14_method_85_code
def yX12_longest : MethodName := ⟨RX12, "longest", "(II)I"⟩
abbrev cX12_rowAt : ByteArray := prog_14_method_86_code
def yX12_rowAt : MethodName := ⟨RX12, "rowAt", "(IIII)I"⟩
abbrev cX12_longWay : ByteArray := prog_14_method_87_code
def yX12_longWay : MethodName := ⟨RX12, "longWay", "(III)I"⟩
abbrev cX12_stuck : ByteArray := prog_14_method_88_code
def yX12_stuck : MethodName := ⟨RX12, "stuck", "(I)I"⟩
abbrev cX12_stuckWay : ByteArray := prog_14_method_89_code
def yX12_stuckWay : MethodName := ⟨RX12, "stuckWay", "(II)I"⟩
abbrev cX12_soonest : ByteArray := prog_14_method_90_code
def yX12_soonest : MethodName := ⟨RX12, "soonest", "(II)I"⟩
abbrev cX12_way : ByteArray := prog_14_method_91_code
def yX12_way : MethodName := ⟨RX12, "way", "(III)I"⟩
abbrev cX12_laysMany : ByteArray := prog_14_method_92_code
def yX12_laysMany : MethodName := ⟨RX12, "laysMany", "(I)V"⟩
abbrev cX12_reachBut : ByteArray := prog_14_method_93_code
def yX12_reachBut : MethodName := ⟨RX12, "reachBut", "(I)I"⟩
abbrev cX12_reach : ByteArray := prog_14_method_94_code
def yX12_reach : MethodName := ⟨RX12, "reach", "(I)I"⟩
abbrev cX12_ahead : ByteArray := prog_14_method_95_code
def yX12_ahead : MethodName := ⟨RX12, "ahead", "(II)I"⟩
abbrev cX12_rows : ByteArray := prog_14_method_96_code
def yX12_rows : MethodName := ⟨RX12, "rows", "(II)J"⟩
abbrev cX12_ends : ByteArray := prog_14_method_97_code
def yX12_ends : MethodName := ⟨RX12, "ends", "(I)J"⟩
abbrev cX12_common : ByteArray := prog_14_method_98_code
def yX12_common : MethodName := ⟨RX12, "common", "(II)I"⟩
abbrev cX12_part : ByteArray := prog_14_method_99_code
def yX12_part : MethodName := ⟨RX12, "part", "(III)I"⟩
abbrev cX12_likely : ByteArray := prog_14_method_100_code
def yX12_likely : MethodName := ⟨RX12, "likely", "(II)I"⟩
abbrev cX12_laysSafest : ByteArray := prog_14_method_101_code
def yX12_laysSafest : MethodName := ⟨RX12, "laysSafest", "(I)I"⟩
abbrev cX12_safeBy : ByteArray := prog_14_method_102_code
def yX12_safeBy : MethodName := ⟨RX12, "safeBy", "(II)I"⟩
abbrev cX12_safest : ByteArray := prog_14_method_103_code
def yX12_safest : MethodName := ⟨RX12, "safest", "(III)I"⟩
abbrev cX12_likeliest : ByteArray := prog_14_method_104_code
def yX12_likeliest : MethodName := ⟨RX12, "likeliest", "()I"⟩
abbrev cX12_gameBy : ByteArray := prog_14_method_105_code
def yX12_gameBy : MethodName := ⟨RX12, "gameBy", "(II)I"⟩
abbrev cX12_gameAt : ByteArray := prog_14_method_106_code
def yX12_gameAt : MethodName := ⟨RX12, "gameAt", "(III)I"⟩
abbrev cX12_mayAt : ByteArray := prog_14_method_107_code
def yX12_mayAt : MethodName := ⟨RX12, "mayAt", "(I)I"⟩
abbrev cX12_laysGame : ByteArray := prog_14_method_108_code
def yX12_laysGame : MethodName := ⟨RX12, "laysGame", "(III)I"⟩
abbrev cX12_isGame : ByteArray := prog_14_method_109_code
def yX12_isGame : MethodName := ⟨RX12, "isGame", "(III)Z"⟩
abbrev cX12_wins : ByteArray := prog_14_method_110_code
def yX12_wins : MethodName := ⟨RX12, "wins", "(III)I"⟩
abbrev cX12_best : ByteArray := prog_14_method_111_code
def yX12_best : MethodName := ⟨RX12, "best", "(III)I"⟩
abbrev cX12_lasts : ByteArray := prog_14_method_112_code
def yX12_lasts : MethodName := ⟨RX12, "lasts", "(III)I"⟩
abbrev cX12_noSeen : ByteArray := prog_14_method_113_code
def yX12_noSeen : MethodName := ⟨RX12, "noSeen", "(I)I"⟩
abbrev cX12_noSeenBy : ByteArray := prog_14_method_114_code
def yX12_noSeenBy : MethodName := ⟨RX12, "noSeenBy", "(II)I"⟩
abbrev cX12_mayAs : ByteArray := prog_14_method_115_code
def yX12_mayAs : MethodName := ⟨RX12, "mayAs", "(III)Z"⟩
abbrev cX12_habitsOf : ByteArray := prog_14_method_116_code
def yX12_habitsOf : MethodName := ⟨RX12, "habitsOf", "(II)I"⟩
abbrev cX12_habits : ByteArray := prog_14_method_117_code
def yX12_habits : MethodName := ⟨RX12, "habits", "(II)I"⟩
abbrev cX12_mayBy : ByteArray := prog_14_method_118_code
def yX12_mayBy : MethodName := ⟨RX12, "mayBy", "(III)I"⟩
abbrev cX12_look : ByteArray := prog_14_method_119_code
def yX12_look : MethodName := ⟨RX12, "look", "(II)I"⟩
abbrev cX12_handsAs : ByteArray := prog_14_method_120_code
def yX12_handsAs : MethodName := ⟨RX12, "handsAs", "(II)I"⟩
abbrev cX12_carried : ByteArray := prog_14_method_121_code
def yX12_carried : MethodName := ⟨RX12, "carried", "(I)J"⟩
abbrev cX12_fewBy : ByteArray := prog_14_method_122_code
def yX12_fewBy : MethodName := ⟨RX12, "fewBy", "(III)I"⟩
abbrev cX12_laysFew : ByteArray := prog_14_method_123_code
def yX12_laysFew : MethodName := ⟨RX12, "laysFew", "(I)V"⟩
abbrev cX12_changes : ByteArray := prog_14_method_124_code
def yX12_changes : MethodName := ⟨RX12, "changes", "(II)I"⟩
abbrev cX12_covers : ByteArray := prog_14_method_125_code
def yX12_covers : MethodName := ⟨RX12, "covers", "(III)I"⟩
abbrev cX12_wholeOf : ByteArray := prog_14_method_126_code
def yX12_wholeOf : MethodName := ⟨RX12, "wholeOf", "(I)J"⟩
abbrev cX12_chanceOf : ByteArray := prog_14_method_127_code
def yX12_chanceOf : MethodName := ⟨RX12, "chanceOf", "(IIIII)J"⟩
abbrev cX12_commonOf : ByteArray := prog_14_method_128_code
def yX12_commonOf : MethodName := ⟨RX12, "commonOf", "(JJ)J"⟩
abbrev cX12_chance : ByteArray := prog_14_method_129_code
def yX12_chance : MethodName := ⟨RX12, "chance", "(IIII)J"⟩
abbrev cX12_latest : ByteArray := prog_14_method_130_code
def yX12_latest : MethodName := ⟨RX12, "latest", "(II)I"⟩
abbrev cX12_cut : ByteArray := prog_14_method_131_code
def yX12_cut : MethodName := ⟨RX12, "cut", "(JI)J"⟩
abbrev cX12_numbers : ByteArray := prog_14_method_132_code
def yX12_numbers : MethodName := ⟨RX12, "numbers", "(III)I"⟩
abbrev cX12_write : ByteArray := prog_14_method_133_code
def yX12_write : MethodName := ⟨RX12, "write", "(IIJ)J"⟩
abbrev cX12_lists : ByteArray := prog_14_method_134_code
def yX12_lists : MethodName := ⟨RX12, "lists", "(II)I"⟩
abbrev cX12_image : ByteArray := prog_14_method_135_code
def yX12_image : MethodName := ⟨RX12, "image", "(I)I"⟩
abbrev cX12_restore : ByteArray := prog_14_method_136_code
def yX12_restore : MethodName := ⟨RX12, "restore", "(I)I"⟩
abbrev cX12_count : ByteArray := prog_14_method_137_code
def yX12_count : MethodName := ⟨RX12, "count", "(I)I"⟩
def RJx145de : String := "java/io/Serializable"
def TJx145de : u_T := fun k => match k with
  | _ => ("", "", "", false)
def tyJx145de : Nat → FieldType := fun k => match k with
  | _ => .int
abbrev wsJx145de0 : List Cond := u_ws RJx145de TJx145de 0
def RJx9f9b0 : String := "java/lang/CharSequence"
def TJx9f9b0 : u_T := fun k => match k with
  | _ => ("", "", "", false)
def tyJx9f9b0 : Nat → FieldType := fun k => match k with
  | _ => .int
abbrev wsJx9f9b00 : List Cond := u_ws RJx9f9b0 TJx9f9b0 0
def RJ11 : String := "java/lang/Character"
def TJ11 : u_T := fun k => match k with
  | _ => ("", "", "", false)
def tyJ11 : Nat → FieldType := fun k => match k with
  | _ => .int
abbrev wsJ110 : List Cond := u_ws RJ11 TJ11 0
theorem nmJ11 : ∀ a, a < 0 → ∀ b, b < 0 → a ≠ b → (TJ11 a).2.1 ≠ (TJ11 b).2.1 := by decide +kernel
theorem tyJ11_ok : ∀ k, k < 0 → parseFieldDescriptor (TJ11 k).2.2.1 = some (tyJ11 k) := by decide +kernel
abbrev cJ11_isValidCodePoint_9a6ad : ByteArray := prog_15_method_11_code
def yJ11_isValidCodePoint_9a6ad : MethodName := ⟨RJ11, "isValidCodePoint", "(I)Z"⟩
abbrev cJ11_highSurrogate_5068e : ByteArray := prog_15_method_28_code
def yJ11_highSurrogate_5068e : MethodName := ⟨RJ11, "highSurrogate", "(I)C"⟩
abbrev cJ11_lowSurrogate_5068e : ByteArray := prog_15_method_29_code
def yJ11_lowSurrogate_5068e : MethodName := ⟨RJ11, "lowSurrogate", "(I)C"⟩
def RJx8e188 : String := "java/lang/Cloneable"
def TJx8e188 : u_T := fun k => match k with
  | _ => ("", "", "", false)
def tyJx8e188 : Nat → FieldType := fun k => match k with
  | _ => .int
abbrev wsJx8e1880 : List Cond := u_ws RJx8e188 TJx8e188 0
def RJxb160c : String := "java/lang/Comparable"
def TJxb160c : u_T := fun k => match k with
  | _ => ("", "", "", false)
def tyJxb160c : Nat → FieldType := fun k => match k with
  | _ => .int
abbrev wsJxb160c0 : List Cond := u_ws RJxb160c TJxb160c 0
def RJ6 : String := "java/lang/Integer"
def TJ6 : u_T := fun k => match k with
  | _ => ("", "", "", false)
def tyJ6 : Nat → FieldType := fun k => match k with
  | _ => .int
abbrev wsJ60 : List Cond := u_ws RJ6 TJ6 0
theorem nmJ6 : ∀ a, a < 0 → ∀ b, b < 0 → a ≠ b → (TJ6 a).2.1 ≠ (TJ6 b).2.1 := by decide +kernel
theorem tyJ6_ok : ∀ k, k < 0 → parseFieldDescriptor (TJ6 k).2.2.1 = some (tyJ6 k) := by decide +kernel
abbrev cJ6_bitCount_0f7a4 : ByteArray := prog_17_method_49_code
def yJ6_bitCount_0f7a4 : MethodName := ⟨RJ6, "bitCount", "(I)I"⟩
def RJ9 : String := "java/lang/Math"
def TJ9 : u_T := fun k => match k with
  | _ => ("", "", "", false)
def tyJ9 : Nat → FieldType := fun k => match k with
  | _ => .int
abbrev wsJ90 : List Cond := u_ws RJ9 TJ9 0
theorem nmJ9 : ∀ a, a < 0 → ∀ b, b < 0 → a ≠ b → (TJ9 a).2.1 ≠ (TJ9 b).2.1 := by decide +kernel
theorem tyJ9_ok : ∀ k, k < 0 → parseFieldDescriptor (TJ9 k).2.2.1 = some (tyJ9 k) := by decide +kernel
abbrev cJ9_floorMod_7cf53 : ByteArray := prog_18_method_50_code
def yJ9_floorMod_7cf53 : MethodName := ⟨RJ9, "floorMod", "(II)I"⟩
abbrev cJ9_abs_0f7a4 : ByteArray := prog_18_method_59_code
def yJ9_abs_0f7a4 : MethodName := ⟨RJ9, "abs", "(I)I"⟩
abbrev cJ9_max_7cf53 : ByteArray := prog_18_method_65_code
def yJ9_max_7cf53 : MethodName := ⟨RJ9, "max", "(II)I"⟩
abbrev cJ9_max_f86c9 : ByteArray := prog_18_method_66_code
def yJ9_max_f86c9 : MethodName := ⟨RJ9, "max", "(JJ)J"⟩
abbrev cJ9_min_7cf53 : ByteArray := prog_18_method_69_code
def yJ9_min_7cf53 : MethodName := ⟨RJ9, "min", "(II)I"⟩
abbrev cJ9_min_f86c9 : ByteArray := prog_18_method_70_code
def yJ9_min_f86c9 : MethodName := ⟨RJ9, "min", "(JJ)J"⟩
def RJ0 : String := "java/lang/String"
def TJ0 : u_T := fun k => match k with
  | _ => ("", "", "", false)
def tyJ0 : Nat → FieldType := fun k => match k with
  | _ => .int
abbrev wsJ00 : List Cond := u_ws RJ0 TJ0 0
theorem nmJ0 : ∀ a, a < 0 → ∀ b, b < 0 → a ≠ b → (TJ0 a).2.1 ≠ (TJ0 b).2.1 := by decide +kernel
theorem tyJ0_ok : ∀ k, k < 0 → parseFieldDescriptor (TJ0 k).2.2.1 = some (tyJ0 k) := by decide +kernel
abbrev cJ0_length_8abf5 : ByteArray := prog_19_method_54_code
def yJ0_length_8abf5 : MethodName := ⟨RJ0, "length", "()I"⟩
abbrev cJ0_charAt_5068e : ByteArray := prog_19_method_56_code
def yJ0_charAt_5068e : MethodName := ⟨RJ0, "charAt", "(I)C"⟩
abbrev cJ0_indexOf_0f7a4 : ByteArray := prog_19_method_79_code
def yJ0_indexOf_0f7a4 : MethodName := ⟨RJ0, "indexOf", "(I)I"⟩
abbrev cJ0_indexOf_7cf53 : ByteArray := prog_19_method_80_code
def yJ0_indexOf_7cf53 : MethodName := ⟨RJ0, "indexOf", "(II)I"⟩
abbrev cJ0_coder_7d493 : ByteArray := prog_19_method_152_code
def yJ0_coder_7d493 : MethodName := ⟨RJ0, "coder", "()B"⟩
abbrev cJ0_isLatin1_aae02 : ByteArray := prog_19_method_154_code
def yJ0_isLatin1_aae02 : MethodName := ⟨RJ0, "isLatin1", "()Z"⟩
abbrev cJ0_checkIndex_df160 : ByteArray := prog_19_method_155_code
def yJ0_checkIndex_df160 : MethodName := ⟨RJ0, "checkIndex", "(II)V"⟩
abbrev cJ0_checkBoundsBeginEnd_23922 : ByteArray := prog_19_method_158_code
def yJ0_checkBoundsBeginEnd_23922 : MethodName := ⟨RJ0, "checkBoundsBeginEnd", "(III)V"⟩
def RJ1 : String := "java/lang/StringLatin1"
def TJ1 : u_T := fun k => match k with
  | _ => ("", "", "", false)
def tyJ1 : Nat → FieldType := fun k => match k with
  | _ => .int
abbrev wsJ10 : List Cond := u_ws RJ1 TJ1 0
theorem nmJ1 : ∀ a, a < 0 → ∀ b, b < 0 → a ≠ b → (TJ1 a).2.1 ≠ (TJ1 b).2.1 := by decide +kernel
theorem tyJ1_ok : ∀ k, k < 0 → parseFieldDescriptor (TJ1 k).2.2.1 = some (tyJ1 k) := by decide +kernel
abbrev cJ1_charAt_3b067 : ByteArray := prog_20_method_2_code
def yJ1_charAt_3b067 : MethodName := ⟨RJ1, "charAt", "([BI)C"⟩
abbrev cJ1_canEncode_9a6ad : ByteArray := prog_20_method_4_code
def yJ1_canEncode_9a6ad : MethodName := ⟨RJ1, "canEncode", "(I)Z"⟩
abbrev cJ1_indexOf_4cfef : ByteArray := prog_20_method_22_code
def yJ1_indexOf_4cfef : MethodName := ⟨RJ1, "indexOf", "([BIII)I"⟩
abbrev cJ1_indexOfChar_4cfef : ByteArray := prog_20_method_23_code
def yJ1_indexOfChar_4cfef : MethodName := ⟨RJ1, "indexOfChar", "([BIII)I"⟩
def RJ2 : String := "java/lang/StringUTF16"
def TJ2 : u_T := fun k => match k with
  | _ => ("", "", "", false)
def tyJ2 : Nat → FieldType := fun k => match k with
  | _ => .int
abbrev wsJ20 : List Cond := u_ws RJ2 TJ2 0
theorem nmJ2 : ∀ a, a < 0 → ∀ b, b < 0 → a ≠ b → (TJ2 a).2.1 ≠ (TJ2 b).2.1 := by decide +kernel
theorem tyJ2_ok : ∀ k, k < 0 → parseFieldDescriptor (TJ2 k).2.2.1 = some (tyJ2 k) := by decide +kernel
abbrev cJ2_getChar_3b067 : ByteArray := prog_21_method_5_code
def yJ2_getChar_3b067 : MethodName := ⟨RJ2, "getChar", "([BI)C"⟩
abbrev cJ2_length_9d52b : ByteArray := prog_21_method_6_code
def yJ2_length_9d52b : MethodName := ⟨RJ2, "length", "([B)I"⟩
abbrev cJ2_indexOf_4cfef : ByteArray := prog_21_method_40_code
def yJ2_indexOf_4cfef : MethodName := ⟨RJ2, "indexOf", "([BIII)I"⟩
abbrev cJ2_indexOfChar_4cfef : ByteArray := prog_21_method_47_code
def yJ2_indexOfChar_4cfef : MethodName := ⟨RJ2, "indexOfChar", "([BIII)I"⟩
abbrev cJ2_indexOfCharUnsafe_4cfef : ByteArray := prog_21_method_48_code
def yJ2_indexOfCharUnsafe_4cfef : MethodName := ⟨RJ2, "indexOfCharUnsafe", "([BIII)I"⟩
abbrev cJ2_indexOfSupplementary_4cfef : ByteArray := prog_21_method_49_code
def yJ2_indexOfSupplementary_4cfef : MethodName := ⟨RJ2, "indexOfSupplementary", "([BIII)I"⟩
abbrev cJ2_charAt_3b067 : ByteArray := prog_21_method_83_code
def yJ2_charAt_3b067 : MethodName := ⟨RJ2, "charAt", "([BI)C"⟩
abbrev cJ2_checkIndex_2214a : ByteArray := prog_21_method_91_code
def yJ2_checkIndex_2214a : MethodName := ⟨RJ2, "checkIndex", "(I[B)V"⟩
abbrev cJ2_checkBoundsBeginEnd_d044e : ByteArray := prog_21_method_93_code
def yJ2_checkBoundsBeginEnd_d044e : MethodName := ⟨RJ2, "checkBoundsBeginEnd", "(II[B)V"⟩
def RJ10 : String := "java/lang/System"
def TJ10 : u_T := fun k => match k with
  | _ => ("", "", "", false)
def tyJ10 : Nat → FieldType := fun k => match k with
  | _ => .int
abbrev wsJ100 : List Cond := u_ws RJ10 TJ10 0
theorem nmJ10 : ∀ a, a < 0 → ∀ b, b < 0 → a ≠ b → (TJ10 a).2.1 ≠ (TJ10 b).2.1 := by decide +kernel
theorem tyJ10_ok : ∀ k, k < 0 → parseFieldDescriptor (TJ10 k).2.2.1 = some (tyJ10 k) := by decide +kernel
def RJxfd54e : String := "java/lang/constant/Constable"
def TJxfd54e : u_T := fun k => match k with
  | _ => ("", "", "", false)
def tyJxfd54e : Nat → FieldType := fun k => match k with
  | _ => .int
abbrev wsJxfd54e0 : List Cond := u_ws RJxfd54e TJxfd54e 0
def RJx3cf43 : String := "java/lang/constant/ConstantDesc"
def TJx3cf43 : u_T := fun k => match k with
  | _ => ("", "", "", false)
def tyJx3cf43 : Nat → FieldType := fun k => match k with
  | _ => .int
abbrev wsJx3cf430 : List Cond := u_ws RJx3cf43 TJx3cf43 0
def RJ7 : String := "java/util/Arrays"
def TJ7 : u_T := fun k => match k with
  | _ => ("", "", "", false)
def tyJ7 : Nat → FieldType := fun k => match k with
  | _ => .int
abbrev wsJ70 : List Cond := u_ws RJ7 TJ7 0
theorem nmJ7 : ∀ a, a < 0 → ∀ b, b < 0 → a ≠ b → (TJ7 a).2.1 ≠ (TJ7 b).2.1 := by decide +kernel
theorem tyJ7_ok : ∀ k, k < 0 → parseFieldDescriptor (TJ7 k).2.2.1 = some (tyJ7 k) := by decide +kernel
abbrev cJ7_fill_d0a16 : ByteArray := prog_23_method_101_code
def yJ7_fill_d0a16 : MethodName := ⟨RJ7, "fill", "([JJ)V"⟩
abbrev cJ7_fill_53178 : ByteArray := prog_23_method_103_code
def yJ7_fill_53178 : MethodName := ⟨RJ7, "fill", "([II)V"⟩
abbrev cJ7_copyOf_59c91 : ByteArray := prog_23_method_123_code
def yJ7_copyOf_59c91 : MethodName := ⟨RJ7, "copyOf", "([II)[I"⟩
def RJ3 : String := "jdk/internal/util/Preconditions"
def TJ3 : u_T := fun k => match k with
  | _ => ("", "", "", false)
def tyJ3 : Nat → FieldType := fun k => match k with
  | _ => .int
abbrev wsJ30 : List Cond := u_ws RJ3 TJ3 0
theorem nmJ3 : ∀ a, a < 0 → ∀ b, b < 0 → a ≠ b → (TJ3 a).2.1 ≠ (TJ3 b).2.1 := by decide +kernel
theorem tyJ3_ok : ∀ k, k < 0 → parseFieldDescriptor (TJ3 k).2.2.1 = some (tyJ3 k) := by decide +kernel
abbrev cJ3_checkIndex_8e157 : ByteArray := prog_24_method_11_code
def yJ3_checkIndex_8e157 : MethodName := ⟨RJ3, "checkIndex", "(IILjava/util/function/BiFunction;)I"⟩
abbrev cJ3_checkFromToIndex_8c36e : ByteArray := prog_24_method_12_code
def yJ3_checkFromToIndex_8c36e : MethodName := ⟨RJ3, "checkFromToIndex", "(IIILjava/util/function/BiFunction;)I"⟩
def RL : String := "LastMarkLaw"
abbrev cL_law : ByteArray := code
def yL_law : MethodName := ⟨RL, "law", "([I)Z"⟩
abbrev vwCl : List vw_C := [(RX0, TX0, 7), (RX1, TX1, 3), (RX2, TX2, 3), (RX3, TX3, 5), (RX4, TX4, 20), (RX5, TX5, 5), (RX6, TX6, 14), (RX7, TX7, 4), (RX8, TX8, 14), (RX9, TX9, 6), (RX10, TX10, 3), (RX11, TX11, 14), (RX12, TX12, 31)]
end
section
/-! THE SMALL MACHINE: a heap of numbered cells (0 is null, the own cells are 1, 2, ..; cells from 1000000 on lie outside and are only read), its steps as a function of the instruction. A reference is '.ref x' with such a number x; null is '.ref 0'. -/
abbrev AH : Type := (Nat → Nat) × (Nat → Nat) × (Nat → Nat → Int32) × (Nat → Nat → Int64) × (Nat → Nat → Nat) × Nat × Nat
def kdA (h : AH) (a : Nat) : Nat := h.1 a
def lnA (h : AH) (a : Nat) : Nat := h.2.1 a
def ivA (h : AH) (a k : Nat) : Int32 := h.2.2.1 a k
def jvA (h : AH) (a k : Nat) : Int64 := h.2.2.2.1 a k
def rvA (h : AH) (a k : Nat) : Nat := h.2.2.2.2.1 a k
def szA (h : AH) : Nat := h.2.2.2.2.2.1
def usA (h : AH) : Nat := h.2.2.2.2.2.2
def up1 {α : Type} (f : Nat → α) (a : Nat) (x : α) : Nat → α := fun b => if b = a then x else f b
def up2 {α : Type} (f : Nat → Nat → α) (a k : Nat) (x : α) : Nat → Nat → α := fun b j => if b = a ∧ j = k then x else f b j
def stI (h : AH) (a k : Nat) (x : Int32) : AH := (h.1, h.2.1, up2 h.2.2.1 a k x, h.2.2.2.1, h.2.2.2.2.1, h.2.2.2.2.2.1, h.2.2.2.2.2.2)
def stJ (h : AH) (a k : Nat) (x : Int64) : AH := (h.1, h.2.1, h.2.2.1, up2 h.2.2.2.1 a k x, h.2.2.2.2.1, h.2.2.2.2.2.1, h.2.2.2.2.2.2)
def stR (h : AH) (a k : Nat) (x : Nat) : AH := (h.1, h.2.1, h.2.2.1, h.2.2.2.1, up2 h.2.2.2.2.1 a k x, h.2.2.2.2.2.1, h.2.2.2.2.2.2)
/-- a new cell of kind t with n places, all 0 -/
def nwA (h : AH) (t n : Nat) : AH := (up1 h.1 (szA h + 1) t, up1 h.2.1 (szA h + 1) n, up1 h.2.2.1 (szA h + 1) (fun _ => 0), up1 h.2.2.2.1 (szA h + 1) (fun _ => 0), up1 h.2.2.2.2.1 (szA h + 1) (fun _ => 0), szA h + 1, usA h + n)
/-- the first n places of a are copied into b -/
def cpA (h : AH) (a b n : Nat) : AH := (h.1, h.2.1, up1 h.2.2.1 b (fun j => if j < n then ivA h a j else ivA h b j), h.2.2.2.1, h.2.2.2.2.1, h.2.2.2.2.2.1, h.2.2.2.2.2.2)
abbrev kI (z : Int) : Int32 := Int32.ofInt z
abbrev kJ (z : Int) : Int64 := Int64.ofInt z
def inB (i : Int32) (n : Nat) : Bool := !decide (i < 0) && decide (i.toNatClampNeg < n)
abbrev ix (i : Int32) : Nat := i.toNatClampNeg
/-- own cell -/
def oK (h : AH) (a t : Nat) : Bool := decide (kdA h a = t) && decide (1 ≤ a) && decide (a ≤ szA h)
abbrev unV : Value := .retAddr 0
def setL (L : List Value) (i : Nat) (v : Value) : List Value := match i with
  | 0 => L.set 0 v
  | j + 1 => match L[j]? with
    | some (.long _) => (L.set j unV).set (j + 1) v
    | _ => L.set (j + 1) v
def setL2 (L : List Value) (i : Nat) (v : Value) : List Value := (setL L i v).set (i + 1) unV
/-- what a step does: goes on, branches, switches, calls, returns; ahead of it what must hold -/
abbrev MN : Type := Nat × List Value × List Value × AH
abbrev MAct : Type := MN ⊕ ((Bool × Nat × MN) ⊕ ((Int32 × List (Int × Nat) × MN) ⊕ ((Nat × List Value × MN) ⊕ (Option Value × AH))))
abbrev MR : Type := Option (List Bool × MAct)
def nxt (pc : Nat) (L S : List Value) (h : AH) : MR := some ([], .inl (pc, L, S, h))
def nxtG (g : Bool) (pc : Nat) (L S : List Value) (h : AH) : MR := some ([g], .inl (pc, L, S, h))
def brn (b : Bool) (t : Int) (pc : Nat) (L S : List Value) (h : AH) : MR := match t with
  | .ofNat t => some ([], .inr (.inl (b, t, pc, L, S, h)))
  | .negSucc _ => none
def brnG (g : List Bool) (b : Bool) (t : Int) (pc : Nat) (L S : List Value) (h : AH) : MR := match t with
  | .ofNat t => some (g, .inr (.inl (b, t, pc, L, S, h)))
  | .negSucc _ => none
def jmp (t : Int) (L S : List Value) (h : AH) : MR := match t with
  | .ofNat t => some ([], .inl (t, L, S, h))
  | .negSucc _ => none
def cI1 (c : ClassFile.Cond) (x : Int32) : Bool := match c with
  | .eq => decide (x = 0)
  | .ne => !decide (x = 0)
  | .lt => decide (x < 0)
  | .ge => decide (0 ≤ x)
  | .gt => decide (0 < x)
  | .le => decide (x ≤ 0)
def cI2 (c : ClassFile.Cond) (x y : Int32) : Bool := match c with
  | .eq => decide (x = y)
  | .ne => !decide (x = y)
  | .lt => decide (x < y)
  | .ge => decide (y ≤ x)
  | .gt => decide (y < x)
  | .le => decide (x ≤ y)
def cat1 (v : Value) : Bool := v.category == 1
def catS (S : List Value) : Bool := decide ((S.map fun v => v.category).sum ≤ 8)
/-- tables of the program: own class and pool index to what it means -/
abbrev PT : Type := Nat → Nat → Option (Nat × Nat)
def swP (pc : Nat) (lo : Int) : List Int → Option (List (Int × Nat))
  | [] => some []
  | o :: os => match (pc : Int) + o, swP pc (lo + 1) os with
    | .ofNat t, some r => some ((lo, t) :: r)
    | _, _ => none
def swQ (pc : Nat) : List (Int × Int) → Option (List (Int × Nat))
  | [] => some []
  | (k, o) :: os => match (pc : Int) + o, swQ pc os with
    | .ofNat t, some r => some ((k, t) :: r)
    | _, _ => none
def swT (x : Int32) : List (Int × Nat) → Nat → Nat
  | [], d => d
  | (k, t) :: r, d => if decide (x = kI k) = true then t else swT x r d
def swM (x : Int32) (ps : Option (List (Int × Nat))) (d : Int) (L S : List Value) (h : AH) : MR := match ps, d with
  | some r, .ofNat t => some ([], .inr (.inr (.inl (x, r, t, L, S, h))))
  | _, _ => none
end
section
/-! tables of the program: methods by number, pools, field kinds (written by gen04.py) -/
def lkp {α : Type} : List (Nat × α) → Nat → Option α
  | [], _ => none
  | (k, v) :: r, i => match Nat.beq k i with
    | true => some v
    | false => lkp r i
def nth {α : Type} : List α → Nat → α → α
  | [], _, d => d
  | a :: _, 0, _ => a
  | _ :: r, n + 1, d => nth r n d
def fTt : List (List (Nat × Nat)) := [[(9, 1), (15, 2), (19, 3), (22, 4), (25, 5), (29, 6), (33, 0), (37, 195), (58, 192), (61, 193), (86, 514)], [(11, 64), (15, 65), (19, 66)], [(9, 129), (28, 128), (31, 130)], [(9, 192), (15, 193), (18, 194), (21, 195), (24, 196)], [(9, 258), (15, 259), (18, 260), (21, 261), (24, 262), (27, 263), (30, 264), (34, 265), (37, 266), (41, 267), (44, 268), (47, 269), (50, 270), (53, 271), (56, 272), (59, 273), (62, 274), (68, 275), (72, 257), (76, 256), (80, 195), (83, 192), (86, 520), (92, 514), (95, 193), (118, 515)], [(9, 322), (15, 323), (19, 324), (22, 321), (26, 320), (35, 519), (41, 520)], [(12, 384), (18, 385), (22, 386), (25, 387), (29, 388), (33, 389), (36, 390), (39, 391), (42, 392), (45, 393), (49, 394), (52, 395), (55, 396), (61, 397), (75, 580), (113, 581), (139, 193), (146, 192)], [(12, 448), (18, 449), (22, 450), (25, 451), (34, 642), (38, 192), (45, 514), (58, 193), (93, 516)], [(11, 525), (23, 512), (27, 513), (33, 514), (36, 515), (39, 516), (42, 517), (51, 521), (54, 523), (58, 524), (61, 130), (64, 518), (68, 519), (71, 520), (74, 522)], [(9, 576), (15, 577), (18, 578), (22, 579), (25, 580), (28, 581)], [(11, 640), (15, 641), (19, 642)], [(9, 704), (13, 705), (22, 706), (29, 707), (33, 708), (36, 709), (42, 710), (49, 711), (63, 712), (72, 713), (79, 714), (85, 715), (90, 716), (94, 717), (106, 395), (109, 397), (119, 517), (122, 396), (136, 192), (149, 193), (155, 516), (171, 514), (197, 194), (200, 66), (214, 642), (266, 274), (270, 275), (318, 515), (334, 5), (337, 6), (355, 512), (358, 513)], [(1, 768), (13, 769), (17, 770), (21, 771), (24, 772), (27, 782), (30, 784), (33, 785), (36, 786), (40, 789), (43, 790), (46, 791), (49, 792), (52, 793), (56, 794), (59, 795), (62, 796), (65, 797), (68, 798), (75, 773), (78, 776), (93, 774), (96, 775), (103, 777), (116, 778), (121, 779), (124, 780), (145, 783), (201, 781), (308, 787), (329, 788)], [(9, 832), (15, 833)], [], [], [], [], [], []]
def mTt : List (List (Nat × Nat)) := [[(3, 9999), (40, 321), (48, 14), (52, 49), (64, 2), (68, 99), (74, 92), (77, 50), (81, 309)], [(1, 9999), (22, 10), (23, 11), (27, 9994), (33, 9990), (36, 9992)], [(3, 9999), (13, 9994), (19, 9992), (22, 323), (35, 9), (43, 9995), (46, 9993)], [(3, 9999), (28, 12), (32, 88), (37, 89), (40, 13), (44, 14), (48, 98), (52, 15), (56, 17), (60, 20), (70, 16), (73, 18), (77, 19), (80, 21), (83, 322)], [(3, 9999), (98, 94), (102, 14), (106, 49), (112, 26), (115, 29), (121, 27), (125, 322), (131, 28), (134, 99), (138, 92), (141, 50), (145, 309), (150, 31), (154, 32), (157, 37), (160, 33), (163, 34), (166, 35), (169, 36), (172, 9992), (178, 9994), (182, 38), (185, 39), (189, 44), (193, 321), (196, 46), (199, 47)], [(3, 9999), (29, 321), (46, 51), (50, 97)], [(3, 9999), (11, 100), (60, 10), (65, 54), (68, 101), (72, 58), (78, 63), (82, 64), (88, 7), (91, 68), (94, 59), (97, 56), (102, 87), (105, 322), (110, 23), (114, 110), (117, 55), (120, 57), (124, 9992), (129, 60), (132, 61), (135, 62), (142, 20), (149, 65), (152, 71), (155, 66), (159, 67), (162, 69), (165, 70)], [(3, 9999), (11, 10), (28, 112), (41, 114), (50, 75), (54, 11), (61, 98), (65, 17), (69, 74), (73, 12), (77, 77), (81, 309), (87, 9994), (96, 14), (99, 78), (106, 81), (109, 83), (112, 82), (116, 86)], [(3, 9999), (17, 9992), (30, 9994), (45, 323), (77, 309), (83, 9991), (86, 89), (90, 91), (93, 92), (96, 96), (100, 8), (104, 94), (107, 90), (110, 93), (113, 97)], [(3, 9999), (31, 9994), (37, 9992), (40, 103), (44, 106), (47, 102), (51, 104), (55, 105), (58, 107), (61, 109), (66, 312), (72, 108), (78, 311)], [(3, 9999), (22, 321), (28, 9994), (34, 9992), (37, 116)], [(1, 9999), (19, 87), (28, 10), (41, 3), (48, 52), (55, 48), (60, 24), (69, 0), (78, 72), (89, 111), (98, 120), (102, 53), (112, 11), (116, 6), (125, 89), (129, 90), (133, 12), (139, 91), (143, 94), (146, 124), (152, 93), (158, 15), (162, 88), (165, 14), (168, 126), (174, 16), (177, 129), (181, 18), (185, 4), (188, 92), (191, 19), (194, 21), (203, 5), (207, 166), (210, 112), (217, 114), (221, 22), (225, 13), (228, 135), (231, 137), (234, 138), (239, 140), (242, 25), (246, 30), (249, 40), (253, 42), (256, 43), (263, 45), (274, 95), (277, 151), (281, 153), (285, 156), (289, 41), (292, 9991), (297, 73), (301, 74), (305, 76), (308, 79), (312, 80), (315, 84), (321, 117), (324, 85), (328, 309), (333, 1), (340, 113), (348, 115), (352, 9994)], [(7, 9999), (71, 175), (83, 310), (89, 311), (99, 177), (106, 178), (110, 180), (113, 179), (127, 183), (130, 181), (133, 182), (137, 173), (148, 188), (151, 187), (154, 189), (157, 192), (160, 184), (163, 190), (166, 191), (169, 193), (172, 195), (175, 194), (178, 185), (182, 196), (185, 197), (188, 198), (192, 199), (195, 201), (198, 200), (204, 204), (207, 209), (210, 186), (214, 210), (221, 211), (224, 207), (227, 212), (231, 213), (234, 215), (237, 217), (241, 214), (245, 218), (249, 205), (253, 219), (256, 206), (259, 220), (262, 226), (266, 223), (269, 229), (272, 225), (275, 231), (278, 227), (282, 230), (287, 228), (311, 237), (314, 238), (319, 240), (322, 239), (325, 224), (332, 243), (337, 244), (340, 246), (343, 208), (346, 248), (349, 250), (352, 251), (356, 252), (359, 247), (362, 249), (366, 253), (369, 255), (372, 254), (375, 257), (378, 263), (381, 264), (390, 269), (393, 216), (396, 270), (400, 273), (405, 272), (408, 276), (411, 278), (414, 277), (417, 280), (421, 279), (424, 284), (427, 286), (430, 285), (433, 287), (436, 289), (439, 291), (442, 293), (445, 294), (450, 297), (454, 298), (458, 299), (466, 302)], [(335, 314), (492, 315), (495, 317), (505, 310), (633, 313), (637, 319), (1059, 324), (1062, 325)], [(9, 118), (12, 174), (13, 119), (17, 176), (18, 121), (22, 202), (23, 122), (26, 203), (27, 123), (31, 221), (32, 125), (35, 222), (36, 127), (39, 232), (40, 128), (43, 233), (44, 130), (47, 234), (48, 131), (51, 235), (52, 132), (55, 236), (56, 133), (59, 241), (60, 134), (63, 242), (64, 136), (67, 245), (68, 139), (71, 256), (72, 141), (76, 258), (77, 142), (80, 259), (81, 143), (84, 260), (85, 144), (88, 261), (89, 145), (92, 262), (93, 146), (96, 265), (97, 147), (100, 266), (101, 148), (105, 267), (106, 149), (110, 268), (111, 150), (114, 271), (115, 152), (118, 274), (119, 154), (123, 275), (124, 155), (127, 281), (128, 157), (131, 282), (132, 158), (135, 283), (136, 159), (139, 288), (140, 160), (143, 290), (144, 161), (147, 292), (148, 162), (151, 295), (152, 163), (155, 296), (156, 164), (160, 300), (161, 165), (164, 301), (165, 167), (168, 303), (171, 168), (175, 304), (176, 169), (179, 305), (180, 170), (183, 306), (184, 171), (187, 307), (188, 172), (191, 308)], [(9, 316), (38, 9994), (88, 318), (92, 9992), (95, 320)], [], [], [(150, 9997), (304, 9994), (316, 9998)], []]
def cTt : List (List (Nat × Nat)) := [[], [(9, 3)], [], [], [], [], [(9, 9), (58, 3), (86, 2), (100, 8)], [(9, 3)], [], [], [], [(17, 8), (26, 3), (39, 1), (46, 6), (53, 5), (58, 4), (67, 0), (76, 7), (83, 10)], [], [], [(7, 11), (10, 12)], [], [], [], [(317, 20)], []]
def kTt : List (List (Nat × Int)) := [[], [], [], [], [(177, (1048576 : Int)), (181, (-1048576 : Int))], [], [], [(105, (1048576 : Int))], [], [], [], [(238, (1103515245 : Int)), (252, (1048576 : Int))], [(39, (53248 : Int)), (328, (1103515245 : Int)), (399, (268435456 : Int))], [], [], [], [], [(265, (1431655765 : Int)), (266, (858993459 : Int)), (267, (252645135 : Int))], [], []]
def jTt : List (List (Nat × Int)) := [[(46, (27720 : Int))], [], [(39, (-1000000 : Int)), (41, (1000000 : Int))], [(64, (800 : Int)), (66, (400 : Int)), (68, (500 : Int))], [(66, (-1 : Int))], [(44, (-1 : Int))], [], [], [], [], [], [(259, (-2 : Int)), (261, (-3 : Int)), (344, (-6 : Int)), (346, (-7 : Int))], [(141, (8 : Int)), (143, (11 : Int)), (217, (1000000 : Int)), (219, (-1000000 : Int)), (285, (9 : Int)), (290, (10 : Int)), (292, (399 : Int)), (294, (100 : Int)), (296, (500 : Int)), (298, (599 : Int)), (300, (600 : Int)), (302, (699 : Int)), (304, (700 : Int)), (306, (799 : Int)), (317, (3 : Int)), (335, (40 : Int)), (384, (-2 : Int)), (386, (12 : Int)), (388, (-3 : Int)), (403, (21 : Int)), (448, (27720 : Int)), (462, (4 : Int)), (464, (-7 : Int))], [], [(169, (4294967295 : Int))], [], [], [], [], []]
def sTt : List (List (Nat × Nat)) := [[], [], [], [], [], [], [], [], [], [(64, 1), (76, 2)], [], [], [(81, 0), (119, 1)], [], [], [], [], [], [], []]
def gTt : List (List (Nat × Nat)) := [[], [], [], [], [], [], [], [], [], [], [], [], [], [(38, 1), (1053, 0)], [], [], [], [], [], []]
def fT (own i : Nat) : Option Nat := lkp (nth fTt own []) i
def mT (own i : Nat) : Option Nat := lkp (nth mTt own []) i
def cT (own i : Nat) : Option Nat := lkp (nth cTt own []) i
def sT (own i : Nat) : Option Nat := lkp (nth sTt own []) i
def gT (own i : Nat) : Option Nat := lkp (nth gTt own []) i
def kT (own i : Nat) : Option Int := lkp (nth kTt own []) i
def jT (own i : Nat) : Option Int := lkp (nth jTt own []) i
/-- the kind of a field: 0 int, 1 long, 2 a reference, 3 boolean -/
def fKt : List (List Nat) := [[2, 2, 0, 0, 0, 2, 1], [2, 0, 0], [2, 2, 0], [0, 0, 0, 0, 2], [2, 2, 0, 0, 0, 0, 0, 0, 2, 2, 2, 2, 0, 0, 0, 2, 2, 0, 2, 1], [0, 2, 0, 2, 2], [2, 2, 2, 0, 3, 0, 0, 0, 0, 2, 2, 0, 0, 2], [2, 2, 2, 2], [0, 0, 0, 0, 0, 0, 3, 3, 3, 2, 2, 2, 2, 2], [2, 2, 0, 0, 0, 0], [2, 0, 0], [2, 0, 2, 2, 2, 2, 2, 2, 2, 2, 2, 2, 2, 2], [0, 2, 2, 2, 2, 0, 0, 0, 0, 0, 0, 0, 0, 0, 0, 0, 2, 2, 2, 0, 0, 2, 2, 2, 2, 2, 2, 2, 2, 2, 2], [2, 0]]
def fK (c k : Nat) : Nat := nth (nth fKt c []) k 9
def fN (c : Nat) : Nat := (nth fKt c []).length
def mRt : List Nat := [0, 0, 0, 0, 0, 0, 0, 0, 1, 1, 0, 0, 4, 4, 1, 1, 1, 0, 1, 1, 0, 1, 1, 0, 0, 0, 0, 0, 1, 1, 1, 4, 0, 1, 1, 1, 1, 0, 1, 4, 1, 1, 1, 1, 4, 0, 0, 0, 0, 0, 1, 0, 0, 3, 0, 0, 0, 1, 0, 0, 0, 0, 1, 0, 0, 0, 4, 1, 0, 0, 1, 0, 0, 1, 1, 4, 1, 1, 0, 2, 1, 1, 1, 0, 1, 1, 1, 0, 4, 4, 1, 1, 1, 1, 1, 1, 0, 4, 4, 2, 0, 0, 0, 1, 4, 4, 1, 1, 4, 1, 0, 0, 4, 0, 2, 2, 2, 4, 0, 1, 0, 1, 1, 1, 1, 1, 1, 1, 1, 1, 1, 1, 1, 1, 1, 1, 1, 1, 1, 1, 1, 1, 1, 1, 1, 1, 1, 1, 2, 2, 1, 2, 1, 4, 1, 1, 4, 1, 1, 1, 1, 2, 1, 1, 2, 1, 4, 1, 2, 1, 1, 1, 1, 4, 0, 0, 1, 1, 4, 4, 1, 0, 0, 4, 4, 1, 4, 1, 0, 4, 0, 0, 0, 0, 0, 0, 0, 0, 0, 0, 0, 0, 1, 1, 1, 4, 4, 1, 1, 1, 1, 1, 1, 1, 4, 1, 1, 4, 4, 1, 1, 1, 1, 0, 0, 0, 1, 1, 1, 0, 0, 1, 1, 1, 1, 1, 1, 1, 0, 1, 1, 1, 1, 1, 1, 1, 1, 1, 4, 0, 1, 1, 1, 1, 1, 1, 1, 1, 1, 1, 1, 1, 1, 0, 1, 1, 1, 2, 2, 1, 1, 1, 1, 1, 1, 1, 1, 1, 1, 1, 4, 1, 1, 1, 1, 1, 4, 1, 1, 1, 1, 1, 2, 1, 0, 1, 1, 2, 2, 2, 2, 1, 2, 1, 2, 1, 1, 1, 1, 1, 1, 5, 1, 1, 6, 4, 0, 5, 4, 1, 1, 0, 0, 3, 1, 1, 4]
def mKd : List Nat := [2, 1, 1, 2, 1, 1, 1, 2, 1, 0, 2, 1, 1, 1, 1, 1, 1, 1, 1, 1, 1, 1, 1, 1, 2, 1, 1, 1, 1, 1, 1, 1, 1, 1, 1, 1, 1, 1, 1, 1, 1, 1, 1, 1, 1, 1, 1, 1, 2, 1, 1, 1, 2, 1, 1, 1, 1, 1, 1, 1, 1, 1, 1, 1, 1, 1, 1, 1, 1, 1, 1, 1, 2, 1, 1, 1, 1, 0, 1, 1, 1, 1, 1, 1, 1, 1, 0, 2, 1, 1, 1, 1, 1, 1, 1, 1, 1, 1, 1, 1, 2, 1, 1, 0, 0, 0, 0, 0, 0, 0, 1, 2, 1, 1, 1, 1, 1, 1, 2, 1, 1, 1, 1, 1, 1, 1, 1, 1, 1, 1, 1, 1, 1, 1, 1, 1, 1, 0, 0, 1, 1, 1, 1, 1, 1, 1, 1, 1, 1, 1, 1, 0, 1, 0, 1, 1, 1, 1, 1, 1, 1, 1, 1, 1, 1, 1, 0, 1, 1, 1, 1, 1, 1, 0, 2, 0, 1, 1, 0, 0, 1, 1, 1, 1, 1, 1, 0, 1, 1, 1, 1, 1, 1, 1, 1, 1, 1, 1, 1, 1, 1, 1, 1, 1, 1, 1, 1, 0, 1, 0, 1, 1, 0, 1, 1, 1, 1, 1, 1, 1, 1, 1, 1, 1, 1, 1, 1, 1, 1, 1, 1, 1, 1, 1, 1, 1, 1, 1, 1, 1, 1, 1, 1, 1, 1, 1, 0, 1, 1, 1, 0, 1, 1, 1, 1, 1, 1, 1, 1, 1, 1, 1, 1, 1, 1, 1, 1, 1, 1, 0, 0, 1, 1, 1, 1, 1, 1, 1, 1, 1, 1, 1, 1, 1, 1, 1, 1, 1, 1, 1, 1, 1, 1, 1, 1, 1, 1, 0, 1, 0, 1, 1, 0, 1, 1, 1, 1, 1, 1, 0, 1, 1, 1, 1, 1, 1, 0, 0, 0, 0, 0, 0, 0, 0, 0, 0, 0]
def mOw : List Nat := [0, 0, 0, 1, 1, 1, 1, 2, 2, 2, 3, 3, 3, 3, 3, 3, 3, 3, 3, 3, 3, 3, 3, 3, 4, 4, 4, 4, 4, 4, 4, 4, 4, 4, 4, 4, 4, 4, 4, 4, 4, 4, 4, 4, 4, 4, 4, 4, 5, 5, 5, 5, 6, 6, 6, 6, 6, 6, 6, 6, 6, 6, 6, 6, 6, 6, 6, 6, 6, 6, 6, 6, 7, 7, 7, 7, 7, 7, 7, 7, 7, 7, 7, 7, 7, 7, 7, 8, 8, 8, 8, 8, 8, 8, 8, 8, 8, 8, 8, 8, 9, 9, 9, 9, 9, 9, 9, 9, 9, 9, 9, 10, 10, 10, 10, 10, 10, 10, 11, 11, 11, 11, 11, 11, 11, 11, 11, 11, 11, 11, 11, 11, 11, 11, 11, 11, 11, 11, 11, 11, 11, 11, 11, 11, 11, 11, 11, 11, 11, 11, 11, 11, 11, 11, 11, 11, 11, 11, 11, 11, 11, 11, 11, 11, 11, 11, 11, 11, 11, 11, 11, 11, 11, 12, 12, 12, 12, 12, 12, 12, 12, 12, 12, 12, 12, 12, 12, 12, 12, 12, 12, 12, 12, 12, 12, 12, 12, 12, 12, 12, 12, 12, 12, 12, 12, 12, 12, 12, 12, 12, 12, 12, 12, 12, 12, 12, 12, 12, 12, 12, 12, 12, 12, 12, 12, 12, 12, 12, 12, 12, 12, 12, 12, 12, 12, 12, 12, 12, 12, 12, 12, 12, 12, 12, 12, 12, 12, 12, 12, 12, 12, 12, 12, 12, 12, 12, 12, 12, 12, 12, 12, 12, 12, 12, 12, 12, 12, 12, 12, 12, 12, 12, 12, 12, 12, 12, 12, 12, 12, 12, 12, 12, 12, 12, 12, 12, 12, 12, 12, 12, 12, 12, 12, 12, 12, 12, 12, 12, 12, 12, 12, 12, 12, 12, 12, 12, 12, 12, 12, 17, 13, 13, 13, 13, 13, 13, 13, 15, 15, 15, 15, 18, 18, 18, 19, 19, 14]
def mNa : List Nat := [1, 4, 4, 0, 1, 2, 0, 2, 1, 3, 0, 1, 1, 0, 1, 3, 3, 1, 2, 3, 2, 2, 2, 0, 2, 4, 0, 1, 1, 1, 2, 1, 1, 2, 2, 2, 2, 0, 2, 3, 1, 0, 0, 1, 2, 0, 1, 3, 2, 2, 3, 4, 0, 2, 0, 1, 1, 2, 0, 0, 0, 0, 0, 1, 1, 1, 1, 0, 1, 1, 1, 1, 0, 3, 4, 5, 4, 5, 3, 3, 3, 2, 3, 1, 1, 2, 2, 7, 1, 1, 1, 2, 1, 2, 2, 1, 3, 6, 5, 1, 0, 2, 2, 3, 1, 1, 3, 3, 4, 3, 0, 0, 0, 2, 1, 2, 1, 1, 0, 5, 1, 1, 1, 2, 1, 2, 1, 2, 1, 0, 2, 1, 1, 2, 1, 1, 2, 1, 3, 2, 2, 3, 1, 2, 2, 3, 1, 2, 2, 1, 2, 3, 3, 2, 0, 3, 3, 3, 3, 2, 2, 1, 2, 3, 4, 2, 1, 3, 3, 2, 1, 1, 1, 3, 0, 1, 5, 1, 1, 1, 0, 0, 1, 1, 1, 2, 2, 1, 1, 1, 1, 1, 1, 1, 1, 1, 0, 0, 1, 1, 0, 0, 1, 1, 0, 1, 1, 1, 0, 2, 2, 2, 3, 3, 4, 1, 0, 0, 2, 1, 1, 2, 2, 0, 0, 0, 2, 1, 1, 1, 1, 0, 2, 1, 2, 1, 1, 1, 1, 1, 1, 2, 1, 1, 0, 2, 2, 0, 2, 2, 2, 4, 3, 2, 3, 2, 2, 4, 3, 1, 2, 2, 3, 1, 1, 1, 2, 2, 1, 2, 3, 2, 1, 2, 3, 0, 2, 3, 1, 3, 3, 3, 3, 3, 1, 2, 3, 2, 2, 3, 2, 2, 1, 3, 1, 2, 3, 1, 5, 2, 4, 2, 2, 3, 3, 2, 1, 1, 1, 1, 0, 1, 1, 2, 0, 0, 2, 2, 1, 4, 4, 2, 2, 2, 3, 4, 1]
def mMx : List Nat := [2, 6, 9, 2, 2, 3, 1, 5, 5, 5, 1, 3, 2, 1, 2, 4, 5, 2, 3, 4, 3, 3, 5, 1, 3, 6, 2, 10, 2, 2, 4, 2, 7, 3, 5, 5, 7, 5, 6, 4, 2, 4, 3, 5, 4, 2, 6, 5, 3, 3, 10, 7, 1, 4, 1, 2, 2, 4, 1, 1, 4, 2, 2, 2, 4, 3, 2, 2, 5, 3, 2, 2, 1, 8, 7, 8, 10, 7, 7, 7, 8, 5, 4, 6, 2, 6, 4, 10, 2, 2, 2, 3, 2, 3, 3, 4, 4, 7, 6, 5, 1, 7, 3, 6, 1, 1, 4, 4, 6, 5, 1, 1, 1, 3, 2, 4, 3, 3, 3, 6, 3, 3, 2, 3, 4, 3, 4, 4, 3, 1, 4, 3, 2, 7, 5, 2, 9, 1, 3, 4, 3, 5, 2, 3, 5, 5, 2, 4, 3, 2, 4, 12, 6, 2, 5, 4, 4, 4, 4, 4, 4, 3, 5, 6, 5, 5, 1, 4, 5, 5, 2, 3, 2, 6, 1, 2, 8, 2, 1, 1, 4, 2, 2, 2, 2, 4, 3, 2, 2, 2, 2, 2, 3, 3, 2, 2, 3, 2, 3, 3, 1, 1, 3, 2, 1, 3, 3, 3, 1, 2, 3, 5, 5, 7, 5, 3, 3, 1, 3, 4, 4, 3, 3, 2, 2, 2, 5, 3, 3, 2, 2, 1, 4, 3, 3, 3, 3, 3, 2, 3, 2, 7, 4, 2, 3, 6, 2, 1, 3, 7, 2, 6, 7, 5, 8, 3, 4, 6, 4, 2, 3, 4, 4, 6, 5, 2, 6, 6, 5, 2, 3, 3, 8, 4, 9, 4, 3, 8, 2, 7, 4, 4, 5, 5, 7, 3, 7, 8, 4, 7, 9, 5, 6, 4, 7, 7, 9, 4, 10, 4, 7, 9, 3, 5, 6, 6, 3, 3, 2, 1, 1, 2, 2, 3, 1, 1, 2, 2, 1, 4, 6, 5, 4, 3, 3, 4, 4]
def rtM (u : Nat) : Nat := nth mRt u 9
def kdM (u : Nat) : Nat := nth mKd u 9
def owM (u : Nat) : Nat := nth mOw u 99
def naM (u : Nat) : Nat := nth mNa u 0
def mxM (u : Nat) : Nat := nth mMx u 0
/-- the class of the elements of an array of references, by its kind -/
def akC (t : Nat) : Nat := match t with
  | 30 => 5
  | 31 => 10
  | 32 => 8
  | 33 => 3
  | _ => 98
/-- the kind of an array over a class -/
def aOf (c : Nat) : Nat := match c with
  | 5 => 30
  | 10 => 31
  | 8 => 32
  | 3 => 33
  | _ => 97
abbrev m_Ch_new : Nat := 0
abbrev m_Ch_begin : Nat := 1
abbrev m_Ch_spread : Nat := 2
abbrev m_Hi_new : Nat := 3
abbrev m_Hi_keep : Nat := 4
abbrev m_Hi_bringBack : Nat := 5
abbrev m_Hi_forget : Nat := 6
abbrev m_La_new : Nat := 7
abbrev m_La_value : Nat := 8
abbrev m_La_joined : Nat := 9
abbrev m_Pg_new : Nat := 10
abbrev m_Pg_copy : Nat := 11
abbrev m_Pg_isDrawn : Nat := 12
abbrev m_Pg_isFound : Nat := 13
abbrev m_Pg_habitOf : Nat := 14
abbrev m_Pg_whyNotDraw : Nat := 15
abbrev m_Pg_draw : Nat := 16
abbrev m_Pg_mark : Nat := 17
abbrev m_Pg_erase : Nat := 18
abbrev m_Pg_adopt : Nat := 19
abbrev m_Pg_setHabit : Nat := 20
abbrev m_Pg_conceal : Nat := 21
abbrev m_Pg_obey : Nat := 22
abbrev m_Pg_clear : Nat := 23
abbrev m_Pa_new : Nat := 24
abbrev m_Pa_begin : Nat := 25
abbrev m_Pa_makeRoom : Nat := 26
abbrev m_Pa_spread : Nat := 27
abbrev m_Pa_strokesTo : Nat := 28
abbrev m_Pa_rankOf : Nat := 29
abbrev m_Pa_solve : Nat := 30
abbrev m_Pa_isBeyond : Nat := 31
abbrev m_Pa_settle : Nat := 32
abbrev m_Pa_worth : Nat := 33
abbrev m_Pa_most : Nat := 34
abbrev m_Pa_least : Nat := 35
abbrev m_Pa_played : Nat := 36
abbrev m_Pa_trace : Nat := 37
abbrev m_Pa_nextStep : Nat := 38
abbrev m_Pa_leads : Nat := 39
abbrev m_Pa_step : Nat := 40
abbrev m_Pa_firstWinning : Nat := 41
abbrev m_Pa_reached : Nat := 42
abbrev m_Pa_needed : Nat := 43
abbrev m_Pa_opens : Nat := 44
abbrev m_Pa_tally : Nat := 45
abbrev m_Pa_tallyAt : Nat := 46
abbrev m_Pa_passOn : Nat := 47
abbrev m_Pe_new : Nat := 48
abbrev m_Pe_serve : Nat := 49
abbrev m_Pe_open : Nat := 50
abbrev m_Pe_learn : Nat := 51
abbrev m_Re_new : Nat := 52
abbrev m_Re_read : Nat := 53
abbrev m_Re_forget : Nat := 54
abbrev m_Re_refuse : Nat := 55
abbrev m_Re_expect : Nat := 56
abbrev m_Re_number : Nat := 57
abbrev m_Re_head : Nat := 58
abbrev m_Re_line : Nat := 59
abbrev m_Re_rowLine : Nat := 60
abbrev m_Re_handLine : Nat := 61
abbrev m_Re_drawnLine : Nat := 62
abbrev m_Re_beginLaw : Nat := 63
abbrev m_Re_truth : Nat := 64
abbrev m_Re_unit : Nat := 65
abbrev m_Re_mayNest : Nat := 66
abbrev m_Re_comparison : Nat := 67
abbrev m_Re_sum : Nat := 68
abbrev m_Re_atom : Nat := 69
abbrev m_Re_fact : Nat := 70
abbrev m_Re_emit : Nat := 71
abbrev m_Se_new : Nat := 72
abbrev m_Se_refusal : Nat := 73
abbrev m_Se_fitting : Nat := 74
abbrev m_Se_fits : Nat := 75
abbrev m_Se_telling : Nat := 76
abbrev m_Se_lesserPart : Nat := 77
abbrev m_Se_findAble : Nat := 78
abbrev m_Se_authors : Nat := 79
abbrev m_Se_fewestChanges : Nat := 80
abbrev m_Se_fewestAfter : Nat := 81
abbrev m_Se_changesBy : Nat := 82
abbrev m_Se_chooseAuthors : Nat := 83
abbrev m_Se_author : Nat := 84
abbrev m_Se_fewestCovering : Nat := 85
abbrev m_Se_union : Nat := 86
abbrev m_Sh_new : Nat := 87
abbrev m_Sh_hasHand : Nat := 88
abbrev m_Sh_hasCell : Nat := 89
abbrev m_Sh_kindOf : Nat := 90
abbrev m_Sh_near : Nat := 91
abbrev m_Sh_left : Nat := 92
abbrev m_Sh_steps : Nat := 93
abbrev m_Sh_oddsOf : Nat := 94
abbrev m_Sh_allOdds : Nat := 95
abbrev m_Sh_tellPlace : Nat := 96
abbrev m_Sh_holds : Nat := 97
abbrev m_Sh_allows : Nat := 98
abbrev m_Sh_nearness : Nat := 99
abbrev m_To_new : Nat := 100
abbrev m_To_open : Nat := 101
abbrev m_To_append : Nat := 102
abbrev m_To_tokenEnd : Nat := 103
abbrev m_To_isLetter : Nat := 104
abbrev m_To_isDigit : Nat := 105
abbrev m_To_codeOf : Nat := 106
abbrev m_To_wordCode : Nat := 107
abbrev m_To_isWord : Nat := 108
abbrev m_To_numberCode : Nat := 109
abbrev m_To_advance : Nat := 110
abbrev m_Tr_new : Nat := 111
abbrev m_Tr_isMissing : Nat := 112
abbrev m_Tr_lay : Nat := 113
abbrev m_Tr_at : Nat := 114
abbrev m_Tr_put : Nat := 115
abbrev m_Tr_cut : Nat := 116
abbrev m_Tr_isWithin : Nat := 117
abbrev m_X_new : Nat := 118
abbrev m_X_feed : Nat := 119
abbrev m_X_tapeFour : Nat := 120
abbrev m_X_sheet : Nat := 121
abbrev m_X_fault : Nat := 122
abbrev m_X_cell : Nat := 123
abbrev m_X_handsFor : Nat := 124
abbrev m_X_hand : Nat := 125
abbrev m_X_cellsFor : Nat := 126
abbrev m_X_stroke : Nat := 127
abbrev m_X_rub : Nat := 128
abbrev m_X_keptLeft : Nat := 129
abbrev m_X_habit : Nat := 130
abbrev m_X_hide : Nat := 131
abbrev m_X_undo : Nat := 132
abbrev m_X_judge : Nat := 133
abbrev m_X_perform : Nat := 134
abbrev m_X_keptIfAny : Nat := 135
abbrev m_X_night : Nat := 136
abbrev m_X_shaken : Nat := 137
abbrev m_X_nightDeed : Nat := 138
abbrev m_X_longest : Nat := 139
abbrev m_X_refusedCell : Nat := 140
abbrev m_X_longWay : Nat := 141
abbrev m_X_stuck : Nat := 142
abbrev m_X_stuckWay : Nat := 143
abbrev m_X_soonest : Nat := 144
abbrev m_X_way : Nat := 145
abbrev m_X_reach : Nat := 146
abbrev m_X_ahead : Nat := 147
abbrev m_X_rows : Nat := 148
abbrev m_X_ends : Nat := 149
abbrev m_X_likely : Nat := 150
abbrev m_X_inLowestTerms : Nat := 151
abbrev m_X_safest : Nat := 152
abbrev m_X_isPart : Nat := 153
abbrev m_X_likeliest : Nat := 154
abbrev m_X_wins : Nat := 155
abbrev m_X_isNoGame : Nat := 156
abbrev m_X_best : Nat := 157
abbrev m_X_lasts : Nat := 158
abbrev m_X_habits : Nat := 159
abbrev m_X_look : Nat := 160
abbrev m_X_carried : Nat := 161
abbrev m_X_changes : Nat := 162
abbrev m_X_covers : Nat := 163
abbrev m_X_chance : Nat := 164
abbrev m_X_latest : Nat := 165
abbrev m_X_isTray : Nat := 166
abbrev m_X_numbers : Nat := 167
abbrev m_X_write : Nat := 168
abbrev m_X_lists : Nat := 169
abbrev m_X_image : Nat := 170
abbrev m_X_restore : Nat := 171
abbrev m_X_count : Nat := 172
abbrev m_M_within : Nat := 173
abbrev m_M_new : Nat := 174
abbrev m_M_plain : Nat := 175
abbrev m_M_feed : Nat := 176
abbrev m_M_see : Nat := 177
abbrev m_M_isSmall : Nat := 178
abbrev m_M_isDigit : Nat := 179
abbrev m_M_keyAt : Nat := 180
abbrev m_M_next : Nat := 181
abbrev m_M_fails : Nat := 182
abbrev m_M_is : Nat := 183
abbrev m_M_eats : Nat := 184
abbrev m_M_takes : Nat := 185
abbrev m_M_isIn : Nat := 186
abbrev m_M_wordOf : Nat := 187
abbrev m_M_codes : Nat := 188
abbrev m_M_goesIn : Nat := 189
abbrev m_M_readAtom : Nat := 190
abbrev m_M_readTerm : Nat := 191
abbrev m_M_readSum : Nat := 192
abbrev m_M_readUnit : Nat := 193
abbrev m_M_readBoth : Nat := 194
abbrev m_M_readTruth : Nat := 195
abbrev m_M_readRow : Nat := 196
abbrev m_M_readHand : Nat := 197
abbrev m_M_readDrawn : Nat := 198
abbrev m_M_readLaw : Nat := 199
abbrev m_M_readLine : Nat := 200
abbrev m_M_ends1 : Nat := 201
abbrev m_M_sheet : Nat := 202
abbrev m_M_fault : Nat := 203
abbrev m_M_cells : Nat := 204
abbrev m_M_isCell : Nat := 205
abbrev m_M_isHand : Nat := 206
abbrev m_M_bitsOf : Nat := 207
abbrev m_M_everyCell : Nat := 208
abbrev m_M_apart : Nat := 209
abbrev m_M_farOf : Nat := 210
abbrev m_M_nearOf : Nat := 211
abbrev m_M_between : Nat := 212
abbrev m_M_reckons : Nat := 213
abbrev m_M_mayDraw : Nat := 214
abbrev m_M_oddsOf : Nat := 215
abbrev m_M_oddsAll : Nat := 216
abbrev m_M_isFound : Nat := 217
abbrev m_M_mayNow : Nat := 218
abbrev m_M_handsOf : Nat := 219
abbrev m_M_cellsOf : Nat := 220
abbrev m_M_cell : Nat := 221
abbrev m_M_hand : Nat := 222
abbrev m_M_keeps : Nat := 223
abbrev m_M_isAgain : Nat := 224
abbrev m_M_notes : Nat := 225
abbrev m_M_whyStroke : Nat := 226
abbrev m_M_whyRub : Nat := 227
abbrev m_M_whyHide : Nat := 228
abbrev m_M_draws : Nat := 229
abbrev m_M_rubs : Nat := 230
abbrev m_M_leftNow : Nat := 231
abbrev m_M_stroke : Nat := 232
abbrev m_M_rub : Nat := 233
abbrev m_M_habit : Nat := 234
abbrev m_M_hide : Nat := 235
abbrev m_M_undo : Nat := 236
abbrev m_M_whyNot : Nat := 237
abbrev m_M_does : Nat := 238
abbrev m_M_tells : Nat := 239
abbrev m_M_noTray : Nat := 240
abbrev m_M_judge : Nat := 241
abbrev m_M_perform : Nat := 242
abbrev m_M_draw : Nat := 243
abbrev m_M_drawnDeed : Nat := 244
abbrev m_M_night : Nat := 245
abbrev m_M_standOf : Nat := 246
abbrev m_M_standNow : Nat := 247
abbrev m_M_canBe : Nat := 248
abbrev m_M_laysMays : Nat := 249
abbrev m_M_behindStroke : Nat := 250
abbrev m_M_stillBy : Nat := 251
abbrev m_M_stillAt : Nat := 252
abbrev m_M_laysStill : Nat := 253
abbrev m_M_laysRow : Nat := 254
abbrev m_M_noGoal : Nat := 255
abbrev m_M_longest : Nat := 256
abbrev m_M_rowAt : Nat := 257
abbrev m_M_longWay : Nat := 258
abbrev m_M_stuck : Nat := 259
abbrev m_M_stuckWay : Nat := 260
abbrev m_M_soonest : Nat := 261
abbrev m_M_way : Nat := 262
abbrev m_M_laysMany : Nat := 263
abbrev m_M_reachBut : Nat := 264
abbrev m_M_reach : Nat := 265
abbrev m_M_ahead : Nat := 266
abbrev m_M_rows : Nat := 267
abbrev m_M_ends : Nat := 268
abbrev m_M_common : Nat := 269
abbrev m_M_part : Nat := 270
abbrev m_M_likely : Nat := 271
abbrev m_M_laysSafest : Nat := 272
abbrev m_M_safeBy : Nat := 273
abbrev m_M_safest : Nat := 274
abbrev m_M_likeliest : Nat := 275
abbrev m_M_gameBy : Nat := 276
abbrev m_M_gameAt : Nat := 277
abbrev m_M_mayAt : Nat := 278
abbrev m_M_laysGame : Nat := 279
abbrev m_M_isGame : Nat := 280
abbrev m_M_wins : Nat := 281
abbrev m_M_best : Nat := 282
abbrev m_M_lasts : Nat := 283
abbrev m_M_noSeen : Nat := 284
abbrev m_M_noSeenBy : Nat := 285
abbrev m_M_mayAs : Nat := 286
abbrev m_M_habitsOf : Nat := 287
abbrev m_M_habits : Nat := 288
abbrev m_M_mayBy : Nat := 289
abbrev m_M_look : Nat := 290
abbrev m_M_handsAs : Nat := 291
abbrev m_M_carried : Nat := 292
abbrev m_M_fewBy : Nat := 293
abbrev m_M_laysFew : Nat := 294
abbrev m_M_changes : Nat := 295
abbrev m_M_covers : Nat := 296
abbrev m_M_wholeOf : Nat := 297
abbrev m_M_chanceOf : Nat := 298
abbrev m_M_commonOf : Nat := 299
abbrev m_M_chance : Nat := 300
abbrev m_M_latest : Nat := 301
abbrev m_M_cut : Nat := 302
abbrev m_M_numbers : Nat := 303
abbrev m_M_write : Nat := 304
abbrev m_M_lists : Nat := 305
abbrev m_M_image : Nat := 306
abbrev m_M_restore : Nat := 307
abbrev m_M_count : Nat := 308
abbrev m_In_bitCount : Nat := 309
abbrev m_St_length : Nat := 310
abbrev m_St_charAt : Nat := 311
abbrev m_St_indexOf : Nat := 312
abbrev m_St_indexOf2 : Nat := 313
abbrev m_St_coder : Nat := 314
abbrev m_St_isLatin1 : Nat := 315
abbrev m_St_checkIndex : Nat := 316
abbrev m_S1_charAt : Nat := 317
abbrev m_S1_canEncode : Nat := 318
abbrev m_S1_indexOf : Nat := 319
abbrev m_S1_indexOfChar : Nat := 320
abbrev m_Ar_fill : Nat := 321
abbrev m_Ar_fill2 : Nat := 322
abbrev m_Ar_copyOf : Nat := 323
abbrev m_Pr_checkIndex : Nat := 324
abbrev m_Pr_checkFromToIndex : Nat := 325
abbrev m_L_law : Nat := 326
end
section
/-! the code of each method as a list: place, instruction, length (written by gen04.py) -/
def k_Ch_new : List (Nat × Instr × Nat) := [(0, .aload_n 0, 1), (1, .invokespecial 3, 3), (4, .aload_n 0, 1), (5, .aconst_null, 1), (6, .putfield 9, 3), (9, .aload_n 0, 1), (10, .iconst (-1), 1), (11, .putfield 15, 3), (14, .aload_n 0, 1), (15, .iconst 0, 1), (16, .putfield 19, 3), (19, .aload_n 0, 1), (20, .iconst (-1), 1), (21, .putfield 22, 3), (24, .aload_n 0, 1), (25, .bipush 12, 2), (27, .newarray .long, 2), (29, .putfield 25, 3), (32, .aload_n 0, 1), (33, .lconst 1, 1), (34, .putfield 29, 3), (37, .aload_n 0, 1), (38, .aload_n 1, 1), (39, .putfield 33, 3), (42, .return_, 1)]
def k_Ch_begin : List (Nat × Instr × Nat) := [(0, .aload_n 0, 1), (1, .getfield 15, 3), (4, .aload_n 2, 1), (5, .getfield 37, 3), (8, .if_icmp .ne 21, 3), (11, .aload_n 0, 1), (12, .getfield 19, 3), (15, .iload_n 3, 1), (16, .if_icmp .ne 13, 3), (19, .aload_n 0, 1), (20, .getfield 22, 3), (23, .iload 4, 2), (25, .if_icmp .ne 4, 3), (28, .return_, 1), (29, .aload_n 0, 1), (30, .aload_n 1, 1), (31, .putfield 9, 3), (34, .aload_n 0, 1), (35, .aload_n 2, 1), (36, .getfield 37, 3), (39, .putfield 15, 3), (42, .aload_n 0, 1), (43, .iload_n 3, 1), (44, .putfield 19, 3), (47, .aload_n 0, 1), (48, .iload 4, 2), (50, .putfield 22, 3), (53, .aload_n 0, 1), (54, .getfield 25, 3), (57, .lconst 0, 1), (58, .invokestatic 40, 3), (61, .aload_n 0, 1), (62, .lconst 1, 1), (63, .putfield 29, 3), (66, .iconst 0, 1), (67, .istore 5, 2), (69, .iload 5, 2), (71, .iload 4, 2), (73, .if_icmp .ge 21, 3), (76, .aload_n 0, 1), (77, .dup, 1), (78, .getfield 29, 3), (81, .ldc2_w 46, 3), (84, .lmul, 1), (85, .putfield 29, 3), (88, .iinc 5 1, 3), (91, .goto (-22), 3), (94, .aload_n 0, 1), (95, .getfield 33, 3), (98, .iload_n 3, 1), (99, .aaload, 1), (100, .aload_n 0, 1), (101, .getfield 9, 3), (104, .aload_n 2, 1), (105, .iload_n 3, 1), (106, .invokevirtual 48, 3), (109, .invokevirtual 52, 3), (112, .aload_n 0, 1), (113, .aload_n 2, 1), (114, .getfield 58, 3), (117, .aload_n 2, 1), (118, .getfield 61, 3), (121, .aload_n 0, 1), (122, .getfield 29, 3), (125, .iload 4, 2), (127, .invokevirtual 64, 3), (130, .return_, 1)]
def k_Ch_spread : List (Nat × Instr × Nat) := [(0, .iload 5, 2), (2, .ifCond .le 10, 3), (5, .aload_n 0, 1), (6, .getfield 9, 3), (9, .ifnonnull 4, 3), (12, .return_, 1), (13, .aload_n 0, 1), (14, .getfield 33, 3), (17, .aload_n 0, 1), (18, .getfield 19, 3), (21, .aaload, 1), (22, .aload_n 0, 1), (23, .getfield 9, 3), (26, .iload_n 1, 1), (27, .invokevirtual 68, 3), (30, .aload_n 0, 1), (31, .getfield 9, 3), (34, .iload_n 1, 1), (35, .invokevirtual 74, 3), (38, .iload_n 2, 1), (39, .invokevirtual 77, 3), (42, .istore 6, 2), (44, .iload 6, 2), (46, .invokestatic 81, 3), (49, .istore 7, 2), (51, .iload 7, 2), (53, .ifCond .ne 4, 3), (56, .return_, 1), (57, .iconst 0, 1), (58, .istore 8, 2), (60, .iload 8, 2), (62, .aload_n 0, 1), (63, .getfield 9, 3), (66, .getfield 86, 3), (69, .if_icmp .ge 55, 3), (72, .iload 6, 2), (74, .iload 8, 2), (76, .ishr, 1), (77, .iconst 1, 1), (78, .iand, 1), (79, .ifCond .eq 39, 3), (82, .aload_n 0, 1), (83, .getfield 25, 3), (86, .iload 8, 2), (88, .dup2, 1), (89, .laload, 1), (90, .lload_n 3, 1), (91, .iload 7, 2), (93, .i2l, 1), (94, .ldiv, 1), (95, .ladd, 1), (96, .lastore, 1), (97, .aload_n 0, 1), (98, .iload_n 1, 1), (99, .iconst 1, 1), (100, .iload 8, 2), (102, .ishl, 1), (103, .ior, 1), (104, .iload 8, 2), (106, .lload_n 3, 1), (107, .iload 7, 2), (109, .i2l, 1), (110, .ldiv, 1), (111, .iload 5, 2), (113, .iconst 1, 1), (114, .isub, 1), (115, .invokevirtual 64, 3), (118, .iinc 8 1, 3), (121, .goto (-61), 3), (124, .return_, 1)]
def k_Hi_new : List (Nat × Instr × Nat) := [(0, .aload_n 0, 1), (1, .invokespecial 1, 3), (4, .aload_n 0, 1), (5, .bipush 10, 2), (7, .anewarray 9, 3), (10, .putfield 11, 3), (13, .aload_n 0, 1), (14, .iconst 0, 1), (15, .putfield 15, 3), (18, .aload_n 0, 1), (19, .iconst 0, 1), (20, .putfield 19, 3), (23, .iconst 0, 1), (24, .istore_n 1, 1), (25, .iload_n 1, 1), (26, .aload_n 0, 1), (27, .getfield 11, 3), (30, .arraylength, 1), (31, .if_icmp .ge 22, 3), (34, .aload_n 0, 1), (35, .getfield 11, 3), (38, .iload_n 1, 1), (39, .new 9, 3), (42, .dup, 1), (43, .invokespecial 22, 3), (46, .aastore, 1), (47, .iinc 1 1, 3), (50, .goto (-25), 3), (53, .return_, 1)]
def k_Hi_keep : List (Nat × Instr × Nat) := [(0, .aload_n 0, 1), (1, .getfield 11, 3), (4, .aload_n 0, 1), (5, .getfield 15, 3), (8, .aaload, 1), (9, .aload_n 1, 1), (10, .invokevirtual 23, 3), (13, .aload_n 0, 1), (14, .aload_n 0, 1), (15, .getfield 15, 3), (18, .iconst 1, 1), (19, .iadd, 1), (20, .bipush 10, 2), (22, .irem, 1), (23, .putfield 15, 3), (26, .aload_n 0, 1), (27, .bipush 10, 2), (29, .aload_n 0, 1), (30, .getfield 19, 3), (33, .iconst 1, 1), (34, .iadd, 1), (35, .invokestatic 27, 3), (38, .putfield 19, 3), (41, .return_, 1)]
def k_Hi_bringBack : List (Nat × Instr × Nat) := [(0, .aload_n 0, 1), (1, .aload_n 0, 1), (2, .getfield 15, 3), (5, .iload_n 1, 1), (6, .isub, 1), (7, .bipush 10, 2), (9, .invokestatic 33, 3), (12, .putfield 15, 3), (15, .aload_n 0, 1), (16, .iconst 0, 1), (17, .aload_n 0, 1), (18, .getfield 19, 3), (21, .iload_n 1, 1), (22, .isub, 1), (23, .invokestatic 36, 3), (26, .putfield 19, 3), (29, .aload_n 2, 1), (30, .aload_n 0, 1), (31, .getfield 11, 3), (34, .aload_n 0, 1), (35, .getfield 15, 3), (38, .aaload, 1), (39, .invokevirtual 23, 3), (42, .return_, 1)]
def k_Hi_forget : List (Nat × Instr × Nat) := [(0, .aload_n 0, 1), (1, .iconst 0, 1), (2, .putfield 19, 3), (5, .return_, 1)]
def k_La_new : List (Nat × Instr × Nat) := [(0, .aload_n 0, 1), (1, .invokespecial 3, 3), (4, .aload_n 0, 1), (5, .bipush 64, 2), (7, .newarray .int, 2), (9, .putfield 9, 3), (12, .aload_n 0, 1), (13, .aload_n 1, 1), (14, .iconst 0, 1), (15, .iload_n 2, 1), (16, .aload_n 1, 1), (17, .arraylength, 1), (18, .invokestatic 13, 3), (21, .invokestatic 19, 3), (24, .invokestatic 22, 3), (27, .putfield 28, 3), (30, .iconst 0, 1), (31, .istore_n 3, 1), (32, .iconst 0, 1), (33, .istore 4, 2), (35, .iload 4, 2), (37, .aload_n 0, 1), (38, .getfield 28, 3), (41, .arraylength, 1), (42, .if_icmp .ge 51, 3), (45, .aload_n 0, 1), (46, .getfield 28, 3), (49, .iload 4, 2), (51, .iaload, 1), (52, .sipush 1000, 3), (55, .if_icmp .lt 32, 3), (58, .aload_n 0, 1), (59, .getfield 28, 3), (62, .iload 4, 2), (64, .iaload, 1), (65, .sipush 1008, 3), (68, .if_icmp .ge 19, 3), (71, .iload_n 3, 1), (72, .iconst 1, 1), (73, .aload_n 0, 1), (74, .getfield 28, 3), (77, .iload 4, 2), (79, .iaload, 1), (80, .sipush 1000, 3), (83, .isub, 1), (84, .ishl, 1), (85, .ior, 1), (86, .istore_n 3, 1), (87, .iinc 4 1, 3), (90, .goto (-55), 3), (93, .aload_n 0, 1), (94, .iload_n 3, 1), (95, .putfield 31, 3), (98, .return_, 1)]
def k_La_value : List (Nat × Instr × Nat) := [(0, .iconst 0, 1), (1, .istore_n 2, 1), (2, .iconst 0, 1), (3, .istore_n 3, 1), (4, .iload_n 3, 1), (5, .aload_n 0, 1), (6, .getfield 28, 3), (9, .arraylength, 1), (10, .if_icmp .ge 135, 3), (13, .aload_n 0, 1), (14, .getfield 28, 3), (17, .iload_n 3, 1), (18, .iaload, 1), (19, .istore 4, 2), (21, .iload 4, 2), (23, .sipush 2000, 3), (26, .if_icmp .ge 45, 3), (29, .iload_n 2, 1), (30, .aload_n 0, 1), (31, .getfield 9, 3), (34, .arraylength, 1), (35, .if_icmp .ge 104, 3), (38, .aload_n 0, 1), (39, .getfield 9, 3), (42, .iload_n 2, 1), (43, .iload 4, 2), (45, .sipush 1000, 3), (48, .if_icmp .ge 8, 3), (51, .iload 4, 2), (53, .goto 11, 3), (56, .aload_n 1, 1), (57, .iload 4, 2), (59, .sipush 1000, 3), (62, .isub, 1), (63, .iaload, 1), (64, .iastore, 1), (65, .iinc 2 1, 3), (68, .goto 71, 3), (71, .iload 4, 2), (73, .sipush 2000, 3), (76, .if_icmp .ne 28, 3), (79, .iload_n 2, 1), (80, .ifCond .le 59, 3), (83, .aload_n 0, 1), (84, .getfield 9, 3), (87, .iload_n 2, 1), (88, .iconst 1, 1), (89, .isub, 1), (90, .iconst 1, 1), (91, .aload_n 0, 1), (92, .getfield 9, 3), (95, .iload_n 2, 1), (96, .iconst 1, 1), (97, .isub, 1), (98, .iaload, 1), (99, .isub, 1), (100, .iastore, 1), (101, .goto 38, 3), (104, .iload_n 2, 1), (105, .iconst 1, 1), (106, .if_icmp .le 33, 3), (109, .iinc 2 (-1), 3), (112, .aload_n 0, 1), (113, .getfield 9, 3), (116, .iload_n 2, 1), (117, .iconst 1, 1), (118, .isub, 1), (119, .iload 4, 2), (121, .aload_n 0, 1), (122, .getfield 9, 3), (125, .iload_n 2, 1), (126, .iconst 1, 1), (127, .isub, 1), (128, .iaload, 1), (129, .aload_n 0, 1), (130, .getfield 9, 3), (133, .iload_n 2, 1), (134, .iaload, 1), (135, .invokestatic 35, 3), (138, .iastore, 1), (139, .iinc 3 1, 3), (142, .goto (-138), 3), (145, .iload_n 2, 1), (146, .ifCond .le 14, 3), (149, .aload_n 0, 1), (150, .getfield 9, 3), (153, .iload_n 2, 1), (154, .iconst 1, 1), (155, .isub, 1), (156, .iaload, 1), (157, .goto 4, 3), (160, .iconst 0, 1), (161, .ireturn, 1)]
def k_La_joined : List (Nat × Instr × Nat) := [(0, .iload_n 0, 1), (1, .tableswitch 100 2001 2007 #[43, 47, 51, 62, 73, 84, 92], 43), (44, .iload_n 1, 1), (45, .iload_n 2, 1), (46, .ior, 1), (47, .ireturn, 1), (48, .iload_n 1, 1), (49, .iload_n 2, 1), (50, .iand, 1), (51, .ireturn, 1), (52, .iload_n 1, 1), (53, .iload_n 2, 1), (54, .if_icmp .ne 7, 3), (57, .iconst 1, 1), (58, .goto 4, 3), (61, .iconst 0, 1), (62, .ireturn, 1), (63, .iload_n 1, 1), (64, .iload_n 2, 1), (65, .if_icmp .ge 7, 3), (68, .iconst 1, 1), (69, .goto 4, 3), (72, .iconst 0, 1), (73, .ireturn, 1), (74, .iload_n 1, 1), (75, .iload_n 2, 1), (76, .if_icmp .le 7, 3), (79, .iconst 1, 1), (80, .goto 4, 3), (83, .iconst 0, 1), (84, .ireturn, 1), (85, .iload_n 1, 1), (86, .iload_n 2, 1), (87, .iadd, 1), (88, .i2l, 1), (89, .lstore_n 3, 1), (90, .goto 17, 3), (93, .iload_n 1, 1), (94, .iload_n 2, 1), (95, .isub, 1), (96, .i2l, 1), (97, .lstore_n 3, 1), (98, .goto 9, 3), (101, .iload_n 1, 1), (102, .i2l, 1), (103, .iload_n 2, 1), (104, .i2l, 1), (105, .lmul, 1), (106, .lstore_n 3, 1), (107, .ldc2_w 39, 3), (110, .ldc2_w 41, 3), (113, .lload_n 3, 1), (114, .invokestatic 43, 3), (117, .invokestatic 46, 3), (120, .l2i, 1), (121, .ireturn, 1)]
def k_Pg_new : List (Nat × Instr × Nat) := [(0, .aload_n 0, 1), (1, .invokespecial 3, 3), (4, .aload_n 0, 1), (5, .iconst 0, 1), (6, .putfield 9, 3), (9, .aload_n 0, 1), (10, .iconst (-1), 1), (11, .putfield 15, 3), (14, .aload_n 0, 1), (15, .iconst (-1), 1), (16, .putfield 18, 3), (19, .aload_n 0, 1), (20, .iconst 0, 1), (21, .putfield 21, 3), (24, .aload_n 0, 1), (25, .iconst 4, 1), (26, .newarray .int, 2), (28, .putfield 24, 3), (31, .return_, 1)]
def k_Pg_copy : List (Nat × Instr × Nat) := [(0, .aload_n 0, 1), (1, .aload_n 1, 1), (2, .getfield 9, 3), (5, .putfield 9, 3), (8, .aload_n 0, 1), (9, .aload_n 1, 1), (10, .getfield 15, 3), (13, .putfield 15, 3), (16, .aload_n 0, 1), (17, .aload_n 1, 1), (18, .getfield 18, 3), (21, .putfield 18, 3), (24, .iconst 0, 1), (25, .istore_n 2, 1), (26, .iload_n 2, 1), (27, .aload_n 0, 1), (28, .getfield 24, 3), (31, .arraylength, 1), (32, .if_icmp .ge 21, 3), (35, .aload_n 0, 1), (36, .getfield 24, 3), (39, .iload_n 2, 1), (40, .aload_n 1, 1), (41, .getfield 24, 3), (44, .iload_n 2, 1), (45, .iaload, 1), (46, .iastore, 1), (47, .iinc 2 1, 3), (50, .goto (-24), 3), (53, .aload_n 0, 1), (54, .dup, 1), (55, .getfield 21, 3), (58, .iconst 1, 1), (59, .iadd, 1), (60, .putfield 21, 3), (63, .return_, 1)]
def k_Pg_isDrawn : List (Nat × Instr × Nat) := [(0, .aload_n 0, 1), (1, .getfield 9, 3), (4, .iload_n 1, 1), (5, .ishr, 1), (6, .iconst 1, 1), (7, .iand, 1), (8, .ifCond .eq 7, 3), (11, .iconst 1, 1), (12, .goto 4, 3), (15, .iconst 0, 1), (16, .ireturn, 1)]
def k_Pg_isFound : List (Nat × Instr × Nat) := [(0, .aload_n 0, 1), (1, .getfield 18, 3), (4, .iconst (-1), 1), (5, .if_icmp .eq 18, 3), (8, .aload_n 0, 1), (9, .aload_n 0, 1), (10, .getfield 18, 3), (13, .invokevirtual 28, 3), (16, .ifCond .eq 7, 3), (19, .iconst 1, 1), (20, .goto 4, 3), (23, .iconst 0, 1), (24, .ireturn, 1)]
def k_Pg_habitOf : List (Nat × Instr × Nat) := [(0, .iload_n 1, 1), (1, .ifCond .lt 21, 3), (4, .iload_n 1, 1), (5, .aload_n 0, 1), (6, .getfield 24, 3), (9, .arraylength, 1), (10, .if_icmp .ge 12, 3), (13, .aload_n 0, 1), (14, .getfield 24, 3), (17, .iload_n 1, 1), (18, .iaload, 1), (19, .goto 4, 3), (22, .iconst 0, 1), (23, .ireturn, 1)]
def k_Pg_whyNotDraw : List (Nat × Instr × Nat) := [(0, .aload_n 1, 1), (1, .iload_n 2, 1), (2, .invokevirtual 32, 3), (5, .ifCond .eq 11, 3), (8, .aload_n 1, 1), (9, .iload_n 3, 1), (10, .invokevirtual 37, 3), (13, .ifCond .ne 5, 3), (16, .iconst 1, 1), (17, .ireturn, 1), (18, .aload_n 0, 1), (19, .invokevirtual 40, 3), (22, .ifCond .ne 11, 3), (25, .aload_n 0, 1), (26, .iload_n 3, 1), (27, .invokevirtual 28, 3), (30, .ifCond .eq 5, 3), (33, .iconst 2, 1), (34, .ireturn, 1), (35, .aload_n 1, 1), (36, .iload_n 2, 1), (37, .aload_n 0, 1), (38, .iload_n 2, 1), (39, .invokevirtual 44, 3), (42, .iload_n 3, 1), (43, .aload_n 0, 1), (44, .getfield 9, 3), (47, .aload_n 0, 1), (48, .getfield 15, 3), (51, .invokevirtual 48, 3), (54, .ifCond .eq 7, 3), (57, .iconst 0, 1), (58, .goto 4, 3), (61, .iconst 3, 1), (62, .ireturn, 1)]
def k_Pg_draw : List (Nat × Instr × Nat) := [(0, .aload_n 0, 1), (1, .aload_n 1, 1), (2, .iload_n 2, 1), (3, .iload_n 3, 1), (4, .invokevirtual 52, 3), (7, .istore 4, 2), (9, .iload 4, 2), (11, .ifCond .ne 8, 3), (14, .aload_n 0, 1), (15, .iload_n 3, 1), (16, .invokevirtual 56, 3), (19, .iload 4, 2), (21, .ireturn, 1)]
def k_Pg_mark : List (Nat × Instr × Nat) := [(0, .aload_n 0, 1), (1, .dup, 1), (2, .getfield 9, 3), (5, .iconst 1, 1), (6, .iload_n 1, 1), (7, .ishl, 1), (8, .ior, 1), (9, .putfield 9, 3), (12, .aload_n 0, 1), (13, .iload_n 1, 1), (14, .putfield 15, 3), (17, .aload_n 0, 1), (18, .dup, 1), (19, .getfield 21, 3), (22, .iconst 1, 1), (23, .iadd, 1), (24, .putfield 21, 3), (27, .return_, 1)]
def k_Pg_erase : List (Nat × Instr × Nat) := [(0, .aload_n 1, 1), (1, .iload_n 2, 1), (2, .invokevirtual 37, 3), (5, .ifCond .ne 5, 3), (8, .iconst 1, 1), (9, .ireturn, 1), (10, .aload_n 0, 1), (11, .invokevirtual 40, 3), (14, .ifCond .ne 11, 3), (17, .aload_n 0, 1), (18, .iload_n 2, 1), (19, .invokevirtual 28, 3), (22, .ifCond .ne 5, 3), (25, .iconst 2, 1), (26, .ireturn, 1), (27, .aload_n 0, 1), (28, .dup, 1), (29, .getfield 9, 3), (32, .iconst 1, 1), (33, .iload_n 2, 1), (34, .ishl, 1), (35, .iconst (-1), 1), (36, .ixor, 1), (37, .iand, 1), (38, .putfield 9, 3), (41, .aload_n 0, 1), (42, .aload_n 0, 1), (43, .getfield 15, 3), (46, .iload_n 2, 1), (47, .if_icmp .ne 7, 3), (50, .iconst (-1), 1), (51, .goto 7, 3), (54, .aload_n 0, 1), (55, .getfield 15, 3), (58, .putfield 15, 3), (61, .aload_n 0, 1), (62, .dup, 1), (63, .getfield 21, 3), (66, .iconst 1, 1), (67, .iadd, 1), (68, .putfield 21, 3), (71, .iconst 0, 1), (72, .ireturn, 1)]
def k_Pg_adopt : List (Nat × Instr × Nat) := [(0, .aload_n 1, 1), (1, .iload_n 2, 1), (2, .invokevirtual 32, 3), (5, .ifCond .eq 13, 3), (8, .iload_n 3, 1), (9, .ifCond .lt 9, 3), (12, .iload_n 3, 1), (13, .bipush 10, 2), (15, .if_icmp .lt 5, 3), (18, .iconst 1, 1), (19, .ireturn, 1), (20, .aload_n 0, 1), (21, .iload_n 2, 1), (22, .iload_n 3, 1), (23, .invokevirtual 60, 3), (26, .iconst 0, 1), (27, .ireturn, 1)]
def k_Pg_setHabit : List (Nat × Instr × Nat) := [(0, .iload_n 1, 1), (1, .ifCond .lt 29, 3), (4, .iload_n 1, 1), (5, .aload_n 0, 1), (6, .getfield 24, 3), (9, .arraylength, 1), (10, .if_icmp .ge 20, 3), (13, .aload_n 0, 1), (14, .getfield 24, 3), (17, .iload_n 1, 1), (18, .iload_n 2, 1), (19, .iastore, 1), (20, .aload_n 0, 1), (21, .dup, 1), (22, .getfield 21, 3), (25, .iconst 1, 1), (26, .iadd, 1), (27, .putfield 21, 3), (30, .return_, 1)]
def k_Pg_conceal : List (Nat × Instr × Nat) := [(0, .aload_n 1, 1), (1, .iload_n 2, 1), (2, .invokevirtual 37, 3), (5, .ifCond .ne 5, 3), (8, .iconst 1, 1), (9, .ireturn, 1), (10, .aload_n 0, 1), (11, .invokevirtual 40, 3), (14, .ifCond .ne 11, 3), (17, .aload_n 0, 1), (18, .iload_n 2, 1), (19, .invokevirtual 28, 3), (22, .ifCond .eq 5, 3), (25, .iconst 2, 1), (26, .ireturn, 1), (27, .aload_n 0, 1), (28, .iload_n 2, 1), (29, .putfield 18, 3), (32, .aload_n 0, 1), (33, .dup, 1), (34, .getfield 21, 3), (37, .iconst 1, 1), (38, .iadd, 1), (39, .putfield 21, 3), (42, .iconst 0, 1), (43, .ireturn, 1)]
def k_Pg_obey : List (Nat × Instr × Nat) := [(0, .lload_n 2, 1), (1, .lconst 0, 1), (2, .lcmp, 1), (3, .ifCond .lt 27, 3), (6, .lload_n 2, 1), (7, .ldc2_w 64, 3), (10, .lcmp, 1), (11, .ifCond .ge 19, 3), (14, .lload_n 2, 1), (15, .ldc2_w 66, 3), (18, .lcmp, 1), (19, .ifCond .lt 13, 3), (22, .lload_n 2, 1), (23, .ldc2_w 68, 3), (26, .lcmp, 1), (27, .ifCond .ge 5, 3), (30, .iconst 1, 1), (31, .ireturn, 1), (32, .lload_n 2, 1), (33, .l2i, 1), (34, .istore 4, 2), (36, .iload 4, 2), (38, .sipush 400, 3), (41, .if_icmp .ge 19, 3), (44, .aload_n 0, 1), (45, .aload_n 1, 1), (46, .iload 4, 2), (48, .bipush 100, 2), (50, .idiv, 1), (51, .iload 4, 2), (53, .bipush 100, 2), (55, .irem, 1), (56, .invokevirtual 70, 3), (59, .ireturn, 1), (60, .iload 4, 2), (62, .sipush 600, 3), (65, .if_icmp .ge 15, 3), (68, .aload_n 0, 1), (69, .aload_n 1, 1), (70, .iload 4, 2), (72, .sipush 500, 3), (75, .isub, 1), (76, .invokevirtual 73, 3), (79, .ireturn, 1), (80, .iload 4, 2), (82, .sipush 700, 3), (85, .if_icmp .ge 23, 3), (88, .aload_n 0, 1), (89, .aload_n 1, 1), (90, .iload 4, 2), (92, .sipush 600, 3), (95, .isub, 1), (96, .bipush 10, 2), (98, .idiv, 1), (99, .iload 4, 2), (101, .bipush 10, 2), (103, .irem, 1), (104, .invokevirtual 77, 3), (107, .ireturn, 1), (108, .aload_n 0, 1), (109, .aload_n 1, 1), (110, .iload 4, 2), (112, .sipush 700, 3), (115, .isub, 1), (116, .invokevirtual 80, 3), (119, .ireturn, 1)]
def k_Pg_clear : List (Nat × Instr × Nat) := [(0, .aload_n 0, 1), (1, .iconst 0, 1), (2, .putfield 9, 3), (5, .aload_n 0, 1), (6, .iconst (-1), 1), (7, .putfield 15, 3), (10, .aload_n 0, 1), (11, .iconst (-1), 1), (12, .putfield 18, 3), (15, .aload_n 0, 1), (16, .getfield 24, 3), (19, .iconst 0, 1), (20, .invokestatic 83, 3), (23, .aload_n 0, 1), (24, .dup, 1), (25, .getfield 21, 3), (28, .iconst 1, 1), (29, .iadd, 1), (30, .putfield 21, 3), (33, .return_, 1)]
def k_Pa_new : List (Nat × Instr × Nat) := [(0, .aload_n 0, 1), (1, .invokespecial 3, 3), (4, .aload_n 0, 1), (5, .iconst (-1), 1), (6, .putfield 9, 3), (9, .aload_n 0, 1), (10, .iconst 0, 1), (11, .putfield 15, 3), (14, .aload_n 0, 1), (15, .iconst 0, 1), (16, .putfield 18, 3), (19, .aload_n 0, 1), (20, .iconst 0, 1), (21, .putfield 21, 3), (24, .aload_n 0, 1), (25, .iconst 1, 1), (26, .putfield 24, 3), (29, .aload_n 0, 1), (30, .iconst 0, 1), (31, .putfield 27, 3), (34, .aload_n 0, 1), (35, .bipush 12, 2), (37, .newarray .int, 2), (39, .putfield 30, 3), (42, .aload_n 0, 1), (43, .iconst 0, 1), (44, .newarray .int, 2), (46, .putfield 34, 3), (49, .aload_n 0, 1), (50, .iconst 0, 1), (51, .newarray .short, 2), (53, .putfield 37, 3), (56, .aload_n 0, 1), (57, .iconst 0, 1), (58, .newarray .int, 2), (60, .putfield 41, 3), (63, .aload_n 0, 1), (64, .iconst (-1), 1), (65, .putfield 44, 3), (68, .aload_n 0, 1), (69, .iconst 0, 1), (70, .putfield 47, 3), (73, .aload_n 0, 1), (74, .iconst 0, 1), (75, .putfield 50, 3), (78, .aload_n 0, 1), (79, .bipush 12, 2), (81, .newarray .int, 2), (83, .putfield 53, 3), (86, .aload_n 0, 1), (87, .bipush 12, 2), (89, .newarray .int, 2), (91, .putfield 56, 3), (94, .aload_n 0, 1), (95, .iconst 0, 1), (96, .putfield 59, 3), (99, .aload_n 0, 1), (100, .bipush 13, 2), (102, .newarray .long, 2), (104, .putfield 62, 3), (107, .aload_n 0, 1), (108, .ldc2_w 66, 3), (111, .putfield 68, 3), (114, .aload_n 0, 1), (115, .aload_n 1, 1), (116, .putfield 72, 3), (119, .aload_n 0, 1), (120, .aload_n 2, 1), (121, .putfield 76, 3), (124, .return_, 1)]
def k_Pa_begin : List (Nat × Instr × Nat) := [(0, .aload_n 0, 1), (1, .getfield 9, 3), (4, .aload_n 2, 1), (5, .getfield 80, 3), (8, .if_icmp .ne 21, 3), (11, .aload_n 0, 1), (12, .getfield 15, 3), (15, .iload_n 3, 1), (16, .if_icmp .ne 13, 3), (19, .aload_n 0, 1), (20, .getfield 18, 3), (23, .iload 4, 2), (25, .if_icmp .ne 4, 3), (28, .return_, 1), (29, .aload_n 0, 1), (30, .aload_n 1, 1), (31, .putfield 72, 3), (34, .aload_n 0, 1), (35, .aload_n 2, 1), (36, .getfield 80, 3), (39, .putfield 9, 3), (42, .aload_n 0, 1), (43, .iload_n 3, 1), (44, .putfield 15, 3), (47, .aload_n 0, 1), (48, .iload 4, 2), (50, .putfield 18, 3), (53, .aload_n 0, 1), (54, .aload_n 2, 1), (55, .getfield 83, 3), (58, .putfield 21, 3), (61, .aload_n 0, 1), (62, .aload_n 0, 1), (63, .getfield 72, 3), (66, .getfield 86, 3), (69, .ifCond .eq 15, 3), (72, .aload_n 0, 1), (73, .getfield 72, 3), (76, .getfield 92, 3), (79, .iconst 1, 1), (80, .iadd, 1), (81, .goto 4, 3), (84, .iconst 1, 1), (85, .putfield 24, 3), (88, .aload_n 0, 1), (89, .aload_n 0, 1), (90, .getfield 24, 3), (93, .iconst 1, 1), (94, .if_icmp .ne 7, 3), (97, .iconst 0, 1), (98, .goto 25, 3), (101, .aload_n 2, 1), (102, .getfield 95, 3), (105, .iconst (-1), 1), (106, .if_icmp .ne 13, 3), (109, .aload_n 0, 1), (110, .getfield 72, 3), (113, .getfield 92, 3), (116, .goto 7, 3), (119, .aload_n 2, 1), (120, .getfield 95, 3), (123, .putfield 27, 3), (126, .aload_n 0, 1), (127, .iconst (-1), 1), (128, .putfield 44, 3), (131, .aload_n 0, 1), (132, .ldc2_w 66, 3), (135, .putfield 68, 3), (138, .iconst 0, 1), (139, .istore 5, 2), (141, .iload 5, 2), (143, .aload_n 0, 1), (144, .getfield 72, 3), (147, .getfield 92, 3), (150, .if_icmp .ge 29, 3), (153, .aload_n 0, 1), (154, .getfield 53, 3), (157, .iload 5, 2), (159, .aload_n 0, 1), (160, .getfield 72, 3), (163, .iload 5, 2), (165, .aload_n 0, 1), (166, .getfield 21, 3), (169, .invokevirtual 98, 3), (172, .iastore, 1), (173, .iinc 5 1, 3), (176, .goto (-35), 3), (179, .aload_n 0, 1), (180, .getfield 76, 3), (183, .iload_n 3, 1), (184, .aaload, 1), (185, .aload_n 0, 1), (186, .getfield 72, 3), (189, .aload_n 2, 1), (190, .iload_n 3, 1), (191, .invokevirtual 102, 3), (194, .invokevirtual 106, 3), (197, .aload_n 0, 1), (198, .getfield 76, 3), (201, .iload 4, 2), (203, .aaload, 1), (204, .aload_n 0, 1), (205, .getfield 72, 3), (208, .aload_n 2, 1), (209, .iload 4, 2), (211, .invokevirtual 102, 3), (214, .invokevirtual 106, 3), (217, .aload_n 0, 1), (218, .invokevirtual 112, 3), (221, .iconst 0, 1), (222, .istore 5, 2), (224, .iload 5, 2), (226, .aload_n 0, 1), (227, .getfield 30, 3), (230, .arraylength, 1), (231, .if_icmp .ge 30, 3), (234, .aload_n 0, 1), (235, .getfield 30, 3), (238, .iload 5, 2), (240, .aload_n 0, 1), (241, .getfield 24, 3), (244, .iload 5, 2), (246, .ishl, 1), (247, .aload_n 0, 1), (248, .iload 5, 2), (250, .invokevirtual 115, 3), (253, .iadd, 1), (254, .iastore, 1), (255, .iinc 5 1, 3), (258, .goto (-34), 3), (261, .aload_n 0, 1), (262, .getfield 34, 3), (265, .aload_n 0, 1), (266, .getfield 21, 3), (269, .iconst 1, 1), (270, .aload_n 0, 1), (271, .getfield 27, 3), (274, .ishl, 1), (275, .iastore, 1), (276, .aload_n 0, 1), (277, .getfield 21, 3), (280, .istore 5, 2), (282, .iload 5, 2), (284, .aload_n 0, 1), (285, .getfield 72, 3), (288, .getfield 118, 3), (291, .if_icmp .gt 33, 3), (294, .aload_n 0, 1), (295, .getfield 34, 3), (298, .iload 5, 2), (300, .iaload, 1), (301, .ifCond .eq 9, 3), (304, .aload_n 0, 1), (305, .iload 5, 2), (307, .invokevirtual 121, 3), (310, .iload 5, 2), (312, .iconst 1, 1), (313, .iadd, 1), (314, .aload_n 0, 1), (315, .getfield 21, 3), (318, .ior, 1), (319, .istore 5, 2), (321, .goto (-39), 3), (324, .return_, 1)]
def k_Pa_makeRoom : List (Nat × Instr × Nat) := [(0, .aload_n 0, 1), (1, .getfield 72, 3), (4, .getfield 118, 3), (7, .iconst 1, 1), (8, .iadd, 1), (9, .istore_n 1, 1), (10, .aload_n 0, 1), (11, .getfield 34, 3), (14, .arraylength, 1), (15, .iload_n 1, 1), (16, .if_icmp .ge 10, 3), (19, .aload_n 0, 1), (20, .iload_n 1, 1), (21, .newarray .int, 2), (23, .putfield 34, 3), (26, .aload_n 0, 1), (27, .getfield 37, 3), (30, .arraylength, 1), (31, .iload_n 1, 1), (32, .aload_n 0, 1), (33, .getfield 24, 3), (36, .imul, 1), (37, .if_icmp .ge 27, 3), (40, .aload_n 0, 1), (41, .iload_n 1, 1), (42, .aload_n 0, 1), (43, .getfield 24, 3), (46, .imul, 1), (47, .newarray .short, 2), (49, .putfield 37, 3), (52, .aload_n 0, 1), (53, .iload_n 1, 1), (54, .aload_n 0, 1), (55, .getfield 24, 3), (58, .imul, 1), (59, .newarray .int, 2), (61, .putfield 41, 3), (64, .aload_n 0, 1), (65, .getfield 34, 3), (68, .iconst 0, 1), (69, .invokestatic 125, 3), (72, .return_, 1)]
def k_Pa_spread : List (Nat × Instr × Nat) := [(0, .aload_n 0, 1), (1, .getfield 76, 3), (4, .aload_n 0, 1), (5, .iload_n 1, 1), (6, .invokevirtual 131, 3), (9, .iconst 2, 1), (10, .irem, 1), (11, .ifCond .ne 10, 3), (14, .aload_n 0, 1), (15, .getfield 15, 3), (18, .goto 7, 3), (21, .aload_n 0, 1), (22, .getfield 18, 3), (25, .aaload, 1), (26, .astore_n 2, 1), (27, .aload_n 0, 1), (28, .getfield 72, 3), (31, .iload_n 1, 1), (32, .invokevirtual 134, 3), (35, .lstore_n 3, 1), (36, .aload_n 0, 1), (37, .getfield 72, 3), (40, .iload_n 1, 1), (41, .invokevirtual 138, 3), (44, .istore 5, 2), (46, .aload_n 0, 1), (47, .getfield 34, 3), (50, .iload_n 1, 1), (51, .iaload, 1), (52, .istore 6, 2), (54, .iconst 0, 1), (55, .istore 7, 2), (57, .iconst 0, 1), (58, .istore 8, 2), (60, .iload 8, 2), (62, .aload_n 0, 1), (63, .getfield 24, 3), (66, .if_icmp .ge 70, 3), (69, .iload 6, 2), (71, .iload 8, 2), (73, .ishr, 1), (74, .iconst 1, 1), (75, .iand, 1), (76, .ifCond .eq 54, 3), (79, .aload_n 2, 1), (80, .lload_n 3, 1), (81, .iload 5, 2), (83, .iload 8, 2), (85, .aload_n 0, 1), (86, .getfield 72, 3), (89, .getfield 92, 3), (92, .if_icmp .ne 7, 3), (95, .iconst (-1), 1), (96, .goto 5, 3), (99, .iload 8, 2), (101, .invokevirtual 141, 3), (104, .istore 9, 2), (106, .aload_n 0, 1), (107, .getfield 37, 3), (110, .iload_n 1, 1), (111, .aload_n 0, 1), (112, .getfield 24, 3), (115, .imul, 1), (116, .iload 8, 2), (118, .iadd, 1), (119, .iload 9, 2), (121, .i2s, 1), (122, .sastore, 1), (123, .iload 7, 2), (125, .iload 9, 2), (127, .ior, 1), (128, .istore 7, 2), (130, .iinc 8 1, 3), (133, .goto (-73), 3), (136, .iconst 0, 1), (137, .istore 8, 2), (139, .iload 8, 2), (141, .aload_n 0, 1), (142, .getfield 72, 3), (145, .getfield 92, 3), (148, .if_icmp .ge 41, 3), (151, .iload 7, 2), (153, .iload 8, 2), (155, .ishr, 1), (156, .iconst 1, 1), (157, .iand, 1), (158, .ifCond .eq 25, 3), (161, .aload_n 0, 1), (162, .getfield 34, 3), (165, .iload_n 1, 1), (166, .iconst 1, 1), (167, .iload 8, 2), (169, .ishl, 1), (170, .ior, 1), (171, .dup2, 1), (172, .iaload, 1), (173, .iconst 1, 1), (174, .aload_n 0, 1), (175, .iload 8, 2), (177, .invokevirtual 115, 3), (180, .ishl, 1), (181, .ior, 1), (182, .iastore, 1), (183, .iinc 8 1, 3), (186, .goto (-47), 3), (189, .return_, 1)]
def k_Pa_strokesTo : List (Nat × Instr × Nat) := [(0, .iload_n 1, 1), (1, .aload_n 0, 1), (2, .getfield 21, 3), (5, .ixor, 1), (6, .invokestatic 145, 3), (9, .ireturn, 1)]
def k_Pa_rankOf : List (Nat × Instr × Nat) := [(0, .aload_n 0, 1), (1, .getfield 24, 3), (4, .iconst 1, 1), (5, .if_icmp .ne 7, 3), (8, .iconst 0, 1), (9, .goto 4, 3), (12, .iload_n 1, 1), (13, .ireturn, 1)]
def k_Pa_solve : List (Nat × Instr × Nat) := [(0, .aload_n 0, 1), (1, .getfield 44, 3), (4, .iload_n 1, 1), (5, .if_icmp .ne 11, 3), (8, .aload_n 0, 1), (9, .getfield 47, 3), (12, .iload_n 2, 1), (13, .if_icmp .eq 84, 3), (16, .aload_n 0, 1), (17, .iload_n 1, 1), (18, .putfield 44, 3), (21, .aload_n 0, 1), (22, .iload_n 2, 1), (23, .putfield 47, 3), (26, .aload_n 0, 1), (27, .getfield 72, 3), (30, .getfield 118, 3), (33, .istore_n 3, 1), (34, .iload_n 3, 1), (35, .aload_n 0, 1), (36, .getfield 21, 3), (39, .if_icmp .lt 31, 3), (42, .aload_n 0, 1), (43, .getfield 34, 3), (46, .iload_n 3, 1), (47, .iaload, 1), (48, .ifCond .eq 16, 3), (51, .aload_n 0, 1), (52, .iload_n 3, 1), (53, .invokevirtual 150, 3), (56, .ifCond .ne 8, 3), (59, .aload_n 0, 1), (60, .iload_n 3, 1), (61, .invokevirtual 154, 3), (64, .iinc 3 (-1), 3), (67, .goto (-33), 3), (70, .aload_n 0, 1), (71, .aload_n 0, 1), (72, .getfield 41, 3), (75, .aload_n 0, 1), (76, .getfield 21, 3), (79, .aload_n 0, 1), (80, .getfield 24, 3), (83, .imul, 1), (84, .aload_n 0, 1), (85, .getfield 27, 3), (88, .iadd, 1), (89, .iaload, 1), (90, .putfield 50, 3), (93, .aload_n 0, 1), (94, .invokevirtual 157, 3), (97, .aload_n 0, 1), (98, .getfield 50, 3), (101, .ireturn, 1)]
def k_Pa_isBeyond : List (Nat × Instr × Nat) := [(0, .aload_n 0, 1), (1, .getfield 44, 3), (4, .tableswitch 67 0 3 #[32, 67, 32, 49], 32), (36, .iload_n 1, 1), (37, .aload_n 0, 1), (38, .getfield 47, 3), (41, .ishr, 1), (42, .iconst 1, 1), (43, .iand, 1), (44, .ifCond .eq 7, 3), (47, .iconst 1, 1), (48, .goto 4, 3), (51, .iconst 0, 1), (52, .ireturn, 1), (53, .aload_n 0, 1), (54, .iload_n 1, 1), (55, .invokevirtual 131, 3), (58, .aload_n 0, 1), (59, .getfield 47, 3), (62, .if_icmp .le 7, 3), (65, .iconst 1, 1), (66, .goto 4, 3), (69, .iconst 0, 1), (70, .ireturn, 1), (71, .iconst 0, 1), (72, .ireturn, 1)]
def k_Pa_settle : List (Nat × Instr × Nat) := [(0, .aload_n 0, 1), (1, .getfield 34, 3), (4, .iload_n 1, 1), (5, .iaload, 1), (6, .istore_n 2, 1), (7, .iload_n 1, 1), (8, .aload_n 0, 1), (9, .getfield 24, 3), (12, .imul, 1), (13, .istore_n 3, 1), (14, .iconst (-1), 1), (15, .istore 4, 2), (17, .iconst 0, 1), (18, .istore 5, 2), (20, .iconst 0, 1), (21, .istore 6, 2), (23, .iload 6, 2), (25, .aload_n 0, 1), (26, .getfield 24, 3), (29, .if_icmp .ge 63, 3), (32, .iload_n 2, 1), (33, .iload 6, 2), (35, .ishr, 1), (36, .iconst 1, 1), (37, .iand, 1), (38, .ifCond .eq 48, 3), (41, .aload_n 0, 1), (42, .getfield 37, 3), (45, .iload_n 3, 1), (46, .iload 6, 2), (48, .iadd, 1), (49, .saload, 1), (50, .iload 4, 2), (52, .if_icmp .eq 23, 3), (55, .aload_n 0, 1), (56, .getfield 37, 3), (59, .iload_n 3, 1), (60, .iload 6, 2), (62, .iadd, 1), (63, .saload, 1), (64, .istore 4, 2), (66, .aload_n 0, 1), (67, .iload_n 1, 1), (68, .iload 4, 2), (70, .invokevirtual 160, 3), (73, .istore 5, 2), (75, .aload_n 0, 1), (76, .getfield 41, 3), (79, .iload_n 3, 1), (80, .iload 6, 2), (82, .iadd, 1), (83, .iload 5, 2), (85, .iastore, 1), (86, .iinc 6 1, 3), (89, .goto (-66), 3), (92, .return_, 1)]
def k_Pa_worth : List (Nat × Instr × Nat) := [(0, .aload_n 0, 1), (1, .getfield 44, 3), (4, .tableswitch 128 0 3 #[32, 53, 73, 100], 32), (36, .aload_n 0, 1), (37, .iload_n 1, 1), (38, .aload_n 0, 1), (39, .getfield 24, 3), (42, .imul, 1), (43, .iload_n 2, 1), (44, .iconst 1, 1), (45, .aload_n 0, 1), (46, .getfield 47, 3), (49, .ishl, 1), (50, .iconst (-1), 1), (51, .ixor, 1), (52, .iand, 1), (53, .invokevirtual 163, 3), (56, .ireturn, 1), (57, .iload_n 2, 1), (58, .ifCond .ne 7, 3), (61, .iconst 0, 1), (62, .goto 14, 3), (65, .aload_n 0, 1), (66, .iload_n 1, 1), (67, .aload_n 0, 1), (68, .getfield 24, 3), (71, .imul, 1), (72, .iload_n 2, 1), (73, .invokevirtual 166, 3), (76, .ireturn, 1), (77, .iload_n 2, 1), (78, .aload_n 0, 1), (79, .getfield 47, 3), (82, .ishr, 1), (83, .iconst 1, 1), (84, .iand, 1), (85, .ifCond .eq 7, 3), (88, .iconst 1, 1), (89, .goto 14, 3), (92, .aload_n 0, 1), (93, .iload_n 1, 1), (94, .aload_n 0, 1), (95, .getfield 24, 3), (98, .imul, 1), (99, .iload_n 2, 1), (100, .invokevirtual 166, 3), (103, .ireturn, 1), (104, .aload_n 0, 1), (105, .iload_n 1, 1), (106, .invokevirtual 131, 3), (109, .aload_n 0, 1), (110, .getfield 47, 3), (113, .if_icmp .ne 7, 3), (116, .iconst 0, 1), (117, .goto 14, 3), (120, .aload_n 0, 1), (121, .iload_n 1, 1), (122, .aload_n 0, 1), (123, .getfield 24, 3), (126, .imul, 1), (127, .iload_n 2, 1), (128, .invokevirtual 166, 3), (131, .ireturn, 1), (132, .iload_n 2, 1), (133, .ifCond .ne 14, 3), (136, .iconst 2, 1), (137, .aload_n 0, 1), (138, .getfield 47, 3), (141, .imul, 1), (142, .iconst 1, 1), (143, .isub, 1), (144, .goto 14, 3), (147, .aload_n 0, 1), (148, .iload_n 1, 1), (149, .aload_n 0, 1), (150, .getfield 24, 3), (153, .imul, 1), (154, .iload_n 2, 1), (155, .invokevirtual 169, 3), (158, .ireturn, 1)]
def k_Pa_most : List (Nat × Instr × Nat) := [(0, .iconst 0, 1), (1, .istore_n 3, 1), (2, .iconst 0, 1), (3, .istore 4, 2), (5, .iload 4, 2), (7, .aload_n 0, 1), (8, .getfield 30, 3), (11, .arraylength, 1), (12, .if_icmp .ge 46, 3), (15, .iload_n 2, 1), (16, .iload 4, 2), (18, .ishr, 1), (19, .ifCond .eq 39, 3), (22, .iload_n 2, 1), (23, .iload 4, 2), (25, .ishr, 1), (26, .iconst 1, 1), (27, .iand, 1), (28, .ifCond .eq 24, 3), (31, .iload_n 3, 1), (32, .iconst 1, 1), (33, .aload_n 0, 1), (34, .getfield 41, 3), (37, .iload_n 1, 1), (38, .aload_n 0, 1), (39, .getfield 30, 3), (42, .iload 4, 2), (44, .iaload, 1), (45, .iadd, 1), (46, .iaload, 1), (47, .iadd, 1), (48, .invokestatic 172, 3), (51, .istore_n 3, 1), (52, .iinc 4 1, 3), (55, .goto (-50), 3), (58, .iload_n 3, 1), (59, .ireturn, 1)]
def k_Pa_least : List (Nat × Instr × Nat) := [(0, .ldc 177, 2), (2, .istore_n 3, 1), (3, .iconst 0, 1), (4, .istore 4, 2), (6, .iload 4, 2), (8, .aload_n 0, 1), (9, .getfield 30, 3), (12, .arraylength, 1), (13, .if_icmp .ge 64, 3), (16, .iload_n 2, 1), (17, .iload 4, 2), (19, .ishr, 1), (20, .ifCond .eq 57, 3), (23, .iload_n 2, 1), (24, .iload 4, 2), (26, .ishr, 1), (27, .iconst 1, 1), (28, .iand, 1), (29, .ifCond .eq 42, 3), (32, .iload_n 3, 1), (33, .aload_n 0, 1), (34, .getfield 44, 3), (37, .iconst 3, 1), (38, .if_icmp .ne 13, 3), (41, .aload_n 0, 1), (42, .getfield 53, 3), (45, .iload 4, 2), (47, .iaload, 1), (48, .goto 4, 3), (51, .iconst 1, 1), (52, .aload_n 0, 1), (53, .getfield 41, 3), (56, .iload_n 1, 1), (57, .aload_n 0, 1), (58, .getfield 30, 3), (61, .iload 4, 2), (63, .iaload, 1), (64, .iadd, 1), (65, .iaload, 1), (66, .iadd, 1), (67, .invokestatic 178, 3), (70, .istore_n 3, 1), (71, .iinc 4 1, 3), (74, .goto (-68), 3), (77, .iload_n 3, 1), (78, .ireturn, 1)]
def k_Pa_played : List (Nat × Instr × Nat) := [(0, .ldc 181, 2), (2, .istore_n 3, 1), (3, .iconst 0, 1), (4, .istore 4, 2), (6, .iconst 0, 1), (7, .istore 5, 2), (9, .iload 5, 2), (11, .aload_n 0, 1), (12, .getfield 30, 3), (15, .arraylength, 1), (16, .if_icmp .ge 65, 3), (19, .iload_n 2, 1), (20, .iload 5, 2), (22, .ishr, 1), (23, .ifCond .eq 58, 3), (26, .iload_n 2, 1), (27, .iload 5, 2), (29, .ishr, 1), (30, .iconst 1, 1), (31, .iand, 1), (32, .ifCond .eq 43, 3), (35, .aload_n 0, 1), (36, .getfield 41, 3), (39, .iload_n 1, 1), (40, .aload_n 0, 1), (41, .getfield 30, 3), (44, .iload 5, 2), (46, .iaload, 1), (47, .iadd, 1), (48, .iaload, 1), (49, .istore 6, 2), (51, .iload 6, 2), (53, .ifCond .ge 13, 3), (56, .iload_n 3, 1), (57, .iload 6, 2), (59, .invokestatic 172, 3), (62, .istore_n 3, 1), (63, .goto 12, 3), (66, .iload 4, 2), (68, .iload 6, 2), (70, .invokestatic 172, 3), (73, .istore 4, 2), (75, .iinc 5 1, 3), (78, .goto (-69), 3), (81, .iload_n 3, 1), (82, .ldc 181, 2), (84, .if_icmp .le 9, 3), (87, .iconst 1, 1), (88, .iload_n 3, 1), (89, .isub, 1), (90, .goto 8, 3), (93, .iload 4, 2), (95, .ineg, 1), (96, .iconst 1, 1), (97, .isub, 1), (98, .ireturn, 1)]
def k_Pa_trace : List (Nat × Instr × Nat) := [(0, .aload_n 0, 1), (1, .iconst 0, 1), (2, .putfield 59, 3), (5, .aload_n 0, 1), (6, .getfield 44, 3), (9, .iconst 4, 1), (10, .if_icmp .eq 12, 3), (13, .aload_n 0, 1), (14, .getfield 50, 3), (17, .ldc 177, 2), (19, .if_icmp .lt 4, 3), (22, .return_, 1), (23, .aload_n 0, 1), (24, .getfield 21, 3), (27, .istore_n 1, 1), (28, .aload_n 0, 1), (29, .getfield 27, 3), (32, .istore_n 2, 1), (33, .iconst 0, 1), (34, .istore_n 3, 1), (35, .iload_n 3, 1), (36, .aload_n 0, 1), (37, .getfield 56, 3), (40, .arraylength, 1), (41, .if_icmp .ge 53, 3), (44, .aload_n 0, 1), (45, .iload_n 1, 1), (46, .iload_n 2, 1), (47, .invokevirtual 182, 3), (50, .istore 4, 2), (52, .iload 4, 2), (54, .iconst (-1), 1), (55, .if_icmp .ne 4, 3), (58, .return_, 1), (59, .aload_n 0, 1), (60, .getfield 56, 3), (63, .iload_n 3, 1), (64, .iload 4, 2), (66, .iastore, 1), (67, .aload_n 0, 1), (68, .iload_n 3, 1), (69, .iconst 1, 1), (70, .iadd, 1), (71, .putfield 59, 3), (74, .iload_n 1, 1), (75, .iconst 1, 1), (76, .iload 4, 2), (78, .ishl, 1), (79, .ior, 1), (80, .istore_n 1, 1), (81, .aload_n 0, 1), (82, .iload 4, 2), (84, .invokevirtual 115, 3), (87, .istore_n 2, 1), (88, .iinc 3 1, 3), (91, .goto (-56), 3), (94, .return_, 1)]
def k_Pa_nextStep : List (Nat × Instr × Nat) := [(0, .aload_n 0, 1), (1, .getfield 44, 3), (4, .iconst 2, 1), (5, .if_icmp .ne 14, 3), (8, .iload_n 1, 1), (9, .aload_n 0, 1), (10, .getfield 47, 3), (13, .ishr, 1), (14, .iconst 1, 1), (15, .iand, 1), (16, .ifCond .ne 23, 3), (19, .aload_n 0, 1), (20, .getfield 44, 3), (23, .iconst 3, 1), (24, .if_icmp .ne 17, 3), (27, .aload_n 0, 1), (28, .iload_n 1, 1), (29, .invokevirtual 131, 3), (32, .aload_n 0, 1), (33, .getfield 47, 3), (36, .if_icmp .ne 5, 3), (39, .iconst (-1), 1), (40, .ireturn, 1), (41, .iload_n 1, 1), (42, .aload_n 0, 1), (43, .getfield 24, 3), (46, .imul, 1), (47, .istore_n 3, 1), (48, .aload_n 0, 1), (49, .getfield 37, 3), (52, .iload_n 3, 1), (53, .iload_n 2, 1), (54, .iadd, 1), (55, .saload, 1), (56, .istore 4, 2), (58, .iconst 0, 1), (59, .istore 5, 2), (61, .iload 5, 2), (63, .aload_n 0, 1), (64, .getfield 30, 3), (67, .arraylength, 1), (68, .if_icmp .ge 48, 3), (71, .iload 4, 2), (73, .iload 5, 2), (75, .ishr, 1), (76, .ifCond .eq 40, 3), (79, .iload 4, 2), (81, .iload 5, 2), (83, .ishr, 1), (84, .iconst 1, 1), (85, .iand, 1), (86, .ifCond .eq 24, 3), (89, .aload_n 0, 1), (90, .iload_n 3, 1), (91, .iload 5, 2), (93, .aload_n 0, 1), (94, .getfield 41, 3), (97, .iload_n 3, 1), (98, .iload_n 2, 1), (99, .iadd, 1), (100, .iaload, 1), (101, .invokevirtual 185, 3), (104, .ifCond .eq 6, 3), (107, .iload 5, 2), (109, .ireturn, 1), (110, .iinc 5 1, 3), (113, .goto (-52), 3), (116, .iconst (-1), 1), (117, .ireturn, 1)]
def k_Pa_leads : List (Nat × Instr × Nat) := [(0, .iload_n 2, 1), (1, .aload_n 0, 1), (2, .getfield 47, 3), (5, .if_icmp .ne 32, 3), (8, .aload_n 0, 1), (9, .getfield 44, 3), (12, .iconst 2, 1), (13, .if_icmp .eq 10, 3), (16, .aload_n 0, 1), (17, .getfield 44, 3), (20, .ifCond .ne 17, 3), (23, .aload_n 0, 1), (24, .getfield 44, 3), (27, .iconst 2, 1), (28, .if_icmp .ne 7, 3), (31, .iconst 1, 1), (32, .goto 4, 3), (35, .iconst 0, 1), (36, .ireturn, 1), (37, .aload_n 0, 1), (38, .getfield 44, 3), (41, .iconst 3, 1), (42, .if_icmp .ne 12, 3), (45, .aload_n 0, 1), (46, .getfield 53, 3), (49, .iload_n 2, 1), (50, .iaload, 1), (51, .goto 4, 3), (54, .iconst 1, 1), (55, .aload_n 0, 1), (56, .getfield 41, 3), (59, .iload_n 1, 1), (60, .aload_n 0, 1), (61, .getfield 30, 3), (64, .iload_n 2, 1), (65, .iaload, 1), (66, .iadd, 1), (67, .iaload, 1), (68, .iadd, 1), (69, .iload_n 3, 1), (70, .if_icmp .ne 7, 3), (73, .iconst 1, 1), (74, .goto 4, 3), (77, .iconst 0, 1), (78, .ireturn, 1)]
def k_Pa_step : List (Nat × Instr × Nat) := [(0, .iload_n 1, 1), (1, .ifCond .lt 20, 3), (4, .iload_n 1, 1), (5, .aload_n 0, 1), (6, .getfield 59, 3), (9, .if_icmp .ge 12, 3), (12, .aload_n 0, 1), (13, .getfield 56, 3), (16, .iload_n 1, 1), (17, .iaload, 1), (18, .goto 4, 3), (21, .iconst (-1), 1), (22, .ireturn, 1)]
def k_Pa_firstWinning : List (Nat × Instr × Nat) := [(0, .aload_n 0, 1), (1, .getfield 21, 3), (4, .aload_n 0, 1), (5, .getfield 24, 3), (8, .imul, 1), (9, .istore_n 1, 1), (10, .aload_n 0, 1), (11, .getfield 37, 3), (14, .iload_n 1, 1), (15, .aload_n 0, 1), (16, .getfield 27, 3), (19, .iadd, 1), (20, .saload, 1), (21, .istore_n 2, 1), (22, .iconst 0, 1), (23, .istore_n 3, 1), (24, .iload_n 3, 1), (25, .aload_n 0, 1), (26, .getfield 30, 3), (29, .arraylength, 1), (30, .if_icmp .ge 41, 3), (33, .iload_n 2, 1), (34, .iload_n 3, 1), (35, .ishr, 1), (36, .ifCond .eq 35, 3), (39, .iload_n 2, 1), (40, .iload_n 3, 1), (41, .ishr, 1), (42, .iconst 1, 1), (43, .iand, 1), (44, .ifCond .eq 21, 3), (47, .aload_n 0, 1), (48, .getfield 41, 3), (51, .iload_n 1, 1), (52, .aload_n 0, 1), (53, .getfield 30, 3), (56, .iload_n 3, 1), (57, .iaload, 1), (58, .iadd, 1), (59, .iaload, 1), (60, .ifCond .ge 5, 3), (63, .iload_n 3, 1), (64, .ireturn, 1), (65, .iinc 3 1, 3), (68, .goto (-44), 3), (71, .iconst (-1), 1), (72, .ireturn, 1)]
def k_Pa_reached : List (Nat × Instr × Nat) := [(0, .iconst 0, 1), (1, .istore_n 1, 1), (2, .aload_n 0, 1), (3, .getfield 21, 3), (6, .istore_n 2, 1), (7, .iload_n 2, 1), (8, .aload_n 0, 1), (9, .getfield 72, 3), (12, .getfield 118, 3), (15, .if_icmp .gt 28, 3), (18, .aload_n 0, 1), (19, .getfield 34, 3), (22, .iload_n 2, 1), (23, .iaload, 1), (24, .ifCond .eq 7, 3), (27, .iload_n 1, 1), (28, .iload_n 2, 1), (29, .ior, 1), (30, .istore_n 1, 1), (31, .iload_n 2, 1), (32, .iconst 1, 1), (33, .iadd, 1), (34, .aload_n 0, 1), (35, .getfield 21, 3), (38, .ior, 1), (39, .istore_n 2, 1), (40, .goto (-33), 3), (43, .iload_n 1, 1), (44, .aload_n 0, 1), (45, .getfield 21, 3), (48, .iconst (-1), 1), (49, .ixor, 1), (50, .iand, 1), (51, .ireturn, 1)]
def k_Pa_needed : List (Nat × Instr × Nat) := [(0, .aload_n 0, 1), (1, .getfield 72, 3), (4, .getfield 118, 3), (7, .istore_n 2, 1), (8, .iconst 0, 1), (9, .istore_n 3, 1), (10, .aload_n 0, 1), (11, .getfield 21, 3), (14, .istore 4, 2), (16, .iload 4, 2), (18, .aload_n 0, 1), (19, .getfield 72, 3), (22, .getfield 118, 3), (25, .if_icmp .gt 44, 3), (28, .aload_n 0, 1), (29, .getfield 34, 3), (32, .iload 4, 2), (34, .iaload, 1), (35, .ifCond .eq 20, 3), (38, .aload_n 0, 1), (39, .iload 4, 2), (41, .iload_n 1, 1), (42, .invokevirtual 189, 3), (45, .ifCond .eq 10, 3), (48, .iload_n 2, 1), (49, .iload 4, 2), (51, .iand, 1), (52, .istore_n 2, 1), (53, .iconst 1, 1), (54, .istore_n 3, 1), (55, .iload 4, 2), (57, .iconst 1, 1), (58, .iadd, 1), (59, .aload_n 0, 1), (60, .getfield 21, 3), (63, .ior, 1), (64, .istore 4, 2), (66, .goto (-50), 3), (69, .iload_n 3, 1), (70, .ifCond .eq 14, 3), (73, .iload_n 2, 1), (74, .aload_n 0, 1), (75, .getfield 21, 3), (78, .iconst (-1), 1), (79, .ixor, 1), (80, .iand, 1), (81, .goto 4, 3), (84, .iconst 0, 1), (85, .ireturn, 1)]
def k_Pa_opens : List (Nat × Instr × Nat) := [(0, .iconst 0, 1), (1, .istore_n 3, 1), (2, .iload_n 3, 1), (3, .aload_n 0, 1), (4, .getfield 24, 3), (7, .if_icmp .ge 44, 3), (10, .aload_n 0, 1), (11, .getfield 34, 3), (14, .iload_n 1, 1), (15, .iaload, 1), (16, .iload_n 3, 1), (17, .ishr, 1), (18, .iconst 1, 1), (19, .iand, 1), (20, .ifCond .eq 25, 3), (23, .aload_n 0, 1), (24, .getfield 37, 3), (27, .iload_n 1, 1), (28, .aload_n 0, 1), (29, .getfield 24, 3), (32, .imul, 1), (33, .iload_n 3, 1), (34, .iadd, 1), (35, .saload, 1), (36, .iload_n 2, 1), (37, .ishr, 1), (38, .iconst 1, 1), (39, .iand, 1), (40, .ifCond .eq 5, 3), (43, .iconst 1, 1), (44, .ireturn, 1), (45, .iinc 3 1, 3), (48, .goto (-46), 3), (51, .iconst 0, 1), (52, .ireturn, 1)]
def k_Pa_tally : List (Nat × Instr × Nat) := [(0, .aload_n 0, 1), (1, .getfield 68, 3), (4, .ldc2_w 66, 3), (7, .lcmp, 1), (8, .ifCond .eq 4, 3), (11, .return_, 1), (12, .aload_n 0, 1), (13, .iconst (-1), 1), (14, .putfield 44, 3), (17, .aload_n 0, 1), (18, .lconst 0, 1), (19, .putfield 68, 3), (22, .aload_n 0, 1), (23, .getfield 62, 3), (26, .lconst 0, 1), (27, .invokestatic 193, 3), (30, .aload_n 0, 1), (31, .getfield 41, 3), (34, .iconst 0, 1), (35, .invokestatic 125, 3), (38, .aload_n 0, 1), (39, .getfield 41, 3), (42, .aload_n 0, 1), (43, .getfield 21, 3), (46, .aload_n 0, 1), (47, .getfield 24, 3), (50, .imul, 1), (51, .aload_n 0, 1), (52, .getfield 27, 3), (55, .iadd, 1), (56, .iconst 1, 1), (57, .iastore, 1), (58, .aload_n 0, 1), (59, .getfield 21, 3), (62, .istore_n 1, 1), (63, .iload_n 1, 1), (64, .aload_n 0, 1), (65, .getfield 72, 3), (68, .getfield 118, 3), (71, .if_icmp .gt 29, 3), (74, .aload_n 0, 1), (75, .getfield 34, 3), (78, .iload_n 1, 1), (79, .iaload, 1), (80, .ifCond .eq 8, 3), (83, .aload_n 0, 1), (84, .iload_n 1, 1), (85, .invokevirtual 196, 3), (88, .iload_n 1, 1), (89, .iconst 1, 1), (90, .iadd, 1), (91, .aload_n 0, 1), (92, .getfield 21, 3), (95, .ior, 1), (96, .istore_n 1, 1), (97, .goto (-34), 3), (100, .return_, 1)]
def k_Pa_tallyAt : List (Nat × Instr × Nat) := [(0, .iload_n 1, 1), (1, .aload_n 0, 1), (2, .getfield 24, 3), (5, .imul, 1), (6, .istore_n 2, 1), (7, .iconst 0, 1), (8, .istore_n 3, 1), (9, .iconst 0, 1), (10, .istore 4, 2), (12, .iconst 0, 1), (13, .istore 5, 2), (15, .iload 5, 2), (17, .aload_n 0, 1), (18, .getfield 24, 3), (21, .if_icmp .ge 94, 3), (24, .aload_n 0, 1), (25, .getfield 34, 3), (28, .iload_n 1, 1), (29, .iaload, 1), (30, .iload 5, 2), (32, .ishr, 1), (33, .iconst 1, 1), (34, .iand, 1), (35, .ifCond .eq 74, 3), (38, .aload_n 0, 1), (39, .getfield 37, 3), (42, .iload_n 2, 1), (43, .iload 5, 2), (45, .iadd, 1), (46, .saload, 1), (47, .iload_n 3, 1), (48, .if_icmp .eq 24, 3), (51, .aload_n 0, 1), (52, .iload_n 2, 1), (53, .iload_n 3, 1), (54, .iload 4, 2), (56, .invokevirtual 199, 3), (59, .aload_n 0, 1), (60, .getfield 37, 3), (63, .iload_n 2, 1), (64, .iload 5, 2), (66, .iadd, 1), (67, .saload, 1), (68, .istore_n 3, 1), (69, .iconst 0, 1), (70, .istore 4, 2), (72, .iload 4, 2), (74, .aload_n 0, 1), (75, .getfield 41, 3), (78, .iload_n 2, 1), (79, .iload 5, 2), (81, .iadd, 1), (82, .iaload, 1), (83, .iadd, 1), (84, .istore 4, 2), (86, .aload_n 0, 1), (87, .getfield 62, 3), (90, .aload_n 0, 1), (91, .iload_n 1, 1), (92, .invokevirtual 131, 3), (95, .dup2, 1), (96, .laload, 1), (97, .aload_n 0, 1), (98, .getfield 41, 3), (101, .iload_n 2, 1), (102, .iload 5, 2), (104, .iadd, 1), (105, .iaload, 1), (106, .i2l, 1), (107, .ladd, 1), (108, .lastore, 1), (109, .iinc 5 1, 3), (112, .goto (-97), 3), (115, .aload_n 0, 1), (116, .iload_n 2, 1), (117, .iload_n 3, 1), (118, .iload 4, 2), (120, .invokevirtual 199, 3), (123, .return_, 1)]
def k_Pa_passOn : List (Nat × Instr × Nat) := [(0, .iload_n 2, 1), (1, .ifCond .ne 14, 3), (4, .aload_n 0, 1), (5, .dup, 1), (6, .getfield 68, 3), (9, .iload_n 3, 1), (10, .i2l, 1), (11, .ladd, 1), (12, .putfield 68, 3), (15, .iconst 0, 1), (16, .istore 4, 2), (18, .iload 4, 2), (20, .aload_n 0, 1), (21, .getfield 30, 3), (24, .arraylength, 1), (25, .if_icmp .ge 43, 3), (28, .iload_n 2, 1), (29, .iload 4, 2), (31, .ishr, 1), (32, .ifCond .eq 36, 3), (35, .iload_n 2, 1), (36, .iload 4, 2), (38, .ishr, 1), (39, .iconst 1, 1), (40, .iand, 1), (41, .ifCond .eq 21, 3), (44, .aload_n 0, 1), (45, .getfield 41, 3), (48, .iload_n 1, 1), (49, .aload_n 0, 1), (50, .getfield 30, 3), (53, .iload 4, 2), (55, .iaload, 1), (56, .iadd, 1), (57, .dup2, 1), (58, .iaload, 1), (59, .iload_n 3, 1), (60, .iadd, 1), (61, .iastore, 1), (62, .iinc 4 1, 3), (65, .goto (-47), 3), (68, .return_, 1)]
def k_Pe_new : List (Nat × Instr × Nat) := [(0, .aload_n 0, 1), (1, .invokespecial 3, 3), (4, .aload_n 0, 1), (5, .iconst (-1), 1), (6, .putfield 9, 3), (9, .aload_n 0, 1), (10, .sipush 169, 3), (13, .newarray .long, 2), (15, .putfield 15, 3), (18, .aload_n 0, 1), (19, .sipush 169, 3), (22, .newarray .long, 2), (24, .putfield 19, 3), (27, .aload_n 0, 1), (28, .aload_n 1, 1), (29, .putfield 22, 3), (32, .aload_n 0, 1), (33, .iload_n 2, 1), (34, .putfield 26, 3), (37, .return_, 1)]
def k_Pe_serve : List (Nat × Instr × Nat) := [(0, .aload_n 0, 1), (1, .getfield 22, 3), (4, .aload_n 1, 1), (5, .if_acmp .ne 11, 3), (8, .aload_n 0, 1), (9, .getfield 9, 3), (12, .iload_n 2, 1), (13, .if_icmp .eq 29, 3), (16, .aload_n 0, 1), (17, .aload_n 1, 1), (18, .putfield 22, 3), (21, .aload_n 0, 1), (22, .iload_n 2, 1), (23, .putfield 9, 3), (26, .aload_n 0, 1), (27, .getfield 15, 3), (30, .lconst 0, 1), (31, .invokestatic 29, 3), (34, .aload_n 0, 1), (35, .getfield 19, 3), (38, .lconst 0, 1), (39, .invokestatic 29, 3), (42, .return_, 1)]
def k_Pe_open : List (Nat × Instr × Nat) := [(0, .aload_n 0, 1), (1, .getfield 22, 3), (4, .getfield 35, 3), (7, .ifCond .eq 10, 3), (10, .iload_n 3, 1), (11, .bipush 13, 2), (13, .imul, 1), (14, .goto 4, 3), (17, .iconst 0, 1), (18, .aload_n 0, 1), (19, .getfield 22, 3), (22, .getfield 41, 3), (25, .ifCond .eq 10, 3), (28, .iload 4, 2), (30, .iconst 1, 1), (31, .iadd, 1), (32, .goto 4, 3), (35, .iconst 0, 1), (36, .iadd, 1), (37, .istore 5, 2), (39, .iload 5, 2), (41, .ifCond .lt 13, 3), (44, .iload 5, 2), (46, .aload_n 0, 1), (47, .getfield 15, 3), (50, .arraylength, 1), (51, .if_icmp .lt 5, 3), (54, .iconst 0, 1), (55, .ireturn, 1), (56, .lload_n 1, 1), (57, .aload_n 0, 1), (58, .getfield 15, 3), (61, .iload 5, 2), (63, .laload, 1), (64, .ldc2_w 44, 3), (67, .lxor, 1), (68, .land, 1), (69, .lstore 6, 2), (71, .lload 6, 2), (73, .lconst 0, 1), (74, .lcmp, 1), (75, .ifCond .eq 14, 3), (78, .aload_n 0, 1), (79, .iload 5, 2), (81, .lload 6, 2), (83, .iload_n 3, 1), (84, .iload 4, 2), (86, .invokevirtual 46, 3), (89, .lload_n 1, 1), (90, .aload_n 0, 1), (91, .getfield 19, 3), (94, .iload 5, 2), (96, .laload, 1), (97, .land, 1), (98, .lstore 8, 2), (100, .lload 8, 2), (102, .lload 8, 2), (104, .bipush 12, 2), (106, .lushr, 1), (107, .lor, 1), (108, .lload 8, 2), (110, .bipush 24, 2), (112, .lushr, 1), (113, .lor, 1), (114, .lload 8, 2), (116, .bipush 36, 2), (118, .lushr, 1), (119, .lor, 1), (120, .lload 8, 2), (122, .bipush 48, 2), (124, .lushr, 1), (125, .lor, 1), (126, .l2i, 1), (127, .sipush 4095, 3), (130, .iand, 1), (131, .ireturn, 1)]
def k_Pe_learn : List (Nat × Instr × Nat) := [(0, .iconst 0, 1), (1, .istore 6, 2), (3, .iload 6, 2), (5, .bipush 60, 2), (7, .if_icmp .ge 65, 3), (10, .lload_n 2, 1), (11, .iload 6, 2), (13, .lushr, 1), (14, .lconst 1, 1), (15, .land, 1), (16, .lconst 0, 1), (17, .lcmp, 1), (18, .ifCond .eq 48, 3), (21, .aload_n 0, 1), (22, .getfield 22, 3), (25, .aload_n 0, 1), (26, .getfield 26, 3), (29, .aload_n 0, 1), (30, .getfield 9, 3), (33, .iload 6, 2), (35, .bipush 12, 2), (37, .irem, 1), (38, .iload 6, 2), (40, .bipush 12, 2), (42, .idiv, 1), (43, .iload 4, 2), (45, .iload 5, 2), (47, .invokevirtual 50, 3), (50, .ifCond .eq 16, 3), (53, .aload_n 0, 1), (54, .getfield 19, 3), (57, .iload_n 1, 1), (58, .dup2, 1), (59, .laload, 1), (60, .lconst 1, 1), (61, .iload 6, 2), (63, .lshl, 1), (64, .lor, 1), (65, .lastore, 1), (66, .iinc 6 1, 3), (69, .goto (-66), 3), (72, .aload_n 0, 1), (73, .getfield 15, 3), (76, .iload_n 1, 1), (77, .dup2, 1), (78, .laload, 1), (79, .lload_n 2, 1), (80, .lor, 1), (81, .lastore, 1), (82, .return_, 1)]
def k_Re_new : List (Nat × Instr × Nat) := [(0, .aload_n 0, 1), (1, .invokespecial 3, 3), (4, .aload_n 0, 1), (5, .new 9, 3), (8, .dup, 1), (9, .invokespecial 11, 3), (12, .putfield 12, 3), (15, .aload_n 0, 1), (16, .bipush 12, 2), (18, .newarray .int, 2), (20, .putfield 18, 3), (23, .aload_n 0, 1), (24, .sipush 900, 3), (27, .newarray .int, 2), (29, .putfield 22, 3), (32, .aload_n 0, 1), (33, .iconst 0, 1), (34, .putfield 25, 3), (37, .aload_n 0, 1), (38, .iconst 0, 1), (39, .putfield 29, 3), (42, .aload_n 0, 1), (43, .iconst 1, 1), (44, .putfield 33, 3), (47, .aload_n 0, 1), (48, .iconst 1, 1), (49, .putfield 36, 3), (52, .aload_n 0, 1), (53, .iconst 0, 1), (54, .putfield 39, 3), (57, .aload_n 0, 1), (58, .iconst 0, 1), (59, .putfield 42, 3), (62, .aload_n 0, 1), (63, .aconst_null, 1), (64, .putfield 45, 3), (67, .aload_n 0, 1), (68, .aconst_null, 1), (69, .putfield 49, 3), (72, .aload_n 0, 1), (73, .iconst 0, 1), (74, .putfield 52, 3), (77, .aload_n 0, 1), (78, .iconst (-1), 1), (79, .putfield 55, 3), (82, .aload_n 0, 1), (83, .new 58, 3), (86, .dup, 1), (87, .invokespecial 60, 3), (90, .putfield 61, 3), (93, .return_, 1)]
def k_Re_read : List (Nat × Instr × Nat) := [(0, .aload_n 0, 1), (1, .invokevirtual 65, 3), (4, .aload_n 0, 1), (5, .getfield 12, 3), (8, .aload_n 1, 1), (9, .iload_n 2, 1), (10, .invokevirtual 68, 3), (13, .aload_n 0, 1), (14, .invokevirtual 72, 3), (17, .iconst 0, 1), (18, .istore_n 3, 1), (19, .iload_n 3, 1), (20, .sipush 900, 3), (23, .if_icmp .ge 136, 3), (26, .aload_n 0, 1), (27, .getfield 52, 3), (30, .ifCond .ne 129, 3), (33, .aload_n 0, 1), (34, .getfield 12, 3), (37, .getfield 75, 3), (40, .ifCond .eq 119, 3), (43, .aload_n 0, 1), (44, .getfield 12, 3), (47, .getfield 75, 3), (50, .sipush 206, 3), (53, .if_icmp .ne 35, 3), (56, .aload_n 0, 1), (57, .iconst 1, 1), (58, .invokevirtual 78, 3), (61, .aload_n 0, 1), (62, .iconst 0, 1), (63, .invokevirtual 82, 3), (66, .aload_n 0, 1), (67, .new 86, 3), (70, .dup, 1), (71, .aload_n 0, 1), (72, .getfield 22, 3), (75, .aload_n 0, 1), (76, .getfield 25, 3), (79, .invokespecial 88, 3), (82, .putfield 45, 3), (85, .goto 52, 3), (88, .aload_n 0, 1), (89, .getfield 12, 3), (92, .getfield 75, 3), (95, .sipush 207, 3), (98, .if_icmp .ne 35, 3), (101, .aload_n 0, 1), (102, .iconst 0, 1), (103, .invokevirtual 78, 3), (106, .aload_n 0, 1), (107, .iconst 0, 1), (108, .invokevirtual 91, 3), (111, .aload_n 0, 1), (112, .new 86, 3), (115, .dup, 1), (116, .aload_n 0, 1), (117, .getfield 22, 3), (120, .aload_n 0, 1), (121, .getfield 25, 3), (124, .invokespecial 88, 3), (127, .putfield 49, 3), (130, .goto 7, 3), (133, .aload_n 0, 1), (134, .invokevirtual 94, 3), (137, .aload_n 0, 1), (138, .bipush 59, 2), (140, .invokevirtual 97, 3), (143, .aload_n 0, 1), (144, .dup, 1), (145, .getfield 42, 3), (148, .iconst 1, 1), (149, .iadd, 1), (150, .putfield 42, 3), (153, .iinc 3 1, 3), (156, .goto (-137), 3), (159, .aload_n 0, 1), (160, .getfield 52, 3), (163, .ifCond .ne 41, 3), (166, .new 100, 3), (169, .dup, 1), (170, .aload_n 0, 1), (171, .getfield 33, 3), (174, .aload_n 0, 1), (175, .getfield 36, 3), (178, .aload_n 0, 1), (179, .getfield 18, 3), (182, .aload_n 0, 1), (183, .getfield 39, 3), (186, .aload_n 0, 1), (187, .getfield 42, 3), (190, .aload_n 0, 1), (191, .getfield 45, 3), (194, .aload_n 0, 1), (195, .getfield 49, 3), (198, .invokespecial 102, 3), (201, .goto 4, 3), (204, .aconst_null, 1), (205, .areturn, 1)]
def k_Re_forget : List (Nat × Instr × Nat) := [(0, .aload_n 0, 1), (1, .iconst 0, 1), (2, .putfield 52, 3), (5, .aload_n 0, 1), (6, .iconst (-1), 1), (7, .putfield 55, 3), (10, .aload_n 0, 1), (11, .iconst 0, 1), (12, .putfield 39, 3), (15, .aload_n 0, 1), (16, .iconst 0, 1), (17, .putfield 42, 3), (20, .aload_n 0, 1), (21, .aconst_null, 1), (22, .putfield 45, 3), (25, .aload_n 0, 1), (26, .aconst_null, 1), (27, .putfield 49, 3), (30, .aload_n 0, 1), (31, .getfield 18, 3), (34, .iconst 0, 1), (35, .invokestatic 105, 3), (38, .aload_n 0, 1), (39, .getfield 61, 3), (42, .invokevirtual 110, 3), (45, .return_, 1)]
def k_Re_refuse : List (Nat × Instr × Nat) := [(0, .aload_n 0, 1), (1, .getfield 52, 3), (4, .ifCond .ne 34, 3), (7, .aload_n 0, 1), (8, .aload_n 0, 1), (9, .getfield 12, 3), (12, .getfield 75, 3), (15, .iconst 1, 1), (16, .if_icmp .ne 7, 3), (19, .iconst 1, 1), (20, .goto 4, 3), (23, .iload_n 1, 1), (24, .putfield 52, 3), (27, .aload_n 0, 1), (28, .aload_n 0, 1), (29, .getfield 12, 3), (32, .getfield 113, 3), (35, .putfield 55, 3), (38, .return_, 1)]
def k_Re_expect : List (Nat × Instr × Nat) := [(0, .aload_n 0, 1), (1, .getfield 52, 3), (4, .ifCond .ne 24, 3), (7, .aload_n 0, 1), (8, .getfield 12, 3), (11, .getfield 75, 3), (14, .iload_n 1, 1), (15, .if_icmp .ne 13, 3), (18, .aload_n 0, 1), (19, .getfield 12, 3), (22, .invokevirtual 114, 3), (25, .goto 8, 3), (28, .aload_n 0, 1), (29, .iconst 2, 1), (30, .invokevirtual 117, 3), (33, .return_, 1)]
def k_Re_number : List (Nat × Instr × Nat) := [(0, .aload_n 0, 1), (1, .getfield 12, 3), (4, .getfield 75, 3), (7, .sipush 1000, 3), (10, .isub, 1), (11, .istore_n 3, 1), (12, .aload_n 0, 1), (13, .getfield 52, 3), (16, .ifCond .ne 7, 3), (19, .iload_n 3, 1), (20, .ifCond .ge 10, 3), (23, .aload_n 0, 1), (24, .iconst 2, 1), (25, .invokevirtual 117, 3), (28, .iload_n 1, 1), (29, .ireturn, 1), (30, .iload_n 3, 1), (31, .iload_n 1, 1), (32, .if_icmp .lt 8, 3), (35, .iload_n 3, 1), (36, .iload_n 2, 1), (37, .if_icmp .le 10, 3), (40, .aload_n 0, 1), (41, .iconst 3, 1), (42, .invokevirtual 117, 3), (45, .iload_n 1, 1), (46, .ireturn, 1), (47, .aload_n 0, 1), (48, .getfield 12, 3), (51, .invokevirtual 114, 3), (54, .iload_n 3, 1), (55, .ireturn, 1)]
def k_Re_head : List (Nat × Instr × Nat) := [(0, .aload_n 0, 1), (1, .sipush 200, 3), (4, .invokevirtual 97, 3), (7, .aload_n 0, 1), (8, .iconst 1, 1), (9, .aload_n 0, 1), (10, .iconst 1, 1), (11, .bipush 12, 2), (13, .invokevirtual 120, 3), (16, .invokestatic 124, 3), (19, .putfield 33, 3), (22, .aload_n 0, 1), (23, .aload_n 0, 1), (24, .iconst 1, 1), (25, .bipush 12, 2), (27, .aload_n 0, 1), (28, .getfield 33, 3), (31, .idiv, 1), (32, .invokevirtual 120, 3), (35, .putfield 36, 3), (38, .aload_n 0, 1), (39, .bipush 59, 2), (41, .invokevirtual 97, 3), (44, .aload_n 0, 1), (45, .iconst 1, 1), (46, .putfield 42, 3), (49, .return_, 1)]
def k_Re_line : List (Nat × Instr × Nat) := [(0, .aload_n 0, 1), (1, .getfield 12, 3), (4, .getfield 75, 3), (7, .tableswitch 69 201 205 #[33, 40, 69, 47, 55], 33), (40, .aload_n 0, 1), (41, .invokevirtual 129, 3), (44, .goto 37, 3), (47, .aload_n 0, 1), (48, .invokevirtual 132, 3), (51, .goto 30, 3), (54, .aload_n 0, 1), (55, .invokevirtual 135, 3), (58, .pop, 1), (59, .goto 22, 3), (62, .aload_n 0, 1), (63, .getfield 61, 3), (66, .aload_n 0, 1), (67, .invokevirtual 135, 3), (70, .putfield 139, 3), (73, .goto 8, 3), (76, .aload_n 0, 1), (77, .iconst 2, 1), (78, .invokevirtual 117, 3), (81, .return_, 1)]
def k_Re_rowLine : List (Nat × Instr × Nat) := [(0, .aload_n 0, 1), (1, .getfield 12, 3), (4, .invokevirtual 114, 3), (7, .aload_n 0, 1), (8, .iconst 0, 1), (9, .aload_n 0, 1), (10, .getfield 33, 3), (13, .iconst 1, 1), (14, .isub, 1), (15, .invokevirtual 120, 3), (18, .aload_n 0, 1), (19, .getfield 36, 3), (22, .imul, 1), (23, .istore_n 1, 1), (24, .iconst 0, 1), (25, .istore_n 2, 1), (26, .iload_n 2, 1), (27, .aload_n 0, 1), (28, .getfield 36, 3), (31, .if_icmp .ge 37, 3), (34, .aload_n 0, 1), (35, .iconst 0, 1), (36, .bipush 8, 2), (38, .invokevirtual 120, 3), (41, .istore_n 3, 1), (42, .iload_n 1, 1), (43, .iload_n 2, 1), (44, .iadd, 1), (45, .aload_n 0, 1), (46, .getfield 18, 3), (49, .arraylength, 1), (50, .if_icmp .ge 12, 3), (53, .aload_n 0, 1), (54, .getfield 18, 3), (57, .iload_n 1, 1), (58, .iload_n 2, 1), (59, .iadd, 1), (60, .iload_n 3, 1), (61, .iastore, 1), (62, .iinc 2 1, 3), (65, .goto (-39), 3), (68, .return_, 1)]
def k_Re_handLine : List (Nat × Instr × Nat) := [(0, .aload_n 0, 1), (1, .getfield 39, 3), (4, .iconst 4, 1), (5, .if_icmp .lt 9, 3), (8, .aload_n 0, 1), (9, .iconst 4, 1), (10, .invokevirtual 117, 3), (13, .return_, 1), (14, .aload_n 0, 1), (15, .getfield 12, 3), (18, .invokevirtual 114, 3), (21, .iconst 0, 1), (22, .istore_n 1, 1), (23, .iload_n 1, 1), (24, .sipush 900, 3), (27, .if_icmp .ge 54, 3), (30, .aload_n 0, 1), (31, .getfield 52, 3), (34, .ifCond .ne 47, 3), (37, .aload_n 0, 1), (38, .getfield 12, 3), (41, .getfield 75, 3), (44, .sipush 203, 3), (47, .if_icmp .ne 34, 3), (50, .aload_n 0, 1), (51, .getfield 12, 3), (54, .invokevirtual 114, 3), (57, .aload_n 0, 1), (58, .getfield 61, 3), (61, .aload_n 0, 1), (62, .getfield 39, 3), (65, .aload_n 0, 1), (66, .iconst 0, 1), (67, .bipush 9, 2), (69, .invokevirtual 120, 3), (72, .invokevirtual 142, 3), (75, .iinc 1 1, 3), (78, .goto (-55), 3), (81, .aload_n 0, 1), (82, .dup, 1), (83, .getfield 39, 3), (86, .iconst 1, 1), (87, .iadd, 1), (88, .putfield 39, 3), (91, .return_, 1)]
def k_Re_drawnLine : List (Nat × Instr × Nat) := [(0, .aload_n 0, 1), (1, .getfield 12, 3), (4, .invokevirtual 114, 3), (7, .aload_n 0, 1), (8, .iconst 0, 1), (9, .aload_n 0, 1), (10, .getfield 33, 3), (13, .aload_n 0, 1), (14, .getfield 36, 3), (17, .imul, 1), (18, .iconst 1, 1), (19, .isub, 1), (20, .invokevirtual 120, 3), (23, .istore_n 1, 1), (24, .aload_n 0, 1), (25, .getfield 61, 3), (28, .dup, 1), (29, .getfield 146, 3), (32, .iconst 1, 1), (33, .iload_n 1, 1), (34, .ishl, 1), (35, .ior, 1), (36, .putfield 146, 3), (39, .iload_n 1, 1), (40, .ireturn, 1)]
def k_Re_beginLaw : List (Nat × Instr × Nat) := [(0, .aload_n 0, 1), (1, .getfield 12, 3), (4, .invokevirtual 114, 3), (7, .aload_n 0, 1), (8, .bipush 58, 2), (10, .invokevirtual 97, 3), (13, .aload_n 0, 1), (14, .iconst 0, 1), (15, .putfield 25, 3), (18, .aload_n 0, 1), (19, .iload_n 1, 1), (20, .putfield 29, 3), (23, .return_, 1)]
def k_Re_truth : List (Nat × Instr × Nat) := [(0, .iconst 0, 1), (1, .istore_n 2, 1), (2, .iload_n 2, 1), (3, .sipush 900, 3), (6, .if_icmp .ge 107, 3), (9, .aload_n 0, 1), (10, .getfield 52, 3), (13, .ifCond .ne 100, 3), (16, .aload_n 0, 1), (17, .iload_n 1, 1), (18, .invokevirtual 149, 3), (21, .iconst 0, 1), (22, .istore_n 3, 1), (23, .iload_n 3, 1), (24, .sipush 900, 3), (27, .if_icmp .ge 48, 3), (30, .aload_n 0, 1), (31, .getfield 52, 3), (34, .ifCond .ne 41, 3), (37, .aload_n 0, 1), (38, .getfield 12, 3), (41, .getfield 75, 3), (44, .sipush 209, 3), (47, .if_icmp .ne 28, 3), (50, .aload_n 0, 1), (51, .getfield 12, 3), (54, .invokevirtual 114, 3), (57, .aload_n 0, 1), (58, .iload_n 1, 1), (59, .invokevirtual 149, 3), (62, .aload_n 0, 1), (63, .sipush 2002, 3), (66, .invokevirtual 152, 3), (69, .iinc 3 1, 3), (72, .goto (-49), 3), (75, .iload_n 2, 1), (76, .ifCond .le 10, 3), (79, .aload_n 0, 1), (80, .sipush 2001, 3), (83, .invokevirtual 152, 3), (86, .aload_n 0, 1), (87, .getfield 12, 3), (90, .getfield 75, 3), (93, .sipush 208, 3), (96, .if_icmp .eq 4, 3), (99, .return_, 1), (100, .aload_n 0, 1), (101, .getfield 12, 3), (104, .invokevirtual 114, 3), (107, .iinc 2 1, 3), (110, .goto (-108), 3), (113, .return_, 1)]
def k_Re_unit : List (Nat × Instr × Nat) := [(0, .aload_n 0, 1), (1, .getfield 12, 3), (4, .getfield 75, 3), (7, .sipush 210, 3), (10, .if_icmp .ne 28, 3), (13, .aload_n 0, 1), (14, .iload_n 1, 1), (15, .invokevirtual 155, 3), (18, .ifCond .eq 76, 3), (21, .aload_n 0, 1), (22, .iload_n 1, 1), (23, .iconst 1, 1), (24, .iadd, 1), (25, .invokevirtual 149, 3), (28, .aload_n 0, 1), (29, .sipush 2000, 3), (32, .invokevirtual 152, 3), (35, .goto 59, 3), (38, .aload_n 0, 1), (39, .getfield 12, 3), (42, .getfield 75, 3), (45, .bipush 91, 2), (47, .if_icmp .ne 27, 3), (50, .aload_n 0, 1), (51, .iload_n 1, 1), (52, .invokevirtual 155, 3), (55, .ifCond .eq 39, 3), (58, .aload_n 0, 1), (59, .iload_n 1, 1), (60, .iconst 1, 1), (61, .iadd, 1), (62, .invokevirtual 82, 3), (65, .aload_n 0, 1), (66, .bipush 93, 2), (68, .invokevirtual 97, 3), (71, .goto 23, 3), (74, .aload_n 0, 1), (75, .iload_n 1, 1), (76, .invokevirtual 91, 3), (79, .aload_n 0, 1), (80, .invokevirtual 159, 3), (83, .istore_n 2, 1), (84, .aload_n 0, 1), (85, .iload_n 1, 1), (86, .invokevirtual 91, 3), (89, .aload_n 0, 1), (90, .iload_n 2, 1), (91, .invokevirtual 152, 3), (94, .return_, 1)]
def k_Re_mayNest : List (Nat × Instr × Nat) := [(0, .aload_n 0, 1), (1, .getfield 52, 3), (4, .ifCond .ne 9, 3), (7, .iload_n 1, 1), (8, .bipush 6, 2), (10, .if_icmp .lt 10, 3), (13, .aload_n 0, 1), (14, .iconst 4, 1), (15, .invokevirtual 117, 3), (18, .iconst 0, 1), (19, .ireturn, 1), (20, .aload_n 0, 1), (21, .getfield 12, 3), (24, .invokevirtual 114, 3), (27, .iconst 1, 1), (28, .ireturn, 1)]
def k_Re_comparison : List (Nat × Instr × Nat) := [(0, .aload_n 0, 1), (1, .getfield 12, 3), (4, .getfield 75, 3), (7, .bipush 61, 2), (9, .if_icmp .ne 9, 3), (12, .sipush 2003, 3), (15, .goto 24, 3), (18, .aload_n 0, 1), (19, .getfield 12, 3), (22, .getfield 75, 3), (25, .bipush 60, 2), (27, .if_icmp .ne 9, 3), (30, .sipush 2004, 3), (33, .goto 6, 3), (36, .sipush 2005, 3), (39, .istore_n 1, 1), (40, .iload_n 1, 1), (41, .sipush 2005, 3), (44, .if_icmp .ne 12, 3), (47, .aload_n 0, 1), (48, .bipush 62, 2), (50, .invokevirtual 97, 3), (53, .goto 17, 3), (56, .aload_n 0, 1), (57, .getfield 52, 3), (60, .ifCond .ne 10, 3), (63, .aload_n 0, 1), (64, .getfield 12, 3), (67, .invokevirtual 114, 3), (70, .iload_n 1, 1), (71, .ireturn, 1)]
def k_Re_sum : List (Nat × Instr × Nat) := [(0, .iconst 0, 1), (1, .istore_n 2, 1), (2, .iconst 0, 1), (3, .istore_n 3, 1), (4, .iload_n 3, 1), (5, .sipush 900, 3), (8, .if_icmp .ge 139, 3), (11, .aload_n 0, 1), (12, .getfield 52, 3), (15, .ifCond .ne 132, 3), (18, .aload_n 0, 1), (19, .iload_n 1, 1), (20, .invokevirtual 162, 3), (23, .iconst 0, 1), (24, .istore 4, 2), (26, .iload 4, 2), (28, .sipush 900, 3), (31, .if_icmp .ge 47, 3), (34, .aload_n 0, 1), (35, .getfield 52, 3), (38, .ifCond .ne 40, 3), (41, .aload_n 0, 1), (42, .getfield 12, 3), (45, .getfield 75, 3), (48, .bipush 42, 2), (50, .if_icmp .ne 28, 3), (53, .aload_n 0, 1), (54, .getfield 12, 3), (57, .invokevirtual 114, 3), (60, .aload_n 0, 1), (61, .iload_n 1, 1), (62, .invokevirtual 162, 3), (65, .aload_n 0, 1), (66, .sipush 2008, 3), (69, .invokevirtual 152, 3), (72, .iinc 4 1, 3), (75, .goto (-49), 3), (78, .iload_n 3, 1), (79, .ifCond .le 8, 3), (82, .aload_n 0, 1), (83, .iload_n 2, 1), (84, .invokevirtual 152, 3), (87, .aload_n 0, 1), (88, .getfield 12, 3), (91, .getfield 75, 3), (94, .bipush 43, 2), (96, .if_icmp .eq 16, 3), (99, .aload_n 0, 1), (100, .getfield 12, 3), (103, .getfield 75, 3), (106, .bipush 45, 2), (108, .if_icmp .eq 4, 3), (111, .return_, 1), (112, .aload_n 0, 1), (113, .getfield 12, 3), (116, .getfield 75, 3), (119, .bipush 43, 2), (121, .if_icmp .ne 9, 3), (124, .sipush 2006, 3), (127, .goto 6, 3), (130, .sipush 2007, 3), (133, .istore_n 2, 1), (134, .aload_n 0, 1), (135, .getfield 12, 3), (138, .invokevirtual 114, 3), (141, .iinc 3 1, 3), (144, .goto (-140), 3), (147, .return_, 1)]
def k_Re_atom : List (Nat × Instr × Nat) := [(0, .aload_n 0, 1), (1, .getfield 12, 3), (4, .getfield 75, 3), (7, .bipush 40, 2), (9, .if_icmp .ne 25, 3), (12, .aload_n 0, 1), (13, .iload_n 1, 1), (14, .invokevirtual 155, 3), (17, .ifCond .eq 16, 3), (20, .aload_n 0, 1), (21, .iload_n 1, 1), (22, .iconst 1, 1), (23, .iadd, 1), (24, .invokevirtual 91, 3), (27, .aload_n 0, 1), (28, .bipush 41, 2), (30, .invokevirtual 97, 3), (33, .return_, 1), (34, .aload_n 0, 1), (35, .getfield 12, 3), (38, .getfield 75, 3), (41, .sipush 1000, 3), (44, .if_icmp .lt 17, 3), (47, .aload_n 0, 1), (48, .getfield 12, 3), (51, .getfield 75, 3), (54, .sipush 1000, 3), (57, .isub, 1), (58, .goto 14, 3), (61, .aload_n 0, 1), (62, .aload_n 0, 1), (63, .getfield 12, 3), (66, .getfield 75, 3), (69, .invokevirtual 165, 3), (72, .istore_n 2, 1), (73, .iload_n 2, 1), (74, .iconst (-1), 1), (75, .if_icmp .ne 9, 3), (78, .aload_n 0, 1), (79, .iconst 2, 1), (80, .invokevirtual 117, 3), (83, .return_, 1), (84, .aload_n 0, 1), (85, .iload_n 2, 1), (86, .invokevirtual 152, 3), (89, .aload_n 0, 1), (90, .getfield 12, 3), (93, .invokevirtual 114, 3), (96, .return_, 1)]
def k_Re_fact : List (Nat × Instr × Nat) := [(0, .iload_n 1, 1), (1, .tableswitch 147 202 215 #[87, 102, 147, 117, 147, 147, 147, 147, 147, 71, 75, 79, 83, 132], 71), (72, .sipush 1000, 3), (75, .ireturn, 1), (76, .sipush 1001, 3), (79, .ireturn, 1), (80, .sipush 1002, 3), (83, .ireturn, 1), (84, .sipush 1003, 3), (87, .ireturn, 1), (88, .aload_n 0, 1), (89, .getfield 29, 3), (92, .ifCond .eq 9, 3), (95, .sipush 1004, 3), (98, .goto 4, 3), (101, .iconst (-1), 1), (102, .ireturn, 1), (103, .aload_n 0, 1), (104, .getfield 29, 3), (107, .ifCond .eq 9, 3), (110, .sipush 1005, 3), (113, .goto 4, 3), (116, .iconst (-1), 1), (117, .ireturn, 1), (118, .aload_n 0, 1), (119, .getfield 29, 3), (122, .ifCond .eq 9, 3), (125, .sipush 1006, 3), (128, .goto 4, 3), (131, .iconst (-1), 1), (132, .ireturn, 1), (133, .aload_n 0, 1), (134, .getfield 29, 3), (137, .ifCond .eq 9, 3), (140, .sipush 1007, 3), (143, .goto 4, 3), (146, .iconst (-1), 1), (147, .ireturn, 1), (148, .iconst (-1), 1), (149, .ireturn, 1)]
def k_Re_emit : List (Nat × Instr × Nat) := [(0, .aload_n 0, 1), (1, .getfield 25, 3), (4, .aload_n 0, 1), (5, .getfield 22, 3), (8, .arraylength, 1), (9, .if_icmp .ge 23, 3), (12, .aload_n 0, 1), (13, .getfield 22, 3), (16, .aload_n 0, 1), (17, .getfield 25, 3), (20, .iload_n 1, 1), (21, .iastore, 1), (22, .aload_n 0, 1), (23, .dup, 1), (24, .getfield 25, 3), (27, .iconst 1, 1), (28, .iadd, 1), (29, .putfield 25, 3), (32, .return_, 1)]
def k_Se_new : List (Nat × Instr × Nat) := [(0, .aload_n 0, 1), (1, .invokespecial 3, 3), (4, .aload_n 0, 1), (5, .new 9, 3), (8, .dup, 1), (9, .invokespecial 11, 3), (12, .putfield 12, 3), (15, .aload_n 0, 1), (16, .bipush 12, 2), (18, .newarray .int, 2), (20, .putfield 18, 3), (23, .aload_n 0, 1), (24, .bipush 48, 2), (26, .newarray .int, 2), (28, .putfield 22, 3), (31, .aload_n 0, 1), (32, .bipush 12, 2), (34, .newarray .int, 2), (36, .putfield 25, 3), (39, .return_, 1)]
def k_Se_refusal : List (Nat × Instr × Nat) := [(0, .aload_n 3, 1), (1, .invokevirtual 28, 3), (4, .ifCond .eq 6, 3), (7, .bipush (-6), 2), (9, .ireturn, 1), (10, .aload_n 3, 1), (11, .getfield 34, 3), (14, .iconst 1, 1), (15, .if_icmp .lt 12, 3), (18, .aload_n 3, 1), (19, .getfield 34, 3), (22, .bipush 12, 2), (24, .if_icmp .le 6, 3), (27, .bipush (-4), 2), (29, .ireturn, 1), (30, .aload_n 2, 1), (31, .getfield 38, 3), (34, .istore 4, 2), (36, .iconst 0, 1), (37, .istore 5, 2), (39, .iload 5, 2), (41, .aload_n 3, 1), (42, .getfield 34, 3), (45, .if_icmp .ge 59, 3), (48, .aload_n 3, 1), (49, .iload 5, 2), (51, .invokevirtual 41, 3), (54, .lstore 6, 2), (56, .lload 6, 2), (58, .lconst 0, 1), (59, .lcmp, 1), (60, .ifCond .lt 25, 3), (63, .lload 6, 2), (65, .aload_n 1, 1), (66, .getfield 45, 3), (69, .i2l, 1), (70, .lcmp, 1), (71, .ifCond .ge 14, 3), (74, .iload 4, 2), (76, .lload 6, 2), (78, .l2i, 1), (79, .ishr, 1), (80, .iconst 1, 1), (81, .iand, 1), (82, .ifCond .eq 6, 3), (85, .bipush (-3), 2), (87, .ireturn, 1), (88, .iload 4, 2), (90, .iconst 1, 1), (91, .lload 6, 2), (93, .l2i, 1), (94, .ishl, 1), (95, .ior, 1), (96, .istore 4, 2), (98, .iinc 5 1, 3), (101, .goto (-62), 3), (104, .iconst 0, 1), (105, .ireturn, 1)]
def k_Se_fitting : List (Nat × Instr × Nat) := [(0, .iconst 0, 1), (1, .istore 5, 2), (3, .iconst 0, 1), (4, .istore 6, 2), (6, .iload 6, 2), (8, .bipush 10, 2), (10, .if_icmp .ge 32, 3), (13, .aload_n 0, 1), (14, .aload_n 1, 1), (15, .aload_n 2, 1), (16, .aload_n 3, 1), (17, .iload 4, 2), (19, .iload 6, 2), (21, .invokevirtual 50, 3), (24, .ifCond .eq 12, 3), (27, .iload 5, 2), (29, .iconst 1, 1), (30, .iload 6, 2), (32, .ishl, 1), (33, .ior, 1), (34, .istore 5, 2), (36, .iinc 6 1, 3), (39, .goto (-33), 3), (42, .iload 5, 2), (44, .ireturn, 1)]
def k_Se_fits : List (Nat × Instr × Nat) := [(0, .aload_n 0, 1), (1, .getfield 12, 3), (4, .aload_n 2, 1), (5, .invokevirtual 54, 3), (8, .iconst 0, 1), (9, .istore 6, 2), (11, .iload 6, 2), (13, .aload_n 3, 1), (14, .getfield 34, 3), (17, .if_icmp .ge 56, 3), (20, .aload_n 3, 1), (21, .iload 6, 2), (23, .invokevirtual 41, 3), (26, .l2i, 1), (27, .istore 7, 2), (29, .aload_n 1, 1), (30, .iload 4, 2), (32, .iload 5, 2), (34, .iload 7, 2), (36, .aload_n 0, 1), (37, .getfield 12, 3), (40, .getfield 38, 3), (43, .aload_n 0, 1), (44, .getfield 12, 3), (47, .getfield 58, 3), (50, .invokevirtual 61, 3), (53, .ifCond .ne 5, 3), (56, .iconst 0, 1), (57, .ireturn, 1), (58, .aload_n 0, 1), (59, .getfield 12, 3), (62, .iload 7, 2), (64, .invokevirtual 65, 3), (67, .iinc 6 1, 3), (70, .goto (-59), 3), (73, .iconst 1, 1), (74, .ireturn, 1)]
def k_Se_telling : List (Nat × Instr × Nat) := [(0, .aload_n 0, 1), (1, .aload_n 1, 1), (2, .aload_n 2, 1), (3, .aload_n 3, 1), (4, .iload 4, 2), (6, .invokevirtual 69, 3), (9, .istore 5, 2), (11, .iconst (-1), 1), (12, .istore 6, 2), (14, .iconst (-1), 1), (15, .istore 7, 2), (17, .iconst 0, 1), (18, .istore 8, 2), (20, .iload 8, 2), (22, .aload_n 1, 1), (23, .getfield 45, 3), (26, .if_icmp .ge 51, 3), (29, .iload 5, 2), (31, .ifCond .eq 46, 3), (34, .aload_n 2, 1), (35, .iload 8, 2), (37, .invokevirtual 73, 3), (40, .ifCond .ne 31, 3), (43, .aload_n 1, 1), (44, .aload_n 2, 1), (45, .iload 4, 2), (47, .iload 8, 2), (49, .iload 5, 2), (51, .invokestatic 77, 3), (54, .istore 9, 2), (56, .iload 9, 2), (58, .iload 6, 2), (60, .if_icmp .le 11, 3), (63, .iload 9, 2), (65, .istore 6, 2), (67, .iload 8, 2), (69, .istore 7, 2), (71, .iinc 8 1, 3), (74, .goto (-54), 3), (77, .iload 7, 2), (79, .ireturn, 1)]
def k_Se_lesserPart : List (Nat × Instr × Nat) := [(0, .iconst 0, 1), (1, .istore 5, 2), (3, .iconst 0, 1), (4, .istore 6, 2), (6, .iload 6, 2), (8, .bipush 10, 2), (10, .if_icmp .ge 41, 3), (13, .iload 4, 2), (15, .iload 6, 2), (17, .ishr, 1), (18, .iconst 1, 1), (19, .iand, 1), (20, .ifCond .eq 25, 3), (23, .aload_n 0, 1), (24, .iload_n 2, 1), (25, .iload 6, 2), (27, .iload_n 3, 1), (28, .aload_n 1, 1), (29, .getfield 38, 3), (32, .aload_n 1, 1), (33, .getfield 58, 3), (36, .invokevirtual 61, 3), (39, .ifCond .eq 6, 3), (42, .iinc 5 1, 3), (45, .iinc 6 1, 3), (48, .goto (-42), 3), (51, .iload 5, 2), (53, .iload 4, 2), (55, .invokestatic 81, 3), (58, .iload 5, 2), (60, .isub, 1), (61, .invokestatic 87, 3), (64, .ireturn, 1)]
def k_Se_findAble : List (Nat × Instr × Nat) := [(0, .aload_n 0, 1), (1, .getfield 12, 3), (4, .aload_n 2, 1), (5, .invokevirtual 54, 3), (8, .iconst 0, 1), (9, .istore 4, 2), (11, .iload 4, 2), (13, .aload_n 3, 1), (14, .getfield 34, 3), (17, .if_icmp .ge 108, 3), (20, .iload 4, 2), (22, .aload_n 0, 1), (23, .getfield 18, 3), (26, .arraylength, 1), (27, .if_icmp .ge 98, 3), (30, .aload_n 3, 1), (31, .iload 4, 2), (33, .invokevirtual 41, 3), (36, .l2i, 1), (37, .istore 5, 2), (39, .aload_n 0, 1), (40, .getfield 18, 3), (43, .iload 4, 2), (45, .iconst 0, 1), (46, .iastore, 1), (47, .iconst 0, 1), (48, .istore 6, 2), (50, .iload 6, 2), (52, .aload_n 1, 1), (53, .getfield 93, 3), (56, .if_icmp .ge 54, 3), (59, .aload_n 1, 1), (60, .iload 6, 2), (62, .aload_n 2, 1), (63, .iload 6, 2), (65, .invokevirtual 96, 3), (68, .iload 5, 2), (70, .aload_n 0, 1), (71, .getfield 12, 3), (74, .getfield 38, 3), (77, .aload_n 0, 1), (78, .getfield 12, 3), (81, .getfield 58, 3), (84, .invokevirtual 61, 3), (87, .ifCond .eq 17, 3), (90, .aload_n 0, 1), (91, .getfield 18, 3), (94, .iload 4, 2), (96, .dup2, 1), (97, .iaload, 1), (98, .iconst 1, 1), (99, .iload 6, 2), (101, .ishl, 1), (102, .ior, 1), (103, .iastore, 1), (104, .iinc 6 1, 3), (107, .goto (-57), 3), (110, .aload_n 0, 1), (111, .getfield 12, 3), (114, .iload 5, 2), (116, .invokevirtual 65, 3), (119, .iinc 4 1, 3), (122, .goto (-111), 3), (125, .return_, 1)]
def k_Se_authors : List (Nat × Instr × Nat) := [(0, .aload_n 0, 1), (1, .aload_n 1, 1), (2, .aload_n 2, 1), (3, .aload_n 3, 1), (4, .invokevirtual 99, 3), (7, .lconst 1, 1), (8, .lstore 4, 2), (10, .iconst 0, 1), (11, .istore 6, 2), (13, .iload 6, 2), (15, .aload_n 3, 1), (16, .getfield 34, 3), (19, .if_icmp .ge 35, 3), (22, .iload 6, 2), (24, .aload_n 0, 1), (25, .getfield 18, 3), (28, .arraylength, 1), (29, .if_icmp .ge 25, 3), (32, .lload 4, 2), (34, .aload_n 0, 1), (35, .getfield 18, 3), (38, .iload 6, 2), (40, .iaload, 1), (41, .invokestatic 81, 3), (44, .i2l, 1), (45, .lmul, 1), (46, .lstore 4, 2), (48, .iinc 6 1, 3), (51, .goto (-38), 3), (54, .lload 4, 2), (56, .lreturn, 1)]
def k_Se_fewestChanges : List (Nat × Instr × Nat) := [(0, .aload_n 0, 1), (1, .aload_n 1, 1), (2, .aload_n 2, 1), (3, .aload_n 3, 1), (4, .invokevirtual 99, 3), (7, .aload_n 3, 1), (8, .getfield 34, 3), (11, .aload_n 0, 1), (12, .getfield 18, 3), (15, .arraylength, 1), (16, .invokestatic 87, 3), (19, .istore 4, 2), (21, .iload 4, 2), (23, .iconst 1, 1), (24, .isub, 1), (25, .istore 5, 2), (27, .iload 5, 2), (29, .ifCond .lt 91, 3), (32, .iconst 0, 1), (33, .istore 6, 2), (35, .iload 6, 2), (37, .iconst 4, 1), (38, .if_icmp .ge 76, 3), (41, .aload_n 0, 1), (42, .getfield 18, 3), (45, .iload 5, 2), (47, .iaload, 1), (48, .iload 6, 2), (50, .ishr, 1), (51, .iconst 1, 1), (52, .iand, 1), (53, .ifCond .eq 7, 3), (56, .iconst 1, 1), (57, .goto 4, 3), (60, .iconst 0, 1), (61, .istore 7, 2), (63, .aload_n 0, 1), (64, .getfield 22, 3), (67, .iload 5, 2), (69, .iconst 4, 1), (70, .imul, 1), (71, .iload 6, 2), (73, .iadd, 1), (74, .iload 7, 2), (76, .ifCond .ne 8, 3), (79, .ldc 105, 2), (81, .goto 26, 3), (84, .iload 5, 2), (86, .iconst 1, 1), (87, .iadd, 1), (88, .iload 4, 2), (90, .if_icmp .ne 7, 3), (93, .iconst 0, 1), (94, .goto 13, 3), (97, .aload_n 0, 1), (98, .iload 5, 2), (100, .iconst 1, 1), (101, .iadd, 1), (102, .iload 6, 2), (104, .invokevirtual 106, 3), (107, .iastore, 1), (108, .iinc 6 1, 3), (111, .goto (-76), 3), (114, .iinc 5 (-1), 3), (117, .goto (-90), 3), (120, .iload 4, 2), (122, .iconst 1, 1), (123, .if_icmp .ge 8, 3), (126, .ldc 105, 2), (128, .goto 9, 3), (131, .aload_n 0, 1), (132, .iconst 0, 1), (133, .iconst (-1), 1), (134, .invokevirtual 106, 3), (137, .istore 5, 2), (139, .iload 5, 2), (141, .ldc 105, 2), (143, .if_icmp .lt 5, 3), (146, .iconst (-1), 1), (147, .ireturn, 1), (148, .aload_n 0, 1), (149, .iload 4, 2), (151, .invokevirtual 109, 3), (154, .iload 5, 2), (156, .ireturn, 1)]
def k_Se_fewestAfter : List (Nat × Instr × Nat) := [(0, .ldc 105, 2), (2, .istore_n 3, 1), (3, .iconst 0, 1), (4, .istore 4, 2), (6, .iload 4, 2), (8, .iconst 4, 1), (9, .if_icmp .ge 22, 3), (12, .iload_n 3, 1), (13, .aload_n 0, 1), (14, .iload_n 1, 1), (15, .iload_n 2, 1), (16, .iload 4, 2), (18, .invokevirtual 112, 3), (21, .invokestatic 87, 3), (24, .istore_n 3, 1), (25, .iinc 4 1, 3), (28, .goto (-22), 3), (31, .iload_n 3, 1), (32, .ireturn, 1)]
def k_Se_changesBy : List (Nat × Instr × Nat) := [(0, .aload_n 0, 1), (1, .getfield 22, 3), (4, .iload_n 1, 1), (5, .iconst 4, 1), (6, .imul, 1), (7, .iload_n 3, 1), (8, .iadd, 1), (9, .iaload, 1), (10, .iload_n 2, 1), (11, .iconst (-1), 1), (12, .if_icmp .eq 8, 3), (15, .iload_n 2, 1), (16, .iload_n 3, 1), (17, .if_icmp .ne 7, 3), (20, .iconst 0, 1), (21, .goto 4, 3), (24, .iconst 1, 1), (25, .iadd, 1), (26, .ireturn, 1)]
def k_Se_chooseAuthors : List (Nat × Instr × Nat) := [(0, .iconst (-1), 1), (1, .istore_n 2, 1), (2, .iconst 0, 1), (3, .istore_n 3, 1), (4, .iload_n 3, 1), (5, .iload_n 1, 1), (6, .if_icmp .ge 59, 3), (9, .aload_n 0, 1), (10, .iload_n 3, 1), (11, .iload_n 2, 1), (12, .invokevirtual 106, 3), (15, .istore 4, 2), (17, .iconst 3, 1), (18, .istore 5, 2), (20, .iload 5, 2), (22, .ifCond .lt 30, 3), (25, .aload_n 0, 1), (26, .iload_n 3, 1), (27, .iload_n 2, 1), (28, .iload 5, 2), (30, .invokevirtual 112, 3), (33, .iload 4, 2), (35, .if_icmp .ne 11, 3), (38, .aload_n 0, 1), (39, .getfield 25, 3), (42, .iload_n 3, 1), (43, .iload 5, 2), (45, .iastore, 1), (46, .iinc 5 (-1), 3), (49, .goto (-29), 3), (52, .aload_n 0, 1), (53, .getfield 25, 3), (56, .iload_n 3, 1), (57, .iaload, 1), (58, .istore_n 2, 1), (59, .iinc 3 1, 3), (62, .goto (-58), 3), (65, .return_, 1)]
def k_Se_author : List (Nat × Instr × Nat) := [(0, .iload_n 1, 1), (1, .ifCond .lt 21, 3), (4, .iload_n 1, 1), (5, .aload_n 0, 1), (6, .getfield 25, 3), (9, .arraylength, 1), (10, .if_icmp .ge 12, 3), (13, .aload_n 0, 1), (14, .getfield 25, 3), (17, .iload_n 1, 1), (18, .iaload, 1), (19, .goto 4, 3), (22, .iconst (-1), 1), (23, .ireturn, 1)]
def k_Se_fewestCovering : List (Nat × Instr × Nat) := [(0, .iconst (-1), 1), (1, .istore_n 3, 1), (2, .bipush 11, 2), (4, .istore 4, 2), (6, .iconst 0, 1), (7, .istore 5, 2), (9, .iload 5, 2), (11, .iconst 1, 1), (12, .aload_n 1, 1), (13, .getfield 34, 3), (16, .ishl, 1), (17, .if_icmp .ge 39, 3), (20, .iload 5, 2), (22, .invokestatic 81, 3), (25, .iload 4, 2), (27, .if_icmp .ge 23, 3), (30, .aload_n 1, 1), (31, .iload 5, 2), (33, .invokestatic 116, 3), (36, .iload_n 2, 1), (37, .if_icmp .ne 13, 3), (40, .iload 5, 2), (42, .istore_n 3, 1), (43, .iload 5, 2), (45, .invokestatic 81, 3), (48, .istore 4, 2), (50, .iinc 5 1, 3), (53, .goto (-44), 3), (56, .iload_n 3, 1), (57, .ireturn, 1)]
def k_Se_union : List (Nat × Instr × Nat) := [(0, .iconst 0, 1), (1, .istore_n 2, 1), (2, .iconst 0, 1), (3, .istore_n 3, 1), (4, .iload_n 3, 1), (5, .aload_n 0, 1), (6, .getfield 34, 3), (9, .if_icmp .ge 26, 3), (12, .iload_n 1, 1), (13, .iload_n 3, 1), (14, .ishr, 1), (15, .iconst 1, 1), (16, .iand, 1), (17, .ifCond .eq 12, 3), (20, .iload_n 2, 1), (21, .aload_n 0, 1), (22, .iload_n 3, 1), (23, .invokevirtual 41, 3), (26, .l2i, 1), (27, .ior, 1), (28, .istore_n 2, 1), (29, .iinc 3 1, 3), (32, .goto (-28), 3), (35, .iload_n 2, 1), (36, .ireturn, 1)]
def k_Sh_new : List (Nat × Instr × Nat) := [(0, .aload_n 0, 1), (1, .invokespecial 3, 3), (4, .aload_n 0, 1), (5, .bipush 8, 2), (7, .newarray .int, 2), (9, .putfield 11, 3), (12, .aload_n 0, 1), (13, .iconst 1, 1), (14, .iload_n 1, 1), (15, .invokestatic 17, 3), (18, .putfield 23, 3), (21, .aload_n 0, 1), (22, .iconst 1, 1), (23, .iload_n 2, 1), (24, .invokestatic 17, 3), (27, .putfield 27, 3), (30, .aload_n 0, 1), (31, .bipush 12, 2), (33, .aload_n 0, 1), (34, .getfield 23, 3), (37, .aload_n 0, 1), (38, .getfield 27, 3), (41, .imul, 1), (42, .invokestatic 30, 3), (45, .putfield 33, 3), (48, .aload_n 0, 1), (49, .iconst 1, 1), (50, .aload_n 0, 1), (51, .getfield 33, 3), (54, .ishl, 1), (55, .iconst 1, 1), (56, .isub, 1), (57, .putfield 36, 3), (60, .aload_n 0, 1), (61, .iload 4, 2), (63, .putfield 39, 3), (66, .aload_n 0, 1), (67, .iload 5, 2), (69, .putfield 42, 3), (72, .aload_n 0, 1), (73, .aload_n 3, 1), (74, .aload_n 0, 1), (75, .getfield 33, 3), (78, .invokestatic 45, 3), (81, .putfield 51, 3), (84, .aload_n 0, 1), (85, .aload 6, 2), (87, .putfield 54, 3), (90, .aload_n 0, 1), (91, .aload 7, 2), (93, .putfield 58, 3), (96, .aload 6, 2), (98, .ifnonnull 7, 3), (101, .iconst 0, 1), (102, .goto 8, 3), (105, .aload 6, 2), (107, .getfield 61, 3), (110, .istore 8, 2), (112, .aload_n 0, 1), (113, .iload 8, 2), (115, .iconst 2, 1), (116, .ishr, 1), (117, .iconst 1, 1), (118, .iand, 1), (119, .ifCond .eq 7, 3), (122, .iconst 1, 1), (123, .goto 4, 3), (126, .iconst 0, 1), (127, .putfield 64, 3), (130, .aload_n 0, 1), (131, .iload 8, 2), (133, .iconst 3, 1), (134, .ishr, 1), (135, .iconst 1, 1), (136, .iand, 1), (137, .ifCond .eq 7, 3), (140, .iconst 1, 1), (141, .goto 4, 3), (144, .iconst 0, 1), (145, .putfield 68, 3), (148, .aload_n 0, 1), (149, .iload 8, 2), (151, .bipush 6, 2), (153, .ishr, 1), (154, .iconst 1, 1), (155, .iand, 1), (156, .ifCond .ne 13, 3), (159, .iload 8, 2), (161, .bipush 7, 2), (163, .ishr, 1), (164, .iconst 1, 1), (165, .iand, 1), (166, .ifCond .eq 7, 3), (169, .iconst 1, 1), (170, .goto 4, 3), (173, .iconst 0, 1), (174, .putfield 71, 3), (177, .aload_n 0, 1), (178, .aload_n 0, 1), (179, .getfield 33, 3), (182, .newarray .int, 2), (184, .putfield 74, 3), (187, .iconst 0, 1), (188, .istore 9, 2), (190, .iload 9, 2), (192, .aload_n 0, 1), (193, .getfield 33, 3), (196, .if_icmp .ge 116, 3), (199, .iload 9, 2), (201, .iconst 1, 1), (202, .iadd, 1), (203, .aload_n 0, 1), (204, .getfield 27, 3), (207, .irem, 1), (208, .ifCond .eq 46, 3), (211, .iload 9, 2), (213, .iconst 1, 1), (214, .iadd, 1), (215, .aload_n 0, 1), (216, .getfield 33, 3), (219, .if_icmp .ge 35, 3), (222, .aload_n 0, 1), (223, .getfield 74, 3), (226, .iload 9, 2), (228, .dup2, 1), (229, .iaload, 1), (230, .iconst 1, 1), (231, .iload 9, 2), (233, .iconst 1, 1), (234, .iadd, 1), (235, .ishl, 1), (236, .ior, 1), (237, .iastore, 1), (238, .aload_n 0, 1), (239, .getfield 74, 3), (242, .iload 9, 2), (244, .iconst 1, 1), (245, .iadd, 1), (246, .dup2, 1), (247, .iaload, 1), (248, .iconst 1, 1), (249, .iload 9, 2), (251, .ishl, 1), (252, .ior, 1), (253, .iastore, 1), (254, .iload 9, 2), (256, .aload_n 0, 1), (257, .getfield 27, 3), (260, .iadd, 1), (261, .aload_n 0, 1), (262, .getfield 33, 3), (265, .if_icmp .ge 41, 3), (268, .aload_n 0, 1), (269, .getfield 74, 3), (272, .iload 9, 2), (274, .dup2, 1), (275, .iaload, 1), (276, .iconst 1, 1), (277, .iload 9, 2), (279, .aload_n 0, 1), (280, .getfield 27, 3), (283, .iadd, 1), (284, .ishl, 1), (285, .ior, 1), (286, .iastore, 1), (287, .aload_n 0, 1), (288, .getfield 74, 3), (291, .iload 9, 2), (293, .aload_n 0, 1), (294, .getfield 27, 3), (297, .iadd, 1), (298, .dup2, 1), (299, .iaload, 1), (300, .iconst 1, 1), (301, .iload 9, 2), (303, .ishl, 1), (304, .ior, 1), (305, .iastore, 1), (306, .iinc 9 1, 3), (309, .goto (-119), 3), (312, .return_, 1)]
def k_Sh_hasHand : List (Nat × Instr × Nat) := [(0, .iload_n 1, 1), (1, .ifCond .lt 15, 3), (4, .iload_n 1, 1), (5, .aload_n 0, 1), (6, .getfield 39, 3), (9, .if_icmp .ge 7, 3), (12, .iconst 1, 1), (13, .goto 4, 3), (16, .iconst 0, 1), (17, .ireturn, 1)]
def k_Sh_hasCell : List (Nat × Instr × Nat) := [(0, .iload_n 1, 1), (1, .ifCond .lt 15, 3), (4, .iload_n 1, 1), (5, .aload_n 0, 1), (6, .getfield 33, 3), (9, .if_icmp .ge 7, 3), (12, .iconst 1, 1), (13, .goto 4, 3), (16, .iconst 0, 1), (17, .ireturn, 1)]
def k_Sh_kindOf : List (Nat × Instr × Nat) := [(0, .iload_n 1, 1), (1, .ifCond .lt 21, 3), (4, .iload_n 1, 1), (5, .aload_n 0, 1), (6, .getfield 51, 3), (9, .arraylength, 1), (10, .if_icmp .ge 12, 3), (13, .aload_n 0, 1), (14, .getfield 51, 3), (17, .iload_n 1, 1), (18, .iaload, 1), (19, .goto 4, 3), (22, .iconst 0, 1), (23, .ireturn, 1)]
def k_Sh_near : List (Nat × Instr × Nat) := [(0, .iload_n 1, 1), (1, .ifCond .lt 26, 3), (4, .iload_n 1, 1), (5, .aload_n 0, 1), (6, .getfield 74, 3), (9, .arraylength, 1), (10, .if_icmp .ge 17, 3), (13, .aload_n 0, 1), (14, .getfield 74, 3), (17, .iload_n 1, 1), (18, .iaload, 1), (19, .iload_n 2, 1), (20, .iand, 1), (21, .invokestatic 77, 3), (24, .goto 4, 3), (27, .iconst 0, 1), (28, .ireturn, 1)]
def k_Sh_left : List (Nat × Instr × Nat) := [(0, .aload_n 0, 1), (1, .getfield 33, 3), (4, .iload_n 1, 1), (5, .invokestatic 77, 3), (8, .isub, 1), (9, .ireturn, 1)]
def k_Sh_steps : List (Nat × Instr × Nat) := [(0, .iload_n 2, 1), (1, .iconst (-1), 1), (2, .if_icmp .ne 5, 3), (5, .iconst 0, 1), (6, .ireturn, 1), (7, .iload_n 1, 1), (8, .aload_n 0, 1), (9, .getfield 27, 3), (12, .idiv, 1), (13, .iload_n 2, 1), (14, .aload_n 0, 1), (15, .getfield 27, 3), (18, .idiv, 1), (19, .isub, 1), (20, .invokestatic 83, 3), (23, .iload_n 1, 1), (24, .aload_n 0, 1), (25, .getfield 27, 3), (28, .irem, 1), (29, .iload_n 2, 1), (30, .aload_n 0, 1), (31, .getfield 27, 3), (34, .irem, 1), (35, .isub, 1), (36, .invokestatic 83, 3), (39, .iadd, 1), (40, .ireturn, 1)]
def k_Sh_oddsOf : List (Nat × Instr × Nat) := [(0, .aload_n 0, 1), (1, .iload_n 1, 1), (2, .invokevirtual 86, 3), (5, .ifCond .eq 11, 3), (8, .iload_n 2, 1), (9, .iload_n 1, 1), (10, .ishr, 1), (11, .iconst 1, 1), (12, .iand, 1), (13, .ifCond .eq 5, 3), (16, .iconst 0, 1), (17, .ireturn, 1), (18, .aload_n 0, 1), (19, .getfield 58, 3), (22, .ifnonnull 5, 3), (25, .iconst 1, 1), (26, .ireturn, 1), (27, .aload_n 0, 1), (28, .iload_n 1, 1), (29, .aload_n 0, 1), (30, .iload_n 1, 1), (31, .iload_n 2, 1), (32, .invokevirtual 90, 3), (35, .aload_n 0, 1), (36, .iload_n 2, 1), (37, .invokevirtual 93, 3), (40, .invokevirtual 96, 3), (43, .iconst 0, 1), (44, .sipush 999, 3), (47, .aload_n 0, 1), (48, .getfield 58, 3), (51, .aload_n 0, 1), (52, .getfield 11, 3), (55, .invokevirtual 100, 3), (58, .invokestatic 30, 3), (61, .invokestatic 17, 3), (64, .ireturn, 1)]
def k_Sh_allOdds : List (Nat × Instr × Nat) := [(0, .iconst 0, 1), (1, .istore_n 2, 1), (2, .iconst 0, 1), (3, .istore_n 3, 1), (4, .iload_n 3, 1), (5, .aload_n 0, 1), (6, .getfield 33, 3), (9, .if_icmp .ge 18, 3), (12, .iload_n 2, 1), (13, .aload_n 0, 1), (14, .iload_n 3, 1), (15, .iload_n 1, 1), (16, .invokevirtual 104, 3), (19, .iadd, 1), (20, .istore_n 2, 1), (21, .iinc 3 1, 3), (24, .goto (-20), 3), (27, .iload_n 2, 1), (28, .ireturn, 1)]
def k_Sh_tellPlace : List (Nat × Instr × Nat) := [(0, .aload_n 0, 1), (1, .getfield 11, 3), (4, .iconst 0, 1), (5, .iload_n 1, 1), (6, .iastore, 1), (7, .aload_n 0, 1), (8, .getfield 11, 3), (11, .iconst 1, 1), (12, .aload_n 0, 1), (13, .iload_n 1, 1), (14, .invokevirtual 107, 3), (17, .iastore, 1), (18, .aload_n 0, 1), (19, .getfield 11, 3), (22, .iconst 2, 1), (23, .iload_n 2, 1), (24, .iastore, 1), (25, .aload_n 0, 1), (26, .getfield 11, 3), (29, .iconst 3, 1), (30, .iload_n 3, 1), (31, .iastore, 1), (32, .return_, 1)]
def k_Sh_holds : List (Nat × Instr × Nat) := [(0, .aload_n 0, 1), (1, .getfield 54, 3), (4, .ifnonnull 5, 3), (7, .iconst 1, 1), (8, .ireturn, 1), (9, .aload_n 0, 1), (10, .iload_n 3, 1), (11, .iload 4, 2), (13, .iload 5, 2), (15, .invokevirtual 96, 3), (18, .aload_n 0, 1), (19, .getfield 11, 3), (22, .iconst 4, 1), (23, .iload_n 1, 1), (24, .iastore, 1), (25, .aload_n 0, 1), (26, .getfield 11, 3), (29, .iconst 5, 1), (30, .iload_n 2, 1), (31, .iastore, 1), (32, .aload_n 0, 1), (33, .getfield 11, 3), (36, .bipush 6, 2), (38, .iload 6, 2), (40, .iconst (-1), 1), (41, .if_icmp .ne 8, 3), (44, .bipush 9, 2), (46, .goto 9, 3), (49, .aload_n 0, 1), (50, .iload 6, 2), (52, .invokevirtual 107, 3), (55, .iastore, 1), (56, .aload_n 0, 1), (57, .getfield 11, 3), (60, .bipush 7, 2), (62, .aload_n 0, 1), (63, .iload_n 3, 1), (64, .iload 6, 2), (66, .invokevirtual 110, 3), (69, .iastore, 1), (70, .aload_n 0, 1), (71, .getfield 54, 3), (74, .aload_n 0, 1), (75, .getfield 11, 3), (78, .invokevirtual 100, 3), (81, .ifCond .eq 7, 3), (84, .iconst 1, 1), (85, .goto 4, 3), (88, .iconst 0, 1), (89, .ireturn, 1)]
def k_Sh_allows : List (Nat × Instr × Nat) := [(0, .aload_n 0, 1), (1, .iload_n 3, 1), (2, .invokevirtual 86, 3), (5, .ifCond .eq 41, 3), (8, .iload 4, 2), (10, .iload_n 3, 1), (11, .ishr, 1), (12, .iconst 1, 1), (13, .iand, 1), (14, .ifCond .ne 32, 3), (17, .aload_n 0, 1), (18, .iload_n 1, 1), (19, .iload_n 2, 1), (20, .iload_n 3, 1), (21, .aload_n 0, 1), (22, .iload_n 3, 1), (23, .iload 4, 2), (25, .invokevirtual 90, 3), (28, .aload_n 0, 1), (29, .iload 4, 2), (31, .invokevirtual 93, 3), (34, .iload 5, 2), (36, .invokevirtual 113, 3), (39, .ifCond .eq 7, 3), (42, .iconst 1, 1), (43, .goto 4, 3), (46, .iconst 0, 1), (47, .ireturn, 1)]
def k_Sh_nearness : List (Nat × Instr × Nat) := [(0, .aload_n 0, 1), (1, .getfield 64, 3), (4, .ifCond .ne 13, 3), (7, .aload_n 0, 1), (8, .getfield 36, 3), (11, .iload_n 1, 1), (12, .iconst (-1), 1), (13, .ixor, 1), (14, .iand, 1), (15, .i2l, 1), (16, .lreturn, 1), (17, .lconst 0, 1), (18, .lstore_n 2, 1), (19, .iconst 0, 1), (20, .istore 4, 2), (22, .iload 4, 2), (24, .aload_n 0, 1), (25, .getfield 33, 3), (28, .if_icmp .ge 41, 3), (31, .iload_n 1, 1), (32, .iload 4, 2), (34, .ishr, 1), (35, .iconst 1, 1), (36, .iand, 1), (37, .ifCond .ne 26, 3), (40, .lload_n 2, 1), (41, .lconst 1, 1), (42, .aload_n 0, 1), (43, .getfield 74, 3), (46, .iload 4, 2), (48, .iaload, 1), (49, .iload_n 1, 1), (50, .iand, 1), (51, .invokestatic 77, 3), (54, .bipush 12, 2), (56, .imul, 1), (57, .iload 4, 2), (59, .iadd, 1), (60, .lshl, 1), (61, .lor, 1), (62, .lstore_n 2, 1), (63, .iinc 4 1, 3), (66, .goto (-44), 3), (69, .lload_n 2, 1), (70, .lreturn, 1)]
def k_To_new : List (Nat × Instr × Nat) := [(0, .aload_n 0, 1), (1, .invokespecial 3, 3), (4, .aload_n 0, 1), (5, .sipush 901, 3), (8, .newarray .int, 2), (10, .putfield 9, 3), (13, .aload_n 0, 1), (14, .sipush 901, 3), (17, .newarray .int, 2), (19, .putfield 15, 3), (22, .aload_n 0, 1), (23, .iconst 0, 1), (24, .putfield 18, 3), (27, .aload_n 0, 1), (28, .iconst 0, 1), (29, .putfield 22, 3), (32, .aload_n 0, 1), (33, .iconst 0, 1), (34, .putfield 25, 3), (37, .aload_n 0, 1), (38, .iconst 0, 1), (39, .putfield 28, 3), (42, .return_, 1)]
def k_To_open : List (Nat × Instr × Nat) := [(0, .iconst 0, 1), (1, .iload_n 2, 1), (2, .aload_n 1, 1), (3, .arraylength, 1), (4, .invokestatic 31, 3), (7, .invokestatic 37, 3), (10, .istore_n 3, 1), (11, .iconst 0, 1), (12, .istore 4, 2), (14, .aload_n 0, 1), (15, .iconst 0, 1), (16, .putfield 18, 3), (19, .iconst 0, 1), (20, .istore 5, 2), (22, .iload 5, 2), (24, .sipush 900, 3), (27, .if_icmp .ge 66, 3), (30, .iload 4, 2), (32, .iload_n 3, 1), (33, .if_icmp .ge 60, 3), (36, .aload_n 1, 1), (37, .iload 4, 2), (39, .baload, 1), (40, .bipush 10, 2), (42, .if_icmp .eq 12, 3), (45, .aload_n 1, 1), (46, .iload 4, 2), (48, .baload, 1), (49, .bipush 32, 2), (51, .if_icmp .ne 9, 3), (54, .iinc 4 1, 3), (57, .goto 30, 3), (60, .aload_n 1, 1), (61, .iload 4, 2), (63, .iload_n 3, 1), (64, .invokestatic 40, 3), (67, .istore 6, 2), (69, .aload_n 0, 1), (70, .aload_n 1, 1), (71, .iload 4, 2), (73, .iload 6, 2), (75, .invokestatic 44, 3), (78, .iload 4, 2), (80, .invokevirtual 47, 3), (83, .iload 6, 2), (85, .istore 4, 2), (87, .iinc 5 1, 3), (90, .goto (-68), 3), (93, .aload_n 0, 1), (94, .iconst 0, 1), (95, .iload_n 3, 1), (96, .invokevirtual 47, 3), (99, .aload_n 0, 1), (100, .iconst 0, 1), (101, .putfield 22, 3), (104, .aload_n 0, 1), (105, .aload_n 0, 1), (106, .getfield 9, 3), (109, .iconst 0, 1), (110, .iaload, 1), (111, .putfield 25, 3), (114, .aload_n 0, 1), (115, .aload_n 0, 1), (116, .getfield 15, 3), (119, .iconst 0, 1), (120, .iaload, 1), (121, .putfield 28, 3), (124, .return_, 1)]
def k_To_append : List (Nat × Instr × Nat) := [(0, .aload_n 0, 1), (1, .getfield 18, 3), (4, .aload_n 0, 1), (5, .getfield 9, 3), (8, .arraylength, 1), (9, .if_icmp .ge 33, 3), (12, .aload_n 0, 1), (13, .getfield 9, 3), (16, .aload_n 0, 1), (17, .getfield 18, 3), (20, .iload_n 1, 1), (21, .iastore, 1), (22, .aload_n 0, 1), (23, .getfield 15, 3), (26, .aload_n 0, 1), (27, .getfield 18, 3), (30, .iload_n 2, 1), (31, .iastore, 1), (32, .aload_n 0, 1), (33, .dup, 1), (34, .getfield 18, 3), (37, .iconst 1, 1), (38, .iadd, 1), (39, .putfield 18, 3), (42, .return_, 1)]
def k_To_tokenEnd : List (Nat × Instr × Nat) := [(0, .aload_n 0, 1), (1, .iload_n 1, 1), (2, .baload, 1), (3, .invokestatic 51, 3), (6, .istore_n 3, 1), (7, .aload_n 0, 1), (8, .iload_n 1, 1), (9, .baload, 1), (10, .invokestatic 55, 3), (13, .istore 4, 2), (15, .iload_n 1, 1), (16, .iconst 1, 1), (17, .iadd, 1), (18, .istore 5, 2), (20, .iload 5, 2), (22, .iload_n 2, 1), (23, .if_icmp .ge 38, 3), (26, .iload_n 3, 1), (27, .ifCond .eq 13, 3), (30, .aload_n 0, 1), (31, .iload 5, 2), (33, .baload, 1), (34, .invokestatic 51, 3), (37, .ifCond .ne 18, 3), (40, .iload 4, 2), (42, .ifCond .eq 19, 3), (45, .aload_n 0, 1), (46, .iload 5, 2), (48, .baload, 1), (49, .invokestatic 55, 3), (52, .ifCond .eq 9, 3), (55, .iinc 5 1, 3), (58, .goto (-38), 3), (61, .iload 5, 2), (63, .ireturn, 1)]
def k_To_isLetter : List (Nat × Instr × Nat) := [(0, .iload_n 0, 1), (1, .bipush 97, 2), (3, .if_icmp .lt 13, 3), (6, .iload_n 0, 1), (7, .bipush 122, 2), (9, .if_icmp .gt 7, 3), (12, .iconst 1, 1), (13, .goto 4, 3), (16, .iconst 0, 1), (17, .ireturn, 1)]
def k_To_isDigit : List (Nat × Instr × Nat) := [(0, .iload_n 0, 1), (1, .bipush 48, 2), (3, .if_icmp .lt 13, 3), (6, .iload_n 0, 1), (7, .bipush 57, 2), (9, .if_icmp .gt 7, 3), (12, .iconst 1, 1), (13, .goto 4, 3), (16, .iconst 0, 1), (17, .ireturn, 1)]
def k_To_codeOf : List (Nat × Instr × Nat) := [(0, .aload_n 0, 1), (1, .iload_n 1, 1), (2, .baload, 1), (3, .istore_n 3, 1), (4, .iload_n 3, 1), (5, .invokestatic 51, 3), (8, .ifCond .eq 10, 3), (11, .aload_n 0, 1), (12, .iload_n 1, 1), (13, .iload_n 2, 1), (14, .invokestatic 58, 3), (17, .ireturn, 1), (18, .iload_n 3, 1), (19, .invokestatic 55, 3), (22, .ifCond .eq 10, 3), (25, .aload_n 0, 1), (26, .iload_n 1, 1), (27, .iload_n 2, 1), (28, .invokestatic 61, 3), (31, .ireturn, 1), (32, .iload_n 3, 1), (33, .ifCond .le 17, 3), (36, .ldc 64, 2), (38, .iload_n 3, 1), (39, .i2c, 1), (40, .invokevirtual 66, 3), (43, .ifCond .lt 7, 3), (46, .iload_n 3, 1), (47, .goto 4, 3), (50, .iconst 1, 1), (51, .ireturn, 1)]
def k_To_wordCode : List (Nat × Instr × Nat) := [(0, .iload_n 2, 1), (1, .iload_n 1, 1), (2, .isub, 1), (3, .iconst 5, 1), (4, .if_icmp .le 5, 3), (7, .iconst 2, 1), (8, .ireturn, 1), (9, .iconst 0, 1), (10, .istore_n 3, 1), (11, .iload_n 3, 1), (12, .bipush 16, 2), (14, .if_icmp .ge 25, 3), (17, .iload_n 3, 1), (18, .aload_n 0, 1), (19, .iload_n 1, 1), (20, .iload_n 2, 1), (21, .invokestatic 72, 3), (24, .ifCond .eq 9, 3), (27, .sipush 200, 3), (30, .iload_n 3, 1), (31, .iadd, 1), (32, .ireturn, 1), (33, .iinc 3 1, 3), (36, .goto (-25), 3), (39, .iconst 2, 1), (40, .ireturn, 1)]
def k_To_isWord : List (Nat × Instr × Nat) := [(0, .iconst 0, 1), (1, .istore 4, 2), (3, .iload 4, 2), (5, .iconst 5, 1), (6, .if_icmp .ge 48, 3), (9, .iload_n 2, 1), (10, .iload 4, 2), (12, .iadd, 1), (13, .iload_n 3, 1), (14, .if_icmp .ge 12, 3), (17, .aload_n 1, 1), (18, .iload_n 2, 1), (19, .iload 4, 2), (21, .iadd, 1), (22, .baload, 1), (23, .goto 5, 3), (26, .bipush 32, 2), (28, .istore 5, 2), (30, .ldc 76, 2), (32, .iload_n 0, 1), (33, .iconst 5, 1), (34, .imul, 1), (35, .iload 4, 2), (37, .iadd, 1), (38, .invokevirtual 78, 3), (41, .iload 5, 2), (43, .if_icmp .eq 5, 3), (46, .iconst 0, 1), (47, .ireturn, 1), (48, .iinc 4 1, 3), (51, .goto (-48), 3), (54, .iconst 1, 1), (55, .ireturn, 1)]
def k_To_numberCode : List (Nat × Instr × Nat) := [(0, .iload_n 2, 1), (1, .iload_n 1, 1), (2, .isub, 1), (3, .iconst 3, 1), (4, .if_icmp .le 5, 3), (7, .iconst 1, 1), (8, .ireturn, 1), (9, .iconst 0, 1), (10, .istore_n 3, 1), (11, .iload_n 1, 1), (12, .istore 4, 2), (14, .iload 4, 2), (16, .iload_n 2, 1), (17, .if_icmp .ge 22, 3), (20, .iload_n 3, 1), (21, .bipush 10, 2), (23, .imul, 1), (24, .aload_n 0, 1), (25, .iload 4, 2), (27, .baload, 1), (28, .bipush 48, 2), (30, .isub, 1), (31, .iadd, 1), (32, .istore_n 3, 1), (33, .iinc 4 1, 3), (36, .goto (-22), 3), (39, .sipush 1000, 3), (42, .iload_n 3, 1), (43, .iadd, 1), (44, .ireturn, 1)]
def k_To_advance : List (Nat × Instr × Nat) := [(0, .aload_n 0, 1), (1, .getfield 22, 3), (4, .iconst 1, 1), (5, .iadd, 1), (6, .aload_n 0, 1), (7, .getfield 18, 3), (10, .if_icmp .ge 39, 3), (13, .aload_n 0, 1), (14, .dup, 1), (15, .getfield 22, 3), (18, .iconst 1, 1), (19, .iadd, 1), (20, .putfield 22, 3), (23, .aload_n 0, 1), (24, .aload_n 0, 1), (25, .getfield 9, 3), (28, .aload_n 0, 1), (29, .getfield 22, 3), (32, .iaload, 1), (33, .putfield 25, 3), (36, .aload_n 0, 1), (37, .aload_n 0, 1), (38, .getfield 15, 3), (41, .aload_n 0, 1), (42, .getfield 22, 3), (45, .iaload, 1), (46, .putfield 28, 3), (49, .return_, 1)]
def k_Tr_new : List (Nat × Instr × Nat) := [(0, .aload_n 0, 1), (1, .invokespecial 3, 3), (4, .aload_n 0, 1), (5, .bipush 40, 2), (7, .newarray .long, 2), (9, .putfield 11, 3), (12, .aload_n 0, 1), (13, .iconst 0, 1), (14, .putfield 15, 3), (17, .aload_n 0, 1), (18, .iconst (-1), 1), (19, .putfield 19, 3), (22, .return_, 1)]
def k_Tr_isMissing : List (Nat × Instr × Nat) := [(0, .aload_n 0, 1), (1, .getfield 19, 3), (4, .iconst (-1), 1), (5, .if_icmp .ne 7, 3), (8, .iconst 1, 1), (9, .goto 4, 3), (12, .iconst 0, 1), (13, .ireturn, 1)]
def k_Tr_lay : List (Nat × Instr × Nat) := [(0, .aload_n 0, 1), (1, .getfield 11, 3), (4, .lconst 0, 1), (5, .invokestatic 22, 3), (8, .aload_n 0, 1), (9, .iload_n 1, 1), (10, .putfield 15, 3), (13, .aload_n 0, 1), (14, .iconst 0, 1), (15, .iload_n 2, 1), (16, .bipush 40, 2), (18, .invokestatic 28, 3), (21, .invokestatic 34, 3), (24, .putfield 19, 3), (27, .return_, 1)]
def k_Tr_at : List (Nat × Instr × Nat) := [(0, .iload_n 1, 1), (1, .ifCond .lt 20, 3), (4, .iload_n 1, 1), (5, .aload_n 0, 1), (6, .getfield 19, 3), (9, .if_icmp .ge 12, 3), (12, .aload_n 0, 1), (13, .getfield 11, 3), (16, .iload_n 1, 1), (17, .laload, 1), (18, .goto 4, 3), (21, .lconst 0, 1), (22, .lreturn, 1)]
def k_Tr_put : List (Nat × Instr × Nat) := [(0, .iload_n 1, 1), (1, .ifCond .lt 11, 3), (4, .iload_n 1, 1), (5, .aload_n 0, 1), (6, .getfield 19, 3), (9, .if_icmp .lt 5, 3), (12, .lconst 0, 1), (13, .lreturn, 1), (14, .aload_n 0, 1), (15, .getfield 11, 3), (18, .iload_n 1, 1), (19, .aload_n 0, 1), (20, .lload_n 2, 1), (21, .invokevirtual 37, 3), (24, .lastore, 1), (25, .aload_n 0, 1), (26, .getfield 11, 3), (29, .iload_n 1, 1), (30, .laload, 1), (31, .lreturn, 1)]
def k_Tr_cut : List (Nat × Instr × Nat) := [(0, .aload_n 0, 1), (1, .getfield 15, 3), (4, .tableswitch 42 0 2 #[28, 33, 38], 28), (32, .lload_n 1, 1), (33, .l2i, 1), (34, .i2b, 1), (35, .i2l, 1), (36, .lreturn, 1), (37, .lload_n 1, 1), (38, .l2i, 1), (39, .i2s, 1), (40, .i2l, 1), (41, .lreturn, 1), (42, .lload_n 1, 1), (43, .l2i, 1), (44, .i2l, 1), (45, .lreturn, 1), (46, .lload_n 1, 1), (47, .lreturn, 1)]
def k_Tr_isWithin : List (Nat × Instr × Nat) := [(0, .iconst 0, 1), (1, .istore_n 2, 1), (2, .iload_n 2, 1), (3, .aload_n 0, 1), (4, .getfield 19, 3), (7, .if_icmp .ge 34, 3), (10, .aload_n 0, 1), (11, .getfield 11, 3), (14, .iload_n 2, 1), (15, .laload, 1), (16, .lconst 0, 1), (17, .lcmp, 1), (18, .ifCond .lt 15, 3), (21, .aload_n 0, 1), (22, .getfield 11, 3), (25, .iload_n 2, 1), (26, .laload, 1), (27, .iload_n 1, 1), (28, .i2l, 1), (29, .lcmp, 1), (30, .ifCond .le 5, 3), (33, .iconst 0, 1), (34, .ireturn, 1), (35, .iinc 2 1, 3), (38, .goto (-36), 3), (41, .iconst 1, 1), (42, .ireturn, 1)]
def k_X_new : List (Nat × Instr × Nat) := [(0, .aload_n 0, 1), (1, .invokespecial 1, 3), (4, .aload_n 0, 1), (5, .sipush 900, 3), (8, .newarray .byte, 2), (10, .putfield 9, 3), (13, .aload_n 0, 1), (14, .iconst 0, 1), (15, .putfield 13, 3), (18, .aload_n 0, 1), (19, .new 17, 3), (22, .dup, 1), (23, .iconst 1, 1), (24, .iconst 1, 1), (25, .iconst 1, 1), (26, .newarray .int, 2), (28, .iconst 0, 1), (29, .iconst 0, 1), (30, .aconst_null, 1), (31, .aconst_null, 1), (32, .invokespecial 19, 3), (35, .putfield 22, 3), (38, .aload_n 0, 1), (39, .new 26, 3), (42, .dup, 1), (43, .invokespecial 28, 3), (46, .putfield 29, 3), (49, .aload_n 0, 1), (50, .new 26, 3), (53, .dup, 1), (54, .invokespecial 28, 3), (57, .putfield 33, 3), (60, .aload_n 0, 1), (61, .new 26, 3), (64, .dup, 1), (65, .invokespecial 28, 3), (68, .putfield 36, 3), (71, .aload_n 0, 1), (72, .new 39, 3), (75, .dup, 1), (76, .invokespecial 41, 3), (79, .putfield 42, 3), (82, .aload_n 0, 1), (83, .new 46, 3), (86, .dup, 1), (87, .invokespecial 48, 3), (90, .putfield 49, 3), (93, .iconst 4, 1), (94, .anewarray 53, 3), (97, .astore_n 1, 1), (98, .iconst 0, 1), (99, .istore_n 2, 1), (100, .iload_n 2, 1), (101, .aload_n 1, 1), (102, .arraylength, 1), (103, .if_icmp .ge 24, 3), (106, .aload_n 1, 1), (107, .iload_n 2, 1), (108, .new 53, 3), (111, .dup, 1), (112, .aload_n 0, 1), (113, .getfield 22, 3), (116, .iload_n 2, 1), (117, .invokespecial 55, 3), (120, .aastore, 1), (121, .iinc 2 1, 3), (124, .goto (-24), 3), (127, .aload_n 0, 1), (128, .new 58, 3), (131, .dup, 1), (132, .aload_n 0, 1), (133, .getfield 22, 3), (136, .aload_n 1, 1), (137, .invokespecial 60, 3), (140, .putfield 63, 3), (143, .aload_n 0, 1), (144, .new 67, 3), (147, .dup, 1), (148, .aload_n 1, 1), (149, .invokespecial 69, 3), (152, .putfield 72, 3), (155, .aload_n 0, 1), (156, .new 76, 3), (159, .dup, 1), (160, .invokespecial 78, 3), (163, .putfield 79, 3), (166, .aload_n 0, 1), (167, .iconst 4, 1), (168, .anewarray 83, 3), (171, .putfield 85, 3), (174, .iconst 0, 1), (175, .istore_n 2, 1), (176, .iload_n 2, 1), (177, .aload_n 0, 1), (178, .getfield 85, 3), (181, .arraylength, 1), (182, .if_icmp .ge 22, 3), (185, .aload_n 0, 1), (186, .getfield 85, 3), (189, .iload_n 2, 1), (190, .new 83, 3), (193, .dup, 1), (194, .invokespecial 89, 3), (197, .aastore, 1), (198, .iinc 2 1, 3), (201, .goto (-25), 3), (204, .aload_n 0, 1), (205, .iconst 2, 1), (206, .anewarray 17, 3), (209, .putfield 90, 3), (212, .aload_n 0, 1), (213, .iconst 2, 1), (214, .anewarray 26, 3), (217, .putfield 94, 3), (220, .iconst 0, 1), (221, .istore_n 2, 1), (222, .iload_n 2, 1), (223, .aload_n 0, 1), (224, .getfield 94, 3), (227, .arraylength, 1), (228, .if_icmp .ge 22, 3), (231, .aload_n 0, 1), (232, .getfield 94, 3), (235, .iload_n 2, 1), (236, .new 26, 3), (239, .dup, 1), (240, .invokespecial 28, 3), (243, .aastore, 1), (244, .iinc 2 1, 3), (247, .goto (-25), 3), (250, .return_, 1)]
def k_X_feed : List (Nat × Instr × Nat) := [(0, .aload_n 0, 1), (1, .getfield 13, 3), (4, .bipush 20, 2), (6, .iadd, 1), (7, .sipush 900, 3), (10, .if_icmp .le 6, 3), (13, .bipush (-5), 2), (15, .ireturn, 1), (16, .aload_n 0, 1), (17, .iload_n 1, 1), (18, .invokevirtual 98, 3), (21, .aload_n 0, 1), (22, .iload_n 2, 1), (23, .invokevirtual 98, 3), (26, .aload_n 0, 1), (27, .iload_n 3, 1), (28, .invokevirtual 98, 3), (31, .aload_n 0, 1), (32, .iload 4, 2), (34, .invokevirtual 98, 3), (37, .aload_n 0, 1), (38, .iload 5, 2), (40, .invokevirtual 98, 3), (43, .aload_n 0, 1), (44, .getfield 13, 3), (47, .ireturn, 1)]
def k_X_tapeFour : List (Nat × Instr × Nat) := [(0, .bipush 24, 2), (2, .istore_n 2, 1), (3, .iload_n 2, 1), (4, .ifCond .lt 44, 3), (7, .aload_n 0, 1), (8, .getfield 13, 3), (11, .aload_n 0, 1), (12, .getfield 9, 3), (15, .arraylength, 1), (16, .if_icmp .ge 32, 3), (19, .aload_n 0, 1), (20, .getfield 9, 3), (23, .aload_n 0, 1), (24, .getfield 13, 3), (27, .iload_n 1, 1), (28, .iload_n 2, 1), (29, .ishr, 1), (30, .i2b, 1), (31, .bastore, 1), (32, .aload_n 0, 1), (33, .dup, 1), (34, .getfield 13, 3), (37, .iconst 1, 1), (38, .iadd, 1), (39, .putfield 13, 3), (42, .iinc 2 (-8), 3), (45, .goto (-42), 3), (48, .return_, 1)]
def k_X_sheet : List (Nat × Instr × Nat) := [(0, .iload_n 1, 1), (1, .ifCond .lt 11, 3), (4, .iload_n 1, 1), (5, .aload_n 0, 1), (6, .getfield 13, 3), (9, .if_icmp .le 6, 3), (12, .bipush (-3), 2), (14, .ireturn, 1), (15, .aload_n 0, 1), (16, .getfield 49, 3), (19, .aload_n 0, 1), (20, .getfield 9, 3), (23, .iload_n 1, 1), (24, .invokevirtual 102, 3), (27, .astore_n 2, 1), (28, .aload_n 0, 1), (29, .iconst 0, 1), (30, .putfield 13, 3), (33, .aload_n 2, 1), (34, .ifnonnull 14, 3), (37, .bipush (-30), 2), (39, .aload_n 0, 1), (40, .getfield 49, 3), (43, .getfield 106, 3), (46, .isub, 1), (47, .ireturn, 1), (48, .aload_n 0, 1), (49, .aload_n 2, 1), (50, .putfield 22, 3), (53, .aload_n 0, 1), (54, .getfield 29, 3), (57, .aload_n 0, 1), (58, .getfield 49, 3), (61, .getfield 109, 3), (64, .invokevirtual 112, 3), (67, .aload_n 0, 1), (68, .getfield 42, 3), (71, .invokevirtual 116, 3), (74, .aload_n 0, 1), (75, .getfield 22, 3), (78, .getfield 119, 3), (81, .ireturn, 1)]
def k_X_fault : List (Nat × Instr × Nat) := [(0, .iload_n 1, 1), (1, .lookupswitch 43 #[(0, 27), (1, 35)], 27), (28, .aload_n 0, 1), (29, .getfield 49, 3), (32, .getfield 106, 3), (35, .ireturn, 1), (36, .aload_n 0, 1), (37, .getfield 49, 3), (40, .getfield 122, 3), (43, .ireturn, 1), (44, .iconst (-1), 1), (45, .ireturn, 1)]
def k_X_cell : List (Nat × Instr × Nat) := [(0, .aload_n 0, 1), (1, .getfield 22, 3), (4, .iload_n 1, 1), (5, .invokevirtual 125, 3), (8, .ifCond .ne 6, 3), (11, .bipush (-2), 2), (13, .ireturn, 1), (14, .iload_n 2, 1), (15, .tableswitch 117 0 5 #[37, 46, 63, 79, 95, 101], 37), (52, .aload_n 0, 1), (53, .getfield 22, 3), (56, .iload_n 1, 1), (57, .invokevirtual 129, 3), (60, .ireturn, 1), (61, .aload_n 0, 1), (62, .getfield 29, 3), (65, .iload_n 1, 1), (66, .invokevirtual 133, 3), (69, .ifCond .eq 7, 3), (72, .iconst 1, 1), (73, .goto 4, 3), (76, .iconst 0, 1), (77, .ireturn, 1), (78, .aload_n 0, 1), (79, .getfield 22, 3), (82, .iload_n 1, 1), (83, .aload_n 0, 1), (84, .getfield 29, 3), (87, .getfield 136, 3), (90, .invokevirtual 139, 3), (93, .ireturn, 1), (94, .aload_n 0, 1), (95, .getfield 22, 3), (98, .iload_n 1, 1), (99, .aload_n 0, 1), (100, .getfield 29, 3), (103, .getfield 136, 3), (106, .invokevirtual 143, 3), (109, .ireturn, 1), (110, .aload_n 0, 1), (111, .iload_n 1, 1), (112, .invokevirtual 146, 3), (115, .ireturn, 1), (116, .aload_n 0, 1), (117, .getfield 22, 3), (120, .iload_n 1, 1), (121, .aload_n 0, 1), (122, .getfield 29, 3), (125, .getfield 149, 3), (128, .invokevirtual 152, 3), (131, .ireturn, 1), (132, .bipush (-2), 2), (134, .ireturn, 1)]
def k_X_handsFor : List (Nat × Instr × Nat) := [(0, .iconst 0, 1), (1, .istore_n 2, 1), (2, .iconst 0, 1), (3, .istore_n 3, 1), (4, .iload_n 3, 1), (5, .aload_n 0, 1), (6, .getfield 22, 3), (9, .getfield 155, 3), (12, .if_icmp .ge 31, 3), (15, .aload_n 0, 1), (16, .getfield 29, 3), (19, .aload_n 0, 1), (20, .getfield 22, 3), (23, .iload_n 3, 1), (24, .iload_n 1, 1), (25, .invokevirtual 158, 3), (28, .ifCond .ne 9, 3), (31, .iload_n 2, 1), (32, .iconst 1, 1), (33, .iload_n 3, 1), (34, .ishl, 1), (35, .ior, 1), (36, .istore_n 2, 1), (37, .iinc 3 1, 3), (40, .goto (-36), 3), (43, .iload_n 2, 1), (44, .ireturn, 1)]
def k_X_hand : List (Nat × Instr × Nat) := [(0, .aload_n 0, 1), (1, .getfield 22, 3), (4, .iload_n 1, 1), (5, .invokevirtual 162, 3), (8, .ifCond .ne 6, 3), (11, .bipush (-2), 2), (13, .ireturn, 1), (14, .iload_n 2, 1), (15, .lookupswitch 40 #[(0, 25), (1, 34)], 25), (40, .aload_n 0, 1), (41, .getfield 29, 3), (44, .iload_n 1, 1), (45, .invokevirtual 165, 3), (48, .ireturn, 1), (49, .aload_n 0, 1), (50, .iload_n 1, 1), (51, .invokevirtual 168, 3), (54, .ireturn, 1), (55, .bipush (-2), 2), (57, .ireturn, 1)]
def k_X_cellsFor : List (Nat × Instr × Nat) := [(0, .iconst 0, 1), (1, .istore_n 2, 1), (2, .iconst 0, 1), (3, .istore_n 3, 1), (4, .iload_n 3, 1), (5, .aload_n 0, 1), (6, .getfield 22, 3), (9, .getfield 171, 3), (12, .if_icmp .ge 31, 3), (15, .aload_n 0, 1), (16, .getfield 29, 3), (19, .aload_n 0, 1), (20, .getfield 22, 3), (23, .iload_n 1, 1), (24, .iload_n 3, 1), (25, .invokevirtual 158, 3), (28, .ifCond .ne 9, 3), (31, .iload_n 2, 1), (32, .iconst 1, 1), (33, .iload_n 3, 1), (34, .ishl, 1), (35, .ior, 1), (36, .istore_n 2, 1), (37, .iinc 3 1, 3), (40, .goto (-36), 3), (43, .iload_n 2, 1), (44, .ireturn, 1)]
def k_X_stroke : List (Nat × Instr × Nat) := [(0, .aload_n 0, 1), (1, .getfield 33, 3), (4, .aload_n 0, 1), (5, .getfield 29, 3), (8, .invokevirtual 112, 3), (11, .aload_n 0, 1), (12, .getfield 29, 3), (15, .aload_n 0, 1), (16, .getfield 22, 3), (19, .iload_n 1, 1), (20, .iload_n 2, 1), (21, .invokevirtual 174, 3), (24, .istore_n 3, 1), (25, .iload_n 3, 1), (26, .ifCond .ne 10, 3), (29, .aload_n 0, 1), (30, .invokevirtual 177, 3), (33, .goto 7, 3), (36, .bipush (-10), 2), (38, .iload_n 3, 1), (39, .isub, 1), (40, .ireturn, 1)]
def k_X_rub : List (Nat × Instr × Nat) := [(0, .aload_n 0, 1), (1, .getfield 33, 3), (4, .aload_n 0, 1), (5, .getfield 29, 3), (8, .invokevirtual 112, 3), (11, .aload_n 0, 1), (12, .getfield 29, 3), (15, .aload_n 0, 1), (16, .getfield 22, 3), (19, .iload_n 1, 1), (20, .invokevirtual 181, 3), (23, .istore_n 2, 1), (24, .iload_n 2, 1), (25, .ifCond .ne 10, 3), (28, .aload_n 0, 1), (29, .invokevirtual 177, 3), (32, .goto 7, 3), (35, .bipush (-10), 2), (37, .iload_n 2, 1), (38, .isub, 1), (39, .ireturn, 1)]
def k_X_keptLeft : List (Nat × Instr × Nat) := [(0, .aload_n 0, 1), (1, .getfield 42, 3), (4, .aload_n 0, 1), (5, .getfield 33, 3), (8, .invokevirtual 185, 3), (11, .aload_n 0, 1), (12, .getfield 22, 3), (15, .aload_n 0, 1), (16, .getfield 29, 3), (19, .getfield 136, 3), (22, .invokevirtual 188, 3), (25, .ireturn, 1)]
def k_X_habit : List (Nat × Instr × Nat) := [(0, .aload_n 0, 1), (1, .getfield 33, 3), (4, .aload_n 0, 1), (5, .getfield 29, 3), (8, .invokevirtual 112, 3), (11, .aload_n 0, 1), (12, .getfield 29, 3), (15, .aload_n 0, 1), (16, .getfield 22, 3), (19, .iload_n 1, 1), (20, .iload_n 2, 1), (21, .invokevirtual 191, 3), (24, .istore_n 3, 1), (25, .iload_n 3, 1), (26, .ifCond .eq 8, 3), (29, .bipush (-10), 2), (31, .iload_n 3, 1), (32, .isub, 1), (33, .ireturn, 1), (34, .aload_n 0, 1), (35, .getfield 42, 3), (38, .aload_n 0, 1), (39, .getfield 33, 3), (42, .invokevirtual 185, 3), (45, .aload_n 0, 1), (46, .getfield 33, 3), (49, .iload_n 1, 1), (50, .invokevirtual 165, 3), (53, .ireturn, 1)]
def k_X_hide : List (Nat × Instr × Nat) := [(0, .aload_n 0, 1), (1, .getfield 33, 3), (4, .aload_n 0, 1), (5, .getfield 29, 3), (8, .invokevirtual 112, 3), (11, .aload_n 0, 1), (12, .getfield 29, 3), (15, .aload_n 0, 1), (16, .getfield 22, 3), (19, .iload_n 1, 1), (20, .invokevirtual 194, 3), (23, .istore_n 2, 1), (24, .iload_n 2, 1), (25, .ifCond .eq 8, 3), (28, .bipush (-10), 2), (30, .iload_n 2, 1), (31, .isub, 1), (32, .ireturn, 1), (33, .aload_n 0, 1), (34, .getfield 42, 3), (37, .aload_n 0, 1), (38, .getfield 33, 3), (41, .invokevirtual 185, 3), (44, .aload_n 0, 1), (45, .getfield 33, 3), (48, .getfield 197, 3), (51, .ireturn, 1)]
def k_X_undo : List (Nat × Instr × Nat) := [(0, .iload_n 1, 1), (1, .iconst 1, 1), (2, .if_icmp .lt 14, 3), (5, .iload_n 1, 1), (6, .aload_n 0, 1), (7, .getfield 42, 3), (10, .getfield 200, 3), (13, .if_icmp .le 6, 3), (16, .bipush (-3), 2), (18, .ireturn, 1), (19, .aload_n 0, 1), (20, .getfield 42, 3), (23, .iload_n 1, 1), (24, .aload_n 0, 1), (25, .getfield 29, 3), (28, .invokevirtual 203, 3), (31, .aload_n 0, 1), (32, .getfield 42, 3), (35, .getfield 200, 3), (38, .ireturn, 1)]
def k_X_judge : List (Nat × Instr × Nat) := [(0, .iload_n 1, 1), (1, .invokestatic 207, 3), (4, .ifCond .eq 12, 3), (7, .iload_n 2, 1), (8, .ifCond .lt 8, 3), (11, .iload_n 2, 1), (12, .iconst 3, 1), (13, .if_icmp .le 6, 3), (16, .bipush (-2), 2), (18, .ireturn, 1), (19, .aload_n 0, 1), (20, .getfield 85, 3), (23, .iload_n 1, 1), (24, .aaload, 1), (25, .astore_n 3, 1), (26, .aload_n 3, 1), (27, .invokevirtual 210, 3), (30, .ifCond .eq 6, 3), (33, .bipush (-6), 2), (35, .ireturn, 1), (36, .aload_n 0, 1), (37, .getfield 36, 3), (40, .aload_n 0, 1), (41, .getfield 29, 3), (44, .invokevirtual 112, 3), (47, .iconst (-1), 1), (48, .istore 4, 2), (50, .iconst 0, 1), (51, .istore 5, 2), (53, .iconst 0, 1), (54, .istore 6, 2), (56, .iload 6, 2), (58, .aload_n 3, 1), (59, .getfield 214, 3), (62, .if_icmp .ge 46, 3), (65, .iload 5, 2), (67, .ifCond .ne 41, 3), (70, .aload_n 0, 1), (71, .getfield 36, 3), (74, .aload_n 0, 1), (75, .getfield 22, 3), (78, .aload_n 3, 1), (79, .iload 6, 2), (81, .invokevirtual 217, 3), (84, .invokevirtual 221, 3), (87, .istore 5, 2), (89, .iload 5, 2), (91, .ifCond .ne 7, 3), (94, .iconst (-1), 1), (95, .goto 5, 3), (98, .iload 6, 2), (100, .istore 4, 2), (102, .iinc 6 1, 3), (105, .goto (-49), 3), (108, .iload_n 2, 1), (109, .tableswitch 41 0 2 #[27, 30, 33], 27), (136, .iload 4, 2), (138, .ireturn, 1), (139, .iload 5, 2), (141, .ireturn, 1), (142, .aload_n 0, 1), (143, .getfield 36, 3), (146, .getfield 136, 3), (149, .ireturn, 1), (150, .aload_n 0, 1), (151, .getfield 36, 3), (154, .invokevirtual 225, 3), (157, .ifCond .eq 7, 3), (160, .iconst 1, 1), (161, .goto 4, 3), (164, .iconst 0, 1), (165, .ireturn, 1)]
def k_X_perform : List (Nat × Instr × Nat) := [(0, .iload_n 1, 1), (1, .invokestatic 207, 3), (4, .ifCond .ne 6, 3), (7, .bipush (-2), 2), (9, .ireturn, 1), (10, .aload_n 0, 1), (11, .getfield 85, 3), (14, .iload_n 1, 1), (15, .aaload, 1), (16, .astore_n 2, 1), (17, .aload_n 2, 1), (18, .invokevirtual 210, 3), (21, .ifCond .eq 6, 3), (24, .bipush (-6), 2), (26, .ireturn, 1), (27, .aload_n 0, 1), (28, .getfield 33, 3), (31, .aload_n 0, 1), (32, .getfield 29, 3), (35, .invokevirtual 112, 3), (38, .iconst 0, 1), (39, .istore_n 3, 1), (40, .iconst 0, 1), (41, .istore 4, 2), (43, .iload 4, 2), (45, .aload_n 2, 1), (46, .getfield 214, 3), (49, .if_icmp .ge 32, 3), (52, .aload_n 0, 1), (53, .getfield 29, 3), (56, .aload_n 0, 1), (57, .getfield 22, 3), (60, .aload_n 2, 1), (61, .iload 4, 2), (63, .invokevirtual 217, 3), (66, .invokevirtual 221, 3), (69, .ifCond .ne 12, 3), (72, .iinc 3 1, 3), (75, .iinc 4 1, 3), (78, .goto (-35), 3), (81, .aload_n 0, 1), (82, .iload_n 3, 1), (83, .invokevirtual 228, 3), (86, .ireturn, 1)]
def k_X_keptIfAny : List (Nat × Instr × Nat) := [(0, .iload_n 1, 1), (1, .ifCond .le 14, 3), (4, .aload_n 0, 1), (5, .getfield 42, 3), (8, .aload_n 0, 1), (9, .getfield 33, 3), (12, .invokevirtual 185, 3), (15, .iload_n 1, 1), (16, .ireturn, 1)]
def k_X_night : List (Nat × Instr × Nat) := [(0, .iload_n 2, 1), (1, .iconst 1, 1), (2, .if_icmp .lt 9, 3), (5, .iload_n 2, 1), (6, .bipush 40, 2), (8, .if_icmp .le 6, 3), (11, .bipush (-3), 2), (13, .ireturn, 1), (14, .aload_n 0, 1), (15, .getfield 33, 3), (18, .aload_n 0, 1), (19, .getfield 29, 3), (22, .invokevirtual 112, 3), (25, .iload_n 1, 1), (26, .istore_n 3, 1), (27, .iconst 0, 1), (28, .istore 4, 2), (30, .iconst 0, 1), (31, .istore 5, 2), (33, .iload 5, 2), (35, .iload_n 2, 1), (36, .if_icmp .ge 87, 3), (39, .iload_n 3, 1), (40, .invokestatic 231, 3), (43, .istore_n 3, 1), (44, .iload_n 3, 1), (45, .bipush 16, 2), (47, .iushr, 1), (48, .bipush 6, 2), (50, .irem, 1), (51, .istore 6, 2), (53, .iload_n 3, 1), (54, .invokestatic 231, 3), (57, .istore_n 3, 1), (58, .iload_n 3, 1), (59, .bipush 16, 2), (61, .iushr, 1), (62, .istore 7, 2), (64, .iconst 0, 1), (65, .istore 8, 2), (67, .iload 6, 2), (69, .iconst 3, 1), (70, .if_icmp .lt 9, 3), (73, .iload 6, 2), (75, .iconst 4, 1), (76, .if_icmp .ne 14, 3), (79, .iload_n 3, 1), (80, .invokestatic 231, 3), (83, .istore_n 3, 1), (84, .iload_n 3, 1), (85, .bipush 16, 2), (87, .iushr, 1), (88, .istore 8, 2), (90, .aload_n 0, 1), (91, .getfield 29, 3), (94, .aload_n 0, 1), (95, .getfield 22, 3), (98, .iload 6, 2), (100, .iload 7, 2), (102, .iload 8, 2), (104, .invokestatic 234, 3), (107, .i2l, 1), (108, .invokevirtual 221, 3), (111, .ifCond .ne 6, 3), (114, .iinc 4 1, 3), (117, .iinc 5 1, 3), (120, .goto (-87), 3), (123, .aload_n 0, 1), (124, .iload 4, 2), (126, .invokevirtual 228, 3), (129, .ireturn, 1)]
def k_X_shaken : List (Nat × Instr × Nat) := [(0, .ldc 238, 2), (2, .iload_n 0, 1), (3, .imul, 1), (4, .sipush 12345, 3), (7, .iadd, 1), (8, .ireturn, 1)]
def k_X_nightDeed : List (Nat × Instr × Nat) := [(0, .iload_n 0, 1), (1, .tableswitch 61 3 5 #[27, 36, 52], 27), (28, .sipush 500, 3), (31, .iload_n 1, 1), (32, .bipush 12, 2), (34, .irem, 1), (35, .iadd, 1), (36, .ireturn, 1), (37, .sipush 600, 3), (40, .iload_n 1, 1), (41, .iconst 4, 1), (42, .irem, 1), (43, .bipush 10, 2), (45, .imul, 1), (46, .iadd, 1), (47, .iload_n 2, 1), (48, .bipush 10, 2), (50, .irem, 1), (51, .iadd, 1), (52, .ireturn, 1), (53, .sipush 700, 3), (56, .iload_n 1, 1), (57, .bipush 12, 2), (59, .irem, 1), (60, .iadd, 1), (61, .ireturn, 1), (62, .iload_n 1, 1), (63, .iconst 4, 1), (64, .irem, 1), (65, .bipush 100, 2), (67, .imul, 1), (68, .iload_n 2, 1), (69, .bipush 12, 2), (71, .irem, 1), (72, .iadd, 1), (73, .ireturn, 1)]
def k_X_longest : List (Nat × Instr × Nat) := [(0, .aload_n 0, 1), (1, .iload_n 1, 1), (2, .iload_n 2, 1), (3, .invokevirtual 239, 3), (6, .istore_n 3, 1), (7, .iload_n 3, 1), (8, .ifCond .eq 5, 3), (11, .iload_n 3, 1), (12, .ireturn, 1), (13, .aload_n 0, 1), (14, .getfield 63, 3), (17, .aload_n 0, 1), (18, .getfield 22, 3), (21, .aload_n 0, 1), (22, .getfield 29, 3), (25, .iload_n 1, 1), (26, .iload_n 1, 1), (27, .invokevirtual 242, 3), (30, .aload_n 0, 1), (31, .getfield 63, 3), (34, .iconst 0, 1), (35, .iload_n 2, 1), (36, .invokevirtual 246, 3), (39, .ireturn, 1)]
def k_X_refusedCell : List (Nat × Instr × Nat) := [(0, .aload_n 0, 1), (1, .getfield 22, 3), (4, .iload_n 1, 1), (5, .invokevirtual 162, 3), (8, .ifCond .eq 14, 3), (11, .aload_n 0, 1), (12, .getfield 22, 3), (15, .iload_n 2, 1), (16, .invokevirtual 125, 3), (19, .ifCond .ne 6, 3), (22, .bipush (-2), 2), (24, .ireturn, 1), (25, .aload_n 0, 1), (26, .getfield 29, 3), (29, .iload_n 2, 1), (30, .invokevirtual 133, 3), (33, .ifCond .eq 8, 3), (36, .bipush (-5), 2), (38, .goto 4, 3), (41, .iconst 0, 1), (42, .ireturn, 1)]
def k_X_longWay : List (Nat × Instr × Nat) := [(0, .aload_n 0, 1), (1, .iload_n 1, 1), (2, .iload_n 2, 1), (3, .invokevirtual 239, 3), (6, .istore 4, 2), (8, .iload 4, 2), (10, .ifCond .eq 6, 3), (13, .iload 4, 2), (15, .ireturn, 1), (16, .iload_n 3, 1), (17, .ifCond .ge 6, 3), (20, .bipush (-3), 2), (22, .ireturn, 1), (23, .aload_n 0, 1), (24, .getfield 63, 3), (27, .aload_n 0, 1), (28, .getfield 22, 3), (31, .aload_n 0, 1), (32, .getfield 29, 3), (35, .iload_n 1, 1), (36, .iload_n 1, 1), (37, .invokevirtual 242, 3), (40, .aload_n 0, 1), (41, .getfield 63, 3), (44, .iconst 0, 1), (45, .iload_n 2, 1), (46, .invokevirtual 246, 3), (49, .pop, 1), (50, .aload_n 0, 1), (51, .getfield 63, 3), (54, .iload_n 3, 1), (55, .invokevirtual 249, 3), (58, .ireturn, 1)]
def k_X_stuck : List (Nat × Instr × Nat) := [(0, .aload_n 0, 1), (1, .getfield 22, 3), (4, .iload_n 1, 1), (5, .invokevirtual 162, 3), (8, .ifCond .ne 6, 3), (11, .bipush (-2), 2), (13, .ireturn, 1), (14, .aload_n 0, 1), (15, .getfield 63, 3), (18, .aload_n 0, 1), (19, .getfield 22, 3), (22, .aload_n 0, 1), (23, .getfield 29, 3), (26, .iload_n 1, 1), (27, .iload_n 1, 1), (28, .invokevirtual 242, 3), (31, .aload_n 0, 1), (32, .getfield 63, 3), (35, .iconst 1, 1), (36, .iconst 0, 1), (37, .invokevirtual 246, 3), (40, .ireturn, 1)]
def k_X_stuckWay : List (Nat × Instr × Nat) := [(0, .aload_n 0, 1), (1, .getfield 22, 3), (4, .iload_n 1, 1), (5, .invokevirtual 162, 3), (8, .ifCond .ne 6, 3), (11, .bipush (-2), 2), (13, .ireturn, 1), (14, .iload_n 2, 1), (15, .ifCond .ge 6, 3), (18, .bipush (-3), 2), (20, .ireturn, 1), (21, .aload_n 0, 1), (22, .getfield 63, 3), (25, .aload_n 0, 1), (26, .getfield 22, 3), (29, .aload_n 0, 1), (30, .getfield 29, 3), (33, .iload_n 1, 1), (34, .iload_n 1, 1), (35, .invokevirtual 242, 3), (38, .aload_n 0, 1), (39, .getfield 63, 3), (42, .iconst 1, 1), (43, .iconst 0, 1), (44, .invokevirtual 246, 3), (47, .pop, 1), (48, .aload_n 0, 1), (49, .getfield 63, 3), (52, .iload_n 2, 1), (53, .invokevirtual 249, 3), (56, .ireturn, 1)]
def k_X_soonest : List (Nat × Instr × Nat) := [(0, .aload_n 0, 1), (1, .iload_n 1, 1), (2, .iload_n 2, 1), (3, .invokevirtual 239, 3), (6, .istore_n 3, 1), (7, .iload_n 3, 1), (8, .ifCond .eq 5, 3), (11, .iload_n 3, 1), (12, .ireturn, 1), (13, .aload_n 0, 1), (14, .getfield 63, 3), (17, .aload_n 0, 1), (18, .getfield 22, 3), (21, .aload_n 0, 1), (22, .getfield 29, 3), (25, .iload_n 1, 1), (26, .iload_n 1, 1), (27, .invokevirtual 242, 3), (30, .aload_n 0, 1), (31, .getfield 63, 3), (34, .iconst 2, 1), (35, .iload_n 2, 1), (36, .invokevirtual 246, 3), (39, .istore 4, 2), (41, .iload 4, 2), (43, .ldc 252, 2), (45, .if_icmp .lt 7, 3), (48, .iconst (-1), 1), (49, .goto 5, 3), (52, .iload 4, 2), (54, .ireturn, 1)]
def k_X_way : List (Nat × Instr × Nat) := [(0, .aload_n 0, 1), (1, .iload_n 1, 1), (2, .iload_n 2, 1), (3, .invokevirtual 239, 3), (6, .istore 4, 2), (8, .iload 4, 2), (10, .ifCond .eq 6, 3), (13, .iload 4, 2), (15, .ireturn, 1), (16, .iload_n 3, 1), (17, .ifCond .ge 6, 3), (20, .bipush (-3), 2), (22, .ireturn, 1), (23, .aload_n 0, 1), (24, .getfield 63, 3), (27, .aload_n 0, 1), (28, .getfield 22, 3), (31, .aload_n 0, 1), (32, .getfield 29, 3), (35, .iload_n 1, 1), (36, .iload_n 1, 1), (37, .invokevirtual 242, 3), (40, .aload_n 0, 1), (41, .getfield 63, 3), (44, .iconst 2, 1), (45, .iload_n 2, 1), (46, .invokevirtual 246, 3), (49, .pop, 1), (50, .aload_n 0, 1), (51, .getfield 63, 3), (54, .iload_n 3, 1), (55, .invokevirtual 249, 3), (58, .ireturn, 1)]
def k_X_reach : List (Nat × Instr × Nat) := [(0, .aload_n 0, 1), (1, .getfield 22, 3), (4, .iload_n 1, 1), (5, .invokevirtual 162, 3), (8, .ifCond .ne 6, 3), (11, .bipush (-2), 2), (13, .ireturn, 1), (14, .aload_n 0, 1), (15, .getfield 63, 3), (18, .aload_n 0, 1), (19, .getfield 22, 3), (22, .aload_n 0, 1), (23, .getfield 29, 3), (26, .iload_n 1, 1), (27, .iload_n 1, 1), (28, .invokevirtual 242, 3), (31, .aload_n 0, 1), (32, .getfield 63, 3), (35, .invokevirtual 253, 3), (38, .ireturn, 1)]
def k_X_ahead : List (Nat × Instr × Nat) := [(0, .aload_n 0, 1), (1, .iload_n 1, 1), (2, .iload_n 2, 1), (3, .invokevirtual 239, 3), (6, .istore_n 3, 1), (7, .iload_n 3, 1), (8, .ifCond .eq 5, 3), (11, .iload_n 3, 1), (12, .ireturn, 1), (13, .aload_n 0, 1), (14, .getfield 63, 3), (17, .aload_n 0, 1), (18, .getfield 22, 3), (21, .aload_n 0, 1), (22, .getfield 29, 3), (25, .iload_n 1, 1), (26, .iload_n 1, 1), (27, .invokevirtual 242, 3), (30, .aload_n 0, 1), (31, .getfield 63, 3), (34, .iload_n 2, 1), (35, .invokevirtual 256, 3), (38, .ireturn, 1)]
def k_X_rows : List (Nat × Instr × Nat) := [(0, .aload_n 0, 1), (1, .getfield 22, 3), (4, .iload_n 1, 1), (5, .invokevirtual 162, 3), (8, .ifCond .ne 7, 3), (11, .ldc2_w 259, 3), (14, .lreturn, 1), (15, .iload_n 2, 1), (16, .ifCond .lt 9, 3), (19, .iload_n 2, 1), (20, .bipush 12, 2), (22, .if_icmp .le 7, 3), (25, .ldc2_w 261, 3), (28, .lreturn, 1), (29, .aload_n 0, 1), (30, .getfield 63, 3), (33, .aload_n 0, 1), (34, .getfield 22, 3), (37, .aload_n 0, 1), (38, .getfield 29, 3), (41, .iload_n 1, 1), (42, .iload_n 1, 1), (43, .invokevirtual 242, 3), (46, .aload_n 0, 1), (47, .getfield 63, 3), (50, .invokevirtual 263, 3), (53, .aload_n 0, 1), (54, .getfield 63, 3), (57, .getfield 266, 3), (60, .iload_n 2, 1), (61, .laload, 1), (62, .lreturn, 1)]
def k_X_ends : List (Nat × Instr × Nat) := [(0, .aload_n 0, 1), (1, .getfield 22, 3), (4, .iload_n 1, 1), (5, .invokevirtual 162, 3), (8, .ifCond .ne 7, 3), (11, .ldc2_w 259, 3), (14, .lreturn, 1), (15, .aload_n 0, 1), (16, .getfield 63, 3), (19, .aload_n 0, 1), (20, .getfield 22, 3), (23, .aload_n 0, 1), (24, .getfield 29, 3), (27, .iload_n 1, 1), (28, .iload_n 1, 1), (29, .invokevirtual 242, 3), (32, .aload_n 0, 1), (33, .getfield 63, 3), (36, .invokevirtual 263, 3), (39, .aload_n 0, 1), (40, .getfield 63, 3), (43, .getfield 270, 3), (46, .lreturn, 1)]
def k_X_likely : List (Nat × Instr × Nat) := [(0, .aload_n 0, 1), (1, .getfield 22, 3), (4, .iload_n 1, 1), (5, .invokevirtual 125, 3), (8, .ifCond .eq 12, 3), (11, .iload_n 2, 1), (12, .ifCond .lt 8, 3), (15, .iload_n 2, 1), (16, .iconst 1, 1), (17, .if_icmp .le 6, 3), (20, .bipush (-2), 2), (22, .ireturn, 1), (23, .aload_n 0, 1), (24, .getfield 22, 3), (27, .aload_n 0, 1), (28, .getfield 29, 3), (31, .getfield 136, 3), (34, .invokevirtual 274, 3), (37, .istore_n 3, 1), (38, .iload_n 3, 1), (39, .ifCond .ne 5, 3), (42, .iconst (-1), 1), (43, .ireturn, 1), (44, .aload_n 0, 1), (45, .getfield 22, 3), (48, .iload_n 1, 1), (49, .aload_n 0, 1), (50, .getfield 29, 3), (53, .getfield 136, 3), (56, .invokevirtual 143, 3), (59, .i2l, 1), (60, .iload_n 3, 1), (61, .i2l, 1), (62, .iload_n 2, 1), (63, .invokestatic 277, 3), (66, .l2i, 1), (67, .ireturn, 1)]
def k_X_inLowestTerms : List (Nat × Instr × Nat) := [(0, .lload_n 0, 1), (1, .lstore 5, 2), (3, .lload_n 2, 1), (4, .lstore 7, 2), (6, .iconst 0, 1), (7, .istore 9, 2), (9, .iload 9, 2), (11, .sipush 200, 3), (14, .if_icmp .ge 31, 3), (17, .lload 7, 2), (19, .lconst 0, 1), (20, .lcmp, 1), (21, .ifCond .eq 24, 3), (24, .lload 5, 2), (26, .lload 7, 2), (28, .lrem, 1), (29, .lstore 10, 2), (31, .lload 7, 2), (33, .lstore 5, 2), (35, .lload 10, 2), (37, .lstore 7, 2), (39, .iinc 9 1, 3), (42, .goto (-33), 3), (45, .lload 5, 2), (47, .lconst 0, 1), (48, .lcmp, 1), (49, .ifCond .ne 5, 3), (52, .lconst 0, 1), (53, .lreturn, 1), (54, .iload 4, 2), (56, .ifCond .ne 10, 3), (59, .lload_n 0, 1), (60, .lload 5, 2), (62, .ldiv, 1), (63, .goto 7, 3), (66, .lload_n 2, 1), (67, .lload 5, 2), (69, .ldiv, 1), (70, .lreturn, 1)]
def k_X_safest : List (Nat × Instr × Nat) := [(0, .aload_n 0, 1), (1, .getfield 22, 3), (4, .iload_n 1, 1), (5, .invokevirtual 162, 3), (8, .ifCond .eq 11, 3), (11, .iload_n 3, 1), (12, .iconst 1, 1), (13, .invokestatic 281, 3), (16, .ifCond .ne 6, 3), (19, .bipush (-2), 2), (21, .ireturn, 1), (22, .iload_n 2, 1), (23, .ifCond .lt 9, 3), (26, .iload_n 2, 1), (27, .bipush 12, 2), (29, .if_icmp .le 6, 3), (32, .bipush (-3), 2), (34, .ireturn, 1), (35, .aload_n 0, 1), (36, .getfield 22, 3), (39, .aload_n 0, 1), (40, .getfield 29, 3), (43, .getfield 136, 3), (46, .invokevirtual 274, 3), (49, .istore 4, 2), (51, .iload 4, 2), (53, .ifCond .ne 5, 3), (56, .iconst (-1), 1), (57, .ireturn, 1), (58, .aload_n 0, 1), (59, .getfield 63, 3), (62, .aload_n 0, 1), (63, .getfield 22, 3), (66, .aload_n 0, 1), (67, .getfield 29, 3), (70, .iload_n 1, 1), (71, .iload_n 1, 1), (72, .invokevirtual 242, 3), (75, .aload_n 0, 1), (76, .getfield 63, 3), (79, .iconst 3, 1), (80, .iload_n 2, 1), (81, .invokevirtual 246, 3), (84, .istore 5, 2), (86, .iload 5, 2), (88, .ldc 252, 2), (90, .if_icmp .lt 5, 3), (93, .iconst (-1), 1), (94, .ireturn, 1), (95, .iload_n 3, 1), (96, .bipush 10, 2), (98, .if_icmp .lt 17, 3), (101, .aload_n 0, 1), (102, .getfield 63, 3), (105, .iload_n 3, 1), (106, .bipush 10, 2), (108, .isub, 1), (109, .invokevirtual 249, 3), (112, .goto 17, 3), (115, .iload 4, 2), (117, .iload 5, 2), (119, .isub, 1), (120, .i2l, 1), (121, .iload 4, 2), (123, .i2l, 1), (124, .iload_n 3, 1), (125, .invokestatic 277, 3), (128, .l2i, 1), (129, .ireturn, 1)]
def k_X_isPart : List (Nat × Instr × Nat) := [(0, .iload_n 0, 1), (1, .ifCond .lt 8, 3), (4, .iload_n 0, 1), (5, .iload_n 1, 1), (6, .if_icmp .le 15, 3), (9, .iload_n 0, 1), (10, .bipush 10, 2), (12, .if_icmp .lt 13, 3), (15, .iload_n 0, 1), (16, .bipush 22, 2), (18, .if_icmp .ge 7, 3), (21, .iconst 1, 1), (22, .goto 4, 3), (25, .iconst 0, 1), (26, .ireturn, 1)]
def k_X_likeliest : List (Nat × Instr × Nat) := [(0, .iconst 0, 1), (1, .istore_n 1, 1), (2, .iconst (-1), 1), (3, .istore_n 2, 1), (4, .iconst 0, 1), (5, .istore_n 3, 1), (6, .iload_n 3, 1), (7, .aload_n 0, 1), (8, .getfield 22, 3), (11, .getfield 171, 3), (14, .if_icmp .ge 37, 3), (17, .aload_n 0, 1), (18, .getfield 22, 3), (21, .iload_n 3, 1), (22, .aload_n 0, 1), (23, .getfield 29, 3), (26, .getfield 136, 3), (29, .invokevirtual 143, 3), (32, .istore 4, 2), (34, .iload 4, 2), (36, .iload_n 1, 1), (37, .if_icmp .le 8, 3), (40, .iload 4, 2), (42, .istore_n 1, 1), (43, .iload_n 3, 1), (44, .istore_n 2, 1), (45, .iinc 3 1, 3), (48, .goto (-42), 3), (51, .iload_n 2, 1), (52, .ireturn, 1)]
def k_X_wins : List (Nat × Instr × Nat) := [(0, .aload_n 0, 1), (1, .iload_n 1, 1), (2, .iload_n 2, 1), (3, .iload_n 3, 1), (4, .invokevirtual 285, 3), (7, .ifCond .eq 6, 3), (10, .bipush (-2), 2), (12, .ireturn, 1), (13, .aload_n 0, 1), (14, .getfield 63, 3), (17, .aload_n 0, 1), (18, .getfield 22, 3), (21, .aload_n 0, 1), (22, .getfield 29, 3), (25, .iload_n 1, 1), (26, .iload_n 2, 1), (27, .invokevirtual 242, 3), (30, .aload_n 0, 1), (31, .getfield 63, 3), (34, .iconst 4, 1), (35, .iload_n 3, 1), (36, .invokevirtual 246, 3), (39, .ifCond .le 7, 3), (42, .iconst 1, 1), (43, .goto 4, 3), (46, .iconst 0, 1), (47, .ireturn, 1)]
def k_X_isNoGame : List (Nat × Instr × Nat) := [(0, .aload_n 0, 1), (1, .getfield 22, 3), (4, .iload_n 1, 1), (5, .invokevirtual 162, 3), (8, .ifCond .eq 23, 3), (11, .aload_n 0, 1), (12, .getfield 22, 3), (15, .iload_n 2, 1), (16, .invokevirtual 162, 3), (19, .ifCond .eq 12, 3), (22, .iload_n 3, 1), (23, .ifCond .lt 8, 3), (26, .iload_n 3, 1), (27, .iconst 1, 1), (28, .if_icmp .le 7, 3), (31, .iconst 1, 1), (32, .goto 4, 3), (35, .iconst 0, 1), (36, .ireturn, 1)]
def k_X_best : List (Nat × Instr × Nat) := [(0, .aload_n 0, 1), (1, .iload_n 1, 1), (2, .iload_n 2, 1), (3, .iload_n 3, 1), (4, .invokevirtual 285, 3), (7, .ifCond .eq 6, 3), (10, .bipush (-2), 2), (12, .ireturn, 1), (13, .aload_n 0, 1), (14, .getfield 63, 3), (17, .aload_n 0, 1), (18, .getfield 22, 3), (21, .aload_n 0, 1), (22, .getfield 29, 3), (25, .iload_n 1, 1), (26, .iload_n 2, 1), (27, .invokevirtual 242, 3), (30, .aload_n 0, 1), (31, .getfield 63, 3), (34, .iconst 4, 1), (35, .iload_n 3, 1), (36, .invokevirtual 246, 3), (39, .pop, 1), (40, .aload_n 0, 1), (41, .getfield 63, 3), (44, .invokevirtual 289, 3), (47, .ireturn, 1)]
def k_X_lasts : List (Nat × Instr × Nat) := [(0, .aload_n 0, 1), (1, .iload_n 1, 1), (2, .iload_n 2, 1), (3, .iload_n 3, 1), (4, .invokevirtual 285, 3), (7, .ifCond .eq 6, 3), (10, .bipush (-2), 2), (12, .ireturn, 1), (13, .aload_n 0, 1), (14, .getfield 63, 3), (17, .aload_n 0, 1), (18, .getfield 22, 3), (21, .aload_n 0, 1), (22, .getfield 29, 3), (25, .iload_n 1, 1), (26, .iload_n 2, 1), (27, .invokevirtual 242, 3), (30, .aload_n 0, 1), (31, .getfield 63, 3), (34, .iconst 4, 1), (35, .iload_n 3, 1), (36, .invokevirtual 246, 3), (39, .invokestatic 292, 3), (42, .iconst 1, 1), (43, .isub, 1), (44, .ireturn, 1)]
def k_X_habits : List (Nat × Instr × Nat) := [(0, .iload_n 1, 1), (1, .invokestatic 207, 3), (4, .ifCond .eq 14, 3), (7, .aload_n 0, 1), (8, .getfield 22, 3), (11, .iload_n 2, 1), (12, .invokevirtual 162, 3), (15, .ifCond .ne 6, 3), (18, .bipush (-2), 2), (20, .ireturn, 1), (21, .aload_n 0, 1), (22, .getfield 79, 3), (25, .aload_n 0, 1), (26, .getfield 22, 3), (29, .aload_n 0, 1), (30, .getfield 29, 3), (33, .aload_n 0, 1), (34, .getfield 85, 3), (37, .iload_n 1, 1), (38, .aaload, 1), (39, .invokevirtual 297, 3), (42, .istore_n 3, 1), (43, .iload_n 3, 1), (44, .ifCond .eq 7, 3), (47, .iload_n 3, 1), (48, .goto 25, 3), (51, .aload_n 0, 1), (52, .getfield 79, 3), (55, .aload_n 0, 1), (56, .getfield 22, 3), (59, .aload_n 0, 1), (60, .getfield 29, 3), (63, .aload_n 0, 1), (64, .getfield 85, 3), (67, .iload_n 1, 1), (68, .aaload, 1), (69, .iload_n 2, 1), (70, .invokevirtual 301, 3), (73, .ireturn, 1)]
def k_X_look : List (Nat × Instr × Nat) := [(0, .iload_n 1, 1), (1, .invokestatic 207, 3), (4, .ifCond .eq 14, 3), (7, .aload_n 0, 1), (8, .getfield 22, 3), (11, .iload_n 2, 1), (12, .invokevirtual 162, 3), (15, .ifCond .ne 6, 3), (18, .bipush (-2), 2), (20, .ireturn, 1), (21, .aload_n 0, 1), (22, .getfield 79, 3), (25, .aload_n 0, 1), (26, .getfield 22, 3), (29, .aload_n 0, 1), (30, .getfield 29, 3), (33, .aload_n 0, 1), (34, .getfield 85, 3), (37, .iload_n 1, 1), (38, .aaload, 1), (39, .invokevirtual 297, 3), (42, .istore_n 3, 1), (43, .iload_n 3, 1), (44, .ifCond .eq 7, 3), (47, .iload_n 3, 1), (48, .goto 25, 3), (51, .aload_n 0, 1), (52, .getfield 79, 3), (55, .aload_n 0, 1), (56, .getfield 22, 3), (59, .aload_n 0, 1), (60, .getfield 29, 3), (63, .aload_n 0, 1), (64, .getfield 85, 3), (67, .iload_n 1, 1), (68, .aaload, 1), (69, .iload_n 2, 1), (70, .invokevirtual 305, 3), (73, .ireturn, 1)]
def k_X_carried : List (Nat × Instr × Nat) := [(0, .iload_n 1, 1), (1, .invokestatic 207, 3), (4, .ifCond .ne 7, 3), (7, .ldc2_w 259, 3), (10, .lreturn, 1), (11, .aload_n 0, 1), (12, .getfield 79, 3), (15, .aload_n 0, 1), (16, .getfield 22, 3), (19, .aload_n 0, 1), (20, .getfield 29, 3), (23, .aload_n 0, 1), (24, .getfield 85, 3), (27, .iload_n 1, 1), (28, .aaload, 1), (29, .invokevirtual 297, 3), (32, .istore_n 2, 1), (33, .iload_n 2, 1), (34, .ifCond .eq 8, 3), (37, .iload_n 2, 1), (38, .i2l, 1), (39, .goto 24, 3), (42, .aload_n 0, 1), (43, .getfield 79, 3), (46, .aload_n 0, 1), (47, .getfield 22, 3), (50, .aload_n 0, 1), (51, .getfield 29, 3), (54, .aload_n 0, 1), (55, .getfield 85, 3), (58, .iload_n 1, 1), (59, .aaload, 1), (60, .invokevirtual 308, 3), (63, .lreturn, 1)]
def k_X_changes : List (Nat × Instr × Nat) := [(0, .iload_n 1, 1), (1, .invokestatic 207, 3), (4, .ifCond .eq 11, 3), (7, .iload_n 2, 1), (8, .iconst 0, 1), (9, .invokestatic 281, 3), (12, .ifCond .ne 6, 3), (15, .bipush (-2), 2), (17, .ireturn, 1), (18, .aload_n 0, 1), (19, .getfield 79, 3), (22, .aload_n 0, 1), (23, .getfield 22, 3), (26, .aload_n 0, 1), (27, .getfield 29, 3), (30, .aload_n 0, 1), (31, .getfield 85, 3), (34, .iload_n 1, 1), (35, .aaload, 1), (36, .invokevirtual 297, 3), (39, .istore_n 3, 1), (40, .iload_n 3, 1), (41, .ifCond .eq 5, 3), (44, .iload_n 3, 1), (45, .ireturn, 1), (46, .aload_n 0, 1), (47, .getfield 79, 3), (50, .aload_n 0, 1), (51, .getfield 22, 3), (54, .aload_n 0, 1), (55, .getfield 29, 3), (58, .aload_n 0, 1), (59, .getfield 85, 3), (62, .iload_n 1, 1), (63, .aaload, 1), (64, .invokevirtual 312, 3), (67, .istore 4, 2), (69, .iload_n 2, 1), (70, .ifCond .eq 9, 3), (73, .iload 4, 2), (75, .iconst (-1), 1), (76, .if_icmp .ne 6, 3), (79, .iload 4, 2), (81, .ireturn, 1), (82, .iload_n 2, 1), (83, .bipush 10, 2), (85, .isub, 1), (86, .aload_n 0, 1), (87, .getfield 85, 3), (90, .iload_n 1, 1), (91, .aaload, 1), (92, .getfield 214, 3), (95, .if_icmp .ge 17, 3), (98, .aload_n 0, 1), (99, .getfield 79, 3), (102, .iload_n 2, 1), (103, .bipush 10, 2), (105, .isub, 1), (106, .invokevirtual 315, 3), (109, .goto 4, 3), (112, .iconst (-1), 1), (113, .ireturn, 1)]
def k_X_covers : List (Nat × Instr × Nat) := [(0, .iload_n 1, 1), (1, .invokestatic 207, 3), (4, .ifCond .eq 23, 3), (7, .aload_n 0, 1), (8, .getfield 22, 3), (11, .iload_n 2, 1), (12, .invokevirtual 125, 3), (15, .ifCond .eq 12, 3), (18, .iload_n 3, 1), (19, .ifCond .lt 8, 3), (22, .iload_n 3, 1), (23, .iconst 1, 1), (24, .if_icmp .le 6, 3), (27, .bipush (-2), 2), (29, .ireturn, 1), (30, .aload_n 0, 1), (31, .getfield 85, 3), (34, .iload_n 1, 1), (35, .aaload, 1), (36, .astore 4, 2), (38, .aload 4, 2), (40, .invokevirtual 210, 3), (43, .ifCond .eq 6, 3), (46, .bipush (-6), 2), (48, .ireturn, 1), (49, .aload 4, 2), (51, .getfield 214, 3), (54, .iconst 1, 1), (55, .if_icmp .lt 13, 3), (58, .aload 4, 2), (60, .getfield 214, 3), (63, .bipush 10, 2), (65, .if_icmp .le 6, 3), (68, .bipush (-4), 2), (70, .ireturn, 1), (71, .aload 4, 2), (73, .aload_n 0, 1), (74, .getfield 22, 3), (77, .getfield 318, 3), (80, .invokevirtual 321, 3), (83, .ifCond .ne 6, 3), (86, .bipush (-3), 2), (88, .ireturn, 1), (89, .aload_n 0, 1), (90, .getfield 79, 3), (93, .aload 4, 2), (95, .aload_n 0, 1), (96, .getfield 22, 3), (99, .getfield 318, 3), (102, .iconst 1, 1), (103, .iload_n 2, 1), (104, .ishl, 1), (105, .iconst (-1), 1), (106, .ixor, 1), (107, .iand, 1), (108, .invokevirtual 324, 3), (111, .istore 5, 2), (113, .iload 5, 2), (115, .iconst (-1), 1), (116, .if_icmp .eq 8, 3), (119, .iload_n 3, 1), (120, .iconst 1, 1), (121, .if_icmp .ne 6, 3), (124, .iload 5, 2), (126, .ireturn, 1), (127, .iload 5, 2), (129, .invokestatic 328, 3), (132, .ireturn, 1)]
def k_X_chance : List (Nat × Instr × Nat) := [(0, .aload_n 0, 1), (1, .getfield 22, 3), (4, .iload_n 1, 1), (5, .invokevirtual 162, 3), (8, .ifCond .eq 25, 3), (11, .aload_n 0, 1), (12, .getfield 22, 3), (15, .iload_n 2, 1), (16, .invokevirtual 125, 3), (19, .ifCond .eq 14, 3), (22, .iload 4, 2), (24, .ifCond .lt 9, 3), (27, .iload 4, 2), (29, .iconst 1, 1), (30, .if_icmp .le 7, 3), (33, .ldc2_w 259, 3), (36, .lreturn, 1), (37, .iload_n 3, 1), (38, .ifCond .lt 8, 3), (41, .iload_n 3, 1), (42, .iconst 4, 1), (43, .if_icmp .le 7, 3), (46, .ldc2_w 261, 3), (49, .lreturn, 1), (50, .aload_n 0, 1), (51, .getfield 29, 3), (54, .iload_n 2, 1), (55, .invokevirtual 133, 3), (58, .ifCond .eq 5, 3), (61, .lconst 1, 1), (62, .lreturn, 1), (63, .aload_n 0, 1), (64, .getfield 72, 3), (67, .aload_n 0, 1), (68, .getfield 22, 3), (71, .aload_n 0, 1), (72, .getfield 29, 3), (75, .iload_n 1, 1), (76, .iload_n 3, 1), (77, .invokevirtual 333, 3), (80, .aload_n 0, 1), (81, .getfield 72, 3), (84, .getfield 334, 3), (87, .iload_n 2, 1), (88, .laload, 1), (89, .aload_n 0, 1), (90, .getfield 72, 3), (93, .getfield 337, 3), (96, .iload 4, 2), (98, .invokestatic 277, 3), (101, .lreturn, 1)]
def k_X_latest : List (Nat × Instr × Nat) := [(0, .aload_n 0, 1), (1, .getfield 22, 3), (4, .iload_n 1, 1), (5, .invokevirtual 162, 3), (8, .ifCond .ne 6, 3), (11, .bipush (-2), 2), (13, .ireturn, 1), (14, .iload_n 2, 1), (15, .ifCond .lt 8, 3), (18, .iload_n 2, 1), (19, .iconst 4, 1), (20, .if_icmp .le 6, 3), (23, .bipush (-3), 2), (25, .ireturn, 1), (26, .aload_n 0, 1), (27, .getfield 72, 3), (30, .aload_n 0, 1), (31, .getfield 22, 3), (34, .aload_n 0, 1), (35, .getfield 29, 3), (38, .iload_n 1, 1), (39, .iload_n 2, 1), (40, .invokevirtual 333, 3), (43, .iconst (-1), 1), (44, .istore_n 3, 1), (45, .iconst 0, 1), (46, .istore 4, 2), (48, .iload 4, 2), (50, .aload_n 0, 1), (51, .getfield 22, 3), (54, .getfield 171, 3), (57, .if_icmp .ge 52, 3), (60, .aload_n 0, 1), (61, .getfield 29, 3), (64, .iload 4, 2), (66, .invokevirtual 133, 3), (69, .ifCond .ne 34, 3), (72, .iload_n 3, 1), (73, .iconst (-1), 1), (74, .if_icmp .eq 26, 3), (77, .aload_n 0, 1), (78, .getfield 72, 3), (81, .getfield 334, 3), (84, .iload 4, 2), (86, .laload, 1), (87, .aload_n 0, 1), (88, .getfield 72, 3), (91, .getfield 334, 3), (94, .iload_n 3, 1), (95, .laload, 1), (96, .lcmp, 1), (97, .ifCond .ge 6, 3), (100, .iload 4, 2), (102, .istore_n 3, 1), (103, .iinc 4 1, 3), (106, .goto (-58), 3), (109, .iload_n 3, 1), (110, .ireturn, 1)]
def k_X_isTray : List (Nat × Instr × Nat) := [(0, .iload_n 0, 1), (1, .ifCond .lt 12, 3), (4, .iload_n 0, 1), (5, .iconst 4, 1), (6, .if_icmp .ge 7, 3), (9, .iconst 1, 1), (10, .goto 4, 3), (13, .iconst 0, 1), (14, .ireturn, 1)]
def k_X_numbers : List (Nat × Instr × Nat) := [(0, .iload_n 1, 1), (1, .invokestatic 207, 3), (4, .ifCond .eq 12, 3), (7, .iload_n 2, 1), (8, .ifCond .lt 8, 3), (11, .iload_n 2, 1), (12, .iconst 4, 1), (13, .if_icmp .lt 6, 3), (16, .bipush (-2), 2), (18, .ireturn, 1), (19, .iload_n 3, 1), (20, .ifCond .lt 9, 3), (23, .iload_n 3, 1), (24, .bipush 40, 2), (26, .if_icmp .le 6, 3), (29, .bipush (-3), 2), (31, .ireturn, 1), (32, .aload_n 0, 1), (33, .getfield 85, 3), (36, .iload_n 1, 1), (37, .aaload, 1), (38, .iload_n 2, 1), (39, .iload_n 3, 1), (40, .invokevirtual 340, 3), (43, .iconst 0, 1), (44, .ireturn, 1)]
def k_X_write : List (Nat × Instr × Nat) := [(0, .iload_n 1, 1), (1, .invokestatic 207, 3), (4, .ifCond .ne 7, 3), (7, .ldc2_w 259, 3), (10, .lreturn, 1), (11, .aload_n 0, 1), (12, .getfield 85, 3), (15, .iload_n 1, 1), (16, .aaload, 1), (17, .invokevirtual 210, 3), (20, .ifCond .eq 7, 3), (23, .ldc2_w 344, 3), (26, .lreturn, 1), (27, .iload_n 2, 1), (28, .ifCond .lt 16, 3), (31, .iload_n 2, 1), (32, .aload_n 0, 1), (33, .getfield 85, 3), (36, .iload_n 1, 1), (37, .aaload, 1), (38, .getfield 214, 3), (41, .if_icmp .lt 7, 3), (44, .ldc2_w 346, 3), (47, .lreturn, 1), (48, .aload_n 0, 1), (49, .getfield 85, 3), (52, .iload_n 1, 1), (53, .aaload, 1), (54, .iload_n 2, 1), (55, .lload_n 3, 1), (56, .invokevirtual 348, 3), (59, .lreturn, 1)]
def k_X_lists : List (Nat × Instr × Nat) := [(0, .iload_n 1, 1), (1, .invokestatic 207, 3), (4, .ifCond .eq 14, 3), (7, .aload_n 0, 1), (8, .getfield 22, 3), (11, .iload_n 2, 1), (12, .invokevirtual 162, 3), (15, .ifCond .ne 6, 3), (18, .bipush (-2), 2), (20, .ireturn, 1), (21, .aload_n 0, 1), (22, .getfield 85, 3), (25, .iload_n 1, 1), (26, .aaload, 1), (27, .invokevirtual 210, 3), (30, .ifCond .eq 6, 3), (33, .bipush (-6), 2), (35, .ireturn, 1), (36, .aload_n 0, 1), (37, .getfield 63, 3), (40, .aload_n 0, 1), (41, .getfield 22, 3), (44, .aload_n 0, 1), (45, .getfield 29, 3), (48, .iload_n 2, 1), (49, .iload_n 2, 1), (50, .invokevirtual 242, 3), (53, .aload_n 0, 1), (54, .getfield 63, 3), (57, .iconst 1, 1), (58, .iconst 0, 1), (59, .invokevirtual 246, 3), (62, .aload_n 0, 1), (63, .getfield 85, 3), (66, .iload_n 1, 1), (67, .aaload, 1), (68, .getfield 214, 3), (71, .invokestatic 352, 3), (74, .istore_n 3, 1), (75, .iconst 0, 1), (76, .istore 4, 2), (78, .iload 4, 2), (80, .iload_n 3, 1), (81, .if_icmp .ge 31, 3), (84, .aload_n 0, 1), (85, .getfield 85, 3), (88, .iload_n 1, 1), (89, .aaload, 1), (90, .iload 4, 2), (92, .aload_n 0, 1), (93, .getfield 63, 3), (96, .iload 4, 2), (98, .invokevirtual 249, 3), (101, .i2l, 1), (102, .invokevirtual 348, 3), (105, .pop2, 1), (106, .iinc 4 1, 3), (109, .goto (-31), 3), (112, .iload_n 3, 1), (113, .ireturn, 1)]
def k_X_image : List (Nat × Instr × Nat) := [(0, .iload_n 1, 1), (1, .ifCond .lt 8, 3), (4, .iload_n 1, 1), (5, .iconst 2, 1), (6, .if_icmp .lt 6, 3), (9, .bipush (-2), 2), (11, .ireturn, 1), (12, .aload_n 0, 1), (13, .getfield 90, 3), (16, .iload_n 1, 1), (17, .aload_n 0, 1), (18, .getfield 22, 3), (21, .aastore, 1), (22, .aload_n 0, 1), (23, .getfield 94, 3), (26, .iload_n 1, 1), (27, .aaload, 1), (28, .aload_n 0, 1), (29, .getfield 29, 3), (32, .invokevirtual 112, 3), (35, .iconst 0, 1), (36, .ireturn, 1)]
def k_X_restore : List (Nat × Instr × Nat) := [(0, .iload_n 1, 1), (1, .ifCond .lt 8, 3), (4, .iload_n 1, 1), (5, .iconst 2, 1), (6, .if_icmp .lt 6, 3), (9, .bipush (-2), 2), (11, .ireturn, 1), (12, .aload_n 0, 1), (13, .getfield 90, 3), (16, .iload_n 1, 1), (17, .aaload, 1), (18, .astore_n 2, 1), (19, .aload_n 2, 1), (20, .ifnonnull 6, 3), (23, .bipush (-5), 2), (25, .ireturn, 1), (26, .aload_n 0, 1), (27, .aload_n 2, 1), (28, .putfield 22, 3), (31, .aload_n 0, 1), (32, .getfield 29, 3), (35, .aload_n 0, 1), (36, .getfield 94, 3), (39, .iload_n 1, 1), (40, .aaload, 1), (41, .invokevirtual 112, 3), (44, .aload_n 0, 1), (45, .getfield 42, 3), (48, .invokevirtual 116, 3), (51, .iconst 0, 1), (52, .ireturn, 1)]
def k_X_count : List (Nat × Instr × Nat) := [(0, .iload_n 1, 1), (1, .tableswitch 171 0 11 #[63, 71, 79, 87, 95, 103, 111, 119, 135, 150, 158, 163], 63), (64, .aload_n 0, 1), (65, .getfield 22, 3), (68, .getfield 355, 3), (71, .ireturn, 1), (72, .aload_n 0, 1), (73, .getfield 22, 3), (76, .getfield 358, 3), (79, .ireturn, 1), (80, .aload_n 0, 1), (81, .getfield 22, 3), (84, .getfield 171, 3), (87, .ireturn, 1), (88, .aload_n 0, 1), (89, .getfield 22, 3), (92, .getfield 155, 3), (95, .ireturn, 1), (96, .aload_n 0, 1), (97, .getfield 29, 3), (100, .getfield 136, 3), (103, .ireturn, 1), (104, .aload_n 0, 1), (105, .getfield 29, 3), (108, .getfield 149, 3), (111, .ireturn, 1), (112, .aload_n 0, 1), (113, .getfield 29, 3), (116, .getfield 197, 3), (119, .ireturn, 1), (120, .aload_n 0, 1), (121, .getfield 29, 3), (124, .invokevirtual 225, 3), (127, .ifCond .eq 7, 3), (130, .iconst 1, 1), (131, .goto 4, 3), (134, .iconst 0, 1), (135, .ireturn, 1), (136, .aload_n 0, 1), (137, .getfield 22, 3), (140, .aload_n 0, 1), (141, .getfield 29, 3), (144, .getfield 136, 3), (147, .invokevirtual 274, 3), (150, .ireturn, 1), (151, .aload_n 0, 1), (152, .getfield 42, 3), (155, .getfield 200, 3), (158, .ireturn, 1), (159, .aload_n 0, 1), (160, .getfield 13, 3), (163, .ireturn, 1), (164, .aload_n 0, 1), (165, .getfield 22, 3), (168, .getfield 119, 3), (171, .ireturn, 1), (172, .iconst (-1), 1), (173, .ireturn, 1)]
def k_M_within : List (Nat × Instr × Nat) := [(0, .lload_n 0, 1), (1, .lload_n 2, 1), (2, .lcmp, 1), (3, .ifCond .lt 14, 3), (6, .lload_n 0, 1), (7, .lload 4, 2), (9, .lcmp, 1), (10, .ifCond .gt 7, 3), (13, .iconst 1, 1), (14, .goto 4, 3), (17, .iconst 0, 1), (18, .ireturn, 1)]
def k_M_new : List (Nat × Instr × Nat) := [(0, .aload_n 0, 1), (1, .invokespecial 7, 3), (4, .aload_n 0, 1), (5, .sipush 3003, 3), (8, .newarray .int, 2), (10, .putfield 13, 3), (13, .aload_n 0, 1), (14, .iconst 2, 1), (15, .newarray .boolean, 2), (17, .putfield 17, 3), (20, .aload_n 0, 1), (21, .sipush 900, 3), (24, .newarray .int, 2), (26, .putfield 21, 3), (29, .aload_n 0, 1), (30, .sipush 1001, 3), (33, .newarray .int, 2), (35, .putfield 24, 3), (38, .aload_n 0, 1), (39, .iconst (-1), 1), (40, .putfield 27, 3), (43, .aload_n 0, 1), (44, .sipush 900, 3), (47, .newarray .int, 2), (49, .putfield 30, 3), (52, .aload_n 0, 1), (53, .bipush 8, 2), (55, .newarray .int, 2), (57, .putfield 33, 3), (60, .aload_n 0, 1), (61, .bipush 7, 2), (63, .newarray .int, 2), (65, .putfield 36, 3), (68, .aload_n 0, 1), (69, .ldc 39, 2), (71, .newarray .int, 2), (73, .putfield 40, 3), (76, .aload_n 0, 1), (77, .ldc 39, 2), (79, .newarray .int, 2), (81, .putfield 43, 3), (84, .aload_n 0, 1), (85, .ldc 39, 2), (87, .newarray .int, 2), (89, .putfield 46, 3), (92, .aload_n 0, 1), (93, .bipush 12, 2), (95, .newarray .int, 2), (97, .putfield 49, 3), (100, .aload_n 0, 1), (101, .ldc 39, 2), (103, .newarray .long, 2), (105, .putfield 52, 3), (108, .aload_n 0, 1), (109, .bipush 12, 2), (111, .newarray .int, 2), (113, .putfield 56, 3), (116, .aload_n 0, 1), (117, .bipush 48, 2), (119, .newarray .int, 2), (121, .putfield 59, 3), (124, .aload_n 0, 1), (125, .iconst 4, 1), (126, .newarray .int, 2), (128, .dup, 1), (129, .iconst 0, 1), (130, .iconst (-1), 1), (131, .iastore, 1), (132, .dup, 1), (133, .iconst 1, 1), (134, .iconst (-1), 1), (135, .iastore, 1), (136, .dup, 1), (137, .iconst 2, 1), (138, .iconst (-1), 1), (139, .iastore, 1), (140, .dup, 1), (141, .iconst 3, 1), (142, .iconst (-1), 1), (143, .iastore, 1), (144, .putfield 62, 3), (147, .aload_n 0, 1), (148, .iconst 4, 1), (149, .newarray .int, 2), (151, .putfield 65, 3), (154, .aload_n 0, 1), (155, .sipush 160, 3), (158, .newarray .long, 2), (160, .putfield 68, 3), (163, .aload_n 0, 1), (164, .getfield 13, 3), (167, .invokestatic 71, 3), (170, .return_, 1)]
def k_M_plain : List (Nat × Instr × Nat) := [(0, .iconst 0, 1), (1, .istore_n 1, 1), (2, .iload_n 1, 1), (3, .sipush 1001, 3), (6, .if_icmp .ge 13, 3), (9, .aload_n 0, 1), (10, .iload_n 1, 1), (11, .iconst 0, 1), (12, .iastore, 1), (13, .iinc 1 1, 3), (16, .goto (-14), 3), (19, .aload_n 0, 1), (20, .iconst 1, 1), (21, .iconst 1, 1), (22, .iastore, 1), (23, .aload_n 0, 1), (24, .iconst 2, 1), (25, .iconst 1, 1), (26, .iastore, 1), (27, .aload_n 0, 1), (28, .bipush 23, 2), (30, .bipush 12, 2), (32, .iastore, 1), (33, .aload_n 0, 1), (34, .bipush 24, 2), (36, .iconst (-1), 1), (37, .iastore, 1), (38, .return_, 1)]
def k_M_feed : List (Nat × Instr × Nat) := [(0, .aload_n 0, 1), (1, .iconst 0, 1), (2, .putfield 1, 3), (5, .aload_n 0, 1), (6, .getfield 75, 3), (9, .bipush 20, 2), (11, .iadd, 1), (12, .sipush 900, 3), (15, .if_icmp .le 6, 3), (18, .bipush (-5), 2), (20, .ireturn, 1), (21, .iconst 0, 1), (22, .istore 6, 2), (24, .iload 6, 2), (26, .bipush 20, 2), (28, .if_icmp .ge 93, 3), (31, .iload 6, 2), (33, .iconst 4, 1), (34, .if_icmp .ge 7, 3), (37, .iload_n 1, 1), (38, .goto 39, 3), (41, .iload 6, 2), (43, .bipush 8, 2), (45, .if_icmp .ge 7, 3), (48, .iload_n 2, 1), (49, .goto 28, 3), (52, .iload 6, 2), (54, .bipush 12, 2), (56, .if_icmp .ge 7, 3), (59, .iload_n 3, 1), (60, .goto 17, 3), (63, .iload 6, 2), (65, .bipush 16, 2), (67, .if_icmp .ge 8, 3), (70, .iload 4, 2), (72, .goto 5, 3), (75, .iload 5, 2), (77, .istore 7, 2), (79, .aload_n 0, 1), (80, .getfield 21, 3), (83, .aload_n 0, 1), (84, .getfield 75, 3), (87, .iload 7, 2), (89, .bipush 24, 2), (91, .bipush 8, 2), (93, .iload 6, 2), (95, .iconst 4, 1), (96, .irem, 1), (97, .imul, 1), (98, .isub, 1), (99, .ishr, 1), (100, .sipush 255, 3), (103, .iand, 1), (104, .iastore, 1), (105, .aload_n 0, 1), (106, .dup, 1), (107, .getfield 75, 3), (110, .iconst 1, 1), (111, .iadd, 1), (112, .putfield 75, 3), (115, .iinc 6 1, 3), (118, .goto (-94), 3), (121, .aload_n 0, 1), (122, .getfield 75, 3), (125, .ireturn, 1)]
def k_M_see : List (Nat × Instr × Nat) := [(0, .iload_n 1, 1), (1, .aload_n 0, 1), (2, .getfield 78, 3), (5, .if_icmp .ge 12, 3), (8, .aload_n 0, 1), (9, .getfield 21, 3), (12, .iload_n 1, 1), (13, .iaload, 1), (14, .goto 4, 3), (17, .iconst (-1), 1), (18, .ireturn, 1)]
def k_M_isSmall : List (Nat × Instr × Nat) := [(0, .iload_n 0, 1), (1, .bipush 97, 2), (3, .if_icmp .lt 13, 3), (6, .iload_n 0, 1), (7, .bipush 122, 2), (9, .if_icmp .gt 7, 3), (12, .iconst 1, 1), (13, .goto 4, 3), (16, .iconst 0, 1), (17, .ireturn, 1)]
def k_M_isDigit : List (Nat × Instr × Nat) := [(0, .iload_n 0, 1), (1, .bipush 48, 2), (3, .if_icmp .lt 13, 3), (6, .iload_n 0, 1), (7, .bipush 57, 2), (9, .if_icmp .gt 7, 3), (12, .iconst 1, 1), (13, .goto 4, 3), (16, .iconst 0, 1), (17, .ireturn, 1)]
def k_M_keyAt : List (Nat × Instr × Nat) := [(0, .iconst 0, 1), (1, .istore_n 1, 1), (2, .iconst 1, 1), (3, .istore_n 2, 1), (4, .iload_n 2, 1), (5, .ldc 81, 2), (7, .invokevirtual 83, 3), (10, .if_icmp .ge 113, 3), (13, .iconst 0, 1), (14, .istore_n 3, 1), (15, .ldc 81, 2), (17, .iload_n 2, 1), (18, .iload_n 3, 1), (19, .iadd, 1), (20, .invokevirtual 89, 3), (23, .bipush 32, 2), (25, .if_icmp .eq 44, 3), (28, .aload_n 0, 1), (29, .getfield 93, 3), (32, .iload_n 3, 1), (33, .iadd, 1), (34, .aload_n 0, 1), (35, .getfield 96, 3), (38, .if_icmp .ge 31, 3), (41, .aload_n 0, 1), (42, .getfield 21, 3), (45, .aload_n 0, 1), (46, .getfield 93, 3), (49, .iload_n 3, 1), (50, .iadd, 1), (51, .iaload, 1), (52, .ldc 81, 2), (54, .iload_n 2, 1), (55, .iload_n 3, 1), (56, .iadd, 1), (57, .invokevirtual 89, 3), (60, .if_icmp .ne 9, 3), (63, .iinc 3 1, 3), (66, .goto (-51), 3), (69, .ldc 81, 2), (71, .iload_n 2, 1), (72, .iload_n 3, 1), (73, .iadd, 1), (74, .invokevirtual 89, 3), (77, .bipush 32, 2), (79, .if_icmp .ne 18, 3), (82, .aload_n 0, 1), (83, .getfield 93, 3), (86, .iload_n 3, 1), (87, .iadd, 1), (88, .aload_n 0, 1), (89, .getfield 96, 3), (92, .if_icmp .ne 5, 3), (95, .iload_n 1, 1), (96, .ireturn, 1), (97, .ldc 81, 2), (99, .iload_n 2, 1), (100, .invokevirtual 89, 3), (103, .bipush 32, 2), (105, .if_icmp .eq 9, 3), (108, .iinc 2 1, 3), (111, .goto (-14), 3), (114, .iinc 2 1, 3), (117, .iinc 1 1, 3), (120, .goto (-116), 3), (123, .bipush 22, 2), (125, .ireturn, 1)]
def k_M_next : List (Nat × Instr × Nat) := [(0, .aload_n 0, 1), (1, .aload_n 0, 1), (2, .getfield 96, 3), (5, .putfield 93, 3), (8, .aload_n 0, 1), (9, .aload_n 0, 1), (10, .getfield 93, 3), (13, .invokevirtual 99, 3), (16, .bipush 10, 2), (18, .if_icmp .eq 16, 3), (21, .aload_n 0, 1), (22, .aload_n 0, 1), (23, .getfield 93, 3), (26, .invokevirtual 99, 3), (29, .bipush 32, 2), (31, .if_icmp .ne 16, 3), (34, .aload_n 0, 1), (35, .dup, 1), (36, .getfield 93, 3), (39, .iconst 1, 1), (40, .iadd, 1), (41, .putfield 93, 3), (44, .goto (-36), 3), (47, .aload_n 0, 1), (48, .aload_n 0, 1), (49, .getfield 93, 3), (52, .putfield 96, 3), (55, .aload_n 0, 1), (56, .getfield 93, 3), (59, .aload_n 0, 1), (60, .getfield 78, 3), (63, .if_icmp .lt 12, 3), (66, .aload_n 0, 1), (67, .bipush 24, 2), (69, .putfield 103, 3), (72, .goto 222, 3), (75, .aload_n 0, 1), (76, .aload_n 0, 1), (77, .getfield 93, 3), (80, .invokevirtual 99, 3), (83, .invokestatic 106, 3), (86, .ifCond .eq 41, 3), (89, .aload_n 0, 1), (90, .aload_n 0, 1), (91, .getfield 96, 3), (94, .invokevirtual 99, 3), (97, .invokestatic 106, 3), (100, .ifCond .eq 16, 3), (103, .aload_n 0, 1), (104, .dup, 1), (105, .getfield 96, 3), (108, .iconst 1, 1), (109, .iadd, 1), (110, .putfield 96, 3), (113, .goto (-24), 3), (116, .aload_n 0, 1), (117, .aload_n 0, 1), (118, .invokevirtual 110, 3), (121, .putfield 103, 3), (124, .goto 170, 3), (127, .aload_n 0, 1), (128, .aload_n 0, 1), (129, .getfield 93, 3), (132, .invokevirtual 99, 3), (135, .invokestatic 113, 3), (138, .ifCond .eq 98, 3), (141, .aload_n 0, 1), (142, .iconst 0, 1), (143, .putfield 116, 3), (146, .aload_n 0, 1), (147, .aload_n 0, 1), (148, .getfield 96, 3), (151, .invokevirtual 99, 3), (154, .invokestatic 113, 3), (157, .ifCond .eq 52, 3), (160, .aload_n 0, 1), (161, .getfield 96, 3), (164, .aload_n 0, 1), (165, .getfield 93, 3), (168, .isub, 1), (169, .iconst 3, 1), (170, .if_icmp .ge 26, 3), (173, .aload_n 0, 1), (174, .bipush 10, 2), (176, .aload_n 0, 1), (177, .getfield 116, 3), (180, .imul, 1), (181, .aload_n 0, 1), (182, .aload_n 0, 1), (183, .getfield 96, 3), (186, .invokevirtual 99, 3), (189, .iadd, 1), (190, .bipush 48, 2), (192, .isub, 1), (193, .putfield 116, 3), (196, .aload_n 0, 1), (197, .dup, 1), (198, .getfield 96, 3), (201, .iconst 1, 1), (202, .iadd, 1), (203, .putfield 96, 3), (206, .goto (-60), 3), (209, .aload_n 0, 1), (210, .aload_n 0, 1), (211, .getfield 96, 3), (214, .aload_n 0, 1), (215, .getfield 93, 3), (218, .isub, 1), (219, .iconst 3, 1), (220, .if_icmp .le 8, 3), (223, .bipush 25, 2), (225, .goto 5, 3), (228, .bipush 23, 2), (230, .putfield 103, 3), (233, .goto 61, 3), (236, .aload_n 0, 1), (237, .dup, 1), (238, .getfield 96, 3), (241, .iconst 1, 1), (242, .iadd, 1), (243, .putfield 96, 3), (246, .aload_n 0, 1), (247, .bipush 25, 2), (249, .putfield 103, 3), (252, .iconst 0, 1), (253, .istore_n 1, 1), (254, .iload_n 1, 1), (255, .ldc 119, 2), (257, .invokevirtual 83, 3), (260, .if_icmp .ge 34, 3), (263, .aload_n 0, 1), (264, .aload_n 0, 1), (265, .getfield 93, 3), (268, .invokevirtual 99, 3), (271, .ldc 119, 2), (273, .iload_n 1, 1), (274, .invokevirtual 89, 3), (277, .if_icmp .ne 11, 3), (280, .aload_n 0, 1), (281, .bipush 30, 2), (283, .iload_n 1, 1), (284, .iadd, 1), (285, .putfield 103, 3), (288, .iinc 1 1, 3), (291, .goto (-37), 3), (294, .return_, 1)]
def k_M_fails : List (Nat × Instr × Nat) := [(0, .aload_n 0, 1), (1, .getfield 121, 3), (4, .ifCond .eq 4, 3), (7, .return_, 1), (8, .aload_n 0, 1), (9, .aload_n 0, 1), (10, .getfield 103, 3), (13, .bipush 25, 2), (15, .if_icmp .ne 7, 3), (18, .iconst 1, 1), (19, .goto 4, 3), (22, .iload_n 1, 1), (23, .putfield 121, 3), (26, .aload_n 0, 1), (27, .aload_n 0, 1), (28, .getfield 93, 3), (31, .putfield 124, 3), (34, .return_, 1)]
def k_M_is : List (Nat × Instr × Nat) := [(0, .aload_n 0, 1), (1, .getfield 121, 3), (4, .ifCond .ne 15, 3), (7, .aload_n 0, 1), (8, .getfield 103, 3), (11, .iload_n 1, 1), (12, .if_icmp .ne 7, 3), (15, .iconst 1, 1), (16, .goto 4, 3), (19, .iconst 0, 1), (20, .ireturn, 1)]
def k_M_eats : List (Nat × Instr × Nat) := [(0, .aload_n 0, 1), (1, .iload_n 1, 1), (2, .invokevirtual 127, 3), (5, .ifCond .ne 5, 3), (8, .iconst 0, 1), (9, .ireturn, 1), (10, .aload_n 0, 1), (11, .invokevirtual 130, 3), (14, .iconst 1, 1), (15, .ireturn, 1)]
def k_M_takes : List (Nat × Instr × Nat) := [(0, .aload_n 0, 1), (1, .bipush 23, 2), (3, .invokevirtual 127, 3), (6, .ifCond .ne 11, 3), (9, .aload_n 0, 1), (10, .iconst 2, 1), (11, .invokevirtual 133, 3), (14, .goto 23, 3), (17, .aload_n 0, 1), (18, .getfield 116, 3), (21, .i2l, 1), (22, .iload_n 1, 1), (23, .i2l, 1), (24, .iload_n 2, 1), (25, .i2l, 1), (26, .invokestatic 137, 3), (29, .ifCond .ne 8, 3), (32, .aload_n 0, 1), (33, .iconst 3, 1), (34, .invokevirtual 133, 3), (37, .aload_n 0, 1), (38, .getfield 116, 3), (41, .istore_n 3, 1), (42, .aload_n 0, 1), (43, .getfield 121, 3), (46, .ifCond .ne 7, 3), (49, .aload_n 0, 1), (50, .invokevirtual 130, 3), (53, .iload_n 3, 1), (54, .ireturn, 1)]
def k_M_isIn : List (Nat × Instr × Nat) := [(0, .lload_n 0, 1), (1, .iload_n 2, 1), (2, .lshr, 1), (3, .lconst 1, 1), (4, .land, 1), (5, .lconst 1, 1), (6, .lcmp, 1), (7, .ifCond .ne 7, 3), (10, .iconst 1, 1), (11, .goto 4, 3), (14, .iconst 0, 1), (15, .ireturn, 1)]
def k_M_wordOf : List (Nat × Instr × Nat) := [(0, .iload_n 1, 1), (1, .i2l, 1), (2, .ldc2_w 141, 3), (5, .ldc2_w 143, 3), (8, .invokestatic 137, 3), (11, .ifCond .eq 8, 3), (14, .iload_n 1, 1), (15, .bipush 8, 2), (17, .isub, 1), (18, .ireturn, 1), (19, .aload_n 0, 1), (20, .getfield 145, 3), (23, .ifCond .eq 5, 3), (26, .iconst (-1), 1), (27, .ireturn, 1), (28, .iload_n 1, 1), (29, .iconst 2, 1), (30, .if_icmp .ne 7, 3), (33, .iconst 4, 1), (34, .goto 34, 3), (37, .iload_n 1, 1), (38, .iconst 3, 1), (39, .if_icmp .ne 7, 3), (42, .iconst 5, 1), (43, .goto 25, 3), (46, .iload_n 1, 1), (47, .iconst 5, 1), (48, .if_icmp .ne 8, 3), (51, .bipush 6, 2), (53, .goto 15, 3), (56, .iload_n 1, 1), (57, .bipush 12, 2), (59, .if_icmp .ne 8, 3), (62, .bipush 7, 2), (64, .goto 4, 3), (67, .iconst (-1), 1), (68, .ireturn, 1)]
def k_M_codes : List (Nat × Instr × Nat) := [(0, .aload_n 0, 1), (1, .getfield 121, 3), (4, .ifCond .eq 4, 3), (7, .return_, 1), (8, .aload_n 0, 1), (9, .getfield 24, 3), (12, .bipush 101, 2), (14, .aload_n 0, 1), (15, .getfield 24, 3), (18, .bipush 100, 2), (20, .iaload, 1), (21, .iadd, 1), (22, .iload_n 1, 1), (23, .iastore, 1), (24, .aload_n 0, 1), (25, .getfield 24, 3), (28, .bipush 100, 2), (30, .dup2, 1), (31, .iaload, 1), (32, .iconst 1, 1), (33, .iadd, 1), (34, .iastore, 1), (35, .return_, 1)]
def k_M_goesIn : List (Nat × Instr × Nat) := [(0, .iload_n 1, 1), (1, .bipush 6, 2), (3, .if_icmp .ne 8, 3), (6, .aload_n 0, 1), (7, .iconst 4, 1), (8, .invokevirtual 133, 3), (11, .aload_n 0, 1), (12, .getfield 121, 3), (15, .ifCond .ne 7, 3), (18, .aload_n 0, 1), (19, .invokevirtual 130, 3), (22, .aload_n 0, 1), (23, .getfield 121, 3), (26, .ifCond .ne 7, 3), (29, .iconst 1, 1), (30, .goto 4, 3), (33, .iconst 0, 1), (34, .ireturn, 1)]
def k_M_readAtom : List (Nat × Instr × Nat) := [(0, .aload_n 0, 1), (1, .bipush 23, 2), (3, .invokevirtual 127, 3), (6, .ifCond .eq 18, 3), (9, .aload_n 0, 1), (10, .aload_n 0, 1), (11, .getfield 116, 3), (14, .invokevirtual 148, 3), (17, .aload_n 0, 1), (18, .invokevirtual 130, 3), (21, .goto 92, 3), (24, .aload_n 0, 1), (25, .getfield 121, 3), (28, .ifCond .ne 38, 3), (31, .aload_n 0, 1), (32, .aload_n 0, 1), (33, .getfield 103, 3), (36, .invokevirtual 151, 3), (39, .iconst (-1), 1), (40, .if_icmp .eq 26, 3), (43, .aload_n 0, 1), (44, .sipush 1000, 3), (47, .aload_n 0, 1), (48, .aload_n 0, 1), (49, .getfield 103, 3), (52, .invokevirtual 151, 3), (55, .iadd, 1), (56, .invokevirtual 148, 3), (59, .aload_n 0, 1), (60, .invokevirtual 130, 3), (63, .goto 50, 3), (66, .aload_n 0, 1), (67, .bipush 35, 2), (69, .invokevirtual 127, 3), (72, .ifCond .eq 36, 3), (75, .aload_n 0, 1), (76, .iload_n 1, 1), (77, .invokevirtual 154, 3), (80, .ifCond .ne 4, 3), (83, .return_, 1), (84, .aload_n 0, 1), (85, .iload_n 1, 1), (86, .iconst 1, 1), (87, .iadd, 1), (88, .invokevirtual 157, 3), (91, .aload_n 0, 1), (92, .bipush 36, 2), (94, .invokevirtual 160, 3), (97, .ifCond .ne 16, 3), (100, .aload_n 0, 1), (101, .iconst 2, 1), (102, .invokevirtual 133, 3), (105, .goto 8, 3), (108, .aload_n 0, 1), (109, .iconst 2, 1), (110, .invokevirtual 133, 3), (113, .return_, 1)]
def k_M_readTerm : List (Nat × Instr × Nat) := [(0, .aload_n 0, 1), (1, .iload_n 1, 1), (2, .invokevirtual 163, 3), (5, .aload_n 0, 1), (6, .bipush 34, 2), (8, .invokevirtual 160, 3), (11, .ifCond .eq 18, 3), (14, .aload_n 0, 1), (15, .iload_n 1, 1), (16, .invokevirtual 163, 3), (19, .aload_n 0, 1), (20, .sipush 3002, 3), (23, .invokevirtual 148, 3), (26, .goto (-21), 3), (29, .return_, 1)]
def k_M_readSum : List (Nat × Instr × Nat) := [(0, .aload_n 0, 1), (1, .iload_n 1, 1), (2, .invokevirtual 166, 3), (5, .aload_n 0, 1), (6, .bipush 32, 2), (8, .invokevirtual 127, 3), (11, .ifCond .ne 12, 3), (14, .aload_n 0, 1), (15, .bipush 33, 2), (17, .invokevirtual 127, 3), (20, .ifCond .eq 39, 3), (23, .aload_n 0, 1), (24, .getfield 103, 3), (27, .bipush 32, 2), (29, .if_icmp .ne 9, 3), (32, .sipush 3000, 3), (35, .goto 6, 3), (38, .sipush 3001, 3), (41, .istore_n 2, 1), (42, .aload_n 0, 1), (43, .invokevirtual 130, 3), (46, .aload_n 0, 1), (47, .iload_n 1, 1), (48, .invokevirtual 166, 3), (51, .aload_n 0, 1), (52, .iload_n 2, 1), (53, .invokevirtual 148, 3), (56, .goto (-51), 3), (59, .return_, 1)]
def k_M_readUnit : List (Nat × Instr × Nat) := [(0, .aload_n 0, 1), (1, .bipush 15, 2), (3, .invokevirtual 127, 3), (6, .ifCond .eq 27, 3), (9, .aload_n 0, 1), (10, .iload_n 1, 1), (11, .invokevirtual 154, 3), (14, .ifCond .ne 4, 3), (17, .return_, 1), (18, .aload_n 0, 1), (19, .iload_n 1, 1), (20, .iconst 1, 1), (21, .iadd, 1), (22, .invokevirtual 169, 3), (25, .aload_n 0, 1), (26, .sipush 3006, 3), (29, .invokevirtual 148, 3), (32, .return_, 1), (33, .aload_n 0, 1), (34, .bipush 37, 2), (36, .invokevirtual 127, 3), (39, .ifCond .eq 34, 3), (42, .aload_n 0, 1), (43, .iload_n 1, 1), (44, .invokevirtual 154, 3), (47, .ifCond .ne 4, 3), (50, .return_, 1), (51, .aload_n 0, 1), (52, .iload_n 1, 1), (53, .iconst 1, 1), (54, .iadd, 1), (55, .invokevirtual 172, 3), (58, .aload_n 0, 1), (59, .bipush 38, 2), (61, .invokevirtual 160, 3), (64, .ifCond .ne 8, 3), (67, .aload_n 0, 1), (68, .iconst 2, 1), (69, .invokevirtual 133, 3), (72, .return_, 1), (73, .aload_n 0, 1), (74, .iload_n 1, 1), (75, .invokevirtual 157, 3), (78, .aload_n 0, 1), (79, .bipush 39, 2), (81, .invokevirtual 127, 3), (84, .ifCond .eq 9, 3), (87, .sipush 3003, 3), (90, .goto 21, 3), (93, .aload_n 0, 1), (94, .bipush 40, 2), (96, .invokevirtual 127, 3), (99, .ifCond .eq 9, 3), (102, .sipush 3004, 3), (105, .goto 6, 3), (108, .sipush 3005, 3), (111, .istore_n 2, 1), (112, .aload_n 0, 1), (113, .bipush 39, 2), (115, .invokevirtual 127, 3), (118, .ifCond .ne 21, 3), (121, .aload_n 0, 1), (122, .bipush 40, 2), (124, .invokevirtual 127, 3), (127, .ifCond .ne 12, 3), (130, .aload_n 0, 1), (131, .bipush 41, 2), (133, .invokevirtual 127, 3), (136, .ifCond .eq 10, 3), (139, .aload_n 0, 1), (140, .invokevirtual 130, 3), (143, .goto 8, 3), (146, .aload_n 0, 1), (147, .iconst 2, 1), (148, .invokevirtual 133, 3), (151, .aload_n 0, 1), (152, .iload_n 1, 1), (153, .invokevirtual 157, 3), (156, .aload_n 0, 1), (157, .iload_n 2, 1), (158, .invokevirtual 148, 3), (161, .return_, 1)]
def k_M_readBoth : List (Nat × Instr × Nat) := [(0, .aload_n 0, 1), (1, .iload_n 1, 1), (2, .invokevirtual 169, 3), (5, .aload_n 0, 1), (6, .bipush 13, 2), (8, .invokevirtual 160, 3), (11, .ifCond .eq 18, 3), (14, .aload_n 0, 1), (15, .iload_n 1, 1), (16, .invokevirtual 169, 3), (19, .aload_n 0, 1), (20, .sipush 3007, 3), (23, .invokevirtual 148, 3), (26, .goto (-21), 3), (29, .return_, 1)]
def k_M_readTruth : List (Nat × Instr × Nat) := [(0, .aload_n 0, 1), (1, .iload_n 1, 1), (2, .invokevirtual 175, 3), (5, .aload_n 0, 1), (6, .bipush 14, 2), (8, .invokevirtual 160, 3), (11, .ifCond .eq 18, 3), (14, .aload_n 0, 1), (15, .iload_n 1, 1), (16, .invokevirtual 175, 3), (19, .aload_n 0, 1), (20, .sipush 3008, 3), (23, .invokevirtual 148, 3), (26, .goto (-21), 3), (29, .return_, 1)]
def k_M_readRow : List (Nat × Instr × Nat) := [(0, .aload_n 0, 1), (1, .invokevirtual 130, 3), (4, .aload_n 0, 1), (5, .iconst 0, 1), (6, .aload_n 0, 1), (7, .getfield 24, 3), (10, .iconst 1, 1), (11, .iaload, 1), (12, .iconst 1, 1), (13, .isub, 1), (14, .invokevirtual 178, 3), (17, .istore_n 1, 1), (18, .iconst 0, 1), (19, .istore_n 2, 1), (20, .iload_n 2, 1), (21, .aload_n 0, 1), (22, .getfield 24, 3), (25, .iconst 2, 1), (26, .iaload, 1), (27, .if_icmp .ge 41, 3), (30, .aload_n 0, 1), (31, .getfield 121, 3), (34, .ifCond .ne 34, 3), (37, .aload_n 0, 1), (38, .getfield 24, 3), (41, .bipush 10, 2), (43, .aload_n 0, 1), (44, .getfield 24, 3), (47, .iconst 2, 1), (48, .iaload, 1), (49, .iload_n 1, 1), (50, .imul, 1), (51, .iadd, 1), (52, .iload_n 2, 1), (53, .iadd, 1), (54, .aload_n 0, 1), (55, .iconst 0, 1), (56, .bipush 8, 2), (58, .invokevirtual 178, 3), (61, .iastore, 1), (62, .iinc 2 1, 3), (65, .goto (-45), 3), (68, .return_, 1)]
def k_M_readHand : List (Nat × Instr × Nat) := [(0, .aload_n 0, 1), (1, .getfield 24, 3), (4, .iconst 3, 1), (5, .iaload, 1), (6, .istore_n 1, 1), (7, .iload_n 1, 1), (8, .iconst 4, 1), (9, .if_icmp .ne 8, 3), (12, .aload_n 0, 1), (13, .iconst 4, 1), (14, .invokevirtual 133, 3), (17, .aload_n 0, 1), (18, .getfield 121, 3), (21, .ifCond .eq 4, 3), (24, .return_, 1), (25, .aload_n 0, 1), (26, .invokevirtual 130, 3), (29, .aload_n 0, 1), (30, .getfield 121, 3), (33, .ifCond .ne 30, 3), (36, .aload_n 0, 1), (37, .iconst 3, 1), (38, .invokevirtual 160, 3), (41, .ifCond .eq 22, 3), (44, .aload_n 0, 1), (45, .getfield 24, 3), (48, .bipush 25, 2), (50, .iload_n 1, 1), (51, .iadd, 1), (52, .aload_n 0, 1), (53, .iconst 0, 1), (54, .bipush 9, 2), (56, .invokevirtual 178, 3), (59, .iastore, 1), (60, .goto (-31), 3), (63, .aload_n 0, 1), (64, .getfield 121, 3), (67, .ifCond .ne 13, 3), (70, .aload_n 0, 1), (71, .getfield 24, 3), (74, .iconst 3, 1), (75, .dup2, 1), (76, .iaload, 1), (77, .iconst 1, 1), (78, .iadd, 1), (79, .iastore, 1), (80, .return_, 1)]
def k_M_readDrawn : List (Nat × Instr × Nat) := [(0, .aload_n 0, 1), (1, .invokevirtual 130, 3), (4, .aload_n 0, 1), (5, .iconst 0, 1), (6, .aload_n 0, 1), (7, .getfield 24, 3), (10, .iconst 1, 1), (11, .iaload, 1), (12, .aload_n 0, 1), (13, .getfield 24, 3), (16, .iconst 2, 1), (17, .iaload, 1), (18, .imul, 1), (19, .iconst 1, 1), (20, .isub, 1), (21, .invokevirtual 178, 3), (24, .istore_n 2, 1), (25, .aload_n 0, 1), (26, .getfield 121, 3), (29, .ifCond .eq 4, 3), (32, .return_, 1), (33, .aload_n 0, 1), (34, .getfield 24, 3), (37, .bipush 22, 2), (39, .dup2, 1), (40, .iaload, 1), (41, .iconst 1, 1), (42, .iload_n 2, 1), (43, .ishl, 1), (44, .ior, 1), (45, .iastore, 1), (46, .iload_n 1, 1), (47, .ifCond .eq 11, 3), (50, .aload_n 0, 1), (51, .getfield 24, 3), (54, .bipush 23, 2), (56, .iload_n 2, 1), (57, .iastore, 1), (58, .return_, 1)]
def k_M_readLaw : List (Nat × Instr × Nat) := [(0, .aload_n 0, 1), (1, .invokevirtual 130, 3), (4, .aload_n 0, 1), (5, .bipush 31, 2), (7, .invokevirtual 160, 3), (10, .ifCond .ne 8, 3), (13, .aload_n 0, 1), (14, .iconst 2, 1), (15, .invokevirtual 133, 3), (18, .aload_n 0, 1), (19, .getfield 24, 3), (22, .bipush 100, 2), (24, .iaload, 1), (25, .istore_n 2, 1), (26, .aload_n 0, 1), (27, .iload_n 1, 1), (28, .putfield 145, 3), (31, .iload_n 1, 1), (32, .iconst 1, 1), (33, .if_icmp .ne 11, 3), (36, .aload_n 0, 1), (37, .iconst 0, 1), (38, .invokevirtual 157, 3), (41, .goto 8, 3), (44, .aload_n 0, 1), (45, .iconst 0, 1), (46, .invokevirtual 172, 3), (49, .aload_n 0, 1), (50, .getfield 121, 3), (53, .ifCond .eq 4, 3), (56, .return_, 1), (57, .aload_n 0, 1), (58, .getfield 24, 3), (61, .iconst 4, 1), (62, .iload_n 1, 1), (63, .iadd, 1), (64, .iconst 1, 1), (65, .iastore, 1), (66, .aload_n 0, 1), (67, .getfield 24, 3), (70, .bipush 6, 2), (72, .iload_n 1, 1), (73, .iadd, 1), (74, .iload_n 2, 1), (75, .iastore, 1), (76, .aload_n 0, 1), (77, .getfield 24, 3), (80, .bipush 8, 2), (82, .iload_n 1, 1), (83, .iadd, 1), (84, .aload_n 0, 1), (85, .getfield 24, 3), (88, .bipush 100, 2), (90, .iaload, 1), (91, .iload_n 2, 1), (92, .isub, 1), (93, .iastore, 1), (94, .return_, 1)]
def k_M_readLine : List (Nat × Instr × Nat) := [(0, .aload_n 0, 1), (1, .getfield 121, 3), (4, .ifCond .eq 4, 3), (7, .return_, 1), (8, .aload_n 0, 1), (9, .iconst 1, 1), (10, .invokevirtual 127, 3), (13, .ifCond .eq 10, 3), (16, .aload_n 0, 1), (17, .invokevirtual 182, 3), (20, .goto 83, 3), (23, .aload_n 0, 1), (24, .iconst 2, 1), (25, .invokevirtual 127, 3), (28, .ifCond .eq 10, 3), (31, .aload_n 0, 1), (32, .invokevirtual 185, 3), (35, .goto 68, 3), (38, .aload_n 0, 1), (39, .iconst 4, 1), (40, .invokevirtual 127, 3), (43, .ifCond .ne 11, 3), (46, .aload_n 0, 1), (47, .iconst 5, 1), (48, .invokevirtual 127, 3), (51, .ifCond .eq 15, 3), (54, .aload_n 0, 1), (55, .aload_n 0, 1), (56, .iconst 5, 1), (57, .invokevirtual 127, 3), (60, .invokevirtual 188, 3), (63, .goto 40, 3), (66, .aload_n 0, 1), (67, .bipush 6, 2), (69, .invokevirtual 127, 3), (72, .ifCond .ne 12, 3), (75, .aload_n 0, 1), (76, .bipush 7, 2), (78, .invokevirtual 127, 3), (81, .ifCond .eq 17, 3), (84, .aload_n 0, 1), (85, .aload_n 0, 1), (86, .getfield 103, 3), (89, .bipush 6, 2), (91, .isub, 1), (92, .invokevirtual 192, 3), (95, .goto 8, 3), (98, .aload_n 0, 1), (99, .iconst 2, 1), (100, .invokevirtual 133, 3), (103, .return_, 1)]
def k_M_ends1 : List (Nat × Instr × Nat) := [(0, .aload_n 0, 1), (1, .bipush 30, 2), (3, .invokevirtual 160, 3), (6, .ifCond .ne 8, 3), (9, .aload_n 0, 1), (10, .iconst 2, 1), (11, .invokevirtual 133, 3), (14, .aload_n 0, 1), (15, .getfield 24, 3), (18, .iconst 0, 1), (19, .dup2, 1), (20, .iaload, 1), (21, .iconst 1, 1), (22, .iadd, 1), (23, .iastore, 1), (24, .return_, 1)]
def k_M_sheet : List (Nat × Instr × Nat) := [(0, .aload_n 0, 1), (1, .iconst 0, 1), (2, .putfield 1, 3), (5, .iload_n 1, 1), (6, .i2l, 1), (7, .lconst 0, 1), (8, .aload_n 0, 1), (9, .getfield 75, 3), (12, .i2l, 1), (13, .invokestatic 137, 3), (16, .ifCond .ne 6, 3), (19, .bipush (-3), 2), (21, .ireturn, 1), (22, .aload_n 0, 1), (23, .iload_n 1, 1), (24, .putfield 78, 3), (27, .aload_n 0, 1), (28, .iconst 0, 1), (29, .putfield 75, 3), (32, .aload_n 0, 1), (33, .iconst 0, 1), (34, .putfield 96, 3), (37, .aload_n 0, 1), (38, .iconst 0, 1), (39, .putfield 121, 3), (42, .aload_n 0, 1), (43, .getfield 24, 3), (46, .invokestatic 71, 3), (49, .aload_n 0, 1), (50, .invokevirtual 130, 3), (53, .aload_n 0, 1), (54, .iconst 0, 1), (55, .invokevirtual 160, 3), (58, .ifCond .ne 8, 3), (61, .aload_n 0, 1), (62, .iconst 2, 1), (63, .invokevirtual 133, 3), (66, .aload_n 0, 1), (67, .getfield 24, 3), (70, .iconst 1, 1), (71, .aload_n 0, 1), (72, .iconst 1, 1), (73, .bipush 12, 2), (75, .invokevirtual 178, 3), (78, .iastore, 1), (79, .aload_n 0, 1), (80, .getfield 24, 3), (83, .iconst 2, 1), (84, .aload_n 0, 1), (85, .iconst 1, 1), (86, .aload_n 0, 1), (87, .getfield 121, 3), (90, .ifCond .ne 15, 3), (93, .bipush 12, 2), (95, .aload_n 0, 1), (96, .getfield 24, 3), (99, .iconst 1, 1), (100, .iaload, 1), (101, .idiv, 1), (102, .goto 5, 3), (105, .bipush 12, 2), (107, .invokevirtual 178, 3), (110, .iastore, 1), (111, .aload_n 0, 1), (112, .invokevirtual 195, 3), (115, .aload_n 0, 1), (116, .getfield 121, 3), (119, .ifCond .ne 23, 3), (122, .aload_n 0, 1), (123, .getfield 103, 3), (126, .bipush 24, 2), (128, .if_icmp .eq 14, 3), (131, .aload_n 0, 1), (132, .invokevirtual 198, 3), (135, .aload_n 0, 1), (136, .invokevirtual 195, 3), (139, .goto (-24), 3), (142, .aload_n 0, 1), (143, .aload_n 0, 1), (144, .getfield 121, 3), (147, .putfield 201, 3), (150, .aload_n 0, 1), (151, .aload_n 0, 1), (152, .getfield 121, 3), (155, .ifCond .ne 7, 3), (158, .iconst (-1), 1), (159, .goto 7, 3), (162, .aload_n 0, 1), (163, .getfield 124, 3), (166, .putfield 27, 3), (169, .aload_n 0, 1), (170, .getfield 121, 3), (173, .ifCond .eq 11, 3), (176, .bipush (-30), 2), (178, .aload_n 0, 1), (179, .getfield 121, 3), (182, .isub, 1), (183, .ireturn, 1), (184, .iconst 0, 1), (185, .istore_n 2, 1), (186, .iload_n 2, 1), (187, .sipush 1001, 3), (190, .if_icmp .ge 21, 3), (193, .aload_n 0, 1), (194, .getfield 13, 3), (197, .iload_n 2, 1), (198, .aload_n 0, 1), (199, .getfield 24, 3), (202, .iload_n 2, 1), (203, .iaload, 1), (204, .iastore, 1), (205, .iinc 2 1, 3), (208, .goto (-22), 3), (211, .aload_n 0, 1), (212, .getfield 13, 3), (215, .iconst 0, 1), (216, .iaload, 1), (217, .ireturn, 1)]
def k_M_fault : List (Nat × Instr × Nat) := [(0, .aload_n 0, 1), (1, .iconst 0, 1), (2, .putfield 1, 3), (5, .iload_n 1, 1), (6, .ifCond .ne 10, 3), (9, .aload_n 0, 1), (10, .getfield 201, 3), (13, .goto 16, 3), (16, .iload_n 1, 1), (17, .iconst 1, 1), (18, .if_icmp .ne 10, 3), (21, .aload_n 0, 1), (22, .getfield 27, 3), (25, .goto 4, 3), (28, .iconst (-1), 1), (29, .ireturn, 1)]
def k_M_cells : List (Nat × Instr × Nat) := [(0, .aload_n 0, 1), (1, .getfield 13, 3), (4, .iconst 1, 1), (5, .iaload, 1), (6, .aload_n 0, 1), (7, .getfield 13, 3), (10, .iconst 2, 1), (11, .iaload, 1), (12, .imul, 1), (13, .ireturn, 1)]
def k_M_isCell : List (Nat × Instr × Nat) := [(0, .lload_n 1, 1), (1, .lconst 0, 1), (2, .aload_n 0, 1), (3, .invokevirtual 204, 3), (6, .iconst 1, 1), (7, .isub, 1), (8, .i2l, 1), (9, .invokestatic 137, 3), (12, .ireturn, 1)]
def k_M_isHand : List (Nat × Instr × Nat) := [(0, .lload_n 1, 1), (1, .lconst 0, 1), (2, .aload_n 0, 1), (3, .getfield 13, 3), (6, .iconst 3, 1), (7, .iaload, 1), (8, .iconst 1, 1), (9, .isub, 1), (10, .i2l, 1), (11, .invokestatic 137, 3), (14, .ireturn, 1)]
def k_M_bitsOf : List (Nat × Instr × Nat) := [(0, .iconst 0, 1), (1, .istore_n 1, 1), (2, .iconst 0, 1), (3, .istore_n 2, 1), (4, .iload_n 2, 1), (5, .bipush 12, 2), (7, .if_icmp .ge 17, 3), (10, .iload_n 1, 1), (11, .iload_n 0, 1), (12, .iload_n 2, 1), (13, .ishr, 1), (14, .iconst 1, 1), (15, .iand, 1), (16, .iadd, 1), (17, .istore_n 1, 1), (18, .iinc 2 1, 3), (21, .goto (-17), 3), (24, .iload_n 1, 1), (25, .ireturn, 1)]
def k_M_everyCell : List (Nat × Instr × Nat) := [(0, .iconst 1, 1), (1, .aload_n 0, 1), (2, .invokevirtual 204, 3), (5, .ishl, 1), (6, .iconst 1, 1), (7, .isub, 1), (8, .ireturn, 1)]
def k_M_apart : List (Nat × Instr × Nat) := [(0, .iload_n 0, 1), (1, .iload_n 1, 1), (2, .if_icmp .ge 9, 3), (5, .iload_n 1, 1), (6, .iload_n 0, 1), (7, .isub, 1), (8, .goto 6, 3), (11, .iload_n 0, 1), (12, .iload_n 1, 1), (13, .isub, 1), (14, .ireturn, 1)]
def k_M_farOf : List (Nat × Instr × Nat) := [(0, .iload_n 2, 1), (1, .bipush 12, 2), (3, .if_icmp .ne 7, 3), (6, .iconst 0, 1), (7, .goto 42, 3), (10, .iload_n 1, 1), (11, .aload_n 0, 1), (12, .getfield 13, 3), (15, .iconst 2, 1), (16, .iaload, 1), (17, .idiv, 1), (18, .iload_n 2, 1), (19, .aload_n 0, 1), (20, .getfield 13, 3), (23, .iconst 2, 1), (24, .iaload, 1), (25, .idiv, 1), (26, .invokestatic 207, 3), (29, .iload_n 1, 1), (30, .aload_n 0, 1), (31, .getfield 13, 3), (34, .iconst 2, 1), (35, .iaload, 1), (36, .irem, 1), (37, .iload_n 2, 1), (38, .aload_n 0, 1), (39, .getfield 13, 3), (42, .iconst 2, 1), (43, .iaload, 1), (44, .irem, 1), (45, .invokestatic 207, 3), (48, .iadd, 1), (49, .ireturn, 1)]
def k_M_nearOf : List (Nat × Instr × Nat) := [(0, .iconst 0, 1), (1, .istore_n 3, 1), (2, .iconst 0, 1), (3, .istore 4, 2), (5, .iload 4, 2), (7, .aload_n 0, 1), (8, .invokevirtual 204, 3), (11, .if_icmp .ge 38, 3), (14, .iload_n 3, 1), (15, .iload_n 2, 1), (16, .i2l, 1), (17, .iload 4, 2), (19, .invokestatic 210, 3), (22, .ifCond .eq 18, 3), (25, .aload_n 0, 1), (26, .iload_n 1, 1), (27, .iload 4, 2), (29, .invokevirtual 214, 3), (32, .iconst 1, 1), (33, .if_icmp .ne 7, 3), (36, .iconst 1, 1), (37, .goto 4, 3), (40, .iconst 0, 1), (41, .iadd, 1), (42, .istore_n 3, 1), (43, .iinc 4 1, 3), (46, .goto (-41), 3), (49, .iload_n 3, 1), (50, .ireturn, 1)]
def k_M_between : List (Nat × Instr × Nat) := [(0, .iload_n 0, 1), (1, .tableswitch 80 3003 3008 #[39, 50, 61, 80, 72, 76], 39), (40, .iload_n 1, 1), (41, .iload_n 2, 1), (42, .if_icmp .ne 7, 3), (45, .iconst 1, 1), (46, .goto 4, 3), (49, .iconst 0, 1), (50, .ireturn, 1), (51, .iload_n 1, 1), (52, .iload_n 2, 1), (53, .if_icmp .ge 7, 3), (56, .iconst 1, 1), (57, .goto 4, 3), (60, .iconst 0, 1), (61, .ireturn, 1), (62, .iload_n 1, 1), (63, .iload_n 2, 1), (64, .if_icmp .le 7, 3), (67, .iconst 1, 1), (68, .goto 4, 3), (71, .iconst 0, 1), (72, .ireturn, 1), (73, .iload_n 1, 1), (74, .iload_n 2, 1), (75, .iand, 1), (76, .ireturn, 1), (77, .iload_n 1, 1), (78, .iload_n 2, 1), (79, .ior, 1), (80, .ireturn, 1), (81, .iload_n 0, 1), (82, .sipush 3000, 3), (85, .if_icmp .ne 11, 3), (88, .iload_n 1, 1), (89, .i2l, 1), (90, .iload_n 2, 1), (91, .i2l, 1), (92, .ladd, 1), (93, .goto 23, 3), (96, .iload_n 0, 1), (97, .sipush 3001, 3), (100, .if_icmp .ne 11, 3), (103, .iload_n 1, 1), (104, .i2l, 1), (105, .iload_n 2, 1), (106, .i2l, 1), (107, .lsub, 1), (108, .goto 8, 3), (111, .iload_n 1, 1), (112, .i2l, 1), (113, .iload_n 2, 1), (114, .i2l, 1), (115, .lmul, 1), (116, .lstore_n 3, 1), (117, .lload_n 3, 1), (118, .ldc2_w 217, 3), (121, .lcmp, 1), (122, .ifCond .le 9, 3), (125, .ldc2_w 217, 3), (128, .goto 18, 3), (131, .lload_n 3, 1), (132, .ldc2_w 219, 3), (135, .lcmp, 1), (136, .ifCond .ge 9, 3), (139, .ldc2_w 219, 3), (142, .goto 4, 3), (145, .lload_n 3, 1), (146, .l2i, 1), (147, .ireturn, 1)]
def k_M_reckons : List (Nat × Instr × Nat) := [(0, .aload_n 0, 1), (1, .getfield 33, 3), (4, .iconst 0, 1), (5, .iload_n 2, 1), (6, .iastore, 1), (7, .aload_n 0, 1), (8, .getfield 33, 3), (11, .iconst 1, 1), (12, .aload_n 0, 1), (13, .getfield 13, 3), (16, .bipush 10, 2), (18, .iload_n 2, 1), (19, .iadd, 1), (20, .iaload, 1), (21, .iastore, 1), (22, .aload_n 0, 1), (23, .getfield 33, 3), (26, .iconst 2, 1), (27, .aload_n 0, 1), (28, .iload_n 2, 1), (29, .iload_n 3, 1), (30, .invokevirtual 221, 3), (33, .iastore, 1), (34, .aload_n 0, 1), (35, .getfield 33, 3), (38, .iconst 3, 1), (39, .aload_n 0, 1), (40, .invokevirtual 204, 3), (43, .iload_n 3, 1), (44, .invokestatic 224, 3), (47, .isub, 1), (48, .iastore, 1), (49, .iconst 0, 1), (50, .istore 4, 2), (52, .iconst 0, 1), (53, .istore 5, 2), (55, .iload 5, 2), (57, .aload_n 0, 1), (58, .getfield 13, 3), (61, .bipush 8, 2), (63, .iload_n 1, 1), (64, .iadd, 1), (65, .iaload, 1), (66, .if_icmp .ge 140, 3), (69, .aload_n 0, 1), (70, .getfield 13, 3), (73, .bipush 101, 2), (75, .aload_n 0, 1), (76, .getfield 13, 3), (79, .bipush 6, 2), (81, .iload_n 1, 1), (82, .iadd, 1), (83, .iaload, 1), (84, .iadd, 1), (85, .iload 5, 2), (87, .iadd, 1), (88, .iaload, 1), (89, .istore 6, 2), (91, .iload 6, 2), (93, .sipush 3000, 3), (96, .if_icmp .ge 40, 3), (99, .aload_n 0, 1), (100, .getfield 30, 3), (103, .iload 4, 2), (105, .iload 6, 2), (107, .sipush 1000, 3), (110, .if_icmp .ge 8, 3), (113, .iload 6, 2), (115, .goto 14, 3), (118, .aload_n 0, 1), (119, .getfield 33, 3), (122, .iload 6, 2), (124, .sipush 1000, 3), (127, .isub, 1), (128, .iaload, 1), (129, .iastore, 1), (130, .iinc 4 1, 3), (133, .goto 67, 3), (136, .iload 6, 2), (138, .sipush 3006, 3), (141, .if_icmp .ne 26, 3), (144, .aload_n 0, 1), (145, .getfield 30, 3), (148, .iload 4, 2), (150, .iconst 1, 1), (151, .isub, 1), (152, .iconst 1, 1), (153, .aload_n 0, 1), (154, .getfield 30, 3), (157, .iload 4, 2), (159, .iconst 1, 1), (160, .isub, 1), (161, .iaload, 1), (162, .isub, 1), (163, .iastore, 1), (164, .goto 36, 3), (167, .iinc 4 (-1), 3), (170, .aload_n 0, 1), (171, .getfield 30, 3), (174, .iload 4, 2), (176, .iconst 1, 1), (177, .isub, 1), (178, .iload 6, 2), (180, .aload_n 0, 1), (181, .getfield 30, 3), (184, .iload 4, 2), (186, .iconst 1, 1), (187, .isub, 1), (188, .iaload, 1), (189, .aload_n 0, 1), (190, .getfield 30, 3), (193, .iload 4, 2), (195, .iaload, 1), (196, .invokestatic 227, 3), (199, .iastore, 1), (200, .iinc 5 1, 3), (203, .goto (-148), 3), (206, .aload_n 0, 1), (207, .getfield 30, 3), (210, .iconst 0, 1), (211, .iaload, 1), (212, .ireturn, 1)]
def k_M_mayDraw : List (Nat × Instr × Nat) := [(0, .iload_n 3, 1), (1, .i2l, 1), (2, .iload_n 2, 1), (3, .invokestatic 210, 3), (6, .ifCond .eq 5, 3), (9, .iconst 0, 1), (10, .ireturn, 1), (11, .aload_n 0, 1), (12, .getfield 13, 3), (15, .iconst 4, 1), (16, .iaload, 1), (17, .ifCond .ne 5, 3), (20, .iconst 1, 1), (21, .ireturn, 1), (22, .aload_n 0, 1), (23, .getfield 33, 3), (26, .iconst 4, 1), (27, .iload_n 1, 1), (28, .iastore, 1), (29, .aload_n 0, 1), (30, .getfield 33, 3), (33, .iconst 5, 1), (34, .aload_n 0, 1), (35, .getfield 13, 3), (38, .bipush 25, 2), (40, .iload_n 1, 1), (41, .iadd, 1), (42, .iaload, 1), (43, .iastore, 1), (44, .aload_n 0, 1), (45, .getfield 33, 3), (48, .bipush 6, 2), (50, .iload 4, 2), (52, .bipush 12, 2), (54, .if_icmp .ne 8, 3), (57, .bipush 9, 2), (59, .goto 13, 3), (62, .aload_n 0, 1), (63, .getfield 13, 3), (66, .bipush 10, 2), (68, .iload 4, 2), (70, .iadd, 1), (71, .iaload, 1), (72, .iastore, 1), (73, .aload_n 0, 1), (74, .getfield 33, 3), (77, .bipush 7, 2), (79, .aload_n 0, 1), (80, .iload_n 2, 1), (81, .iload 4, 2), (83, .invokevirtual 214, 3), (86, .iastore, 1), (87, .aload_n 0, 1), (88, .iconst 0, 1), (89, .iload_n 2, 1), (90, .iload_n 3, 1), (91, .invokevirtual 231, 3), (94, .iconst 1, 1), (95, .if_icmp .ne 7, 3), (98, .iconst 1, 1), (99, .goto 4, 3), (102, .iconst 0, 1), (103, .ireturn, 1)]
def k_M_oddsOf : List (Nat × Instr × Nat) := [(0, .aload_n 0, 1), (1, .getfield 13, 3), (4, .bipush 22, 2), (6, .iaload, 1), (7, .i2l, 1), (8, .iload_n 1, 1), (9, .invokestatic 210, 3), (12, .ifCond .eq 5, 3), (15, .iconst 0, 1), (16, .ireturn, 1), (17, .aload_n 0, 1), (18, .getfield 13, 3), (21, .iconst 5, 1), (22, .iaload, 1), (23, .ifCond .ne 7, 3), (26, .iconst 1, 1), (27, .goto 16, 3), (30, .aload_n 0, 1), (31, .iconst 1, 1), (32, .iload_n 1, 1), (33, .aload_n 0, 1), (34, .getfield 13, 3), (37, .bipush 22, 2), (39, .iaload, 1), (40, .invokevirtual 231, 3), (43, .istore_n 2, 1), (44, .iload_n 2, 1), (45, .ifCond .ge 7, 3), (48, .iconst 0, 1), (49, .goto 17, 3), (52, .iload_n 2, 1), (53, .sipush 999, 3), (56, .if_icmp .le 9, 3), (59, .sipush 999, 3), (62, .goto 4, 3), (65, .iload_n 2, 1), (66, .ireturn, 1)]
def k_M_oddsAll : List (Nat × Instr × Nat) := [(0, .iconst 0, 1), (1, .istore_n 1, 1), (2, .iconst 0, 1), (3, .istore_n 2, 1), (4, .iload_n 2, 1), (5, .aload_n 0, 1), (6, .invokevirtual 204, 3), (9, .if_icmp .ge 17, 3), (12, .iload_n 1, 1), (13, .aload_n 0, 1), (14, .iload_n 2, 1), (15, .invokevirtual 234, 3), (18, .iadd, 1), (19, .istore_n 1, 1), (20, .iinc 2 1, 3), (23, .goto (-19), 3), (26, .iload_n 1, 1), (27, .ireturn, 1)]
def k_M_isFound : List (Nat × Instr × Nat) := [(0, .aload_n 0, 1), (1, .getfield 13, 3), (4, .bipush 24, 2), (6, .iaload, 1), (7, .iconst (-1), 1), (8, .if_icmp .eq 28, 3), (11, .aload_n 0, 1), (12, .getfield 13, 3), (15, .bipush 22, 2), (17, .iaload, 1), (18, .i2l, 1), (19, .aload_n 0, 1), (20, .getfield 13, 3), (23, .bipush 24, 2), (25, .iaload, 1), (26, .invokestatic 210, 3), (29, .ifCond .eq 7, 3), (32, .iconst 1, 1), (33, .goto 4, 3), (36, .iconst 0, 1), (37, .ireturn, 1)]
def k_M_mayNow : List (Nat × Instr × Nat) := [(0, .aload_n 0, 1), (1, .invokevirtual 237, 3), (4, .ifCond .ne 30, 3), (7, .aload_n 0, 1), (8, .iload_n 1, 1), (9, .iload_n 2, 1), (10, .aload_n 0, 1), (11, .getfield 13, 3), (14, .bipush 22, 2), (16, .iaload, 1), (17, .aload_n 0, 1), (18, .getfield 13, 3), (21, .bipush 23, 2), (23, .iaload, 1), (24, .invokevirtual 241, 3), (27, .ifCond .eq 7, 3), (30, .iconst 1, 1), (31, .goto 4, 3), (34, .iconst 0, 1), (35, .ireturn, 1)]
def k_M_handsOf : List (Nat × Instr × Nat) := [(0, .iconst 0, 1), (1, .istore_n 2, 1), (2, .iconst 0, 1), (3, .istore_n 3, 1), (4, .iload_n 3, 1), (5, .aload_n 0, 1), (6, .getfield 13, 3), (9, .iconst 3, 1), (10, .iaload, 1), (11, .if_icmp .ge 28, 3), (14, .iload_n 2, 1), (15, .aload_n 0, 1), (16, .iload_n 3, 1), (17, .iload_n 1, 1), (18, .invokevirtual 245, 3), (21, .ifCond .eq 9, 3), (24, .iconst 1, 1), (25, .iload_n 3, 1), (26, .ishl, 1), (27, .goto 4, 3), (30, .iconst 0, 1), (31, .ior, 1), (32, .istore_n 2, 1), (33, .iinc 3 1, 3), (36, .goto (-32), 3), (39, .iload_n 2, 1), (40, .ireturn, 1)]
def k_M_cellsOf : List (Nat × Instr × Nat) := [(0, .iconst 0, 1), (1, .istore_n 2, 1), (2, .iconst 0, 1), (3, .istore_n 3, 1), (4, .iload_n 3, 1), (5, .aload_n 0, 1), (6, .invokevirtual 204, 3), (9, .if_icmp .ge 28, 3), (12, .iload_n 2, 1), (13, .aload_n 0, 1), (14, .iload_n 1, 1), (15, .iload_n 3, 1), (16, .invokevirtual 245, 3), (19, .ifCond .eq 9, 3), (22, .iconst 1, 1), (23, .iload_n 3, 1), (24, .ishl, 1), (25, .goto 4, 3), (28, .iconst 0, 1), (29, .ior, 1), (30, .istore_n 2, 1), (31, .iinc 3 1, 3), (34, .goto (-30), 3), (37, .iload_n 2, 1), (38, .ireturn, 1)]
def k_M_cell : List (Nat × Instr × Nat) := [(0, .aload_n 0, 1), (1, .iconst 0, 1), (2, .putfield 1, 3), (5, .aload_n 0, 1), (6, .iload_n 1, 1), (7, .i2l, 1), (8, .invokevirtual 249, 3), (11, .ifCond .ne 6, 3), (14, .bipush (-2), 2), (16, .ireturn, 1), (17, .iload_n 2, 1), (18, .tableswitch 98 0 5 #[38, 48, 60, 73, 79, 85], 38), (56, .aload_n 0, 1), (57, .getfield 13, 3), (60, .bipush 10, 2), (62, .iload_n 1, 1), (63, .iadd, 1), (64, .iaload, 1), (65, .ireturn, 1), (66, .aload_n 0, 1), (67, .getfield 13, 3), (70, .bipush 22, 2), (72, .iaload, 1), (73, .iload_n 1, 1), (74, .ishr, 1), (75, .iconst 1, 1), (76, .iand, 1), (77, .ireturn, 1), (78, .aload_n 0, 1), (79, .iload_n 1, 1), (80, .aload_n 0, 1), (81, .getfield 13, 3), (84, .bipush 22, 2), (86, .iaload, 1), (87, .invokevirtual 221, 3), (90, .ireturn, 1), (91, .aload_n 0, 1), (92, .iload_n 1, 1), (93, .invokevirtual 234, 3), (96, .ireturn, 1), (97, .aload_n 0, 1), (98, .iload_n 1, 1), (99, .invokevirtual 253, 3), (102, .ireturn, 1), (103, .aload_n 0, 1), (104, .iload_n 1, 1), (105, .aload_n 0, 1), (106, .getfield 13, 3), (109, .bipush 23, 2), (111, .iaload, 1), (112, .invokevirtual 214, 3), (115, .ireturn, 1), (116, .bipush (-2), 2), (118, .ireturn, 1)]
def k_M_hand : List (Nat × Instr × Nat) := [(0, .aload_n 0, 1), (1, .iconst 0, 1), (2, .putfield 1, 3), (5, .aload_n 0, 1), (6, .iload_n 1, 1), (7, .i2l, 1), (8, .invokevirtual 256, 3), (11, .ifCond .eq 13, 3), (14, .iload_n 2, 1), (15, .i2l, 1), (16, .lconst 0, 1), (17, .lconst 1, 1), (18, .invokestatic 137, 3), (21, .ifCond .ne 6, 3), (24, .bipush (-2), 2), (26, .ireturn, 1), (27, .iload_n 2, 1), (28, .ifCond .ne 15, 3), (31, .aload_n 0, 1), (32, .getfield 13, 3), (35, .bipush 25, 2), (37, .iload_n 1, 1), (38, .iadd, 1), (39, .iaload, 1), (40, .goto 8, 3), (43, .aload_n 0, 1), (44, .iload_n 1, 1), (45, .invokevirtual 259, 3), (48, .ireturn, 1)]
def k_M_keeps : List (Nat × Instr × Nat) := [(0, .iconst 0, 1), (1, .istore_n 1, 1), (2, .iload_n 1, 1), (3, .bipush 7, 2), (5, .if_icmp .ge 24, 3), (8, .aload_n 0, 1), (9, .getfield 36, 3), (12, .iload_n 1, 1), (13, .aload_n 0, 1), (14, .getfield 13, 3), (17, .bipush 22, 2), (19, .iload_n 1, 1), (20, .iadd, 1), (21, .iaload, 1), (22, .iastore, 1), (23, .iinc 1 1, 3), (26, .goto (-24), 3), (29, .return_, 1)]
def k_M_isAgain : List (Nat × Instr × Nat) := [(0, .iconst 0, 1), (1, .istore_n 1, 1), (2, .iload_n 1, 1), (3, .bipush 7, 2), (5, .if_icmp .ge 24, 3), (8, .aload_n 0, 1), (9, .getfield 13, 3), (12, .bipush 22, 2), (14, .iload_n 1, 1), (15, .iadd, 1), (16, .aload_n 0, 1), (17, .getfield 36, 3), (20, .iload_n 1, 1), (21, .iaload, 1), (22, .iastore, 1), (23, .iinc 1 1, 3), (26, .goto (-24), 3), (29, .return_, 1)]
def k_M_notes : List (Nat × Instr × Nat) := [(0, .aload_n 0, 1), (1, .getfield 13, 3), (4, .bipush 29, 2), (6, .iaload, 1), (7, .bipush 10, 2), (9, .if_icmp .ne 46, 3), (12, .iconst 0, 1), (13, .istore_n 1, 1), (14, .iload_n 1, 1), (15, .bipush 63, 2), (17, .if_icmp .ge 27, 3), (20, .aload_n 0, 1), (21, .getfield 13, 3), (24, .bipush 30, 2), (26, .iload_n 1, 1), (27, .iadd, 1), (28, .aload_n 0, 1), (29, .getfield 13, 3), (32, .bipush 37, 2), (34, .iload_n 1, 1), (35, .iadd, 1), (36, .iaload, 1), (37, .iastore, 1), (38, .iinc 1 1, 3), (41, .goto (-27), 3), (44, .aload_n 0, 1), (45, .getfield 13, 3), (48, .bipush 29, 2), (50, .dup2, 1), (51, .iaload, 1), (52, .iconst 1, 1), (53, .isub, 1), (54, .iastore, 1), (55, .iconst 0, 1), (56, .istore_n 1, 1), (57, .iload_n 1, 1), (58, .bipush 7, 2), (60, .if_icmp .ge 35, 3), (63, .aload_n 0, 1), (64, .getfield 13, 3), (67, .bipush 30, 2), (69, .bipush 7, 2), (71, .aload_n 0, 1), (72, .getfield 13, 3), (75, .bipush 29, 2), (77, .iaload, 1), (78, .imul, 1), (79, .iadd, 1), (80, .iload_n 1, 1), (81, .iadd, 1), (82, .aload_n 0, 1), (83, .getfield 36, 3), (86, .iload_n 1, 1), (87, .iaload, 1), (88, .iastore, 1), (89, .iinc 1 1, 3), (92, .goto (-35), 3), (95, .aload_n 0, 1), (96, .getfield 13, 3), (99, .bipush 29, 2), (101, .dup2, 1), (102, .iaload, 1), (103, .iconst 1, 1), (104, .iadd, 1), (105, .iastore, 1), (106, .return_, 1)]
def k_M_whyStroke : List (Nat × Instr × Nat) := [(0, .aload_n 0, 1), (1, .lload_n 1, 1), (2, .invokevirtual 256, 3), (5, .ifCond .eq 11, 3), (8, .aload_n 0, 1), (9, .lload_n 3, 1), (10, .invokevirtual 249, 3), (13, .ifCond .ne 5, 3), (16, .iconst 1, 1), (17, .ireturn, 1), (18, .aload_n 0, 1), (19, .invokevirtual 237, 3), (22, .ifCond .ne 19, 3), (25, .aload_n 0, 1), (26, .getfield 13, 3), (29, .bipush 22, 2), (31, .iaload, 1), (32, .i2l, 1), (33, .lload_n 3, 1), (34, .l2i, 1), (35, .invokestatic 210, 3), (38, .ifCond .eq 5, 3), (41, .iconst 2, 1), (42, .ireturn, 1), (43, .aload_n 0, 1), (44, .lload_n 1, 1), (45, .l2i, 1), (46, .lload_n 3, 1), (47, .l2i, 1), (48, .aload_n 0, 1), (49, .getfield 13, 3), (52, .bipush 22, 2), (54, .iaload, 1), (55, .aload_n 0, 1), (56, .getfield 13, 3), (59, .bipush 23, 2), (61, .iaload, 1), (62, .invokevirtual 241, 3), (65, .ifCond .eq 7, 3), (68, .iconst 0, 1), (69, .goto 4, 3), (72, .iconst 3, 1), (73, .ireturn, 1)]
def k_M_whyRub : List (Nat × Instr × Nat) := [(0, .aload_n 0, 1), (1, .lload_n 1, 1), (2, .invokevirtual 249, 3), (5, .ifCond .ne 7, 3), (8, .iconst 1, 1), (9, .goto 31, 3), (12, .aload_n 0, 1), (13, .invokevirtual 237, 3), (16, .ifCond .ne 19, 3), (19, .aload_n 0, 1), (20, .getfield 13, 3), (23, .bipush 22, 2), (25, .iaload, 1), (26, .i2l, 1), (27, .lload_n 1, 1), (28, .l2i, 1), (29, .invokestatic 210, 3), (32, .ifCond .ne 7, 3), (35, .iconst 2, 1), (36, .goto 4, 3), (39, .iconst 0, 1), (40, .ireturn, 1)]
def k_M_whyHide : List (Nat × Instr × Nat) := [(0, .aload_n 0, 1), (1, .lload_n 1, 1), (2, .invokevirtual 249, 3), (5, .ifCond .ne 7, 3), (8, .iconst 1, 1), (9, .goto 31, 3), (12, .aload_n 0, 1), (13, .invokevirtual 237, 3), (16, .ifCond .ne 19, 3), (19, .aload_n 0, 1), (20, .getfield 13, 3), (23, .bipush 22, 2), (25, .iaload, 1), (26, .i2l, 1), (27, .lload_n 1, 1), (28, .l2i, 1), (29, .invokestatic 210, 3), (32, .ifCond .eq 7, 3), (35, .iconst 2, 1), (36, .goto 4, 3), (39, .iconst 0, 1), (40, .ireturn, 1)]
def k_M_draws : List (Nat × Instr × Nat) := [(0, .aload_n 0, 1), (1, .getfield 13, 3), (4, .bipush 22, 2), (6, .dup2, 1), (7, .iaload, 1), (8, .iconst 1, 1), (9, .iload_n 1, 1), (10, .ishl, 1), (11, .ior, 1), (12, .iastore, 1), (13, .aload_n 0, 1), (14, .getfield 13, 3), (17, .bipush 23, 2), (19, .iload_n 1, 1), (20, .iastore, 1), (21, .return_, 1)]
def k_M_rubs : List (Nat × Instr × Nat) := [(0, .aload_n 0, 1), (1, .getfield 13, 3), (4, .bipush 22, 2), (6, .dup2, 1), (7, .iaload, 1), (8, .iconst 1, 1), (9, .iload_n 1, 1), (10, .ishl, 1), (11, .iconst (-1), 1), (12, .ixor, 1), (13, .iand, 1), (14, .iastore, 1), (15, .aload_n 0, 1), (16, .getfield 13, 3), (19, .bipush 23, 2), (21, .aload_n 0, 1), (22, .getfield 13, 3), (25, .bipush 23, 2), (27, .iaload, 1), (28, .iload_n 1, 1), (29, .if_icmp .ne 8, 3), (32, .bipush 12, 2), (34, .goto 10, 3), (37, .aload_n 0, 1), (38, .getfield 13, 3), (41, .bipush 23, 2), (43, .iaload, 1), (44, .iastore, 1), (45, .return_, 1)]
def k_M_leftNow : List (Nat × Instr × Nat) := [(0, .aload_n 0, 1), (1, .invokevirtual 204, 3), (4, .aload_n 0, 1), (5, .getfield 13, 3), (8, .bipush 22, 2), (10, .iaload, 1), (11, .invokestatic 224, 3), (14, .isub, 1), (15, .ireturn, 1)]
def k_M_stroke : List (Nat × Instr × Nat) := [(0, .aload_n 0, 1), (1, .iconst 0, 1), (2, .putfield 1, 3), (5, .aload_n 0, 1), (6, .iload_n 1, 1), (7, .i2l, 1), (8, .iload_n 2, 1), (9, .i2l, 1), (10, .invokevirtual 262, 3), (13, .istore_n 3, 1), (14, .iload_n 3, 1), (15, .ifCond .eq 8, 3), (18, .bipush (-10), 2), (20, .iload_n 3, 1), (21, .isub, 1), (22, .ireturn, 1), (23, .aload_n 0, 1), (24, .invokevirtual 266, 3), (27, .aload_n 0, 1), (28, .iload_n 2, 1), (29, .invokevirtual 269, 3), (32, .aload_n 0, 1), (33, .invokevirtual 272, 3), (36, .aload_n 0, 1), (37, .invokevirtual 275, 3), (40, .ireturn, 1)]
def k_M_rub : List (Nat × Instr × Nat) := [(0, .aload_n 0, 1), (1, .iconst 0, 1), (2, .putfield 1, 3), (5, .aload_n 0, 1), (6, .iload_n 1, 1), (7, .i2l, 1), (8, .invokevirtual 278, 3), (11, .istore_n 2, 1), (12, .iload_n 2, 1), (13, .ifCond .eq 8, 3), (16, .bipush (-10), 2), (18, .iload_n 2, 1), (19, .isub, 1), (20, .ireturn, 1), (21, .aload_n 0, 1), (22, .invokevirtual 266, 3), (25, .aload_n 0, 1), (26, .iload_n 1, 1), (27, .invokevirtual 282, 3), (30, .aload_n 0, 1), (31, .invokevirtual 272, 3), (34, .aload_n 0, 1), (35, .invokevirtual 275, 3), (38, .ireturn, 1)]
def k_M_habit : List (Nat × Instr × Nat) := [(0, .aload_n 0, 1), (1, .iconst 0, 1), (2, .putfield 1, 3), (5, .aload_n 0, 1), (6, .iload_n 1, 1), (7, .i2l, 1), (8, .invokevirtual 256, 3), (11, .ifCond .eq 15, 3), (14, .iload_n 2, 1), (15, .i2l, 1), (16, .lconst 0, 1), (17, .ldc2_w 285, 3), (20, .invokestatic 137, 3), (23, .ifCond .ne 6, 3), (26, .bipush (-11), 2), (28, .ireturn, 1), (29, .aload_n 0, 1), (30, .invokevirtual 266, 3), (33, .aload_n 0, 1), (34, .getfield 13, 3), (37, .bipush 25, 2), (39, .iload_n 1, 1), (40, .iadd, 1), (41, .iload_n 2, 1), (42, .iastore, 1), (43, .aload_n 0, 1), (44, .invokevirtual 272, 3), (47, .aload_n 0, 1), (48, .getfield 36, 3), (51, .iconst 3, 1), (52, .iload_n 1, 1), (53, .iadd, 1), (54, .iaload, 1), (55, .ireturn, 1)]
def k_M_hide : List (Nat × Instr × Nat) := [(0, .aload_n 0, 1), (1, .iconst 0, 1), (2, .putfield 1, 3), (5, .aload_n 0, 1), (6, .iload_n 1, 1), (7, .i2l, 1), (8, .invokevirtual 287, 3), (11, .istore_n 2, 1), (12, .iload_n 2, 1), (13, .ifCond .eq 8, 3), (16, .bipush (-10), 2), (18, .iload_n 2, 1), (19, .isub, 1), (20, .ireturn, 1), (21, .aload_n 0, 1), (22, .invokevirtual 266, 3), (25, .aload_n 0, 1), (26, .getfield 13, 3), (29, .bipush 24, 2), (31, .iload_n 1, 1), (32, .iastore, 1), (33, .aload_n 0, 1), (34, .invokevirtual 272, 3), (37, .aload_n 0, 1), (38, .getfield 36, 3), (41, .iconst 2, 1), (42, .iaload, 1), (43, .ireturn, 1)]
def k_M_undo : List (Nat × Instr × Nat) := [(0, .aload_n 0, 1), (1, .iconst 0, 1), (2, .putfield 1, 3), (5, .iload_n 1, 1), (6, .i2l, 1), (7, .lconst 1, 1), (8, .ldc2_w 290, 3), (11, .invokestatic 137, 3), (14, .ifCond .eq 14, 3), (17, .iload_n 1, 1), (18, .aload_n 0, 1), (19, .getfield 13, 3), (22, .bipush 29, 2), (24, .iaload, 1), (25, .if_icmp .le 6, 3), (28, .bipush (-3), 2), (30, .ireturn, 1), (31, .aload_n 0, 1), (32, .getfield 13, 3), (35, .bipush 29, 2), (37, .dup2, 1), (38, .iaload, 1), (39, .iload_n 1, 1), (40, .isub, 1), (41, .iastore, 1), (42, .iconst 0, 1), (43, .istore_n 2, 1), (44, .iload_n 2, 1), (45, .bipush 7, 2), (47, .if_icmp .ge 38, 3), (50, .aload_n 0, 1), (51, .getfield 13, 3), (54, .bipush 22, 2), (56, .iload_n 2, 1), (57, .iadd, 1), (58, .aload_n 0, 1), (59, .getfield 13, 3), (62, .bipush 30, 2), (64, .bipush 7, 2), (66, .aload_n 0, 1), (67, .getfield 13, 3), (70, .bipush 29, 2), (72, .iaload, 1), (73, .imul, 1), (74, .iadd, 1), (75, .iload_n 2, 1), (76, .iadd, 1), (77, .iaload, 1), (78, .iastore, 1), (79, .iinc 2 1, 3), (82, .goto (-38), 3), (85, .aload_n 0, 1), (86, .getfield 13, 3), (89, .bipush 29, 2), (91, .iaload, 1), (92, .ireturn, 1)]
def k_M_whyNot : List (Nat × Instr × Nat) := [(0, .lload_n 1, 1), (1, .lconst 0, 1), (2, .ldc2_w 292, 3), (5, .invokestatic 137, 3), (8, .ifCond .eq 18, 3), (11, .aload_n 0, 1), (12, .lload_n 1, 1), (13, .ldc2_w 294, 3), (16, .ldiv, 1), (17, .lload_n 1, 1), (18, .ldc2_w 294, 3), (21, .lrem, 1), (22, .invokevirtual 262, 3), (25, .ireturn, 1), (26, .lload_n 1, 1), (27, .ldc2_w 296, 3), (30, .ldc2_w 298, 3), (33, .invokestatic 137, 3), (36, .ifCond .eq 13, 3), (39, .aload_n 0, 1), (40, .lload_n 1, 1), (41, .ldc2_w 296, 3), (44, .lsub, 1), (45, .invokevirtual 278, 3), (48, .ireturn, 1), (49, .lload_n 1, 1), (50, .ldc2_w 300, 3), (53, .ldc2_w 302, 3), (56, .invokestatic 137, 3), (59, .ifCond .eq 25, 3), (62, .aload_n 0, 1), (63, .lload_n 1, 1), (64, .ldc2_w 300, 3), (67, .lsub, 1), (68, .ldc2_w 290, 3), (71, .ldiv, 1), (72, .invokevirtual 256, 3), (75, .ifCond .eq 7, 3), (78, .iconst 0, 1), (79, .goto 4, 3), (82, .iconst 1, 1), (83, .ireturn, 1), (84, .lload_n 1, 1), (85, .ldc2_w 304, 3), (88, .ldc2_w 306, 3), (91, .invokestatic 137, 3), (94, .ifCond .eq 15, 3), (97, .aload_n 0, 1), (98, .lload_n 1, 1), (99, .ldc2_w 304, 3), (102, .lsub, 1), (103, .invokevirtual 287, 3), (106, .goto 4, 3), (109, .iconst 1, 1), (110, .ireturn, 1)]
def k_M_does : List (Nat × Instr × Nat) := [(0, .iload_n 1, 1), (1, .sipush 400, 3), (4, .if_icmp .ge 14, 3), (7, .aload_n 0, 1), (8, .iload_n 1, 1), (9, .bipush 100, 2), (11, .irem, 1), (12, .invokevirtual 269, 3), (15, .goto 64, 3), (18, .iload_n 1, 1), (19, .sipush 600, 3), (22, .if_icmp .ge 15, 3), (25, .aload_n 0, 1), (26, .iload_n 1, 1), (27, .sipush 500, 3), (30, .isub, 1), (31, .invokevirtual 282, 3), (34, .goto 45, 3), (37, .iload_n 1, 1), (38, .sipush 700, 3), (41, .if_icmp .ge 26, 3), (44, .aload_n 0, 1), (45, .getfield 13, 3), (48, .bipush 25, 2), (50, .iload_n 1, 1), (51, .sipush 600, 3), (54, .isub, 1), (55, .bipush 10, 2), (57, .idiv, 1), (58, .iadd, 1), (59, .iload_n 1, 1), (60, .bipush 10, 2), (62, .irem, 1), (63, .iastore, 1), (64, .goto 15, 3), (67, .aload_n 0, 1), (68, .getfield 13, 3), (71, .bipush 24, 2), (73, .iload_n 1, 1), (74, .sipush 700, 3), (77, .isub, 1), (78, .iastore, 1), (79, .return_, 1)]
def k_M_tells : List (Nat × Instr × Nat) := [(0, .aload_n 0, 1), (1, .iconst 0, 1), (2, .putfield 308, 3), (5, .iconst 0, 1), (6, .istore_n 2, 1), (7, .iload_n 2, 1), (8, .aload_n 0, 1), (9, .getfield 65, 3), (12, .iload_n 1, 1), (13, .iaload, 1), (14, .if_icmp .ge 53, 3), (17, .aload_n 0, 1), (18, .aload_n 0, 1), (19, .aload_n 0, 1), (20, .getfield 68, 3), (23, .bipush 40, 2), (25, .iload_n 1, 1), (26, .imul, 1), (27, .iload_n 2, 1), (28, .iadd, 1), (29, .laload, 1), (30, .invokevirtual 311, 3), (33, .putfield 308, 3), (36, .aload_n 0, 1), (37, .getfield 308, 3), (40, .ifCond .eq 5, 3), (43, .iload_n 2, 1), (44, .ireturn, 1), (45, .aload_n 0, 1), (46, .aload_n 0, 1), (47, .getfield 68, 3), (50, .bipush 40, 2), (52, .iload_n 1, 1), (53, .imul, 1), (54, .iload_n 2, 1), (55, .iadd, 1), (56, .laload, 1), (57, .l2i, 1), (58, .invokevirtual 314, 3), (61, .iinc 2 1, 3), (64, .goto (-57), 3), (67, .aload_n 0, 1), (68, .getfield 65, 3), (71, .iload_n 1, 1), (72, .iaload, 1), (73, .ireturn, 1)]
def k_M_noTray : List (Nat × Instr × Nat) := [(0, .iload_n 1, 1), (1, .i2l, 1), (2, .lconst 0, 1), (3, .ldc2_w 317, 3), (6, .invokestatic 137, 3), (9, .ifCond .ne 8, 3), (12, .bipush (-2), 2), (14, .goto 19, 3), (17, .aload_n 0, 1), (18, .getfield 62, 3), (21, .iload_n 1, 1), (22, .iaload, 1), (23, .iconst (-1), 1), (24, .if_icmp .ne 8, 3), (27, .bipush (-6), 2), (29, .goto 4, 3), (32, .iconst 0, 1), (33, .ireturn, 1)]
def k_M_judge : List (Nat × Instr × Nat) := [(0, .aload_n 0, 1), (1, .iconst 0, 1), (2, .putfield 1, 3), (5, .iload_n 2, 1), (6, .i2l, 1), (7, .lconst 0, 1), (8, .ldc2_w 317, 3), (11, .invokestatic 137, 3), (14, .ifCond .ne 6, 3), (17, .bipush (-2), 2), (19, .ireturn, 1), (20, .aload_n 0, 1), (21, .iload_n 1, 1), (22, .invokevirtual 319, 3), (25, .istore_n 3, 1), (26, .iload_n 3, 1), (27, .ifCond .eq 5, 3), (30, .iload_n 3, 1), (31, .ireturn, 1), (32, .aload_n 0, 1), (33, .invokevirtual 266, 3), (36, .aload_n 0, 1), (37, .iload_n 1, 1), (38, .invokevirtual 322, 3), (41, .istore 4, 2), (43, .aload_n 0, 1), (44, .getfield 13, 3), (47, .bipush 22, 2), (49, .iaload, 1), (50, .istore 5, 2), (52, .aload_n 0, 1), (53, .invokevirtual 237, 3), (56, .ifCond .eq 7, 3), (59, .iconst 1, 1), (60, .goto 4, 3), (63, .iconst 0, 1), (64, .istore 6, 2), (66, .aload_n 0, 1), (67, .invokevirtual 325, 3), (70, .iload_n 2, 1), (71, .ifCond .ne 19, 3), (74, .aload_n 0, 1), (75, .getfield 308, 3), (78, .ifCond .ne 7, 3), (81, .iconst (-1), 1), (82, .goto 32, 3), (85, .iload 4, 2), (87, .goto 27, 3), (90, .iload_n 2, 1), (91, .iconst 1, 1), (92, .if_icmp .ne 10, 3), (95, .aload_n 0, 1), (96, .getfield 308, 3), (99, .goto 15, 3), (102, .iload_n 2, 1), (103, .iconst 2, 1), (104, .if_icmp .ne 8, 3), (107, .iload 5, 2), (109, .goto 5, 3), (112, .iload 6, 2), (114, .ireturn, 1)]
def k_M_perform : List (Nat × Instr × Nat) := [(0, .aload_n 0, 1), (1, .iconst 0, 1), (2, .putfield 1, 3), (5, .aload_n 0, 1), (6, .iload_n 1, 1), (7, .invokevirtual 319, 3), (10, .istore_n 2, 1), (11, .iload_n 2, 1), (12, .ifCond .eq 5, 3), (15, .iload_n 2, 1), (16, .ireturn, 1), (17, .aload_n 0, 1), (18, .invokevirtual 266, 3), (21, .aload_n 0, 1), (22, .iload_n 1, 1), (23, .invokevirtual 322, 3), (26, .istore_n 3, 1), (27, .iload_n 3, 1), (28, .ifCond .le 7, 3), (31, .aload_n 0, 1), (32, .invokevirtual 272, 3), (35, .iload_n 3, 1), (36, .ireturn, 1)]
def k_M_draw : List (Nat × Instr × Nat) := [(0, .aload_n 0, 1), (1, .ldc_w 328, 3), (4, .aload_n 0, 1), (5, .getfield 329, 3), (8, .imul, 1), (9, .sipush 12345, 3), (12, .iadd, 1), (13, .putfield 329, 3), (16, .aload_n 0, 1), (17, .getfield 329, 3), (20, .bipush 16, 2), (22, .iushr, 1), (23, .iload_n 1, 1), (24, .irem, 1), (25, .ireturn, 1)]
def k_M_drawnDeed : List (Nat × Instr × Nat) := [(0, .aload_n 0, 1), (1, .bipush 6, 2), (3, .invokevirtual 332, 3), (6, .istore_n 1, 1), (7, .iload_n 1, 1), (8, .iconst 3, 1), (9, .if_icmp .ne 14, 3), (12, .sipush 500, 3), (15, .aload_n 0, 1), (16, .bipush 12, 2), (18, .invokevirtual 332, 3), (21, .iadd, 1), (22, .ireturn, 1), (23, .iload_n 1, 1), (24, .iconst 5, 1), (25, .if_icmp .ne 14, 3), (28, .sipush 700, 3), (31, .aload_n 0, 1), (32, .bipush 12, 2), (34, .invokevirtual 332, 3), (37, .iadd, 1), (38, .ireturn, 1), (39, .aload_n 0, 1), (40, .iconst 4, 1), (41, .invokevirtual 332, 3), (44, .istore_n 2, 1), (45, .iload_n 1, 1), (46, .iconst 3, 1), (47, .if_icmp .ge 17, 3), (50, .bipush 100, 2), (52, .iload_n 2, 1), (53, .imul, 1), (54, .aload_n 0, 1), (55, .bipush 12, 2), (57, .invokevirtual 332, 3), (60, .iadd, 1), (61, .goto 18, 3), (64, .sipush 600, 3), (67, .bipush 10, 2), (69, .iload_n 2, 1), (70, .imul, 1), (71, .iadd, 1), (72, .aload_n 0, 1), (73, .bipush 10, 2), (75, .invokevirtual 332, 3), (78, .iadd, 1), (79, .ireturn, 1)]
def k_M_night : List (Nat × Instr × Nat) := [(0, .aload_n 0, 1), (1, .iconst 0, 1), (2, .putfield 1, 3), (5, .iload_n 2, 1), (6, .i2l, 1), (7, .lconst 1, 1), (8, .ldc2_w 335, 3), (11, .invokestatic 137, 3), (14, .ifCond .ne 6, 3), (17, .bipush (-3), 2), (19, .ireturn, 1), (20, .aload_n 0, 1), (21, .invokevirtual 266, 3), (24, .aload_n 0, 1), (25, .iload_n 1, 1), (26, .putfield 329, 3), (29, .iconst 0, 1), (30, .istore_n 3, 1), (31, .iconst 0, 1), (32, .istore 4, 2), (34, .iload 4, 2), (36, .iload_n 2, 1), (37, .if_icmp .ge 37, 3), (40, .aload_n 0, 1), (41, .invokevirtual 337, 3), (44, .istore 5, 2), (46, .aload_n 0, 1), (47, .iload 5, 2), (49, .i2l, 1), (50, .invokevirtual 311, 3), (53, .ifCond .eq 6, 3), (56, .goto 12, 3), (59, .aload_n 0, 1), (60, .iload 5, 2), (62, .invokevirtual 314, 3), (65, .iinc 3 1, 3), (68, .iinc 4 1, 3), (71, .goto (-37), 3), (74, .iload_n 3, 1), (75, .ifCond .le 7, 3), (78, .aload_n 0, 1), (79, .invokevirtual 272, 3), (82, .iload_n 3, 1), (83, .ireturn, 1)]
def k_M_standOf : List (Nat × Instr × Nat) := [(0, .bipush 13, 2), (2, .iload_n 0, 1), (3, .imul, 1), (4, .iload_n 1, 1), (5, .iadd, 1), (6, .ireturn, 1)]
def k_M_standNow : List (Nat × Instr × Nat) := [(0, .aload_n 0, 1), (1, .getfield 13, 3), (4, .bipush 22, 2), (6, .iaload, 1), (7, .aload_n 0, 1), (8, .getfield 13, 3), (11, .bipush 23, 2), (13, .iaload, 1), (14, .invokestatic 340, 3), (17, .ireturn, 1)]
def k_M_canBe : List (Nat × Instr × Nat) := [(0, .aload_n 0, 1), (1, .getfield 13, 3), (4, .bipush 22, 2), (6, .iaload, 1), (7, .iload_n 1, 1), (8, .iconst (-1), 1), (9, .ixor, 1), (10, .iand, 1), (11, .ifCond .eq 5, 3), (14, .iconst 0, 1), (15, .ireturn, 1), (16, .iload_n 1, 1), (17, .aload_n 0, 1), (18, .getfield 13, 3), (21, .bipush 22, 2), (23, .iaload, 1), (24, .if_icmp .ne 22, 3), (27, .iload_n 2, 1), (28, .aload_n 0, 1), (29, .getfield 13, 3), (32, .bipush 23, 2), (34, .iaload, 1), (35, .if_icmp .ne 7, 3), (38, .iconst 1, 1), (39, .goto 37, 3), (42, .iconst 0, 1), (43, .goto 33, 3), (46, .iload_n 2, 1), (47, .bipush 12, 2), (49, .if_icmp .ge 26, 3), (52, .iload_n 1, 1), (53, .aload_n 0, 1), (54, .getfield 13, 3), (57, .bipush 22, 2), (59, .iaload, 1), (60, .iconst (-1), 1), (61, .ixor, 1), (62, .iand, 1), (63, .i2l, 1), (64, .iload_n 2, 1), (65, .invokestatic 210, 3), (68, .ifCond .eq 7, 3), (71, .iconst 1, 1), (72, .goto 4, 3), (75, .iconst 0, 1), (76, .ireturn, 1)]
def k_M_laysMays : List (Nat × Instr × Nat) := [(0, .aload_n 0, 1), (1, .invokevirtual 343, 3), (4, .istore_n 3, 1), (5, .iload_n 3, 1), (6, .aload_n 0, 1), (7, .getfield 13, 3), (10, .bipush 22, 2), (12, .iaload, 1), (13, .if_icmp .lt 95, 3), (16, .iconst 0, 1), (17, .istore 4, 2), (19, .iload 4, 2), (21, .bipush 12, 2), (23, .if_icmp .gt 79, 3), (26, .aload_n 0, 1), (27, .iload_n 3, 1), (28, .iload 4, 2), (30, .invokevirtual 346, 3), (33, .ifCond .ne 6, 3), (36, .goto 60, 3), (39, .iconst 0, 1), (40, .istore 5, 2), (42, .iconst 0, 1), (43, .istore 6, 2), (45, .iload 6, 2), (47, .aload_n 0, 1), (48, .invokevirtual 204, 3), (51, .if_icmp .ge 35, 3), (54, .iload 5, 2), (56, .aload_n 0, 1), (57, .iload_n 1, 1), (58, .iload 6, 2), (60, .iload_n 3, 1), (61, .iload 4, 2), (63, .invokevirtual 241, 3), (66, .ifCond .eq 10, 3), (69, .iconst 1, 1), (70, .iload 6, 2), (72, .ishl, 1), (73, .goto 4, 3), (76, .iconst 0, 1), (77, .ior, 1), (78, .istore 5, 2), (80, .iinc 6 1, 3), (83, .goto (-38), 3), (86, .aload_n 2, 1), (87, .iload_n 3, 1), (88, .iload 4, 2), (90, .invokestatic 340, 3), (93, .iload 5, 2), (95, .iastore, 1), (96, .iinc 4 1, 3), (99, .goto (-80), 3), (102, .iinc 3 (-1), 3), (105, .goto (-100), 3), (108, .return_, 1)]
def k_M_behindStroke : List (Nat × Instr × Nat) := [(0, .iload_n 0, 1), (1, .bipush 13, 2), (3, .idiv, 1), (4, .iconst 1, 1), (5, .iload_n 1, 1), (6, .ishl, 1), (7, .ior, 1), (8, .iload_n 1, 1), (9, .invokestatic 340, 3), (12, .ireturn, 1)]
def k_M_stillBy : List (Nat × Instr × Nat) := [(0, .iload_n 3, 1), (1, .iconst 2, 1), (2, .if_icmp .ne 11, 3), (5, .iload_n 2, 1), (6, .iload 4, 2), (8, .if_icmp .ne 5, 3), (11, .iconst 1, 1), (12, .ireturn, 1), (13, .aload_n 0, 1), (14, .getfield 46, 3), (17, .iload_n 1, 1), (18, .iload_n 2, 1), (19, .invokestatic 349, 3), (22, .iaload, 1), (23, .istore 5, 2), (25, .iload 5, 2), (27, .iconst (-1), 1), (28, .if_icmp .ne 7, 3), (31, .iconst (-1), 1), (32, .goto 7, 3), (35, .iload 5, 2), (37, .iconst 1, 1), (38, .iadd, 1), (39, .ireturn, 1)]
def k_M_stillAt : List (Nat × Instr × Nat) := [(0, .iload_n 2, 1), (1, .ifCond .eq 17, 3), (4, .iload_n 2, 1), (5, .iconst 1, 1), (6, .if_icmp .ne 16, 3), (9, .aload_n 0, 1), (10, .getfield 40, 3), (13, .iload_n 1, 1), (14, .iaload, 1), (15, .ifCond .ne 7, 3), (18, .iconst 0, 1), (19, .goto 4, 3), (22, .iconst (-1), 1), (23, .istore 4, 2), (25, .iconst 0, 1), (26, .istore 5, 2), (28, .iload 5, 2), (30, .aload_n 0, 1), (31, .invokevirtual 204, 3), (34, .if_icmp .ge 93, 3), (37, .aload_n 0, 1), (38, .getfield 40, 3), (41, .iload_n 1, 1), (42, .iaload, 1), (43, .i2l, 1), (44, .iload 5, 2), (46, .invokestatic 210, 3), (49, .ifCond .eq 72, 3), (52, .iload_n 2, 1), (53, .ifCond .ne 12, 3), (56, .iload 5, 2), (58, .iload_n 3, 1), (59, .if_icmp .ne 6, 3), (62, .goto 59, 3), (65, .aload_n 0, 1), (66, .iload_n 1, 1), (67, .iload 5, 2), (69, .iload_n 2, 1), (70, .iload_n 3, 1), (71, .invokevirtual 352, 3), (74, .istore 6, 2), (76, .iload 6, 2), (78, .iconst (-1), 1), (79, .if_icmp .ne 6, 3), (82, .goto 39, 3), (85, .iload 4, 2), (87, .iconst (-1), 1), (88, .if_icmp .eq 24, 3), (91, .iload_n 2, 1), (92, .ifCond .ne 13, 3), (95, .iload 6, 2), (97, .iload 4, 2), (99, .if_icmp .le 18, 3), (102, .goto 10, 3), (105, .iload 6, 2), (107, .iload 4, 2), (109, .if_icmp .ge 8, 3), (112, .iload 6, 2), (114, .goto 5, 3), (117, .iload 4, 2), (119, .istore 4, 2), (121, .iinc 5 1, 3), (124, .goto (-96), 3), (127, .iload 4, 2), (129, .ireturn, 1)]
def k_M_laysStill : List (Nat × Instr × Nat) := [(0, .aload_n 0, 1), (1, .invokevirtual 343, 3), (4, .istore_n 3, 1), (5, .iload_n 3, 1), (6, .aload_n 0, 1), (7, .getfield 13, 3), (10, .bipush 22, 2), (12, .iaload, 1), (13, .if_icmp .lt 58, 3), (16, .iconst 0, 1), (17, .istore 4, 2), (19, .iload 4, 2), (21, .bipush 12, 2), (23, .if_icmp .gt 42, 3), (26, .aload_n 0, 1), (27, .iload_n 3, 1), (28, .iload 4, 2), (30, .invokevirtual 346, 3), (33, .ifCond .eq 26, 3), (36, .aload_n 0, 1), (37, .getfield 46, 3), (40, .iload_n 3, 1), (41, .iload 4, 2), (43, .invokestatic 340, 3), (46, .aload_n 0, 1), (47, .iload_n 3, 1), (48, .iload 4, 2), (50, .invokestatic 340, 3), (53, .iload_n 1, 1), (54, .iload_n 2, 1), (55, .invokevirtual 356, 3), (58, .iastore, 1), (59, .iinc 4 1, 3), (62, .goto (-43), 3), (65, .iinc 3 (-1), 3), (68, .goto (-63), 3), (71, .aload_n 0, 1), (72, .getfield 46, 3), (75, .aload_n 0, 1), (76, .invokevirtual 359, 3), (79, .iaload, 1), (80, .ireturn, 1)]
def k_M_laysRow : List (Nat × Instr × Nat) := [(0, .aload_n 0, 1), (1, .iload_n 1, 1), (2, .aload_n 0, 1), (3, .getfield 40, 3), (6, .invokevirtual 362, 3), (9, .aload_n 0, 1), (10, .iload_n 2, 1), (11, .iload_n 3, 1), (12, .invokevirtual 366, 3), (15, .istore 4, 2), (17, .aload_n 0, 1), (18, .invokevirtual 359, 3), (21, .istore 5, 2), (23, .iconst 0, 1), (24, .istore 6, 2), (26, .iload 6, 2), (28, .iload 4, 2), (30, .if_icmp .ge 80, 3), (33, .iconst 0, 1), (34, .istore 7, 2), (36, .aload_n 0, 1), (37, .getfield 40, 3), (40, .iload 5, 2), (42, .iaload, 1), (43, .i2l, 1), (44, .iload 7, 2), (46, .invokestatic 210, 3), (49, .ifCond .eq 31, 3), (52, .iload_n 2, 1), (53, .ifCond .ne 9, 3), (56, .iload 7, 2), (58, .iload_n 3, 1), (59, .if_icmp .eq 21, 3), (62, .aload_n 0, 1), (63, .iload 5, 2), (65, .iload 7, 2), (67, .iload_n 2, 1), (68, .iload_n 3, 1), (69, .invokevirtual 352, 3), (72, .iload 4, 2), (74, .iload 6, 2), (76, .isub, 1), (77, .if_icmp .eq 9, 3), (80, .iinc 7 1, 3), (83, .goto (-47), 3), (86, .aload_n 0, 1), (87, .getfield 49, 3), (90, .iload 6, 2), (92, .iload 7, 2), (94, .iastore, 1), (95, .iload 5, 2), (97, .iload 7, 2), (99, .invokestatic 349, 3), (102, .istore 5, 2), (104, .iinc 6 1, 3), (107, .goto (-81), 3), (110, .iload 4, 2), (112, .ireturn, 1)]
def k_M_noGoal : List (Nat × Instr × Nat) := [(0, .aload_n 0, 1), (1, .iload_n 1, 1), (2, .i2l, 1), (3, .invokevirtual 256, 3), (6, .ifCond .eq 12, 3), (9, .aload_n 0, 1), (10, .iload_n 2, 1), (11, .i2l, 1), (12, .invokevirtual 249, 3), (15, .ifCond .ne 8, 3), (18, .bipush (-2), 2), (20, .goto 24, 3), (23, .aload_n 0, 1), (24, .getfield 13, 3), (27, .bipush 22, 2), (29, .iaload, 1), (30, .i2l, 1), (31, .iload_n 2, 1), (32, .invokestatic 210, 3), (35, .ifCond .eq 8, 3), (38, .bipush (-5), 2), (40, .goto 4, 3), (43, .iconst 0, 1), (44, .ireturn, 1)]
def k_M_longest : List (Nat × Instr × Nat) := [(0, .aload_n 0, 1), (1, .iconst 0, 1), (2, .putfield 1, 3), (5, .aload_n 0, 1), (6, .iload_n 1, 1), (7, .iload_n 2, 1), (8, .invokevirtual 369, 3), (11, .istore_n 3, 1), (12, .iload_n 3, 1), (13, .ifCond .eq 7, 3), (16, .iload_n 3, 1), (17, .goto 10, 3), (20, .aload_n 0, 1), (21, .iload_n 1, 1), (22, .iconst 0, 1), (23, .iload_n 2, 1), (24, .invokevirtual 372, 3), (27, .ireturn, 1)]
def k_M_rowAt : List (Nat × Instr × Nat) := [(0, .aload_n 0, 1), (1, .iload_n 1, 1), (2, .iload_n 2, 1), (3, .invokevirtual 369, 3), (6, .istore 5, 2), (8, .iload 5, 2), (10, .ifCond .eq 6, 3), (13, .iload 5, 2), (15, .ireturn, 1), (16, .iload 4, 2), (18, .ifCond .ge 6, 3), (21, .bipush (-3), 2), (23, .ireturn, 1), (24, .iload 4, 2), (26, .aload_n 0, 1), (27, .iload_n 1, 1), (28, .iload_n 3, 1), (29, .iload_n 2, 1), (30, .invokevirtual 372, 3), (33, .if_icmp .ge 13, 3), (36, .aload_n 0, 1), (37, .getfield 49, 3), (40, .iload 4, 2), (42, .iaload, 1), (43, .goto 4, 3), (46, .iconst (-1), 1), (47, .ireturn, 1)]
def k_M_longWay : List (Nat × Instr × Nat) := [(0, .aload_n 0, 1), (1, .iconst 0, 1), (2, .putfield 1, 3), (5, .aload_n 0, 1), (6, .iload_n 1, 1), (7, .iload_n 2, 1), (8, .iconst 0, 1), (9, .iload_n 3, 1), (10, .invokevirtual 375, 3), (13, .ireturn, 1)]
def k_M_stuck : List (Nat × Instr × Nat) := [(0, .aload_n 0, 1), (1, .iconst 0, 1), (2, .putfield 1, 3), (5, .aload_n 0, 1), (6, .iload_n 1, 1), (7, .i2l, 1), (8, .invokevirtual 256, 3), (11, .ifCond .eq 13, 3), (14, .aload_n 0, 1), (15, .iload_n 1, 1), (16, .iconst 1, 1), (17, .iconst (-1), 1), (18, .invokevirtual 372, 3), (21, .goto 5, 3), (24, .bipush (-2), 2), (26, .ireturn, 1)]
def k_M_stuckWay : List (Nat × Instr × Nat) := [(0, .aload_n 0, 1), (1, .iconst 0, 1), (2, .putfield 1, 3), (5, .aload_n 0, 1), (6, .iload_n 1, 1), (7, .i2l, 1), (8, .invokevirtual 256, 3), (11, .ifCond .ne 6, 3), (14, .bipush (-2), 2), (16, .ireturn, 1), (17, .iload_n 2, 1), (18, .ifCond .ge 6, 3), (21, .bipush (-3), 2), (23, .ireturn, 1), (24, .iload_n 2, 1), (25, .aload_n 0, 1), (26, .iload_n 1, 1), (27, .iconst 1, 1), (28, .iconst (-1), 1), (29, .invokevirtual 372, 3), (32, .if_icmp .ge 12, 3), (35, .aload_n 0, 1), (36, .getfield 49, 3), (39, .iload_n 2, 1), (40, .iaload, 1), (41, .goto 4, 3), (44, .iconst (-1), 1), (45, .ireturn, 1)]
def k_M_soonest : List (Nat × Instr × Nat) := [(0, .aload_n 0, 1), (1, .iconst 0, 1), (2, .putfield 1, 3), (5, .aload_n 0, 1), (6, .iload_n 1, 1), (7, .iload_n 2, 1), (8, .invokevirtual 369, 3), (11, .istore_n 3, 1), (12, .iload_n 3, 1), (13, .ifCond .eq 7, 3), (16, .iload_n 3, 1), (17, .goto 10, 3), (20, .aload_n 0, 1), (21, .iload_n 1, 1), (22, .iconst 2, 1), (23, .iload_n 2, 1), (24, .invokevirtual 372, 3), (27, .ireturn, 1)]
def k_M_way : List (Nat × Instr × Nat) := [(0, .aload_n 0, 1), (1, .iconst 0, 1), (2, .putfield 1, 3), (5, .aload_n 0, 1), (6, .iload_n 1, 1), (7, .iload_n 2, 1), (8, .iconst 2, 1), (9, .iload_n 3, 1), (10, .invokevirtual 375, 3), (13, .ireturn, 1)]
def k_M_laysMany : List (Nat × Instr × Nat) := [(0, .iconst 0, 1), (1, .istore_n 2, 1), (2, .iload_n 2, 1), (3, .ldc 39, 2), (5, .if_icmp .ge 16, 3), (8, .aload_n 0, 1), (9, .getfield 52, 3), (12, .iload_n 2, 1), (13, .lconst 0, 1), (14, .lastore, 1), (15, .iinc 2 1, 3), (18, .goto (-16), 3), (21, .aload_n 0, 1), (22, .getfield 52, 3), (25, .aload_n 0, 1), (26, .invokevirtual 359, 3), (29, .lconst 1, 1), (30, .lastore, 1), (31, .aload_n 0, 1), (32, .getfield 13, 3), (35, .bipush 22, 2), (37, .iaload, 1), (38, .istore_n 2, 1), (39, .iload_n 2, 1), (40, .aload_n 0, 1), (41, .invokevirtual 343, 3), (44, .if_icmp .gt 107, 3), (47, .iconst 0, 1), (48, .istore_n 3, 1), (49, .iload_n 3, 1), (50, .bipush 12, 2), (52, .if_icmp .gt 93, 3), (55, .iload_n 2, 1), (56, .iload_n 3, 1), (57, .invokestatic 340, 3), (60, .istore 4, 2), (62, .aload_n 0, 1), (63, .getfield 52, 3), (66, .iload 4, 2), (68, .laload, 1), (69, .lconst 0, 1), (70, .lcmp, 1), (71, .ifCond .ne 6, 3), (74, .goto 65, 3), (77, .iconst 0, 1), (78, .istore 5, 2), (80, .iload 5, 2), (82, .aload_n 0, 1), (83, .invokevirtual 204, 3), (86, .if_icmp .ge 53, 3), (89, .iload 5, 2), (91, .iload_n 1, 1), (92, .if_icmp .eq 41, 3), (95, .aload_n 0, 1), (96, .getfield 40, 3), (99, .iload 4, 2), (101, .iaload, 1), (102, .i2l, 1), (103, .iload 5, 2), (105, .invokestatic 210, 3), (108, .ifCond .eq 25, 3), (111, .aload_n 0, 1), (112, .getfield 52, 3), (115, .iload 4, 2), (117, .iload 5, 2), (119, .invokestatic 349, 3), (122, .dup2, 1), (123, .laload, 1), (124, .aload_n 0, 1), (125, .getfield 52, 3), (128, .iload 4, 2), (130, .laload, 1), (131, .ladd, 1), (132, .lastore, 1), (133, .iinc 5 1, 3), (136, .goto (-56), 3), (139, .iinc 3 1, 3), (142, .goto (-93), 3), (145, .iinc 2 1, 3), (148, .goto (-109), 3), (151, .return_, 1)]
def k_M_reachBut : List (Nat × Instr × Nat) := [(0, .aload_n 0, 1), (1, .iload_n 1, 1), (2, .invokevirtual 378, 3), (5, .iconst 0, 1), (6, .istore_n 2, 1), (7, .aload_n 0, 1), (8, .getfield 13, 3), (11, .bipush 22, 2), (13, .iaload, 1), (14, .istore_n 3, 1), (15, .iload_n 3, 1), (16, .aload_n 0, 1), (17, .invokevirtual 343, 3), (20, .if_icmp .gt 45, 3), (23, .iconst 0, 1), (24, .istore 4, 2), (26, .iload 4, 2), (28, .bipush 12, 2), (30, .if_icmp .gt 29, 3), (33, .aload_n 0, 1), (34, .getfield 52, 3), (37, .iload_n 3, 1), (38, .iload 4, 2), (40, .invokestatic 340, 3), (43, .laload, 1), (44, .lconst 0, 1), (45, .lcmp, 1), (46, .ifCond .le 7, 3), (49, .iload_n 2, 1), (50, .iload_n 3, 1), (51, .ior, 1), (52, .istore_n 2, 1), (53, .iinc 4 1, 3), (56, .goto (-30), 3), (59, .iinc 3 1, 3), (62, .goto (-47), 3), (65, .iload_n 2, 1), (66, .aload_n 0, 1), (67, .getfield 13, 3), (70, .bipush 22, 2), (72, .iaload, 1), (73, .iconst (-1), 1), (74, .ixor, 1), (75, .iand, 1), (76, .ireturn, 1)]
def k_M_reach : List (Nat × Instr × Nat) := [(0, .aload_n 0, 1), (1, .iconst 0, 1), (2, .putfield 1, 3), (5, .aload_n 0, 1), (6, .iload_n 1, 1), (7, .i2l, 1), (8, .invokevirtual 256, 3), (11, .ifCond .ne 6, 3), (14, .bipush (-2), 2), (16, .ireturn, 1), (17, .aload_n 0, 1), (18, .iload_n 1, 1), (19, .aload_n 0, 1), (20, .getfield 40, 3), (23, .invokevirtual 362, 3), (26, .aload_n 0, 1), (27, .iconst (-1), 1), (28, .invokevirtual 381, 3), (31, .ireturn, 1)]
def k_M_ahead : List (Nat × Instr × Nat) := [(0, .aload_n 0, 1), (1, .iconst 0, 1), (2, .putfield 1, 3), (5, .aload_n 0, 1), (6, .iload_n 1, 1), (7, .iload_n 2, 1), (8, .invokevirtual 369, 3), (11, .istore_n 3, 1), (12, .iload_n 3, 1), (13, .ifCond .eq 5, 3), (16, .iload_n 3, 1), (17, .ireturn, 1), (18, .aload_n 0, 1), (19, .iload_n 1, 1), (20, .aload_n 0, 1), (21, .getfield 40, 3), (24, .invokevirtual 362, 3), (27, .iconst 0, 1), (28, .istore 4, 2), (30, .aload_n 0, 1), (31, .iconst (-1), 1), (32, .invokevirtual 381, 3), (35, .i2l, 1), (36, .iload_n 2, 1), (37, .invokestatic 210, 3), (40, .ifCond .ne 6, 3), (43, .iload 4, 2), (45, .ireturn, 1), (46, .iconst 0, 1), (47, .istore 5, 2), (49, .iload 5, 2), (51, .aload_n 0, 1), (52, .invokevirtual 204, 3), (55, .if_icmp .ge 54, 3), (58, .iload 5, 2), (60, .iload_n 2, 1), (61, .if_icmp .eq 42, 3), (64, .aload_n 0, 1), (65, .getfield 13, 3), (68, .bipush 22, 2), (70, .iaload, 1), (71, .i2l, 1), (72, .iload 5, 2), (74, .invokestatic 210, 3), (77, .ifCond .ne 26, 3), (80, .aload_n 0, 1), (81, .iload 5, 2), (83, .invokevirtual 381, 3), (86, .i2l, 1), (87, .iload_n 2, 1), (88, .invokestatic 210, 3), (91, .ifCond .ne 12, 3), (94, .iload 4, 2), (96, .iconst 1, 1), (97, .iload 5, 2), (99, .ishl, 1), (100, .ior, 1), (101, .istore 4, 2), (103, .iinc 5 1, 3), (106, .goto (-57), 3), (109, .iload 4, 2), (111, .ireturn, 1)]
def k_M_rows : List (Nat × Instr × Nat) := [(0, .aload_n 0, 1), (1, .iconst 0, 1), (2, .putfield 1, 3), (5, .aload_n 0, 1), (6, .iload_n 1, 1), (7, .i2l, 1), (8, .invokevirtual 256, 3), (11, .ifCond .ne 7, 3), (14, .ldc2_w 384, 3), (17, .lreturn, 1), (18, .iload_n 2, 1), (19, .i2l, 1), (20, .lconst 0, 1), (21, .ldc2_w 386, 3), (24, .invokestatic 137, 3), (27, .ifCond .ne 7, 3), (30, .ldc2_w 388, 3), (33, .lreturn, 1), (34, .aload_n 0, 1), (35, .iload_n 1, 1), (36, .aload_n 0, 1), (37, .getfield 40, 3), (40, .invokevirtual 362, 3), (43, .aload_n 0, 1), (44, .iconst (-1), 1), (45, .invokevirtual 378, 3), (48, .lconst 0, 1), (49, .lstore_n 3, 1), (50, .iconst 0, 1), (51, .istore 5, 2), (53, .iload 5, 2), (55, .ldc 39, 2), (57, .if_icmp .ge 46, 3), (60, .lload_n 3, 1), (61, .iload 5, 2), (63, .bipush 13, 2), (65, .idiv, 1), (66, .invokestatic 224, 3), (69, .iload_n 2, 1), (70, .aload_n 0, 1), (71, .getfield 13, 3), (74, .bipush 22, 2), (76, .iaload, 1), (77, .invokestatic 224, 3), (80, .iadd, 1), (81, .if_icmp .ne 13, 3), (84, .aload_n 0, 1), (85, .getfield 52, 3), (88, .iload 5, 2), (90, .laload, 1), (91, .goto 4, 3), (94, .lconst 0, 1), (95, .ladd, 1), (96, .lstore_n 3, 1), (97, .iinc 5 1, 3), (100, .goto (-47), 3), (103, .lload_n 3, 1), (104, .lreturn, 1)]
def k_M_ends : List (Nat × Instr × Nat) := [(0, .aload_n 0, 1), (1, .iconst 0, 1), (2, .putfield 1, 3), (5, .aload_n 0, 1), (6, .iload_n 1, 1), (7, .i2l, 1), (8, .invokevirtual 256, 3), (11, .ifCond .ne 7, 3), (14, .ldc2_w 384, 3), (17, .lreturn, 1), (18, .aload_n 0, 1), (19, .iload_n 1, 1), (20, .aload_n 0, 1), (21, .getfield 40, 3), (24, .invokevirtual 362, 3), (27, .aload_n 0, 1), (28, .iconst (-1), 1), (29, .invokevirtual 378, 3), (32, .lconst 0, 1), (33, .lstore_n 2, 1), (34, .iconst 0, 1), (35, .istore 4, 2), (37, .iload 4, 2), (39, .ldc 39, 2), (41, .if_icmp .ge 45, 3), (44, .lload_n 2, 1), (45, .aload_n 0, 1), (46, .getfield 52, 3), (49, .iload 4, 2), (51, .laload, 1), (52, .lconst 0, 1), (53, .lcmp, 1), (54, .ifCond .le 23, 3), (57, .aload_n 0, 1), (58, .getfield 40, 3), (61, .iload 4, 2), (63, .iaload, 1), (64, .ifCond .ne 13, 3), (67, .aload_n 0, 1), (68, .getfield 52, 3), (71, .iload 4, 2), (73, .laload, 1), (74, .goto 4, 3), (77, .lconst 0, 1), (78, .ladd, 1), (79, .lstore_n 2, 1), (80, .iinc 4 1, 3), (83, .goto (-46), 3), (86, .lload_n 2, 1), (87, .lreturn, 1)]
def k_M_common : List (Nat × Instr × Nat) := [(0, .iload_n 1, 1), (1, .ifCond .ne 7, 3), (4, .iload_n 0, 1), (5, .goto 10, 3), (8, .iload_n 1, 1), (9, .iload_n 0, 1), (10, .iload_n 1, 1), (11, .irem, 1), (12, .invokestatic 390, 3), (15, .ireturn, 1)]
def k_M_part : List (Nat × Instr × Nat) := [(0, .iload_n 2, 1), (1, .ifCond .ne 7, 3), (4, .iload_n 0, 1), (5, .goto 4, 3), (8, .iload_n 1, 1), (9, .iload_n 0, 1), (10, .iload_n 1, 1), (11, .invokestatic 390, 3), (14, .idiv, 1), (15, .ireturn, 1)]
def k_M_likely : List (Nat × Instr × Nat) := [(0, .aload_n 0, 1), (1, .iconst 0, 1), (2, .putfield 1, 3), (5, .aload_n 0, 1), (6, .iload_n 1, 1), (7, .i2l, 1), (8, .invokevirtual 249, 3), (11, .ifCond .eq 13, 3), (14, .iload_n 2, 1), (15, .i2l, 1), (16, .lconst 0, 1), (17, .lconst 1, 1), (18, .invokestatic 137, 3), (21, .ifCond .ne 6, 3), (24, .bipush (-2), 2), (26, .ireturn, 1), (27, .aload_n 0, 1), (28, .invokevirtual 393, 3), (31, .ifCond .ne 7, 3), (34, .iconst (-1), 1), (35, .goto 16, 3), (38, .aload_n 0, 1), (39, .iload_n 1, 1), (40, .invokevirtual 234, 3), (43, .aload_n 0, 1), (44, .invokevirtual 393, 3), (47, .iload_n 2, 1), (48, .invokestatic 396, 3), (51, .ireturn, 1)]
def k_M_laysSafest : List (Nat × Instr × Nat) := [(0, .aload_n 0, 1), (1, .getfield 13, 3), (4, .bipush 22, 2), (6, .iaload, 1), (7, .invokestatic 224, 3), (10, .iload_n 1, 1), (11, .iadd, 1), (12, .istore_n 2, 1), (13, .aload_n 0, 1), (14, .invokevirtual 343, 3), (17, .istore_n 3, 1), (18, .iload_n 3, 1), (19, .aload_n 0, 1), (20, .getfield 13, 3), (23, .bipush 22, 2), (25, .iaload, 1), (26, .if_icmp .lt 142, 3), (29, .iconst 0, 1), (30, .istore 4, 2), (32, .iload 4, 2), (34, .bipush 12, 2), (36, .if_icmp .gt 126, 3), (39, .aload_n 0, 1), (40, .iload_n 3, 1), (41, .iload 4, 2), (43, .invokevirtual 346, 3), (46, .ifCond .eq 110, 3), (49, .iload_n 3, 1), (50, .invokestatic 224, 3), (53, .iload_n 2, 1), (54, .if_icmp .le 6, 3), (57, .goto 99, 3), (60, .iload_n 3, 1), (61, .iload 4, 2), (63, .invokestatic 340, 3), (66, .istore 5, 2), (68, .iload_n 3, 1), (69, .invokestatic 224, 3), (72, .iload_n 2, 1), (73, .if_icmp .ne 7, 3), (76, .iconst 0, 1), (77, .goto 6, 3), (80, .ldc_w 399, 3), (83, .istore 6, 2), (85, .iconst 0, 1), (86, .istore 7, 2), (88, .iload 7, 2), (90, .aload_n 0, 1), (91, .invokevirtual 204, 3), (94, .if_icmp .ge 53, 3), (97, .iload 6, 2), (99, .ifCond .le 48, 3), (102, .aload_n 0, 1), (103, .getfield 40, 3), (106, .iload 5, 2), (108, .iaload, 1), (109, .i2l, 1), (110, .iload 7, 2), (112, .invokestatic 210, 3), (115, .ifCond .eq 26, 3), (118, .aload_n 0, 1), (119, .iload 5, 2), (121, .iload 7, 2), (123, .invokevirtual 400, 3), (126, .iload 6, 2), (128, .if_icmp .ge 13, 3), (131, .aload_n 0, 1), (132, .iload 5, 2), (134, .iload 7, 2), (136, .invokevirtual 400, 3), (139, .istore 6, 2), (141, .iinc 7 1, 3), (144, .goto (-56), 3), (147, .aload_n 0, 1), (148, .getfield 46, 3), (151, .iload 5, 2), (153, .iload 6, 2), (155, .iastore, 1), (156, .iinc 4 1, 3), (159, .goto (-127), 3), (162, .iinc 3 (-1), 3), (165, .goto (-147), 3), (168, .aload_n 0, 1), (169, .getfield 46, 3), (172, .aload_n 0, 1), (173, .invokevirtual 359, 3), (176, .iaload, 1), (177, .ireturn, 1)]
def k_M_safeBy : List (Nat × Instr × Nat) := [(0, .aload_n 0, 1), (1, .getfield 46, 3), (4, .iload_n 1, 1), (5, .iload_n 2, 1), (6, .invokestatic 349, 3), (9, .iaload, 1), (10, .istore_n 3, 1), (11, .iload_n 3, 1), (12, .ldc_w 399, 3), (15, .if_icmp .ne 9, 3), (18, .ldc_w 399, 3), (21, .goto 11, 3), (24, .aload_n 0, 1), (25, .getfield 56, 3), (28, .iload_n 2, 1), (29, .iaload, 1), (30, .iload_n 3, 1), (31, .iadd, 1), (32, .ireturn, 1)]
def k_M_safest : List (Nat × Instr × Nat) := [(0, .aload_n 0, 1), (1, .iconst 0, 1), (2, .putfield 1, 3), (5, .aload_n 0, 1), (6, .iload_n 1, 1), (7, .i2l, 1), (8, .invokevirtual 256, 3), (11, .ifCond .eq 27, 3), (14, .iload_n 3, 1), (15, .i2l, 1), (16, .lconst 0, 1), (17, .lconst 1, 1), (18, .invokestatic 137, 3), (21, .ifCond .ne 20, 3), (24, .iload_n 3, 1), (25, .i2l, 1), (26, .ldc2_w 290, 3), (29, .ldc2_w 403, 3), (32, .invokestatic 137, 3), (35, .ifCond .ne 6, 3), (38, .bipush (-2), 2), (40, .ireturn, 1), (41, .iload_n 2, 1), (42, .i2l, 1), (43, .lconst 0, 1), (44, .ldc2_w 386, 3), (47, .invokestatic 137, 3), (50, .ifCond .ne 6, 3), (53, .bipush (-3), 2), (55, .ireturn, 1), (56, .aload_n 0, 1), (57, .invokevirtual 393, 3), (60, .istore 4, 2), (62, .iload 4, 2), (64, .ifCond .eq 11, 3), (67, .iload_n 2, 1), (68, .aload_n 0, 1), (69, .invokevirtual 275, 3), (72, .if_icmp .le 5, 3), (75, .iconst (-1), 1), (76, .ireturn, 1), (77, .iconst 0, 1), (78, .istore 5, 2), (80, .iload 5, 2), (82, .aload_n 0, 1), (83, .invokevirtual 204, 3), (86, .if_icmp .ge 22, 3), (89, .aload_n 0, 1), (90, .getfield 56, 3), (93, .iload 5, 2), (95, .aload_n 0, 1), (96, .iload 5, 2), (98, .invokevirtual 234, 3), (101, .iastore, 1), (102, .iinc 5 1, 3), (105, .goto (-25), 3), (108, .aload_n 0, 1), (109, .iload_n 1, 1), (110, .aload_n 0, 1), (111, .getfield 40, 3), (114, .invokevirtual 362, 3), (117, .aload_n 0, 1), (118, .iload_n 2, 1), (119, .invokevirtual 405, 3), (122, .istore 5, 2), (124, .iload 5, 2), (126, .ldc_w 399, 3), (129, .if_icmp .ne 5, 3), (132, .iconst (-1), 1), (133, .ireturn, 1), (134, .iload_n 3, 1), (135, .iconst 2, 1), (136, .if_icmp .ge 15, 3), (139, .iload 4, 2), (141, .iload 5, 2), (143, .isub, 1), (144, .iload 4, 2), (146, .iload_n 3, 1), (147, .invokestatic 396, 3), (150, .ireturn, 1), (151, .aload_n 0, 1), (152, .invokevirtual 359, 3), (155, .istore 6, 2), (157, .iconst 0, 1), (158, .istore 7, 2), (160, .iload 7, 2), (162, .iload_n 2, 1), (163, .if_icmp .ge 73, 3), (166, .iconst 0, 1), (167, .istore 8, 2), (169, .aload_n 0, 1), (170, .getfield 40, 3), (173, .iload 6, 2), (175, .iaload, 1), (176, .i2l, 1), (177, .iload 8, 2), (179, .invokestatic 210, 3), (182, .ifCond .eq 21, 3), (185, .aload_n 0, 1), (186, .iload 6, 2), (188, .iload 8, 2), (190, .invokevirtual 400, 3), (193, .aload_n 0, 1), (194, .getfield 46, 3), (197, .iload 6, 2), (199, .iaload, 1), (200, .if_icmp .eq 9, 3), (203, .iinc 8 1, 3), (206, .goto (-37), 3), (209, .iload 7, 2), (211, .iload_n 3, 1), (212, .bipush 10, 2), (214, .isub, 1), (215, .if_icmp .ne 6, 3), (218, .iload 8, 2), (220, .ireturn, 1), (221, .iload 6, 2), (223, .iload 8, 2), (225, .invokestatic 349, 3), (228, .istore 6, 2), (230, .iinc 7 1, 3), (233, .goto (-73), 3), (236, .iconst (-1), 1), (237, .ireturn, 1)]
def k_M_likeliest : List (Nat × Instr × Nat) := [(0, .aload_n 0, 1), (1, .iconst 0, 1), (2, .putfield 1, 3), (5, .iconst (-1), 1), (6, .istore_n 1, 1), (7, .iconst 0, 1), (8, .istore_n 2, 1), (9, .iconst 0, 1), (10, .istore_n 3, 1), (11, .iload_n 3, 1), (12, .aload_n 0, 1), (13, .invokevirtual 204, 3), (16, .if_icmp .ge 29, 3), (19, .aload_n 0, 1), (20, .iload_n 3, 1), (21, .invokevirtual 234, 3), (24, .iload_n 2, 1), (25, .if_icmp .gt 6, 3), (28, .goto 11, 3), (31, .iload_n 3, 1), (32, .istore_n 1, 1), (33, .aload_n 0, 1), (34, .iload_n 3, 1), (35, .invokevirtual 234, 3), (38, .istore_n 2, 1), (39, .iinc 3 1, 3), (42, .goto (-31), 3), (45, .iload_n 1, 1), (46, .ireturn, 1)]
def k_M_gameBy : List (Nat × Instr × Nat) := [(0, .aload_n 0, 1), (1, .getfield 46, 3), (4, .iload_n 1, 1), (5, .iload_n 2, 1), (6, .invokestatic 349, 3), (9, .iaload, 1), (10, .ireturn, 1)]
def k_M_gameAt : List (Nat × Instr × Nat) := [(0, .iload_n 2, 1), (1, .ifCond .ne 14, 3), (4, .iload_n 3, 1), (5, .iconst 1, 1), (6, .if_icmp .ne 7, 3), (9, .iconst 0, 1), (10, .goto 4, 3), (13, .iconst (-1), 1), (14, .ireturn, 1), (15, .ldc_w 399, 3), (18, .istore 4, 2), (20, .iconst 0, 1), (21, .istore 5, 2), (23, .iconst 0, 1), (24, .istore 6, 2), (26, .iload 6, 2), (28, .aload_n 0, 1), (29, .invokevirtual 204, 3), (32, .if_icmp .ge 77, 3), (35, .iload_n 2, 1), (36, .i2l, 1), (37, .iload 6, 2), (39, .invokestatic 210, 3), (42, .ifCond .ne 6, 3), (45, .goto 58, 3), (48, .aload_n 0, 1), (49, .iload_n 1, 1), (50, .iload 6, 2), (52, .invokevirtual 408, 3), (55, .istore 7, 2), (57, .iload 7, 2), (59, .ifCond .ge 24, 3), (62, .iload 7, 2), (64, .ineg, 1), (65, .iload 4, 2), (67, .if_icmp .ge 9, 3), (70, .iload 7, 2), (72, .ineg, 1), (73, .goto 5, 3), (76, .iload 4, 2), (78, .istore 4, 2), (80, .goto 23, 3), (83, .iload 7, 2), (85, .iconst 1, 1), (86, .iadd, 1), (87, .iload 5, 2), (89, .if_icmp .le 10, 3), (92, .iload 7, 2), (94, .iconst 1, 1), (95, .iadd, 1), (96, .goto 5, 3), (99, .iload 5, 2), (101, .istore 5, 2), (103, .iinc 6 1, 3), (106, .goto (-80), 3), (109, .iload 4, 2), (111, .ldc_w 399, 3), (114, .if_icmp .ge 8, 3), (117, .iload 4, 2), (119, .goto 8, 3), (122, .iload 5, 2), (124, .ineg, 1), (125, .iconst 1, 1), (126, .isub, 1), (127, .ireturn, 1)]
def k_M_mayAt : List (Nat × Instr × Nat) := [(0, .iload_n 1, 1), (1, .bipush 13, 2), (3, .idiv, 1), (4, .aload_n 0, 1), (5, .getfield 13, 3), (8, .bipush 22, 2), (10, .iaload, 1), (11, .iconst (-1), 1), (12, .ixor, 1), (13, .iand, 1), (14, .invokestatic 224, 3), (17, .iconst 2, 1), (18, .irem, 1), (19, .ifCond .ne 12, 3), (22, .aload_n 0, 1), (23, .getfield 40, 3), (26, .iload_n 1, 1), (27, .iaload, 1), (28, .goto 9, 3), (31, .aload_n 0, 1), (32, .getfield 43, 3), (35, .iload_n 1, 1), (36, .iaload, 1), (37, .ireturn, 1)]
def k_M_laysGame : List (Nat × Instr × Nat) := [(0, .aload_n 0, 1), (1, .iload_n 1, 1), (2, .aload_n 0, 1), (3, .getfield 40, 3), (6, .invokevirtual 362, 3), (9, .aload_n 0, 1), (10, .iload_n 2, 1), (11, .aload_n 0, 1), (12, .getfield 43, 3), (15, .invokevirtual 362, 3), (18, .aload_n 0, 1), (19, .invokevirtual 343, 3), (22, .istore 4, 2), (24, .iload 4, 2), (26, .aload_n 0, 1), (27, .getfield 13, 3), (30, .bipush 22, 2), (32, .iaload, 1), (33, .if_icmp .lt 65, 3), (36, .iconst 0, 1), (37, .istore 5, 2), (39, .iload 5, 2), (41, .bipush 12, 2), (43, .if_icmp .gt 49, 3), (46, .iload 4, 2), (48, .iload 5, 2), (50, .invokestatic 340, 3), (53, .istore 6, 2), (55, .aload_n 0, 1), (56, .iload 4, 2), (58, .iload 5, 2), (60, .invokevirtual 346, 3), (63, .ifCond .eq 23, 3), (66, .aload_n 0, 1), (67, .getfield 46, 3), (70, .iload 6, 2), (72, .aload_n 0, 1), (73, .iload 6, 2), (75, .aload_n 0, 1), (76, .iload 6, 2), (78, .invokevirtual 411, 3), (81, .iload_n 3, 1), (82, .invokevirtual 414, 3), (85, .iastore, 1), (86, .iinc 5 1, 3), (89, .goto (-50), 3), (92, .iinc 4 (-1), 3), (95, .goto (-71), 3), (98, .aload_n 0, 1), (99, .getfield 46, 3), (102, .aload_n 0, 1), (103, .invokevirtual 359, 3), (106, .iaload, 1), (107, .ireturn, 1)]
def k_M_isGame : List (Nat × Instr × Nat) := [(0, .aload_n 0, 1), (1, .iload_n 1, 1), (2, .i2l, 1), (3, .invokevirtual 256, 3), (6, .ifCond .eq 26, 3), (9, .aload_n 0, 1), (10, .iload_n 2, 1), (11, .i2l, 1), (12, .invokevirtual 256, 3), (15, .ifCond .eq 17, 3), (18, .iload_n 3, 1), (19, .i2l, 1), (20, .lconst 0, 1), (21, .lconst 1, 1), (22, .invokestatic 137, 3), (25, .ifCond .eq 7, 3), (28, .iconst 1, 1), (29, .goto 4, 3), (32, .iconst 0, 1), (33, .ireturn, 1)]
def k_M_wins : List (Nat × Instr × Nat) := [(0, .aload_n 0, 1), (1, .iconst 0, 1), (2, .putfield 1, 3), (5, .aload_n 0, 1), (6, .iload_n 1, 1), (7, .iload_n 2, 1), (8, .iload_n 3, 1), (9, .invokevirtual 417, 3), (12, .ifCond .ne 8, 3), (15, .bipush (-2), 2), (17, .goto 18, 3), (20, .aload_n 0, 1), (21, .iload_n 1, 1), (22, .iload_n 2, 1), (23, .iload_n 3, 1), (24, .invokevirtual 421, 3), (27, .ifCond .lt 7, 3), (30, .iconst 1, 1), (31, .goto 4, 3), (34, .iconst 0, 1), (35, .ireturn, 1)]
def k_M_best : List (Nat × Instr × Nat) := [(0, .aload_n 0, 1), (1, .iconst 0, 1), (2, .putfield 1, 3), (5, .aload_n 0, 1), (6, .iload_n 1, 1), (7, .iload_n 2, 1), (8, .iload_n 3, 1), (9, .invokevirtual 417, 3), (12, .ifCond .ne 6, 3), (15, .bipush (-2), 2), (17, .ireturn, 1), (18, .aload_n 0, 1), (19, .iload_n 1, 1), (20, .iload_n 2, 1), (21, .iload_n 3, 1), (22, .invokevirtual 421, 3), (25, .pop, 1), (26, .iconst 0, 1), (27, .istore 4, 2), (29, .iload 4, 2), (31, .aload_n 0, 1), (32, .invokevirtual 204, 3), (35, .if_icmp .ge 43, 3), (38, .aload_n 0, 1), (39, .getfield 40, 3), (42, .aload_n 0, 1), (43, .invokevirtual 359, 3), (46, .iaload, 1), (47, .i2l, 1), (48, .iload 4, 2), (50, .invokestatic 210, 3), (53, .ifCond .eq 19, 3), (56, .aload_n 0, 1), (57, .aload_n 0, 1), (58, .invokevirtual 359, 3), (61, .iload 4, 2), (63, .invokevirtual 408, 3), (66, .ifCond .ge 6, 3), (69, .iload 4, 2), (71, .ireturn, 1), (72, .iinc 4 1, 3), (75, .goto (-46), 3), (78, .iconst (-1), 1), (79, .ireturn, 1)]
def k_M_lasts : List (Nat × Instr × Nat) := [(0, .aload_n 0, 1), (1, .iconst 0, 1), (2, .putfield 1, 3), (5, .aload_n 0, 1), (6, .iload_n 1, 1), (7, .iload_n 2, 1), (8, .iload_n 3, 1), (9, .invokevirtual 417, 3), (12, .ifCond .ne 6, 3), (15, .bipush (-2), 2), (17, .ireturn, 1), (18, .aload_n 0, 1), (19, .iload_n 1, 1), (20, .iload_n 2, 1), (21, .iload_n 3, 1), (22, .invokevirtual 421, 3), (25, .istore 4, 2), (27, .iload 4, 2), (29, .ifCond .lt 8, 3), (32, .iload 4, 2), (34, .goto 8, 3), (37, .iload 4, 2), (39, .ineg, 1), (40, .iconst 1, 1), (41, .isub, 1), (42, .ireturn, 1)]
def k_M_noSeen : List (Nat × Instr × Nat) := [(0, .aload_n 0, 1), (1, .iload_n 1, 1), (2, .invokevirtual 319, 3), (5, .istore_n 2, 1), (6, .iload_n 2, 1), (7, .ifCond .eq 5, 3), (10, .iload_n 2, 1), (11, .ireturn, 1), (12, .aload_n 0, 1), (13, .getfield 65, 3), (16, .iload_n 1, 1), (17, .iaload, 1), (18, .i2l, 1), (19, .lconst 1, 1), (20, .ldc2_w 386, 3), (23, .invokestatic 137, 3), (26, .ifCond .ne 6, 3), (29, .bipush (-4), 2), (31, .ireturn, 1), (32, .aload_n 0, 1), (33, .getfield 13, 3), (36, .bipush 22, 2), (38, .iaload, 1), (39, .istore_n 3, 1), (40, .iconst 0, 1), (41, .istore 4, 2), (43, .iload 4, 2), (45, .aload_n 0, 1), (46, .getfield 65, 3), (49, .iload_n 1, 1), (50, .iaload, 1), (51, .if_icmp .ge 54, 3), (54, .aload_n 0, 1), (55, .getfield 68, 3), (58, .bipush 40, 2), (60, .iload_n 1, 1), (61, .imul, 1), (62, .iload 4, 2), (64, .iadd, 1), (65, .laload, 1), (66, .lstore 5, 2), (68, .aload_n 0, 1), (69, .lload 5, 2), (71, .invokevirtual 249, 3), (74, .ifCond .eq 14, 3), (77, .iload_n 3, 1), (78, .i2l, 1), (79, .lload 5, 2), (81, .l2i, 1), (82, .invokestatic 210, 3), (85, .ifCond .eq 6, 3), (88, .bipush (-3), 2), (90, .ireturn, 1), (91, .iload_n 3, 1), (92, .iconst 1, 1), (93, .lload 5, 2), (95, .l2i, 1), (96, .ishl, 1), (97, .ior, 1), (98, .istore_n 3, 1), (99, .iinc 4 1, 3), (102, .goto (-59), 3), (105, .iconst 0, 1), (106, .ireturn, 1)]
def k_M_noSeenBy : List (Nat × Instr × Nat) := [(0, .iload_n 1, 1), (1, .i2l, 1), (2, .lconst 0, 1), (3, .ldc2_w 317, 3), (6, .invokestatic 137, 3), (9, .ifCond .eq 12, 3), (12, .aload_n 0, 1), (13, .iload_n 2, 1), (14, .i2l, 1), (15, .invokevirtual 256, 3), (18, .ifCond .ne 8, 3), (21, .bipush (-2), 2), (23, .goto 8, 3), (26, .aload_n 0, 1), (27, .iload_n 1, 1), (28, .invokevirtual 424, 3), (31, .ireturn, 1)]
def k_M_mayAs : List (Nat × Instr × Nat) := [(0, .aload_n 0, 1), (1, .getfield 13, 3), (4, .bipush 22, 2), (6, .iaload, 1), (7, .istore 4, 2), (9, .aload_n 0, 1), (10, .getfield 13, 3), (13, .bipush 23, 2), (15, .iaload, 1), (16, .istore 5, 2), (18, .iconst 0, 1), (19, .istore 6, 2), (21, .iload 6, 2), (23, .iload_n 3, 1), (24, .if_icmp .ge 33, 3), (27, .aload_n 0, 1), (28, .getfield 68, 3), (31, .bipush 40, 2), (33, .iload_n 1, 1), (34, .imul, 1), (35, .iload 6, 2), (37, .iadd, 1), (38, .laload, 1), (39, .l2i, 1), (40, .istore 5, 2), (42, .iload 4, 2), (44, .iconst 1, 1), (45, .iload 5, 2), (47, .ishl, 1), (48, .ior, 1), (49, .istore 4, 2), (51, .iinc 6 1, 3), (54, .goto (-33), 3), (57, .aload_n 0, 1), (58, .iload_n 2, 1), (59, .aload_n 0, 1), (60, .getfield 68, 3), (63, .bipush 40, 2), (65, .iload_n 1, 1), (66, .imul, 1), (67, .iload_n 3, 1), (68, .iadd, 1), (69, .laload, 1), (70, .l2i, 1), (71, .iload 4, 2), (73, .iload 5, 2), (75, .invokevirtual 241, 3), (78, .ireturn, 1)]
def k_M_habitsOf : List (Nat × Instr × Nat) := [(0, .aload_n 0, 1), (1, .getfield 13, 3), (4, .bipush 25, 2), (6, .iload_n 2, 1), (7, .iadd, 1), (8, .iaload, 1), (9, .istore_n 3, 1), (10, .iconst 0, 1), (11, .istore 4, 2), (13, .iconst 0, 1), (14, .istore 5, 2), (16, .iload 5, 2), (18, .bipush 10, 2), (20, .if_icmp .ge 76, 3), (23, .aload_n 0, 1), (24, .getfield 13, 3), (27, .bipush 25, 2), (29, .iload_n 2, 1), (30, .iadd, 1), (31, .iload 5, 2), (33, .iastore, 1), (34, .iconst 1, 1), (35, .istore 6, 2), (37, .iconst 0, 1), (38, .istore 7, 2), (40, .iload 7, 2), (42, .aload_n 0, 1), (43, .getfield 65, 3), (46, .iload_n 1, 1), (47, .iaload, 1), (48, .if_icmp .ge 24, 3), (51, .iload 6, 2), (53, .ifCond .eq 19, 3), (56, .aload_n 0, 1), (57, .iload_n 1, 1), (58, .iload_n 2, 1), (59, .iload 7, 2), (61, .invokevirtual 427, 3), (64, .istore 6, 2), (66, .iinc 7 1, 3), (69, .goto (-29), 3), (72, .iload 4, 2), (74, .iload 6, 2), (76, .ifCond .eq 10, 3), (79, .iconst 1, 1), (80, .iload 5, 2), (82, .ishl, 1), (83, .goto 4, 3), (86, .iconst 0, 1), (87, .ior, 1), (88, .istore 4, 2), (90, .iinc 5 1, 3), (93, .goto (-77), 3), (96, .aload_n 0, 1), (97, .getfield 13, 3), (100, .bipush 25, 2), (102, .iload_n 2, 1), (103, .iadd, 1), (104, .iload_n 3, 1), (105, .iastore, 1), (106, .iload 4, 2), (108, .ireturn, 1)]
def k_M_habits : List (Nat × Instr × Nat) := [(0, .aload_n 0, 1), (1, .iconst 0, 1), (2, .putfield 1, 3), (5, .aload_n 0, 1), (6, .iload_n 1, 1), (7, .iload_n 2, 1), (8, .invokevirtual 430, 3), (11, .istore_n 3, 1), (12, .iload_n 3, 1), (13, .ifCond .eq 7, 3), (16, .iload_n 3, 1), (17, .goto 9, 3), (20, .aload_n 0, 1), (21, .iload_n 1, 1), (22, .iload_n 2, 1), (23, .invokevirtual 433, 3), (26, .ireturn, 1)]
def k_M_mayBy : List (Nat × Instr × Nat) := [(0, .aload_n 0, 1), (1, .getfield 13, 3), (4, .bipush 25, 2), (6, .iload_n 1, 1), (7, .iadd, 1), (8, .iaload, 1), (9, .istore 4, 2), (11, .iconst 0, 1), (12, .istore 5, 2), (14, .iconst 0, 1), (15, .istore 6, 2), (17, .iload 6, 2), (19, .bipush 10, 2), (21, .if_icmp .ge 63, 3), (24, .aload_n 0, 1), (25, .getfield 13, 3), (28, .bipush 25, 2), (30, .iload_n 1, 1), (31, .iadd, 1), (32, .iload 6, 2), (34, .iastore, 1), (35, .iload 5, 2), (37, .iload_n 3, 1), (38, .i2l, 1), (39, .iload 6, 2), (41, .invokestatic 210, 3), (44, .ifCond .eq 30, 3), (47, .aload_n 0, 1), (48, .iload_n 1, 1), (49, .iload_n 2, 1), (50, .aload_n 0, 1), (51, .getfield 13, 3), (54, .bipush 22, 2), (56, .iaload, 1), (57, .aload_n 0, 1), (58, .getfield 13, 3), (61, .bipush 23, 2), (63, .iaload, 1), (64, .invokevirtual 241, 3), (67, .ifCond .eq 7, 3), (70, .iconst 1, 1), (71, .goto 4, 3), (74, .iconst 0, 1), (75, .iadd, 1), (76, .istore 5, 2), (78, .iinc 6 1, 3), (81, .goto (-64), 3), (84, .aload_n 0, 1), (85, .getfield 13, 3), (88, .bipush 25, 2), (90, .iload_n 1, 1), (91, .iadd, 1), (92, .iload 4, 2), (94, .iastore, 1), (95, .iload 5, 2), (97, .ireturn, 1)]
def k_M_look : List (Nat × Instr × Nat) := [(0, .aload_n 0, 1), (1, .iconst 0, 1), (2, .putfield 1, 3), (5, .aload_n 0, 1), (6, .iload_n 1, 1), (7, .iload_n 2, 1), (8, .invokevirtual 430, 3), (11, .istore_n 3, 1), (12, .iload_n 3, 1), (13, .ifCond .eq 5, 3), (16, .iload_n 3, 1), (17, .ireturn, 1), (18, .aload_n 0, 1), (19, .iload_n 1, 1), (20, .iload_n 2, 1), (21, .invokevirtual 433, 3), (24, .istore 4, 2), (26, .iconst (-1), 1), (27, .istore 5, 2), (29, .iconst (-1), 1), (30, .istore 6, 2), (32, .iconst 0, 1), (33, .istore 7, 2), (35, .iload 7, 2), (37, .aload_n 0, 1), (38, .invokevirtual 204, 3), (41, .if_icmp .ge 90, 3), (44, .iload 4, 2), (46, .ifCond .eq 85, 3), (49, .aload_n 0, 1), (50, .getfield 13, 3), (53, .bipush 22, 2), (55, .iaload, 1), (56, .i2l, 1), (57, .iload 7, 2), (59, .invokestatic 210, 3), (62, .ifCond .eq 6, 3), (65, .goto 60, 3), (68, .aload_n 0, 1), (69, .iload_n 2, 1), (70, .iload 7, 2), (72, .iload 4, 2), (74, .invokevirtual 436, 3), (77, .istore 8, 2), (79, .iload 8, 2), (81, .iload 4, 2), (83, .invokestatic 224, 3), (86, .iload 8, 2), (88, .isub, 1), (89, .if_icmp .ge 8, 3), (92, .iload 8, 2), (94, .goto 11, 3), (97, .iload 4, 2), (99, .invokestatic 224, 3), (102, .iload 8, 2), (104, .isub, 1), (105, .istore 8, 2), (107, .iload 8, 2), (109, .iload 6, 2), (111, .if_icmp .gt 6, 3), (114, .goto 11, 3), (117, .iload 7, 2), (119, .istore 5, 2), (121, .iload 8, 2), (123, .istore 6, 2), (125, .iinc 7 1, 3), (128, .goto (-93), 3), (131, .iload 5, 2), (133, .ireturn, 1)]
def k_M_handsAs : List (Nat × Instr × Nat) := [(0, .iconst 0, 1), (1, .istore_n 3, 1), (2, .iconst 0, 1), (3, .istore 4, 2), (5, .iload 4, 2), (7, .aload_n 0, 1), (8, .getfield 13, 3), (11, .iconst 3, 1), (12, .iaload, 1), (13, .if_icmp .ge 31, 3), (16, .iload_n 3, 1), (17, .aload_n 0, 1), (18, .iload_n 1, 1), (19, .iload 4, 2), (21, .iload_n 2, 1), (22, .invokevirtual 427, 3), (25, .ifCond .eq 10, 3), (28, .iconst 1, 1), (29, .iload 4, 2), (31, .ishl, 1), (32, .goto 4, 3), (35, .iconst 0, 1), (36, .ior, 1), (37, .istore_n 3, 1), (38, .iinc 4 1, 3), (41, .goto (-36), 3), (44, .iload_n 3, 1), (45, .ireturn, 1)]
def k_M_carried : List (Nat × Instr × Nat) := [(0, .aload_n 0, 1), (1, .iconst 0, 1), (2, .putfield 1, 3), (5, .aload_n 0, 1), (6, .iload_n 1, 1), (7, .invokevirtual 424, 3), (10, .istore_n 2, 1), (11, .iload_n 2, 1), (12, .ifCond .eq 6, 3), (15, .iload_n 2, 1), (16, .i2l, 1), (17, .lreturn, 1), (18, .lconst 1, 1), (19, .lstore_n 3, 1), (20, .iconst 0, 1), (21, .istore 5, 2), (23, .iload 5, 2), (25, .aload_n 0, 1), (26, .getfield 65, 3), (29, .iload_n 1, 1), (30, .iaload, 1), (31, .if_icmp .ge 23, 3), (34, .lload_n 3, 1), (35, .aload_n 0, 1), (36, .iload_n 1, 1), (37, .iload 5, 2), (39, .invokevirtual 439, 3), (42, .invokestatic 224, 3), (45, .i2l, 1), (46, .lmul, 1), (47, .lstore_n 3, 1), (48, .iinc 5 1, 3), (51, .goto (-28), 3), (54, .lload_n 3, 1), (55, .lreturn, 1)]
def k_M_fewBy : List (Nat × Instr × Nat) := [(0, .aload_n 0, 1), (1, .getfield 59, 3), (4, .iconst 4, 1), (5, .iload_n 1, 1), (6, .iconst 1, 1), (7, .iadd, 1), (8, .imul, 1), (9, .iload_n 3, 1), (10, .iadd, 1), (11, .iaload, 1), (12, .iload_n 3, 1), (13, .iload_n 2, 1), (14, .if_icmp .ne 7, 3), (17, .iconst 0, 1), (18, .goto 4, 3), (21, .iconst 1, 1), (22, .iadd, 1), (23, .ireturn, 1)]
def k_M_laysFew : List (Nat × Instr × Nat) := [(0, .aload_n 0, 1), (1, .getfield 65, 3), (4, .iload_n 1, 1), (5, .iaload, 1), (6, .iconst 1, 1), (7, .isub, 1), (8, .istore_n 2, 1), (9, .iload_n 2, 1), (10, .ifCond .lt 139, 3), (13, .aload_n 0, 1), (14, .iload_n 1, 1), (15, .iload_n 2, 1), (16, .invokevirtual 439, 3), (19, .istore_n 3, 1), (20, .iconst 0, 1), (21, .istore 4, 2), (23, .iload 4, 2), (25, .iconst 4, 1), (26, .if_icmp .ge 117, 3), (29, .iload_n 2, 1), (30, .aload_n 0, 1), (31, .getfield 65, 3), (34, .iload_n 1, 1), (35, .iaload, 1), (36, .iconst 1, 1), (37, .isub, 1), (38, .if_icmp .ne 7, 3), (41, .iconst 0, 1), (42, .goto 6, 3), (45, .ldc_w 399, 3), (48, .istore 5, 2), (50, .iconst 0, 1), (51, .istore 6, 2), (53, .iload 6, 2), (55, .iconst 4, 1), (56, .if_icmp .ge 44, 3), (59, .iload 5, 2), (61, .ifCond .le 39, 3), (64, .aload_n 0, 1), (65, .iload_n 2, 1), (66, .iload 4, 2), (68, .iload 6, 2), (70, .invokevirtual 442, 3), (73, .iload 5, 2), (75, .if_icmp .ge 15, 3), (78, .aload_n 0, 1), (79, .iload_n 2, 1), (80, .iload 4, 2), (82, .iload 6, 2), (84, .invokevirtual 442, 3), (87, .goto 5, 3), (90, .iload 5, 2), (92, .istore 5, 2), (94, .iinc 6 1, 3), (97, .goto (-44), 3), (100, .aload_n 0, 1), (101, .getfield 59, 3), (104, .iconst 4, 1), (105, .iload_n 2, 1), (106, .imul, 1), (107, .iload 4, 2), (109, .iadd, 1), (110, .iload_n 3, 1), (111, .i2l, 1), (112, .iload 4, 2), (114, .invokestatic 210, 3), (117, .ifCond .eq 16, 3), (120, .iload 5, 2), (122, .ldc_w 399, 3), (125, .if_icmp .ge 8, 3), (128, .iload 5, 2), (130, .goto 6, 3), (133, .ldc_w 399, 3), (136, .iastore, 1), (137, .iinc 4 1, 3), (140, .goto (-117), 3), (143, .iinc 2 (-1), 3), (146, .goto (-137), 3), (149, .return_, 1)]
def k_M_changes : List (Nat × Instr × Nat) := [(0, .aload_n 0, 1), (1, .iconst 0, 1), (2, .putfield 1, 3), (5, .iload_n 2, 1), (6, .ifCond .eq 20, 3), (9, .iload_n 2, 1), (10, .i2l, 1), (11, .ldc2_w 290, 3), (14, .ldc2_w 403, 3), (17, .invokestatic 137, 3), (20, .ifCond .ne 6, 3), (23, .bipush (-2), 2), (25, .ireturn, 1), (26, .aload_n 0, 1), (27, .iload_n 1, 1), (28, .invokevirtual 424, 3), (31, .istore_n 3, 1), (32, .iload_n 3, 1), (33, .ifCond .eq 5, 3), (36, .iload_n 3, 1), (37, .ireturn, 1), (38, .aload_n 0, 1), (39, .iload_n 1, 1), (40, .invokevirtual 445, 3), (43, .iconst (-1), 1), (44, .istore 4, 2), (46, .iconst 0, 1), (47, .istore 5, 2), (49, .iload 5, 2), (51, .iconst 4, 1), (52, .if_icmp .ge 49, 3), (55, .aload_n 0, 1), (56, .getfield 59, 3), (59, .iload 5, 2), (61, .iaload, 1), (62, .ldc_w 399, 3), (65, .if_icmp .ge 30, 3), (68, .iload 4, 2), (70, .iconst (-1), 1), (71, .if_icmp .eq 20, 3), (74, .aload_n 0, 1), (75, .getfield 59, 3), (78, .iload 5, 2), (80, .iaload, 1), (81, .aload_n 0, 1), (82, .getfield 59, 3), (85, .iload 4, 2), (87, .iaload, 1), (88, .if_icmp .ge 7, 3), (91, .iload 5, 2), (93, .istore 4, 2), (95, .iinc 5 1, 3), (98, .goto (-49), 3), (101, .iload 4, 2), (103, .iconst (-1), 1), (104, .if_icmp .eq 16, 3), (107, .iload_n 2, 1), (108, .bipush 10, 2), (110, .isub, 1), (111, .aload_n 0, 1), (112, .getfield 65, 3), (115, .iload_n 1, 1), (116, .iaload, 1), (117, .if_icmp .lt 5, 3), (120, .iconst (-1), 1), (121, .ireturn, 1), (122, .iload_n 2, 1), (123, .ifCond .ne 11, 3), (126, .aload_n 0, 1), (127, .getfield 59, 3), (130, .iload 4, 2), (132, .iaload, 1), (133, .ireturn, 1), (134, .iconst 0, 1), (135, .istore 5, 2), (137, .iload 5, 2), (139, .iload_n 2, 1), (140, .bipush 10, 2), (142, .isub, 1), (143, .if_icmp .ge 67, 3), (146, .iconst 0, 1), (147, .istore 6, 2), (149, .aload_n 0, 1), (150, .getfield 59, 3), (153, .iconst 4, 1), (154, .iload 5, 2), (156, .iconst 1, 1), (157, .iadd, 1), (158, .imul, 1), (159, .iload 6, 2), (161, .iadd, 1), (162, .iaload, 1), (163, .ldc_w 399, 3), (166, .if_icmp .ge 28, 3), (169, .aload_n 0, 1), (170, .iload 5, 2), (172, .iload 4, 2), (174, .iload 6, 2), (176, .invokevirtual 442, 3), (179, .aload_n 0, 1), (180, .getfield 59, 3), (183, .iconst 4, 1), (184, .iload 5, 2), (186, .imul, 1), (187, .iload 4, 2), (189, .iadd, 1), (190, .iaload, 1), (191, .if_icmp .eq 9, 3), (194, .iinc 6 1, 3), (197, .goto (-48), 3), (200, .iload 6, 2), (202, .istore 4, 2), (204, .iinc 5 1, 3), (207, .goto (-70), 3), (210, .iload 4, 2), (212, .ireturn, 1)]
def k_M_covers : List (Nat × Instr × Nat) := [(0, .aload_n 0, 1), (1, .iconst 0, 1), (2, .putfield 1, 3), (5, .iload_n 1, 1), (6, .i2l, 1), (7, .lconst 0, 1), (8, .ldc2_w 317, 3), (11, .invokestatic 137, 3), (14, .ifCond .eq 22, 3), (17, .aload_n 0, 1), (18, .iload_n 2, 1), (19, .i2l, 1), (20, .invokevirtual 249, 3), (23, .ifCond .eq 13, 3), (26, .iload_n 3, 1), (27, .i2l, 1), (28, .lconst 0, 1), (29, .lconst 1, 1), (30, .invokestatic 137, 3), (33, .ifCond .ne 6, 3), (36, .bipush (-2), 2), (38, .ireturn, 1), (39, .aload_n 0, 1), (40, .iload_n 1, 1), (41, .invokevirtual 319, 3), (44, .istore 4, 2), (46, .iload 4, 2), (48, .ifCond .eq 6, 3), (51, .iload 4, 2), (53, .ireturn, 1), (54, .aload_n 0, 1), (55, .getfield 65, 3), (58, .iload_n 1, 1), (59, .iaload, 1), (60, .i2l, 1), (61, .lconst 1, 1), (62, .ldc2_w 290, 3), (65, .invokestatic 137, 3), (68, .ifCond .ne 6, 3), (71, .bipush (-4), 2), (73, .ireturn, 1), (74, .iconst 0, 1), (75, .istore 5, 2), (77, .iload 5, 2), (79, .aload_n 0, 1), (80, .getfield 65, 3), (83, .iload_n 1, 1), (84, .iaload, 1), (85, .if_icmp .ge 36, 3), (88, .aload_n 0, 1), (89, .getfield 68, 3), (92, .bipush 40, 2), (94, .iload_n 1, 1), (95, .imul, 1), (96, .iload 5, 2), (98, .iadd, 1), (99, .laload, 1), (100, .lconst 0, 1), (101, .aload_n 0, 1), (102, .invokevirtual 343, 3), (105, .i2l, 1), (106, .invokestatic 137, 3), (109, .ifCond .ne 6, 3), (112, .bipush (-3), 2), (114, .ireturn, 1), (115, .iinc 5 1, 3), (118, .goto (-41), 3), (121, .iconst (-1), 1), (122, .istore 5, 2), (124, .iconst 0, 1), (125, .istore 6, 2), (127, .iload 6, 2), (129, .iconst 1, 1), (130, .aload_n 0, 1), (131, .getfield 65, 3), (134, .iload_n 1, 1), (135, .iaload, 1), (136, .ishl, 1), (137, .if_icmp .ge 103, 3), (140, .iconst 0, 1), (141, .istore 7, 2), (143, .iconst 0, 1), (144, .istore 8, 2), (146, .iload 8, 2), (148, .aload_n 0, 1), (149, .getfield 65, 3), (152, .iload_n 1, 1), (153, .iaload, 1), (154, .if_icmp .ge 42, 3), (157, .iload 7, 2), (159, .iload 6, 2), (161, .i2l, 1), (162, .iload 8, 2), (164, .invokestatic 210, 3), (167, .ifCond .eq 19, 3), (170, .aload_n 0, 1), (171, .getfield 68, 3), (174, .bipush 40, 2), (176, .iload_n 1, 1), (177, .imul, 1), (178, .iload 8, 2), (180, .iadd, 1), (181, .laload, 1), (182, .l2i, 1), (183, .goto 4, 3), (186, .iconst 0, 1), (187, .ior, 1), (188, .istore 7, 2), (190, .iinc 8 1, 3), (193, .goto (-47), 3), (196, .iload 7, 2), (198, .aload_n 0, 1), (199, .invokevirtual 343, 3), (202, .iconst 1, 1), (203, .iload_n 2, 1), (204, .ishl, 1), (205, .iconst (-1), 1), (206, .ixor, 1), (207, .iand, 1), (208, .if_icmp .ne 26, 3), (211, .iload 5, 2), (213, .iconst (-1), 1), (214, .if_icmp .eq 16, 3), (217, .iload 6, 2), (219, .invokestatic 224, 3), (222, .iload 5, 2), (224, .invokestatic 224, 3), (227, .if_icmp .ge 7, 3), (230, .iload 6, 2), (232, .istore 5, 2), (234, .iinc 6 1, 3), (237, .goto (-110), 3), (240, .iload 5, 2), (242, .iconst (-1), 1), (243, .if_icmp .eq 8, 3), (246, .iload_n 3, 1), (247, .iconst 1, 1), (248, .if_icmp .ne 8, 3), (251, .iload 5, 2), (253, .goto 8, 3), (256, .iload 5, 2), (258, .invokestatic 224, 3), (261, .ireturn, 1)]
def k_M_wholeOf : List (Nat × Instr × Nat) := [(0, .lconst 1, 1), (1, .lstore_n 1, 1), (2, .iconst 0, 1), (3, .istore_n 3, 1), (4, .iload_n 3, 1), (5, .iload_n 0, 1), (6, .if_icmp .ge 15, 3), (9, .lload_n 1, 1), (10, .ldc2_w 448, 3), (13, .lmul, 1), (14, .lstore_n 1, 1), (15, .iinc 3 1, 3), (18, .goto (-14), 3), (21, .lload_n 1, 1), (22, .lreturn, 1)]
def k_M_chanceOf : List (Nat × Instr × Nat) := [(0, .iload 4, 2), (2, .i2l, 1), (3, .iload_n 2, 1), (4, .invokestatic 210, 3), (7, .ifCond .eq 8, 3), (10, .iload_n 3, 1), (11, .invokestatic 450, 3), (14, .lreturn, 1), (15, .iload_n 3, 1), (16, .ifCond .ne 5, 3), (19, .lconst 0, 1), (20, .lreturn, 1), (21, .lconst 0, 1), (22, .lstore 6, 2), (24, .iconst 0, 1), (25, .istore 8, 2), (27, .iconst 0, 1), (28, .istore 9, 2), (30, .iload 9, 2), (32, .aload_n 0, 1), (33, .invokevirtual 204, 3), (36, .if_icmp .ge 36, 3), (39, .iload 8, 2), (41, .aload_n 0, 1), (42, .iload_n 1, 1), (43, .iload 9, 2), (45, .iload 4, 2), (47, .iload 5, 2), (49, .invokevirtual 241, 3), (52, .ifCond .eq 10, 3), (55, .iconst 1, 1), (56, .iload 9, 2), (58, .ishl, 1), (59, .goto 4, 3), (62, .iconst 0, 1), (63, .ior, 1), (64, .istore 8, 2), (66, .iinc 9 1, 3), (69, .goto (-39), 3), (72, .iconst 0, 1), (73, .istore 9, 2), (75, .iload 9, 2), (77, .aload_n 0, 1), (78, .invokevirtual 204, 3), (81, .if_icmp .ge 54, 3), (84, .iload 8, 2), (86, .i2l, 1), (87, .iload 9, 2), (89, .invokestatic 210, 3), (92, .ifCond .eq 37, 3), (95, .lload 6, 2), (97, .ldc2_w 448, 3), (100, .iload 8, 2), (102, .invokestatic 224, 3), (105, .i2l, 1), (106, .ldiv, 1), (107, .aload_n 0, 1), (108, .iload_n 1, 1), (109, .iload_n 2, 1), (110, .iload_n 3, 1), (111, .iconst 1, 1), (112, .isub, 1), (113, .iload 4, 2), (115, .iconst 1, 1), (116, .iload 9, 2), (118, .ishl, 1), (119, .ior, 1), (120, .iload 9, 2), (122, .invokevirtual 454, 3), (125, .lmul, 1), (126, .ladd, 1), (127, .lstore 6, 2), (129, .iinc 9 1, 3), (132, .goto (-57), 3), (135, .lload 6, 2), (137, .lreturn, 1)]
def k_M_commonOf : List (Nat × Instr × Nat) := [(0, .lload_n 2, 1), (1, .lconst 0, 1), (2, .lcmp, 1), (3, .ifCond .ne 7, 3), (6, .lload_n 0, 1), (7, .goto 10, 3), (10, .lload_n 2, 1), (11, .lload_n 0, 1), (12, .lload_n 2, 1), (13, .lrem, 1), (14, .invokestatic 458, 3), (17, .lreturn, 1)]
def k_M_chance : List (Nat × Instr × Nat) := [(0, .aload_n 0, 1), (1, .iconst 0, 1), (2, .putfield 1, 3), (5, .aload_n 0, 1), (6, .iload_n 1, 1), (7, .i2l, 1), (8, .invokevirtual 256, 3), (11, .ifCond .eq 23, 3), (14, .aload_n 0, 1), (15, .iload_n 2, 1), (16, .i2l, 1), (17, .invokevirtual 249, 3), (20, .ifCond .eq 14, 3), (23, .iload 4, 2), (25, .i2l, 1), (26, .lconst 0, 1), (27, .lconst 1, 1), (28, .invokestatic 137, 3), (31, .ifCond .ne 7, 3), (34, .ldc2_w 384, 3), (37, .lreturn, 1), (38, .iload_n 3, 1), (39, .i2l, 1), (40, .lconst 0, 1), (41, .ldc2_w 462, 3), (44, .invokestatic 137, 3), (47, .ifCond .ne 7, 3), (50, .ldc2_w 388, 3), (53, .lreturn, 1), (54, .aload_n 0, 1), (55, .iload_n 1, 1), (56, .iload_n 2, 1), (57, .iload_n 3, 1), (58, .aload_n 0, 1), (59, .getfield 13, 3), (62, .bipush 22, 2), (64, .iaload, 1), (65, .aload_n 0, 1), (66, .getfield 13, 3), (69, .bipush 23, 2), (71, .iaload, 1), (72, .invokevirtual 454, 3), (75, .lstore 5, 2), (77, .iload 4, 2), (79, .ifCond .ne 8, 3), (82, .lload 5, 2), (84, .goto 7, 3), (87, .iload_n 3, 1), (88, .invokestatic 450, 3), (91, .lload 5, 2), (93, .iload_n 3, 1), (94, .invokestatic 450, 3), (97, .invokestatic 458, 3), (100, .ldiv, 1), (101, .lreturn, 1)]
def k_M_latest : List (Nat × Instr × Nat) := [(0, .aload_n 0, 1), (1, .iconst 0, 1), (2, .putfield 1, 3), (5, .aload_n 0, 1), (6, .iload_n 1, 1), (7, .i2l, 1), (8, .invokevirtual 256, 3), (11, .ifCond .ne 6, 3), (14, .bipush (-2), 2), (16, .ireturn, 1), (17, .iload_n 2, 1), (18, .i2l, 1), (19, .lconst 0, 1), (20, .ldc2_w 462, 3), (23, .invokestatic 137, 3), (26, .ifCond .ne 6, 3), (29, .bipush (-3), 2), (31, .ireturn, 1), (32, .iconst (-1), 1), (33, .istore_n 3, 1), (34, .lconst 0, 1), (35, .lstore 4, 2), (37, .iconst 0, 1), (38, .istore 6, 2), (40, .iload 6, 2), (42, .aload_n 0, 1), (43, .invokevirtual 204, 3), (46, .if_icmp .ge 75, 3), (49, .aload_n 0, 1), (50, .getfield 13, 3), (53, .bipush 22, 2), (55, .iaload, 1), (56, .i2l, 1), (57, .iload 6, 2), (59, .invokestatic 210, 3), (62, .ifCond .eq 6, 3), (65, .goto 50, 3), (68, .aload_n 0, 1), (69, .iload_n 1, 1), (70, .iload 6, 2), (72, .iload_n 2, 1), (73, .aload_n 0, 1), (74, .getfield 13, 3), (77, .bipush 22, 2), (79, .iaload, 1), (80, .aload_n 0, 1), (81, .getfield 13, 3), (84, .bipush 23, 2), (86, .iaload, 1), (87, .invokevirtual 454, 3), (90, .lstore 7, 2), (92, .iload_n 3, 1), (93, .iconst (-1), 1), (94, .if_icmp .eq 14, 3), (97, .lload 7, 2), (99, .lload 4, 2), (101, .lcmp, 1), (102, .ifCond .lt 6, 3), (105, .goto 10, 3), (108, .iload 6, 2), (110, .istore_n 3, 1), (111, .lload 7, 2), (113, .lstore 4, 2), (115, .iinc 6 1, 3), (118, .goto (-78), 3), (121, .iload_n 3, 1), (122, .ireturn, 1)]
def k_M_cut : List (Nat × Instr × Nat) := [(0, .iload_n 2, 1), (1, .ifCond .ne 10, 3), (4, .lload_n 0, 1), (5, .l2i, 1), (6, .i2b, 1), (7, .i2l, 1), (8, .goto 27, 3), (11, .iload_n 2, 1), (12, .iconst 1, 1), (13, .if_icmp .ne 10, 3), (16, .lload_n 0, 1), (17, .l2i, 1), (18, .i2s, 1), (19, .i2l, 1), (20, .goto 15, 3), (23, .iload_n 2, 1), (24, .iconst 2, 1), (25, .if_icmp .ne 9, 3), (28, .lload_n 0, 1), (29, .l2i, 1), (30, .i2l, 1), (31, .goto 4, 3), (34, .lload_n 0, 1), (35, .lreturn, 1)]
def k_M_numbers : List (Nat × Instr × Nat) := [(0, .aload_n 0, 1), (1, .iconst 0, 1), (2, .putfield 1, 3), (5, .iload_n 1, 1), (6, .i2l, 1), (7, .lconst 0, 1), (8, .ldc2_w 317, 3), (11, .invokestatic 137, 3), (14, .ifCond .eq 15, 3), (17, .iload_n 2, 1), (18, .i2l, 1), (19, .lconst 0, 1), (20, .ldc2_w 317, 3), (23, .invokestatic 137, 3), (26, .ifCond .ne 6, 3), (29, .bipush (-2), 2), (31, .ireturn, 1), (32, .iload_n 3, 1), (33, .i2l, 1), (34, .lconst 0, 1), (35, .ldc2_w 335, 3), (38, .invokestatic 137, 3), (41, .ifCond .ne 6, 3), (44, .bipush (-3), 2), (46, .ireturn, 1), (47, .aload_n 0, 1), (48, .getfield 62, 3), (51, .iload_n 1, 1), (52, .iload_n 2, 1), (53, .iastore, 1), (54, .aload_n 0, 1), (55, .getfield 65, 3), (58, .iload_n 1, 1), (59, .iload_n 3, 1), (60, .iastore, 1), (61, .iconst 0, 1), (62, .istore 4, 2), (64, .iload 4, 2), (66, .iload_n 3, 1), (67, .if_icmp .ge 22, 3), (70, .aload_n 0, 1), (71, .getfield 68, 3), (74, .bipush 40, 2), (76, .iload_n 1, 1), (77, .imul, 1), (78, .iload 4, 2), (80, .iadd, 1), (81, .lconst 0, 1), (82, .lastore, 1), (83, .iinc 4 1, 3), (86, .goto (-22), 3), (89, .iconst 0, 1), (90, .ireturn, 1)]
def k_M_write : List (Nat × Instr × Nat) := [(0, .aload_n 0, 1), (1, .iconst 0, 1), (2, .putfield 1, 3), (5, .aload_n 0, 1), (6, .iload_n 1, 1), (7, .invokevirtual 319, 3), (10, .istore 5, 2), (12, .iload 5, 2), (14, .ifCond .eq 7, 3), (17, .iload 5, 2), (19, .i2l, 1), (20, .lreturn, 1), (21, .iload_n 2, 1), (22, .i2l, 1), (23, .lconst 0, 1), (24, .aload_n 0, 1), (25, .getfield 65, 3), (28, .iload_n 1, 1), (29, .iaload, 1), (30, .iconst 1, 1), (31, .isub, 1), (32, .i2l, 1), (33, .invokestatic 137, 3), (36, .ifCond .ne 7, 3), (39, .ldc2_w 464, 3), (42, .lreturn, 1), (43, .aload_n 0, 1), (44, .getfield 68, 3), (47, .bipush 40, 2), (49, .iload_n 1, 1), (50, .imul, 1), (51, .iload_n 2, 1), (52, .iadd, 1), (53, .lload_n 3, 1), (54, .aload_n 0, 1), (55, .getfield 62, 3), (58, .iload_n 1, 1), (59, .iaload, 1), (60, .invokestatic 466, 3), (63, .lastore, 1), (64, .aload_n 0, 1), (65, .getfield 68, 3), (68, .bipush 40, 2), (70, .iload_n 1, 1), (71, .imul, 1), (72, .iload_n 2, 1), (73, .iadd, 1), (74, .laload, 1), (75, .lreturn, 1)]
def k_M_lists : List (Nat × Instr × Nat) := [(0, .aload_n 0, 1), (1, .iconst 0, 1), (2, .putfield 1, 3), (5, .iload_n 1, 1), (6, .i2l, 1), (7, .lconst 0, 1), (8, .ldc2_w 317, 3), (11, .invokestatic 137, 3), (14, .ifCond .eq 12, 3), (17, .aload_n 0, 1), (18, .iload_n 2, 1), (19, .i2l, 1), (20, .invokevirtual 256, 3), (23, .ifCond .ne 6, 3), (26, .bipush (-2), 2), (28, .ireturn, 1), (29, .aload_n 0, 1), (30, .iload_n 1, 1), (31, .invokevirtual 319, 3), (34, .istore_n 3, 1), (35, .iload_n 3, 1), (36, .ifCond .eq 5, 3), (39, .iload_n 3, 1), (40, .ireturn, 1), (41, .aload_n 0, 1), (42, .iload_n 2, 1), (43, .iconst 1, 1), (44, .iconst (-1), 1), (45, .invokevirtual 372, 3), (48, .istore 4, 2), (50, .iload 4, 2), (52, .aload_n 0, 1), (53, .getfield 65, 3), (56, .iload_n 1, 1), (57, .iaload, 1), (58, .if_icmp .ge 8, 3), (61, .iload 4, 2), (63, .goto 9, 3), (66, .aload_n 0, 1), (67, .getfield 65, 3), (70, .iload_n 1, 1), (71, .iaload, 1), (72, .istore 4, 2), (74, .iconst 0, 1), (75, .istore 5, 2), (77, .iload 5, 2), (79, .iload 4, 2), (81, .if_icmp .ge 29, 3), (84, .aload_n 0, 1), (85, .getfield 68, 3), (88, .bipush 40, 2), (90, .iload_n 1, 1), (91, .imul, 1), (92, .iload 5, 2), (94, .iadd, 1), (95, .aload_n 0, 1), (96, .getfield 49, 3), (99, .iload 5, 2), (101, .iaload, 1), (102, .i2l, 1), (103, .lastore, 1), (104, .iinc 5 1, 3), (107, .goto (-30), 3), (110, .iload 4, 2), (112, .ireturn, 1)]
def k_M_image : List (Nat × Instr × Nat) := [(0, .aload_n 0, 1), (1, .iconst 0, 1), (2, .putfield 1, 3), (5, .iload_n 1, 1), (6, .i2l, 1), (7, .lconst 0, 1), (8, .lconst 1, 1), (9, .invokestatic 137, 3), (12, .ifCond .ne 6, 3), (15, .bipush (-2), 2), (17, .ireturn, 1), (18, .iconst 0, 1), (19, .istore_n 2, 1), (20, .iload_n 2, 1), (21, .sipush 1001, 3), (24, .if_icmp .ge 29, 3), (27, .aload_n 0, 1), (28, .getfield 13, 3), (31, .sipush 1001, 3), (34, .iload_n 1, 1), (35, .iconst 1, 1), (36, .iadd, 1), (37, .imul, 1), (38, .iload_n 2, 1), (39, .iadd, 1), (40, .aload_n 0, 1), (41, .getfield 13, 3), (44, .iload_n 2, 1), (45, .iaload, 1), (46, .iastore, 1), (47, .iinc 2 1, 3), (50, .goto (-30), 3), (53, .aload_n 0, 1), (54, .getfield 17, 3), (57, .iload_n 1, 1), (58, .iconst 1, 1), (59, .bastore, 1), (60, .iconst 0, 1), (61, .ireturn, 1)]
def k_M_restore : List (Nat × Instr × Nat) := [(0, .aload_n 0, 1), (1, .iconst 0, 1), (2, .putfield 1, 3), (5, .iload_n 1, 1), (6, .i2l, 1), (7, .lconst 0, 1), (8, .lconst 1, 1), (9, .invokestatic 137, 3), (12, .ifCond .ne 6, 3), (15, .bipush (-2), 2), (17, .ireturn, 1), (18, .aload_n 0, 1), (19, .getfield 17, 3), (22, .iload_n 1, 1), (23, .baload, 1), (24, .ifCond .ne 6, 3), (27, .bipush (-5), 2), (29, .ireturn, 1), (30, .iconst 0, 1), (31, .istore_n 2, 1), (32, .iload_n 2, 1), (33, .sipush 1001, 3), (36, .if_icmp .ge 29, 3), (39, .aload_n 0, 1), (40, .getfield 13, 3), (43, .iload_n 2, 1), (44, .aload_n 0, 1), (45, .getfield 13, 3), (48, .sipush 1001, 3), (51, .iload_n 1, 1), (52, .iconst 1, 1), (53, .iadd, 1), (54, .imul, 1), (55, .iload_n 2, 1), (56, .iadd, 1), (57, .iaload, 1), (58, .iastore, 1), (59, .iinc 2 1, 3), (62, .goto (-30), 3), (65, .aload_n 0, 1), (66, .getfield 13, 3), (69, .bipush 29, 2), (71, .iconst 0, 1), (72, .iastore, 1), (73, .iconst 0, 1), (74, .ireturn, 1)]
def k_M_count : List (Nat × Instr × Nat) := [(0, .aload_n 0, 1), (1, .iconst 0, 1), (2, .putfield 1, 3), (5, .iload_n 1, 1), (6, .tableswitch 166 0 11 #[62, 69, 76, 81, 88, 96, 120, 128, 141, 146, 154, 159], 62), (68, .aload_n 0, 1), (69, .getfield 13, 3), (72, .iconst 1, 1), (73, .iaload, 1), (74, .ireturn, 1), (75, .aload_n 0, 1), (76, .getfield 13, 3), (79, .iconst 2, 1), (80, .iaload, 1), (81, .ireturn, 1), (82, .aload_n 0, 1), (83, .invokevirtual 204, 3), (86, .ireturn, 1), (87, .aload_n 0, 1), (88, .getfield 13, 3), (91, .iconst 3, 1), (92, .iaload, 1), (93, .ireturn, 1), (94, .aload_n 0, 1), (95, .getfield 13, 3), (98, .bipush 22, 2), (100, .iaload, 1), (101, .ireturn, 1), (102, .aload_n 0, 1), (103, .getfield 13, 3), (106, .bipush 23, 2), (108, .iaload, 1), (109, .bipush 12, 2), (111, .if_icmp .ne 7, 3), (114, .iconst (-1), 1), (115, .goto 10, 3), (118, .aload_n 0, 1), (119, .getfield 13, 3), (122, .bipush 23, 2), (124, .iaload, 1), (125, .ireturn, 1), (126, .aload_n 0, 1), (127, .getfield 13, 3), (130, .bipush 24, 2), (132, .iaload, 1), (133, .ireturn, 1), (134, .aload_n 0, 1), (135, .invokevirtual 237, 3), (138, .ifCond .eq 7, 3), (141, .iconst 1, 1), (142, .goto 4, 3), (145, .iconst 0, 1), (146, .ireturn, 1), (147, .aload_n 0, 1), (148, .invokevirtual 393, 3), (151, .ireturn, 1), (152, .aload_n 0, 1), (153, .getfield 13, 3), (156, .bipush 29, 2), (158, .iaload, 1), (159, .ireturn, 1), (160, .aload_n 0, 1), (161, .getfield 75, 3), (164, .ireturn, 1), (165, .aload_n 0, 1), (166, .getfield 13, 3), (169, .iconst 0, 1), (170, .iaload, 1), (171, .ireturn, 1), (172, .iconst (-1), 1), (173, .ireturn, 1)]
def k_In_bitCount : List (Nat × Instr × Nat) := [(0, .iload_n 0, 1), (1, .iload_n 0, 1), (2, .iconst 1, 1), (3, .iushr, 1), (4, .ldc_w 265, 3), (7, .iand, 1), (8, .isub, 1), (9, .istore_n 0, 1), (10, .iload_n 0, 1), (11, .ldc_w 266, 3), (14, .iand, 1), (15, .iload_n 0, 1), (16, .iconst 2, 1), (17, .iushr, 1), (18, .ldc_w 266, 3), (21, .iand, 1), (22, .iadd, 1), (23, .istore_n 0, 1), (24, .iload_n 0, 1), (25, .iload_n 0, 1), (26, .iconst 4, 1), (27, .iushr, 1), (28, .iadd, 1), (29, .ldc_w 267, 3), (32, .iand, 1), (33, .istore_n 0, 1), (34, .iload_n 0, 1), (35, .iload_n 0, 1), (36, .bipush 8, 2), (38, .iushr, 1), (39, .iadd, 1), (40, .istore_n 0, 1), (41, .iload_n 0, 1), (42, .iload_n 0, 1), (43, .bipush 16, 2), (45, .iushr, 1), (46, .iadd, 1), (47, .istore_n 0, 1), (48, .iload_n 0, 1), (49, .bipush 63, 2), (51, .iand, 1), (52, .ireturn, 1)]
def k_St_length : List (Nat × Instr × Nat) := [(0, .aload_n 0, 1), (1, .getfield 9, 3), (4, .arraylength, 1), (5, .aload_n 0, 1), (6, .invokevirtual 335, 3), (9, .ishr, 1), (10, .ireturn, 1)]
def k_St_charAt : List (Nat × Instr × Nat) := [(0, .aload_n 0, 1), (1, .invokevirtual 492, 3), (4, .ifCond .eq 12, 3), (7, .aload_n 0, 1), (8, .getfield 9, 3), (11, .iload_n 1, 1), (12, .invokestatic 495, 3), (15, .ireturn, 1), (16, .aload_n 0, 1), (17, .getfield 9, 3), (20, .iload_n 1, 1), (21, .invokestatic 498, 3), (24, .ireturn, 1)]
def k_St_indexOf : List (Nat × Instr × Nat) := [(0, .aload_n 0, 1), (1, .iload_n 1, 1), (2, .iconst 0, 1), (3, .invokevirtual 633, 3), (6, .ireturn, 1)]
def k_St_indexOf2 : List (Nat × Instr × Nat) := [(0, .aload_n 0, 1), (1, .invokevirtual 492, 3), (4, .ifCond .eq 19, 3), (7, .aload_n 0, 1), (8, .getfield 9, 3), (11, .iload_n 1, 1), (12, .iload_n 2, 1), (13, .aload_n 0, 1), (14, .invokevirtual 505, 3), (17, .invokestatic 637, 3), (20, .goto 16, 3), (23, .aload_n 0, 1), (24, .getfield 9, 3), (27, .iload_n 1, 1), (28, .iload_n 2, 1), (29, .aload_n 0, 1), (30, .invokevirtual 505, 3), (33, .invokestatic 640, 3), (36, .ireturn, 1)]
def k_St_coder : List (Nat × Instr × Nat) := [(0, .getstatic 38, 3), (3, .ifCond .eq 10, 3), (6, .aload_n 0, 1), (7, .getfield 15, 3), (10, .goto 4, 3), (13, .iconst 1, 1), (14, .ireturn, 1)]
def k_St_isLatin1 : List (Nat × Instr × Nat) := [(0, .getstatic 38, 3), (3, .ifCond .eq 14, 3), (6, .aload_n 0, 1), (7, .getfield 15, 3), (10, .ifCond .ne 7, 3), (13, .iconst 1, 1), (14, .goto 4, 3), (17, .iconst 0, 1), (18, .ireturn, 1)]
def k_St_checkIndex : List (Nat × Instr × Nat) := [(0, .iload_n 0, 1), (1, .iload_n 1, 1), (2, .getstatic 1053, 3), (5, .invokestatic 1059, 3), (8, .pop, 1), (9, .return_, 1)]
def k_S1_charAt : List (Nat × Instr × Nat) := [(0, .iload_n 1, 1), (1, .aload_n 0, 1), (2, .arraylength, 1), (3, .invokestatic 9, 3), (6, .aload_n 0, 1), (7, .iload_n 1, 1), (8, .baload, 1), (9, .sipush 255, 3), (12, .iand, 1), (13, .i2c, 1), (14, .ireturn, 1)]
def k_S1_canEncode : List (Nat × Instr × Nat) := [(0, .iload_n 0, 1), (1, .ifCond .lt 14, 3), (4, .iload_n 0, 1), (5, .sipush 255, 3), (8, .if_icmp .gt 7, 3), (11, .iconst 1, 1), (12, .goto 4, 3), (15, .iconst 0, 1), (16, .ireturn, 1)]
def k_S1_indexOf : List (Nat × Instr × Nat) := [(0, .iload_n 1, 1), (1, .invokestatic 88, 3), (4, .ifCond .ne 5, 3), (7, .iconst (-1), 1), (8, .ireturn, 1), (9, .iload_n 2, 1), (10, .iconst 0, 1), (11, .invokestatic 92, 3), (14, .istore_n 2, 1), (15, .iload_n 3, 1), (16, .aload_n 0, 1), (17, .arraylength, 1), (18, .invokestatic 38, 3), (21, .istore_n 3, 1), (22, .iload_n 2, 1), (23, .iload_n 3, 1), (24, .if_icmp .lt 5, 3), (27, .iconst (-1), 1), (28, .ireturn, 1), (29, .aload_n 0, 1), (30, .iload_n 1, 1), (31, .iload_n 2, 1), (32, .iload_n 3, 1), (33, .invokestatic 95, 3), (36, .ireturn, 1)]
def k_S1_indexOfChar : List (Nat × Instr × Nat) := [(0, .iload_n 1, 1), (1, .i2b, 1), (2, .istore 4, 2), (4, .iload_n 2, 1), (5, .istore 5, 2), (7, .iload 5, 2), (9, .iload_n 3, 1), (10, .if_icmp .ge 21, 3), (13, .aload_n 0, 1), (14, .iload 5, 2), (16, .baload, 1), (17, .iload 4, 2), (19, .if_icmp .ne 6, 3), (22, .iload 5, 2), (24, .ireturn, 1), (25, .iinc 5 1, 3), (28, .goto (-21), 3), (31, .iconst (-1), 1), (32, .ireturn, 1)]
def k_Ar_fill : List (Nat × Instr × Nat) := [(0, .iconst 0, 1), (1, .istore_n 3, 1), (2, .aload_n 0, 1), (3, .arraylength, 1), (4, .istore 4, 2), (6, .iload_n 3, 1), (7, .iload 4, 2), (9, .if_icmp .ge 13, 3), (12, .aload_n 0, 1), (13, .iload_n 3, 1), (14, .lload_n 1, 1), (15, .lastore, 1), (16, .iinc 3 1, 3), (19, .goto (-13), 3), (22, .return_, 1)]
def k_Ar_fill2 : List (Nat × Instr × Nat) := [(0, .iconst 0, 1), (1, .istore_n 2, 1), (2, .aload_n 0, 1), (3, .arraylength, 1), (4, .istore_n 3, 1), (5, .iload_n 2, 1), (6, .iload_n 3, 1), (7, .if_icmp .ge 13, 3), (10, .aload_n 0, 1), (11, .iload_n 2, 1), (12, .iload_n 1, 1), (13, .iastore, 1), (14, .iinc 2 1, 3), (17, .goto (-12), 3), (20, .return_, 1)]
def k_Ar_copyOf : List (Nat × Instr × Nat) := [(0, .iload_n 1, 1), (1, .aload_n 0, 1), (2, .arraylength, 1), (3, .if_icmp .ne 11, 3), (6, .aload_n 0, 1), (7, .invokevirtual 316, 3), (10, .checkcast 317, 3), (13, .areturn, 1), (14, .iload_n 1, 1), (15, .newarray .int, 2), (17, .astore_n 2, 1), (18, .aload_n 0, 1), (19, .iconst 0, 1), (20, .aload_n 2, 1), (21, .iconst 0, 1), (22, .aload_n 0, 1), (23, .arraylength, 1), (24, .iload_n 1, 1), (25, .invokestatic 304, 3), (28, .invokestatic 150, 3), (31, .aload_n 2, 1), (32, .areturn, 1)]
def k_Pr_checkIndex : List (Nat × Instr × Nat) := [(0, .iload_n 0, 1), (1, .ifCond .lt 8, 3), (4, .iload_n 0, 1), (5, .iload_n 1, 1), (6, .if_icmp .lt 10, 3), (9, .aload_n 2, 1), (10, .iload_n 0, 1), (11, .iload_n 1, 1), (12, .invokestatic 95, 3), (15, .athrow, 1), (16, .iload_n 0, 1), (17, .ireturn, 1)]
def k_Pr_checkFromToIndex : List (Nat × Instr × Nat) := [(0, .iload_n 0, 1), (1, .ifCond .lt 13, 3), (4, .iload_n 0, 1), (5, .iload_n 1, 1), (6, .if_icmp .gt 8, 3), (9, .iload_n 1, 1), (10, .iload_n 2, 1), (11, .if_icmp .le 11, 3), (14, .aload_n 3, 1), (15, .iload_n 0, 1), (16, .iload_n 1, 1), (17, .iload_n 2, 1), (18, .invokestatic 99, 3), (21, .athrow, 1), (22, .iload_n 0, 1), (23, .ireturn, 1)]
def k_L_law_0 : List (Nat × Instr × Nat) := [(0, .new 7, 3), (3, .dup, 1), (4, .invokespecial 9, 3), (7, .astore_n 1, 1), (8, .new 10, 3), (11, .dup, 1), (12, .invokespecial 12, 3), (15, .astore_n 2, 1), (16, .iconst 0, 1), (17, .istore_n 3, 1), (18, .iload_n 3, 1), (19, .aload_n 0, 1), (20, .arraylength, 1), (21, .bipush 6, 2), (23, .isub, 1), (24, .if_icmp .gt 1609, 3), (27, .aload_n 0, 1), (28, .iload_n 3, 1), (29, .iaload, 1), (30, .bipush 63, 2), (32, .iand, 1), (33, .tableswitch 1594 0 41 #[183, 246, 269, 292, 325, 358, 391, 414, 447, 470, 493, 526, 549, 582, 615, 658, 681, 714, 747, 790, 813, 846, 880, 904, 937, 980, 993, 1036, 1079, 1122, 1155, 1188, 1212, 1245, 1288, 1342, 1375, 1418, 1492, 1525, 1548, 1571], 183), (216, .aload_n 1, 1), (217, .aload_n 0, 1), (218, .iload_n 3, 1), (219, .iconst 1, 1), (220, .iadd, 1), (221, .iaload, 1), (222, .aload_n 0, 1), (223, .iload_n 3, 1), (224, .iconst 2, 1), (225, .iadd, 1), (226, .iaload, 1), (227, .aload_n 0, 1), (228, .iload_n 3, 1), (229, .iconst 3, 1), (230, .iadd, 1), (231, .iaload, 1), (232, .aload_n 0, 1), (233, .iload_n 3, 1), (234, .iconst 4, 1), (235, .iadd, 1), (236, .iaload, 1), (237, .aload_n 0, 1), (238, .iload_n 3, 1), (239, .iconst 5, 1), (240, .iadd, 1), (241, .iaload, 1), (242, .invokevirtual 13, 3), (245, .aload_n 2, 1)]
def k_L_law_1 : List (Nat × Instr × Nat) := [(246, .aload_n 0, 1), (247, .iload_n 3, 1), (248, .iconst 1, 1), (249, .iadd, 1), (250, .iaload, 1), (251, .aload_n 0, 1), (252, .iload_n 3, 1), (253, .iconst 2, 1), (254, .iadd, 1), (255, .iaload, 1), (256, .aload_n 0, 1), (257, .iload_n 3, 1), (258, .iconst 3, 1), (259, .iadd, 1), (260, .iaload, 1), (261, .aload_n 0, 1), (262, .iload_n 3, 1), (263, .iconst 4, 1), (264, .iadd, 1), (265, .iaload, 1), (266, .aload_n 0, 1), (267, .iload_n 3, 1), (268, .iconst 5, 1), (269, .iadd, 1), (270, .iaload, 1), (271, .invokevirtual 17, 3), (274, .if_icmp .eq 1353, 3), (277, .iconst 0, 1), (278, .ireturn, 1), (279, .aload_n 1, 1), (280, .aload_n 0, 1), (281, .iload_n 3, 1), (282, .iconst 1, 1), (283, .iadd, 1), (284, .iaload, 1), (285, .invokevirtual 18, 3), (288, .aload_n 2, 1), (289, .aload_n 0, 1), (290, .iload_n 3, 1), (291, .iconst 1, 1), (292, .iadd, 1), (293, .iaload, 1), (294, .invokevirtual 22, 3), (297, .if_icmp .eq 1330, 3), (300, .iconst 0, 1), (301, .ireturn, 1), (302, .aload_n 1, 1), (303, .aload_n 0, 1), (304, .iload_n 3, 1), (305, .iconst 1, 1)]
def k_L_law_2 : List (Nat × Instr × Nat) := [(306, .iadd, 1), (307, .iaload, 1), (308, .invokevirtual 23, 3), (311, .aload_n 2, 1), (312, .aload_n 0, 1), (313, .iload_n 3, 1), (314, .iconst 1, 1), (315, .iadd, 1), (316, .iaload, 1), (317, .invokevirtual 26, 3), (320, .if_icmp .eq 1307, 3), (323, .iconst 0, 1), (324, .ireturn, 1), (325, .aload_n 1, 1), (326, .aload_n 0, 1), (327, .iload_n 3, 1), (328, .iconst 1, 1), (329, .iadd, 1), (330, .iaload, 1), (331, .aload_n 0, 1), (332, .iload_n 3, 1), (333, .iconst 2, 1), (334, .iadd, 1), (335, .iaload, 1), (336, .invokevirtual 27, 3), (339, .aload_n 2, 1), (340, .aload_n 0, 1), (341, .iload_n 3, 1), (342, .iconst 1, 1), (343, .iadd, 1), (344, .iaload, 1), (345, .aload_n 0, 1), (346, .iload_n 3, 1), (347, .iconst 2, 1), (348, .iadd, 1), (349, .iaload, 1), (350, .invokevirtual 31, 3), (353, .if_icmp .eq 1274, 3), (356, .iconst 0, 1), (357, .ireturn, 1), (358, .aload_n 1, 1), (359, .aload_n 0, 1), (360, .iload_n 3, 1), (361, .iconst 1, 1), (362, .iadd, 1), (363, .iaload, 1), (364, .aload_n 0, 1), (365, .iload_n 3, 1), (366, .iconst 2, 1), (367, .iadd, 1)]
def k_L_law_3 : List (Nat × Instr × Nat) := [(368, .iaload, 1), (369, .invokevirtual 32, 3), (372, .aload_n 2, 1), (373, .aload_n 0, 1), (374, .iload_n 3, 1), (375, .iconst 1, 1), (376, .iadd, 1), (377, .iaload, 1), (378, .aload_n 0, 1), (379, .iload_n 3, 1), (380, .iconst 2, 1), (381, .iadd, 1), (382, .iaload, 1), (383, .invokevirtual 35, 3), (386, .if_icmp .eq 1241, 3), (389, .iconst 0, 1), (390, .ireturn, 1), (391, .aload_n 1, 1), (392, .aload_n 0, 1), (393, .iload_n 3, 1), (394, .iconst 1, 1), (395, .iadd, 1), (396, .iaload, 1), (397, .aload_n 0, 1), (398, .iload_n 3, 1), (399, .iconst 2, 1), (400, .iadd, 1), (401, .iaload, 1), (402, .invokevirtual 36, 3), (405, .aload_n 2, 1), (406, .aload_n 0, 1), (407, .iload_n 3, 1), (408, .iconst 1, 1), (409, .iadd, 1), (410, .iaload, 1), (411, .aload_n 0, 1), (412, .iload_n 3, 1), (413, .iconst 2, 1), (414, .iadd, 1), (415, .iaload, 1), (416, .invokevirtual 39, 3), (419, .if_icmp .eq 1208, 3), (422, .iconst 0, 1), (423, .ireturn, 1), (424, .aload_n 1, 1), (425, .aload_n 0, 1), (426, .iload_n 3, 1), (427, .iconst 1, 1), (428, .iadd, 1), (429, .iaload, 1)]
def k_L_law_4 : List (Nat × Instr × Nat) := [(430, .invokevirtual 40, 3), (433, .aload_n 2, 1), (434, .aload_n 0, 1), (435, .iload_n 3, 1), (436, .iconst 1, 1), (437, .iadd, 1), (438, .iaload, 1), (439, .invokevirtual 43, 3), (442, .if_icmp .eq 1185, 3), (445, .iconst 0, 1), (446, .ireturn, 1), (447, .aload_n 1, 1), (448, .aload_n 0, 1), (449, .iload_n 3, 1), (450, .iconst 1, 1), (451, .iadd, 1), (452, .iaload, 1), (453, .aload_n 0, 1), (454, .iload_n 3, 1), (455, .iconst 2, 1), (456, .iadd, 1), (457, .iaload, 1), (458, .invokevirtual 44, 3), (461, .aload_n 2, 1), (462, .aload_n 0, 1), (463, .iload_n 3, 1), (464, .iconst 1, 1), (465, .iadd, 1), (466, .iaload, 1), (467, .aload_n 0, 1), (468, .iload_n 3, 1), (469, .iconst 2, 1), (470, .iadd, 1), (471, .iaload, 1), (472, .invokevirtual 47, 3), (475, .if_icmp .eq 1152, 3), (478, .iconst 0, 1), (479, .ireturn, 1), (480, .aload_n 1, 1), (481, .aload_n 0, 1), (482, .iload_n 3, 1), (483, .iconst 1, 1), (484, .iadd, 1), (485, .iaload, 1), (486, .invokevirtual 48, 3), (489, .aload_n 2, 1), (490, .aload_n 0, 1), (491, .iload_n 3, 1), (492, .iconst 1, 1), (493, .iadd, 1)]
def k_L_law_5 : List (Nat × Instr × Nat) := [(494, .iaload, 1), (495, .invokevirtual 51, 3), (498, .if_icmp .eq 1129, 3), (501, .iconst 0, 1), (502, .ireturn, 1), (503, .aload_n 1, 1), (504, .aload_n 0, 1), (505, .iload_n 3, 1), (506, .iconst 1, 1), (507, .iadd, 1), (508, .iaload, 1), (509, .invokevirtual 52, 3), (512, .aload_n 2, 1), (513, .aload_n 0, 1), (514, .iload_n 3, 1), (515, .iconst 1, 1), (516, .iadd, 1), (517, .iaload, 1), (518, .invokevirtual 55, 3), (521, .if_icmp .eq 1106, 3), (524, .iconst 0, 1), (525, .ireturn, 1), (526, .aload_n 1, 1), (527, .aload_n 0, 1), (528, .iload_n 3, 1), (529, .iconst 1, 1), (530, .iadd, 1), (531, .iaload, 1), (532, .aload_n 0, 1), (533, .iload_n 3, 1), (534, .iconst 2, 1), (535, .iadd, 1), (536, .iaload, 1), (537, .invokevirtual 56, 3), (540, .aload_n 2, 1), (541, .aload_n 0, 1), (542, .iload_n 3, 1), (543, .iconst 1, 1), (544, .iadd, 1), (545, .iaload, 1), (546, .aload_n 0, 1), (547, .iload_n 3, 1), (548, .iconst 2, 1), (549, .iadd, 1), (550, .iaload, 1), (551, .invokevirtual 59, 3), (554, .if_icmp .eq 1073, 3), (557, .iconst 0, 1), (558, .ireturn, 1), (559, .aload_n 1, 1)]
def k_L_law_6 : List (Nat × Instr × Nat) := [(560, .aload_n 0, 1), (561, .iload_n 3, 1), (562, .iconst 1, 1), (563, .iadd, 1), (564, .iaload, 1), (565, .invokevirtual 60, 3), (568, .aload_n 2, 1), (569, .aload_n 0, 1), (570, .iload_n 3, 1), (571, .iconst 1, 1), (572, .iadd, 1), (573, .iaload, 1), (574, .invokevirtual 63, 3), (577, .if_icmp .eq 1050, 3), (580, .iconst 0, 1), (581, .ireturn, 1), (582, .aload_n 1, 1), (583, .aload_n 0, 1), (584, .iload_n 3, 1), (585, .iconst 1, 1), (586, .iadd, 1), (587, .iaload, 1), (588, .aload_n 0, 1), (589, .iload_n 3, 1), (590, .iconst 2, 1), (591, .iadd, 1), (592, .iaload, 1), (593, .invokevirtual 64, 3), (596, .aload_n 2, 1), (597, .aload_n 0, 1), (598, .iload_n 3, 1), (599, .iconst 1, 1), (600, .iadd, 1), (601, .iaload, 1), (602, .aload_n 0, 1), (603, .iload_n 3, 1), (604, .iconst 2, 1), (605, .iadd, 1), (606, .iaload, 1), (607, .invokevirtual 67, 3), (610, .if_icmp .eq 1017, 3), (613, .iconst 0, 1), (614, .ireturn, 1), (615, .aload_n 1, 1), (616, .aload_n 0, 1), (617, .iload_n 3, 1), (618, .iconst 1, 1), (619, .iadd, 1), (620, .iaload, 1), (621, .aload_n 0, 1)]
def k_L_law_7 : List (Nat × Instr × Nat) := [(622, .iload_n 3, 1), (623, .iconst 2, 1), (624, .iadd, 1), (625, .iaload, 1), (626, .invokevirtual 68, 3), (629, .aload_n 2, 1), (630, .aload_n 0, 1), (631, .iload_n 3, 1), (632, .iconst 1, 1), (633, .iadd, 1), (634, .iaload, 1), (635, .aload_n 0, 1), (636, .iload_n 3, 1), (637, .iconst 2, 1), (638, .iadd, 1), (639, .iaload, 1), (640, .invokevirtual 71, 3), (643, .if_icmp .eq 984, 3), (646, .iconst 0, 1), (647, .ireturn, 1), (648, .aload_n 1, 1), (649, .aload_n 0, 1), (650, .iload_n 3, 1), (651, .iconst 1, 1), (652, .iadd, 1), (653, .iaload, 1), (654, .aload_n 0, 1), (655, .iload_n 3, 1), (656, .iconst 2, 1), (657, .iadd, 1), (658, .iaload, 1), (659, .aload_n 0, 1), (660, .iload_n 3, 1), (661, .iconst 3, 1), (662, .iadd, 1), (663, .iaload, 1), (664, .invokevirtual 72, 3), (667, .aload_n 2, 1), (668, .aload_n 0, 1), (669, .iload_n 3, 1), (670, .iconst 1, 1), (671, .iadd, 1), (672, .iaload, 1), (673, .aload_n 0, 1), (674, .iload_n 3, 1), (675, .iconst 2, 1), (676, .iadd, 1), (677, .iaload, 1), (678, .aload_n 0, 1), (679, .iload_n 3, 1)]
def k_L_law_8 : List (Nat × Instr × Nat) := [(680, .iconst 3, 1), (681, .iadd, 1), (682, .iaload, 1), (683, .invokevirtual 76, 3), (686, .if_icmp .eq 941, 3), (689, .iconst 0, 1), (690, .ireturn, 1), (691, .aload_n 1, 1), (692, .aload_n 0, 1), (693, .iload_n 3, 1), (694, .iconst 1, 1), (695, .iadd, 1), (696, .iaload, 1), (697, .invokevirtual 77, 3), (700, .aload_n 2, 1), (701, .aload_n 0, 1), (702, .iload_n 3, 1), (703, .iconst 1, 1), (704, .iadd, 1), (705, .iaload, 1), (706, .invokevirtual 80, 3), (709, .if_icmp .eq 918, 3), (712, .iconst 0, 1), (713, .ireturn, 1), (714, .aload_n 1, 1), (715, .aload_n 0, 1), (716, .iload_n 3, 1), (717, .iconst 1, 1), (718, .iadd, 1), (719, .iaload, 1), (720, .aload_n 0, 1), (721, .iload_n 3, 1), (722, .iconst 2, 1), (723, .iadd, 1), (724, .iaload, 1), (725, .invokevirtual 81, 3), (728, .aload_n 2, 1), (729, .aload_n 0, 1), (730, .iload_n 3, 1), (731, .iconst 1, 1), (732, .iadd, 1), (733, .iaload, 1), (734, .aload_n 0, 1), (735, .iload_n 3, 1), (736, .iconst 2, 1), (737, .iadd, 1), (738, .iaload, 1), (739, .invokevirtual 84, 3), (742, .if_icmp .eq 885, 3), (745, .iconst 0, 1)]
def k_L_law_9 : List (Nat × Instr × Nat) := [(746, .ireturn, 1), (747, .aload_n 1, 1), (748, .aload_n 0, 1), (749, .iload_n 3, 1), (750, .iconst 1, 1), (751, .iadd, 1), (752, .iaload, 1), (753, .aload_n 0, 1), (754, .iload_n 3, 1), (755, .iconst 2, 1), (756, .iadd, 1), (757, .iaload, 1), (758, .invokevirtual 85, 3), (761, .aload_n 2, 1), (762, .aload_n 0, 1), (763, .iload_n 3, 1), (764, .iconst 1, 1), (765, .iadd, 1), (766, .iaload, 1), (767, .aload_n 0, 1), (768, .iload_n 3, 1), (769, .iconst 2, 1), (770, .iadd, 1), (771, .iaload, 1), (772, .invokevirtual 88, 3), (775, .if_icmp .eq 852, 3), (778, .iconst 0, 1), (779, .ireturn, 1), (780, .aload_n 1, 1), (781, .aload_n 0, 1), (782, .iload_n 3, 1), (783, .iconst 1, 1), (784, .iadd, 1), (785, .iaload, 1), (786, .aload_n 0, 1), (787, .iload_n 3, 1), (788, .iconst 2, 1), (789, .iadd, 1), (790, .iaload, 1), (791, .aload_n 0, 1), (792, .iload_n 3, 1), (793, .iconst 3, 1), (794, .iadd, 1), (795, .iaload, 1), (796, .invokevirtual 89, 3), (799, .aload_n 2, 1), (800, .aload_n 0, 1), (801, .iload_n 3, 1), (802, .iconst 1, 1), (803, .iadd, 1)]
def k_L_law_10 : List (Nat × Instr × Nat) := [(804, .iaload, 1), (805, .aload_n 0, 1), (806, .iload_n 3, 1), (807, .iconst 2, 1), (808, .iadd, 1), (809, .iaload, 1), (810, .aload_n 0, 1), (811, .iload_n 3, 1), (812, .iconst 3, 1), (813, .iadd, 1), (814, .iaload, 1), (815, .invokevirtual 92, 3), (818, .if_icmp .eq 809, 3), (821, .iconst 0, 1), (822, .ireturn, 1), (823, .aload_n 1, 1), (824, .aload_n 0, 1), (825, .iload_n 3, 1), (826, .iconst 1, 1), (827, .iadd, 1), (828, .iaload, 1), (829, .invokevirtual 93, 3), (832, .aload_n 2, 1), (833, .aload_n 0, 1), (834, .iload_n 3, 1), (835, .iconst 1, 1), (836, .iadd, 1), (837, .iaload, 1), (838, .invokevirtual 96, 3), (841, .if_icmp .eq 786, 3), (844, .iconst 0, 1), (845, .ireturn, 1), (846, .aload_n 1, 1), (847, .aload_n 0, 1), (848, .iload_n 3, 1), (849, .iconst 1, 1), (850, .iadd, 1), (851, .iaload, 1), (852, .aload_n 0, 1), (853, .iload_n 3, 1), (854, .iconst 2, 1), (855, .iadd, 1), (856, .iaload, 1), (857, .invokevirtual 97, 3), (860, .aload_n 2, 1), (861, .aload_n 0, 1), (862, .iload_n 3, 1), (863, .iconst 1, 1), (864, .iadd, 1), (865, .iaload, 1)]
def k_L_law_11 : List (Nat × Instr × Nat) := [(866, .aload_n 0, 1), (867, .iload_n 3, 1), (868, .iconst 2, 1), (869, .iadd, 1), (870, .iaload, 1), (871, .invokevirtual 100, 3), (874, .if_icmp .eq 753, 3), (877, .iconst 0, 1), (878, .ireturn, 1), (879, .aload_n 1, 1), (880, .aload_n 0, 1), (881, .iload_n 3, 1), (882, .iconst 1, 1), (883, .iadd, 1), (884, .iaload, 1), (885, .aload_n 0, 1), (886, .iload_n 3, 1), (887, .iconst 2, 1), (888, .iadd, 1), (889, .iaload, 1), (890, .invokevirtual 101, 3), (893, .aload_n 2, 1), (894, .aload_n 0, 1), (895, .iload_n 3, 1), (896, .iconst 1, 1), (897, .iadd, 1), (898, .iaload, 1), (899, .aload_n 0, 1), (900, .iload_n 3, 1), (901, .iconst 2, 1), (902, .iadd, 1), (903, .iaload, 1), (904, .invokevirtual 105, 3), (907, .lcmp, 1), (908, .ifCond .eq 719, 3), (911, .iconst 0, 1), (912, .ireturn, 1), (913, .aload_n 1, 1), (914, .aload_n 0, 1), (915, .iload_n 3, 1), (916, .iconst 1, 1), (917, .iadd, 1), (918, .iaload, 1), (919, .invokevirtual 106, 3), (922, .aload_n 2, 1), (923, .aload_n 0, 1), (924, .iload_n 3, 1), (925, .iconst 1, 1), (926, .iadd, 1), (927, .iaload, 1)]
def k_L_law_12 : List (Nat × Instr × Nat) := [(928, .invokevirtual 110, 3), (931, .lcmp, 1), (932, .ifCond .eq 695, 3), (935, .iconst 0, 1), (936, .ireturn, 1), (937, .aload_n 1, 1), (938, .aload_n 0, 1), (939, .iload_n 3, 1), (940, .iconst 1, 1), (941, .iadd, 1), (942, .iaload, 1), (943, .aload_n 0, 1), (944, .iload_n 3, 1), (945, .iconst 2, 1), (946, .iadd, 1), (947, .iaload, 1), (948, .invokevirtual 111, 3), (951, .aload_n 2, 1), (952, .aload_n 0, 1), (953, .iload_n 3, 1), (954, .iconst 1, 1), (955, .iadd, 1), (956, .iaload, 1), (957, .aload_n 0, 1), (958, .iload_n 3, 1), (959, .iconst 2, 1), (960, .iadd, 1), (961, .iaload, 1), (962, .invokevirtual 114, 3), (965, .if_icmp .eq 662, 3), (968, .iconst 0, 1), (969, .ireturn, 1), (970, .aload_n 1, 1), (971, .aload_n 0, 1), (972, .iload_n 3, 1), (973, .iconst 1, 1), (974, .iadd, 1), (975, .iaload, 1), (976, .aload_n 0, 1), (977, .iload_n 3, 1), (978, .iconst 2, 1), (979, .iadd, 1), (980, .iaload, 1), (981, .aload_n 0, 1), (982, .iload_n 3, 1), (983, .iconst 3, 1), (984, .iadd, 1), (985, .iaload, 1), (986, .invokevirtual 115, 3), (989, .aload_n 2, 1)]
def k_L_law_13 : List (Nat × Instr × Nat) := [(990, .aload_n 0, 1), (991, .iload_n 3, 1), (992, .iconst 1, 1), (993, .iadd, 1), (994, .iaload, 1), (995, .aload_n 0, 1), (996, .iload_n 3, 1), (997, .iconst 2, 1), (998, .iadd, 1), (999, .iaload, 1), (1000, .aload_n 0, 1), (1001, .iload_n 3, 1), (1002, .iconst 3, 1), (1003, .iadd, 1), (1004, .iaload, 1), (1005, .invokevirtual 118, 3), (1008, .if_icmp .eq 619, 3), (1011, .iconst 0, 1), (1012, .ireturn, 1), (1013, .aload_n 1, 1), (1014, .invokevirtual 119, 3), (1017, .aload_n 2, 1), (1018, .invokevirtual 123, 3), (1021, .if_icmp .eq 606, 3), (1024, .iconst 0, 1), (1025, .ireturn, 1), (1026, .aload_n 1, 1), (1027, .aload_n 0, 1), (1028, .iload_n 3, 1), (1029, .iconst 1, 1), (1030, .iadd, 1), (1031, .iaload, 1), (1032, .aload_n 0, 1), (1033, .iload_n 3, 1), (1034, .iconst 2, 1), (1035, .iadd, 1), (1036, .iaload, 1), (1037, .aload_n 0, 1), (1038, .iload_n 3, 1), (1039, .iconst 3, 1), (1040, .iadd, 1), (1041, .iaload, 1), (1042, .invokevirtual 124, 3), (1045, .aload_n 2, 1), (1046, .aload_n 0, 1), (1047, .iload_n 3, 1), (1048, .iconst 1, 1), (1049, .iadd, 1), (1050, .iaload, 1), (1051, .aload_n 0, 1)]
def k_L_law_14 : List (Nat × Instr × Nat) := [(1052, .iload_n 3, 1), (1053, .iconst 2, 1), (1054, .iadd, 1), (1055, .iaload, 1), (1056, .aload_n 0, 1), (1057, .iload_n 3, 1), (1058, .iconst 3, 1), (1059, .iadd, 1), (1060, .iaload, 1), (1061, .invokevirtual 127, 3), (1064, .if_icmp .eq 563, 3), (1067, .iconst 0, 1), (1068, .ireturn, 1), (1069, .aload_n 1, 1), (1070, .aload_n 0, 1), (1071, .iload_n 3, 1), (1072, .iconst 1, 1), (1073, .iadd, 1), (1074, .iaload, 1), (1075, .aload_n 0, 1), (1076, .iload_n 3, 1), (1077, .iconst 2, 1), (1078, .iadd, 1), (1079, .iaload, 1), (1080, .aload_n 0, 1), (1081, .iload_n 3, 1), (1082, .iconst 3, 1), (1083, .iadd, 1), (1084, .iaload, 1), (1085, .invokevirtual 128, 3), (1088, .aload_n 2, 1), (1089, .aload_n 0, 1), (1090, .iload_n 3, 1), (1091, .iconst 1, 1), (1092, .iadd, 1), (1093, .iaload, 1), (1094, .aload_n 0, 1), (1095, .iload_n 3, 1), (1096, .iconst 2, 1), (1097, .iadd, 1), (1098, .iaload, 1), (1099, .aload_n 0, 1), (1100, .iload_n 3, 1), (1101, .iconst 3, 1), (1102, .iadd, 1), (1103, .iaload, 1), (1104, .invokevirtual 131, 3), (1107, .if_icmp .eq 520, 3), (1110, .iconst 0, 1), (1111, .ireturn, 1)]
def k_L_law_15 : List (Nat × Instr × Nat) := [(1112, .aload_n 1, 1), (1113, .aload_n 0, 1), (1114, .iload_n 3, 1), (1115, .iconst 1, 1), (1116, .iadd, 1), (1117, .iaload, 1), (1118, .aload_n 0, 1), (1119, .iload_n 3, 1), (1120, .iconst 2, 1), (1121, .iadd, 1), (1122, .iaload, 1), (1123, .aload_n 0, 1), (1124, .iload_n 3, 1), (1125, .iconst 3, 1), (1126, .iadd, 1), (1127, .iaload, 1), (1128, .invokevirtual 132, 3), (1131, .aload_n 2, 1), (1132, .aload_n 0, 1), (1133, .iload_n 3, 1), (1134, .iconst 1, 1), (1135, .iadd, 1), (1136, .iaload, 1), (1137, .aload_n 0, 1), (1138, .iload_n 3, 1), (1139, .iconst 2, 1), (1140, .iadd, 1), (1141, .iaload, 1), (1142, .aload_n 0, 1), (1143, .iload_n 3, 1), (1144, .iconst 3, 1), (1145, .iadd, 1), (1146, .iaload, 1), (1147, .invokevirtual 135, 3), (1150, .if_icmp .eq 477, 3), (1153, .iconst 0, 1), (1154, .ireturn, 1), (1155, .aload_n 1, 1), (1156, .aload_n 0, 1), (1157, .iload_n 3, 1), (1158, .iconst 1, 1), (1159, .iadd, 1), (1160, .iaload, 1), (1161, .aload_n 0, 1), (1162, .iload_n 3, 1), (1163, .iconst 2, 1), (1164, .iadd, 1), (1165, .iaload, 1), (1166, .invokevirtual 136, 3), (1169, .aload_n 2, 1)]
def k_L_law_16 : List (Nat × Instr × Nat) := [(1170, .aload_n 0, 1), (1171, .iload_n 3, 1), (1172, .iconst 1, 1), (1173, .iadd, 1), (1174, .iaload, 1), (1175, .aload_n 0, 1), (1176, .iload_n 3, 1), (1177, .iconst 2, 1), (1178, .iadd, 1), (1179, .iaload, 1), (1180, .invokevirtual 139, 3), (1183, .if_icmp .eq 444, 3), (1186, .iconst 0, 1), (1187, .ireturn, 1), (1188, .aload_n 1, 1), (1189, .aload_n 0, 1), (1190, .iload_n 3, 1), (1191, .iconst 1, 1), (1192, .iadd, 1), (1193, .iaload, 1), (1194, .aload_n 0, 1), (1195, .iload_n 3, 1), (1196, .iconst 2, 1), (1197, .iadd, 1), (1198, .iaload, 1), (1199, .invokevirtual 140, 3), (1202, .aload_n 2, 1), (1203, .aload_n 0, 1), (1204, .iload_n 3, 1), (1205, .iconst 1, 1), (1206, .iadd, 1), (1207, .iaload, 1), (1208, .aload_n 0, 1), (1209, .iload_n 3, 1), (1210, .iconst 2, 1), (1211, .iadd, 1), (1212, .iaload, 1), (1213, .invokevirtual 143, 3), (1216, .if_icmp .eq 411, 3), (1219, .iconst 0, 1), (1220, .ireturn, 1), (1221, .aload_n 1, 1), (1222, .aload_n 0, 1), (1223, .iload_n 3, 1), (1224, .iconst 1, 1), (1225, .iadd, 1), (1226, .iaload, 1), (1227, .invokevirtual 144, 3), (1230, .aload_n 2, 1), (1231, .aload_n 0, 1)]
def k_L_law_17 : List (Nat × Instr × Nat) := [(1232, .iload_n 3, 1), (1233, .iconst 1, 1), (1234, .iadd, 1), (1235, .iaload, 1), (1236, .invokevirtual 147, 3), (1239, .lcmp, 1), (1240, .ifCond .eq 387, 3), (1243, .iconst 0, 1), (1244, .ireturn, 1), (1245, .aload_n 1, 1), (1246, .aload_n 0, 1), (1247, .iload_n 3, 1), (1248, .iconst 1, 1), (1249, .iadd, 1), (1250, .iaload, 1), (1251, .aload_n 0, 1), (1252, .iload_n 3, 1), (1253, .iconst 2, 1), (1254, .iadd, 1), (1255, .iaload, 1), (1256, .invokevirtual 148, 3), (1259, .aload_n 2, 1), (1260, .aload_n 0, 1), (1261, .iload_n 3, 1), (1262, .iconst 1, 1), (1263, .iadd, 1), (1264, .iaload, 1), (1265, .aload_n 0, 1), (1266, .iload_n 3, 1), (1267, .iconst 2, 1), (1268, .iadd, 1), (1269, .iaload, 1), (1270, .invokevirtual 151, 3), (1273, .if_icmp .eq 354, 3), (1276, .iconst 0, 1), (1277, .ireturn, 1), (1278, .aload_n 1, 1), (1279, .aload_n 0, 1), (1280, .iload_n 3, 1), (1281, .iconst 1, 1), (1282, .iadd, 1), (1283, .iaload, 1), (1284, .aload_n 0, 1), (1285, .iload_n 3, 1), (1286, .iconst 2, 1), (1287, .iadd, 1), (1288, .iaload, 1), (1289, .aload_n 0, 1), (1290, .iload_n 3, 1), (1291, .iconst 3, 1)]
def k_L_law_18 : List (Nat × Instr × Nat) := [(1292, .iadd, 1), (1293, .iaload, 1), (1294, .invokevirtual 152, 3), (1297, .aload_n 2, 1), (1298, .aload_n 0, 1), (1299, .iload_n 3, 1), (1300, .iconst 1, 1), (1301, .iadd, 1), (1302, .iaload, 1), (1303, .aload_n 0, 1), (1304, .iload_n 3, 1), (1305, .iconst 2, 1), (1306, .iadd, 1), (1307, .iaload, 1), (1308, .aload_n 0, 1), (1309, .iload_n 3, 1), (1310, .iconst 3, 1), (1311, .iadd, 1), (1312, .iaload, 1), (1313, .invokevirtual 155, 3), (1316, .if_icmp .eq 311, 3), (1319, .iconst 0, 1), (1320, .ireturn, 1), (1321, .aload_n 1, 1), (1322, .aload_n 0, 1), (1323, .iload_n 3, 1), (1324, .iconst 1, 1), (1325, .iadd, 1), (1326, .iaload, 1), (1327, .aload_n 0, 1), (1328, .iload_n 3, 1), (1329, .iconst 2, 1), (1330, .iadd, 1), (1331, .iaload, 1), (1332, .aload_n 0, 1), (1333, .iload_n 3, 1), (1334, .iconst 3, 1), (1335, .iadd, 1), (1336, .iaload, 1), (1337, .aload_n 0, 1), (1338, .iload_n 3, 1), (1339, .iconst 4, 1), (1340, .iadd, 1), (1341, .iaload, 1), (1342, .invokevirtual 156, 3), (1345, .aload_n 2, 1), (1346, .aload_n 0, 1), (1347, .iload_n 3, 1), (1348, .iconst 1, 1), (1349, .iadd, 1)]
def k_L_law_19 : List (Nat × Instr × Nat) := [(1350, .iaload, 1), (1351, .aload_n 0, 1), (1352, .iload_n 3, 1), (1353, .iconst 2, 1), (1354, .iadd, 1), (1355, .iaload, 1), (1356, .aload_n 0, 1), (1357, .iload_n 3, 1), (1358, .iconst 3, 1), (1359, .iadd, 1), (1360, .iaload, 1), (1361, .aload_n 0, 1), (1362, .iload_n 3, 1), (1363, .iconst 4, 1), (1364, .iadd, 1), (1365, .iaload, 1), (1366, .invokevirtual 160, 3), (1369, .lcmp, 1), (1370, .ifCond .eq 257, 3), (1373, .iconst 0, 1), (1374, .ireturn, 1), (1375, .aload_n 1, 1), (1376, .aload_n 0, 1), (1377, .iload_n 3, 1), (1378, .iconst 1, 1), (1379, .iadd, 1), (1380, .iaload, 1), (1381, .aload_n 0, 1), (1382, .iload_n 3, 1), (1383, .iconst 2, 1), (1384, .iadd, 1), (1385, .iaload, 1), (1386, .invokevirtual 161, 3), (1389, .aload_n 2, 1), (1390, .aload_n 0, 1), (1391, .iload_n 3, 1), (1392, .iconst 1, 1), (1393, .iadd, 1), (1394, .iaload, 1), (1395, .aload_n 0, 1), (1396, .iload_n 3, 1), (1397, .iconst 2, 1), (1398, .iadd, 1), (1399, .iaload, 1), (1400, .invokevirtual 164, 3), (1403, .if_icmp .eq 224, 3), (1406, .iconst 0, 1), (1407, .ireturn, 1), (1408, .aload_n 1, 1), (1409, .aload_n 0, 1)]
def k_L_law_20 : List (Nat × Instr × Nat) := [(1410, .iload_n 3, 1), (1411, .iconst 1, 1), (1412, .iadd, 1), (1413, .iaload, 1), (1414, .aload_n 0, 1), (1415, .iload_n 3, 1), (1416, .iconst 2, 1), (1417, .iadd, 1), (1418, .iaload, 1), (1419, .aload_n 0, 1), (1420, .iload_n 3, 1), (1421, .iconst 3, 1), (1422, .iadd, 1), (1423, .iaload, 1), (1424, .invokevirtual 165, 3), (1427, .aload_n 2, 1), (1428, .aload_n 0, 1), (1429, .iload_n 3, 1), (1430, .iconst 1, 1), (1431, .iadd, 1), (1432, .iaload, 1), (1433, .aload_n 0, 1), (1434, .iload_n 3, 1), (1435, .iconst 2, 1), (1436, .iadd, 1), (1437, .iaload, 1), (1438, .aload_n 0, 1), (1439, .iload_n 3, 1), (1440, .iconst 3, 1), (1441, .iadd, 1), (1442, .iaload, 1), (1443, .invokevirtual 168, 3), (1446, .if_icmp .eq 181, 3), (1449, .iconst 0, 1), (1450, .ireturn, 1), (1451, .aload_n 1, 1), (1452, .aload_n 0, 1), (1453, .iload_n 3, 1), (1454, .iconst 1, 1), (1455, .iadd, 1), (1456, .iaload, 1), (1457, .aload_n 0, 1), (1458, .iload_n 3, 1), (1459, .iconst 2, 1), (1460, .iadd, 1), (1461, .iaload, 1), (1462, .aload_n 0, 1), (1463, .iload_n 3, 1), (1464, .iconst 3, 1), (1465, .iadd, 1)]
def k_L_law_21 : List (Nat × Instr × Nat) := [(1466, .iaload, 1), (1467, .i2l, 1), (1468, .bipush 32, 2), (1470, .lshl, 1), (1471, .aload_n 0, 1), (1472, .iload_n 3, 1), (1473, .iconst 4, 1), (1474, .iadd, 1), (1475, .iaload, 1), (1476, .i2l, 1), (1477, .ldc2_w 169, 3), (1480, .land, 1), (1481, .lor, 1), (1482, .invokevirtual 171, 3), (1485, .aload_n 2, 1), (1486, .aload_n 0, 1), (1487, .iload_n 3, 1), (1488, .iconst 1, 1), (1489, .iadd, 1), (1490, .iaload, 1), (1491, .aload_n 0, 1), (1492, .iload_n 3, 1), (1493, .iconst 2, 1), (1494, .iadd, 1), (1495, .iaload, 1), (1496, .aload_n 0, 1), (1497, .iload_n 3, 1), (1498, .iconst 3, 1), (1499, .iadd, 1), (1500, .iaload, 1), (1501, .i2l, 1), (1502, .bipush 32, 2), (1504, .lshl, 1), (1505, .aload_n 0, 1), (1506, .iload_n 3, 1), (1507, .iconst 4, 1), (1508, .iadd, 1), (1509, .iaload, 1), (1510, .i2l, 1), (1511, .ldc2_w 169, 3), (1514, .land, 1), (1515, .lor, 1), (1516, .invokevirtual 175, 3), (1519, .lcmp, 1), (1520, .ifCond .eq 107, 3), (1523, .iconst 0, 1), (1524, .ireturn, 1), (1525, .aload_n 1, 1), (1526, .aload_n 0, 1), (1527, .iload_n 3, 1)]
def k_L_law_22 : List (Nat × Instr × Nat) := [(1528, .iconst 1, 1), (1529, .iadd, 1), (1530, .iaload, 1), (1531, .aload_n 0, 1), (1532, .iload_n 3, 1), (1533, .iconst 2, 1), (1534, .iadd, 1), (1535, .iaload, 1), (1536, .invokevirtual 176, 3), (1539, .aload_n 2, 1), (1540, .aload_n 0, 1), (1541, .iload_n 3, 1), (1542, .iconst 1, 1), (1543, .iadd, 1), (1544, .iaload, 1), (1545, .aload_n 0, 1), (1546, .iload_n 3, 1), (1547, .iconst 2, 1), (1548, .iadd, 1), (1549, .iaload, 1), (1550, .invokevirtual 179, 3), (1553, .if_icmp .eq 74, 3), (1556, .iconst 0, 1), (1557, .ireturn, 1), (1558, .aload_n 1, 1), (1559, .aload_n 0, 1), (1560, .iload_n 3, 1), (1561, .iconst 1, 1), (1562, .iadd, 1), (1563, .iaload, 1), (1564, .invokevirtual 180, 3), (1567, .aload_n 2, 1), (1568, .aload_n 0, 1), (1569, .iload_n 3, 1), (1570, .iconst 1, 1), (1571, .iadd, 1), (1572, .iaload, 1), (1573, .invokevirtual 183, 3), (1576, .if_icmp .eq 51, 3), (1579, .iconst 0, 1), (1580, .ireturn, 1), (1581, .aload_n 1, 1), (1582, .aload_n 0, 1), (1583, .iload_n 3, 1), (1584, .iconst 1, 1), (1585, .iadd, 1), (1586, .iaload, 1), (1587, .invokevirtual 184, 3), (1590, .aload_n 2, 1), (1591, .aload_n 0, 1)]
def k_L_law_23 : List (Nat × Instr × Nat) := [(1592, .iload_n 3, 1), (1593, .iconst 1, 1), (1594, .iadd, 1), (1595, .iaload, 1), (1596, .invokevirtual 187, 3), (1599, .if_icmp .eq 28, 3), (1602, .iconst 0, 1), (1603, .ireturn, 1), (1604, .aload_n 1, 1), (1605, .aload_n 0, 1), (1606, .iload_n 3, 1), (1607, .iconst 1, 1), (1608, .iadd, 1), (1609, .iaload, 1), (1610, .invokevirtual 188, 3), (1613, .aload_n 2, 1), (1614, .aload_n 0, 1), (1615, .iload_n 3, 1), (1616, .iconst 1, 1), (1617, .iadd, 1), (1618, .iaload, 1), (1619, .invokevirtual 191, 3), (1622, .if_icmp .eq 5, 3), (1625, .iconst 0, 1), (1626, .ireturn, 1), (1627, .iinc 3 6, 3), (1630, .goto (-1612), 3), (1633, .iconst 1, 1), (1634, .ireturn, 1)]
def k_L_law : List (Nat × Instr × Nat) := k_L_law_0 ++ (k_L_law_1 ++ (k_L_law_2 ++ (k_L_law_3 ++ (k_L_law_4 ++ (k_L_law_5 ++ (k_L_law_6 ++ (k_L_law_7 ++ (k_L_law_8 ++ (k_L_law_9 ++ (k_L_law_10 ++ (k_L_law_11 ++ (k_L_law_12 ++ (k_L_law_13 ++ (k_L_law_14 ++ (k_L_law_15 ++ (k_L_law_16 ++ (k_L_law_17 ++ (k_L_law_18 ++ (k_L_law_19 ++ (k_L_law_20 ++ (k_L_law_21 ++ (k_L_law_22 ++ (k_L_law_23)))))))))))))))))))))))
def kAll_0 : List (List (Nat × Instr × Nat)) := [k_Ch_new, k_Ch_begin, k_Ch_spread, k_Hi_new, k_Hi_keep, k_Hi_bringBack, k_Hi_forget, k_La_new, k_La_value, k_La_joined, k_Pg_new, k_Pg_copy, k_Pg_isDrawn, k_Pg_isFound, k_Pg_habitOf, k_Pg_whyNotDraw, k_Pg_draw, k_Pg_mark, k_Pg_erase, k_Pg_adopt, k_Pg_setHabit, k_Pg_conceal, k_Pg_obey, k_Pg_clear, k_Pa_new, k_Pa_begin, k_Pa_makeRoom, k_Pa_spread, k_Pa_strokesTo, k_Pa_rankOf, k_Pa_solve, k_Pa_isBeyond, k_Pa_settle, k_Pa_worth, k_Pa_most, k_Pa_least, k_Pa_played, k_Pa_trace, k_Pa_nextStep, k_Pa_leads]
def kAll_1 : List (List (Nat × Instr × Nat)) := [k_Pa_step, k_Pa_firstWinning, k_Pa_reached, k_Pa_needed, k_Pa_opens, k_Pa_tally, k_Pa_tallyAt, k_Pa_passOn, k_Pe_new, k_Pe_serve, k_Pe_open, k_Pe_learn, k_Re_new, k_Re_read, k_Re_forget, k_Re_refuse, k_Re_expect, k_Re_number, k_Re_head, k_Re_line, k_Re_rowLine, k_Re_handLine, k_Re_drawnLine, k_Re_beginLaw, k_Re_truth, k_Re_unit, k_Re_mayNest, k_Re_comparison, k_Re_sum, k_Re_atom, k_Re_fact, k_Re_emit, k_Se_new, k_Se_refusal, k_Se_fitting, k_Se_fits, k_Se_telling, k_Se_lesserPart, k_Se_findAble, k_Se_authors]
def kAll_2 : List (List (Nat × Instr × Nat)) := [k_Se_fewestChanges, k_Se_fewestAfter, k_Se_changesBy, k_Se_chooseAuthors, k_Se_author, k_Se_fewestCovering, k_Se_union, k_Sh_new, k_Sh_hasHand, k_Sh_hasCell, k_Sh_kindOf, k_Sh_near, k_Sh_left, k_Sh_steps, k_Sh_oddsOf, k_Sh_allOdds, k_Sh_tellPlace, k_Sh_holds, k_Sh_allows, k_Sh_nearness, k_To_new, k_To_open, k_To_append, k_To_tokenEnd, k_To_isLetter, k_To_isDigit, k_To_codeOf, k_To_wordCode, k_To_isWord, k_To_numberCode, k_To_advance, k_Tr_new, k_Tr_isMissing, k_Tr_lay, k_Tr_at, k_Tr_put, k_Tr_cut, k_Tr_isWithin, k_X_new, k_X_feed]
def kAll_3 : List (List (Nat × Instr × Nat)) := [k_X_tapeFour, k_X_sheet, k_X_fault, k_X_cell, k_X_handsFor, k_X_hand, k_X_cellsFor, k_X_stroke, k_X_rub, k_X_keptLeft, k_X_habit, k_X_hide, k_X_undo, k_X_judge, k_X_perform, k_X_keptIfAny, k_X_night, k_X_shaken, k_X_nightDeed, k_X_longest, k_X_refusedCell, k_X_longWay, k_X_stuck, k_X_stuckWay, k_X_soonest, k_X_way, k_X_reach, k_X_ahead, k_X_rows, k_X_ends, k_X_likely, k_X_inLowestTerms, k_X_safest, k_X_isPart, k_X_likeliest, k_X_wins, k_X_isNoGame, k_X_best, k_X_lasts, k_X_habits]
def kAll_4 : List (List (Nat × Instr × Nat)) := [k_X_look, k_X_carried, k_X_changes, k_X_covers, k_X_chance, k_X_latest, k_X_isTray, k_X_numbers, k_X_write, k_X_lists, k_X_image, k_X_restore, k_X_count, k_M_within, k_M_new, k_M_plain, k_M_feed, k_M_see, k_M_isSmall, k_M_isDigit, k_M_keyAt, k_M_next, k_M_fails, k_M_is, k_M_eats, k_M_takes, k_M_isIn, k_M_wordOf, k_M_codes, k_M_goesIn, k_M_readAtom, k_M_readTerm, k_M_readSum, k_M_readUnit, k_M_readBoth, k_M_readTruth, k_M_readRow, k_M_readHand, k_M_readDrawn, k_M_readLaw]
def kAll_5 : List (List (Nat × Instr × Nat)) := [k_M_readLine, k_M_ends1, k_M_sheet, k_M_fault, k_M_cells, k_M_isCell, k_M_isHand, k_M_bitsOf, k_M_everyCell, k_M_apart, k_M_farOf, k_M_nearOf, k_M_between, k_M_reckons, k_M_mayDraw, k_M_oddsOf, k_M_oddsAll, k_M_isFound, k_M_mayNow, k_M_handsOf, k_M_cellsOf, k_M_cell, k_M_hand, k_M_keeps, k_M_isAgain, k_M_notes, k_M_whyStroke, k_M_whyRub, k_M_whyHide, k_M_draws, k_M_rubs, k_M_leftNow, k_M_stroke, k_M_rub, k_M_habit, k_M_hide, k_M_undo, k_M_whyNot, k_M_does, k_M_tells]
def kAll_6 : List (List (Nat × Instr × Nat)) := [k_M_noTray, k_M_judge, k_M_perform, k_M_draw, k_M_drawnDeed, k_M_night, k_M_standOf, k_M_standNow, k_M_canBe, k_M_laysMays, k_M_behindStroke, k_M_stillBy, k_M_stillAt, k_M_laysStill, k_M_laysRow, k_M_noGoal, k_M_longest, k_M_rowAt, k_M_longWay, k_M_stuck, k_M_stuckWay, k_M_soonest, k_M_way, k_M_laysMany, k_M_reachBut, k_M_reach, k_M_ahead, k_M_rows, k_M_ends, k_M_common, k_M_part, k_M_likely, k_M_laysSafest, k_M_safeBy, k_M_safest, k_M_likeliest, k_M_gameBy, k_M_gameAt, k_M_mayAt, k_M_laysGame]
def kAll_7 : List (List (Nat × Instr × Nat)) := [k_M_isGame, k_M_wins, k_M_best, k_M_lasts, k_M_noSeen, k_M_noSeenBy, k_M_mayAs, k_M_habitsOf, k_M_habits, k_M_mayBy, k_M_look, k_M_handsAs, k_M_carried, k_M_fewBy, k_M_laysFew, k_M_changes, k_M_covers, k_M_wholeOf, k_M_chanceOf, k_M_commonOf, k_M_chance, k_M_latest, k_M_cut, k_M_numbers, k_M_write, k_M_lists, k_M_image, k_M_restore, k_M_count, k_In_bitCount, k_St_length, k_St_charAt, k_St_indexOf, k_St_indexOf2, k_St_coder, k_St_isLatin1, k_St_checkIndex, k_S1_charAt, k_S1_canEncode, k_S1_indexOf]
def kAll_8 : List (List (Nat × Instr × Nat)) := [k_S1_indexOfChar, k_Ar_fill, k_Ar_fill2, k_Ar_copyOf, k_Pr_checkIndex, k_Pr_checkFromToIndex, k_L_law]
def codeB : List (List (List (Nat × Instr × Nat))) := [kAll_0, kAll_1, kAll_2, kAll_3, kAll_4, kAll_5, kAll_6, kAll_7, kAll_8]
def codeM (u : Nat) : List (Nat × Instr × Nat) := nth (nth codeB (u / 40) []) (u % 40) []
end
section
/-! the tables against the claim: code rows, words (written by gen15.py) -/
def RCl : List String := [RX0, RX1, RX2, RX3, RX4, RX5, RX6, RX7, RX8, RX9, RX10, RX11, RX12, RJ0, RL, RJ1, RJ9, RJ6, RJ7, RJ3]
def RC (i : Nat) : String := nth RCl i ""
def TCl : List u_T := [TX0, TX1, TX2, TX3, TX4, TX5, TX6, TX7, TX8, TX9, TX10, TX11, TX12]
def TC (i : Nat) : u_T := nth TCl i TX0
def tyCl : List (Nat → FieldType) := [tyX0, tyX1, tyX2, tyX3, tyX4, tyX5, tyX6, tyX7, tyX8, tyX9, tyX10, tyX11, tyX12]
def tyC (i : Nat) : Nat → FieldType := nth tyCl i tyX0
def yMl : List MethodName := [yX0_init, yX0_begin, yX0_spread, yX1_init, yX1_keep, yX1_bringBack, yX1_forget, yX2_init, yX2_value, yX2_joined, yX3_init, yX3_copy, yX3_isDrawn, yX3_isFound, yX3_habitOf, yX3_whyNotDraw, yX3_draw, yX3_mark, yX3_erase, yX3_adopt, yX3_setHabit, yX3_conceal, yX3_obey, yX3_clear, yX4_init, yX4_begin, yX4_makeRoom, yX4_spread, yX4_strokesTo, yX4_rankOf, yX4_solve, yX4_isBeyond, yX4_settle, yX4_worth, yX4_most, yX4_least, yX4_played, yX4_trace, yX4_nextStep, yX4_leads, yX4_step, yX4_firstWinning, yX4_reached, yX4_needed, yX4_opens, yX4_tally, yX4_tallyAt, yX4_passOn, yX5_init, yX5_serve, yX5_open, yX5_learn, yX6_init, yX6_read, yX6_forget, yX6_refuse, yX6_expect, yX6_number, yX6_head, yX6_line, yX6_rowLine, yX6_handLine, yX6_drawnLine, yX6_beginLaw, yX6_truth, yX6_unit, yX6_mayNest, yX6_comparison, yX6_sum, yX6_atom, yX6_fact, yX6_emit, yX7_init, yX7_refusal, yX7_fitting, yX7_fits, yX7_telling, yX7_lesserPart, yX7_findAble, yX7_authors, yX7_fewestChanges, yX7_fewestAfter, yX7_changesBy, yX7_chooseAuthors, yX7_author, yX7_fewestCovering, yX7_union, yX8_init, yX8_hasHand, yX8_hasCell, yX8_kindOf, yX8_near, yX8_left, yX8_steps, yX8_oddsOf, yX8_allOdds, yX8_tellPlace, yX8_holds, yX8_allows, yX8_nearness, yX9_init, yX9_open, yX9_append, yX9_tokenEnd, yX9_isLetter, yX9_isDigit, yX9_codeOf, yX9_wordCode, yX9_isWord, yX9_numberCode, yX9_advance, yX10_init, yX10_isMissing, yX10_lay, yX10_at, yX10_put, yX10_cut, yX10_isWithin, yX11_init, yX11_feed, yX11_tapeFour, yX11_sheet, yX11_fault, yX11_cell, yX11_handsFor, yX11_hand, yX11_cellsFor, yX11_stroke, yX11_rub, yX11_keptLeft, yX11_habit, yX11_hide, yX11_undo, yX11_judge, yX11_perform, yX11_keptIfAny, yX11_night, yX11_shaken, yX11_nightDeed, yX11_longest, yX11_refusedCell, yX11_longWay, yX11_stuck, yX11_stuckWay, yX11_soonest, yX11_way, yX11_reach, yX11_ahead, yX11_rows, yX11_ends, yX11_likely, yX11_inLowestTerms, yX11_safest, yX11_isPart, yX11_likeliest, yX11_wins, yX11_isNoGame, yX11_best, yX11_lasts, yX11_habits, yX11_look, yX11_carried, yX11_changes, yX11_covers, yX11_chance, yX11_latest, yX11_isTray, yX11_numbers, yX11_write, yX11_lists, yX11_image, yX11_restore, yX11_count, yX12_within, yX12_init, yX12_plain, yX12_feed, yX12_see, yX12_isSmall, yX12_isDigit, yX12_keyAt, yX12_next, yX12_fails, yX12_is, yX12_eats, yX12_takes, yX12_isIn, yX12_wordOf, yX12_codes, yX12_goesIn, yX12_readAtom, yX12_readTerm, yX12_readSum, yX12_readUnit, yX12_readBoth, yX12_readTruth, yX12_readRow, yX12_readHand, yX12_readDrawn, yX12_readLaw, yX12_readLine, yX12_ends1, yX12_sheet, yX12_fault, yX12_cells, yX12_isCell, yX12_isHand, yX12_bitsOf, yX12_everyCell, yX12_apart, yX12_farOf, yX12_nearOf, yX12_between, yX12_reckons, yX12_mayDraw, yX12_oddsOf, yX12_oddsAll, yX12_isFound, yX12_mayNow, yX12_handsOf, yX12_cellsOf, yX12_cell, yX12_hand, yX12_keeps, yX12_isAgain, yX12_notes, yX12_whyStroke, yX12_whyRub, yX12_whyHide, yX12_draws, yX12_rubs, yX12_leftNow, yX12_stroke, yX12_rub, yX12_habit, yX12_hide, yX12_undo, yX12_whyNot, yX12_does, yX12_tells, yX12_noTray, yX12_judge, yX12_perform, yX12_draw, yX12_drawnDeed, yX12_night, yX12_standOf, yX12_standNow, yX12_canBe, yX12_laysMays, yX12_behindStroke, yX12_stillBy, yX12_stillAt, yX12_laysStill, yX12_laysRow, yX12_noGoal, yX12_longest, yX12_rowAt, yX12_longWay, yX12_stuck, yX12_stuckWay, yX12_soonest, yX12_way, yX12_laysMany, yX12_reachBut, yX12_reach, yX12_ahead, yX12_rows, yX12_ends, yX12_common, yX12_part, yX12_likely, yX12_laysSafest, yX12_safeBy, yX12_safest, yX12_likeliest, yX12_gameBy, yX12_gameAt, yX12_mayAt, yX12_laysGame, yX12_isGame, yX12_wins, yX12_best, yX12_lasts, yX12_noSeen, yX12_noSeenBy, yX12_mayAs, yX12_habitsOf, yX12_habits, yX12_mayBy, yX12_look, yX12_handsAs, yX12_carried, yX12_fewBy, yX12_laysFew, yX12_changes, yX12_covers, yX12_wholeOf, yX12_chanceOf, yX12_commonOf, yX12_chance, yX12_latest, yX12_cut, yX12_numbers, yX12_write, yX12_lists, yX12_image, yX12_restore, yX12_count, yJ6_bitCount_0f7a4, yJ0_length_8abf5, yJ0_charAt_5068e, yJ0_indexOf_0f7a4, yJ0_indexOf_7cf53, yJ0_coder_7d493, yJ0_isLatin1_aae02, yJ0_checkIndex_df160, yJ1_charAt_3b067, yJ1_canEncode_9a6ad, yJ1_indexOf_4cfef, yJ1_indexOfChar_4cfef, yJ7_fill_d0a16, yJ7_fill_53178, yJ7_copyOf_59c91, yJ3_checkIndex_8e157, yJ3_checkFromToIndex_8c36e, yL_law]
def yM (u : Nat) : MethodName := nth yMl u yX0_init
def cMl : List ByteArray := [cX0_init, cX0_begin, cX0_spread, cX1_init, cX1_keep, cX1_bringBack, cX1_forget, cX2_init, cX2_value, cX2_joined, cX3_init, cX3_copy, cX3_isDrawn, cX3_isFound, cX3_habitOf, cX3_whyNotDraw, cX3_draw, cX3_mark, cX3_erase, cX3_adopt, cX3_setHabit, cX3_conceal, cX3_obey, cX3_clear, cX4_init, cX4_begin, cX4_makeRoom, cX4_spread, cX4_strokesTo, cX4_rankOf, cX4_solve, cX4_isBeyond, cX4_settle, cX4_worth, cX4_most, cX4_least, cX4_played, cX4_trace, cX4_nextStep, cX4_leads, cX4_step, cX4_firstWinning, cX4_reached, cX4_needed, cX4_opens, cX4_tally, cX4_tallyAt, cX4_passOn, cX5_init, cX5_serve, cX5_open, cX5_learn, cX6_init, cX6_read, cX6_forget, cX6_refuse, cX6_expect, cX6_number, cX6_head, cX6_line, cX6_rowLine, cX6_handLine, cX6_drawnLine, cX6_beginLaw, cX6_truth, cX6_unit, cX6_mayNest, cX6_comparison, cX6_sum, cX6_atom, cX6_fact, cX6_emit, cX7_init, cX7_refusal, cX7_fitting, cX7_fits, cX7_telling, cX7_lesserPart, cX7_findAble, cX7_authors, cX7_fewestChanges, cX7_fewestAfter, cX7_changesBy, cX7_chooseAuthors, cX7_author, cX7_fewestCovering, cX7_union, cX8_init, cX8_hasHand, cX8_hasCell, cX8_kindOf, cX8_near, cX8_left, cX8_steps, cX8_oddsOf, cX8_allOdds, cX8_tellPlace, cX8_holds, cX8_allows, cX8_nearness, cX9_init, cX9_open, cX9_append, cX9_tokenEnd, cX9_isLetter, cX9_isDigit, cX9_codeOf, cX9_wordCode, cX9_isWord, cX9_numberCode, cX9_advance, cX10_init, cX10_isMissing, cX10_lay, cX10_at, cX10_put, cX10_cut, cX10_isWithin, cX11_init, cX11_feed, cX11_tapeFour, cX11_sheet, cX11_fault, cX11_cell, cX11_handsFor, cX11_hand, cX11_cellsFor, cX11_stroke, cX11_rub, cX11_keptLeft, cX11_habit, cX11_hide, cX11_undo, cX11_judge, cX11_perform, cX11_keptIfAny, cX11_night, cX11_shaken, cX11_nightDeed, cX11_longest, cX11_refusedCell, cX11_longWay, cX11_stuck, cX11_stuckWay, cX11_soonest, cX11_way, cX11_reach, cX11_ahead, cX11_rows, cX11_ends, cX11_likely, cX11_inLowestTerms, cX11_safest, cX11_isPart, cX11_likeliest, cX11_wins, cX11_isNoGame, cX11_best, cX11_lasts, cX11_habits, cX11_look, cX11_carried, cX11_changes, cX11_covers, cX11_chance, cX11_latest, cX11_isTray, cX11_numbers, cX11_write, cX11_lists, cX11_image, cX11_restore, cX11_count, cX12_within, cX12_init, cX12_plain, cX12_feed, cX12_see, cX12_isSmall, cX12_isDigit, cX12_keyAt, cX12_next, cX12_fails, cX12_is, cX12_eats, cX12_takes, cX12_isIn, cX12_wordOf, cX12_codes, cX12_goesIn, cX12_readAtom, cX12_readTerm, cX12_readSum, cX12_readUnit, cX12_readBoth, cX12_readTruth, cX12_readRow, cX12_readHand, cX12_readDrawn, cX12_readLaw, cX12_readLine, cX12_ends1, cX12_sheet, cX12_fault, cX12_cells, cX12_isCell, cX12_isHand, cX12_bitsOf, cX12_everyCell, cX12_apart, cX12_farOf, cX12_nearOf, cX12_between, cX12_reckons, cX12_mayDraw, cX12_oddsOf, cX12_oddsAll, cX12_isFound, cX12_mayNow, cX12_handsOf, cX12_cellsOf, cX12_cell, cX12_hand, cX12_keeps, cX12_isAgain, cX12_notes, cX12_whyStroke, cX12_whyRub, cX12_whyHide, cX12_draws, cX12_rubs, cX12_leftNow, cX12_stroke, cX12_rub, cX12_habit, cX12_hide, cX12_undo, cX12_whyNot, cX12_does, cX12_tells, cX12_noTray, cX12_judge, cX12_perform, cX12_draw, cX12_drawnDeed, cX12_night, cX12_standOf, cX12_standNow, cX12_canBe, cX12_laysMays, cX12_behindStroke, cX12_stillBy, cX12_stillAt, cX12_laysStill, cX12_laysRow, cX12_noGoal, cX12_longest, cX12_rowAt, cX12_longWay, cX12_stuck, cX12_stuckWay, cX12_soonest, cX12_way, cX12_laysMany, cX12_reachBut, cX12_reach, cX12_ahead, cX12_rows, cX12_ends, cX12_common, cX12_part, cX12_likely, cX12_laysSafest, cX12_safeBy, cX12_safest, cX12_likeliest, cX12_gameBy, cX12_gameAt, cX12_mayAt, cX12_laysGame, cX12_isGame, cX12_wins, cX12_best, cX12_lasts, cX12_noSeen, cX12_noSeenBy, cX12_mayAs, cX12_habitsOf, cX12_habits, cX12_mayBy, cX12_look, cX12_handsAs, cX12_carried, cX12_fewBy, cX12_laysFew, cX12_changes, cX12_covers, cX12_wholeOf, cX12_chanceOf, cX12_commonOf, cX12_chance, cX12_latest, cX12_cut, cX12_numbers, cX12_write, cX12_lists, cX12_image, cX12_restore, cX12_count, cJ6_bitCount_0f7a4, cJ0_length_8abf5, cJ0_charAt_5068e, cJ0_indexOf_0f7a4, cJ0_indexOf_7cf53, cJ0_coder_7d493, cJ0_isLatin1_aae02, cJ0_checkIndex_df160, cJ1_charAt_3b067, cJ1_canEncode_9a6ad, cJ1_indexOf_4cfef, cJ1_indexOfChar_4cfef, cJ7_fill_d0a16, cJ7_fill_53178, cJ7_copyOf_59c91, cJ3_checkIndex_8e157, cJ3_checkFromToIndex_8c36e, cL_law]
def cM (u : Nat) : ByteArray := nth cMl u cX0_init
def rfMl : List (Option FieldType) := [none, none, none, none, none, none, none, none, (some .int), (some .int), none, none, (some .boolean), (some .boolean), (some .int), (some .int), (some .int), none, (some .int), (some .int), none, (some .int), (some .int), none, none, none, none, none, (some .int), (some .int), (some .int), (some .boolean), none, (some .int), (some .int), (some .int), (some .int), none, (some .int), (some .boolean), (some .int), (some .int), (some .int), (some .int), (some .boolean), none, none, none, none, none, (some .int), none, none, (some (.object "LastMark$Sheet")), none, none, none, (some .int), none, none, none, none, (some .int), none, none, none, (some .boolean), (some .int), none, none, (some .int), none, none, (some .int), (some .int), (some .boolean), (some .int), (some .int), none, (some .long), (some .int), (some .int), (some .int), none, (some .int), (some .int), (some .int), none, (some .boolean), (some .boolean), (some .int), (some .int), (some .int), (some .int), (some .int), (some .int), none, (some .boolean), (some .boolean), (some .long), none, none, none, (some .int), (some .boolean), (some .boolean), (some .int), (some .int), (some .boolean), (some .int), none, none, (some .boolean), none, (some .long), (some .long), (some .long), (some .boolean), none, (some .int), none, (some .int), (some .int), (some .int), (some .int), (some .int), (some .int), (some .int), (some .int), (some .int), (some .int), (some .int), (some .int), (some .int), (some .int), (some .int), (some .int), (some .int), (some .int), (some .int), (some .int), (some .int), (some .int), (some .int), (some .int), (some .int), (some .int), (some .int), (some .long), (some .long), (some .int), (some .long), (some .int), (some .boolean), (some .int), (some .int), (some .boolean), (some .int), (some .int), (some .int), (some .int), (some .long), (some .int), (some .int), (some .long), (some .int), (some .boolean), (some .int), (some .long), (some .int), (some .int), (some .int), (some .int), (some .boolean), none, none, (some .int), (some .int), (some .boolean), (some .boolean), (some .int), none, none, (some .boolean), (some .boolean), (some .int), (some .boolean), (some .int), none, (some .boolean), none, none, none, none, none, none, none, none, none, none, none, none, (some .int), (some .int), (some .int), (some .boolean), (some .boolean), (some .int), (some .int), (some .int), (some .int), (some .int), (some .int), (some .int), (some .boolean), (some .int), (some .int), (some .boolean), (some .boolean), (some .int), (some .int), (some .int), (some .int), none, none, none, (some .int), (some .int), (some .int), none, none, (some .int), (some .int), (some .int), (some .int), (some .int), (some .int), (some .int), none, (some .int), (some .int), (some .int), (some .int), (some .int), (some .int), (some .int), (some .int), (some .int), (some .boolean), none, (some .int), (some .int), (some .int), (some .int), (some .int), (some .int), (some .int), (some .int), (some .int), (some .int), (some .int), (some .int), (some .int), none, (some .int), (some .int), (some .int), (some .long), (some .long), (some .int), (some .int), (some .int), (some .int), (some .int), (some .int), (some .int), (some .int), (some .int), (some .int), (some .int), (some .boolean), (some .int), (some .int), (some .int), (some .int), (some .int), (some .boolean), (some .int), (some .int), (some .int), (some .int), (some .int), (some .long), (some .int), none, (some .int), (some .int), (some .long), (some .long), (some .long), (some .long), (some .int), (some .long), (some .int), (some .long), (some .int), (some .int), (some .int), (some .int), (some .int), (some .int), (some .char), (some .int), (some .int), (some .byte), (some .boolean), none, (some .char), (some .boolean), (some .int), (some .int), none, none, (some (.array .int)), (some .int), (some .int), (some .boolean)]
def rfM (u : Nat) : Option FieldType := nth rfMl u none
def ckR (b : ByteArray) (e : Nat × Instr × Nat) : Bool := decide (decode b e.1 = .ok (e.2.1, e.2.2))
theorem ck_Ch_new : k_Ch_new.all (ckR cX0_init) = true := by decide +kernel
theorem ck_Ch_begin : k_Ch_begin.all (ckR cX0_begin) = true := by decide +kernel
theorem ck_Ch_spread : k_Ch_spread.all (ckR cX0_spread) = true := by decide +kernel
theorem ck_Hi_new : k_Hi_new.all (ckR cX1_init) = true := by decide +kernel
theorem ck_Hi_keep : k_Hi_keep.all (ckR cX1_keep) = true := by decide +kernel
theorem ck_Hi_bringBack : k_Hi_bringBack.all (ckR cX1_bringBack) = true := by decide +kernel
theorem ck_Hi_forget : k_Hi_forget.all (ckR cX1_forget) = true := by decide +kernel
theorem ck_La_new : k_La_new.all (ckR cX2_init) = true := by decide +kernel
theorem ck_La_value : k_La_value.all (ckR cX2_value) = true := by decide +kernel
theorem ck_La_joined : k_La_joined.all (ckR cX2_joined) = true := by decide +kernel
theorem ck_Pg_new : k_Pg_new.all (ckR cX3_init) = true := by decide +kernel
theorem ck_Pg_copy : k_Pg_copy.all (ckR cX3_copy) = true := by decide +kernel
theorem ck_Pg_isDrawn : k_Pg_isDrawn.all (ckR cX3_isDrawn) = true := by decide +kernel
theorem ck_Pg_isFound : k_Pg_isFound.all (ckR cX3_isFound) = true := by decide +kernel
theorem ck_Pg_habitOf : k_Pg_habitOf.all (ckR cX3_habitOf) = true := by decide +kernel
theorem ck_Pg_whyNotDraw : k_Pg_whyNotDraw.all (ckR cX3_whyNotDraw) = true := by decide +kernel
theorem ck_Pg_draw : k_Pg_draw.all (ckR cX3_draw) = true := by decide +kernel
theorem ck_Pg_mark : k_Pg_mark.all (ckR cX3_mark) = true := by decide +kernel
theorem ck_Pg_erase : k_Pg_erase.all (ckR cX3_erase) = true := by decide +kernel
theorem ck_Pg_adopt : k_Pg_adopt.all (ckR cX3_adopt) = true := by decide +kernel
theorem ck_Pg_setHabit : k_Pg_setHabit.all (ckR cX3_setHabit) = true := by decide +kernel
theorem ck_Pg_conceal : k_Pg_conceal.all (ckR cX3_conceal) = true := by decide +kernel
theorem ck_Pg_obey : k_Pg_obey.all (ckR cX3_obey) = true := by decide +kernel
theorem ck_Pg_clear : k_Pg_clear.all (ckR cX3_clear) = true := by decide +kernel
theorem ck_Pa_new : k_Pa_new.all (ckR cX4_init) = true := by decide +kernel
theorem ck_Pa_begin : k_Pa_begin.all (ckR cX4_begin) = true := by decide +kernel
theorem ck_Pa_makeRoom : k_Pa_makeRoom.all (ckR cX4_makeRoom) = true := by decide +kernel
theorem ck_Pa_spread : k_Pa_spread.all (ckR cX4_spread) = true := by decide +kernel
theorem ck_Pa_strokesTo : k_Pa_strokesTo.all (ckR cX4_strokesTo) = true := by decide +kernel
theorem ck_Pa_rankOf : k_Pa_rankOf.all (ckR cX4_rankOf) = true := by decide +kernel
theorem ck_Pa_solve : k_Pa_solve.all (ckR cX4_solve) = true := by decide +kernel
theorem ck_Pa_isBeyond : k_Pa_isBeyond.all (ckR cX4_isBeyond) = true := by decide +kernel
theorem ck_Pa_settle : k_Pa_settle.all (ckR cX4_settle) = true := by decide +kernel
theorem ck_Pa_worth : k_Pa_worth.all (ckR cX4_worth) = true := by decide +kernel
theorem ck_Pa_most : k_Pa_most.all (ckR cX4_most) = true := by decide +kernel
theorem ck_Pa_least : k_Pa_least.all (ckR cX4_least) = true := by decide +kernel
theorem ck_Pa_played : k_Pa_played.all (ckR cX4_played) = true := by decide +kernel
theorem ck_Pa_trace : k_Pa_trace.all (ckR cX4_trace) = true := by decide +kernel
theorem ck_Pa_nextStep : k_Pa_nextStep.all (ckR cX4_nextStep) = true := by decide +kernel
theorem ck_Pa_leads : k_Pa_leads.all (ckR cX4_leads) = true := by decide +kernel
theorem ck_Pa_step : k_Pa_step.all (ckR cX4_step) = true := by decide +kernel
theorem ck_Pa_firstWinning : k_Pa_firstWinning.all (ckR cX4_firstWinning) = true := by decide +kernel
theorem ck_Pa_reached : k_Pa_reached.all (ckR cX4_reached) = true := by decide +kernel
theorem ck_Pa_needed : k_Pa_needed.all (ckR cX4_needed) = true := by decide +kernel
theorem ck_Pa_opens : k_Pa_opens.all (ckR cX4_opens) = true := by decide +kernel
theorem ck_Pa_tally : k_Pa_tally.all (ckR cX4_tally) = true := by decide +kernel
theorem ck_Pa_tallyAt : k_Pa_tallyAt.all (ckR cX4_tallyAt) = true := by decide +kernel
theorem ck_Pa_passOn : k_Pa_passOn.all (ckR cX4_passOn) = true := by decide +kernel
theorem ck_Pe_new : k_Pe_new.all (ckR cX5_init) = true := by decide +kernel
theorem ck_Pe_serve : k_Pe_serve.all (ckR cX5_serve) = true := by decide +kernel
theorem ck_Pe_open : k_Pe_open.all (ckR cX5_open) = true := by decide +kernel
theorem ck_Pe_learn : k_Pe_learn.all (ckR cX5_learn) = true := by decide +kernel
theorem ck_Re_new : k_Re_new.all (ckR cX6_init) = true := by decide +kernel
theorem ck_Re_read : k_Re_read.all (ckR cX6_read) = true := by decide +kernel
theorem ck_Re_forget : k_Re_forget.all (ckR cX6_forget) = true := by decide +kernel
theorem ck_Re_refuse : k_Re_refuse.all (ckR cX6_refuse) = true := by decide +kernel
theorem ck_Re_expect : k_Re_expect.all (ckR cX6_expect) = true := by decide +kernel
theorem ck_Re_number : k_Re_number.all (ckR cX6_number) = true := by decide +kernel
theorem ck_Re_head : k_Re_head.all (ckR cX6_head) = true := by decide +kernel
theorem ck_Re_line : k_Re_line.all (ckR cX6_line) = true := by decide +kernel
theorem ck_Re_rowLine : k_Re_rowLine.all (ckR cX6_rowLine) = true := by decide +kernel
theorem ck_Re_handLine : k_Re_handLine.all (ckR cX6_handLine) = true := by decide +kernel
theorem ck_Re_drawnLine : k_Re_drawnLine.all (ckR cX6_drawnLine) = true := by decide +kernel
theorem ck_Re_beginLaw : k_Re_beginLaw.all (ckR cX6_beginLaw) = true := by decide +kernel
theorem ck_Re_truth : k_Re_truth.all (ckR cX6_truth) = true := by decide +kernel
theorem ck_Re_unit : k_Re_unit.all (ckR cX6_unit) = true := by decide +kernel
theorem ck_Re_mayNest : k_Re_mayNest.all (ckR cX6_mayNest) = true := by decide +kernel
theorem ck_Re_comparison : k_Re_comparison.all (ckR cX6_comparison) = true := by decide +kernel
theorem ck_Re_sum : k_Re_sum.all (ckR cX6_sum) = true := by decide +kernel
theorem ck_Re_atom : k_Re_atom.all (ckR cX6_atom) = true := by decide +kernel
theorem ck_Re_fact : k_Re_fact.all (ckR cX6_fact) = true := by decide +kernel
theorem ck_Re_emit : k_Re_emit.all (ckR cX6_emit) = true := by decide +kernel
theorem ck_Se_new : k_Se_new.all (ckR cX7_init) = true := by decide +kernel
theorem ck_Se_refusal : k_Se_refusal.all (ckR cX7_refusal) = true := by decide +kernel
theorem ck_Se_fitting : k_Se_fitting.all (ckR cX7_fitting) = true := by decide +kernel
theorem ck_Se_fits : k_Se_fits.all (ckR cX7_fits) = true := by decide +kernel
theorem ck_Se_telling : k_Se_telling.all (ckR cX7_telling) = true := by decide +kernel
theorem ck_Se_lesserPart : k_Se_lesserPart.all (ckR cX7_lesserPart) = true := by decide +kernel
theorem ck_Se_findAble : k_Se_findAble.all (ckR cX7_findAble) = true := by decide +kernel
theorem ck_Se_authors : k_Se_authors.all (ckR cX7_authors) = true := by decide +kernel
theorem ck_Se_fewestChanges : k_Se_fewestChanges.all (ckR cX7_fewestChanges) = true := by decide +kernel
theorem ck_Se_fewestAfter : k_Se_fewestAfter.all (ckR cX7_fewestAfter) = true := by decide +kernel
theorem ck_Se_changesBy : k_Se_changesBy.all (ckR cX7_changesBy) = true := by decide +kernel
theorem ck_Se_chooseAuthors : k_Se_chooseAuthors.all (ckR cX7_chooseAuthors) = true := by decide +kernel
theorem ck_Se_author : k_Se_author.all (ckR cX7_author) = true := by decide +kernel
theorem ck_Se_fewestCovering : k_Se_fewestCovering.all (ckR cX7_fewestCovering) = true := by decide +kernel
theorem ck_Se_union : k_Se_union.all (ckR cX7_union) = true := by decide +kernel
theorem ck_Sh_new : k_Sh_new.all (ckR cX8_init) = true := by decide +kernel
theorem ck_Sh_hasHand : k_Sh_hasHand.all (ckR cX8_hasHand) = true := by decide +kernel
theorem ck_Sh_hasCell : k_Sh_hasCell.all (ckR cX8_hasCell) = true := by decide +kernel
theorem ck_Sh_kindOf : k_Sh_kindOf.all (ckR cX8_kindOf) = true := by decide +kernel
theorem ck_Sh_near : k_Sh_near.all (ckR cX8_near) = true := by decide +kernel
theorem ck_Sh_left : k_Sh_left.all (ckR cX8_left) = true := by decide +kernel
theorem ck_Sh_steps : k_Sh_steps.all (ckR cX8_steps) = true := by decide +kernel
theorem ck_Sh_oddsOf : k_Sh_oddsOf.all (ckR cX8_oddsOf) = true := by decide +kernel
theorem ck_Sh_allOdds : k_Sh_allOdds.all (ckR cX8_allOdds) = true := by decide +kernel
theorem ck_Sh_tellPlace : k_Sh_tellPlace.all (ckR cX8_tellPlace) = true := by decide +kernel
theorem ck_Sh_holds : k_Sh_holds.all (ckR cX8_holds) = true := by decide +kernel
theorem ck_Sh_allows : k_Sh_allows.all (ckR cX8_allows) = true := by decide +kernel
theorem ck_Sh_nearness : k_Sh_nearness.all (ckR cX8_nearness) = true := by decide +kernel
theorem ck_To_new : k_To_new.all (ckR cX9_init) = true := by decide +kernel
theorem ck_To_open : k_To_open.all (ckR cX9_open) = true := by decide +kernel
theorem ck_To_append : k_To_append.all (ckR cX9_append) = true := by decide +kernel
theorem ck_To_tokenEnd : k_To_tokenEnd.all (ckR cX9_tokenEnd) = true := by decide +kernel
theorem ck_To_isLetter : k_To_isLetter.all (ckR cX9_isLetter) = true := by decide +kernel
theorem ck_To_isDigit : k_To_isDigit.all (ckR cX9_isDigit) = true := by decide +kernel
theorem ck_To_codeOf : k_To_codeOf.all (ckR cX9_codeOf) = true := by decide +kernel
theorem ck_To_wordCode : k_To_wordCode.all (ckR cX9_wordCode) = true := by decide +kernel
theorem ck_To_isWord : k_To_isWord.all (ckR cX9_isWord) = true := by decide +kernel
theorem ck_To_numberCode : k_To_numberCode.all (ckR cX9_numberCode) = true := by decide +kernel
theorem ck_To_advance : k_To_advance.all (ckR cX9_advance) = true := by decide +kernel
theorem ck_Tr_new : k_Tr_new.all (ckR cX10_init) = true := by decide +kernel
theorem ck_Tr_isMissing : k_Tr_isMissing.all (ckR cX10_isMissing) = true := by decide +kernel
theorem ck_Tr_lay : k_Tr_lay.all (ckR cX10_lay) = true := by decide +kernel
theorem ck_Tr_at : k_Tr_at.all (ckR cX10_at) = true := by decide +kernel
theorem ck_Tr_put : k_Tr_put.all (ckR cX10_put) = true := by decide +kernel
theorem ck_Tr_cut : k_Tr_cut.all (ckR cX10_cut) = true := by decide +kernel
theorem ck_Tr_isWithin : k_Tr_isWithin.all (ckR cX10_isWithin) = true := by decide +kernel
theorem ck_X_new : k_X_new.all (ckR cX11_init) = true := by decide +kernel
theorem ck_X_feed : k_X_feed.all (ckR cX11_feed) = true := by decide +kernel
theorem ck_X_tapeFour : k_X_tapeFour.all (ckR cX11_tapeFour) = true := by decide +kernel
theorem ck_X_sheet : k_X_sheet.all (ckR cX11_sheet) = true := by decide +kernel
theorem ck_X_fault : k_X_fault.all (ckR cX11_fault) = true := by decide +kernel
theorem ck_X_cell : k_X_cell.all (ckR cX11_cell) = true := by decide +kernel
theorem ck_X_handsFor : k_X_handsFor.all (ckR cX11_handsFor) = true := by decide +kernel
theorem ck_X_hand : k_X_hand.all (ckR cX11_hand) = true := by decide +kernel
theorem ck_X_cellsFor : k_X_cellsFor.all (ckR cX11_cellsFor) = true := by decide +kernel
theorem ck_X_stroke : k_X_stroke.all (ckR cX11_stroke) = true := by decide +kernel
theorem ck_X_rub : k_X_rub.all (ckR cX11_rub) = true := by decide +kernel
theorem ck_X_keptLeft : k_X_keptLeft.all (ckR cX11_keptLeft) = true := by decide +kernel
theorem ck_X_habit : k_X_habit.all (ckR cX11_habit) = true := by decide +kernel
theorem ck_X_hide : k_X_hide.all (ckR cX11_hide) = true := by decide +kernel
theorem ck_X_undo : k_X_undo.all (ckR cX11_undo) = true := by decide +kernel
theorem ck_X_judge : k_X_judge.all (ckR cX11_judge) = true := by decide +kernel
theorem ck_X_perform : k_X_perform.all (ckR cX11_perform) = true := by decide +kernel
theorem ck_X_keptIfAny : k_X_keptIfAny.all (ckR cX11_keptIfAny) = true := by decide +kernel
theorem ck_X_night : k_X_night.all (ckR cX11_night) = true := by decide +kernel
theorem ck_X_shaken : k_X_shaken.all (ckR cX11_shaken) = true := by decide +kernel
theorem ck_X_nightDeed : k_X_nightDeed.all (ckR cX11_nightDeed) = true := by decide +kernel
theorem ck_X_longest : k_X_longest.all (ckR cX11_longest) = true := by decide +kernel
theorem ck_X_refusedCell : k_X_refusedCell.all (ckR cX11_refusedCell) = true := by decide +kernel
theorem ck_X_longWay : k_X_longWay.all (ckR cX11_longWay) = true := by decide +kernel
theorem ck_X_stuck : k_X_stuck.all (ckR cX11_stuck) = true := by decide +kernel
theorem ck_X_stuckWay : k_X_stuckWay.all (ckR cX11_stuckWay) = true := by decide +kernel
theorem ck_X_soonest : k_X_soonest.all (ckR cX11_soonest) = true := by decide +kernel
theorem ck_X_way : k_X_way.all (ckR cX11_way) = true := by decide +kernel
theorem ck_X_reach : k_X_reach.all (ckR cX11_reach) = true := by decide +kernel
theorem ck_X_ahead : k_X_ahead.all (ckR cX11_ahead) = true := by decide +kernel
theorem ck_X_rows : k_X_rows.all (ckR cX11_rows) = true := by decide +kernel
theorem ck_X_ends : k_X_ends.all (ckR cX11_ends) = true := by decide +kernel
theorem ck_X_likely : k_X_likely.all (ckR cX11_likely) = true := by decide +kernel
theorem ck_X_inLowestTerms : k_X_inLowestTerms.all (ckR cX11_inLowestTerms) = true := by decide +kernel
theorem ck_X_safest : k_X_safest.all (ckR cX11_safest) = true := by decide +kernel
theorem ck_X_isPart : k_X_isPart.all (ckR cX11_isPart) = true := by decide +kernel
theorem ck_X_likeliest : k_X_likeliest.all (ckR cX11_likeliest) = true := by decide +kernel
theorem ck_X_wins : k_X_wins.all (ckR cX11_wins) = true := by decide +kernel
theorem ck_X_isNoGame : k_X_isNoGame.all (ckR cX11_isNoGame) = true := by decide +kernel
theorem ck_X_best : k_X_best.all (ckR cX11_best) = true := by decide +kernel
theorem ck_X_lasts : k_X_lasts.all (ckR cX11_lasts) = true := by decide +kernel
theorem ck_X_habits : k_X_habits.all (ckR cX11_habits) = true := by decide +kernel
theorem ck_X_look : k_X_look.all (ckR cX11_look) = true := by decide +kernel
theorem ck_X_carried : k_X_carried.all (ckR cX11_carried) = true := by decide +kernel
theorem ck_X_changes : k_X_changes.all (ckR cX11_changes) = true := by decide +kernel
theorem ck_X_covers : k_X_covers.all (ckR cX11_covers) = true := by decide +kernel
theorem ck_X_chance : k_X_chance.all (ckR cX11_chance) = true := by decide +kernel
theorem ck_X_latest : k_X_latest.all (ckR cX11_latest) = true := by decide +kernel
theorem ck_X_isTray : k_X_isTray.all (ckR cX11_isTray) = true := by decide +kernel
theorem ck_X_numbers : k_X_numbers.all (ckR cX11_numbers) = true := by decide +kernel
theorem ck_X_write : k_X_write.all (ckR cX11_write) = true := by decide +kernel
theorem ck_X_lists : k_X_lists.all (ckR cX11_lists) = true := by decide +kernel
theorem ck_X_image : k_X_image.all (ckR cX11_image) = true := by decide +kernel
theorem ck_X_restore : k_X_restore.all (ckR cX11_restore) = true := by decide +kernel
theorem ck_X_count : k_X_count.all (ckR cX11_count) = true := by decide +kernel
theorem ck_M_within : k_M_within.all (ckR cX12_within) = true := by decide +kernel
theorem ck_M_new : k_M_new.all (ckR cX12_init) = true := by decide +kernel
theorem ck_M_plain : k_M_plain.all (ckR cX12_plain) = true := by decide +kernel
theorem ck_M_feed : k_M_feed.all (ckR cX12_feed) = true := by decide +kernel
theorem ck_M_see : k_M_see.all (ckR cX12_see) = true := by decide +kernel
theorem ck_M_isSmall : k_M_isSmall.all (ckR cX12_isSmall) = true := by decide +kernel
theorem ck_M_isDigit : k_M_isDigit.all (ckR cX12_isDigit) = true := by decide +kernel
theorem ck_M_keyAt : k_M_keyAt.all (ckR cX12_keyAt) = true := by decide +kernel
theorem ck_M_next : k_M_next.all (ckR cX12_next) = true := by decide +kernel
theorem ck_M_fails : k_M_fails.all (ckR cX12_fails) = true := by decide +kernel
theorem ck_M_is : k_M_is.all (ckR cX12_is) = true := by decide +kernel
theorem ck_M_eats : k_M_eats.all (ckR cX12_eats) = true := by decide +kernel
theorem ck_M_takes : k_M_takes.all (ckR cX12_takes) = true := by decide +kernel
theorem ck_M_isIn : k_M_isIn.all (ckR cX12_isIn) = true := by decide +kernel
theorem ck_M_wordOf : k_M_wordOf.all (ckR cX12_wordOf) = true := by decide +kernel
theorem ck_M_codes : k_M_codes.all (ckR cX12_codes) = true := by decide +kernel
theorem ck_M_goesIn : k_M_goesIn.all (ckR cX12_goesIn) = true := by decide +kernel
theorem ck_M_readAtom : k_M_readAtom.all (ckR cX12_readAtom) = true := by decide +kernel
theorem ck_M_readTerm : k_M_readTerm.all (ckR cX12_readTerm) = true := by decide +kernel
theorem ck_M_readSum : k_M_readSum.all (ckR cX12_readSum) = true := by decide +kernel
theorem ck_M_readUnit : k_M_readUnit.all (ckR cX12_readUnit) = true := by decide +kernel
theorem ck_M_readBoth : k_M_readBoth.all (ckR cX12_readBoth) = true := by decide +kernel
theorem ck_M_readTruth : k_M_readTruth.all (ckR cX12_readTruth) = true := by decide +kernel
theorem ck_M_readRow : k_M_readRow.all (ckR cX12_readRow) = true := by decide +kernel
theorem ck_M_readHand : k_M_readHand.all (ckR cX12_readHand) = true := by decide +kernel
theorem ck_M_readDrawn : k_M_readDrawn.all (ckR cX12_readDrawn) = true := by decide +kernel
theorem ck_M_readLaw : k_M_readLaw.all (ckR cX12_readLaw) = true := by decide +kernel
theorem ck_M_readLine : k_M_readLine.all (ckR cX12_readLine) = true := by decide +kernel
theorem ck_M_ends1 : k_M_ends1.all (ckR cX12_ends1) = true := by decide +kernel
theorem ck_M_sheet : k_M_sheet.all (ckR cX12_sheet) = true := by decide +kernel
theorem ck_M_fault : k_M_fault.all (ckR cX12_fault) = true := by decide +kernel
theorem ck_M_cells : k_M_cells.all (ckR cX12_cells) = true := by decide +kernel
theorem ck_M_isCell : k_M_isCell.all (ckR cX12_isCell) = true := by decide +kernel
theorem ck_M_isHand : k_M_isHand.all (ckR cX12_isHand) = true := by decide +kernel
theorem ck_M_bitsOf : k_M_bitsOf.all (ckR cX12_bitsOf) = true := by decide +kernel
theorem ck_M_everyCell : k_M_everyCell.all (ckR cX12_everyCell) = true := by decide +kernel
theorem ck_M_apart : k_M_apart.all (ckR cX12_apart) = true := by decide +kernel
theorem ck_M_farOf : k_M_farOf.all (ckR cX12_farOf) = true := by decide +kernel
theorem ck_M_nearOf : k_M_nearOf.all (ckR cX12_nearOf) = true := by decide +kernel
theorem ck_M_between : k_M_between.all (ckR cX12_between) = true := by decide +kernel
theorem ck_M_reckons : k_M_reckons.all (ckR cX12_reckons) = true := by decide +kernel
theorem ck_M_mayDraw : k_M_mayDraw.all (ckR cX12_mayDraw) = true := by decide +kernel
theorem ck_M_oddsOf : k_M_oddsOf.all (ckR cX12_oddsOf) = true := by decide +kernel
theorem ck_M_oddsAll : k_M_oddsAll.all (ckR cX12_oddsAll) = true := by decide +kernel
theorem ck_M_isFound : k_M_isFound.all (ckR cX12_isFound) = true := by decide +kernel
theorem ck_M_mayNow : k_M_mayNow.all (ckR cX12_mayNow) = true := by decide +kernel
theorem ck_M_handsOf : k_M_handsOf.all (ckR cX12_handsOf) = true := by decide +kernel
theorem ck_M_cellsOf : k_M_cellsOf.all (ckR cX12_cellsOf) = true := by decide +kernel
theorem ck_M_cell : k_M_cell.all (ckR cX12_cell) = true := by decide +kernel
theorem ck_M_hand : k_M_hand.all (ckR cX12_hand) = true := by decide +kernel
theorem ck_M_keeps : k_M_keeps.all (ckR cX12_keeps) = true := by decide +kernel
theorem ck_M_isAgain : k_M_isAgain.all (ckR cX12_isAgain) = true := by decide +kernel
theorem ck_M_notes : k_M_notes.all (ckR cX12_notes) = true := by decide +kernel
theorem ck_M_whyStroke : k_M_whyStroke.all (ckR cX12_whyStroke) = true := by decide +kernel
theorem ck_M_whyRub : k_M_whyRub.all (ckR cX12_whyRub) = true := by decide +kernel
theorem ck_M_whyHide : k_M_whyHide.all (ckR cX12_whyHide) = true := by decide +kernel
theorem ck_M_draws : k_M_draws.all (ckR cX12_draws) = true := by decide +kernel
theorem ck_M_rubs : k_M_rubs.all (ckR cX12_rubs) = true := by decide +kernel
theorem ck_M_leftNow : k_M_leftNow.all (ckR cX12_leftNow) = true := by decide +kernel
theorem ck_M_stroke : k_M_stroke.all (ckR cX12_stroke) = true := by decide +kernel
theorem ck_M_rub : k_M_rub.all (ckR cX12_rub) = true := by decide +kernel
theorem ck_M_habit : k_M_habit.all (ckR cX12_habit) = true := by decide +kernel
theorem ck_M_hide : k_M_hide.all (ckR cX12_hide) = true := by decide +kernel
theorem ck_M_undo : k_M_undo.all (ckR cX12_undo) = true := by decide +kernel
theorem ck_M_whyNot : k_M_whyNot.all (ckR cX12_whyNot) = true := by decide +kernel
theorem ck_M_does : k_M_does.all (ckR cX12_does) = true := by decide +kernel
theorem ck_M_tells : k_M_tells.all (ckR cX12_tells) = true := by decide +kernel
theorem ck_M_noTray : k_M_noTray.all (ckR cX12_noTray) = true := by decide +kernel
theorem ck_M_judge : k_M_judge.all (ckR cX12_judge) = true := by decide +kernel
theorem ck_M_perform : k_M_perform.all (ckR cX12_perform) = true := by decide +kernel
theorem ck_M_draw : k_M_draw.all (ckR cX12_draw) = true := by decide +kernel
theorem ck_M_drawnDeed : k_M_drawnDeed.all (ckR cX12_drawnDeed) = true := by decide +kernel
theorem ck_M_night : k_M_night.all (ckR cX12_night) = true := by decide +kernel
theorem ck_M_standOf : k_M_standOf.all (ckR cX12_standOf) = true := by decide +kernel
theorem ck_M_standNow : k_M_standNow.all (ckR cX12_standNow) = true := by decide +kernel
theorem ck_M_canBe : k_M_canBe.all (ckR cX12_canBe) = true := by decide +kernel
theorem ck_M_laysMays : k_M_laysMays.all (ckR cX12_laysMays) = true := by decide +kernel
theorem ck_M_behindStroke : k_M_behindStroke.all (ckR cX12_behindStroke) = true := by decide +kernel
theorem ck_M_stillBy : k_M_stillBy.all (ckR cX12_stillBy) = true := by decide +kernel
theorem ck_M_stillAt : k_M_stillAt.all (ckR cX12_stillAt) = true := by decide +kernel
theorem ck_M_laysStill : k_M_laysStill.all (ckR cX12_laysStill) = true := by decide +kernel
theorem ck_M_laysRow : k_M_laysRow.all (ckR cX12_laysRow) = true := by decide +kernel
theorem ck_M_noGoal : k_M_noGoal.all (ckR cX12_noGoal) = true := by decide +kernel
theorem ck_M_longest : k_M_longest.all (ckR cX12_longest) = true := by decide +kernel
theorem ck_M_rowAt : k_M_rowAt.all (ckR cX12_rowAt) = true := by decide +kernel
theorem ck_M_longWay : k_M_longWay.all (ckR cX12_longWay) = true := by decide +kernel
theorem ck_M_stuck : k_M_stuck.all (ckR cX12_stuck) = true := by decide +kernel
theorem ck_M_stuckWay : k_M_stuckWay.all (ckR cX12_stuckWay) = true := by decide +kernel
theorem ck_M_soonest : k_M_soonest.all (ckR cX12_soonest) = true := by decide +kernel
theorem ck_M_way : k_M_way.all (ckR cX12_way) = true := by decide +kernel
theorem ck_M_laysMany : k_M_laysMany.all (ckR cX12_laysMany) = true := by decide +kernel
theorem ck_M_reachBut : k_M_reachBut.all (ckR cX12_reachBut) = true := by decide +kernel
theorem ck_M_reach : k_M_reach.all (ckR cX12_reach) = true := by decide +kernel
theorem ck_M_ahead : k_M_ahead.all (ckR cX12_ahead) = true := by decide +kernel
theorem ck_M_rows : k_M_rows.all (ckR cX12_rows) = true := by decide +kernel
theorem ck_M_ends : k_M_ends.all (ckR cX12_ends) = true := by decide +kernel
theorem ck_M_common : k_M_common.all (ckR cX12_common) = true := by decide +kernel
theorem ck_M_part : k_M_part.all (ckR cX12_part) = true := by decide +kernel
theorem ck_M_likely : k_M_likely.all (ckR cX12_likely) = true := by decide +kernel
theorem ck_M_laysSafest : k_M_laysSafest.all (ckR cX12_laysSafest) = true := by decide +kernel
theorem ck_M_safeBy : k_M_safeBy.all (ckR cX12_safeBy) = true := by decide +kernel
theorem ck_M_safest : k_M_safest.all (ckR cX12_safest) = true := by decide +kernel
theorem ck_M_likeliest : k_M_likeliest.all (ckR cX12_likeliest) = true := by decide +kernel
theorem ck_M_gameBy : k_M_gameBy.all (ckR cX12_gameBy) = true := by decide +kernel
theorem ck_M_gameAt : k_M_gameAt.all (ckR cX12_gameAt) = true := by decide +kernel
theorem ck_M_mayAt : k_M_mayAt.all (ckR cX12_mayAt) = true := by decide +kernel
theorem ck_M_laysGame : k_M_laysGame.all (ckR cX12_laysGame) = true := by decide +kernel
theorem ck_M_isGame : k_M_isGame.all (ckR cX12_isGame) = true := by decide +kernel
theorem ck_M_wins : k_M_wins.all (ckR cX12_wins) = true := by decide +kernel
theorem ck_M_best : k_M_best.all (ckR cX12_best) = true := by decide +kernel
theorem ck_M_lasts : k_M_lasts.all (ckR cX12_lasts) = true := by decide +kernel
theorem ck_M_noSeen : k_M_noSeen.all (ckR cX12_noSeen) = true := by decide +kernel
theorem ck_M_noSeenBy : k_M_noSeenBy.all (ckR cX12_noSeenBy) = true := by decide +kernel
theorem ck_M_mayAs : k_M_mayAs.all (ckR cX12_mayAs) = true := by decide +kernel
theorem ck_M_habitsOf : k_M_habitsOf.all (ckR cX12_habitsOf) = true := by decide +kernel
theorem ck_M_habits : k_M_habits.all (ckR cX12_habits) = true := by decide +kernel
theorem ck_M_mayBy : k_M_mayBy.all (ckR cX12_mayBy) = true := by decide +kernel
theorem ck_M_look : k_M_look.all (ckR cX12_look) = true := by decide +kernel
theorem ck_M_handsAs : k_M_handsAs.all (ckR cX12_handsAs) = true := by decide +kernel
theorem ck_M_carried : k_M_carried.all (ckR cX12_carried) = true := by decide +kernel
theorem ck_M_fewBy : k_M_fewBy.all (ckR cX12_fewBy) = true := by decide +kernel
theorem ck_M_laysFew : k_M_laysFew.all (ckR cX12_laysFew) = true := by decide +kernel
theorem ck_M_changes : k_M_changes.all (ckR cX12_changes) = true := by decide +kernel
theorem ck_M_covers : k_M_covers.all (ckR cX12_covers) = true := by decide +kernel
theorem ck_M_wholeOf : k_M_wholeOf.all (ckR cX12_wholeOf) = true := by decide +kernel
theorem ck_M_chanceOf : k_M_chanceOf.all (ckR cX12_chanceOf) = true := by decide +kernel
theorem ck_M_commonOf : k_M_commonOf.all (ckR cX12_commonOf) = true := by decide +kernel
theorem ck_M_chance : k_M_chance.all (ckR cX12_chance) = true := by decide +kernel
theorem ck_M_latest : k_M_latest.all (ckR cX12_latest) = true := by decide +kernel
theorem ck_M_cut : k_M_cut.all (ckR cX12_cut) = true := by decide +kernel
theorem ck_M_numbers : k_M_numbers.all (ckR cX12_numbers) = true := by decide +kernel
theorem ck_M_write : k_M_write.all (ckR cX12_write) = true := by decide +kernel
theorem ck_M_lists : k_M_lists.all (ckR cX12_lists) = true := by decide +kernel
theorem ck_M_image : k_M_image.all (ckR cX12_image) = true := by decide +kernel
theorem ck_M_restore : k_M_restore.all (ckR cX12_restore) = true := by decide +kernel
theorem ck_M_count : k_M_count.all (ckR cX12_count) = true := by decide +kernel
theorem ck_In_bitCount : k_In_bitCount.all (ckR cJ6_bitCount_0f7a4) = true := by decide +kernel
theorem ck_St_length : k_St_length.all (ckR cJ0_length_8abf5) = true := by decide +kernel
theorem ck_St_charAt : k_St_charAt.all (ckR cJ0_charAt_5068e) = true := by decide +kernel
theorem ck_St_indexOf : k_St_indexOf.all (ckR cJ0_indexOf_0f7a4) = true := by decide +kernel
theorem ck_St_indexOf2 : k_St_indexOf2.all (ckR cJ0_indexOf_7cf53) = true := by decide +kernel
theorem ck_St_coder : k_St_coder.all (ckR cJ0_coder_7d493) = true := by decide +kernel
theorem ck_St_isLatin1 : k_St_isLatin1.all (ckR cJ0_isLatin1_aae02) = true := by decide +kernel
theorem ck_St_checkIndex : k_St_checkIndex.all (ckR cJ0_checkIndex_df160) = true := by decide +kernel
theorem ck_S1_charAt : k_S1_charAt.all (ckR cJ1_charAt_3b067) = true := by decide +kernel
theorem ck_S1_canEncode : k_S1_canEncode.all (ckR cJ1_canEncode_9a6ad) = true := by decide +kernel
theorem ck_S1_indexOf : k_S1_indexOf.all (ckR cJ1_indexOf_4cfef) = true := by decide +kernel
theorem ck_S1_indexOfChar : k_S1_indexOfChar.all (ckR cJ1_indexOfChar_4cfef) = true := by decide +kernel
theorem ck_Ar_fill : k_Ar_fill.all (ckR cJ7_fill_d0a16) = true := by decide +kernel
theorem ck_Ar_fill2 : k_Ar_fill2.all (ckR cJ7_fill_53178) = true := by decide +kernel
theorem ck_Ar_copyOf : k_Ar_copyOf.all (ckR cJ7_copyOf_59c91) = true := by decide +kernel
theorem ck_Pr_checkIndex : k_Pr_checkIndex.all (ckR cJ3_checkIndex_8e157) = true := by decide +kernel
theorem ck_Pr_checkFromToIndex : k_Pr_checkFromToIndex.all (ckR cJ3_checkFromToIndex_8c36e) = true := by decide +kernel
theorem ck_L_law_0 : k_L_law_0.all (ckR cL_law) = true := by decide +kernel
theorem ck_L_law_1 : k_L_law_1.all (ckR cL_law) = true := by decide +kernel
theorem ck_L_law_2 : k_L_law_2.all (ckR cL_law) = true := by decide +kernel
theorem ck_L_law_3 : k_L_law_3.all (ckR cL_law) = true := by decide +kernel
theorem ck_L_law_4 : k_L_law_4.all (ckR cL_law) = true := by decide +kernel
theorem ck_L_law_5 : k_L_law_5.all (ckR cL_law) = true := by decide +kernel
theorem ck_L_law_6 : k_L_law_6.all (ckR cL_law) = true := by decide +kernel
theorem ck_L_law_7 : k_L_law_7.all (ckR cL_law) = true := by decide +kernel
theorem ck_L_law_8 : k_L_law_8.all (ckR cL_law) = true := by decide +kernel
theorem ck_L_law_9 : k_L_law_9.all (ckR cL_law) = true := by decide +kernel
theorem ck_L_law_10 : k_L_law_10.all (ckR cL_law) = true := by decide +kernel
theorem ck_L_law_11 : k_L_law_11.all (ckR cL_law) = true := by decide +kernel
theorem ck_L_law_12 : k_L_law_12.all (ckR cL_law) = true := by decide +kernel
theorem ck_L_law_13 : k_L_law_13.all (ckR cL_law) = true := by decide +kernel
theorem ck_L_law_14 : k_L_law_14.all (ckR cL_law) = true := by decide +kernel
theorem ck_L_law_15 : k_L_law_15.all (ckR cL_law) = true := by decide +kernel
theorem ck_L_law_16 : k_L_law_16.all (ckR cL_law) = true := by decide +kernel
theorem ck_L_law_17 : k_L_law_17.all (ckR cL_law) = true := by decide +kernel
theorem ck_L_law_18 : k_L_law_18.all (ckR cL_law) = true := by decide +kernel
theorem ck_L_law_19 : k_L_law_19.all (ckR cL_law) = true := by decide +kernel
theorem ck_L_law_20 : k_L_law_20.all (ckR cL_law) = true := by decide +kernel
theorem ck_L_law_21 : k_L_law_21.all (ckR cL_law) = true := by decide +kernel
theorem ck_L_law_22 : k_L_law_22.all (ckR cL_law) = true := by decide +kernel
theorem ck_L_law_23 : k_L_law_23.all (ckR cL_law) = true := by decide +kernel
theorem ck_L_law : k_L_law.all (ckR cL_law) = true := by unfold k_L_law; simp only [List.all_append, ck_L_law_0, ck_L_law_1, ck_L_law_2, ck_L_law_3, ck_L_law_4, ck_L_law_5, ck_L_law_6, ck_L_law_7, ck_L_law_8, ck_L_law_9, ck_L_law_10, ck_L_law_11, ck_L_law_12, ck_L_law_13, ck_L_law_14, ck_L_law_15, ck_L_law_16, ck_L_law_17, ck_L_law_18, ck_L_law_19, ck_L_law_20, ck_L_law_21, ck_L_law_22, ck_L_law_23, Bool.and_self]
end
section
/-! the words of the tables, by their places (written by gen18.py) -/
def pFt : List (List Nat) := [[483, 484, 485, 486, 487, 489, 482, 267, 254, 259, 193], [289, 290, 291], [820, 819, 821], [251, 257, 263, 265, 268], [414, 415, 416, 417, 418, 419, 420, 421, 422, 423, 424, 425, 426, 427, 428, 429, 430, 432, 413, 412, 266, 253, 207, 192, 258, 196], [390, 391, 392, 389, 388, 205, 208], [335, 336, 337, 338, 339, 340, 341, 342, 343, 344, 345, 346, 348, 350, 317, 319, 262, 256], [514, 515, 516, 517, 537, 252, 191, 260, 200], [213, 186, 188, 190, 195, 198, 201, 209, 211, 212, 822, 203, 204, 206, 210], [312, 313, 314, 315, 316, 318], [534, 535, 536], [547, 548, 549, 550, 551, 552, 553, 554, 555, 556, 557, 558, 559, 560, 347, 351, 202, 349, 255, 261, 199, 194, 264, 292, 538, 431, 433, 197, 488, 490, 187, 189], [1451, 1452, 1453, 1454, 1455, 1465, 1467, 1468, 1469, 1472, 1473, 1474, 1475, 1476, 1477, 1478, 1479, 1480, 1481, 1456, 1459, 1457, 1458, 1460, 1461, 1462, 1463, 1466, 1464, 1470, 1471], [2099, 2098], [], [], [], [], [], []]
def pMt : List (List Nat) := [[481, 1383, 1385, 1386, 1387, 1391, 1392, 1393, 1394], [285, 288, 989, 990, 1025, 1028], [815, 816, 817, 818, 909, 914, 917], [250, 937, 928, 932, 933, 938, 942, 976, 977, 1008, 1051, 1052, 1053, 1054, 617], [410, 1087, 1088, 1089, 1096, 1101, 1105, 1100, 1109, 1114, 1118, 1119, 1113, 1133, 1137, 1161, 1141, 1145, 1150, 1156, 1149, 1155, 1165, 1169, 1214, 1228, 1229, 1233], [387, 1093, 1124, 1128], [305, 308, 334, 606, 618, 753, 774, 778, 812, 794, 830, 757, 851, 610, 613, 761, 765, 769, 773, 834, 838, 846, 842, 782, 790, 786, 806, 798, 802], [511, 513, 1293, 1294, 1299, 1303, 1304, 1305, 1314, 1315, 1316, 1319, 1320, 1333, 1329, 1343, 1351, 1347, 1371], [165, 166, 169, 172, 884, 954, 894, 895, 896, 900, 905, 1249, 904, 950, 946], [311, 622, 623, 624, 633, 749, 627, 630, 636, 683, 687, 639, 643], [533, 1407, 1408, 1409, 1420], [157, 162, 247, 282, 302, 384, 407, 478, 508, 530, 594, 602, 852, 856, 868, 872, 876, 880, 890, 920, 957, 924, 962, 963, 964, 972, 981, 996, 985, 991, 1004, 1013, 1021, 1033, 1036, 1040, 1044, 1055, 1060, 1068, 1072, 1079, 1083, 1129, 1177, 1202, 1210, 1224, 1245, 1250, 1257, 1268, 1276, 1284, 1289, 1295, 1310, 1325, 1338, 1355, 1363, 1367, 1374, 1379, 1403, 1416, 1428], [1446, 1448, 1573, 1574, 1561, 1565, 1568, 1575, 1583, 1557, 1587, 1554, 1631, 1635, 1641, 1619, 1579, 1627, 1623, 1653, 1645, 1649, 1591, 1603, 1607, 1611, 1615, 1595, 1599, 1669, 1684, 1677, 1680, 1673, 1695, 1698, 1691, 1687, 1711, 1715, 1707, 1665, 1703, 1723, 1727, 1735, 1739, 1743, 1747, 1751, 1759, 1763, 1776, 1798, 1810, 1790, 1794, 1814, 1831, 1827, 1860, 1852, 1856, 1875, 1871, 1867, 1878, 1848, 1863, 1840, 1844, 1886, 1914, 1910, 1944, 1937, 1941, 1957, 1952, 1985, 1977, 1981, 1969, 1973, 2005, 2013, 2001, 2009, 2021, 2029, 2041, 2037, 2058, 2054, 2062, 2078], [699, 647, 653, 695, 691, 703, 661, 729], [154, 1443, 590, 1546, 598, 1550, 860, 1657, 864, 1661, 958, 1719, 968, 1731, 992, 1755, 1000, 1767, 1009, 1772, 1017, 1780, 1029, 1785, 1056, 1818, 1064, 1822, 1075, 1836, 1173, 1882, 1181, 1890, 1185, 1894, 1189, 1898, 1194, 1902, 1198, 1906, 1206, 1918, 1218, 1922, 1237, 1929, 1241, 1933, 1253, 1947, 1260, 1961, 1264, 1965, 1272, 1989, 1280, 1993, 1285, 1997, 1306, 2017, 1321, 2025, 1334, 2033, 1359, 2045, 1375, 2049, 1395, 2065, 1399, 2069, 1410, 2073, 1424, 2081, 1429, 2085, 1433, 2089, 1437, 2093], [656, 710, 706, 709, 711], [], [], [183, 182, 175], []]
def pCt : List (List Nat) := [[], [286], [], [], [], [], [306, 333, 810, 850], [512], [], [], [], [160, 245, 280, 300, 381, 405, 476, 506, 527], [], [], [152, 1441], [], [], [], [181], []]
def pKt : List (List Nat) := [[], [], [], [], [1154, 1160], [], [], [1342], [], [], [], [1071, 1193], [1447, 1835, 1956], [], [], [], [], [887, 888, 889], [], []]
def pJt : List (List Nat) := [[1384], [], [912, 913], [1048, 1049, 1050], [411], [1123], [], [], [], [], [], [1222, 1223, 1414, 1415], [1639, 1640, 1701, 1702, 1771, 1784, 1802, 1803, 1804, 1805, 1806, 1807, 1808, 1809, 1789, 1826, 1926, 1927, 1928, 1951, 2061, 2053, 2077], [], [2097], [], [], [], [], []]
def pGt : List (List Nat) := [[], [], [], [], [], [], [], [], [], [], [], [], [], [651, 659], [], [], [], [], [], []]
def pCode : List Nat := [480, 1382, 1390, 284, 988, 1024, 859, 814, 908, 911, 249, 855, 879, 936, 941, 927, 975, 980, 999, 1007, 845, 1016, 1047, 616, 409, 1086, 1099, 1108, 1112, 1104, 1132, 1136, 1140, 1144, 1148, 1153, 1159, 1164, 1168, 1172, 1180, 1279, 1205, 1213, 1217, 1227, 1232, 1236, 386, 1092, 1122, 1127, 304, 605, 609, 768, 760, 772, 756, 833, 837, 841, 849, 777, 781, 785, 789, 809, 797, 801, 805, 793, 510, 1292, 1298, 1302, 1313, 1318, 1332, 1328, 1341, 1346, 1350, 1354, 1358, 1370, 1373, 164, 931, 871, 875, 883, 899, 953, 893, 1248, 903, 949, 945, 1117, 310, 621, 752, 626, 629, 632, 635, 638, 641, 685, 764, 532, 1039, 1406, 1043, 1419, 1423, 1366, 156, 593, 597, 601, 863, 867, 923, 961, 967, 971, 995, 984, 1003, 1012, 1020, 1032, 1059, 1063, 1067, 1070, 1074, 1078, 1082, 1176, 1184, 1188, 1192, 1197, 1201, 1209, 1221, 1240, 1244, 1252, 1256, 1259, 1263, 1267, 1271, 1275, 1283, 1288, 1309, 1324, 1337, 1362, 1378, 1398, 1035, 1402, 1413, 1427, 1432, 1436, 1440, 1556, 1445, 1450, 1549, 1564, 1567, 1577, 1571, 1560, 1590, 1586, 1582, 1594, 1679, 1638, 1634, 1644, 1630, 1626, 1622, 1656, 1652, 1648, 1606, 1610, 1614, 1618, 1602, 1598, 1553, 1660, 1672, 1668, 1726, 1697, 1855, 1686, 1683, 1676, 1700, 1694, 1718, 1690, 1940, 1714, 1710, 1706, 1730, 1664, 1722, 1742, 1817, 1750, 1738, 1762, 1779, 1746, 1766, 1754, 1734, 1758, 1770, 1775, 1783, 1801, 1813, 1797, 1793, 1788, 1821, 1834, 1830, 1825, 1862, 1881, 1859, 1851, 1877, 1874, 1870, 1866, 1847, 1843, 1839, 1889, 1885, 1893, 1897, 1901, 1905, 1917, 1913, 1909, 1921, 1925, 1932, 1946, 1943, 1936, 1955, 1960, 1950, 1964, 1988, 1984, 1980, 1976, 1972, 1968, 1992, 1996, 2008, 2004, 2016, 2012, 2000, 2024, 2020, 2032, 2028, 2044, 2040, 2036, 2048, 2060, 2057, 2064, 2052, 2068, 2080, 2072, 2076, 2084, 2088, 2092, 2096, 886, 698, 646, 690, 694, 702, 650, 658, 655, 708, 705, 713, 1095, 612, 174, 663, 731]
def pInit : List Nat := [141, 141, 141, 136, 136, 136, 136, 150, 150, 150, 135, 135, 135, 135, 135, 135, 135, 135, 135, 135, 135, 135, 135, 135, 140, 140, 140, 140, 140, 140, 140, 140, 140, 140, 140, 140, 140, 140, 140, 140, 140, 140, 140, 140, 140, 140, 140, 140, 139, 139, 139, 139, 137, 137, 137, 137, 137, 137, 137, 137, 137, 137, 137, 137, 137, 137, 137, 137, 137, 137, 137, 137, 142, 142, 142, 142, 142, 142, 142, 142, 142, 142, 142, 142, 142, 142, 142, 131, 131, 131, 131, 131, 131, 131, 131, 131, 131, 131, 131, 131, 138, 138, 138, 138, 138, 138, 138, 138, 138, 138, 138, 143, 143, 143, 143, 143, 143, 143, 130, 130, 130, 130, 130, 130, 130, 130, 130, 130, 130, 130, 130, 130, 130, 130, 130, 130, 130, 130, 130, 130, 130, 130, 130, 130, 130, 130, 130, 130, 130, 130, 130, 130, 130, 130, 130, 130, 130, 130, 130, 130, 130, 130, 130, 130, 130, 130, 130, 130, 130, 130, 130, 130, 130, 144, 144, 144, 144, 144, 144, 144, 144, 144, 144, 144, 144, 144, 144, 144, 144, 144, 144, 144, 144, 144, 144, 144, 144, 144, 144, 144, 144, 144, 144, 144, 144, 144, 144, 144, 144, 144, 144, 144, 144, 144, 144, 144, 144, 144, 144, 144, 144, 144, 144, 144, 144, 144, 144, 144, 144, 144, 144, 144, 144, 144, 144, 144, 144, 144, 144, 144, 144, 144, 144, 144, 144, 144, 144, 144, 144, 144, 144, 144, 144, 144, 144, 144, 144, 144, 144, 144, 144, 144, 144, 144, 144, 144, 144, 144, 144, 144, 144, 144, 144, 144, 144, 144, 144, 144, 144, 144, 144, 144, 144, 144, 144, 144, 144, 144, 144, 144, 144, 144, 144, 144, 144, 144, 144, 144, 144, 144, 144, 144, 144, 144, 144, 144, 144, 144, 144, 151, 145, 145, 145, 145, 145, 145, 145, 146, 146, 146, 146, 133, 133, 133, 147, 147]
def pKind : List Nat := [479, 1380, 1389, 283, 986, 1022, 857, 813, 906, 910, 248, 853, 877, 934, 939, 925, 973, 978, 997, 1005, 843, 1014, 1045, 614, 408, 1084, 1098, 1107, 1111, 1103, 1130, 1135, 1139, 1143, 1147, 1152, 1158, 1163, 1167, 1171, 1178, 1277, 1203, 1211, 1216, 1225, 1231, 1235, 385, 1090, 1120, 1126, 303, 603, 608, 767, 759, 771, 755, 832, 836, 840, 848, 776, 780, 784, 788, 808, 796, 800, 804, 792, 509, 1290, 1296, 1301, 1311, 1317, 1331, 1326, 1339, 1345, 1349, 1353, 1356, 1368, 1372, 163, 929, 869, 873, 881, 897, 951, 891, 1246, 902, 947, 943, 1115, 309, 619, 751, 625, 628, 631, 634, 637, 640, 684, 762, 531, 1037, 1404, 1041, 1417, 1422, 1364, 155, 591, 596, 599, 861, 865, 922, 959, 966, 969, 993, 983, 1001, 1010, 1018, 1030, 1057, 1062, 1065, 1069, 1073, 1076, 1081, 1174, 1182, 1186, 1190, 1195, 1199, 1207, 1219, 1238, 1242, 1251, 1254, 1258, 1261, 1265, 1270, 1273, 1281, 1286, 1307, 1322, 1335, 1360, 1376, 1396, 1034, 1400, 1411, 1425, 1430, 1434, 1438, 1555, 1444, 1449, 1547, 1563, 1566, 1576, 1570, 1559, 1589, 1585, 1581, 1593, 1678, 1637, 1633, 1643, 1629, 1625, 1621, 1655, 1651, 1647, 1605, 1609, 1613, 1617, 1601, 1597, 1551, 1658, 1671, 1667, 1725, 1696, 1854, 1685, 1682, 1675, 1699, 1693, 1717, 1689, 1939, 1713, 1709, 1705, 1729, 1662, 1720, 1741, 1816, 1749, 1737, 1761, 1778, 1745, 1765, 1753, 1732, 1756, 1768, 1773, 1781, 1800, 1812, 1796, 1792, 1786, 1819, 1833, 1829, 1823, 1861, 1880, 1858, 1850, 1876, 1873, 1869, 1865, 1846, 1842, 1837, 1888, 1883, 1891, 1895, 1899, 1903, 1916, 1912, 1907, 1919, 1923, 1930, 1945, 1942, 1934, 1954, 1959, 1948, 1962, 1987, 1983, 1979, 1975, 1971, 1966, 1990, 1994, 2007, 2003, 2015, 2011, 1998, 2023, 2018, 2031, 2026, 2043, 2039, 2034, 2046, 2059, 2056, 2063, 2050, 2066, 2079, 2070, 2074, 2082, 2086, 2090, 2094, 885, 696, 644, 688, 692, 700, 648, 657, 654, 707, 704, 712, 1094, 611, 173, 662, 730]
def pSel : List Nat := [0, 1381, 49, 0, 987, 1023, 858, 0, 907, 0, 0, 854, 878, 935, 940, 926, 974, 979, 998, 1006, 844, 1015, 1046, 615, 0, 1085, 26, 28, 29, 27, 1131, 31, 32, 33, 34, 35, 36, 37, 38, 39, 1179, 1278, 1204, 1212, 40, 1226, 41, 42, 0, 1091, 1121, 30, 0, 604, 1, 5, 4, 6, 3, 16, 17, 18, 19, 7, 8, 9, 10, 15, 12, 13, 14, 11, 0, 1291, 1297, 44, 1312, 0, 45, 1327, 1340, 46, 47, 48, 1357, 1369, 0, 0, 930, 870, 874, 882, 898, 952, 892, 1247, 20, 948, 944, 1116, 0, 620, 2, 0, 0, 0, 0, 0, 0, 0, 763, 0, 1038, 1405, 1042, 1418, 50, 1365, 0, 592, 0, 600, 862, 866, 21, 960, 22, 970, 994, 23, 1002, 1011, 1019, 1031, 1058, 24, 1066, 0, 0, 1077, 25, 1175, 1183, 1187, 1191, 1196, 1200, 1208, 1220, 1239, 1243, 0, 1255, 0, 1262, 1266, 43, 1274, 1282, 1287, 1308, 1323, 1336, 1361, 1377, 1397, 0, 1401, 1412, 1426, 1431, 1435, 1439, 0, 0, 0, 1548, 52, 0, 0, 53, 51, 56, 55, 54, 57, 0, 68, 67, 69, 66, 65, 64, 72, 71, 70, 60, 61, 62, 63, 59, 58, 1552, 1659, 74, 73, 83, 0, 103, 0, 76, 75, 0, 78, 82, 77, 112, 81, 80, 79, 84, 1663, 1721, 86, 97, 88, 85, 90, 92, 87, 91, 89, 1733, 1757, 1769, 1774, 1782, 95, 96, 94, 93, 1787, 1820, 99, 98, 1824, 0, 108, 104, 102, 0, 107, 106, 105, 101, 100, 1838, 109, 1884, 1892, 1896, 1900, 1904, 111, 110, 1908, 1920, 1924, 1931, 0, 0, 1935, 113, 114, 1949, 1963, 119, 118, 117, 116, 115, 1967, 1991, 1995, 121, 120, 123, 122, 1999, 124, 2019, 125, 2027, 127, 126, 2035, 2047, 0, 128, 0, 2051, 2067, 0, 2071, 2075, 2083, 2087, 2091, 2095, 0, 697, 645, 689, 693, 701, 649, 0, 0, 0, 0, 0, 0, 0, 0, 0, 0]
def zipC {α : Type} (P : Nat → α → Nat → Bool) : List (Nat × α) → List Nat → Bool
  | [], _ => true
  | (i, a) :: r, p :: ps => P i a p && zipC P r ps
  | _ :: _, [] => false
theorem zipC_lkp {α : Type} {P : Nat → α → Nat → Bool} {i : Nat} {a : α} : ∀ (l : List (Nat × α)) (ps : List Nat), zipC P l ps = true → lkp l i = some a → ∃ p, P i a p = true
  | [], _, _, h => by cases h
  | (k, b) :: r, [], h, _ => by cases h
  | (k, b) :: r, p :: ps, h, hl => by
    simp only [zipC, Bool.and_eq_true] at h
    unfold lkp at hl
    split at hl
    · rename_i e
      cases hl
      have := Nat.eq_of_beq_eq_true e
      subst this
      exact ⟨p, h.1⟩
    · exact zipC_lkp r ps h.2 hl
def inT (p : Nat) (w : Cond) : Bool := decide (lw_tbl[p]? = some w)
theorem inT_mem {p : Nat} {w : Cond} (h : inT p w = true) : w ∈ lw_tbl := List.mem_of_getElem? (of_decide_eq_true h)
def fWc (own i f p : Nat) : Bool := if f / 64 < 13 then inT p (.fieldLink (RC own) i (TC (f / 64) (f % 64)).1 (TC (f / 64) (f % 64)).2.1 (TC (f / 64) (f % 64)).2.2.1) && decide (f % 64 < fN (f / 64)) else if f = 832 then inT p (.fieldLink (RC own) i "java/lang/String" "value" "[B") else if f = 833 then inT p (.fieldLink (RC own) i "java/lang/String" "coder" "B") else false
def mWc (own i u p : Nat) : Bool := if u = 9999 then inT p (.methodLink (RC own) i objectInit) else if u = 9998 then inT p (.methodLink (RC own) i ⟨"[I", "clone", "()Ljava/lang/Object;"⟩) else if u = 9997 then inT p (.methodLink (RC own) i arraycopyName) else if u = 9990 then inT p (.methodLink (RC own) i yJ9_floorMod_7cf53) else if u = 9991 then inT p (.methodLink (RC own) i Lib.Math.abs.name) else if u = 9992 then inT p (.methodLink (RC own) i Lib.Math.max.name) else if u = 9993 then inT p (.methodLink (RC own) i Lib.MathLoose.max_long.x) else if u = 9994 then inT p (.methodLink (RC own) i Lib.Math.min.name) else if u = 9995 then inT p (.methodLink (RC own) i Lib.MathLoose.min_long.x) else decide (u < 326) && (inT p (.methodLink (RC own) i (yM u)) || (kdM u == 2 && inT p (.methodLinkNest (RC own) i (yM u) "LastMark")))
def cWc (own i c p : Nat) : Bool := if c = 20 then inT p (.classLink (RC own) i "[I") else inT p (.classLink (RC own) i (RC c)) && decide (c < 13)
def kWc (own i : Nat) (z : Int) (p : Nat) : Bool := inT p (.constant (RC own) i (kI z))
def jWc (own i : Nat) (z : Int) (p : Nat) : Bool := inT p (.constantLong (RC own) i (kJ z))
def gWc (own i k p : Nat) : Bool := if k = 0 then inT p (.fieldLink (RC own) i "jdk/internal/util/Preconditions" "SIOOBE_FORMATTER" "Ljava/util/function/BiFunction;") else if k = 1 then inT p (.fieldLink (RC own) i "java/lang/String" "COMPACT_STRINGS" "Z") else false

theorem wF_0 : zipC (fWc 0) (nth fTt 0 []) (nth pFt 0 []) = true := by decide +kernel
theorem wM_0 : zipC (mWc 0) (nth mTt 0 []) (nth pMt 0 []) = true := by decide +kernel
theorem wC_0 : zipC (cWc 0) (nth cTt 0 []) (nth pCt 0 []) = true := by decide +kernel
theorem wK_0 : zipC (kWc 0) (nth kTt 0 []) (nth pKt 0 []) = true := by decide +kernel
theorem wJ_0 : zipC (jWc 0) (nth jTt 0 []) (nth pJt 0 []) = true := by decide +kernel
theorem wG_0 : zipC (gWc 0) (nth gTt 0 []) (nth pGt 0 []) = true := by decide +kernel
theorem wF_1 : zipC (fWc 1) (nth fTt 1 []) (nth pFt 1 []) = true := by decide +kernel
theorem wM_1 : zipC (mWc 1) (nth mTt 1 []) (nth pMt 1 []) = true := by decide +kernel
theorem wC_1 : zipC (cWc 1) (nth cTt 1 []) (nth pCt 1 []) = true := by decide +kernel
theorem wK_1 : zipC (kWc 1) (nth kTt 1 []) (nth pKt 1 []) = true := by decide +kernel
theorem wJ_1 : zipC (jWc 1) (nth jTt 1 []) (nth pJt 1 []) = true := by decide +kernel
theorem wG_1 : zipC (gWc 1) (nth gTt 1 []) (nth pGt 1 []) = true := by decide +kernel
theorem wF_2 : zipC (fWc 2) (nth fTt 2 []) (nth pFt 2 []) = true := by decide +kernel
theorem wM_2 : zipC (mWc 2) (nth mTt 2 []) (nth pMt 2 []) = true := by decide +kernel
theorem wC_2 : zipC (cWc 2) (nth cTt 2 []) (nth pCt 2 []) = true := by decide +kernel
theorem wK_2 : zipC (kWc 2) (nth kTt 2 []) (nth pKt 2 []) = true := by decide +kernel
theorem wJ_2 : zipC (jWc 2) (nth jTt 2 []) (nth pJt 2 []) = true := by decide +kernel
theorem wG_2 : zipC (gWc 2) (nth gTt 2 []) (nth pGt 2 []) = true := by decide +kernel
theorem wF_3 : zipC (fWc 3) (nth fTt 3 []) (nth pFt 3 []) = true := by decide +kernel
theorem wM_3 : zipC (mWc 3) (nth mTt 3 []) (nth pMt 3 []) = true := by decide +kernel
theorem wC_3 : zipC (cWc 3) (nth cTt 3 []) (nth pCt 3 []) = true := by decide +kernel
theorem wK_3 : zipC (kWc 3) (nth kTt 3 []) (nth pKt 3 []) = true := by decide +kernel
theorem wJ_3 : zipC (jWc 3) (nth jTt 3 []) (nth pJt 3 []) = true := by decide +kernel
theorem wG_3 : zipC (gWc 3) (nth gTt 3 []) (nth pGt 3 []) = true := by decide +kernel
theorem wF_4 : zipC (fWc 4) (nth fTt 4 []) (nth pFt 4 []) = true := by decide +kernel
theorem wM_4 : zipC (mWc 4) (nth mTt 4 []) (nth pMt 4 []) = true := by decide +kernel
theorem wC_4 : zipC (cWc 4) (nth cTt 4 []) (nth pCt 4 []) = true := by decide +kernel
theorem wK_4 : zipC (kWc 4) (nth kTt 4 []) (nth pKt 4 []) = true := by decide +kernel
theorem wJ_4 : zipC (jWc 4) (nth jTt 4 []) (nth pJt 4 []) = true := by decide +kernel
theorem wG_4 : zipC (gWc 4) (nth gTt 4 []) (nth pGt 4 []) = true := by decide +kernel
theorem wF_5 : zipC (fWc 5) (nth fTt 5 []) (nth pFt 5 []) = true := by decide +kernel
theorem wM_5 : zipC (mWc 5) (nth mTt 5 []) (nth pMt 5 []) = true := by decide +kernel
theorem wC_5 : zipC (cWc 5) (nth cTt 5 []) (nth pCt 5 []) = true := by decide +kernel
theorem wK_5 : zipC (kWc 5) (nth kTt 5 []) (nth pKt 5 []) = true := by decide +kernel
theorem wJ_5 : zipC (jWc 5) (nth jTt 5 []) (nth pJt 5 []) = true := by decide +kernel
theorem wG_5 : zipC (gWc 5) (nth gTt 5 []) (nth pGt 5 []) = true := by decide +kernel
theorem wF_6 : zipC (fWc 6) (nth fTt 6 []) (nth pFt 6 []) = true := by decide +kernel
theorem wM_6 : zipC (mWc 6) (nth mTt 6 []) (nth pMt 6 []) = true := by decide +kernel
theorem wC_6 : zipC (cWc 6) (nth cTt 6 []) (nth pCt 6 []) = true := by decide +kernel
theorem wK_6 : zipC (kWc 6) (nth kTt 6 []) (nth pKt 6 []) = true := by decide +kernel
theorem wJ_6 : zipC (jWc 6) (nth jTt 6 []) (nth pJt 6 []) = true := by decide +kernel
theorem wG_6 : zipC (gWc 6) (nth gTt 6 []) (nth pGt 6 []) = true := by decide +kernel
theorem wF_7 : zipC (fWc 7) (nth fTt 7 []) (nth pFt 7 []) = true := by decide +kernel
theorem wM_7 : zipC (mWc 7) (nth mTt 7 []) (nth pMt 7 []) = true := by decide +kernel
theorem wC_7 : zipC (cWc 7) (nth cTt 7 []) (nth pCt 7 []) = true := by decide +kernel
theorem wK_7 : zipC (kWc 7) (nth kTt 7 []) (nth pKt 7 []) = true := by decide +kernel
theorem wJ_7 : zipC (jWc 7) (nth jTt 7 []) (nth pJt 7 []) = true := by decide +kernel
theorem wG_7 : zipC (gWc 7) (nth gTt 7 []) (nth pGt 7 []) = true := by decide +kernel
theorem wF_8 : zipC (fWc 8) (nth fTt 8 []) (nth pFt 8 []) = true := by decide +kernel
theorem wM_8 : zipC (mWc 8) (nth mTt 8 []) (nth pMt 8 []) = true := by decide +kernel
theorem wC_8 : zipC (cWc 8) (nth cTt 8 []) (nth pCt 8 []) = true := by decide +kernel
theorem wK_8 : zipC (kWc 8) (nth kTt 8 []) (nth pKt 8 []) = true := by decide +kernel
theorem wJ_8 : zipC (jWc 8) (nth jTt 8 []) (nth pJt 8 []) = true := by decide +kernel
theorem wG_8 : zipC (gWc 8) (nth gTt 8 []) (nth pGt 8 []) = true := by decide +kernel
theorem wF_9 : zipC (fWc 9) (nth fTt 9 []) (nth pFt 9 []) = true := by decide +kernel
theorem wM_9 : zipC (mWc 9) (nth mTt 9 []) (nth pMt 9 []) = true := by decide +kernel
theorem wC_9 : zipC (cWc 9) (nth cTt 9 []) (nth pCt 9 []) = true := by decide +kernel
theorem wK_9 : zipC (kWc 9) (nth kTt 9 []) (nth pKt 9 []) = true := by decide +kernel
theorem wJ_9 : zipC (jWc 9) (nth jTt 9 []) (nth pJt 9 []) = true := by decide +kernel
theorem wG_9 : zipC (gWc 9) (nth gTt 9 []) (nth pGt 9 []) = true := by decide +kernel
theorem wF_10 : zipC (fWc 10) (nth fTt 10 []) (nth pFt 10 []) = true := by decide +kernel
theorem wM_10 : zipC (mWc 10) (nth mTt 10 []) (nth pMt 10 []) = true := by decide +kernel
theorem wC_10 : zipC (cWc 10) (nth cTt 10 []) (nth pCt 10 []) = true := by decide +kernel
theorem wK_10 : zipC (kWc 10) (nth kTt 10 []) (nth pKt 10 []) = true := by decide +kernel
theorem wJ_10 : zipC (jWc 10) (nth jTt 10 []) (nth pJt 10 []) = true := by decide +kernel
theorem wG_10 : zipC (gWc 10) (nth gTt 10 []) (nth pGt 10 []) = true := by decide +kernel
theorem wF_11 : zipC (fWc 11) (nth fTt 11 []) (nth pFt 11 []) = true := by decide +kernel
theorem wM_11 : zipC (mWc 11) (nth mTt 11 []) (nth pMt 11 []) = true := by decide +kernel
theorem wC_11 : zipC (cWc 11) (nth cTt 11 []) (nth pCt 11 []) = true := by decide +kernel
theorem wK_11 : zipC (kWc 11) (nth kTt 11 []) (nth pKt 11 []) = true := by decide +kernel
theorem wJ_11 : zipC (jWc 11) (nth jTt 11 []) (nth pJt 11 []) = true := by decide +kernel
theorem wG_11 : zipC (gWc 11) (nth gTt 11 []) (nth pGt 11 []) = true := by decide +kernel
theorem wF_12 : zipC (fWc 12) (nth fTt 12 []) (nth pFt 12 []) = true := by decide +kernel
theorem wM_12 : zipC (mWc 12) (nth mTt 12 []) (nth pMt 12 []) = true := by decide +kernel
theorem wC_12 : zipC (cWc 12) (nth cTt 12 []) (nth pCt 12 []) = true := by decide +kernel
theorem wK_12 : zipC (kWc 12) (nth kTt 12 []) (nth pKt 12 []) = true := by decide +kernel
theorem wJ_12 : zipC (jWc 12) (nth jTt 12 []) (nth pJt 12 []) = true := by decide +kernel
theorem wG_12 : zipC (gWc 12) (nth gTt 12 []) (nth pGt 12 []) = true := by decide +kernel
theorem wF_13 : zipC (fWc 13) (nth fTt 13 []) (nth pFt 13 []) = true := by decide +kernel
theorem wM_13 : zipC (mWc 13) (nth mTt 13 []) (nth pMt 13 []) = true := by decide +kernel
theorem wC_13 : zipC (cWc 13) (nth cTt 13 []) (nth pCt 13 []) = true := by decide +kernel
theorem wK_13 : zipC (kWc 13) (nth kTt 13 []) (nth pKt 13 []) = true := by decide +kernel
theorem wJ_13 : zipC (jWc 13) (nth jTt 13 []) (nth pJt 13 []) = true := by decide +kernel
theorem wG_13 : zipC (gWc 13) (nth gTt 13 []) (nth pGt 13 []) = true := by decide +kernel
theorem wF_14 : zipC (fWc 14) (nth fTt 14 []) (nth pFt 14 []) = true := by decide +kernel
theorem wM_14 : zipC (mWc 14) (nth mTt 14 []) (nth pMt 14 []) = true := by decide +kernel
theorem wC_14 : zipC (cWc 14) (nth cTt 14 []) (nth pCt 14 []) = true := by decide +kernel
theorem wK_14 : zipC (kWc 14) (nth kTt 14 []) (nth pKt 14 []) = true := by decide +kernel
theorem wJ_14 : zipC (jWc 14) (nth jTt 14 []) (nth pJt 14 []) = true := by decide +kernel
theorem wG_14 : zipC (gWc 14) (nth gTt 14 []) (nth pGt 14 []) = true := by decide +kernel
theorem wF_15 : zipC (fWc 15) (nth fTt 15 []) (nth pFt 15 []) = true := by decide +kernel
theorem wM_15 : zipC (mWc 15) (nth mTt 15 []) (nth pMt 15 []) = true := by decide +kernel
theorem wC_15 : zipC (cWc 15) (nth cTt 15 []) (nth pCt 15 []) = true := by decide +kernel
theorem wK_15 : zipC (kWc 15) (nth kTt 15 []) (nth pKt 15 []) = true := by decide +kernel
theorem wJ_15 : zipC (jWc 15) (nth jTt 15 []) (nth pJt 15 []) = true := by decide +kernel
theorem wG_15 : zipC (gWc 15) (nth gTt 15 []) (nth pGt 15 []) = true := by decide +kernel
theorem wF_16 : zipC (fWc 16) (nth fTt 16 []) (nth pFt 16 []) = true := by decide +kernel
theorem wM_16 : zipC (mWc 16) (nth mTt 16 []) (nth pMt 16 []) = true := by decide +kernel
theorem wC_16 : zipC (cWc 16) (nth cTt 16 []) (nth pCt 16 []) = true := by decide +kernel
theorem wK_16 : zipC (kWc 16) (nth kTt 16 []) (nth pKt 16 []) = true := by decide +kernel
theorem wJ_16 : zipC (jWc 16) (nth jTt 16 []) (nth pJt 16 []) = true := by decide +kernel
theorem wG_16 : zipC (gWc 16) (nth gTt 16 []) (nth pGt 16 []) = true := by decide +kernel
theorem wF_17 : zipC (fWc 17) (nth fTt 17 []) (nth pFt 17 []) = true := by decide +kernel
theorem wM_17 : zipC (mWc 17) (nth mTt 17 []) (nth pMt 17 []) = true := by decide +kernel
theorem wC_17 : zipC (cWc 17) (nth cTt 17 []) (nth pCt 17 []) = true := by decide +kernel
theorem wK_17 : zipC (kWc 17) (nth kTt 17 []) (nth pKt 17 []) = true := by decide +kernel
theorem wJ_17 : zipC (jWc 17) (nth jTt 17 []) (nth pJt 17 []) = true := by decide +kernel
theorem wG_17 : zipC (gWc 17) (nth gTt 17 []) (nth pGt 17 []) = true := by decide +kernel
theorem wF_18 : zipC (fWc 18) (nth fTt 18 []) (nth pFt 18 []) = true := by decide +kernel
theorem wM_18 : zipC (mWc 18) (nth mTt 18 []) (nth pMt 18 []) = true := by decide +kernel
theorem wC_18 : zipC (cWc 18) (nth cTt 18 []) (nth pCt 18 []) = true := by decide +kernel
theorem wK_18 : zipC (kWc 18) (nth kTt 18 []) (nth pKt 18 []) = true := by decide +kernel
theorem wJ_18 : zipC (jWc 18) (nth jTt 18 []) (nth pJt 18 []) = true := by decide +kernel
theorem wG_18 : zipC (gWc 18) (nth gTt 18 []) (nth pGt 18 []) = true := by decide +kernel
theorem wF_19 : zipC (fWc 19) (nth fTt 19 []) (nth pFt 19 []) = true := by decide +kernel
theorem wM_19 : zipC (mWc 19) (nth mTt 19 []) (nth pMt 19 []) = true := by decide +kernel
theorem wC_19 : zipC (cWc 19) (nth cTt 19 []) (nth pCt 19 []) = true := by decide +kernel
theorem wK_19 : zipC (kWc 19) (nth kTt 19 []) (nth pKt 19 []) = true := by decide +kernel
theorem wJ_19 : zipC (jWc 19) (nth jTt 19 []) (nth pJt 19 []) = true := by decide +kernel
theorem wG_19 : zipC (gWc 19) (nth gTt 19 []) (nth pGt 19 []) = true := by decide +kernel
theorem wF {own i : Nat} {a : Nat} (h : fT own i = some a) : ∃ p, fWc own i a p = true := by
  unfold fT at h
  match own, h with
  | 0, h => exact zipC_lkp _ _ wF_0 h
  | 1, h => exact zipC_lkp _ _ wF_1 h
  | 2, h => exact zipC_lkp _ _ wF_2 h
  | 3, h => exact zipC_lkp _ _ wF_3 h
  | 4, h => exact zipC_lkp _ _ wF_4 h
  | 5, h => exact zipC_lkp _ _ wF_5 h
  | 6, h => exact zipC_lkp _ _ wF_6 h
  | 7, h => exact zipC_lkp _ _ wF_7 h
  | 8, h => exact zipC_lkp _ _ wF_8 h
  | 9, h => exact zipC_lkp _ _ wF_9 h
  | 10, h => exact zipC_lkp _ _ wF_10 h
  | 11, h => exact zipC_lkp _ _ wF_11 h
  | 12, h => exact zipC_lkp _ _ wF_12 h
  | 13, h => exact zipC_lkp _ _ wF_13 h
  | 14, h => exact zipC_lkp _ _ wF_14 h
  | 15, h => exact zipC_lkp _ _ wF_15 h
  | 16, h => exact zipC_lkp _ _ wF_16 h
  | 17, h => exact zipC_lkp _ _ wF_17 h
  | 18, h => exact zipC_lkp _ _ wF_18 h
  | 19, h => exact zipC_lkp _ _ wF_19 h
  | _ + 20, h => cases h
theorem wM {own i : Nat} {a : Nat} (h : mT own i = some a) : ∃ p, mWc own i a p = true := by
  unfold mT at h
  match own, h with
  | 0, h => exact zipC_lkp _ _ wM_0 h
  | 1, h => exact zipC_lkp _ _ wM_1 h
  | 2, h => exact zipC_lkp _ _ wM_2 h
  | 3, h => exact zipC_lkp _ _ wM_3 h
  | 4, h => exact zipC_lkp _ _ wM_4 h
  | 5, h => exact zipC_lkp _ _ wM_5 h
  | 6, h => exact zipC_lkp _ _ wM_6 h
  | 7, h => exact zipC_lkp _ _ wM_7 h
  | 8, h => exact zipC_lkp _ _ wM_8 h
  | 9, h => exact zipC_lkp _ _ wM_9 h
  | 10, h => exact zipC_lkp _ _ wM_10 h
  | 11, h => exact zipC_lkp _ _ wM_11 h
  | 12, h => exact zipC_lkp _ _ wM_12 h
  | 13, h => exact zipC_lkp _ _ wM_13 h
  | 14, h => exact zipC_lkp _ _ wM_14 h
  | 15, h => exact zipC_lkp _ _ wM_15 h
  | 16, h => exact zipC_lkp _ _ wM_16 h
  | 17, h => exact zipC_lkp _ _ wM_17 h
  | 18, h => exact zipC_lkp _ _ wM_18 h
  | 19, h => exact zipC_lkp _ _ wM_19 h
  | _ + 20, h => cases h
theorem wC {own i : Nat} {a : Nat} (h : cT own i = some a) : ∃ p, cWc own i a p = true := by
  unfold cT at h
  match own, h with
  | 0, h => exact zipC_lkp _ _ wC_0 h
  | 1, h => exact zipC_lkp _ _ wC_1 h
  | 2, h => exact zipC_lkp _ _ wC_2 h
  | 3, h => exact zipC_lkp _ _ wC_3 h
  | 4, h => exact zipC_lkp _ _ wC_4 h
  | 5, h => exact zipC_lkp _ _ wC_5 h
  | 6, h => exact zipC_lkp _ _ wC_6 h
  | 7, h => exact zipC_lkp _ _ wC_7 h
  | 8, h => exact zipC_lkp _ _ wC_8 h
  | 9, h => exact zipC_lkp _ _ wC_9 h
  | 10, h => exact zipC_lkp _ _ wC_10 h
  | 11, h => exact zipC_lkp _ _ wC_11 h
  | 12, h => exact zipC_lkp _ _ wC_12 h
  | 13, h => exact zipC_lkp _ _ wC_13 h
  | 14, h => exact zipC_lkp _ _ wC_14 h
  | 15, h => exact zipC_lkp _ _ wC_15 h
  | 16, h => exact zipC_lkp _ _ wC_16 h
  | 17, h => exact zipC_lkp _ _ wC_17 h
  | 18, h => exact zipC_lkp _ _ wC_18 h
  | 19, h => exact zipC_lkp _ _ wC_19 h
  | _ + 20, h => cases h
theorem wK {own i : Nat} {a : Int} (h : kT own i = some a) : ∃ p, kWc own i a p = true := by
  unfold kT at h
  match own, h with
  | 0, h => exact zipC_lkp _ _ wK_0 h
  | 1, h => exact zipC_lkp _ _ wK_1 h
  | 2, h => exact zipC_lkp _ _ wK_2 h
  | 3, h => exact zipC_lkp _ _ wK_3 h
  | 4, h => exact zipC_lkp _ _ wK_4 h
  | 5, h => exact zipC_lkp _ _ wK_5 h
  | 6, h => exact zipC_lkp _ _ wK_6 h
  | 7, h => exact zipC_lkp _ _ wK_7 h
  | 8, h => exact zipC_lkp _ _ wK_8 h
  | 9, h => exact zipC_lkp _ _ wK_9 h
  | 10, h => exact zipC_lkp _ _ wK_10 h
  | 11, h => exact zipC_lkp _ _ wK_11 h
  | 12, h => exact zipC_lkp _ _ wK_12 h
  | 13, h => exact zipC_lkp _ _ wK_13 h
  | 14, h => exact zipC_lkp _ _ wK_14 h
  | 15, h => exact zipC_lkp _ _ wK_15 h
  | 16, h => exact zipC_lkp _ _ wK_16 h
  | 17, h => exact zipC_lkp _ _ wK_17 h
  | 18, h => exact zipC_lkp _ _ wK_18 h
  | 19, h => exact zipC_lkp _ _ wK_19 h
  | _ + 20, h => cases h
theorem wJ {own i : Nat} {a : Int} (h : jT own i = some a) : ∃ p, jWc own i a p = true := by
  unfold jT at h
  match own, h with
  | 0, h => exact zipC_lkp _ _ wJ_0 h
  | 1, h => exact zipC_lkp _ _ wJ_1 h
  | 2, h => exact zipC_lkp _ _ wJ_2 h
  | 3, h => exact zipC_lkp _ _ wJ_3 h
  | 4, h => exact zipC_lkp _ _ wJ_4 h
  | 5, h => exact zipC_lkp _ _ wJ_5 h
  | 6, h => exact zipC_lkp _ _ wJ_6 h
  | 7, h => exact zipC_lkp _ _ wJ_7 h
  | 8, h => exact zipC_lkp _ _ wJ_8 h
  | 9, h => exact zipC_lkp _ _ wJ_9 h
  | 10, h => exact zipC_lkp _ _ wJ_10 h
  | 11, h => exact zipC_lkp _ _ wJ_11 h
  | 12, h => exact zipC_lkp _ _ wJ_12 h
  | 13, h => exact zipC_lkp _ _ wJ_13 h
  | 14, h => exact zipC_lkp _ _ wJ_14 h
  | 15, h => exact zipC_lkp _ _ wJ_15 h
  | 16, h => exact zipC_lkp _ _ wJ_16 h
  | 17, h => exact zipC_lkp _ _ wJ_17 h
  | 18, h => exact zipC_lkp _ _ wJ_18 h
  | 19, h => exact zipC_lkp _ _ wJ_19 h
  | _ + 20, h => cases h
theorem wG {own i : Nat} {a : Nat} (h : gT own i = some a) : ∃ p, gWc own i a p = true := by
  unfold gT at h
  match own, h with
  | 0, h => exact zipC_lkp _ _ wG_0 h
  | 1, h => exact zipC_lkp _ _ wG_1 h
  | 2, h => exact zipC_lkp _ _ wG_2 h
  | 3, h => exact zipC_lkp _ _ wG_3 h
  | 4, h => exact zipC_lkp _ _ wG_4 h
  | 5, h => exact zipC_lkp _ _ wG_5 h
  | 6, h => exact zipC_lkp _ _ wG_6 h
  | 7, h => exact zipC_lkp _ _ wG_7 h
  | 8, h => exact zipC_lkp _ _ wG_8 h
  | 9, h => exact zipC_lkp _ _ wG_9 h
  | 10, h => exact zipC_lkp _ _ wG_10 h
  | 11, h => exact zipC_lkp _ _ wG_11 h
  | 12, h => exact zipC_lkp _ _ wG_12 h
  | 13, h => exact zipC_lkp _ _ wG_13 h
  | 14, h => exact zipC_lkp _ _ wG_14 h
  | 15, h => exact zipC_lkp _ _ wG_15 h
  | 16, h => exact zipC_lkp _ _ wG_16 h
  | 17, h => exact zipC_lkp _ _ wG_17 h
  | 18, h => exact zipC_lkp _ _ wG_18 h
  | 19, h => exact zipC_lkp _ _ wG_19 h
  | _ + 20, h => cases h
end
section
def mtC (u : Nat) : Bool := inT (nth pCode u 0) (.code (yM u) (cM u) (mxM u) (rfM u)) && inT (nth pInit u 0) (.initialized (yM u).cls) && (if kdM u = 0 then inT (nth pKind u 0) (.static (yM u)) else inT (nth pKind u 0) (.instanceMethod (yM u))) && (if kdM u = 1 then inT (nth pSel u 0) (.selects (yM u).cls (yM u) (yM u)) else true) && decide ((yM u).cls = RC (owM u)) && plainName (yM u).cls && decide ((parseMethodDescriptor (yM u).desc).map (fun d => d.parameters.length) = some (naM u)) && decide ((yM u).cls ≠ "java/lang/invoke/MethodHandle") && decide ((yM u).cls ≠ "java/lang/invoke/VarHandle") && (if kdM u = 2 then decide ((yM u).name = "<init>") && decide (rfM u = none) else true) && decide (mxM u ≤ 30) && decide (rtM u ≤ 6)
theorem mt_0 : (List.range 20).all (fun k => mtC (0 + k)) = true := by decide +kernel
theorem mt_1 : (List.range 20).all (fun k => mtC (20 + k)) = true := by decide +kernel
theorem mt_2 : (List.range 20).all (fun k => mtC (40 + k)) = true := by decide +kernel
theorem mt_3 : (List.range 20).all (fun k => mtC (60 + k)) = true := by decide +kernel
theorem mt_4 : (List.range 20).all (fun k => mtC (80 + k)) = true := by decide +kernel
theorem mt_5 : (List.range 20).all (fun k => mtC (100 + k)) = true := by decide +kernel
theorem mt_6 : (List.range 20).all (fun k => mtC (120 + k)) = true := by decide +kernel
theorem mt_7 : (List.range 20).all (fun k => mtC (140 + k)) = true := by decide +kernel
theorem mt_8 : (List.range 20).all (fun k => mtC (160 + k)) = true := by decide +kernel
theorem mt_9 : (List.range 20).all (fun k => mtC (180 + k)) = true := by decide +kernel
theorem mt_10 : (List.range 20).all (fun k => mtC (200 + k)) = true := by decide +kernel
theorem mt_11 : (List.range 20).all (fun k => mtC (220 + k)) = true := by decide +kernel
theorem mt_12 : (List.range 20).all (fun k => mtC (240 + k)) = true := by decide +kernel
theorem mt_13 : (List.range 20).all (fun k => mtC (260 + k)) = true := by decide +kernel
theorem mt_14 : (List.range 20).all (fun k => mtC (280 + k)) = true := by decide +kernel
theorem mt_15 : (List.range 20).all (fun k => mtC (300 + k)) = true := by decide +kernel
theorem mt_16 : (List.range 6).all (fun k => mtC (320 + k)) = true := by decide +kernel
theorem mt {u : Nat} (h : u < 326) : mtC u = true := by
  have key : ∀ (b n : Nat), (List.range n).all (fun k => mtC (b + k)) = true → b ≤ u → u < b + n → mtC u = true := by
    intro b n h h1 h2
    have h3 := List.all_eq_true.mp h (u - b) (List.mem_range.mpr (by omega))
    rwa [show b + (u - b) = u by omega] at h3
  by_cases h0 : u < 20
  · exact key 0 20 mt_0 (by omega) (by omega)
  by_cases h1 : u < 40
  · exact key 20 20 mt_1 (by omega) (by omega)
  by_cases h2 : u < 60
  · exact key 40 20 mt_2 (by omega) (by omega)
  by_cases h3 : u < 80
  · exact key 60 20 mt_3 (by omega) (by omega)
  by_cases h4 : u < 100
  · exact key 80 20 mt_4 (by omega) (by omega)
  by_cases h5 : u < 120
  · exact key 100 20 mt_5 (by omega) (by omega)
  by_cases h6 : u < 140
  · exact key 120 20 mt_6 (by omega) (by omega)
  by_cases h7 : u < 160
  · exact key 140 20 mt_7 (by omega) (by omega)
  by_cases h8 : u < 180
  · exact key 160 20 mt_8 (by omega) (by omega)
  by_cases h9 : u < 200
  · exact key 180 20 mt_9 (by omega) (by omega)
  by_cases h10 : u < 220
  · exact key 200 20 mt_10 (by omega) (by omega)
  by_cases h11 : u < 240
  · exact key 220 20 mt_11 (by omega) (by omega)
  by_cases h12 : u < 260
  · exact key 240 20 mt_12 (by omega) (by omega)
  by_cases h13 : u < 280
  · exact key 260 20 mt_13 (by omega) (by omega)
  by_cases h14 : u < 300
  · exact key 280 20 mt_14 (by omega) (by omega)
  by_cases h15 : u < 320
  · exact key 300 20 mt_15 (by omega) (by omega)
  by_cases h16 : u < 326
  · exact key 320 6 mt_16 (by omega) (by omega)
  omega
end
section
/-! the step of the small machine -/
def bI (f : Int32 → Int32 → Int32) (pc : Nat) (L S : List Value) (h : AH) : MR := match S with
  | .int y :: .int x :: r => nxt pc L (.int (f x y) :: r) h
  | _ => none
def dI (f : Int32 → Int32 → Int32) (pc : Nat) (L S : List Value) (h : AH) : MR := match S with
  | .int y :: .int x :: r => nxtG (!decide (y = 0)) pc L (.int (f x y) :: r) h
  | _ => none
def uI (f : Int32 → Int32) (pc : Nat) (L S : List Value) (h : AH) : MR := match S with
  | .int x :: r => nxt pc L (.int (f x) :: r) h
  | _ => none
def bJ (f : Int64 → Int64 → Int64) (pc : Nat) (L S : List Value) (h : AH) : MR := match S with
  | .long y :: .long x :: r => nxt pc L (.long (f x y) :: r) h
  | _ => none
def dJ (f : Int64 → Int64 → Int64) (pc : Nat) (L S : List Value) (h : AH) : MR := match S with
  | .long y :: .long x :: r => nxtG (!decide (y = 0)) pc L (.long (f x y) :: r) h
  | _ => none
def sJ (f : Int64 → Int32 → Int64) (pc : Nat) (L S : List Value) (h : AH) : MR := match S with
  | .int y :: .long x :: r => nxt pc L (.long (f x y) :: r) h
  | _ => none
def ldI (i pc : Nat) (L S : List Value) (h : AH) : MR := match L[i]? with
  | some (.int x) => nxt pc L (.int x :: S) h
  | _ => none
def ldJ (i pc : Nat) (L S : List Value) (h : AH) : MR := match L[i]? with
  | some (.long x) => nxt pc L (.long x :: S) h
  | _ => none
def ldR (i pc : Nat) (L S : List Value) (h : AH) : MR := match L[i]? with
  | some (.ref x) => nxt pc L (.ref x :: S) h
  | _ => none
def slI (i pc : Nat) (L S : List Value) (h : AH) : MR := match Nat.blt i L.length, S with
  | true, .int x :: r => nxt pc (setL L i (.int x)) r h
  | _, _ => none
def slR (i pc : Nat) (L S : List Value) (h : AH) : MR := match Nat.blt i L.length, S with
  | true, .ref x :: r => nxt pc (setL L i (.ref x)) r h
  | _, _ => none
def slJ (i pc : Nat) (L S : List Value) (h : AH) : MR := match Nat.blt (i + 1) L.length, S with
  | true, .long x :: r => nxt pc (setL2 L i (.long x)) r h
  | _, _ => none
def icI (i : Nat) (z : Int) (pc : Nat) (L S : List Value) (h : AH) : MR := match L[i]? with
  | some (.int x) => nxt pc (setL L i (.int (x + kI z))) S h
  | _ => none
def isB (x : Int32) : Bool := decide (x = 0) || decide (x = 1)
def gfR (own i pc : Nat) (L S : List Value) (h : AH) : MR := match fT own i, S with
  | some f, .ref x :: r => match fK (f / 64) (f % 64) with
    | 1 => nxtG (decide (kdA h x = f / 64)) pc L (.long (jvA h x (f % 64)) :: r) h
    | 2 => nxtG (decide (kdA h x = f / 64)) pc L (.ref (rvA h x (f % 64)) :: r) h
    | 9 => none
    | _ => nxtG (decide (kdA h x = f / 64)) pc L (.int (ivA h x (f % 64)) :: r) h
  | _, _ => none
def pfR (own i pc : Nat) (L S : List Value) (h : AH) : MR := match fT own i, S with
  | some f, .int v :: .ref x :: r => match fK (f / 64) (f % 64) with
    | 0 => nxtG (decide (kdA h x = f / 64)) pc L r (stI h x (f % 64) v)
    | 3 => some ([decide (kdA h x = f / 64), isB v], .inl (pc, L, r, stI h x (f % 64) v))
    | _ => none
  | some f, .long v :: .ref x :: r => match fK (f / 64) (f % 64) with
    | 1 => nxtG (decide (kdA h x = f / 64)) pc L r (stJ h x (f % 64) v)
    | _ => none
  | some f, .ref v :: .ref x :: r => match fK (f / 64) (f % 64) with
    | 2 => nxtG (decide (kdA h x = f / 64)) pc L r (stR h x (f % 64) v)
    | _ => none
  | _, _ => none
def gsR (own i pc : Nat) (L S : List Value) (h : AH) : MR := match gT own i with
  | some 0 => nxt pc L (.ref (rvA h 1000009 0) :: S) h
  | some 1 => nxt pc L (.int (ivA h 1000009 1) :: S) h
  | _ => none
def alI (g : Nat → Bool) (pc : Nat) (L S : List Value) (h : AH) : MR := match S with
  | .int i :: .ref a :: r => some ([g (kdA h a), inB i (lnA h a)], .inl (pc, L, .int (ivA h a (ix i)) :: r, h))
  | _ => none
def alJ (pc : Nat) (L S : List Value) (h : AH) : MR := match S with
  | .int i :: .ref a :: r => some ([decide (kdA h a = 21), inB i (lnA h a)], .inl (pc, L, .long (jvA h a (ix i)) :: r, h))
  | _ => none
def alR (pc : Nat) (L S : List Value) (h : AH) : MR := match S with
  | .int i :: .ref a :: r => some ([decide (30 ≤ kdA h a), decide (kdA h a ≤ 33), inB i (lnA h a)], .inl (pc, L, .ref (rvA h a (ix i)) :: r, h))
  | _ => none
def asI (t : Nat) (f : Int32 → Int32) (pc : Nat) (L S : List Value) (h : AH) : MR := match S with
  | .int v :: .int i :: .ref a :: r => some ([decide (kdA h a = t), inB i (lnA h a)], .inl (pc, L, r, stI h a (ix i) (f v)))
  | _ => none
/-- bastore: a byte array narrows, a boolean one takes 0 and 1 -/
def asB (pc : Nat) (L S : List Value) (h : AH) : MR := match S with
  | .int v :: .int i :: .ref a :: r => some ([decide (kdA h a = 22) || decide (kdA h a = 24) && isB v, inB i (lnA h a)], .inl (pc, L, r, stI h a (ix i) v.toInt8.toInt32))
  | _ => none
def asJ (pc : Nat) (L S : List Value) (h : AH) : MR := match S with
  | .long v :: .int i :: .ref a :: r => some ([decide (kdA h a = 21), inB i (lnA h a)], .inl (pc, L, r, stJ h a (ix i) v))
  | _ => none
def asR (pc : Nat) (L S : List Value) (h : AH) : MR := match S with
  | .ref v :: .int i :: .ref a :: r => some ([decide (akC (kdA h a) = kdA h v), decide (kdA h v < 13), inB i (lnA h a)], .inl (pc, L, r, stR h a (ix i) v))
  | _ => none
def isA (t : Nat) : Bool := decide (20 ≤ t) && decide (t ≤ 24) || decide (30 ≤ t) && decide (t ≤ 33) || decide (t = 40) || decide (t = 42)
def lnR (pc : Nat) (L S : List Value) (h : AH) : MR := match S with
  | .ref a :: r => nxtG (isA (kdA h a)) pc L (.int (kI (lnA h a)) :: r) h
  | _ => none
def okN (n : Int32) : Bool := inB n 1000000
def nwP (t pc : Nat) (L S : List Value) (h : AH) : MR := match S with
  | .int n :: r => nxtG (okN n) pc L (.ref (szA h + 1) :: r) (nwA h t (ix n))
  | _ => none
def aTk (a : ArrayType) : Nat := match a with
  | .int => 20
  | .long => 21
  | .byte => 22
  | .short => 23
  | .boolean => 24
  | _ => 96
def nwR (own i pc : Nat) (L S : List Value) (h : AH) : MR := match cT own i with
  | some c => match Nat.blt c 13 with
    | true => nxt pc L (.ref (szA h + 1) :: S) (nwA h c (fN c))
    | false => none
  | _ => none
def nwQ (own i pc : Nat) (L S : List Value) (h : AH) : MR := match cT own i with
  | some c => match Nat.blt (aOf c) 34 with
    | true => nwP (aOf c) pc L S h
    | false => none
  | _ => none
def spr : List Value → List Value
  | [] => []
  | .long x :: r => .long x :: unV :: spr r
  | v :: r => v :: spr r
def okV (v : Value) : Bool := match v with
  | .int _ => true
  | .long _ => true
  | .ref _ => true
  | _ => false
def okAs : List Value → Bool
  | [] => true
  | v :: r => match okV v with
    | true => okAs r
    | false => false
def cll (g : List Bool) (u n pc : Nat) (L S : List Value) (h : AH) : MR :=
  match Nat.ble n S.length, catS (S.drop n), okAs (S.take n).reverse, Nat.ble (spr (S.take n).reverse).length (mxM u) with
  | true, true, true, true => some (g, .inr (.inr (.inr (.inl (u, (S.take n).reverse, pc, L, S.drop n, h)))))
  | _, _, _, _ => none
def inv (own i pc : Nat) (L S : List Value) (h : AH) : MR := match mT own i with
  | some 9998 => match S with
    | .ref a :: r => match catS r with
      | true => nxtG (decide (kdA h a = 20)) pc L (.ref (szA h + 1) :: r) (cpA (nwA h 20 (lnA h a)) a (szA h + 1) (lnA h a))
      | false => none
    | _ => none
  | some u => match kdM u with
    | 1 => match S[naM u]? with
      | some (.ref x) => cll [decide (kdA h x = owM u)] u (naM u + 1) pc L S h
      | _ => none
    | _ => none
  | _ => none
def fmF (x y : Int32) : Int32 := if (x ^^^ y) < 0 ∧ (x - x / y * y) ≠ 0 then (x - x / y * y) + y else x - x / y * y
def mthI (f : Int32 → Int32 → Int32) (pc : Nat) (L S : List Value) (h : AH) : MR := match S with
  | .int y :: .int x :: r => match catS r with
    | true => nxt pc L (.int (f x y) :: r) h
    | false => none
  | _ => none
def mthJ (f : Int64 → Int64 → Int64) (pc : Nat) (L S : List Value) (h : AH) : MR := match S with
  | .long y :: .long x :: r => match catS r with
    | true => nxt pc L (.long (f x y) :: r) h
    | false => none
  | _ => none
def ins (own i pc : Nat) (L S : List Value) (h : AH) : MR := match mT own i with
  | some 9997 => match S with
    | .int n :: .int dp :: .ref b :: .int sp :: .ref a :: r => some ([decide (dp = 0), decide (sp = 0), decide (kdA h a = 20), decide (kdA h b = 20), !decide (n < 0), decide (ix n ≤ lnA h a), decide (ix n ≤ lnA h b), !decide (a = b), catS r], .inl (pc, L, r, cpA h a b (ix n)))
    | _ => none
  | some 9990 => match S with
    | .int y :: .int x :: r => match catS r with
      | true => nxtG (!decide (y = 0)) pc L (.int (fmF x y) :: r) h
      | false => none
    | _ => none
  | some 9991 => match S with
    | .int x :: r => match catS r with
      | true => nxt pc L (.int (if 0 ≤ x then x else 0 - x) :: r) h
      | false => none
    | _ => none
  | some 9992 => mthI (fun x y => if x < y then y else x) pc L S h
  | some 9993 => mthJ (fun x y => if y < x then x else y) pc L S h
  | some 9994 => mthI (fun x y => if y < x then y else x) pc L S h
  | some 9995 => mthJ (fun x y => if y < x then y else x) pc L S h
  | some u => match kdM u with
    | 0 => cll [] u (naM u) pc L S h
    | _ => none
  | _ => none
def isp (own i pc : Nat) (L S : List Value) (h : AH) : MR := match mT own i with
  | some 9999 => match S with
    | .ref x :: r => match catS r with
      | true => nxtG (!decide (x = 0)) pc L r h
      | false => none
    | _ => none
  | some u => match kdM u with
    | 2 => match S[naM u]? with
      | some (.ref x) => cll [!decide (x = 0)] u (naM u + 1) pc L S h
      | _ => none
    | _ => none
  | _ => none
def inJ (z lo hi : Int) (pc : Nat) (L S : List Value) (h : AH) : MR := match decide (lo ≤ z), decide (z ≤ hi) with
  | true, true => nxt pc L (.int (kI z) :: S) h
  | _, _ => none
def rtI (rt : Nat) (S : List Value) (h : AH) : MR := match S with
  | .int v :: [] => match rt with
    | 1 => some ([], .inr (.inr (.inr (.inr (some (.int v), h)))))
    | 4 => some ([isB v], .inr (.inr (.inr (.inr (some (.int v), h)))))
    | 5 => some ([inB v 65536], .inr (.inr (.inr (.inr (some (.int v), h)))))
    | 6 => some ([decide (v.toInt8.toInt32 = v)], .inr (.inr (.inr (.inr (some (.int v), h)))))
    | _ => none
  | _ => none
def mstep (own rt : Nat) (i : Instr) (pc n : Nat) (L S : List Value) (h : AH) : MR := match i with
  | .aaload => alR (pc + n) L S h
  | .aastore => asR (pc + n) L S h
  | .aconst_null => nxt (pc + n) L (.ref 0 :: S) h
  | .aload k => ldR k (pc + n) L S h
  | .aload_n k => ldR k.val (pc + n) L S h
  | .anewarray k => nwQ own k (pc + n) L S h
  | .areturn => match S, rt with
    | .ref x :: [], 3 => some ([], .inr (.inr (.inr (.inr (some (.ref x), h)))))
    | _, _ => none
  | .arraylength => lnR (pc + n) L S h
  | .astore k => slR k (pc + n) L S h
  | .astore_n k => slR k.val (pc + n) L S h
  | .baload => alI (fun t => decide (t = 22) || decide (t = 24) || decide (t = 42)) (pc + n) L S h
  | .bastore => asB (pc + n) L S h
  | .bipush z => inJ z (-128) 127 (pc + n) L S h
  | .checkcast k => match cT own k, S with
    | some 20, .ref x :: r => nxtG (decide (kdA h x = 20)) (pc + n) L (.ref x :: r) h
    | _, _ => none
  | .dup => match S with
    | v :: r => match cat1 v with
      | true => nxt (pc + n) L (v :: v :: r) h
      | false => none
    | _ => none
  | .dup2 => match S with
    | v :: w :: r => match cat1 v, cat1 w with
      | true, true => nxt (pc + n) L (v :: w :: v :: w :: r) h
      | _, _ => none
    | _ => none
  | .getfield k => gfR own k (pc + n) L S h
  | .getstatic k => gsR own k (pc + n) L S h
  | .goto o => jmp ((pc : Int) + o) L S h
  | .i2b => uI (fun x => x.toInt8.toInt32) (pc + n) L S h
  | .i2c => uI (fun x => (x.toUInt32 % 65536).toInt32) (pc + n) L S h
  | .i2l => match S with
    | .int x :: r => nxt (pc + n) L (.long x.toInt64 :: r) h
    | _ => none
  | .i2s => uI (fun x => x.toInt16.toInt32) (pc + n) L S h
  | .iadd => bI (fun x y => x + y) (pc + n) L S h
  | .iaload => alI (fun t => decide (t = 20) || decide (t = 40)) (pc + n) L S h
  | .iand => bI (fun x y => x &&& y) (pc + n) L S h
  | .iastore => asI 20 (fun x => x) (pc + n) L S h
  | .iconst z => nxt (pc + n) L (.int (kI z) :: S) h
  | .idiv => dI (fun x y => x / y) (pc + n) L S h
  | .ifCond c o => match S with
    | .int x :: r => brn (cI1 c x) ((pc : Int) + o) (pc + n) L r h
    | _ => none
  | .if_acmp c o => match S with
    | .ref y :: .ref x :: r => match c with
      | .eq => brnG [decide (x < 1000000), decide (y < 1000000)] (decide (x = y)) ((pc : Int) + o) (pc + n) L r h
      | .ne => brnG [decide (x < 1000000), decide (y < 1000000)] (!decide (x = y)) ((pc : Int) + o) (pc + n) L r h
    | _ => none
  | .if_icmp c o => match S with
    | .int y :: .int x :: r => brn (cI2 c x y) ((pc : Int) + o) (pc + n) L r h
    | _ => none
  | .ifnonnull o => match S with
    | .ref x :: r => brn (!decide (x = 0)) ((pc : Int) + o) (pc + n) L r h
    | _ => none
  | .iinc k z => icI k z (pc + n) L S h
  | .iload k => ldI k (pc + n) L S h
  | .iload_n k => ldI k.val (pc + n) L S h
  | .imul => bI (fun x y => x * y) (pc + n) L S h
  | .ineg => uI (fun x => -x) (pc + n) L S h
  | .invokespecial k => isp own k (pc + n) L S h
  | .invokestatic k => ins own k (pc + n) L S h
  | .invokevirtual k => inv own k (pc + n) L S h
  | .ior => bI (fun x y => x ||| y) (pc + n) L S h
  | .irem => dI (fun x y => x - x / y * y) (pc + n) L S h
  | .ireturn => rtI rt S h
  | .ishl => bI (fun x y => x <<< (y &&& 31)) (pc + n) L S h
  | .ishr => bI (fun x y => x >>> (y &&& 31)) (pc + n) L S h
  | .istore k => slI k (pc + n) L S h
  | .istore_n k => slI k.val (pc + n) L S h
  | .isub => bI (fun x y => x - y) (pc + n) L S h
  | .iushr => bI (fun x y => (x.toUInt32 >>> (y.toUInt32 &&& Int32.toUInt32 31)).toInt32) (pc + n) L S h
  | .ixor => bI (fun x y => x ^^^ y) (pc + n) L S h
  | .l2i => match S with
    | .long x :: r => nxt (pc + n) L (.int x.toInt32 :: r) h
    | _ => none
  | .ladd => bJ (fun x y => x + y) (pc + n) L S h
  | .laload => alJ (pc + n) L S h
  | .land => bJ (fun x y => x &&& y) (pc + n) L S h
  | .lastore => asJ (pc + n) L S h
  | .lcmp => match S with
    | .long y :: .long x :: r => nxt (pc + n) L (.int (lg_cmp x y) :: r) h
    | _ => none
  | .lconst k => nxt (pc + n) L (.long (kJ k.val) :: S) h
  | .ldc k => match kT own k with
    | some z => nxt (pc + n) L (.int (kI z) :: S) h
    | none => match sT own k with
      | some s => nxt (pc + n) L (.ref (1000001 + s) :: S) h
      | none => none
  | .ldc_w k => match kT own k with
    | some z => nxt (pc + n) L (.int (kI z) :: S) h
    | none => none
  | .ldc2_w k => match jT own k with
    | some z => nxt (pc + n) L (.long (kJ z) :: S) h
    | none => none
  | .ldiv => dJ (fun x y => x / y) (pc + n) L S h
  | .lload k => ldJ k (pc + n) L S h
  | .lload_n k => ldJ k.val (pc + n) L S h
  | .lmul => bJ (fun x y => x * y) (pc + n) L S h
  | .lookupswitch d ps => match S with
    | .int x :: r => swM x (swQ pc ps.toList) ((pc : Int) + d) L r h
    | _ => none
  | .lor => bJ (fun x y => x ||| y) (pc + n) L S h
  | .lrem => dJ (fun x y => x - x / y * y) (pc + n) L S h
  | .lreturn => match S, rt with
    | .long x :: [], 2 => some ([], .inr (.inr (.inr (.inr (some (.long x), h)))))
    | _, _ => none
  | .lshl => sJ (fun x y => x <<< (y.toInt64 &&& 63)) (pc + n) L S h
  | .lshr => sJ (fun x y => x >>> (y.toInt64 &&& 63)) (pc + n) L S h
  | .lstore k => slJ k (pc + n) L S h
  | .lstore_n k => slJ k.val (pc + n) L S h
  | .lsub => bJ (fun x y => x - y) (pc + n) L S h
  | .lushr => sJ (fun x y => (x.toUInt64 >>> (y.toInt64.toUInt64 &&& Int64.toUInt64 63)).toInt64) (pc + n) L S h
  | .lxor => bJ (fun x y => x ^^^ y) (pc + n) L S h
  | .new k => nwR own k (pc + n) L S h
  | .newarray t => match Nat.blt (aTk t) 34 with
    | true => nwP (aTk t) (pc + n) L S h
    | false => none
  | .pop => match S with
    | v :: r => match cat1 v with
      | true => nxt (pc + n) L r h
      | false => none
    | _ => none
  | .pop2 => match S with
    | .long _ :: r => nxt (pc + n) L r h
    | _ => none
  | .putfield k => pfR own k (pc + n) L S h
  | .return_ => match S, rt with
    | [], 0 => some ([], .inr (.inr (.inr (.inr (none, h)))))
    | _, _ => none
  | .saload => alI (fun t => decide (t = 23)) (pc + n) L S h
  | .sastore => asI 23 (fun x => x.toInt16.toInt32) (pc + n) L S h
  | .sipush z => inJ z (-32768) 32767 (pc + n) L S h
  | .tableswitch d lo hi os => match S with
    | .int x :: r => match decide (hi = lo + os.size - 1) with
      | true => swM x (swP pc lo os.toList) ((pc : Int) + d) L r h
      | false => none
    | _ => none
  | _ => none
end
section
/-! runs of the small machine, and the formula that a stretch of code comes to -/
abbrev MRes : Type := Option Value × AH
def allG : List Bool → Bool
  | [] => true
  | b :: r => b && allG r
def body (C : Nat → List Value → AH → Option MRes) (u : Nat) : Nat → MN → Option MRes
  | 0, _ => none
  | n + 1, (pc, L, S, h) => match lkp (codeM u) pc with
    | none => none
    | some (i, k) => match mstep (owM u) (rtM u) i pc k L S h with
      | none => none
      | some (g, a) => match allG g with
        | false => none
        | true => match a with
          | .inl s => body C u n s
          | .inr (.inl (b, t, pc', L', S', h')) => body C u n (bif b then t else pc', L', S', h')
          | .inr (.inr (.inl (x, ps, d, L', S', h'))) => body C u n (swT x ps d, L', S', h')
          | .inr (.inr (.inr (.inl (w, as, pc', L', S', h')))) => match C w as h' with
            | none => none
            | some (v, h'') => body C u n (pc', L', v.toList ++ S', h'')
          | .inr (.inr (.inr (.inr r))) => some r
def entL (u : Nat) (as : List Value) : List Value := spr as ++ List.replicate (mxM u - (spr as).length) unV
def mcall : Nat → Nat → Nat → List Value → AH → Option MRes
  | 0, _, _, _, _ => none
  | d + 1, N, u, as, h => body (mcall d N) u N (0, entL u as, [], h)
theorem body_s (C : Nat → List Value → AH → Option MRes) (u n pc : Nat) (L S : List Value) (h : AH) : body C u (n + 1) (pc, L, S, h) = (match lkp (codeM u) pc with
    | none => none
    | some (i, k) => match mstep (owM u) (rtM u) i pc k L S h with
      | none => none
      | some (g, a) => match allG g with
        | false => none
        | true => match a with
          | .inl s => body C u n s
          | .inr (.inl (b, t, pc', L', S', h')) => body C u n (bif b then t else pc', L', S', h')
          | .inr (.inr (.inl (x, ps, d, L', S', h'))) => body C u n (swT x ps d, L', S', h')
          | .inr (.inr (.inr (.inl (w, as, pc', L', S', h')))) => match C w as h' with
            | none => none
            | some (v, h'') => body C u n (pc', L', v.toList ++ S', h'')
          | .inr (.inr (.inr (.inr r))) => some r) := rfl
theorem body_mono {C C' : Nat → List Value → AH → Option MRes} (hC : ∀ w as h r, C w as h = some r → C' w as h = some r) {u : Nat} : ∀ (n n' : Nat) (s : MN) (r : MRes), n ≤ n' → body C u n s = some r → body C' u n' s = some r := by
  intro n
  induction n with
  | zero => intro n' s r _ h; cases h
  | succ n ih =>
    intro n' s r hn h
    obtain ⟨m, rfl⟩ : ∃ m, n' = m + 1 := ⟨n' - 1, by omega⟩
    obtain ⟨pc, L, S, hp⟩ := s
    rw [body_s] at h ⊢
    cases hl : lkp (codeM u) pc with
    | none => rw [hl] at h; cases h
    | some ik =>
      obtain ⟨i, k⟩ := ik
      simp only [hl] at h ⊢
      cases hm : mstep (owM u) (rtM u) i pc k L S hp with
      | none => rw [hm] at h; cases h
      | some ga =>
        obtain ⟨g, a⟩ := ga
        simp only [hm] at h ⊢
        cases hg : allG g with
        | false => rw [hg] at h; cases h
        | true =>
          simp only [hg] at h ⊢
          rcases a with s | ⟨b, t, pc', L', S', h'⟩ | ⟨x, ps, e, L', S', h'⟩ | ⟨w, as, pc', L', S', h'⟩ | r'
          · exact ih _ _ _ (by omega) h
          · exact ih _ _ _ (by omega) h
          · exact ih _ _ _ (by omega) h
          · dsimp only at h ⊢
            cases hc : C w as h' with
            | none => rw [hc] at h; cases h
            | some vh =>
              obtain ⟨v, h2⟩ := vh
              rw [hC _ _ _ _ hc]
              simp only [hc] at h ⊢
              exact ih _ _ _ (by omega) h
          · exact h
theorem mcall_mono : ∀ (d d' N N' : Nat) (u : Nat) (as : List Value) (h : AH) (r : MRes), d ≤ d' → N ≤ N' → mcall d N u as h = some r → mcall d' N' u as h = some r := by
  intro d
  induction d with
  | zero => intro d' N N' u as h r _ _ hh; cases hh
  | succ d ih =>
    intro d' N N' u as h r hd hN hh
    obtain ⟨m, rfl⟩ : ∃ m, d' = m + 1 := ⟨d' - 1, by omega⟩
    exact body_mono (fun w as h r hc => ih m N N' w as h r (by omega) hN hc) _ _ _ _ hN hh
def Ret (d u : Nat) (as : List Value) (h : AH) (v : Option Value) (h' : AH) : Prop := ∃ N, mcall d N u as h = some (v, h')
theorem Ret.up {d d' u : Nat} {as : List Value} {h : AH} {v : Option Value} {h' : AH} (H : Ret d u as h v h') (hd : d ≤ d') : Ret d' u as h v h' := by
  obtain ⟨N, hN⟩ := H
  exact ⟨N, mcall_mono _ _ _ _ _ _ _ _ hd (Nat.le_refl _) hN⟩
theorem Ret.det {d d' u : Nat} {as : List Value} {h : AH} {v v2 : Option Value} {h1 h2 : AH} (H : Ret d u as h v h1) (H2 : Ret d' u as h v2 h2) : v2 = v ∧ h2 = h1 := by
  obtain ⟨N, hN⟩ := H
  obtain ⟨N2, hN2⟩ := H2
  have a := mcall_mono d (max d d') N (max N N2) u as h _ (by omega) (by omega) hN
  have b := mcall_mono d' (max d d') N2 (max N N2) u as h _ (by omega) (by omega) hN2
  rw [a] at b
  have := Option.some.inj b
  exact ⟨(Prod.mk.inj this).1.symm, (Prod.mk.inj this).2.symm⟩
def Safe (d u : Nat) (s : MN) (Q : Option Value → AH → Prop) : Prop := ∃ N n v h', body (mcall d N) u n s = some (v, h') ∧ Q v h'
def CallG (d w : Nat) (as : List Value) (h : AH) (K : Option Value → AH → Prop) : Prop := ∃ v h', Ret d w as h v h' ∧ K v h'
def CallI (d w : Nat) (as : List Value) (h : AH) (K : Int32 → AH → Prop) : Prop := ∃ x h', Ret d w as h (some (.int x)) h' ∧ K x h'
def CallJ (d w : Nat) (as : List Value) (h : AH) (K : Int64 → AH → Prop) : Prop := ∃ x h', Ret d w as h (some (.long x)) h' ∧ K x h'
def CallR (d w : Nat) (as : List Value) (h : AH) (K : Nat → AH → Prop) : Prop := ∃ x h', Ret d w as h (some (.ref x)) h' ∧ K x h'
def CallV (d w : Nat) (as : List Value) (h : AH) (K : AH → Prop) : Prop := ∃ h', Ret d w as h none h' ∧ K h'
theorem call_iff {d u : Nat} {as : List Value} {h : AH} {Q : Option Value → AH → Prop} : CallG (d + 1) u as h Q ↔ Safe d u (0, entL u as, [], h) Q := by
  constructor
  · rintro ⟨v, h', ⟨N, hN⟩, hq⟩
    exact ⟨N, N, v, h', hN, hq⟩
  · rintro ⟨N, n, v, h', hb, hq⟩
    refine ⟨v, h', ⟨max N n, ?_⟩, hq⟩
    exact body_mono (fun w as h r hc => mcall_mono _ _ _ _ _ _ _ _ (Nat.le_refl _) (Nat.le_max_left _ _) hc) _ _ _ _ (Nat.le_max_right _ _) hb
theorem ret_of {d u : Nat} {as : List Value} {h : AH} {v : Option Value} {h' : AH} (H : Safe d u (0, entL u as, [], h) (fun w k => w = v ∧ k = h')) : Ret (d + 1) u as h v h' := by
  obtain ⟨w, k, hr, rfl, rfl⟩ := call_iff.mpr H
  exact hr
theorem Ret.I {d d' u : Nat} {as : List Value} {h : AH} {x : Int32} {h' : AH} {K : Int32 → AH → Prop} (H : Ret d u as h (some (.int x)) h') (hd : d ≤ d') : CallI d' u as h K ↔ K x h' := by
  constructor
  · rintro ⟨y, k, hr, hk⟩
    obtain ⟨e1, rfl⟩ := H.det hr
    cases e1
    exact hk
  · exact fun hk => ⟨x, h', H.up hd, hk⟩
theorem Ret.J {d d' u : Nat} {as : List Value} {h : AH} {x : Int64} {h' : AH} {K : Int64 → AH → Prop} (H : Ret d u as h (some (.long x)) h') (hd : d ≤ d') : CallJ d' u as h K ↔ K x h' := by
  constructor
  · rintro ⟨y, k, hr, hk⟩
    obtain ⟨e1, rfl⟩ := H.det hr
    cases e1
    exact hk
  · exact fun hk => ⟨x, h', H.up hd, hk⟩
theorem Ret.R {d d' u : Nat} {as : List Value} {h : AH} {x : Nat} {h' : AH} {K : Nat → AH → Prop} (H : Ret d u as h (some (.ref x)) h') (hd : d ≤ d') : CallR d' u as h K ↔ K x h' := by
  constructor
  · rintro ⟨y, k, hr, hk⟩
    obtain ⟨e1, rfl⟩ := H.det hr
    cases e1
    exact hk
  · exact fun hk => ⟨x, h', H.up hd, hk⟩
theorem Ret.V {d d' u : Nat} {as : List Value} {h : AH} {h' : AH} {K : AH → Prop} (H : Ret d u as h none h') (hd : d ≤ d') : CallV d' u as h K ↔ K h' := by
  constructor
  · rintro ⟨k, hr, hk⟩
    obtain ⟨e1, rfl⟩ := H.det hr
    exact hk
  · exact fun hk => ⟨h', H.up hd, hk⟩
/-- what a step's act comes to -/
def actS (d u : Nat) (Q : Option Value → AH → Prop) : MAct → Prop
  | .inl s => Safe d u s Q
  | .inr (.inl (b, t, pc', L', S', h')) => Safe d u (bif b then t else pc', L', S', h') Q
  | .inr (.inr (.inl (x, ps, e, L', S', h'))) => Safe d u (swT x ps e, L', S', h') Q
  | .inr (.inr (.inr (.inl (w, as, pc', L', S', h')))) => CallG d w as h' (fun v h'' => Safe d u (pc', L', v.toList ++ S', h'') Q)
  | .inr (.inr (.inr (.inr r))) => Q r.1 r.2
theorem safe_step {d u pc : Nat} {L S : List Value} {h : AH} {Q : Option Value → AH → Prop} {i : Instr} {k : Nat} {g : List Bool} {a : MAct} (hl : lkp (codeM u) pc = some (i, k)) (hm : mstep (owM u) (rtM u) i pc k L S h = some (g, a)) :
    Safe d u (pc, L, S, h) Q ↔ (allG g = true ∧ actS d u Q a) := by
  constructor
  · rintro ⟨N, n, v, h', hb, hq⟩
    cases n with
    | zero => cases hb
    | succ n =>
      rw [body_s] at hb
      simp only [hl, hm] at hb
      cases hg : allG g with
      | false => rw [hg] at hb; cases hb
      | true =>
        simp only [hg] at hb
        refine ⟨rfl, ?_⟩
        rcases a with s | ⟨b, t, pc', L', S', h'⟩ | ⟨x, ps, e, L', S', h'⟩ | ⟨w, as, pc', L', S', h'⟩ | r'
        · exact ⟨N, n, v, _, hb, hq⟩
        · exact ⟨N, n, v, _, hb, hq⟩
        · exact ⟨N, n, v, _, hb, hq⟩
        · dsimp only at hb
          cases hc : mcall d N w as h' with
          | none => rw [hc] at hb; cases hb
          | some vh =>
            obtain ⟨v2, h2⟩ := vh
            simp only [hc] at hb
            exact ⟨_, _, ⟨N, hc⟩, N, n, v, _, hb, hq⟩
        · cases hb
          exact hq
  · rintro ⟨hg, ha⟩
    rcases a with s | ⟨b, t, pc', L', S', h'⟩ | ⟨x, ps, e, L', S', h'⟩ | ⟨w, as, pc', L', S', h'⟩ | r
    · obtain ⟨N, n, v, h', hb, hq⟩ := ha
      exact ⟨N, n + 1, v, h', by rw [body_s]; simp only [hl, hm, hg]; exact hb, hq⟩
    · obtain ⟨N, n, v, h', hb, hq⟩ := ha
      exact ⟨N, n + 1, v, h', by rw [body_s]; simp only [hl, hm, hg]; exact hb, hq⟩
    · obtain ⟨N, n, v, h', hb, hq⟩ := ha
      exact ⟨N, n + 1, v, h', by rw [body_s]; simp only [hl, hm, hg]; exact hb, hq⟩
    · obtain ⟨v, h2, ⟨N1, hN1⟩, N2, n, w2, h3, hb, hq⟩ := ha
      refine ⟨max N1 N2, n + 1, w2, h3, ?_, hq⟩
      rw [body_s]
      simp only [hl, hm, hg]
      rw [mcall_mono _ d N1 (max N1 N2) _ _ _ _ (Nat.le_refl _) (Nat.le_max_left _ _) hN1]
      exact body_mono (fun w as h r hc => mcall_mono _ _ _ _ _ _ _ _ (Nat.le_refl _) (Nat.le_max_right _ _) hc) _ _ _ _ (Nat.le_refl _) hb
    · exact ⟨0, 1, r.1, r.2, by rw [body_s]; simp only [hl, hm, hg], ha⟩
/-- a method answers by its kind -/
abbrev ansOk (rt : Nat) (v : Option Value) : Prop := (rt = 0 → v = none) ∧ (rt = 2 → ∃ x, v = some (.long x)) ∧ (rt = 3 → ∃ x, v = some (.ref x)) ∧ (rt ≠ 0 → rt ≠ 2 → rt ≠ 3 → ∃ x, v = some (.int x))
end
section
/-! answers by kind, and the formula 'go' -/
set_option maxHeartbeats 4000000 in
theorem mstep_ans {own rt : Nat} {i : Instr} {pc n : Nat} {L S : List Value} {h : AH} {g : List Bool} {r : MRes} (hm : mstep own rt i pc n L S h = some (g, .inr (.inr (.inr (.inr r))))) : ansOk rt r.1 := by
  unfold mstep at hm
  split at hm
  all_goals first
    | (cases hm; done)
    | (simp only [alR, asR, nxt, nxtG, ldI, ldJ, ldR, slI, slJ, slR, nwQ, nwP, nwR, lnR, alI, alJ, asI, asB, asJ, inJ, gfR, pfR, gsR, jmp, brn, brnG, uI, bI, dI, bJ, dJ, sJ, icI, isp, ins, mthI, mthJ, inv, cll, swM] at hm; (repeat' (split at hm)) <;> cases hm; done)
    | skip
  · split at hm
    · cases hm
      exact ⟨fun h => (by cases h), fun h => (by cases h), fun _ => ⟨_, rfl⟩, fun _ _ h => absurd rfl h⟩
    · cases hm
  · unfold rtI at hm
    split at hm
    · split at hm <;> cases hm <;> exact ⟨fun h => (by cases h), fun h => (by cases h), fun h => (by cases h), fun _ _ _ => ⟨_, rfl⟩⟩
    · cases hm
  · split at hm
    · cases hm
      exact ⟨fun h => (by cases h), fun _ => ⟨_, rfl⟩, fun h => (by cases h), fun _ h => absurd rfl h⟩
    · cases hm
  · split at hm
    · cases hm
      exact ⟨fun _ => rfl, fun h => (by cases h), fun h => (by cases h), fun h => absurd rfl h⟩
    · cases hm
theorem body_ans {C : Nat → List Value → AH → Option MRes} {u : Nat} : ∀ (n : Nat) (s : MN) (r : MRes), body C u n s = some r → ansOk (rtM u) r.1 := by
  intro n
  induction n with
  | zero => intro s r h; cases h
  | succ n ih =>
    intro s r h
    obtain ⟨pc, L, S, hp⟩ := s
    rw [body_s] at h
    cases hl : lkp (codeM u) pc with
    | none => rw [hl] at h; cases h
    | some ik =>
      obtain ⟨i, k⟩ := ik
      simp only [hl] at h
      cases hm : mstep (owM u) (rtM u) i pc k L S hp with
      | none => rw [hm] at h; cases h
      | some ga =>
        obtain ⟨g, a⟩ := ga
        simp only [hm] at h
        cases hg : allG g with
        | false => rw [hg] at h; cases h
        | true =>
          simp only [hg] at h
          rcases a with s | ⟨b, t, pc', L', S', h'⟩ | ⟨x, ps, e, L', S', h'⟩ | ⟨w, as, pc', L', S', h'⟩ | r'
          · exact ih _ _ h
          · exact ih _ _ h
          · exact ih _ _ h
          · dsimp only at h
            cases hc : C w as h' with
            | none => rw [hc] at h; cases h
            | some vh =>
              obtain ⟨v, h2⟩ := vh
              simp only [hc] at h
              exact ih _ _ h
          · cases h
            exact mstep_ans hm
theorem Ret.ans {d u : Nat} {as : List Value} {h : AH} {v : Option Value} {h' : AH} (H : Ret d u as h v h') : ansOk (rtM u) v := by
  obtain ⟨N, hN⟩ := H
  cases d with
  | zero => cases hN
  | succ d => exact body_ans _ _ _ hN
def gal : List Bool → Prop → Prop
  | [], P => P
  | b :: r, P => b = true ∧ gal r P
theorem gal_iff {P : Prop} : ∀ g : List Bool, gal g P ↔ (allG g = true ∧ P)
  | [] => by simp [gal, allG]
  | b :: r => by simp only [gal, allG, gal_iff r, Bool.and_eq_true, and_assoc]
def swG (x : Int32) : List (Int × Nat) → Nat → (Nat → Prop) → Prop
  | [], d, K => K d
  | (k, t) :: r, d, K => if decide (x = kI k) = true then K t else swG x r d K
theorem swG_iff (x : Int32) (K : Nat → Prop) (d : Nat) : ∀ ps : List (Int × Nat), swG x ps d K ↔ K (swT x ps d)
  | [] => Iff.rfl
  | (k, t) :: r => by
    unfold swG swT
    split
    · exact Iff.rfl
    · exact swG_iff x K d r
/-- a call, by the kind of its answer -/
def clG (d w : Nat) (as : List Value) (h : AH) (K : Option Value → AH → Prop) : Prop := match rtM w with
  | 0 => CallV d w as h (fun k => K none k)
  | 2 => CallJ d w as h (fun x k => K (some (.long x)) k)
  | 3 => CallR d w as h (fun x k => K (some (.ref x)) k)
  | _ => CallI d w as h (fun x k => K (some (.int x)) k)
theorem clG_iff {d w : Nat} {as : List Value} {h : AH} {K : Option Value → AH → Prop} : clG d w as h K ↔ CallG d w as h K := by
  unfold clG
  split
  · rename_i e
    constructor
    · rintro ⟨k, hr, hk⟩; exact ⟨_, _, hr, hk⟩
    · rintro ⟨v, k, hr, hk⟩
      obtain rfl := hr.ans.1 e
      exact ⟨_, hr, hk⟩
  · rename_i e
    constructor
    · rintro ⟨x, k, hr, hk⟩; exact ⟨_, _, hr, hk⟩
    · rintro ⟨v, k, hr, hk⟩
      obtain ⟨x, rfl⟩ := hr.ans.2.1 e
      exact ⟨_, _, hr, hk⟩
  · rename_i e
    constructor
    · rintro ⟨x, k, hr, hk⟩; exact ⟨_, _, hr, hk⟩
    · rintro ⟨v, k, hr, hk⟩
      obtain ⟨x, rfl⟩ := hr.ans.2.2.1 e
      exact ⟨_, _, hr, hk⟩
  · rename_i e0 e2 e3
    constructor
    · rintro ⟨x, k, hr, hk⟩; exact ⟨_, _, hr, hk⟩
    · rintro ⟨v, k, hr, hk⟩
      obtain ⟨x, rfl⟩ := hr.ans.2.2.2 (fun h => e0 h) (fun h => e2 h) (fun h => e3 h)
      exact ⟨_, _, hr, hk⟩
end
section
/-! what a method forgets of its locals doesn't matter: a run that goes through without a local goes through with it -/
def Fg (L L' : List Value) : Prop := L.length = L'.length ∧ ∀ (i : Nat) (v : Value), L'[i]? = some v → v ≠ unV → L[i]? = some v
def plug (a : MAct) (L : List Value) : MAct := match a with
  | .inl (pc, _, S, h) => .inl (pc, L, S, h)
  | .inr (.inl (b, t, pc, _, S, h)) => .inr (.inl (b, t, pc, L, S, h))
  | .inr (.inr (.inl (x, ps, e, _, S, h))) => .inr (.inr (.inl (x, ps, e, L, S, h)))
  | .inr (.inr (.inr (.inl (w, as, pc, _, S, h)))) => .inr (.inr (.inr (.inl (w, as, pc, L, S, h))))
  | .inr (.inr (.inr (.inr r))) => .inr (.inr (.inr (.inr r)))
def plugM (m : MR) (L : List Value) : MR := match m with
  | some (g, a) => some (g, plug a L)
  | none => none
def isLoc (i : Instr) : Bool := match i with
  | .iload _ => true
  | .iload_n _ => true
  | .lload _ => true
  | .lload_n _ => true
  | .aload _ => true
  | .aload_n _ => true
  | .istore _ => true
  | .istore_n _ => true
  | .lstore _ => true
  | .lstore_n _ => true
  | .astore _ => true
  | .astore_n _ => true
  | .iinc _ _ => true
  | _ => false
set_option maxHeartbeats 4000000 in
theorem mstep_plug {own rt : Nat} {i : Instr} (hi : isLoc i = false) (pc n : Nat) (L L' S : List Value) (h : AH) : mstep own rt i pc n L S h = plugM (mstep own rt i pc n L' S h) L := by
  unfold mstep
  split
  all_goals first
    | (cases hi; done)
    | (simp only [alR, asR, nxt, nxtG, nwQ, nwP, nwR, lnR, alI, alJ, asI, asB, asJ, inJ, gfR, pfR, gsR, jmp, brn, brnG, uI, bI, dI, bJ, dJ, sJ, isp, ins, mthI, mthJ, inv, cll, swM, rtI]; (repeat' split) <;> rfl)
    | ((repeat' split) <;> rfl)
theorem fg_set {L L' : List Value} (hF : Fg L L') (i : Nat) (v : Value) : Fg (L.set i v) (L'.set i v) := by
  refine ⟨by simp [hF.1], fun j w hj hw => ?_⟩
  rw [List.getElem?_set] at hj ⊢
  by_cases e : i = j
  · subst e
    rw [if_pos rfl] at hj ⊢
    rw [hF.1]
    exact hj
  · rw [if_neg e] at hj ⊢
    exact hF.2 j w hj hw
theorem setL_s (L : List Value) (j : Nat) (v : Value) : setL L (j + 1) v = (match L[j]? with
    | some (.long _) => (L.set j unV).set (j + 1) v
    | _ => L.set (j + 1) v) := rfl
theorem fg_setL {L L' : List Value} (hF : Fg L L') (i : Nat) (v : Value) : Fg (setL L i v) (setL L' i v) := by
  cases i with
  | zero => exact fg_set hF 0 v
  | succ j =>
    have hl : ∀ x : Int64, L'[j]? = some (.long x) → L[j]? = some (.long x) := fun x h => hF.2 j _ h (fun e => by cases e)
    rw [setL_s, setL_s]
    split
    · rename_i x h1
      split
      · exact fg_set (fg_set hF j unV) (j + 1) v
      · rename_i h2
        refine fg_set ?_ (j + 1) v
        refine ⟨by simp [hF.1], fun k w hk hw => ?_⟩
        rw [List.getElem?_set]
        by_cases e : j = k
        · subst e
          have h3 := hF.2 j w hk hw
          rw [h1] at h3
          cases h3
          exact absurd hk (h2 _)
        · rw [if_neg e]
          exact hF.2 k w hk hw
    · rename_i h1
      split
      · rename_i x h2
        exact absurd (hl x h2) (h1 x)
      · exact fg_set hF (j + 1) v
theorem fg_setL2 {L L' : List Value} (hF : Fg L L') (i : Nat) (v : Value) : Fg (setL2 L i v) (setL2 L' i v) := fg_set (fg_setL hF i v) (i + 1) unV
def FgA (a a' : MAct) : Prop := ∃ L L', Fg L L' ∧ a = plug a L ∧ a' = plug a L'
theorem plug_plug (a : MAct) (L L' : List Value) : plug (plug a L) L' = plug a L' := by
  rcases a with ⟨pc', L', S', h'⟩ | ⟨b, t, pc', L', S', h'⟩ | ⟨x, ps, e, L', S', h'⟩ | ⟨w, as, pc', L', S', h'⟩ | r' <;> rfl
set_option maxHeartbeats 4000000 in
theorem mstep_fg {own rt : Nat} {i : Instr} {pc n : Nat} {L L' S : List Value} {h : AH} {g : List Bool} {a' : MAct} (hF : Fg L L') (hm : mstep own rt i pc n L' S h = some (g, a')) : ∃ a, mstep own rt i pc n L S h = some (g, a) ∧ FgA a a' := by
  by_cases hi : isLoc i = false
  · refine ⟨plug a' L, by rw [mstep_plug hi pc n L L' S h, hm]; rfl, L, L', hF, (plug_plug _ _ _).symm, ?_⟩
    rw [plug_plug]
    have h2 := mstep_plug (own := own) (rt := rt) hi pc n L' L' S h
    rw [hm] at h2
    exact (Prod.mk.inj (Option.some.inj h2)).2
  · have ld : ∀ (k : Nat) (v : Value), v ≠ unV → L'[k]? = some v → L[k]? = some v := fun k v h1 h2 => hF.2 k v h2 h1
    have hlen := hF.1
    have fin : ∀ (pc : Nat) (Z Z' S : List Value) (h : AH), Fg Z Z' → FgA (.inl (pc, Z, S, h)) (.inl (pc, Z', S, h)) := fun pc Z Z' S h hz => ⟨Z, Z', hz, rfl, rfl⟩
    cases i
    all_goals first
      | exact absurd rfl hi
      | skip
    all_goals simp only [mstep, ldI, ldJ, ldR, slI, slJ, slR, icI, nxt] at hm ⊢
    all_goals (repeat' split at hm)
    all_goals first
      | (cases hm; done)
      | skip
    all_goals (cases hm)
    all_goals first
      | (rename_i x he; refine ⟨_, ?_, fin _ _ _ _ _ hF⟩; rw [ld _ _ (fun e => by cases e) he]; done)
      | (rename_i x he; refine ⟨_, ?_, fin _ _ _ _ _ (fg_setL hF _ _)⟩; rw [ld _ _ (fun e => by cases e) he]; done)
      | (refine ⟨_, ?_, fin _ _ _ _ _ (fg_setL hF _ _)⟩; rename_i hb; rw [hlen, hb]; done)
      | (refine ⟨_, ?_, fin _ _ _ _ _ (fg_setL2 hF _ _)⟩; rename_i hb; rw [hlen, hb]; done)
      | skip
end
section
theorem body_fg {C : Nat → List Value → AH → Option MRes} {u : Nat} : ∀ (n pc : Nat) (L L' S : List Value) (h : AH) (r : MRes), Fg L L' → body C u n (pc, L', S, h) = some r → body C u n (pc, L, S, h) = some r := by
  intro n
  induction n with
  | zero => intro pc L L' S h r _ hh; cases hh
  | succ n ih =>
    intro pc L L' S h r hF hh
    rw [body_s] at hh ⊢
    cases hl : lkp (codeM u) pc with
    | none => rw [hl] at hh; cases hh
    | some ik =>
      obtain ⟨i, k⟩ := ik
      simp only [hl] at hh ⊢
      cases hm : mstep (owM u) (rtM u) i pc k L' S h with
      | none => rw [hm] at hh; cases hh
      | some ga =>
        obtain ⟨g, a'⟩ := ga
        obtain ⟨a, hm2, Z, Z', hZ, ha, ha'⟩ := mstep_fg hF hm
        simp only [hm] at hh
        simp only [hm2]
        cases hg : allG g with
        | false => rw [hg] at hh; cases hh
        | true =>
          simp only [hg] at hh ⊢
          rcases a with ⟨pc', L', S', h'⟩ | ⟨b, t, pc', L', S', h'⟩ | ⟨x, ps, e, L', S', h'⟩ | ⟨w, as, pc', L', S', h'⟩ | r'
          · cases ha; subst ha'
            exact ih _ _ _ _ _ _ hZ hh
          · cases ha; subst ha'
            exact ih _ _ _ _ _ _ hZ hh
          · cases ha; subst ha'
            exact ih _ _ _ _ _ _ hZ hh
          · cases ha; subst ha'
            dsimp only [plug] at hh ⊢
            cases hc : C w as h' with
            | none => rw [hc] at hh; cases hh
            | some vh =>
              obtain ⟨v, h2⟩ := vh
              simp only [hc] at hh ⊢
              exact ih _ _ _ _ _ _ hZ hh
          · subst ha'
            exact hh
theorem safe_fg {d u pc : Nat} {L L' S : List Value} {h : AH} {Q : Option Value → AH → Prop} (hF : Fg L L') (H : Safe d u (pc, L', S, h) Q) : Safe d u (pc, L, S, h) Q := by
  obtain ⟨N, n, v, h', hb, hq⟩ := H
  exact ⟨N, n, v, h', body_fg _ _ _ _ _ _ _ hF hb, hq⟩
theorem fg_refl (L : List Value) : Fg L L := ⟨rfl, fun _ _ h _ => h⟩
theorem fg_un {L L' : List Value} (hF : Fg L L') (i : Nat) : Fg L (L'.set i unV) := by
  refine ⟨by simp [hF.1], fun j w hj hw => ?_⟩
  rw [List.getElem?_set] at hj
  by_cases e : i = j
  · subst e
    rw [if_pos rfl] at hj
    split at hj
    · cases hj; exact absurd rfl hw
    · cases hj
  · rw [if_neg e] at hj
    exact hF.2 j w hj hw
def clr (L : List Value) : List Nat → List Value
  | [] => L
  | i :: r => (clr L r).set i unV
theorem fg_clr (L : List Value) : ∀ ds : List Nat, Fg L (clr L ds)
  | [] => fg_refl L
  | i :: r => fg_un (fg_clr L r) i
/-- at a place of the list the formula stops, and forgets the locals that the list names there -/
def stp (d u : Nat) (st : List (Nat × List Nat)) (Q : Option Value → AH → Prop) (G : MN → Prop) (s : MN) : Prop := match lkp st s.1 with
  | some ds => Safe d u (s.1, clr s.2.1 ds, s.2.2.1, s.2.2.2) Q
  | none => G s
/-- the formula of the code from a place on -/
def go (d u : Nat) (st : List (Nat × List Nat)) (Q : Option Value → AH → Prop) : Nat → MN → Prop
  | 0, s => Safe d u s Q
  | n + 1, (pc, L, S, h) => match lkp (codeM u) pc with
    | none => False
    | some (i, k) => match mstep (owM u) (rtM u) i pc k L S h with
      | none => False
      | some (g, a) => gal g (match a with
        | .inl s => stp d u st Q (go d u st Q n) s
        | .inr (.inl (b, t, pc', L', S', h')) => if b = true then stp d u st Q (go d u st Q n) (t, L', S', h') else stp d u st Q (go d u st Q n) (pc', L', S', h')
        | .inr (.inr (.inl (x, ps, e, L', S', h'))) => swG x ps e (fun t => stp d u st Q (go d u st Q n) (t, L', S', h'))
        | .inr (.inr (.inr (.inl (w, as, pc', L', S', h')))) => clG d w as h' (fun v k => stp d u st Q (go d u st Q n) (pc', L', v.toList ++ S', k))
        | .inr (.inr (.inr (.inr (v, h')))) => Q v h')
theorem go_s (d u : Nat) (st : List (Nat × List Nat)) (Q : Option Value → AH → Prop) (n pc : Nat) (L S : List Value) (h : AH) : go d u st Q (n + 1) (pc, L, S, h) = (match lkp (codeM u) pc with
    | none => False
    | some (i, k) => match mstep (owM u) (rtM u) i pc k L S h with
      | none => False
      | some (g, a) => gal g (match a with
        | .inl s => stp d u st Q (go d u st Q n) s
        | .inr (.inl (b, t, pc', L', S', h')) => if b = true then stp d u st Q (go d u st Q n) (t, L', S', h') else stp d u st Q (go d u st Q n) (pc', L', S', h')
        | .inr (.inr (.inl (x, ps, e, L', S', h'))) => swG x ps e (fun t => stp d u st Q (go d u st Q n) (t, L', S', h'))
        | .inr (.inr (.inr (.inl (w, as, pc', L', S', h')))) => clG d w as h' (fun v k => stp d u st Q (go d u st Q n) (pc', L', v.toList ++ S', k))
        | .inr (.inr (.inr (.inr (v, h')))) => Q v h')) := rfl
theorem go_safe {d u : Nat} (st : List (Nat × List Nat)) {Q : Option Value → AH → Prop} : ∀ (n : Nat) {s : MN}, go d u st Q n s → Safe d u s Q := by
  intro n
  induction n with
  | zero => intro s h; exact h
  | succ n ih =>
    intro s h
    obtain ⟨pc, L, S, hp⟩ := s
    have one : ∀ s' : MN, stp d u st Q (go d u st Q n) s' → Safe d u s' Q := by
      intro s' h
      unfold stp at h
      split at h
      · obtain ⟨p', L', S', h'⟩ := s'
        exact safe_fg (fg_clr _ _) h
      · exact ih h
    rw [go_s] at h
    cases hl : lkp (codeM u) pc with
    | none => rw [hl] at h; exact h.elim
    | some ik =>
      obtain ⟨i, k⟩ := ik
      simp only [hl] at h
      cases hm : mstep (owM u) (rtM u) i pc k L S hp with
      | none => rw [hm] at h; exact h.elim
      | some ga =>
        obtain ⟨g, a⟩ := ga
        simp only [hm] at h
        rw [gal_iff] at h
        refine (safe_step hl hm).mpr ⟨h.1, ?_⟩
        replace h := h.2
        rcases a with s1 | ⟨b, t, pc', L', S', h'⟩ | ⟨x, ps, e, L', S', h'⟩ | ⟨w, as, pc', L', S', h'⟩ | r'
        · exact one s1 h
        · show Safe d u (bif b then t else pc', L', S', h') Q
          cases b with
          | true => exact one (t, L', S', h') (by simpa using h)
          | false => exact one (pc', L', S', h') (by simpa using h)
        · exact one (swT x ps e, L', S', h') ((swG_iff x _ e ps).mp h)
        · obtain ⟨v, k2, hr, hk⟩ := clG_iff.mp h
          exact ⟨v, k2, hr, one (pc', L', v.toList ++ S', k2) hk⟩
        · exact h
end
section
/-! the small machine's heap against the real one -/
def adA (B : Nat) (o : Nat → Nat) (x : Nat) : Nat := if x < 1000000 then B + (x - 1) else o x
def tN (B : Nat) (o : Nat → Nat) (x : Nat) : Option Nat := if x = 0 then none else some (adA B o x)
def tV (B : Nat) (o : Nat → Nat) (v : Value) : Value := match v with
  | .ref x => va_rf (tN B o x)
  | v => v
def fdV (B : Nat) (o : Nat → Nat) (h : AH) (x c k : Nat) : Value := match fK c k with
  | 1 => .long (jvA h x k)
  | 2 => va_rf (tN B o (rvA h x k))
  | _ => .int (ivA h x k)
def fdL (B : Nat) (o : Nat → Nat) (h : AH) (x c : Nat) : List Value := (List.range (fN c)).map (fdV B o h x c)
def clE (B : Nat) (o : Nat → Nat) (ca : Nat → ClassId) (h : AH) (x : Nat) : va_E :=
  if kdA h x < 13 then .inr (kdA h x, fdL B o h x (kdA h x))
  else if kdA h x = 21 then .inl (ca 21, lnA h x, .inr (.inl (jvA h x)))
  else if 30 ≤ kdA h x then .inl (ca (kdA h x), lnA h x, .inr (.inr (.inr (.inr (fun j => tN B o (rvA h x j))))))
  else .inl (ca (kdA h x), lnA h x, .inl (ivA h x))
def okK (t : Nat) : Prop := t < 13 ∨ (20 ≤ t ∧ t ≤ 24) ∨ (30 ≤ t ∧ t ≤ 33)
def KOK (h : AH) : Prop := (∀ x, okK (kdA h x) ↔ 1 ≤ x ∧ x ≤ szA h) ∧ (∀ x, kdA h x = 13 ∨ kdA h x = 40 ∨ kdA h x = 42 → 1000000 ≤ x) ∧ szA h < 1000000
def OutEq (h0 h : AH) : Prop := ∀ x, 1000000 ≤ x → kdA h x = kdA h0 x ∧ lnA h x = lnA h0 x ∧ (∀ k, ivA h x k = ivA h0 x k) ∧ ∀ k, rvA h x k = rvA h0 x k
def HR (B : Nat) (o : Nat → Nat) (D : va_G) (ca : Nat → ClassId) (h0 h : AH) (H : Heap) : Prop :=
  H.size = B + szA h ∧ (∀ x, 1 ≤ x → x ≤ szA h → va_at D vwCl (B + (x - 1), clE B o ca h x) H) ∧ KOK h ∧ OutEq h0 h
theorem va_at_keep {D : va_G} {cl : List vw_C} {q : Nat × va_E} {H H' : Heap} (h : va_at D cl q H) (e : H'[q.1]? = H[q.1]?) : va_at D cl q H' := by
  obtain ⟨a, x | x⟩ := q
  · exact e.trans h
  · obtain ⟨r, h1, h2⟩ := h
    exact ⟨r, h1, h2.kept e⟩
theorem tV_i (B : Nat) (o : Nat → Nat) (x : Int32) : tV B o (.int x) = .int x := rfl
theorem tV_l (B : Nat) (o : Nat → Nat) (x : Int64) : tV B o (.long x) = .long x := rfl
theorem tV_0 (B : Nat) (o : Nat → Nat) : tV B o (.ref 0) = .null := rfl
theorem tV_r (B : Nat) (o : Nat → Nat) {x : Nat} (h : x ≠ 0) : tV B o (.ref x) = .ref (adA B o x) := by
  show va_rf (tN B o x) = _
  unfold tN
  rw [if_neg h]
  rfl
theorem tV_cat (B : Nat) (o : Nat → Nat) (v : Value) : (tV B o v).category = v.category := by
  cases v <;> try rfl
  rename_i x
  by_cases h : x = 0
  · subst h; rfl
  · rw [tV_r B o h]; rfl
theorem okK_own {h : AH} (hK : KOK h) {x : Nat} (ht : okK (kdA h x)) : 1 ≤ x ∧ x ≤ szA h ∧ x < 1000000 ∧ x ≠ 0 := by
  obtain ⟨a, b⟩ := (hK.1 x).mp ht
  have := hK.2.2
  exact ⟨a, b, by omega, by omega⟩
theorem adA_own (B : Nat) (o : Nat → Nat) {x : Nat} (h : x < 1000000) : adA B o x = B + (x - 1) := if_pos h
theorem adA_out (B : Nat) (o : Nat → Nat) {x : Nat} (h : 1000000 ≤ x) : adA B o x = o x := if_neg (by omega)
/-- a heap in which one own cell has changed -/
theorem HR_set {B : Nat} {o : Nat → Nat} {D : va_G} {ca : Nat → ClassId} {h0 h h' : AH} {H H' : Heap} (R : HR B o D ca h0 h H) {a : Nat} (ha : 1 ≤ a ∧ a ≤ szA h)
    (hz : szA h' = szA h) (hk : ∀ x, kdA h' x = kdA h x) (hn : ∀ x, lnA h' x = lnA h x) (hi : ∀ x, x ≠ a → ∀ k, ivA h' x k = ivA h x k) (hj : ∀ x, x ≠ a → ∀ k, jvA h' x k = jvA h x k) (hr : ∀ x, x ≠ a → ∀ k, rvA h' x k = rvA h x k)
    (hs : H'.size = H.size) (hq : ∀ q, q ≠ B + (a - 1) → H'[q]? = H[q]?) (hc : va_at D vwCl (B + (a - 1), clE B o ca h' a) H') : HR B o D ca h0 h' H' := by
  obtain ⟨r1, r2, r3, r4⟩ := R
  refine ⟨by rw [hs, r1, hz], fun x h1 h2 => ?_, ⟨fun x => by rw [hk, hz]; exact r3.1 x, fun x => by rw [hk]; exact r3.2.1 x, by rw [hz]; exact r3.2.2⟩, fun x hx => ?_⟩
  · by_cases e : x = a
    · subst e; exact hc
    · have h3 := r2 x h1 (by rw [← hz]; exact h2)
      have e2 : clE B o ca h' x = clE B o ca h x := by
        unfold clE fdL
        rw [hk, hn]
        have e3 : (fdV B o h' x (kdA h x)) = (fdV B o h x (kdA h x)) := by
          funext k
          unfold fdV
          rw [hi x e, hj x e, hr x e]
        have e4 : (jvA h' x) = jvA h x := funext (hj x e)
        have e5 : (ivA h' x) = ivA h x := funext (hi x e)
        have e6 : (fun j => tN B o (rvA h' x j)) = (fun j => tN B o (rvA h x j)) := by funext j; rw [hr x e]
        rw [e3, e4, e5, e6]
      rw [e2]
      exact va_at_keep h3 (hq _ (by show B + (x - 1) ≠ _; omega))
  · have hne : x ≠ a := by have := r3.2.2; omega
    exact ⟨(hk x).trans (r4 x hx).1, (hn x).trans (r4 x hx).2.1, fun k => (hi x hne k).trans ((r4 x hx).2.2.1 k), fun k => (hr x hne k).trans ((r4 x hx).2.2.2 k)⟩
/-- a heap with one more cell -/
theorem HR_newG {B : Nat} {o : Nat → Nat} {D : va_G} {ca : Nat → ClassId} {h0 h h' : AH} {H H' : Heap} (R : HR B o D ca h0 h H) {t : Nat} (ht : okK t) (hsz : szA h + 1 < 1000000) (ez : szA h' = szA h + 1) (ek : ∀ x, kdA h' x = if x = szA h + 1 then t else kdA h x)
    (eo : ∀ x, x ≠ szA h + 1 → lnA h' x = lnA h x ∧ ivA h' x = ivA h x ∧ jvA h' x = jvA h x ∧ rvA h' x = rvA h x)
    (hs : H'.size = H.size + 1) (hq : ∀ q, q < H.size → H'[q]? = H[q]?) (hc : va_at D vwCl (B + szA h, clE B o ca h' (szA h + 1)) H') : HR B o D ca h0 h' H' := by
  obtain ⟨r1, r2, r3, r4⟩ := R
  have old : ∀ x, x ≠ szA h + 1 → kdA h' x = kdA h x := fun x hx => by rw [ek, if_neg hx]
  refine ⟨by rw [hs, r1, ez]; omega, fun x h1 h2 => ?_, ⟨fun x => ?_, fun x hx => ?_, by rw [ez]; exact hsz⟩, fun x hx => ?_⟩
  · rw [ez] at h2
    by_cases e : x = szA h + 1
    · subst e; exact hc
    · have o1 := old x e
      obtain ⟨o2, o3, o4, o5⟩ := eo x e
      have h3 := r2 x h1 (by omega)
      have e2 : clE B o ca h' x = clE B o ca h x := by
        unfold clE fdL
        rw [o1, o2, o3, o4]
        have e3 : (fdV B o h' x (kdA h x)) = (fdV B o h x (kdA h x)) := by
          funext k
          unfold fdV
          rw [o3, o4, o5]
        rw [e3, o5]
      rw [e2]
      exact va_at_keep h3 (hq _ (by show B + (x - 1) < H.size; omega))
  · rw [ek, ez]
    by_cases e : x = szA h + 1
    · rw [if_pos e]
      exact ⟨fun _ => by omega, fun _ => ht⟩
    · rw [if_neg e, r3.1 x]
      omega
  · rw [ek] at hx
    by_cases e : x = szA h + 1
    · rw [if_pos e] at hx
      rcases ht with ht | ht | ht <;> omega
    · rw [if_neg e] at hx
      exact r3.2.1 x hx
  · have hne : x ≠ szA h + 1 := by omega
    obtain ⟨o2, o3, o4, o5⟩ := eo x hne
    exact ⟨(old x hne).trans (r4 x hx).1, o2.trans (r4 x hx).2.1, fun k => by rw [o3]; exact (r4 x hx).2.2.1 k, fun k => by rw [o5]; exact (r4 x hx).2.2.2 k⟩
theorem nw_old (h : AH) (t n x : Nat) (hx : x ≠ szA h + 1) : lnA (nwA h t n) x = lnA h x ∧ ivA (nwA h t n) x = ivA h x ∧ jvA (nwA h t n) x = jvA h x ∧ rvA (nwA h t n) x = rvA h x :=
  ⟨if_neg hx, funext fun k => congrFun (show (if x = szA h + 1 then (fun _ => (0 : Int32)) else h.2.2.1 x) = h.2.2.1 x from if_neg hx) k, funext fun k => congrFun (show (if x = szA h + 1 then (fun _ => (0 : Int64)) else h.2.2.2.1 x) = h.2.2.2.1 x from if_neg hx) k, funext fun k => congrFun (show (if x = szA h + 1 then (fun _ => 0) else h.2.2.2.2.1 x) = h.2.2.2.2.1 x from if_neg hx) k⟩
theorem HR_new {B : Nat} {o : Nat → Nat} {D : va_G} {ca : Nat → ClassId} {h0 h : AH} {H H' : Heap} (R : HR B o D ca h0 h H) {t n : Nat} (ht : okK t) (hsz : szA h + 1 < 1000000)
    (hs : H'.size = H.size + 1) (hq : ∀ q, q < H.size → H'[q]? = H[q]?) (hc : va_at D vwCl (B + szA h, clE B o ca (nwA h t n) (szA h + 1)) H') : HR B o D ca h0 (nwA h t n) H' :=
  HR_newG R ht hsz rfl (fun _ => rfl) (fun x hx => nw_old h t n x hx) hs hq hc
/-- the locals -/
def LR (B : Nat) (o : Nat → Nat) (ls : Array Slot) (nL : Nat) (L : List Value) : Prop := ls.size = nL ∧ lv_wf ls ∧ L.length = nL ∧ (∀ (i : Nat) (v : Value), L[i]? = some v → v.category = 2 → ∃ x, v = .long x) ∧ ∀ (i : Nat) (v : Value), L[i]? = some v → v ≠ unV → ls[i]? = some (.val (tV B o v))
def lvO (B : Nat) (o : Nat → Nat) (L : List Value) : List (Nat × Value) := (List.range L.length).filterMap (fun i => match L[i]? with
  | some v => if v = unV then none else some (i, tV B o v)
  | none => none)
theorem lvO_mem {B : Nat} {o : Nat → Nat} {L : List Value} {q : Nat × Value} : q ∈ lvO B o L ↔ ∃ v, L[q.1]? = some v ∧ v ≠ unV ∧ q.2 = tV B o v := by
  unfold lvO
  rw [List.mem_filterMap]
  constructor
  · rintro ⟨i, hi, he⟩
    split at he
    · rename_i v hv
      split at he
      · cases he
      · rename_i hne
        cases he
        exact ⟨v, hv, hne, rfl⟩
    · cases he
  · rintro ⟨v, hv, hne, he⟩
    refine ⟨q.1, List.mem_range.mpr (List.getElem?_eq_some_iff.mp hv).1, ?_⟩
    rw [hv]
    simp only [if_neg hne, ← he]
theorem LR.has {B : Nat} {o : Nat → Nat} {ls : Array Slot} {nL : Nat} {L : List Value} (h : LR B o ls nL L) : lv_has ls nL (lvO B o L) := by
  refine ⟨h.1, h.2.1, fun q hq => ?_⟩
  obtain ⟨v, hv, hne, he⟩ := lvO_mem.mp hq
  rw [he]
  exact h.2.2.2.2 q.1 v hv hne
theorem setL_get {L : List Value} {i j : Nat} {v w : Value} (hi : i < L.length) (h : (setL L i v)[j]? = some w) (hw : w ≠ unV) : (j = i ∧ w = v) ∨ (j ≠ i ∧ L[j]? = some w ∧ ∀ x, j + 1 = i → w ≠ .long x) := by
  cases i with
  | zero =>
    change (L.set 0 v)[j]? = some w at h
    rw [List.getElem?_set] at h
    by_cases e : 0 = j
    · subst e
      rw [if_pos rfl, if_pos hi] at h
      cases h
      exact Or.inl ⟨rfl, rfl⟩
    · rw [if_neg e] at h
      exact Or.inr ⟨Ne.symm e, h, fun x h2 => by omega⟩
  | succ k =>
    rw [setL_s] at h
    split at h
    · rename_i y hy
      rw [List.getElem?_set] at h
      by_cases e : k + 1 = j
      · subst e
        rw [if_pos rfl, if_pos (by simpa using hi)] at h
        cases h
        exact Or.inl ⟨rfl, rfl⟩
      · rw [if_neg e, List.getElem?_set] at h
        by_cases e2 : k = j
        · rw [if_pos e2] at h
          split at h
          · cases h; exact absurd rfl hw
          · cases h
        · rw [if_neg e2] at h
          exact Or.inr ⟨Ne.symm e, h, fun x h2 => by omega⟩
    · rename_i hno
      rw [List.getElem?_set] at h
      by_cases e : k + 1 = j
      · subst e
        rw [if_pos rfl, if_pos hi] at h
        cases h
        exact Or.inl ⟨rfl, rfl⟩
      · rw [if_neg e] at h
        exact Or.inr ⟨Ne.symm e, h, fun x h2 hx => by
          obtain rfl : j = k := by omega
          rw [hx] at h
          exact hno x h⟩
theorem setL_len (L : List Value) (i : Nat) (v : Value) : (setL L i v).length = L.length := by
  cases i with
  | zero => exact List.length_set
  | succ k => rw [setL_s]; split <;> simp
theorem LR.one {B : Nat} {o : Nat → Nat} {ls ls' : Array Slot} {nL : Nat} {L : List Value} (h : LR B o ls nL L) {i : Nat} {v : Value} (hi : i < nL) (hc : v.category = 1)
    (h' : lv_has ls' nL ((i, tV B o v) :: (lvO B o L).filter (fun q => !(q.1 == i) && !(q.1 + 1 == i && q.2.category == 2)))) : LR B o ls' nL (setL L i v) := by
  have hlt : i < L.length := by rw [h.2.2.1]; exact hi
  refine ⟨h'.1, h'.2.1, by rw [setL_len]; exact h.2.2.1, fun j w hj hw => ?_, fun j w hj hw => ?_⟩
  · rcases setL_get hlt hj (fun e => by rw [e] at hw; cases hw) with ⟨rfl, rfl⟩ | ⟨-, h2, -⟩
    · rw [hc] at hw; cases hw
    · exact h.2.2.2.1 j w h2 hw
  · rcases setL_get hlt hj hw with ⟨rfl, rfl⟩ | ⟨hne, h2, h3⟩
    · exact h'.2.2 _ List.mem_cons_self
    · refine h'.2.2 (j, tV B o w) (List.mem_cons_of_mem _ (List.mem_filter.mpr ⟨lvO_mem.mpr ⟨w, h2, hw, rfl⟩, ?_⟩))
      simp only [Bool.and_eq_true, Bool.not_eq_true', beq_eq_false_iff_ne, ne_eq, Bool.and_eq_false_iff]
      refine ⟨hne, ?_⟩
      by_cases e : j + 1 = i
      · right
        rw [tV_cat]
        intro hcat
        obtain ⟨x, hx⟩ := h.2.2.2.1 j w h2 hcat
        exact h3 x e hx
      · exact Or.inl e
theorem LR.two {B : Nat} {o : Nat → Nat} {ls ls' : Array Slot} {nL : Nat} {L : List Value} (h : LR B o ls nL L) {i : Nat} {x : Int64} (hi : i + 1 < nL)
    (h' : lv_has ls' nL ((i, .long x) :: (lvO B o L).filter (fun q => !(q.1 == i) && (!(q.1 == i + 1) && !(q.1 + 1 == i && q.2.category == 2))))) : LR B o ls' nL (setL2 L i (.long x)) := by
  have hlt : i < L.length := by rw [h.2.2.1]; omega
  have key : ∀ (j : Nat) (w : Value), (setL2 L i (.long x))[j]? = some w → w ≠ unV → j ≠ i + 1 ∧ (setL L i (.long x))[j]? = some w := by
    intro j w hj hw
    unfold setL2 at hj
    rw [List.getElem?_set] at hj
    by_cases e : i + 1 = j
    · rw [if_pos e] at hj
      split at hj
      · cases hj; exact absurd rfl hw
      · cases hj
    · rw [if_neg e] at hj
      exact ⟨Ne.symm e, hj⟩
  refine ⟨h'.1, h'.2.1, by unfold setL2; rw [List.length_set, setL_len]; exact h.2.2.1, fun j w hj hw => ?_, fun j w hj hw => ?_⟩
  · obtain ⟨-, hj2⟩ := key j w hj (fun e => by rw [e] at hw; cases hw)
    rcases setL_get hlt hj2 (fun e => by rw [e] at hw; cases hw) with ⟨rfl, rfl⟩ | ⟨-, h2, -⟩
    · exact ⟨x, rfl⟩
    · exact h.2.2.2.1 j w h2 hw
  · obtain ⟨hj1, hj2⟩ := key j w hj hw
    rcases setL_get hlt hj2 hw with ⟨rfl, rfl⟩ | ⟨hne, h2, h3⟩
    · exact h'.2.2 _ List.mem_cons_self
    · refine h'.2.2 (j, tV B o w) (List.mem_cons_of_mem _ (List.mem_filter.mpr ⟨lvO_mem.mpr ⟨w, h2, hw, rfl⟩, ?_⟩))
      simp only [Bool.and_eq_true, Bool.not_eq_true', beq_eq_false_iff_ne, ne_eq, Bool.and_eq_false_iff]
      refine ⟨hne, hj1, ?_⟩
      by_cases e : j + 1 = i
      · right
        rw [tV_cat]
        intro hcat
        obtain ⟨x, hx⟩ := h.2.2.2.1 j w h2 hcat
        exact h3 x e hx
      · exact Or.inl e
theorem LR.at {B : Nat} {o : Nat → Nat} {ls : Array Slot} {nL : Nat} {L : List Value} (h : LR B o ls nL L) {i : Nat} {v : Value} (hv : L[i]? = some v) (hn : v ≠ unV) : ls[i]? = some (.val (tV B o v)) := h.2.2.2.2 i v hv hn
end
section
/-! sizes only grow; the context of a method's walk -/
def actH : MAct → AH
  | .inl (_, _, _, h) => h
  | .inr (.inl (_, _, _, _, _, h)) => h
  | .inr (.inr (.inl (_, _, _, _, _, h))) => h
  | .inr (.inr (.inr (.inl (_, _, _, _, _, h)))) => h
  | .inr (.inr (.inr (.inr (_, h)))) => h
set_option maxHeartbeats 4000000 in
theorem mstep_sz {own rt : Nat} {i : Instr} {pc n : Nat} {L S : List Value} {h : AH} {g : List Bool} {a : MAct} (hm : mstep own rt i pc n L S h = some (g, a)) : szA h ≤ szA (actH a) ∧ usA h ≤ usA (actH a) := by
  unfold mstep at hm
  split at hm
  all_goals (try simp only [alR, asR, nxt, nxtG, ldI, ldJ, ldR, slI, slJ, slR, nwQ, nwP, nwR, lnR, alI, alJ, asI, asB, asJ, inJ, gfR, pfR, gsR, jmp, brn, brnG, uI, bI, dI, bJ, dJ, sJ, icI, isp, ins, mthI, mthJ, inv, cll, swM, rtI] at hm)
  all_goals (repeat' (split at hm))
  all_goals first
    | (cases hm; done)
    | (cases hm; exact ⟨Nat.le_refl _, Nat.le_refl _⟩)
    | (cases hm; exact ⟨Nat.le_succ _, Nat.le_add_right _ _⟩)
theorem body_sz {C : Nat → List Value → AH → Option MRes} (hC : ∀ w as h r, C w as h = some r → szA h ≤ szA r.2 ∧ usA h ≤ usA r.2) {u : Nat} : ∀ (n : Nat) (s : MN) (r : MRes), body C u n s = some r → szA s.2.2.2 ≤ szA r.2 ∧ usA s.2.2.2 ≤ usA r.2 := by
  intro n
  induction n with
  | zero => intro s r h; cases h
  | succ n ih =>
    intro s r h
    obtain ⟨pc, L, S, hp⟩ := s
    rw [body_s] at h
    cases hl : lkp (codeM u) pc with
    | none => rw [hl] at h; cases h
    | some ik =>
      obtain ⟨i, k⟩ := ik
      simp only [hl] at h
      cases hm : mstep (owM u) (rtM u) i pc k L S hp with
      | none => rw [hm] at h; cases h
      | some ga =>
        obtain ⟨g, a⟩ := ga
        have hz := mstep_sz hm
        simp only [hm] at h
        cases hg : allG g with
        | false => rw [hg] at h; cases h
        | true =>
          simp only [hg] at h
          rcases a with ⟨pc', L', S', h'⟩ | ⟨b, t, pc', L', S', h'⟩ | ⟨x, ps, e, L', S', h'⟩ | ⟨w, as, pc', L', S', h'⟩ | ⟨v, h'⟩
          · have := ih _ _ h; exact ⟨Nat.le_trans hz.1 this.1, Nat.le_trans hz.2 this.2⟩
          · have := ih _ _ h; exact ⟨Nat.le_trans hz.1 this.1, Nat.le_trans hz.2 this.2⟩
          · have := ih _ _ h; exact ⟨Nat.le_trans hz.1 this.1, Nat.le_trans hz.2 this.2⟩
          · dsimp only at h
            cases hc : C w as h' with
            | none => rw [hc] at h; cases h
            | some vh =>
              obtain ⟨v, h2⟩ := vh
              simp only [hc] at h
              have h3 := hC _ _ _ _ hc
              have := ih _ _ h
              exact ⟨Nat.le_trans hz.1 (Nat.le_trans h3.1 this.1), Nat.le_trans hz.2 (Nat.le_trans h3.2 this.2)⟩
          · cases h
            exact hz
theorem mcall_sz : ∀ (d N u : Nat) (as : List Value) (h : AH) (r : MRes), mcall d N u as h = some r → szA h ≤ szA r.2 ∧ usA h ≤ usA r.2 := by
  intro d
  induction d with
  | zero => intro N u as h r hh; cases hh
  | succ d ih =>
    intro N u as h r hh
    exact body_sz (fun w as h r hc => ih N w as h r hc) N (0, entL u as, [], h) r hh
/-- the array classes -/
def tysA (ca : Nat → ClassId) : List (ClassId × FieldType) := [(ca 20, .int), (ca 21, .long), (ca 22, .byte), (ca 23, .short), (ca 24, .boolean), (ca 30, .object (RC 5)), (ca 31, .object (RC 10)), (ca 32, .object (RC 8)), (ca 33, .object (RC 3))]
def owA (B : Nat) : Nat → Prop := fun q => B ≤ q
/-- the words that every method may take along -/
def lw_gd : List Cond := lw_tbl.filter goodWord
theorem gd_of {w : Cond} (h : w ∈ lw_tbl) (hg : goodWord w = true) : w ∈ lw_gd := List.mem_filter.mpr ⟨h, hg⟩
def isNst : Cond → Bool
  | .methodLinkNest _ _ _ _ => true
  | _ => false
/-- what lies outside: read only -/
def Ctx (B : Nat) (o : Nat → Nat) (D : va_G) (ca : Nat → ClassId) (h0 : AH) (U : State) : Prop :=
  va_K D vwCl (tysA ca) U ∧ U.vm.findClass "[I" = some (ca 20) ∧
  (∀ x, 1000000 ≤ x → kdA h0 x = 40 → va_T .int (o x) (lnA h0 x) (fun j => .int (ivA h0 x j)) (owA B) U U.heap) ∧
  (∀ x, 1000000 ≤ x → kdA h0 x = 42 → va_T .byte (o x) (lnA h0 x) (fun j => .int (ivA h0 x j)) (owA B) U U.heap) ∧
  (∀ x, 1000000 ≤ x → kdA h0 x = 13 → va_O "java/lang/String" (o x) (owA B) U U.heap ∧ va_OF "java/lang/String" "coder" "B" (.int (ivA h0 x 1)) (o x) (owA B) U U.heap ∧ va_OF "java/lang/String" "value" "[B" (va_rf (tN B o (rvA h0 x 0))) (o x) (owA B) U U.heap) ∧
  va_Z "java/lang/String" "COMPACT_STRINGS" "Z" (.int (ivA h0 1000009 1)) (owA B) U U.heap ∧
  va_Z "jdk/internal/util/Preconditions" "SIOOBE_FORMATTER" "Ljava/util/function/BiFunction;" (va_rf (tN B o (rvA h0 1000009 0))) (owA B) U U.heap ∧
  (∀ own i t, sT own i = some t → ∃ tx, vk_R (RC own) i tx (o (1000001 + t)) U) ∧
  (∀ w ∈ lw_tbl, isNst w = true → va_Nw w U) ∧ va_Nw (.castable "[I" "java/lang/Cloneable") U ∧ va_AO (RC 5) U ∧ va_AO (RC 10) U ∧ va_AO (RC 8) U ∧ va_AO (RC 3) U
theorem Ctx.warm {B : Nat} {o : Nat → Nat} {D : va_G} {ca : Nat → ClassId} {h0 : AH} {s U : State} (C : Ctx B o D ca h0 s) (hW : s.WarmedH U.vm) (hq : ∀ a : Nat, a < s.heap.size → ¬ owA B a → U.heap[a]? = s.heap[a]?) : Ctx B o D ca h0 U := by
  obtain ⟨c1, c2, c3, c4, c5, c6, c7, c8, c9, c10, c11, c12, c13, c14⟩ := C
  have ha := hW.alike
  refine ⟨va_K.moved ha c1, by rw [ha.findClass]; exact c2, fun x hx hk => va_T.moved ha ((c3 x hx hk).kept hq), fun x hx hk => va_T.moved ha ((c4 x hx hk).kept hq), fun x hx hk => ?_, va_Z.moved ha (c6.kept hq), va_Z.moved ha (c7.kept hq), fun own i t h => ?_, fun w hw hn => ?_, c10.warmC hW, va_AO.moved ha c11, va_AO.moved ha c12, va_AO.moved ha c13, va_AO.moved ha c14⟩
  · obtain ⟨d1, d2, d3⟩ := c5 x hx hk
    exact ⟨va_O.moved ha (d1.kept hq), va_OF.moved ha (d2.kept hq), va_OF.moved ha (d3.kept hq)⟩
  · obtain ⟨tx, hr⟩ := c8 own i t h
    exact ⟨tx, hr.warm hW⟩
  · have h9 := c9 w hw hn
    cases w <;> first | (cases hn; done) | exact va_Nw.warmM hW h9
theorem Ctx.same {B : Nat} {o : Nat → Nat} {D : va_G} {ca : Nat → ClassId} {h0 : AH} {s U : State} (C : Ctx B o D ca h0 s) (hv : U.vm = s.vm) (hh : U.heap = s.heap) : Ctx B o D ca h0 U := by
  obtain ⟨c1, c2, c3, c4, c5, c6, c7, c8, c9, c10, c11, c12, c13, c14⟩ := C
  have ha : s.vm.Alike U.vm := by rw [hv]; exact Vm.Alike.refl _
  refine ⟨va_K.moved ha c1, by rw [hv]; exact c2, fun x hx hk => ?_, fun x hx hk => ?_, fun x hx hk => ?_, ?_, ?_, fun own i t h => ?_, fun w hw hn => ?_, va_Nw.same rfl hv.symm c10, va_AO.moved ha c11, va_AO.moved ha c12, va_AO.moved ha c13, va_AO.moved ha c14⟩
  · rw [hh]; exact va_T.moved ha (c3 x hx hk)
  · rw [hh]; exact va_T.moved ha (c4 x hx hk)
  · obtain ⟨d1, d2, d3⟩ := c5 x hx hk
    rw [hh]
    exact ⟨va_O.moved ha d1, va_OF.moved ha d2, va_OF.moved ha d3⟩
  · rw [hh]; exact va_Z.moved ha c6
  · rw [hh]; exact va_Z.moved ha c7
  · obtain ⟨tx, hr⟩ := c8 own i t h
    exact ⟨tx, hr.same hv⟩
  · have h9 := c9 w hw hn
    cases w <;> first | (cases hn; done) | exact va_Nw.same rfl hv.symm h9
/-- the lengths of the instructions -/
def okLen (i : Instr) (k : Nat) : Bool := match i with
  | .aload _ => k == 2
  | .astore _ => k == 2
  | .iload _ => k == 2
  | .istore _ => k == 2
  | .lload _ => k == 2
  | .lstore _ => k == 2
  | .bipush _ => k == 2
  | .newarray _ => k == 2
  | .ldc _ => k == 2
  | .sipush _ => k == 3
  | .iinc _ _ => k == 3
  | .goto _ => k == 3
  | .ifCond _ _ => k == 3
  | .if_icmp _ _ => k == 3
  | .if_acmp _ _ => k == 3
  | .ifnonnull _ => k == 3
  | .getfield _ => k == 3
  | .putfield _ => k == 3
  | .getstatic _ => k == 3
  | .invokevirtual _ => k == 3
  | .invokestatic _ => k == 3
  | .invokespecial _ => k == 3
  | .new _ => k == 3
  | .anewarray _ => k == 3
  | .checkcast _ => k == 3
  | .ldc_w _ => k == 3
  | .ldc2_w _ => k == 3
  | .tableswitch _ lo hi _ => decide (-2147483648 ≤ lo) && decide (hi ≤ 2147483647)
  | .lookupswitch _ ps => (ps.toList.zip (ps.toList.drop 1)).all (fun (a, next) => a.1 < next.1) && ps.toList.all (fun q => decide (-2147483648 ≤ q.1) && decide (q.1 ≤ 2147483647))
  | _ => k == 1
end
section
/-! each step of the small machine is a step of the real one: locals, numbers, constants, stack -/
section STP
variable {p : Program} {l : Launch} {e : Env} {R : Room} {s : State} {m : MethodId} {args : Array Value} {below : List Frame} {meth : Method} {c : Code} {Q : State → Prop} {B : Nat} {o : Nat → Nat} {D : va_G} {ca : Nat → ClassId} {h0 : AH} {u z0 u0 : Nat}
def FX (B : Nat) (o : Nat → Nat) (D : va_G) (ca : Nat → ClassId) (h0 : AH) (u : Nat) (p : Program) (s : State) (m : MethodId) (args : Array Value) (meth : Method) (c : Code) : Prop :=
  p.tables.exec = Jvm.exec ∧ c.code = cM u ∧ c.maxLocals = mxM u ∧ s.vm.findClass (RC (owM u)) = some m.cls ∧ (∀ w ∈ lw_gd, w.before args s = true) ∧ (kdM u = 2 → meth.name = "<init>") ∧ Ctx B o D ca h0 s ∧ B ≤ s.heap.size
def WA (p : Program) (l : Launch) (e : Env) (R : Room) (s : State) (m : MethodId) (args : Array Value) (below : List Frame) (meth : Method) (c : Code) (Q : State → Prop) (B : Nat) (o : Nat → Nat) (D : va_G) (ca : Nat → ClassId) (h0 : AH) (u z0 u0 : Nat) (st : MN) : Prop :=
  ∀ (H : Heap) (locs : List Loc) (ls : Array Slot), HR B o D ca h0 st.2.2.2 H → LR B o ls (mxM u) st.2.1 → va_S (owA B) s.heap H locs → W p l e R s m args below meth c H locs (szA st.2.2.2 - z0) (usA st.2.2.2 - u0) Q (F0 m st.1 ls (st.2.2.1.map (tV B o)))
variable {pc pc' : Nat} {L L' S S' : List Value} {h h' : AH} {g : List Bool}
theorem sp_bI {f : Int32 → Int32 → Int32} {n : Nat} (row : ∀ (H : Heap) (locs : List Loc) (ls : Array Slot) (cells slots : Nat) (x y : Int32) (rest : List Value), W p l e R s m args below meth c H locs cells slots Q (F0 m n ls (.int (f x y) :: rest)) → W p l e R s m args below meth c H locs cells slots Q (F0 m pc ls (.int y :: .int x :: rest)))
    (hm : bI f n L S h = some (g, .inl (pc', L', S', h'))) (K : WA p l e R s m args below meth c Q B o D ca h0 u z0 u0 (pc', L', S', h')) : WA p l e R s m args below meth c Q B o D ca h0 u z0 u0 (pc, L, S, h) := by
  unfold bI nxt at hm
  split at hm
  · cases hm
    intro H locs ls hR hL hS
    exact row _ _ _ _ _ _ _ _ (K H locs ls hR hL hS)
  · cases hm
theorem sp_dI {f : Int32 → Int32 → Int32} {n : Nat} (row : ∀ (H : Heap) (locs : List Loc) (ls : Array Slot) (cells slots : Nat) (x y : Int32) (rest : List Value), ¬ y = 0 → W p l e R s m args below meth c H locs cells slots Q (F0 m n ls (.int (f x y) :: rest)) → W p l e R s m args below meth c H locs cells slots Q (F0 m pc ls (.int y :: .int x :: rest)))
    (hm : dI f n L S h = some (g, .inl (pc', L', S', h'))) (hg : allG g = true) (K : WA p l e R s m args below meth c Q B o D ca h0 u z0 u0 (pc', L', S', h')) : WA p l e R s m args below meth c Q B o D ca h0 u z0 u0 (pc, L, S, h) := by
  unfold dI nxtG at hm
  split at hm
  · cases hm
    simp only [allG, Bool.and_true, Bool.not_eq_true', decide_eq_false_iff_not] at hg
    intro H locs ls hR hL hS
    exact row _ _ _ _ _ _ _ _ hg (K H locs ls hR hL hS)
  · cases hm
theorem sp_uI {f : Int32 → Int32} {n : Nat} (row : ∀ (H : Heap) (locs : List Loc) (ls : Array Slot) (cells slots : Nat) (x : Int32) (rest : List Value), W p l e R s m args below meth c H locs cells slots Q (F0 m n ls (.int (f x) :: rest)) → W p l e R s m args below meth c H locs cells slots Q (F0 m pc ls (.int x :: rest)))
    (hm : uI f n L S h = some (g, .inl (pc', L', S', h'))) (K : WA p l e R s m args below meth c Q B o D ca h0 u z0 u0 (pc', L', S', h')) : WA p l e R s m args below meth c Q B o D ca h0 u z0 u0 (pc, L, S, h) := by
  unfold uI nxt at hm
  split at hm
  · cases hm
    intro H locs ls hR hL hS
    exact row _ _ _ _ _ _ _ (K H locs ls hR hL hS)
  · cases hm
theorem sp_bJ {f : Int64 → Int64 → Int64} {n : Nat} (row : ∀ (H : Heap) (locs : List Loc) (ls : Array Slot) (cells slots : Nat) (x y : Int64) (rest : List Value), W p l e R s m args below meth c H locs cells slots Q (F0 m n ls (.long (f x y) :: rest)) → W p l e R s m args below meth c H locs cells slots Q (F0 m pc ls (.long y :: .long x :: rest)))
    (hm : bJ f n L S h = some (g, .inl (pc', L', S', h'))) (K : WA p l e R s m args below meth c Q B o D ca h0 u z0 u0 (pc', L', S', h')) : WA p l e R s m args below meth c Q B o D ca h0 u z0 u0 (pc, L, S, h) := by
  unfold bJ nxt at hm
  split at hm
  · cases hm
    intro H locs ls hR hL hS
    exact row _ _ _ _ _ _ _ _ (K H locs ls hR hL hS)
  · cases hm
theorem sp_dJ {f : Int64 → Int64 → Int64} {n : Nat} (row : ∀ (H : Heap) (locs : List Loc) (ls : Array Slot) (cells slots : Nat) (x y : Int64) (rest : List Value), ¬ y = 0 → W p l e R s m args below meth c H locs cells slots Q (F0 m n ls (.long (f x y) :: rest)) → W p l e R s m args below meth c H locs cells slots Q (F0 m pc ls (.long y :: .long x :: rest)))
    (hm : dJ f n L S h = some (g, .inl (pc', L', S', h'))) (hg : allG g = true) (K : WA p l e R s m args below meth c Q B o D ca h0 u z0 u0 (pc', L', S', h')) : WA p l e R s m args below meth c Q B o D ca h0 u z0 u0 (pc, L, S, h) := by
  unfold dJ nxtG at hm
  split at hm
  · cases hm
    simp only [allG, Bool.and_true, Bool.not_eq_true', decide_eq_false_iff_not] at hg
    intro H locs ls hR hL hS
    exact row _ _ _ _ _ _ _ _ hg (K H locs ls hR hL hS)
  · cases hm
theorem sp_sJ {f : Int64 → Int32 → Int64} {n : Nat} (row : ∀ (H : Heap) (locs : List Loc) (ls : Array Slot) (cells slots : Nat) (x : Int64) (y : Int32) (rest : List Value), W p l e R s m args below meth c H locs cells slots Q (F0 m n ls (.long (f x y) :: rest)) → W p l e R s m args below meth c H locs cells slots Q (F0 m pc ls (.int y :: .long x :: rest)))
    (hm : sJ f n L S h = some (g, .inl (pc', L', S', h'))) (K : WA p l e R s m args below meth c Q B o D ca h0 u z0 u0 (pc', L', S', h')) : WA p l e R s m args below meth c Q B o D ca h0 u z0 u0 (pc, L, S, h) := by
  unfold sJ nxt at hm
  split at hm
  · cases hm
    intro H locs ls hR hL hS
    exact row _ _ _ _ _ _ _ _ (K H locs ls hR hL hS)
  · cases hm
/-- a step that only touches the stack -/
theorem sp_st {n : Nat} {S2 : List Value} (row : ∀ (H : Heap) (locs : List Loc) (ls : Array Slot) (cells slots : Nat), W p l e R s m args below meth c H locs cells slots Q (F0 m n ls (S2.map (tV B o))) → W p l e R s m args below meth c H locs cells slots Q (F0 m pc ls (S.map (tV B o))))
    (hm : nxt n L S2 h = some (g, .inl (pc', L', S', h'))) (K : WA p l e R s m args below meth c Q B o D ca h0 u z0 u0 (pc', L', S', h')) : WA p l e R s m args below meth c Q B o D ca h0 u z0 u0 (pc, L, S, h) := by
  unfold nxt at hm
  cases hm
  intro H locs ls hR hL hS
  exact row _ _ _ _ _ (K H locs ls hR hL hS)
theorem sp_ldI {i n : Nat} (row : ∀ (H : Heap) (locs : List Loc) (ls : Array Slot) (cells slots : Nat) (x : Int32) (rest : List Value), ls[i]? = some (.val (.int x)) → W p l e R s m args below meth c H locs cells slots Q (F0 m n ls (.int x :: rest)) → W p l e R s m args below meth c H locs cells slots Q (F0 m pc ls rest))
    (hm : ldI i n L S h = some (g, .inl (pc', L', S', h'))) (K : WA p l e R s m args below meth c Q B o D ca h0 u z0 u0 (pc', L', S', h')) : WA p l e R s m args below meth c Q B o D ca h0 u z0 u0 (pc, L, S, h) := by
  unfold ldI nxt at hm
  split at hm
  · rename_i x hx
    cases hm
    intro H locs ls hR hL hS
    exact row _ _ _ _ _ _ _ (hL.at hx (fun e => by cases e)) (K H locs ls hR hL hS)
  · cases hm
theorem sp_ldJ {i n : Nat} (row : ∀ (H : Heap) (locs : List Loc) (ls : Array Slot) (cells slots : Nat) (x : Int64) (rest : List Value), ls[i]? = some (.val (.long x)) → W p l e R s m args below meth c H locs cells slots Q (F0 m n ls (.long x :: rest)) → W p l e R s m args below meth c H locs cells slots Q (F0 m pc ls rest))
    (hm : ldJ i n L S h = some (g, .inl (pc', L', S', h'))) (K : WA p l e R s m args below meth c Q B o D ca h0 u z0 u0 (pc', L', S', h')) : WA p l e R s m args below meth c Q B o D ca h0 u z0 u0 (pc, L, S, h) := by
  unfold ldJ nxt at hm
  split at hm
  · rename_i x hx
    cases hm
    intro H locs ls hR hL hS
    exact row _ _ _ _ _ _ _ (hL.at hx (fun e => by cases e)) (K H locs ls hR hL hS)
  · cases hm
theorem sp_ldR {i n : Nat} (row : ∀ (H : Heap) (locs : List Loc) (ls : Array Slot) (cells slots : Nat) (x : Nat) (rest : List Value), ls[i]? = some (.val (.ref x)) → W p l e R s m args below meth c H locs cells slots Q (F0 m n ls (.ref x :: rest)) → W p l e R s m args below meth c H locs cells slots Q (F0 m pc ls rest))
    (rowN : ∀ (H : Heap) (locs : List Loc) (ls : Array Slot) (cells slots : Nat) (rest : List Value), ls[i]? = some (.val .null) → W p l e R s m args below meth c H locs cells slots Q (F0 m n ls (.null :: rest)) → W p l e R s m args below meth c H locs cells slots Q (F0 m pc ls rest))
    (hm : ldR i n L S h = some (g, .inl (pc', L', S', h'))) (K : WA p l e R s m args below meth c Q B o D ca h0 u z0 u0 (pc', L', S', h')) : WA p l e R s m args below meth c Q B o D ca h0 u z0 u0 (pc, L, S, h) := by
  unfold ldR nxt at hm
  split at hm
  · rename_i x hx
    cases hm
    intro H locs ls hR hL hS
    have h1 := hL.at hx (fun e => by cases e)
    have h2 := K H locs ls hR hL hS
    by_cases e0 : x = 0
    · subst e0
      exact rowN _ _ _ _ _ _ h1 h2
    · rw [tV_r B o e0] at h1
      simp only [List.map_cons, tV_r B o e0] at h2
      exact row _ _ _ _ _ _ _ h1 h2
  · cases hm
theorem sp_slI {i n : Nat} (row : ∀ (H : Heap) (locs : List Loc) (ls : Array Slot) (cells slots : Nat) (x : Int32) (rest : List Value) (lv lv' : List (Nat × Value)), lv_has ls (mxM u) lv → i < mxM u → (i, Value.int x) :: lv.filter (fun q => !(q.1 == i) && !(q.1 + 1 == i && q.2.category == 2)) = lv' → (∀ ls' : Array Slot, lv_has ls' (mxM u) lv' → W p l e R s m args below meth c H locs cells slots Q (F0 m n ls' rest)) → W p l e R s m args below meth c H locs cells slots Q (F0 m pc ls (.int x :: rest)))
    (hm : slI i n L S h = some (g, .inl (pc', L', S', h'))) (K : WA p l e R s m args below meth c Q B o D ca h0 u z0 u0 (pc', L', S', h')) : WA p l e R s m args below meth c Q B o D ca h0 u z0 u0 (pc, L, S, h) := by
  unfold slI nxt at hm
  split at hm
  · rename_i x rest hb
    cases hm
    intro H locs ls hR hL hS
    have hi : i < mxM u := by rw [← hL.2.2.1]; exact Nat.le_of_ble_eq_true hb
    exact row _ _ _ _ _ _ _ _ _ hL.has hi rfl (fun ls' h' => K H locs ls' hR (hL.one (v := .int x) hi rfl h') hS)
  · cases hm
theorem sp_slR {i n : Nat} (row : ∀ (H : Heap) (locs : List Loc) (ls : Array Slot) (cells slots : Nat) (x : Nat) (rest : List Value) (lv lv' : List (Nat × Value)), lv_has ls (mxM u) lv → i < mxM u → (i, Value.ref x) :: lv.filter (fun q => !(q.1 == i) && !(q.1 + 1 == i && q.2.category == 2)) = lv' → (∀ ls' : Array Slot, lv_has ls' (mxM u) lv' → W p l e R s m args below meth c H locs cells slots Q (F0 m n ls' rest)) → W p l e R s m args below meth c H locs cells slots Q (F0 m pc ls (.ref x :: rest)))
    (rowN : ∀ (H : Heap) (locs : List Loc) (ls : Array Slot) (cells slots : Nat) (rest : List Value) (lv lv' : List (Nat × Value)), lv_has ls (mxM u) lv → i < mxM u → (i, Value.null) :: lv.filter (fun q => !(q.1 == i) && !(q.1 + 1 == i && q.2.category == 2)) = lv' → (∀ ls' : Array Slot, lv_has ls' (mxM u) lv' → W p l e R s m args below meth c H locs cells slots Q (F0 m n ls' rest)) → W p l e R s m args below meth c H locs cells slots Q (F0 m pc ls (.null :: rest)))
    (hm : slR i n L S h = some (g, .inl (pc', L', S', h'))) (K : WA p l e R s m args below meth c Q B o D ca h0 u z0 u0 (pc', L', S', h')) : WA p l e R s m args below meth c Q B o D ca h0 u z0 u0 (pc, L, S, h) := by
  unfold slR nxt at hm
  split at hm
  · rename_i x rest hb
    cases hm
    intro H locs ls hR hL hS
    have hi : i < mxM u := by rw [← hL.2.2.1]; exact Nat.le_of_ble_eq_true hb
    by_cases e0 : x = 0
    · subst e0
      exact rowN _ _ _ _ _ _ _ _ hL.has hi rfl (fun ls' h' => K H locs ls' hR (hL.one (v := .ref 0) hi rfl h') hS)
    · simp only [List.map_cons, tV_r B o e0]
      refine row _ _ _ _ _ _ _ _ _ hL.has hi rfl (fun ls' h' => K H locs ls' hR (hL.one (v := .ref x) hi rfl ?_) hS)
      rw [tV_r B o e0]
      exact h'
  · cases hm
theorem sp_slJ {i n : Nat} (row : ∀ (H : Heap) (locs : List Loc) (ls : Array Slot) (cells slots : Nat) (x : Int64) (rest : List Value) (lv lv' : List (Nat × Value)), lv_has ls (mxM u) lv → i + 1 < mxM u → (i, Value.long x) :: lv.filter (fun q => !(q.1 == i) && (!(q.1 == i + 1) && !(q.1 + 1 == i && q.2.category == 2))) = lv' → (∀ ls' : Array Slot, lv_has ls' (mxM u) lv' → W p l e R s m args below meth c H locs cells slots Q (F0 m n ls' rest)) → W p l e R s m args below meth c H locs cells slots Q (F0 m pc ls (.long x :: rest)))
    (hm : slJ i n L S h = some (g, .inl (pc', L', S', h'))) (K : WA p l e R s m args below meth c Q B o D ca h0 u z0 u0 (pc', L', S', h')) : WA p l e R s m args below meth c Q B o D ca h0 u z0 u0 (pc, L, S, h) := by
  unfold slJ nxt at hm
  split at hm
  · rename_i x rest hb
    cases hm
    intro H locs ls hR hL hS
    have hi : i + 1 < mxM u := by rw [← hL.2.2.1]; exact Nat.le_of_ble_eq_true hb
    exact row _ _ _ _ _ _ _ _ _ hL.has hi rfl (fun ls' h' => K H locs ls' hR (hL.two hi h') hS)
  · cases hm
theorem sp_icI {i n : Nat} {z : Int} (row : ∀ (H : Heap) (locs : List Loc) (ls : Array Slot) (cells slots : Nat) (x v : Int32) (rest : List Value) (k : Nat) (lv lv' : List (Nat × Value)), lv_has ls (mxM u) lv → lv[k]? = some (i, .int x) → x + Int32.ofInt z = v → i < mxM u → (i, Value.int v) :: lv.filter (fun q => !(q.1 == i) && !(q.1 + 1 == i && q.2.category == 2)) = lv' → (∀ ls' : Array Slot, lv_has ls' (mxM u) lv' → W p l e R s m args below meth c H locs cells slots Q (F0 m n ls' rest)) → W p l e R s m args below meth c H locs cells slots Q (F0 m pc ls rest))
    (hm : icI i z n L S h = some (g, .inl (pc', L', S', h'))) (K : WA p l e R s m args below meth c Q B o D ca h0 u z0 u0 (pc', L', S', h')) : WA p l e R s m args below meth c Q B o D ca h0 u z0 u0 (pc, L, S, h) := by
  unfold icI nxt at hm
  split at hm
  · rename_i x hx
    cases hm
    intro H locs ls hR hL hS
    have hi : i < mxM u := by rw [← hL.2.2.1]; exact (List.getElem?_eq_some_iff.mp hx).1
    have hmem : (i, Value.int x) ∈ lvO B o L := lvO_mem.mpr ⟨.int x, hx, (fun e => by cases e), rfl⟩
    obtain ⟨k, hk⟩ := List.getElem?_of_mem hmem
    exact row _ _ _ _ _ _ _ _ k _ _ hL.has hk rfl hi rfl (fun ls' h' => K H locs ls' hR (hL.one (v := .int (x + kI z)) hi rfl h') hS)
  · cases hm
theorem sp_jmp {t : Int} (row : ∀ (H : Heap) (locs : List Loc) (ls : Array Slot) (cells slots tgt : Nat) (rest : List Value), t = (tgt : Int) → W p l e R s m args below meth c H locs cells slots Q (F0 m tgt ls rest) → W p l e R s m args below meth c H locs cells slots Q (F0 m pc ls rest))
    (hm : jmp t L S h = some (g, .inl (pc', L', S', h'))) (K : WA p l e R s m args below meth c Q B o D ca h0 u z0 u0 (pc', L', S', h')) : WA p l e R s m args below meth c Q B o D ca h0 u z0 u0 (pc, L, S, h) := by
  unfold jmp at hm
  split at hm
  · cases hm
    intro H locs ls hR hL hS
    exact row _ _ _ _ _ _ _ rfl (K H locs ls hR hL hS)
  · cases hm
end STP
end
section
/-! fields -/
theorem vw_at {c : Nat} (h : c < 13) : vwCl[c]? = some (RC c, TC c, fN c) := by
  have h2 : c = 0 ∨ c = 1 ∨ c = 2 ∨ c = 3 ∨ c = 4 ∨ c = 5 ∨ c = 6 ∨ c = 7 ∨ c = 8 ∨ c = 9 ∨ c = 10 ∨ c = 11 ∨ c = 12 := by omega
  rcases h2 with rfl | rfl | rfl | rfl | rfl | rfl | rfl | rfl | rfl | rfl | rfl | rfl | rfl <;> rfl
theorem hin_0 : ∀ w ∈ u_ws RX0 TX0 7, w ∈ lw_tbl := by decide +kernel
theorem hin_1 : ∀ w ∈ u_ws RX1 TX1 3, w ∈ lw_tbl := by decide +kernel
theorem hin_2 : ∀ w ∈ u_ws RX2 TX2 3, w ∈ lw_tbl := by decide +kernel
theorem hin_3 : ∀ w ∈ u_ws RX3 TX3 5, w ∈ lw_tbl := by decide +kernel
theorem hin_4 : ∀ w ∈ u_ws RX4 TX4 20, w ∈ lw_tbl := by decide +kernel
theorem hin_5 : ∀ w ∈ u_ws RX5 TX5 5, w ∈ lw_tbl := by decide +kernel
theorem hin_6 : ∀ w ∈ u_ws RX6 TX6 14, w ∈ lw_tbl := by decide +kernel
theorem hin_7 : ∀ w ∈ u_ws RX7 TX7 4, w ∈ lw_tbl := by decide +kernel
theorem hin_8 : ∀ w ∈ u_ws RX8 TX8 14, w ∈ lw_tbl := by decide +kernel
theorem hin_9 : ∀ w ∈ u_ws RX9 TX9 6, w ∈ lw_tbl := by decide +kernel
theorem hin_10 : ∀ w ∈ u_ws RX10 TX10 3, w ∈ lw_tbl := by decide +kernel
theorem hin_11 : ∀ w ∈ u_ws RX11 TX11 14, w ∈ lw_tbl := by decide +kernel
theorem hin_12 : ∀ w ∈ u_ws RX12 TX12 31, w ∈ lw_tbl := by decide +kernel
theorem hin_c {c : Nat} (h : c < 13) : ∀ w ∈ u_ws (RC c) (TC c) (fN c), w ∈ lw_gd := by
  have h2 : c = 0 ∨ c = 1 ∨ c = 2 ∨ c = 3 ∨ c = 4 ∨ c = 5 ∨ c = 6 ∨ c = 7 ∨ c = 8 ∨ c = 9 ∨ c = 10 ∨ c = 11 ∨ c = 12 := by omega
  have key : ∀ (C : String) (T : u_T) (N : Nat), (∀ w ∈ u_ws C T N, w ∈ lw_tbl) → ∀ w ∈ u_ws C T N, w ∈ lw_gd := by
    intro C T N h w hw
    refine gd_of (h w hw) ?_
    obtain ⟨k, -, rfl⟩ := List.mem_map.mp hw
    unfold u_lay
    split <;> rfl
  rcases h2 with rfl | rfl | rfl | rfl | rfl | rfl | rfl | rfl | rfl | rfl | rfl | rfl | rfl
  · exact key _ _ _ hin_0
  · exact key _ _ _ hin_1
  · exact key _ _ _ hin_2
  · exact key _ _ _ hin_3
  · exact key _ _ _ hin_4
  · exact key _ _ _ hin_5
  · exact key _ _ _ hin_6
  · exact key _ _ _ hin_7
  · exact key _ _ _ hin_8
  · exact key _ _ _ hin_9
  · exact key _ _ _ hin_10
  · exact key _ _ _ hin_11
  · exact key _ _ _ hin_12
theorem tyC_ok {c : Nat} (h : c < 13) : ∀ k, k < fN c → parseFieldDescriptor (TC c k).2.2.1 = some (tyC c k) := by
  have h2 : c = 0 ∨ c = 1 ∨ c = 2 ∨ c = 3 ∨ c = 4 ∨ c = 5 ∨ c = 6 ∨ c = 7 ∨ c = 8 ∨ c = 9 ∨ c = 10 ∨ c = 11 ∨ c = 12 := by omega
  rcases h2 with rfl | rfl | rfl | rfl | rfl | rfl | rfl | rfl | rfl | rfl | rfl | rfl | rfl
  · exact tyX0_ok
  · exact tyX1_ok
  · exact tyX2_ok
  · exact tyX3_ok
  · exact tyX4_ok
  · exact tyX5_ok
  · exact tyX6_ok
  · exact tyX7_ok
  · exact tyX8_ok
  · exact tyX9_ok
  · exact tyX10_ok
  · exact tyX11_ok
  · exact tyX12_ok
theorem nmC {c : Nat} (h : c < 13) : ∀ a, a < fN c → ∀ b, b < fN c → a ≠ b → (TC c a).2.1 ≠ (TC c b).2.1 := by
  have h2 : c = 0 ∨ c = 1 ∨ c = 2 ∨ c = 3 ∨ c = 4 ∨ c = 5 ∨ c = 6 ∨ c = 7 ∨ c = 8 ∨ c = 9 ∨ c = 10 ∨ c = 11 ∨ c = 12 := by omega
  rcases h2 with rfl | rfl | rfl | rfl | rfl | rfl | rfl | rfl | rfl | rfl | rfl | rfl | rfl
  · exact nmX0
  · exact nmX1
  · exact nmX2
  · exact nmX3
  · exact nmX4
  · exact nmX5
  · exact nmX6
  · exact nmX7
  · exact nmX8
  · exact nmX9
  · exact nmX10
  · exact nmX11
  · exact nmX12
def tyKd (t : FieldType) : Nat := match t with
  | .int => 0
  | .long => 1
  | .boolean => 3
  | .object _ => 2
  | .array _ => 2
  | _ => 8
theorem tyKd_ok : ∀ c, c < 13 → ∀ k, k < fN c → tyKd (tyC c k) = fK c k := by decide +kernel
theorem ty_int {t : FieldType} (h : tyKd t = 0) : t = .int := by cases t <;> first | rfl | cases h
theorem ty_long {t : FieldType} (h : tyKd t = 1) : t = .long := by cases t <;> first | rfl | cases h
theorem ty_bool {t : FieldType} (h : tyKd t = 3) : t = .boolean := by cases t <;> first | rfl | cases h
theorem ty_ref {t : FieldType} (h : tyKd t = 2) : (∃ n, t = .object n) ∨ ∃ x, t = .array x := by
  cases t <;> first | exact Or.inl ⟨_, rfl⟩ | exact Or.inr ⟨_, rfl⟩ | cases h
theorem nar_ref {t : FieldType} (h : tyKd t = 2) (r : Option Nat) : narrow t (va_rf r) = va_rf r ∧ fits t (va_rf r) = true := by
  rcases ty_ref h with ⟨n, rfl⟩ | ⟨x, rfl⟩ <;> cases r <;> exact ⟨rfl, rfl⟩
theorem fdL_get {B : Nat} {o : Nat → Nat} {h : AH} {x c k : Nat} (hk : k < fN c) : (fdL B o h x c)[k]? = some (fdV B o h x c k) := by
  unfold fdL
  rw [List.getElem?_map, List.getElem?_range hk]
  rfl
theorem fdL_V {B : Nat} {o : Nat → Nat} {h : AH} {x c k : Nat} (hk : k < fN c) : vp_V (fdL B o h x c) k = fdV B o h x c k := by
  unfold vp_V
  rw [List.getD_eq_getElem?_getD, fdL_get hk]
  rfl
theorem own_at {B : Nat} {o : Nat → Nat} {D : va_G} {ca : Nat → ClassId} {h0 h : AH} {H : Heap} (hR : HR B o D ca h0 h H) {x c : Nat} (hk : kdA h x = c) (hc : c < 13) :
    (1 ≤ x ∧ x ≤ szA h) ∧ tV B o (.ref x) = .ref (B + (x - 1)) ∧ va_at D vwCl (B + (x - 1), .inr (c, fdL B o h x c)) H := by
  obtain ⟨h1, h2, h3, h4⟩ := okK_own hR.2.2.1 (x := x) (by rw [hk]; exact Or.inl hc)
  refine ⟨⟨h1, h2⟩, by rw [tV_r B o h4, adA_own B o h3], ?_⟩
  have h5 := hR.2.1 x h1 h2
  unfold clE at h5
  rw [hk, if_pos hc] at h5
  exact h5
theorem own_arr {B : Nat} {o : Nat → Nat} {D : va_G} {ca : Nat → ClassId} {h0 h : AH} {H : Heap} (hR : HR B o D ca h0 h H) {x t : Nat} (hk : kdA h x = t) (hc : t = 20 ∨ t = 22 ∨ t = 23 ∨ t = 24) :
    (1 ≤ x ∧ x ≤ szA h) ∧ tV B o (.ref x) = .ref (B + (x - 1)) ∧ H[B + (x - 1)]? = some (vp_cell (ca t) (lnA h x, .inl (ivA h x))) := by
  obtain ⟨h1, h2, h3, h4⟩ := okK_own hR.2.2.1 (x := x) (by rw [hk]; exact Or.inr (Or.inl (by omega)))
  refine ⟨⟨h1, h2⟩, by rw [tV_r B o h4, adA_own B o h3], ?_⟩
  have h5 := hR.2.1 x h1 h2
  unfold clE at h5
  rw [hk, if_neg (by omega), if_neg (by omega), if_neg (by omega)] at h5
  exact h5
theorem own_arrJ {B : Nat} {o : Nat → Nat} {D : va_G} {ca : Nat → ClassId} {h0 h : AH} {H : Heap} (hR : HR B o D ca h0 h H) {x : Nat} (hk : kdA h x = 21) :
    (1 ≤ x ∧ x ≤ szA h) ∧ tV B o (.ref x) = .ref (B + (x - 1)) ∧ H[B + (x - 1)]? = some (vp_cell (ca 21) (lnA h x, .inr (.inl (jvA h x)))) := by
  obtain ⟨h1, h2, h3, h4⟩ := okK_own hR.2.2.1 (x := x) (by rw [hk]; exact Or.inr (Or.inl (by omega)))
  refine ⟨⟨h1, h2⟩, by rw [tV_r B o h4, adA_own B o h3], ?_⟩
  have h5 := hR.2.1 x h1 h2
  unfold clE at h5
  rw [hk, if_neg (by omega), if_pos rfl] at h5
  exact h5
theorem own_arrR {B : Nat} {o : Nat → Nat} {D : va_G} {ca : Nat → ClassId} {h0 h : AH} {H : Heap} (hR : HR B o D ca h0 h H) {x t : Nat} (hk : kdA h x = t) (hc : 30 ≤ t ∧ t ≤ 33) :
    (1 ≤ x ∧ x ≤ szA h) ∧ tV B o (.ref x) = .ref (B + (x - 1)) ∧ H[B + (x - 1)]? = some (vp_cell (ca t) (lnA h x, .inr (.inr (.inr (.inr (fun j => tN B o (rvA h x j))))))) := by
  obtain ⟨h1, h2, h3, h4⟩ := okK_own hR.2.2.1 (x := x) (by rw [hk]; exact Or.inr (Or.inr hc))
  refine ⟨⟨h1, h2⟩, by rw [tV_r B o h4, adA_own B o h3], ?_⟩
  have h5 := hR.2.1 x h1 h2
  unfold clE at h5
  rw [hk, if_neg (by omega), if_neg (by omega), if_pos (by omega)] at h5
  exact h5
section STP
variable {p : Program} {l : Launch} {e : Env} {R : Room} {s : State} {m : MethodId} {args : Array Value} {below : List Frame} {meth : Method} {c : Code} {Q : State → Prop} {B : Nat} {o : Nat → Nat} {D : va_G} {ca : Nat → ClassId} {h0 : AH} {u z0 u0 : Nat} {pc pc' : Nat} {L L' S S' : List Value} {h h' : AH} {g : List Bool}
theorem gf_core (F : FX B o D ca h0 u p s m args meth c) {i f x : Nat} {rest : List Value} {v : Value} (hd : decode (cM u) pc = .ok (.getfield i, 3)) (hf : fT (owM u) i = some f) (hk : kdA h x = f / 64) (hv : v = if f / 64 < 13 then fdV B o h x (f / 64) (f % 64) else if f = 832 then va_rf (tN B o (rvA h x 0)) else .int (ivA h x 1))
    {H : Heap} {locs : List Loc} {ls : Array Slot} {cells slots : Nat} (hR : HR B o D ca h0 h H) (hS : va_S (owA B) s.heap H locs) (K : W p l e R s m args below meth c H locs cells slots Q (F0 m (pc + 3) ls (v :: rest))) : W p l e R s m args below meth c H locs cells slots Q (F0 m pc ls (tV B o (.ref x) :: rest)) := by
  obtain ⟨hx, hb, hml, hown, hts, hin, hC, hB⟩ := F
  obtain ⟨pp, hw⟩ := wF hf
  unfold fWc at hw
  by_cases hc : f / 64 < 13
  · rw [if_pos hc, Bool.and_eq_true, decide_eq_true_eq] at hw
    obtain ⟨hw1, hw2⟩ := hw
    rw [if_pos hc] at hv
    obtain ⟨-, ht, hat⟩ := own_at hR hk hc
    rw [ht]
    have hP : va_P D vwCl [(B + (x - 1), .inr (f / 64, fdL B o h x (f / 64)))] H := by
      intro k q hq
      cases k with
      | zero => cases hq; exact hat
      | succ k => cases hq
    exact va_get hx hb hts (hin_c hc) hown hC.1 hP 0 rfl (vw_at hc) (f % 64) hw2 (hts _ (gd_of (inT_mem hw1) rfl)) (fun _ h => h) (v := v) (by rw [hv]; exact fdL_get hw2) hd K
  · rw [if_neg hc] at hw hv
    have hkk : f = 832 ∨ f = 833 := by
      by_cases h1 : f = 832
      · exact Or.inl h1
      · rw [if_neg h1] at hw
        by_cases h2 : f = 833
        · exact Or.inr h2
        · rw [if_neg h2] at hw; cases hw
    have hk13 : kdA h x = 13 := by rw [hk]; omega
    have hxo := hR.2.2.1.2.1 x (Or.inl hk13)
    obtain ⟨o1, o2, o3, o4⟩ := hR.2.2.2 x hxo
    obtain ⟨d1, d2, d3⟩ := hC.2.2.2.2.1 x hxo (by rw [← o1]; exact hk13)
    rw [tV_r B o (by omega), adA_out B o hxo]
    rcases hkk with rfl | rfl
    · rw [if_pos rfl] at hw hv
      rw [o4] at hv
      subst hv
      exact vk_getf hx hb d3 hS hown (hts _ (gd_of (inT_mem hw) rfl)) (fun _ h => h) hd K
    · rw [if_neg (by decide), if_pos rfl] at hw
      rw [if_neg (by decide), o3] at hv
      subst hv
      exact vk_getf hx hb d2 hS hown (hts _ (gd_of (inT_mem hw) rfl)) (fun _ h => h) hd K
theorem fK_13 (k : Nat) : fK 13 k = if k = 0 then 2 else if k = 1 then 0 else 9 := by
  match k with
  | 0 => rfl
  | 1 => rfl
  | k + 2 => rfl
theorem sp_gfR (F : FX B o D ca h0 u p s m args meth c) {i : Nat} (hd : decode (cM u) pc = .ok (.getfield i, 3)) (hm : gfR (owM u) i (pc + 3) L S h = some (g, .inl (pc', L', S', h'))) (hg : allG g = true) (K : WA p l e R s m args below meth c Q B o D ca h0 u z0 u0 (pc', L', S', h')) : WA p l e R s m args below meth c Q B o D ca h0 u z0 u0 (pc, L, S, h) := by
  unfold gfR nxtG at hm
  split at hm
  · rename_i f x r hf
    obtain ⟨pp, hw⟩ := wF hf
    unfold fWc at hw
    have hs : f / 64 < 13 ∨ f = 832 ∨ f = 833 := by
      by_cases hc : f / 64 < 13
      · exact Or.inl hc
      · rw [if_neg hc] at hw
        by_cases h1 : f = 832
        · exact Or.inr (Or.inl h1)
        · rw [if_neg h1] at hw
          by_cases h2 : f = 833
          · exact Or.inr (Or.inr h2)
          · rw [if_neg h2] at hw; cases hw
    split at hm
    · rename_i hK
      cases hm
      simp only [allG, Bool.and_true, decide_eq_true_eq] at hg
      intro H locs ls hR hL hS
      refine gf_core F hd hf hg ?_ hR hS (K H locs ls hR hL hS)
      rcases hs with hs | rfl | rfl
      · rw [if_pos hs]; unfold fdV; rw [hK]; rfl
      · cases hK
      · cases hK
    · rename_i hK
      cases hm
      simp only [allG, Bool.and_true, decide_eq_true_eq] at hg
      intro H locs ls hR hL hS
      refine gf_core F hd hf hg ?_ hR hS (K H locs ls hR hL hS)
      rcases hs with hs | rfl | rfl
      · rw [if_pos hs]; unfold fdV; rw [hK]; rfl
      · rfl
      · cases hK
    · cases hm
    · rename_i h1 h2 h3
      cases hm
      simp only [allG, Bool.and_true, decide_eq_true_eq] at hg
      intro H locs ls hR hL hS
      refine gf_core F hd hf hg ?_ hR hS (K H locs ls hR hL hS)
      rcases hs with hs | rfl | rfl
      · rw [if_pos hs]; unfold fdV
        split
        · rename_i hh; exact absurd hh h1
        · rename_i hh; exact absurd hh h2
        · rfl
      · exact absurd rfl h2
      · rfl
  · cases hm
theorem pf_core (F : FX B o D ca h0 u p s m args meth c) {i f x : Nat} {rest : List Value} {v : Value} (hd : decode (cM u) pc = .ok (.putfield i, 3)) (hf : fT (owM u) i = some f) (hc : f / 64 < 13) (hfin : (TC (f / 64) (f % 64)).2.2.2 = true → kdM u = 2 ∧ owM u = f / 64 ∧ (TC (f / 64) (f % 64)).1 = RC (f / 64)) (hk : kdA h x = f / 64)
    (hn : narrow (tyC (f / 64) (f % 64)) v = v) (hfit : fits (tyC (f / 64) (f % 64)) v = true)
    (hz : szA h' = szA h) (hk' : ∀ y, kdA h' y = kdA h y) (hn' : ∀ y, lnA h' y = lnA h y) (hi' : ∀ y, y ≠ x → ∀ k, ivA h' y k = ivA h y k) (hj' : ∀ y, y ≠ x → ∀ k, jvA h' y k = jvA h y k) (hr' : ∀ y, y ≠ x → ∀ k, rvA h' y k = rvA h y k)
    (hv : ∀ j, j < fN (f / 64) → fdV B o h' x (f / 64) j = if j = f % 64 then v else fdV B o h x (f / 64) j)
    {H : Heap} {locs : List Loc} {ls : Array Slot} {cells slots : Nat} (hR : HR B o D ca h0 h H) (hS : va_S (owA B) s.heap H locs)
    (K : ∀ (H' : Heap) (locs' : List Loc), HR B o D ca h0 h' H' → va_S (owA B) s.heap H' locs' → W p l e R s m args below meth c H' locs' cells slots Q (F0 m (pc + 3) ls rest)) : W p l e R s m args below meth c H locs cells slots Q (F0 m pc ls (v :: tV B o (.ref x) :: rest)) := by
  obtain ⟨hx, hb, hml, hown, hts, hin, hC, hB⟩ := F
  obtain ⟨pp, hw⟩ := wF hf
  unfold fWc at hw
  rw [if_pos hc, Bool.and_eq_true, decide_eq_true_eq] at hw
  obtain ⟨hw1, hw2⟩ := hw
  obtain ⟨hx1, ht, hat⟩ := own_at hR hk hc
  rw [ht]
  obtain ⟨r, e1, cell, q1, q2, q3, q4⟩ := hat
  have hr : r = (RC (f / 64), TC (f / 64), fN (f / 64)) := Option.some.inj (e1.symm.trans (vw_at hc))
  subst hr
  have hap := va_apart (own := "") hts (hin_c hc) (tyC (f / 64)) (tyC_ok hc) (nmC hc) hC.1 (vw_at hc)
  obtain ⟨hSl, hfc, kC, hkC, hkind⟩ := hC.1.1 (f / 64) _ (vw_at hc)
  obtain ⟨cf, kf, fi, fd, hi, hsl⟩ := hSl (f % 64) hw2
  have hlay := hts _ (hin_c hc _ (u_in_lay hw2))
  have hst := (u_facts hfc hkC (u_lays hts (hin_c hc) hw2) hi).1
  have fin : ∀ (H' : Heap) (lc : Loc), lc.base = B + (x - 1) → H'[B + (x - 1)]? = some (cell.setSlot fd.slot v) → H'.size = H.size → (∀ q, q ≠ B + (x - 1) → H'[q]? = H[q]?) → W p l e R s m args below meth c H' (locs ++ [lc]) cells slots Q (F0 m (pc + 3) ls rest) := by
    intro H' lc hlc g1 g2 g3
    rw [hsl] at g1
    refine K H' _ (HR_set hR hx1 hz hk' hn' hi' hj' hr' g2 g3 ?_) ?_
    · unfold clE
      rw [hk', hk, if_pos hc]
      refine ⟨_, vw_at hc, t_OB.to (V := updV (vp_V (fdL B o h x (f / 64))) (f % 64) v) ⟨_, g1, q2, q3, t_set q4 hap hw2 v⟩ (fun j hj => ?_)⟩
      rw [fdL_V hj, hv j hj]
      unfold updV
      split
      · rfl
      · exact fdL_V hj
    · obtain ⟨lb, lk⟩ := lc
      cases hlc
      exact hS.put g2 g3 (Nat.le_add_right _ _)
  by_cases hfi : (TC (f / 64) (f % 64)).2.2.2 = true
  · unfold u_lay at hlay
    rw [if_pos hfi] at hlay
    obtain ⟨hu1, hu2, hu3⟩ := hfin hfi
    have hcf : m.cls = cf := by
      obtain ⟨_, _, c', _, _, _, -, -, hf', -, -, -, hown2, -⟩ := Cond.laysFinal_spec hlay
      have e1 : c' = cf := by have := hi.symm.trans hf'; simp at this; exact this.1.symm
      rw [hu3, ← hu2] at hown2
      rw [← e1]; exact Option.some.inj (hown.symm.trans hown2)
    have h6 := u_fits hfc hkC hkind (Or.inr hlay) hi (tyC_ok hc _ hw2) hn hfit
    exact W.putFinK hx hb hown (hts _ (gd_of (inT_mem hw1) rfl)) hi hst hcf (hin hu1) (by rw [q2]; exact h6) q1 q3 (by rw [hsl]; exact k2_hasslot (q4 _ hw2)) rfl rfl hd (fun H' g1 g2 g3 => fin H' _ rfl g1 g2 g3)
  · unfold u_lay at hlay
    rw [if_neg hfi] at hlay
    have h6 := u_store hfc hkC hkind hlay hi (tyC_ok hc _ hw2) hn hfit
    exact W.putK hx hb (f := fd) ⟨hown, hts _ (gd_of (inT_mem hw1) rfl), ⟨_, _, _, hi⟩, hst⟩ (by rw [q2]; exact h6) q1 q3 (by rw [hsl]; exact k2_hasslot (q4 _ hw2)) rfl rfl hd (fun H' g1 g2 g3 => fin H' _ rfl g1 g2 g3)
end STP
end
section
/-! stores into fields, arrays -/
theorem kI_nat (n : Nat) : kI (n : Int) = Int32.ofNat n := by
  show Int32.ofInt (n : Int) = Int32.ofNat n
  exact Int32.ofInt_eq_ofNat
theorem stI_i (h : AH) (a k : Nat) (x : Int32) (b j : Nat) : ivA (stI h a k x) b j = if b = a ∧ j = k then x else ivA h b j := rfl
theorem stJ_j (h : AH) (a k : Nat) (x : Int64) (b j : Nat) : jvA (stJ h a k x) b j = if b = a ∧ j = k then x else jvA h b j := rfl
theorem stR_r (h : AH) (a k x b j : Nat) : rvA (stR h a k x) b j = if b = a ∧ j = k then x else rvA h b j := rfl
theorem fdV_stI {B : Nat} {o : Nat → Nat} {h : AH} {x c k j : Nat} {v : Int32} (h1 : fK c k ≠ 1) (h2 : fK c k ≠ 2) : fdV B o (stI h x k v) x c j = if j = k then .int v else fdV B o h x c j := by
  unfold fdV
  by_cases e : j = k
  · subst e
    rw [if_pos rfl]
    split
    · rename_i hh; exact absurd hh h1
    · rename_i hh; exact absurd hh h2
    · rw [stI_i, if_pos ⟨rfl, rfl⟩]
  · rw [if_neg e]
    split
    · rfl
    · rfl
    · rw [stI_i, if_neg (fun q => e q.2)]
theorem fdV_stJ {B : Nat} {o : Nat → Nat} {h : AH} {x c k j : Nat} {v : Int64} (h1 : fK c k = 1) : fdV B o (stJ h x k v) x c j = if j = k then .long v else fdV B o h x c j := by
  unfold fdV
  by_cases e : j = k
  · subst e
    rw [if_pos rfl, h1]
    show Value.long (jvA (stJ h x j v) x j) = _
    rw [stJ_j, if_pos ⟨rfl, rfl⟩]
  · rw [if_neg e]
    split
    · rw [stJ_j, if_neg (fun q => e q.2)]
    · rfl
    · rfl
theorem fdV_stR {B : Nat} {o : Nat → Nat} {h : AH} {x c k j v : Nat} (h1 : fK c k = 2) : fdV B o (stR h x k v) x c j = if j = k then va_rf (tN B o v) else fdV B o h x c j := by
  unfold fdV
  by_cases e : j = k
  · subst e
    rw [if_pos rfl, h1]
    show va_rf (tN B o (rvA (stR h x j v) x j)) = _
    rw [stR_r, if_pos ⟨rfl, rfl⟩]
  · rw [if_neg e]
    split
    · rfl
    · rw [stR_r, if_neg (fun q => e q.2)]
    · rfl
theorem isB_spec {v : Int32} (h : isB v = true) : v = 0 ∨ v = 1 := by
  unfold isB at h
  simpa using h
theorem nar_bool {v : Int32} (h : isB v = true) : narrow .boolean (.int v) = .int v ∧ fits .boolean (.int v) = true ∧ v.toInt8.toInt32 = v := by
  rcases isB_spec h with rfl | rfl <;> exact ⟨by decide, by decide, by decide⟩
section STP
variable {p : Program} {l : Launch} {e : Env} {R : Room} {s : State} {m : MethodId} {args : Array Value} {below : List Frame} {meth : Method} {c : Code} {Q : State → Prop} {B : Nat} {o : Nat → Nat} {D : va_G} {ca : Nat → ClassId} {h0 : AH} {u z0 u0 : Nat} {pc pc' : Nat} {L L' S S' : List Value} {h h' : AH} {g : List Bool}
theorem sp_pfR (F : FX B o D ca h0 u p s m args meth c) {i : Nat} (hd : decode (cM u) pc = .ok (.putfield i, 3)) (hq : ∀ f, fT (owM u) i = some f → f / 64 < 13 ∧ ((TC (f / 64) (f % 64)).2.2.2 = true → kdM u = 2 ∧ owM u = f / 64 ∧ (TC (f / 64) (f % 64)).1 = RC (f / 64)))
    (hm : pfR (owM u) i (pc + 3) L S h = some (g, .inl (pc', L', S', h'))) (hg : allG g = true) (K : WA p l e R s m args below meth c Q B o D ca h0 u z0 u0 (pc', L', S', h')) : WA p l e R s m args below meth c Q B o D ca h0 u z0 u0 (pc, L, S, h) := by
  unfold pfR nxtG at hm
  have kk : ∀ f, fT (owM u) i = some f → f / 64 < 13 → tyKd (tyC (f / 64) (f % 64)) = fK (f / 64) (f % 64) := by
    intro f hf hc
    obtain ⟨pp, hw⟩ := wF hf
    unfold fWc at hw
    rw [if_pos hc, Bool.and_eq_true, decide_eq_true_eq] at hw
    exact tyKd_ok _ hc _ hw.2
  split at hm
  · rename_i f v x r hf
    obtain ⟨hc, hfin⟩ := hq f hf
    have hty := kk f hf hc
    split at hm
    · rename_i hK
      cases hm
      simp only [allG, Bool.and_true, decide_eq_true_eq] at hg
      rw [hK] at hty
      intro H locs ls hR hL hS
      exact pf_core (h' := stI h x (f % 64) v) F hd hf hc hfin hg (v := .int v) (by rw [ty_int hty]; rfl) (by rw [ty_int hty]; rfl) rfl (fun _ => rfl) (fun _ => rfl) (fun y hy k => by rw [stI_i, if_neg (fun q => hy q.1)]) (fun _ _ _ => rfl) (fun _ _ _ => rfl) (fun j _ => fdV_stI (by rw [hK]; decide) (by rw [hK]; decide)) hR hS (fun H' locs' hR' hS' => K H' locs' ls hR' hL hS')
    · rename_i hK
      cases hm
      simp only [allG, Bool.and_true, Bool.and_eq_true, decide_eq_true_eq] at hg
      rw [hK] at hty
      obtain ⟨n1, n2, -⟩ := nar_bool hg.2
      intro H locs ls hR hL hS
      exact pf_core (h' := stI h x (f % 64) v) F hd hf hc hfin hg.1 (v := .int v) (by rw [ty_bool hty]; exact n1) (by rw [ty_bool hty]; exact n2) rfl (fun _ => rfl) (fun _ => rfl) (fun y hy k => by rw [stI_i, if_neg (fun q => hy q.1)]) (fun _ _ _ => rfl) (fun _ _ _ => rfl) (fun j _ => fdV_stI (by rw [hK]; decide) (by rw [hK]; decide)) hR hS (fun H' locs' hR' hS' => K H' locs' ls hR' hL hS')
    · cases hm
  · rename_i f v x r hf
    obtain ⟨hc, hfin⟩ := hq f hf
    have hty := kk f hf hc
    split at hm
    · rename_i hK
      cases hm
      simp only [allG, Bool.and_true, decide_eq_true_eq] at hg
      rw [hK] at hty
      intro H locs ls hR hL hS
      exact pf_core (h' := stJ h x (f % 64) v) F hd hf hc hfin hg (v := .long v) (by rw [ty_long hty]; rfl) (by rw [ty_long hty]; rfl) rfl (fun _ => rfl) (fun _ => rfl) (fun _ _ _ => rfl) (fun y hy k => by rw [stJ_j, if_neg (fun q => hy q.1)]) (fun _ _ _ => rfl) (fun j _ => fdV_stJ hK) hR hS (fun H' locs' hR' hS' => K H' locs' ls hR' hL hS')
    · cases hm
  · rename_i f v x r hf
    obtain ⟨hc, hfin⟩ := hq f hf
    have hty := kk f hf hc
    split at hm
    · rename_i hK
      cases hm
      simp only [allG, Bool.and_true, decide_eq_true_eq] at hg
      rw [hK] at hty
      obtain ⟨n1, n2⟩ := nar_ref hty (tN B o v)
      intro H locs ls hR hL hS
      exact pf_core (h' := stR h x (f % 64) v) F hd hf hc hfin hg (v := va_rf (tN B o v)) n1 n2 rfl (fun _ => rfl) (fun _ => rfl) (fun _ _ _ => rfl) (fun _ _ _ => rfl) (fun y hy k => by rw [stR_r, if_neg (fun q => hy q.1)]) (fun j _ => fdV_stR hK) hR hS (fun H' locs' hR' hS' => K H' locs' ls hR' hL hS')
    · cases hm
  · cases hm
theorem inB_in {i : Int32} {n : Nat} (h : inB i n = true) : ¬ (i < 0 ∨ n ≤ i.toNatClampNeg) := by
  unfold inB at h
  simp only [Bool.and_eq_true, Bool.not_eq_true', decide_eq_false_iff_not, decide_eq_true_eq] at h
  rintro (h1 | h1)
  · exact h.1 h1
  · omega
end STP
end
section
/-! arrays, new cells -/
theorem cell_stI (cA : ClassId) (n : Nat) (h : AH) (x k : Nat) (v : Int32) : (vp_cell cA (n, .inl (ivA h x))).setSlot k (.int v) = vp_cell cA (n, .inl (ivA (stI h x k v) x)) := by
  rw [vp_cell_i, vp_cell_i, arrV_store]
  congr 1
  funext j
  unfold updV
  rw [stI_i]
  by_cases e : j = k
  · rw [if_pos e, if_pos ⟨rfl, e⟩]
  · rw [if_neg e, if_neg (fun q => e q.2)]
theorem cell_stJ (cA : ClassId) (n : Nat) (h : AH) (x k : Nat) (v : Int64) : (vp_cell cA (n, .inr (.inl (jvA h x)))).setSlot k (.long v) = vp_cell cA (n, .inr (.inl (jvA (stJ h x k v) x))) := by
  rw [vp_cell_l, vp_cell_l, arrV_store]
  congr 1
  funext j
  unfold updV
  rw [stJ_j]
  by_cases e : j = k
  · rw [if_pos e, if_pos ⟨rfl, e⟩]
  · rw [if_neg e, if_neg (fun q => e q.2)]
theorem cell_stR (B : Nat) (o : Nat → Nat) (cA : ClassId) (n : Nat) (h : AH) (x k v : Nat) : (vp_cell cA (n, .inr (.inr (.inr (.inr (fun j => tN B o (rvA h x j))))))).setSlot k (va_rf (tN B o v)) = vp_cell cA (n, .inr (.inr (.inr (.inr (fun j => tN B o (rvA (stR h x k v) x j)))))) := by
  rw [vp_cell_q, vp_cell_q, arrV_store]
  congr 1
  funext j
  unfold updV
  rw [stR_r]
  by_cases e : j = k
  · rw [if_pos e, if_pos ⟨rfl, e⟩]
  · rw [if_neg e, if_neg (fun q => e q.2)]
section STP
variable {p : Program} {l : Launch} {e : Env} {R : Room} {s : State} {m : MethodId} {args : Array Value} {below : List Frame} {meth : Method} {c : Code} {Q : State → Prop} {B : Nat} {o : Nat → Nat} {D : va_G} {ca : Nat → ClassId} {h0 : AH} {u z0 u0 : Nat} {pc pc' : Nat} {L L' S S' : List Value} {h h' : AH} {g : List Bool} {H : Heap} {locs : List Loc}
theorem rdI (hC : Ctx B o D ca h0 s) (hR : HR B o D ca h0 h H) (hS : va_S (owA B) s.heap H locs) {x t : Nat} {ty : FieldType} (hk : kdA h x = t) (ht : (t = 20 ∧ ty = .int) ∨ (t = 40 ∧ ty = .int) ∨ (t = 22 ∧ ty = .byte) ∨ (t = 42 ∧ ty = .byte) ∨ (t = 23 ∧ ty = .short) ∨ (t = 24 ∧ ty = .boolean)) :
    ∃ (a : Nat) (cell : Cell), tV B o (.ref x) = .ref a ∧ H[a]? = some cell ∧ s.isArrayOf cell ty ∧ cell.vm ≠ .unknown ∧ lnA h x ≤ cell.slots.size ∧ cell.slots.size.toInt32 = Int32.ofNat (lnA h x) ∧ ∀ j, j < lnA h x → cell.slots[j]? = some (.int (ivA h x j)) := by
  have own : ∀ t0 : Nat, (t = 20 ∨ t = 22 ∨ t = 23 ∨ t = 24) → (tysA ca)[t0]? = some (ca t, ty) → ∃ (a : Nat) (cell : Cell), tV B o (.ref x) = .ref a ∧ H[a]? = some cell ∧ s.isArrayOf cell ty ∧ cell.vm ≠ .unknown ∧ lnA h x ≤ cell.slots.size ∧ cell.slots.size.toInt32 = Int32.ofNat (lnA h x) ∧ ∀ j, j < lnA h x → cell.slots[j]? = some (.int (ivA h x j)) := by
    intro t0 ht ht0
    obtain ⟨-, h2, h3⟩ := own_arr hR hk ht
    refine ⟨_, _, h2, h3, (hC.1.2 t0 _ ht0).1 _ _, (fun q => by cases q), ?_, ?_, ?_⟩
    · rw [vp_cell_i, arrV_size]; exact Nat.le_refl _
    · rw [vp_cell_i, arrV_size]
    · intro j hj
      rw [vp_cell_i, arrV_read _ _ hj]
  have out : 1000000 ≤ x → va_T ty (o x) (lnA h0 x) (fun j => .int (ivA h0 x j)) (owA B) s s.heap → ∃ (a : Nat) (cell : Cell), tV B o (.ref x) = .ref a ∧ H[a]? = some cell ∧ s.isArrayOf cell ty ∧ cell.vm ≠ .unknown ∧ lnA h x ≤ cell.slots.size ∧ cell.slots.size.toInt32 = Int32.ofNat (lnA h x) ∧ ∀ j, j < lnA h x → cell.slots[j]? = some (.int (ivA h x j)) := by
    intro hx hT
    obtain ⟨o1, o2, o3, o4⟩ := hR.2.2.2 x hx
    obtain ⟨cell, q1, q2, q3, q4, q5, q6, -⟩ := hT.kept hS.2.1
    refine ⟨o x, cell, by rw [tV_r B o (by omega), adA_out B o hx], q1, q2, q3, by rw [o2]; exact q4, by rw [o2]; exact q5, fun j hj => ?_⟩
    rw [o2] at hj
    rw [q6 j hj, o3]
  rcases ht with ⟨rfl, rfl⟩ | ⟨rfl, rfl⟩ | ⟨rfl, rfl⟩ | ⟨rfl, rfl⟩ | ⟨rfl, rfl⟩ | ⟨rfl, rfl⟩
  · exact own 0 (Or.inl rfl) rfl
  · have hx := hR.2.2.1.2.1 x (Or.inr (Or.inl hk))
    exact out hx (hC.2.2.1 x hx (by rw [← (hR.2.2.2 x hx).1]; exact hk))
  · exact own 2 (Or.inr (Or.inl rfl)) rfl
  · have hx := hR.2.2.1.2.1 x (Or.inr (Or.inr hk))
    exact out hx (hC.2.2.2.1 x hx (by rw [← (hR.2.2.2 x hx).1]; exact hk))
  · exact own 3 (Or.inr (Or.inr (Or.inl rfl))) rfl
  · exact own 4 (Or.inr (Or.inr (Or.inr rfl))) rfl
theorem inB_sz {i : Int32} {n k : Nat} (h : inB i n = true) (hk : n ≤ k) : ¬ (i < 0 ∨ k ≤ i.toNatClampNeg) := by
  have := inB_in h
  rintro (h1 | h1)
  · exact this (Or.inl h1)
  · exact this (Or.inr (by omega))
theorem inB_lt {i : Int32} {n : Nat} (h : inB i n = true) : ix i < n := Nat.lt_of_not_le (fun q => inB_in h (Or.inr q))
theorem sp_iald (F : FX B o D ca h0 u p s m args meth c) (hd : decode (cM u) pc = .ok (.iaload, 1)) (hm : alI (fun t => decide (t = 20) || decide (t = 40)) (pc + 1) L S h = some (g, .inl (pc', L', S', h'))) (hg : allG g = true) (K : WA p l e R s m args below meth c Q B o D ca h0 u z0 u0 (pc', L', S', h')) : WA p l e R s m args below meth c Q B o D ca h0 u z0 u0 (pc, L, S, h) := by
  unfold alI at hm
  split at hm
  · rename_i i a r
    cases hm
    simp only [allG, Bool.and_true, Bool.and_eq_true, Bool.or_eq_true, decide_eq_true_eq] at hg
    intro H locs ls hR hL hS
    obtain ⟨ad, cell, e1, e2, e3, e4, e5, e6, e7⟩ := rdI F.2.2.2.2.2.2.1 hR hS (t := kdA h a) (ty := .int) rfl (by rcases hg.1 with hh | hh <;> simp [hh])
    show W p l e R s m args below meth c H locs _ _ Q (F0 m pc ls (.int i :: tV B o (.ref a) :: r.map (tV B o)))
    rw [e1]
    exact W.iald F.1 F.2.1 e2 e3 e4 (inB_sz hg.2 e5) (e7 _ (inB_lt hg.2)) rfl rfl hd (K H locs ls hR hL hS)
  · cases hm
theorem sp_sald (F : FX B o D ca h0 u p s m args meth c) (hd : decode (cM u) pc = .ok (.saload, 1)) (hm : alI (fun t => decide (t = 23)) (pc + 1) L S h = some (g, .inl (pc', L', S', h'))) (hg : allG g = true) (K : WA p l e R s m args below meth c Q B o D ca h0 u z0 u0 (pc', L', S', h')) : WA p l e R s m args below meth c Q B o D ca h0 u z0 u0 (pc, L, S, h) := by
  unfold alI at hm
  split at hm
  · rename_i i a r
    cases hm
    simp only [allG, Bool.and_true, Bool.and_eq_true, Bool.or_eq_true, decide_eq_true_eq] at hg
    intro H locs ls hR hL hS
    obtain ⟨ad, cell, e1, e2, e3, e4, e5, e6, e7⟩ := rdI F.2.2.2.2.2.2.1 hR hS (t := kdA h a) (ty := .short) rfl (by simp [hg.1])
    show W p l e R s m args below meth c H locs _ _ Q (F0 m pc ls (.int i :: tV B o (.ref a) :: r.map (tV B o)))
    rw [e1]
    exact W.sald F.1 F.2.1 e2 e3 e4 (inB_sz hg.2 e5) (e7 _ (inB_lt hg.2)) rfl rfl hd (K H locs ls hR hL hS)
  · cases hm
theorem sp_bald (F : FX B o D ca h0 u p s m args meth c) (hd : decode (cM u) pc = .ok (.baload, 1)) (hm : alI (fun t => decide (t = 22) || decide (t = 24) || decide (t = 42)) (pc + 1) L S h = some (g, .inl (pc', L', S', h'))) (hg : allG g = true) (K : WA p l e R s m args below meth c Q B o D ca h0 u z0 u0 (pc', L', S', h')) : WA p l e R s m args below meth c Q B o D ca h0 u z0 u0 (pc, L, S, h) := by
  unfold alI at hm
  split at hm
  · rename_i i a r
    cases hm
    simp only [allG, Bool.and_true, Bool.and_eq_true, Bool.or_eq_true, decide_eq_true_eq] at hg
    intro H locs ls hR hL hS
    show W p l e R s m args below meth c H locs _ _ Q (F0 m pc ls (.int i :: tV B o (.ref a) :: r.map (tV B o)))
    by_cases hb : kdA h a = 24
    · obtain ⟨ad, cell, e1, e2, e3, e4, e5, e6, e7⟩ := rdI F.2.2.2.2.2.2.1 hR hS (t := kdA h a) (ty := .boolean) rfl (by simp [hb])
      rw [e1]
      exact W.zald F.1 F.2.1 e2 e3 e4 (inB_sz hg.2 e5) (e7 _ (inB_lt hg.2)) rfl rfl hd (K H locs ls hR hL hS)
    · obtain ⟨ad, cell, e1, e2, e3, e4, e5, e6, e7⟩ := rdI F.2.2.2.2.2.2.1 hR hS (t := kdA h a) (ty := .byte) rfl (by rcases hg.1 with (hh | hh) | hh; exact Or.inr (Or.inr (Or.inl ⟨hh, rfl⟩)); exact absurd hh hb; exact Or.inr (Or.inr (Or.inr (Or.inl ⟨hh, rfl⟩))))
      rw [e1]
      exact W.bald F.1 F.2.1 e2 e3 e4 (inB_sz hg.2 e5) (e7 _ (inB_lt hg.2)) rfl rfl hd (K H locs ls hR hL hS)
  · cases hm
theorem sp_lald (F : FX B o D ca h0 u p s m args meth c) (hd : decode (cM u) pc = .ok (.laload, 1)) (hm : alJ (pc + 1) L S h = some (g, .inl (pc', L', S', h'))) (hg : allG g = true) (K : WA p l e R s m args below meth c Q B o D ca h0 u z0 u0 (pc', L', S', h')) : WA p l e R s m args below meth c Q B o D ca h0 u z0 u0 (pc, L, S, h) := by
  unfold alJ at hm
  split at hm
  · rename_i i a r
    cases hm
    simp only [allG, Bool.and_true, Bool.and_eq_true, decide_eq_true_eq] at hg
    intro H locs ls hR hL hS
    obtain ⟨-, e1, e2⟩ := own_arrJ hR hg.1
    show W p l e R s m args below meth c H locs _ _ Q (F0 m pc ls (.int i :: tV B o (.ref a) :: r.map (tV B o)))
    rw [e1]
    exact W.lald (v := .long (jvA h a (ix i))) F.1 F.2.1 e2 ((F.2.2.2.2.2.2.1.1.2 1 _ rfl).1 _ _) (fun q => by cases q) (by rw [vp_cell_l, arrV_size]; exact inB_in hg.2) (by rw [vp_cell_l, arrV_read _ _ (inB_lt hg.2)]) rfl rfl hd (K H locs ls hR hL hS)
  · cases hm
theorem tys_ref {t : Nat} (ht : 30 ≤ t ∧ t ≤ 33) : ∃ (t0 : Nat), (tysA ca)[t0]? = some (ca t, .object (RC (akC t))) ∧ akC t < 13 := by
  have h2 : t = 30 ∨ t = 31 ∨ t = 32 ∨ t = 33 := by omega
  rcases h2 with rfl | rfl | rfl | rfl
  · exact ⟨5, rfl, by decide⟩
  · exact ⟨6, rfl, by decide⟩
  · exact ⟨7, rfl, by decide⟩
  · exact ⟨8, rfl, by decide⟩
theorem sp_aald (F : FX B o D ca h0 u p s m args meth c) (hd : decode (cM u) pc = .ok (.aaload, 1)) (hm : alR (pc + 1) L S h = some (g, .inl (pc', L', S', h'))) (hg : allG g = true) (K : WA p l e R s m args below meth c Q B o D ca h0 u z0 u0 (pc', L', S', h')) : WA p l e R s m args below meth c Q B o D ca h0 u z0 u0 (pc, L, S, h) := by
  unfold alR at hm
  split at hm
  · rename_i i a r
    cases hm
    simp only [allG, Bool.and_true, Bool.and_eq_true, decide_eq_true_eq] at hg
    intro H locs ls hR hL hS
    obtain ⟨-, e1, e2⟩ := own_arrR hR (t := kdA h a) rfl ⟨hg.1, hg.2.1⟩
    obtain ⟨t0, ht0, -⟩ := tys_ref (ca := ca) ⟨hg.1, hg.2.1⟩
    show W p l e R s m args below meth c H locs _ _ Q (F0 m pc ls (.int i :: tV B o (.ref a) :: r.map (tV B o)))
    rw [e1]
    exact W.aald (v := va_rf (tN B o (rvA h a (ix i)))) F.1 F.2.1 e2 ((F.2.2.2.2.2.2.1.1.2 t0 _ ht0).1 _ _) rfl (fun q => by cases q) (by rw [vp_cell_q, arrV_size]; exact inB_in hg.2.2) (by rw [vp_cell_q, arrV_read _ _ (inB_lt hg.2.2)]) rfl rfl hd (K H locs ls hR hL hS)
  · cases hm
theorem sp_alen (F : FX B o D ca h0 u p s m args meth c) (hd : decode (cM u) pc = .ok (.arraylength, 1)) (hm : lnR (pc + 1) L S h = some (g, .inl (pc', L', S', h'))) (hg : allG g = true) (K : WA p l e R s m args below meth c Q B o D ca h0 u z0 u0 (pc', L', S', h')) : WA p l e R s m args below meth c Q B o D ca h0 u z0 u0 (pc, L, S, h) := by
  unfold lnR nxtG at hm
  split at hm
  · rename_i a r
    cases hm
    simp only [allG, isA, Bool.and_true, Bool.and_eq_true, Bool.or_eq_true, decide_eq_true_eq] at hg
    intro H locs ls hR hL hS
    show W p l e R s m args below meth c H locs _ _ Q (F0 m pc ls (tV B o (.ref a) :: r.map (tV B o)))
    have hK : W p l e R s m args below meth c H locs (szA h - z0) (usA h - u0) Q (F0 m (pc + 1) ls (.int (Int32.ofNat (lnA h a)) :: r.map (tV B o))) := by
      rw [← kI_nat]
      exact K H locs ls hR hL hS
    by_cases h21 : kdA h a = 21
    · obtain ⟨-, e1, e2⟩ := own_arrJ hR h21
      rw [e1]
      exact W.alen (n := Int32.ofNat (lnA h a)) F.1 F.2.1 e2 ((F.2.2.2.2.2.2.1.1.2 1 _ rfl).1 _ _) (by rw [vp_cell_l, arrV_size]) rfl rfl hd hK
    · by_cases hr : 30 ≤ kdA h a ∧ kdA h a ≤ 33
      · obtain ⟨-, e1, e2⟩ := own_arrR hR (t := kdA h a) rfl hr
        obtain ⟨t0, ht0, -⟩ := tys_ref (ca := ca) hr
        rw [e1]
        exact W.alen (n := Int32.ofNat (lnA h a)) F.1 F.2.1 e2 ((F.2.2.2.2.2.2.1.1.2 t0 _ ht0).1 _ _) (by rw [vp_cell_q, arrV_size]) rfl rfl hd hK
      · have h3 : ∃ ty, (kdA h a = 20 ∧ ty = FieldType.int) ∨ (kdA h a = 40 ∧ ty = .int) ∨ (kdA h a = 22 ∧ ty = .byte) ∨ (kdA h a = 42 ∧ ty = .byte) ∨ (kdA h a = 23 ∧ ty = .short) ∨ (kdA h a = 24 ∧ ty = .boolean) := by
          have h4 : kdA h a = 20 ∨ kdA h a = 40 ∨ kdA h a = 22 ∨ kdA h a = 42 ∨ kdA h a = 23 ∨ kdA h a = 24 := by omega
          rcases h4 with h4 | h4 | h4 | h4 | h4 | h4
          · exact ⟨.int, by simp [h4]⟩
          · exact ⟨.int, by simp [h4]⟩
          · exact ⟨.byte, by simp [h4]⟩
          · exact ⟨.byte, by simp [h4]⟩
          · exact ⟨.short, by simp [h4]⟩
          · exact ⟨.boolean, by simp [h4]⟩
        obtain ⟨ty, h3⟩ := h3
        obtain ⟨ad, cell, e1, e2, e3, e4, e5, e6, e7⟩ := rdI F.2.2.2.2.2.2.1 hR hS (t := kdA h a) (ty := ty) rfl h3
        rw [e1]
        exact W.alen (n := Int32.ofNat (lnA h a)) F.1 F.2.1 e2 e3 e6 rfl rfl hd hK
  · cases hm
end STP
end
section
/-! stores into arrays, new cells -/
section STP
variable {p : Program} {l : Launch} {e : Env} {R : Room} {s : State} {m : MethodId} {args : Array Value} {below : List Frame} {meth : Method} {c : Code} {Q : State → Prop} {B : Nat} {o : Nat → Nat} {D : va_G} {ca : Nat → ClassId} {h0 : AH} {u z0 u0 : Nat} {pc pc' : Nat} {L L' S S' : List Value} {h h' : AH} {g : List Bool} {H : Heap} {locs : List Loc}
/-- an own int-like array after a store -/
theorem HR_stI (hR : HR B o D ca h0 h H) {x t k : Nat} {v : Int32} {H' : Heap} (hk : kdA h x = t) (ht : t = 20 ∨ t = 22 ∨ t = 23 ∨ t = 24) (e1 : H'[B + (x - 1)]? = some ((vp_cell (ca t) (lnA h x, .inl (ivA h x))).setSlot k (.int v))) (e2 : H'.size = H.size) (e3 : ∀ q, q ≠ B + (x - 1) → H'[q]? = H[q]?) : HR B o D ca h0 (stI h x k v) H' := by
  obtain ⟨hx, -, -⟩ := own_arr hR hk ht
  refine HR_set hR hx rfl (fun _ => rfl) (fun _ => rfl) (fun y hy k => by rw [stI_i, if_neg (fun q => hy q.1)]) (fun _ _ _ => rfl) (fun _ _ _ => rfl) e2 e3 ?_
  unfold clE
  rw [show kdA (stI h x k v) x = t from hk, if_neg (by omega), if_neg (by omega), if_neg (by omega)]
  rw [cell_stI] at e1
  exact e1
theorem sp_iast (F : FX B o D ca h0 u p s m args meth c) (hd : decode (cM u) pc = .ok (.iastore, 1)) (hm : asI 20 (fun x => x) (pc + 1) L S h = some (g, .inl (pc', L', S', h'))) (hg : allG g = true) (K : WA p l e R s m args below meth c Q B o D ca h0 u z0 u0 (pc', L', S', h')) : WA p l e R s m args below meth c Q B o D ca h0 u z0 u0 (pc, L, S, h) := by
  unfold asI at hm
  split at hm
  · rename_i v i a r
    cases hm
    simp only [allG, Bool.and_true, Bool.and_eq_true, decide_eq_true_eq] at hg
    intro H locs ls hR hL hS
    obtain ⟨hx, e1, e2⟩ := own_arr hR hg.1 (Or.inl rfl)
    show W p l e R s m args below meth c H locs _ _ Q (F0 m pc ls (.int v :: .int i :: tV B o (.ref a) :: _))
    rw [e1]
    exact W.iast F.1 F.2.1 e2 ((F.2.2.2.2.2.2.1.1.2 0 _ rfl).1 _ _) (fun q => by cases q) (by rw [vp_cell_i, arrV_size]; exact inB_in hg.2) rfl rfl hd (fun H' g1 g2 g3 => K H' _ ls (HR_stI hR hg.1 (Or.inl rfl) g1 g2 g3) hL (hS.put g2 g3 (Nat.le_add_right _ _)))
  · cases hm
theorem sp_sast (F : FX B o D ca h0 u p s m args meth c) (hd : decode (cM u) pc = .ok (.sastore, 1)) (hm : asI 23 (fun x => x.toInt16.toInt32) (pc + 1) L S h = some (g, .inl (pc', L', S', h'))) (hg : allG g = true) (K : WA p l e R s m args below meth c Q B o D ca h0 u z0 u0 (pc', L', S', h')) : WA p l e R s m args below meth c Q B o D ca h0 u z0 u0 (pc, L, S, h) := by
  unfold asI at hm
  split at hm
  · rename_i v i a r
    cases hm
    simp only [allG, Bool.and_true, Bool.and_eq_true, decide_eq_true_eq] at hg
    intro H locs ls hR hL hS
    obtain ⟨hx, e1, e2⟩ := own_arr hR hg.1 (by omega)
    show W p l e R s m args below meth c H locs _ _ Q (F0 m pc ls (.int v :: .int i :: tV B o (.ref a) :: _))
    rw [e1]
    exact W.sast F.1 F.2.1 e2 ((F.2.2.2.2.2.2.1.1.2 3 _ rfl).1 _ _) (fun q => by cases q) (by rw [vp_cell_i, arrV_size]; exact inB_in hg.2) rfl rfl hd (fun H' g1 g2 g3 => K H' _ ls (HR_stI hR hg.1 (by omega) g1 g2 g3) hL (hS.put g2 g3 (Nat.le_add_right _ _)))
  · cases hm
theorem sp_bast (F : FX B o D ca h0 u p s m args meth c) (hd : decode (cM u) pc = .ok (.bastore, 1)) (hm : asB (pc + 1) L S h = some (g, .inl (pc', L', S', h'))) (hg : allG g = true) (K : WA p l e R s m args below meth c Q B o D ca h0 u z0 u0 (pc', L', S', h')) : WA p l e R s m args below meth c Q B o D ca h0 u z0 u0 (pc, L, S, h) := by
  unfold asB at hm
  split at hm
  · rename_i v i a r
    cases hm
    simp only [allG, Bool.and_true, Bool.and_eq_true, Bool.or_eq_true, decide_eq_true_eq] at hg
    intro H locs ls hR hL hS
    show W p l e R s m args below meth c H locs _ _ Q (F0 m pc ls (.int v :: .int i :: tV B o (.ref a) :: _))
    rcases hg.1 with hk | ⟨hk, hv⟩
    · obtain ⟨hx, e1, e2⟩ := own_arr hR hk (by omega)
      rw [e1]
      exact W.bast F.1 F.2.1 e2 ((F.2.2.2.2.2.2.1.1.2 2 _ rfl).1 _ _) (fun q => by cases q) (by rw [vp_cell_i, arrV_size]; exact inB_in hg.2) rfl rfl hd (fun H' g1 g2 g3 => K H' _ ls (HR_stI hR hk (by omega) g1 g2 g3) hL (hS.put g2 g3 (Nat.le_add_right _ _)))
    · obtain ⟨hx, e1, e2⟩ := own_arr hR hk (by omega)
      obtain ⟨n1, n2, n3⟩ := nar_bool hv
      rw [e1]
      refine W.zast F.1 F.2.1 e2 ((F.2.2.2.2.2.2.1.1.2 4 _ rfl).1 _ _) (fun q => by cases q) (by rw [vp_cell_i, arrV_size]; exact inB_in hg.2) rfl rfl hd (fun H' g1 g2 g3 => K H' _ ls (HR_stI hR hk (by omega) ?_ g2 g3) hL (hS.put g2 g3 (Nat.le_add_right _ _)))
      rw [n1] at g1
      rw [n3]
      exact g1
  · cases hm
theorem sp_last (F : FX B o D ca h0 u p s m args meth c) (hd : decode (cM u) pc = .ok (.lastore, 1)) (hm : asJ (pc + 1) L S h = some (g, .inl (pc', L', S', h'))) (hg : allG g = true) (K : WA p l e R s m args below meth c Q B o D ca h0 u z0 u0 (pc', L', S', h')) : WA p l e R s m args below meth c Q B o D ca h0 u z0 u0 (pc, L, S, h) := by
  unfold asJ at hm
  split at hm
  · rename_i v i a r
    cases hm
    simp only [allG, Bool.and_true, Bool.and_eq_true, decide_eq_true_eq] at hg
    intro H locs ls hR hL hS
    obtain ⟨hx, e1, e2⟩ := own_arrJ hR hg.1
    show W p l e R s m args below meth c H locs _ _ Q (F0 m pc ls (.long v :: .int i :: tV B o (.ref a) :: _))
    rw [e1]
    refine W.last F.1 F.2.1 e2 ((F.2.2.2.2.2.2.1.1.2 1 _ rfl).1 _ _) (fun q => by cases q) (by rw [vp_cell_l, arrV_size]; exact inB_in hg.2) rfl rfl hd (fun H' g1 g2 g3 => K H' _ ls ?_ hL (hS.put g2 g3 (Nat.le_add_right _ _)))
    refine HR_set hR hx rfl (fun _ => rfl) (fun _ => rfl) (fun _ _ _ => rfl) (fun y hy k => by rw [stJ_j, if_neg (fun q => hy q.1)]) (fun _ _ _ => rfl) g2 g3 ?_
    unfold clE
    rw [show kdA (stJ h a (ix i) v) a = 21 from hg.1, if_neg (by omega), if_pos rfl]
    rw [cell_stJ] at g1
    exact g1
  · cases hm
theorem sp_aast (F : FX B o D ca h0 u p s m args meth c) (hd : decode (cM u) pc = .ok (.aastore, 1)) (hm : asR (pc + 1) L S h = some (g, .inl (pc', L', S', h'))) (hg : allG g = true) (K : WA p l e R s m args below meth c Q B o D ca h0 u z0 u0 (pc', L', S', h')) : WA p l e R s m args below meth c Q B o D ca h0 u z0 u0 (pc, L, S, h) := by
  unfold asR at hm
  split at hm
  · rename_i v i a r
    cases hm
    simp only [allG, Bool.and_true, Bool.and_eq_true, decide_eq_true_eq] at hg
    intro H locs ls hR hL hS
    have hka : 30 ≤ kdA h a ∧ kdA h a ≤ 33 := by
      have h1 := hg.1
      have h2 := hg.2.1
      unfold akC at h1
      split at h1 <;> omega
    obtain ⟨hx, e1, e2⟩ := own_arrR hR (t := kdA h a) rfl hka
    obtain ⟨t0, ht0, hc13⟩ := tys_ref (ca := ca) hka
    obtain ⟨hxv, ev, hat⟩ := own_at hR (x := v) hg.1.symm hc13
    obtain ⟨r', hr', cellV, q1, q2, q3, -⟩ := hat
    have hC := F.2.2.2.2.2.2.1
    have hcls := (hC.1.1 (akC (kdA h a)) _ (vw_at hc13)).2
    obtain ⟨kA, comp, k1, k2, k3, -⟩ := (hC.1.2 t0 _ ht0).2
    have hcomp : comp = D.1 (akC (kdA h a)) := Option.some.inj (k3.symm.trans hcls.1)
    subst hcomp
    obtain ⟨kC, hkC, -⟩ := hcls.2
    show W p l e R s m args below meth c H locs _ _ Q (F0 m pc ls (tV B o (.ref v) :: .int i :: tV B o (.ref a) :: _))
    rw [e1, ev]
    refine W.aast F.1 F.2.1 e2 (fun q h => by cases h) (fun h => by cases h) k1 k2 rfl hkC ⟨fun q => inB_in hg.2.2 (Or.inl q), by rw [vp_cell_q, arrV_size]; exact inB_lt hg.2.2⟩ q1 (fun q h => by rw [q3] at h; cases h) (by rw [q2]; exact hkC) (by rw [q2]; exact va_assign hcls) rfl rfl hd (fun H' g1 g2 g3 => K H' _ ls ?_ hL (hS.put g2 g3 (Nat.le_add_right _ _)))
    refine HR_set hR hx rfl (fun _ => rfl) (fun _ => rfl) (fun _ _ _ => rfl) (fun _ _ _ => rfl) (fun y hy k => by rw [stR_r, if_neg (fun q => hy q.1)]) g2 g3 ?_
    unfold clE
    rw [show kdA (stR h a (ix i) v) a = kdA h a from rfl, if_neg (by omega), if_neg (by omega), if_pos (by omega)]
    have ev2 : Value.ref (B + (v - 1)) = va_rf (tN B o v) := ev.symm
    rw [ev2, cell_stR] at g1
    exact g1
  · cases hm
theorem new_ref (hsz : szA h + 1 < 1000000) : tV B o (.ref (szA h + 1)) = .ref (B + szA h) := by
  rw [tV_r B o (by omega), adA_own B o hsz]
  rfl
theorem def_fd {t : FieldType} (c k : Nat) (ht : tyKd t = fK c k) (hk : fK c k ≤ 3) (x : Nat) (hi : ivA h x k = 0) (hj : jvA h x k = 0) (hr : rvA h x k = 0) : defaultValue t = fdV B o h x c k := by
  unfold fdV
  split
  · rename_i h1
    rw [h1] at ht
    rw [ty_long ht, hj]
    rfl
  · rename_i h1
    rw [h1] at ht
    rw [hr]
    rcases ty_ref ht with ⟨n, rfl⟩ | ⟨n, rfl⟩ <;> rfl
  · rename_i h1 h2
    rw [hi]
    have h1' : fK c k ≠ 1 := h1
    have h2' : fK c k ≠ 2 := h2
    have h3 : tyKd t = 0 ∨ tyKd t = 3 := by omega
    rcases h3 with h3 | h3
    · rw [ty_int h3]; rfl
    · rw [ty_bool h3]; rfl
theorem fK_le : ∀ c, c < 13 → ∀ k, k < fN c → fK c k ≤ 3 := by decide +kernel
theorem inst_ok : ∀ c, c < 13 → Cond.instantiable (RC c) (fN c) ∈ lw_tbl ∧ Cond.initialized (RC c) ∈ lw_tbl := by decide +kernel
theorem nw_i (h : AH) (t n k : Nat) : ivA (nwA h t n) (szA h + 1) k = 0 := congrFun (show (if szA h + 1 = szA h + 1 then (fun _ => (0 : Int32)) else h.2.2.1 (szA h + 1)) = _ from if_pos rfl) k
theorem nw_j (h : AH) (t n k : Nat) : jvA (nwA h t n) (szA h + 1) k = 0 := congrFun (show (if szA h + 1 = szA h + 1 then (fun _ => (0 : Int64)) else h.2.2.2.1 (szA h + 1)) = _ from if_pos rfl) k
theorem nw_r (h : AH) (t n k : Nat) : rvA (nwA h t n) (szA h + 1) k = 0 := congrFun (show (if szA h + 1 = szA h + 1 then (fun _ => (0 : Nat)) else h.2.2.2.2.1 (szA h + 1)) = _ from if_pos rfl) k
theorem nw_k (h : AH) (t n : Nat) : kdA (nwA h t n) (szA h + 1) = t := show (if szA h + 1 = szA h + 1 then t else h.1 (szA h + 1)) = t from if_pos rfl
theorem nw_n (h : AH) (t n : Nat) : lnA (nwA h t n) (szA h + 1) = n := show (if szA h + 1 = szA h + 1 then n else h.2.1 (szA h + 1)) = n from if_pos rfl
theorem sp_new (F : FX B o D ca h0 u p s m args meth c) {i : Nat} (hd : decode (cM u) pc = .ok (.new i, 3)) (hm : nwR (owM u) i (pc + 3) L S h = some (g, .inl (pc', L', S', h'))) (hz0 : z0 ≤ szA h) (hu0 : u0 ≤ usA h) (hc : szA h' ≤ z0 + R.cells) (hs : usA h' ≤ u0 + R.slots) (hsz : szA h' < 1000000) (K : WA p l e R s m args below meth c Q B o D ca h0 u z0 u0 (pc', L', S', h')) : WA p l e R s m args below meth c Q B o D ca h0 u z0 u0 (pc, L, S, h) := by
  obtain ⟨hx, hb, hml, hown, hts, hin, hC, hB⟩ := F
  unfold nwR nxt at hm
  split at hm
  · rename_i cl hcT
    split at hm
    · rename_i hlt
      cases hm
      have hc13 : cl < 13 := Nat.le_of_ble_eq_true hlt
      obtain ⟨pp, hw⟩ := wC hcT
      unfold cWc at hw
      rw [if_neg (by omega), Bool.and_eq_true] at hw
      obtain ⟨hi1, hi2⟩ := inst_ok cl hc13
      change szA h + 1 ≤ z0 + R.cells at hc
      change usA h + fN cl ≤ u0 + R.slots at hs
      change szA h + 1 < 1000000 at hsz
      intro H locs ls hR hL hS
      have hKn := hC.1.1 cl _ (vw_at hc13)
      have hsize : H.size = B + szA h := hR.1
      refine W.newcK hx hb hown (hts _ (gd_of (inT_mem hw.1) rfl)) (hts _ (gd_of hi1 rfl)) (hts _ (gd_of hi2 rfl)) rfl hd (by show szA h - z0 + 1 ≤ R.cells; omega) (by show usA h - u0 + fN cl ≤ R.slots; omega) hKn.2.1 hsize (fun H' kC hkC e1 z1 o1 => ?_)
      have hHR : HR B o D ca h0 (nwA h cl (fN cl)) H' := by
        refine HR_new hR (Or.inl hc13) hsz (by rw [z1, hsize]) (fun q hq => o1 q (by omega)) ?_
        unfold clE
        rw [nw_k, if_pos hc13]
        refine ⟨_, vw_at hc13, (u_born (tyC cl) hts (hin_c hc13) hKn hkC e1 (tyC_ok hc13)).to (fun k hk => ?_)⟩
        rw [fdL_V hk]
        exact def_fd cl k (tyKd_ok cl hc13 k hk) (fK_le cl hc13 k hk) _ (nw_i _ _ _ _) (nw_j _ _ _ _) (nw_r _ _ _ _)
      have hK := K H' locs ls hHR hL ⟨Nat.le_trans hS.1 (by omega), fun q h1 h2 => (o1 q (by have := hS.1; omega)).trans (hS.2.1 q h1 h2), hS.2.2⟩
      simp only [List.map_cons, new_ref hsz] at hK
      refine W.cs ?_ ?_ hK
      · show szA h - z0 + 1 = szA h + 1 - z0; omega
      · show usA h - u0 + fN cl = usA h + fN cl - u0; omega
    · cases hm
  · cases hm
theorem sp_newaP (F : FX B o D ca h0 u p s m args meth c) {a : ArrayType} (hd : decode (cM u) pc = .ok (.newarray a, 2)) (hm : (match Nat.blt (aTk a) 34 with
    | true => nwP (aTk a) (pc + 2) L S h
    | false => none) = some (g, .inl (pc', L', S', h'))) (hg : allG g = true) (hz0 : z0 ≤ szA h) (hu0 : u0 ≤ usA h) (hc : szA h' ≤ z0 + R.cells) (hs : usA h' ≤ u0 + R.slots) (hsz : szA h' < 1000000) (K : WA p l e R s m args below meth c Q B o D ca h0 u z0 u0 (pc', L', S', h')) : WA p l e R s m args below meth c Q B o D ca h0 u z0 u0 (pc, L, S, h) := by
  obtain ⟨hx, hb, hml, hown, hts, hin, hC, hB⟩ := F
  split at hm
  · rename_i hlt
    unfold nwP nxtG at hm
    split at hm
    · rename_i n r
      cases hm
      simp only [allG, okN, Bool.and_true] at hg
      have hn := inB_in hg
      have hnl := inB_lt hg
      change szA h + 1 ≤ z0 + R.cells at hc
      change usA h + ix n ≤ u0 + R.slots at hs
      change szA h + 1 < 1000000 at hsz
      intro H locs ls hR hL hS
      have hsize : H.size = B + szA h := hR.1
      have hw : (Cond.arrayClass (newarray.typeOf a)).before args s = true := by
        refine hts _ (gd_of ?_ rfl)
        cases a <;> first | (exact absurd hlt (by decide)) | skip
        all_goals decide +kernel
      have hcb : componentBytes (newarray.typeOf a) ≤ 8 := by cases a <;> decide
      refine va_newaK hx hb hw rfl hd rfl (fun q => hn (Or.inl q)) (N := ix n) rfl ?_ (by show szA h - z0 + 1 ≤ R.cells; omega) (by show usA h - u0 + ix n ≤ R.slots; omega) hsize (fun H' cA e1 z1 o1 hAr hNm => ?_)
      · have : ix n * componentBytes (newarray.typeOf a) ≤ 1000000 * 8 := Nat.mul_le_mul (by omega) hcb
        omega
      · have hok : okK (aTk a) := by
          cases a <;> first | (exact absurd hlt (by decide)) | (exact Or.inr (Or.inl (by decide)))
        have hca : cA = ca (aTk a) := by
          have hK2 := hC.1.2
          cases a <;> first | (exact absurd hlt (by decide)) | skip
          · exact Option.some.inj (hNm.symm.trans (hK2 4 _ rfl).2)
          · exact Option.some.inj (hNm.symm.trans (hK2 2 _ rfl).2)
          · exact Option.some.inj (hNm.symm.trans (hK2 3 _ rfl).2)
          · exact Option.some.inj (hNm.symm.trans (hK2 0 _ rfl).2)
          · exact Option.some.inj (hNm.symm.trans (hK2 1 _ rfl).2)
        subst hca
        have hHR : HR B o D ca h0 (nwA h (aTk a) (ix n)) H' := by
          refine HR_new hR hok hsz (by rw [z1, hsize]) (fun q hq => o1 q (by omega)) ?_
          have hi : ivA (nwA h (aTk a) (ix n)) (szA h + 1) = fun _ => 0 := funext (nw_i _ _ _)
          have hj : jvA (nwA h (aTk a) (ix n)) (szA h + 1) = fun _ => 0 := funext (nw_j _ _ _)
          unfold clE
          rw [nw_k, nw_n, hi, hj]
          cases a <;> first | (exact absurd hlt (by decide)) | exact e1
        have hK := K H' locs ls hHR hL ⟨Nat.le_trans hS.1 (by omega), fun q h1 h2 => (o1 q (by have := hS.1; omega)).trans (hS.2.1 q h1 h2), hS.2.2⟩
        simp only [List.map_cons, new_ref hsz] at hK
        refine W.cs ?_ ?_ hK
        · show szA h - z0 + 1 = szA h + 1 - z0; omega
        · show usA h - u0 + ix n = usA h + ix n - u0; omega
    · cases hm
  · cases hm
end STP
end
section
/-! arrays of references, copies, Object's constructor, Math, constants, statics -/
theorem cpA_i (h : AH) (a b n x j : Nat) : ivA (cpA h a b n) x j = if x = b then (if j < n then ivA h a j else ivA h b j) else ivA h x j := by
  show (if x = b then (fun j => if j < n then ivA h a j else ivA h b j) else h.2.2.1 x) j = _
  by_cases e : x = b
  · rw [if_pos e, if_pos e]
  · rw [if_neg e, if_neg e]; rfl
theorem catS_le {S : List Value} (h : catS S = true) : (S.map fun v => v.category).sum ≤ 8 := of_decide_eq_true h
theorem cat_map (B : Nat) (o : Nat → Nat) (S : List Value) : ((S.map (tV B o)).map fun v => v.category).sum = (S.map fun v => v.category).sum := by
  rw [List.map_map]
  congr 1
  apply List.map_congr_left
  intro v _
  exact tV_cat B o v
section STP
variable {p : Program} {l : Launch} {e : Env} {R : Room} {s : State} {m : MethodId} {args : Array Value} {below : List Frame} {meth : Method} {c : Code} {Q : State → Prop} {B : Nat} {o : Nat → Nat} {D : va_G} {ca : Nat → ClassId} {h0 : AH} {u z0 u0 : Nat} {pc pc' : Nat} {L L' S S' : List Value} {h h' : AH} {g : List Bool} {H : Heap} {locs : List Loc}
theorem sp_anew (F : FX B o D ca h0 u p s m args meth c) {i : Nat} (hd : decode (cM u) pc = .ok (.anewarray i, 3)) (hm : nwQ (owM u) i (pc + 3) L S h = some (g, .inl (pc', L', S', h'))) (hg : allG g = true) (hz0 : z0 ≤ szA h) (hu0 : u0 ≤ usA h) (hc : szA h' ≤ z0 + R.cells) (hs : usA h' ≤ u0 + R.slots) (hsz : szA h' < 1000000) (K : WA p l e R s m args below meth c Q B o D ca h0 u z0 u0 (pc', L', S', h')) : WA p l e R s m args below meth c Q B o D ca h0 u z0 u0 (pc, L, S, h) := by
  obtain ⟨hx, hb, hml, hown, hts, hin, hC, hB⟩ := F
  unfold nwQ at hm
  split at hm
  · rename_i cl hcT
    split at hm
    · rename_i hlt
      unfold nwP nxtG at hm
      split at hm
      · rename_i n r
        cases hm
        simp only [allG, okN, Bool.and_true] at hg
        have hn := inB_in hg
        have hnl := inB_lt hg
        have hcl : cl = 5 ∨ cl = 10 ∨ cl = 8 ∨ cl = 3 := by
          have h1 : aOf cl < 34 := Nat.le_of_ble_eq_true hlt
          unfold aOf at h1
          split at h1 <;> omega
        obtain ⟨pp, hw⟩ := wC hcT
        unfold cWc at hw
        rw [if_neg (by omega), Bool.and_eq_true] at hw
        have hao : va_AO (RC cl) s := by
          obtain ⟨-, -, -, -, -, -, -, -, -, -, d1, d2, d3, d4⟩ := hC
          rcases hcl with rfl | rfl | rfl | rfl
          · exact d1
          · exact d2
          · exact d3
          · exact d4
        change szA h + 1 ≤ z0 + R.cells at hc
        change usA h + ix n ≤ u0 + R.slots at hs
        change szA h + 1 < 1000000 at hsz
        intro H locs ls hR hL hS
        have hsize : H.size = B + szA h := hR.1
        refine W.anew hx hb hown (hts _ (gd_of (inT_mem hw.1) rfl)) (va_AO.use hao) rfl hd rfl (fun q => hn (Or.inl q)) (by show ix n * 4 ≤ _; omega) (by show szA h - z0 + 1 ≤ R.cells; omega) (by show usA h - u0 + ix n ≤ R.slots; omega) (fun cA kA comp f1 f2 f3 f4 => ?_)
        generalize hH1 : H.push ({ cls := cA, slots := Array.replicate n.toNatClampNeg .null, vm := .none } : Cell) = H1
        have z1 : H1.size = H.size + 1 := by rw [← hH1, Array.size_push]
        have e1 : H1[H.size]? = some (arrV cA n.toNatClampNeg (fun _ => .null)) := by rw [← hH1, Array.getElem?_push_size, ← arrV_new]
        have o1 : ∀ q : Nat, q < H.size → H1[q]? = H[q]? := fun q hq => by rw [← hH1, Array.getElem?_push, if_neg (Nat.ne_of_lt hq)]
        have hca : cA = ca (aOf cl) := by
          have hK2 := hC.1.2
          rcases hcl with rfl | rfl | rfl | rfl
          · obtain ⟨_, _, -, -, -, h4⟩ := (hK2 5 _ rfl).2
            exact Option.some.inj (f1.symm.trans h4)
          · obtain ⟨_, _, -, -, -, h4⟩ := (hK2 6 _ rfl).2
            exact Option.some.inj (f1.symm.trans h4)
          · obtain ⟨_, _, -, -, -, h4⟩ := (hK2 7 _ rfl).2
            exact Option.some.inj (f1.symm.trans h4)
          · obtain ⟨_, _, -, -, -, h4⟩ := (hK2 8 _ rfl).2
            exact Option.some.inj (f1.symm.trans h4)
        subst hca
        have hok : 30 ≤ aOf cl ∧ aOf cl ≤ 33 := by rcases hcl with rfl | rfl | rfl | rfl <;> decide
        have hHR : HR B o D ca h0 (nwA h (aOf cl) (ix n)) H1 := by
          refine HR_new hR (Or.inr (Or.inr hok)) hsz z1 o1 ?_
          have hi : (fun j => tN B o (rvA (nwA h (aOf cl) (ix n)) (szA h + 1) j)) = fun _ => none := by
            funext j
            rw [nw_r]
            rfl
          unfold clE
          rw [nw_k, nw_n, hi, if_neg (by omega), if_neg (by omega), if_pos (by omega), ← hsize]
          exact e1
        have hK := K H1 locs ls hHR hL ⟨Nat.le_trans hS.1 (by omega), fun q h1 h2 => (o1 q (by have := hS.1; omega)).trans (hS.2.1 q h1 h2), hS.2.2⟩
        simp only [List.map_cons, new_ref hsz] at hK
        rw [hsize]
        refine W.cs ?_ ?_ hK
        · show szA h - z0 + 1 = szA h + 1 - z0; omega
        · show usA h - u0 + ix n = usA h + ix n - u0; omega
      · cases hm
    · cases hm
  · cases hm
theorem sp_oinit (F : FX B o D ca h0 u p s m args meth c) {i : Nat} {x : Nat} {r : List Value} (hd : decode (cM u) pc = .ok (.invokespecial i, 3)) (hmT : mT (owM u) i = some 9999) (hcat : catS r = true) (hf : 1 ≤ R.frames) (hlo : 50 ≤ R.locals) (hx0 : x ≠ 0) (K : WA p l e R s m args below meth c Q B o D ca h0 u z0 u0 (pc + 3, L, r, h)) : WA p l e R s m args below meth c Q B o D ca h0 u z0 u0 (pc, L, .ref x :: r, h) := by
  obtain ⟨hx, hb, hml, hown, hts, hin, hC, hB⟩ := F
  obtain ⟨pp, hw⟩ := wM hmT
  unfold mWc at hw
  rw [if_pos rfl] at hw
  intro H locs ls hR hL hS
  show W p l e R s m args below meth c H locs _ _ Q (F0 m pc ls (tV B o (.ref x) :: _))
  rw [tV_r B o hx0]
  refine W.objInit hx hb hown (hts _ (gd_of (inT_mem hw) rfl)) (hts _ (gd_of (w := .instanceMethod objectInit) (by decide +kernel) rfl)) (hts _ (gd_of (w := .code objectInit ⟨#[0xb1]⟩ 1 none) (by decide +kernel) rfl)) rfl (by rw [hml]; exact hL.1) rfl hd hf ?_ (K H locs ls hR hL hS)
  have h1 := catS_le hcat
  have h2 := cat_map B o r
  show 2 * 0 + ((r.map (tV B o)).map fun v => v.category).sum + 12 ≤ R.locals
  omega
theorem arrV_congr (cA : ClassId) (n : Nat) (f f' : Nat → Value) (h : ∀ j, j < n → f j = f' j) : arrV cA n f = arrV cA n f' := by
  unfold arrV
  congr 2
  funext j
  exact h j.val j.isLt
theorem sp_clone (F : FX B o D ca h0 u p s m args meth c) {i a : Nat} {r : List Value} (hd : decode (cM u) pc = .ok (.invokevirtual i, 3)) (hmT : mT (owM u) i = some 9998) (hcat : catS r = true) (hk : kdA h a = 20) (hf : 1 ≤ R.frames) (hlo : 50 ≤ R.locals) (hz0 : z0 ≤ szA h) (hu0 : u0 ≤ usA h) (hc : szA h + 1 ≤ z0 + R.cells) (hs : usA h + lnA h a ≤ u0 + R.slots) (hsz : szA h + 1 < 1000000)
    (K : WA p l e R s m args below meth c Q B o D ca h0 u z0 u0 (pc + 3, L, .ref (szA h + 1) :: r, cpA (nwA h 20 (lnA h a)) a (szA h + 1) (lnA h a))) : WA p l e R s m args below meth c Q B o D ca h0 u z0 u0 (pc, L, .ref a :: r, h) := by
  obtain ⟨hx, hb, hml, hown, hts, hin, hC, hB⟩ := F
  obtain ⟨pp, hw⟩ := wM hmT
  unfold mWc at hw
  rw [if_neg (by decide), if_pos rfl] at hw
  intro H locs ls hR hL hS
  obtain ⟨hxa, e1, hcell⟩ := own_arr hR hk (Or.inl rfl)
  have hsize : H.size = B + szA h := hR.1
  have hsz0 : (vp_cell (ca 20) (lnA h a, .inl (ivA h a))).slots.size = lnA h a := arrV_size _ _ _
  obtain ⟨c0, t0', f1, f2, f3⟩ := Cond.castable_spec (va_Nw.use (A := args) rfl hC.2.2.2.2.2.2.2.2.2.1)
  cases hC.2.1.symm.trans f1
  show W p l e R s m args below meth c H locs _ _ Q (F0 m pc ls (tV B o (.ref a) :: _))
  rw [e1]
  have hcs := catS_le hcat
  have hcm := cat_map B o r
  intro T hT X
  have hcellT : T.heap[B + (a - 1)]? = some (vp_cell (ca 20) (lnA h a, .inl (ivA h a))) := by rw [hT]; exact hcell
  obtain ⟨-, kA, hkA, comp, hkind⟩ := State.isArrayOf_alike X.warmed.alike ((hC.1.2 0 _ rfl).1 0 (fun _ => .null))
  obtain ⟨-, kS, hkS, compS, hkindS⟩ := (hC.1.2 0 _ rfl).1 0 (fun _ => .null)
  obtain ⟨vm', X', st⟩ := X.cloneArray hx hown (hts _ (gd_of (inT_mem hw) rfl)) (hts (.sameMethod "[I" "java/lang/Object" "clone" "()Ljava/lang/Object;") (gd_of (by decide +kernel) rfl)) (hts (.native ⟨"java/lang/Object", "clone", "()Ljava/lang/Object;"⟩) (gd_of (by decide +kernel) rfl)) (hts (.instanceMethod ⟨"java/lang/Object", "clone", "()Ljava/lang/Object;"⟩) (gd_of (by decide +kernel) rfl)) (hts (.selects "[I" ⟨"[I", "clone", "()Ljava/lang/Object;"⟩ ⟨"java/lang/Object", "clone", "()Ljava/lang/Object;"⟩) (gd_of (by decide +kernel) rfl)) (a := B + (a - 1)) (cell := vp_cell (ca 20) (lnA h a, .inl (ivA h a))) hcellT (fun k h => by cases h) (fun h => by cases h) hC.2.1 f2 f3
    (fun i v hv => by
      have hk' : T.vm.classes[ca 20]? = some kA := hkA
      have hv' : fits .int v = true := by
        rw [vp_cell_i] at hv
        obtain ⟨hi, hv2⟩ := Array.getElem?_eq_some_iff.mp hv
        rw [arrV_size] at hi
        rw [arrV_read _ _ hi] at hv
        cases hv
        rfl
      show State.fitsSlot _ (ca 20) _ _ _ = true
      simpa [State.fitsSlot, State.slotType?, hk', hkind] using hv')
    (g := F0 m pc ls (.ref (B + (a - 1)) :: r.map (tV B o))) rfl (by rw [hml]; exact hL.1) rfl (by rw [hb]; exact hd) hf (by show 2 * 0 + _ + 14 ≤ _; omega) (by show szA h - z0 + 1 ≤ R.cells; omega) (by rw [hsz0]; show usA h - u0 + lnA h a ≤ R.slots; omega) (hloader := Vm.clonesLoader_of_array hkS hkindS)
  rw [hsz0] at X'
  generalize hH1 : H.push (vp_cell (ca 20) (lnA h a, .inl (ivA h a))) = H1
  have z1 : H1.size = H.size + 1 := by rw [← hH1, Array.size_push]
  have g1 : H1[H.size]? = some (vp_cell (ca 20) (lnA h a, .inl (ivA h a))) := by rw [← hH1, Array.getElem?_push_size]
  have o1 : ∀ q : Nat, q < H.size → H1[q]? = H[q]? := fun q hq => by rw [← hH1, Array.getElem?_push, if_neg (Nat.ne_of_lt hq)]
  have hxa2 : a ≤ szA h := hxa.2
  have hne : a ≠ szA h + 1 := by omega
  have hHR : HR B o D ca h0 (cpA (nwA h 20 (lnA h a)) a (szA h + 1) (lnA h a)) H1 := by
    refine HR_newG hR (t := 20) (Or.inr (Or.inl (by omega))) hsz rfl (fun _ => rfl) (fun x hx => ?_) z1 o1 ?_
    · obtain ⟨q1, q2, q3, q4⟩ := nw_old h 20 (lnA h a) x hx
      refine ⟨q1, funext fun j => ?_, q3, q4⟩
      rw [cpA_i, if_neg hx, q2]
    · unfold clE
      rw [show kdA (cpA (nwA h 20 (lnA h a)) a (szA h + 1) (lnA h a)) (szA h + 1) = 20 from nw_k h 20 (lnA h a), show lnA (cpA (nwA h 20 (lnA h a)) a (szA h + 1) (lnA h a)) (szA h + 1) = lnA h a from nw_n h 20 (lnA h a), if_neg (by omega), if_neg (by omega), if_neg (by omega), ← hsize]
      show H1[H.size]? = some (vp_cell _ _)
      rw [g1, vp_cell_i, vp_cell_i]
      congr 1
      refine arrV_congr _ _ _ _ (fun j hj => ?_)
      rw [cpA_i, if_pos rfl, if_pos hj, (nw_old h 20 (lnA h a) a hne).2.1]
  have hK := K H1 locs ls hHR hL ⟨Nat.le_trans hS.1 (by omega), fun q h1 h2 => (o1 q (by have := hS.1; omega)).trans (hS.2.1 q h1 h2), hS.2.2⟩
  simp only [List.map_cons, new_ref hsz] at hK
  rw [← hsize] at hK
  have hK2 := W.cs (cells := szA h - z0 + 1) (slots := usA h - u0 + lnA h a) (by show szA h - z0 + 1 = szA h + 1 - z0; omega) (by show usA h - u0 + lnA h a = usA h + lnA h a - u0; omega) hK
  obtain ⟨t, b1, b2⟩ := hK2 _ (by rw [← hH1, ← hT]; rfl) X'
  exact ⟨t, st t (by rw [hT]; exact b1), b2⟩
end STP
end
section
/-! copies, Math, constants, statics, casts -/
section STP
variable {p : Program} {l : Launch} {e : Env} {R : Room} {s : State} {m : MethodId} {args : Array Value} {below : List Frame} {meth : Method} {c : Code} {Q : State → Prop} {B : Nat} {o : Nat → Nat} {D : va_G} {ca : Nat → ClassId} {h0 : AH} {u z0 u0 : Nat} {pc pc' : Nat} {L L' S S' : List Value} {h h' : AH} {g : List Bool} {H : Heap} {locs : List Loc}
theorem sp_copy (F : FX B o D ca h0 u p s m args meth c) {i a b : Nat} {n dp sp : Int32} {r : List Value} (hd : decode (cM u) pc = .ok (.invokestatic i, 3)) (hmT : mT (owM u) i = some 9997) (hdp : dp = 0) (hsp : sp = 0) (hka : kdA h a = 20) (hkb : kdA h b = 20) (hn : ¬ n < 0) (hna : ix n ≤ lnA h a) (hnb : ix n ≤ lnA h b) (hab : a ≠ b) (hcat : catS r = true) (hf : 1 ≤ R.frames) (hlo : 50 ≤ R.locals)
    (K : WA p l e R s m args below meth c Q B o D ca h0 u z0 u0 (pc + 3, L, r, cpA h a b (ix n))) : WA p l e R s m args below meth c Q B o D ca h0 u z0 u0 (pc, L, .int n :: .int dp :: .ref b :: .int sp :: .ref a :: r, h) := by
  obtain ⟨hx, hb, hml, hown, hts, hin, hC, hB⟩ := F
  subst hdp; subst hsp
  obtain ⟨pp, hw⟩ := wM hmT
  unfold mWc at hw
  rw [if_neg (by decide), if_neg (by decide), if_pos rfl] at hw
  intro H locs ls hR hL hS
  obtain ⟨hxa, e1, hca⟩ := own_arr hR hka (Or.inl rfl)
  obtain ⟨hxb, e2, hcb⟩ := own_arr hR hkb (Or.inl rfl)
  show W p l e R s m args below meth c H locs _ _ Q (F0 m pc ls (.int n :: .int 0 :: tV B o (.ref b) :: .int 0 :: tV B o (.ref a) :: _))
  rw [e1, e2]
  have hcs := catS_le hcat
  have hcm := cat_map B o r
  have nn : ∀ z : Int32, ¬ z < 0 → z.toInt = (z.toNatClampNeg : Int) := by
    intro z hz
    have hz0 : (0 : Int) ≤ z.toInt := by
      have := Int32.not_lt.mp hz
      simpa using Int32.le_iff_toInt_le.mp this
    show z.toInt = ((z.toInt.toNat : Nat) : Int)
    omega
  have z0i : ¬ (0 : Int32) < 0 := by decide
  have hna' : n.toNatClampNeg ≤ lnA h a := hna
  have hnb' : n.toNatClampNeg ≤ lnA h b := hnb
  have hnw : nativeFrameWords "java/lang/System" "arraycopy" 5 ≤ 20 := by decide +kernel
  have z0n : (0 : Int32).toNatClampNeg = 0 := by decide
  intro T hT X
  obtain ⟨-, k0, hk0, cm0, hkk0⟩ := (hC.1.2 0 _ rfl).1 (lnA h a) (fun j => .int (ivA h a j))
  obtain ⟨-, k1, hk1, cm1, hkk1⟩ := (hC.1.2 0 _ rfl).1 (lnA h b) (fun j => .int (ivA h b j))
  obtain ⟨vm', X', step⟩ := X.arraycopy hx hown (hts _ (gd_of (inT_mem hw) rfl)) (hts (.native arraycopyName) (gd_of (by decide +kernel) rfl)) (hts (.static arraycopyName) (gd_of (by decide +kernel) rfl)) (hts (.initialized "java/lang/System") (gd_of (by decide +kernel) rfl)) (src := B + (a - 1)) (dst := B + (b - 1)) (cs := vp_cell (ca 20) (lnA h a, .inl (ivA h a))) (cd := vp_cell (ca 20) (lnA h b, .inl (ivA h b))) (srcPos := 0) (destPos := 0) (n := n) (by rw [hT]; exact hca) (by rw [hT]; exact hcb)
    (fun _ h => by cases h) (fun _ h => by cases h) (fun h => by cases h) (fun h => by cases h) hk0 hk1 hkk0 hkk1 (by simp [refKind]) z0i z0i hn
    (by rw [nn 0 z0i, nn n hn, z0n]; show ¬ _ > ((arrV (ca 20) (lnA h a) (fun j => .int (ivA h a j))).slots.size : Int); rw [arrV_size]; omega)
    (by rw [nn 0 z0i, nn n hn, z0n]; show ¬ _ > ((arrV (ca 20) (lnA h b) (fun j => .int (ivA h b j))).slots.size : Int); rw [arrV_size]; omega)
    (fun vm₁ _ i hi => by
      have e : (vp_cell (ca 20) (lnA h a, .inl (ivA h a))).slots.getD ((0 : Int32).toNatClampNeg + i) .null = .int (ivA h a ((0 : Int32).toNatClampNeg + i)) := by
        show (arrV (ca 20) (lnA h a) (fun j => .int (ivA h a j))).slots.getD _ _ = _
        rw [Array.getD_eq_getD_getElem?, arrV_read _ _ (by rw [z0n]; omega)]
        rfl
      refine ⟨?_, ?_⟩
      · rw [e]
        rfl
      · rw [e]
        exact trivial)
    (g := F0 m pc ls (.int n :: .int 0 :: .ref (B + (b - 1)) :: .int 0 :: .ref (B + (a - 1)) :: r.map (tV B o))) rfl (by rw [hml]; exact hL.1) (rest := r.map (tV B o)) rfl (by rw [hb]; exact hd) hf (by show 2 * 0 + _ + _ ≤ _; omega)
  have e3 : copied (vp_cell (ca 20) (lnA h a, .inl (ivA h a))) (vp_cell (ca 20) (lnA h b, .inl (ivA h b))) 0 0 n = vp_cell (ca 20) (lnA h b, .inl (va_cpy (ivA h a) (ivA h b) 0 0 (ix n))) := va_copied (fun z => .int z) (ca 20) (ca 20) (ivA h a) (ivA h b) (by rw [z0n]; omega)
  rw [e3] at X' step
  generalize hH1 : H.setIfInBounds (B + (b - 1)) (vp_cell (ca 20) (lnA h b, .inl (va_cpy (ivA h a) (ivA h b) 0 0 (ix n)))) = H1
  have hheap : ((T.setVm vm').setCell (B + (b - 1)) (vp_cell (ca 20) (lnA h b, .inl (va_cpy (ivA h a) (ivA h b) 0 0 (ix n))))).heap = H1 := by rw [← hH1, ← hT]; rfl
  have hlt : B + (b - 1) < H.size := (Array.getElem?_eq_some_iff.mp hcb).1
  have g1 : H1[B + (b - 1)]? = some (vp_cell (ca 20) (lnA h b, .inl (va_cpy (ivA h a) (ivA h b) 0 0 (ix n)))) := by rw [← hH1]; simp [Array.getElem?_setIfInBounds, hlt]
  have g2 : H1.size = H.size := by rw [← hH1]; simp
  have g3 : ∀ q : Nat, q ≠ B + (b - 1) → H1[q]? = H[q]? := fun q hq => by rw [← hH1]; simp [Array.getElem?_setIfInBounds, Ne.symm hq]
  have hHR : HR B o D ca h0 (cpA h a b (ix n)) H1 := by
    refine HR_set hR hxb rfl (fun _ => rfl) (fun _ => rfl) (fun y hy k => by rw [cpA_i, if_neg hy]) (fun _ _ _ => rfl) (fun _ _ _ => rfl) g2 g3 ?_
    unfold clE
    rw [show kdA (cpA h a b (ix n)) b = 20 from hkb, if_neg (by omega), if_neg (by omega), if_neg (by omega)]
    show H1[_]? = some (vp_cell _ _)
    rw [g1]
    have e4 : ivA (cpA h a b (ix n)) b = va_cpy (ivA h a) (ivA h b) 0 0 (ix n) := by
      funext j
      rw [cpA_i, if_pos rfl]
      unfold va_cpy
      by_cases hj : j < ix n
      · rw [if_pos hj, if_pos ⟨Nat.zero_le _, by omega⟩]
        congr 1
        omega
      · rw [if_neg hj, if_neg (fun q => hj (by omega))]
    rw [e4]
    rfl
  obtain ⟨t, b1, b2⟩ := K H1 _ ls hHR hL ⟨by rw [g2]; exact hS.1, fun q q1 q2 => by
      rw [g3 q (fun e => q2 (by rw [e]; exact Nat.le_add_right _ _))]
      exact hS.2.1 q q1 q2, fun q hq => by
      rcases List.mem_append.mp hq with h | h
      · exact hS.2.2 q h
      · obtain ⟨z, -, hz⟩ := List.mem_map.mp h
        rw [← hz]
        exact Nat.le_add_right _ _⟩ _ hheap X'
  exact ⟨t, step t b1, b2⟩
theorem sp_gsR (F : FX B o D ca h0 u p s m args meth c) {i : Nat} (hd : decode (cM u) pc = .ok (.getstatic i, 3)) (hm : gsR (owM u) i (pc + 3) L S h = some (g, .inl (pc', L', S', h'))) (K : WA p l e R s m args below meth c Q B o D ca h0 u z0 u0 (pc', L', S', h')) : WA p l e R s m args below meth c Q B o D ca h0 u z0 u0 (pc, L, S, h) := by
  obtain ⟨hx, hb, hml, hown, hts, hin, hC, hB⟩ := F
  unfold gsR nxt at hm
  split at hm
  · rename_i hgT
    cases hm
    obtain ⟨pp, hw⟩ := wG hgT
    unfold gWc at hw
    rw [if_pos rfl] at hw
    intro H locs ls hR hL hS
    have hK := K H locs ls hR hL hS
    rw [show rvA h 1000009 0 = rvA h0 1000009 0 from (hR.2.2.2 1000009 (by omega)).2.2.2 0] at hK
    exact va_gets hx hb hC.2.2.2.2.2.2.1 hS hown (hts _ (gd_of (inT_mem hw) rfl)) (fun _ h => h) hd hK
  · rename_i hgT
    cases hm
    obtain ⟨pp, hw⟩ := wG hgT
    unfold gWc at hw
    rw [if_neg (by decide), if_pos rfl] at hw
    intro H locs ls hR hL hS
    have hK := K H locs ls hR hL hS
    rw [show ivA h 1000009 1 = ivA h0 1000009 1 from (hR.2.2.2 1000009 (by omega)).2.2.1 1] at hK
    exact va_gets hx hb hC.2.2.2.2.2.1 hS hown (hts _ (gd_of (inT_mem hw) rfl)) (fun _ h => h) hd hK
  · cases hm
end STP
end
section
/-! one step of the small machine, as a step of the real one -/
theorem bip8 {z : Int} (h1 : -128 ≤ z) (h2 : z ≤ 127) : (Int8.ofInt z).toInt32 = Int32.ofInt z := by
  apply Int32.toInt_inj.mp
  rw [Int8.toInt_toInt32, Int8.toInt_ofInt_of_le (by omega) (by omega), Int32.toInt_ofInt_of_le (by omega) (by omega)]
theorem bip16 {z : Int} (h1 : -32768 ≤ z) (h2 : z ≤ 32767) : (Int16.ofInt z).toInt32 = Int32.ofInt z := by
  apply Int32.toInt_inj.mp
  rw [Int16.toInt_toInt32, Int16.toInt_ofInt_of_le (by omega) (by omega), Int32.toInt_ofInt_of_le (by omega) (by omega)]
section STP
variable {p : Program} {l : Launch} {e : Env} {R : Room} {s : State} {m : MethodId} {args : Array Value} {below : List Frame} {meth : Method} {c : Code} {Q : State → Prop} {B : Nat} {o : Nat → Nat} {D : va_G} {ca : Nat → ClassId} {h0 : AH} {u z0 u0 : Nat} {pc pc' : Nat} {L L' S S' : List Value} {h h' : AH} {g : List Bool}
theorem sp_inJ {z lo hi : Int} {n : Nat} (row : lo ≤ z → z ≤ hi → ∀ (H : Heap) (locs : List Loc) (ls : Array Slot) (cells slots : Nat) (rest : List Value), W p l e R s m args below meth c H locs cells slots Q (F0 m n ls (.int (kI z) :: rest)) → W p l e R s m args below meth c H locs cells slots Q (F0 m pc ls rest))
    (hm : inJ z lo hi n L S h = some (g, .inl (pc', L', S', h'))) (K : WA p l e R s m args below meth c Q B o D ca h0 u z0 u0 (pc', L', S', h')) : WA p l e R s m args below meth c Q B o D ca h0 u z0 u0 (pc, L, S, h) := by
  unfold inJ nxt at hm
  split at hm
  · rename_i h1 h2
    cases hm
    intro H locs ls hR hL hS
    exact row (of_decide_eq_true h1) (of_decide_eq_true h2) _ _ _ _ _ _ (K H locs ls hR hL hS)
  · cases hm
theorem cat_room {r : List Value} {n : Nat} (hcat : catS r = true) (h : n ≤ 20) (hlo : 50 ≤ R.locals) : ((r.map (tV B o)).map fun v => v.category).sum + n ≤ R.locals := by
  rw [cat_map]
  have := catS_le hcat
  omega
theorem sp_m_abs (F : FX B o D ca h0 u p s m args meth c) {i : Nat} {x : Int32} {r : List Value} (hd : decode (cM u) pc = .ok (.invokestatic i, 3)) (hmT : mT (owM u) i = some 9991) (hcat : catS r = true) (hf : 1 ≤ R.frames) (hlo : 50 ≤ R.locals) (hc : szA h - z0 ≤ R.cells) (hs : usA h - u0 ≤ R.slots) (K : WA p l e R s m args below meth c Q B o D ca h0 u z0 u0 (pc + 3, L, .int (if 0 ≤ x then x else 0 - x) :: r, h)) : WA p l e R s m args below meth c Q B o D ca h0 u z0 u0 (pc, L, .int x :: r, h) := by
  obtain ⟨hx, hb, hml, hown, hts, hin, hC, hB⟩ := F
  obtain ⟨pp, hw⟩ := wM hmT
  unfold mWc at hw
  simp only [if_neg (show (9991 : Nat) ≠ 9999 by decide), if_neg (show (9991 : Nat) ≠ 9998 by decide), if_neg (show (9991 : Nat) ≠ 9997 by decide), if_neg (show (9991 : Nat) ≠ 9990 by decide), if_true] at hw
  intro H locs ls hR hL hS
  exact va_mabs hx hb (by rw [hml]; exact hL.1.symm) hown (hts _ (gd_of (inT_mem hw) rfl)) (hts _ (gd_of (w := .static Lib.Math.abs.name) (by decide +kernel) rfl)) (hts _ (gd_of (w := .initialized "java/lang/Math") (by decide +kernel) rfl)) (hts _ (gd_of (w := .code Lib.Math.abs.name Lib.Math.abs.code 1 (some .int)) (by decide +kernel) rfl)) hf (cat_room hcat (by omega) hlo) hc hs hd (K H locs ls hR hL hS)
theorem sp_m_max (F : FX B o D ca h0 u p s m args meth c) {i : Nat} {x y : Int32} {r : List Value} (hd : decode (cM u) pc = .ok (.invokestatic i, 3)) (hmT : mT (owM u) i = some 9992) (hcat : catS r = true) (hf : 1 ≤ R.frames) (hlo : 50 ≤ R.locals) (hc : szA h - z0 ≤ R.cells) (hs : usA h - u0 ≤ R.slots) (K : WA p l e R s m args below meth c Q B o D ca h0 u z0 u0 (pc + 3, L, .int (if x < y then y else x) :: r, h)) : WA p l e R s m args below meth c Q B o D ca h0 u z0 u0 (pc, L, .int y :: .int x :: r, h) := by
  obtain ⟨hx, hb, hml, hown, hts, hin, hC, hB⟩ := F
  obtain ⟨pp, hw⟩ := wM hmT
  unfold mWc at hw
  simp only [if_neg (show (9992 : Nat) ≠ 9999 by decide), if_neg (show (9992 : Nat) ≠ 9998 by decide), if_neg (show (9992 : Nat) ≠ 9997 by decide), if_neg (show (9992 : Nat) ≠ 9990 by decide), if_neg (show (9992 : Nat) ≠ 9991 by decide), if_true] at hw
  intro H locs ls hR hL hS
  exact va_mmax hx hb (by rw [hml]; exact hL.1.symm) hown (hts _ (gd_of (inT_mem hw) rfl)) (hts _ (gd_of (w := .static Lib.Math.max.name) (by decide +kernel) rfl)) (hts _ (gd_of (w := .initialized "java/lang/Math") (by decide +kernel) rfl)) (hts _ (gd_of (w := .code Lib.Math.max.name Lib.Math.max.code 2 (some .int)) (by decide +kernel) rfl)) hf (cat_room hcat (by omega) hlo) hc hs hd (K H locs ls hR hL hS)
theorem sp_m_maxJ (F : FX B o D ca h0 u p s m args meth c) {i : Nat} {x y : Int64} {r : List Value} (hd : decode (cM u) pc = .ok (.invokestatic i, 3)) (hmT : mT (owM u) i = some 9993) (hcat : catS r = true) (hf : 1 ≤ R.frames) (hlo : 50 ≤ R.locals) (hc : szA h - z0 ≤ R.cells) (hs : usA h - u0 ≤ R.slots) (K : WA p l e R s m args below meth c Q B o D ca h0 u z0 u0 (pc + 3, L, .long (if y < x then x else y) :: r, h)) : WA p l e R s m args below meth c Q B o D ca h0 u z0 u0 (pc, L, .long y :: .long x :: r, h) := by
  obtain ⟨hx, hb, hml, hown, hts, hin, hC, hB⟩ := F
  obtain ⟨pp, hw⟩ := wM hmT
  unfold mWc at hw
  simp only [if_neg (show (9993 : Nat) ≠ 9999 by decide), if_neg (show (9993 : Nat) ≠ 9998 by decide), if_neg (show (9993 : Nat) ≠ 9997 by decide), if_neg (show (9993 : Nat) ≠ 9990 by decide), if_neg (show (9993 : Nat) ≠ 9991 by decide), if_neg (show (9993 : Nat) ≠ 9992 by decide), if_true] at hw
  intro H locs ls hR hL hS
  exact va_mmax_long hx hb (by rw [hml]; exact hL.1.symm) hown (hts _ (gd_of (inT_mem hw) rfl)) (hts _ (gd_of (w := .static Lib.MathLoose.max_long.x) (by decide +kernel) rfl)) (hts _ (gd_of (w := .initialized "java/lang/Math") (by decide +kernel) rfl)) (hts _ (gd_of (w := .code Lib.MathLoose.max_long.x Lib.MathLoose.max_long.code 4 (some .long)) (by decide +kernel) rfl)) hf (cat_room hcat (by omega) hlo) hc hs hd (K H locs ls hR hL hS)
theorem sp_m_min (F : FX B o D ca h0 u p s m args meth c) {i : Nat} {x y : Int32} {r : List Value} (hd : decode (cM u) pc = .ok (.invokestatic i, 3)) (hmT : mT (owM u) i = some 9994) (hcat : catS r = true) (hf : 1 ≤ R.frames) (hlo : 50 ≤ R.locals) (hc : szA h - z0 ≤ R.cells) (hs : usA h - u0 ≤ R.slots) (K : WA p l e R s m args below meth c Q B o D ca h0 u z0 u0 (pc + 3, L, .int (if y < x then y else x) :: r, h)) : WA p l e R s m args below meth c Q B o D ca h0 u z0 u0 (pc, L, .int y :: .int x :: r, h) := by
  obtain ⟨hx, hb, hml, hown, hts, hin, hC, hB⟩ := F
  obtain ⟨pp, hw⟩ := wM hmT
  unfold mWc at hw
  simp only [if_neg (show (9994 : Nat) ≠ 9999 by decide), if_neg (show (9994 : Nat) ≠ 9998 by decide), if_neg (show (9994 : Nat) ≠ 9997 by decide), if_neg (show (9994 : Nat) ≠ 9990 by decide), if_neg (show (9994 : Nat) ≠ 9991 by decide), if_neg (show (9994 : Nat) ≠ 9992 by decide), if_neg (show (9994 : Nat) ≠ 9993 by decide), if_true] at hw
  intro H locs ls hR hL hS
  exact va_mmin hx hb (by rw [hml]; exact hL.1.symm) hown (hts _ (gd_of (inT_mem hw) rfl)) (hts _ (gd_of (w := .static Lib.Math.min.name) (by decide +kernel) rfl)) (hts _ (gd_of (w := .initialized "java/lang/Math") (by decide +kernel) rfl)) (hts _ (gd_of (w := .code Lib.Math.min.name Lib.Math.min.code 2 (some .int)) (by decide +kernel) rfl)) hf (cat_room hcat (by omega) hlo) hc hs hd (K H locs ls hR hL hS)
theorem sp_m_minJ (F : FX B o D ca h0 u p s m args meth c) {i : Nat} {x y : Int64} {r : List Value} (hd : decode (cM u) pc = .ok (.invokestatic i, 3)) (hmT : mT (owM u) i = some 9995) (hcat : catS r = true) (hf : 1 ≤ R.frames) (hlo : 50 ≤ R.locals) (hc : szA h - z0 ≤ R.cells) (hs : usA h - u0 ≤ R.slots) (K : WA p l e R s m args below meth c Q B o D ca h0 u z0 u0 (pc + 3, L, .long (if y < x then y else x) :: r, h)) : WA p l e R s m args below meth c Q B o D ca h0 u z0 u0 (pc, L, .long y :: .long x :: r, h) := by
  obtain ⟨hx, hb, hml, hown, hts, hin, hC, hB⟩ := F
  obtain ⟨pp, hw⟩ := wM hmT
  unfold mWc at hw
  simp only [if_neg (show (9995 : Nat) ≠ 9999 by decide), if_neg (show (9995 : Nat) ≠ 9998 by decide), if_neg (show (9995 : Nat) ≠ 9997 by decide), if_neg (show (9995 : Nat) ≠ 9990 by decide), if_neg (show (9995 : Nat) ≠ 9991 by decide), if_neg (show (9995 : Nat) ≠ 9992 by decide), if_neg (show (9995 : Nat) ≠ 9993 by decide), if_neg (show (9995 : Nat) ≠ 9994 by decide), if_true] at hw
  intro H locs ls hR hL hS
  exact va_mmin_long hx hb (by rw [hml]; exact hL.1.symm) hown (hts _ (gd_of (inT_mem hw) rfl)) (hts _ (gd_of (w := .static Lib.MathLoose.min_long.x) (by decide +kernel) rfl)) (hts _ (gd_of (w := .initialized "java/lang/Math") (by decide +kernel) rfl)) (hts _ (gd_of (w := .code Lib.MathLoose.min_long.x Lib.MathLoose.min_long.code 4 (some .long)) (by decide +kernel) rfl)) hf (cat_room hcat (by omega) hlo) hc hs hd (K H locs ls hR hL hS)
/-- Math.floorMod, as a row -/
def FMrow (p : Program) (l : Launch) (e : Env) (R : Room) (s : State) (m : MethodId) (args : Array Value) (below : List Frame) (meth : Method) (c : Code) (Q : State → Prop) (u : Nat) : Prop :=
  ∀ (pc i : Nat) (H : Heap) (locs : List Loc) (ls : Array Slot) (cells slots : Nat) (x y : Int32) (rest : List Value), decode (cM u) pc = .ok (.invokestatic i, 3) → mT (owM u) i = some 9990 → ¬ y = 0 → ls.size = mxM u → (rest.map fun v => v.category).sum ≤ 8 → cells ≤ R.cells → slots ≤ R.slots → W p l e R s m args below meth c H locs cells slots Q (F0 m (pc + 3) ls (.int (fmF x y) :: rest)) → W p l e R s m args below meth c H locs cells slots Q (F0 m pc ls (.int y :: .int x :: rest))
theorem sp_ins (F : FX B o D ca h0 u p s m args meth c) (hFM : FMrow p l e R s m args below meth c Q u) {i : Nat} (hd : decode (cM u) pc = .ok (.invokestatic i, 3)) (hm : ins (owM u) i (pc + 3) L S h = some (g, .inl (pc', L', S', h'))) (hg : allG g = true) (hf : 1 ≤ R.frames) (hlo : 50 ≤ R.locals) (hc : szA h - z0 ≤ R.cells) (hs : usA h - u0 ≤ R.slots) (K : WA p l e R s m args below meth c Q B o D ca h0 u z0 u0 (pc', L', S', h')) : WA p l e R s m args below meth c Q B o D ca h0 u z0 u0 (pc, L, S, h) := by
  unfold ins at hm
  split at hm
  · rename_i hmT
    split at hm
    · cases hm
      simp only [allG, Bool.and_true, Bool.and_eq_true, Bool.not_eq_true', decide_eq_true_eq, decide_eq_false_iff_not] at hg
      obtain ⟨g1, g2, g3, g4, g5, g6, g7, g8, g9⟩ := hg
      exact sp_copy F hd hmT g1 g2 g3 g4 g5 g6 g7 g8 g9 hf hlo K
    · cases hm
  · rename_i hmT
    split at hm
    · split at hm
      · rename_i hcat
        unfold nxtG at hm
        cases hm
        simp only [allG, Bool.and_true, Bool.not_eq_true', decide_eq_false_iff_not] at hg
        intro H locs ls hR hL hS
        exact hFM pc i H locs ls _ _ _ _ _ hd hmT hg hL.1 (by rw [cat_map]; exact catS_le hcat) hc hs (K H locs ls hR hL hS)
      · cases hm
    · cases hm
  · rename_i hmT
    split at hm
    · split at hm
      · rename_i hcat
        unfold nxt at hm
        cases hm
        exact sp_m_abs F hd hmT hcat hf hlo hc hs K
      · cases hm
    · cases hm
  · rename_i hmT
    unfold mthI at hm
    split at hm
    · split at hm
      · rename_i hcat
        unfold nxt at hm
        cases hm
        exact sp_m_max F hd hmT hcat hf hlo hc hs K
      · cases hm
    · cases hm
  · rename_i hmT
    unfold mthJ at hm
    split at hm
    · split at hm
      · rename_i hcat
        unfold nxt at hm
        cases hm
        exact sp_m_maxJ F hd hmT hcat hf hlo hc hs K
      · cases hm
    · cases hm
  · rename_i hmT
    unfold mthI at hm
    split at hm
    · split at hm
      · rename_i hcat
        unfold nxt at hm
        cases hm
        exact sp_m_min F hd hmT hcat hf hlo hc hs K
      · cases hm
    · cases hm
  · rename_i hmT
    unfold mthJ at hm
    split at hm
    · split at hm
      · rename_i hcat
        unfold nxt at hm
        cases hm
        exact sp_m_minJ F hd hmT hcat hf hlo hc hs K
      · cases hm
    · cases hm
  · split at hm
    · unfold cll at hm
      split at hm <;> cases hm
    · cases hm
  · cases hm
set_option maxHeartbeats 4000000 in
theorem step_next (F : FX B o D ca h0 u p s m args meth c) (hFM : FMrow p l e R s m args below meth c Q u) {i : Instr} {k : Nat} (hd : decode (cM u) pc = .ok (i, k)) (hk : okLen i k = true) (hq : ∀ j, i = .putfield j → ∀ f, fT (owM u) j = some f → f / 64 < 13 ∧ ((TC (f / 64) (f % 64)).2.2.2 = true → kdM u = 2 ∧ owM u = f / 64 ∧ (TC (f / 64) (f % 64)).1 = RC (f / 64)))
    (hm : mstep (owM u) (rtM u) i pc k L S h = some (g, .inl (pc', L', S', h'))) (hg : allG g = true) (hz0 : z0 ≤ szA h) (hu0 : u0 ≤ usA h) (hc : szA h' ≤ z0 + R.cells) (hs : usA h' ≤ u0 + R.slots) (hsz : szA h' < 1000000) (hf : 1 ≤ R.frames) (hlo : 50 ≤ R.locals)
    (K : WA p l e R s m args below meth c Q B o D ca h0 u z0 u0 (pc', L', S', h')) : WA p l e R s m args below meth c Q B o D ca h0 u z0 u0 (pc, L, S, h) := by
  obtain ⟨hx, hb, hml, hown, hts, hin, hC, hB⟩ := id F
  have hmono := mstep_sz hm
  change szA h ≤ szA h' ∧ usA h ≤ usA h' at hmono
  cases i
  case iadd =>
    obtain rfl : k = 1 := eq_of_beq hk
    exact sp_bI (fun _ _ _ _ _ _ _ _ kk => lv_iadd hx hb hd kk) hm K
  case isub =>
    obtain rfl : k = 1 := eq_of_beq hk
    exact sp_bI (fun _ _ _ _ _ _ _ _ kk => lv_isub hx hb hd kk) hm K
  case imul =>
    obtain rfl : k = 1 := eq_of_beq hk
    exact sp_bI (fun _ _ _ _ _ _ _ _ kk => lv_imul hx hb hd kk) hm K
  case iand =>
    obtain rfl : k = 1 := eq_of_beq hk
    exact sp_bI (fun _ _ _ _ _ _ _ _ kk => lv_iand hx hb hd kk) hm K
  case ior =>
    obtain rfl : k = 1 := eq_of_beq hk
    exact sp_bI (fun _ _ _ _ _ _ _ _ kk => lv_ior hx hb hd kk) hm K
  case ixor =>
    obtain rfl : k = 1 := eq_of_beq hk
    exact sp_bI (fun _ _ _ _ _ _ _ _ kk => lv_ixor hx hb hd kk) hm K
  case ishl =>
    obtain rfl : k = 1 := eq_of_beq hk
    exact sp_bI (fun _ _ _ _ _ _ _ _ kk => lv_ishl hx hb hd kk) hm K
  case ishr =>
    obtain rfl : k = 1 := eq_of_beq hk
    exact sp_bI (fun _ _ _ _ _ _ _ _ kk => lv_ishr hx hb hd kk) hm K
  case iushr =>
    obtain rfl : k = 1 := eq_of_beq hk
    exact sp_bI (fun _ _ _ _ _ _ _ _ kk => lv_iushr hx hb hd rfl kk) hm K
  case idiv =>
    obtain rfl : k = 1 := eq_of_beq hk
    exact sp_dI (fun _ _ _ _ _ _ _ _ hne kk => lv_idiv hx hb hd hne kk) hm hg K
  case irem =>
    obtain rfl : k = 1 := eq_of_beq hk
    exact sp_dI (fun _ _ _ _ _ _ _ _ hne kk => lv_irem hx hb hd hne kk) hm hg K
  case ladd =>
    obtain rfl : k = 1 := eq_of_beq hk
    exact sp_bJ (fun _ _ _ _ _ _ _ _ kk => lv_ladd hx hb hd kk) hm K
  case lsub =>
    obtain rfl : k = 1 := eq_of_beq hk
    exact sp_bJ (fun _ _ _ _ _ _ _ _ kk => lv_lsub hx hb hd kk) hm K
  case lmul =>
    obtain rfl : k = 1 := eq_of_beq hk
    exact sp_bJ (fun _ _ _ _ _ _ _ _ kk => lv_lmul hx hb hd kk) hm K
  case land =>
    obtain rfl : k = 1 := eq_of_beq hk
    exact sp_bJ (fun _ _ _ _ _ _ _ _ kk => lv_land hx hb hd kk) hm K
  case lor =>
    obtain rfl : k = 1 := eq_of_beq hk
    exact sp_bJ (fun _ _ _ _ _ _ _ _ kk => lv_lor hx hb hd kk) hm K
  case lxor =>
    obtain rfl : k = 1 := eq_of_beq hk
    exact sp_bJ (fun _ _ _ _ _ _ _ _ kk => lv_lxor hx hb hd kk) hm K
  case ldiv =>
    obtain rfl : k = 1 := eq_of_beq hk
    exact sp_dJ (fun _ _ _ _ _ _ _ _ hne kk => lv_ldiv hx hb hd hne kk) hm hg K
  case lrem =>
    obtain rfl : k = 1 := eq_of_beq hk
    exact sp_dJ (fun _ _ _ _ _ _ _ _ hne kk => lv_lrem hx hb hd hne kk) hm hg K
  case lshl =>
    obtain rfl : k = 1 := eq_of_beq hk
    exact sp_sJ (fun _ _ _ _ _ _ _ _ kk => lv_lshl hx hb hd rfl kk) hm K
  case lshr =>
    obtain rfl : k = 1 := eq_of_beq hk
    exact sp_sJ (fun _ _ _ _ _ _ _ _ kk => lv_lshr hx hb hd rfl kk) hm K
  case lushr =>
    obtain rfl : k = 1 := eq_of_beq hk
    exact sp_sJ (fun _ _ _ _ _ _ _ _ kk => lv_lushr hx hb hd rfl kk) hm K
  case ineg =>
    obtain rfl : k = 1 := eq_of_beq hk
    exact sp_uI (fun _ _ _ _ _ _ _ kk => lv_ineg hx hb hd kk) hm K
  case i2b =>
    obtain rfl : k = 1 := eq_of_beq hk
    exact sp_uI (fun _ _ _ _ _ _ _ kk => lv_i2b hx hb hd rfl kk) hm K
  case i2s =>
    obtain rfl : k = 1 := eq_of_beq hk
    exact sp_uI (fun _ _ _ _ _ _ _ kk => lv_i2s hx hb hd rfl kk) hm K
  case i2c =>
    obtain rfl : k = 1 := eq_of_beq hk
    exact sp_uI (fun _ _ _ _ _ _ _ kk => lv_i2c hx hb hd rfl kk) hm K
  case i2l =>
    obtain rfl : k = 1 := eq_of_beq hk
    simp only [mstep] at hm
    split at hm
    · exact sp_st (fun _ _ _ _ _ kk => lv_i2l hx hb hd rfl kk) hm K
    · cases hm
  case l2i =>
    obtain rfl : k = 1 := eq_of_beq hk
    simp only [mstep] at hm
    split at hm
    · exact sp_st (fun _ _ _ _ _ kk => lv_l2i hx hb hd rfl kk) hm K
    · cases hm
  case lcmp =>
    obtain rfl : k = 1 := eq_of_beq hk
    simp only [mstep] at hm
    split at hm
    · exact sp_st (fun _ _ _ _ _ kk => W.lcmp hx hb hd kk) hm K
    · cases hm
  case iconst z =>
    obtain rfl : k = 1 := eq_of_beq hk
    exact sp_st (fun _ _ _ _ _ kk => lv_iconst hx hb hd rfl kk) hm K
  case lconst z =>
    obtain rfl : k = 1 := eq_of_beq hk
    exact sp_st (fun _ _ _ _ _ kk => lv_lconst hx hb hd (by show Int64.ofNat _ = Int64.ofInt _; exact Int64.ofInt_eq_ofNat.symm) kk) hm K
  case aconst_null =>
    obtain rfl : k = 1 := eq_of_beq hk
    exact sp_st (fun _ _ _ _ _ kk => lv_null hx hb hd kk) hm K
  case bipush z =>
    obtain rfl : k = 2 := eq_of_beq hk
    exact sp_inJ (fun h1 h2 _ _ _ _ _ _ kk => lv_bipush hx hb hd (bip8 h1 h2) kk) hm K
  case sipush z =>
    obtain rfl : k = 3 := eq_of_beq hk
    exact sp_inJ (fun h1 h2 _ _ _ _ _ _ kk => lv_sipush hx hb hd (bip16 h1 h2) kk) hm K
  case iload j =>
    obtain rfl : k = 2 := eq_of_beq hk
    exact sp_ldI (fun _ _ _ _ _ _ _ hl kk => lv_iload hx hb hd hl kk) hm K
  case iload_n j =>
    obtain rfl : k = 1 := eq_of_beq hk
    exact sp_ldI (fun _ _ _ _ _ _ _ hl kk => lv_iload_n hx hb hd rfl hl kk) hm K
  case lload j =>
    obtain rfl : k = 2 := eq_of_beq hk
    exact sp_ldJ (fun _ _ _ _ _ _ _ hl kk => lv_lload hx hb hd hl kk) hm K
  case lload_n j =>
    obtain rfl : k = 1 := eq_of_beq hk
    exact sp_ldJ (fun _ _ _ _ _ _ _ hl kk => lv_lload_n hx hb hd rfl hl kk) hm K
  case aload j =>
    obtain rfl : k = 2 := eq_of_beq hk
    exact sp_ldR (fun _ _ _ _ _ _ _ hl kk => lv_aload hx hb hd hl kk) (fun _ _ _ _ _ _ hl kk => lv_aloadN hx hb hd hl kk) hm K
  case aload_n j =>
    obtain rfl : k = 1 := eq_of_beq hk
    exact sp_ldR (fun _ _ _ _ _ _ _ hl kk => lv_aload_n hx hb hd rfl hl kk) (fun _ _ _ _ _ _ hl kk => lv_aload_nN hx hb hd rfl hl kk) hm K
  case istore j =>
    obtain rfl : k = 2 := eq_of_beq hk
    exact sp_slI (fun _ _ _ _ _ _ _ _ _ h1 h2 h3 kk => lv_istore hx hb hd h1 h2 h3 kk) hm K
  case istore_n j =>
    obtain rfl : k = 1 := eq_of_beq hk
    exact sp_slI (fun _ _ _ _ _ _ _ _ _ h1 h2 h3 kk => lv_istore_n hx hb hd rfl h1 h2 h3 kk) hm K
  case lstore j =>
    obtain rfl : k = 2 := eq_of_beq hk
    exact sp_slJ (fun _ _ _ _ _ _ _ _ _ h1 h2 h3 kk => lv_lstore hx hb hd h1 h2 h3 kk) hm K
  case lstore_n j =>
    obtain rfl : k = 1 := eq_of_beq hk
    exact sp_slJ (fun _ _ _ _ _ _ _ _ _ h1 h2 h3 kk => lv_lstore_n hx hb hd rfl h1 h2 h3 kk) hm K
  case astore j =>
    obtain rfl : k = 2 := eq_of_beq hk
    exact sp_slR (fun _ _ _ _ _ _ _ _ _ h1 h2 h3 kk => lv_astore hx hb hd h1 h2 h3 kk) (fun _ _ _ _ _ _ _ _ h1 h2 h3 kk => lv_astoreN hx hb hd h1 h2 h3 kk) hm K
  case astore_n j =>
    obtain rfl : k = 1 := eq_of_beq hk
    exact sp_slR (fun _ _ _ _ _ _ _ _ _ h1 h2 h3 kk => lv_astore_n hx hb hd rfl h1 h2 h3 kk) (fun _ _ _ _ _ _ _ _ h1 h2 h3 kk => lv_astore_nN hx hb hd rfl h1 h2 h3 kk) hm K
  case iinc j z =>
    obtain rfl : k = 3 := eq_of_beq hk
    exact sp_icI (fun _ _ _ _ _ _ _ _ _ _ _ h1 h2 h3 h4 h5 kk => lv_iinc hx hb hd h1 h2 h3 h4 h5 kk) hm K
  case goto z =>
    obtain rfl : k = 3 := eq_of_beq hk
    exact sp_jmp (fun _ _ _ _ _ _ _ ht kk => lv_goto hx hb hd ht kk) hm K
  case dup =>
    obtain rfl : k = 1 := eq_of_beq hk
    simp only [mstep] at hm
    split at hm
    · split at hm
      · rename_i hcat
        exact sp_st (fun _ _ _ _ _ kk => lv_dup hx hb hd (by rw [tV_cat]; exact eq_of_beq hcat) kk) hm K
      · cases hm
    · cases hm
  case pop =>
    obtain rfl : k = 1 := eq_of_beq hk
    simp only [mstep] at hm
    split at hm
    · split at hm
      · rename_i hcat
        exact sp_st (fun _ _ _ _ _ kk => lv_pop hx hb hd (by rw [tV_cat]; exact eq_of_beq hcat) kk) hm K
      · cases hm
    · cases hm
  case dup2 =>
    obtain rfl : k = 1 := eq_of_beq hk
    simp only [mstep] at hm
    split at hm
    · split at hm
      · rename_i hcat hcat2
        exact sp_st (fun _ _ _ _ _ kk => lv_dup2_11 hx hb hd (by rw [tV_cat]; exact eq_of_beq hcat) (by rw [tV_cat]; exact eq_of_beq hcat2) kk) hm K
      · cases hm
    · cases hm
  case pop2 =>
    obtain rfl : k = 1 := eq_of_beq hk
    simp only [mstep] at hm
    split at hm
    · exact sp_st (fun _ _ _ _ _ kk => lv_pop2_2 hx hb hd rfl kk) hm K
    · cases hm
  case getfield j =>
    obtain rfl : k = 3 := eq_of_beq hk
    exact sp_gfR F hd hm hg K
  case putfield j =>
    obtain rfl : k = 3 := eq_of_beq hk
    exact sp_pfR F hd (hq j rfl) hm hg K
  case getstatic j =>
    obtain rfl : k = 3 := eq_of_beq hk
    exact sp_gsR F hd hm K
  case iaload =>
    obtain rfl : k = 1 := eq_of_beq hk
    exact sp_iald F hd hm hg K
  case baload =>
    obtain rfl : k = 1 := eq_of_beq hk
    exact sp_bald F hd hm hg K
  case saload =>
    obtain rfl : k = 1 := eq_of_beq hk
    exact sp_sald F hd hm hg K
  case laload =>
    obtain rfl : k = 1 := eq_of_beq hk
    exact sp_lald F hd hm hg K
  case aaload =>
    obtain rfl : k = 1 := eq_of_beq hk
    exact sp_aald F hd hm hg K
  case arraylength =>
    obtain rfl : k = 1 := eq_of_beq hk
    exact sp_alen F hd hm hg K
  case iastore =>
    obtain rfl : k = 1 := eq_of_beq hk
    exact sp_iast F hd hm hg K
  case bastore =>
    obtain rfl : k = 1 := eq_of_beq hk
    exact sp_bast F hd hm hg K
  case sastore =>
    obtain rfl : k = 1 := eq_of_beq hk
    exact sp_sast F hd hm hg K
  case lastore =>
    obtain rfl : k = 1 := eq_of_beq hk
    exact sp_last F hd hm hg K
  case aastore =>
    obtain rfl : k = 1 := eq_of_beq hk
    exact sp_aast F hd hm hg K
  case new j =>
    obtain rfl : k = 3 := eq_of_beq hk
    exact sp_new F hd hm hz0 hu0 hc hs hsz K
  case newarray t =>
    obtain rfl : k = 2 := eq_of_beq hk
    exact sp_newaP F hd hm hg hz0 hu0 hc hs hsz K
  case anewarray j =>
    obtain rfl : k = 3 := eq_of_beq hk
    exact sp_anew F hd hm hg hz0 hu0 hc hs hsz K
  case invokestatic j =>
    obtain rfl : k = 3 := eq_of_beq hk
    exact sp_ins F hFM hd hm hg hf hlo (by omega) (by omega) K
  case invokevirtual j =>
    obtain rfl : k = 3 := eq_of_beq hk
    simp only [mstep, inv] at hm
    split at hm
    · rename_i hmT
      split at hm
      · split at hm
        · rename_i hcat
          unfold nxtG at hm
          cases hm
          simp only [allG, Bool.and_true, decide_eq_true_eq] at hg
          exact sp_clone F hd hmT hcat hg hf hlo hz0 hu0 hc hs hsz K
        · cases hm
      · cases hm
    · split at hm
      · split at hm
        · unfold cll at hm
          split at hm <;> cases hm
        · cases hm
      · cases hm
    · cases hm
  case invokespecial j =>
    obtain rfl : k = 3 := eq_of_beq hk
    simp only [mstep, isp] at hm
    split at hm
    · rename_i hmT
      split at hm
      · split at hm
        · rename_i hcat
          unfold nxtG at hm
          cases hm
          simp only [allG, Bool.and_true, Bool.not_eq_true', decide_eq_false_iff_not] at hg
          exact sp_oinit F hd hmT hcat hf hlo hg K
        · cases hm
      · cases hm
    · split at hm
      · split at hm
        · unfold cll at hm
          split at hm <;> cases hm
        · cases hm
      · cases hm
    · cases hm
  case checkcast j =>
    obtain rfl : k = 3 := eq_of_beq hk
    simp only [mstep] at hm
    split at hm
    · rename_i x r hcT
      unfold nxtG at hm
      cases hm
      simp only [allG, Bool.and_true, decide_eq_true_eq] at hg
      obtain ⟨pp, hw⟩ := wC hcT
      unfold cWc at hw
      rw [if_pos rfl] at hw
      intro H locs ls hR hL hS
      obtain ⟨hxa, e1, hcell⟩ := own_arr hR hg (Or.inl rfl)
      have hK := K H locs ls hR hL hS
      simp only [List.map_cons, e1] at hK ⊢
      have hP : va_P D vwCl [(B + (x - 1), .inl (ca 20, (lnA h x, .inl (ivA h x))))] H := by
        intro k q hq
        cases k with
        | zero => cases hq; exact hcell
        | succ k => cases hq
      exact va_castA hx hb hown (hts _ (gd_of (inT_mem hw) rfl)) hP 0 rfl hC.2.1 hd hK
    · cases hm
  case ldc j =>
    obtain rfl : k = 2 := eq_of_beq hk
    simp only [mstep] at hm
    split at hm
    · rename_i z hkT
      obtain ⟨pp, hw⟩ := wK hkT
      exact sp_st (fun _ _ _ _ _ kk => lv_ldc hx hb hown (hts _ (gd_of (inT_mem hw) rfl)) hd kk) hm K
    · split at hm
      · rename_i t hsT
        unfold nxt at hm
        cases hm
        obtain ⟨tx, hr⟩ := hC.2.2.2.2.2.2.2.1 _ _ _ hsT
        intro H locs ls hR hL hS
        have hK := K H locs ls hR hL hS
        simp only [List.map_cons, tV_r B o (show 1000001 + t ≠ 0 by omega), adA_out B o (show 1000000 ≤ 1000001 + t by omega)] at hK
        exact va_ldcS hx hb hown hr hd hK
      · cases hm
  case ldc_w j =>
    obtain rfl : k = 3 := eq_of_beq hk
    simp only [mstep] at hm
    split at hm
    · rename_i z hkT
      obtain ⟨pp, hw⟩ := wK hkT
      exact sp_st (fun _ _ _ _ _ kk => lv_ldcw hx hb hown (hts _ (gd_of (inT_mem hw) rfl)) hd kk) hm K
    · cases hm
  case ldc2_w j =>
    obtain rfl : k = 3 := eq_of_beq hk
    simp only [mstep] at hm
    split at hm
    · rename_i z hkT
      obtain ⟨pp, hw⟩ := wJ hkT
      exact sp_st (fun _ _ _ _ _ kk => lv_ldc2 hx hb hown (hts _ (gd_of (inT_mem hw) rfl)) hd kk) hm K
    · cases hm
  all_goals first
    | (cases hm; done)
    | (simp only [mstep, brn, brnG, swM, rtI] at hm; (repeat' (split at hm)) <;> cases hm; done)
end STP
end
section
/-! branches and switches -/
theorem kI_eq {x : Int32} {k : Int} (h1 : -2147483648 ≤ k) (h2 : k ≤ 2147483647) : x = kI k ↔ x.toInt = k := by
  constructor
  · intro h
    rw [h]
    exact Int32.toInt_ofInt_of_le (by omega) (by omega)
  · intro h
    apply Int32.toInt_inj.mp
    rw [h]
    exact (Int32.toInt_ofInt_of_le (by omega) (by omega)).symm
theorem swT_P {pc : Nat} (x : Int32) (d : Nat) : ∀ (os : List Int) (lo : Int) (r : List (Int × Nat)), swP pc lo os = some r → -2147483648 ≤ lo → lo + os.length ≤ 2147483648 →
    (∀ j : Nat, x.toInt = lo + j → j < os.length → ∃ off, os[j]? = some off ∧ (pc : Int) + off = (swT x r d : Int)) ∧ ((x.toInt < lo ∨ lo + os.length ≤ x.toInt) → swT x r d = d)
  | [], lo, r, h, _, _ => by
    cases h
    exact ⟨fun j _ hj => by simp at hj, fun _ => rfl⟩
  | w :: os, lo, r, h, h1, h2 => by
    unfold swP at h
    split at h
    · rename_i t r' ht hr
      cases h
      have hlen : ((w :: os).length : Int) = os.length + 1 := by simp
      obtain ⟨i1, i2⟩ := swT_P x d os (lo + 1) r' hr (by omega) (by omega)
      have e0 : (x = kI lo) ↔ x.toInt = lo := kI_eq h1 (by omega)
      constructor
      · intro j hj hlt
        cases j with
        | zero =>
          refine ⟨w, rfl, ?_⟩
          unfold swT
          rw [if_pos (decide_eq_true (e0.mpr (by omega)))]
          exact ht
        | succ j =>
          obtain ⟨off, q1, q2⟩ := i1 j (by omega) (by simpa using hlt)
          refine ⟨off, q1, ?_⟩
          unfold swT
          rw [if_neg (by rw [decide_eq_true_eq]; intro hx; have := e0.mp hx; omega)]
          exact q2
      · intro hx
        unfold swT
        rw [if_neg (by rw [decide_eq_true_eq]; intro hx2; have := e0.mp hx2; omega)]
        exact i2 (by omega)
    · cases h
theorem swT_Q {pc : Nat} (x : Int32) (dflt : Int) (d : Nat) (hd : (pc : Int) + dflt = (d : Int)) : ∀ (os : List (Int × Int)) (r : List (Int × Nat)), swQ pc os = some r → os.all (fun q => decide (-2147483648 ≤ q.1) && decide (q.1 ≤ 2147483647)) = true → (pc : Int) + lookupswitch.offset os dflt x.toInt = (swT x r d : Int)
  | [], r, h, _ => by
    cases h
    exact hd
  | (k, w) :: os, r, h, ha => by
    unfold swQ at h
    split at h
    · rename_i t r' ht hr
      cases h
      simp only [List.all_cons, Bool.and_eq_true, decide_eq_true_eq] at ha
      have e0 : (x = kI k) ↔ x.toInt = k := kI_eq ha.1.1 ha.1.2
      have ih := swT_Q x dflt d hd os r' hr ha.2
      show (pc : Int) + (if k = x.toInt then w else lookupswitch.offset os dflt x.toInt) = _
      unfold swT
      by_cases e : x.toInt = k
      · rw [if_pos e.symm, if_pos (decide_eq_true (e0.mpr e))]
        exact ht
      · rw [if_neg (fun q => e q.symm), if_neg (by rw [decide_eq_true_eq]; exact fun q => e (e0.mp q))]
        exact ih
    · cases h
theorem tN_inj {B : Nat} {o : Nat → Nat} {x y : Nat} (hx : x < 1000000) (hy : y < 1000000) : tN B o x = tN B o y ↔ x = y := by
  constructor
  · intro h
    unfold tN at h
    by_cases e1 : x = 0
    · by_cases e2 : y = 0
      · omega
      · rw [if_pos e1, if_neg e2] at h; cases h
    · by_cases e2 : y = 0
      · rw [if_neg e1, if_pos e2] at h; cases h
      · rw [if_neg e1, if_neg e2, adA_own B o hx, adA_own B o hy] at h
        have := Option.some.inj h
        omega
  · intro h; rw [h]
section STP
variable {p : Program} {l : Launch} {e : Env} {R : Room} {s : State} {m : MethodId} {args : Array Value} {below : List Frame} {meth : Method} {c : Code} {Q : State → Prop} {B : Nat} {o : Nat → Nat} {D : va_G} {ca : Nat → ClassId} {h0 : AH} {u z0 u0 : Nat} {pc pc' : Nat} {L L' S S' : List Value} {h h' : AH} {g : List Bool}
theorem sp_br {P : Prop} [hP : Decidable P] {t n : Nat} {b : Bool} (hb : b = decide P) (row : ∀ (H : Heap) (locs : List Loc) (ls : Array Slot) (cells slots : Nat), (P → W p l e R s m args below meth c H locs cells slots Q (F0 m t ls (S'.map (tV B o)))) → (¬ P → W p l e R s m args below meth c H locs cells slots Q (F0 m n ls (S'.map (tV B o)))) → W p l e R s m args below meth c H locs cells slots Q (F0 m pc ls (S.map (tV B o))))
    (K : WA p l e R s m args below meth c Q B o D ca h0 u z0 u0 (bif b then t else n, L, S', h)) : WA p l e R s m args below meth c Q B o D ca h0 u z0 u0 (pc, L, S, h) := by
  subst hb
  intro H locs ls hR hL hS
  have hK := K H locs ls hR hL hS
  refine row _ _ _ _ _ (fun hp => ?_) (fun hp => ?_)
  · rw [decide_eq_true hp] at hK
    exact hK
  · rw [decide_eq_false hp] at hK
    exact hK
theorem sp_brN {P : Prop} [hP : Decidable P] {t n : Nat} {b : Bool} (hb : b = !decide P) (row : ∀ (H : Heap) (locs : List Loc) (ls : Array Slot) (cells slots : Nat), (¬ P → W p l e R s m args below meth c H locs cells slots Q (F0 m t ls (S'.map (tV B o)))) → (P → W p l e R s m args below meth c H locs cells slots Q (F0 m n ls (S'.map (tV B o)))) → W p l e R s m args below meth c H locs cells slots Q (F0 m pc ls (S.map (tV B o))))
    (K : WA p l e R s m args below meth c Q B o D ca h0 u z0 u0 (bif b then t else n, L, S', h)) : WA p l e R s m args below meth c Q B o D ca h0 u z0 u0 (pc, L, S, h) := by
  subst hb
  intro H locs ls hR hL hS
  have hK := K H locs ls hR hL hS
  refine row _ _ _ _ _ (fun hp => ?_) (fun hp => ?_)
  · rw [decide_eq_false hp] at hK
    exact hK
  · rw [decide_eq_true hp] at hK
    exact hK
theorem sp_nn (hx : p.tables.exec = Jvm.exec) (hb : c.code = cM u) {y t : Nat} {r : List Value} {z : Int} (hd : decode (cM u) pc = .ok (.ifnonnull z, 3)) (ht : (pc : Int) + z = (t : Int)) (K : WA p l e R s m args below meth c Q B o D ca h0 u z0 u0 (bif !decide (y = 0) then t else pc + 3, L, r, h)) : WA p l e R s m args below meth c Q B o D ca h0 u z0 u0 (pc, L, .ref y :: r, h) := by
  intro H locs ls hR hL hS
  have hK := K H locs ls hR hL hS
  show W p l e R s m args below meth c H locs _ _ Q (F0 m pc ls (tV B o (.ref y) :: r.map (tV B o)))
  by_cases e0 : y = 0
  · subst e0
    exact lv_ifnonnullN hx hb hd hK
  · rw [tV_r B o e0]
    simp only [e0, decide_false, Bool.not_false, cond_true] at hK
    exact lv_ifnonnull hx hb hd ht hK
set_option maxHeartbeats 4000000 in
theorem step_br (F : FX B o D ca h0 u p s m args meth c) {i : Instr} {k : Nat} (hd : decode (cM u) pc = .ok (i, k)) (hk : okLen i k = true) {b : Bool} {t : Nat} (hm : mstep (owM u) (rtM u) i pc k L S h = some (g, .inr (.inl (b, t, pc', L', S', h')))) (hg : allG g = true)
    (K : WA p l e R s m args below meth c Q B o D ca h0 u z0 u0 (bif b then t else pc', L', S', h')) : WA p l e R s m args below meth c Q B o D ca h0 u z0 u0 (pc, L, S, h) := by
  obtain ⟨hx, hb, hml, hown, hts, hin, hC, hB⟩ := id F
  cases i
  case ifCond cc z =>
    obtain rfl : k = 3 := eq_of_beq hk
    simp only [mstep, brn] at hm
    split at hm
    · split at hm
      · rename_i x r t' ht
        cases hm
        cases cc
        · exact sp_br rfl (fun _ _ _ _ _ kt kf => lv_if_eq hx hb hd ht kt kf) K
        · exact sp_br (by simp [cI1]) (fun _ _ _ _ _ kt kf => lv_if_ne hx hb hd ht kt (fun q => kf (fun z => z q))) K
        · exact sp_br rfl (fun _ _ _ _ _ kt kf => lv_if_lt hx hb hd ht kt kf) K
        · exact sp_br rfl (fun _ _ _ _ _ kt kf => lv_if_ge hx hb hd ht kt kf) K
        · exact sp_br rfl (fun _ _ _ _ _ kt kf => lv_if_gt hx hb hd ht kt kf) K
        · exact sp_br rfl (fun _ _ _ _ _ kt kf => lv_if_le hx hb hd ht kt kf) K
      · cases hm
    · cases hm
  case if_icmp cc z =>
    obtain rfl : k = 3 := eq_of_beq hk
    simp only [mstep, brn] at hm
    split at hm
    · split at hm
      · rename_i y x r t' ht
        cases hm
        cases cc
        · exact sp_br rfl (fun _ _ _ _ _ kt kf => lv_icmp_eq hx hb hd ht kt kf) K
        · exact sp_br (by simp [cI2]) (fun _ _ _ _ _ kt kf => lv_icmp_ne hx hb hd ht kt (fun q => kf (fun z => z q))) K
        · exact sp_br rfl (fun _ _ _ _ _ kt kf => lv_icmp_lt hx hb hd ht kt kf) K
        · exact sp_br rfl (fun _ _ _ _ _ kt kf => lv_icmp_ge hx hb hd ht kt kf) K
        · exact sp_br rfl (fun _ _ _ _ _ kt kf => lv_icmp_gt hx hb hd ht kt kf) K
        · exact sp_br rfl (fun _ _ _ _ _ kt kf => lv_icmp_le hx hb hd ht kt kf) K
      · cases hm
    · cases hm
  case if_acmp cc z =>
    obtain rfl : k = 3 := eq_of_beq hk
    simp only [mstep, brnG] at hm
    split at hm
    · cases cc
      · dsimp only at hm
        split at hm
        · rename_i y x r t' ht
          cases hm
          simp only [allG, Bool.and_true, Bool.and_eq_true, decide_eq_true_eq] at hg
          exact sp_br rfl (fun _ _ _ _ _ kt kf => lv_acmp_eq hx hb hd ht (fun q => kt ((tN_inj hg.1 hg.2).mp q)) (fun q => kf (fun z => q ((tN_inj hg.1 hg.2).mpr z)))) K
        · cases hm
      · dsimp only at hm
        split at hm
        · rename_i y x r t' ht
          cases hm
          simp only [allG, Bool.and_true, Bool.and_eq_true, decide_eq_true_eq] at hg
          exact sp_brN rfl (fun _ _ _ _ _ kt kf => lv_acmp_ne hx hb hd ht (fun q => kt (fun z => q ((tN_inj hg.1 hg.2).mpr z))) (fun q => kf ((tN_inj hg.1 hg.2).mp q))) K
        · cases hm
    · cases hm
  case ifnonnull z =>
    obtain rfl : k = 3 := eq_of_beq hk
    simp only [mstep, brn] at hm
    split at hm
    · split at hm
      · rename_i x r t' ht
        cases hm
        exact sp_nn hx hb hd ht K
      · cases hm
    · cases hm
  all_goals first
    | (cases hm; done)
    | (simp only [mstep, alR, asR, nxt, nxtG, ldI, ldJ, ldR, slI, slJ, slR, nwQ, nwP, nwR, lnR, alI, alJ, asI, asB, asJ, inJ, gfR, pfR, gsR, jmp, uI, bI, dI, bJ, dJ, sJ, icI, isp, ins, mthI, mthJ, inv, cll, swM, rtI] at hm; (repeat' (split at hm)) <;> cases hm; done)
theorem step_sw (F : FX B o D ca h0 u p s m args meth c) {i : Instr} {k : Nat} (hd : decode (cM u) pc = .ok (i, k)) (hk : okLen i k = true) {x : Int32} {ps : List (Int × Nat)} {dt : Nat} (hm : mstep (owM u) (rtM u) i pc k L S h = some (g, .inr (.inr (.inl (x, ps, dt, L', S', h')))))
    (K : WA p l e R s m args below meth c Q B o D ca h0 u z0 u0 (swT x ps dt, L', S', h')) : WA p l e R s m args below meth c Q B o D ca h0 u z0 u0 (pc, L, S, h) := by
  obtain ⟨hx, hb, hml, hown, hts, hin, hC, hB⟩ := id F
  cases i
  case tableswitch d lo hi os =>
    simp only [mstep] at hm
    simp only [okLen, Bool.and_eq_true, decide_eq_true_eq] at hk
    split at hm
    · split at hm
      · rename_i hh
        have hhi : hi = lo + os.size - 1 := of_decide_eq_true hh
        unfold swM at hm
        split at hm
        · rename_i r t hr ht
          cases hm
          have hsz : (os.toList.length : Int) = os.size := by simp
          obtain ⟨i1, i2⟩ := swT_P x dt os.toList lo ps hr hk.1 (by omega)
          intro H locs ls hR hL hS
          have hK := K H locs ls hR hL hS
          by_cases hin : x.toInt < lo ∨ hi < x.toInt
          · rw [i2 (by omega)] at hK
            exact lv_tableOut hx hb hd hin ht hK
          · obtain ⟨off, q1, q2⟩ := i1 (x.toInt - lo).toNat (by omega) (by omega)
            exact lv_tableIn hx hb hd (fun q => hin (Or.inl q)) (fun q => hin (Or.inr q)) (by rw [← Array.getElem?_toList]; exact q1) q2 hK
        · cases hm
      · cases hm
    · cases hm
  case lookupswitch d prs =>
    simp only [mstep] at hm
    simp only [okLen, Bool.and_eq_true] at hk
    split at hm
    · unfold swM at hm
      split at hm
      · rename_i r t hr ht
        cases hm
        intro H locs ls hR hL hS
        exact lv_lookup hx hb hd hk.1 rfl (swT_Q x d dt ht prs.toList ps hr hk.2) (K H locs ls hR hL hS)
      · cases hm
    · cases hm
  all_goals first
    | (cases hm; done)
    | (simp only [mstep, alR, asR, nxt, nxtG, ldI, ldJ, ldR, slI, slJ, slR, nwQ, nwP, nwR, lnR, alI, alJ, asI, asB, asJ, inJ, gfR, pfR, gsR, jmp, brn, brnG, uI, bI, dI, bJ, dJ, sJ, icI, isp, ins, mthI, mthJ, inv, cll, rtI] at hm; (repeat' (split at hm)) <;> cases hm; done)
end STP
end
section
/-! calls, the body of a method, the contract of every method -/
def rmM (d : Nat) (h h' : AH) : Room := { frames := d, cells := szA h' - szA h, slots := usA h' - usA h, locals := 50 * d }
def PcM (B : Nat) (o : Nat → Nat) (D : va_G) (ca : Nat → ClassId) (h0 : AH) (as : List Value) (h : AH) : Array Value → State → Prop := fun v U => v = (as.map (tV B o)).toArray ∧ Ctx B o D ca h0 U ∧ HR B o D ca h0 h U.heap
def QcM (B : Nat) (o : Nat → Nat) (D : va_G) (ca : Nat → ClassId) (h0 : AH) (r : MRes) : Array Value → State → Outcome → State → Prop := fun _ st oc t => oc = .returned (r.1.map (tV B o)) ∧ HR B o D ca h0 r.2 t.heap ∧ va_F (owA B) st t
def wsM (u : Nat) : List Cond := Cond.code (yM u) (cM u) (mxM u) (rfM u) :: lw_gd
def MetM (l : Launch) (B : Nat) (o : Nat → Nat) (D : va_G) (ca : Nat → ClassId) (h0 : AH) (d u : Nat) (as : List Value) (h : AH) (r : MRes) : Prop :=
  Met l (yM u) (wsM u) (rmM d h r.2) (PcM B o D ca h0 as h) (QcM B o D ca h0 r) (szA r.2 - szA h) (usA r.2 - usA h) (owA B)
theorem PcM_blind (B : Nat) (o : Nat → Nat) (D : va_G) (ca : Nat → ClassId) (h0 : AH) (as : List Value) (h : AH) : FrameBlind (PcM B o D ca h0 as h) := fun _ _ _ _ q => ⟨q.1, q.2.1.same rfl rfl, q.2.2⟩
def isCdT (y : MethodName) (b : ByteArray) (n : Nat) (r : Option FieldType) : Cond := .code y b n r
theorem mt_facts {w : Nat} (hw : w < 326) : (Cond.code (yM w) (cM w) (mxM w) (rfM w) ∈ lw_gd) ∧ (Cond.initialized (yM w).cls ∈ lw_gd) ∧ (kdM w = 0 → Cond.static (yM w) ∈ lw_gd) ∧ (kdM w ≠ 0 → Cond.instanceMethod (yM w) ∈ lw_gd) ∧ (kdM w = 1 → Cond.selects (yM w).cls (yM w) (yM w) ∈ lw_gd) ∧ (yM w).cls = RC (owM w) ∧ plainName (yM w).cls = true ∧
    (parseMethodDescriptor (yM w).desc).map (fun d => d.parameters.length) = some (naM w) ∧ ((yM w).cls ≠ "java/lang/invoke/MethodHandle" ∧ (yM w).cls ≠ "java/lang/invoke/VarHandle") ∧ (kdM w = 2 → (yM w).name = "<init>" ∧ rfM w = none) ∧ mxM w ≤ 30 := by
  have h := mt hw
  unfold mtC at h
  simp only [Bool.and_eq_true, decide_eq_true_eq] at h
  obtain ⟨⟨⟨⟨⟨⟨⟨⟨⟨⟨⟨a1, a2⟩, a3⟩, a4⟩, a5⟩, a6⟩, a7⟩, a8⟩, a9⟩, a10⟩, a11⟩, a12⟩ := h
  refine ⟨gd_of (inT_mem a1) rfl, gd_of (inT_mem a2) rfl, fun q => ?_, fun q => ?_, fun q => ?_, a5, a6, a7, ⟨a8, a9⟩, fun q => ?_, a11⟩
  · rw [if_pos q] at a3; exact gd_of (inT_mem a3) rfl
  · rw [if_neg q] at a3; exact gd_of (inT_mem a3) rfl
  · rw [if_pos q] at a4; exact gd_of (inT_mem a4) rfl
  · rw [if_pos q] at a10
    simpa using a10
theorem ow_13 : ∀ w, w < 326 → kdM w = 1 → owM w ≤ 13 := by decide +kernel
theorem take_all (S : List Value) (n : Nat) : S = (S.take n).reverse.reverse ++ S.drop n := by
  rw [List.reverse_reverse, List.take_append_drop]
section STP
variable {p : Program} {l : Launch} {e : Env} {R : Room} {s : State} {m : MethodId} {args : Array Value} {below : List Frame} {meth : Method} {c : Code} {Q : State → Prop} {B : Nat} {o : Nat → Nat} {D : va_G} {ca : Nat → ClassId} {h0 : AH} {u z0 u0 : Nat} {pc pc' : Nat} {L L' S S' : List Value} {h h' : AH} {g : List Bool} {d : Nat}
theorem after_call {H : Heap} {locs : List Loc} {ls : Array Slot} {st : List Value} {a : Array Value} {r : MRes} (run : va_Run p l e R s m args below meth c H locs (szA h - z0) (usA h - u0) (szA r.2 - szA h) (usA r.2 - usA h) (F0 m pc ls st) (S'.map (tV B o)) (QcM B o D ca h0 r a) (owA B))
    (hz0 : z0 ≤ szA h) (hu0 : u0 ≤ usA h) (hz1 : szA h ≤ szA r.2) (hu1 : usA h ≤ usA r.2) (hL : LR B o ls (mxM u) L) (hS : va_S (owA B) s.heap H locs) (K : WA p l e R s m args below meth c Q B o D ca h0 u z0 u0 (pc + 3, L, r.1.toList ++ S', r.2)) : W p l e R s m args below meth c H locs (szA h - z0) (usA h - u0) Q (F0 m pc ls st) := by
  intro T hT X
  obtain ⟨v, st₀, t, T', L1, e0, X', hL1, e1, e2, ⟨hv, hHR, hz, hkk⟩, go⟩ := run T hT X
  have hv := Outcome.returned.inj hv
  subst hv
  rw [e0] at hz hkk
  have hK := K T'.heap (locs ++ L1) ls (by rw [e1]; exact hHR) hL ⟨Nat.le_trans hS.1 (by rw [e1]; exact hz), fun q h1 h2 => by rw [e1, hkk q (Nat.lt_of_lt_of_le h1 hS.1) h2]; exact hS.2.1 q h1 h2, fun q hq => by
    rcases List.mem_append.mp hq with h | h
    · exact hS.2.2 q h
    · exact hL1 q h⟩
  have hK2 := W.cs (cells := szA h - z0 + (szA r.2 - szA h)) (slots := usA h - u0 + (usA r.2 - usA h)) (by show _ = szA r.2 - z0; omega) (by show _ = usA r.2 - u0; omega) hK
  have hfr : ({ (F0 m pc ls st) with pc := (F0 m pc ls st).pc + 3, stack := (r.1.map (tV B o)).toList ++ S'.map (tV B o) } : JFrame) = F0 m (pc + 3) ls ((r.1.toList ++ S').map (tV B o)) := by
    cases r.1 <;> rfl
  obtain ⟨t2, a1, b1⟩ := hK2 T' rfl X'
  exact ⟨t2, go t2 (by rw [hfr]; exact a1), b1⟩
theorem call_words (F : FX B o D ca h0 u p s m args meth c) {w : Nat} (hw : w < 326) {r : AH} (hrd : d + 1 ≤ R.frames) (hrl : 50 * (d + 1) ≤ R.locals) : (rmM d h r).frames + 1 ≤ R.frames ∧ 8 + (mxM w + 11) + (rmM d h r).locals ≤ R.locals ∧ (∀ x ∈ wsM w, ∀ (a' : Array Value) (U : State), s.WarmedH U.vm → x.before a' U = true) ∧ Cond.code (yM w) (cM w) (mxM w) (rfM w) ∈ wsM w ∧ (Cond.code (yM w) (cM w) (mxM w) (rfM w)).before args s = true ∧ (Cond.initialized (yM w).cls).before args s = true ∧
    ((yM w).cls ≠ "java/lang/invoke/MethodHandle" ∧ (yM w).cls ≠ "java/lang/invoke/VarHandle") ∧ ∀ sig, parseMethodDescriptor (yM w).desc = some sig → naM w = sig.parameters.length := by
  obtain ⟨hx, hb, hml, hown, hts, hin, hC, hB⟩ := F
  obtain ⟨f1, f2, f3, f4, f5, f6, f7, f8, f9, f10, f11⟩ := mt_facts hw
  have hall : ∀ x ∈ wsM w, x ∈ lw_gd := fun x hx => (List.mem_cons.mp hx).elim (fun q => by rw [q]; exact f1) id
  refine ⟨hrd, ?_, fun x hx a' U hW => ?_, List.mem_cons_self, hts _ f1, hts _ f2, f9, fun sig h => ?_⟩
  · show 8 + (mxM w + 11) + 50 * d ≤ R.locals
    omega
  · have h1 := List.mem_filter.mp (hall x hx)
    exact word_at hW (good_of_word h1.2) (hts _ (hall x hx))
  · rw [h] at f8
    exact (Option.some.inj f8).symm
end STP
theorem kd_spec {w : Nat} {own i j : Nat} (hkd : kdM w = j) (hj : j ≤ 2) (hmT : mT own i = some w) : w < 326 ∧ (Cond.methodLink (RC own) i (yM w) ∈ lw_gd ∨ (kdM w = 2 ∧ Cond.methodLinkNest (RC own) i (yM w) "LastMark" ∈ lw_tbl)) := by
  obtain ⟨pp, hw⟩ := wM hmT
  unfold mWc at hw
  have hne : ∀ z : Nat, kdM z = 9 → w ≠ z := fun z hz q => by rw [q, hz] at hkd; omega
  rw [if_neg (hne 9999 (by decide)), if_neg (hne 9998 (by decide)), if_neg (hne 9997 (by decide)), if_neg (hne 9990 (by decide)), if_neg (hne 9991 (by decide)), if_neg (hne 9992 (by decide)), if_neg (hne 9993 (by decide)), if_neg (hne 9994 (by decide)), if_neg (hne 9995 (by decide))] at hw
  simp only [Bool.and_eq_true, Bool.or_eq_true, decide_eq_true_eq] at hw
  refine ⟨hw.1, ?_⟩
  rcases hw.2 with h1 | ⟨h1, h2⟩
  · exact Or.inl (gd_of (inT_mem h1) rfl)
  · exact Or.inr ⟨eq_of_beq h1, inT_mem h2⟩
theorem take_rev {S : List Value} {n : Nat} {v : Value} (h : S[n]? = some v) : (S.take (n + 1)).reverse = v :: (S.take n).reverse := by
  rw [List.take_succ, h]
  simp
theorem stk_split (B : Nat) (o : Nat → Nat) {S : List Value} {n : Nat} {v : Value} (h : S[n]? = some v) : S.map (tV B o) = (((S.take n).reverse).map (tV B o)).reverse ++ tV B o v :: (S.drop (n + 1)).map (tV B o) := by
  have h1 : S = S.take (n + 1) ++ S.drop (n + 1) := (List.take_append_drop _ _).symm
  have h2 : S.take (n + 1) = S.take n ++ [v] := by
    rw [List.take_succ, h]
    rfl
  rw [h2] at h1
  rw [← List.map_reverse, List.reverse_reverse]
  conv => lhs; rw [h1]
  simp
section STP
variable {p : Program} {l : Launch} {e : Env} {R : Room} {s : State} {m : MethodId} {args : Array Value} {below : List Frame} {meth : Method} {c : Code} {Q : State → Prop} {B : Nat} {o : Nat → Nat} {D : va_G} {ca : Nat → ClassId} {h0 : AH} {u z0 u0 : Nat} {pc pc' : Nat} {L L' S S' : List Value} {h h' : AH} {g : List Bool} {d : Nat}
theorem recv_at (hC : Ctx B o D ca h0 s) {H : Heap} {locs : List Loc} (hR : HR B o D ca h0 h H) (hS : va_S (owA B) s.heap H locs) {x w : Nat} (hw : w ≤ 13) (hk : kdA h x = w) : x ≠ 0 ∧ ∃ cellB : Cell, H[adA B o x]? = some cellB ∧ cellB.vm.isStatics = false ∧ s.vm.findClass (RC w) = some cellB.cls := by
  by_cases h13 : w < 13
  · obtain ⟨hx1, e1, hat⟩ := own_at hR hk h13
    have hx0 : x ≠ 0 := by omega
    have hlt : x < 1000000 := by have := hR.2.2.1.2.2; omega
    obtain ⟨r, hr, cell, q1, q2, q3, -⟩ := hat
    refine ⟨hx0, cell, by rw [adA_own B o hlt]; exact q1, by rw [q3]; rfl, ?_⟩
    rw [q2]
    exact (hC.1.1 w _ (vw_at h13)).2.1
  · obtain rfl : w = 13 := by omega
    have hx := hR.2.2.1.2.1 x (Or.inl hk)
    obtain ⟨o1, -⟩ := hR.2.2.2 x hx
    obtain ⟨cell, q1, q2, q3, -⟩ := ((hC.2.2.2.2.1 x hx (by rw [← o1]; exact hk)).1).kept hS.2.1
    exact ⟨by omega, cell, by rw [adA_out B o hx]; exact q1, q2, q3⟩
theorem call_pre (F : FX B o D ca h0 u p s m args meth c) {H : Heap} {locs : List Loc} (hR : HR B o D ca h0 h H) (hS : va_S (owA B) s.heap H locs) {as : List Value} {vs : List Value} (hv : vs = as.map (tV B o)) : PreS s H (PcM B o D ca h0 as h) vs :=
  ⟨PcM_blind B o D ca h0 as h, fun U hU hW => ⟨by rw [hv], F.2.2.2.2.2.2.1.warm hW (fun a ha hn => by rw [hU]; exact hS.2.1 a ha hn), by rw [hU]; exact hR⟩⟩
set_option maxHeartbeats 4000000 in
theorem step_call (F : FX B o D ca h0 u p s m args meth c) {i : Instr} {k : Nat} (hd : decode (cM u) pc = .ok (i, k)) (hk : okLen i k = true) {w : Nat} {as : List Value} (hm : mstep (owM u) (rtM u) i pc k L S h = some (g, .inr (.inr (.inr (.inl (w, as, pc', L', S', h')))))) (hg : allG g = true) {r : MRes}
    (hM : w < 326 → okAs as = true → (spr as).length ≤ mxM w → MetM l B o D ca h0 d w as h' r) (hrd : d + 1 ≤ R.frames) (hrl : 50 * (d + 1) ≤ R.locals) (hz0 : z0 ≤ szA h') (hu0 : u0 ≤ usA h') (hz1 : szA h' ≤ szA r.2) (hu1 : usA h' ≤ usA r.2) (hc : szA r.2 ≤ z0 + R.cells) (hs : usA r.2 ≤ u0 + R.slots)
    (K : WA p l e R s m args below meth c Q B o D ca h0 u z0 u0 (pc', L', r.1.toList ++ S', r.2)) : WA p l e R s m args below meth c Q B o D ca h0 u z0 u0 (pc, L, S, h) := by
  obtain ⟨hx, hb, hml, hown, hts, hin, hC, hB⟩ := id F
  cases i
  case invokevirtual j =>
    obtain rfl : k = 3 := eq_of_beq hk
    simp only [mstep, inv] at hm
    split at hm
    · split at hm
      · split at hm
        · cases hm
        · cases hm
      · cases hm
    · rename_i w' hw9 hmT
      split at hm
      · rename_i hkd
        split at hm
        · rename_i x hx0
          unfold cll at hm
          split at hm
          · rename_i hle hcat hok hlen
            cases hm
            simp only [allG, Bool.and_true, decide_eq_true_eq] at hg
            obtain ⟨hwl, hlk⟩ := kd_spec hkd (by omega) hmT
            have hlk : Cond.methodLink (RC (owM u)) j (yM w) ∈ lw_gd := hlk.elim id (fun q => by rw [hkd] at q; omega)
            obtain ⟨f1, f2, f3, f4, f5, f6, f7, f8, f9, f10, f11⟩ := mt_facts hwl
            have hMM := hM hwl hok (Nat.le_of_ble_eq_true hlen)
            intro H locs ls hR hL hS
            obtain ⟨hxn, hcell⟩ := recv_at hC hR hS (ow_13 w hwl hkd) hg
            obtain ⟨w1, w2, w3, w4, w5, w6, w7, w8⟩ := call_words (d := d) (h := h) (r := r.2) F hwl hrd hrl
            have hpre := call_pre F hR hS (as := (S.take (naM w + 1)).reverse) (vs := .ref (adA B o x) :: ((S.take (naM w)).reverse).map (tV B o)) (by rw [take_rev hx0, List.map_cons, tV_r B o hxn])
            have hstk := stk_split B o hx0
            rw [tV_r B o hxn] at hstk
            show W p l e R s m args below meth c H locs _ _ Q (F0 m pc ls (S.map (tV B o)))
            rw [hstk]
            have hl2 : naM w + 1 ≤ S.length := Nat.le_of_ble_eq_true hle
            exact after_call (va_runV (C := RC (owM w)) (b := adA B o x) (As := ((S.take (naM w)).reverse).map (tV B o)) (rest := (S.drop (naM w + 1)).map (tV B o)) ⟨hx, hb, hml, hown, hts⟩ hMM ⟨⟨rfl, rfl, w1, w2, w3, w4, w5, w6, w7, w8, hts _ hlk⟩, hts _ (f4 (by omega)), hts _ (by rw [← f6]; exact f5 hkd)⟩ ⟨hpre.1, hcell, hpre.2⟩ rfl (by simp; omega) hL.1 rfl (by show 2 * 0 + _ ≤ 8; rw [cat_map]; have := catS_le hcat; omega) hd ⟨by show szA h - z0 + (szA r.2 - szA h) ≤ R.cells; omega, by show usA h - u0 + (usA r.2 - usA h) ≤ R.slots; omega⟩) hz0 hu0 hz1 hu1 hL hS K
          · cases hm
        · cases hm
      · cases hm
    · cases hm
  case invokestatic j =>
    obtain rfl : k = 3 := eq_of_beq hk
    simp only [mstep, ins, mthI, mthJ, nxt, nxtG] at hm
    split at hm
    · split at hm <;> cases hm
    · split at hm
      · split at hm <;> cases hm
      · cases hm
    · split at hm
      · split at hm <;> cases hm
      · cases hm
    · split at hm
      · split at hm <;> cases hm
      · cases hm
    · split at hm
      · split at hm <;> cases hm
      · cases hm
    · split at hm
      · split at hm <;> cases hm
      · cases hm
    · split at hm
      · split at hm <;> cases hm
      · cases hm
    · rename_i hmT
      split at hm
      · rename_i hkd
        unfold cll at hm
        split at hm
        · rename_i hle hcat hok hlen
          cases hm
          obtain ⟨hwl, hlk⟩ := kd_spec hkd (by omega) hmT
          have hlk : Cond.methodLink (RC (owM u)) j (yM w) ∈ lw_gd := hlk.elim id (fun q => by rw [hkd] at q; omega)
          obtain ⟨f1, f2, f3, f4, f5, f6, f7, f8, f9, f10, f11⟩ := mt_facts hwl
          have hMM := hM hwl hok (Nat.le_of_ble_eq_true hlen)
          intro H locs ls hR hL hS
          obtain ⟨w1, w2, w3, w4, w5, w6, w7, w8⟩ := call_words (d := d) (h := h) (r := r.2) F hwl hrd hrl
          have hpre := call_pre F hR hS (as := (S.take (naM w)).reverse) rfl
          have hstk : S.map (tV B o) = (((S.take (naM w)).reverse).map (tV B o)).reverse ++ (S.drop (naM w)).map (tV B o) := by
            rw [← List.map_reverse, List.reverse_reverse, ← List.map_append, List.take_append_drop]
          show W p l e R s m args below meth c H locs _ _ Q (F0 m pc ls (S.map (tV B o)))
          rw [hstk]
          have hl2 : naM w ≤ S.length := Nat.le_of_ble_eq_true hle
          exact after_call (va_runS (As := ((S.take (naM w)).reverse).map (tV B o)) (rest := (S.drop (naM w)).map (tV B o)) ⟨hx, hb, hml, hown, hts⟩ hMM ⟨⟨rfl, rfl, w1, w2, w3, w4, w5, w6, w7, w8, hts _ hlk⟩, hts _ (f3 hkd)⟩ hpre rfl (by simp; omega) hL.1 rfl (by show 2 * 0 + _ ≤ 8; rw [cat_map]; have := catS_le hcat; omega) hd ⟨by show szA h - z0 + (szA r.2 - szA h) ≤ R.cells; omega, by show usA h - u0 + (usA r.2 - usA h) ≤ R.slots; omega⟩) hz0 hu0 hz1 hu1 hL hS K
        · cases hm
      · cases hm
    · cases hm
  case invokespecial j =>
    obtain rfl : k = 3 := eq_of_beq hk
    simp only [mstep, isp] at hm
    split at hm
    · split at hm
      · split at hm
        · cases hm
        · cases hm
      · cases hm
    · rename_i w' hw9 hmT
      split at hm
      · rename_i hkd
        split at hm
        · rename_i x hx0
          unfold cll at hm
          split at hm
          · rename_i hle hcat hok hlen
            cases hm
            simp only [allG, Bool.and_true, Bool.not_eq_true', decide_eq_false_iff_not] at hg
            obtain ⟨hwl, hlk⟩ := kd_spec hkd (by omega) hmT
            obtain ⟨f1, f2, f3, f4, f5, f6, f7, f8, f9, f10, f11⟩ := mt_facts hwl
            obtain ⟨f12, f13⟩ := f10 hkd
            have hMM := hM hwl hok (Nat.le_of_ble_eq_true hlen)
            intro H locs ls hR hL hS
            obtain ⟨w1, w2, w3, w4, w5, w6, w7, w8⟩ := call_words (d := d) (h := h) (r := r.2) F hwl hrd hrl
            rw [f13] at w4 w5
            have hpre := call_pre F hR hS (as := (S.take (naM w + 1)).reverse) (vs := .ref (adA B o x) :: ((S.take (naM w)).reverse).map (tV B o)) (by rw [take_rev hx0, List.map_cons, tV_r B o hg])
            have hstk := stk_split B o hx0
            rw [tV_r B o hg] at hstk
            show W p l e R s m args below meth c H locs _ _ Q (F0 m pc ls (S.map (tV B o)))
            rw [hstk]
            have hl2 : naM w + 1 ≤ S.length := Nat.le_of_ble_eq_true hle
            rcases hlk with hlk | ⟨-, hlk⟩
            · exact after_call (va_runI (b := adA B o x) (As := ((S.take (naM w)).reverse).map (tV B o)) (rest := (S.drop (naM w + 1)).map (tV B o)) ⟨hx, hb, hml, hown, hts⟩ hMM ⟨⟨rfl, rfl, w1, w2, w3, w4, w5, w6, w7, w8, hts _ hlk⟩, f12, hts _ (f4 (by omega))⟩ hpre rfl (by simp; omega) hL.1 rfl (by show 2 * 0 + _ ≤ 8; rw [cat_map]; have := catS_le hcat; omega) hd ⟨by show szA h - z0 + (szA r.2 - szA h) ≤ R.cells; omega, by show usA h - u0 + (usA r.2 - usA h) ≤ R.slots; omega⟩) hz0 hu0 hz1 hu1 hL hS K
            · exact after_call (va_runIN (b := adA B o x) (As := ((S.take (naM w)).reverse).map (tV B o)) (rest := (S.drop (naM w + 1)).map (tV B o)) ⟨hx, hb, hml, hown, hts⟩ hMM ⟨⟨⟨rfl, rfl, w1, w2, w3, w4⟩, w5, w6, w7, w8, va_Nw.use rfl (hC.2.2.2.2.2.2.2.2.1 _ hlk rfl)⟩, f12, hts _ (f4 (by omega))⟩ hpre rfl (by simp; omega) hL.1 rfl (by show 2 * 0 + _ ≤ 8; rw [cat_map]; have := catS_le hcat; omega) hd ⟨by show szA h - z0 + (szA r.2 - szA h) ≤ R.cells; omega, by show usA h - u0 + (usA r.2 - usA h) ≤ R.slots; omega⟩) hz0 hu0 hz1 hu1 hL hS K
          · cases hm
        · cases hm
      · cases hm
    · cases hm
  all_goals first
    | (cases hm; done)
    | (simp only [mstep, alR, asR, nxt, nxtG, ldI, ldJ, ldR, slI, slJ, slR, nwQ, nwP, nwR, lnR, alI, alJ, asI, asB, asJ, inJ, gfR, pfR, gsR, jmp, brn, brnG, uI, bI, dI, bJ, dJ, sJ, icI, swM, rtI] at hm; (repeat' (split at hm)) <;> cases hm; done)
end STP
end
section
/-! the body of a method, and the contract of every method -/
def rtOk (rt : Nat) (rf : Option FieldType) : Bool := match rt with
  | 0 => decide (rf = none)
  | 1 => decide (rf = some .int)
  | 2 => decide (rf = some .long)
  | 3 => match rf with
    | some (.object _) => true
    | some (.array _) => true
    | _ => false
  | 4 => decide (rf = some .boolean)
  | 5 => decide (rf = some .char)
  | 6 => decide (rf = some .byte)
  | _ => false
theorem rtOk_3 {rf : Option FieldType} (h : rtOk 3 rf = true) : ∃ t, rf = some t ∧ ((∃ n, t = .object n) ∨ ∃ t', t = .array t') := by
  cases rf with
  | none => cases h
  | some t => cases t <;> first | (cases h; done) | exact ⟨_, rfl, Or.inl ⟨_, rfl⟩⟩ | exact ⟨_, rfl, Or.inr ⟨_, rfl⟩⟩
theorem rt_ok : ∀ u, u < 326 → rtOk (rtM u) (rfM u) = true := by decide +kernel
theorem nar_char {v : Int32} (h : inB v 65536 = true) : narrow .char (.int v) = .int v := by
  have h1 := inB_lt h
  have h0 : ¬ v < 0 := fun q => inB_in h (Or.inl q)
  obtain ⟨n, hn, rfl⟩ := nI_of h0
  rw [show ix (nI n) = n from pk_cl n rfl] at h1
  exact (pk_charN h1).1
theorem nar_byte {v : Int32} (h : v.toInt8.toInt32 = v) : narrow .byte (.int v) = .int v := by
  rw [narrow_byte, h]
section STP
variable {p : Program} {l : Launch} {e : Env} {R : Room} {s : State} {m : MethodId} {args : Array Value} {below : List Frame} {meth : Method} {c : Code} {Q : State → Prop} {B : Nat} {o : Nat → Nat} {D : va_G} {ca : Nat → ClassId} {h0 : AH} {u z0 u0 : Nat} {pc pc' : Nat} {L L' S S' : List Value} {h h' : AH} {g : List Bool} {d N : Nat}
/-- what a method's code must be -/
def CdOk (u : Nat) : Prop := ∀ pc i k, lkp (codeM u) pc = some (i, k) → decode (cM u) pc = .ok (i, k) ∧ okLen i k = true ∧ ∀ j, i = .putfield j → ∀ f, fT (owM u) j = some f → f / 64 < 13 ∧ ((TC (f / 64) (f % 64)).2.2.2 = true → kdM u = 2 ∧ owM u = f / 64 ∧ (TC (f / 64) (f % 64)).1 = RC (f / 64))
theorem step_ret (F : FX B o D ca h0 u p s m args meth c) (hr : meth.sig.returnType = rfM u) (hlocks : meth.locks = false) (hrt : rtOk (rtM u) (rfM u) = true) {i : Instr} {k : Nat} (hd : decode (cM u) pc = .ok (i, k)) (hk : okLen i k = true) {r : MRes} (hm : mstep (owM u) (rtM u) i pc k L S h = some (g, .inr (.inr (.inr (.inr r))))) (hg : allG g = true) :
    WA p l e R s m args below meth c (MQ below (QcM B o D ca h0 r) args s (szA r.2 - z0) (usA r.2 - u0) (owA B)) B o D ca h0 u z0 u0 (pc, L, S, h) := by
  obtain ⟨hx, hb, hml, hown, hts, hin, hC, hB⟩ := id F
  cases i
  case ireturn =>
    obtain rfl : k = 1 := eq_of_beq hk
    simp only [mstep, rtI] at hm
    split at hm
    · split at hm
      · rename_i v rt e1
        cases hm
        rw [e1] at hrt
        have e2 : rfM u = some .int := of_decide_eq_true hrt
        rw [e2] at hr
        intro H locs ls hR hL hS
        exact W.iret hx hb hr (fun t ht hW => ⟨rfl, by rw [ht]; exact hR, hS.F ht⟩) hS.2.2 hd
      · rename_i v rt e1
        cases hm
        rw [e1] at hrt
        have e2 : rfM u = some .boolean := of_decide_eq_true hrt
        rw [e2] at hr
        simp only [allG, Bool.and_true] at hg
        intro H locs ls hR hL hS
        exact W.zret hx hb hr (nar_bool hg).1 (fun t ht hW => ⟨rfl, by rw [ht]; exact hR, hS.F ht⟩) hS.2.2 hd
      · rename_i v rt e1
        cases hm
        rw [e1] at hrt
        have e2 : rfM u = some .char := of_decide_eq_true hrt
        rw [e2] at hr
        simp only [allG, Bool.and_true] at hg
        intro H locs ls hR hL hS
        exact W.zret hx hb hr (nar_char hg) (fun t ht hW => ⟨rfl, by rw [ht]; exact hR, hS.F ht⟩) hS.2.2 hd
      · rename_i v rt e1
        cases hm
        rw [e1] at hrt
        have e2 : rfM u = some .byte := of_decide_eq_true hrt
        rw [e2] at hr
        simp only [allG, Bool.and_true, decide_eq_true_eq] at hg
        intro H locs ls hR hL hS
        exact W.zret hx hb hr (nar_byte hg) (fun t ht hW => ⟨rfl, by rw [ht]; exact hR, hS.F ht⟩) hS.2.2 hd
      · cases hm
    · cases hm
  case lreturn =>
    obtain rfl : k = 1 := eq_of_beq hk
    simp only [mstep] at hm
    split at hm
    · rename_i v e1
      cases hm
      rw [e1] at hrt
      have e2 : rfM u = some .long := of_decide_eq_true hrt
      rw [e2] at hr
      intro H locs ls hR hL hS
      exact W.lret hx hb hr (fun t ht hW => ⟨rfl, by rw [ht]; exact hR, hS.F ht⟩) hS.2.2 hd
    · cases hm
  case areturn =>
    obtain rfl : k = 1 := eq_of_beq hk
    simp only [mstep] at hm
    split at hm
    · rename_i v e1
      cases hm
      rw [e1] at hrt
      have e2 : ∃ t, rfM u = some t ∧ ((∃ n, t = .object n) ∨ ∃ t', t = .array t') := by
        exact rtOk_3 hrt
      obtain ⟨t, e3, e4⟩ := e2
      rw [e3] at hr
      intro H locs ls hR hL hS
      have e5 : tV B o (.ref v) = .null ∨ ∃ a, tV B o (.ref v) = .ref a := by
        by_cases e0 : v = 0
        · subst e0; exact Or.inl rfl
        · exact Or.inr ⟨_, tV_r B o e0⟩
      exact W.aret hx hb hr e4 e5 (fun t ht hW => ⟨rfl, by rw [ht]; exact hR, hS.F ht⟩) hS.2.2 hd
    · cases hm
  case return_ =>
    obtain rfl : k = 1 := eq_of_beq hk
    simp only [mstep] at hm
    split at hm
    · rename_i e1
      cases hm
      rw [e1] at hrt
      have e2 : rfM u = none := of_decide_eq_true hrt
      rw [e2] at hr
      intro H locs ls hR hL hS
      exact W.vret hx hb hr (fun t ht hW => ⟨rfl, by rw [ht]; exact hR, hS.F ht⟩) hS.2.2 hd
    · cases hm
  all_goals first
    | (cases hm; done)
    | (simp only [mstep, alR, asR, nxt, nxtG, ldI, ldJ, ldR, slI, slJ, slR, nwQ, nwP, nwR, lnR, alI, alJ, asI, asB, asJ, inJ, gfR, pfR, gsR, jmp, brn, brnG, uI, bI, dI, bJ, dJ, sJ, icI, isp, ins, mthI, mthJ, inv, cll, swM] at hm; (repeat' (split at hm)) <;> cases hm; done)
theorem body_sound (F : FX B o D ca h0 u p s m args meth c) (hFM : FMrow p l e R s m args below meth c Q u) (hcd : CdOk u) {r : MRes} (hM : ∀ w as h r, mcall d N w as h = some r → szA r.2 < 1000000 → w < 326 → okAs as = true → (spr as).length ≤ mxM w → MetM l B o D ca h0 d w as h r) (hrd : d + 1 ≤ R.frames) (hrl : 50 * (d + 1) ≤ R.locals) (hc : szA r.2 ≤ z0 + R.cells) (hs : usA r.2 ≤ u0 + R.slots) (hsz : szA r.2 < 1000000)
    (fin : ∀ pc i k L S h g, decode (cM u) pc = .ok (i, k) → okLen i k = true → mstep (owM u) (rtM u) i pc k L S h = some (g, .inr (.inr (.inr (.inr r)))) → allG g = true → WA p l e R s m args below meth c Q B o D ca h0 u z0 u0 (pc, L, S, h)) :
    ∀ (n : Nat) (st : MN), body (mcall d N) u n st = some r → z0 ≤ szA st.2.2.2 → u0 ≤ usA st.2.2.2 → WA p l e R s m args below meth c Q B o D ca h0 u z0 u0 st := by
  intro n
  induction n with
  | zero => intro st hh; cases hh
  | succ n ih =>
    intro st hh hz0 hu0
    obtain ⟨pc, L, S, h⟩ := st
    change z0 ≤ szA h at hz0
    change u0 ≤ usA h at hu0
    rw [body_s] at hh
    cases hl : lkp (codeM u) pc with
    | none => rw [hl] at hh; cases hh
    | some ik =>
      obtain ⟨i, k⟩ := ik
      simp only [hl] at hh
      obtain ⟨hd, hk, hq⟩ := hcd pc i k hl
      cases hm : mstep (owM u) (rtM u) i pc k L S h with
      | none => rw [hm] at hh; cases hh
      | some ga =>
        obtain ⟨g, a⟩ := ga
        have hmz := mstep_sz hm
        simp only [hm] at hh
        cases hg : allG g with
        | false => rw [hg] at hh; cases hh
        | true =>
          simp only [hg] at hh
          have hbs := fun st hb => body_sz (u := u) (fun w as h r hc => mcall_sz d N w as h r hc) n st r hb
          rcases a with ⟨pc', L', S', h'⟩ | ⟨b, t, pc', L', S', h'⟩ | ⟨x, ps, dt, L', S', h'⟩ | ⟨w, as, pc', L', S', h'⟩ | r'
          · change szA h ≤ szA h' ∧ usA h ≤ usA h' at hmz
            have h1 := hbs _ hh
            change szA h' ≤ szA r.2 ∧ usA h' ≤ usA r.2 at h1
            exact step_next F hFM hd hk hq hm hg hz0 hu0 (by omega) (by omega) (by omega) (by omega) (by omega) (ih _ hh (by show z0 ≤ szA h'; omega) (by show u0 ≤ usA h'; omega))
          · change szA h ≤ szA h' ∧ usA h ≤ usA h' at hmz
            exact step_br F hd hk hm hg (ih _ hh (by show z0 ≤ szA h'; omega) (by show u0 ≤ usA h'; omega))
          · change szA h ≤ szA h' ∧ usA h ≤ usA h' at hmz
            exact step_sw F hd hk hm (ih _ hh (by show z0 ≤ szA h'; omega) (by show u0 ≤ usA h'; omega))
          · change szA h ≤ szA h' ∧ usA h ≤ usA h' at hmz
            dsimp only at hh
            cases hcl : mcall d N w as h' with
            | none => rw [hcl] at hh; cases hh
            | some vh =>
              obtain ⟨v, h2⟩ := vh
              simp only [hcl] at hh
              have h1 := hbs _ hh
              change szA h2 ≤ szA r.2 ∧ usA h2 ≤ usA r.2 at h1
              have h3 := mcall_sz d N w as h' _ hcl
              change szA h' ≤ szA h2 ∧ usA h' ≤ usA h2 at h3
              exact step_call (r := (v, h2)) F hd hk hm hg (fun q1 q2 q3 => hM w as h' (v, h2) hcl (by show szA h2 < 1000000; omega) q1 q2 q3) hrd hrl (by omega) (by omega) h3.1 h3.2 (by show szA h2 ≤ _; omega) (by show usA h2 ≤ _; omega) (ih _ hh (by show z0 ≤ szA h2; omega) (by show u0 ≤ usA h2; omega))
          · cases hh
            exact fin pc i k L S h g hd hk hm hg
end STP
theorem spr_len (B : Nat) (o : Nat → Nat) : ∀ as : List Value, okAs as = true → (lg_sl (as.map (tV B o))).length = (spr as).length
  | [], _ => rfl
  | v :: r, h => by
    unfold okAs at h
    split at h
    · rename_i hv
      have ih := spr_len B o r h
      unfold lg_sl at ih ⊢
      rw [List.map_cons, List.flatMap_cons, List.length_append, ih, tV_cat]
      cases v <;> first | (cases hv; done) | (simp [Value.category, spr]; omega)
    · cases h
theorem spr_at (B : Nat) (o : Nat → Nat) : ∀ (as : List Value) (k : Nat), okAs as = true → ∀ (i : Nat) (v : Value), (spr as)[i]? = some v → v ≠ unV → (k + i, tV B o v) ∈ lv_args k (as.map (tV B o)) ∧ okV v = true
  | [], k, _, i, v, h, _ => by simp [spr] at h
  | w :: r, k, hk, i, v, h, hv => by
    unfold okAs at hk
    split at hk
    · rename_i hw
      have ih := spr_at B o r
      rw [List.map_cons]
      unfold lv_args
      rw [tV_cat]
      cases w
      case long x =>
        simp only [spr] at h
        match i, h with
        | 0, h => cases h; exact ⟨List.mem_cons_self, rfl⟩
        | 1, h => cases h; exact absurd rfl hv
        | i + 2, h =>
          have h2 := ih (k + 2) hk i v h hv
          exact ⟨List.mem_cons_of_mem _ (by rw [show k + (i + 2) = k + 2 + i by omega]; exact h2.1), h2.2⟩
      all_goals first
        | (cases hw; done)
        | (simp only [spr] at h
           match i, h with
           | 0, h => cases h; exact ⟨List.mem_cons_self, rfl⟩
           | i + 1, h =>
             have h2 := ih (k + 1) hk i v h hv
             exact ⟨List.mem_cons_of_mem _ (by rw [show k + (i + 1) = k + 1 + i by omega]; exact h2.1), h2.2⟩)
    · cases hk
theorem ent_LR (B : Nat) (o : Nat → Nat) (u : Nat) (as : List Value) (h1 : okAs as = true) (h2 : (spr as).length ≤ mxM u) : LR B o ((lg_sl (as.map (tV B o)) ++ List.replicate (mxM u - (lg_sl (as.map (tV B o))).length) Slot.unset).toArray) (mxM u) (entL u as) := by
  have hl := lv_entry (as.map (tV B o)) (n := mxM u) (by rw [spr_len B o as h1]; exact h2)
  have key : ∀ (i : Nat) (v : Value), (entL u as)[i]? = some v → v ≠ unV → (spr as)[i]? = some v := by
    intro i v hi hv
    unfold entL at hi
    rw [List.getElem?_append] at hi
    split at hi
    · exact hi
    · rw [List.getElem?_replicate] at hi
      split at hi
      · cases hi; exact absurd rfl hv
      · cases hi
  refine ⟨hl.1, hl.2.1, by unfold entL; rw [List.length_append, List.length_replicate]; omega, fun i v hi hv => ?_, fun i v hi hv => ?_⟩
  · have h3 := spr_at B o as 0 h1 i v (key i v hi (fun q => by rw [q] at hv; cases hv)) (fun q => by rw [q] at hv; cases hv)
    have h4 := h3.2
    cases v <;> first | (cases h4; done) | (cases hv; done) | exact ⟨_, rfl⟩
  · have h3 := spr_at B o as 0 h1 i v (key i v hi hv) hv
    have h4 := hl.2.2 _ h3.1
    simpa using h4
/-- Math.floorMod's row, wherever the words of the tables hold -/
def FMall (l : Launch) : Prop := ∀ (p : Program) (e : Env) (R : Room) (s : State) (m : MethodId) (args : Array Value) (below : List Frame) (meth : Method) (c : Code) (Q : State → Prop) (u : Nat), p.tables.exec = Jvm.exec → c.code = cM u → c.maxLocals = mxM u → s.vm.findClass (RC (owM u)) = some m.cls → (∀ w ∈ lw_gd, w.before args s = true) → 1 ≤ R.frames → 50 ≤ R.locals → FMrow p l e R s m args below meth c Q u
theorem met_all (l : Launch) (B : Nat) (o : Nat → Nat) (D : va_G) (ca : Nat → ClassId) (h0 : AH) (hFM : FMall l) (hcd : ∀ u, u < 326 → CdOk u) : ∀ (d N u : Nat) (as : List Value) (h : AH) (r : MRes), mcall d N u as h = some r → szA r.2 < 1000000 → u < 326 → okAs as = true → (spr as).length ≤ mxM u → MetM l B o D ca h0 d u as h r := by
  intro d
  induction d with
  | zero => intro N u as h r hh; cases hh
  | succ d ih =>
    intro N u as h r hh hsz hu hok hlen
    obtain ⟨f1, f2, f3, f4, f5, f6, f7, f8, f9, f10, f11⟩ := mt_facts hu
    refine Met.ofW (cc := cM u) (maxL := mxM u) (ret := rfM u) f7 rfl ?_
    intro p e s m args below meth c s₁ Bd hml hP
    obtain ⟨hargs, hC, hR⟩ := hP
    have hts := atoms_spec (ws := wsM u) Bd.pre
    have hts2 : ∀ w ∈ lw_gd, w.before args s = true := fun w hw => hts w (List.mem_cons_of_mem _ hw)
    have hown : s.vm.findClass (RC (owM u)) = some m.cls := by rw [← f6]; exact findClass_of_methodNamed Bd.named
    have F : FX B o D ca h0 u p s m args meth c := ⟨Bd.exec, Bd.bytes, hml, hown, hts2, fun q => by rw [(name_of_methodNamed Bd.named Bd.method).1]; exact (f10 q).1, hC, by rw [hR.1]; exact Nat.le_add_right _ _⟩
    have hz := mcall_sz (d + 1) N u as h r hh
    have hb := body_sound (l := l) (e := e) (R := (headSpec (wsM u) (rmM (d + 1) h r.2)).room) (below := below) (Q := MQ below (QcM B o D ca h0 r) args s (szA r.2 - szA h) (usA r.2 - usA h) (owA B)) (z0 := szA h) (u0 := usA h) (d := d) (N := N) F (hFM p e _ s m args below meth c _ u Bd.exec Bd.bytes hml hown hts2 (by show 1 ≤ d + 1; omega) (by show 50 ≤ 50 * (d + 1); omega)) (hcd u hu) (fun w as h r q1 q2 q3 q4 q5 => ih N w as h r q1 q2 q3 q4 q5) (Nat.le_refl _) (Nat.le_refl _) (by show szA r.2 ≤ szA h + (szA r.2 - szA h); omega) (by show usA r.2 ≤ usA h + (usA r.2 - usA h); omega) hsz (fun pc i k L S h g hd hk hm hg => step_ret F Bd.returns Bd.notSynchronized (rt_ok u hu) hd hk hm hg) N (0, entL u as, [], h) hh (Nat.le_refl _) (Nat.le_refl _)
    have hW := hb s.heap [] _ hR (ent_LR B o u as hok hlen) va_S.rf
    rw [hargs, lg_entry_eq]
    have h1 : szA h - szA h = 0 := Nat.sub_self _
    have h2 : usA h - usA h = 0 := Nat.sub_self _
    simp only [h1, h2] at hW
    subst hargs
    exact hW
end
section
/-! the code tables are the claim's code (written by gen29.py) -/
theorem lkp_mem {α : Type} {i : Nat} {a : α} : ∀ l : List (Nat × α), lkp l i = some a → (i, a) ∈ l
  | [], h => by cases h
  | (k, b) :: r, h => by
    unfold lkp at h
    split at h
    · rename_i e
      cases h
      rw [Nat.eq_of_beq_eq_true e]
      exact List.mem_cons_self
    · exact List.mem_cons_of_mem _ (lkp_mem r h)
def cdB (u : Nat) (e : Nat × Instr × Nat) : Bool := okLen e.2.1 e.2.2 && (match e.2.1 with
  | .putfield j => match fT (owM u) j with
    | some f => decide (f / 64 < 13) && (!(TC (f / 64) (f % 64)).2.2.2 || (decide (kdM u = 2) && decide (owM u = f / 64) && decide ((TC (f / 64) (f % 64)).1 = RC (f / 64))))
    | none => true
  | _ => true)
theorem cdOf {u : Nat} (h1 : (codeM u).all (ckR (cM u)) = true) (h2 : (codeM u).all (cdB u) = true) : CdOk u := by
  intro pc i k hl
  have hmem := lkp_mem _ hl
  have a1 := List.all_eq_true.mp h1 _ hmem
  have a2 := List.all_eq_true.mp h2 _ hmem
  unfold cdB at a2
  rw [Bool.and_eq_true] at a2
  refine ⟨of_decide_eq_true a1, a2.1, fun j hj f hf => ?_⟩
  subst hj
  have a3 := a2.2
  simp only [hf, Bool.and_eq_true, Bool.or_eq_true, Bool.not_eq_true', decide_eq_true_eq] at a3
  refine ⟨a3.1, fun q => ?_⟩
  rcases a3.2 with a4 | a4
  · rw [q] at a4; cases a4
  · exact ⟨a4.1.1, a4.1.2, a4.2⟩
theorem cd_0 : CdOk 0 := cdOf (u := 0) ck_Ch_new (by decide +kernel)
theorem cd_1 : CdOk 1 := cdOf (u := 1) ck_Ch_begin (by decide +kernel)
theorem cd_2 : CdOk 2 := cdOf (u := 2) ck_Ch_spread (by decide +kernel)
theorem cd_3 : CdOk 3 := cdOf (u := 3) ck_Hi_new (by decide +kernel)
theorem cd_4 : CdOk 4 := cdOf (u := 4) ck_Hi_keep (by decide +kernel)
theorem cd_5 : CdOk 5 := cdOf (u := 5) ck_Hi_bringBack (by decide +kernel)
theorem cd_6 : CdOk 6 := cdOf (u := 6) ck_Hi_forget (by decide +kernel)
theorem cd_7 : CdOk 7 := cdOf (u := 7) ck_La_new (by decide +kernel)
theorem cd_8 : CdOk 8 := cdOf (u := 8) ck_La_value (by decide +kernel)
theorem cd_9 : CdOk 9 := cdOf (u := 9) ck_La_joined (by decide +kernel)
theorem cd_10 : CdOk 10 := cdOf (u := 10) ck_Pg_new (by decide +kernel)
theorem cd_11 : CdOk 11 := cdOf (u := 11) ck_Pg_copy (by decide +kernel)
theorem cd_12 : CdOk 12 := cdOf (u := 12) ck_Pg_isDrawn (by decide +kernel)
theorem cd_13 : CdOk 13 := cdOf (u := 13) ck_Pg_isFound (by decide +kernel)
theorem cd_14 : CdOk 14 := cdOf (u := 14) ck_Pg_habitOf (by decide +kernel)
theorem cd_15 : CdOk 15 := cdOf (u := 15) ck_Pg_whyNotDraw (by decide +kernel)
theorem cd_16 : CdOk 16 := cdOf (u := 16) ck_Pg_draw (by decide +kernel)
theorem cd_17 : CdOk 17 := cdOf (u := 17) ck_Pg_mark (by decide +kernel)
theorem cd_18 : CdOk 18 := cdOf (u := 18) ck_Pg_erase (by decide +kernel)
theorem cd_19 : CdOk 19 := cdOf (u := 19) ck_Pg_adopt (by decide +kernel)
theorem cd_20 : CdOk 20 := cdOf (u := 20) ck_Pg_setHabit (by decide +kernel)
theorem cd_21 : CdOk 21 := cdOf (u := 21) ck_Pg_conceal (by decide +kernel)
theorem cd_22 : CdOk 22 := cdOf (u := 22) ck_Pg_obey (by decide +kernel)
theorem cd_23 : CdOk 23 := cdOf (u := 23) ck_Pg_clear (by decide +kernel)
theorem cd_24 : CdOk 24 := cdOf (u := 24) ck_Pa_new (by decide +kernel)
theorem cd_25 : CdOk 25 := cdOf (u := 25) ck_Pa_begin (by decide +kernel)
theorem cd_26 : CdOk 26 := cdOf (u := 26) ck_Pa_makeRoom (by decide +kernel)
theorem cd_27 : CdOk 27 := cdOf (u := 27) ck_Pa_spread (by decide +kernel)
theorem cd_28 : CdOk 28 := cdOf (u := 28) ck_Pa_strokesTo (by decide +kernel)
theorem cd_29 : CdOk 29 := cdOf (u := 29) ck_Pa_rankOf (by decide +kernel)
theorem cd_30 : CdOk 30 := cdOf (u := 30) ck_Pa_solve (by decide +kernel)
theorem cd_31 : CdOk 31 := cdOf (u := 31) ck_Pa_isBeyond (by decide +kernel)
theorem cd_32 : CdOk 32 := cdOf (u := 32) ck_Pa_settle (by decide +kernel)
theorem cd_33 : CdOk 33 := cdOf (u := 33) ck_Pa_worth (by decide +kernel)
theorem cd_34 : CdOk 34 := cdOf (u := 34) ck_Pa_most (by decide +kernel)
theorem cd_35 : CdOk 35 := cdOf (u := 35) ck_Pa_least (by decide +kernel)
theorem cd_36 : CdOk 36 := cdOf (u := 36) ck_Pa_played (by decide +kernel)
theorem cd_37 : CdOk 37 := cdOf (u := 37) ck_Pa_trace (by decide +kernel)
theorem cd_38 : CdOk 38 := cdOf (u := 38) ck_Pa_nextStep (by decide +kernel)
theorem cd_39 : CdOk 39 := cdOf (u := 39) ck_Pa_leads (by decide +kernel)
theorem cd_40 : CdOk 40 := cdOf (u := 40) ck_Pa_step (by decide +kernel)
theorem cd_41 : CdOk 41 := cdOf (u := 41) ck_Pa_firstWinning (by decide +kernel)
theorem cd_42 : CdOk 42 := cdOf (u := 42) ck_Pa_reached (by decide +kernel)
theorem cd_43 : CdOk 43 := cdOf (u := 43) ck_Pa_needed (by decide +kernel)
theorem cd_44 : CdOk 44 := cdOf (u := 44) ck_Pa_opens (by decide +kernel)
theorem cd_45 : CdOk 45 := cdOf (u := 45) ck_Pa_tally (by decide +kernel)
theorem cd_46 : CdOk 46 := cdOf (u := 46) ck_Pa_tallyAt (by decide +kernel)
theorem cd_47 : CdOk 47 := cdOf (u := 47) ck_Pa_passOn (by decide +kernel)
theorem cd_48 : CdOk 48 := cdOf (u := 48) ck_Pe_new (by decide +kernel)
theorem cd_49 : CdOk 49 := cdOf (u := 49) ck_Pe_serve (by decide +kernel)
theorem cd_50 : CdOk 50 := cdOf (u := 50) ck_Pe_open (by decide +kernel)
theorem cd_51 : CdOk 51 := cdOf (u := 51) ck_Pe_learn (by decide +kernel)
theorem cd_52 : CdOk 52 := cdOf (u := 52) ck_Re_new (by decide +kernel)
theorem cd_53 : CdOk 53 := cdOf (u := 53) ck_Re_read (by decide +kernel)
theorem cd_54 : CdOk 54 := cdOf (u := 54) ck_Re_forget (by decide +kernel)
theorem cd_55 : CdOk 55 := cdOf (u := 55) ck_Re_refuse (by decide +kernel)
theorem cd_56 : CdOk 56 := cdOf (u := 56) ck_Re_expect (by decide +kernel)
theorem cd_57 : CdOk 57 := cdOf (u := 57) ck_Re_number (by decide +kernel)
theorem cd_58 : CdOk 58 := cdOf (u := 58) ck_Re_head (by decide +kernel)
theorem cd_59 : CdOk 59 := cdOf (u := 59) ck_Re_line (by decide +kernel)
theorem cd_60 : CdOk 60 := cdOf (u := 60) ck_Re_rowLine (by decide +kernel)
theorem cd_61 : CdOk 61 := cdOf (u := 61) ck_Re_handLine (by decide +kernel)
theorem cd_62 : CdOk 62 := cdOf (u := 62) ck_Re_drawnLine (by decide +kernel)
theorem cd_63 : CdOk 63 := cdOf (u := 63) ck_Re_beginLaw (by decide +kernel)
theorem cd_64 : CdOk 64 := cdOf (u := 64) ck_Re_truth (by decide +kernel)
theorem cd_65 : CdOk 65 := cdOf (u := 65) ck_Re_unit (by decide +kernel)
theorem cd_66 : CdOk 66 := cdOf (u := 66) ck_Re_mayNest (by decide +kernel)
theorem cd_67 : CdOk 67 := cdOf (u := 67) ck_Re_comparison (by decide +kernel)
theorem cd_68 : CdOk 68 := cdOf (u := 68) ck_Re_sum (by decide +kernel)
theorem cd_69 : CdOk 69 := cdOf (u := 69) ck_Re_atom (by decide +kernel)
theorem cd_70 : CdOk 70 := cdOf (u := 70) ck_Re_fact (by decide +kernel)
theorem cd_71 : CdOk 71 := cdOf (u := 71) ck_Re_emit (by decide +kernel)
theorem cd_72 : CdOk 72 := cdOf (u := 72) ck_Se_new (by decide +kernel)
theorem cd_73 : CdOk 73 := cdOf (u := 73) ck_Se_refusal (by decide +kernel)
theorem cd_74 : CdOk 74 := cdOf (u := 74) ck_Se_fitting (by decide +kernel)
theorem cd_75 : CdOk 75 := cdOf (u := 75) ck_Se_fits (by decide +kernel)
theorem cd_76 : CdOk 76 := cdOf (u := 76) ck_Se_telling (by decide +kernel)
theorem cd_77 : CdOk 77 := cdOf (u := 77) ck_Se_lesserPart (by decide +kernel)
theorem cd_78 : CdOk 78 := cdOf (u := 78) ck_Se_findAble (by decide +kernel)
theorem cd_79 : CdOk 79 := cdOf (u := 79) ck_Se_authors (by decide +kernel)
theorem cd_80 : CdOk 80 := cdOf (u := 80) ck_Se_fewestChanges (by decide +kernel)
theorem cd_81 : CdOk 81 := cdOf (u := 81) ck_Se_fewestAfter (by decide +kernel)
theorem cd_82 : CdOk 82 := cdOf (u := 82) ck_Se_changesBy (by decide +kernel)
theorem cd_83 : CdOk 83 := cdOf (u := 83) ck_Se_chooseAuthors (by decide +kernel)
theorem cd_84 : CdOk 84 := cdOf (u := 84) ck_Se_author (by decide +kernel)
theorem cd_85 : CdOk 85 := cdOf (u := 85) ck_Se_fewestCovering (by decide +kernel)
theorem cd_86 : CdOk 86 := cdOf (u := 86) ck_Se_union (by decide +kernel)
theorem cd_87 : CdOk 87 := cdOf (u := 87) ck_Sh_new (by decide +kernel)
theorem cd_88 : CdOk 88 := cdOf (u := 88) ck_Sh_hasHand (by decide +kernel)
theorem cd_89 : CdOk 89 := cdOf (u := 89) ck_Sh_hasCell (by decide +kernel)
theorem cd_90 : CdOk 90 := cdOf (u := 90) ck_Sh_kindOf (by decide +kernel)
theorem cd_91 : CdOk 91 := cdOf (u := 91) ck_Sh_near (by decide +kernel)
theorem cd_92 : CdOk 92 := cdOf (u := 92) ck_Sh_left (by decide +kernel)
theorem cd_93 : CdOk 93 := cdOf (u := 93) ck_Sh_steps (by decide +kernel)
theorem cd_94 : CdOk 94 := cdOf (u := 94) ck_Sh_oddsOf (by decide +kernel)
theorem cd_95 : CdOk 95 := cdOf (u := 95) ck_Sh_allOdds (by decide +kernel)
theorem cd_96 : CdOk 96 := cdOf (u := 96) ck_Sh_tellPlace (by decide +kernel)
theorem cd_97 : CdOk 97 := cdOf (u := 97) ck_Sh_holds (by decide +kernel)
theorem cd_98 : CdOk 98 := cdOf (u := 98) ck_Sh_allows (by decide +kernel)
theorem cd_99 : CdOk 99 := cdOf (u := 99) ck_Sh_nearness (by decide +kernel)
theorem cd_100 : CdOk 100 := cdOf (u := 100) ck_To_new (by decide +kernel)
theorem cd_101 : CdOk 101 := cdOf (u := 101) ck_To_open (by decide +kernel)
theorem cd_102 : CdOk 102 := cdOf (u := 102) ck_To_append (by decide +kernel)
theorem cd_103 : CdOk 103 := cdOf (u := 103) ck_To_tokenEnd (by decide +kernel)
theorem cd_104 : CdOk 104 := cdOf (u := 104) ck_To_isLetter (by decide +kernel)
theorem cd_105 : CdOk 105 := cdOf (u := 105) ck_To_isDigit (by decide +kernel)
theorem cd_106 : CdOk 106 := cdOf (u := 106) ck_To_codeOf (by decide +kernel)
theorem cd_107 : CdOk 107 := cdOf (u := 107) ck_To_wordCode (by decide +kernel)
theorem cd_108 : CdOk 108 := cdOf (u := 108) ck_To_isWord (by decide +kernel)
theorem cd_109 : CdOk 109 := cdOf (u := 109) ck_To_numberCode (by decide +kernel)
theorem cd_110 : CdOk 110 := cdOf (u := 110) ck_To_advance (by decide +kernel)
theorem cd_111 : CdOk 111 := cdOf (u := 111) ck_Tr_new (by decide +kernel)
theorem cd_112 : CdOk 112 := cdOf (u := 112) ck_Tr_isMissing (by decide +kernel)
theorem cd_113 : CdOk 113 := cdOf (u := 113) ck_Tr_lay (by decide +kernel)
theorem cd_114 : CdOk 114 := cdOf (u := 114) ck_Tr_at (by decide +kernel)
theorem cd_115 : CdOk 115 := cdOf (u := 115) ck_Tr_put (by decide +kernel)
theorem cd_116 : CdOk 116 := cdOf (u := 116) ck_Tr_cut (by decide +kernel)
theorem cd_117 : CdOk 117 := cdOf (u := 117) ck_Tr_isWithin (by decide +kernel)
theorem cd_118 : CdOk 118 := cdOf (u := 118) ck_X_new (by decide +kernel)
theorem cd_119 : CdOk 119 := cdOf (u := 119) ck_X_feed (by decide +kernel)
theorem cd_120 : CdOk 120 := cdOf (u := 120) ck_X_tapeFour (by decide +kernel)
theorem cd_121 : CdOk 121 := cdOf (u := 121) ck_X_sheet (by decide +kernel)
theorem cd_122 : CdOk 122 := cdOf (u := 122) ck_X_fault (by decide +kernel)
theorem cd_123 : CdOk 123 := cdOf (u := 123) ck_X_cell (by decide +kernel)
theorem cd_124 : CdOk 124 := cdOf (u := 124) ck_X_handsFor (by decide +kernel)
theorem cd_125 : CdOk 125 := cdOf (u := 125) ck_X_hand (by decide +kernel)
theorem cd_126 : CdOk 126 := cdOf (u := 126) ck_X_cellsFor (by decide +kernel)
theorem cd_127 : CdOk 127 := cdOf (u := 127) ck_X_stroke (by decide +kernel)
theorem cd_128 : CdOk 128 := cdOf (u := 128) ck_X_rub (by decide +kernel)
theorem cd_129 : CdOk 129 := cdOf (u := 129) ck_X_keptLeft (by decide +kernel)
theorem cd_130 : CdOk 130 := cdOf (u := 130) ck_X_habit (by decide +kernel)
theorem cd_131 : CdOk 131 := cdOf (u := 131) ck_X_hide (by decide +kernel)
theorem cd_132 : CdOk 132 := cdOf (u := 132) ck_X_undo (by decide +kernel)
theorem cd_133 : CdOk 133 := cdOf (u := 133) ck_X_judge (by decide +kernel)
theorem cd_134 : CdOk 134 := cdOf (u := 134) ck_X_perform (by decide +kernel)
theorem cd_135 : CdOk 135 := cdOf (u := 135) ck_X_keptIfAny (by decide +kernel)
theorem cd_136 : CdOk 136 := cdOf (u := 136) ck_X_night (by decide +kernel)
theorem cd_137 : CdOk 137 := cdOf (u := 137) ck_X_shaken (by decide +kernel)
theorem cd_138 : CdOk 138 := cdOf (u := 138) ck_X_nightDeed (by decide +kernel)
theorem cd_139 : CdOk 139 := cdOf (u := 139) ck_X_longest (by decide +kernel)
theorem cd_140 : CdOk 140 := cdOf (u := 140) ck_X_refusedCell (by decide +kernel)
theorem cd_141 : CdOk 141 := cdOf (u := 141) ck_X_longWay (by decide +kernel)
theorem cd_142 : CdOk 142 := cdOf (u := 142) ck_X_stuck (by decide +kernel)
theorem cd_143 : CdOk 143 := cdOf (u := 143) ck_X_stuckWay (by decide +kernel)
theorem cd_144 : CdOk 144 := cdOf (u := 144) ck_X_soonest (by decide +kernel)
theorem cd_145 : CdOk 145 := cdOf (u := 145) ck_X_way (by decide +kernel)
theorem cd_146 : CdOk 146 := cdOf (u := 146) ck_X_reach (by decide +kernel)
theorem cd_147 : CdOk 147 := cdOf (u := 147) ck_X_ahead (by decide +kernel)
theorem cd_148 : CdOk 148 := cdOf (u := 148) ck_X_rows (by decide +kernel)
theorem cd_149 : CdOk 149 := cdOf (u := 149) ck_X_ends (by decide +kernel)
theorem cd_150 : CdOk 150 := cdOf (u := 150) ck_X_likely (by decide +kernel)
theorem cd_151 : CdOk 151 := cdOf (u := 151) ck_X_inLowestTerms (by decide +kernel)
theorem cd_152 : CdOk 152 := cdOf (u := 152) ck_X_safest (by decide +kernel)
theorem cd_153 : CdOk 153 := cdOf (u := 153) ck_X_isPart (by decide +kernel)
theorem cd_154 : CdOk 154 := cdOf (u := 154) ck_X_likeliest (by decide +kernel)
theorem cd_155 : CdOk 155 := cdOf (u := 155) ck_X_wins (by decide +kernel)
theorem cd_156 : CdOk 156 := cdOf (u := 156) ck_X_isNoGame (by decide +kernel)
theorem cd_157 : CdOk 157 := cdOf (u := 157) ck_X_best (by decide +kernel)
theorem cd_158 : CdOk 158 := cdOf (u := 158) ck_X_lasts (by decide +kernel)
theorem cd_159 : CdOk 159 := cdOf (u := 159) ck_X_habits (by decide +kernel)
theorem cd_160 : CdOk 160 := cdOf (u := 160) ck_X_look (by decide +kernel)
theorem cd_161 : CdOk 161 := cdOf (u := 161) ck_X_carried (by decide +kernel)
theorem cd_162 : CdOk 162 := cdOf (u := 162) ck_X_changes (by decide +kernel)
theorem cd_163 : CdOk 163 := cdOf (u := 163) ck_X_covers (by decide +kernel)
theorem cd_164 : CdOk 164 := cdOf (u := 164) ck_X_chance (by decide +kernel)
theorem cd_165 : CdOk 165 := cdOf (u := 165) ck_X_latest (by decide +kernel)
theorem cd_166 : CdOk 166 := cdOf (u := 166) ck_X_isTray (by decide +kernel)
theorem cd_167 : CdOk 167 := cdOf (u := 167) ck_X_numbers (by decide +kernel)
theorem cd_168 : CdOk 168 := cdOf (u := 168) ck_X_write (by decide +kernel)
theorem cd_169 : CdOk 169 := cdOf (u := 169) ck_X_lists (by decide +kernel)
theorem cd_170 : CdOk 170 := cdOf (u := 170) ck_X_image (by decide +kernel)
theorem cd_171 : CdOk 171 := cdOf (u := 171) ck_X_restore (by decide +kernel)
theorem cd_172 : CdOk 172 := cdOf (u := 172) ck_X_count (by decide +kernel)
theorem cd_173 : CdOk 173 := cdOf (u := 173) ck_M_within (by decide +kernel)
theorem cd_174 : CdOk 174 := cdOf (u := 174) ck_M_new (by decide +kernel)
theorem cd_175 : CdOk 175 := cdOf (u := 175) ck_M_plain (by decide +kernel)
theorem cd_176 : CdOk 176 := cdOf (u := 176) ck_M_feed (by decide +kernel)
theorem cd_177 : CdOk 177 := cdOf (u := 177) ck_M_see (by decide +kernel)
theorem cd_178 : CdOk 178 := cdOf (u := 178) ck_M_isSmall (by decide +kernel)
theorem cd_179 : CdOk 179 := cdOf (u := 179) ck_M_isDigit (by decide +kernel)
theorem cd_180 : CdOk 180 := cdOf (u := 180) ck_M_keyAt (by decide +kernel)
theorem cd_181 : CdOk 181 := cdOf (u := 181) ck_M_next (by decide +kernel)
theorem cd_182 : CdOk 182 := cdOf (u := 182) ck_M_fails (by decide +kernel)
theorem cd_183 : CdOk 183 := cdOf (u := 183) ck_M_is (by decide +kernel)
theorem cd_184 : CdOk 184 := cdOf (u := 184) ck_M_eats (by decide +kernel)
theorem cd_185 : CdOk 185 := cdOf (u := 185) ck_M_takes (by decide +kernel)
theorem cd_186 : CdOk 186 := cdOf (u := 186) ck_M_isIn (by decide +kernel)
theorem cd_187 : CdOk 187 := cdOf (u := 187) ck_M_wordOf (by decide +kernel)
theorem cd_188 : CdOk 188 := cdOf (u := 188) ck_M_codes (by decide +kernel)
theorem cd_189 : CdOk 189 := cdOf (u := 189) ck_M_goesIn (by decide +kernel)
theorem cd_190 : CdOk 190 := cdOf (u := 190) ck_M_readAtom (by decide +kernel)
theorem cd_191 : CdOk 191 := cdOf (u := 191) ck_M_readTerm (by decide +kernel)
theorem cd_192 : CdOk 192 := cdOf (u := 192) ck_M_readSum (by decide +kernel)
theorem cd_193 : CdOk 193 := cdOf (u := 193) ck_M_readUnit (by decide +kernel)
theorem cd_194 : CdOk 194 := cdOf (u := 194) ck_M_readBoth (by decide +kernel)
theorem cd_195 : CdOk 195 := cdOf (u := 195) ck_M_readTruth (by decide +kernel)
theorem cd_196 : CdOk 196 := cdOf (u := 196) ck_M_readRow (by decide +kernel)
theorem cd_197 : CdOk 197 := cdOf (u := 197) ck_M_readHand (by decide +kernel)
theorem cd_198 : CdOk 198 := cdOf (u := 198) ck_M_readDrawn (by decide +kernel)
theorem cd_199 : CdOk 199 := cdOf (u := 199) ck_M_readLaw (by decide +kernel)
theorem cd_200 : CdOk 200 := cdOf (u := 200) ck_M_readLine (by decide +kernel)
theorem cd_201 : CdOk 201 := cdOf (u := 201) ck_M_ends1 (by decide +kernel)
theorem cd_202 : CdOk 202 := cdOf (u := 202) ck_M_sheet (by decide +kernel)
theorem cd_203 : CdOk 203 := cdOf (u := 203) ck_M_fault (by decide +kernel)
theorem cd_204 : CdOk 204 := cdOf (u := 204) ck_M_cells (by decide +kernel)
theorem cd_205 : CdOk 205 := cdOf (u := 205) ck_M_isCell (by decide +kernel)
theorem cd_206 : CdOk 206 := cdOf (u := 206) ck_M_isHand (by decide +kernel)
theorem cd_207 : CdOk 207 := cdOf (u := 207) ck_M_bitsOf (by decide +kernel)
theorem cd_208 : CdOk 208 := cdOf (u := 208) ck_M_everyCell (by decide +kernel)
theorem cd_209 : CdOk 209 := cdOf (u := 209) ck_M_apart (by decide +kernel)
theorem cd_210 : CdOk 210 := cdOf (u := 210) ck_M_farOf (by decide +kernel)
theorem cd_211 : CdOk 211 := cdOf (u := 211) ck_M_nearOf (by decide +kernel)
theorem cd_212 : CdOk 212 := cdOf (u := 212) ck_M_between (by decide +kernel)
theorem cd_213 : CdOk 213 := cdOf (u := 213) ck_M_reckons (by decide +kernel)
theorem cd_214 : CdOk 214 := cdOf (u := 214) ck_M_mayDraw (by decide +kernel)
theorem cd_215 : CdOk 215 := cdOf (u := 215) ck_M_oddsOf (by decide +kernel)
theorem cd_216 : CdOk 216 := cdOf (u := 216) ck_M_oddsAll (by decide +kernel)
theorem cd_217 : CdOk 217 := cdOf (u := 217) ck_M_isFound (by decide +kernel)
theorem cd_218 : CdOk 218 := cdOf (u := 218) ck_M_mayNow (by decide +kernel)
theorem cd_219 : CdOk 219 := cdOf (u := 219) ck_M_handsOf (by decide +kernel)
theorem cd_220 : CdOk 220 := cdOf (u := 220) ck_M_cellsOf (by decide +kernel)
theorem cd_221 : CdOk 221 := cdOf (u := 221) ck_M_cell (by decide +kernel)
theorem cd_222 : CdOk 222 := cdOf (u := 222) ck_M_hand (by decide +kernel)
theorem cd_223 : CdOk 223 := cdOf (u := 223) ck_M_keeps (by decide +kernel)
theorem cd_224 : CdOk 224 := cdOf (u := 224) ck_M_isAgain (by decide +kernel)
theorem cd_225 : CdOk 225 := cdOf (u := 225) ck_M_notes (by decide +kernel)
theorem cd_226 : CdOk 226 := cdOf (u := 226) ck_M_whyStroke (by decide +kernel)
theorem cd_227 : CdOk 227 := cdOf (u := 227) ck_M_whyRub (by decide +kernel)
theorem cd_228 : CdOk 228 := cdOf (u := 228) ck_M_whyHide (by decide +kernel)
theorem cd_229 : CdOk 229 := cdOf (u := 229) ck_M_draws (by decide +kernel)
theorem cd_230 : CdOk 230 := cdOf (u := 230) ck_M_rubs (by decide +kernel)
theorem cd_231 : CdOk 231 := cdOf (u := 231) ck_M_leftNow (by decide +kernel)
theorem cd_232 : CdOk 232 := cdOf (u := 232) ck_M_stroke (by decide +kernel)
theorem cd_233 : CdOk 233 := cdOf (u := 233) ck_M_rub (by decide +kernel)
theorem cd_234 : CdOk 234 := cdOf (u := 234) ck_M_habit (by decide +kernel)
theorem cd_235 : CdOk 235 := cdOf (u := 235) ck_M_hide (by decide +kernel)
theorem cd_236 : CdOk 236 := cdOf (u := 236) ck_M_undo (by decide +kernel)
theorem cd_237 : CdOk 237 := cdOf (u := 237) ck_M_whyNot (by decide +kernel)
theorem cd_238 : CdOk 238 := cdOf (u := 238) ck_M_does (by decide +kernel)
theorem cd_239 : CdOk 239 := cdOf (u := 239) ck_M_tells (by decide +kernel)
theorem cd_240 : CdOk 240 := cdOf (u := 240) ck_M_noTray (by decide +kernel)
theorem cd_241 : CdOk 241 := cdOf (u := 241) ck_M_judge (by decide +kernel)
theorem cd_242 : CdOk 242 := cdOf (u := 242) ck_M_perform (by decide +kernel)
theorem cd_243 : CdOk 243 := cdOf (u := 243) ck_M_draw (by decide +kernel)
theorem cd_244 : CdOk 244 := cdOf (u := 244) ck_M_drawnDeed (by decide +kernel)
theorem cd_245 : CdOk 245 := cdOf (u := 245) ck_M_night (by decide +kernel)
theorem cd_246 : CdOk 246 := cdOf (u := 246) ck_M_standOf (by decide +kernel)
theorem cd_247 : CdOk 247 := cdOf (u := 247) ck_M_standNow (by decide +kernel)
theorem cd_248 : CdOk 248 := cdOf (u := 248) ck_M_canBe (by decide +kernel)
theorem cd_249 : CdOk 249 := cdOf (u := 249) ck_M_laysMays (by decide +kernel)
theorem cd_250 : CdOk 250 := cdOf (u := 250) ck_M_behindStroke (by decide +kernel)
theorem cd_251 : CdOk 251 := cdOf (u := 251) ck_M_stillBy (by decide +kernel)
theorem cd_252 : CdOk 252 := cdOf (u := 252) ck_M_stillAt (by decide +kernel)
theorem cd_253 : CdOk 253 := cdOf (u := 253) ck_M_laysStill (by decide +kernel)
theorem cd_254 : CdOk 254 := cdOf (u := 254) ck_M_laysRow (by decide +kernel)
theorem cd_255 : CdOk 255 := cdOf (u := 255) ck_M_noGoal (by decide +kernel)
theorem cd_256 : CdOk 256 := cdOf (u := 256) ck_M_longest (by decide +kernel)
theorem cd_257 : CdOk 257 := cdOf (u := 257) ck_M_rowAt (by decide +kernel)
theorem cd_258 : CdOk 258 := cdOf (u := 258) ck_M_longWay (by decide +kernel)
theorem cd_259 : CdOk 259 := cdOf (u := 259) ck_M_stuck (by decide +kernel)
theorem cd_260 : CdOk 260 := cdOf (u := 260) ck_M_stuckWay (by decide +kernel)
theorem cd_261 : CdOk 261 := cdOf (u := 261) ck_M_soonest (by decide +kernel)
theorem cd_262 : CdOk 262 := cdOf (u := 262) ck_M_way (by decide +kernel)
theorem cd_263 : CdOk 263 := cdOf (u := 263) ck_M_laysMany (by decide +kernel)
theorem cd_264 : CdOk 264 := cdOf (u := 264) ck_M_reachBut (by decide +kernel)
theorem cd_265 : CdOk 265 := cdOf (u := 265) ck_M_reach (by decide +kernel)
theorem cd_266 : CdOk 266 := cdOf (u := 266) ck_M_ahead (by decide +kernel)
theorem cd_267 : CdOk 267 := cdOf (u := 267) ck_M_rows (by decide +kernel)
theorem cd_268 : CdOk 268 := cdOf (u := 268) ck_M_ends (by decide +kernel)
theorem cd_269 : CdOk 269 := cdOf (u := 269) ck_M_common (by decide +kernel)
theorem cd_270 : CdOk 270 := cdOf (u := 270) ck_M_part (by decide +kernel)
theorem cd_271 : CdOk 271 := cdOf (u := 271) ck_M_likely (by decide +kernel)
theorem cd_272 : CdOk 272 := cdOf (u := 272) ck_M_laysSafest (by decide +kernel)
theorem cd_273 : CdOk 273 := cdOf (u := 273) ck_M_safeBy (by decide +kernel)
theorem cd_274 : CdOk 274 := cdOf (u := 274) ck_M_safest (by decide +kernel)
theorem cd_275 : CdOk 275 := cdOf (u := 275) ck_M_likeliest (by decide +kernel)
theorem cd_276 : CdOk 276 := cdOf (u := 276) ck_M_gameBy (by decide +kernel)
theorem cd_277 : CdOk 277 := cdOf (u := 277) ck_M_gameAt (by decide +kernel)
theorem cd_278 : CdOk 278 := cdOf (u := 278) ck_M_mayAt (by decide +kernel)
theorem cd_279 : CdOk 279 := cdOf (u := 279) ck_M_laysGame (by decide +kernel)
theorem cd_280 : CdOk 280 := cdOf (u := 280) ck_M_isGame (by decide +kernel)
theorem cd_281 : CdOk 281 := cdOf (u := 281) ck_M_wins (by decide +kernel)
theorem cd_282 : CdOk 282 := cdOf (u := 282) ck_M_best (by decide +kernel)
theorem cd_283 : CdOk 283 := cdOf (u := 283) ck_M_lasts (by decide +kernel)
theorem cd_284 : CdOk 284 := cdOf (u := 284) ck_M_noSeen (by decide +kernel)
theorem cd_285 : CdOk 285 := cdOf (u := 285) ck_M_noSeenBy (by decide +kernel)
theorem cd_286 : CdOk 286 := cdOf (u := 286) ck_M_mayAs (by decide +kernel)
theorem cd_287 : CdOk 287 := cdOf (u := 287) ck_M_habitsOf (by decide +kernel)
theorem cd_288 : CdOk 288 := cdOf (u := 288) ck_M_habits (by decide +kernel)
theorem cd_289 : CdOk 289 := cdOf (u := 289) ck_M_mayBy (by decide +kernel)
theorem cd_290 : CdOk 290 := cdOf (u := 290) ck_M_look (by decide +kernel)
theorem cd_291 : CdOk 291 := cdOf (u := 291) ck_M_handsAs (by decide +kernel)
theorem cd_292 : CdOk 292 := cdOf (u := 292) ck_M_carried (by decide +kernel)
theorem cd_293 : CdOk 293 := cdOf (u := 293) ck_M_fewBy (by decide +kernel)
theorem cd_294 : CdOk 294 := cdOf (u := 294) ck_M_laysFew (by decide +kernel)
theorem cd_295 : CdOk 295 := cdOf (u := 295) ck_M_changes (by decide +kernel)
theorem cd_296 : CdOk 296 := cdOf (u := 296) ck_M_covers (by decide +kernel)
theorem cd_297 : CdOk 297 := cdOf (u := 297) ck_M_wholeOf (by decide +kernel)
theorem cd_298 : CdOk 298 := cdOf (u := 298) ck_M_chanceOf (by decide +kernel)
theorem cd_299 : CdOk 299 := cdOf (u := 299) ck_M_commonOf (by decide +kernel)
theorem cd_300 : CdOk 300 := cdOf (u := 300) ck_M_chance (by decide +kernel)
theorem cd_301 : CdOk 301 := cdOf (u := 301) ck_M_latest (by decide +kernel)
theorem cd_302 : CdOk 302 := cdOf (u := 302) ck_M_cut (by decide +kernel)
theorem cd_303 : CdOk 303 := cdOf (u := 303) ck_M_numbers (by decide +kernel)
theorem cd_304 : CdOk 304 := cdOf (u := 304) ck_M_write (by decide +kernel)
theorem cd_305 : CdOk 305 := cdOf (u := 305) ck_M_lists (by decide +kernel)
theorem cd_306 : CdOk 306 := cdOf (u := 306) ck_M_image (by decide +kernel)
theorem cd_307 : CdOk 307 := cdOf (u := 307) ck_M_restore (by decide +kernel)
theorem cd_308 : CdOk 308 := cdOf (u := 308) ck_M_count (by decide +kernel)
theorem cd_309 : CdOk 309 := cdOf (u := 309) ck_In_bitCount (by decide +kernel)
theorem cd_310 : CdOk 310 := cdOf (u := 310) ck_St_length (by decide +kernel)
theorem cd_311 : CdOk 311 := cdOf (u := 311) ck_St_charAt (by decide +kernel)
theorem cd_312 : CdOk 312 := cdOf (u := 312) ck_St_indexOf (by decide +kernel)
theorem cd_313 : CdOk 313 := cdOf (u := 313) ck_St_indexOf2 (by decide +kernel)
theorem cd_314 : CdOk 314 := cdOf (u := 314) ck_St_coder (by decide +kernel)
theorem cd_315 : CdOk 315 := cdOf (u := 315) ck_St_isLatin1 (by decide +kernel)
theorem cd_316 : CdOk 316 := cdOf (u := 316) ck_St_checkIndex (by decide +kernel)
theorem cd_317 : CdOk 317 := cdOf (u := 317) ck_S1_charAt (by decide +kernel)
theorem cd_318 : CdOk 318 := cdOf (u := 318) ck_S1_canEncode (by decide +kernel)
theorem cd_319 : CdOk 319 := cdOf (u := 319) ck_S1_indexOf (by decide +kernel)
theorem cd_320 : CdOk 320 := cdOf (u := 320) ck_S1_indexOfChar (by decide +kernel)
theorem cd_321 : CdOk 321 := cdOf (u := 321) ck_Ar_fill (by decide +kernel)
theorem cd_322 : CdOk 322 := cdOf (u := 322) ck_Ar_fill2 (by decide +kernel)
theorem cd_323 : CdOk 323 := cdOf (u := 323) ck_Ar_copyOf (by decide +kernel)
theorem cd_324 : CdOk 324 := cdOf (u := 324) ck_Pr_checkIndex (by decide +kernel)
theorem cd_325 : CdOk 325 := cdOf (u := 325) ck_Pr_checkFromToIndex (by decide +kernel)
theorem cd_326 : CdOk 326 := cdOf (u := 326) ck_L_law (by decide +kernel)
theorem cdb_0 {u : Nat} (h1 : 0 ≤ u) (h2 : u < 30) : CdOk u := by
  have h : u = 0 ∨ u = 1 ∨ u = 2 ∨ u = 3 ∨ u = 4 ∨ u = 5 ∨ u = 6 ∨ u = 7 ∨ u = 8 ∨ u = 9 ∨ u = 10 ∨ u = 11 ∨ u = 12 ∨ u = 13 ∨ u = 14 ∨ u = 15 ∨ u = 16 ∨ u = 17 ∨ u = 18 ∨ u = 19 ∨ u = 20 ∨ u = 21 ∨ u = 22 ∨ u = 23 ∨ u = 24 ∨ u = 25 ∨ u = 26 ∨ u = 27 ∨ u = 28 ∨ u = 29 := by omega
  rcases h with rfl | rfl | rfl | rfl | rfl | rfl | rfl | rfl | rfl | rfl | rfl | rfl | rfl | rfl | rfl | rfl | rfl | rfl | rfl | rfl | rfl | rfl | rfl | rfl | rfl | rfl | rfl | rfl | rfl | rfl
  · exact cd_0
  · exact cd_1
  · exact cd_2
  · exact cd_3
  · exact cd_4
  · exact cd_5
  · exact cd_6
  · exact cd_7
  · exact cd_8
  · exact cd_9
  · exact cd_10
  · exact cd_11
  · exact cd_12
  · exact cd_13
  · exact cd_14
  · exact cd_15
  · exact cd_16
  · exact cd_17
  · exact cd_18
  · exact cd_19
  · exact cd_20
  · exact cd_21
  · exact cd_22
  · exact cd_23
  · exact cd_24
  · exact cd_25
  · exact cd_26
  · exact cd_27
  · exact cd_28
  · exact cd_29
theorem cdb_1 {u : Nat} (h1 : 30 ≤ u) (h2 : u < 60) : CdOk u := by
  have h : u = 30 ∨ u = 31 ∨ u = 32 ∨ u = 33 ∨ u = 34 ∨ u = 35 ∨ u = 36 ∨ u = 37 ∨ u = 38 ∨ u = 39 ∨ u = 40 ∨ u = 41 ∨ u = 42 ∨ u = 43 ∨ u = 44 ∨ u = 45 ∨ u = 46 ∨ u = 47 ∨ u = 48 ∨ u = 49 ∨ u = 50 ∨ u = 51 ∨ u = 52 ∨ u = 53 ∨ u = 54 ∨ u = 55 ∨ u = 56 ∨ u = 57 ∨ u = 58 ∨ u = 59 := by omega
  rcases h with rfl | rfl | rfl | rfl | rfl | rfl | rfl | rfl | rfl | rfl | rfl | rfl | rfl | rfl | rfl | rfl | rfl | rfl | rfl | rfl | rfl | rfl | rfl | rfl | rfl | rfl | rfl | rfl | rfl | rfl
  · exact cd_30
  · exact cd_31
  · exact cd_32
  · exact cd_33
  · exact cd_34
  · exact cd_35
  · exact cd_36
  · exact cd_37
  · exact cd_38
  · exact cd_39
  · exact cd_40
  · exact cd_41
  · exact cd_42
  · exact cd_43
  · exact cd_44
  · exact cd_45
  · exact cd_46
  · exact cd_47
  · exact cd_48
  · exact cd_49
  · exact cd_50
  · exact cd_51
  · exact cd_52
  · exact cd_53
  · exact cd_54
  · exact cd_55
  · exact cd_56
  · exact cd_57
  · exact cd_58
  · exact cd_59
theorem cdb_2 {u : Nat} (h1 : 60 ≤ u) (h2 : u < 90) : CdOk u := by
  have h : u = 60 ∨ u = 61 ∨ u = 62 ∨ u = 63 ∨ u = 64 ∨ u = 65 ∨ u = 66 ∨ u = 67 ∨ u = 68 ∨ u = 69 ∨ u = 70 ∨ u = 71 ∨ u = 72 ∨ u = 73 ∨ u = 74 ∨ u = 75 ∨ u = 76 ∨ u = 77 ∨ u = 78 ∨ u = 79 ∨ u = 80 ∨ u = 81 ∨ u = 82 ∨ u = 83 ∨ u = 84 ∨ u = 85 ∨ u = 86 ∨ u = 87 ∨ u = 88 ∨ u = 89 := by omega
  rcases h with rfl | rfl | rfl | rfl | rfl | rfl | rfl | rfl | rfl | rfl | rfl | rfl | rfl | rfl | rfl | rfl | rfl | rfl | rfl | rfl | rfl | rfl | rfl | rfl | rfl | rfl | rfl | rfl | rfl | rfl
  · exact cd_60
  · exact cd_61
  · exact cd_62
  · exact cd_63
  · exact cd_64
  · exact cd_65
  · exact cd_66
  · exact cd_67
  · exact cd_68
  · exact cd_69
  · exact cd_70
  · exact cd_71
  · exact cd_72
  · exact cd_73
  · exact cd_74
  · exact cd_75
  · exact cd_76
  · exact cd_77
  · exact cd_78
  · exact cd_79
  · exact cd_80
  · exact cd_81
  · exact cd_82
  · exact cd_83
  · exact cd_84
  · exact cd_85
  · exact cd_86
  · exact cd_87
  · exact cd_88
  · exact cd_89
theorem cdb_3 {u : Nat} (h1 : 90 ≤ u) (h2 : u < 120) : CdOk u := by
  have h : u = 90 ∨ u = 91 ∨ u = 92 ∨ u = 93 ∨ u = 94 ∨ u = 95 ∨ u = 96 ∨ u = 97 ∨ u = 98 ∨ u = 99 ∨ u = 100 ∨ u = 101 ∨ u = 102 ∨ u = 103 ∨ u = 104 ∨ u = 105 ∨ u = 106 ∨ u = 107 ∨ u = 108 ∨ u = 109 ∨ u = 110 ∨ u = 111 ∨ u = 112 ∨ u = 113 ∨ u = 114 ∨ u = 115 ∨ u = 116 ∨ u = 117 ∨ u = 118 ∨ u = 119 := by omega
  rcases h with rfl | rfl | rfl | rfl | rfl | rfl | rfl | rfl | rfl | rfl | rfl | rfl | rfl | rfl | rfl | rfl | rfl | rfl | rfl | rfl | rfl | rfl | rfl | rfl | rfl | rfl | rfl | rfl | rfl | rfl
  · exact cd_90
  · exact cd_91
  · exact cd_92
  · exact cd_93
  · exact cd_94
  · exact cd_95
  · exact cd_96
  · exact cd_97
  · exact cd_98
  · exact cd_99
  · exact cd_100
  · exact cd_101
  · exact cd_102
  · exact cd_103
  · exact cd_104
  · exact cd_105
  · exact cd_106
  · exact cd_107
  · exact cd_108
  · exact cd_109
  · exact cd_110
  · exact cd_111
  · exact cd_112
  · exact cd_113
  · exact cd_114
  · exact cd_115
  · exact cd_116
  · exact cd_117
  · exact cd_118
  · exact cd_119
theorem cdb_4 {u : Nat} (h1 : 120 ≤ u) (h2 : u < 150) : CdOk u := by
  have h : u = 120 ∨ u = 121 ∨ u = 122 ∨ u = 123 ∨ u = 124 ∨ u = 125 ∨ u = 126 ∨ u = 127 ∨ u = 128 ∨ u = 129 ∨ u = 130 ∨ u = 131 ∨ u = 132 ∨ u = 133 ∨ u = 134 ∨ u = 135 ∨ u = 136 ∨ u = 137 ∨ u = 138 ∨ u = 139 ∨ u = 140 ∨ u = 141 ∨ u = 142 ∨ u = 143 ∨ u = 144 ∨ u = 145 ∨ u = 146 ∨ u = 147 ∨ u = 148 ∨ u = 149 := by omega
  rcases h with rfl | rfl | rfl | rfl | rfl | rfl | rfl | rfl | rfl | rfl | rfl | rfl | rfl | rfl | rfl | rfl | rfl | rfl | rfl | rfl | rfl | rfl | rfl | rfl | rfl | rfl | rfl | rfl | rfl | rfl
  · exact cd_120
  · exact cd_121
  · exact cd_122
  · exact cd_123
  · exact cd_124
  · exact cd_125
  · exact cd_126
  · exact cd_127
  · exact cd_128
  · exact cd_129
  · exact cd_130
  · exact cd_131
  · exact cd_132
  · exact cd_133
  · exact cd_134
  · exact cd_135
  · exact cd_136
  · exact cd_137
  · exact cd_138
  · exact cd_139
  · exact cd_140
  · exact cd_141
  · exact cd_142
  · exact cd_143
  · exact cd_144
  · exact cd_145
  · exact cd_146
  · exact cd_147
  · exact cd_148
  · exact cd_149
theorem cdb_5 {u : Nat} (h1 : 150 ≤ u) (h2 : u < 180) : CdOk u := by
  have h : u = 150 ∨ u = 151 ∨ u = 152 ∨ u = 153 ∨ u = 154 ∨ u = 155 ∨ u = 156 ∨ u = 157 ∨ u = 158 ∨ u = 159 ∨ u = 160 ∨ u = 161 ∨ u = 162 ∨ u = 163 ∨ u = 164 ∨ u = 165 ∨ u = 166 ∨ u = 167 ∨ u = 168 ∨ u = 169 ∨ u = 170 ∨ u = 171 ∨ u = 172 ∨ u = 173 ∨ u = 174 ∨ u = 175 ∨ u = 176 ∨ u = 177 ∨ u = 178 ∨ u = 179 := by omega
  rcases h with rfl | rfl | rfl | rfl | rfl | rfl | rfl | rfl | rfl | rfl | rfl | rfl | rfl | rfl | rfl | rfl | rfl | rfl | rfl | rfl | rfl | rfl | rfl | rfl | rfl | rfl | rfl | rfl | rfl | rfl
  · exact cd_150
  · exact cd_151
  · exact cd_152
  · exact cd_153
  · exact cd_154
  · exact cd_155
  · exact cd_156
  · exact cd_157
  · exact cd_158
  · exact cd_159
  · exact cd_160
  · exact cd_161
  · exact cd_162
  · exact cd_163
  · exact cd_164
  · exact cd_165
  · exact cd_166
  · exact cd_167
  · exact cd_168
  · exact cd_169
  · exact cd_170
  · exact cd_171
  · exact cd_172
  · exact cd_173
  · exact cd_174
  · exact cd_175
  · exact cd_176
  · exact cd_177
  · exact cd_178
  · exact cd_179
theorem cdb_6 {u : Nat} (h1 : 180 ≤ u) (h2 : u < 210) : CdOk u := by
  have h : u = 180 ∨ u = 181 ∨ u = 182 ∨ u = 183 ∨ u = 184 ∨ u = 185 ∨ u = 186 ∨ u = 187 ∨ u = 188 ∨ u = 189 ∨ u = 190 ∨ u = 191 ∨ u = 192 ∨ u = 193 ∨ u = 194 ∨ u = 195 ∨ u = 196 ∨ u = 197 ∨ u = 198 ∨ u = 199 ∨ u = 200 ∨ u = 201 ∨ u = 202 ∨ u = 203 ∨ u = 204 ∨ u = 205 ∨ u = 206 ∨ u = 207 ∨ u = 208 ∨ u = 209 := by omega
  rcases h with rfl | rfl | rfl | rfl | rfl | rfl | rfl | rfl | rfl | rfl | rfl | rfl | rfl | rfl | rfl | rfl | rfl | rfl | rfl | rfl | rfl | rfl | rfl | rfl | rfl | rfl | rfl | rfl | rfl | rfl
  · exact cd_180
  · exact cd_181
  · exact cd_182
  · exact cd_183
  · exact cd_184
  · exact cd_185
  · exact cd_186
  · exact cd_187
  · exact cd_188
  · exact cd_189
  · exact cd_190
  · exact cd_191
  · exact cd_192
  · exact cd_193
  · exact cd_194
  · exact cd_195
  · exact cd_196
  · exact cd_197
  · exact cd_198
  · exact cd_199
  · exact cd_200
  · exact cd_201
  · exact cd_202
  · exact cd_203
  · exact cd_204
  · exact cd_205
  · exact cd_206
  · exact cd_207
  · exact cd_208
  · exact cd_209
theorem cdb_7 {u : Nat} (h1 : 210 ≤ u) (h2 : u < 240) : CdOk u := by
  have h : u = 210 ∨ u = 211 ∨ u = 212 ∨ u = 213 ∨ u = 214 ∨ u = 215 ∨ u = 216 ∨ u = 217 ∨ u = 218 ∨ u = 219 ∨ u = 220 ∨ u = 221 ∨ u = 222 ∨ u = 223 ∨ u = 224 ∨ u = 225 ∨ u = 226 ∨ u = 227 ∨ u = 228 ∨ u = 229 ∨ u = 230 ∨ u = 231 ∨ u = 232 ∨ u = 233 ∨ u = 234 ∨ u = 235 ∨ u = 236 ∨ u = 237 ∨ u = 238 ∨ u = 239 := by omega
  rcases h with rfl | rfl | rfl | rfl | rfl | rfl | rfl | rfl | rfl | rfl | rfl | rfl | rfl | rfl | rfl | rfl | rfl | rfl | rfl | rfl | rfl | rfl | rfl | rfl | rfl | rfl | rfl | rfl | rfl | rfl
  · exact cd_210
  · exact cd_211
  · exact cd_212
  · exact cd_213
  · exact cd_214
  · exact cd_215
  · exact cd_216
  · exact cd_217
  · exact cd_218
  · exact cd_219
  · exact cd_220
  · exact cd_221
  · exact cd_222
  · exact cd_223
  · exact cd_224
  · exact cd_225
  · exact cd_226
  · exact cd_227
  · exact cd_228
  · exact cd_229
  · exact cd_230
  · exact cd_231
  · exact cd_232
  · exact cd_233
  · exact cd_234
  · exact cd_235
  · exact cd_236
  · exact cd_237
  · exact cd_238
  · exact cd_239
theorem cdb_8 {u : Nat} (h1 : 240 ≤ u) (h2 : u < 270) : CdOk u := by
  have h : u = 240 ∨ u = 241 ∨ u = 242 ∨ u = 243 ∨ u = 244 ∨ u = 245 ∨ u = 246 ∨ u = 247 ∨ u = 248 ∨ u = 249 ∨ u = 250 ∨ u = 251 ∨ u = 252 ∨ u = 253 ∨ u = 254 ∨ u = 255 ∨ u = 256 ∨ u = 257 ∨ u = 258 ∨ u = 259 ∨ u = 260 ∨ u = 261 ∨ u = 262 ∨ u = 263 ∨ u = 264 ∨ u = 265 ∨ u = 266 ∨ u = 267 ∨ u = 268 ∨ u = 269 := by omega
  rcases h with rfl | rfl | rfl | rfl | rfl | rfl | rfl | rfl | rfl | rfl | rfl | rfl | rfl | rfl | rfl | rfl | rfl | rfl | rfl | rfl | rfl | rfl | rfl | rfl | rfl | rfl | rfl | rfl | rfl | rfl
  · exact cd_240
  · exact cd_241
  · exact cd_242
  · exact cd_243
  · exact cd_244
  · exact cd_245
  · exact cd_246
  · exact cd_247
  · exact cd_248
  · exact cd_249
  · exact cd_250
  · exact cd_251
  · exact cd_252
  · exact cd_253
  · exact cd_254
  · exact cd_255
  · exact cd_256
  · exact cd_257
  · exact cd_258
  · exact cd_259
  · exact cd_260
  · exact cd_261
  · exact cd_262
  · exact cd_263
  · exact cd_264
  · exact cd_265
  · exact cd_266
  · exact cd_267
  · exact cd_268
  · exact cd_269
theorem cdb_9 {u : Nat} (h1 : 270 ≤ u) (h2 : u < 300) : CdOk u := by
  have h : u = 270 ∨ u = 271 ∨ u = 272 ∨ u = 273 ∨ u = 274 ∨ u = 275 ∨ u = 276 ∨ u = 277 ∨ u = 278 ∨ u = 279 ∨ u = 280 ∨ u = 281 ∨ u = 282 ∨ u = 283 ∨ u = 284 ∨ u = 285 ∨ u = 286 ∨ u = 287 ∨ u = 288 ∨ u = 289 ∨ u = 290 ∨ u = 291 ∨ u = 292 ∨ u = 293 ∨ u = 294 ∨ u = 295 ∨ u = 296 ∨ u = 297 ∨ u = 298 ∨ u = 299 := by omega
  rcases h with rfl | rfl | rfl | rfl | rfl | rfl | rfl | rfl | rfl | rfl | rfl | rfl | rfl | rfl | rfl | rfl | rfl | rfl | rfl | rfl | rfl | rfl | rfl | rfl | rfl | rfl | rfl | rfl | rfl | rfl
  · exact cd_270
  · exact cd_271
  · exact cd_272
  · exact cd_273
  · exact cd_274
  · exact cd_275
  · exact cd_276
  · exact cd_277
  · exact cd_278
  · exact cd_279
  · exact cd_280
  · exact cd_281
  · exact cd_282
  · exact cd_283
  · exact cd_284
  · exact cd_285
  · exact cd_286
  · exact cd_287
  · exact cd_288
  · exact cd_289
  · exact cd_290
  · exact cd_291
  · exact cd_292
  · exact cd_293
  · exact cd_294
  · exact cd_295
  · exact cd_296
  · exact cd_297
  · exact cd_298
  · exact cd_299
theorem cdb_10 {u : Nat} (h1 : 300 ≤ u) (h2 : u < 326) : CdOk u := by
  have h : u = 300 ∨ u = 301 ∨ u = 302 ∨ u = 303 ∨ u = 304 ∨ u = 305 ∨ u = 306 ∨ u = 307 ∨ u = 308 ∨ u = 309 ∨ u = 310 ∨ u = 311 ∨ u = 312 ∨ u = 313 ∨ u = 314 ∨ u = 315 ∨ u = 316 ∨ u = 317 ∨ u = 318 ∨ u = 319 ∨ u = 320 ∨ u = 321 ∨ u = 322 ∨ u = 323 ∨ u = 324 ∨ u = 325 := by omega
  rcases h with rfl | rfl | rfl | rfl | rfl | rfl | rfl | rfl | rfl | rfl | rfl | rfl | rfl | rfl | rfl | rfl | rfl | rfl | rfl | rfl | rfl | rfl | rfl | rfl | rfl | rfl
  · exact cd_300
  · exact cd_301
  · exact cd_302
  · exact cd_303
  · exact cd_304
  · exact cd_305
  · exact cd_306
  · exact cd_307
  · exact cd_308
  · exact cd_309
  · exact cd_310
  · exact cd_311
  · exact cd_312
  · exact cd_313
  · exact cd_314
  · exact cd_315
  · exact cd_316
  · exact cd_317
  · exact cd_318
  · exact cd_319
  · exact cd_320
  · exact cd_321
  · exact cd_322
  · exact cd_323
  · exact cd_324
  · exact cd_325
theorem cd_all : ∀ u, u < 326 → CdOk u := by
  intro u hu
  by_cases h0 : u < 30
  · exact cdb_0 (by omega) h0
  by_cases h1 : u < 60
  · exact cdb_1 (by omega) h1
  by_cases h2 : u < 90
  · exact cdb_2 (by omega) h2
  by_cases h3 : u < 120
  · exact cdb_3 (by omega) h3
  by_cases h4 : u < 150
  · exact cdb_4 (by omega) h4
  by_cases h5 : u < 180
  · exact cdb_5 (by omega) h5
  by_cases h6 : u < 210
  · exact cdb_6 (by omega) h6
  by_cases h7 : u < 240
  · exact cdb_7 (by omega) h7
  by_cases h8 : u < 270
  · exact cdb_8 (by omega) h8
  by_cases h9 : u < 300
  · exact cdb_9 (by omega) h9
  by_cases h10 : u < 326
  · exact cdb_10 (by omega) h10
  omega
end
section
-- ===== end of PART A; then your names; then what follows =====
/-! THE CLAIM OUT OF ONE WALK OF THE LAW'S BODY. Your part is whole_start (and what it stands on); all else here is the same for every law, but numbers. -/
def R_law : String := "LastMarkLaw"
def lw_P (b : Addr) (xs : List Int32) (args : Array Value) (s : State) : Prop := args = #[.ref b] ∧ s.IntsAt b xs ∧ xs.length ≤ 3072 ∧ (Jvm.Cond.and given_1 narrow_1).before args s = true
def lw_Q (_ : Array Value) (s : State) (o : Outcome) (t : State) : Prop := o = .returned (some (.int 1)) ∧ Framed s o t [] 600000 7302250
def lw_Z (below : List Frame) (a : Array Value) (s : State) : State → Prop := fun t => ∃ o, t.status = .running ∧ Ended t below o ∧ lw_Q a s o t
/-- the law's own end, with 1 on the stack, nothing written that was there before, its room as the claim has it -/
theorem lw_ret {p : Program} {l : Launch} {e : Env} {s : State} {m : MethodId} {below : List Frame} {meth : Method} {c : Code} {b : Nat} (hx : p.tables.exec = Jvm.exec) (hb : c.code = code) (hr : meth.sig.returnType = ret) (hlocks : meth.locks = false) {pc : Nat} {H : Heap} {ls : Array Slot} (hdg : decode code pc = .ok (.ireturn, 1)) : W p l e room_1 s m #[Value.ref b] below meth c H [] 600000 7302250 (lw_Z below #[Value.ref b] s) (F0 m pc ls [.int 1]) := by
  intro T hT X
  obtain ⟨fs, hret, hrun, hended, hW, hframe⟩ := X.leave (v := some (.int 1)) (hlocks := hlocks) (fun h => by rw [hr] at h; cases h)
  have hmeth' : T.vm.method? m = some meth := X.method'
  refine ⟨T.setFrames fs, ?_, .returned (some (.int 1)), hrun, hended, rfl, ⟨_, rfl⟩, hW, hframe⟩
  jvm_step X.here [X.here.top, hx, hb, hdg, hmeth', hr, ret, narrow_b1]
  (try refine ⟨rfl, ?_⟩); (try refine ⟨rfl, ?_⟩)
  first | (intro acts; rw [hret _ acts rfl rfl rfl]) | rw [hret _ _ rfl rfl rfl]
  exact Steps.refl _
/-- what holds at the law's entry: the machine, the code, the tables' words (any of lw_tbl by 'hts w (by decide +kernel)'), the script of L ints xs at the cell b, what the Statement gives of the start (any of its parts by flat_of_before) -/
def lw_At (p : Program) (s : State) (m : MethodId) (meth : Method) (c : Code) (b L : Nat) (xs : Nat → Int32) : Prop :=
  p.tables.exec = Jvm.exec ∧ c.code = code ∧ meth.sig.returnType = ret ∧ c.maxLocals = 4 ∧ s.vm.findClass R_law = some m.cls ∧ (∀ w ∈ lw_tbl, w.before #[Value.ref b] s = true) ∧ va_X b L xs s s.heap ∧ b < s.heap.size ∧ meth.locks = false ∧ (Jvm.Cond.and given_1 narrow_1).before #[Value.ref b] s = true
end
section
/-! the start: the outer cells, the context, the law -/
def bK : List Int32 := [32, 115, 104, 101, 101, 116, 32, 114, 111, 119, 32, 104, 97, 110, 100, 32, 104, 97, 98, 105, 116, 32, 100, 114, 97, 119, 110, 32, 108, 97, 115, 116, 32, 109, 97, 121, 32, 111, 100, 100, 115, 32, 99, 101, 108, 108, 32, 107, 105, 110, 100, 32, 110, 101, 97, 114, 32, 108, 101, 102, 116, 32, 102, 97, 114, 32, 97, 110, 100, 32, 111, 114, 32, 110, 111, 116, 32]
def bS : List Int32 := [59, 58, 43, 45, 42, 40, 41, 91, 93, 61, 60, 62]
def bW : List Int32 := [115, 104, 101, 101, 116, 114, 111, 119, 32, 32, 104, 97, 110, 100, 32, 104, 97, 98, 105, 116, 100, 114, 97, 119, 110, 108, 97, 115, 116, 32, 109, 97, 121, 32, 32, 111, 100, 100, 115, 32, 111, 114, 32, 32, 32, 97, 110, 100, 32, 32, 110, 111, 116, 32, 32, 99, 101, 108, 108, 32, 107, 105, 110, 100, 32, 110, 101, 97, 114, 32, 108, 101, 102, 116, 32, 102, 97, 114, 32, 32]
def h00 (L : Nat) (xs : Nat → Int32) (fm : Nat) : AH :=
  (fun x => if x = 1000000 then 40 else if 1000001 ≤ x ∧ x ≤ 1000003 then 13 else if 1000005 ≤ x ∧ x ≤ 1000007 then 42 else 99,
   fun x => if x = 1000000 then L else if x = 1000005 then 77 else if x = 1000006 then 12 else if x = 1000007 then 80 else 0,
   fun x k => if x = 1000000 then xs k else if x = 1000009 then 1 else if x = 1000005 then bK.getD k 0 else if x = 1000006 then bS.getD k 0 else if x = 1000007 then bW.getD k 0 else 0,
   fun _ _ => 0,
   fun x _ => if 1000001 ≤ x ∧ x ≤ 1000003 then x + 4 else if x = 1000009 then fm else 0,
   0, 0)
def tmS (i : Nat) : Term := match i with
  | 0 => .string "LastMarkModel" 81
  | 1 => .string "LastMark$Tokens" 64
  | _ => .string "LastMark$Tokens" 76
def lnS : List Nat := [77, 12, 80]
def byS : List (List Int32) := [bK, bS, bW]
abbrev nrw : Cond := Jvm.Cond.and given_1 narrow_1
theorem st_ex : ∀ i, i < 3 → Cond.exactly (tmS i) "java/lang/String" ∈ flatC nrw := by decide +kernel
theorem st_co : ∀ i, i < 3 → Cond.eq (.field (tmS i) "java/lang/String" "coder" "B") (.int 0) ∈ flatC nrw := by decide +kernel
theorem st_ar : ∀ i, i < 3 → Cond.arrayOf (.field (tmS i) "java/lang/String" "value" "[B") .byte ∈ flatC nrw := by decide +kernel
theorem st_le : ∀ i, i < 3 → Cond.eq (.length (.field (tmS i) "java/lang/String" "value" "[B")) (.int (Int32.ofNat (lnS.getD i 0))) ∈ flatC nrw := by decide +kernel
theorem st_e0_0 : ∀ j, j < 20 → (flatC nrw)[166 + j]? = some (Cond.eq (.elem (.field (.string "LastMarkModel" 81) "java/lang/String" "value" "[B") (.int (Int32.ofNat (0 + j)))) (.int (bK.getD (0 + j) 0))) := by decide +kernel
theorem st_e0_1 : ∀ j, j < 20 → (flatC nrw)[186 + j]? = some (Cond.eq (.elem (.field (.string "LastMarkModel" 81) "java/lang/String" "value" "[B") (.int (Int32.ofNat (20 + j)))) (.int (bK.getD (20 + j) 0))) := by decide +kernel
theorem st_e0_2 : ∀ j, j < 20 → (flatC nrw)[206 + j]? = some (Cond.eq (.elem (.field (.string "LastMarkModel" 81) "java/lang/String" "value" "[B") (.int (Int32.ofNat (40 + j)))) (.int (bK.getD (40 + j) 0))) := by decide +kernel
theorem st_e0_3 : ∀ j, j < 17 → (flatC nrw)[226 + j]? = some (Cond.eq (.elem (.field (.string "LastMarkModel" 81) "java/lang/String" "value" "[B") (.int (Int32.ofNat (60 + j)))) (.int (bK.getD (60 + j) 0))) := by decide +kernel
theorem st_e0 : ∀ j, j < 77 → Cond.eq (.elem (.field (.string "LastMarkModel" 81) "java/lang/String" "value" "[B") (.int (Int32.ofNat j))) (.int (bK.getD j 0)) ∈ flatC nrw := by
  intro j hj
  by_cases h0 : j < 20
  · have h := st_e0_0 (j - 0) (by omega)
    rw [show 0 + (j - 0) = j by omega] at h
    exact List.mem_of_getElem? h
  by_cases h20 : j < 40
  · have h := st_e0_1 (j - 20) (by omega)
    rw [show 20 + (j - 20) = j by omega] at h
    exact List.mem_of_getElem? h
  by_cases h40 : j < 60
  · have h := st_e0_2 (j - 40) (by omega)
    rw [show 40 + (j - 40) = j by omega] at h
    exact List.mem_of_getElem? h
  by_cases h60 : j < 77
  · have h := st_e0_3 (j - 60) (by omega)
    rw [show 60 + (j - 60) = j by omega] at h
    exact List.mem_of_getElem? h
  omega
theorem st_e1_0 : ∀ j, j < 12 → (flatC nrw)[149 + j]? = some (Cond.eq (.elem (.field (.string "LastMark$Tokens" 64) "java/lang/String" "value" "[B") (.int (Int32.ofNat (0 + j)))) (.int (bS.getD (0 + j) 0))) := by decide +kernel
theorem st_e1 : ∀ j, j < 12 → Cond.eq (.elem (.field (.string "LastMark$Tokens" 64) "java/lang/String" "value" "[B") (.int (Int32.ofNat j))) (.int (bS.getD j 0)) ∈ flatC nrw := by
  intro j hj
  by_cases h0 : j < 12
  · have h := st_e1_0 (j - 0) (by omega)
    rw [show 0 + (j - 0) = j by omega] at h
    exact List.mem_of_getElem? h
  omega
theorem st_e2_0 : ∀ j, j < 20 → (flatC nrw)[65 + j]? = some (Cond.eq (.elem (.field (.string "LastMark$Tokens" 76) "java/lang/String" "value" "[B") (.int (Int32.ofNat (0 + j)))) (.int (bW.getD (0 + j) 0))) := by decide +kernel
theorem st_e2_1 : ∀ j, j < 20 → (flatC nrw)[85 + j]? = some (Cond.eq (.elem (.field (.string "LastMark$Tokens" 76) "java/lang/String" "value" "[B") (.int (Int32.ofNat (20 + j)))) (.int (bW.getD (20 + j) 0))) := by decide +kernel
theorem st_e2_2 : ∀ j, j < 20 → (flatC nrw)[105 + j]? = some (Cond.eq (.elem (.field (.string "LastMark$Tokens" 76) "java/lang/String" "value" "[B") (.int (Int32.ofNat (40 + j)))) (.int (bW.getD (40 + j) 0))) := by decide +kernel
theorem st_e2_3 : ∀ j, j < 20 → (flatC nrw)[125 + j]? = some (Cond.eq (.elem (.field (.string "LastMark$Tokens" 76) "java/lang/String" "value" "[B") (.int (Int32.ofNat (60 + j)))) (.int (bW.getD (60 + j) 0))) := by decide +kernel
theorem st_e2 : ∀ j, j < 80 → Cond.eq (.elem (.field (.string "LastMark$Tokens" 76) "java/lang/String" "value" "[B") (.int (Int32.ofNat j))) (.int (bW.getD j 0)) ∈ flatC nrw := by
  intro j hj
  by_cases h0 : j < 20
  · have h := st_e2_0 (j - 0) (by omega)
    rw [show 0 + (j - 0) = j by omega] at h
    exact List.mem_of_getElem? h
  by_cases h20 : j < 40
  · have h := st_e2_1 (j - 20) (by omega)
    rw [show 20 + (j - 20) = j by omega] at h
    exact List.mem_of_getElem? h
  by_cases h40 : j < 60
  · have h := st_e2_2 (j - 40) (by omega)
    rw [show 40 + (j - 40) = j by omega] at h
    exact List.mem_of_getElem? h
  by_cases h60 : j < 80
  · have h := st_e2_3 (j - 60) (by omega)
    rw [show 60 + (j - 60) = j by omega] at h
    exact List.mem_of_getElem? h
  omega
theorem st_el : ∀ i, i < 3 → ∀ j, j < lnS.getD i 0 → Cond.eq (.elem (.field (tmS i) "java/lang/String" "value" "[B") (.int (Int32.ofNat j))) (.int ((byS.getD i []).getD j 0)) ∈ flatC nrw := by
  intro i hi
  have h : i = 0 ∨ i = 1 ∨ i = 2 := by omega
  rcases h with rfl | rfl | rfl
  · exact st_e0
  · exact st_e1
  · exact st_e2
theorem st_ne : ∀ i, i < 3 → ∀ j, j < 3 → i ≠ j → Cond.not (Cond.eq (tmS i) (tmS j)) ∈ flatC nrw ∨ Cond.not (Cond.eq (tmS j) (tmS i)) ∈ flatC nrw := by decide +kernel
theorem st_119 : Cond.eq (.string "LastMark$Tokens" 64) (.string "LastMarkModel" 119) ∈ flatC nrw := by decide +kernel
theorem st_cs : Cond.eq (.static "java/lang/String" "COMPACT_STRINGS" "Z") (.int 1) ∈ flatC nrw := by decide +kernel
theorem st_fm : Cond.isRef (.static "jdk/internal/util/Preconditions" "SIOOBE_FORMATTER" "Ljava/util/function/BiFunction;") ∈ flatC nrw := by decide +kernel
theorem st_w1 : Cond.laysStatic "java/lang/String" "COMPACT_STRINGS" "Z" ∈ lw_tbl ∧ Cond.laysStatic "jdk/internal/util/Preconditions" "SIOOBE_FORMATTER" "Ljava/util/function/BiFunction;" ∈ lw_tbl ∧ Cond.initialized "java/lang/String" ∈ lw_tbl ∧ Cond.initialized "jdk/internal/util/Preconditions" ∈ lw_tbl ∧ Cond.castable "[I" "java/lang/Cloneable" ∈ lw_tbl := by decide +kernel
theorem st_w2 : Cond.arrayOver (.object (RC 5)) ∈ lw_tbl ∧ Cond.arrayOver (.object (RC 10)) ∈ lw_tbl ∧ Cond.arrayOver (.object (RC 8)) ∈ lw_tbl ∧ Cond.arrayOver (.object (RC 3)) ∈ lw_tbl := by decide +kernel
theorem st_w3 : Cond.arrayClass .int ∈ lw_tbl ∧ Cond.arrayClass .long ∈ lw_tbl ∧ Cond.arrayClass .byte ∈ lw_tbl ∧ Cond.arrayClass .short ∈ lw_tbl ∧ Cond.arrayClass .boolean ∈ lw_tbl := by decide +kernel
theorem st_w4 : Cond.stringRef "LastMark$Tokens" 64 ";:+-*()[]=<>" ∈ lw_tbl ∧ Cond.stringRef "LastMark$Tokens" 76 "sheetrow  hand habitdrawnlast may  odds or   and  not  cell kind near left far  " ∈ lw_tbl ∧ Cond.stringRef "LastMarkModel" 119 ";:+-*()[]=<>" ∈ lw_tbl ∧ Cond.stringRef "LastMarkModel" 81 " sheet row hand habit drawn last may odds cell kind near left far and or not " ∈ lw_tbl := by decide +kernel
theorem arr_prim {args : Array Value} {s : State} {ty : FieldType} (h : (Cond.arrayClass ty).before args s = true) (hra : ∀ cA, s.vm.findClass ("[" ++ ty.toString) = some cA → va_RA s cA ty) : ∃ cA : ClassId, ArrOfT s cA ty ∧ va_RA s cA ty := by
  obtain ⟨cA, k, comp, h1, h2, h3⟩ := Cond.arrayClass_spec h
  exact ⟨cA, fun n z => ⟨(fun _ h => by cases h), k, h2, comp, h3⟩, hra cA h1⟩
theorem arr_ref {args : Array Value} {s : State} {C : String} (h : (Cond.arrayOver (.object C)).before args s = true) : ∃ cA : ClassId, ArrOfT s cA (.object C) ∧ va_RA s cA (.object C) := by
  obtain ⟨comp, cA, k, h1, -, h2, h3, h4⟩ := Cond.arrayOver_spec h
  exact ⟨cA, fun n z => ⟨(fun _ h => by cases h), k, h2, comp, h3⟩, k, comp, h2, h3, h1, h4⟩
theorem sT_cases {own i t : Nat} (h : sT own i = some t) : (own = 9 ∧ i = 64 ∧ t = 1) ∨ (own = 9 ∧ i = 76 ∧ t = 2) ∨ (own = 12 ∧ i = 119 ∧ t = 1) ∨ (own = 12 ∧ i = 81 ∧ t = 0) := by
  have hown : own < 20 := by
    apply Decidable.byContradiction
    intro hn
    have : nth sTt own [] = [] := by
      match own, hn with
      | k + 20, _ => rfl
      | 0, hn => exact absurd (by decide) hn
    unfold sT at h
    rw [this] at h
    cases h
  have hmem := lkp_mem _ h
  have key : ∀ w, w < 20 → ∀ q ∈ nth sTt w [], (w = 9 ∧ q.1 = 64 ∧ q.2 = 1) ∨ (w = 9 ∧ q.1 = 76 ∧ q.2 = 2) ∨ (w = 12 ∧ q.1 = 119 ∧ q.2 = 1) ∨ (w = 12 ∧ q.1 = 81 ∧ q.2 = 0) := by decide +kernel
  exact key own hown _ hmem
end
section
/-! the start's context; the law out of a run of the small machine -/
theorem KOK_h00 (L : Nat) (xs : Nat → Int32) (fm : Nat) : KOK (h00 L xs fm) := by
  have ek : ∀ x, kdA (h00 L xs fm) x = if x = 1000000 then 40 else if 1000001 ≤ x ∧ x ≤ 1000003 then 13 else if 1000005 ≤ x ∧ x ≤ 1000007 then 42 else 99 := fun x => rfl
  have ez : szA (h00 L xs fm) = 0 := rfl
  refine ⟨fun x => ?_, fun x hx => ?_, by rw [ez]; omega⟩
  · rw [ek, ez]
    unfold okK
    constructor
    · intro h
      split at h
      · omega
      · split at h
        · omega
        · split at h <;> omega
    · intro h; omega
  · rw [ek] at hx
    split at hx
    · omega
    · split at hx
      · omega
      · split at hx <;> omega
theorem HR_h00 (B : Nat) (o : Nat → Nat) (D : va_G) (ca : Nat → ClassId) (L : Nat) (xs : Nat → Int32) (fm : Nat) {H : Heap} (h : H.size = B) : HR B o D ca (h00 L xs fm) (h00 L xs fm) H := by
  refine ⟨h, fun x h1 h2 => ?_, KOK_h00 L xs fm, fun x _ => ⟨rfl, rfl, fun _ => rfl, fun _ => rfl⟩⟩
  have : x ≤ 0 := h2
  omega
theorem start_K {args : Array Value} {s : State} (hts : ∀ w ∈ lw_tbl, w.before args s = true) : ∃ (D : va_G) (ca : Nat → ClassId), va_K D vwCl (tysA ca) s := by
  have hgd : ∀ w ∈ lw_gd, w.before args s = true := fun w hw => hts w (List.mem_filter.mp hw).1
  have h1 : ∀ c : Nat, ∃ q : ClassId × (Nat → Nat), c < 13 → u_Kn s (RC c) (TC c) (fN c) q.1 q.2 := by
    intro c
    by_cases hc : c < 13
    · obtain ⟨cC, iS, hk⟩ := u_known hgd (hin_c hc) (hts _ (inst_ok c hc).1)
      exact ⟨(cC, iS), fun _ => hk⟩
    · exact ⟨(0, fun _ => 0), fun q => absurd q hc⟩
  obtain ⟨f, hf⟩ := Classical.axiomOfChoice h1
  obtain ⟨c20, a20⟩ := arr_prim (hts _ st_w3.1) (fun _ h => h)
  obtain ⟨c21, a21⟩ := arr_prim (hts _ st_w3.2.1) (fun _ h => h)
  obtain ⟨c22, a22⟩ := arr_prim (hts _ st_w3.2.2.1) (fun _ h => h)
  obtain ⟨c23, a23⟩ := arr_prim (hts _ st_w3.2.2.2.1) (fun _ h => h)
  obtain ⟨c24, a24⟩ := arr_prim (hts _ st_w3.2.2.2.2) (fun _ h => h)
  obtain ⟨c30, a30⟩ := arr_ref (hts _ st_w2.1)
  obtain ⟨c31, a31⟩ := arr_ref (hts _ st_w2.2.1)
  obtain ⟨c32, a32⟩ := arr_ref (hts _ st_w2.2.2.1)
  obtain ⟨c33, a33⟩ := arr_ref (hts _ st_w2.2.2.2)
  refine ⟨(fun c => (f c).1, fun c => (f c).2), fun t => if t = 20 then c20 else if t = 21 then c21 else if t = 22 then c22 else if t = 23 then c23 else if t = 24 then c24 else if t = 30 then c30 else if t = 31 then c31 else if t = 32 then c32 else c33, fun c q hq => ?_, fun k q hq => ?_⟩
  · have hc : c < 13 := (List.getElem?_eq_some_iff.mp hq).1
    have he := vw_at hc
    rw [hq] at he
    cases he
    exact hf c hc
  · have hk : k < 9 := (List.getElem?_eq_some_iff.mp hq).1
    have h2 : k = 0 ∨ k = 1 ∨ k = 2 ∨ k = 3 ∨ k = 4 ∨ k = 5 ∨ k = 6 ∨ k = 7 ∨ k = 8 := by omega
    rcases h2 with rfl | rfl | rfl | rfl | rfl | rfl | rfl | rfl | rfl
    · cases hq; exact a20
    · cases hq; exact a21
    · cases hq; exact a22
    · cases hq; exact a23
    · cases hq; exact a24
    · cases hq; exact a30
    · cases hq; exact a31
    · cases hq; exact a32
    · cases hq; exact a33
def oS (b : Nat) (adK adV : Nat → Nat) (fa : Nat) (x : Nat) : Nat := if x = 1000000 then b else if x = 1000020 then fa else if x < 1000005 then adK (x - 1000001) else adV (x - 1000005)
theorem start_ctx {b L : Nat} {xs : Nat → Int32} {s : State} (hL : L ≤ 3072) (hts : ∀ w ∈ lw_tbl, w.before #[Value.ref b] s = true) (hX : va_X b L xs s s.heap) (hbl : b < s.heap.size) (hn : nrw.before #[Value.ref b] s = true) :
    ∃ (o : Nat → Nat) (D : va_G) (ca : Nat → ClassId) (fm : Nat), (fm = 0 ∨ fm = 1000020) ∧ o 1000000 = b ∧ Ctx s.heap.size o D ca (h00 L xs fm) s := by
  have hfl := flat_of_before _ hn
  have hA : ∀ a : Nat, a < s.heap.size → ¬ owA s.heap.size a := fun a h q => Nat.lt_irrefl _ (Nat.lt_of_lt_of_le h q)
  obtain ⟨D, ca, hK⟩ := start_K hts
  obtain ⟨adK, adV, hS, hev⟩ := vk_Sof (N := 3) (tm := tmS) (len := lnS) (byt := byS) (A := owA s.heap.size) (args := #[Value.ref b]) (s := s)
    (fun i hi => by have h : i = 0 ∨ i = 1 ∨ i = 2 := by omega
                    rcases h with rfl | rfl | rfl <;> decide)
    (fun i hi => hfl _ (st_ex i hi)) (fun i hi => hfl _ (st_co i hi)) (fun i hi => hfl _ (st_ar i hi)) (fun i hi => hfl _ (st_le i hi)) (fun i hi j hj => hfl _ (st_el i hi j hj))
    (fun i j hi hj hij => (st_ne i hi j hj hij).elim (fun q => Or.inl (hfl _ q)) (fun q => Or.inr (hfl _ q))) hA
  have hZ1 : va_Z "java/lang/String" "COMPACT_STRINGS" "Z" (.int 1) (owA s.heap.size) s s.heap := by
    exact va_Zof (hts _ st_w1.1) (hts _ st_w1.2.2.1) (va_eqi (hfl _ st_cs)) hA
  have hZ2 := va_Zqof (A := owA s.heap.size) (hts _ st_w1.2.1) (hts _ st_w1.2.2.2.1) (hfl _ st_fm) hA
  have hex : ∃ (fm fa : Nat), (fm = 0 ∨ fm = 1000020) ∧ va_Z "jdk/internal/util/Preconditions" "SIOOBE_FORMATTER" "Ljava/util/function/BiFunction;" (va_rf (tN s.heap.size (oS b adK adV fa) fm)) (owA s.heap.size) s s.heap := by
    rcases hZ2 with h | ⟨t, h⟩
    · exact ⟨0, 0, Or.inl rfl, h⟩
    · refine ⟨1000020, t, Or.inr rfl, ?_⟩
      have e : va_rf (tN s.heap.size (oS b adK adV t) 1000020) = .ref t := by
        show va_rf (if (1000020 : Nat) = 0 then none else some (if (1000020 : Nat) < 1000000 then _ else oS b adK adV t 1000020)) = _
        rw [if_neg (by decide), if_neg (by decide)]
        rfl
      rw [e]
      exact h
  obtain ⟨fm, fa, hfm, hZ3⟩ := hex
  have ek : ∀ x, kdA (h00 L xs fm) x = if x = 1000000 then 40 else if 1000001 ≤ x ∧ x ≤ 1000003 then 13 else if 1000005 ≤ x ∧ x ≤ 1000007 then 42 else 99 := fun x => rfl
  have k42 : ∀ x, kdA (h00 L xs fm) x = 42 → x = 1000005 ∨ x = 1000006 ∨ x = 1000007 := by
    intro x hx
    rw [ek] at hx
    split at hx
    · cases hx
    · split at hx
      · cases hx
      · split at hx
        · omega
        · cases hx
  have k13 : ∀ x, kdA (h00 L xs fm) x = 13 → x = 1000001 ∨ x = 1000002 ∨ x = 1000003 := by
    intro x hx
    rw [ek] at hx
    split at hx
    · cases hx
    · split at hx
      · omega
      · split at hx <;> cases hx
  have k40 : ∀ x, kdA (h00 L xs fm) x = 40 → x = 1000000 := by
    intro x hx
    rw [ek] at hx
    split at hx
    · assumption
    · split at hx
      · cases hx
      · split at hx <;> cases hx
  have str : ∀ i, i < 3 → va_O "java/lang/String" (adK i) (owA s.heap.size) s s.heap ∧ va_OF "java/lang/String" "coder" "B" (.int 0) (adK i) (owA s.heap.size) s s.heap ∧ va_OF "java/lang/String" "value" "[B" (.ref (adV i)) (adK i) (owA s.heap.size) s s.heap := fun i hi => ⟨(hS.1 i hi).1, (hS.1 i hi).2.1, (hS.1 i hi).2.2.1⟩
  refine ⟨oS b adK adV fa, D, ca, fm, hfm, rfl, hK, (hK.2 0 _ rfl).2, fun x _ hx => ?_, fun x _ hx => ?_, fun x _ hx => ?_, hZ1, hZ3, fun own i t ht => ?_, fun w hw hn => ?_, va_Nw.of rfl (hts _ st_w1.2.2.2.2), va_AO.of (hts _ st_w2.1), va_AO.of (hts _ st_w2.2.1), va_AO.of (hts _ st_w2.2.2.1), va_AO.of (hts _ st_w2.2.2.2)⟩
  · obtain rfl := k40 x hx
    obtain ⟨scr, q1, q2, q3, q4, q5⟩ := hX
    exact ⟨scr, q1, q2, q3, Nat.le_of_eq q4.symm, by rw [q4]; rfl, q5, hA b hbl⟩
  · rcases k42 x hx with rfl | rfl | rfl
    · exact (hS.1 0 (by omega)).2.2.2
    · exact (hS.1 1 (by omega)).2.2.2
    · exact (hS.1 2 (by omega)).2.2.2
  · obtain ⟨i, hi, rfl⟩ : ∃ i, i < 3 ∧ x = 1000001 + i := by
      have := k13 x hx
      exact ⟨x - 1000001, by omega, by omega⟩
    have e1 : oS b adK adV fa (1000001 + i) = adK i := by
      unfold oS
      rw [if_neg (by omega), if_neg (by omega), if_pos (by omega), show 1000001 + i - 1000001 = i by omega]
    have e2 : oS b adK adV fa (1000005 + i) = adV i := by
      unfold oS
      rw [if_neg (by omega), if_neg (by omega), if_neg (by omega), show 1000005 + i - 1000005 = i by omega]
    have e3 : rvA (h00 L xs fm) (1000001 + i) 0 = 1000005 + i := by
      show (if 1000001 ≤ 1000001 + i ∧ 1000001 + i ≤ 1000003 then 1000001 + i + 4 else _) = _
      rw [if_pos (by omega)]
      omega
    have e4 : ivA (h00 L xs fm) (1000001 + i) 1 = 0 := by
      show (if 1000001 + i = 1000000 then _ else if 1000001 + i = 1000009 then _ else if 1000001 + i = 1000005 then _ else if 1000001 + i = 1000006 then _ else if 1000001 + i = 1000007 then _ else (0 : Int32)) = 0
      rw [if_neg (by omega), if_neg (by omega), if_neg (by omega), if_neg (by omega), if_neg (by omega)]
    have e5 : va_rf (tN s.heap.size (oS b adK adV fa) (1000005 + i)) = .ref (adV i) := by
      unfold tN
      rw [if_neg (by omega), adA_out _ _ (by omega), e2]
      rfl
    rw [e1, e3, e4, e5]
    exact str i hi
  · rcases sT_cases ht with ⟨rfl, rfl, rfl⟩ | ⟨rfl, rfl, rfl⟩ | ⟨rfl, rfl, rfl⟩ | ⟨rfl, rfl, rfl⟩
    · exact ⟨_, vk_R.of (hts _ st_w4.1) (hev 1 (by omega))⟩
    · exact ⟨_, vk_R.of (hts _ st_w4.2.1) (hev 2 (by omega))⟩
    · exact ⟨_, vk_R.of (hts _ st_w4.2.2.1) (va_eqR (hfl _ st_119) (hev 1 (by omega)))⟩
    · exact ⟨_, vk_R.of (hts _ st_w4.2.2.2) (hev 0 (by omega))⟩
  · cases w <;> first | (cases hn; done) | exact va_Nw.of rfl (hts _ hw)
/-- what is left to prove: the law's run on the small machine -/
def LawRun : Prop := ∀ (L : Nat) (xs : Nat → Int32) (fm : Nat), L ≤ 3072 → (fm = 0 ∨ fm = 1000020) → Safe 200 326 (0, [.ref 1000000, unV, unV, unV], [], h00 L xs fm) (fun v h' => v = some (.int 1) ∧ szA h' ≤ 600000 ∧ usA h' ≤ 7302250)
theorem law_ret {u : Nat} {i : Instr} {pc k : Nat} {L S : List Value} {h h' : AH} {g : List Bool} (hk : okLen i k = true) (hm : mstep (owM u) (rtM u) i pc k L S h = some (g, .inr (.inr (.inr (.inr (some (.int 1), h')))))) : i = .ireturn ∧ k = 1 ∧ S = [.int 1] ∧ h = h' := by
  cases i
  case ireturn =>
    refine ⟨rfl, eq_of_beq hk, ?_⟩
    simp only [mstep, rtI] at hm
    split at hm
    · split at hm <;> cases hm <;> exact ⟨rfl, rfl⟩
    · cases hm
  all_goals first
    | (cases hm; done)
    | (simp only [mstep, alR, asR, nxt, nxtG, ldI, ldJ, ldR, slI, slJ, slR, nwQ, nwP, nwR, lnR, alI, alJ, asI, asB, asJ, inJ, gfR, pfR, gsR, jmp, brn, brnG, uI, bI, dI, bJ, dJ, sJ, icI, isp, ins, mthI, mthJ, inv, cll, swM] at hm; (repeat' (split at hm)) <;> cases hm; done)
theorem whole_open (hFM : ∀ l, FMall l) (hLR : LawRun) {p : Program} {e : Env} {s : State} {m : MethodId} {below : List Frame} {meth : Method} {c : Code} (l : Launch) {b L : Nat} {xs : Nat → Int32} (hL : L ≤ 3072) (C0 : lw_At p s m meth c b L xs) : W p l e room_1 s m #[Value.ref b] below meth c s.heap [] 0 0 (lw_Z below #[Value.ref b] s) (entryFrame m ([Value.ref b] : List Value).toArray 4) := by
  obtain ⟨hx, hb, hr, hml, hown, hts, hX, hbl, hlocks, hn⟩ := C0
  obtain ⟨o, D, ca, fm, hfm, ho, hC⟩ := start_ctx hL hts hX hbl hn
  obtain ⟨N, n, v, h', hrun, hv, hz, hu⟩ := hLR L xs fm hL hfm
  subst hv
  have hgd : ∀ w ∈ lw_gd, w.before #[Value.ref b] s = true := fun w hw => hts w (List.mem_filter.mp hw).1
  have F : FX s.heap.size o D ca (h00 L xs fm) 326 p s m #[Value.ref b] meth c := ⟨hx, hb, hml, hown, hgd, fun q => absurd q (by decide), hC, Nat.le_refl _⟩
  have hroom1 : (1 : Nat) ≤ room_1.frames := by decide
  have hroom2 : (50 : Nat) ≤ room_1.locals := by decide
  have hbody := body_sound (l := l) (e := e) (R := room_1) (below := below) (Q := lw_Z below #[Value.ref b] s) (z0 := 0) (u0 := 0) (d := 200) (N := N) (r := (some (.int 1), h')) F (hFM l p e room_1 s m _ below meth c _ 326 hx hb hml hown hgd hroom1 hroom2) cd_326 (fun w as h r q1 q2 q3 q4 q5 => met_all l _ _ _ _ _ (hFM l) cd_all 200 N w as h r q1 q2 q3 q4 q5) (by decide) (by decide) (by show szA h' ≤ 0 + 600000; omega) (by show usA h' ≤ 0 + 7302250; omega) (by show szA h' < 1000000; omega)
    (fun pc i k L1 S h g hd hk hm hg => by
      obtain ⟨rfl, rfl, rfl, rfl⟩ := law_ret hk hm
      intro H locs ls hR hLR hS
      refine va_forget (fun q hq => hS.2.2 q hq) ?_
      exact W.widen (by show szA h - 0 ≤ 600000; omega) (by show usA h - 0 ≤ 7302250; omega) (lw_ret hx hb hr hlocks hd))
    n _ hrun (Nat.zero_le _) (Nat.zero_le _)
  have hW := hbody s.heap [] _ (HR_h00 _ _ _ _ _ _ _ rfl) (ent_LR s.heap.size o 326 [.ref 1000000] rfl (by decide)) va_S.rf
  have e1 : ([.ref 1000000] : List Value).map (tV s.heap.size o) = [.ref b] := by
    rw [List.map_cons, tV_r _ _ (by decide), adA_out _ _ (by decide), ho]
    rfl
  rw [e1] at hW
  rw [lg_entry_eq]
  exact hW
end
section
/-! Math.floorMod -/
def fm_y : MethodName := ⟨"java/lang/Math", "floorMod", "(II)I"⟩
theorem fm_0 : decode cJ9_floorMod_7cf53 0 = .ok (.iload_n 0, 1) := by decide +kernel
theorem fm_1 : decode cJ9_floorMod_7cf53 1 = .ok (.iload_n 1, 1) := by decide +kernel
theorem fm_2 : decode cJ9_floorMod_7cf53 2 = .ok (.irem, 1) := by decide +kernel
theorem fm_3 : decode cJ9_floorMod_7cf53 3 = .ok (.istore_n 2, 1) := by decide +kernel
theorem fm_4 : decode cJ9_floorMod_7cf53 4 = .ok (.iload_n 0, 1) := by decide +kernel
theorem fm_5 : decode cJ9_floorMod_7cf53 5 = .ok (.iload_n 1, 1) := by decide +kernel
theorem fm_6 : decode cJ9_floorMod_7cf53 6 = .ok (.ixor, 1) := by decide +kernel
theorem fm_7 : decode cJ9_floorMod_7cf53 7 = .ok (.ifCond .ge 11, 3) := by decide +kernel
theorem fm_10 : decode cJ9_floorMod_7cf53 10 = .ok (.iload_n 2, 1) := by decide +kernel
theorem fm_11 : decode cJ9_floorMod_7cf53 11 = .ok (.ifCond .eq 7, 3) := by decide +kernel
theorem fm_14 : decode cJ9_floorMod_7cf53 14 = .ok (.iload_n 2, 1) := by decide +kernel
theorem fm_15 : decode cJ9_floorMod_7cf53 15 = .ok (.iload_n 1, 1) := by decide +kernel
theorem fm_16 : decode cJ9_floorMod_7cf53 16 = .ok (.iadd, 1) := by decide +kernel
theorem fm_17 : decode cJ9_floorMod_7cf53 17 = .ok (.ireturn, 1) := by decide +kernel
theorem fm_18 : decode cJ9_floorMod_7cf53 18 = .ok (.iload_n 2, 1) := by decide +kernel
theorem fm_19 : decode cJ9_floorMod_7cf53 19 = .ok (.ireturn, 1) := by decide +kernel
theorem fm_noRow0 : (NativeRow.find? natives fm_y.cls fm_y.name fm_y.desc).isNone = true := by decide +kernel
theorem fm_noRow (p : Program) : NativeRow.find? p.tables.natives fm_y.cls fm_y.name fm_y.desc = none := by
  cases p <;> exact Option.isNone_iff_eq_none.mp fm_noRow0
def fm_spec (a b : Int32) : Spec := { pre := .and (.code fm_y cJ9_floorMod_7cf53 3 (some .int)) (.and (.count 2) (.and (.eq (.arg 0) (.int a)) (.eq (.arg 1) (.int b)))), post := .and .returned (.eq .result (.int (fmF a b))), changes := some [] }
set_option maxHeartbeats 4000000 in
theorem fm_meets (l : Launch) (a b : Int32) (hb0 : ¬ b = 0) : MeetsLoose l fm_y (fm_spec a b) := by
  refine MeetsLoose.of_body_ov (code := cJ9_floorMod_7cf53) (maxLocals := 3) (ret := some .int) fm_noRow ?_ ?_
  · intro args s h
    simp only [fm_spec, Cond.before_and, Bool.and_eq_true] at h
    exact h.1
  · intro p e s m args below meth c s₁ B
    have hpre := B.pre
    simp only [fm_spec, Cond.before_and, Bool.and_eq_true] at hpre
    have hargs : args = #[.int a, .int b] := by
      have h1 := va_eqt hpre.2.2.1
      have h2 := va_eqt hpre.2.2.2
      have h3 : args.size = 2 := by simpa [Cond.before, Cond.holds, Cond.value] using hpre.2.1
      have h4 : args[0]? = some (.int a) := h1
      have h5 : args[1]? = some (.int b) := h2
      apply Array.ext
      · simpa using h3
      · intro i hi1 hi2
        have hi : i = 0 ∨ i = 1 := by omega
        rcases hi with rfl | rfl
        · simpa [Array.getElem?_eq_getElem hi1] using h4
        · simpa [Array.getElem?_eq_getElem hi1] using h5
    subst hargs
    have hloc : argsToLocals #[.int a, .int b] 3 = #[.val (.int a), .val (.int b), .unset] := rfl
    obtain ⟨fs, hfs⟩ := handOver_isSome (s := s₁) (some (.int (fmF a b))) B.hears₁
    refine ⟨s₁.setFrames fs, .returned (some (.int (fmF a b))), ?_, B.here.running, B.ended hfs (by intro h; cases h), ?_, State.sameBut_nil.mpr ?_⟩
    · have hst : ∀ v : Int32, storeLocals #[.val (.int a), .val (.int b), .unset] 2 (.int v) = some #[.val (.int a), .val (.int b), .val (.int v)] := fun v => rfl
      unfold entryFrame; rw [hloc]
      refine Steps.instrAtOv (c := _) (by simpa using B.here) ?_
      simp [jvm, wpRun, exec, B.here.top, B.exec, B.bytes, fm_0]
      refine Steps.instrAtOv (c := _) (by simpa using B.here) ?_
      simp [jvm, wpRun, exec, B.here.top, B.exec, B.bytes, fm_1]
      refine Steps.instrAtOv (c := _) (by simpa using B.here) ?_
      simp [jvm, wpRun, exec, B.here.top, B.exec, B.bytes, fm_2, hb0]
      refine Steps.instrAtOv (c := _) (by simpa using B.here) ?_
      simp [jvm, wpRun, exec, B.here.top, B.exec, B.bytes, fm_3, hst]
      refine Steps.instrAtOv (c := _) (by simpa using B.here) ?_
      simp [jvm, wpRun, exec, B.here.top, B.exec, B.bytes, fm_4]
      refine Steps.instrAtOv (c := _) (by simpa using B.here) ?_
      simp [jvm, wpRun, exec, B.here.top, B.exec, B.bytes, fm_5]
      refine Steps.instrAtOv (c := _) (by simpa using B.here) ?_
      simp [jvm, wpRun, exec, B.here.top, B.exec, B.bytes, fm_6]
      by_cases h1 : 0 ≤ a ^^^ b
      · have e1 : fmF a b = a - a / b * b := by
          unfold fmF
          rw [if_neg]
          rintro ⟨h2, -⟩
          exact absurd h2 (Int32.not_lt.mpr h1)
        rw [e1] at hfs
        refine Steps.instrAtOv (c := _) (by simpa using B.here) ?_
        simp [jvm, wpRun, exec, B.here.top, B.exec, B.bytes, fm_7, ifCond.holds, h1]
        refine Steps.instrAtOv (c := _) (by simpa using B.here) ?_
        simp [jvm, wpRun, exec, B.here.top, B.exec, B.bytes, fm_18]
        refine Steps.instrAtOv (c := _) (by simpa using B.here) ?_
        simp [jvm, wpRun, exec, B.here.top, B.exec, B.bytes, fm_19, B.method₁, B.returns, narrow]
        intro acts
        rw [ret_to B.frames₁ B.method₁ B.notSynchronized rfl rfl hfs]
        exact Steps.refl _
      · by_cases h2 : a - a / b * b = 0
        · have e1 : fmF a b = a - a / b * b := by
            unfold fmF
            rw [if_neg]
            rintro ⟨-, h3⟩
            exact h3 h2
          rw [e1, h2] at hfs
          refine Steps.instrAtOv (c := _) (by simpa using B.here) ?_
          simp [jvm, wpRun, exec, B.here.top, B.exec, B.bytes, fm_7, ifCond.holds, h1]
          refine Steps.instrAtOv (c := _) (by simpa using B.here) ?_
          simp [jvm, wpRun, exec, B.here.top, B.exec, B.bytes, fm_10]
          refine Steps.instrAtOv (c := _) (by simpa using B.here) ?_
          simp [jvm, wpRun, exec, B.here.top, B.exec, B.bytes, fm_11, ifCond.holds, h2]
          refine Steps.instrAtOv (c := _) (by simpa using B.here) ?_
          simp [jvm, wpRun, exec, B.here.top, B.exec, B.bytes, fm_18]
          refine Steps.instrAtOv (c := _) (by simpa using B.here) ?_
          simp [jvm, wpRun, exec, B.here.top, B.exec, B.bytes, fm_19, B.method₁, B.returns, narrow]
          intro acts
          rw [ret_to B.frames₁ B.method₁ B.notSynchronized rfl rfl hfs]
          exact Steps.refl _
        · have e1 : fmF a b = a - a / b * b + b := by
            unfold fmF
            rw [if_pos]
            exact ⟨Int32.not_le.mp h1, h2⟩
          rw [e1] at hfs
          refine Steps.instrAtOv (c := _) (by simpa using B.here) ?_
          simp [jvm, wpRun, exec, B.here.top, B.exec, B.bytes, fm_7, ifCond.holds, h1]
          refine Steps.instrAtOv (c := _) (by simpa using B.here) ?_
          simp [jvm, wpRun, exec, B.here.top, B.exec, B.bytes, fm_10]
          refine Steps.instrAtOv (c := _) (by simpa using B.here) ?_
          simp [jvm, wpRun, exec, B.here.top, B.exec, B.bytes, fm_11, ifCond.holds, h2]
          refine Steps.instrAtOv (c := _) (by simpa using B.here) ?_
          simp [jvm, wpRun, exec, B.here.top, B.exec, B.bytes, fm_14]
          refine Steps.instrAtOv (c := _) (by simpa using B.here) ?_
          simp [jvm, wpRun, exec, B.here.top, B.exec, B.bytes, fm_15]
          refine Steps.instrAtOv (c := _) (by simpa using B.here) ?_
          simp [jvm, wpRun, exec, B.here.top, B.exec, B.bytes, fm_16]
          refine Steps.instrAtOv (c := _) (by simpa using B.here) ?_
          simp [jvm, wpRun, exec, B.here.top, B.exec, B.bytes, fm_17, B.method₁, B.returns, narrow]
          intro acts
          rw [ret_to B.frames₁ B.method₁ B.notSynchronized rfl rfl hfs]
          exact Steps.refl _
    · simp [fm_spec, Cond.after, Cond.holds, Cond.value, Term.eval]
    · rw [State.frames_setFrames _ B.cur₁, B.back]
theorem fm_all (l : Launch) : FMall l := by
  intro p e R s m args below meth c Q u hx hb hml hown hgd hf hlo pc i H locs ls cells slots x y rest hd hmT hy hsz hcat hc hs K
  obtain ⟨pp, hw⟩ := wM hmT
  unfold mWc at hw
  rw [if_neg (by decide), if_neg (by decide), if_neg (by decide), if_pos rfl] at hw
  have hcode : (Cond.code fm_y cJ9_floorMod_7cf53 3 (some .int)).before args s = true := hgd _ (gd_of (w := .code fm_y cJ9_floorMod_7cf53 3 (some .int)) (by decide +kernel) rfl)
  intro T hT X
  obtain ⟨v, T', X', ⟨first, t, hpost⟩, hstep⟩ := X.staticByContractV hx hown (y := fm_y) (hgd _ (gd_of (inT_mem hw) rfl)) (hgd _ (gd_of (w := .static fm_y) (by decide +kernel) rfl)) (hgd _ (gd_of (w := .initialized "java/lang/Math") (by decide +kernel) rfl)) hcode (by decide)
    (fm_meets l x y hy) rfl rfl rfl rfl
    (fun args' first o s₂ h => by
      simp only [fm_spec, Cond.after_and, Bool.and_eq_true] at h
      cases o with
      | returned r => exact ⟨r, rfl⟩
      | threw y => simp [Cond.after, Cond.holds, Cond.value] at h)
    (g := F0 m pc ls (.int y :: .int x :: rest)) rfl (by rw [hml]; exact hsz) (argsL := [.int x, .int y]) (rest := rest)
    (fun sig hs => by
      have h : parseMethodDescriptor "(II)I" = some { parameters := [.int, .int], returnType := some .int } := by decide +kernel
      rw [show fm_y.desc = "(II)I" from rfl, h] at hs
      rw [← Option.some.inj hs]; rfl)
    rfl (by rw [hb]; exact hd)
    (fun vm' hW => by
      simp only [fm_spec, Cond.before_and, Bool.and_eq_true]
      refine ⟨?_, rfl, by simp [Cond.before, Cond.holds, Cond.value, Term.eval], by simp [Cond.before, Cond.holds, Cond.value, Term.eval]⟩
      have q := hcode
      rw [← Cond.code_setVm hW.alike] at q
      simp only [Cond.before, Cond.holds, Cond.value, State.methodNamed?, State.vm_setVm] at q ⊢
      exact q)
    (by show 0 + 1 ≤ R.frames; omega) (by show 2 * 0 + (rest.map fun v => v.category).sum + (3 + 11) + 0 ≤ R.locals; omega) (by show cells + 0 ≤ R.cells; omega) (by show slots + 0 ≤ R.slots; omega)
  have hv : v = some (.int (fmF x y)) := by
    rcases v with _ | w
    · simp [fm_spec, Cond.after, Cond.holds, Cond.value, Term.eval] at hpost
    · cases w <;> simp [fm_spec, Cond.after, Cond.holds, Cond.value, Term.eval] at hpost
      rename_i r
      rw [hpost]
  subst hv
  obtain ⟨t2, a1, b1⟩ := K (T.setVm T') hT X'
  exact ⟨t2, hstep t2 a1, b1⟩
theorem whole_of_run (hLR : LawRun) {p : Program} {e : Env} {s : State} {m : MethodId} {below : List Frame} {meth : Method} {c : Code} (l : Launch) {b L : Nat} {xs : Nat → Int32} (hL : L ≤ 3072) (C0 : lw_At p s m meth c b L xs) : W p l e room_1 s m #[Value.ref b] below meth c s.heap [] 0 0 (lw_Z below #[Value.ref b] s) (entryFrame m ([Value.ref b] : List Value).toArray 4) := whole_open fm_all hLR l hL C0
end

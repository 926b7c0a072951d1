section
-- ===== PART A: goes FIRST, ahead of the names: the tables' words, and 'selects' of the private methods out of them =====
/-- a private method of a class that the tables say can be made, by its rows of tables_1 -/
def lw_okq (q : MethodName × Nat) : Prop := (q.1.cls ≠ "java/lang/invoke/MethodHandle" ∧ q.1.cls ≠ "java/lang/invoke/VarHandle") ∧ Cond.instantiable q.1.cls q.2 ∈ tables_1 ∧ Cond.privateMethod q.1 ∈ tables_1 ∧ Cond.instanceMethod q.1 ∈ tables_1
theorem lw_p0 : lw_okq (⟨"BenchMemories$Turns", "worthBehind", "(II)I"⟩, 1) := ⟨⟨by decide +kernel, by decide +kernel⟩, List.mem_of_getElem? (i := 214) (by decide +kernel), List.mem_of_getElem? (i := 222) (by decide +kernel), List.mem_of_getElem? (i := 223) (by decide +kernel)⟩
theorem lw_p1 : lw_okq (⟨"BenchMemories$Garden", "memoryAt", "(I)I"⟩, 8) := ⟨⟨by decide +kernel, by decide +kernel⟩, List.mem_of_getElem? (i := 27) (by decide +kernel), List.mem_of_getElem? (i := 328) (by decide +kernel), List.mem_of_getElem? (i := 329) (by decide +kernel)⟩
theorem lw_p2 : lw_okq (⟨"BenchMemories$Course", "begin", "(LBenchMemories$Garden;)V"⟩, 6) := ⟨⟨by decide +kernel, by decide +kernel⟩, List.mem_of_getElem? (i := 103) (by decide +kernel), List.mem_of_getElem? (i := 402) (by decide +kernel), List.mem_of_getElem? (i := 403) (by decide +kernel)⟩
theorem lw_p3 : lw_okq (⟨"BenchMemories$Course", "tryAct", "(III)V"⟩, 6) := ⟨⟨by decide +kernel, by decide +kernel⟩, List.mem_of_getElem? (i := 103) (by decide +kernel), List.mem_of_getElem? (i := 433) (by decide +kernel), List.mem_of_getElem? (i := 434) (by decide +kernel)⟩
theorem lw_p4 : lw_okq (⟨"BenchMemories$Garden", "whyNotSit", "(I)I"⟩, 8) := ⟨⟨by decide +kernel, by decide +kernel⟩, List.mem_of_getElem? (i := 27) (by decide +kernel), List.mem_of_getElem? (i := 445) (by decide +kernel), List.mem_of_getElem? (i := 446) (by decide +kernel)⟩
theorem lw_p5 : lw_okq (⟨"BenchMemories$Garden", "whyNotChange", "(II)I"⟩, 8) := ⟨⟨by decide +kernel, by decide +kernel⟩, List.mem_of_getElem? (i := 27) (by decide +kernel), List.mem_of_getElem? (i := 453) (by decide +kernel), List.mem_of_getElem? (i := 454) (by decide +kernel)⟩
theorem lw_p6 : lw_okq (⟨"BenchMemories$Garden", "sitDown", "(I)V"⟩, 8) := ⟨⟨by decide +kernel, by decide +kernel⟩, List.mem_of_getElem? (i := 27) (by decide +kernel), List.mem_of_getElem? (i := 462) (by decide +kernel), List.mem_of_getElem? (i := 463) (by decide +kernel)⟩
theorem lw_p7 : lw_okq (⟨"BenchMemories$Garden", "swap", "(II)V"⟩, 8) := ⟨⟨by decide +kernel, by decide +kernel⟩, List.mem_of_getElem? (i := 27) (by decide +kernel), List.mem_of_getElem? (i := 468) (by decide +kernel), List.mem_of_getElem? (i := 469) (by decide +kernel)⟩
theorem lw_p8 : lw_okq (⟨"BenchMemories$Garden", "endDay", "()V"⟩, 8) := ⟨⟨by decide +kernel, by decide +kernel⟩, List.mem_of_getElem? (i := 27) (by decide +kernel), List.mem_of_getElem? (i := 473) (by decide +kernel), List.mem_of_getElem? (i := 474) (by decide +kernel)⟩
theorem lw_p9 : lw_okq (⟨"BenchMemories$Course", "countHand", "(I)V"⟩, 6) := ⟨⟨by decide +kernel, by decide +kernel⟩, List.mem_of_getElem? (i := 103) (by decide +kernel), List.mem_of_getElem? (i := 478) (by decide +kernel), List.mem_of_getElem? (i := 479) (by decide +kernel)⟩
theorem lw_p10 : lw_okq (⟨"BenchMemories$Rounds", "gatherStops", "(II)V"⟩, 4) := ⟨⟨by decide +kernel, by decide +kernel⟩, List.mem_of_getElem? (i := 138) (by decide +kernel), List.mem_of_getElem? (i := 539) (by decide +kernel), List.mem_of_getElem? (i := 540) (by decide +kernel)⟩
theorem lw_p11 : lw_okq (⟨"BenchMemories$Rounds", "measureLegs", "(LBenchMemories$Garden;)V"⟩, 4) := ⟨⟨by decide +kernel, by decide +kernel⟩, List.mem_of_getElem? (i := 138) (by decide +kernel), List.mem_of_getElem? (i := 549) (by decide +kernel), List.mem_of_getElem? (i := 550) (by decide +kernel)⟩
theorem lw_p12 : lw_okq (⟨"BenchMemories$Rounds", "cheapest", "(II)I"⟩, 4) := ⟨⟨by decide +kernel, by decide +kernel⟩, List.mem_of_getElem? (i := 138) (by decide +kernel), List.mem_of_getElem? (i := 555) (by decide +kernel), List.mem_of_getElem? (i := 556) (by decide +kernel)⟩
theorem lw_p13 : lw_okq (⟨"BenchMemories$Walks", "startsOf", "(LBenchMemories$Garden;I)I"⟩, 2) := ⟨⟨by decide +kernel, by decide +kernel⟩, List.mem_of_getElem? (i := 159) (by decide +kernel), List.mem_of_getElem? (i := 572) (by decide +kernel), List.mem_of_getElem? (i := 573) (by decide +kernel)⟩
theorem lw_p14 : lw_okq (⟨"BenchMemories$Walks", "startsOfWalks", "(II)I"⟩, 2) := ⟨⟨by decide +kernel, by decide +kernel⟩, List.mem_of_getElem? (i := 159) (by decide +kernel), List.mem_of_getElem? (i := 593) (by decide +kernel), List.mem_of_getElem? (i := 594) (by decide +kernel)⟩
theorem lw_p15 : lw_okq (⟨"BenchMemories$Order", "swapWith", "(I)V"⟩, 1) := ⟨⟨by decide +kernel, by decide +kernel⟩, List.mem_of_getElem? (i := 174) (by decide +kernel), List.mem_of_getElem? (i := 618) (by decide +kernel), List.mem_of_getElem? (i := 619) (by decide +kernel)⟩
def lw_privs_1 : List (MethodName × Nat) := [(⟨"BenchMemories$Turns", "worthBehind", "(II)I"⟩, 1), (⟨"BenchMemories$Garden", "memoryAt", "(I)I"⟩, 8), (⟨"BenchMemories$Course", "begin", "(LBenchMemories$Garden;)V"⟩, 6), (⟨"BenchMemories$Course", "tryAct", "(III)V"⟩, 6), (⟨"BenchMemories$Garden", "whyNotSit", "(I)I"⟩, 8), (⟨"BenchMemories$Garden", "whyNotChange", "(II)I"⟩, 8), (⟨"BenchMemories$Garden", "sitDown", "(I)V"⟩, 8), (⟨"BenchMemories$Garden", "swap", "(II)V"⟩, 8), (⟨"BenchMemories$Garden", "endDay", "()V"⟩, 8), (⟨"BenchMemories$Course", "countHand", "(I)V"⟩, 6), (⟨"BenchMemories$Rounds", "gatherStops", "(II)V"⟩, 4), (⟨"BenchMemories$Rounds", "measureLegs", "(LBenchMemories$Garden;)V"⟩, 4), (⟨"BenchMemories$Rounds", "cheapest", "(II)I"⟩, 4), (⟨"BenchMemories$Walks", "startsOf", "(LBenchMemories$Garden;I)I"⟩, 2), (⟨"BenchMemories$Walks", "startsOfWalks", "(II)I"⟩, 2), (⟨"BenchMemories$Order", "swapWith", "(I)V"⟩, 1)]
theorem lw_r1 : ∀ q ∈ lw_privs_1, lw_okq q := List.forall_mem_cons.mpr ⟨lw_p0, List.forall_mem_cons.mpr ⟨lw_p1, List.forall_mem_cons.mpr ⟨lw_p2, List.forall_mem_cons.mpr ⟨lw_p3, List.forall_mem_cons.mpr ⟨lw_p4, List.forall_mem_cons.mpr ⟨lw_p5, List.forall_mem_cons.mpr ⟨lw_p6, List.forall_mem_cons.mpr ⟨lw_p7, List.forall_mem_cons.mpr ⟨lw_p8, List.forall_mem_cons.mpr ⟨lw_p9, List.forall_mem_cons.mpr ⟨lw_p10, List.forall_mem_cons.mpr ⟨lw_p11, List.forall_mem_cons.mpr ⟨lw_p12, List.forall_mem_cons.mpr ⟨lw_p13, List.forall_mem_cons.mpr ⟨lw_p14, List.forall_mem_cons.mpr ⟨lw_p15, fun _ h => absurd h List.not_mem_nil⟩⟩⟩⟩⟩⟩⟩⟩⟩⟩⟩⟩⟩⟩⟩⟩
theorem lw_p16 : lw_okq (⟨"BenchMemories$Suspects", "countHolders", "(I)V"⟩, 5) := ⟨⟨by decide +kernel, by decide +kernel⟩, List.mem_of_getElem? (i := 186) (by decide +kernel), List.mem_of_getElem? (i := 662) (by decide +kernel), List.mem_of_getElem? (i := 663) (by decide +kernel)⟩
theorem lw_p17 : lw_okq (⟨"BenchMemories$Course", "drawAct", "(III)V"⟩, 6) := ⟨⟨by decide +kernel, by decide +kernel⟩, List.mem_of_getElem? (i := 103) (by decide +kernel), List.mem_of_getElem? (i := 701) (by decide +kernel), List.mem_of_getElem? (i := 702) (by decide +kernel)⟩
theorem lw_p18 : lw_okq (⟨"BenchMemories", "toldOfOne", "(I)I"⟩, 11) := ⟨⟨by decide +kernel, by decide +kernel⟩, List.mem_of_getElem? (i := 19) (by decide +kernel), List.mem_of_getElem? (i := 729) (by decide +kernel), List.mem_of_getElem? (i := 730) (by decide +kernel)⟩
theorem lw_p19 : lw_okq (⟨"BenchMemoriesModel", "lose", "(I)I"⟩, 32) := ⟨⟨by decide +kernel, by decide +kernel⟩, List.mem_of_getElem? (i := 734) (by decide +kernel), List.mem_of_getElem? (i := 871) (by decide +kernel), List.mem_of_getElem? (i := 872) (by decide +kernel)⟩
theorem lw_p20 : lw_okq (⟨"BenchMemoriesModel", "whereIs", "(I)I"⟩, 32) := ⟨⟨by decide +kernel, by decide +kernel⟩, List.mem_of_getElem? (i := 734) (by decide +kernel), List.mem_of_getElem? (i := 875) (by decide +kernel), List.mem_of_getElem? (i := 876) (by decide +kernel)⟩
theorem lw_p21 : lw_okq (⟨"BenchMemoriesModel", "readOn", "(II)I"⟩, 32) := ⟨⟨by decide +kernel, by decide +kernel⟩, List.mem_of_getElem? (i := 734) (by decide +kernel), List.mem_of_getElem? (i := 901) (by decide +kernel), List.mem_of_getElem? (i := 902) (by decide +kernel)⟩
theorem lw_p22 : lw_okq (⟨"BenchMemoriesModel", "begin", "(I)I"⟩, 32) := ⟨⟨by decide +kernel, by decide +kernel⟩, List.mem_of_getElem? (i := 734) (by decide +kernel), List.mem_of_getElem? (i := 905) (by decide +kernel), List.mem_of_getElem? (i := 906) (by decide +kernel)⟩
theorem lw_p23 : lw_okq (⟨"BenchMemoriesModel", "close", "(II)I"⟩, 32) := ⟨⟨by decide +kernel, by decide +kernel⟩, List.mem_of_getElem? (i := 734) (by decide +kernel), List.mem_of_getElem? (i := 914) (by decide +kernel), List.mem_of_getElem? (i := 915) (by decide +kernel)⟩
theorem lw_p24 : lw_okq (⟨"BenchMemoriesModel", "deed", "(I)I"⟩, 32) := ⟨⟨by decide +kernel, by decide +kernel⟩, List.mem_of_getElem? (i := 734) (by decide +kernel), List.mem_of_getElem? (i := 918) (by decide +kernel), List.mem_of_getElem? (i := 919) (by decide +kernel)⟩
theorem lw_p25 : lw_okq (⟨"BenchMemoriesModel", "refusal", "()I"⟩, 32) := ⟨⟨by decide +kernel, by decide +kernel⟩, List.mem_of_getElem? (i := 734) (by decide +kernel), List.mem_of_getElem? (i := 929) (by decide +kernel), List.mem_of_getElem? (i := 930) (by decide +kernel)⟩
theorem lw_p26 : lw_okq (⟨"BenchMemoriesModel", "keepNow", "()V"⟩, 32) := ⟨⟨by decide +kernel, by decide +kernel⟩, List.mem_of_getElem? (i := 734) (by decide +kernel), List.mem_of_getElem? (i := 933) (by decide +kernel), List.mem_of_getElem? (i := 934) (by decide +kernel)⟩
theorem lw_p27 : lw_okq (⟨"BenchMemoriesModel", "goDays", "()V"⟩, 32) := ⟨⟨by decide +kernel, by decide +kernel⟩, List.mem_of_getElem? (i := 734) (by decide +kernel), List.mem_of_getElem? (i := 938) (by decide +kernel), List.mem_of_getElem? (i := 939) (by decide +kernel)⟩
theorem lw_p28 : lw_okq (⟨"BenchMemoriesModel", "whyNot", "(III)I"⟩, 32) := ⟨⟨by decide +kernel, by decide +kernel⟩, List.mem_of_getElem? (i := 734) (by decide +kernel), List.mem_of_getElem? (i := 942) (by decide +kernel), List.mem_of_getElem? (i := 943) (by decide +kernel)⟩
theorem lw_p29 : lw_okq (⟨"BenchMemoriesModel", "whyNoSeat", "(I)I"⟩, 32) := ⟨⟨by decide +kernel, by decide +kernel⟩, List.mem_of_getElem? (i := 734) (by decide +kernel), List.mem_of_getElem? (i := 949) (by decide +kernel), List.mem_of_getElem? (i := 950) (by decide +kernel)⟩
theorem lw_p30 : lw_okq (⟨"BenchMemoriesModel", "whyNoChange", "(II)I"⟩, 32) := ⟨⟨by decide +kernel, by decide +kernel⟩, List.mem_of_getElem? (i := 734) (by decide +kernel), List.mem_of_getElem? (i := 953) (by decide +kernel), List.mem_of_getElem? (i := 954) (by decide +kernel)⟩
theorem lw_p31 : lw_okq (⟨"BenchMemoriesModel", "happen", "(III)V"⟩, 32) := ⟨⟨by decide +kernel, by decide +kernel⟩, List.mem_of_getElem? (i := 734) (by decide +kernel), List.mem_of_getElem? (i := 957) (by decide +kernel), List.mem_of_getElem? (i := 958) (by decide +kernel)⟩
def lw_privs_2 : List (MethodName × Nat) := [(⟨"BenchMemories$Suspects", "countHolders", "(I)V"⟩, 5), (⟨"BenchMemories$Course", "drawAct", "(III)V"⟩, 6), (⟨"BenchMemories", "toldOfOne", "(I)I"⟩, 11), (⟨"BenchMemoriesModel", "lose", "(I)I"⟩, 32), (⟨"BenchMemoriesModel", "whereIs", "(I)I"⟩, 32), (⟨"BenchMemoriesModel", "readOn", "(II)I"⟩, 32), (⟨"BenchMemoriesModel", "begin", "(I)I"⟩, 32), (⟨"BenchMemoriesModel", "close", "(II)I"⟩, 32), (⟨"BenchMemoriesModel", "deed", "(I)I"⟩, 32), (⟨"BenchMemoriesModel", "refusal", "()I"⟩, 32), (⟨"BenchMemoriesModel", "keepNow", "()V"⟩, 32), (⟨"BenchMemoriesModel", "goDays", "()V"⟩, 32), (⟨"BenchMemoriesModel", "whyNot", "(III)I"⟩, 32), (⟨"BenchMemoriesModel", "whyNoSeat", "(I)I"⟩, 32), (⟨"BenchMemoriesModel", "whyNoChange", "(II)I"⟩, 32), (⟨"BenchMemoriesModel", "happen", "(III)V"⟩, 32)]
theorem lw_r2 : ∀ q ∈ lw_privs_2, lw_okq q := List.forall_mem_cons.mpr ⟨lw_p16, List.forall_mem_cons.mpr ⟨lw_p17, List.forall_mem_cons.mpr ⟨lw_p18, List.forall_mem_cons.mpr ⟨lw_p19, List.forall_mem_cons.mpr ⟨lw_p20, List.forall_mem_cons.mpr ⟨lw_p21, List.forall_mem_cons.mpr ⟨lw_p22, List.forall_mem_cons.mpr ⟨lw_p23, List.forall_mem_cons.mpr ⟨lw_p24, List.forall_mem_cons.mpr ⟨lw_p25, List.forall_mem_cons.mpr ⟨lw_p26, List.forall_mem_cons.mpr ⟨lw_p27, List.forall_mem_cons.mpr ⟨lw_p28, List.forall_mem_cons.mpr ⟨lw_p29, List.forall_mem_cons.mpr ⟨lw_p30, List.forall_mem_cons.mpr ⟨lw_p31, fun _ h => absurd h List.not_mem_nil⟩⟩⟩⟩⟩⟩⟩⟩⟩⟩⟩⟩⟩⟩⟩⟩
theorem lw_p32 : lw_okq (⟨"BenchMemoriesModel", "sit", "(I)V"⟩, 32) := ⟨⟨by decide +kernel, by decide +kernel⟩, List.mem_of_getElem? (i := 734) (by decide +kernel), List.mem_of_getElem? (i := 961) (by decide +kernel), List.mem_of_getElem? (i := 962) (by decide +kernel)⟩
theorem lw_p33 : lw_okq (⟨"BenchMemoriesModel", "comeTo", "(II)V"⟩, 32) := ⟨⟨by decide +kernel, by decide +kernel⟩, List.mem_of_getElem? (i := 734) (by decide +kernel), List.mem_of_getElem? (i := 965) (by decide +kernel), List.mem_of_getElem? (i := 966) (by decide +kernel)⟩
theorem lw_p34 : lw_okq (⟨"BenchMemoriesModel", "change", "(II)V"⟩, 32) := ⟨⟨by decide +kernel, by decide +kernel⟩, List.mem_of_getElem? (i := 734) (by decide +kernel), List.mem_of_getElem? (i := 969) (by decide +kernel), List.mem_of_getElem? (i := 970) (by decide +kernel)⟩
theorem lw_p35 : lw_okq (⟨"BenchMemoriesModel", "evening", "()V"⟩, 32) := ⟨⟨by decide +kernel, by decide +kernel⟩, List.mem_of_getElem? (i := 734) (by decide +kernel), List.mem_of_getElem? (i := 973) (by decide +kernel), List.mem_of_getElem? (i := 974) (by decide +kernel)⟩
theorem lw_p36 : lw_okq (⟨"BenchMemoriesModel", "back", "(I)I"⟩, 32) := ⟨⟨by decide +kernel, by decide +kernel⟩, List.mem_of_getElem? (i := 734) (by decide +kernel), List.mem_of_getElem? (i := 977) (by decide +kernel), List.mem_of_getElem? (i := 978) (by decide +kernel)⟩
theorem lw_p37 : lw_okq (⟨"BenchMemoriesModel", "far", "(II)I"⟩, 32) := ⟨⟨by decide +kernel, by decide +kernel⟩, List.mem_of_getElem? (i := 734) (by decide +kernel), List.mem_of_getElem? (i := 1005) (by decide +kernel), List.mem_of_getElem? (i := 1006) (by decide +kernel)⟩
theorem lw_p38 : lw_okq (⟨"BenchMemoriesModel", "findOff", "()V"⟩, 32) := ⟨⟨by decide +kernel, by decide +kernel⟩, List.mem_of_getElem? (i := 734) (by decide +kernel), List.mem_of_getElem? (i := 1018) (by decide +kernel), List.mem_of_getElem? (i := 1019) (by decide +kernel)⟩
theorem lw_p39 : lw_okq (⟨"BenchMemoriesModel", "rowBy", "(III)I"⟩, 32) := ⟨⟨by decide +kernel, by decide +kernel⟩, List.mem_of_getElem? (i := 734) (by decide +kernel), List.mem_of_getElem? (i := 1022) (by decide +kernel), List.mem_of_getElem? (i := 1023) (by decide +kernel)⟩
theorem lw_p40 : lw_okq (⟨"BenchMemoriesModel", "goesOn", "(II)I"⟩, 32) := ⟨⟨by decide +kernel, by decide +kernel⟩, List.mem_of_getElem? (i := 734) (by decide +kernel), List.mem_of_getElem? (i := 1033) (by decide +kernel), List.mem_of_getElem? (i := 1034) (by decide +kernel)⟩
theorem lw_p41 : lw_okq (⟨"BenchMemoriesModel", "readSeven", "(I)Z"⟩, 32) := ⟨⟨by decide +kernel, by decide +kernel⟩, List.mem_of_getElem? (i := 734) (by decide +kernel), List.mem_of_getElem? (i := 1042) (by decide +kernel), List.mem_of_getElem? (i := 1043) (by decide +kernel)⟩
theorem lw_p42 : lw_okq (⟨"BenchMemoriesModel", "sitsBy", "()I"⟩, 32) := ⟨⟨by decide +kernel, by decide +kernel⟩, List.mem_of_getElem? (i := 734) (by decide +kernel), List.mem_of_getElem? (i := 1046) (by decide +kernel), List.mem_of_getElem? (i := 1047) (by decide +kernel)⟩
theorem lw_p43 : lw_okq (⟨"BenchMemoriesModel", "seat", "(I)V"⟩, 32) := ⟨⟨by decide +kernel, by decide +kernel⟩, List.mem_of_getElem? (i := 734) (by decide +kernel), List.mem_of_getElem? (i := 1050) (by decide +kernel), List.mem_of_getElem? (i := 1051) (by decide +kernel)⟩
theorem lw_p44 : lw_okq (⟨"BenchMemoriesModel", "isFit", "(I)Z"⟩, 32) := ⟨⟨by decide +kernel, by decide +kernel⟩, List.mem_of_getElem? (i := 734) (by decide +kernel), List.mem_of_getElem? (i := 1067) (by decide +kernel), List.mem_of_getElem? (i := 1068) (by decide +kernel)⟩
theorem lw_p45 : lw_okq (⟨"BenchMemoriesModel", "countBy", "(I)V"⟩, 32) := ⟨⟨by decide +kernel, by decide +kernel⟩, List.mem_of_getElem? (i := 734) (by decide +kernel), List.mem_of_getElem? (i := 1080) (by decide +kernel), List.mem_of_getElem? (i := 1081) (by decide +kernel)⟩
theorem lw_p46 : lw_okq (⟨"BenchMemoriesModel", "worthOf", "(I)I"⟩, 32) := ⟨⟨by decide +kernel, by decide +kernel⟩, List.mem_of_getElem? (i := 734) (by decide +kernel), List.mem_of_getElem? (i := 1089) (by decide +kernel), List.mem_of_getElem? (i := 1090) (by decide +kernel)⟩
theorem lw_p47 : lw_okq (⟨"BenchMemoriesModel", "rowsBy", "(II)I"⟩, 32) := ⟨⟨by decide +kernel, by decide +kernel⟩, List.mem_of_getElem? (i := 734) (by decide +kernel), List.mem_of_getElem? (i := 1093) (by decide +kernel), List.mem_of_getElem? (i := 1094) (by decide +kernel)⟩
def lw_privs_3 : List (MethodName × Nat) := [(⟨"BenchMemoriesModel", "sit", "(I)V"⟩, 32), (⟨"BenchMemoriesModel", "comeTo", "(II)V"⟩, 32), (⟨"BenchMemoriesModel", "change", "(II)V"⟩, 32), (⟨"BenchMemoriesModel", "evening", "()V"⟩, 32), (⟨"BenchMemoriesModel", "back", "(I)I"⟩, 32), (⟨"BenchMemoriesModel", "far", "(II)I"⟩, 32), (⟨"BenchMemoriesModel", "findOff", "()V"⟩, 32), (⟨"BenchMemoriesModel", "rowBy", "(III)I"⟩, 32), (⟨"BenchMemoriesModel", "goesOn", "(II)I"⟩, 32), (⟨"BenchMemoriesModel", "readSeven", "(I)Z"⟩, 32), (⟨"BenchMemoriesModel", "sitsBy", "()I"⟩, 32), (⟨"BenchMemoriesModel", "seat", "(I)V"⟩, 32), (⟨"BenchMemoriesModel", "isFit", "(I)Z"⟩, 32), (⟨"BenchMemoriesModel", "countBy", "(I)V"⟩, 32), (⟨"BenchMemoriesModel", "worthOf", "(I)I"⟩, 32), (⟨"BenchMemoriesModel", "rowsBy", "(II)I"⟩, 32)]
theorem lw_r3 : ∀ q ∈ lw_privs_3, lw_okq q := List.forall_mem_cons.mpr ⟨lw_p32, List.forall_mem_cons.mpr ⟨lw_p33, List.forall_mem_cons.mpr ⟨lw_p34, List.forall_mem_cons.mpr ⟨lw_p35, List.forall_mem_cons.mpr ⟨lw_p36, List.forall_mem_cons.mpr ⟨lw_p37, List.forall_mem_cons.mpr ⟨lw_p38, List.forall_mem_cons.mpr ⟨lw_p39, List.forall_mem_cons.mpr ⟨lw_p40, List.forall_mem_cons.mpr ⟨lw_p41, List.forall_mem_cons.mpr ⟨lw_p42, List.forall_mem_cons.mpr ⟨lw_p43, List.forall_mem_cons.mpr ⟨lw_p44, List.forall_mem_cons.mpr ⟨lw_p45, List.forall_mem_cons.mpr ⟨lw_p46, List.forall_mem_cons.mpr ⟨lw_p47, fun _ h => absurd h List.not_mem_nil⟩⟩⟩⟩⟩⟩⟩⟩⟩⟩⟩⟩⟩⟩⟩⟩
theorem lw_p48 : lw_okq (⟨"BenchMemoriesModel", "seasonOne", "(III)V"⟩, 32) := ⟨⟨by decide +kernel, by decide +kernel⟩, List.mem_of_getElem? (i := 734) (by decide +kernel), List.mem_of_getElem? (i := 1116) (by decide +kernel), List.mem_of_getElem? (i := 1117) (by decide +kernel)⟩
theorem lw_p49 : lw_okq (⟨"BenchMemoriesModel", "manyLost", "()I"⟩, 32) := ⟨⟨by decide +kernel, by decide +kernel⟩, List.mem_of_getElem? (i := 734) (by decide +kernel), List.mem_of_getElem? (i := 1120) (by decide +kernel), List.mem_of_getElem? (i := 1121) (by decide +kernel)⟩
theorem lw_p50 : lw_okq (⟨"BenchMemoriesModel", "manyLie", "()I"⟩, 32) := ⟨⟨by decide +kernel, by decide +kernel⟩, List.mem_of_getElem? (i := 734) (by decide +kernel), List.mem_of_getElem? (i := 1124) (by decide +kernel), List.mem_of_getElem? (i := 1125) (by decide +kernel)⟩
theorem lw_p51 : lw_okq (⟨"BenchMemoriesModel", "passAll", "()V"⟩, 32) := ⟨⟨by decide +kernel, by decide +kernel⟩, List.mem_of_getElem? (i := 734) (by decide +kernel), List.mem_of_getElem? (i := 1132) (by decide +kernel), List.mem_of_getElem? (i := 1133) (by decide +kernel)⟩
theorem lw_p52 : lw_okq (⟨"BenchMemoriesModel", "pass", "(I)I"⟩, 32) := ⟨⟨by decide +kernel, by decide +kernel⟩, List.mem_of_getElem? (i := 734) (by decide +kernel), List.mem_of_getElem? (i := 1136) (by decide +kernel), List.mem_of_getElem? (i := 1137) (by decide +kernel)⟩
theorem lw_p53 : lw_okq (⟨"BenchMemoriesModel", "passRow", "([II)V"⟩, 32) := ⟨⟨by decide +kernel, by decide +kernel⟩, List.mem_of_getElem? (i := 734) (by decide +kernel), List.mem_of_getElem? (i := 1140) (by decide +kernel), List.mem_of_getElem? (i := 1141) (by decide +kernel)⟩
theorem lw_p54 : lw_okq (⟨"BenchMemoriesModel", "ofBenches", "(I)I"⟩, 32) := ⟨⟨by decide +kernel, by decide +kernel⟩, List.mem_of_getElem? (i := 734) (by decide +kernel), List.mem_of_getElem? (i := 1155) (by decide +kernel), List.mem_of_getElem? (i := 1156) (by decide +kernel)⟩
theorem lw_p55 : lw_okq (⟨"BenchMemoriesModel", "ofOnes", "(I)I"⟩, 32) := ⟨⟨by decide +kernel, by decide +kernel⟩, List.mem_of_getElem? (i := 734) (by decide +kernel), List.mem_of_getElem? (i := 1160) (by decide +kernel), List.mem_of_getElem? (i := 1161) (by decide +kernel)⟩
theorem lw_p56 : lw_okq (⟨"BenchMemoriesModel", "ofAll", "(I)I"⟩, 32) := ⟨⟨by decide +kernel, by decide +kernel⟩, List.mem_of_getElem? (i := 734) (by decide +kernel), List.mem_of_getElem? (i := 1164) (by decide +kernel), List.mem_of_getElem? (i := 1165) (by decide +kernel)⟩
def lw_privs_4 : List (MethodName × Nat) := [(⟨"BenchMemoriesModel", "seasonOne", "(III)V"⟩, 32), (⟨"BenchMemoriesModel", "manyLost", "()I"⟩, 32), (⟨"BenchMemoriesModel", "manyLie", "()I"⟩, 32), (⟨"BenchMemoriesModel", "passAll", "()V"⟩, 32), (⟨"BenchMemoriesModel", "pass", "(I)I"⟩, 32), (⟨"BenchMemoriesModel", "passRow", "([II)V"⟩, 32), (⟨"BenchMemoriesModel", "ofBenches", "(I)I"⟩, 32), (⟨"BenchMemoriesModel", "ofOnes", "(I)I"⟩, 32), (⟨"BenchMemoriesModel", "ofAll", "(I)I"⟩, 32)]
theorem lw_r4 : ∀ q ∈ lw_privs_4, lw_okq q := List.forall_mem_cons.mpr ⟨lw_p48, List.forall_mem_cons.mpr ⟨lw_p49, List.forall_mem_cons.mpr ⟨lw_p50, List.forall_mem_cons.mpr ⟨lw_p51, List.forall_mem_cons.mpr ⟨lw_p52, List.forall_mem_cons.mpr ⟨lw_p53, List.forall_mem_cons.mpr ⟨lw_p54, List.forall_mem_cons.mpr ⟨lw_p55, List.forall_mem_cons.mpr ⟨lw_p56, fun _ h => absurd h List.not_mem_nil⟩⟩⟩⟩⟩⟩⟩⟩⟩
def lw_privs : List (MethodName × Nat) := lw_privs_1 ++ (lw_privs_2 ++ (lw_privs_3 ++ (lw_privs_4)))
def lw_tbl : List Cond := k2_sels lw_privs ++ tables_1
theorem lw_privs_ok : ∀ q ∈ lw_privs, lw_okq q := by
  show ∀ q ∈ lw_privs_1 ++ (lw_privs_2 ++ (lw_privs_3 ++ (lw_privs_4))), lw_okq q
  exact List.forall_mem_append.mpr ⟨lw_r1, List.forall_mem_append.mpr ⟨lw_r2, List.forall_mem_append.mpr ⟨lw_r3, lw_r4⟩⟩⟩
end
section
def RX0 : String := "BenchMemories$Course"
def TX0 : u_T := fun k => match k with
  | 0 => ("BenchMemories$Course", "trial", "LBenchMemories$Garden;", true)
  | 1 => ("BenchMemories$Course", "handsOf", "LBenchMemories$Row;", true)
  | 2 => ("BenchMemories$Course", "acts", "I", false)
  | 3 => ("BenchMemories$Course", "sittings", "I", false)
  | 4 => ("BenchMemories$Course", "failed", "I", false)
  | _ => ("BenchMemories$Course", "reason", "I", false)
def tyX0 : Nat → FieldType := fun k => match k with
  | 0 => .object "BenchMemories$Garden"
  | 1 => .object "BenchMemories$Row"
  | 2 => .int
  | 3 => .int
  | 4 => .int
  | _ => .int
theorem nmX0 : ∀ a, a < 6 → ∀ b, b < 6 → a ≠ b → (TX0 a).2.1 ≠ (TX0 b).2.1 := by decide +kernel
theorem tyX0_ok : ∀ k, k < 6 → parseFieldDescriptor (TX0 k).2.2.1 = some (tyX0 k) := by decide +kernel
abbrev cX0_init : ByteArray := prog_2_method_1_code
def yX0_init : MethodName := ⟨RX0, "<init>", "()V"⟩
abbrev cX0_tryOut : ByteArray := prog_2_method_2_code
def yX0_tryOut : MethodName := ⟨RX0, "tryOut", "(LBenchMemories$Garden;LBenchMemories$Pad;)I"⟩
abbrev cX0_begin : ByteArray := prog_2_method_3_code
def yX0_begin : MethodName := ⟨RX0, "begin", "(LBenchMemories$Garden;)V"⟩
abbrev cX0_tryAct : ByteArray := prog_2_method_4_code
def yX0_tryAct : MethodName := ⟨RX0, "tryAct", "(III)V"⟩
abbrev cX0_countHand : ByteArray := prog_2_method_5_code
def yX0_countHand : MethodName := ⟨RX0, "countHand", "(I)V"⟩
abbrev cX0_mostHanded : ByteArray := prog_2_method_6_code
def yX0_mostHanded : MethodName := ⟨RX0, "mostHanded", "()I"⟩
abbrev cX0_drift : ByteArray := prog_2_method_7_code
def yX0_drift : MethodName := ⟨RX0, "drift", "(LBenchMemories$Garden;II)V"⟩
abbrev cX0_drawAct : ByteArray := prog_2_method_8_code
def yX0_drawAct : MethodName := ⟨RX0, "drawAct", "(III)V"⟩
abbrev cX0_actByLot : ByteArray := prog_2_method_9_code
def yX0_actByLot : MethodName := ⟨RX0, "actByLot", "(I)I"⟩
def RX1 : String := "BenchMemories$Garden"
def TX1 : u_T := fun k => match k with
  | 0 => ("BenchMemories$Garden", "ways", "LBenchMemories$Row;", true)
  | 1 => ("BenchMemories$Garden", "stands", "LBenchMemories$Row;", true)
  | 2 => ("BenchMemories$Garden", "places", "LBenchMemories$Row;", true)
  | 3 => ("BenchMemories$Garden", "freshness", "LBenchMemories$Row;", true)
  | 4 => ("BenchMemories$Garden", "sights", "LBenchMemories$Row;", true)
  | 5 => ("BenchMemories$Garden", "sightCount", "I", false)
  | 6 => ("BenchMemories$Garden", "cushions", "I", false)
  | _ => ("BenchMemories$Garden", "day", "I", false)
def tyX1 : Nat → FieldType := fun k => match k with
  | 0 => .object "BenchMemories$Row"
  | 1 => .object "BenchMemories$Row"
  | 2 => .object "BenchMemories$Row"
  | 3 => .object "BenchMemories$Row"
  | 4 => .object "BenchMemories$Row"
  | 5 => .int
  | 6 => .int
  | _ => .int
theorem nmX1 : ∀ a, a < 8 → ∀ b, b < 8 → a ≠ b → (TX1 a).2.1 ≠ (TX1 b).2.1 := by decide +kernel
theorem tyX1_ok : ∀ k, k < 8 → parseFieldDescriptor (TX1 k).2.2.1 = some (tyX1 k) := by decide +kernel
abbrev cX1_init : ByteArray := prog_3_method_1_code
def yX1_init : MethodName := ⟨RX1, "<init>", "()V"⟩
abbrev cX1_copyFrom : ByteArray := prog_3_method_2_code
def yX1_copyFrom : MethodName := ⟨RX1, "copyFrom", "(LBenchMemories$Garden;)V"⟩
abbrev cX1_waysFrom : ByteArray := prog_3_method_3_code
def yX1_waysFrom : MethodName := ⟨RX1, "waysFrom", "(I)I"⟩
abbrev cX1_setWay : ByteArray := prog_3_method_4_code
def yX1_setWay : MethodName := ⟨RX1, "setWay", "(IIZ)V"⟩
abbrev cX1_countWays : ByteArray := prog_3_method_5_code
def yX1_countWays : MethodName := ⟨RX1, "countWays", "()I"⟩
abbrev cX1_neighboursOf : ByteArray := prog_3_method_6_code
def yX1_neighboursOf : MethodName := ⟨RX1, "neighboursOf", "(I)I"⟩
abbrev cX1_stepsBetween : ByteArray := prog_3_method_7_code
def yX1_stepsBetween : MethodName := ⟨RX1, "stepsBetween", "(II)I"⟩
abbrev cX1_reachableFrom : ByteArray := prog_3_method_8_code
def yX1_reachableFrom : MethodName := ⟨RX1, "reachableFrom", "(I)I"⟩
abbrev cX1_hasCushion : ByteArray := prog_3_method_9_code
def yX1_hasCushion : MethodName := ⟨RX1, "hasCushion", "(I)Z"⟩
abbrev cX1_benchOf : ByteArray := prog_3_method_10_code
def yX1_benchOf : MethodName := ⟨RX1, "benchOf", "(I)I"⟩
abbrev cX1_placeOf : ByteArray := prog_3_method_11_code
def yX1_placeOf : MethodName := ⟨RX1, "placeOf", "(I)I"⟩
abbrev cX1_heldBy : ByteArray := prog_3_method_12_code
def yX1_heldBy : MethodName := ⟨RX1, "heldBy", "(I)I"⟩
abbrev cX1_lyingOn : ByteArray := prog_3_method_13_code
def yX1_lyingOn : MethodName := ⟨RX1, "lyingOn", "(I)I"⟩
abbrev cX1_memoryAt : ByteArray := prog_3_method_14_code
def yX1_memoryAt : MethodName := ⟨RX1, "memoryAt", "(I)I"⟩
abbrev cX1_freshOn : ByteArray := prog_3_method_15_code
def yX1_freshOn : MethodName := ⟨RX1, "freshOn", "(I)I"⟩
abbrev cX1_standAt : ByteArray := prog_3_method_16_code
def yX1_standAt : MethodName := ⟨RX1, "standAt", "(II)V"⟩
abbrev cX1_putWith : ByteArray := prog_3_method_17_code
def yX1_putWith : MethodName := ⟨RX1, "putWith", "(II)V"⟩
abbrev cX1_makeNowhere : ByteArray := prog_3_method_18_code
def yX1_makeNowhere : MethodName := ⟨RX1, "makeNowhere", "(I)V"⟩
abbrev cX1_putOn : ByteArray := prog_3_method_19_code
def yX1_putOn : MethodName := ⟨RX1, "putOn", "(III)V"⟩
abbrev cX1_countNowhere : ByteArray := prog_3_method_20_code
def yX1_countNowhere : MethodName := ⟨RX1, "countNowhere", "()I"⟩
abbrev cX1_countOnBenches : ByteArray := prog_3_method_21_code
def yX1_countOnBenches : MethodName := ⟨RX1, "countOnBenches", "()I"⟩
abbrev cX1_whyNot : ByteArray := prog_3_method_22_code
def yX1_whyNot : MethodName := ⟨RX1, "whyNot", "(III)I"⟩
abbrev cX1_whyNotSit : ByteArray := prog_3_method_23_code
def yX1_whyNotSit : MethodName := ⟨RX1, "whyNotSit", "(I)I"⟩
abbrev cX1_whyNotChange : ByteArray := prog_3_method_24_code
def yX1_whyNotChange : MethodName := ⟨RX1, "whyNotChange", "(II)I"⟩
abbrev cX1_carryOut : ByteArray := prog_3_method_25_code
def yX1_carryOut : MethodName := ⟨RX1, "carryOut", "(III)V"⟩
abbrev cX1_sitDown : ByteArray := prog_3_method_26_code
def yX1_sitDown : MethodName := ⟨RX1, "sitDown", "(I)V"⟩
abbrev cX1_swap : ByteArray := prog_3_method_27_code
def yX1_swap : MethodName := ⟨RX1, "swap", "(II)V"⟩
abbrev cX1_endDay : ByteArray := prog_3_method_28_code
def yX1_endDay : MethodName := ⟨RX1, "endDay", "()V"⟩
abbrev cX1_addSight : ByteArray := prog_3_method_29_code
def yX1_addSight : MethodName := ⟨RX1, "addSight", "(IIZ)V"⟩
abbrev cX1_dropSights : ByteArray := prog_3_method_30_code
def yX1_dropSights : MethodName := ⟨RX1, "dropSights", "()V"⟩
abbrev cX1_allSeenSo : ByteArray := prog_3_method_31_code
def yX1_allSeenSo : MethodName := ⟨RX1, "allSeenSo", "(II)Z"⟩
def RX2 : String := "BenchMemories$Order"
def TX2 : u_T := fun k => match k with
  | _ => ("BenchMemories$Order", "memories", "LBenchMemories$Row;", true)
def tyX2 : Nat → FieldType := fun k => match k with
  | _ => .object "BenchMemories$Row"
theorem nmX2 : ∀ a, a < 1 → ∀ b, b < 1 → a ≠ b → (TX2 a).2.1 ≠ (TX2 b).2.1 := by decide +kernel
theorem tyX2_ok : ∀ k, k < 1 → parseFieldDescriptor (TX2 k).2.2.1 = some (tyX2 k) := by decide +kernel
abbrev cX2_init : ByteArray := prog_4_method_1_code
def yX2_init : MethodName := ⟨RX2, "<init>", "()V"⟩
abbrev cX2_read : ByteArray := prog_4_method_2_code
def yX2_read : MethodName := ⟨RX2, "read", "(I)Z"⟩
abbrev cX2_sittingsLeft : ByteArray := prog_4_method_3_code
def yX2_sittingsLeft : MethodName := ⟨RX2, "sittingsLeft", "()I"⟩
abbrev cX2_firstSitting : ByteArray := prog_4_method_4_code
def yX2_firstSitting : MethodName := ⟨RX2, "firstSitting", "()I"⟩
abbrev cX2_swapWith : ByteArray := prog_4_method_5_code
def yX2_swapWith : MethodName := ⟨RX2, "swapWith", "(I)V"⟩
def RX3 : String := "BenchMemories$Pad"
def TX3 : u_T := fun k => match k with
  | 0 => ("BenchMemories$Pad", "signs", "LBenchMemories$Row;", true)
  | _ => ("BenchMemories$Pad", "count", "I", false)
def tyX3 : Nat → FieldType := fun k => match k with
  | 0 => .object "BenchMemories$Row"
  | _ => .int
theorem nmX3 : ∀ a, a < 2 → ∀ b, b < 2 → a ≠ b → (TX3 a).2.1 ≠ (TX3 b).2.1 := by decide +kernel
theorem tyX3_ok : ∀ k, k < 2 → parseFieldDescriptor (TX3 k).2.2.1 = some (tyX3 k) := by decide +kernel
abbrev cX3_init : ByteArray := prog_5_method_1_code
def yX3_init : MethodName := ⟨RX3, "<init>", "()V"⟩
abbrev cX3_append : ByteArray := prog_5_method_2_code
def yX3_append : MethodName := ⟨RX3, "append", "(I)V"⟩
abbrev cX3_empty : ByteArray := prog_5_method_3_code
def yX3_empty : MethodName := ⟨RX3, "empty", "()V"⟩
abbrev cX3_firstFault : ByteArray := prog_5_method_4_code
def yX3_firstFault : MethodName := ⟨RX3, "firstFault", "()I"⟩
abbrev cX3_dueBehind : ByteArray := prog_5_method_5_code
def yX3_dueBehind : MethodName := ⟨RX3, "dueBehind", "(II)I"⟩
abbrev cX3_dueBehindStart : ByteArray := prog_5_method_6_code
def yX3_dueBehindStart : MethodName := ⟨RX3, "dueBehindStart", "(I)I"⟩
abbrev cX3_dueBehindDeed : ByteArray := prog_5_method_7_code
def yX3_dueBehindDeed : MethodName := ⟨RX3, "dueBehindDeed", "(I)I"⟩
abbrev cX3_actEndedBy : ByteArray := prog_5_method_8_code
def yX3_actEndedBy : MethodName := ⟨RX3, "actEndedBy", "(II)I"⟩
abbrev cX3_targetOf : ByteArray := prog_5_method_9_code
def yX3_targetOf : MethodName := ⟨RX3, "targetOf", "(I)I"⟩
def RX4 : String := "BenchMemories$Rounds"
def TX4 : u_T := fun k => match k with
  | 0 => ("BenchMemories$Rounds", "stops", "LBenchMemories$Row;", true)
  | 1 => ("BenchMemories$Rounds", "legs", "LBenchMemories$Row;", true)
  | 2 => ("BenchMemories$Rounds", "costs", "LBenchMemories$Row;", true)
  | _ => ("BenchMemories$Rounds", "count", "I", false)
def tyX4 : Nat → FieldType := fun k => match k with
  | 0 => .object "BenchMemories$Row"
  | 1 => .object "BenchMemories$Row"
  | 2 => .object "BenchMemories$Row"
  | _ => .int
theorem nmX4 : ∀ a, a < 4 → ∀ b, b < 4 → a ≠ b → (TX4 a).2.1 ≠ (TX4 b).2.1 := by decide +kernel
theorem tyX4_ok : ∀ k, k < 4 → parseFieldDescriptor (TX4 k).2.2.1 = some (tyX4 k) := by decide +kernel
abbrev cX4_init : ByteArray := prog_6_method_1_code
def yX4_init : MethodName := ⟨RX4, "<init>", "()V"⟩
abbrev cX4_shortest : ByteArray := prog_6_method_2_code
def yX4_shortest : MethodName := ⟨RX4, "shortest", "(LBenchMemories$Garden;II)I"⟩
abbrev cX4_gatherStops : ByteArray := prog_6_method_3_code
def yX4_gatherStops : MethodName := ⟨RX4, "gatherStops", "(II)V"⟩
abbrev cX4_measureLegs : ByteArray := prog_6_method_4_code
def yX4_measureLegs : MethodName := ⟨RX4, "measureLegs", "(LBenchMemories$Garden;)V"⟩
abbrev cX4_cheapest : ByteArray := prog_6_method_5_code
def yX4_cheapest : MethodName := ⟨RX4, "cheapest", "(II)I"⟩
def RX5 : String := "BenchMemories$Row"
def TX5 : u_T := fun k => match k with
  | _ => ("BenchMemories$Row", "cells", "[I", true)
def tyX5 : Nat → FieldType := fun k => match k with
  | _ => .array .int
theorem nmX5 : ∀ a, a < 1 → ∀ b, b < 1 → a ≠ b → (TX5 a).2.1 ≠ (TX5 b).2.1 := by decide +kernel
theorem tyX5_ok : ∀ k, k < 1 → parseFieldDescriptor (TX5 k).2.2.1 = some (tyX5 k) := by decide +kernel
abbrev cX5_init : ByteArray := prog_7_method_1_code
def yX5_init : MethodName := ⟨RX5, "<init>", "(I)V"⟩
abbrev cX5_at : ByteArray := prog_7_method_2_code
def yX5_at : MethodName := ⟨RX5, "at", "(I)I"⟩
abbrev cX5_put : ByteArray := prog_7_method_3_code
def yX5_put : MethodName := ⟨RX5, "put", "(II)V"⟩
abbrev cX5_fillWith : ByteArray := prog_7_method_4_code
def yX5_fillWith : MethodName := ⟨RX5, "fillWith", "(I)V"⟩
abbrev cX5_copyFrom : ByteArray := prog_7_method_5_code
def yX5_copyFrom : MethodName := ⟨RX5, "copyFrom", "(LBenchMemories$Row;)V"⟩
def RX6 : String := "BenchMemories$Suspects"
def TX6 : u_T := fun k => match k with
  | 0 => ("BenchMemories$Suspects", "codes", "LBenchMemories$Row;", true)
  | 1 => ("BenchMemories$Suspects", "holders", "LBenchMemories$Row;", true)
  | 2 => ("BenchMemories$Suspects", "count", "I", false)
  | 3 => ("BenchMemories$Suspects", "question", "I", false)
  | _ => ("BenchMemories$Suspects", "mostLeft", "I", false)
def tyX6 : Nat → FieldType := fun k => match k with
  | 0 => .object "BenchMemories$Row"
  | 1 => .object "BenchMemories$Row"
  | 2 => .int
  | 3 => .int
  | _ => .int
theorem nmX6 : ∀ a, a < 5 → ∀ b, b < 5 → a ≠ b → (TX6 a).2.1 ≠ (TX6 b).2.1 := by decide +kernel
theorem tyX6_ok : ∀ k, k < 5 → parseFieldDescriptor (TX6 k).2.2.1 = some (tyX6 k) := by decide +kernel
abbrev cX6_init : ByteArray := prog_8_method_1_code
def yX6_init : MethodName := ⟨RX6, "<init>", "()V"⟩
abbrev cX6_sift : ByteArray := prog_8_method_2_code
def yX6_sift : MethodName := ⟨RX6, "sift", "(LBenchMemories$Garden;)V"⟩
abbrev cX6_holder : ByteArray := prog_8_method_3_code
def yX6_holder : MethodName := ⟨RX6, "holder", "(III)I"⟩
abbrev cX6_chooseQuestion : ByteArray := prog_8_method_4_code
def yX6_chooseQuestion : MethodName := ⟨RX6, "chooseQuestion", "()V"⟩
abbrev cX6_countHolders : ByteArray := prog_8_method_5_code
def yX6_countHolders : MethodName := ⟨RX6, "countHolders", "(I)V"⟩
def RX7 : String := "BenchMemories$Turns"
def TX7 : u_T := fun k => match k with
  | _ => ("BenchMemories$Turns", "worths", "LBenchMemories$Row;", true)
def tyX7 : Nat → FieldType := fun k => match k with
  | _ => .object "BenchMemories$Row"
theorem nmX7 : ∀ a, a < 1 → ∀ b, b < 1 → a ≠ b → (TX7 a).2.1 ≠ (TX7 b).2.1 := by decide +kernel
theorem tyX7_ok : ∀ k, k < 1 → parseFieldDescriptor (TX7 k).2.2.1 = some (tyX7 k) := by decide +kernel
abbrev cX7_init : ByteArray := prog_9_method_1_code
def yX7_init : MethodName := ⟨RX7, "<init>", "()V"⟩
abbrev cX7_worthBehind : ByteArray := prog_9_method_2_code
def yX7_worthBehind : MethodName := ⟨RX7, "worthBehind", "(II)I"⟩
abbrev cX7_winningBench : ByteArray := prog_9_method_3_code
def yX7_winningBench : MethodName := ⟨RX7, "winningBench", "(I)I"⟩
def RX8 : String := "BenchMemories$Walks"
def TX8 : u_T := fun k => match k with
  | 0 => ("BenchMemories$Walks", "starts", "LBenchMemories$Row;", true)
  | _ => ("BenchMemories$Walks", "reachable", "I", false)
def tyX8 : Nat → FieldType := fun k => match k with
  | 0 => .object "BenchMemories$Row"
  | _ => .int
theorem nmX8 : ∀ a, a < 2 → ∀ b, b < 2 → a ≠ b → (TX8 a).2.1 ≠ (TX8 b).2.1 := by decide +kernel
theorem tyX8_ok : ∀ k, k < 2 → parseFieldDescriptor (TX8 k).2.2.1 = some (tyX8 k) := by decide +kernel
abbrev cX8_init : ByteArray := prog_10_method_1_code
def yX8_init : MethodName := ⟨RX8, "<init>", "()V"⟩
abbrev cX8_explore : ByteArray := prog_10_method_2_code
def yX8_explore : MethodName := ⟨RX8, "explore", "(LBenchMemories$Garden;I)V"⟩
abbrev cX8_startsOf : ByteArray := prog_10_method_3_code
def yX8_startsOf : MethodName := ⟨RX8, "startsOf", "(LBenchMemories$Garden;I)I"⟩
abbrev cX8_longestFrom : ByteArray := prog_10_method_4_code
def yX8_longestFrom : MethodName := ⟨RX8, "longestFrom", "(I)I"⟩
abbrev cX8_firstFrom : ByteArray := prog_10_method_5_code
def yX8_firstFrom : MethodName := ⟨RX8, "firstFrom", "(LBenchMemories$Garden;II)I"⟩
abbrev cX8_startsOfWalks : ByteArray := prog_10_method_6_code
def yX8_startsOfWalks : MethodName := ⟨RX8, "startsOfWalks", "(II)I"⟩
def RX9 : String := "BenchMemories"
def TX9 : u_T := fun k => match k with
  | 0 => ("BenchMemories", "garden", "LBenchMemories$Garden;", true)
  | 1 => ("BenchMemories", "firstImage", "LBenchMemories$Garden;", true)
  | 2 => ("BenchMemories", "secondImage", "LBenchMemories$Garden;", true)
  | 3 => ("BenchMemories", "pad", "LBenchMemories$Pad;", true)
  | 4 => ("BenchMemories", "course", "LBenchMemories$Course;", true)
  | 5 => ("BenchMemories", "rounds", "LBenchMemories$Rounds;", true)
  | 6 => ("BenchMemories", "walks", "LBenchMemories$Walks;", true)
  | 7 => ("BenchMemories", "order", "LBenchMemories$Order;", true)
  | 8 => ("BenchMemories", "suspects", "LBenchMemories$Suspects;", true)
  | 9 => ("BenchMemories", "turns", "LBenchMemories$Turns;", true)
  | _ => ("BenchMemories", "imagesKept", "I", false)
def tyX9 : Nat → FieldType := fun k => match k with
  | 0 => .object "BenchMemories$Garden"
  | 1 => .object "BenchMemories$Garden"
  | 2 => .object "BenchMemories$Garden"
  | 3 => .object "BenchMemories$Pad"
  | 4 => .object "BenchMemories$Course"
  | 5 => .object "BenchMemories$Rounds"
  | 6 => .object "BenchMemories$Walks"
  | 7 => .object "BenchMemories$Order"
  | 8 => .object "BenchMemories$Suspects"
  | 9 => .object "BenchMemories$Turns"
  | _ => .int
theorem nmX9 : ∀ a, a < 11 → ∀ b, b < 11 → a ≠ b → (TX9 a).2.1 ≠ (TX9 b).2.1 := by decide +kernel
theorem tyX9_ok : ∀ k, k < 11 → parseFieldDescriptor (TX9 k).2.2.1 = some (tyX9 k) := by decide +kernel
abbrev cX9_init : ByteArray := prog_1_method_1_code
def yX9_init : MethodName := ⟨RX9, "<init>", "()V"⟩
abbrev cX9_way : ByteArray := prog_1_method_2_code
def yX9_way : MethodName := ⟨RX9, "way", "(IIZ)I"⟩
abbrev cX9_stand : ByteArray := prog_1_method_3_code
def yX9_stand : MethodName := ⟨RX9, "stand", "(II)I"⟩
abbrev cX9_give : ByteArray := prog_1_method_4_code
def yX9_give : MethodName := ⟨RX9, "give", "(II)I"⟩
abbrev cX9_lay : ByteArray := prog_1_method_5_code
def yX9_lay : MethodName := ⟨RX9, "lay", "(III)I"⟩
abbrev cX9_forget : ByteArray := prog_1_method_6_code
def yX9_forget : MethodName := ⟨RX9, "forget", "(I)I"⟩
abbrev cX9_say : ByteArray := prog_1_method_7_code
def yX9_say : MethodName := ⟨RX9, "say", "(I)I"⟩
abbrev cX9_wipe : ByteArray := prog_1_method_8_code
def yX9_wipe : MethodName := ⟨RX9, "wipe", "()I"⟩
abbrev cX9_fault : ByteArray := prog_1_method_9_code
def yX9_fault : MethodName := ⟨RX9, "fault", "()I"⟩
abbrev cX9_judge : ByteArray := prog_1_method_10_code
def yX9_judge : MethodName := ⟨RX9, "judge", "(I)I"⟩
abbrev cX9_behind : ByteArray := prog_1_method_11_code
def yX9_behind : MethodName := ⟨RX9, "behind", "(II)I"⟩
abbrev cX9_lies : ByteArray := prog_1_method_12_code
def yX9_lies : MethodName := ⟨RX9, "lies", "(II)I"⟩
abbrev cX9_hands : ByteArray := prog_1_method_13_code
def yX9_hands : MethodName := ⟨RX9, "hands", "(II)I"⟩
abbrev cX9_most : ByteArray := prog_1_method_14_code
def yX9_most : MethodName := ⟨RX9, "most", "()I"⟩
abbrev cX9_done : ByteArray := prog_1_method_15_code
def yX9_done : MethodName := ⟨RX9, "done", "()I"⟩
abbrev cX9_steps : ByteArray := prog_1_method_16_code
def yX9_steps : MethodName := ⟨RX9, "steps", "(II)I"⟩
abbrev cX9_get : ByteArray := prog_1_method_17_code
def yX9_get : MethodName := ⟨RX9, "get", "(II)I"⟩
abbrev cX9_round : ByteArray := prog_1_method_18_code
def yX9_round : MethodName := ⟨RX9, "round", "(II)I"⟩
abbrev cX9_walk : ByteArray := prog_1_method_19_code
def yX9_walk : MethodName := ⟨RX9, "walk", "(II)I"⟩
abbrev cX9_right : ByteArray := prog_1_method_20_code
def yX9_right : MethodName := ⟨RX9, "right", "(II)I"⟩
abbrev cX9_seen : ByteArray := prog_1_method_21_code
def yX9_seen : MethodName := ⟨RX9, "seen", "(IIZ)I"⟩
abbrev cX9_clear : ByteArray := prog_1_method_22_code
def yX9_clear : MethodName := ⟨RX9, "clear", "()I"⟩
abbrev cX9_fits : ByteArray := prog_1_method_23_code
def yX9_fits : MethodName := ⟨RX9, "fits", "(I)I"⟩
abbrev cX9_ask : ByteArray := prog_1_method_24_code
def yX9_ask : MethodName := ⟨RX9, "ask", "(I)I"⟩
abbrev cX9_take : ByteArray := prog_1_method_25_code
def yX9_take : MethodName := ⟨RX9, "take", "(II)I"⟩
abbrev cX9_evenings : ByteArray := prog_1_method_26_code
def yX9_evenings : MethodName := ⟨RX9, "evenings", "(IIII)J"⟩
abbrev cX9_season : ByteArray := prog_1_method_27_code
def yX9_season : MethodName := ⟨RX9, "season", "(III)I"⟩
abbrev cX9_image : ByteArray := prog_1_method_28_code
def yX9_image : MethodName := ⟨RX9, "image", "(I)I"⟩
abbrev cX9_restore : ByteArray := prog_1_method_29_code
def yX9_restore : MethodName := ⟨RX9, "restore", "(I)I"⟩
abbrev cX9_told : ByteArray := prog_1_method_30_code
def yX9_told : MethodName := ⟨RX9, "told", "(I)I"⟩
abbrev cX9_toldOfOne : ByteArray := prog_1_method_31_code
def yX9_toldOfOne : MethodName := ⟨RX9, "toldOfOne", "(I)I"⟩
abbrev cX9_isWithin : ByteArray := prog_1_method_32_code
def yX9_isWithin : MethodName := ⟨RX9, "isWithin", "(III)Z"⟩
abbrev cX9_isBench : ByteArray := prog_1_method_33_code
def yX9_isBench : MethodName := ⟨RX9, "isBench", "(I)Z"⟩
abbrev cX9_isOne : ByteArray := prog_1_method_34_code
def yX9_isOne : MethodName := ⟨RX9, "isOne", "(I)Z"⟩
abbrev cX9_isMemory : ByteArray := prog_1_method_35_code
def yX9_isMemory : MethodName := ⟨RX9, "isMemory", "(I)Z"⟩
abbrev cX9_has : ByteArray := prog_1_method_36_code
def yX9_has : MethodName := ⟨RX9, "has", "(II)Z"⟩
abbrev cX9_power : ByteArray := prog_1_method_37_code
def yX9_power : MethodName := ⟨RX9, "power", "(II)J"⟩
abbrev cX9_commonDivisor : ByteArray := prog_1_method_38_code
def yX9_commonDivisor : MethodName := ⟨RX9, "commonDivisor", "(JJ)J"⟩
def RX10 : String := "BenchMemoriesModel"
def TX10 : u_T := fun k => match k with
  | 0 => ("BenchMemoriesModel", "ways", "[I", true)
  | 1 => ("BenchMemoriesModel", "place", "[I", true)
  | 2 => ("BenchMemoriesModel", "has", "[I", true)
  | 3 => ("BenchMemoriesModel", "there", "[I", true)
  | 4 => ("BenchMemoriesModel", "fresh", "[I", true)
  | 5 => ("BenchMemoriesModel", "cushions", "I", false)
  | 6 => ("BenchMemoriesModel", "day", "I", false)
  | 7 => ("BenchMemoriesModel", "sightSat", "[I", true)
  | 8 => ("BenchMemoriesModel", "sightWho", "[I", true)
  | 9 => ("BenchMemoriesModel", "sightHad", "[I", true)
  | 10 => ("BenchMemoriesModel", "sights", "I", false)
  | 11 => ("BenchMemoriesModel", "pad", "[I", true)
  | 12 => ("BenchMemoriesModel", "padMany", "I", false)
  | 13 => ("BenchMemoriesModel", "act", "[I", true)
  | 14 => ("BenchMemoriesModel", "who", "[I", true)
  | 15 => ("BenchMemoriesModel", "which", "[I", true)
  | 16 => ("BenchMemoriesModel", "acts", "I", false)
  | 17 => ("BenchMemoriesModel", "went", "[I", true)
  | 18 => ("BenchMemoriesModel", "had", "[I", true)
  | 19 => ("BenchMemoriesModel", "badAct", "I", false)
  | 20 => ("BenchMemoriesModel", "badWhy", "I", false)
  | 21 => ("BenchMemoriesModel", "satMany", "I", false)
  | 22 => ("BenchMemoriesModel", "rows", "[I", true)
  | 23 => ("BenchMemoriesModel", "off", "[I", true)
  | 24 => ("BenchMemoriesModel", "lie", "[I", true)
  | 25 => ("BenchMemoriesModel", "byWho", "[I", true)
  | 26 => ("BenchMemoriesModel", "worth", "[I", true)
  | 27 => ("BenchMemoriesModel", "met", "[Z", true)
  | 28 => ("BenchMemoriesModel", "kept", "[I", true)
  | 29 => ("BenchMemoriesModel", "isKept", "[Z", true)
  | 30 => ("BenchMemoriesModel", "keptAt", "I", false)
  | _ => ("BenchMemoriesModel", "isWriting", "Z", false)
def tyX10 : Nat → FieldType := fun k => match k with
  | 0 => .array .int
  | 1 => .array .int
  | 2 => .array .int
  | 3 => .array .int
  | 4 => .array .int
  | 5 => .int
  | 6 => .int
  | 7 => .array .int
  | 8 => .array .int
  | 9 => .array .int
  | 10 => .int
  | 11 => .array .int
  | 12 => .int
  | 13 => .array .int
  | 14 => .array .int
  | 15 => .array .int
  | 16 => .int
  | 17 => .array .int
  | 18 => .array .int
  | 19 => .int
  | 20 => .int
  | 21 => .int
  | 22 => .array .int
  | 23 => .array .int
  | 24 => .array .int
  | 25 => .array .int
  | 26 => .array .int
  | 27 => .array .boolean
  | 28 => .array .int
  | 29 => .array .boolean
  | 30 => .int
  | _ => .boolean
theorem nmX10 : ∀ a, a < 32 → ∀ b, b < 32 → a ≠ b → (TX10 a).2.1 ≠ (TX10 b).2.1 := by decide +kernel
theorem tyX10_ok : ∀ k, k < 32 → parseFieldDescriptor (TX10 k).2.2.1 = some (tyX10 k) := by decide +kernel
abbrev cX10_init : ByteArray := prog_12_method_1_code
def yX10_init : MethodName := ⟨RX10, "<init>", "()V"⟩
abbrev cX10_in : ByteArray := prog_12_method_3_code
def yX10_in : MethodName := ⟨RX10, "in", "(JJJ)Z"⟩
abbrev cX10_isBench : ByteArray := prog_12_method_4_code
def yX10_isBench : MethodName := ⟨RX10, "isBench", "(I)Z"⟩
abbrev cX10_isOne : ByteArray := prog_12_method_5_code
def yX10_isOne : MethodName := ⟨RX10, "isOne", "(I)Z"⟩
abbrev cX10_isMemory : ByteArray := prog_12_method_6_code
def yX10_isMemory : MethodName := ⟨RX10, "isMemory", "(I)Z"⟩
abbrev cX10_isIn : ByteArray := prog_12_method_7_code
def yX10_isIn : MethodName := ⟨RX10, "isIn", "(II)Z"⟩
abbrev cX10_with : ByteArray := prog_12_method_8_code
def yX10_with : MethodName := ⟨RX10, "with", "(IIZ)I"⟩
abbrev cX10_ones : ByteArray := prog_12_method_9_code
def yX10_ones : MethodName := ⟨RX10, "ones", "(I)I"⟩
abbrev cX10_way : ByteArray := prog_12_method_10_code
def yX10_way : MethodName := ⟨RX10, "way", "(IIZ)I"⟩
abbrev cX10_stand : ByteArray := prog_12_method_11_code
def yX10_stand : MethodName := ⟨RX10, "stand", "(II)I"⟩
abbrev cX10_whereIs : ByteArray := prog_12_method_12_code
def yX10_whereIs : MethodName := ⟨RX10, "whereIs", "(I)I"⟩
abbrev cX10_lose : ByteArray := prog_12_method_13_code
def yX10_lose : MethodName := ⟨RX10, "lose", "(I)I"⟩
abbrev cX10_give : ByteArray := prog_12_method_14_code
def yX10_give : MethodName := ⟨RX10, "give", "(II)I"⟩
abbrev cX10_lay : ByteArray := prog_12_method_15_code
def yX10_lay : MethodName := ⟨RX10, "lay", "(III)I"⟩
abbrev cX10_forget : ByteArray := prog_12_method_16_code
def yX10_forget : MethodName := ⟨RX10, "forget", "(I)I"⟩
abbrev cX10_say : ByteArray := prog_12_method_17_code
def yX10_say : MethodName := ⟨RX10, "say", "(I)I"⟩
abbrev cX10_wipe : ByteArray := prog_12_method_18_code
def yX10_wipe : MethodName := ⟨RX10, "wipe", "()I"⟩
abbrev cX10_close : ByteArray := prog_12_method_19_code
def yX10_close : MethodName := ⟨RX10, "close", "(II)I"⟩
abbrev cX10_isName : ByteArray := prog_12_method_20_code
def yX10_isName : MethodName := ⟨RX10, "isName", "(I)Z"⟩
abbrev cX10_begin : ByteArray := prog_12_method_21_code
def yX10_begin : MethodName := ⟨RX10, "begin", "(I)I"⟩
abbrev cX10_deed : ByteArray := prog_12_method_22_code
def yX10_deed : MethodName := ⟨RX10, "deed", "(I)I"⟩
abbrev cX10_readOn : ByteArray := prog_12_method_23_code
def yX10_readOn : MethodName := ⟨RX10, "readOn", "(II)I"⟩
abbrev cX10_fault : ByteArray := prog_12_method_24_code
def yX10_fault : MethodName := ⟨RX10, "fault", "()I"⟩
abbrev cX10_whyNoSeat : ByteArray := prog_12_method_25_code
def yX10_whyNoSeat : MethodName := ⟨RX10, "whyNoSeat", "(I)I"⟩
abbrev cX10_whyNoChange : ByteArray := prog_12_method_26_code
def yX10_whyNoChange : MethodName := ⟨RX10, "whyNoChange", "(II)I"⟩
abbrev cX10_whyNot : ByteArray := prog_12_method_27_code
def yX10_whyNot : MethodName := ⟨RX10, "whyNot", "(III)I"⟩
abbrev cX10_comeTo : ByteArray := prog_12_method_28_code
def yX10_comeTo : MethodName := ⟨RX10, "comeTo", "(II)V"⟩
abbrev cX10_sit : ByteArray := prog_12_method_29_code
def yX10_sit : MethodName := ⟨RX10, "sit", "(I)V"⟩
abbrev cX10_change : ByteArray := prog_12_method_30_code
def yX10_change : MethodName := ⟨RX10, "change", "(II)V"⟩
abbrev cX10_evening : ByteArray := prog_12_method_31_code
def yX10_evening : MethodName := ⟨RX10, "evening", "()V"⟩
abbrev cX10_happen : ByteArray := prog_12_method_32_code
def yX10_happen : MethodName := ⟨RX10, "happen", "(III)V"⟩
abbrev cX10_keepNow : ByteArray := prog_12_method_33_code
def yX10_keepNow : MethodName := ⟨RX10, "keepNow", "()V"⟩
abbrev cX10_back : ByteArray := prog_12_method_34_code
def yX10_back : MethodName := ⟨RX10, "back", "(I)I"⟩
abbrev cX10_goDays : ByteArray := prog_12_method_35_code
def yX10_goDays : MethodName := ⟨RX10, "goDays", "()V"⟩
abbrev cX10_refusal : ByteArray := prog_12_method_36_code
def yX10_refusal : MethodName := ⟨RX10, "refusal", "()I"⟩
abbrev cX10_judge : ByteArray := prog_12_method_37_code
def yX10_judge : MethodName := ⟨RX10, "judge", "(I)I"⟩
abbrev cX10_behind : ByteArray := prog_12_method_38_code
def yX10_behind : MethodName := ⟨RX10, "behind", "(II)I"⟩
abbrev cX10_lies : ByteArray := prog_12_method_39_code
def yX10_lies : MethodName := ⟨RX10, "lies", "(II)I"⟩
abbrev cX10_hands : ByteArray := prog_12_method_40_code
def yX10_hands : MethodName := ⟨RX10, "hands", "(II)I"⟩
abbrev cX10_most : ByteArray := prog_12_method_41_code
def yX10_most : MethodName := ⟨RX10, "most", "()I"⟩
abbrev cX10_done : ByteArray := prog_12_method_42_code
def yX10_done : MethodName := ⟨RX10, "done", "()I"⟩
abbrev cX10_far : ByteArray := prog_12_method_43_code
def yX10_far : MethodName := ⟨RX10, "far", "(II)I"⟩
abbrev cX10_steps : ByteArray := prog_12_method_44_code
def yX10_steps : MethodName := ⟨RX10, "steps", "(II)I"⟩
abbrev cX10_get : ByteArray := prog_12_method_45_code
def yX10_get : MethodName := ⟨RX10, "get", "(II)I"⟩
abbrev cX10_findOff : ByteArray := prog_12_method_46_code
def yX10_findOff : MethodName := ⟨RX10, "findOff", "()V"⟩
abbrev cX10_least : ByteArray := prog_12_method_47_code
def yX10_least : MethodName := ⟨RX10, "least", "(II)I"⟩
abbrev cX10_rowBy : ByteArray := prog_12_method_48_code
def yX10_rowBy : MethodName := ⟨RX10, "rowBy", "(III)I"⟩
abbrev cX10_round : ByteArray := prog_12_method_49_code
def yX10_round : MethodName := ⟨RX10, "round", "(II)I"⟩
abbrev cX10_goesOn : ByteArray := prog_12_method_50_code
def yX10_goesOn : MethodName := ⟨RX10, "goesOn", "(II)I"⟩
abbrev cX10_walk : ByteArray := prog_12_method_51_code
def yX10_walk : MethodName := ⟨RX10, "walk", "(II)I"⟩
abbrev cX10_readSeven : ByteArray := prog_12_method_52_code
def yX10_readSeven : MethodName := ⟨RX10, "readSeven", "(I)Z"⟩
abbrev cX10_sitsBy : ByteArray := prog_12_method_53_code
def yX10_sitsBy : MethodName := ⟨RX10, "sitsBy", "()I"⟩
abbrev cX10_seat : ByteArray := prog_12_method_54_code
def yX10_seat : MethodName := ⟨RX10, "seat", "(I)V"⟩
abbrev cX10_right : ByteArray := prog_12_method_55_code
def yX10_right : MethodName := ⟨RX10, "right", "(II)I"⟩
abbrev cX10_seen : ByteArray := prog_12_method_56_code
def yX10_seen : MethodName := ⟨RX10, "seen", "(IIZ)I"⟩
abbrev cX10_clear : ByteArray := prog_12_method_57_code
def yX10_clear : MethodName := ⟨RX10, "clear", "()I"⟩
abbrev cX10_whoHas : ByteArray := prog_12_method_58_code
def yX10_whoHas : MethodName := ⟨RX10, "whoHas", "(II)I"⟩
abbrev cX10_isFit : ByteArray := prog_12_method_59_code
def yX10_isFit : MethodName := ⟨RX10, "isFit", "(I)Z"⟩
abbrev cX10_fits : ByteArray := prog_12_method_60_code
def yX10_fits : MethodName := ⟨RX10, "fits", "(I)I"⟩
abbrev cX10_countBy : ByteArray := prog_12_method_61_code
def yX10_countBy : MethodName := ⟨RX10, "countBy", "(I)V"⟩
abbrev cX10_ask : ByteArray := prog_12_method_62_code
def yX10_ask : MethodName := ⟨RX10, "ask", "(I)I"⟩
abbrev cX10_rowsBy : ByteArray := prog_12_method_63_code
def yX10_rowsBy : MethodName := ⟨RX10, "rowsBy", "(II)I"⟩
abbrev cX10_worthOf : ByteArray := prog_12_method_64_code
def yX10_worthOf : MethodName := ⟨RX10, "worthOf", "(I)I"⟩
abbrev cX10_take : ByteArray := prog_12_method_65_code
def yX10_take : MethodName := ⟨RX10, "take", "(II)I"⟩
abbrev cX10_lowest : ByteArray := prog_12_method_66_code
def yX10_lowest : MethodName := ⟨RX10, "lowest", "(JJI)J"⟩
abbrev cX10_evenings : ByteArray := prog_12_method_67_code
def yX10_evenings : MethodName := ⟨RX10, "evenings", "(IIII)J"⟩
abbrev cX10_seasonOne : ByteArray := prog_12_method_68_code
def yX10_seasonOne : MethodName := ⟨RX10, "seasonOne", "(III)V"⟩
abbrev cX10_manyLie : ByteArray := prog_12_method_69_code
def yX10_manyLie : MethodName := ⟨RX10, "manyLie", "()I"⟩
abbrev cX10_manyLost : ByteArray := prog_12_method_70_code
def yX10_manyLost : MethodName := ⟨RX10, "manyLost", "()I"⟩
abbrev cX10_season : ByteArray := prog_12_method_71_code
def yX10_season : MethodName := ⟨RX10, "season", "(III)I"⟩
abbrev cX10_pass : ByteArray := prog_12_method_72_code
def yX10_pass : MethodName := ⟨RX10, "pass", "(I)I"⟩
abbrev cX10_passRow : ByteArray := prog_12_method_73_code
def yX10_passRow : MethodName := ⟨RX10, "passRow", "([II)V"⟩
abbrev cX10_passAll : ByteArray := prog_12_method_74_code
def yX10_passAll : MethodName := ⟨RX10, "passAll", "()V"⟩
abbrev cX10_image : ByteArray := prog_12_method_75_code
def yX10_image : MethodName := ⟨RX10, "image", "(I)I"⟩
abbrev cX10_restore : ByteArray := prog_12_method_76_code
def yX10_restore : MethodName := ⟨RX10, "restore", "(I)I"⟩
abbrev cX10_ofBenches : ByteArray := prog_12_method_77_code
def yX10_ofBenches : MethodName := ⟨RX10, "ofBenches", "(I)I"⟩
abbrev cX10_ofOnes : ByteArray := prog_12_method_78_code
def yX10_ofOnes : MethodName := ⟨RX10, "ofOnes", "(I)I"⟩
abbrev cX10_ofAll : ByteArray := prog_12_method_79_code
def yX10_ofAll : MethodName := ⟨RX10, "ofAll", "(I)I"⟩
abbrev cX10_told : ByteArray := prog_12_method_80_code
def yX10_told : MethodName := ⟨RX10, "told", "(I)I"⟩
def RJ6 : String := "java/lang/Integer"
def TJ6 : u_T := fun k => match k with
  | _ => ("", "", "", false)
def tyJ6 : Nat → FieldType := fun k => match k with
  | _ => .int
abbrev cJ6_numberOfTrailingZeros_0f7a4 : ByteArray := prog_13_method_48_code
def yJ6_numberOfTrailingZeros_0f7a4 : MethodName := ⟨RJ6, "numberOfTrailingZeros", "(I)I"⟩
abbrev cJ6_bitCount_0f7a4 : ByteArray := prog_13_method_49_code
def yJ6_bitCount_0f7a4 : MethodName := ⟨RJ6, "bitCount", "(I)I"⟩
def RJ13 : String := "java/lang/Long"
def TJ13 : u_T := fun k => match k with
  | _ => ("", "", "", false)
def tyJ13 : Nat → FieldType := fun k => match k with
  | _ => .int
abbrev cJ13_numberOfTrailingZeros_95d88 : ByteArray := prog_14_method_49_code
def yJ13_numberOfTrailingZeros_95d88 : MethodName := ⟨RJ13, "numberOfTrailingZeros", "(J)I"⟩
def RJ9 : String := "java/lang/Math"
def TJ9 : u_T := fun k => match k with
  | _ => ("", "", "", false)
def tyJ9 : Nat → FieldType := fun k => match k with
  | _ => .int
abbrev cJ9_max_7cf53 : ByteArray := prog_15_method_65_code
def yJ9_max_7cf53 : MethodName := ⟨RJ9, "max", "(II)I"⟩
abbrev cJ9_max_f86c9 : ByteArray := prog_15_method_66_code
def yJ9_max_f86c9 : MethodName := ⟨RJ9, "max", "(JJ)J"⟩
abbrev cJ9_min_7cf53 : ByteArray := prog_15_method_69_code
def yJ9_min_7cf53 : MethodName := ⟨RJ9, "min", "(II)I"⟩
def RJ7 : String := "java/util/Arrays"
def TJ7 : u_T := fun k => match k with
  | _ => ("", "", "", false)
def tyJ7 : Nat → FieldType := fun k => match k with
  | _ => .int
abbrev cJ7_fill_53178 : ByteArray := prog_18_method_103_code
def yJ7_fill_53178 : MethodName := ⟨RJ7, "fill", "([II)V"⟩
def RL : String := "BenchMemoriesLaw"
abbrev cL_law : ByteArray := code
def yL_law : MethodName := ⟨RL, "law", "([I)Z"⟩
end
section
set_option maxRecDepth 100000
/-- BenchMemories$Course.<init>()V -/
def zp_0 : List (Nat × Instr × Nat) := [(0, .aload_n 0, 1), (1, .invokespecial 3, 3), (4, .aload_n 0, 1), (5, .new 9, 3), (8, .dup, 1), (9, .invokespecial 11, 3), (12, .putfield 12, 3), (15, .aload_n 0, 1), (16, .new 18, 3), (19, .dup, 1), (20, .bipush 12, 2), (22, .invokespecial 20, 3), (25, .putfield 23, 3), (28, .return_, 1)]
theorem zd_0 : ∀ q ∈ zp_0, decode cX0_init q.1 = .ok q.2 := by decide +kernel
/-- BenchMemories$Course.tryOut(LBenchMemories$Garden;LBenchMemories$Pad;)I -/
def zp_1 : List (Nat × Instr × Nat) := [(0, .aload_n 2, 1), (1, .ifnull 12, 3), (4, .aload_n 2, 1), (5, .invokevirtual 27, 3), (8, .bipush (-6), 2), (10, .if_icmp .eq 6, 3), (13, .bipush (-5), 2), (15, .ireturn, 1), (16, .aload_n 0, 1), (17, .aload_n 1, 1), (18, .invokevirtual 33, 3), (21, .iconst 0, 1), (22, .istore_n 3, 1), (23, .iconst 0, 1), (24, .istore 4, 2), (26, .iconst 0, 1), (27, .istore 5, 2), (29, .iload 5, 2), (31, .aload_n 2, 1), (32, .getfield 37, 3), (35, .if_icmp .ge 84, 3), (38, .aload_n 0, 1), (39, .getfield 41, 3), (42, .bipush (-6), 2), (44, .if_icmp .ne 75, 3), (47, .aload_n 2, 1), (48, .getfield 44, 3), (51, .iload 5, 2), (53, .invokevirtual 47, 3), (56, .istore 6, 2), (58, .iload_n 3, 1), (59, .ifCond .ne 21, 3), (62, .iload 6, 2), (64, .bipush 65, 2), (66, .isub, 1), (67, .invokestatic 51, 3), (70, .ifCond .eq 10, 3), (73, .iload 6, 2), (75, .bipush 65, 2), (77, .isub, 1), (78, .istore 4, 2), (80, .iload_n 3, 1), (81, .iload 6, 2), (83, .invokestatic 55, 3), (86, .istore 7, 2), (88, .iload 7, 2), (90, .ifCond .ne 20, 3), (93, .aload_n 0, 1), (94, .iload_n 3, 1), (95, .iload 6, 2), (97, .invokestatic 59, 3), (100, .iload 4, 2), (102, .iload 6, 2), (104, .invokestatic 62, 3), (107, .invokevirtual 65, 3), (110, .iload 7, 2), (112, .istore_n 3, 1), (113, .iinc 5 1, 3), (116, .goto (-87), 3), (119, .aload_n 0, 1), (120, .getfield 41, 3), (123, .bipush (-6), 2), (125, .if_icmp .ne 7, 3), (128, .iconst 0, 1), (129, .goto 5, 3), (132, .bipush (-3), 2), (134, .ireturn, 1)]
theorem zd_1 : ∀ q ∈ zp_1, decode cX0_tryOut q.1 = .ok q.2 := by decide +kernel
/-- BenchMemories$Course.begin(LBenchMemories$Garden;)V -/
def zp_2 : List (Nat × Instr × Nat) := [(0, .aload_n 0, 1), (1, .getfield 12, 3), (4, .aload_n 1, 1), (5, .invokevirtual 69, 3), (8, .aload_n 0, 1), (9, .getfield 23, 3), (12, .iconst 0, 1), (13, .invokevirtual 72, 3), (16, .aload_n 0, 1), (17, .iconst 0, 1), (18, .putfield 75, 3), (21, .aload_n 0, 1), (22, .iconst 0, 1), (23, .putfield 78, 3), (26, .aload_n 0, 1), (27, .bipush (-6), 2), (29, .putfield 41, 3), (32, .aload_n 0, 1), (33, .bipush (-6), 2), (35, .putfield 81, 3), (38, .return_, 1)]
theorem zd_2 : ∀ q ∈ zp_2, decode cX0_begin q.1 = .ok q.2 := by decide +kernel
/-- BenchMemories$Course.tryAct(III)V -/
def zp_3 : List (Nat × Instr × Nat) := [(0, .aload_n 0, 1), (1, .getfield 12, 3), (4, .iload_n 1, 1), (5, .iload_n 2, 1), (6, .iload_n 3, 1), (7, .invokevirtual 84, 3), (10, .istore 4, 2), (12, .iload 4, 2), (14, .ifCond .eq 18, 3), (17, .aload_n 0, 1), (18, .aload_n 0, 1), (19, .getfield 75, 3), (22, .putfield 41, 3), (25, .aload_n 0, 1), (26, .iload 4, 2), (28, .putfield 81, 3), (31, .return_, 1), (32, .aload_n 0, 1), (33, .getfield 12, 3), (36, .iload_n 1, 1), (37, .iload_n 2, 1), (38, .iload_n 3, 1), (39, .invokevirtual 88, 3), (42, .aload_n 0, 1), (43, .dup, 1), (44, .getfield 75, 3), (47, .iconst 1, 1), (48, .iadd, 1), (49, .putfield 75, 3), (52, .iload_n 1, 1), (53, .iconst 1, 1), (54, .if_icmp .ne 25, 3), (57, .aload_n 0, 1), (58, .dup, 1), (59, .getfield 78, 3), (62, .iconst 1, 1), (63, .iadd, 1), (64, .putfield 78, 3), (67, .aload_n 0, 1), (68, .aload_n 0, 1), (69, .getfield 12, 3), (72, .iload_n 2, 1), (73, .invokevirtual 91, 3), (76, .invokevirtual 94, 3), (79, .iload_n 1, 1), (80, .iconst 2, 1), (81, .if_icmp .ne 27, 3), (84, .aload_n 0, 1), (85, .aload_n 0, 1), (86, .getfield 12, 3), (89, .iload_n 2, 1), (90, .invokevirtual 91, 3), (93, .invokevirtual 94, 3), (96, .aload_n 0, 1), (97, .aload_n 0, 1), (98, .getfield 12, 3), (101, .iload_n 3, 1), (102, .invokevirtual 91, 3), (105, .invokevirtual 94, 3), (108, .return_, 1)]
theorem zd_3 : ∀ q ∈ zp_3, decode cX0_tryAct q.1 = .ok q.2 := by decide +kernel
/-- BenchMemories$Course.countHand(I)V -/
def zp_4 : List (Nat × Instr × Nat) := [(0, .aload_n 0, 1), (1, .getfield 23, 3), (4, .iload_n 1, 1), (5, .aload_n 0, 1), (6, .getfield 23, 3), (9, .iload_n 1, 1), (10, .invokevirtual 47, 3), (13, .iconst 1, 1), (14, .iadd, 1), (15, .invokevirtual 97, 3), (18, .return_, 1)]
theorem zd_4 : ∀ q ∈ zp_4, decode cX0_countHand q.1 = .ok q.2 := by decide +kernel
/-- BenchMemories$Course.mostHanded()I -/
def zp_5 : List (Nat × Instr × Nat) := [(0, .bipush (-6), 2), (2, .istore_n 1, 1), (3, .iconst 0, 1), (4, .istore_n 2, 1), (5, .iconst 0, 1), (6, .istore_n 3, 1), (7, .iload_n 3, 1), (8, .bipush 12, 2), (10, .if_icmp .ge 32, 3), (13, .aload_n 0, 1), (14, .getfield 23, 3), (17, .iload_n 3, 1), (18, .invokevirtual 47, 3), (21, .iload_n 2, 1), (22, .if_icmp .le 14, 3), (25, .iload_n 3, 1), (26, .istore_n 1, 1), (27, .aload_n 0, 1), (28, .getfield 23, 3), (31, .iload_n 3, 1), (32, .invokevirtual 47, 3), (35, .istore_n 2, 1), (36, .iinc 3 1, 3), (39, .goto (-32), 3), (42, .iload_n 1, 1), (43, .ireturn, 1)]
theorem zd_5 : ∀ q ∈ zp_5, decode cX0_mostHanded q.1 = .ok q.2 := by decide +kernel
/-- BenchMemories$Course.drift(LBenchMemories$Garden;II)V -/
def zp_6 : List (Nat × Instr × Nat) := [(0, .aload_n 0, 1), (1, .aload_n 1, 1), (2, .invokevirtual 33, 3), (5, .iload_n 2, 1), (6, .istore 4, 2), (8, .iconst 0, 1), (9, .istore 5, 2), (11, .iload 5, 2), (13, .iload_n 3, 1), (14, .if_icmp .ge 44, 3), (17, .bipush 75, 2), (19, .iload 4, 2), (21, .imul, 1), (22, .bipush 74, 2), (24, .iadd, 1), (25, .ldc 101, 2), (27, .irem, 1), (28, .istore 4, 2), (30, .aload_n 0, 1), (31, .iload 4, 2), (33, .bipush 8, 2), (35, .irem, 1), (36, .iload 4, 2), (38, .bipush 8, 2), (40, .idiv, 1), (41, .bipush 8, 2), (43, .irem, 1), (44, .iload 4, 2), (46, .bipush 64, 2), (48, .idiv, 1), (49, .invokevirtual 102, 3), (52, .iinc 5 1, 3), (55, .goto (-44), 3), (58, .return_, 1)]
theorem zd_6 : ∀ q ∈ zp_6, decode cX0_drift q.1 = .ok q.2 := by decide +kernel
/-- BenchMemories$Course.drawAct(III)V -/
def zp_7 : List (Nat × Instr × Nat) := [(0, .iload_n 2, 1), (1, .bipush 6, 2), (3, .if_icmp .ne 11, 3), (6, .iload_n 3, 1), (7, .bipush 8, 2), (9, .irem, 1), (10, .ifCond .eq 4, 3), (13, .return_, 1), (14, .iload_n 2, 1), (15, .invokestatic 105, 3), (18, .istore 4, 2), (20, .iload 4, 2), (22, .ifCond .ne 10, 3), (25, .iload_n 3, 1), (26, .bipush 10, 2), (28, .irem, 1), (29, .goto 7, 3), (32, .iload_n 3, 1), (33, .bipush 8, 2), (35, .irem, 1), (36, .istore 5, 2), (38, .aload_n 0, 1), (39, .getfield 12, 3), (42, .iload 4, 2), (44, .iload_n 1, 1), (45, .iload 5, 2), (47, .invokevirtual 84, 3), (50, .ifCond .ne 15, 3), (53, .aload_n 0, 1), (54, .getfield 12, 3), (57, .iload 4, 2), (59, .iload_n 1, 1), (60, .iload 5, 2), (62, .invokevirtual 88, 3), (65, .return_, 1)]
theorem zd_7 : ∀ q ∈ zp_7, decode cX0_drawAct q.1 = .ok q.2 := by decide +kernel
/-- BenchMemories$Course.actByLot(I)I -/
def zp_8 : List (Nat × Instr × Nat) := [(0, .iload_n 0, 1), (1, .tableswitch 43 3 7 #[35, 35, 37, 39, 41], 35), (36, .iconst 1, 1), (37, .ireturn, 1), (38, .iconst 2, 1), (39, .ireturn, 1), (40, .iconst 3, 1), (41, .ireturn, 1), (42, .iconst 5, 1), (43, .ireturn, 1), (44, .iconst 0, 1), (45, .ireturn, 1)]
theorem zd_8 : ∀ q ∈ zp_8, decode cX0_actByLot q.1 = .ok q.2 := by decide +kernel
/-- BenchMemories$Garden.<init>()V -/
def zp_9 : List (Nat × Instr × Nat) := [(0, .aload_n 0, 1), (1, .invokespecial 3, 3), (4, .aload_n 0, 1), (5, .new 9, 3), (8, .dup, 1), (9, .bipush 10, 2), (11, .invokespecial 11, 3), (14, .putfield 14, 3), (17, .aload_n 0, 1), (18, .new 9, 3), (21, .dup, 1), (22, .bipush 8, 2), (24, .invokespecial 11, 3), (27, .putfield 20, 3), (30, .aload_n 0, 1), (31, .new 9, 3), (34, .dup, 1), (35, .bipush 12, 2), (37, .invokespecial 11, 3), (40, .putfield 23, 3), (43, .aload_n 0, 1), (44, .new 9, 3), (47, .dup, 1), (48, .bipush 12, 2), (50, .invokespecial 11, 3), (53, .putfield 26, 3), (56, .aload_n 0, 1), (57, .new 9, 3), (60, .dup, 1), (61, .bipush 8, 2), (63, .invokespecial 11, 3), (66, .putfield 29, 3), (69, .iconst 0, 1), (70, .istore_n 1, 1), (71, .iload_n 1, 1), (72, .bipush 8, 2), (74, .if_icmp .ge 18, 3), (77, .aload_n 0, 1), (78, .getfield 20, 3), (81, .iload_n 1, 1), (82, .iload_n 1, 1), (83, .invokevirtual 32, 3), (86, .iinc 1 1, 3), (89, .goto (-18), 3), (92, .iconst 0, 1), (93, .istore_n 1, 1), (94, .iload_n 1, 1), (95, .bipush 12, 2), (97, .if_icmp .ge 30, 3), (100, .aload_n 0, 1), (101, .getfield 23, 3), (104, .iload_n 1, 1), (105, .iload_n 1, 1), (106, .invokestatic 36, 3), (109, .ifCond .eq 7, 3), (112, .iload_n 1, 1), (113, .goto 5, 3), (116, .bipush (-6), 2), (118, .invokevirtual 32, 3), (121, .iinc 1 1, 3), (124, .goto (-30), 3), (127, .return_, 1)]
theorem zd_9 : ∀ q ∈ zp_9, decode cX1_init q.1 = .ok q.2 := by decide +kernel
/-- BenchMemories$Garden.copyFrom(LBenchMemories$Garden;)V -/
def zp_10 : List (Nat × Instr × Nat) := [(0, .aload_n 1, 1), (1, .ifnonnull 4, 3), (4, .return_, 1), (5, .aload_n 0, 1), (6, .getfield 14, 3), (9, .aload_n 1, 1), (10, .getfield 14, 3), (13, .invokevirtual 40, 3), (16, .aload_n 0, 1), (17, .getfield 20, 3), (20, .aload_n 1, 1), (21, .getfield 20, 3), (24, .invokevirtual 40, 3), (27, .aload_n 0, 1), (28, .getfield 23, 3), (31, .aload_n 1, 1), (32, .getfield 23, 3), (35, .invokevirtual 40, 3), (38, .aload_n 0, 1), (39, .getfield 26, 3), (42, .aload_n 1, 1), (43, .getfield 26, 3), (46, .invokevirtual 40, 3), (49, .aload_n 0, 1), (50, .getfield 29, 3), (53, .aload_n 1, 1), (54, .getfield 29, 3), (57, .invokevirtual 40, 3), (60, .aload_n 0, 1), (61, .aload_n 1, 1), (62, .getfield 44, 3), (65, .putfield 44, 3), (68, .aload_n 0, 1), (69, .aload_n 1, 1), (70, .getfield 48, 3), (73, .putfield 48, 3), (76, .aload_n 0, 1), (77, .aload_n 1, 1), (78, .getfield 51, 3), (81, .putfield 51, 3), (84, .return_, 1)]
theorem zd_10 : ∀ q ∈ zp_10, decode cX1_copyFrom q.1 = .ok q.2 := by decide +kernel
/-- BenchMemories$Garden.waysFrom(I)I -/
def zp_11 : List (Nat × Instr × Nat) := [(0, .aload_n 0, 1), (1, .getfield 14, 3), (4, .iload_n 1, 1), (5, .invokevirtual 54, 3), (8, .ireturn, 1)]
theorem zd_11 : ∀ q ∈ zp_11, decode cX1_waysFrom q.1 = .ok q.2 := by decide +kernel
/-- BenchMemories$Garden.setWay(IIZ)V -/
def zp_12 : List (Nat × Instr × Nat) := [(0, .aload_n 0, 1), (1, .getfield 14, 3), (4, .iload_n 1, 1), (5, .invokevirtual 54, 3), (8, .iconst 1, 1), (9, .iload_n 2, 1), (10, .ishl, 1), (11, .iconst (-1), 1), (12, .ixor, 1), (13, .iand, 1), (14, .istore 4, 2), (16, .aload_n 0, 1), (17, .getfield 14, 3), (20, .iload_n 2, 1), (21, .invokevirtual 54, 3), (24, .iconst 1, 1), (25, .iload_n 1, 1), (26, .ishl, 1), (27, .iconst (-1), 1), (28, .ixor, 1), (29, .iand, 1), (30, .istore 5, 2), (32, .aload_n 0, 1), (33, .getfield 14, 3), (36, .iload_n 1, 1), (37, .iload_n 3, 1), (38, .ifCond .eq 12, 3), (41, .iload 4, 2), (43, .iconst 1, 1), (44, .iload_n 2, 1), (45, .ishl, 1), (46, .ior, 1), (47, .goto 5, 3), (50, .iload 4, 2), (52, .invokevirtual 32, 3), (55, .aload_n 0, 1), (56, .getfield 14, 3), (59, .iload_n 2, 1), (60, .iload_n 3, 1), (61, .ifCond .eq 12, 3), (64, .iload 5, 2), (66, .iconst 1, 1), (67, .iload_n 1, 1), (68, .ishl, 1), (69, .ior, 1), (70, .goto 5, 3), (73, .iload 5, 2), (75, .invokevirtual 32, 3), (78, .return_, 1)]
theorem zd_12 : ∀ q ∈ zp_12, decode cX1_setWay q.1 = .ok q.2 := by decide +kernel
/-- BenchMemories$Garden.countWays()I -/
def zp_13 : List (Nat × Instr × Nat) := [(0, .iconst 0, 1), (1, .istore_n 1, 1), (2, .iconst 0, 1), (3, .istore_n 2, 1), (4, .iload_n 2, 1), (5, .bipush 10, 2), (7, .if_icmp .ge 23, 3), (10, .iload_n 1, 1), (11, .aload_n 0, 1), (12, .getfield 14, 3), (15, .iload_n 2, 1), (16, .invokevirtual 54, 3), (19, .invokestatic 58, 3), (22, .iadd, 1), (23, .istore_n 1, 1), (24, .iinc 2 1, 3), (27, .goto (-23), 3), (30, .iload_n 1, 1), (31, .iconst 2, 1), (32, .idiv, 1), (33, .ireturn, 1)]
theorem zd_13 : ∀ q ∈ zp_13, decode cX1_countWays q.1 = .ok q.2 := by decide +kernel
/-- BenchMemories$Garden.neighboursOf(I)I -/
def zp_14 : List (Nat × Instr × Nat) := [(0, .iconst 0, 1), (1, .istore_n 2, 1), (2, .iconst 0, 1), (3, .istore_n 3, 1), (4, .iload_n 3, 1), (5, .bipush 10, 2), (7, .if_icmp .ge 28, 3), (10, .iload_n 1, 1), (11, .iload_n 3, 1), (12, .invokestatic 63, 3), (15, .ifCond .eq 14, 3), (18, .iload_n 2, 1), (19, .aload_n 0, 1), (20, .getfield 14, 3), (23, .iload_n 3, 1), (24, .invokevirtual 54, 3), (27, .ior, 1), (28, .istore_n 2, 1), (29, .iinc 3 1, 3), (32, .goto (-28), 3), (35, .iload_n 2, 1), (36, .ireturn, 1)]
theorem zd_14 : ∀ q ∈ zp_14, decode cX1_neighboursOf q.1 = .ok q.2 := by decide +kernel
/-- BenchMemories$Garden.stepsBetween(II)I -/
def zp_15 : List (Nat × Instr × Nat) := [(0, .iconst 1, 1), (1, .iload_n 1, 1), (2, .ishl, 1), (3, .istore_n 3, 1), (4, .iconst 0, 1), (5, .istore 4, 2), (7, .iload 4, 2), (9, .bipush 10, 2), (11, .if_icmp .ge 28, 3), (14, .iload_n 3, 1), (15, .iload_n 2, 1), (16, .invokestatic 63, 3), (19, .ifCond .eq 6, 3), (22, .iload 4, 2), (24, .ireturn, 1), (25, .iload_n 3, 1), (26, .aload_n 0, 1), (27, .iload_n 3, 1), (28, .invokevirtual 67, 3), (31, .ior, 1), (32, .istore_n 3, 1), (33, .iinc 4 1, 3), (36, .goto (-29), 3), (39, .bipush (-6), 2), (41, .ireturn, 1)]
theorem zd_15 : ∀ q ∈ zp_15, decode cX1_stepsBetween q.1 = .ok q.2 := by decide +kernel
/-- BenchMemories$Garden.reachableFrom(I)I -/
def zp_16 : List (Nat × Instr × Nat) := [(0, .iconst 1, 1), (1, .iload_n 1, 1), (2, .ishl, 1), (3, .istore_n 2, 1), (4, .iconst 1, 1), (5, .istore_n 3, 1), (6, .iload_n 3, 1), (7, .bipush 10, 2), (9, .if_icmp .ge 17, 3), (12, .iload_n 2, 1), (13, .aload_n 0, 1), (14, .iload_n 2, 1), (15, .invokevirtual 67, 3), (18, .ior, 1), (19, .istore_n 2, 1), (20, .iinc 3 1, 3), (23, .goto (-17), 3), (26, .iload_n 2, 1), (27, .ireturn, 1)]
theorem zd_16 : ∀ q ∈ zp_16, decode cX1_reachableFrom q.1 = .ok q.2 := by decide +kernel
/-- BenchMemories$Garden.hasCushion(I)Z -/
def zp_17 : List (Nat × Instr × Nat) := [(0, .aload_n 0, 1), (1, .getfield 48, 3), (4, .iload_n 1, 1), (5, .invokestatic 63, 3), (8, .ireturn, 1)]
theorem zd_17 : ∀ q ∈ zp_17, decode cX1_hasCushion q.1 = .ok q.2 := by decide +kernel
/-- BenchMemories$Garden.benchOf(I)I -/
def zp_18 : List (Nat × Instr × Nat) := [(0, .aload_n 0, 1), (1, .getfield 20, 3), (4, .iload_n 1, 1), (5, .invokevirtual 54, 3), (8, .ireturn, 1)]
theorem zd_18 : ∀ q ∈ zp_18, decode cX1_benchOf q.1 = .ok q.2 := by decide +kernel
/-- BenchMemories$Garden.placeOf(I)I -/
def zp_19 : List (Nat × Instr × Nat) := [(0, .aload_n 0, 1), (1, .getfield 23, 3), (4, .iload_n 1, 1), (5, .invokevirtual 54, 3), (8, .ireturn, 1)]
theorem zd_19 : ∀ q ∈ zp_19, decode cX1_placeOf q.1 = .ok q.2 := by decide +kernel
/-- BenchMemories$Garden.heldBy(I)I -/
def zp_20 : List (Nat × Instr × Nat) := [(0, .aload_n 0, 1), (1, .iload_n 1, 1), (2, .invokevirtual 70, 3), (5, .ireturn, 1)]
theorem zd_20 : ∀ q ∈ zp_20, decode cX1_heldBy q.1 = .ok q.2 := by decide +kernel
/-- BenchMemories$Garden.lyingOn(I)I -/
def zp_21 : List (Nat × Instr × Nat) := [(0, .aload_n 0, 1), (1, .bipush 10, 2), (3, .iload_n 1, 1), (4, .iadd, 1), (5, .invokevirtual 70, 3), (8, .ireturn, 1)]
theorem zd_21 : ∀ q ∈ zp_21, decode cX1_lyingOn q.1 = .ok q.2 := by decide +kernel
/-- BenchMemories$Garden.memoryAt(I)I -/
def zp_22 : List (Nat × Instr × Nat) := [(0, .iconst 0, 1), (1, .istore_n 2, 1), (2, .iload_n 2, 1), (3, .bipush 12, 2), (5, .if_icmp .ge 23, 3), (8, .aload_n 0, 1), (9, .getfield 23, 3), (12, .iload_n 2, 1), (13, .invokevirtual 54, 3), (16, .iload_n 1, 1), (17, .if_icmp .ne 5, 3), (20, .iload_n 2, 1), (21, .ireturn, 1), (22, .iinc 2 1, 3), (25, .goto (-23), 3), (28, .bipush (-6), 2), (30, .ireturn, 1)]
theorem zd_22 : ∀ q ∈ zp_22, decode cX1_memoryAt q.1 = .ok q.2 := by decide +kernel
/-- BenchMemories$Garden.freshOn(I)I -/
def zp_23 : List (Nat × Instr × Nat) := [(0, .aload_n 0, 1), (1, .iload_n 1, 1), (2, .invokevirtual 73, 3), (5, .istore_n 2, 1), (6, .iload_n 2, 1), (7, .bipush (-6), 2), (9, .if_icmp .ne 8, 3), (12, .bipush (-6), 2), (14, .goto 11, 3), (17, .aload_n 0, 1), (18, .getfield 26, 3), (21, .iload_n 2, 1), (22, .invokevirtual 54, 3), (25, .ireturn, 1)]
theorem zd_23 : ∀ q ∈ zp_23, decode cX1_freshOn q.1 = .ok q.2 := by decide +kernel
/-- BenchMemories$Garden.standAt(II)V -/
def zp_24 : List (Nat × Instr × Nat) := [(0, .aload_n 0, 1), (1, .getfield 20, 3), (4, .iload_n 1, 1), (5, .iload_n 2, 1), (6, .invokevirtual 32, 3), (9, .return_, 1)]
theorem zd_24 : ∀ q ∈ zp_24, decode cX1_standAt q.1 = .ok q.2 := by decide +kernel
/-- BenchMemories$Garden.putWith(II)V -/
def zp_25 : List (Nat × Instr × Nat) := [(0, .aload_n 0, 1), (1, .getfield 23, 3), (4, .iload_n 1, 1), (5, .iload_n 2, 1), (6, .invokevirtual 32, 3), (9, .return_, 1)]
theorem zd_25 : ∀ q ∈ zp_25, decode cX1_putWith q.1 = .ok q.2 := by decide +kernel
/-- BenchMemories$Garden.makeNowhere(I)V -/
def zp_26 : List (Nat × Instr × Nat) := [(0, .aload_n 0, 1), (1, .getfield 23, 3), (4, .iload_n 1, 1), (5, .bipush (-6), 2), (7, .invokevirtual 32, 3), (10, .return_, 1)]
theorem zd_26 : ∀ q ∈ zp_26, decode cX1_makeNowhere q.1 = .ok q.2 := by decide +kernel
/-- BenchMemories$Garden.putOn(III)V -/
def zp_27 : List (Nat × Instr × Nat) := [(0, .aload_n 0, 1), (1, .getfield 23, 3), (4, .iload_n 1, 1), (5, .bipush 10, 2), (7, .iload_n 2, 1), (8, .iadd, 1), (9, .invokevirtual 32, 3), (12, .aload_n 0, 1), (13, .getfield 26, 3), (16, .iload_n 1, 1), (17, .iload_n 3, 1), (18, .invokevirtual 32, 3), (21, .return_, 1)]
theorem zd_27 : ∀ q ∈ zp_27, decode cX1_putOn q.1 = .ok q.2 := by decide +kernel
/-- BenchMemories$Garden.countNowhere()I -/
def zp_28 : List (Nat × Instr × Nat) := [(0, .iconst 0, 1), (1, .istore_n 1, 1), (2, .iconst 0, 1), (3, .istore_n 2, 1), (4, .iload_n 2, 1), (5, .bipush 12, 2), (7, .if_icmp .ge 30, 3), (10, .iload_n 1, 1), (11, .aload_n 0, 1), (12, .getfield 23, 3), (15, .iload_n 2, 1), (16, .invokevirtual 54, 3), (19, .bipush (-6), 2), (21, .if_icmp .ne 7, 3), (24, .iconst 1, 1), (25, .goto 4, 3), (28, .iconst 0, 1), (29, .iadd, 1), (30, .istore_n 1, 1), (31, .iinc 2 1, 3), (34, .goto (-30), 3), (37, .iload_n 1, 1), (38, .ireturn, 1)]
theorem zd_28 : ∀ q ∈ zp_28, decode cX1_countNowhere q.1 = .ok q.2 := by decide +kernel
/-- BenchMemories$Garden.countOnBenches()I -/
def zp_29 : List (Nat × Instr × Nat) := [(0, .iconst 0, 1), (1, .istore_n 1, 1), (2, .iconst 0, 1), (3, .istore_n 2, 1), (4, .iload_n 2, 1), (5, .bipush 12, 2), (7, .if_icmp .ge 30, 3), (10, .iload_n 1, 1), (11, .aload_n 0, 1), (12, .getfield 23, 3), (15, .iload_n 2, 1), (16, .invokevirtual 54, 3), (19, .bipush 10, 2), (21, .if_icmp .lt 7, 3), (24, .iconst 1, 1), (25, .goto 4, 3), (28, .iconst 0, 1), (29, .iadd, 1), (30, .istore_n 1, 1), (31, .iinc 2 1, 3), (34, .goto (-30), 3), (37, .iload_n 1, 1), (38, .ireturn, 1)]
theorem zd_29 : ∀ q ∈ zp_29, decode cX1_countOnBenches q.1 = .ok q.2 := by decide +kernel
/-- BenchMemories$Garden.whyNot(III)I -/
def zp_30 : List (Nat × Instr × Nat) := [(0, .iload_n 1, 1), (1, .tableswitch 108 0 5 #[39, 64, 70, 77, 108, 93], 39), (40, .aload_n 0, 1), (41, .getfield 14, 3), (44, .aload_n 0, 1), (45, .iload_n 2, 1), (46, .invokevirtual 76, 3), (49, .invokevirtual 54, 3), (52, .iload_n 3, 1), (53, .invokestatic 63, 3), (56, .ifCond .eq 7, 3), (59, .iconst 0, 1), (60, .goto 4, 3), (63, .iconst 1, 1), (64, .ireturn, 1), (65, .aload_n 0, 1), (66, .iload_n 2, 1), (67, .invokevirtual 79, 3), (70, .ireturn, 1), (71, .aload_n 0, 1), (72, .iload_n 2, 1), (73, .iload_n 3, 1), (74, .invokevirtual 82, 3), (77, .ireturn, 1), (78, .aload_n 0, 1), (79, .iload_n 2, 1), (80, .invokevirtual 70, 3), (83, .bipush (-6), 2), (85, .if_icmp .ne 7, 3), (88, .iconst 3, 1), (89, .goto 4, 3), (92, .iconst 0, 1), (93, .ireturn, 1), (94, .aload_n 0, 1), (95, .getfield 51, 3), (98, .bipush 99, 2), (100, .if_icmp .lt 7, 3), (103, .iconst 5, 1), (104, .goto 4, 3), (107, .iconst 0, 1), (108, .ireturn, 1), (109, .iconst 0, 1), (110, .ireturn, 1)]
theorem zd_30 : ∀ q ∈ zp_30, decode cX1_whyNot q.1 = .ok q.2 := by decide +kernel
/-- BenchMemories$Garden.whyNotSit(I)I -/
def zp_31 : List (Nat × Instr × Nat) := [(0, .aload_n 0, 1), (1, .iload_n 1, 1), (2, .invokevirtual 76, 3), (5, .istore_n 2, 1), (6, .aload_n 0, 1), (7, .iload_n 2, 1), (8, .invokevirtual 86, 3), (11, .ifCond .eq 5, 3), (14, .iconst 2, 1), (15, .ireturn, 1), (16, .aload_n 0, 1), (17, .iload_n 1, 1), (18, .invokevirtual 70, 3), (21, .bipush (-6), 2), (23, .if_icmp .ne 20, 3), (26, .aload_n 0, 1), (27, .bipush 10, 2), (29, .iload_n 2, 1), (30, .iadd, 1), (31, .invokevirtual 70, 3), (34, .bipush (-6), 2), (36, .if_icmp .ne 7, 3), (39, .iconst 3, 1), (40, .goto 4, 3), (43, .iconst 0, 1), (44, .ireturn, 1)]
theorem zd_31 : ∀ q ∈ zp_31, decode cX1_whyNotSit q.1 = .ok q.2 := by decide +kernel
/-- BenchMemories$Garden.whyNotChange(II)I -/
def zp_32 : List (Nat × Instr × Nat) := [(0, .aload_n 0, 1), (1, .iload_n 1, 1), (2, .invokevirtual 70, 3), (5, .bipush (-6), 2), (7, .if_icmp .ne 15, 3), (10, .aload_n 0, 1), (11, .iload_n 2, 1), (12, .invokevirtual 70, 3), (15, .bipush (-6), 2), (17, .if_icmp .ne 5, 3), (20, .iconst 3, 1), (21, .ireturn, 1), (22, .iload_n 1, 1), (23, .iload_n 2, 1), (24, .if_icmp .eq 16, 3), (27, .aload_n 0, 1), (28, .iload_n 1, 1), (29, .invokevirtual 76, 3), (32, .aload_n 0, 1), (33, .iload_n 2, 1), (34, .invokevirtual 76, 3), (37, .if_icmp .eq 7, 3), (40, .iconst 4, 1), (41, .goto 4, 3), (44, .iconst 0, 1), (45, .ireturn, 1)]
theorem zd_32 : ∀ q ∈ zp_32, decode cX1_whyNotChange q.1 = .ok q.2 := by decide +kernel
/-- BenchMemories$Garden.carryOut(III)V -/
def zp_33 : List (Nat × Instr × Nat) := [(0, .iload_n 1, 1), (1, .tableswitch 99 0 5 #[39, 48, 56, 65, 77, 92], 39), (40, .aload_n 0, 1), (41, .iload_n 2, 1), (42, .iload_n 3, 1), (43, .invokevirtual 89, 3), (46, .goto 54, 3), (49, .aload_n 0, 1), (50, .iload_n 2, 1), (51, .invokevirtual 92, 3), (54, .goto 46, 3), (57, .aload_n 0, 1), (58, .iload_n 2, 1), (59, .iload_n 3, 1), (60, .invokevirtual 95, 3), (63, .goto 37, 3), (66, .aload_n 0, 1), (67, .aload_n 0, 1), (68, .iload_n 2, 1), (69, .invokevirtual 70, 3), (72, .invokevirtual 98, 3), (75, .goto 25, 3), (78, .aload_n 0, 1), (79, .dup, 1), (80, .getfield 48, 3), (83, .iconst 1, 1), (84, .iload_n 3, 1), (85, .ishl, 1), (86, .ixor, 1), (87, .putfield 48, 3), (90, .goto 10, 3), (93, .aload_n 0, 1), (94, .invokevirtual 101, 3), (97, .goto 3, 3), (100, .return_, 1)]
theorem zd_33 : ∀ q ∈ zp_33, decode cX1_carryOut q.1 = .ok q.2 := by decide +kernel
/-- BenchMemories$Garden.sitDown(I)V -/
def zp_34 : List (Nat × Instr × Nat) := [(0, .aload_n 0, 1), (1, .iload_n 1, 1), (2, .invokevirtual 76, 3), (5, .istore_n 2, 1), (6, .aload_n 0, 1), (7, .iload_n 1, 1), (8, .invokevirtual 70, 3), (11, .istore_n 3, 1), (12, .aload_n 0, 1), (13, .bipush 10, 2), (15, .iload_n 2, 1), (16, .iadd, 1), (17, .invokevirtual 70, 3), (20, .istore 4, 2), (22, .iload_n 3, 1), (23, .bipush (-6), 2), (25, .if_icmp .eq 11, 3), (28, .aload_n 0, 1), (29, .iload_n 3, 1), (30, .iload_n 2, 1), (31, .bipush 9, 2), (33, .invokevirtual 104, 3), (36, .iload 4, 2), (38, .bipush (-6), 2), (40, .if_icmp .eq 10, 3), (43, .aload_n 0, 1), (44, .iload 4, 2), (46, .iload_n 1, 1), (47, .invokevirtual 108, 3), (50, .return_, 1)]
theorem zd_34 : ∀ q ∈ zp_34, decode cX1_sitDown q.1 = .ok q.2 := by decide +kernel
/-- BenchMemories$Garden.swap(II)V -/
def zp_35 : List (Nat × Instr × Nat) := [(0, .aload_n 0, 1), (1, .iload_n 1, 1), (2, .invokevirtual 70, 3), (5, .istore_n 3, 1), (6, .aload_n 0, 1), (7, .iload_n 2, 1), (8, .invokevirtual 70, 3), (11, .istore 4, 2), (13, .iload_n 3, 1), (14, .bipush (-6), 2), (16, .if_icmp .eq 9, 3), (19, .aload_n 0, 1), (20, .iload_n 3, 1), (21, .iload_n 2, 1), (22, .invokevirtual 108, 3), (25, .iload 4, 2), (27, .bipush (-6), 2), (29, .if_icmp .eq 10, 3), (32, .aload_n 0, 1), (33, .iload 4, 2), (35, .iload_n 1, 1), (36, .invokevirtual 108, 3), (39, .return_, 1)]
theorem zd_35 : ∀ q ∈ zp_35, decode cX1_swap q.1 = .ok q.2 := by decide +kernel
/-- BenchMemories$Garden.endDay()V -/
def zp_36 : List (Nat × Instr × Nat) := [(0, .aload_n 0, 1), (1, .dup, 1), (2, .getfield 51, 3), (5, .iconst 1, 1), (6, .iadd, 1), (7, .putfield 51, 3), (10, .iconst 0, 1), (11, .istore_n 1, 1), (12, .iload_n 1, 1), (13, .bipush 12, 2), (15, .if_icmp .ge 67, 3), (18, .aload_n 0, 1), (19, .getfield 23, 3), (22, .iload_n 1, 1), (23, .invokevirtual 54, 3), (26, .bipush 10, 2), (28, .if_icmp .lt 48, 3), (31, .aload_n 0, 1), (32, .getfield 26, 3), (35, .iload_n 1, 1), (36, .invokevirtual 54, 3), (39, .iconst 1, 1), (40, .isub, 1), (41, .istore_n 2, 1), (42, .aload_n 0, 1), (43, .getfield 26, 3), (46, .iload_n 1, 1), (47, .iload_n 2, 1), (48, .invokevirtual 32, 3), (51, .aload_n 0, 1), (52, .getfield 23, 3), (55, .iload_n 1, 1), (56, .iload_n 2, 1), (57, .ifCond .le 14, 3), (60, .aload_n 0, 1), (61, .getfield 23, 3), (64, .iload_n 1, 1), (65, .invokevirtual 54, 3), (68, .goto 5, 3), (71, .bipush (-6), 2), (73, .invokevirtual 32, 3), (76, .iinc 1 1, 3), (79, .goto (-67), 3), (82, .return_, 1)]
theorem zd_36 : ∀ q ∈ zp_36, decode cX1_endDay q.1 = .ok q.2 := by decide +kernel
/-- BenchMemories$Garden.addSight(IIZ)V -/
def zp_37 : List (Nat × Instr × Nat) := [(0, .aload_n 0, 1), (1, .getfield 29, 3), (4, .aload_n 0, 1), (5, .getfield 44, 3), (8, .iload_n 1, 1), (9, .bipush 8, 2), (11, .imul, 1), (12, .iload_n 2, 1), (13, .iadd, 1), (14, .iconst 2, 1), (15, .imul, 1), (16, .iload_n 3, 1), (17, .ifCond .eq 7, 3), (20, .iconst 1, 1), (21, .goto 4, 3), (24, .iconst 0, 1), (25, .iadd, 1), (26, .invokevirtual 32, 3), (29, .aload_n 0, 1), (30, .dup, 1), (31, .getfield 44, 3), (34, .iconst 1, 1), (35, .iadd, 1), (36, .putfield 44, 3), (39, .return_, 1)]
theorem zd_37 : ∀ q ∈ zp_37, decode cX1_addSight q.1 = .ok q.2 := by decide +kernel
/-- BenchMemories$Garden.dropSights()V -/
def zp_38 : List (Nat × Instr × Nat) := [(0, .aload_n 0, 1), (1, .iconst 0, 1), (2, .putfield 44, 3), (5, .return_, 1)]
theorem zd_38 : ∀ q ∈ zp_38, decode cX1_dropSights q.1 = .ok q.2 := by decide +kernel
/-- BenchMemories$Garden.allSeenSo(II)Z -/
def zp_39 : List (Nat × Instr × Nat) := [(0, .iconst 0, 1), (1, .istore_n 3, 1), (2, .iload_n 3, 1), (3, .aload_n 0, 1), (4, .getfield 44, 3), (7, .if_icmp .ge 76, 3), (10, .aload_n 0, 1), (11, .getfield 29, 3), (14, .iload_n 3, 1), (15, .invokevirtual 54, 3), (18, .istore 4, 2), (20, .iload 4, 2), (22, .iconst 2, 1), (23, .idiv, 1), (24, .bipush 8, 2), (26, .irem, 1), (27, .istore 5, 2), (29, .iload 4, 2), (31, .iconst 2, 1), (32, .irem, 1), (33, .iconst 1, 1), (34, .if_icmp .ne 7, 3), (37, .iconst 1, 1), (38, .goto 4, 3), (41, .iconst 0, 1), (42, .istore 6, 2), (44, .iload_n 1, 1), (45, .iload_n 2, 1), (46, .iload 4, 2), (48, .iconst 2, 1), (49, .idiv, 1), (50, .bipush 8, 2), (52, .idiv, 1), (53, .invokestatic 111, 3), (56, .istore 7, 2), (58, .iload 6, 2), (60, .iload 7, 2), (62, .iload 5, 2), (64, .if_icmp .ne 7, 3), (67, .iconst 1, 1), (68, .goto 4, 3), (71, .iconst 0, 1), (72, .if_icmp .eq 5, 3), (75, .iconst 0, 1), (76, .ireturn, 1), (77, .iinc 3 1, 3), (80, .goto (-78), 3), (83, .iconst 1, 1), (84, .ireturn, 1)]
theorem zd_39 : ∀ q ∈ zp_39, decode cX1_allSeenSo q.1 = .ok q.2 := by decide +kernel
/-- BenchMemories$Order.<init>()V -/
def zp_40 : List (Nat × Instr × Nat) := [(0, .aload_n 0, 1), (1, .invokespecial 3, 3), (4, .aload_n 0, 1), (5, .new 9, 3), (8, .dup, 1), (9, .bipush 7, 2), (11, .invokespecial 13, 3), (14, .putfield 16, 3), (17, .return_, 1)]
theorem zd_40 : ∀ q ∈ zp_40, decode cX2_init q.1 = .ok q.2 := by decide +kernel
/-- BenchMemories$Order.read(I)Z -/
def zp_41 : List (Nat × Instr × Nat) := [(0, .iload_n 1, 1), (1, .ifCond .ge 5, 3), (4, .iconst 0, 1), (5, .ireturn, 1), (6, .iload_n 1, 1), (7, .istore_n 2, 1), (8, .iconst 0, 1), (9, .istore_n 3, 1), (10, .bipush 6, 2), (12, .istore 4, 2), (14, .iload 4, 2), (16, .ifCond .lt 36, 3), (19, .aload_n 0, 1), (20, .getfield 16, 3), (23, .iload 4, 2), (25, .iload_n 2, 1), (26, .bipush 10, 2), (28, .irem, 1), (29, .invokevirtual 20, 3), (32, .iload_n 3, 1), (33, .iconst 1, 1), (34, .iload_n 2, 1), (35, .bipush 10, 2), (37, .irem, 1), (38, .ishl, 1), (39, .ior, 1), (40, .istore_n 3, 1), (41, .iload_n 2, 1), (42, .bipush 10, 2), (44, .idiv, 1), (45, .istore_n 2, 1), (46, .iinc 4 (-1), 3), (49, .goto (-35), 3), (52, .iload_n 2, 1), (53, .ifCond .ne 13, 3), (56, .iload_n 3, 1), (57, .bipush 127, 2), (59, .if_icmp .ne 7, 3), (62, .iconst 1, 1), (63, .goto 4, 3), (66, .iconst 0, 1), (67, .ireturn, 1)]
theorem zd_41 : ∀ q ∈ zp_41, decode cX2_read q.1 = .ok q.2 := by decide +kernel
/-- BenchMemories$Order.sittingsLeft()I -/
def zp_42 : List (Nat × Instr × Nat) := [(0, .iconst 0, 1), (1, .istore_n 1, 1), (2, .iconst 0, 1), (3, .istore_n 2, 1), (4, .iconst 0, 1), (5, .istore_n 3, 1), (6, .iload_n 3, 1), (7, .bipush 7, 2), (9, .if_icmp .ge 85, 3), (12, .iconst 0, 1), (13, .istore 4, 2), (15, .iload_n 3, 1), (16, .istore 5, 2), (18, .iconst 0, 1), (19, .istore 6, 2), (21, .iload 6, 2), (23, .bipush 7, 2), (25, .if_icmp .ge 39, 3), (28, .iload_n 2, 1), (29, .iload 5, 2), (31, .invokestatic 24, 3), (34, .ifCond .ne 30, 3), (37, .iload_n 2, 1), (38, .iconst 1, 1), (39, .iload 5, 2), (41, .ishl, 1), (42, .ior, 1), (43, .istore_n 2, 1), (44, .aload_n 0, 1), (45, .getfield 16, 3), (48, .iload 5, 2), (50, .invokevirtual 28, 3), (53, .istore 5, 2), (55, .iinc 4 1, 3), (58, .iinc 6 1, 3), (61, .goto (-40), 3), (64, .iload 4, 2), (66, .iconst 1, 1), (67, .if_icmp .le 21, 3), (70, .iload_n 1, 1), (71, .iload_n 3, 1), (72, .ifCond .ne 10, 3), (75, .iload 4, 2), (77, .iconst 1, 1), (78, .isub, 1), (79, .goto 7, 3), (82, .iload 4, 2), (84, .iconst 1, 1), (85, .iadd, 1), (86, .iadd, 1), (87, .istore_n 1, 1), (88, .iinc 3 1, 3), (91, .goto (-85), 3), (94, .iload_n 1, 1), (95, .ireturn, 1)]
theorem zd_42 : ∀ q ∈ zp_42, decode cX2_sittingsLeft q.1 = .ok q.2 := by decide +kernel
/-- BenchMemories$Order.firstSitting()I -/
def zp_43 : List (Nat × Instr × Nat) := [(0, .aload_n 0, 1), (1, .invokevirtual 32, 3), (4, .istore_n 1, 1), (5, .iconst 1, 1), (6, .istore_n 2, 1), (7, .iload_n 2, 1), (8, .bipush 7, 2), (10, .if_icmp .ge 31, 3), (13, .aload_n 0, 1), (14, .iload_n 2, 1), (15, .invokevirtual 36, 3), (18, .aload_n 0, 1), (19, .invokevirtual 32, 3), (22, .istore_n 3, 1), (23, .aload_n 0, 1), (24, .iload_n 2, 1), (25, .invokevirtual 36, 3), (28, .iload_n 3, 1), (29, .iload_n 1, 1), (30, .if_icmp .ge 5, 3), (33, .iload_n 2, 1), (34, .ireturn, 1), (35, .iinc 2 1, 3), (38, .goto (-31), 3), (41, .bipush (-6), 2), (43, .ireturn, 1)]
theorem zd_43 : ∀ q ∈ zp_43, decode cX2_firstSitting q.1 = .ok q.2 := by decide +kernel
/-- BenchMemories$Order.swapWith(I)V -/
def zp_44 : List (Nat × Instr × Nat) := [(0, .aload_n 0, 1), (1, .getfield 16, 3), (4, .iconst 0, 1), (5, .invokevirtual 28, 3), (8, .istore_n 2, 1), (9, .aload_n 0, 1), (10, .getfield 16, 3), (13, .iconst 0, 1), (14, .aload_n 0, 1), (15, .getfield 16, 3), (18, .iload_n 1, 1), (19, .invokevirtual 28, 3), (22, .invokevirtual 20, 3), (25, .aload_n 0, 1), (26, .getfield 16, 3), (29, .iload_n 1, 1), (30, .iload_n 2, 1), (31, .invokevirtual 20, 3), (34, .return_, 1)]
theorem zd_44 : ∀ q ∈ zp_44, decode cX2_swapWith q.1 = .ok q.2 := by decide +kernel
/-- BenchMemories$Pad.<init>()V -/
def zp_45 : List (Nat × Instr × Nat) := [(0, .aload_n 0, 1), (1, .invokespecial 3, 3), (4, .aload_n 0, 1), (5, .new 9, 3), (8, .dup, 1), (9, .bipush 60, 2), (11, .invokespecial 11, 3), (14, .putfield 14, 3), (17, .return_, 1)]
theorem zd_45 : ∀ q ∈ zp_45, decode cX3_init q.1 = .ok q.2 := by decide +kernel
/-- BenchMemories$Pad.append(I)V -/
def zp_46 : List (Nat × Instr × Nat) := [(0, .aload_n 0, 1), (1, .getfield 14, 3), (4, .aload_n 0, 1), (5, .getfield 20, 3), (8, .iload_n 1, 1), (9, .invokevirtual 24, 3), (12, .aload_n 0, 1), (13, .dup, 1), (14, .getfield 20, 3), (17, .iconst 1, 1), (18, .iadd, 1), (19, .putfield 20, 3), (22, .return_, 1)]
theorem zd_46 : ∀ q ∈ zp_46, decode cX3_append q.1 = .ok q.2 := by decide +kernel
/-- BenchMemories$Pad.empty()V -/
def zp_47 : List (Nat × Instr × Nat) := [(0, .aload_n 0, 1), (1, .iconst 0, 1), (2, .putfield 20, 3), (5, .return_, 1)]
theorem zd_47 : ∀ q ∈ zp_47, decode cX3_empty q.1 = .ok q.2 := by decide +kernel
/-- BenchMemories$Pad.firstFault()I -/
def zp_48 : List (Nat × Instr × Nat) := [(0, .iconst 0, 1), (1, .istore_n 1, 1), (2, .iconst 0, 1), (3, .istore_n 2, 1), (4, .iload_n 2, 1), (5, .aload_n 0, 1), (6, .getfield 20, 3), (9, .if_icmp .ge 30, 3), (12, .iload_n 1, 1), (13, .aload_n 0, 1), (14, .getfield 14, 3), (17, .iload_n 2, 1), (18, .invokevirtual 28, 3), (21, .invokestatic 32, 3), (24, .istore_n 1, 1), (25, .iload_n 1, 1), (26, .bipush (-6), 2), (28, .if_icmp .ne 5, 3), (31, .iload_n 2, 1), (32, .ireturn, 1), (33, .iinc 2 1, 3), (36, .goto (-32), 3), (39, .iload_n 1, 1), (40, .ifCond .ne 8, 3), (43, .bipush (-6), 2), (45, .goto 7, 3), (48, .aload_n 0, 1), (49, .getfield 20, 3), (52, .ireturn, 1)]
theorem zd_48 : ∀ q ∈ zp_48, decode cX3_firstFault q.1 = .ok q.2 := by decide +kernel
/-- BenchMemories$Pad.dueBehind(II)I -/
def zp_49 : List (Nat × Instr × Nat) := [(0, .iload_n 0, 1), (1, .tableswitch 75 0 3 #[31, 36, 41, 58], 31), (32, .iload_n 1, 1), (33, .invokestatic 36, 3), (36, .ireturn, 1), (37, .iload_n 1, 1), (38, .invokestatic 39, 3), (41, .ireturn, 1), (42, .iload_n 1, 1), (43, .bipush 48, 2), (45, .isub, 1), (46, .invokestatic 42, 3), (49, .ifCond .eq 7, 3), (52, .iconst 0, 1), (53, .goto 5, 3), (56, .bipush (-6), 2), (58, .ireturn, 1), (59, .iload_n 1, 1), (60, .bipush 65, 2), (62, .isub, 1), (63, .invokestatic 46, 3), (66, .ifCond .eq 7, 3), (69, .iconst 0, 1), (70, .goto 5, 3), (73, .bipush (-6), 2), (75, .ireturn, 1), (76, .bipush (-6), 2), (78, .ireturn, 1)]
theorem zd_49 : ∀ q ∈ zp_49, decode cX3_dueBehind q.1 = .ok q.2 := by decide +kernel
end
section
set_option maxRecDepth 100000
/-- BenchMemories$Pad.dueBehindStart(I)I -/
def zp_50 : List (Nat × Instr × Nat) := [(0, .iload_n 0, 1), (1, .bipush 65, 2), (3, .isub, 1), (4, .invokestatic 46, 3), (7, .ifCond .eq 5, 3), (10, .iconst 1, 1), (11, .ireturn, 1), (12, .iload_n 0, 1), (13, .lookupswitch 31 #[(35, 27), (46, 29)], 27), (40, .iconst 2, 1), (41, .ireturn, 1), (42, .iconst 0, 1), (43, .ireturn, 1), (44, .bipush (-6), 2), (46, .ireturn, 1)]
theorem zd_50 : ∀ q ∈ zp_50, decode cX3_dueBehindStart q.1 = .ok q.2 := by decide +kernel
/-- BenchMemories$Pad.dueBehindDeed(I)I -/
def zp_51 : List (Nat × Instr × Nat) := [(0, .iload_n 0, 1), (1, .bipush 120, 2), (3, .if_icmp .ne 5, 3), (6, .iconst 3, 1), (7, .ireturn, 1), (8, .iload_n 0, 1), (9, .bipush 48, 2), (11, .isub, 1), (12, .invokestatic 42, 3), (15, .ifCond .ne 15, 3), (18, .iload_n 0, 1), (19, .bipush 95, 2), (21, .if_icmp .eq 9, 3), (24, .iload_n 0, 1), (25, .bipush 33, 2), (27, .if_icmp .ne 7, 3), (30, .iconst 0, 1), (31, .goto 5, 3), (34, .bipush (-6), 2), (36, .ireturn, 1)]
theorem zd_51 : ∀ q ∈ zp_51, decode cX3_dueBehindDeed q.1 = .ok q.2 := by decide +kernel
/-- BenchMemories$Pad.actEndedBy(II)I -/
def zp_52 : List (Nat × Instr × Nat) := [(0, .iload_n 1, 1), (1, .lookupswitch 41 #[(33, 37), (46, 39), (95, 35)], 35), (36, .iconst 1, 1), (37, .ireturn, 1), (38, .iconst 3, 1), (39, .ireturn, 1), (40, .iconst 5, 1), (41, .ireturn, 1), (42, .iload_n 0, 1), (43, .lookupswitch 29 #[(2, 25), (3, 27)], 25), (68, .iconst 4, 1), (69, .ireturn, 1), (70, .iconst 2, 1), (71, .ireturn, 1), (72, .iconst 0, 1), (73, .ireturn, 1)]
theorem zd_52 : ∀ q ∈ zp_52, decode cX3_actEndedBy q.1 = .ok q.2 := by decide +kernel
/-- BenchMemories$Pad.targetOf(I)I -/
def zp_53 : List (Nat × Instr × Nat) := [(0, .iload_n 0, 1), (1, .bipush 65, 2), (3, .isub, 1), (4, .invokestatic 46, 3), (7, .ifCond .eq 10, 3), (10, .iload_n 0, 1), (11, .bipush 65, 2), (13, .isub, 1), (14, .goto 7, 3), (17, .iload_n 0, 1), (18, .bipush 48, 2), (20, .isub, 1), (21, .ireturn, 1)]
theorem zd_53 : ∀ q ∈ zp_53, decode cX3_targetOf q.1 = .ok q.2 := by decide +kernel
/-- BenchMemories$Rounds.<init>()V -/
def zp_54 : List (Nat × Instr × Nat) := [(0, .aload_n 0, 1), (1, .invokespecial 5, 3), (4, .aload_n 0, 1), (5, .new 11, 3), (8, .dup, 1), (9, .bipush 10, 2), (11, .invokespecial 13, 3), (14, .putfield 16, 3), (17, .aload_n 0, 1), (18, .new 11, 3), (21, .dup, 1), (22, .bipush 100, 2), (24, .invokespecial 13, 3), (27, .putfield 20, 3), (30, .aload_n 0, 1), (31, .new 11, 3), (34, .dup, 1), (35, .sipush 4608, 3), (38, .invokespecial 13, 3), (41, .putfield 23, 3), (44, .return_, 1)]
theorem zd_54 : ∀ q ∈ zp_54, decode cX4_init q.1 = .ok q.2 := by decide +kernel
/-- BenchMemories$Rounds.shortest(LBenchMemories$Garden;II)I -/
def zp_55 : List (Nat × Instr × Nat) := [(0, .aload_n 1, 1), (1, .ifnonnull 6, 3), (4, .bipush (-6), 2), (6, .ireturn, 1), (7, .aload_n 0, 1), (8, .iload_n 2, 1), (9, .iload_n 3, 1), (10, .invokevirtual 26, 3), (13, .aload_n 0, 1), (14, .getfield 30, 3), (17, .ifCond .ne 5, 3), (20, .iconst 0, 1), (21, .ireturn, 1), (22, .iload_n 3, 1), (23, .aload_n 1, 1), (24, .iload_n 2, 1), (25, .invokevirtual 34, 3), (28, .iconst (-1), 1), (29, .ixor, 1), (30, .iand, 1), (31, .ifCond .eq 6, 3), (34, .bipush (-6), 2), (36, .ireturn, 1), (37, .aload_n 0, 1), (38, .aload_n 1, 1), (39, .invokevirtual 40, 3), (42, .iconst 1, 1), (43, .aload_n 0, 1), (44, .getfield 30, 3), (47, .ishl, 1), (48, .iconst 1, 1), (49, .isub, 1), (50, .istore 4, 2), (52, .iconst 1, 1), (53, .istore 5, 2), (55, .iload 5, 2), (57, .iload 4, 2), (59, .if_icmp .gt 67, 3), (62, .iconst 0, 1), (63, .istore 6, 2), (65, .iload 6, 2), (67, .aload_n 0, 1), (68, .getfield 30, 3), (71, .if_icmp .ge 49, 3), (74, .iload 5, 2), (76, .iload 6, 2), (78, .invokestatic 44, 3), (81, .ifCond .eq 33, 3), (84, .aload_n 0, 1), (85, .getfield 23, 3), (88, .iload 5, 2), (90, .bipush 9, 2), (92, .imul, 1), (93, .iload 6, 2), (95, .iadd, 1), (96, .aload_n 0, 1), (97, .iload 5, 2), (99, .iconst 1, 1), (100, .iload 6, 2), (102, .ishl, 1), (103, .iconst (-1), 1), (104, .ixor, 1), (105, .iand, 1), (106, .iload 6, 2), (108, .invokevirtual 48, 3), (111, .invokevirtual 52, 3), (114, .iinc 6 1, 3), (117, .goto (-52), 3), (120, .iinc 5 1, 3), (123, .goto (-68), 3), (126, .aload_n 0, 1), (127, .iload 4, 2), (129, .bipush 9, 2), (131, .invokevirtual 48, 3), (134, .ireturn, 1)]
theorem zd_55 : ∀ q ∈ zp_55, decode cX4_shortest q.1 = .ok q.2 := by decide +kernel
/-- BenchMemories$Rounds.gatherStops(II)V -/
def zp_56 : List (Nat × Instr × Nat) := [(0, .aload_n 0, 1), (1, .iconst 0, 1), (2, .putfield 30, 3), (5, .iconst 0, 1), (6, .istore_n 3, 1), (7, .iload_n 3, 1), (8, .bipush 10, 2), (10, .if_icmp .ge 44, 3), (13, .iload_n 3, 1), (14, .iload_n 1, 1), (15, .if_icmp .eq 33, 3), (18, .iload_n 2, 1), (19, .iload_n 3, 1), (20, .invokestatic 44, 3), (23, .ifCond .eq 25, 3), (26, .aload_n 0, 1), (27, .getfield 16, 3), (30, .aload_n 0, 1), (31, .getfield 30, 3), (34, .iload_n 3, 1), (35, .invokevirtual 52, 3), (38, .aload_n 0, 1), (39, .dup, 1), (40, .getfield 30, 3), (43, .iconst 1, 1), (44, .iadd, 1), (45, .putfield 30, 3), (48, .iinc 3 1, 3), (51, .goto (-44), 3), (54, .aload_n 0, 1), (55, .getfield 16, 3), (58, .bipush 9, 2), (60, .iload_n 1, 1), (61, .invokevirtual 52, 3), (64, .return_, 1)]
theorem zd_56 : ∀ q ∈ zp_56, decode cX4_gatherStops q.1 = .ok q.2 := by decide +kernel
/-- BenchMemories$Rounds.measureLegs(LBenchMemories$Garden;)V -/
def zp_57 : List (Nat × Instr × Nat) := [(0, .iconst 0, 1), (1, .istore_n 2, 1), (2, .iload_n 2, 1), (3, .bipush 10, 2), (5, .if_icmp .ge 96, 3), (8, .iconst 0, 1), (9, .istore_n 3, 1), (10, .iload_n 3, 1), (11, .bipush 10, 2), (13, .if_icmp .ge 82, 3), (16, .iload_n 2, 1), (17, .aload_n 0, 1), (18, .getfield 30, 3), (21, .if_icmp .lt 9, 3), (24, .iload_n 2, 1), (25, .bipush 9, 2), (27, .if_icmp .ne 21, 3), (30, .iload_n 3, 1), (31, .aload_n 0, 1), (32, .getfield 30, 3), (35, .if_icmp .lt 9, 3), (38, .iload_n 3, 1), (39, .bipush 9, 2), (41, .if_icmp .ne 7, 3), (44, .iconst 1, 1), (45, .goto 4, 3), (48, .iconst 0, 1), (49, .istore 4, 2), (51, .iload 4, 2), (53, .ifCond .eq 36, 3), (56, .aload_n 0, 1), (57, .getfield 20, 3), (60, .iload_n 2, 1), (61, .bipush 10, 2), (63, .imul, 1), (64, .iload_n 3, 1), (65, .iadd, 1), (66, .aload_n 1, 1), (67, .aload_n 0, 1), (68, .getfield 16, 3), (71, .iload_n 2, 1), (72, .invokevirtual 55, 3), (75, .aload_n 0, 1), (76, .getfield 16, 3), (79, .iload_n 3, 1), (80, .invokevirtual 55, 3), (83, .invokevirtual 58, 3), (86, .invokevirtual 52, 3), (89, .iinc 3 1, 3), (92, .goto (-82), 3), (95, .iinc 2 1, 3), (98, .goto (-96), 3), (101, .return_, 1)]
theorem zd_57 : ∀ q ∈ zp_57, decode cX4_measureLegs q.1 = .ok q.2 := by decide +kernel
/-- BenchMemories$Rounds.cheapest(II)I -/
def zp_58 : List (Nat × Instr × Nat) := [(0, .iload_n 1, 1), (1, .ifCond .ne 15, 3), (4, .aload_n 0, 1), (5, .getfield 20, 3), (8, .bipush 90, 2), (10, .iload_n 2, 1), (11, .iadd, 1), (12, .invokevirtual 55, 3), (15, .ireturn, 1), (16, .ldc 61, 2), (18, .istore_n 3, 1), (19, .iconst 0, 1), (20, .istore 4, 2), (22, .iload 4, 2), (24, .aload_n 0, 1), (25, .getfield 30, 3), (28, .if_icmp .ge 56, 3), (31, .iload_n 1, 1), (32, .iload 4, 2), (34, .invokestatic 44, 3), (37, .ifCond .eq 41, 3), (40, .aload_n 0, 1), (41, .getfield 23, 3), (44, .iload_n 1, 1), (45, .bipush 9, 2), (47, .imul, 1), (48, .iload 4, 2), (50, .iadd, 1), (51, .invokevirtual 55, 3), (54, .aload_n 0, 1), (55, .getfield 20, 3), (58, .iload 4, 2), (60, .bipush 10, 2), (62, .imul, 1), (63, .iload_n 2, 1), (64, .iadd, 1), (65, .invokevirtual 55, 3), (68, .iadd, 1), (69, .istore 5, 2), (71, .iload_n 3, 1), (72, .iload 5, 2), (74, .invokestatic 62, 3), (77, .istore_n 3, 1), (78, .iinc 4 1, 3), (81, .goto (-59), 3), (84, .iload_n 3, 1), (85, .ireturn, 1)]
theorem zd_58 : ∀ q ∈ zp_58, decode cX4_cheapest q.1 = .ok q.2 := by decide +kernel
/-- BenchMemories$Row.<init>(I)V -/
def zp_59 : List (Nat × Instr × Nat) := [(0, .aload_n 0, 1), (1, .invokespecial 3, 3), (4, .aload_n 0, 1), (5, .iconst 0, 1), (6, .iload_n 1, 1), (7, .invokestatic 9, 3), (10, .newarray .int, 2), (12, .putfield 15, 3), (15, .return_, 1)]
theorem zd_59 : ∀ q ∈ zp_59, decode cX5_init q.1 = .ok q.2 := by decide +kernel
/-- BenchMemories$Row.at(I)I -/
def zp_60 : List (Nat × Instr × Nat) := [(0, .iload_n 1, 1), (1, .ifCond .lt 21, 3), (4, .iload_n 1, 1), (5, .aload_n 0, 1), (6, .getfield 15, 3), (9, .arraylength, 1), (10, .if_icmp .ge 12, 3), (13, .aload_n 0, 1), (14, .getfield 15, 3), (17, .iload_n 1, 1), (18, .iaload, 1), (19, .goto 5, 3), (22, .bipush (-6), 2), (24, .ireturn, 1)]
theorem zd_60 : ∀ q ∈ zp_60, decode cX5_at q.1 = .ok q.2 := by decide +kernel
/-- BenchMemories$Row.put(II)V -/
def zp_61 : List (Nat × Instr × Nat) := [(0, .iload_n 1, 1), (1, .ifCond .lt 19, 3), (4, .iload_n 1, 1), (5, .aload_n 0, 1), (6, .getfield 15, 3), (9, .arraylength, 1), (10, .if_icmp .ge 10, 3), (13, .aload_n 0, 1), (14, .getfield 15, 3), (17, .iload_n 1, 1), (18, .iload_n 2, 1), (19, .iastore, 1), (20, .return_, 1)]
theorem zd_61 : ∀ q ∈ zp_61, decode cX5_put q.1 = .ok q.2 := by decide +kernel
/-- BenchMemories$Row.fillWith(I)V -/
def zp_62 : List (Nat × Instr × Nat) := [(0, .aload_n 0, 1), (1, .getfield 15, 3), (4, .iload_n 1, 1), (5, .invokestatic 21, 3), (8, .return_, 1)]
theorem zd_62 : ∀ q ∈ zp_62, decode cX5_fillWith q.1 = .ok q.2 := by decide +kernel
/-- BenchMemories$Row.copyFrom(LBenchMemories$Row;)V -/
def zp_63 : List (Nat × Instr × Nat) := [(0, .aload_n 1, 1), (1, .ifnull 34, 3), (4, .aload_n 1, 1), (5, .getfield 15, 3), (8, .arraylength, 1), (9, .aload_n 0, 1), (10, .getfield 15, 3), (13, .arraylength, 1), (14, .if_icmp .ne 21, 3), (17, .aload_n 1, 1), (18, .getfield 15, 3), (21, .iconst 0, 1), (22, .aload_n 0, 1), (23, .getfield 15, 3), (26, .iconst 0, 1), (27, .aload_n 0, 1), (28, .getfield 15, 3), (31, .arraylength, 1), (32, .invokestatic 27, 3), (35, .return_, 1)]
theorem zd_63 : ∀ q ∈ zp_63, decode cX5_copyFrom q.1 = .ok q.2 := by decide +kernel
/-- BenchMemories$Suspects.<init>()V -/
def zp_64 : List (Nat × Instr × Nat) := [(0, .aload_n 0, 1), (1, .invokespecial 3, 3), (4, .aload_n 0, 1), (5, .new 9, 3), (8, .dup, 1), (9, .bipush 35, 2), (11, .invokespecial 13, 3), (14, .putfield 16, 3), (17, .aload_n 0, 1), (18, .new 9, 3), (21, .dup, 1), (22, .bipush 8, 2), (24, .invokespecial 13, 3), (27, .putfield 20, 3), (30, .return_, 1)]
theorem zd_64 : ∀ q ∈ zp_64, decode cX6_init q.1 = .ok q.2 := by decide +kernel
/-- BenchMemories$Suspects.sift(LBenchMemories$Garden;)V -/
def zp_65 : List (Nat × Instr × Nat) := [(0, .aload_n 0, 1), (1, .iconst 0, 1), (2, .putfield 23, 3), (5, .iconst 2, 1), (6, .istore_n 2, 1), (7, .iload_n 2, 1), (8, .bipush 8, 2), (10, .if_icmp .gt 62, 3), (13, .iconst 0, 1), (14, .istore_n 3, 1), (15, .iload_n 3, 1), (16, .iload_n 2, 1), (17, .if_icmp .ge 49, 3), (20, .aload_n 1, 1), (21, .ifnull 39, 3), (24, .aload_n 1, 1), (25, .iload_n 2, 1), (26, .iload_n 3, 1), (27, .invokevirtual 27, 3), (30, .ifCond .eq 30, 3), (33, .aload_n 0, 1), (34, .getfield 16, 3), (37, .aload_n 0, 1), (38, .getfield 23, 3), (41, .bipush 10, 2), (43, .iload_n 2, 1), (44, .imul, 1), (45, .iload_n 3, 1), (46, .iadd, 1), (47, .invokevirtual 33, 3), (50, .aload_n 0, 1), (51, .dup, 1), (52, .getfield 23, 3), (55, .iconst 1, 1), (56, .iadd, 1), (57, .putfield 23, 3), (60, .iinc 3 1, 3), (63, .goto (-48), 3), (66, .iinc 2 1, 3), (69, .goto (-62), 3), (72, .return_, 1)]
theorem zd_65 : ∀ q ∈ zp_65, decode cX6_sift q.1 = .ok q.2 := by decide +kernel
/-- BenchMemories$Suspects.holder(III)I -/
def zp_66 : List (Nat × Instr × Nat) := [(0, .iload_n 0, 1), (1, .iconst 2, 1), (2, .if_icmp .lt 8, 3), (5, .iload_n 2, 1), (6, .iload_n 1, 1), (7, .if_icmp .gt 5, 3), (10, .iload_n 1, 1), (11, .ireturn, 1), (12, .iload_n 2, 1), (13, .iload_n 1, 1), (14, .isub, 1), (15, .iconst 1, 1), (16, .isub, 1), (17, .istore_n 3, 1), (18, .iload_n 3, 1), (19, .iload_n 0, 1), (20, .iconst 1, 1), (21, .iadd, 1), (22, .irem, 1), (23, .ifCond .ne 8, 3), (26, .bipush (-6), 2), (28, .goto 14, 3), (31, .iload_n 1, 1), (32, .iconst 1, 1), (33, .iadd, 1), (34, .iload_n 3, 1), (35, .iload_n 0, 1), (36, .iconst 1, 1), (37, .iadd, 1), (38, .idiv, 1), (39, .iadd, 1), (40, .iload_n 0, 1), (41, .irem, 1), (42, .ireturn, 1)]
theorem zd_66 : ∀ q ∈ zp_66, decode cX6_holder q.1 = .ok q.2 := by decide +kernel
/-- BenchMemories$Suspects.chooseQuestion()V -/
def zp_67 : List (Nat × Instr × Nat) := [(0, .aload_n 0, 1), (1, .bipush (-6), 2), (3, .putfield 37, 3), (6, .aload_n 0, 1), (7, .bipush 36, 2), (9, .putfield 40, 3), (12, .iconst 0, 1), (13, .istore_n 1, 1), (14, .iload_n 1, 1), (15, .bipush 60, 2), (17, .if_icmp .gt 76, 3), (20, .aload_n 0, 1), (21, .iload_n 1, 1), (22, .invokevirtual 43, 3), (25, .iconst 0, 1), (26, .istore_n 2, 1), (27, .iload_n 2, 1), (28, .bipush 8, 2), (30, .if_icmp .ge 57, 3), (33, .aload_n 0, 1), (34, .getfield 20, 3), (37, .iload_n 2, 1), (38, .invokevirtual 46, 3), (41, .aload_n 0, 1), (42, .getfield 23, 3), (45, .aload_n 0, 1), (46, .getfield 20, 3), (49, .iload_n 2, 1), (50, .invokevirtual 46, 3), (53, .isub, 1), (54, .invokestatic 50, 3), (57, .istore_n 3, 1), (58, .iload_n 3, 1), (59, .aload_n 0, 1), (60, .getfield 40, 3), (63, .if_icmp .ge 18, 3), (66, .aload_n 0, 1), (67, .iload_n 3, 1), (68, .putfield 40, 3), (71, .aload_n 0, 1), (72, .bipush 10, 2), (74, .iload_n 1, 1), (75, .imul, 1), (76, .iload_n 2, 1), (77, .iadd, 1), (78, .putfield 37, 3), (81, .iinc 2 1, 3), (84, .goto (-57), 3), (87, .iinc 1 1, 3), (90, .goto (-76), 3), (93, .return_, 1)]
theorem zd_67 : ∀ q ∈ zp_67, decode cX6_chooseQuestion q.1 = .ok q.2 := by decide +kernel
/-- BenchMemories$Suspects.countHolders(I)V -/
def zp_68 : List (Nat × Instr × Nat) := [(0, .aload_n 0, 1), (1, .getfield 20, 3), (4, .iconst 0, 1), (5, .invokevirtual 56, 3), (8, .iconst 0, 1), (9, .istore_n 2, 1), (10, .iload_n 2, 1), (11, .aload_n 0, 1), (12, .getfield 23, 3), (15, .if_icmp .ge 54, 3), (18, .aload_n 0, 1), (19, .getfield 16, 3), (22, .iload_n 2, 1), (23, .invokevirtual 46, 3), (26, .bipush 10, 2), (28, .idiv, 1), (29, .aload_n 0, 1), (30, .getfield 16, 3), (33, .iload_n 2, 1), (34, .invokevirtual 46, 3), (37, .bipush 10, 2), (39, .irem, 1), (40, .iload_n 1, 1), (41, .invokestatic 59, 3), (44, .istore_n 3, 1), (45, .aload_n 0, 1), (46, .getfield 20, 3), (49, .iload_n 3, 1), (50, .aload_n 0, 1), (51, .getfield 20, 3), (54, .iload_n 3, 1), (55, .invokevirtual 46, 3), (58, .iconst 1, 1), (59, .iadd, 1), (60, .invokevirtual 33, 3), (63, .iinc 2 1, 3), (66, .goto (-56), 3), (69, .return_, 1)]
theorem zd_68 : ∀ q ∈ zp_68, decode cX6_countHolders q.1 = .ok q.2 := by decide +kernel
/-- BenchMemories$Turns.<init>()V -/
def zp_69 : List (Nat × Instr × Nat) := [(0, .aload_n 0, 1), (1, .invokespecial 3, 3), (4, .aload_n 0, 1), (5, .new 9, 3), (8, .dup, 1), (9, .bipush 41, 2), (11, .invokespecial 11, 3), (14, .putfield 14, 3), (17, .iconst 1, 1), (18, .istore_n 1, 1), (19, .iload_n 1, 1), (20, .bipush 40, 2), (22, .if_icmp .gt 54, 3), (25, .lconst 0, 1), (26, .lstore_n 2, 1), (27, .iconst 0, 1), (28, .istore 4, 2), (30, .iload 4, 2), (32, .iload_n 1, 1), (33, .if_icmp .ge 21, 3), (36, .lload_n 2, 1), (37, .lconst 1, 1), (38, .aload_n 0, 1), (39, .iload_n 1, 1), (40, .iload 4, 2), (42, .invokevirtual 20, 3), (45, .lshl, 1), (46, .lor, 1), (47, .lstore_n 2, 1), (48, .iinc 4 1, 3), (51, .goto (-21), 3), (54, .aload_n 0, 1), (55, .getfield 14, 3), (58, .iload_n 1, 1), (59, .lload_n 2, 1), (60, .ldc2_w 24, 3), (63, .lxor, 1), (64, .invokestatic 26, 3), (67, .invokevirtual 32, 3), (70, .iinc 1 1, 3), (73, .goto (-54), 3), (76, .return_, 1)]
theorem zd_69 : ∀ q ∈ zp_69, decode cX7_init q.1 = .ok q.2 := by decide +kernel
/-- BenchMemories$Turns.worthBehind(II)I -/
def zp_70 : List (Nat × Instr × Nat) := [(0, .aload_n 0, 1), (1, .getfield 14, 3), (4, .iconst 0, 1), (5, .iload_n 2, 1), (6, .iconst 1, 1), (7, .isub, 1), (8, .invokestatic 36, 3), (11, .invokevirtual 41, 3), (14, .aload_n 0, 1), (15, .getfield 14, 3), (18, .iconst 0, 1), (19, .iload_n 1, 1), (20, .iload_n 2, 1), (21, .isub, 1), (22, .iconst 2, 1), (23, .isub, 1), (24, .invokestatic 36, 3), (27, .invokevirtual 41, 3), (30, .ixor, 1), (31, .ireturn, 1)]
theorem zd_70 : ∀ q ∈ zp_70, decode cX7_worthBehind q.1 = .ok q.2 := by decide +kernel
/-- BenchMemories$Turns.winningBench(I)I -/
def zp_71 : List (Nat × Instr × Nat) := [(0, .iconst 0, 1), (1, .istore_n 2, 1), (2, .iload_n 2, 1), (3, .iload_n 1, 1), (4, .if_icmp .ge 20, 3), (7, .aload_n 0, 1), (8, .iload_n 1, 1), (9, .iload_n 2, 1), (10, .invokevirtual 20, 3), (13, .ifCond .ne 5, 3), (16, .iload_n 2, 1), (17, .ireturn, 1), (18, .iinc 2 1, 3), (21, .goto (-19), 3), (24, .bipush (-6), 2), (26, .ireturn, 1)]
theorem zd_71 : ∀ q ∈ zp_71, decode cX7_winningBench q.1 = .ok q.2 := by decide +kernel
/-- BenchMemories$Walks.<init>()V -/
def zp_72 : List (Nat × Instr × Nat) := [(0, .aload_n 0, 1), (1, .invokespecial 3, 3), (4, .aload_n 0, 1), (5, .new 9, 3), (8, .dup, 1), (9, .sipush 1024, 3), (12, .invokespecial 13, 3), (15, .putfield 16, 3), (18, .return_, 1)]
theorem zd_72 : ∀ q ∈ zp_72, decode cX8_init q.1 = .ok q.2 := by decide +kernel
/-- BenchMemories$Walks.explore(LBenchMemories$Garden;I)V -/
def zp_73 : List (Nat × Instr × Nat) := [(0, .aload_n 1, 1), (1, .ifnonnull 4, 3), (4, .return_, 1), (5, .aload_n 0, 1), (6, .aload_n 1, 1), (7, .iload_n 2, 1), (8, .invokevirtual 20, 3), (11, .putfield 26, 3), (14, .iconst 1, 1), (15, .istore_n 3, 1), (16, .iload_n 3, 1), (17, .sipush 1024, 3), (20, .if_icmp .ge 34, 3), (23, .iload_n 3, 1), (24, .aload_n 0, 1), (25, .getfield 26, 3), (28, .iconst (-1), 1), (29, .ixor, 1), (30, .iand, 1), (31, .ifCond .ne 17, 3), (34, .aload_n 0, 1), (35, .getfield 16, 3), (38, .iload_n 3, 1), (39, .aload_n 0, 1), (40, .aload_n 1, 1), (41, .iload_n 3, 1), (42, .invokevirtual 30, 3), (45, .invokevirtual 34, 3), (48, .iinc 3 1, 3), (51, .goto (-35), 3), (54, .return_, 1)]
theorem zd_73 : ∀ q ∈ zp_73, decode cX8_explore q.1 = .ok q.2 := by decide +kernel
/-- BenchMemories$Walks.startsOf(LBenchMemories$Garden;I)I -/
def zp_74 : List (Nat × Instr × Nat) := [(0, .iconst 0, 1), (1, .istore_n 3, 1), (2, .iconst 0, 1), (3, .istore 4, 2), (5, .iload 4, 2), (7, .bipush 10, 2), (9, .if_icmp .ge 75, 3), (12, .iload_n 2, 1), (13, .iload 4, 2), (15, .invokestatic 38, 3), (18, .ifCond .eq 60, 3), (21, .iload_n 2, 1), (22, .iconst 1, 1), (23, .iload 4, 2), (25, .ishl, 1), (26, .iconst (-1), 1), (27, .ixor, 1), (28, .iand, 1), (29, .istore 5, 2), (31, .iload 5, 2), (33, .ifCond .eq 22, 3), (36, .aload_n 0, 1), (37, .getfield 16, 3), (40, .iload 5, 2), (42, .invokevirtual 42, 3), (45, .aload_n 1, 1), (46, .iload 4, 2), (48, .invokevirtual 45, 3), (51, .iand, 1), (52, .ifCond .eq 7, 3), (55, .iconst 1, 1), (56, .goto 4, 3), (59, .iconst 0, 1), (60, .istore 6, 2), (62, .iload_n 3, 1), (63, .iload 6, 2), (65, .ifCond .eq 10, 3), (68, .iconst 1, 1), (69, .iload 4, 2), (71, .ishl, 1), (72, .goto 4, 3), (75, .iconst 0, 1), (76, .ior, 1), (77, .istore_n 3, 1), (78, .iinc 4 1, 3), (81, .goto (-76), 3), (84, .iload_n 3, 1), (85, .ireturn, 1)]
theorem zd_74 : ∀ q ∈ zp_74, decode cX8_startsOf q.1 = .ok q.2 := by decide +kernel
/-- BenchMemories$Walks.longestFrom(I)I -/
def zp_75 : List (Nat × Instr × Nat) := [(0, .iconst 1, 1), (1, .istore_n 2, 1), (2, .aload_n 0, 1), (3, .getfield 26, 3), (6, .istore_n 3, 1), (7, .iload_n 3, 1), (8, .ifCond .le 39, 3), (11, .aload_n 0, 1), (12, .getfield 16, 3), (15, .iload_n 3, 1), (16, .invokevirtual 42, 3), (19, .iload_n 1, 1), (20, .invokestatic 38, 3), (23, .ifCond .eq 12, 3), (26, .iload_n 2, 1), (27, .iload_n 3, 1), (28, .invokestatic 48, 3), (31, .invokestatic 53, 3), (34, .istore_n 2, 1), (35, .iload_n 3, 1), (36, .iconst 1, 1), (37, .isub, 1), (38, .aload_n 0, 1), (39, .getfield 26, 3), (42, .iand, 1), (43, .istore_n 3, 1), (44, .goto (-37), 3), (47, .iload_n 2, 1), (48, .iconst 1, 1), (49, .isub, 1), (50, .ireturn, 1)]
theorem zd_75 : ∀ q ∈ zp_75, decode cX8_longestFrom q.1 = .ok q.2 := by decide +kernel
/-- BenchMemories$Walks.firstFrom(LBenchMemories$Garden;II)I -/
def zp_76 : List (Nat × Instr × Nat) := [(0, .iconst 0, 1), (1, .istore 4, 2), (3, .iload_n 2, 1), (4, .istore 5, 2), (6, .aload_n 0, 1), (7, .getfield 26, 3), (10, .istore 6, 2), (12, .iload_n 3, 1), (13, .istore 7, 2), (15, .iload 7, 2), (17, .ifCond .le 58, 3), (20, .aload_n 1, 1), (21, .ifnull 54, 3), (24, .iload 6, 2), (26, .iconst 1, 1), (27, .iload 5, 2), (29, .ishl, 1), (30, .iconst (-1), 1), (31, .ixor, 1), (32, .iand, 1), (33, .istore 6, 2), (35, .aload_n 1, 1), (36, .iload 5, 2), (38, .invokevirtual 45, 3), (41, .aload_n 0, 1), (42, .iload 6, 2), (44, .iload 7, 2), (46, .invokevirtual 59, 3), (49, .iand, 1), (50, .istore 8, 2), (52, .iload 8, 2), (54, .invokestatic 62, 3), (57, .istore 5, 2), (59, .iload 4, 2), (61, .bipush 10, 2), (63, .imul, 1), (64, .iload 5, 2), (66, .iadd, 1), (67, .istore 4, 2), (69, .iinc 7 (-1), 3), (72, .goto (-57), 3), (75, .iload 4, 2), (77, .ireturn, 1)]
theorem zd_76 : ∀ q ∈ zp_76, decode cX8_firstFrom q.1 = .ok q.2 := by decide +kernel
/-- BenchMemories$Walks.startsOfWalks(II)I -/
def zp_77 : List (Nat × Instr × Nat) := [(0, .iconst 0, 1), (1, .istore_n 3, 1), (2, .iload_n 1, 1), (3, .istore 4, 2), (5, .iload 4, 2), (7, .ifCond .le 35, 3), (10, .iload 4, 2), (12, .invokestatic 48, 3), (15, .iload_n 2, 1), (16, .if_icmp .ne 15, 3), (19, .iload_n 3, 1), (20, .aload_n 0, 1), (21, .getfield 16, 3), (24, .iload 4, 2), (26, .invokevirtual 42, 3), (29, .ior, 1), (30, .istore_n 3, 1), (31, .iload 4, 2), (33, .iconst 1, 1), (34, .isub, 1), (35, .iload_n 1, 1), (36, .iand, 1), (37, .istore 4, 2), (39, .goto (-34), 3), (42, .iload_n 3, 1), (43, .ireturn, 1)]
theorem zd_77 : ∀ q ∈ zp_77, decode cX8_startsOfWalks q.1 = .ok q.2 := by decide +kernel
/-- BenchMemories.<init>()V -/
def zp_78 : List (Nat × Instr × Nat) := [(0, .aload_n 0, 1), (1, .invokespecial 1, 3), (4, .aload_n 0, 1), (5, .new 7, 3), (8, .dup, 1), (9, .invokespecial 9, 3), (12, .putfield 10, 3), (15, .aload_n 0, 1), (16, .new 7, 3), (19, .dup, 1), (20, .invokespecial 9, 3), (23, .putfield 16, 3), (26, .aload_n 0, 1), (27, .new 7, 3), (30, .dup, 1), (31, .invokespecial 9, 3), (34, .putfield 19, 3), (37, .aload_n 0, 1), (38, .new 22, 3), (41, .dup, 1), (42, .invokespecial 24, 3), (45, .putfield 25, 3), (48, .aload_n 0, 1), (49, .new 29, 3), (52, .dup, 1), (53, .invokespecial 31, 3), (56, .putfield 32, 3), (59, .aload_n 0, 1), (60, .new 36, 3), (63, .dup, 1), (64, .invokespecial 38, 3), (67, .putfield 39, 3), (70, .aload_n 0, 1), (71, .new 43, 3), (74, .dup, 1), (75, .invokespecial 45, 3), (78, .putfield 46, 3), (81, .aload_n 0, 1), (82, .new 50, 3), (85, .dup, 1), (86, .invokespecial 52, 3), (89, .putfield 53, 3), (92, .aload_n 0, 1), (93, .new 57, 3), (96, .dup, 1), (97, .invokespecial 59, 3), (100, .putfield 60, 3), (103, .aload_n 0, 1), (104, .new 64, 3), (107, .dup, 1), (108, .invokespecial 66, 3), (111, .putfield 67, 3), (114, .return_, 1)]
theorem zd_78 : ∀ q ∈ zp_78, decode cX9_init q.1 = .ok q.2 := by decide +kernel
/-- BenchMemories.way(IIZ)I -/
def zp_79 : List (Nat × Instr × Nat) := [(0, .iload_n 1, 1), (1, .invokestatic 71, 3), (4, .ifCond .eq 15, 3), (7, .iload_n 2, 1), (8, .invokestatic 71, 3), (11, .ifCond .eq 8, 3), (14, .iload_n 1, 1), (15, .iload_n 2, 1), (16, .if_icmp .ne 5, 3), (19, .iconst (-1), 1), (20, .ireturn, 1), (21, .aload_n 0, 1), (22, .getfield 10, 3), (25, .iload_n 1, 1), (26, .iload_n 2, 1), (27, .iload_n 3, 1), (28, .invokevirtual 75, 3), (31, .aload_n 0, 1), (32, .getfield 10, 3), (35, .invokevirtual 79, 3), (38, .ireturn, 1)]
theorem zd_79 : ∀ q ∈ zp_79, decode cX9_way q.1 = .ok q.2 := by decide +kernel
/-- BenchMemories.stand(II)I -/
def zp_80 : List (Nat × Instr × Nat) := [(0, .iload_n 1, 1), (1, .invokestatic 83, 3), (4, .ifCond .eq 10, 3), (7, .iload_n 2, 1), (8, .invokestatic 71, 3), (11, .ifCond .ne 5, 3), (14, .iconst (-1), 1), (15, .ireturn, 1), (16, .aload_n 0, 1), (17, .getfield 10, 3), (20, .iload_n 1, 1), (21, .invokevirtual 86, 3), (24, .istore_n 3, 1), (25, .aload_n 0, 1), (26, .getfield 10, 3), (29, .iload_n 1, 1), (30, .iload_n 2, 1), (31, .invokevirtual 90, 3), (34, .iload_n 3, 1), (35, .ireturn, 1)]
theorem zd_80 : ∀ q ∈ zp_80, decode cX9_stand q.1 = .ok q.2 := by decide +kernel
/-- BenchMemories.give(II)I -/
def zp_81 : List (Nat × Instr × Nat) := [(0, .iload_n 1, 1), (1, .invokestatic 94, 3), (4, .ifCond .eq 10, 3), (7, .iload_n 2, 1), (8, .invokestatic 83, 3), (11, .ifCond .ne 5, 3), (14, .iconst (-1), 1), (15, .ireturn, 1), (16, .aload_n 0, 1), (17, .getfield 10, 3), (20, .iload_n 1, 1), (21, .invokevirtual 97, 3), (24, .istore_n 3, 1), (25, .aload_n 0, 1), (26, .getfield 10, 3), (29, .aload_n 0, 1), (30, .getfield 10, 3), (33, .iload_n 2, 1), (34, .invokevirtual 100, 3), (37, .invokevirtual 103, 3), (40, .aload_n 0, 1), (41, .getfield 10, 3), (44, .iload_n 1, 1), (45, .iload_n 2, 1), (46, .invokevirtual 107, 3), (49, .iload_n 3, 1), (50, .ireturn, 1)]
theorem zd_81 : ∀ q ∈ zp_81, decode cX9_give q.1 = .ok q.2 := by decide +kernel
/-- BenchMemories.lay(III)I -/
def zp_82 : List (Nat × Instr × Nat) := [(0, .iload_n 1, 1), (1, .invokestatic 94, 3), (4, .ifCond .eq 10, 3), (7, .iload_n 2, 1), (8, .invokestatic 71, 3), (11, .ifCond .ne 5, 3), (14, .iconst (-1), 1), (15, .ireturn, 1), (16, .iload_n 3, 1), (17, .iconst 1, 1), (18, .bipush 9, 2), (20, .invokestatic 110, 3), (23, .ifCond .ne 6, 3), (26, .bipush (-2), 2), (28, .ireturn, 1), (29, .aload_n 0, 1), (30, .getfield 10, 3), (33, .iload_n 1, 1), (34, .invokevirtual 97, 3), (37, .istore 4, 2), (39, .aload_n 0, 1), (40, .getfield 10, 3), (43, .aload_n 0, 1), (44, .getfield 10, 3), (47, .iload_n 2, 1), (48, .invokevirtual 114, 3), (51, .invokevirtual 103, 3), (54, .aload_n 0, 1), (55, .getfield 10, 3), (58, .iload_n 1, 1), (59, .iload_n 2, 1), (60, .iload_n 3, 1), (61, .invokevirtual 117, 3), (64, .iload 4, 2), (66, .ireturn, 1)]
theorem zd_82 : ∀ q ∈ zp_82, decode cX9_lay q.1 = .ok q.2 := by decide +kernel
/-- BenchMemories.forget(I)I -/
def zp_83 : List (Nat × Instr × Nat) := [(0, .iload_n 1, 1), (1, .invokestatic 94, 3), (4, .ifCond .ne 5, 3), (7, .iconst (-1), 1), (8, .ireturn, 1), (9, .aload_n 0, 1), (10, .getfield 10, 3), (13, .iload_n 1, 1), (14, .invokevirtual 97, 3), (17, .istore_n 2, 1), (18, .aload_n 0, 1), (19, .getfield 10, 3), (22, .iload_n 1, 1), (23, .invokevirtual 103, 3), (26, .iload_n 2, 1), (27, .ireturn, 1)]
theorem zd_83 : ∀ q ∈ zp_83, decode cX9_forget q.1 = .ok q.2 := by decide +kernel
/-- BenchMemories.say(I)I -/
def zp_84 : List (Nat × Instr × Nat) := [(0, .iload_n 1, 1), (1, .bipush 33, 2), (3, .bipush 126, 2), (5, .invokestatic 110, 3), (8, .ifCond .ne 6, 3), (11, .bipush (-2), 2), (13, .ireturn, 1), (14, .aload_n 0, 1), (15, .getfield 25, 3), (18, .getfield 121, 3), (21, .bipush 60, 2), (23, .if_icmp .lt 6, 3), (26, .bipush (-4), 2), (28, .ireturn, 1), (29, .aload_n 0, 1), (30, .getfield 25, 3), (33, .iload_n 1, 1), (34, .invokevirtual 125, 3), (37, .aload_n 0, 1), (38, .getfield 25, 3), (41, .getfield 121, 3), (44, .ireturn, 1)]
theorem zd_84 : ∀ q ∈ zp_84, decode cX9_say q.1 = .ok q.2 := by decide +kernel
/-- BenchMemories.wipe()I -/
def zp_85 : List (Nat × Instr × Nat) := [(0, .aload_n 0, 1), (1, .getfield 25, 3), (4, .getfield 121, 3), (7, .istore_n 1, 1), (8, .aload_n 0, 1), (9, .getfield 25, 3), (12, .invokevirtual 128, 3), (15, .iload_n 1, 1), (16, .ireturn, 1)]
theorem zd_85 : ∀ q ∈ zp_85, decode cX9_wipe q.1 = .ok q.2 := by decide +kernel
/-- BenchMemories.fault()I -/
def zp_86 : List (Nat × Instr × Nat) := [(0, .aload_n 0, 1), (1, .getfield 25, 3), (4, .invokevirtual 131, 3), (7, .ireturn, 1)]
theorem zd_86 : ∀ q ∈ zp_86, decode cX9_fault q.1 = .ok q.2 := by decide +kernel
/-- BenchMemories.judge(I)I -/
def zp_87 : List (Nat × Instr × Nat) := [(0, .iload_n 1, 1), (1, .iconst 0, 1), (2, .iconst 2, 1), (3, .invokestatic 110, 3), (6, .ifCond .ne 6, 3), (9, .bipush (-2), 2), (11, .ireturn, 1), (12, .aload_n 0, 1), (13, .getfield 32, 3), (16, .aload_n 0, 1), (17, .getfield 10, 3), (20, .aload_n 0, 1), (21, .getfield 25, 3), (24, .invokevirtual 134, 3), (27, .istore_n 2, 1), (28, .iload_n 2, 1), (29, .bipush (-5), 2), (31, .if_icmp .eq 14, 3), (34, .iload_n 1, 1), (35, .iconst 2, 1), (36, .if_icmp .ne 11, 3), (39, .iload_n 2, 1), (40, .bipush (-3), 2), (42, .if_icmp .ne 5, 3), (45, .iload_n 2, 1), (46, .ireturn, 1), (47, .iload_n 1, 1), (48, .iconst 2, 1), (49, .if_icmp .ne 11, 3), (52, .aload_n 0, 1), (53, .getfield 32, 3), (56, .getfield 138, 3), (59, .ireturn, 1), (60, .iload_n 1, 1), (61, .ifCond .ne 13, 3), (64, .aload_n 0, 1), (65, .getfield 32, 3), (68, .getfield 141, 3), (71, .goto 10, 3), (74, .aload_n 0, 1), (75, .getfield 32, 3), (78, .getfield 144, 3), (81, .ireturn, 1)]
theorem zd_87 : ∀ q ∈ zp_87, decode cX9_judge q.1 = .ok q.2 := by decide +kernel
/-- BenchMemories.behind(II)I -/
def zp_88 : List (Nat × Instr × Nat) := [(0, .iload_n 1, 1), (1, .invokestatic 83, 3), (4, .ifCond .ne 5, 3), (7, .iconst (-1), 1), (8, .ireturn, 1), (9, .iload_n 2, 1), (10, .iconst 0, 1), (11, .iconst 1, 1), (12, .invokestatic 110, 3), (15, .ifCond .ne 6, 3), (18, .bipush (-2), 2), (20, .ireturn, 1), (21, .aload_n 0, 1), (22, .getfield 32, 3), (25, .aload_n 0, 1), (26, .getfield 10, 3), (29, .aload_n 0, 1), (30, .getfield 25, 3), (33, .invokevirtual 134, 3), (36, .istore_n 3, 1), (37, .iload_n 3, 1), (38, .ifCond .eq 5, 3), (41, .iload_n 3, 1), (42, .ireturn, 1), (43, .iload_n 2, 1), (44, .ifCond .ne 17, 3), (47, .aload_n 0, 1), (48, .getfield 32, 3), (51, .getfield 147, 3), (54, .iload_n 1, 1), (55, .invokevirtual 86, 3), (58, .goto 14, 3), (61, .aload_n 0, 1), (62, .getfield 32, 3), (65, .getfield 147, 3), (68, .iload_n 1, 1), (69, .invokevirtual 100, 3), (72, .ireturn, 1)]
theorem zd_88 : ∀ q ∈ zp_88, decode cX9_behind q.1 = .ok q.2 := by decide +kernel
/-- BenchMemories.lies(II)I -/
def zp_89 : List (Nat × Instr × Nat) := [(0, .iload_n 1, 1), (1, .invokestatic 71, 3), (4, .ifCond .ne 5, 3), (7, .iconst (-1), 1), (8, .ireturn, 1), (9, .iload_n 2, 1), (10, .iconst 0, 1), (11, .iconst 1, 1), (12, .invokestatic 110, 3), (15, .ifCond .ne 6, 3), (18, .bipush (-2), 2), (20, .ireturn, 1), (21, .aload_n 0, 1), (22, .getfield 32, 3), (25, .aload_n 0, 1), (26, .getfield 10, 3), (29, .aload_n 0, 1), (30, .getfield 25, 3), (33, .invokevirtual 134, 3), (36, .istore_n 3, 1), (37, .iload_n 3, 1), (38, .ifCond .eq 5, 3), (41, .iload_n 3, 1), (42, .ireturn, 1), (43, .iload_n 2, 1), (44, .ifCond .ne 17, 3), (47, .aload_n 0, 1), (48, .getfield 32, 3), (51, .getfield 147, 3), (54, .iload_n 1, 1), (55, .invokevirtual 114, 3), (58, .goto 14, 3), (61, .aload_n 0, 1), (62, .getfield 32, 3), (65, .getfield 147, 3), (68, .iload_n 1, 1), (69, .invokevirtual 150, 3), (72, .ireturn, 1)]
theorem zd_89 : ∀ q ∈ zp_89, decode cX9_lies q.1 = .ok q.2 := by decide +kernel
/-- BenchMemories.hands(II)I -/
def zp_90 : List (Nat × Instr × Nat) := [(0, .iload_n 1, 1), (1, .invokestatic 94, 3), (4, .ifCond .ne 5, 3), (7, .iconst (-1), 1), (8, .ireturn, 1), (9, .iload_n 2, 1), (10, .iconst 0, 1), (11, .iconst 1, 1), (12, .invokestatic 110, 3), (15, .ifCond .ne 6, 3), (18, .bipush (-2), 2), (20, .ireturn, 1), (21, .aload_n 0, 1), (22, .getfield 32, 3), (25, .aload_n 0, 1), (26, .getfield 10, 3), (29, .aload_n 0, 1), (30, .getfield 25, 3), (33, .invokevirtual 134, 3), (36, .istore_n 3, 1), (37, .iload_n 3, 1), (38, .ifCond .eq 5, 3), (41, .iload_n 3, 1), (42, .ireturn, 1), (43, .iload_n 2, 1), (44, .ifCond .ne 15, 3), (47, .aload_n 0, 1), (48, .getfield 32, 3), (51, .getfield 153, 3), (54, .iload_n 1, 1), (55, .invokevirtual 157, 3), (58, .ireturn, 1), (59, .aload_n 0, 1), (60, .getfield 32, 3), (63, .getfield 147, 3), (66, .iload_n 1, 1), (67, .invokevirtual 97, 3), (70, .istore 4, 2), (72, .iload 4, 2), (74, .invokestatic 83, 3), (77, .ifCond .eq 8, 3), (80, .iload 4, 2), (82, .goto 5, 3), (85, .bipush (-6), 2), (87, .ireturn, 1)]
theorem zd_90 : ∀ q ∈ zp_90, decode cX9_hands q.1 = .ok q.2 := by decide +kernel
/-- BenchMemories.most()I -/
def zp_91 : List (Nat × Instr × Nat) := [(0, .aload_n 0, 1), (1, .getfield 32, 3), (4, .aload_n 0, 1), (5, .getfield 10, 3), (8, .aload_n 0, 1), (9, .getfield 25, 3), (12, .invokevirtual 134, 3), (15, .istore_n 1, 1), (16, .iload_n 1, 1), (17, .ifCond .eq 7, 3), (20, .iload_n 1, 1), (21, .goto 10, 3), (24, .aload_n 0, 1), (25, .getfield 32, 3), (28, .invokevirtual 162, 3), (31, .ireturn, 1)]
theorem zd_91 : ∀ q ∈ zp_91, decode cX9_most q.1 = .ok q.2 := by decide +kernel
end
section
set_option maxRecDepth 100000
/-- BenchMemories.done()I -/
def zp_92 : List (Nat × Instr × Nat) := [(0, .aload_n 0, 1), (1, .getfield 32, 3), (4, .aload_n 0, 1), (5, .getfield 10, 3), (8, .aload_n 0, 1), (9, .getfield 25, 3), (12, .invokevirtual 134, 3), (15, .istore_n 1, 1), (16, .iload_n 1, 1), (17, .ifCond .eq 5, 3), (20, .iload_n 1, 1), (21, .ireturn, 1), (22, .aload_n 0, 1), (23, .getfield 10, 3), (26, .aload_n 0, 1), (27, .getfield 32, 3), (30, .getfield 147, 3), (33, .invokevirtual 165, 3), (36, .aload_n 0, 1), (37, .getfield 25, 3), (40, .invokevirtual 128, 3), (43, .aload_n 0, 1), (44, .getfield 32, 3), (47, .getfield 169, 3), (50, .ireturn, 1)]
theorem zd_92 : ∀ q ∈ zp_92, decode cX9_done q.1 = .ok q.2 := by decide +kernel
/-- BenchMemories.steps(II)I -/
def zp_93 : List (Nat × Instr × Nat) := [(0, .iload_n 1, 1), (1, .invokestatic 71, 3), (4, .ifCond .eq 22, 3), (7, .iload_n 2, 1), (8, .invokestatic 71, 3), (11, .ifCond .eq 15, 3), (14, .aload_n 0, 1), (15, .getfield 10, 3), (18, .iload_n 1, 1), (19, .iload_n 2, 1), (20, .invokevirtual 172, 3), (23, .goto 4, 3), (26, .iconst (-1), 1), (27, .ireturn, 1)]
theorem zd_93 : ∀ q ∈ zp_93, decode cX9_steps q.1 = .ok q.2 := by decide +kernel
/-- BenchMemories.get(II)I -/
def zp_94 : List (Nat × Instr × Nat) := [(0, .iload_n 1, 1), (1, .invokestatic 83, 3), (4, .ifCond .eq 10, 3), (7, .iload_n 2, 1), (8, .invokestatic 94, 3), (11, .ifCond .ne 5, 3), (14, .iconst (-1), 1), (15, .ireturn, 1), (16, .aload_n 0, 1), (17, .getfield 10, 3), (20, .iload_n 2, 1), (21, .invokevirtual 97, 3), (24, .bipush 10, 2), (26, .isub, 1), (27, .istore_n 3, 1), (28, .iload_n 3, 1), (29, .invokestatic 71, 3), (32, .ifCond .ne 6, 3), (35, .bipush (-3), 2), (37, .ireturn, 1), (38, .aload_n 0, 1), (39, .getfield 10, 3), (42, .aload_n 0, 1), (43, .getfield 10, 3), (46, .iload_n 1, 1), (47, .invokevirtual 86, 3), (50, .iload_n 3, 1), (51, .invokevirtual 172, 3), (54, .istore 4, 2), (56, .iload 4, 2), (58, .bipush (-6), 2), (60, .if_icmp .eq 14, 3), (63, .aload_n 0, 1), (64, .getfield 10, 3), (67, .iload_n 3, 1), (68, .invokevirtual 176, 3), (71, .ifCond .eq 8, 3), (74, .bipush (-6), 2), (76, .goto 7, 3), (79, .iload 4, 2), (81, .iconst 1, 1), (82, .iadd, 1), (83, .ireturn, 1)]
theorem zd_94 : ∀ q ∈ zp_94, decode cX9_get q.1 = .ok q.2 := by decide +kernel
/-- BenchMemories.round(II)I -/
def zp_95 : List (Nat × Instr × Nat) := [(0, .iload_n 1, 1), (1, .invokestatic 71, 3), (4, .ifCond .ne 5, 3), (7, .iconst (-1), 1), (8, .ireturn, 1), (9, .iload_n 2, 1), (10, .iconst 0, 1), (11, .sipush 1023, 3), (14, .invokestatic 110, 3), (17, .ifCond .ne 6, 3), (20, .bipush (-2), 2), (22, .ireturn, 1), (23, .aload_n 0, 1), (24, .getfield 39, 3), (27, .aload_n 0, 1), (28, .getfield 10, 3), (31, .iload_n 1, 1), (32, .iload_n 2, 1), (33, .invokevirtual 179, 3), (36, .ireturn, 1)]
theorem zd_95 : ∀ q ∈ zp_95, decode cX9_round q.1 = .ok q.2 := by decide +kernel
/-- BenchMemories.walk(II)I -/
def zp_96 : List (Nat × Instr × Nat) := [(0, .iload_n 1, 1), (1, .invokestatic 71, 3), (4, .ifCond .ne 5, 3), (7, .iconst (-1), 1), (8, .ireturn, 1), (9, .iload_n 2, 1), (10, .iconst 0, 1), (11, .iconst 1, 1), (12, .invokestatic 110, 3), (15, .ifCond .ne 6, 3), (18, .bipush (-2), 2), (20, .ireturn, 1), (21, .aload_n 0, 1), (22, .getfield 46, 3), (25, .aload_n 0, 1), (26, .getfield 10, 3), (29, .iload_n 1, 1), (30, .invokevirtual 183, 3), (33, .aload_n 0, 1), (34, .getfield 46, 3), (37, .iload_n 1, 1), (38, .invokevirtual 187, 3), (41, .istore_n 3, 1), (42, .iload_n 2, 1), (43, .ifCond .ne 7, 3), (46, .iload_n 3, 1), (47, .goto 16, 3), (50, .aload_n 0, 1), (51, .getfield 46, 3), (54, .aload_n 0, 1), (55, .getfield 10, 3), (58, .iload_n 1, 1), (59, .iload_n 3, 1), (60, .invokevirtual 190, 3), (63, .ireturn, 1)]
theorem zd_96 : ∀ q ∈ zp_96, decode cX9_walk q.1 = .ok q.2 := by decide +kernel
/-- BenchMemories.right(II)I -/
def zp_97 : List (Nat × Instr × Nat) := [(0, .aload_n 0, 1), (1, .getfield 53, 3), (4, .iload_n 1, 1), (5, .invokevirtual 193, 3), (8, .ifCond .eq 12, 3), (11, .iload_n 2, 1), (12, .iconst 0, 1), (13, .iconst 1, 1), (14, .invokestatic 110, 3), (17, .ifCond .ne 6, 3), (20, .bipush (-2), 2), (22, .ireturn, 1), (23, .iload_n 2, 1), (24, .ifCond .ne 13, 3), (27, .aload_n 0, 1), (28, .getfield 53, 3), (31, .invokevirtual 196, 3), (34, .goto 10, 3), (37, .aload_n 0, 1), (38, .getfield 53, 3), (41, .invokevirtual 199, 3), (44, .ireturn, 1)]
theorem zd_97 : ∀ q ∈ zp_97, decode cX9_right q.1 = .ok q.2 := by decide +kernel
/-- BenchMemories.seen(IIZ)I -/
def zp_98 : List (Nat × Instr × Nat) := [(0, .iload_n 1, 1), (1, .iconst 0, 1), (2, .bipush 60, 2), (4, .invokestatic 110, 3), (7, .ifCond .eq 13, 3), (10, .iload_n 2, 1), (11, .iconst 0, 1), (12, .bipush 7, 2), (14, .invokestatic 110, 3), (17, .ifCond .ne 6, 3), (20, .bipush (-2), 2), (22, .ireturn, 1), (23, .aload_n 0, 1), (24, .getfield 10, 3), (27, .getfield 202, 3), (30, .bipush 8, 2), (32, .if_icmp .lt 6, 3), (35, .bipush (-4), 2), (37, .ireturn, 1), (38, .aload_n 0, 1), (39, .getfield 10, 3), (42, .iload_n 1, 1), (43, .iload_n 2, 1), (44, .iload_n 3, 1), (45, .invokevirtual 205, 3), (48, .aload_n 0, 1), (49, .getfield 10, 3), (52, .getfield 202, 3), (55, .ireturn, 1)]
theorem zd_98 : ∀ q ∈ zp_98, decode cX9_seen q.1 = .ok q.2 := by decide +kernel
/-- BenchMemories.clear()I -/
def zp_99 : List (Nat × Instr × Nat) := [(0, .aload_n 0, 1), (1, .getfield 10, 3), (4, .getfield 202, 3), (7, .istore_n 1, 1), (8, .aload_n 0, 1), (9, .getfield 10, 3), (12, .invokevirtual 208, 3), (15, .iload_n 1, 1), (16, .ireturn, 1)]
theorem zd_99 : ∀ q ∈ zp_99, decode cX9_clear q.1 = .ok q.2 := by decide +kernel
/-- BenchMemories.fits(I)I -/
def zp_100 : List (Nat × Instr × Nat) := [(0, .aload_n 0, 1), (1, .getfield 60, 3), (4, .aload_n 0, 1), (5, .getfield 10, 3), (8, .invokevirtual 211, 3), (11, .iload_n 1, 1), (12, .iconst (-1), 1), (13, .if_icmp .ne 11, 3), (16, .aload_n 0, 1), (17, .getfield 60, 3), (20, .getfield 214, 3), (23, .ireturn, 1), (24, .iload_n 1, 1), (25, .iconst 0, 1), (26, .aload_n 0, 1), (27, .getfield 60, 3), (30, .getfield 214, 3), (33, .iconst 1, 1), (34, .isub, 1), (35, .invokestatic 110, 3), (38, .ifCond .eq 17, 3), (41, .aload_n 0, 1), (42, .getfield 60, 3), (45, .getfield 215, 3), (48, .iload_n 1, 1), (49, .invokevirtual 157, 3), (52, .goto 5, 3), (55, .bipush (-6), 2), (57, .ireturn, 1)]
theorem zd_100 : ∀ q ∈ zp_100, decode cX9_fits q.1 = .ok q.2 := by decide +kernel
/-- BenchMemories.ask(I)I -/
def zp_101 : List (Nat × Instr × Nat) := [(0, .iload_n 1, 1), (1, .iconst 0, 1), (2, .iconst 1, 1), (3, .invokestatic 110, 3), (6, .ifCond .ne 6, 3), (9, .bipush (-2), 2), (11, .ireturn, 1), (12, .aload_n 0, 1), (13, .getfield 60, 3), (16, .aload_n 0, 1), (17, .getfield 10, 3), (20, .invokevirtual 211, 3), (23, .aload_n 0, 1), (24, .getfield 60, 3), (27, .getfield 214, 3), (30, .ifCond .ne 6, 3), (33, .bipush (-6), 2), (35, .ireturn, 1), (36, .aload_n 0, 1), (37, .getfield 60, 3), (40, .invokevirtual 218, 3), (43, .iload_n 1, 1), (44, .ifCond .ne 13, 3), (47, .aload_n 0, 1), (48, .getfield 60, 3), (51, .getfield 221, 3), (54, .goto 10, 3), (57, .aload_n 0, 1), (58, .getfield 60, 3), (61, .getfield 224, 3), (64, .ireturn, 1)]
theorem zd_101 : ∀ q ∈ zp_101, decode cX9_ask q.1 = .ok q.2 := by decide +kernel
/-- BenchMemories.take(II)I -/
def zp_102 : List (Nat × Instr × Nat) := [(0, .iload_n 1, 1), (1, .iconst 0, 1), (2, .bipush 40, 2), (4, .invokestatic 110, 3), (7, .ifCond .eq 12, 3), (10, .iload_n 2, 1), (11, .iconst 0, 1), (12, .iconst 1, 1), (13, .invokestatic 110, 3), (16, .ifCond .ne 6, 3), (19, .bipush (-2), 2), (21, .ireturn, 1), (22, .aload_n 0, 1), (23, .getfield 67, 3), (26, .iload_n 1, 1), (27, .invokevirtual 227, 3), (30, .istore_n 3, 1), (31, .iload_n 2, 1), (32, .iconst 1, 1), (33, .if_icmp .ne 5, 3), (36, .iload_n 3, 1), (37, .ireturn, 1), (38, .iload_n 3, 1), (39, .bipush (-6), 2), (41, .if_icmp .ne 7, 3), (44, .iconst 0, 1), (45, .goto 4, 3), (48, .iconst 1, 1), (49, .ireturn, 1)]
theorem zd_102 : ∀ q ∈ zp_102, decode cX9_take q.1 = .ok q.2 := by decide +kernel
/-- BenchMemories.evenings(IIII)J -/
def zp_103 : List (Nat × Instr × Nat) := [(0, .iload_n 1, 1), (1, .iconst 0, 1), (2, .bipush 12, 2), (4, .invokestatic 110, 3), (7, .ifCond .eq 36, 3), (10, .iload_n 2, 1), (11, .iconst 1, 1), (12, .bipush 10, 2), (14, .invokestatic 110, 3), (17, .ifCond .eq 26, 3), (20, .iload_n 3, 1), (21, .iconst 0, 1), (22, .iconst 1, 1), (23, .invokestatic 110, 3), (26, .ifCond .eq 17, 3), (29, .iload 4, 2), (31, .iconst 0, 1), (32, .iconst 1, 1), (33, .invokestatic 110, 3), (36, .ifCond .eq 7, 3), (39, .iconst 1, 1), (40, .goto 4, 3), (43, .iconst 0, 1), (44, .istore 5, 2), (46, .iload 5, 2), (48, .ifCond .ne 7, 3), (51, .ldc2_w 230, 3), (54, .lreturn, 1), (55, .iload_n 2, 1), (56, .iload_n 1, 1), (57, .invokestatic 232, 3), (60, .lstore 6, 2), (62, .lload 6, 2), (64, .iload_n 2, 1), (65, .iconst 1, 1), (66, .isub, 1), (67, .iload_n 1, 1), (68, .invokestatic 232, 3), (71, .lsub, 1), (72, .lstore 8, 2), (74, .iload_n 3, 1), (75, .iconst 1, 1), (76, .if_icmp .ne 10, 3), (79, .lload 8, 2), (81, .iload_n 2, 1), (82, .i2l, 1), (83, .lmul, 1), (84, .lstore 8, 2), (86, .lconst 1, 1), (87, .lload 8, 2), (89, .lload 6, 2), (91, .invokestatic 236, 3), (94, .invokestatic 240, 3), (97, .lstore 10, 2), (99, .iload 4, 2), (101, .ifCond .ne 8, 3), (104, .lload 8, 2), (106, .goto 5, 3), (109, .lload 6, 2), (111, .lload 10, 2), (113, .ldiv, 1), (114, .lreturn, 1)]
theorem zd_103 : ∀ q ∈ zp_103, decode cX9_evenings q.1 = .ok q.2 := by decide +kernel
/-- BenchMemories.season(III)I -/
def zp_104 : List (Nat × Instr × Nat) := [(0, .iload_n 1, 1), (1, .iconst 0, 1), (2, .sipush 9999, 3), (5, .invokestatic 110, 3), (8, .ifCond .eq 26, 3), (11, .iload_n 2, 1), (12, .iconst 1, 1), (13, .bipush 99, 2), (15, .invokestatic 110, 3), (18, .ifCond .eq 16, 3), (21, .iload_n 3, 1), (22, .iconst 0, 1), (23, .iconst 2, 1), (24, .invokestatic 110, 3), (27, .ifCond .eq 7, 3), (30, .iconst 1, 1), (31, .goto 4, 3), (34, .iconst 0, 1), (35, .istore 4, 2), (37, .iload 4, 2), (39, .ifCond .ne 6, 3), (42, .bipush (-2), 2), (44, .ireturn, 1), (45, .aload_n 0, 1), (46, .getfield 32, 3), (49, .aload_n 0, 1), (50, .getfield 10, 3), (53, .iload_n 1, 1), (54, .iload_n 2, 1), (55, .invokevirtual 245, 3), (58, .iload_n 3, 1), (59, .iconst 2, 1), (60, .if_icmp .ne 14, 3), (63, .aload_n 0, 1), (64, .getfield 32, 3), (67, .getfield 147, 3), (70, .getfield 249, 3), (73, .ireturn, 1), (74, .iload_n 3, 1), (75, .ifCond .ne 16, 3), (78, .aload_n 0, 1), (79, .getfield 32, 3), (82, .getfield 147, 3), (85, .invokevirtual 252, 3), (88, .goto 13, 3), (91, .aload_n 0, 1), (92, .getfield 32, 3), (95, .getfield 147, 3), (98, .invokevirtual 255, 3), (101, .ireturn, 1)]
theorem zd_104 : ∀ q ∈ zp_104, decode cX9_season q.1 = .ok q.2 := by decide +kernel
/-- BenchMemories.image(I)I -/
def zp_105 : List (Nat × Instr × Nat) := [(0, .iload_n 1, 1), (1, .iconst 0, 1), (2, .iconst 1, 1), (3, .invokestatic 110, 3), (6, .ifCond .ne 6, 3), (9, .bipush (-2), 2), (11, .ireturn, 1), (12, .iload_n 1, 1), (13, .ifCond .ne 10, 3), (16, .aload_n 0, 1), (17, .getfield 16, 3), (20, .goto 7, 3), (23, .aload_n 0, 1), (24, .getfield 19, 3), (27, .astore_n 2, 1), (28, .aload_n 2, 1), (29, .aload_n 0, 1), (30, .getfield 10, 3), (33, .invokevirtual 165, 3), (36, .aload_n 0, 1), (37, .dup, 1), (38, .getfield 258, 3), (41, .iconst 1, 1), (42, .iload_n 1, 1), (43, .ishl, 1), (44, .ior, 1), (45, .putfield 258, 3), (48, .iconst 1, 1), (49, .ireturn, 1)]
theorem zd_105 : ∀ q ∈ zp_105, decode cX9_image q.1 = .ok q.2 := by decide +kernel
/-- BenchMemories.restore(I)I -/
def zp_106 : List (Nat × Instr × Nat) := [(0, .iload_n 1, 1), (1, .iconst 0, 1), (2, .iconst 1, 1), (3, .invokestatic 110, 3), (6, .ifCond .ne 6, 3), (9, .bipush (-2), 2), (11, .ireturn, 1), (12, .aload_n 0, 1), (13, .getfield 258, 3), (16, .iload_n 1, 1), (17, .invokestatic 261, 3), (20, .ifCond .ne 6, 3), (23, .bipush (-3), 2), (25, .ireturn, 1), (26, .aload_n 0, 1), (27, .getfield 10, 3), (30, .iload_n 1, 1), (31, .ifCond .ne 10, 3), (34, .aload_n 0, 1), (35, .getfield 16, 3), (38, .goto 7, 3), (41, .aload_n 0, 1), (42, .getfield 19, 3), (45, .invokevirtual 165, 3), (48, .iconst 1, 1), (49, .ireturn, 1)]
theorem zd_106 : ∀ q ∈ zp_106, decode cX9_restore q.1 = .ok q.2 := by decide +kernel
/-- BenchMemories.told(I)I -/
def zp_107 : List (Nat × Instr × Nat) := [(0, .iload_n 1, 1), (1, .tableswitch 63 0 3 #[31, 39, 47, 55], 31), (32, .aload_n 0, 1), (33, .getfield 25, 3), (36, .getfield 121, 3), (39, .ireturn, 1), (40, .aload_n 0, 1), (41, .getfield 10, 3), (44, .getfield 265, 3), (47, .ireturn, 1), (48, .aload_n 0, 1), (49, .getfield 10, 3), (52, .getfield 249, 3), (55, .ireturn, 1), (56, .aload_n 0, 1), (57, .getfield 10, 3), (60, .getfield 202, 3), (63, .ireturn, 1), (64, .aload_n 0, 1), (65, .iload_n 1, 1), (66, .invokevirtual 268, 3), (69, .ireturn, 1)]
theorem zd_107 : ∀ q ∈ zp_107, decode cX9_told q.1 = .ok q.2 := by decide +kernel
/-- BenchMemories.toldOfOne(I)I -/
def zp_108 : List (Nat × Instr × Nat) := [(0, .iload_n 1, 1), (1, .bipush 10, 2), (3, .isub, 1), (4, .invokestatic 71, 3), (7, .ifCond .eq 15, 3), (10, .aload_n 0, 1), (11, .getfield 10, 3), (14, .iload_n 1, 1), (15, .bipush 10, 2), (17, .isub, 1), (18, .invokevirtual 271, 3), (21, .ireturn, 1), (22, .iload_n 1, 1), (23, .bipush 20, 2), (25, .isub, 1), (26, .invokestatic 71, 3), (29, .ifCond .eq 15, 3), (32, .aload_n 0, 1), (33, .getfield 10, 3), (36, .iload_n 1, 1), (37, .bipush 20, 2), (39, .isub, 1), (40, .invokevirtual 114, 3), (43, .ireturn, 1), (44, .iload_n 1, 1), (45, .bipush 30, 2), (47, .isub, 1), (48, .invokestatic 71, 3), (51, .ifCond .eq 15, 3), (54, .aload_n 0, 1), (55, .getfield 10, 3), (58, .iload_n 1, 1), (59, .bipush 30, 2), (61, .isub, 1), (62, .invokevirtual 150, 3), (65, .ireturn, 1), (66, .iload_n 1, 1), (67, .bipush 40, 2), (69, .isub, 1), (70, .invokestatic 83, 3), (73, .ifCond .eq 15, 3), (76, .aload_n 0, 1), (77, .getfield 10, 3), (80, .iload_n 1, 1), (81, .bipush 40, 2), (83, .isub, 1), (84, .invokevirtual 86, 3), (87, .ireturn, 1), (88, .iload_n 1, 1), (89, .bipush 50, 2), (91, .isub, 1), (92, .invokestatic 83, 3), (95, .ifCond .eq 15, 3), (98, .aload_n 0, 1), (99, .getfield 10, 3), (102, .iload_n 1, 1), (103, .bipush 50, 2), (105, .isub, 1), (106, .invokevirtual 100, 3), (109, .ireturn, 1), (110, .iload_n 1, 1), (111, .bipush 100, 2), (113, .isub, 1), (114, .invokestatic 94, 3), (117, .ifCond .eq 17, 3), (120, .aload_n 0, 1), (121, .getfield 10, 3), (124, .iload_n 1, 1), (125, .bipush 100, 2), (127, .isub, 1), (128, .invokevirtual 97, 3), (131, .goto 5, 3), (134, .bipush (-2), 2), (136, .ireturn, 1)]
theorem zd_108 : ∀ q ∈ zp_108, decode cX9_toldOfOne q.1 = .ok q.2 := by decide +kernel
/-- BenchMemories.isWithin(III)Z -/
def zp_109 : List (Nat × Instr × Nat) := [(0, .iload_n 0, 1), (1, .iload_n 1, 1), (2, .if_icmp .lt 12, 3), (5, .iload_n 0, 1), (6, .iload_n 2, 1), (7, .if_icmp .gt 7, 3), (10, .iconst 1, 1), (11, .goto 4, 3), (14, .iconst 0, 1), (15, .ireturn, 1)]
theorem zd_109 : ∀ q ∈ zp_109, decode cX9_isWithin q.1 = .ok q.2 := by decide +kernel
/-- BenchMemories.isBench(I)Z -/
def zp_110 : List (Nat × Instr × Nat) := [(0, .iload_n 0, 1), (1, .iconst 0, 1), (2, .bipush 9, 2), (4, .invokestatic 110, 3), (7, .ireturn, 1)]
theorem zd_110 : ∀ q ∈ zp_110, decode cX9_isBench q.1 = .ok q.2 := by decide +kernel
/-- BenchMemories.isOne(I)Z -/
def zp_111 : List (Nat × Instr × Nat) := [(0, .iload_n 0, 1), (1, .iconst 0, 1), (2, .bipush 7, 2), (4, .invokestatic 110, 3), (7, .ireturn, 1)]
theorem zd_111 : ∀ q ∈ zp_111, decode cX9_isOne q.1 = .ok q.2 := by decide +kernel
/-- BenchMemories.isMemory(I)Z -/
def zp_112 : List (Nat × Instr × Nat) := [(0, .iload_n 0, 1), (1, .iconst 0, 1), (2, .bipush 11, 2), (4, .invokestatic 110, 3), (7, .ireturn, 1)]
theorem zd_112 : ∀ q ∈ zp_112, decode cX9_isMemory q.1 = .ok q.2 := by decide +kernel
/-- BenchMemories.has(II)Z -/
def zp_113 : List (Nat × Instr × Nat) := [(0, .iload_n 0, 1), (1, .iload_n 1, 1), (2, .ishr, 1), (3, .iconst 1, 1), (4, .iand, 1), (5, .ifCond .eq 7, 3), (8, .iconst 1, 1), (9, .goto 4, 3), (12, .iconst 0, 1), (13, .ireturn, 1)]
theorem zd_113 : ∀ q ∈ zp_113, decode cX9_has q.1 = .ok q.2 := by decide +kernel
/-- BenchMemories.power(II)J -/
def zp_114 : List (Nat × Instr × Nat) := [(0, .lconst 1, 1), (1, .lstore_n 2, 1), (2, .iconst 0, 1), (3, .istore 4, 2), (5, .iload 4, 2), (7, .iload_n 1, 1), (8, .if_icmp .ge 14, 3), (11, .lload_n 2, 1), (12, .iload_n 0, 1), (13, .i2l, 1), (14, .lmul, 1), (15, .lstore_n 2, 1), (16, .iinc 4 1, 3), (19, .goto (-14), 3), (22, .lload_n 2, 1), (23, .lreturn, 1)]
theorem zd_114 : ∀ q ∈ zp_114, decode cX9_power q.1 = .ok q.2 := by decide +kernel
/-- BenchMemories.commonDivisor(JJ)J -/
def zp_115 : List (Nat × Instr × Nat) := [(0, .lload_n 0, 1), (1, .lstore 4, 2), (3, .lload_n 2, 1), (4, .lstore 6, 2), (6, .iconst 0, 1), (7, .istore 8, 2), (9, .iload 8, 2), (11, .sipush 200, 3), (14, .if_icmp .ge 31, 3), (17, .lload 6, 2), (19, .lconst 0, 1), (20, .lcmp, 1), (21, .ifCond .eq 24, 3), (24, .lload 4, 2), (26, .lload 6, 2), (28, .lrem, 1), (29, .lstore 9, 2), (31, .lload 6, 2), (33, .lstore 4, 2), (35, .lload 9, 2), (37, .lstore 6, 2), (39, .iinc 8 1, 3), (42, .goto (-33), 3), (45, .lload 4, 2), (47, .lreturn, 1)]
theorem zd_115 : ∀ q ∈ zp_115, decode cX9_commonDivisor q.1 = .ok q.2 := by decide +kernel
/-- BenchMemoriesModel.<init>()V -/
def zp_116 : List (Nat × Instr × Nat) := [(0, .aload_n 0, 1), (1, .invokespecial 1, 3), (4, .aload_n 0, 1), (5, .bipush 10, 2), (7, .newarray .int, 2), (9, .putfield 7, 3), (12, .aload_n 0, 1), (13, .bipush 8, 2), (15, .newarray .int, 2), (17, .putfield 13, 3), (20, .aload_n 0, 1), (21, .bipush 8, 2), (23, .newarray .int, 2), (25, .putfield 16, 3), (28, .aload_n 0, 1), (29, .bipush 10, 2), (31, .newarray .int, 2), (33, .putfield 19, 3), (36, .aload_n 0, 1), (37, .bipush 10, 2), (39, .newarray .int, 2), (41, .putfield 22, 3), (44, .aload_n 0, 1), (45, .bipush 8, 2), (47, .newarray .int, 2), (49, .putfield 25, 3), (52, .aload_n 0, 1), (53, .bipush 8, 2), (55, .newarray .int, 2), (57, .putfield 28, 3), (60, .aload_n 0, 1), (61, .bipush 8, 2), (63, .newarray .int, 2), (65, .putfield 31, 3), (68, .aload_n 0, 1), (69, .bipush 60, 2), (71, .newarray .int, 2), (73, .putfield 34, 3), (76, .aload_n 0, 1), (77, .bipush 60, 2), (79, .newarray .int, 2), (81, .putfield 37, 3), (84, .aload_n 0, 1), (85, .bipush 60, 2), (87, .newarray .int, 2), (89, .putfield 40, 3), (92, .aload_n 0, 1), (93, .bipush 60, 2), (95, .newarray .int, 2), (97, .putfield 43, 3), (100, .aload_n 0, 1), (101, .bipush 12, 2), (103, .newarray .int, 2), (105, .putfield 46, 3), (108, .aload_n 0, 1), (109, .bipush 38, 2), (111, .newarray .int, 2), (113, .putfield 49, 3), (116, .aload_n 0, 1), (117, .sipush 10240, 3), (120, .newarray .int, 2), (122, .putfield 52, 3), (125, .aload_n 0, 1), (126, .bipush 100, 2), (128, .newarray .int, 2), (130, .putfield 55, 3), (133, .aload_n 0, 1), (134, .bipush 7, 2), (136, .newarray .int, 2), (138, .putfield 58, 3), (141, .aload_n 0, 1), (142, .bipush 8, 2), (144, .newarray .int, 2), (146, .putfield 61, 3), (149, .aload_n 0, 1), (150, .bipush 41, 2), (152, .newarray .int, 2), (154, .putfield 64, 3), (157, .aload_n 0, 1), (158, .sipush 128, 3), (161, .newarray .boolean, 2), (163, .putfield 67, 3), (166, .aload_n 0, 1), (167, .sipush 200, 3), (170, .newarray .int, 2), (172, .putfield 71, 3), (175, .aload_n 0, 1), (176, .iconst 2, 1), (177, .newarray .boolean, 2), (179, .putfield 74, 3), (182, .iconst 0, 1), (183, .istore_n 1, 1), (184, .iload_n 1, 1), (185, .bipush 8, 2), (187, .if_icmp .ge 23, 3), (190, .aload_n 0, 1), (191, .getfield 13, 3), (194, .iload_n 1, 1), (195, .iload_n 1, 1), (196, .iastore, 1), (197, .aload_n 0, 1), (198, .getfield 16, 3), (201, .iload_n 1, 1), (202, .iload_n 1, 1), (203, .iastore, 1), (204, .iinc 1 1, 3), (207, .goto (-23), 3), (210, .iconst 0, 1), (211, .istore_n 1, 1), (212, .iload_n 1, 1), (213, .bipush 10, 2), (215, .if_icmp .ge 25, 3), (218, .aload_n 0, 1), (219, .getfield 19, 3), (222, .iload_n 1, 1), (223, .bipush (-6), 2), (225, .iastore, 1), (226, .aload_n 0, 1), (227, .getfield 22, 3), (230, .iload_n 1, 1), (231, .bipush (-6), 2), (233, .iastore, 1), (234, .iinc 1 1, 3), (237, .goto (-25), 3), (240, .return_, 1)]
theorem zd_116 : ∀ q ∈ zp_116, decode cX10_init q.1 = .ok q.2 := by decide +kernel
/-- BenchMemoriesModel.in(JJJ)Z -/
def zp_117 : List (Nat × Instr × Nat) := [(0, .lload_n 0, 1), (1, .lload_n 2, 1), (2, .lcmp, 1), (3, .ifCond .lt 14, 3), (6, .lload_n 0, 1), (7, .lload 4, 2), (9, .lcmp, 1), (10, .ifCond .gt 7, 3), (13, .iconst 1, 1), (14, .goto 4, 3), (17, .iconst 0, 1), (18, .ireturn, 1)]
theorem zd_117 : ∀ q ∈ zp_117, decode cX10_in q.1 = .ok q.2 := by decide +kernel
/-- BenchMemoriesModel.isBench(I)Z -/
def zp_118 : List (Nat × Instr × Nat) := [(0, .iload_n 0, 1), (1, .i2l, 1), (2, .lconst 0, 1), (3, .ldc2_w 77, 3), (6, .invokestatic 79, 3), (9, .ireturn, 1)]
theorem zd_118 : ∀ q ∈ zp_118, decode cX10_isBench q.1 = .ok q.2 := by decide +kernel
/-- BenchMemoriesModel.isOne(I)Z -/
def zp_119 : List (Nat × Instr × Nat) := [(0, .iload_n 0, 1), (1, .i2l, 1), (2, .lconst 0, 1), (3, .ldc2_w 83, 3), (6, .invokestatic 79, 3), (9, .ireturn, 1)]
theorem zd_119 : ∀ q ∈ zp_119, decode cX10_isOne q.1 = .ok q.2 := by decide +kernel
/-- BenchMemoriesModel.isMemory(I)Z -/
def zp_120 : List (Nat × Instr × Nat) := [(0, .iload_n 0, 1), (1, .i2l, 1), (2, .lconst 0, 1), (3, .ldc2_w 85, 3), (6, .invokestatic 79, 3), (9, .ireturn, 1)]
theorem zd_120 : ∀ q ∈ zp_120, decode cX10_isMemory q.1 = .ok q.2 := by decide +kernel
/-- BenchMemoriesModel.isIn(II)Z -/
def zp_121 : List (Nat × Instr × Nat) := [(0, .iload_n 0, 1), (1, .iload_n 1, 1), (2, .ishr, 1), (3, .iconst 1, 1), (4, .iand, 1), (5, .iconst 1, 1), (6, .if_icmp .ne 7, 3), (9, .iconst 1, 1), (10, .goto 4, 3), (13, .iconst 0, 1), (14, .ireturn, 1)]
theorem zd_121 : ∀ q ∈ zp_121, decode cX10_isIn q.1 = .ok q.2 := by decide +kernel
/-- BenchMemoriesModel.with(IIZ)I -/
def zp_122 : List (Nat × Instr × Nat) := [(0, .iload_n 2, 1), (1, .ifCond .eq 11, 3), (4, .iload_n 0, 1), (5, .iconst 1, 1), (6, .iload_n 1, 1), (7, .ishl, 1), (8, .ior, 1), (9, .goto 10, 3), (12, .iload_n 0, 1), (13, .iconst 1, 1), (14, .iload_n 1, 1), (15, .ishl, 1), (16, .iconst (-1), 1), (17, .ixor, 1), (18, .iand, 1), (19, .ireturn, 1)]
theorem zd_122 : ∀ q ∈ zp_122, decode cX10_with q.1 = .ok q.2 := by decide +kernel
/-- BenchMemoriesModel.ones(I)I -/
def zp_123 : List (Nat × Instr × Nat) := [(0, .iconst 0, 1), (1, .istore_n 1, 1), (2, .iload_n 0, 1), (3, .istore_n 2, 1), (4, .iload_n 2, 1), (5, .ifCond .eq 15, 3), (8, .iinc 1 1, 3), (11, .iload_n 2, 1), (12, .iload_n 2, 1), (13, .iconst 1, 1), (14, .isub, 1), (15, .iand, 1), (16, .istore_n 2, 1), (17, .goto (-13), 3), (20, .iload_n 1, 1), (21, .ireturn, 1)]
theorem zd_123 : ∀ q ∈ zp_123, decode cX10_ones q.1 = .ok q.2 := by decide +kernel
/-- BenchMemoriesModel.way(IIZ)I -/
def zp_124 : List (Nat × Instr × Nat) := [(0, .iload_n 1, 1), (1, .invokestatic 87, 3), (4, .ifCond .eq 15, 3), (7, .iload_n 2, 1), (8, .invokestatic 87, 3), (11, .ifCond .eq 8, 3), (14, .iload_n 1, 1), (15, .iload_n 2, 1), (16, .if_icmp .ne 5, 3), (19, .iconst (-1), 1), (20, .ireturn, 1), (21, .aload_n 0, 1), (22, .getfield 7, 3), (25, .iload_n 1, 1), (26, .aload_n 0, 1), (27, .getfield 7, 3), (30, .iload_n 1, 1), (31, .iaload, 1), (32, .iload_n 2, 1), (33, .iload_n 3, 1), (34, .invokestatic 91, 3), (37, .iastore, 1), (38, .aload_n 0, 1), (39, .getfield 7, 3), (42, .iload_n 2, 1), (43, .aload_n 0, 1), (44, .getfield 7, 3), (47, .iload_n 2, 1), (48, .iaload, 1), (49, .iload_n 1, 1), (50, .iload_n 3, 1), (51, .invokestatic 91, 3), (54, .iastore, 1), (55, .iconst 0, 1), (56, .istore 4, 2), (58, .iconst 0, 1), (59, .istore 5, 2), (61, .iload 5, 2), (63, .bipush 10, 2), (65, .if_icmp .ge 24, 3), (68, .iload 4, 2), (70, .aload_n 0, 1), (71, .getfield 7, 3), (74, .iload 5, 2), (76, .iaload, 1), (77, .invokestatic 95, 3), (80, .iadd, 1), (81, .istore 4, 2), (83, .iinc 5 1, 3), (86, .goto (-25), 3), (89, .iload 4, 2), (91, .iconst 2, 1), (92, .idiv, 1), (93, .ireturn, 1)]
theorem zd_124 : ∀ q ∈ zp_124, decode cX10_way q.1 = .ok q.2 := by decide +kernel
/-- BenchMemoriesModel.stand(II)I -/
def zp_125 : List (Nat × Instr × Nat) := [(0, .iload_n 1, 1), (1, .invokestatic 99, 3), (4, .ifCond .eq 10, 3), (7, .iload_n 2, 1), (8, .invokestatic 87, 3), (11, .ifCond .ne 5, 3), (14, .iconst (-1), 1), (15, .ireturn, 1), (16, .aload_n 0, 1), (17, .getfield 13, 3), (20, .iload_n 1, 1), (21, .iaload, 1), (22, .istore_n 3, 1), (23, .aload_n 0, 1), (24, .getfield 13, 3), (27, .iload_n 1, 1), (28, .iload_n 2, 1), (29, .iastore, 1), (30, .iload_n 3, 1), (31, .ireturn, 1)]
theorem zd_125 : ∀ q ∈ zp_125, decode cX10_stand q.1 = .ok q.2 := by decide +kernel
/-- BenchMemoriesModel.whereIs(I)I -/
def zp_126 : List (Nat × Instr × Nat) := [(0, .bipush (-6), 2), (2, .istore_n 2, 1), (3, .iconst 0, 1), (4, .istore_n 3, 1), (5, .iload_n 3, 1), (6, .bipush 8, 2), (8, .if_icmp .ge 25, 3), (11, .aload_n 0, 1), (12, .getfield 16, 3), (15, .iload_n 3, 1), (16, .iaload, 1), (17, .iload_n 1, 1), (18, .if_icmp .ne 7, 3), (21, .iload_n 3, 1), (22, .goto 4, 3), (25, .iload_n 2, 1), (26, .istore_n 2, 1), (27, .iinc 3 1, 3), (30, .goto (-25), 3), (33, .iconst 0, 1), (34, .istore_n 3, 1), (35, .iload_n 3, 1), (36, .bipush 10, 2), (38, .if_icmp .ge 28, 3), (41, .aload_n 0, 1), (42, .getfield 19, 3), (45, .iload_n 3, 1), (46, .iaload, 1), (47, .iload_n 1, 1), (48, .if_icmp .ne 10, 3), (51, .bipush 10, 2), (53, .iload_n 3, 1), (54, .iadd, 1), (55, .goto 4, 3), (58, .iload_n 2, 1), (59, .istore_n 2, 1), (60, .iinc 3 1, 3), (63, .goto (-28), 3), (66, .iload_n 2, 1), (67, .ireturn, 1)]
theorem zd_126 : ∀ q ∈ zp_126, decode cX10_whereIs q.1 = .ok q.2 := by decide +kernel
/-- BenchMemoriesModel.lose(I)I -/
def zp_127 : List (Nat × Instr × Nat) := [(0, .aload_n 0, 1), (1, .iload_n 1, 1), (2, .invokevirtual 102, 3), (5, .istore_n 2, 1), (6, .iload_n 2, 1), (7, .bipush 10, 2), (9, .if_icmp .lt 28, 3), (12, .aload_n 0, 1), (13, .getfield 19, 3), (16, .iload_n 2, 1), (17, .bipush 10, 2), (19, .isub, 1), (20, .bipush (-6), 2), (22, .iastore, 1), (23, .aload_n 0, 1), (24, .getfield 22, 3), (27, .iload_n 2, 1), (28, .bipush 10, 2), (30, .isub, 1), (31, .bipush (-6), 2), (33, .iastore, 1), (34, .goto 15, 3), (37, .iload_n 2, 1), (38, .ifCond .lt 11, 3), (41, .aload_n 0, 1), (42, .getfield 16, 3), (45, .iload_n 2, 1), (46, .bipush (-6), 2), (48, .iastore, 1), (49, .iload_n 2, 1), (50, .ireturn, 1)]
theorem zd_127 : ∀ q ∈ zp_127, decode cX10_lose q.1 = .ok q.2 := by decide +kernel
/-- BenchMemoriesModel.give(II)I -/
def zp_128 : List (Nat × Instr × Nat) := [(0, .iload_n 1, 1), (1, .invokestatic 105, 3), (4, .ifCond .eq 10, 3), (7, .iload_n 2, 1), (8, .invokestatic 99, 3), (11, .ifCond .ne 5, 3), (14, .iconst (-1), 1), (15, .ireturn, 1), (16, .aload_n 0, 1), (17, .iload_n 1, 1), (18, .invokevirtual 108, 3), (21, .istore_n 3, 1), (22, .aload_n 0, 1), (23, .getfield 16, 3), (26, .iload_n 2, 1), (27, .iload_n 1, 1), (28, .iastore, 1), (29, .iload_n 3, 1), (30, .ireturn, 1)]
theorem zd_128 : ∀ q ∈ zp_128, decode cX10_give q.1 = .ok q.2 := by decide +kernel
/-- BenchMemoriesModel.lay(III)I -/
def zp_129 : List (Nat × Instr × Nat) := [(0, .iload_n 1, 1), (1, .invokestatic 105, 3), (4, .ifCond .eq 10, 3), (7, .iload_n 2, 1), (8, .invokestatic 87, 3), (11, .ifCond .ne 5, 3), (14, .iconst (-1), 1), (15, .ireturn, 1), (16, .iload_n 3, 1), (17, .i2l, 1), (18, .lconst 1, 1), (19, .ldc2_w 77, 3), (22, .invokestatic 79, 3), (25, .ifCond .ne 6, 3), (28, .bipush (-2), 2), (30, .ireturn, 1), (31, .aload_n 0, 1), (32, .iload_n 1, 1), (33, .invokevirtual 108, 3), (36, .istore 4, 2), (38, .aload_n 0, 1), (39, .getfield 19, 3), (42, .iload_n 2, 1), (43, .iload_n 1, 1), (44, .iastore, 1), (45, .aload_n 0, 1), (46, .getfield 22, 3), (49, .iload_n 2, 1), (50, .iload_n 3, 1), (51, .iastore, 1), (52, .iload 4, 2), (54, .ireturn, 1)]
theorem zd_129 : ∀ q ∈ zp_129, decode cX10_lay q.1 = .ok q.2 := by decide +kernel
/-- BenchMemoriesModel.forget(I)I -/
def zp_130 : List (Nat × Instr × Nat) := [(0, .iload_n 1, 1), (1, .invokestatic 105, 3), (4, .ifCond .eq 11, 3), (7, .aload_n 0, 1), (8, .iload_n 1, 1), (9, .invokevirtual 108, 3), (12, .goto 4, 3), (15, .iconst (-1), 1), (16, .ireturn, 1)]
theorem zd_130 : ∀ q ∈ zp_130, decode cX10_forget q.1 = .ok q.2 := by decide +kernel
/-- BenchMemoriesModel.say(I)I -/
def zp_131 : List (Nat × Instr × Nat) := [(0, .iload_n 1, 1), (1, .i2l, 1), (2, .ldc2_w 111, 3), (5, .ldc2_w 113, 3), (8, .invokestatic 79, 3), (11, .ifCond .ne 6, 3), (14, .bipush (-2), 2), (16, .ireturn, 1), (17, .aload_n 0, 1), (18, .getfield 115, 3), (21, .bipush 60, 2), (23, .if_icmp .ne 6, 3), (26, .bipush (-4), 2), (28, .ireturn, 1), (29, .aload_n 0, 1), (30, .getfield 34, 3), (33, .aload_n 0, 1), (34, .getfield 115, 3), (37, .iload_n 1, 1), (38, .iastore, 1), (39, .aload_n 0, 1), (40, .dup, 1), (41, .getfield 115, 3), (44, .iconst 1, 1), (45, .iadd, 1), (46, .putfield 115, 3), (49, .aload_n 0, 1), (50, .getfield 115, 3), (53, .ireturn, 1)]
theorem zd_131 : ∀ q ∈ zp_131, decode cX10_say q.1 = .ok q.2 := by decide +kernel
/-- BenchMemoriesModel.wipe()I -/
def zp_132 : List (Nat × Instr × Nat) := [(0, .aload_n 0, 1), (1, .getfield 115, 3), (4, .istore_n 1, 1), (5, .aload_n 0, 1), (6, .iconst 0, 1), (7, .putfield 115, 3), (10, .iload_n 1, 1), (11, .ireturn, 1)]
theorem zd_132 : ∀ q ∈ zp_132, decode cX10_wipe q.1 = .ok q.2 := by decide +kernel
/-- BenchMemoriesModel.close(II)I -/
def zp_133 : List (Nat × Instr × Nat) := [(0, .aload_n 0, 1), (1, .getfield 37, 3), (4, .aload_n 0, 1), (5, .getfield 119, 3), (8, .iload_n 1, 1), (9, .iastore, 1), (10, .aload_n 0, 1), (11, .getfield 43, 3), (14, .aload_n 0, 1), (15, .getfield 119, 3), (18, .iload_n 2, 1), (19, .iastore, 1), (20, .aload_n 0, 1), (21, .dup, 1), (22, .getfield 119, 3), (25, .iconst 1, 1), (26, .iadd, 1), (27, .putfield 119, 3), (30, .iconst 0, 1), (31, .ireturn, 1)]
theorem zd_133 : ∀ q ∈ zp_133, decode cX10_close q.1 = .ok q.2 := by decide +kernel
/-- BenchMemoriesModel.isName(I)Z -/
def zp_134 : List (Nat × Instr × Nat) := [(0, .iload_n 0, 1), (1, .i2l, 1), (2, .ldc2_w 122, 3), (5, .ldc2_w 124, 3), (8, .invokestatic 79, 3), (11, .ireturn, 1)]
theorem zd_134 : ∀ q ∈ zp_134, decode cX10_isName q.1 = .ok q.2 := by decide +kernel
/-- BenchMemoriesModel.begin(I)I -/
def zp_135 : List (Nat × Instr × Nat) := [(0, .aload_n 0, 1), (1, .getfield 40, 3), (4, .aload_n 0, 1), (5, .getfield 119, 3), (8, .iload_n 1, 1), (9, .invokestatic 126, 3), (12, .ifCond .eq 10, 3), (15, .iload_n 1, 1), (16, .bipush 65, 2), (18, .isub, 1), (19, .goto 4, 3), (22, .iconst 0, 1), (23, .iastore, 1), (24, .iload_n 1, 1), (25, .invokestatic 126, 3), (28, .ifCond .eq 7, 3), (31, .iconst 1, 1), (32, .goto 30, 3), (35, .iload_n 1, 1), (36, .bipush 35, 2), (38, .if_icmp .ne 7, 3), (41, .iconst 3, 1), (42, .goto 20, 3), (45, .iload_n 1, 1), (46, .bipush 46, 2), (48, .if_icmp .ne 12, 3), (51, .aload_n 0, 1), (52, .iconst 5, 1), (53, .iconst 0, 1), (54, .invokevirtual 129, 3), (57, .goto 5, 3), (60, .bipush (-6), 2), (62, .ireturn, 1)]
theorem zd_135 : ∀ q ∈ zp_135, decode cX10_begin q.1 = .ok q.2 := by decide +kernel
/-- BenchMemoriesModel.deed(I)I -/
def zp_136 : List (Nat × Instr × Nat) := [(0, .iload_n 1, 1), (1, .lookupswitch 51 #[(33, 42), (95, 35), (120, 49)], 35), (36, .aload_n 0, 1), (37, .iconst 1, 1), (38, .iconst 0, 1), (39, .invokevirtual 129, 3), (42, .ireturn, 1), (43, .aload_n 0, 1), (44, .iconst 3, 1), (45, .iconst 0, 1), (46, .invokevirtual 129, 3), (49, .ireturn, 1), (50, .iconst 2, 1), (51, .ireturn, 1), (52, .iload_n 1, 1), (53, .i2l, 1), (54, .ldc2_w 133, 3), (57, .ldc2_w 135, 3), (60, .invokestatic 79, 3), (63, .ifCond .eq 15, 3), (66, .aload_n 0, 1), (67, .iconst 0, 1), (68, .iload_n 1, 1), (69, .bipush 48, 2), (71, .isub, 1), (72, .invokevirtual 129, 3), (75, .goto 5, 3), (78, .bipush (-6), 2), (80, .ireturn, 1)]
theorem zd_136 : ∀ q ∈ zp_136, decode cX10_deed q.1 = .ok q.2 := by decide +kernel
/-- BenchMemoriesModel.readOn(II)I -/
def zp_137 : List (Nat × Instr × Nat) := [(0, .iload_n 1, 1), (1, .tableswitch 61 0 2 #[27, 33, 39], 27), (28, .aload_n 0, 1), (29, .iload_n 2, 1), (30, .invokevirtual 137, 3), (33, .ireturn, 1), (34, .aload_n 0, 1), (35, .iload_n 2, 1), (36, .invokevirtual 140, 3), (39, .ireturn, 1), (40, .iload_n 2, 1), (41, .invokestatic 126, 3), (44, .ifCond .eq 15, 3), (47, .aload_n 0, 1), (48, .iconst 2, 1), (49, .iload_n 2, 1), (50, .bipush 65, 2), (52, .isub, 1), (53, .invokevirtual 129, 3), (56, .goto 5, 3), (59, .bipush (-6), 2), (61, .ireturn, 1), (62, .iload_n 2, 1), (63, .i2l, 1), (64, .ldc2_w 133, 3), (67, .ldc2_w 135, 3), (70, .invokestatic 79, 3), (73, .ifCond .eq 15, 3), (76, .aload_n 0, 1), (77, .iconst 4, 1), (78, .iload_n 2, 1), (79, .bipush 48, 2), (81, .isub, 1), (82, .invokevirtual 129, 3), (85, .goto 5, 3), (88, .bipush (-6), 2), (90, .ireturn, 1)]
theorem zd_137 : ∀ q ∈ zp_137, decode cX10_readOn q.1 = .ok q.2 := by decide +kernel
end
section
set_option maxRecDepth 100000
/-- BenchMemoriesModel.fault()I -/
def zp_138 : List (Nat × Instr × Nat) := [(0, .aload_n 0, 1), (1, .iconst 0, 1), (2, .putfield 119, 3), (5, .iconst 0, 1), (6, .istore_n 1, 1), (7, .iconst 0, 1), (8, .istore_n 2, 1), (9, .iload_n 2, 1), (10, .aload_n 0, 1), (11, .getfield 115, 3), (14, .if_icmp .ge 27, 3), (17, .aload_n 0, 1), (18, .iload_n 1, 1), (19, .aload_n 0, 1), (20, .getfield 34, 3), (23, .iload_n 2, 1), (24, .iaload, 1), (25, .invokevirtual 143, 3), (28, .istore_n 1, 1), (29, .iload_n 1, 1), (30, .ifCond .ge 5, 3), (33, .iload_n 2, 1), (34, .ireturn, 1), (35, .iinc 2 1, 3), (38, .goto (-29), 3), (41, .iload_n 1, 1), (42, .ifCond .ne 8, 3), (45, .bipush (-6), 2), (47, .goto 7, 3), (50, .aload_n 0, 1), (51, .getfield 115, 3), (54, .ireturn, 1)]
theorem zd_138 : ∀ q ∈ zp_138, decode cX10_fault q.1 = .ok q.2 := by decide +kernel
/-- BenchMemoriesModel.whyNoSeat(I)I -/
def zp_139 : List (Nat × Instr × Nat) := [(0, .aload_n 0, 1), (1, .getfield 13, 3), (4, .iload_n 1, 1), (5, .iaload, 1), (6, .istore_n 2, 1), (7, .aload_n 0, 1), (8, .getfield 146, 3), (11, .iload_n 2, 1), (12, .invokestatic 149, 3), (15, .ifCond .eq 7, 3), (18, .iconst 2, 1), (19, .goto 26, 3), (22, .aload_n 0, 1), (23, .getfield 16, 3), (26, .iload_n 1, 1), (27, .iaload, 1), (28, .ifCond .ge 16, 3), (31, .aload_n 0, 1), (32, .getfield 19, 3), (35, .iload_n 2, 1), (36, .iaload, 1), (37, .ifCond .ge 7, 3), (40, .iconst 3, 1), (41, .goto 4, 3), (44, .iconst 0, 1), (45, .ireturn, 1)]
theorem zd_139 : ∀ q ∈ zp_139, decode cX10_whyNoSeat q.1 = .ok q.2 := by decide +kernel
/-- BenchMemoriesModel.whyNoChange(II)I -/
def zp_140 : List (Nat × Instr × Nat) := [(0, .aload_n 0, 1), (1, .getfield 16, 3), (4, .iload_n 1, 1), (5, .iaload, 1), (6, .ifCond .ge 16, 3), (9, .aload_n 0, 1), (10, .getfield 16, 3), (13, .iload_n 2, 1), (14, .iaload, 1), (15, .ifCond .ge 7, 3), (18, .iconst 3, 1), (19, .goto 28, 3), (22, .iload_n 1, 1), (23, .iload_n 2, 1), (24, .if_icmp .eq 18, 3), (27, .aload_n 0, 1), (28, .getfield 13, 3), (31, .iload_n 1, 1), (32, .iaload, 1), (33, .aload_n 0, 1), (34, .getfield 13, 3), (37, .iload_n 2, 1), (38, .iaload, 1), (39, .if_icmp .eq 7, 3), (42, .iconst 4, 1), (43, .goto 4, 3), (46, .iconst 0, 1), (47, .ireturn, 1)]
theorem zd_140 : ∀ q ∈ zp_140, decode cX10_whyNoChange q.1 = .ok q.2 := by decide +kernel
/-- BenchMemoriesModel.whyNot(III)I -/
def zp_141 : List (Nat × Instr × Nat) := [(0, .iload_n 1, 1), (1, .tableswitch 106 0 5 #[39, 63, 69, 76, 106, 91], 39), (40, .aload_n 0, 1), (41, .getfield 7, 3), (44, .aload_n 0, 1), (45, .getfield 13, 3), (48, .iload_n 2, 1), (49, .iaload, 1), (50, .iaload, 1), (51, .iload_n 3, 1), (52, .invokestatic 149, 3), (55, .ifCond .eq 7, 3), (58, .iconst 0, 1), (59, .goto 4, 3), (62, .iconst 1, 1), (63, .ireturn, 1), (64, .aload_n 0, 1), (65, .iload_n 2, 1), (66, .invokevirtual 153, 3), (69, .ireturn, 1), (70, .aload_n 0, 1), (71, .iload_n 2, 1), (72, .iload_n 3, 1), (73, .invokevirtual 156, 3), (76, .ireturn, 1), (77, .aload_n 0, 1), (78, .getfield 16, 3), (81, .iload_n 2, 1), (82, .iaload, 1), (83, .ifCond .ge 7, 3), (86, .iconst 3, 1), (87, .goto 4, 3), (90, .iconst 0, 1), (91, .ireturn, 1), (92, .aload_n 0, 1), (93, .getfield 159, 3), (96, .bipush 99, 2), (98, .if_icmp .ne 7, 3), (101, .iconst 5, 1), (102, .goto 4, 3), (105, .iconst 0, 1), (106, .ireturn, 1), (107, .iconst 0, 1), (108, .ireturn, 1)]
theorem zd_141 : ∀ q ∈ zp_141, decode cX10_whyNot q.1 = .ok q.2 := by decide +kernel
/-- BenchMemoriesModel.comeTo(II)V -/
def zp_142 : List (Nat × Instr × Nat) := [(0, .aload_n 0, 1), (1, .getfield 16, 3), (4, .iload_n 1, 1), (5, .iload_n 2, 1), (6, .iastore, 1), (7, .iload_n 2, 1), (8, .ifCond .lt 13, 3), (11, .aload_n 0, 1), (12, .getfield 46, 3), (15, .iload_n 2, 1), (16, .dup2, 1), (17, .iaload, 1), (18, .iconst 1, 1), (19, .iadd, 1), (20, .iastore, 1), (21, .return_, 1)]
theorem zd_142 : ∀ q ∈ zp_142, decode cX10_comeTo q.1 = .ok q.2 := by decide +kernel
/-- BenchMemoriesModel.sit(I)V -/
def zp_143 : List (Nat × Instr × Nat) := [(0, .aload_n 0, 1), (1, .getfield 13, 3), (4, .iload_n 1, 1), (5, .iaload, 1), (6, .istore_n 2, 1), (7, .aload_n 0, 1), (8, .getfield 16, 3), (11, .iload_n 1, 1), (12, .iaload, 1), (13, .istore_n 3, 1), (14, .aload_n 0, 1), (15, .iload_n 1, 1), (16, .aload_n 0, 1), (17, .getfield 19, 3), (20, .iload_n 2, 1), (21, .iaload, 1), (22, .invokevirtual 162, 3), (25, .aload_n 0, 1), (26, .getfield 19, 3), (29, .iload_n 2, 1), (30, .iload_n 3, 1), (31, .iastore, 1), (32, .aload_n 0, 1), (33, .getfield 22, 3), (36, .iload_n 2, 1), (37, .iload_n 3, 1), (38, .ifCond .ge 8, 3), (41, .bipush (-6), 2), (43, .goto 5, 3), (46, .bipush 9, 2), (48, .iastore, 1), (49, .return_, 1)]
theorem zd_143 : ∀ q ∈ zp_143, decode cX10_sit q.1 = .ok q.2 := by decide +kernel
/-- BenchMemoriesModel.change(II)V -/
def zp_144 : List (Nat × Instr × Nat) := [(0, .aload_n 0, 1), (1, .getfield 16, 3), (4, .iload_n 1, 1), (5, .iaload, 1), (6, .istore_n 3, 1), (7, .aload_n 0, 1), (8, .iload_n 1, 1), (9, .aload_n 0, 1), (10, .getfield 16, 3), (13, .iload_n 2, 1), (14, .iaload, 1), (15, .invokevirtual 162, 3), (18, .aload_n 0, 1), (19, .iload_n 2, 1), (20, .iload_n 3, 1), (21, .invokevirtual 162, 3), (24, .return_, 1)]
theorem zd_144 : ∀ q ∈ zp_144, decode cX10_change q.1 = .ok q.2 := by decide +kernel
/-- BenchMemoriesModel.evening()V -/
def zp_145 : List (Nat × Instr × Nat) := [(0, .iconst 0, 1), (1, .istore_n 1, 1), (2, .iload_n 1, 1), (3, .bipush 10, 2), (5, .if_icmp .ge 53, 3), (8, .aload_n 0, 1), (9, .getfield 19, 3), (12, .iload_n 1, 1), (13, .iaload, 1), (14, .ifCond .lt 13, 3), (17, .aload_n 0, 1), (18, .getfield 22, 3), (21, .iload_n 1, 1), (22, .dup2, 1), (23, .iaload, 1), (24, .iconst 1, 1), (25, .isub, 1), (26, .iastore, 1), (27, .aload_n 0, 1), (28, .getfield 22, 3), (31, .iload_n 1, 1), (32, .iaload, 1), (33, .ifCond .ne 19, 3), (36, .aload_n 0, 1), (37, .getfield 19, 3), (40, .iload_n 1, 1), (41, .bipush (-6), 2), (43, .iastore, 1), (44, .aload_n 0, 1), (45, .getfield 22, 3), (48, .iload_n 1, 1), (49, .bipush (-6), 2), (51, .iastore, 1), (52, .iinc 1 1, 3), (55, .goto (-53), 3), (58, .aload_n 0, 1), (59, .dup, 1), (60, .getfield 159, 3), (63, .iconst 1, 1), (64, .iadd, 1), (65, .putfield 159, 3), (68, .return_, 1)]
theorem zd_145 : ∀ q ∈ zp_145, decode cX10_evening q.1 = .ok q.2 := by decide +kernel
/-- BenchMemoriesModel.happen(III)V -/
def zp_146 : List (Nat × Instr × Nat) := [(0, .iload_n 1, 1), (1, .tableswitch 88 0 4 #[35, 45, 53, 62, 73], 35), (36, .aload_n 0, 1), (37, .getfield 13, 3), (40, .iload_n 2, 1), (41, .iload_n 3, 1), (42, .iastore, 1), (43, .goto 50, 3), (46, .aload_n 0, 1), (47, .iload_n 2, 1), (48, .invokevirtual 166, 3), (51, .goto 42, 3), (54, .aload_n 0, 1), (55, .iload_n 2, 1), (56, .iload_n 3, 1), (57, .invokevirtual 170, 3), (60, .goto 33, 3), (63, .aload_n 0, 1), (64, .getfield 16, 3), (67, .iload_n 2, 1), (68, .bipush (-6), 2), (70, .iastore, 1), (71, .goto 22, 3), (74, .aload_n 0, 1), (75, .dup, 1), (76, .getfield 146, 3), (79, .iconst 1, 1), (80, .iload_n 3, 1), (81, .ishl, 1), (82, .ixor, 1), (83, .putfield 146, 3), (86, .goto 7, 3), (89, .aload_n 0, 1), (90, .invokevirtual 173, 3), (93, .return_, 1)]
theorem zd_146 : ∀ q ∈ zp_146, decode cX10_happen q.1 = .ok q.2 := by decide +kernel
/-- BenchMemoriesModel.keepNow()V -/
def zp_147 : List (Nat × Instr × Nat) := [(0, .iconst 0, 1), (1, .istore_n 1, 1), (2, .iload_n 1, 1), (3, .bipush 8, 2), (5, .if_icmp .ge 36, 3), (8, .aload_n 0, 1), (9, .getfield 49, 3), (12, .iload_n 1, 1), (13, .aload_n 0, 1), (14, .getfield 13, 3), (17, .iload_n 1, 1), (18, .iaload, 1), (19, .iastore, 1), (20, .aload_n 0, 1), (21, .getfield 49, 3), (24, .bipush 8, 2), (26, .iload_n 1, 1), (27, .iadd, 1), (28, .aload_n 0, 1), (29, .getfield 16, 3), (32, .iload_n 1, 1), (33, .iaload, 1), (34, .iastore, 1), (35, .iinc 1 1, 3), (38, .goto (-36), 3), (41, .iconst 0, 1), (42, .istore_n 1, 1), (43, .iload_n 1, 1), (44, .bipush 10, 2), (46, .if_icmp .ge 39, 3), (49, .aload_n 0, 1), (50, .getfield 49, 3), (53, .bipush 16, 2), (55, .iload_n 1, 1), (56, .iadd, 1), (57, .aload_n 0, 1), (58, .getfield 19, 3), (61, .iload_n 1, 1), (62, .iaload, 1), (63, .iastore, 1), (64, .aload_n 0, 1), (65, .getfield 49, 3), (68, .bipush 26, 2), (70, .iload_n 1, 1), (71, .iadd, 1), (72, .aload_n 0, 1), (73, .getfield 22, 3), (76, .iload_n 1, 1), (77, .iaload, 1), (78, .iastore, 1), (79, .iinc 1 1, 3), (82, .goto (-39), 3), (85, .aload_n 0, 1), (86, .getfield 49, 3), (89, .bipush 36, 2), (91, .aload_n 0, 1), (92, .getfield 146, 3), (95, .iastore, 1), (96, .aload_n 0, 1), (97, .getfield 49, 3), (100, .bipush 37, 2), (102, .aload_n 0, 1), (103, .getfield 159, 3), (106, .iastore, 1), (107, .return_, 1)]
theorem zd_147 : ∀ q ∈ zp_147, decode cX10_keepNow q.1 = .ok q.2 := by decide +kernel
/-- BenchMemoriesModel.back(I)I -/
def zp_148 : List (Nat × Instr × Nat) := [(0, .iconst 0, 1), (1, .istore_n 2, 1), (2, .iload_n 2, 1), (3, .bipush 8, 2), (5, .if_icmp .ge 36, 3), (8, .aload_n 0, 1), (9, .getfield 13, 3), (12, .iload_n 2, 1), (13, .aload_n 0, 1), (14, .getfield 49, 3), (17, .iload_n 2, 1), (18, .iaload, 1), (19, .iastore, 1), (20, .aload_n 0, 1), (21, .getfield 16, 3), (24, .iload_n 2, 1), (25, .aload_n 0, 1), (26, .getfield 49, 3), (29, .bipush 8, 2), (31, .iload_n 2, 1), (32, .iadd, 1), (33, .iaload, 1), (34, .iastore, 1), (35, .iinc 2 1, 3), (38, .goto (-36), 3), (41, .iconst 0, 1), (42, .istore_n 2, 1), (43, .iload_n 2, 1), (44, .bipush 10, 2), (46, .if_icmp .ge 39, 3), (49, .aload_n 0, 1), (50, .getfield 19, 3), (53, .iload_n 2, 1), (54, .aload_n 0, 1), (55, .getfield 49, 3), (58, .bipush 16, 2), (60, .iload_n 2, 1), (61, .iadd, 1), (62, .iaload, 1), (63, .iastore, 1), (64, .aload_n 0, 1), (65, .getfield 22, 3), (68, .iload_n 2, 1), (69, .aload_n 0, 1), (70, .getfield 49, 3), (73, .bipush 26, 2), (75, .iload_n 2, 1), (76, .iadd, 1), (77, .iaload, 1), (78, .iastore, 1), (79, .iinc 2 1, 3), (82, .goto (-39), 3), (85, .aload_n 0, 1), (86, .aload_n 0, 1), (87, .getfield 49, 3), (90, .bipush 36, 2), (92, .iaload, 1), (93, .putfield 146, 3), (96, .aload_n 0, 1), (97, .aload_n 0, 1), (98, .getfield 49, 3), (101, .bipush 37, 2), (103, .iaload, 1), (104, .putfield 159, 3), (107, .iload_n 1, 1), (108, .ireturn, 1)]
theorem zd_148 : ∀ q ∈ zp_148, decode cX10_back q.1 = .ok q.2 := by decide +kernel
/-- BenchMemoriesModel.goDays()V -/
def zp_149 : List (Nat × Instr × Nat) := [(0, .aload_n 0, 1), (1, .bipush (-6), 2), (3, .putfield 176, 3), (6, .aload_n 0, 1), (7, .bipush (-6), 2), (9, .putfield 179, 3), (12, .aload_n 0, 1), (13, .iconst 0, 1), (14, .putfield 182, 3), (17, .iconst 0, 1), (18, .istore_n 1, 1), (19, .iload_n 1, 1), (20, .bipush 12, 2), (22, .if_icmp .ge 16, 3), (25, .aload_n 0, 1), (26, .getfield 46, 3), (29, .iload_n 1, 1), (30, .iconst 0, 1), (31, .iastore, 1), (32, .iinc 1 1, 3), (35, .goto (-16), 3), (38, .iconst 0, 1), (39, .istore_n 1, 1), (40, .iload_n 1, 1), (41, .aload_n 0, 1), (42, .getfield 119, 3), (45, .if_icmp .ge 117, 3), (48, .aload_n 0, 1), (49, .getfield 176, 3), (52, .ifCond .ge 110, 3), (55, .aload_n 0, 1), (56, .aload_n 0, 1), (57, .getfield 37, 3), (60, .iload_n 1, 1), (61, .iaload, 1), (62, .aload_n 0, 1), (63, .getfield 40, 3), (66, .iload_n 1, 1), (67, .iaload, 1), (68, .aload_n 0, 1), (69, .getfield 43, 3), (72, .iload_n 1, 1), (73, .iaload, 1), (74, .invokevirtual 185, 3), (77, .istore_n 2, 1), (78, .aload_n 0, 1), (79, .iload_n 2, 1), (80, .ifCond .le 7, 3), (83, .iload_n 1, 1), (84, .goto 5, 3), (87, .bipush (-6), 2), (89, .putfield 176, 3), (92, .aload_n 0, 1), (93, .iload_n 2, 1), (94, .ifCond .le 7, 3), (97, .iload_n 2, 1), (98, .goto 5, 3), (101, .bipush (-6), 2), (103, .putfield 179, 3), (106, .iload_n 2, 1), (107, .ifCond .ne 49, 3), (110, .aload_n 0, 1), (111, .aload_n 0, 1), (112, .getfield 37, 3), (115, .iload_n 1, 1), (116, .iaload, 1), (117, .aload_n 0, 1), (118, .getfield 40, 3), (121, .iload_n 1, 1), (122, .iaload, 1), (123, .aload_n 0, 1), (124, .getfield 43, 3), (127, .iload_n 1, 1), (128, .iaload, 1), (129, .invokevirtual 189, 3), (132, .aload_n 0, 1), (133, .dup, 1), (134, .getfield 182, 3), (137, .aload_n 0, 1), (138, .getfield 37, 3), (141, .iload_n 1, 1), (142, .iaload, 1), (143, .iconst 1, 1), (144, .if_icmp .ne 7, 3), (147, .iconst 1, 1), (148, .goto 4, 3), (151, .iconst 0, 1), (152, .iadd, 1), (153, .putfield 182, 3), (156, .iinc 1 1, 3), (159, .goto (-119), 3), (162, .return_, 1)]
theorem zd_149 : ∀ q ∈ zp_149, decode cX10_goDays q.1 = .ok q.2 := by decide +kernel
/-- BenchMemoriesModel.refusal()I -/
def zp_150 : List (Nat × Instr × Nat) := [(0, .aload_n 0, 1), (1, .invokevirtual 193, 3), (4, .aload_n 0, 1), (5, .invokevirtual 196, 3), (8, .ifCond .lt 6, 3), (11, .bipush (-5), 2), (13, .ireturn, 1), (14, .aload_n 0, 1), (15, .invokevirtual 200, 3), (18, .aload_n 0, 1), (19, .getfield 176, 3), (22, .ifCond .lt 8, 3), (25, .bipush (-3), 2), (27, .goto 5, 3), (30, .bipush (-6), 2), (32, .ireturn, 1)]
theorem zd_150 : ∀ q ∈ zp_150, decode cX10_refusal q.1 = .ok q.2 := by decide +kernel
/-- BenchMemoriesModel.judge(I)I -/
def zp_151 : List (Nat × Instr × Nat) := [(0, .iload_n 1, 1), (1, .i2l, 1), (2, .lconst 0, 1), (3, .ldc2_w 203, 3), (6, .invokestatic 79, 3), (9, .ifCond .ne 6, 3), (12, .bipush (-2), 2), (14, .ireturn, 1), (15, .aload_n 0, 1), (16, .aload_n 0, 1), (17, .invokevirtual 205, 3), (20, .invokevirtual 208, 3), (23, .istore_n 2, 1), (24, .iload_n 2, 1), (25, .bipush (-5), 2), (27, .if_icmp .eq 14, 3), (30, .iload_n 1, 1), (31, .iconst 1, 1), (32, .if_icmp .le 11, 3), (35, .iload_n 2, 1), (36, .bipush (-3), 2), (38, .if_icmp .ne 5, 3), (41, .iload_n 2, 1), (42, .ireturn, 1), (43, .iload_n 1, 1), (44, .ifCond .ne 10, 3), (47, .aload_n 0, 1), (48, .getfield 176, 3), (51, .goto 19, 3), (54, .iload_n 1, 1), (55, .iconst 1, 1), (56, .if_icmp .ne 10, 3), (59, .aload_n 0, 1), (60, .getfield 179, 3), (63, .goto 7, 3), (66, .aload_n 0, 1), (67, .getfield 182, 3), (70, .ireturn, 1)]
theorem zd_151 : ∀ q ∈ zp_151, decode cX10_judge q.1 = .ok q.2 := by decide +kernel
/-- BenchMemoriesModel.behind(II)I -/
def zp_152 : List (Nat × Instr × Nat) := [(0, .iload_n 1, 1), (1, .invokestatic 99, 3), (4, .ifCond .ne 5, 3), (7, .iconst (-1), 1), (8, .ireturn, 1), (9, .iload_n 2, 1), (10, .i2l, 1), (11, .lconst 0, 1), (12, .lconst 1, 1), (13, .invokestatic 79, 3), (16, .ifCond .ne 6, 3), (19, .bipush (-2), 2), (21, .ireturn, 1), (22, .aload_n 0, 1), (23, .invokevirtual 205, 3), (26, .istore_n 3, 1), (27, .aload_n 0, 1), (28, .iload_n 3, 1), (29, .bipush (-6), 2), (31, .if_icmp .eq 7, 3), (34, .iload_n 3, 1), (35, .goto 22, 3), (38, .iload_n 2, 1), (39, .ifCond .ne 12, 3), (42, .aload_n 0, 1), (43, .getfield 13, 3), (46, .iload_n 1, 1), (47, .iaload, 1), (48, .goto 9, 3), (51, .aload_n 0, 1), (52, .getfield 16, 3), (55, .iload_n 1, 1), (56, .iaload, 1), (57, .invokevirtual 208, 3), (60, .ireturn, 1)]
theorem zd_152 : ∀ q ∈ zp_152, decode cX10_behind q.1 = .ok q.2 := by decide +kernel
/-- BenchMemoriesModel.lies(II)I -/
def zp_153 : List (Nat × Instr × Nat) := [(0, .iload_n 1, 1), (1, .invokestatic 87, 3), (4, .ifCond .ne 5, 3), (7, .iconst (-1), 1), (8, .ireturn, 1), (9, .iload_n 2, 1), (10, .i2l, 1), (11, .lconst 0, 1), (12, .lconst 1, 1), (13, .invokestatic 79, 3), (16, .ifCond .ne 6, 3), (19, .bipush (-2), 2), (21, .ireturn, 1), (22, .aload_n 0, 1), (23, .invokevirtual 205, 3), (26, .istore_n 3, 1), (27, .aload_n 0, 1), (28, .iload_n 3, 1), (29, .bipush (-6), 2), (31, .if_icmp .eq 7, 3), (34, .iload_n 3, 1), (35, .goto 22, 3), (38, .iload_n 2, 1), (39, .ifCond .ne 12, 3), (42, .aload_n 0, 1), (43, .getfield 19, 3), (46, .iload_n 1, 1), (47, .iaload, 1), (48, .goto 9, 3), (51, .aload_n 0, 1), (52, .getfield 22, 3), (55, .iload_n 1, 1), (56, .iaload, 1), (57, .invokevirtual 208, 3), (60, .ireturn, 1)]
theorem zd_153 : ∀ q ∈ zp_153, decode cX10_lies q.1 = .ok q.2 := by decide +kernel
/-- BenchMemoriesModel.hands(II)I -/
def zp_154 : List (Nat × Instr × Nat) := [(0, .iload_n 1, 1), (1, .invokestatic 105, 3), (4, .ifCond .ne 5, 3), (7, .iconst (-1), 1), (8, .ireturn, 1), (9, .iload_n 2, 1), (10, .i2l, 1), (11, .lconst 0, 1), (12, .lconst 1, 1), (13, .invokestatic 79, 3), (16, .ifCond .ne 6, 3), (19, .bipush (-2), 2), (21, .ireturn, 1), (22, .aload_n 0, 1), (23, .invokevirtual 205, 3), (26, .istore_n 3, 1), (27, .aload_n 0, 1), (28, .iload_n 1, 1), (29, .invokevirtual 102, 3), (32, .istore 4, 2), (34, .aload_n 0, 1), (35, .iload_n 3, 1), (36, .bipush (-6), 2), (38, .if_icmp .eq 7, 3), (41, .iload_n 3, 1), (42, .goto 30, 3), (45, .iload_n 2, 1), (46, .ifCond .ne 12, 3), (49, .aload_n 0, 1), (50, .getfield 46, 3), (53, .iload_n 1, 1), (54, .iaload, 1), (55, .goto 17, 3), (58, .iload 4, 2), (60, .bipush 10, 2), (62, .if_icmp .lt 8, 3), (65, .bipush (-6), 2), (67, .goto 5, 3), (70, .iload 4, 2), (72, .invokevirtual 208, 3), (75, .ireturn, 1)]
theorem zd_154 : ∀ q ∈ zp_154, decode cX10_hands q.1 = .ok q.2 := by decide +kernel
/-- BenchMemoriesModel.most()I -/
def zp_155 : List (Nat × Instr × Nat) := [(0, .aload_n 0, 1), (1, .aload_n 0, 1), (2, .invokevirtual 205, 3), (5, .invokevirtual 208, 3), (8, .istore_n 1, 1), (9, .iload_n 1, 1), (10, .bipush (-6), 2), (12, .if_icmp .eq 5, 3), (15, .iload_n 1, 1), (16, .ireturn, 1), (17, .bipush (-6), 2), (19, .istore_n 2, 1), (20, .bipush 11, 2), (22, .istore_n 3, 1), (23, .iload_n 3, 1), (24, .ifCond .lt 43, 3), (27, .aload_n 0, 1), (28, .getfield 46, 3), (31, .iload_n 3, 1), (32, .iaload, 1), (33, .ifCond .le 26, 3), (36, .iload_n 2, 1), (37, .ifCond .lt 18, 3), (40, .aload_n 0, 1), (41, .getfield 46, 3), (44, .iload_n 3, 1), (45, .iaload, 1), (46, .aload_n 0, 1), (47, .getfield 46, 3), (50, .iload_n 2, 1), (51, .iaload, 1), (52, .if_icmp .lt 7, 3), (55, .iload_n 3, 1), (56, .goto 4, 3), (59, .iload_n 2, 1), (60, .istore_n 2, 1), (61, .iinc 3 (-1), 3), (64, .goto (-41), 3), (67, .iload_n 2, 1), (68, .ireturn, 1)]
theorem zd_155 : ∀ q ∈ zp_155, decode cX10_most q.1 = .ok q.2 := by decide +kernel
/-- BenchMemoriesModel.done()I -/
def zp_156 : List (Nat × Instr × Nat) := [(0, .aload_n 0, 1), (1, .invokevirtual 205, 3), (4, .istore_n 1, 1), (5, .iload_n 1, 1), (6, .bipush (-6), 2), (8, .if_icmp .eq 9, 3), (11, .aload_n 0, 1), (12, .iload_n 1, 1), (13, .invokevirtual 208, 3), (16, .ireturn, 1), (17, .aload_n 0, 1), (18, .iconst 0, 1), (19, .putfield 115, 3), (22, .aload_n 0, 1), (23, .getfield 119, 3), (26, .ireturn, 1)]
theorem zd_156 : ∀ q ∈ zp_156, decode cX10_done q.1 = .ok q.2 := by decide +kernel
/-- BenchMemoriesModel.far(II)I -/
def zp_157 : List (Nat × Instr × Nat) := [(0, .iconst 1, 1), (1, .iload_n 1, 1), (2, .ishl, 1), (3, .istore_n 3, 1), (4, .iconst 0, 1), (5, .istore 4, 2), (7, .iload 4, 2), (9, .bipush 10, 2), (11, .if_icmp .ge 67, 3), (14, .iload_n 3, 1), (15, .iload_n 2, 1), (16, .invokestatic 149, 3), (19, .ifCond .eq 6, 3), (22, .iload 4, 2), (24, .ireturn, 1), (25, .iload_n 3, 1), (26, .istore 5, 2), (28, .iconst 0, 1), (29, .istore 6, 2), (31, .iload 6, 2), (33, .bipush 10, 2), (35, .if_icmp .ge 34, 3), (38, .iload 5, 2), (40, .iload_n 3, 1), (41, .iload 6, 2), (43, .invokestatic 149, 3), (46, .ifCond .eq 13, 3), (49, .aload_n 0, 1), (50, .getfield 7, 3), (53, .iload 6, 2), (55, .iaload, 1), (56, .goto 4, 3), (59, .iconst 0, 1), (60, .ior, 1), (61, .istore 5, 2), (63, .iinc 6 1, 3), (66, .goto (-35), 3), (69, .iload 5, 2), (71, .istore_n 3, 1), (72, .iinc 4 1, 3), (75, .goto (-68), 3), (78, .bipush (-6), 2), (80, .ireturn, 1)]
theorem zd_157 : ∀ q ∈ zp_157, decode cX10_far q.1 = .ok q.2 := by decide +kernel
/-- BenchMemoriesModel.steps(II)I -/
def zp_158 : List (Nat × Instr × Nat) := [(0, .iload_n 1, 1), (1, .invokestatic 87, 3), (4, .ifCond .eq 19, 3), (7, .iload_n 2, 1), (8, .invokestatic 87, 3), (11, .ifCond .eq 12, 3), (14, .aload_n 0, 1), (15, .iload_n 1, 1), (16, .iload_n 2, 1), (17, .invokevirtual 211, 3), (20, .goto 4, 3), (23, .iconst (-1), 1), (24, .ireturn, 1)]
theorem zd_158 : ∀ q ∈ zp_158, decode cX10_steps q.1 = .ok q.2 := by decide +kernel
/-- BenchMemoriesModel.get(II)I -/
def zp_159 : List (Nat × Instr × Nat) := [(0, .iload_n 1, 1), (1, .invokestatic 99, 3), (4, .ifCond .eq 10, 3), (7, .iload_n 2, 1), (8, .invokestatic 105, 3), (11, .ifCond .ne 5, 3), (14, .iconst (-1), 1), (15, .ireturn, 1), (16, .aload_n 0, 1), (17, .iload_n 2, 1), (18, .invokevirtual 102, 3), (21, .istore_n 3, 1), (22, .iload_n 3, 1), (23, .bipush 10, 2), (25, .if_icmp .ge 6, 3), (28, .bipush (-3), 2), (30, .ireturn, 1), (31, .aload_n 0, 1), (32, .aload_n 0, 1), (33, .getfield 13, 3), (36, .iload_n 1, 1), (37, .iaload, 1), (38, .iload_n 3, 1), (39, .bipush 10, 2), (41, .isub, 1), (42, .invokevirtual 211, 3), (45, .istore 4, 2), (47, .iload 4, 2), (49, .ifCond .lt 17, 3), (52, .aload_n 0, 1), (53, .getfield 146, 3), (56, .iload_n 3, 1), (57, .bipush 10, 2), (59, .isub, 1), (60, .invokestatic 149, 3), (63, .ifCond .eq 8, 3), (66, .bipush (-6), 2), (68, .goto 7, 3), (71, .iload 4, 2), (73, .iconst 1, 1), (74, .iadd, 1), (75, .ireturn, 1)]
theorem zd_159 : ∀ q ∈ zp_159, decode cX10_get q.1 = .ok q.2 := by decide +kernel
/-- BenchMemoriesModel.findOff()V -/
def zp_160 : List (Nat × Instr × Nat) := [(0, .iconst 0, 1), (1, .istore_n 1, 1), (2, .iload_n 1, 1), (3, .bipush 100, 2), (5, .if_icmp .ge 27, 3), (8, .aload_n 0, 1), (9, .getfield 55, 3), (12, .iload_n 1, 1), (13, .aload_n 0, 1), (14, .iload_n 1, 1), (15, .bipush 10, 2), (17, .idiv, 1), (18, .iload_n 1, 1), (19, .bipush 10, 2), (21, .irem, 1), (22, .invokevirtual 211, 3), (25, .iastore, 1), (26, .iinc 1 1, 3), (29, .goto (-27), 3), (32, .return_, 1)]
theorem zd_160 : ∀ q ∈ zp_160, decode cX10_findOff q.1 = .ok q.2 := by decide +kernel
/-- BenchMemoriesModel.least(II)I -/
def zp_161 : List (Nat × Instr × Nat) := [(0, .iload_n 0, 1), (1, .ifCond .lt 12, 3), (4, .iload_n 1, 1), (5, .ifCond .lt 12, 3), (8, .iload_n 1, 1), (9, .iload_n 0, 1), (10, .if_icmp .ge 7, 3), (13, .iload_n 1, 1), (14, .goto 4, 3), (17, .iload_n 0, 1), (18, .ireturn, 1)]
theorem zd_161 : ∀ q ∈ zp_161, decode cX10_least q.1 = .ok q.2 := by decide +kernel
/-- BenchMemoriesModel.rowBy(III)I -/
def zp_162 : List (Nat × Instr × Nat) := [(0, .iload_n 2, 1), (1, .iconst 1, 1), (2, .iload_n 3, 1), (3, .ishl, 1), (4, .iconst (-1), 1), (5, .ixor, 1), (6, .iand, 1), (7, .istore 4, 2), (9, .iload 4, 2), (11, .ifCond .ne 15, 3), (14, .aload_n 0, 1), (15, .getfield 55, 3), (18, .bipush 10, 2), (20, .iload_n 1, 1), (21, .imul, 1), (22, .iload_n 3, 1), (23, .iadd, 1), (24, .iaload, 1), (25, .ireturn, 1), (26, .bipush (-6), 2), (28, .istore 5, 2), (30, .iconst 0, 1), (31, .istore 6, 2), (33, .iload 6, 2), (35, .bipush 10, 2), (37, .if_icmp .ge 100, 3), (40, .iload 4, 2), (42, .iload 6, 2), (44, .invokestatic 149, 3), (47, .ifCond .eq 38, 3), (50, .aload_n 0, 1), (51, .getfield 52, 3), (54, .bipush 10, 2), (56, .iload 4, 2), (58, .imul, 1), (59, .iload 6, 2), (61, .iadd, 1), (62, .iaload, 1), (63, .ifCond .lt 22, 3), (66, .aload_n 0, 1), (67, .getfield 55, 3), (70, .bipush 10, 2), (72, .iload 6, 2), (74, .imul, 1), (75, .iload_n 3, 1), (76, .iadd, 1), (77, .iaload, 1), (78, .ifCond .lt 7, 3), (81, .iconst 1, 1), (82, .goto 4, 3), (85, .iconst 0, 1), (86, .istore 7, 2), (88, .iload 7, 2), (90, .ifCond .eq 37, 3), (93, .iload 5, 2), (95, .aload_n 0, 1), (96, .getfield 52, 3), (99, .bipush 10, 2), (101, .iload 4, 2), (103, .imul, 1), (104, .iload 6, 2), (106, .iadd, 1), (107, .iaload, 1), (108, .aload_n 0, 1), (109, .getfield 55, 3), (112, .bipush 10, 2), (114, .iload 6, 2), (116, .imul, 1), (117, .iload_n 3, 1), (118, .iadd, 1), (119, .iaload, 1), (120, .iadd, 1), (121, .invokestatic 214, 3), (124, .goto 5, 3), (127, .iload 5, 2), (129, .istore 5, 2), (131, .iinc 6 1, 3), (134, .goto (-101), 3), (137, .iload 5, 2), (139, .ireturn, 1)]
theorem zd_162 : ∀ q ∈ zp_162, decode cX10_rowBy q.1 = .ok q.2 := by decide +kernel
/-- BenchMemoriesModel.round(II)I -/
def zp_163 : List (Nat × Instr × Nat) := [(0, .iload_n 1, 1), (1, .invokestatic 87, 3), (4, .ifCond .ne 5, 3), (7, .iconst (-1), 1), (8, .ireturn, 1), (9, .iload_n 2, 1), (10, .i2l, 1), (11, .lconst 0, 1), (12, .ldc2_w 217, 3), (15, .invokestatic 79, 3), (18, .ifCond .ne 6, 3), (21, .bipush (-2), 2), (23, .ireturn, 1), (24, .aload_n 0, 1), (25, .invokevirtual 219, 3), (28, .iconst 1, 1), (29, .istore_n 3, 1), (30, .iload_n 3, 1), (31, .iload_n 2, 1), (32, .if_icmp .gt 59, 3), (35, .iconst 0, 1), (36, .istore 4, 2), (38, .iload 4, 2), (40, .bipush 10, 2), (42, .if_icmp .ge 43, 3), (45, .aload_n 0, 1), (46, .getfield 52, 3), (49, .bipush 10, 2), (51, .iload_n 3, 1), (52, .imul, 1), (53, .iload 4, 2), (55, .iadd, 1), (56, .iload_n 3, 1), (57, .iload 4, 2), (59, .invokestatic 149, 3), (62, .ifCond .eq 14, 3), (65, .aload_n 0, 1), (66, .iload_n 1, 1), (67, .iload_n 3, 1), (68, .iload 4, 2), (70, .invokevirtual 222, 3), (73, .goto 5, 3), (76, .bipush (-6), 2), (78, .iastore, 1), (79, .iinc 4 1, 3), (82, .goto (-44), 3), (85, .iinc 3 1, 3), (88, .goto (-58), 3), (91, .iload_n 2, 1), (92, .ifCond .ne 7, 3), (95, .iconst 0, 1), (96, .goto 5, 3), (99, .bipush (-6), 2), (101, .istore_n 3, 1), (102, .iconst 0, 1), (103, .istore 4, 2), (105, .iload 4, 2), (107, .bipush 10, 2), (109, .if_icmp .ge 79, 3), (112, .iload_n 2, 1), (113, .iload 4, 2), (115, .invokestatic 149, 3), (118, .ifCond .eq 22, 3), (121, .aload_n 0, 1), (122, .getfield 52, 3), (125, .bipush 10, 2), (127, .iload_n 2, 1), (128, .imul, 1), (129, .iload 4, 2), (131, .iadd, 1), (132, .iaload, 1), (133, .ifCond .lt 7, 3), (136, .iconst 1, 1), (137, .goto 4, 3), (140, .iconst 0, 1), (141, .istore 5, 2), (143, .iload 5, 2), (145, .ifCond .eq 35, 3), (148, .iload_n 3, 1), (149, .aload_n 0, 1), (150, .getfield 52, 3), (153, .bipush 10, 2), (155, .iload_n 2, 1), (156, .imul, 1), (157, .iload 4, 2), (159, .iadd, 1), (160, .iaload, 1), (161, .aload_n 0, 1), (162, .getfield 55, 3), (165, .bipush 10, 2), (167, .iload 4, 2), (169, .imul, 1), (170, .iload_n 1, 1), (171, .iadd, 1), (172, .iaload, 1), (173, .iadd, 1), (174, .invokestatic 214, 3), (177, .goto 4, 3), (180, .iload_n 3, 1), (181, .istore_n 3, 1), (182, .iinc 4 1, 3), (185, .goto (-80), 3), (188, .iload_n 3, 1), (189, .ireturn, 1)]
theorem zd_163 : ∀ q ∈ zp_163, decode cX10_round q.1 = .ok q.2 := by decide +kernel
/-- BenchMemoriesModel.goesOn(II)I -/
def zp_164 : List (Nat × Instr × Nat) := [(0, .iconst 0, 1), (1, .istore_n 3, 1), (2, .iconst 0, 1), (3, .istore 4, 2), (5, .iload 4, 2), (7, .bipush 10, 2), (9, .if_icmp .ge 91, 3), (12, .aload_n 0, 1), (13, .getfield 7, 3), (16, .iload_n 2, 1), (17, .iaload, 1), (18, .iload 4, 2), (20, .invokestatic 149, 3), (23, .ifCond .eq 16, 3), (26, .iload_n 1, 1), (27, .iload 4, 2), (29, .invokestatic 149, 3), (32, .ifCond .ne 7, 3), (35, .iconst 1, 1), (36, .goto 4, 3), (39, .iconst 0, 1), (40, .istore 5, 2), (42, .iload 5, 2), (44, .ifCond .eq 34, 3), (47, .iconst 1, 1), (48, .aload_n 0, 1), (49, .getfield 52, 3), (52, .bipush 10, 2), (54, .iload_n 1, 1), (55, .iload 5, 2), (57, .ifCond .eq 10, 3), (60, .iconst 1, 1), (61, .iload 4, 2), (63, .ishl, 1), (64, .goto 4, 3), (67, .iconst 0, 1), (68, .ior, 1), (69, .imul, 1), (70, .iload 4, 2), (72, .iadd, 1), (73, .iaload, 1), (74, .iadd, 1), (75, .goto 4, 3), (78, .iconst 0, 1), (79, .istore 6, 2), (81, .iload 6, 2), (83, .iload_n 3, 1), (84, .if_icmp .le 8, 3), (87, .iload 6, 2), (89, .goto 4, 3), (92, .iload_n 3, 1), (93, .istore_n 3, 1), (94, .iinc 4 1, 3), (97, .goto (-92), 3), (100, .iload_n 3, 1), (101, .ireturn, 1)]
theorem zd_164 : ∀ q ∈ zp_164, decode cX10_goesOn q.1 = .ok q.2 := by decide +kernel
end
section
set_option maxRecDepth 100000
/-- BenchMemoriesModel.walk(II)I -/
def zp_165 : List (Nat × Instr × Nat) := [(0, .iload_n 1, 1), (1, .invokestatic 87, 3), (4, .ifCond .ne 5, 3), (7, .iconst (-1), 1), (8, .ireturn, 1), (9, .iload_n 2, 1), (10, .i2l, 1), (11, .lconst 0, 1), (12, .lconst 1, 1), (13, .invokestatic 79, 3), (16, .ifCond .ne 6, 3), (19, .bipush (-2), 2), (21, .ireturn, 1), (22, .sipush 1023, 3), (25, .istore_n 3, 1), (26, .iload_n 3, 1), (27, .ifCond .le 57, 3), (30, .iconst 0, 1), (31, .istore 4, 2), (33, .iload 4, 2), (35, .bipush 10, 2), (37, .if_icmp .ge 41, 3), (40, .aload_n 0, 1), (41, .getfield 52, 3), (44, .bipush 10, 2), (46, .iload_n 3, 1), (47, .imul, 1), (48, .iload 4, 2), (50, .iadd, 1), (51, .iload_n 3, 1), (52, .iload 4, 2), (54, .invokestatic 149, 3), (57, .ifCond .eq 13, 3), (60, .aload_n 0, 1), (61, .iload_n 3, 1), (62, .iload 4, 2), (64, .invokevirtual 225, 3), (67, .goto 4, 3), (70, .iconst 0, 1), (71, .iastore, 1), (72, .iinc 4 1, 3), (75, .goto (-42), 3), (78, .iinc 3 (-1), 3), (81, .goto (-55), 3), (84, .iconst 1, 1), (85, .iload_n 1, 1), (86, .ishl, 1), (87, .istore_n 3, 1), (88, .iload_n 1, 1), (89, .istore 4, 2), (91, .aload_n 0, 1), (92, .getfield 52, 3), (95, .bipush 10, 2), (97, .iload_n 3, 1), (98, .imul, 1), (99, .iload 4, 2), (101, .iadd, 1), (102, .iaload, 1), (103, .istore 5, 2), (105, .iload_n 2, 1), (106, .ifCond .ne 6, 3), (109, .iload 5, 2), (111, .ireturn, 1), (112, .iconst 0, 1), (113, .istore 6, 2), (115, .iload 5, 2), (117, .ifCond .le 118, 3), (120, .bipush (-6), 2), (122, .istore 7, 2), (124, .bipush 9, 2), (126, .istore 8, 2), (128, .iload 8, 2), (130, .ifCond .lt 78, 3), (133, .aload_n 0, 1), (134, .getfield 7, 3), (137, .iload 4, 2), (139, .iaload, 1), (140, .iload 8, 2), (142, .invokestatic 149, 3), (145, .ifCond .eq 40, 3), (148, .iload_n 3, 1), (149, .iload 8, 2), (151, .invokestatic 149, 3), (154, .ifCond .ne 31, 3), (157, .aload_n 0, 1), (158, .getfield 52, 3), (161, .bipush 10, 2), (163, .iload_n 3, 1), (164, .iconst 1, 1), (165, .iload 8, 2), (167, .ishl, 1), (168, .ior, 1), (169, .imul, 1), (170, .iload 8, 2), (172, .iadd, 1), (173, .iaload, 1), (174, .iload 5, 2), (176, .iconst 1, 1), (177, .isub, 1), (178, .if_icmp .ne 7, 3), (181, .iconst 1, 1), (182, .goto 4, 3), (185, .iconst 0, 1), (186, .istore 9, 2), (188, .iload 9, 2), (190, .ifCond .eq 8, 3), (193, .iload 8, 2), (195, .goto 5, 3), (198, .iload 7, 2), (200, .istore 7, 2), (202, .iinc 8 (-1), 3), (205, .goto (-77), 3), (208, .bipush 10, 2), (210, .iload 6, 2), (212, .imul, 1), (213, .iload 7, 2), (215, .iadd, 1), (216, .istore 6, 2), (218, .iload_n 3, 1), (219, .iconst 1, 1), (220, .iload 7, 2), (222, .ishl, 1), (223, .ior, 1), (224, .istore_n 3, 1), (225, .iload 7, 2), (227, .istore 4, 2), (229, .iinc 5 (-1), 3), (232, .goto (-117), 3), (235, .iload 6, 2), (237, .ireturn, 1)]
theorem zd_165 : ∀ q ∈ zp_165, decode cX10_walk q.1 = .ok q.2 := by decide +kernel
/-- BenchMemoriesModel.readSeven(I)Z -/
def zp_166 : List (Nat × Instr × Nat) := [(0, .iload_n 1, 1), (1, .istore_n 2, 1), (2, .iconst 0, 1), (3, .istore_n 3, 1), (4, .bipush 6, 2), (6, .istore 4, 2), (8, .iload 4, 2), (10, .ifCond .lt 37, 3), (13, .aload_n 0, 1), (14, .getfield 58, 3), (17, .iload 4, 2), (19, .iload_n 2, 1), (20, .bipush 10, 2), (22, .irem, 1), (23, .iastore, 1), (24, .iload_n 3, 1), (25, .iconst 1, 1), (26, .aload_n 0, 1), (27, .getfield 58, 3), (30, .iload 4, 2), (32, .iaload, 1), (33, .ishl, 1), (34, .ior, 1), (35, .istore_n 3, 1), (36, .iload_n 2, 1), (37, .bipush 10, 2), (39, .idiv, 1), (40, .istore_n 2, 1), (41, .iinc 4 (-1), 3), (44, .goto (-36), 3), (47, .iload_n 2, 1), (48, .ifCond .ne 13, 3), (51, .iload_n 3, 1), (52, .bipush 127, 2), (54, .if_icmp .ne 7, 3), (57, .iconst 1, 1), (58, .goto 4, 3), (61, .iconst 0, 1), (62, .ireturn, 1)]
theorem zd_166 : ∀ q ∈ zp_166, decode cX10_readSeven q.1 = .ok q.2 := by decide +kernel
/-- BenchMemoriesModel.sitsBy()I -/
def zp_167 : List (Nat × Instr × Nat) := [(0, .iconst 0, 1), (1, .istore_n 1, 1), (2, .iconst 0, 1), (3, .istore_n 2, 1), (4, .iconst 0, 1), (5, .istore_n 3, 1), (6, .iload_n 3, 1), (7, .bipush 7, 2), (9, .if_icmp .ge 74, 3), (12, .iconst 0, 1), (13, .istore 4, 2), (15, .iload_n 3, 1), (16, .istore 5, 2), (18, .iload_n 1, 1), (19, .iload 5, 2), (21, .invokestatic 149, 3), (24, .ifCond .ne 25, 3), (27, .iload_n 1, 1), (28, .iconst 1, 1), (29, .iload 5, 2), (31, .ishl, 1), (32, .ior, 1), (33, .istore_n 1, 1), (34, .iinc 4 1, 3), (37, .aload_n 0, 1), (38, .getfield 58, 3), (41, .iload 5, 2), (43, .iaload, 1), (44, .istore 5, 2), (46, .goto (-28), 3), (49, .iload_n 2, 1), (50, .iload 4, 2), (52, .iconst 1, 1), (53, .if_icmp .le 21, 3), (56, .iload_n 3, 1), (57, .ifCond .ne 10, 3), (60, .iload 4, 2), (62, .iconst 1, 1), (63, .isub, 1), (64, .goto 11, 3), (67, .iload 4, 2), (69, .iconst 1, 1), (70, .iadd, 1), (71, .goto 4, 3), (74, .iconst 0, 1), (75, .iadd, 1), (76, .istore_n 2, 1), (77, .iinc 3 1, 3), (80, .goto (-74), 3), (83, .iload_n 2, 1), (84, .ireturn, 1)]
theorem zd_167 : ∀ q ∈ zp_167, decode cX10_sitsBy q.1 = .ok q.2 := by decide +kernel
/-- BenchMemoriesModel.seat(I)V -/
def zp_168 : List (Nat × Instr × Nat) := [(0, .aload_n 0, 1), (1, .getfield 58, 3), (4, .iconst 0, 1), (5, .iaload, 1), (6, .istore_n 2, 1), (7, .aload_n 0, 1), (8, .getfield 58, 3), (11, .iconst 0, 1), (12, .aload_n 0, 1), (13, .getfield 58, 3), (16, .iload_n 1, 1), (17, .iaload, 1), (18, .iastore, 1), (19, .aload_n 0, 1), (20, .getfield 58, 3), (23, .iload_n 1, 1), (24, .iload_n 2, 1), (25, .iastore, 1), (26, .return_, 1)]
theorem zd_168 : ∀ q ∈ zp_168, decode cX10_seat q.1 = .ok q.2 := by decide +kernel
/-- BenchMemoriesModel.right(II)I -/
def zp_169 : List (Nat × Instr × Nat) := [(0, .iload_n 1, 1), (1, .i2l, 1), (2, .lconst 0, 1), (3, .ldc2_w 228, 3), (6, .invokestatic 79, 3), (9, .ifCond .eq 21, 3), (12, .aload_n 0, 1), (13, .iload_n 1, 1), (14, .invokevirtual 230, 3), (17, .ifCond .eq 13, 3), (20, .iload_n 2, 1), (21, .i2l, 1), (22, .lconst 0, 1), (23, .lconst 1, 1), (24, .invokestatic 79, 3), (27, .ifCond .ne 6, 3), (30, .bipush (-2), 2), (32, .ireturn, 1), (33, .aload_n 0, 1), (34, .invokevirtual 233, 3), (37, .istore_n 3, 1), (38, .iload_n 2, 1), (39, .ifCond .ne 5, 3), (42, .iload_n 3, 1), (43, .ireturn, 1), (44, .bipush (-6), 2), (46, .istore 4, 2), (48, .bipush 6, 2), (50, .istore 5, 2), (52, .iload 5, 2), (54, .ifCond .le 40, 3), (57, .aload_n 0, 1), (58, .iload 5, 2), (60, .invokevirtual 236, 3), (63, .aload_n 0, 1), (64, .invokevirtual 233, 3), (67, .iload_n 3, 1), (68, .iconst 1, 1), (69, .isub, 1), (70, .if_icmp .ne 8, 3), (73, .iload 5, 2), (75, .goto 5, 3), (78, .iload 4, 2), (80, .istore 4, 2), (82, .aload_n 0, 1), (83, .iload 5, 2), (85, .invokevirtual 236, 3), (88, .iinc 5 (-1), 3), (91, .goto (-39), 3), (94, .iload 4, 2), (96, .ireturn, 1)]
theorem zd_169 : ∀ q ∈ zp_169, decode cX10_right q.1 = .ok q.2 := by decide +kernel
/-- BenchMemoriesModel.seen(IIZ)I -/
def zp_170 : List (Nat × Instr × Nat) := [(0, .iload_n 1, 1), (1, .i2l, 1), (2, .lconst 0, 1), (3, .ldc2_w 239, 3), (6, .invokestatic 79, 3), (9, .ifCond .eq 15, 3), (12, .iload_n 2, 1), (13, .i2l, 1), (14, .lconst 0, 1), (15, .ldc2_w 83, 3), (18, .invokestatic 79, 3), (21, .ifCond .ne 6, 3), (24, .bipush (-2), 2), (26, .ireturn, 1), (27, .aload_n 0, 1), (28, .getfield 241, 3), (31, .bipush 8, 2), (33, .if_icmp .ne 6, 3), (36, .bipush (-4), 2), (38, .ireturn, 1), (39, .aload_n 0, 1), (40, .getfield 25, 3), (43, .aload_n 0, 1), (44, .getfield 241, 3), (47, .iload_n 1, 1), (48, .iastore, 1), (49, .aload_n 0, 1), (50, .getfield 28, 3), (53, .aload_n 0, 1), (54, .getfield 241, 3), (57, .iload_n 2, 1), (58, .iastore, 1), (59, .aload_n 0, 1), (60, .getfield 31, 3), (63, .aload_n 0, 1), (64, .getfield 241, 3), (67, .iload_n 3, 1), (68, .ifCond .eq 7, 3), (71, .iconst 1, 1), (72, .goto 4, 3), (75, .iconst 0, 1), (76, .iastore, 1), (77, .aload_n 0, 1), (78, .dup, 1), (79, .getfield 241, 3), (82, .iconst 1, 1), (83, .iadd, 1), (84, .putfield 241, 3), (87, .aload_n 0, 1), (88, .getfield 241, 3), (91, .ireturn, 1)]
theorem zd_170 : ∀ q ∈ zp_170, decode cX10_seen q.1 = .ok q.2 := by decide +kernel
/-- BenchMemoriesModel.clear()I -/
def zp_171 : List (Nat × Instr × Nat) := [(0, .aload_n 0, 1), (1, .getfield 241, 3), (4, .istore_n 1, 1), (5, .aload_n 0, 1), (6, .iconst 0, 1), (7, .putfield 241, 3), (10, .iload_n 1, 1), (11, .ireturn, 1)]
theorem zd_171 : ∀ q ∈ zp_171, decode cX10_clear q.1 = .ok q.2 := by decide +kernel
/-- BenchMemoriesModel.whoHas(II)I -/
def zp_172 : List (Nat × Instr × Nat) := [(0, .iload_n 0, 1), (1, .bipush 10, 2), (3, .idiv, 1), (4, .istore_n 2, 1), (5, .iload_n 0, 1), (6, .bipush 10, 2), (8, .irem, 1), (9, .istore_n 3, 1), (10, .iconst 0, 1), (11, .istore 4, 2), (13, .iload 4, 2), (15, .iload_n 1, 1), (16, .if_icmp .ge 37, 3), (19, .iload 4, 2), (21, .iload_n 2, 1), (22, .irem, 1), (23, .istore 5, 2), (25, .iload_n 3, 1), (26, .ifCond .ge 8, 3), (29, .iload 5, 2), (31, .goto 15, 3), (34, .iload_n 3, 1), (35, .iload 5, 2), (37, .if_icmp .ne 8, 3), (40, .bipush (-6), 2), (42, .goto 4, 3), (45, .iload_n 3, 1), (46, .istore_n 3, 1), (47, .iinc 4 1, 3), (50, .goto (-37), 3), (53, .iload_n 3, 1), (54, .ireturn, 1)]
theorem zd_172 : ∀ q ∈ zp_172, decode cX10_whoHas q.1 = .ok q.2 := by decide +kernel
/-- BenchMemoriesModel.isFit(I)Z -/
def zp_173 : List (Nat × Instr × Nat) := [(0, .iload_n 1, 1), (1, .bipush 10, 2), (3, .idiv, 1), (4, .i2l, 1), (5, .ldc2_w 203, 3), (8, .ldc2_w 244, 3), (11, .invokestatic 79, 3), (14, .ifCond .eq 18, 3), (17, .iload_n 1, 1), (18, .bipush 10, 2), (20, .irem, 1), (21, .iload_n 1, 1), (22, .bipush 10, 2), (24, .idiv, 1), (25, .if_icmp .ge 7, 3), (28, .iconst 1, 1), (29, .goto 4, 3), (32, .iconst 0, 1), (33, .istore_n 2, 1), (34, .iconst 0, 1), (35, .istore_n 3, 1), (36, .iload_n 3, 1), (37, .aload_n 0, 1), (38, .getfield 241, 3), (41, .if_icmp .ge 61, 3), (44, .iload_n 2, 1), (45, .ifCond .eq 57, 3), (48, .iload_n 1, 1), (49, .aload_n 0, 1), (50, .getfield 25, 3), (53, .iload_n 3, 1), (54, .iaload, 1), (55, .invokestatic 246, 3), (58, .aload_n 0, 1), (59, .getfield 28, 3), (62, .iload_n 3, 1), (63, .iaload, 1), (64, .if_icmp .ne 7, 3), (67, .iconst 1, 1), (68, .goto 4, 3), (71, .iconst 0, 1), (72, .aload_n 0, 1), (73, .getfield 31, 3), (76, .iload_n 3, 1), (77, .iaload, 1), (78, .iconst 1, 1), (79, .if_icmp .ne 7, 3), (82, .iconst 1, 1), (83, .goto 4, 3), (86, .iconst 0, 1), (87, .if_icmp .ne 7, 3), (90, .iconst 1, 1), (91, .goto 4, 3), (94, .iconst 0, 1), (95, .istore_n 2, 1), (96, .iinc 3 1, 3), (99, .goto (-63), 3), (102, .iload_n 2, 1), (103, .ireturn, 1)]
theorem zd_173 : ∀ q ∈ zp_173, decode cX10_isFit q.1 = .ok q.2 := by decide +kernel
/-- BenchMemoriesModel.fits(I)I -/
def zp_174 : List (Nat × Instr × Nat) := [(0, .iconst 0, 1), (1, .istore_n 2, 1), (2, .bipush 20, 2), (4, .istore_n 3, 1), (5, .iload_n 3, 1), (6, .bipush 90, 2), (8, .if_icmp .ge 27, 3), (11, .aload_n 0, 1), (12, .iload_n 3, 1), (13, .invokevirtual 249, 3), (16, .ifCond .eq 13, 3), (19, .iload_n 2, 1), (20, .iload_n 1, 1), (21, .if_icmp .ne 5, 3), (24, .iload_n 3, 1), (25, .ireturn, 1), (26, .iinc 2 1, 3), (29, .iinc 3 1, 3), (32, .goto (-27), 3), (35, .iload_n 1, 1), (36, .iconst (-1), 1), (37, .if_icmp .ne 7, 3), (40, .iload_n 2, 1), (41, .goto 5, 3), (44, .bipush (-6), 2), (46, .ireturn, 1)]
theorem zd_174 : ∀ q ∈ zp_174, decode cX10_fits q.1 = .ok q.2 := by decide +kernel
/-- BenchMemoriesModel.countBy(I)V -/
def zp_175 : List (Nat × Instr × Nat) := [(0, .iconst 0, 1), (1, .istore_n 2, 1), (2, .iload_n 2, 1), (3, .bipush 8, 2), (5, .if_icmp .ge 16, 3), (8, .aload_n 0, 1), (9, .getfield 61, 3), (12, .iload_n 2, 1), (13, .iconst 0, 1), (14, .iastore, 1), (15, .iinc 2 1, 3), (18, .goto (-16), 3), (21, .bipush 20, 2), (23, .istore_n 2, 1), (24, .iload_n 2, 1), (25, .bipush 90, 2), (27, .if_icmp .ge 42, 3), (30, .aload_n 0, 1), (31, .iload_n 2, 1), (32, .invokevirtual 249, 3), (35, .ifCond .eq 11, 3), (38, .iload_n 2, 1), (39, .iload_n 1, 1), (40, .invokestatic 246, 3), (43, .goto 5, 3), (46, .bipush (-6), 2), (48, .istore_n 3, 1), (49, .iload_n 3, 1), (50, .ifCond .lt 13, 3), (53, .aload_n 0, 1), (54, .getfield 61, 3), (57, .iload_n 3, 1), (58, .dup2, 1), (59, .iaload, 1), (60, .iconst 1, 1), (61, .iadd, 1), (62, .iastore, 1), (63, .iinc 2 1, 3), (66, .goto (-42), 3), (69, .return_, 1)]
theorem zd_175 : ∀ q ∈ zp_175, decode cX10_countBy q.1 = .ok q.2 := by decide +kernel
/-- BenchMemoriesModel.ask(I)I -/
def zp_176 : List (Nat × Instr × Nat) := [(0, .iload_n 1, 1), (1, .i2l, 1), (2, .lconst 0, 1), (3, .lconst 1, 1), (4, .invokestatic 79, 3), (7, .ifCond .ne 6, 3), (10, .bipush (-2), 2), (12, .ireturn, 1), (13, .aload_n 0, 1), (14, .iconst (-1), 1), (15, .invokevirtual 252, 3), (18, .istore_n 2, 1), (19, .bipush (-6), 2), (21, .istore_n 3, 1), (22, .iload_n 2, 1), (23, .iconst 1, 1), (24, .iadd, 1), (25, .istore 4, 2), (27, .iconst 0, 1), (28, .istore 5, 2), (30, .iload 5, 2), (32, .bipush 60, 2), (34, .if_icmp .gt 111, 3), (37, .iload_n 2, 1), (38, .ifCond .le 107, 3), (41, .aload_n 0, 1), (42, .iload 5, 2), (44, .invokevirtual 255, 3), (47, .iconst 0, 1), (48, .istore 6, 2), (50, .iload 6, 2), (52, .bipush 8, 2), (54, .if_icmp .ge 85, 3), (57, .aload_n 0, 1), (58, .getfield 61, 3), (61, .iload 6, 2), (63, .iaload, 1), (64, .iload_n 2, 1), (65, .aload_n 0, 1), (66, .getfield 61, 3), (69, .iload 6, 2), (71, .iaload, 1), (72, .isub, 1), (73, .if_icmp .le 13, 3), (76, .aload_n 0, 1), (77, .getfield 61, 3), (80, .iload 6, 2), (82, .iaload, 1), (83, .goto 12, 3), (86, .iload_n 2, 1), (87, .aload_n 0, 1), (88, .getfield 61, 3), (91, .iload 6, 2), (93, .iaload, 1), (94, .isub, 1), (95, .istore 7, 2), (97, .iload 7, 2), (99, .iload 4, 2), (101, .if_icmp .ge 14, 3), (104, .bipush 10, 2), (106, .iload 5, 2), (108, .imul, 1), (109, .iload 6, 2), (111, .iadd, 1), (112, .goto 4, 3), (115, .iload_n 3, 1), (116, .istore_n 3, 1), (117, .iload 7, 2), (119, .iload 4, 2), (121, .if_icmp .ge 8, 3), (124, .iload 7, 2), (126, .goto 5, 3), (129, .iload 4, 2), (131, .istore 4, 2), (133, .iinc 6 1, 3), (136, .goto (-86), 3), (139, .iinc 5 1, 3), (142, .goto (-112), 3), (145, .iload_n 3, 1), (146, .ifCond .lt 7, 3), (149, .iload_n 1, 1), (150, .ifCond .ne 7, 3), (153, .iload_n 3, 1), (154, .goto 5, 3), (157, .iload 4, 2), (159, .ireturn, 1)]
theorem zd_176 : ∀ q ∈ zp_176, decode cX10_ask q.1 = .ok q.2 := by decide +kernel
/-- BenchMemoriesModel.rowsBy(II)I -/
def zp_177 : List (Nat × Instr × Nat) := [(0, .iload_n 2, 1), (1, .iconst 1, 1), (2, .if_icmp .le 9, 3), (5, .iload_n 2, 1), (6, .iconst 1, 1), (7, .isub, 1), (8, .goto 4, 3), (11, .iconst 0, 1), (12, .istore_n 3, 1), (13, .iload_n 1, 1), (14, .iload_n 2, 1), (15, .isub, 1), (16, .iconst 2, 1), (17, .if_icmp .le 11, 3), (20, .iload_n 1, 1), (21, .iload_n 2, 1), (22, .isub, 1), (23, .iconst 2, 1), (24, .isub, 1), (25, .goto 4, 3), (28, .iconst 0, 1), (29, .istore 4, 2), (31, .aload_n 0, 1), (32, .getfield 64, 3), (35, .iload_n 3, 1), (36, .iaload, 1), (37, .aload_n 0, 1), (38, .getfield 64, 3), (41, .iload 4, 2), (43, .iaload, 1), (44, .ixor, 1), (45, .ireturn, 1)]
theorem zd_177 : ∀ q ∈ zp_177, decode cX10_rowsBy q.1 = .ok q.2 := by decide +kernel
/-- BenchMemoriesModel.worthOf(I)I -/
def zp_178 : List (Nat × Instr × Nat) := [(0, .iconst 0, 1), (1, .istore_n 2, 1), (2, .iload_n 2, 1), (3, .sipush 128, 3), (6, .if_icmp .ge 16, 3), (9, .aload_n 0, 1), (10, .getfield 67, 3), (13, .iload_n 2, 1), (14, .iconst 0, 1), (15, .bastore, 1), (16, .iinc 2 1, 3), (19, .goto (-17), 3), (22, .iconst 0, 1), (23, .istore_n 2, 1), (24, .iload_n 2, 1), (25, .iload_n 1, 1), (26, .if_icmp .ge 21, 3), (29, .aload_n 0, 1), (30, .getfield 67, 3), (33, .aload_n 0, 1), (34, .iload_n 1, 1), (35, .iload_n 2, 1), (36, .invokevirtual 258, 3), (39, .iconst 1, 1), (40, .bastore, 1), (41, .iinc 2 1, 3), (44, .goto (-20), 3), (47, .iconst 0, 1), (48, .istore_n 2, 1), (49, .aload_n 0, 1), (50, .getfield 67, 3), (53, .iload_n 2, 1), (54, .baload, 1), (55, .ifCond .eq 9, 3), (58, .iinc 2 1, 3), (61, .goto (-12), 3), (64, .iload_n 2, 1), (65, .ireturn, 1)]
theorem zd_178 : ∀ q ∈ zp_178, decode cX10_worthOf q.1 = .ok q.2 := by decide +kernel
/-- BenchMemoriesModel.take(II)I -/
def zp_179 : List (Nat × Instr × Nat) := [(0, .iload_n 1, 1), (1, .i2l, 1), (2, .lconst 0, 1), (3, .ldc2_w 261, 3), (6, .invokestatic 79, 3), (9, .ifCond .eq 13, 3), (12, .iload_n 2, 1), (13, .i2l, 1), (14, .lconst 0, 1), (15, .lconst 1, 1), (16, .invokestatic 79, 3), (19, .ifCond .ne 6, 3), (22, .bipush (-2), 2), (24, .ireturn, 1), (25, .iconst 0, 1), (26, .istore_n 3, 1), (27, .iload_n 3, 1), (28, .iload_n 1, 1), (29, .if_icmp .gt 20, 3), (32, .aload_n 0, 1), (33, .getfield 64, 3), (36, .iload_n 3, 1), (37, .aload_n 0, 1), (38, .iload_n 3, 1), (39, .invokevirtual 263, 3), (42, .iastore, 1), (43, .iinc 3 1, 3), (46, .goto (-19), 3), (49, .bipush (-6), 2), (51, .istore_n 3, 1), (52, .iload_n 1, 1), (53, .iconst 1, 1), (54, .isub, 1), (55, .istore 4, 2), (57, .iload 4, 2), (59, .ifCond .lt 26, 3), (62, .aload_n 0, 1), (63, .iload_n 1, 1), (64, .iload 4, 2), (66, .invokevirtual 258, 3), (69, .ifCond .ne 8, 3), (72, .iload 4, 2), (74, .goto 4, 3), (77, .iload_n 3, 1), (78, .istore_n 3, 1), (79, .iinc 4 (-1), 3), (82, .goto (-25), 3), (85, .iload_n 2, 1), (86, .iconst 1, 1), (87, .if_icmp .ne 7, 3), (90, .iload_n 3, 1), (91, .goto 12, 3), (94, .iload_n 3, 1), (95, .ifCond .ge 7, 3), (98, .iconst 0, 1), (99, .goto 4, 3), (102, .iconst 1, 1), (103, .ireturn, 1)]
theorem zd_179 : ∀ q ∈ zp_179, decode cX10_take q.1 = .ok q.2 := by decide +kernel
/-- BenchMemoriesModel.lowest(JJI)J -/
def zp_180 : List (Nat × Instr × Nat) := [(0, .lload_n 2, 1), (1, .lstore 5, 2), (3, .lload_n 0, 1), (4, .lstore 7, 2), (6, .lload 7, 2), (8, .lconst 0, 1), (9, .lcmp, 1), (10, .ifCond .eq 21, 3), (13, .lload 5, 2), (15, .lload 7, 2), (17, .lrem, 1), (18, .lstore 9, 2), (20, .lload 7, 2), (22, .lstore 5, 2), (24, .lload 9, 2), (26, .lstore 7, 2), (28, .goto (-22), 3), (31, .iload 4, 2), (33, .ifCond .ne 10, 3), (36, .lload_n 0, 1), (37, .lload 5, 2), (39, .ldiv, 1), (40, .goto 7, 3), (43, .lload_n 2, 1), (44, .lload 5, 2), (46, .ldiv, 1), (47, .lreturn, 1)]
theorem zd_180 : ∀ q ∈ zp_180, decode cX10_lowest q.1 = .ok q.2 := by decide +kernel
/-- BenchMemoriesModel.evenings(IIII)J -/
def zp_181 : List (Nat × Instr × Nat) := [(0, .iload_n 1, 1), (1, .i2l, 1), (2, .lconst 0, 1), (3, .ldc2_w 266, 3), (6, .invokestatic 79, 3), (9, .ifCond .eq 36, 3), (12, .iload_n 2, 1), (13, .i2l, 1), (14, .lconst 1, 1), (15, .ldc2_w 268, 3), (18, .invokestatic 79, 3), (21, .ifCond .eq 24, 3), (24, .iload_n 3, 1), (25, .i2l, 1), (26, .lconst 0, 1), (27, .lconst 1, 1), (28, .invokestatic 79, 3), (31, .ifCond .eq 14, 3), (34, .iload 4, 2), (36, .i2l, 1), (37, .lconst 0, 1), (38, .lconst 1, 1), (39, .invokestatic 79, 3), (42, .ifCond .ne 7, 3), (45, .ldc2_w 270, 3), (48, .lreturn, 1), (49, .lconst 1, 1), (50, .lstore 5, 2), (52, .lconst 1, 1), (53, .lstore 7, 2), (55, .iconst 0, 1), (56, .istore 9, 2), (58, .iload 9, 2), (60, .iload_n 1, 1), (61, .if_icmp .ge 25, 3), (64, .lload 5, 2), (66, .iload_n 2, 1), (67, .i2l, 1), (68, .lmul, 1), (69, .lstore 5, 2), (71, .lload 7, 2), (73, .iload_n 2, 1), (74, .iconst 1, 1), (75, .isub, 1), (76, .i2l, 1), (77, .lmul, 1), (78, .lstore 7, 2), (80, .iinc 9 1, 3), (83, .goto (-25), 3), (86, .iload_n 3, 1), (87, .ifCond .ne 11, 3), (90, .lload 5, 2), (92, .lload 7, 2), (94, .lsub, 1), (95, .goto 11, 3), (98, .iload_n 2, 1), (99, .i2l, 1), (100, .lload 5, 2), (102, .lload 7, 2), (104, .lsub, 1), (105, .lmul, 1), (106, .lload 5, 2), (108, .iload 4, 2), (110, .invokestatic 272, 3), (113, .lreturn, 1)]
theorem zd_181 : ∀ q ∈ zp_181, decode cX10_evenings q.1 = .ok q.2 := by decide +kernel
/-- BenchMemoriesModel.seasonOne(III)V -/
def zp_182 : List (Nat × Instr × Nat) := [(0, .iload_n 2, 1), (1, .iconst 3, 1), (2, .if_icmp .ge 7, 3), (5, .iconst 0, 1), (6, .goto 32, 3), (9, .iload_n 2, 1), (10, .iconst 5, 1), (11, .if_icmp .ge 7, 3), (14, .iconst 1, 1), (15, .goto 23, 3), (18, .iload_n 2, 1), (19, .iconst 5, 1), (20, .if_icmp .ne 7, 3), (23, .iconst 2, 1), (24, .goto 14, 3), (27, .iload_n 2, 1), (28, .bipush 6, 2), (30, .if_icmp .ne 7, 3), (33, .iconst 3, 1), (34, .goto 4, 3), (37, .iconst 5, 1), (38, .istore 4, 2), (40, .iload_n 3, 1), (41, .iload 4, 2), (43, .ifCond .ne 8, 3), (46, .bipush 10, 2), (48, .goto 5, 3), (51, .bipush 8, 2), (53, .irem, 1), (54, .istore 5, 2), (56, .iload 4, 2), (58, .iconst 3, 1), (59, .if_icmp .ne 8, 3), (62, .iload 5, 2), (64, .ifCond .ne 7, 3), (67, .iconst 1, 1), (68, .goto 4, 3), (71, .iconst 0, 1), (72, .istore 6, 2), (74, .iload 6, 2), (76, .ifCond .eq 24, 3), (79, .aload_n 0, 1), (80, .iload 4, 2), (82, .iload_n 1, 1), (83, .iload 5, 2), (85, .invokevirtual 185, 3), (88, .ifCond .ne 12, 3), (91, .aload_n 0, 1), (92, .iload 4, 2), (94, .iload_n 1, 1), (95, .iload 5, 2), (97, .invokevirtual 189, 3), (100, .return_, 1)]
theorem zd_182 : ∀ q ∈ zp_182, decode cX10_seasonOne q.1 = .ok q.2 := by decide +kernel
/-- BenchMemoriesModel.manyLie()I -/
def zp_183 : List (Nat × Instr × Nat) := [(0, .iconst 0, 1), (1, .istore_n 1, 1), (2, .iconst 0, 1), (3, .istore_n 2, 1), (4, .iload_n 2, 1), (5, .bipush 10, 2), (7, .if_icmp .ge 26, 3), (10, .iload_n 1, 1), (11, .aload_n 0, 1), (12, .getfield 19, 3), (15, .iload_n 2, 1), (16, .iaload, 1), (17, .ifCond .lt 7, 3), (20, .iconst 1, 1), (21, .goto 4, 3), (24, .iconst 0, 1), (25, .iadd, 1), (26, .istore_n 1, 1), (27, .iinc 2 1, 3), (30, .goto (-26), 3), (33, .iload_n 1, 1), (34, .ireturn, 1)]
theorem zd_183 : ∀ q ∈ zp_183, decode cX10_manyLie q.1 = .ok q.2 := by decide +kernel
/-- BenchMemoriesModel.manyLost()I -/
def zp_184 : List (Nat × Instr × Nat) := [(0, .iconst 0, 1), (1, .istore_n 1, 1), (2, .iconst 0, 1), (3, .istore_n 2, 1), (4, .iload_n 2, 1), (5, .bipush 12, 2), (7, .if_icmp .ge 25, 3), (10, .iload_n 1, 1), (11, .aload_n 0, 1), (12, .iload_n 2, 1), (13, .invokevirtual 102, 3), (16, .ifCond .ge 7, 3), (19, .iconst 1, 1), (20, .goto 4, 3), (23, .iconst 0, 1), (24, .iadd, 1), (25, .istore_n 1, 1), (26, .iinc 2 1, 3), (29, .goto (-25), 3), (32, .iload_n 1, 1), (33, .ireturn, 1)]
theorem zd_184 : ∀ q ∈ zp_184, decode cX10_manyLost q.1 = .ok q.2 := by decide +kernel
/-- BenchMemoriesModel.season(III)I -/
def zp_185 : List (Nat × Instr × Nat) := [(0, .iload_n 1, 1), (1, .i2l, 1), (2, .lconst 0, 1), (3, .ldc2_w 276, 3), (6, .invokestatic 79, 3), (9, .ifCond .eq 27, 3), (12, .iload_n 2, 1), (13, .i2l, 1), (14, .lconst 1, 1), (15, .ldc2_w 278, 3), (18, .invokestatic 79, 3), (21, .ifCond .eq 15, 3), (24, .iload_n 3, 1), (25, .i2l, 1), (26, .lconst 0, 1), (27, .ldc2_w 203, 3), (30, .invokestatic 79, 3), (33, .ifCond .ne 6, 3), (36, .bipush (-2), 2), (38, .ireturn, 1), (39, .aload_n 0, 1), (40, .invokevirtual 193, 3), (43, .iload_n 1, 1), (44, .istore 4, 2), (46, .iconst 0, 1), (47, .istore 5, 2), (49, .iload 5, 2), (51, .iload_n 2, 1), (52, .if_icmp .ge 49, 3), (55, .ldc2_w 280, 3), (58, .iload 4, 2), (60, .i2l, 1), (61, .lmul, 1), (62, .ldc2_w 282, 3), (65, .ladd, 1), (66, .ldc2_w 284, 3), (69, .lrem, 1), (70, .l2i, 1), (71, .istore 4, 2), (73, .aload_n 0, 1), (74, .iload 4, 2), (76, .bipush 8, 2), (78, .irem, 1), (79, .iload 4, 2), (81, .bipush 8, 2), (83, .idiv, 1), (84, .bipush 8, 2), (86, .irem, 1), (87, .iload 4, 2), (89, .bipush 64, 2), (91, .idiv, 1), (92, .invokevirtual 286, 3), (95, .iinc 5 1, 3), (98, .goto (-49), 3), (101, .aload_n 0, 1), (102, .iload_n 3, 1), (103, .ifCond .ne 10, 3), (106, .aload_n 0, 1), (107, .invokevirtual 289, 3), (110, .goto 19, 3), (113, .iload_n 3, 1), (114, .iconst 1, 1), (115, .if_icmp .ne 10, 3), (118, .aload_n 0, 1), (119, .invokevirtual 292, 3), (122, .goto 7, 3), (125, .aload_n 0, 1), (126, .getfield 159, 3), (129, .invokevirtual 208, 3), (132, .ireturn, 1)]
theorem zd_185 : ∀ q ∈ zp_185, decode cX10_season q.1 = .ok q.2 := by decide +kernel
/-- BenchMemoriesModel.pass(I)I -/
def zp_186 : List (Nat × Instr × Nat) := [(0, .aload_n 0, 1), (1, .getfield 295, 3), (4, .ifCond .eq 7, 3), (7, .iload_n 1, 1), (8, .goto 12, 3), (11, .aload_n 0, 1), (12, .getfield 71, 3), (15, .aload_n 0, 1), (16, .getfield 299, 3), (19, .iaload, 1), (20, .istore_n 2, 1), (21, .aload_n 0, 1), (22, .getfield 71, 3), (25, .aload_n 0, 1), (26, .getfield 299, 3), (29, .iload_n 2, 1), (30, .iastore, 1), (31, .aload_n 0, 1), (32, .dup, 1), (33, .getfield 299, 3), (36, .iconst 1, 1), (37, .iadd, 1), (38, .putfield 299, 3), (41, .iload_n 2, 1), (42, .ireturn, 1)]
theorem zd_186 : ∀ q ∈ zp_186, decode cX10_pass q.1 = .ok q.2 := by decide +kernel
/-- BenchMemoriesModel.passRow([II)V -/
def zp_187 : List (Nat × Instr × Nat) := [(0, .iconst 0, 1), (1, .istore_n 3, 1), (2, .iload_n 3, 1), (3, .iload_n 2, 1), (4, .if_icmp .ge 19, 3), (7, .aload_n 1, 1), (8, .iload_n 3, 1), (9, .aload_n 0, 1), (10, .aload_n 1, 1), (11, .iload_n 3, 1), (12, .iaload, 1), (13, .invokevirtual 302, 3), (16, .iastore, 1), (17, .iinc 3 1, 3), (20, .goto (-18), 3), (23, .return_, 1)]
theorem zd_187 : ∀ q ∈ zp_187, decode cX10_passRow q.1 = .ok q.2 := by decide +kernel
/-- BenchMemoriesModel.passAll()V -/
def zp_188 : List (Nat × Instr × Nat) := [(0, .aload_n 0, 1), (1, .aload_n 0, 1), (2, .aload_n 0, 1), (3, .getfield 146, 3), (6, .invokevirtual 302, 3), (9, .putfield 146, 3), (12, .aload_n 0, 1), (13, .aload_n 0, 1), (14, .aload_n 0, 1), (15, .getfield 159, 3), (18, .invokevirtual 302, 3), (21, .putfield 159, 3), (24, .aload_n 0, 1), (25, .aload_n 0, 1), (26, .aload_n 0, 1), (27, .getfield 241, 3), (30, .invokevirtual 302, 3), (33, .putfield 241, 3), (36, .aload_n 0, 1), (37, .aload_n 0, 1), (38, .getfield 7, 3), (41, .bipush 10, 2), (43, .invokevirtual 305, 3), (46, .aload_n 0, 1), (47, .aload_n 0, 1), (48, .getfield 13, 3), (51, .bipush 8, 2), (53, .invokevirtual 305, 3), (56, .aload_n 0, 1), (57, .aload_n 0, 1), (58, .getfield 16, 3), (61, .bipush 8, 2), (63, .invokevirtual 305, 3), (66, .aload_n 0, 1), (67, .aload_n 0, 1), (68, .getfield 19, 3), (71, .bipush 10, 2), (73, .invokevirtual 305, 3), (76, .aload_n 0, 1), (77, .aload_n 0, 1), (78, .getfield 22, 3), (81, .bipush 10, 2), (83, .invokevirtual 305, 3), (86, .aload_n 0, 1), (87, .aload_n 0, 1), (88, .getfield 25, 3), (91, .bipush 8, 2), (93, .invokevirtual 305, 3), (96, .aload_n 0, 1), (97, .aload_n 0, 1), (98, .getfield 28, 3), (101, .bipush 8, 2), (103, .invokevirtual 305, 3), (106, .aload_n 0, 1), (107, .aload_n 0, 1), (108, .getfield 31, 3), (111, .bipush 8, 2), (113, .invokevirtual 305, 3), (116, .return_, 1)]
theorem zd_188 : ∀ q ∈ zp_188, decode cX10_passAll q.1 = .ok q.2 := by decide +kernel
/-- BenchMemoriesModel.image(I)I -/
def zp_189 : List (Nat × Instr × Nat) := [(0, .iload_n 1, 1), (1, .i2l, 1), (2, .lconst 0, 1), (3, .lconst 1, 1), (4, .invokestatic 79, 3), (7, .ifCond .ne 6, 3), (10, .bipush (-2), 2), (12, .ireturn, 1), (13, .aload_n 0, 1), (14, .bipush 100, 2), (16, .iload_n 1, 1), (17, .imul, 1), (18, .putfield 299, 3), (21, .aload_n 0, 1), (22, .iconst 1, 1), (23, .putfield 295, 3), (26, .aload_n 0, 1), (27, .invokevirtual 309, 3), (30, .aload_n 0, 1), (31, .getfield 74, 3), (34, .iload_n 1, 1), (35, .iconst 1, 1), (36, .bastore, 1), (37, .iconst 1, 1), (38, .ireturn, 1)]
theorem zd_189 : ∀ q ∈ zp_189, decode cX10_image q.1 = .ok q.2 := by decide +kernel
/-- BenchMemoriesModel.restore(I)I -/
def zp_190 : List (Nat × Instr × Nat) := [(0, .iload_n 1, 1), (1, .i2l, 1), (2, .lconst 0, 1), (3, .lconst 1, 1), (4, .invokestatic 79, 3), (7, .ifCond .ne 6, 3), (10, .bipush (-2), 2), (12, .ireturn, 1), (13, .aload_n 0, 1), (14, .getfield 74, 3), (17, .iload_n 1, 1), (18, .baload, 1), (19, .ifCond .ne 6, 3), (22, .bipush (-3), 2), (24, .ireturn, 1), (25, .aload_n 0, 1), (26, .bipush 100, 2), (28, .iload_n 1, 1), (29, .imul, 1), (30, .putfield 299, 3), (33, .aload_n 0, 1), (34, .iconst 0, 1), (35, .putfield 295, 3), (38, .aload_n 0, 1), (39, .invokevirtual 309, 3), (42, .iconst 1, 1), (43, .ireturn, 1)]
theorem zd_190 : ∀ q ∈ zp_190, decode cX10_restore q.1 = .ok q.2 := by decide +kernel
/-- BenchMemoriesModel.ofBenches(I)I -/
def zp_191 : List (Nat × Instr × Nat) := [(0, .iload_n 1, 1), (1, .bipush 10, 2), (3, .irem, 1), (4, .istore_n 2, 1), (5, .iload_n 1, 1), (6, .bipush 20, 2), (8, .if_icmp .ge 12, 3), (11, .aload_n 0, 1), (12, .getfield 7, 3), (15, .iload_n 2, 1), (16, .iaload, 1), (17, .goto 24, 3), (20, .iload_n 1, 1), (21, .bipush 30, 2), (23, .if_icmp .ge 12, 3), (26, .aload_n 0, 1), (27, .getfield 19, 3), (30, .iload_n 2, 1), (31, .iaload, 1), (32, .goto 9, 3), (35, .aload_n 0, 1), (36, .getfield 22, 3), (39, .iload_n 2, 1), (40, .iaload, 1), (41, .ireturn, 1)]
theorem zd_191 : ∀ q ∈ zp_191, decode cX10_ofBenches q.1 = .ok q.2 := by decide +kernel
/-- BenchMemoriesModel.ofOnes(I)I -/
def zp_192 : List (Nat × Instr × Nat) := [(0, .iload_n 1, 1), (1, .bipush 10, 2), (3, .irem, 1), (4, .istore_n 2, 1), (5, .iload_n 2, 1), (6, .invokestatic 99, 3), (9, .ifCond .ne 8, 3), (12, .bipush (-2), 2), (14, .goto 24, 3), (17, .iload_n 1, 1), (18, .bipush 50, 2), (20, .if_icmp .ge 12, 3), (23, .aload_n 0, 1), (24, .getfield 13, 3), (27, .iload_n 2, 1), (28, .iaload, 1), (29, .goto 9, 3), (32, .aload_n 0, 1), (33, .getfield 16, 3), (36, .iload_n 2, 1), (37, .iaload, 1), (38, .ireturn, 1)]
theorem zd_192 : ∀ q ∈ zp_192, decode cX10_ofOnes q.1 = .ok q.2 := by decide +kernel
end
section
set_option maxRecDepth 100000
/-- BenchMemoriesModel.ofAll(I)I -/
def zp_193 : List (Nat × Instr × Nat) := [(0, .iload_n 1, 1), (1, .ifCond .ne 10, 3), (4, .aload_n 0, 1), (5, .getfield 115, 3), (8, .goto 41, 3), (11, .iload_n 1, 1), (12, .iconst 1, 1), (13, .if_icmp .ne 10, 3), (16, .aload_n 0, 1), (17, .getfield 146, 3), (20, .goto 29, 3), (23, .iload_n 1, 1), (24, .iconst 2, 1), (25, .if_icmp .ne 10, 3), (28, .aload_n 0, 1), (29, .getfield 159, 3), (32, .goto 17, 3), (35, .iload_n 1, 1), (36, .iconst 3, 1), (37, .if_icmp .ne 10, 3), (40, .aload_n 0, 1), (41, .getfield 241, 3), (44, .goto 5, 3), (47, .bipush (-2), 2), (49, .ireturn, 1)]
theorem zd_193 : ∀ q ∈ zp_193, decode cX10_ofAll q.1 = .ok q.2 := by decide +kernel
/-- BenchMemoriesModel.told(I)I -/
def zp_194 : List (Nat × Instr × Nat) := [(0, .iload_n 1, 1), (1, .i2l, 1), (2, .ldc2_w 312, 3), (5, .ldc2_w 314, 3), (8, .invokestatic 79, 3), (11, .ifCond .eq 12, 3), (14, .aload_n 0, 1), (15, .iload_n 1, 1), (16, .bipush 100, 2), (18, .isub, 1), (19, .invokevirtual 102, 3), (22, .ireturn, 1), (23, .iload_n 1, 1), (24, .i2l, 1), (25, .ldc2_w 268, 3), (28, .ldc2_w 316, 3), (31, .invokestatic 79, 3), (34, .ifCond .eq 9, 3), (37, .aload_n 0, 1), (38, .iload_n 1, 1), (39, .invokevirtual 318, 3), (42, .ireturn, 1), (43, .iload_n 1, 1), (44, .i2l, 1), (45, .ldc2_w 261, 3), (48, .ldc2_w 321, 3), (51, .invokestatic 79, 3), (54, .ifCond .eq 11, 3), (57, .aload_n 0, 1), (58, .iload_n 1, 1), (59, .invokevirtual 323, 3), (62, .goto 8, 3), (65, .aload_n 0, 1), (66, .iload_n 1, 1), (67, .invokevirtual 326, 3), (70, .ireturn, 1)]
theorem zd_194 : ∀ q ∈ zp_194, decode cX10_told q.1 = .ok q.2 := by decide +kernel
/-- java/lang/Integer.numberOfTrailingZeros(I)I -/
def zp_195 : List (Nat × Instr × Nat) := [(0, .iload_n 0, 1), (1, .iconst (-1), 1), (2, .ixor, 1), (3, .iload_n 0, 1), (4, .iconst 1, 1), (5, .isub, 1), (6, .iand, 1), (7, .istore_n 0, 1), (8, .iload_n 0, 1), (9, .ifCond .gt 8, 3), (12, .iload_n 0, 1), (13, .bipush 32, 2), (15, .iand, 1), (16, .ireturn, 1), (17, .iconst 1, 1), (18, .istore_n 1, 1), (19, .iload_n 0, 1), (20, .ldc_w 264, 3), (23, .if_icmp .le 11, 3), (26, .iinc 1 16, 3), (29, .iload_n 0, 1), (30, .bipush 16, 2), (32, .iushr, 1), (33, .istore_n 0, 1), (34, .iload_n 0, 1), (35, .sipush 256, 3), (38, .if_icmp .le 11, 3), (41, .iinc 1 8, 3), (44, .iload_n 0, 1), (45, .bipush 8, 2), (47, .iushr, 1), (48, .istore_n 0, 1), (49, .iload_n 0, 1), (50, .bipush 16, 2), (52, .if_icmp .le 10, 3), (55, .iinc 1 4, 3), (58, .iload_n 0, 1), (59, .iconst 4, 1), (60, .iushr, 1), (61, .istore_n 0, 1), (62, .iload_n 0, 1), (63, .iconst 4, 1), (64, .if_icmp .le 10, 3), (67, .iinc 1 2, 3), (70, .iload_n 0, 1), (71, .iconst 2, 1), (72, .iushr, 1), (73, .istore_n 0, 1), (74, .iload_n 1, 1), (75, .iload_n 0, 1), (76, .iconst 1, 1), (77, .iushr, 1), (78, .iadd, 1), (79, .ireturn, 1)]
theorem zd_195 : ∀ q ∈ zp_195, decode cJ6_numberOfTrailingZeros_0f7a4 q.1 = .ok q.2 := by decide +kernel
/-- java/lang/Integer.bitCount(I)I -/
def zp_196 : List (Nat × Instr × Nat) := [(0, .iload_n 0, 1), (1, .iload_n 0, 1), (2, .iconst 1, 1), (3, .iushr, 1), (4, .ldc_w 265, 3), (7, .iand, 1), (8, .isub, 1), (9, .istore_n 0, 1), (10, .iload_n 0, 1), (11, .ldc_w 266, 3), (14, .iand, 1), (15, .iload_n 0, 1), (16, .iconst 2, 1), (17, .iushr, 1), (18, .ldc_w 266, 3), (21, .iand, 1), (22, .iadd, 1), (23, .istore_n 0, 1), (24, .iload_n 0, 1), (25, .iload_n 0, 1), (26, .iconst 4, 1), (27, .iushr, 1), (28, .iadd, 1), (29, .ldc_w 267, 3), (32, .iand, 1), (33, .istore_n 0, 1), (34, .iload_n 0, 1), (35, .iload_n 0, 1), (36, .bipush 8, 2), (38, .iushr, 1), (39, .iadd, 1), (40, .istore_n 0, 1), (41, .iload_n 0, 1), (42, .iload_n 0, 1), (43, .bipush 16, 2), (45, .iushr, 1), (46, .iadd, 1), (47, .istore_n 0, 1), (48, .iload_n 0, 1), (49, .bipush 63, 2), (51, .iand, 1), (52, .ireturn, 1)]
theorem zd_196 : ∀ q ∈ zp_196, decode cJ6_bitCount_0f7a4 q.1 = .ok q.2 := by decide +kernel
/-- java/lang/Long.numberOfTrailingZeros(J)I -/
def zp_197 : List (Nat × Instr × Nat) := [(0, .lload_n 0, 1), (1, .l2i, 1), (2, .istore_n 2, 1), (3, .iload_n 2, 1), (4, .ifCond .ne 17, 3), (7, .bipush 32, 2), (9, .lload_n 0, 1), (10, .bipush 32, 2), (12, .lushr, 1), (13, .l2i, 1), (14, .invokestatic 311, 3), (17, .iadd, 1), (18, .goto 7, 3), (21, .iload_n 2, 1), (22, .invokestatic 311, 3), (25, .ireturn, 1)]
theorem zd_197 : ∀ q ∈ zp_197, decode cJ13_numberOfTrailingZeros_95d88 q.1 = .ok q.2 := by decide +kernel
/-- java/util/Arrays.fill([II)V -/
def zp_198 : List (Nat × Instr × Nat) := [(0, .iconst 0, 1), (1, .istore_n 2, 1), (2, .aload_n 0, 1), (3, .arraylength, 1), (4, .istore_n 3, 1), (5, .iload_n 2, 1), (6, .iload_n 3, 1), (7, .if_icmp .ge 13, 3), (10, .aload_n 0, 1), (11, .iload_n 2, 1), (12, .iload_n 1, 1), (13, .iastore, 1), (14, .iinc 2 1, 3), (17, .goto (-12), 3), (20, .return_, 1)]
theorem zd_198 : ∀ q ∈ zp_198, decode cJ7_fill_53178 q.1 = .ok q.2 := by decide +kernel
def zp_199_0 : List (Nat × Instr × Nat) := [(0, .new 7, 3), (3, .dup, 1), (4, .invokespecial 9, 3), (7, .astore_n 1, 1), (8, .new 10, 3), (11, .dup, 1), (12, .invokespecial 12, 3), (15, .astore_n 2, 1), (16, .iconst 0, 1), (17, .istore_n 3, 1), (18, .iload_n 3, 1), (19, .aload_n 0, 1), (20, .arraylength, 1), (21, .iconst 5, 1), (22, .isub, 1), (23, .if_icmp .gt 1017, 3), (26, .aload_n 0, 1), (27, .iload_n 3, 1), (28, .iaload, 1), (29, .bipush 31, 2), (31, .iand, 1), (32, .tableswitch 1002 0 28 #[132, 191, 224, 257, 300, 323, 346, 359, 372, 395, 428, 461, 494, 507, 520, 553, 586, 619, 652, 685, 744, 757, 780, 803, 836, 890, 933, 956, 979], 132), (164, .aload_n 1, 1), (165, .aload_n 0, 1), (166, .iload_n 3, 1), (167, .iconst 1, 1), (168, .iadd, 1), (169, .iaload, 1), (170, .aload_n 0, 1), (171, .iload_n 3, 1), (172, .iconst 2, 1), (173, .iadd, 1), (174, .iaload, 1), (175, .aload_n 0, 1), (176, .iload_n 3, 1), (177, .iconst 3, 1), (178, .iadd, 1), (179, .iaload, 1), (180, .ifCond .eq 7, 3), (183, .iconst 1, 1), (184, .goto 4, 3), (187, .iconst 0, 1), (188, .invokevirtual 13, 3), (191, .aload_n 2, 1), (192, .aload_n 0, 1), (193, .iload_n 3, 1), (194, .iconst 1, 1), (195, .iadd, 1), (196, .iaload, 1), (197, .aload_n 0, 1), (198, .iload_n 3, 1), (199, .iconst 2, 1), (200, .iadd, 1), (201, .iaload, 1), (202, .aload_n 0, 1), (203, .iload_n 3, 1), (204, .iconst 3, 1), (205, .iadd, 1), (206, .iaload, 1), (207, .ifCond .eq 7, 3)]
theorem zd_199_0 : ∀ q ∈ zp_199_0, decode cL_law q.1 = .ok q.2 := by decide +kernel
def zp_199_1 : List (Nat × Instr × Nat) := [(210, .iconst 1, 1), (211, .goto 4, 3), (214, .iconst 0, 1), (215, .invokevirtual 17, 3), (218, .if_icmp .eq 816, 3), (221, .iconst 0, 1), (222, .ireturn, 1), (223, .aload_n 1, 1), (224, .aload_n 0, 1), (225, .iload_n 3, 1), (226, .iconst 1, 1), (227, .iadd, 1), (228, .iaload, 1), (229, .aload_n 0, 1), (230, .iload_n 3, 1), (231, .iconst 2, 1), (232, .iadd, 1), (233, .iaload, 1), (234, .invokevirtual 18, 3), (237, .aload_n 2, 1), (238, .aload_n 0, 1), (239, .iload_n 3, 1), (240, .iconst 1, 1), (241, .iadd, 1), (242, .iaload, 1), (243, .aload_n 0, 1), (244, .iload_n 3, 1), (245, .iconst 2, 1), (246, .iadd, 1), (247, .iaload, 1), (248, .invokevirtual 22, 3), (251, .if_icmp .eq 783, 3), (254, .iconst 0, 1), (255, .ireturn, 1), (256, .aload_n 1, 1), (257, .aload_n 0, 1), (258, .iload_n 3, 1), (259, .iconst 1, 1), (260, .iadd, 1), (261, .iaload, 1), (262, .aload_n 0, 1), (263, .iload_n 3, 1), (264, .iconst 2, 1), (265, .iadd, 1), (266, .iaload, 1), (267, .invokevirtual 23, 3), (270, .aload_n 2, 1), (271, .aload_n 0, 1), (272, .iload_n 3, 1), (273, .iconst 1, 1), (274, .iadd, 1), (275, .iaload, 1), (276, .aload_n 0, 1), (277, .iload_n 3, 1), (278, .iconst 2, 1), (279, .iadd, 1), (280, .iaload, 1), (281, .invokevirtual 26, 3), (284, .if_icmp .eq 750, 3), (287, .iconst 0, 1)]
theorem zd_199_1 : ∀ q ∈ zp_199_1, decode cL_law q.1 = .ok q.2 := by decide +kernel
def zp_199_2 : List (Nat × Instr × Nat) := [(288, .ireturn, 1), (289, .aload_n 1, 1), (290, .aload_n 0, 1), (291, .iload_n 3, 1), (292, .iconst 1, 1), (293, .iadd, 1), (294, .iaload, 1), (295, .aload_n 0, 1), (296, .iload_n 3, 1), (297, .iconst 2, 1), (298, .iadd, 1), (299, .iaload, 1), (300, .aload_n 0, 1), (301, .iload_n 3, 1), (302, .iconst 3, 1), (303, .iadd, 1), (304, .iaload, 1), (305, .invokevirtual 27, 3), (308, .aload_n 2, 1), (309, .aload_n 0, 1), (310, .iload_n 3, 1), (311, .iconst 1, 1), (312, .iadd, 1), (313, .iaload, 1), (314, .aload_n 0, 1), (315, .iload_n 3, 1), (316, .iconst 2, 1), (317, .iadd, 1), (318, .iaload, 1), (319, .aload_n 0, 1), (320, .iload_n 3, 1), (321, .iconst 3, 1), (322, .iadd, 1), (323, .iaload, 1), (324, .invokevirtual 31, 3), (327, .if_icmp .eq 707, 3), (330, .iconst 0, 1), (331, .ireturn, 1), (332, .aload_n 1, 1), (333, .aload_n 0, 1), (334, .iload_n 3, 1), (335, .iconst 1, 1), (336, .iadd, 1), (337, .iaload, 1), (338, .invokevirtual 32, 3), (341, .aload_n 2, 1), (342, .aload_n 0, 1), (343, .iload_n 3, 1), (344, .iconst 1, 1), (345, .iadd, 1), (346, .iaload, 1), (347, .invokevirtual 36, 3), (350, .if_icmp .eq 684, 3), (353, .iconst 0, 1), (354, .ireturn, 1), (355, .aload_n 1, 1), (356, .aload_n 0, 1), (357, .iload_n 3, 1), (358, .iconst 1, 1), (359, .iadd, 1)]
theorem zd_199_2 : ∀ q ∈ zp_199_2, decode cL_law q.1 = .ok q.2 := by decide +kernel
def zp_199_3 : List (Nat × Instr × Nat) := [(360, .iaload, 1), (361, .invokevirtual 37, 3), (364, .aload_n 2, 1), (365, .aload_n 0, 1), (366, .iload_n 3, 1), (367, .iconst 1, 1), (368, .iadd, 1), (369, .iaload, 1), (370, .invokevirtual 40, 3), (373, .if_icmp .eq 661, 3), (376, .iconst 0, 1), (377, .ireturn, 1), (378, .aload_n 1, 1), (379, .invokevirtual 41, 3), (382, .aload_n 2, 1), (383, .invokevirtual 45, 3), (386, .if_icmp .eq 648, 3), (389, .iconst 0, 1), (390, .ireturn, 1), (391, .aload_n 1, 1), (392, .invokevirtual 46, 3), (395, .aload_n 2, 1), (396, .invokevirtual 49, 3), (399, .if_icmp .eq 635, 3), (402, .iconst 0, 1), (403, .ireturn, 1), (404, .aload_n 1, 1), (405, .aload_n 0, 1), (406, .iload_n 3, 1), (407, .iconst 1, 1), (408, .iadd, 1), (409, .iaload, 1), (410, .invokevirtual 50, 3), (413, .aload_n 2, 1), (414, .aload_n 0, 1), (415, .iload_n 3, 1), (416, .iconst 1, 1), (417, .iadd, 1), (418, .iaload, 1), (419, .invokevirtual 53, 3), (422, .if_icmp .eq 612, 3), (425, .iconst 0, 1), (426, .ireturn, 1), (427, .aload_n 1, 1), (428, .aload_n 0, 1), (429, .iload_n 3, 1), (430, .iconst 1, 1), (431, .iadd, 1), (432, .iaload, 1), (433, .aload_n 0, 1), (434, .iload_n 3, 1), (435, .iconst 2, 1), (436, .iadd, 1), (437, .iaload, 1), (438, .invokevirtual 54, 3), (441, .aload_n 2, 1), (442, .aload_n 0, 1), (443, .iload_n 3, 1), (444, .iconst 1, 1), (445, .iadd, 1)]
theorem zd_199_3 : ∀ q ∈ zp_199_3, decode cL_law q.1 = .ok q.2 := by decide +kernel
def zp_199_4 : List (Nat × Instr × Nat) := [(446, .iaload, 1), (447, .aload_n 0, 1), (448, .iload_n 3, 1), (449, .iconst 2, 1), (450, .iadd, 1), (451, .iaload, 1), (452, .invokevirtual 57, 3), (455, .if_icmp .eq 579, 3), (458, .iconst 0, 1), (459, .ireturn, 1), (460, .aload_n 1, 1), (461, .aload_n 0, 1), (462, .iload_n 3, 1), (463, .iconst 1, 1), (464, .iadd, 1), (465, .iaload, 1), (466, .aload_n 0, 1), (467, .iload_n 3, 1), (468, .iconst 2, 1), (469, .iadd, 1), (470, .iaload, 1), (471, .invokevirtual 58, 3), (474, .aload_n 2, 1), (475, .aload_n 0, 1), (476, .iload_n 3, 1), (477, .iconst 1, 1), (478, .iadd, 1), (479, .iaload, 1), (480, .aload_n 0, 1), (481, .iload_n 3, 1), (482, .iconst 2, 1), (483, .iadd, 1), (484, .iaload, 1), (485, .invokevirtual 61, 3), (488, .if_icmp .eq 546, 3), (491, .iconst 0, 1), (492, .ireturn, 1), (493, .aload_n 1, 1), (494, .aload_n 0, 1), (495, .iload_n 3, 1), (496, .iconst 1, 1), (497, .iadd, 1), (498, .iaload, 1), (499, .aload_n 0, 1), (500, .iload_n 3, 1), (501, .iconst 2, 1), (502, .iadd, 1), (503, .iaload, 1), (504, .invokevirtual 62, 3), (507, .aload_n 2, 1), (508, .aload_n 0, 1), (509, .iload_n 3, 1), (510, .iconst 1, 1), (511, .iadd, 1), (512, .iaload, 1), (513, .aload_n 0, 1), (514, .iload_n 3, 1), (515, .iconst 2, 1), (516, .iadd, 1), (517, .iaload, 1)]
theorem zd_199_4 : ∀ q ∈ zp_199_4, decode cL_law q.1 = .ok q.2 := by decide +kernel
def zp_199_5 : List (Nat × Instr × Nat) := [(518, .invokevirtual 65, 3), (521, .if_icmp .eq 513, 3), (524, .iconst 0, 1), (525, .ireturn, 1), (526, .aload_n 1, 1), (527, .invokevirtual 66, 3), (530, .aload_n 2, 1), (531, .invokevirtual 69, 3), (534, .if_icmp .eq 500, 3), (537, .iconst 0, 1), (538, .ireturn, 1), (539, .aload_n 1, 1), (540, .invokevirtual 70, 3), (543, .aload_n 2, 1), (544, .invokevirtual 73, 3), (547, .if_icmp .eq 487, 3), (550, .iconst 0, 1), (551, .ireturn, 1), (552, .aload_n 1, 1), (553, .aload_n 0, 1), (554, .iload_n 3, 1), (555, .iconst 1, 1), (556, .iadd, 1), (557, .iaload, 1), (558, .aload_n 0, 1), (559, .iload_n 3, 1), (560, .iconst 2, 1), (561, .iadd, 1), (562, .iaload, 1), (563, .invokevirtual 74, 3), (566, .aload_n 2, 1), (567, .aload_n 0, 1), (568, .iload_n 3, 1), (569, .iconst 1, 1), (570, .iadd, 1), (571, .iaload, 1), (572, .aload_n 0, 1), (573, .iload_n 3, 1), (574, .iconst 2, 1), (575, .iadd, 1), (576, .iaload, 1), (577, .invokevirtual 77, 3), (580, .if_icmp .eq 454, 3), (583, .iconst 0, 1), (584, .ireturn, 1), (585, .aload_n 1, 1), (586, .aload_n 0, 1), (587, .iload_n 3, 1), (588, .iconst 1, 1), (589, .iadd, 1), (590, .iaload, 1), (591, .aload_n 0, 1), (592, .iload_n 3, 1), (593, .iconst 2, 1), (594, .iadd, 1), (595, .iaload, 1), (596, .invokevirtual 78, 3), (599, .aload_n 2, 1), (600, .aload_n 0, 1), (601, .iload_n 3, 1)]
theorem zd_199_5 : ∀ q ∈ zp_199_5, decode cL_law q.1 = .ok q.2 := by decide +kernel
def zp_199_6 : List (Nat × Instr × Nat) := [(602, .iconst 1, 1), (603, .iadd, 1), (604, .iaload, 1), (605, .aload_n 0, 1), (606, .iload_n 3, 1), (607, .iconst 2, 1), (608, .iadd, 1), (609, .iaload, 1), (610, .invokevirtual 81, 3), (613, .if_icmp .eq 421, 3), (616, .iconst 0, 1), (617, .ireturn, 1), (618, .aload_n 1, 1), (619, .aload_n 0, 1), (620, .iload_n 3, 1), (621, .iconst 1, 1), (622, .iadd, 1), (623, .iaload, 1), (624, .aload_n 0, 1), (625, .iload_n 3, 1), (626, .iconst 2, 1), (627, .iadd, 1), (628, .iaload, 1), (629, .invokevirtual 82, 3), (632, .aload_n 2, 1), (633, .aload_n 0, 1), (634, .iload_n 3, 1), (635, .iconst 1, 1), (636, .iadd, 1), (637, .iaload, 1), (638, .aload_n 0, 1), (639, .iload_n 3, 1), (640, .iconst 2, 1), (641, .iadd, 1), (642, .iaload, 1), (643, .invokevirtual 85, 3), (646, .if_icmp .eq 388, 3), (649, .iconst 0, 1), (650, .ireturn, 1), (651, .aload_n 1, 1), (652, .aload_n 0, 1), (653, .iload_n 3, 1), (654, .iconst 1, 1), (655, .iadd, 1), (656, .iaload, 1), (657, .aload_n 0, 1), (658, .iload_n 3, 1), (659, .iconst 2, 1), (660, .iadd, 1), (661, .iaload, 1), (662, .invokevirtual 86, 3), (665, .aload_n 2, 1), (666, .aload_n 0, 1), (667, .iload_n 3, 1), (668, .iconst 1, 1), (669, .iadd, 1), (670, .iaload, 1), (671, .aload_n 0, 1), (672, .iload_n 3, 1), (673, .iconst 2, 1)]
theorem zd_199_6 : ∀ q ∈ zp_199_6, decode cL_law q.1 = .ok q.2 := by decide +kernel
def zp_199_7 : List (Nat × Instr × Nat) := [(674, .iadd, 1), (675, .iaload, 1), (676, .invokevirtual 89, 3), (679, .if_icmp .eq 355, 3), (682, .iconst 0, 1), (683, .ireturn, 1), (684, .aload_n 1, 1), (685, .aload_n 0, 1), (686, .iload_n 3, 1), (687, .iconst 1, 1), (688, .iadd, 1), (689, .iaload, 1), (690, .aload_n 0, 1), (691, .iload_n 3, 1), (692, .iconst 2, 1), (693, .iadd, 1), (694, .iaload, 1), (695, .invokevirtual 90, 3), (698, .aload_n 2, 1), (699, .aload_n 0, 1), (700, .iload_n 3, 1), (701, .iconst 1, 1), (702, .iadd, 1), (703, .iaload, 1), (704, .aload_n 0, 1), (705, .iload_n 3, 1), (706, .iconst 2, 1), (707, .iadd, 1), (708, .iaload, 1), (709, .invokevirtual 93, 3), (712, .if_icmp .eq 322, 3), (715, .iconst 0, 1), (716, .ireturn, 1), (717, .aload_n 1, 1), (718, .aload_n 0, 1), (719, .iload_n 3, 1), (720, .iconst 1, 1), (721, .iadd, 1), (722, .iaload, 1), (723, .aload_n 0, 1), (724, .iload_n 3, 1), (725, .iconst 2, 1), (726, .iadd, 1), (727, .iaload, 1), (728, .aload_n 0, 1), (729, .iload_n 3, 1), (730, .iconst 3, 1), (731, .iadd, 1), (732, .iaload, 1), (733, .ifCond .eq 7, 3), (736, .iconst 1, 1), (737, .goto 4, 3), (740, .iconst 0, 1), (741, .invokevirtual 94, 3), (744, .aload_n 2, 1), (745, .aload_n 0, 1), (746, .iload_n 3, 1), (747, .iconst 1, 1), (748, .iadd, 1), (749, .iaload, 1)]
theorem zd_199_7 : ∀ q ∈ zp_199_7, decode cL_law q.1 = .ok q.2 := by decide +kernel
def zp_199_8 : List (Nat × Instr × Nat) := [(750, .aload_n 0, 1), (751, .iload_n 3, 1), (752, .iconst 2, 1), (753, .iadd, 1), (754, .iaload, 1), (755, .aload_n 0, 1), (756, .iload_n 3, 1), (757, .iconst 3, 1), (758, .iadd, 1), (759, .iaload, 1), (760, .ifCond .eq 7, 3), (763, .iconst 1, 1), (764, .goto 4, 3), (767, .iconst 0, 1), (768, .invokevirtual 97, 3), (771, .if_icmp .eq 263, 3), (774, .iconst 0, 1), (775, .ireturn, 1), (776, .aload_n 1, 1), (777, .invokevirtual 98, 3), (780, .aload_n 2, 1), (781, .invokevirtual 101, 3), (784, .if_icmp .eq 250, 3), (787, .iconst 0, 1), (788, .ireturn, 1), (789, .aload_n 1, 1), (790, .aload_n 0, 1), (791, .iload_n 3, 1), (792, .iconst 1, 1), (793, .iadd, 1), (794, .iaload, 1), (795, .invokevirtual 102, 3), (798, .aload_n 2, 1), (799, .aload_n 0, 1), (800, .iload_n 3, 1), (801, .iconst 1, 1), (802, .iadd, 1), (803, .iaload, 1), (804, .invokevirtual 105, 3), (807, .if_icmp .eq 227, 3), (810, .iconst 0, 1), (811, .ireturn, 1), (812, .aload_n 1, 1), (813, .aload_n 0, 1), (814, .iload_n 3, 1), (815, .iconst 1, 1), (816, .iadd, 1), (817, .iaload, 1), (818, .invokevirtual 106, 3), (821, .aload_n 2, 1), (822, .aload_n 0, 1), (823, .iload_n 3, 1), (824, .iconst 1, 1), (825, .iadd, 1), (826, .iaload, 1), (827, .invokevirtual 109, 3), (830, .if_icmp .eq 204, 3), (833, .iconst 0, 1), (834, .ireturn, 1), (835, .aload_n 1, 1)]
theorem zd_199_8 : ∀ q ∈ zp_199_8, decode cL_law q.1 = .ok q.2 := by decide +kernel
def zp_199_9 : List (Nat × Instr × Nat) := [(836, .aload_n 0, 1), (837, .iload_n 3, 1), (838, .iconst 1, 1), (839, .iadd, 1), (840, .iaload, 1), (841, .aload_n 0, 1), (842, .iload_n 3, 1), (843, .iconst 2, 1), (844, .iadd, 1), (845, .iaload, 1), (846, .invokevirtual 110, 3), (849, .aload_n 2, 1), (850, .aload_n 0, 1), (851, .iload_n 3, 1), (852, .iconst 1, 1), (853, .iadd, 1), (854, .iaload, 1), (855, .aload_n 0, 1), (856, .iload_n 3, 1), (857, .iconst 2, 1), (858, .iadd, 1), (859, .iaload, 1), (860, .invokevirtual 113, 3), (863, .if_icmp .eq 171, 3), (866, .iconst 0, 1), (867, .ireturn, 1), (868, .aload_n 1, 1), (869, .aload_n 0, 1), (870, .iload_n 3, 1), (871, .iconst 1, 1), (872, .iadd, 1), (873, .iaload, 1), (874, .aload_n 0, 1), (875, .iload_n 3, 1), (876, .iconst 2, 1), (877, .iadd, 1), (878, .iaload, 1), (879, .aload_n 0, 1), (880, .iload_n 3, 1), (881, .iconst 3, 1), (882, .iadd, 1), (883, .iaload, 1), (884, .aload_n 0, 1), (885, .iload_n 3, 1), (886, .iconst 4, 1), (887, .iadd, 1), (888, .iaload, 1), (889, .invokevirtual 114, 3), (892, .aload_n 2, 1), (893, .aload_n 0, 1), (894, .iload_n 3, 1), (895, .iconst 1, 1), (896, .iadd, 1), (897, .iaload, 1), (898, .aload_n 0, 1), (899, .iload_n 3, 1), (900, .iconst 2, 1), (901, .iadd, 1), (902, .iaload, 1), (903, .aload_n 0, 1)]
theorem zd_199_9 : ∀ q ∈ zp_199_9, decode cL_law q.1 = .ok q.2 := by decide +kernel
def zp_199_10 : List (Nat × Instr × Nat) := [(904, .iload_n 3, 1), (905, .iconst 3, 1), (906, .iadd, 1), (907, .iaload, 1), (908, .aload_n 0, 1), (909, .iload_n 3, 1), (910, .iconst 4, 1), (911, .iadd, 1), (912, .iaload, 1), (913, .invokevirtual 118, 3), (916, .lcmp, 1), (917, .ifCond .eq 117, 3), (920, .iconst 0, 1), (921, .ireturn, 1), (922, .aload_n 1, 1), (923, .aload_n 0, 1), (924, .iload_n 3, 1), (925, .iconst 1, 1), (926, .iadd, 1), (927, .iaload, 1), (928, .aload_n 0, 1), (929, .iload_n 3, 1), (930, .iconst 2, 1), (931, .iadd, 1), (932, .iaload, 1), (933, .aload_n 0, 1), (934, .iload_n 3, 1), (935, .iconst 3, 1), (936, .iadd, 1), (937, .iaload, 1), (938, .invokevirtual 119, 3), (941, .aload_n 2, 1), (942, .aload_n 0, 1), (943, .iload_n 3, 1), (944, .iconst 1, 1), (945, .iadd, 1), (946, .iaload, 1), (947, .aload_n 0, 1), (948, .iload_n 3, 1), (949, .iconst 2, 1), (950, .iadd, 1), (951, .iaload, 1), (952, .aload_n 0, 1), (953, .iload_n 3, 1), (954, .iconst 3, 1), (955, .iadd, 1), (956, .iaload, 1), (957, .invokevirtual 122, 3), (960, .if_icmp .eq 74, 3), (963, .iconst 0, 1), (964, .ireturn, 1), (965, .aload_n 1, 1), (966, .aload_n 0, 1), (967, .iload_n 3, 1), (968, .iconst 1, 1), (969, .iadd, 1), (970, .iaload, 1), (971, .invokevirtual 123, 3), (974, .aload_n 2, 1), (975, .aload_n 0, 1)]
theorem zd_199_10 : ∀ q ∈ zp_199_10, decode cL_law q.1 = .ok q.2 := by decide +kernel
def zp_199_11 : List (Nat × Instr × Nat) := [(976, .iload_n 3, 1), (977, .iconst 1, 1), (978, .iadd, 1), (979, .iaload, 1), (980, .invokevirtual 126, 3), (983, .if_icmp .eq 51, 3), (986, .iconst 0, 1), (987, .ireturn, 1), (988, .aload_n 1, 1), (989, .aload_n 0, 1), (990, .iload_n 3, 1), (991, .iconst 1, 1), (992, .iadd, 1), (993, .iaload, 1), (994, .invokevirtual 127, 3), (997, .aload_n 2, 1), (998, .aload_n 0, 1), (999, .iload_n 3, 1), (1000, .iconst 1, 1), (1001, .iadd, 1), (1002, .iaload, 1), (1003, .invokevirtual 130, 3), (1006, .if_icmp .eq 28, 3), (1009, .iconst 0, 1), (1010, .ireturn, 1), (1011, .aload_n 1, 1), (1012, .aload_n 0, 1), (1013, .iload_n 3, 1), (1014, .iconst 1, 1), (1015, .iadd, 1), (1016, .iaload, 1), (1017, .invokevirtual 131, 3), (1020, .aload_n 2, 1), (1021, .aload_n 0, 1), (1022, .iload_n 3, 1), (1023, .iconst 1, 1), (1024, .iadd, 1), (1025, .iaload, 1), (1026, .invokevirtual 134, 3), (1029, .if_icmp .eq 5, 3), (1032, .iconst 0, 1), (1033, .ireturn, 1), (1034, .iinc 3 5, 3), (1037, .goto (-1019), 3), (1040, .iconst 1, 1), (1041, .ireturn, 1)]
theorem zd_199_11 : ∀ q ∈ zp_199_11, decode cL_law q.1 = .ok q.2 := by decide +kernel
def zp_199 : List (Nat × Instr × Nat) := zp_199_0 ++ (zp_199_1 ++ (zp_199_2 ++ (zp_199_3 ++ (zp_199_4 ++ (zp_199_5 ++ (zp_199_6 ++ (zp_199_7 ++ (zp_199_8 ++ (zp_199_9 ++ (zp_199_10 ++ (zp_199_11)))))))))))
theorem zd_199 : ∀ q ∈ zp_199, decode cL_law q.1 = .ok q.2 := List.forall_mem_append.mpr ⟨zd_199_0, List.forall_mem_append.mpr ⟨zd_199_1, List.forall_mem_append.mpr ⟨zd_199_2, List.forall_mem_append.mpr ⟨zd_199_3, List.forall_mem_append.mpr ⟨zd_199_4, List.forall_mem_append.mpr ⟨zd_199_5, List.forall_mem_append.mpr ⟨zd_199_6, List.forall_mem_append.mpr ⟨zd_199_7, List.forall_mem_append.mpr ⟨zd_199_8, List.forall_mem_append.mpr ⟨zd_199_9, List.forall_mem_append.mpr ⟨zd_199_10, zd_199_11⟩⟩⟩⟩⟩⟩⟩⟩⟩⟩⟩
end
section
set_option maxRecDepth 100000
/-! the methods: name, bytes, locals, what is returned, parameters, whose, kind (0 of an object, 1 static, 2 a constructor), the program -/
abbrev zM : Type := MethodName × ByteArray × Nat × Option FieldType × Nat × Nat × Nat × List (Nat × Instr × Nat)
def zm_0 : zM := (yX0_init, cX0_init, 1, none, 0, 0, 2, zp_0)
def zm_1 : zM := (yX0_tryOut, cX0_tryOut, 8, (some .int), 2, 0, 0, zp_1)
def zm_2 : zM := (yX0_begin, cX0_begin, 2, none, 1, 0, 0, zp_2)
def zm_3 : zM := (yX0_tryAct, cX0_tryAct, 5, none, 3, 0, 0, zp_3)
def zm_4 : zM := (yX0_countHand, cX0_countHand, 2, none, 1, 0, 0, zp_4)
def zm_5 : zM := (yX0_mostHanded, cX0_mostHanded, 4, (some .int), 0, 0, 0, zp_5)
def zm_6 : zM := (yX0_drift, cX0_drift, 6, none, 3, 0, 0, zp_6)
def zm_7 : zM := (yX0_drawAct, cX0_drawAct, 6, none, 3, 0, 0, zp_7)
def zm_8 : zM := (yX0_actByLot, cX0_actByLot, 1, (some .int), 1, 0, 1, zp_8)
def zm_9 : zM := (yX1_init, cX1_init, 2, none, 0, 1, 2, zp_9)
def zm_10 : zM := (yX1_copyFrom, cX1_copyFrom, 2, none, 1, 1, 0, zp_10)
def zm_11 : zM := (yX1_waysFrom, cX1_waysFrom, 2, (some .int), 1, 1, 0, zp_11)
def zm_12 : zM := (yX1_setWay, cX1_setWay, 6, none, 3, 1, 0, zp_12)
def zm_13 : zM := (yX1_countWays, cX1_countWays, 3, (some .int), 0, 1, 0, zp_13)
def zm_14 : zM := (yX1_neighboursOf, cX1_neighboursOf, 4, (some .int), 1, 1, 0, zp_14)
def zm_15 : zM := (yX1_stepsBetween, cX1_stepsBetween, 5, (some .int), 2, 1, 0, zp_15)
def zm_16 : zM := (yX1_reachableFrom, cX1_reachableFrom, 4, (some .int), 1, 1, 0, zp_16)
def zm_17 : zM := (yX1_hasCushion, cX1_hasCushion, 2, (some .boolean), 1, 1, 0, zp_17)
def zm_18 : zM := (yX1_benchOf, cX1_benchOf, 2, (some .int), 1, 1, 0, zp_18)
def zm_19 : zM := (yX1_placeOf, cX1_placeOf, 2, (some .int), 1, 1, 0, zp_19)
def zm_20 : zM := (yX1_heldBy, cX1_heldBy, 2, (some .int), 1, 1, 0, zp_20)
def zm_21 : zM := (yX1_lyingOn, cX1_lyingOn, 2, (some .int), 1, 1, 0, zp_21)
def zm_22 : zM := (yX1_memoryAt, cX1_memoryAt, 3, (some .int), 1, 1, 0, zp_22)
def zm_23 : zM := (yX1_freshOn, cX1_freshOn, 3, (some .int), 1, 1, 0, zp_23)
def zm_24 : zM := (yX1_standAt, cX1_standAt, 3, none, 2, 1, 0, zp_24)
def zm_25 : zM := (yX1_putWith, cX1_putWith, 3, none, 2, 1, 0, zp_25)
def zm_26 : zM := (yX1_makeNowhere, cX1_makeNowhere, 2, none, 1, 1, 0, zp_26)
def zm_27 : zM := (yX1_putOn, cX1_putOn, 4, none, 3, 1, 0, zp_27)
def zm_28 : zM := (yX1_countNowhere, cX1_countNowhere, 3, (some .int), 0, 1, 0, zp_28)
def zm_29 : zM := (yX1_countOnBenches, cX1_countOnBenches, 3, (some .int), 0, 1, 0, zp_29)
def zm_30 : zM := (yX1_whyNot, cX1_whyNot, 4, (some .int), 3, 1, 0, zp_30)
def zm_31 : zM := (yX1_whyNotSit, cX1_whyNotSit, 3, (some .int), 1, 1, 0, zp_31)
def zm_32 : zM := (yX1_whyNotChange, cX1_whyNotChange, 3, (some .int), 2, 1, 0, zp_32)
def zm_33 : zM := (yX1_carryOut, cX1_carryOut, 4, none, 3, 1, 0, zp_33)
def zm_34 : zM := (yX1_sitDown, cX1_sitDown, 5, none, 1, 1, 0, zp_34)
def zm_35 : zM := (yX1_swap, cX1_swap, 5, none, 2, 1, 0, zp_35)
def zm_36 : zM := (yX1_endDay, cX1_endDay, 3, none, 0, 1, 0, zp_36)
def zm_37 : zM := (yX1_addSight, cX1_addSight, 4, none, 3, 1, 0, zp_37)
def zm_38 : zM := (yX1_dropSights, cX1_dropSights, 1, none, 0, 1, 0, zp_38)
def zm_39 : zM := (yX1_allSeenSo, cX1_allSeenSo, 8, (some .boolean), 2, 1, 0, zp_39)
def zm_40 : zM := (yX2_init, cX2_init, 1, none, 0, 2, 2, zp_40)
def zm_41 : zM := (yX2_read, cX2_read, 5, (some .boolean), 1, 2, 0, zp_41)
def zm_42 : zM := (yX2_sittingsLeft, cX2_sittingsLeft, 7, (some .int), 0, 2, 0, zp_42)
def zm_43 : zM := (yX2_firstSitting, cX2_firstSitting, 4, (some .int), 0, 2, 0, zp_43)
def zm_44 : zM := (yX2_swapWith, cX2_swapWith, 3, none, 1, 2, 0, zp_44)
def zm_45 : zM := (yX3_init, cX3_init, 1, none, 0, 3, 2, zp_45)
def zm_46 : zM := (yX3_append, cX3_append, 2, none, 1, 3, 0, zp_46)
def zm_47 : zM := (yX3_empty, cX3_empty, 1, none, 0, 3, 0, zp_47)
def zm_48 : zM := (yX3_firstFault, cX3_firstFault, 3, (some .int), 0, 3, 0, zp_48)
def zm_49 : zM := (yX3_dueBehind, cX3_dueBehind, 2, (some .int), 2, 3, 1, zp_49)
def zm_50 : zM := (yX3_dueBehindStart, cX3_dueBehindStart, 1, (some .int), 1, 3, 1, zp_50)
def zm_51 : zM := (yX3_dueBehindDeed, cX3_dueBehindDeed, 1, (some .int), 1, 3, 1, zp_51)
def zm_52 : zM := (yX3_actEndedBy, cX3_actEndedBy, 2, (some .int), 2, 3, 1, zp_52)
def zm_53 : zM := (yX3_targetOf, cX3_targetOf, 1, (some .int), 1, 3, 1, zp_53)
def zm_54 : zM := (yX4_init, cX4_init, 1, none, 0, 4, 2, zp_54)
def zm_55 : zM := (yX4_shortest, cX4_shortest, 7, (some .int), 3, 4, 0, zp_55)
def zm_56 : zM := (yX4_gatherStops, cX4_gatherStops, 4, none, 2, 4, 0, zp_56)
def zm_57 : zM := (yX4_measureLegs, cX4_measureLegs, 5, none, 1, 4, 0, zp_57)
def zm_58 : zM := (yX4_cheapest, cX4_cheapest, 6, (some .int), 2, 4, 0, zp_58)
def zm_59 : zM := (yX5_init, cX5_init, 2, none, 1, 5, 2, zp_59)
def zm_60 : zM := (yX5_at, cX5_at, 2, (some .int), 1, 5, 0, zp_60)
def zm_61 : zM := (yX5_put, cX5_put, 3, none, 2, 5, 0, zp_61)
def zm_62 : zM := (yX5_fillWith, cX5_fillWith, 2, none, 1, 5, 0, zp_62)
def zm_63 : zM := (yX5_copyFrom, cX5_copyFrom, 2, none, 1, 5, 0, zp_63)
def zm_64 : zM := (yX6_init, cX6_init, 1, none, 0, 6, 2, zp_64)
def zm_65 : zM := (yX6_sift, cX6_sift, 4, none, 1, 6, 0, zp_65)
def zm_66 : zM := (yX6_holder, cX6_holder, 4, (some .int), 3, 6, 1, zp_66)
def zm_67 : zM := (yX6_chooseQuestion, cX6_chooseQuestion, 4, none, 0, 6, 0, zp_67)
def zm_68 : zM := (yX6_countHolders, cX6_countHolders, 4, none, 1, 6, 0, zp_68)
def zm_69 : zM := (yX7_init, cX7_init, 5, none, 0, 7, 2, zp_69)
def zm_70 : zM := (yX7_worthBehind, cX7_worthBehind, 3, (some .int), 2, 7, 0, zp_70)
def zm_71 : zM := (yX7_winningBench, cX7_winningBench, 3, (some .int), 1, 7, 0, zp_71)
def zm_72 : zM := (yX8_init, cX8_init, 1, none, 0, 8, 2, zp_72)
def zm_73 : zM := (yX8_explore, cX8_explore, 4, none, 2, 8, 0, zp_73)
def zm_74 : zM := (yX8_startsOf, cX8_startsOf, 7, (some .int), 2, 8, 0, zp_74)
def zm_75 : zM := (yX8_longestFrom, cX8_longestFrom, 4, (some .int), 1, 8, 0, zp_75)
def zm_76 : zM := (yX8_firstFrom, cX8_firstFrom, 9, (some .int), 3, 8, 0, zp_76)
def zm_77 : zM := (yX8_startsOfWalks, cX8_startsOfWalks, 5, (some .int), 2, 8, 0, zp_77)
def zm_78 : zM := (yX9_init, cX9_init, 1, none, 0, 9, 2, zp_78)
def zm_79 : zM := (yX9_way, cX9_way, 4, (some .int), 3, 9, 0, zp_79)
def zm_80 : zM := (yX9_stand, cX9_stand, 4, (some .int), 2, 9, 0, zp_80)
def zm_81 : zM := (yX9_give, cX9_give, 4, (some .int), 2, 9, 0, zp_81)
def zm_82 : zM := (yX9_lay, cX9_lay, 5, (some .int), 3, 9, 0, zp_82)
def zm_83 : zM := (yX9_forget, cX9_forget, 3, (some .int), 1, 9, 0, zp_83)
def zm_84 : zM := (yX9_say, cX9_say, 2, (some .int), 1, 9, 0, zp_84)
def zm_85 : zM := (yX9_wipe, cX9_wipe, 2, (some .int), 0, 9, 0, zp_85)
def zm_86 : zM := (yX9_fault, cX9_fault, 1, (some .int), 0, 9, 0, zp_86)
def zm_87 : zM := (yX9_judge, cX9_judge, 3, (some .int), 1, 9, 0, zp_87)
def zm_88 : zM := (yX9_behind, cX9_behind, 4, (some .int), 2, 9, 0, zp_88)
def zm_89 : zM := (yX9_lies, cX9_lies, 4, (some .int), 2, 9, 0, zp_89)
def zm_90 : zM := (yX9_hands, cX9_hands, 5, (some .int), 2, 9, 0, zp_90)
def zm_91 : zM := (yX9_most, cX9_most, 2, (some .int), 0, 9, 0, zp_91)
def zm_92 : zM := (yX9_done, cX9_done, 2, (some .int), 0, 9, 0, zp_92)
def zm_93 : zM := (yX9_steps, cX9_steps, 3, (some .int), 2, 9, 0, zp_93)
def zm_94 : zM := (yX9_get, cX9_get, 5, (some .int), 2, 9, 0, zp_94)
def zm_95 : zM := (yX9_round, cX9_round, 3, (some .int), 2, 9, 0, zp_95)
def zm_96 : zM := (yX9_walk, cX9_walk, 4, (some .int), 2, 9, 0, zp_96)
def zm_97 : zM := (yX9_right, cX9_right, 3, (some .int), 2, 9, 0, zp_97)
def zm_98 : zM := (yX9_seen, cX9_seen, 4, (some .int), 3, 9, 0, zp_98)
def zm_99 : zM := (yX9_clear, cX9_clear, 2, (some .int), 0, 9, 0, zp_99)
def zm_100 : zM := (yX9_fits, cX9_fits, 2, (some .int), 1, 9, 0, zp_100)
def zm_101 : zM := (yX9_ask, cX9_ask, 2, (some .int), 1, 9, 0, zp_101)
def zm_102 : zM := (yX9_take, cX9_take, 4, (some .int), 2, 9, 0, zp_102)
def zm_103 : zM := (yX9_evenings, cX9_evenings, 12, (some .long), 4, 9, 0, zp_103)
def zm_104 : zM := (yX9_season, cX9_season, 5, (some .int), 3, 9, 0, zp_104)
def zm_105 : zM := (yX9_image, cX9_image, 3, (some .int), 1, 9, 0, zp_105)
def zm_106 : zM := (yX9_restore, cX9_restore, 2, (some .int), 1, 9, 0, zp_106)
def zm_107 : zM := (yX9_told, cX9_told, 2, (some .int), 1, 9, 0, zp_107)
def zm_108 : zM := (yX9_toldOfOne, cX9_toldOfOne, 2, (some .int), 1, 9, 0, zp_108)
def zm_109 : zM := (yX9_isWithin, cX9_isWithin, 3, (some .boolean), 3, 9, 1, zp_109)
def zm_110 : zM := (yX9_isBench, cX9_isBench, 1, (some .boolean), 1, 9, 1, zp_110)
def zm_111 : zM := (yX9_isOne, cX9_isOne, 1, (some .boolean), 1, 9, 1, zp_111)
def zm_112 : zM := (yX9_isMemory, cX9_isMemory, 1, (some .boolean), 1, 9, 1, zp_112)
def zm_113 : zM := (yX9_has, cX9_has, 2, (some .boolean), 2, 9, 1, zp_113)
def zm_114 : zM := (yX9_power, cX9_power, 5, (some .long), 2, 9, 1, zp_114)
def zm_115 : zM := (yX9_commonDivisor, cX9_commonDivisor, 11, (some .long), 2, 9, 1, zp_115)
def zm_116 : zM := (yX10_init, cX10_init, 2, none, 0, 10, 2, zp_116)
def zm_117 : zM := (yX10_in, cX10_in, 6, (some .boolean), 3, 10, 1, zp_117)
def zm_118 : zM := (yX10_isBench, cX10_isBench, 1, (some .boolean), 1, 10, 1, zp_118)
def zm_119 : zM := (yX10_isOne, cX10_isOne, 1, (some .boolean), 1, 10, 1, zp_119)
def zm_120 : zM := (yX10_isMemory, cX10_isMemory, 1, (some .boolean), 1, 10, 1, zp_120)
def zm_121 : zM := (yX10_isIn, cX10_isIn, 2, (some .boolean), 2, 10, 1, zp_121)
def zm_122 : zM := (yX10_with, cX10_with, 3, (some .int), 3, 10, 1, zp_122)
def zm_123 : zM := (yX10_ones, cX10_ones, 3, (some .int), 1, 10, 1, zp_123)
def zm_124 : zM := (yX10_way, cX10_way, 6, (some .int), 3, 10, 0, zp_124)
def zm_125 : zM := (yX10_stand, cX10_stand, 4, (some .int), 2, 10, 0, zp_125)
def zm_126 : zM := (yX10_whereIs, cX10_whereIs, 4, (some .int), 1, 10, 0, zp_126)
def zm_127 : zM := (yX10_lose, cX10_lose, 3, (some .int), 1, 10, 0, zp_127)
def zm_128 : zM := (yX10_give, cX10_give, 4, (some .int), 2, 10, 0, zp_128)
def zm_129 : zM := (yX10_lay, cX10_lay, 5, (some .int), 3, 10, 0, zp_129)
def zm_130 : zM := (yX10_forget, cX10_forget, 2, (some .int), 1, 10, 0, zp_130)
def zm_131 : zM := (yX10_say, cX10_say, 2, (some .int), 1, 10, 0, zp_131)
def zm_132 : zM := (yX10_wipe, cX10_wipe, 2, (some .int), 0, 10, 0, zp_132)
def zm_133 : zM := (yX10_close, cX10_close, 3, (some .int), 2, 10, 0, zp_133)
def zm_134 : zM := (yX10_isName, cX10_isName, 1, (some .boolean), 1, 10, 1, zp_134)
def zm_135 : zM := (yX10_begin, cX10_begin, 2, (some .int), 1, 10, 0, zp_135)
def zm_136 : zM := (yX10_deed, cX10_deed, 2, (some .int), 1, 10, 0, zp_136)
def zm_137 : zM := (yX10_readOn, cX10_readOn, 3, (some .int), 2, 10, 0, zp_137)
def zm_138 : zM := (yX10_fault, cX10_fault, 3, (some .int), 0, 10, 0, zp_138)
def zm_139 : zM := (yX10_whyNoSeat, cX10_whyNoSeat, 3, (some .int), 1, 10, 0, zp_139)
def zm_140 : zM := (yX10_whyNoChange, cX10_whyNoChange, 3, (some .int), 2, 10, 0, zp_140)
def zm_141 : zM := (yX10_whyNot, cX10_whyNot, 4, (some .int), 3, 10, 0, zp_141)
def zm_142 : zM := (yX10_comeTo, cX10_comeTo, 3, none, 2, 10, 0, zp_142)
def zm_143 : zM := (yX10_sit, cX10_sit, 4, none, 1, 10, 0, zp_143)
def zm_144 : zM := (yX10_change, cX10_change, 4, none, 2, 10, 0, zp_144)
def zm_145 : zM := (yX10_evening, cX10_evening, 2, none, 0, 10, 0, zp_145)
def zm_146 : zM := (yX10_happen, cX10_happen, 4, none, 3, 10, 0, zp_146)
def zm_147 : zM := (yX10_keepNow, cX10_keepNow, 2, none, 0, 10, 0, zp_147)
def zm_148 : zM := (yX10_back, cX10_back, 3, (some .int), 1, 10, 0, zp_148)
def zm_149 : zM := (yX10_goDays, cX10_goDays, 3, none, 0, 10, 0, zp_149)
def zm_150 : zM := (yX10_refusal, cX10_refusal, 1, (some .int), 0, 10, 0, zp_150)
def zm_151 : zM := (yX10_judge, cX10_judge, 3, (some .int), 1, 10, 0, zp_151)
def zm_152 : zM := (yX10_behind, cX10_behind, 4, (some .int), 2, 10, 0, zp_152)
def zm_153 : zM := (yX10_lies, cX10_lies, 4, (some .int), 2, 10, 0, zp_153)
def zm_154 : zM := (yX10_hands, cX10_hands, 5, (some .int), 2, 10, 0, zp_154)
def zm_155 : zM := (yX10_most, cX10_most, 4, (some .int), 0, 10, 0, zp_155)
def zm_156 : zM := (yX10_done, cX10_done, 2, (some .int), 0, 10, 0, zp_156)
def zm_157 : zM := (yX10_far, cX10_far, 7, (some .int), 2, 10, 0, zp_157)
def zm_158 : zM := (yX10_steps, cX10_steps, 3, (some .int), 2, 10, 0, zp_158)
def zm_159 : zM := (yX10_get, cX10_get, 5, (some .int), 2, 10, 0, zp_159)
def zm_160 : zM := (yX10_findOff, cX10_findOff, 2, none, 0, 10, 0, zp_160)
def zm_161 : zM := (yX10_least, cX10_least, 2, (some .int), 2, 10, 1, zp_161)
def zm_162 : zM := (yX10_rowBy, cX10_rowBy, 8, (some .int), 3, 10, 0, zp_162)
def zm_163 : zM := (yX10_round, cX10_round, 6, (some .int), 2, 10, 0, zp_163)
def zm_164 : zM := (yX10_goesOn, cX10_goesOn, 7, (some .int), 2, 10, 0, zp_164)
def zm_165 : zM := (yX10_walk, cX10_walk, 10, (some .int), 2, 10, 0, zp_165)
def zm_166 : zM := (yX10_readSeven, cX10_readSeven, 5, (some .boolean), 1, 10, 0, zp_166)
def zm_167 : zM := (yX10_sitsBy, cX10_sitsBy, 6, (some .int), 0, 10, 0, zp_167)
def zm_168 : zM := (yX10_seat, cX10_seat, 3, none, 1, 10, 0, zp_168)
def zm_169 : zM := (yX10_right, cX10_right, 6, (some .int), 2, 10, 0, zp_169)
def zm_170 : zM := (yX10_seen, cX10_seen, 4, (some .int), 3, 10, 0, zp_170)
def zm_171 : zM := (yX10_clear, cX10_clear, 2, (some .int), 0, 10, 0, zp_171)
def zm_172 : zM := (yX10_whoHas, cX10_whoHas, 6, (some .int), 2, 10, 1, zp_172)
def zm_173 : zM := (yX10_isFit, cX10_isFit, 4, (some .boolean), 1, 10, 0, zp_173)
def zm_174 : zM := (yX10_fits, cX10_fits, 4, (some .int), 1, 10, 0, zp_174)
def zm_175 : zM := (yX10_countBy, cX10_countBy, 4, none, 1, 10, 0, zp_175)
def zm_176 : zM := (yX10_ask, cX10_ask, 8, (some .int), 1, 10, 0, zp_176)
def zm_177 : zM := (yX10_rowsBy, cX10_rowsBy, 5, (some .int), 2, 10, 0, zp_177)
def zm_178 : zM := (yX10_worthOf, cX10_worthOf, 3, (some .int), 1, 10, 0, zp_178)
def zm_179 : zM := (yX10_take, cX10_take, 5, (some .int), 2, 10, 0, zp_179)
def zm_180 : zM := (yX10_lowest, cX10_lowest, 11, (some .long), 3, 10, 1, zp_180)
def zm_181 : zM := (yX10_evenings, cX10_evenings, 10, (some .long), 4, 10, 0, zp_181)
def zm_182 : zM := (yX10_seasonOne, cX10_seasonOne, 7, none, 3, 10, 0, zp_182)
def zm_183 : zM := (yX10_manyLie, cX10_manyLie, 3, (some .int), 0, 10, 0, zp_183)
def zm_184 : zM := (yX10_manyLost, cX10_manyLost, 3, (some .int), 0, 10, 0, zp_184)
def zm_185 : zM := (yX10_season, cX10_season, 6, (some .int), 3, 10, 0, zp_185)
def zm_186 : zM := (yX10_pass, cX10_pass, 3, (some .int), 1, 10, 0, zp_186)
def zm_187 : zM := (yX10_passRow, cX10_passRow, 4, none, 2, 10, 0, zp_187)
def zm_188 : zM := (yX10_passAll, cX10_passAll, 1, none, 0, 10, 0, zp_188)
def zm_189 : zM := (yX10_image, cX10_image, 2, (some .int), 1, 10, 0, zp_189)
def zm_190 : zM := (yX10_restore, cX10_restore, 2, (some .int), 1, 10, 0, zp_190)
def zm_191 : zM := (yX10_ofBenches, cX10_ofBenches, 3, (some .int), 1, 10, 0, zp_191)
def zm_192 : zM := (yX10_ofOnes, cX10_ofOnes, 3, (some .int), 1, 10, 0, zp_192)
def zm_193 : zM := (yX10_ofAll, cX10_ofAll, 2, (some .int), 1, 10, 0, zp_193)
def zm_194 : zM := (yX10_told, cX10_told, 2, (some .int), 1, 10, 0, zp_194)
def zm_195 : zM := (yJ6_numberOfTrailingZeros_0f7a4, cJ6_numberOfTrailingZeros_0f7a4, 2, (some .int), 1, 11, 1, zp_195)
def zm_196 : zM := (yJ6_bitCount_0f7a4, cJ6_bitCount_0f7a4, 1, (some .int), 1, 11, 1, zp_196)
def zm_197 : zM := (yJ13_numberOfTrailingZeros_95d88, cJ13_numberOfTrailingZeros_95d88, 3, (some .int), 1, 12, 1, zp_197)
def zm_198 : zM := (yJ7_fill_53178, cJ7_fill_53178, 4, none, 2, 13, 1, zp_198)
def zm_199 : zM := (yL_law, cL_law, 4, (some .boolean), 1, 14, 1, zp_199)
def zml : List zM := [zm_0, zm_1, zm_2, zm_3, zm_4, zm_5, zm_6, zm_7, zm_8, zm_9, zm_10, zm_11, zm_12, zm_13, zm_14, zm_15, zm_16, zm_17, zm_18, zm_19, zm_20, zm_21, zm_22, zm_23, zm_24, zm_25, zm_26, zm_27, zm_28, zm_29, zm_30, zm_31, zm_32, zm_33, zm_34, zm_35, zm_36, zm_37, zm_38, zm_39, zm_40, zm_41, zm_42, zm_43, zm_44, zm_45, zm_46, zm_47, zm_48, zm_49, zm_50, zm_51, zm_52, zm_53, zm_54, zm_55, zm_56, zm_57, zm_58, zm_59, zm_60, zm_61, zm_62, zm_63, zm_64, zm_65, zm_66, zm_67, zm_68, zm_69, zm_70, zm_71, zm_72, zm_73, zm_74, zm_75, zm_76, zm_77, zm_78, zm_79, zm_80, zm_81, zm_82, zm_83, zm_84, zm_85, zm_86, zm_87, zm_88, zm_89, zm_90, zm_91, zm_92, zm_93, zm_94, zm_95, zm_96, zm_97, zm_98, zm_99, zm_100, zm_101, zm_102, zm_103, zm_104, zm_105, zm_106, zm_107, zm_108, zm_109, zm_110, zm_111, zm_112, zm_113, zm_114, zm_115, zm_116, zm_117, zm_118, zm_119, zm_120, zm_121, zm_122, zm_123, zm_124, zm_125, zm_126, zm_127, zm_128, zm_129, zm_130, zm_131, zm_132, zm_133, zm_134, zm_135, zm_136, zm_137, zm_138, zm_139, zm_140, zm_141, zm_142, zm_143, zm_144, zm_145, zm_146, zm_147, zm_148, zm_149, zm_150, zm_151, zm_152, zm_153, zm_154, zm_155, zm_156, zm_157, zm_158, zm_159, zm_160, zm_161, zm_162, zm_163, zm_164, zm_165, zm_166, zm_167, zm_168, zm_169, zm_170, zm_171, zm_172, zm_173, zm_174, zm_175, zm_176, zm_177, zm_178, zm_179, zm_180, zm_181, zm_182, zm_183, zm_184, zm_185, zm_186, zm_187, zm_188, zm_189, zm_190, zm_191, zm_192, zm_193, zm_194, zm_195, zm_196, zm_197, zm_198, zm_199]
def zow : List String := ["BenchMemories$Course", "BenchMemories$Garden", "BenchMemories$Order", "BenchMemories$Pad", "BenchMemories$Rounds", "BenchMemories$Row", "BenchMemories$Suspects", "BenchMemories$Turns", "BenchMemories$Walks", "BenchMemories", "BenchMemoriesModel", "java/lang/Integer", "java/lang/Long", "java/util/Arrays", "BenchMemoriesLaw"]
abbrev zRs : Type := Nat × Nat × Nat × Int
def zc_0 : List (Nat × zRs) := [(3, 6, 0, 0, 0), (9, 4, 1, 0, 0), (11, 5, 9, 0, 0), (12, 1, 0, 0, 0), (18, 4, 5, 0, 0), (20, 5, 59, 0, 0), (23, 1, 0, 1, 0), (27, 5, 48, 0, 0), (33, 5, 2, 0, 0), (37, 1, 3, 1, 1), (41, 1, 0, 4, 0), (44, 1, 3, 0, 1), (47, 5, 60, 0, 0), (51, 5, 111, 0, 1), (55, 5, 49, 0, 0), (59, 5, 52, 0, 0), (62, 5, 53, 0, 0), (65, 5, 3, 0, 0), (69, 5, 10, 0, 0), (72, 5, 62, 0, 0), (75, 1, 0, 2, 0), (78, 1, 0, 3, 0), (81, 1, 0, 5, 0), (84, 5, 30, 0, 0), (88, 5, 33, 0, 0), (91, 5, 20, 0, 0), (94, 5, 4, 0, 0), (97, 5, 61, 0, 0), (101, 2, 0, 0, 65537), (102, 5, 7, 0, 0), (105, 5, 8, 0, 0)]
def zc_1 : List (Nat × zRs) := [(3, 6, 0, 0, 0), (9, 4, 5, 0, 0), (11, 5, 59, 0, 0), (14, 1, 1, 0, 0), (20, 1, 1, 1, 0), (23, 1, 1, 2, 0), (26, 1, 1, 3, 0), (29, 1, 1, 4, 0), (32, 5, 61, 0, 0), (36, 5, 111, 0, 1), (40, 5, 63, 0, 0), (44, 1, 1, 5, 0), (48, 1, 1, 6, 0), (51, 1, 1, 7, 0), (54, 5, 60, 0, 0), (58, 5, 196, 0, 0), (63, 5, 113, 0, 1), (67, 5, 14, 0, 0), (70, 5, 22, 0, 0), (73, 5, 21, 0, 0), (76, 5, 18, 0, 0), (79, 5, 31, 0, 0), (82, 5, 32, 0, 0), (86, 5, 17, 0, 0), (89, 5, 24, 0, 0), (92, 5, 34, 0, 0), (95, 5, 35, 0, 0), (98, 5, 26, 0, 0), (101, 5, 36, 0, 0), (104, 5, 27, 0, 0), (108, 5, 25, 0, 0), (111, 5, 66, 0, 0)]
def zc_2 : List (Nat × zRs) := [(3, 6, 0, 0, 0), (9, 4, 5, 0, 0), (13, 5, 59, 0, 0), (16, 1, 2, 0, 0), (20, 5, 61, 0, 0), (24, 5, 113, 0, 1), (28, 5, 60, 0, 0), (32, 5, 42, 0, 0), (36, 5, 44, 0, 0)]
def zc_3 : List (Nat × zRs) := [(3, 6, 0, 0, 0), (9, 4, 5, 0, 0), (11, 5, 59, 0, 0), (14, 1, 3, 0, 0), (20, 1, 3, 1, 0), (24, 5, 61, 0, 0), (28, 5, 60, 0, 0), (32, 5, 49, 0, 0), (36, 5, 50, 0, 0), (39, 5, 51, 0, 0), (42, 5, 110, 0, 1), (46, 5, 111, 0, 1)]
def zc_4 : List (Nat × zRs) := [(5, 6, 0, 0, 0), (11, 4, 5, 0, 0), (13, 5, 59, 0, 0), (16, 1, 4, 0, 0), (20, 1, 4, 1, 0), (23, 1, 4, 2, 0), (26, 5, 56, 0, 0), (30, 1, 4, 3, 0), (34, 5, 16, 0, 0), (40, 5, 57, 0, 0), (44, 5, 113, 0, 1), (48, 5, 58, 0, 0), (52, 5, 61, 0, 0), (55, 5, 60, 0, 0), (58, 5, 15, 0, 0), (61, 2, 0, 0, 1000000), (62, 9, 0, 0, 0)]
def zc_5 : List (Nat × zRs) := [(3, 6, 0, 0, 0), (9, 8, 0, 0, 0), (15, 1, 5, 0, 0), (21, 5, 198, 0, 0), (27, 7, 0, 0, 0)]
def zc_6 : List (Nat × zRs) := [(3, 6, 0, 0, 0), (9, 4, 5, 0, 0), (13, 5, 59, 0, 0), (16, 1, 6, 0, 0), (20, 1, 6, 1, 0), (23, 1, 6, 2, 0), (27, 5, 39, 0, 0), (33, 5, 61, 0, 0), (37, 1, 6, 3, 0), (40, 1, 6, 4, 0), (43, 5, 68, 0, 0), (46, 5, 60, 0, 0), (50, 8, 0, 0, 0), (56, 5, 62, 0, 0), (59, 5, 66, 0, 0)]
def zc_7 : List (Nat × zRs) := [(3, 6, 0, 0, 0), (9, 4, 5, 0, 0), (11, 5, 59, 0, 0), (14, 1, 7, 0, 0), (20, 5, 70, 0, 0), (24, 3, 0, 0, -1), (26, 5, 197, 0, 0), (32, 5, 61, 0, 0), (36, 8, 0, 0, 0), (41, 5, 60, 0, 0)]
def zc_8 : List (Nat × zRs) := [(3, 6, 0, 0, 0), (9, 4, 5, 0, 0), (13, 5, 59, 0, 0), (16, 1, 8, 0, 0), (20, 5, 16, 0, 0), (26, 1, 8, 1, 0), (30, 5, 74, 0, 0), (34, 5, 61, 0, 0), (38, 5, 113, 0, 1), (42, 5, 60, 0, 0), (45, 5, 11, 0, 0), (48, 5, 196, 0, 0), (53, 8, 0, 0, 0), (59, 5, 77, 0, 0), (62, 5, 195, 0, 0)]
def zc_9 : List (Nat × zRs) := [(1, 6, 0, 0, 0), (7, 4, 1, 0, 0), (9, 5, 9, 0, 0), (10, 1, 9, 0, 0), (16, 1, 9, 1, 0), (19, 1, 9, 2, 0), (22, 4, 3, 0, 0), (24, 5, 45, 0, 1), (25, 1, 9, 3, 0), (29, 4, 0, 0, 0), (31, 5, 0, 0, 1), (32, 1, 9, 4, 0), (36, 4, 4, 0, 0), (38, 5, 54, 0, 1), (39, 1, 9, 5, 0), (43, 4, 8, 0, 0), (45, 5, 72, 0, 1), (46, 1, 9, 6, 0), (50, 4, 2, 0, 0), (52, 5, 40, 0, 1), (53, 1, 9, 7, 0), (57, 4, 6, 0, 0), (59, 5, 64, 0, 1), (60, 1, 9, 8, 0), (64, 4, 7, 0, 0), (66, 5, 69, 0, 0), (67, 1, 9, 9, 0), (71, 5, 110, 0, 0), (75, 5, 12, 0, 0), (79, 5, 13, 0, 0), (83, 5, 111, 0, 0), (86, 5, 18, 0, 0), (90, 5, 24, 0, 0), (94, 5, 112, 0, 0), (97, 5, 19, 0, 0), (100, 5, 20, 0, 0), (103, 5, 26, 0, 0), (107, 5, 25, 0, 0), (110, 5, 109, 0, 0), (114, 5, 21, 0, 0), (117, 5, 27, 0, 0), (121, 1, 3, 1, 1), (125, 5, 46, 0, 0), (128, 5, 47, 0, 0), (131, 5, 48, 0, 0), (134, 5, 1, 0, 0), (138, 1, 0, 3, 1), (141, 1, 0, 4, 1), (144, 1, 0, 5, 1), (147, 1, 0, 0, 1), (150, 5, 23, 0, 0), (153, 1, 0, 1, 1), (157, 5, 60, 0, 0), (162, 5, 5, 0, 0), (165, 5, 10, 0, 0), (169, 1, 0, 2, 1), (172, 5, 15, 0, 0), (176, 5, 17, 0, 0), (179, 5, 55, 0, 0), (183, 5, 73, 0, 0), (187, 5, 75, 0, 0), (190, 5, 76, 0, 0), (193, 5, 41, 0, 0), (196, 5, 42, 0, 0), (199, 5, 43, 0, 0), (202, 1, 1, 5, 1), (205, 5, 37, 0, 0), (208, 5, 38, 0, 0), (211, 5, 65, 0, 0), (214, 1, 6, 2, 1), (215, 1, 6, 0, 1), (218, 5, 67, 0, 0), (221, 1, 6, 3, 1), (224, 1, 6, 4, 1), (227, 5, 71, 0, 0), (230, 3, 0, 0, -1000000000000000002), (232, 5, 114, 0, 0), (236, 5, 115, 0, 0), (240, 10, 0, 0, 0), (245, 5, 6, 0, 0), (249, 1, 1, 7, 1), (252, 5, 28, 0, 0), (255, 5, 29, 0, 0), (258, 1, 9, 10, 0), (261, 5, 113, 0, 0), (265, 1, 1, 6, 1), (268, 5, 108, 0, 0), (271, 5, 11, 0, 0)]
def zc_10 : List (Nat × zRs) := [(1, 6, 0, 0, 0), (7, 1, 10, 0, 0), (13, 1, 10, 1, 0), (16, 1, 10, 2, 0), (19, 1, 10, 3, 0), (22, 1, 10, 4, 0), (25, 1, 10, 7, 0), (28, 1, 10, 8, 0), (31, 1, 10, 9, 0), (34, 1, 10, 11, 0), (37, 1, 10, 13, 0), (40, 1, 10, 14, 0), (43, 1, 10, 15, 0), (46, 1, 10, 17, 0), (49, 1, 10, 18, 0), (52, 1, 10, 22, 0), (55, 1, 10, 23, 0), (58, 1, 10, 24, 0), (61, 1, 10, 25, 0), (64, 1, 10, 26, 0), (67, 1, 10, 27, 0), (71, 1, 10, 28, 0), (74, 1, 10, 29, 0), (77, 3, 0, 0, 9), (79, 5, 117, 0, 0), (83, 3, 0, 0, 7), (85, 3, 0, 0, 11), (87, 5, 118, 0, 0), (91, 5, 122, 0, 0), (95, 5, 123, 0, 0), (99, 5, 119, 0, 0), (102, 5, 126, 0, 0), (105, 5, 120, 0, 0), (108, 5, 127, 0, 0), (111, 3, 0, 0, 33), (113, 3, 0, 0, 126), (115, 1, 10, 12, 0), (119, 1, 10, 16, 0), (122, 3, 0, 0, 65), (124, 3, 0, 0, 72), (126, 5, 134, 0, 0), (129, 5, 133, 0, 0), (133, 3, 0, 0, 48), (135, 3, 0, 0, 57), (137, 5, 135, 0, 0), (140, 5, 136, 0, 0), (143, 5, 137, 0, 0), (146, 1, 10, 5, 0), (149, 5, 121, 0, 0), (153, 5, 139, 0, 0), (156, 5, 140, 0, 0), (159, 1, 10, 6, 0), (162, 5, 142, 0, 0), (166, 5, 143, 0, 0), (170, 5, 144, 0, 0), (173, 5, 145, 0, 0), (176, 1, 10, 19, 0), (179, 1, 10, 20, 0), (182, 1, 10, 21, 0), (185, 5, 141, 0, 0), (189, 5, 146, 0, 0), (193, 5, 147, 0, 0), (196, 5, 138, 0, 0), (200, 5, 149, 0, 0), (203, 3, 0, 0, 2), (205, 5, 150, 0, 0), (208, 5, 148, 0, 0), (211, 5, 157, 0, 0), (214, 5, 161, 0, 0), (217, 3, 0, 0, 1023), (219, 5, 160, 0, 0), (222, 5, 162, 0, 0), (225, 5, 164, 0, 0), (228, 3, 0, 0, 9999999), (230, 5, 166, 0, 0), (233, 5, 167, 0, 0), (236, 5, 168, 0, 0), (239, 3, 0, 0, 60), (241, 1, 10, 10, 0), (244, 3, 0, 0, 8), (246, 5, 172, 0, 0), (249, 5, 173, 0, 0), (252, 5, 174, 0, 0), (255, 5, 175, 0, 0), (258, 5, 177, 0, 0), (261, 3, 0, 0, 40), (263, 5, 178, 0, 0), (266, 3, 0, 0, 12), (268, 3, 0, 0, 10), (270, 3, 0, 0, -1000000000000000002), (272, 5, 180, 0, 0), (276, 3, 0, 0, 9999), (278, 3, 0, 0, 99), (280, 3, 0, 0, 75), (282, 3, 0, 0, 74), (284, 3, 0, 0, 65537), (286, 5, 182, 0, 0), (289, 5, 184, 0, 0), (292, 5, 183, 0, 0), (295, 1, 10, 31, 0), (299, 1, 10, 30, 0), (302, 5, 186, 0, 0), (305, 5, 187, 0, 0), (309, 5, 188, 0, 0), (312, 3, 0, 0, 100), (314, 3, 0, 0, 111), (316, 3, 0, 0, 39), (318, 5, 191, 0, 0), (321, 3, 0, 0, 59), (323, 5, 192, 0, 0), (326, 5, 193, 0, 0)]
def zc_11 : List (Nat × zRs) := [(264, 2, 0, 0, 65536), (265, 2, 0, 0, 1431655765), (266, 2, 0, 0, 858993459), (267, 2, 0, 0, 252645135)]
def zc_12 : List (Nat × zRs) := [(311, 5, 195, 0, 0)]
def zc_13 : List (Nat × zRs) := []
def zc_14 : List (Nat × zRs) := [(7, 4, 9, 0, 0), (9, 5, 78, 0, 0), (10, 4, 10, 0, 0), (12, 5, 116, 0, 0), (13, 5, 79, 0, 0), (17, 5, 124, 0, 0), (18, 5, 80, 0, 0), (22, 5, 125, 0, 0), (23, 5, 81, 0, 0), (26, 5, 128, 0, 0), (27, 5, 82, 0, 0), (31, 5, 129, 0, 0), (32, 5, 83, 0, 0), (36, 5, 130, 0, 0), (37, 5, 84, 0, 0), (40, 5, 131, 0, 0), (41, 5, 85, 0, 0), (45, 5, 132, 0, 0), (46, 5, 86, 0, 0), (49, 5, 138, 0, 0), (50, 5, 87, 0, 0), (53, 5, 151, 0, 0), (54, 5, 88, 0, 0), (57, 5, 152, 0, 0), (58, 5, 89, 0, 0), (61, 5, 153, 0, 0), (62, 5, 90, 0, 0), (65, 5, 154, 0, 0), (66, 5, 91, 0, 0), (69, 5, 155, 0, 0), (70, 5, 92, 0, 0), (73, 5, 156, 0, 0), (74, 5, 93, 0, 0), (77, 5, 158, 0, 0), (78, 5, 94, 0, 0), (81, 5, 159, 0, 0), (82, 5, 95, 0, 0), (85, 5, 163, 0, 0), (86, 5, 96, 0, 0), (89, 5, 165, 0, 0), (90, 5, 97, 0, 0), (93, 5, 169, 0, 0), (94, 5, 98, 0, 0), (97, 5, 170, 0, 0), (98, 5, 99, 0, 0), (101, 5, 171, 0, 0), (102, 5, 100, 0, 0), (105, 5, 174, 0, 0), (106, 5, 101, 0, 0), (109, 5, 176, 0, 0), (110, 5, 102, 0, 0), (113, 5, 179, 0, 0), (114, 5, 103, 0, 0), (118, 5, 181, 0, 0), (119, 5, 104, 0, 0), (122, 5, 185, 0, 0), (123, 5, 105, 0, 0), (126, 5, 189, 0, 0), (127, 5, 106, 0, 0), (130, 5, 190, 0, 0), (131, 5, 107, 0, 0), (134, 5, 194, 0, 0)]
def zcl : List (List (Nat × zRs)) := [zc_0, zc_1, zc_2, zc_3, zc_4, zc_5, zc_6, zc_7, zc_8, zc_9, zc_10, zc_11, zc_12, zc_13, zc_14]
def zcp (o i : Nat) : Option zRs := (zcl[o]?).bind fun l => l.lookup i
/-- fields: 0 int, 1 boolean, 2 a reference; whether final -/
def zfd : List (List (Nat × Bool)) := [[(2, true), (2, true), (0, false), (0, false), (0, false), (0, false)], [(2, true), (2, true), (2, true), (2, true), (2, true), (0, false), (0, false), (0, false)], [(2, true)], [(2, true), (0, false)], [(2, true), (2, true), (2, true), (0, false)], [(2, true)], [(2, true), (2, true), (0, false), (0, false), (0, false)], [(2, true)], [(2, true), (0, false)], [(2, true), (2, true), (2, true), (2, true), (2, true), (2, true), (2, true), (2, true), (2, true), (2, true), (0, false)], [(2, true), (2, true), (2, true), (2, true), (2, true), (0, false), (0, false), (2, true), (2, true), (2, true), (0, false), (2, true), (0, false), (2, true), (2, true), (2, true), (0, false), (2, true), (2, true), (0, false), (0, false), (0, false), (2, true), (2, true), (2, true), (2, true), (2, true), (2, true), (2, true), (2, true), (0, false), (1, false)]]
def zMl (M : Nat) : Nat := ((zml[M]?).map fun r => r.2.2.1).getD 0
def zRt (M : Nat) : Option FieldType := (zml[M]?).bind fun r => r.2.2.2.1
def zPn (M : Nat) : Nat := ((zml[M]?).map fun r => r.2.2.2.2.1).getD 0
def zOw (M : Nat) : Nat := ((zml[M]?).map fun r => r.2.2.2.2.2.1).getD 0
def zKd (M : Nat) : Nat := ((zml[M]?).map fun r => r.2.2.2.2.2.2.1).getD 9
end
section
set_option maxRecDepth 100000
abbrev zcls : List vw_C := [(RX0, TX0, 6), (RX1, TX1, 8), (RX2, TX2, 1), (RX3, TX3, 2), (RX4, TX4, 4), (RX5, TX5, 1), (RX6, TX6, 5), (RX7, TX7, 1), (RX8, TX8, 2), (RX9, TX9, 11), (RX10, TX10, 32)]
def zOn (o : Nat) : String := (zow[o]?).getD ""
def zBy (M : Nat) : ByteArray := ((zml[M]?).map fun r => r.2.1).getD ⟨#[]⟩
def zYn (M : Nat) : MethodName := ((zml[M]?).map fun r => r.1).getD ⟨"", "", ""⟩
def zInOk (M : Nat) : Prop := ∀ q ∈ (((zml[M]?).map fun r => r.2.2.2.2.2.2.2).getD []), decode (zBy M) q.1 = .ok q.2
theorem zio_0 : zInOk 0 := zd_0
theorem zio_1 : zInOk 1 := zd_1
theorem zio_2 : zInOk 2 := zd_2
theorem zio_3 : zInOk 3 := zd_3
theorem zio_4 : zInOk 4 := zd_4
theorem zio_5 : zInOk 5 := zd_5
theorem zio_6 : zInOk 6 := zd_6
theorem zio_7 : zInOk 7 := zd_7
theorem zio_8 : zInOk 8 := zd_8
theorem zio_9 : zInOk 9 := zd_9
theorem zio_10 : zInOk 10 := zd_10
theorem zio_11 : zInOk 11 := zd_11
theorem zio_12 : zInOk 12 := zd_12
theorem zio_13 : zInOk 13 := zd_13
theorem zio_14 : zInOk 14 := zd_14
theorem zio_15 : zInOk 15 := zd_15
theorem zio_16 : zInOk 16 := zd_16
theorem zio_17 : zInOk 17 := zd_17
theorem zio_18 : zInOk 18 := zd_18
theorem zio_19 : zInOk 19 := zd_19
theorem zio_20 : zInOk 20 := zd_20
theorem zio_21 : zInOk 21 := zd_21
theorem zio_22 : zInOk 22 := zd_22
theorem zio_23 : zInOk 23 := zd_23
theorem zio_24 : zInOk 24 := zd_24
theorem zio_25 : zInOk 25 := zd_25
theorem zio_26 : zInOk 26 := zd_26
theorem zio_27 : zInOk 27 := zd_27
theorem zio_28 : zInOk 28 := zd_28
theorem zio_29 : zInOk 29 := zd_29
theorem zio_30 : zInOk 30 := zd_30
theorem zio_31 : zInOk 31 := zd_31
theorem zio_32 : zInOk 32 := zd_32
theorem zio_33 : zInOk 33 := zd_33
theorem zio_34 : zInOk 34 := zd_34
theorem zio_35 : zInOk 35 := zd_35
theorem zio_36 : zInOk 36 := zd_36
theorem zio_37 : zInOk 37 := zd_37
theorem zio_38 : zInOk 38 := zd_38
theorem zio_39 : zInOk 39 := zd_39
theorem zio_40 : zInOk 40 := zd_40
theorem zio_41 : zInOk 41 := zd_41
theorem zio_42 : zInOk 42 := zd_42
theorem zio_43 : zInOk 43 := zd_43
theorem zio_44 : zInOk 44 := zd_44
theorem zio_45 : zInOk 45 := zd_45
theorem zio_46 : zInOk 46 := zd_46
theorem zio_47 : zInOk 47 := zd_47
theorem zio_48 : zInOk 48 := zd_48
theorem zio_49 : zInOk 49 := zd_49
theorem zio_50 : zInOk 50 := zd_50
theorem zio_51 : zInOk 51 := zd_51
theorem zio_52 : zInOk 52 := zd_52
theorem zio_53 : zInOk 53 := zd_53
theorem zio_54 : zInOk 54 := zd_54
theorem zio_55 : zInOk 55 := zd_55
theorem zio_56 : zInOk 56 := zd_56
theorem zio_57 : zInOk 57 := zd_57
theorem zio_58 : zInOk 58 := zd_58
theorem zio_59 : zInOk 59 := zd_59
theorem zio_60 : zInOk 60 := zd_60
theorem zio_61 : zInOk 61 := zd_61
theorem zio_62 : zInOk 62 := zd_62
theorem zio_63 : zInOk 63 := zd_63
theorem zio_64 : zInOk 64 := zd_64
theorem zio_65 : zInOk 65 := zd_65
theorem zio_66 : zInOk 66 := zd_66
theorem zio_67 : zInOk 67 := zd_67
theorem zio_68 : zInOk 68 := zd_68
theorem zio_69 : zInOk 69 := zd_69
theorem zio_70 : zInOk 70 := zd_70
theorem zio_71 : zInOk 71 := zd_71
theorem zio_72 : zInOk 72 := zd_72
theorem zio_73 : zInOk 73 := zd_73
theorem zio_74 : zInOk 74 := zd_74
theorem zio_75 : zInOk 75 := zd_75
theorem zio_76 : zInOk 76 := zd_76
theorem zio_77 : zInOk 77 := zd_77
theorem zio_78 : zInOk 78 := zd_78
theorem zio_79 : zInOk 79 := zd_79
theorem zio_80 : zInOk 80 := zd_80
theorem zio_81 : zInOk 81 := zd_81
theorem zio_82 : zInOk 82 := zd_82
theorem zio_83 : zInOk 83 := zd_83
theorem zio_84 : zInOk 84 := zd_84
theorem zio_85 : zInOk 85 := zd_85
theorem zio_86 : zInOk 86 := zd_86
theorem zio_87 : zInOk 87 := zd_87
theorem zio_88 : zInOk 88 := zd_88
theorem zio_89 : zInOk 89 := zd_89
theorem zio_90 : zInOk 90 := zd_90
theorem zio_91 : zInOk 91 := zd_91
theorem zio_92 : zInOk 92 := zd_92
theorem zio_93 : zInOk 93 := zd_93
theorem zio_94 : zInOk 94 := zd_94
theorem zio_95 : zInOk 95 := zd_95
theorem zio_96 : zInOk 96 := zd_96
theorem zio_97 : zInOk 97 := zd_97
theorem zio_98 : zInOk 98 := zd_98
theorem zio_99 : zInOk 99 := zd_99
theorem zio_100 : zInOk 100 := zd_100
theorem zio_101 : zInOk 101 := zd_101
theorem zio_102 : zInOk 102 := zd_102
theorem zio_103 : zInOk 103 := zd_103
theorem zio_104 : zInOk 104 := zd_104
theorem zio_105 : zInOk 105 := zd_105
theorem zio_106 : zInOk 106 := zd_106
theorem zio_107 : zInOk 107 := zd_107
theorem zio_108 : zInOk 108 := zd_108
theorem zio_109 : zInOk 109 := zd_109
theorem zio_110 : zInOk 110 := zd_110
theorem zio_111 : zInOk 111 := zd_111
theorem zio_112 : zInOk 112 := zd_112
theorem zio_113 : zInOk 113 := zd_113
theorem zio_114 : zInOk 114 := zd_114
theorem zio_115 : zInOk 115 := zd_115
theorem zio_116 : zInOk 116 := zd_116
theorem zio_117 : zInOk 117 := zd_117
theorem zio_118 : zInOk 118 := zd_118
theorem zio_119 : zInOk 119 := zd_119
theorem zio_120 : zInOk 120 := zd_120
theorem zio_121 : zInOk 121 := zd_121
theorem zio_122 : zInOk 122 := zd_122
theorem zio_123 : zInOk 123 := zd_123
theorem zio_124 : zInOk 124 := zd_124
theorem zio_125 : zInOk 125 := zd_125
theorem zio_126 : zInOk 126 := zd_126
theorem zio_127 : zInOk 127 := zd_127
theorem zio_128 : zInOk 128 := zd_128
theorem zio_129 : zInOk 129 := zd_129
theorem zio_130 : zInOk 130 := zd_130
theorem zio_131 : zInOk 131 := zd_131
theorem zio_132 : zInOk 132 := zd_132
theorem zio_133 : zInOk 133 := zd_133
theorem zio_134 : zInOk 134 := zd_134
theorem zio_135 : zInOk 135 := zd_135
theorem zio_136 : zInOk 136 := zd_136
theorem zio_137 : zInOk 137 := zd_137
theorem zio_138 : zInOk 138 := zd_138
theorem zio_139 : zInOk 139 := zd_139
theorem zio_140 : zInOk 140 := zd_140
theorem zio_141 : zInOk 141 := zd_141
theorem zio_142 : zInOk 142 := zd_142
theorem zio_143 : zInOk 143 := zd_143
theorem zio_144 : zInOk 144 := zd_144
theorem zio_145 : zInOk 145 := zd_145
theorem zio_146 : zInOk 146 := zd_146
theorem zio_147 : zInOk 147 := zd_147
theorem zio_148 : zInOk 148 := zd_148
theorem zio_149 : zInOk 149 := zd_149
theorem zio_150 : zInOk 150 := zd_150
theorem zio_151 : zInOk 151 := zd_151
theorem zio_152 : zInOk 152 := zd_152
theorem zio_153 : zInOk 153 := zd_153
theorem zio_154 : zInOk 154 := zd_154
theorem zio_155 : zInOk 155 := zd_155
theorem zio_156 : zInOk 156 := zd_156
theorem zio_157 : zInOk 157 := zd_157
theorem zio_158 : zInOk 158 := zd_158
theorem zio_159 : zInOk 159 := zd_159
theorem zio_160 : zInOk 160 := zd_160
theorem zio_161 : zInOk 161 := zd_161
theorem zio_162 : zInOk 162 := zd_162
theorem zio_163 : zInOk 163 := zd_163
theorem zio_164 : zInOk 164 := zd_164
theorem zio_165 : zInOk 165 := zd_165
theorem zio_166 : zInOk 166 := zd_166
theorem zio_167 : zInOk 167 := zd_167
theorem zio_168 : zInOk 168 := zd_168
theorem zio_169 : zInOk 169 := zd_169
theorem zio_170 : zInOk 170 := zd_170
theorem zio_171 : zInOk 171 := zd_171
theorem zio_172 : zInOk 172 := zd_172
theorem zio_173 : zInOk 173 := zd_173
theorem zio_174 : zInOk 174 := zd_174
theorem zio_175 : zInOk 175 := zd_175
theorem zio_176 : zInOk 176 := zd_176
theorem zio_177 : zInOk 177 := zd_177
theorem zio_178 : zInOk 178 := zd_178
theorem zio_179 : zInOk 179 := zd_179
theorem zio_180 : zInOk 180 := zd_180
theorem zio_181 : zInOk 181 := zd_181
theorem zio_182 : zInOk 182 := zd_182
theorem zio_183 : zInOk 183 := zd_183
theorem zio_184 : zInOk 184 := zd_184
theorem zio_185 : zInOk 185 := zd_185
theorem zio_186 : zInOk 186 := zd_186
theorem zio_187 : zInOk 187 := zd_187
theorem zio_188 : zInOk 188 := zd_188
theorem zio_189 : zInOk 189 := zd_189
theorem zio_190 : zInOk 190 := zd_190
theorem zio_191 : zInOk 191 := zd_191
theorem zio_192 : zInOk 192 := zd_192
theorem zio_193 : zInOk 193 := zd_193
theorem zio_194 : zInOk 194 := zd_194
theorem zio_195 : zInOk 195 := zd_195
theorem zio_196 : zInOk 196 := zd_196
theorem zio_197 : zInOk 197 := zd_197
theorem zio_198 : zInOk 198 := zd_198
theorem zio_199 : zInOk 199 := zd_199
def zMok (N : Nat) : Prop := (zKd N = 0 → Jvm.Cond.instanceMethod (zYn N) ∈ lw_tbl ∧ Jvm.Cond.selects (zOn (zOw N)) (zYn N) (zYn N) ∈ lw_tbl) ∧ (zKd N = 1 → Jvm.Cond.static (zYn N) ∈ lw_tbl) ∧ (zKd N = 2 → Jvm.Cond.instanceMethod (zYn N) ∈ lw_tbl ∧ (zYn N).name = "<init>" ∧ zRt N = none) ∧ Jvm.Cond.initialized (zYn N).cls ∈ lw_tbl ∧ Jvm.Cond.code (zYn N) (zBy N) (zMl N) (zRt N) ∈ lw_tbl
theorem zmo_0 : zMok 0 := ⟨fun h => absurd h (by decide +kernel), fun h => absurd h (by decide +kernel), fun _ => ⟨List.mem_of_getElem? (i := 162) (by decide +kernel), by decide +kernel, by decide +kernel⟩, List.mem_of_getElem? (i := 63) (by decide +kernel), List.mem_of_getElem? (i := 163) (by decide +kernel)⟩
theorem zmo_1 : zMok 1 := ⟨fun _ => ⟨List.mem_of_getElem? (i := 454) (by decide +kernel), List.mem_of_getElem? (i := 455) (by decide +kernel)⟩, fun h => absurd h (by decide +kernel), fun h => absurd h (by decide +kernel), List.mem_of_getElem? (i := 63) (by decide +kernel), List.mem_of_getElem? (i := 456) (by decide +kernel)⟩
theorem zmo_2 : zMok 2 := ⟨fun _ => ⟨List.mem_of_getElem? (i := 460) (by decide +kernel), List.mem_of_getElem? (i := 2) (by decide +kernel)⟩, fun h => absurd h (by decide +kernel), fun h => absurd h (by decide +kernel), List.mem_of_getElem? (i := 63) (by decide +kernel), List.mem_of_getElem? (i := 461) (by decide +kernel)⟩
theorem zmo_3 : zMok 3 := ⟨fun _ => ⟨List.mem_of_getElem? (i := 491) (by decide +kernel), List.mem_of_getElem? (i := 3) (by decide +kernel)⟩, fun h => absurd h (by decide +kernel), fun h => absurd h (by decide +kernel), List.mem_of_getElem? (i := 63) (by decide +kernel), List.mem_of_getElem? (i := 492) (by decide +kernel)⟩
theorem zmo_4 : zMok 4 := ⟨fun _ => ⟨List.mem_of_getElem? (i := 536) (by decide +kernel), List.mem_of_getElem? (i := 9) (by decide +kernel)⟩, fun h => absurd h (by decide +kernel), fun h => absurd h (by decide +kernel), List.mem_of_getElem? (i := 63) (by decide +kernel), List.mem_of_getElem? (i := 537) (by decide +kernel)⟩
theorem zmo_5 : zMok 5 := ⟨fun _ => ⟨List.mem_of_getElem? (i := 562) (by decide +kernel), List.mem_of_getElem? (i := 563) (by decide +kernel)⟩, fun h => absurd h (by decide +kernel), fun h => absurd h (by decide +kernel), List.mem_of_getElem? (i := 63) (by decide +kernel), List.mem_of_getElem? (i := 564) (by decide +kernel)⟩
theorem zmo_6 : zMok 6 := ⟨fun _ => ⟨List.mem_of_getElem? (i := 753) (by decide +kernel), List.mem_of_getElem? (i := 754) (by decide +kernel)⟩, fun h => absurd h (by decide +kernel), fun h => absurd h (by decide +kernel), List.mem_of_getElem? (i := 63) (by decide +kernel), List.mem_of_getElem? (i := 755) (by decide +kernel)⟩
theorem zmo_7 : zMok 7 := ⟨fun _ => ⟨List.mem_of_getElem? (i := 759) (by decide +kernel), List.mem_of_getElem? (i := 17) (by decide +kernel)⟩, fun h => absurd h (by decide +kernel), fun h => absurd h (by decide +kernel), List.mem_of_getElem? (i := 63) (by decide +kernel), List.mem_of_getElem? (i := 760) (by decide +kernel)⟩
theorem zmo_8 : zMok 8 := ⟨fun h => absurd h (by decide +kernel), fun _ => List.mem_of_getElem? (i := 762) (by decide +kernel), fun h => absurd h (by decide +kernel), List.mem_of_getElem? (i := 63) (by decide +kernel), List.mem_of_getElem? (i := 763) (by decide +kernel)⟩
theorem zmo_9 : zMok 9 := ⟨fun h => absurd h (by decide +kernel), fun h => absurd h (by decide +kernel), fun _ => ⟨List.mem_of_getElem? (i := 86) (by decide +kernel), by decide +kernel, by decide +kernel⟩, List.mem_of_getElem? (i := 59) (by decide +kernel), List.mem_of_getElem? (i := 87) (by decide +kernel)⟩
theorem zmo_10 : zMok 10 := ⟨fun _ => ⟨List.mem_of_getElem? (i := 463) (by decide +kernel), List.mem_of_getElem? (i := 464) (by decide +kernel)⟩, fun h => absurd h (by decide +kernel), fun h => absurd h (by decide +kernel), List.mem_of_getElem? (i := 59) (by decide +kernel), List.mem_of_getElem? (i := 465) (by decide +kernel)⟩
theorem zmo_11 : zMok 11 := ⟨fun _ => ⟨List.mem_of_getElem? (i := 635) (by decide +kernel), List.mem_of_getElem? (i := 636) (by decide +kernel)⟩, fun h => absurd h (by decide +kernel), fun h => absurd h (by decide +kernel), List.mem_of_getElem? (i := 59) (by decide +kernel), List.mem_of_getElem? (i := 637) (by decide +kernel)⟩
theorem zmo_12 : zMok 12 := ⟨fun _ => ⟨List.mem_of_getElem? (i := 342) (by decide +kernel), List.mem_of_getElem? (i := 343) (by decide +kernel)⟩, fun h => absurd h (by decide +kernel), fun h => absurd h (by decide +kernel), List.mem_of_getElem? (i := 59) (by decide +kernel), List.mem_of_getElem? (i := 344) (by decide +kernel)⟩
theorem zmo_13 : zMok 13 := ⟨fun _ => ⟨List.mem_of_getElem? (i := 347) (by decide +kernel), List.mem_of_getElem? (i := 348) (by decide +kernel)⟩, fun h => absurd h (by decide +kernel), fun h => absurd h (by decide +kernel), List.mem_of_getElem? (i := 59) (by decide +kernel), List.mem_of_getElem? (i := 349) (by decide +kernel)⟩
theorem zmo_14 : zMok 14 := ⟨fun _ => ⟨List.mem_of_getElem? (i := 579) (by decide +kernel), List.mem_of_getElem? (i := 580) (by decide +kernel)⟩, fun h => absurd h (by decide +kernel), fun h => absurd h (by decide +kernel), List.mem_of_getElem? (i := 59) (by decide +kernel), List.mem_of_getElem? (i := 581) (by decide +kernel)⟩
theorem zmo_15 : zMok 15 := ⟨fun _ => ⟨List.mem_of_getElem? (i := 575) (by decide +kernel), List.mem_of_getElem? (i := 576) (by decide +kernel)⟩, fun h => absurd h (by decide +kernel), fun h => absurd h (by decide +kernel), List.mem_of_getElem? (i := 59) (by decide +kernel), List.mem_of_getElem? (i := 577) (by decide +kernel)⟩
theorem zmo_16 : zMok 16 := ⟨fun _ => ⟨List.mem_of_getElem? (i := 602) (by decide +kernel), List.mem_of_getElem? (i := 603) (by decide +kernel)⟩, fun h => absurd h (by decide +kernel), fun h => absurd h (by decide +kernel), List.mem_of_getElem? (i := 59) (by decide +kernel), List.mem_of_getElem? (i := 604) (by decide +kernel)⟩
theorem zmo_17 : zMok 17 := ⟨fun _ => ⟨List.mem_of_getElem? (i := 506) (by decide +kernel), List.mem_of_getElem? (i := 507) (by decide +kernel)⟩, fun h => absurd h (by decide +kernel), fun h => absurd h (by decide +kernel), List.mem_of_getElem? (i := 59) (by decide +kernel), List.mem_of_getElem? (i := 508) (by decide +kernel)⟩
theorem zmo_18 : zMok 18 := ⟨fun _ => ⟨List.mem_of_getElem? (i := 362) (by decide +kernel), List.mem_of_getElem? (i := 363) (by decide +kernel)⟩, fun h => absurd h (by decide +kernel), fun h => absurd h (by decide +kernel), List.mem_of_getElem? (i := 59) (by decide +kernel), List.mem_of_getElem? (i := 364) (by decide +kernel)⟩
theorem zmo_19 : zMok 19 := ⟨fun _ => ⟨List.mem_of_getElem? (i := 377) (by decide +kernel), List.mem_of_getElem? (i := 378) (by decide +kernel)⟩, fun h => absurd h (by decide +kernel), fun h => absurd h (by decide +kernel), List.mem_of_getElem? (i := 59) (by decide +kernel), List.mem_of_getElem? (i := 379) (by decide +kernel)⟩
theorem zmo_20 : zMok 20 := ⟨fun _ => ⟨List.mem_of_getElem? (i := 381) (by decide +kernel), List.mem_of_getElem? (i := 382) (by decide +kernel)⟩, fun h => absurd h (by decide +kernel), fun h => absurd h (by decide +kernel), List.mem_of_getElem? (i := 59) (by decide +kernel), List.mem_of_getElem? (i := 383) (by decide +kernel)⟩
theorem zmo_21 : zMok 21 := ⟨fun _ => ⟨List.mem_of_getElem? (i := 401) (by decide +kernel), List.mem_of_getElem? (i := 402) (by decide +kernel)⟩, fun h => absurd h (by decide +kernel), fun h => absurd h (by decide +kernel), List.mem_of_getElem? (i := 59) (by decide +kernel), List.mem_of_getElem? (i := 403) (by decide +kernel)⟩
theorem zmo_22 : zMok 22 := ⟨fun _ => ⟨List.mem_of_getElem? (i := 386) (by decide +kernel), List.mem_of_getElem? (i := 1) (by decide +kernel)⟩, fun h => absurd h (by decide +kernel), fun h => absurd h (by decide +kernel), List.mem_of_getElem? (i := 59) (by decide +kernel), List.mem_of_getElem? (i := 387) (by decide +kernel)⟩
theorem zmo_23 : zMok 23 := ⟨fun _ => ⟨List.mem_of_getElem? (i := 548) (by decide +kernel), List.mem_of_getElem? (i := 549) (by decide +kernel)⟩, fun h => absurd h (by decide +kernel), fun h => absurd h (by decide +kernel), List.mem_of_getElem? (i := 59) (by decide +kernel), List.mem_of_getElem? (i := 550) (by decide +kernel)⟩
theorem zmo_24 : zMok 24 := ⟨fun _ => ⟨List.mem_of_getElem? (i := 366) (by decide +kernel), List.mem_of_getElem? (i := 367) (by decide +kernel)⟩, fun h => absurd h (by decide +kernel), fun h => absurd h (by decide +kernel), List.mem_of_getElem? (i := 59) (by decide +kernel), List.mem_of_getElem? (i := 368) (by decide +kernel)⟩
theorem zmo_25 : zMok 25 := ⟨fun _ => ⟨List.mem_of_getElem? (i := 393) (by decide +kernel), List.mem_of_getElem? (i := 394) (by decide +kernel)⟩, fun h => absurd h (by decide +kernel), fun h => absurd h (by decide +kernel), List.mem_of_getElem? (i := 59) (by decide +kernel), List.mem_of_getElem? (i := 395) (by decide +kernel)⟩
theorem zmo_26 : zMok 26 := ⟨fun _ => ⟨List.mem_of_getElem? (i := 389) (by decide +kernel), List.mem_of_getElem? (i := 390) (by decide +kernel)⟩, fun h => absurd h (by decide +kernel), fun h => absurd h (by decide +kernel), List.mem_of_getElem? (i := 59) (by decide +kernel), List.mem_of_getElem? (i := 391) (by decide +kernel)⟩
theorem zmo_27 : zMok 27 := ⟨fun _ => ⟨List.mem_of_getElem? (i := 405) (by decide +kernel), List.mem_of_getElem? (i := 406) (by decide +kernel)⟩, fun h => absurd h (by decide +kernel), fun h => absurd h (by decide +kernel), List.mem_of_getElem? (i := 59) (by decide +kernel), List.mem_of_getElem? (i := 407) (by decide +kernel)⟩
theorem zmo_28 : zMok 28 := ⟨fun _ => ⟨List.mem_of_getElem? (i := 765) (by decide +kernel), List.mem_of_getElem? (i := 766) (by decide +kernel)⟩, fun h => absurd h (by decide +kernel), fun h => absurd h (by decide +kernel), List.mem_of_getElem? (i := 59) (by decide +kernel), List.mem_of_getElem? (i := 767) (by decide +kernel)⟩
theorem zmo_29 : zMok 29 := ⟨fun _ => ⟨List.mem_of_getElem? (i := 769) (by decide +kernel), List.mem_of_getElem? (i := 770) (by decide +kernel)⟩, fun h => absurd h (by decide +kernel), fun h => absurd h (by decide +kernel), List.mem_of_getElem? (i := 59) (by decide +kernel), List.mem_of_getElem? (i := 771) (by decide +kernel)⟩
theorem zmo_30 : zMok 30 := ⟨fun _ => ⟨List.mem_of_getElem? (i := 494) (by decide +kernel), List.mem_of_getElem? (i := 495) (by decide +kernel)⟩, fun h => absurd h (by decide +kernel), fun h => absurd h (by decide +kernel), List.mem_of_getElem? (i := 59) (by decide +kernel), List.mem_of_getElem? (i := 496) (by decide +kernel)⟩
theorem zmo_31 : zMok 31 := ⟨fun _ => ⟨List.mem_of_getElem? (i := 503) (by decide +kernel), List.mem_of_getElem? (i := 4) (by decide +kernel)⟩, fun h => absurd h (by decide +kernel), fun h => absurd h (by decide +kernel), List.mem_of_getElem? (i := 59) (by decide +kernel), List.mem_of_getElem? (i := 504) (by decide +kernel)⟩
theorem zmo_32 : zMok 32 := ⟨fun _ => ⟨List.mem_of_getElem? (i := 511) (by decide +kernel), List.mem_of_getElem? (i := 5) (by decide +kernel)⟩, fun h => absurd h (by decide +kernel), fun h => absurd h (by decide +kernel), List.mem_of_getElem? (i := 59) (by decide +kernel), List.mem_of_getElem? (i := 512) (by decide +kernel)⟩
theorem zmo_33 : zMok 33 := ⟨fun _ => ⟨List.mem_of_getElem? (i := 514) (by decide +kernel), List.mem_of_getElem? (i := 515) (by decide +kernel)⟩, fun h => absurd h (by decide +kernel), fun h => absurd h (by decide +kernel), List.mem_of_getElem? (i := 59) (by decide +kernel), List.mem_of_getElem? (i := 516) (by decide +kernel)⟩
theorem zmo_34 : zMok 34 := ⟨fun _ => ⟨List.mem_of_getElem? (i := 520) (by decide +kernel), List.mem_of_getElem? (i := 6) (by decide +kernel)⟩, fun h => absurd h (by decide +kernel), fun h => absurd h (by decide +kernel), List.mem_of_getElem? (i := 59) (by decide +kernel), List.mem_of_getElem? (i := 521) (by decide +kernel)⟩
theorem zmo_35 : zMok 35 := ⟨fun _ => ⟨List.mem_of_getElem? (i := 526) (by decide +kernel), List.mem_of_getElem? (i := 7) (by decide +kernel)⟩, fun h => absurd h (by decide +kernel), fun h => absurd h (by decide +kernel), List.mem_of_getElem? (i := 59) (by decide +kernel), List.mem_of_getElem? (i := 527) (by decide +kernel)⟩
theorem zmo_36 : zMok 36 := ⟨fun _ => ⟨List.mem_of_getElem? (i := 531) (by decide +kernel), List.mem_of_getElem? (i := 8) (by decide +kernel)⟩, fun h => absurd h (by decide +kernel), fun h => absurd h (by decide +kernel), List.mem_of_getElem? (i := 59) (by decide +kernel), List.mem_of_getElem? (i := 532) (by decide +kernel)⟩
theorem zmo_37 : zMok 37 := ⟨fun _ => ⟨List.mem_of_getElem? (i := 683) (by decide +kernel), List.mem_of_getElem? (i := 684) (by decide +kernel)⟩, fun h => absurd h (by decide +kernel), fun h => absurd h (by decide +kernel), List.mem_of_getElem? (i := 59) (by decide +kernel), List.mem_of_getElem? (i := 685) (by decide +kernel)⟩
theorem zmo_38 : zMok 38 := ⟨fun _ => ⟨List.mem_of_getElem? (i := 691) (by decide +kernel), List.mem_of_getElem? (i := 692) (by decide +kernel)⟩, fun h => absurd h (by decide +kernel), fun h => absurd h (by decide +kernel), List.mem_of_getElem? (i := 59) (by decide +kernel), List.mem_of_getElem? (i := 693) (by decide +kernel)⟩
theorem zmo_39 : zMok 39 := ⟨fun _ => ⟨List.mem_of_getElem? (i := 703) (by decide +kernel), List.mem_of_getElem? (i := 704) (by decide +kernel)⟩, fun h => absurd h (by decide +kernel), fun h => absurd h (by decide +kernel), List.mem_of_getElem? (i := 59) (by decide +kernel), List.mem_of_getElem? (i := 705) (by decide +kernel)⟩
theorem zmo_40 : zMok 40 := ⟨fun h => absurd h (by decide +kernel), fun h => absurd h (by decide +kernel), fun _ => ⟨List.mem_of_getElem? (i := 233) (by decide +kernel), by decide +kernel, by decide +kernel⟩, List.mem_of_getElem? (i := 66) (by decide +kernel), List.mem_of_getElem? (i := 234) (by decide +kernel)⟩
theorem zmo_41 : zMok 41 := ⟨fun _ => ⟨List.mem_of_getElem? (i := 659) (by decide +kernel), List.mem_of_getElem? (i := 660) (by decide +kernel)⟩, fun h => absurd h (by decide +kernel), fun h => absurd h (by decide +kernel), List.mem_of_getElem? (i := 66) (by decide +kernel), List.mem_of_getElem? (i := 661) (by decide +kernel)⟩
theorem zmo_42 : zMok 42 := ⟨fun _ => ⟨List.mem_of_getElem? (i := 664) (by decide +kernel), List.mem_of_getElem? (i := 665) (by decide +kernel)⟩, fun h => absurd h (by decide +kernel), fun h => absurd h (by decide +kernel), List.mem_of_getElem? (i := 66) (by decide +kernel), List.mem_of_getElem? (i := 666) (by decide +kernel)⟩
theorem zmo_43 : zMok 43 := ⟨fun _ => ⟨List.mem_of_getElem? (i := 670) (by decide +kernel), List.mem_of_getElem? (i := 671) (by decide +kernel)⟩, fun h => absurd h (by decide +kernel), fun h => absurd h (by decide +kernel), List.mem_of_getElem? (i := 66) (by decide +kernel), List.mem_of_getElem? (i := 672) (by decide +kernel)⟩
theorem zmo_44 : zMok 44 := ⟨fun _ => ⟨List.mem_of_getElem? (i := 676) (by decide +kernel), List.mem_of_getElem? (i := 15) (by decide +kernel)⟩, fun h => absurd h (by decide +kernel), fun h => absurd h (by decide +kernel), List.mem_of_getElem? (i := 66) (by decide +kernel), List.mem_of_getElem? (i := 677) (by decide +kernel)⟩
theorem zmo_45 : zMok 45 := ⟨fun h => absurd h (by decide +kernel), fun h => absurd h (by decide +kernel), fun _ => ⟨List.mem_of_getElem? (i := 144) (by decide +kernel), by decide +kernel, by decide +kernel⟩, List.mem_of_getElem? (i := 62) (by decide +kernel), List.mem_of_getElem? (i := 145) (by decide +kernel)⟩
theorem zmo_46 : zMok 46 := ⟨fun _ => ⟨List.mem_of_getElem? (i := 417) (by decide +kernel), List.mem_of_getElem? (i := 418) (by decide +kernel)⟩, fun h => absurd h (by decide +kernel), fun h => absurd h (by decide +kernel), List.mem_of_getElem? (i := 62) (by decide +kernel), List.mem_of_getElem? (i := 419) (by decide +kernel)⟩
theorem zmo_47 : zMok 47 := ⟨fun _ => ⟨List.mem_of_getElem? (i := 426) (by decide +kernel), List.mem_of_getElem? (i := 427) (by decide +kernel)⟩, fun h => absurd h (by decide +kernel), fun h => absurd h (by decide +kernel), List.mem_of_getElem? (i := 62) (by decide +kernel), List.mem_of_getElem? (i := 428) (by decide +kernel)⟩
theorem zmo_48 : zMok 48 := ⟨fun _ => ⟨List.mem_of_getElem? (i := 434) (by decide +kernel), List.mem_of_getElem? (i := 435) (by decide +kernel)⟩, fun h => absurd h (by decide +kernel), fun h => absurd h (by decide +kernel), List.mem_of_getElem? (i := 62) (by decide +kernel), List.mem_of_getElem? (i := 436) (by decide +kernel)⟩
theorem zmo_49 : zMok 49 := ⟨fun h => absurd h (by decide +kernel), fun _ => List.mem_of_getElem? (i := 439) (by decide +kernel), fun h => absurd h (by decide +kernel), List.mem_of_getElem? (i := 62) (by decide +kernel), List.mem_of_getElem? (i := 440) (by decide +kernel)⟩
theorem zmo_50 : zMok 50 := ⟨fun h => absurd h (by decide +kernel), fun _ => List.mem_of_getElem? (i := 442) (by decide +kernel), fun h => absurd h (by decide +kernel), List.mem_of_getElem? (i := 62) (by decide +kernel), List.mem_of_getElem? (i := 443) (by decide +kernel)⟩
theorem zmo_51 : zMok 51 := ⟨fun h => absurd h (by decide +kernel), fun _ => List.mem_of_getElem? (i := 446) (by decide +kernel), fun h => absurd h (by decide +kernel), List.mem_of_getElem? (i := 62) (by decide +kernel), List.mem_of_getElem? (i := 447) (by decide +kernel)⟩
theorem zmo_52 : zMok 52 := ⟨fun h => absurd h (by decide +kernel), fun _ => List.mem_of_getElem? (i := 484) (by decide +kernel), fun h => absurd h (by decide +kernel), List.mem_of_getElem? (i := 62) (by decide +kernel), List.mem_of_getElem? (i := 485) (by decide +kernel)⟩
theorem zmo_53 : zMok 53 := ⟨fun h => absurd h (by decide +kernel), fun _ => List.mem_of_getElem? (i := 487) (by decide +kernel), fun h => absurd h (by decide +kernel), List.mem_of_getElem? (i := 62) (by decide +kernel), List.mem_of_getElem? (i := 488) (by decide +kernel)⟩
theorem zmo_54 : zMok 54 := ⟨fun h => absurd h (by decide +kernel), fun h => absurd h (by decide +kernel), fun _ => ⟨List.mem_of_getElem? (i := 197) (by decide +kernel), by decide +kernel, by decide +kernel⟩, List.mem_of_getElem? (i := 64) (by decide +kernel), List.mem_of_getElem? (i := 198) (by decide +kernel)⟩
theorem zmo_55 : zMok 55 := ⟨fun _ => ⟨List.mem_of_getElem? (i := 592) (by decide +kernel), List.mem_of_getElem? (i := 593) (by decide +kernel)⟩, fun h => absurd h (by decide +kernel), fun h => absurd h (by decide +kernel), List.mem_of_getElem? (i := 64) (by decide +kernel), List.mem_of_getElem? (i := 594) (by decide +kernel)⟩
theorem zmo_56 : zMok 56 := ⟨fun _ => ⟨List.mem_of_getElem? (i := 597) (by decide +kernel), List.mem_of_getElem? (i := 10) (by decide +kernel)⟩, fun h => absurd h (by decide +kernel), fun h => absurd h (by decide +kernel), List.mem_of_getElem? (i := 64) (by decide +kernel), List.mem_of_getElem? (i := 598) (by decide +kernel)⟩
theorem zmo_57 : zMok 57 := ⟨fun _ => ⟨List.mem_of_getElem? (i := 607) (by decide +kernel), List.mem_of_getElem? (i := 11) (by decide +kernel)⟩, fun h => absurd h (by decide +kernel), fun h => absurd h (by decide +kernel), List.mem_of_getElem? (i := 64) (by decide +kernel), List.mem_of_getElem? (i := 608) (by decide +kernel)⟩
theorem zmo_58 : zMok 58 := ⟨fun _ => ⟨List.mem_of_getElem? (i := 613) (by decide +kernel), List.mem_of_getElem? (i := 12) (by decide +kernel)⟩, fun h => absurd h (by decide +kernel), fun h => absurd h (by decide +kernel), List.mem_of_getElem? (i := 64) (by decide +kernel), List.mem_of_getElem? (i := 614) (by decide +kernel)⟩
theorem zmo_59 : zMok 59 := ⟨fun h => absurd h (by decide +kernel), fun h => absurd h (by decide +kernel), fun _ => ⟨List.mem_of_getElem? (i := 92) (by decide +kernel), by decide +kernel, by decide +kernel⟩, List.mem_of_getElem? (i := 60) (by decide +kernel), List.mem_of_getElem? (i := 93) (by decide +kernel)⟩
theorem zmo_60 : zMok 60 := ⟨fun _ => ⟨List.mem_of_getElem? (i := 284) (by decide +kernel), List.mem_of_getElem? (i := 285) (by decide +kernel)⟩, fun h => absurd h (by decide +kernel), fun h => absurd h (by decide +kernel), List.mem_of_getElem? (i := 60) (by decide +kernel), List.mem_of_getElem? (i := 286) (by decide +kernel)⟩
theorem zmo_61 : zMok 61 := ⟨fun _ => ⟨List.mem_of_getElem? (i := 104) (by decide +kernel), List.mem_of_getElem? (i := 105) (by decide +kernel)⟩, fun h => absurd h (by decide +kernel), fun h => absurd h (by decide +kernel), List.mem_of_getElem? (i := 60) (by decide +kernel), List.mem_of_getElem? (i := 106) (by decide +kernel)⟩
theorem zmo_62 : zMok 62 := ⟨fun _ => ⟨List.mem_of_getElem? (i := 474) (by decide +kernel), List.mem_of_getElem? (i := 475) (by decide +kernel)⟩, fun h => absurd h (by decide +kernel), fun h => absurd h (by decide +kernel), List.mem_of_getElem? (i := 60) (by decide +kernel), List.mem_of_getElem? (i := 476) (by decide +kernel)⟩
theorem zmo_63 : zMok 63 := ⟨fun _ => ⟨List.mem_of_getElem? (i := 467) (by decide +kernel), List.mem_of_getElem? (i := 468) (by decide +kernel)⟩, fun h => absurd h (by decide +kernel), fun h => absurd h (by decide +kernel), List.mem_of_getElem? (i := 60) (by decide +kernel), List.mem_of_getElem? (i := 469) (by decide +kernel)⟩
theorem zmo_64 : zMok 64 := ⟨fun h => absurd h (by decide +kernel), fun h => absurd h (by decide +kernel), fun _ => ⟨List.mem_of_getElem? (i := 245) (by decide +kernel), by decide +kernel, by decide +kernel⟩, List.mem_of_getElem? (i := 67) (by decide +kernel), List.mem_of_getElem? (i := 246) (by decide +kernel)⟩
theorem zmo_65 : zMok 65 := ⟨fun _ => ⟨List.mem_of_getElem? (i := 699) (by decide +kernel), List.mem_of_getElem? (i := 700) (by decide +kernel)⟩, fun h => absurd h (by decide +kernel), fun h => absurd h (by decide +kernel), List.mem_of_getElem? (i := 67) (by decide +kernel), List.mem_of_getElem? (i := 701) (by decide +kernel)⟩
theorem zmo_66 : zMok 66 := ⟨fun h => absurd h (by decide +kernel), fun _ => List.mem_of_getElem? (i := 707) (by decide +kernel), fun h => absurd h (by decide +kernel), List.mem_of_getElem? (i := 67) (by decide +kernel), List.mem_of_getElem? (i := 708) (by decide +kernel)⟩
theorem zmo_67 : zMok 67 := ⟨fun _ => ⟨List.mem_of_getElem? (i := 715) (by decide +kernel), List.mem_of_getElem? (i := 716) (by decide +kernel)⟩, fun h => absurd h (by decide +kernel), fun h => absurd h (by decide +kernel), List.mem_of_getElem? (i := 67) (by decide +kernel), List.mem_of_getElem? (i := 717) (by decide +kernel)⟩
theorem zmo_68 : zMok 68 := ⟨fun _ => ⟨List.mem_of_getElem? (i := 720) (by decide +kernel), List.mem_of_getElem? (i := 16) (by decide +kernel)⟩, fun h => absurd h (by decide +kernel), fun h => absurd h (by decide +kernel), List.mem_of_getElem? (i := 67) (by decide +kernel), List.mem_of_getElem? (i := 721) (by decide +kernel)⟩
theorem zmo_69 : zMok 69 := ⟨fun h => absurd h (by decide +kernel), fun h => absurd h (by decide +kernel), fun _ => ⟨List.mem_of_getElem? (i := 273) (by decide +kernel), by decide +kernel, by decide +kernel⟩, List.mem_of_getElem? (i := 68) (by decide +kernel), List.mem_of_getElem? (i := 274) (by decide +kernel)⟩
theorem zmo_70 : zMok 70 := ⟨fun _ => ⟨List.mem_of_getElem? (i := 280) (by decide +kernel), List.mem_of_getElem? (i := 0) (by decide +kernel)⟩, fun h => absurd h (by decide +kernel), fun h => absurd h (by decide +kernel), List.mem_of_getElem? (i := 68) (by decide +kernel), List.mem_of_getElem? (i := 281) (by decide +kernel)⟩
theorem zmo_71 : zMok 71 := ⟨fun _ => ⟨List.mem_of_getElem? (i := 731) (by decide +kernel), List.mem_of_getElem? (i := 732) (by decide +kernel)⟩, fun h => absurd h (by decide +kernel), fun h => absurd h (by decide +kernel), List.mem_of_getElem? (i := 68) (by decide +kernel), List.mem_of_getElem? (i := 733) (by decide +kernel)⟩
theorem zmo_72 : zMok 72 := ⟨fun h => absurd h (by decide +kernel), fun h => absurd h (by decide +kernel), fun _ => ⟨List.mem_of_getElem? (i := 218) (by decide +kernel), by decide +kernel, by decide +kernel⟩, List.mem_of_getElem? (i := 65) (by decide +kernel), List.mem_of_getElem? (i := 219) (by decide +kernel)⟩
theorem zmo_73 : zMok 73 := ⟨fun _ => ⟨List.mem_of_getElem? (i := 624) (by decide +kernel), List.mem_of_getElem? (i := 625) (by decide +kernel)⟩, fun h => absurd h (by decide +kernel), fun h => absurd h (by decide +kernel), List.mem_of_getElem? (i := 65) (by decide +kernel), List.mem_of_getElem? (i := 626) (by decide +kernel)⟩
theorem zmo_74 : zMok 74 := ⟨fun _ => ⟨List.mem_of_getElem? (i := 630) (by decide +kernel), List.mem_of_getElem? (i := 13) (by decide +kernel)⟩, fun h => absurd h (by decide +kernel), fun h => absurd h (by decide +kernel), List.mem_of_getElem? (i := 65) (by decide +kernel), List.mem_of_getElem? (i := 631) (by decide +kernel)⟩
theorem zmo_75 : zMok 75 := ⟨fun _ => ⟨List.mem_of_getElem? (i := 640) (by decide +kernel), List.mem_of_getElem? (i := 641) (by decide +kernel)⟩, fun h => absurd h (by decide +kernel), fun h => absurd h (by decide +kernel), List.mem_of_getElem? (i := 65) (by decide +kernel), List.mem_of_getElem? (i := 642) (by decide +kernel)⟩
theorem zmo_76 : zMok 76 := ⟨fun _ => ⟨List.mem_of_getElem? (i := 646) (by decide +kernel), List.mem_of_getElem? (i := 647) (by decide +kernel)⟩, fun h => absurd h (by decide +kernel), fun h => absurd h (by decide +kernel), List.mem_of_getElem? (i := 65) (by decide +kernel), List.mem_of_getElem? (i := 648) (by decide +kernel)⟩
theorem zmo_77 : zMok 77 := ⟨fun _ => ⟨List.mem_of_getElem? (i := 651) (by decide +kernel), List.mem_of_getElem? (i := 14) (by decide +kernel)⟩, fun h => absurd h (by decide +kernel), fun h => absurd h (by decide +kernel), List.mem_of_getElem? (i := 65) (by decide +kernel), List.mem_of_getElem? (i := 652) (by decide +kernel)⟩
theorem zmo_78 : zMok 78 := ⟨fun h => absurd h (by decide +kernel), fun h => absurd h (by decide +kernel), fun _ => ⟨List.mem_of_getElem? (i := 78) (by decide +kernel), by decide +kernel, by decide +kernel⟩, List.mem_of_getElem? (i := 58) (by decide +kernel), List.mem_of_getElem? (i := 79) (by decide +kernel)⟩
theorem zmo_79 : zMok 79 := ⟨fun _ => ⟨List.mem_of_getElem? (i := 335) (by decide +kernel), List.mem_of_getElem? (i := 336) (by decide +kernel)⟩, fun h => absurd h (by decide +kernel), fun h => absurd h (by decide +kernel), List.mem_of_getElem? (i := 58) (by decide +kernel), List.mem_of_getElem? (i := 337) (by decide +kernel)⟩
theorem zmo_80 : zMok 80 := ⟨fun _ => ⟨List.mem_of_getElem? (i := 357) (by decide +kernel), List.mem_of_getElem? (i := 358) (by decide +kernel)⟩, fun h => absurd h (by decide +kernel), fun h => absurd h (by decide +kernel), List.mem_of_getElem? (i := 58) (by decide +kernel), List.mem_of_getElem? (i := 359) (by decide +kernel)⟩
theorem zmo_81 : zMok 81 := ⟨fun _ => ⟨List.mem_of_getElem? (i := 370) (by decide +kernel), List.mem_of_getElem? (i := 371) (by decide +kernel)⟩, fun h => absurd h (by decide +kernel), fun h => absurd h (by decide +kernel), List.mem_of_getElem? (i := 58) (by decide +kernel), List.mem_of_getElem? (i := 372) (by decide +kernel)⟩
theorem zmo_82 : zMok 82 := ⟨fun _ => ⟨List.mem_of_getElem? (i := 397) (by decide +kernel), List.mem_of_getElem? (i := 398) (by decide +kernel)⟩, fun h => absurd h (by decide +kernel), fun h => absurd h (by decide +kernel), List.mem_of_getElem? (i := 58) (by decide +kernel), List.mem_of_getElem? (i := 399) (by decide +kernel)⟩
theorem zmo_83 : zMok 83 := ⟨fun _ => ⟨List.mem_of_getElem? (i := 409) (by decide +kernel), List.mem_of_getElem? (i := 410) (by decide +kernel)⟩, fun h => absurd h (by decide +kernel), fun h => absurd h (by decide +kernel), List.mem_of_getElem? (i := 58) (by decide +kernel), List.mem_of_getElem? (i := 411) (by decide +kernel)⟩
theorem zmo_84 : zMok 84 := ⟨fun _ => ⟨List.mem_of_getElem? (i := 413) (by decide +kernel), List.mem_of_getElem? (i := 414) (by decide +kernel)⟩, fun h => absurd h (by decide +kernel), fun h => absurd h (by decide +kernel), List.mem_of_getElem? (i := 58) (by decide +kernel), List.mem_of_getElem? (i := 415) (by decide +kernel)⟩
theorem zmo_85 : zMok 85 := ⟨fun _ => ⟨List.mem_of_getElem? (i := 422) (by decide +kernel), List.mem_of_getElem? (i := 423) (by decide +kernel)⟩, fun h => absurd h (by decide +kernel), fun h => absurd h (by decide +kernel), List.mem_of_getElem? (i := 58) (by decide +kernel), List.mem_of_getElem? (i := 424) (by decide +kernel)⟩
theorem zmo_86 : zMok 86 := ⟨fun _ => ⟨List.mem_of_getElem? (i := 430) (by decide +kernel), List.mem_of_getElem? (i := 431) (by decide +kernel)⟩, fun h => absurd h (by decide +kernel), fun h => absurd h (by decide +kernel), List.mem_of_getElem? (i := 58) (by decide +kernel), List.mem_of_getElem? (i := 432) (by decide +kernel)⟩
theorem zmo_87 : zMok 87 := ⟨fun _ => ⟨List.mem_of_getElem? (i := 450) (by decide +kernel), List.mem_of_getElem? (i := 451) (by decide +kernel)⟩, fun h => absurd h (by decide +kernel), fun h => absurd h (by decide +kernel), List.mem_of_getElem? (i := 58) (by decide +kernel), List.mem_of_getElem? (i := 452) (by decide +kernel)⟩
theorem zmo_88 : zMok 88 := ⟨fun _ => ⟨List.mem_of_getElem? (i := 540) (by decide +kernel), List.mem_of_getElem? (i := 541) (by decide +kernel)⟩, fun h => absurd h (by decide +kernel), fun h => absurd h (by decide +kernel), List.mem_of_getElem? (i := 58) (by decide +kernel), List.mem_of_getElem? (i := 542) (by decide +kernel)⟩
theorem zmo_89 : zMok 89 := ⟨fun _ => ⟨List.mem_of_getElem? (i := 544) (by decide +kernel), List.mem_of_getElem? (i := 545) (by decide +kernel)⟩, fun h => absurd h (by decide +kernel), fun h => absurd h (by decide +kernel), List.mem_of_getElem? (i := 58) (by decide +kernel), List.mem_of_getElem? (i := 546) (by decide +kernel)⟩
theorem zmo_90 : zMok 90 := ⟨fun _ => ⟨List.mem_of_getElem? (i := 553) (by decide +kernel), List.mem_of_getElem? (i := 554) (by decide +kernel)⟩, fun h => absurd h (by decide +kernel), fun h => absurd h (by decide +kernel), List.mem_of_getElem? (i := 58) (by decide +kernel), List.mem_of_getElem? (i := 555) (by decide +kernel)⟩
theorem zmo_91 : zMok 91 := ⟨fun _ => ⟨List.mem_of_getElem? (i := 558) (by decide +kernel), List.mem_of_getElem? (i := 559) (by decide +kernel)⟩, fun h => absurd h (by decide +kernel), fun h => absurd h (by decide +kernel), List.mem_of_getElem? (i := 58) (by decide +kernel), List.mem_of_getElem? (i := 560) (by decide +kernel)⟩
theorem zmo_92 : zMok 92 := ⟨fun _ => ⟨List.mem_of_getElem? (i := 566) (by decide +kernel), List.mem_of_getElem? (i := 567) (by decide +kernel)⟩, fun h => absurd h (by decide +kernel), fun h => absurd h (by decide +kernel), List.mem_of_getElem? (i := 58) (by decide +kernel), List.mem_of_getElem? (i := 568) (by decide +kernel)⟩
theorem zmo_93 : zMok 93 := ⟨fun _ => ⟨List.mem_of_getElem? (i := 571) (by decide +kernel), List.mem_of_getElem? (i := 572) (by decide +kernel)⟩, fun h => absurd h (by decide +kernel), fun h => absurd h (by decide +kernel), List.mem_of_getElem? (i := 58) (by decide +kernel), List.mem_of_getElem? (i := 573) (by decide +kernel)⟩
theorem zmo_94 : zMok 94 := ⟨fun _ => ⟨List.mem_of_getElem? (i := 583) (by decide +kernel), List.mem_of_getElem? (i := 584) (by decide +kernel)⟩, fun h => absurd h (by decide +kernel), fun h => absurd h (by decide +kernel), List.mem_of_getElem? (i := 58) (by decide +kernel), List.mem_of_getElem? (i := 585) (by decide +kernel)⟩
theorem zmo_95 : zMok 95 := ⟨fun _ => ⟨List.mem_of_getElem? (i := 588) (by decide +kernel), List.mem_of_getElem? (i := 589) (by decide +kernel)⟩, fun h => absurd h (by decide +kernel), fun h => absurd h (by decide +kernel), List.mem_of_getElem? (i := 58) (by decide +kernel), List.mem_of_getElem? (i := 590) (by decide +kernel)⟩
theorem zmo_96 : zMok 96 := ⟨fun _ => ⟨List.mem_of_getElem? (i := 620) (by decide +kernel), List.mem_of_getElem? (i := 621) (by decide +kernel)⟩, fun h => absurd h (by decide +kernel), fun h => absurd h (by decide +kernel), List.mem_of_getElem? (i := 58) (by decide +kernel), List.mem_of_getElem? (i := 622) (by decide +kernel)⟩
theorem zmo_97 : zMok 97 := ⟨fun _ => ⟨List.mem_of_getElem? (i := 655) (by decide +kernel), List.mem_of_getElem? (i := 656) (by decide +kernel)⟩, fun h => absurd h (by decide +kernel), fun h => absurd h (by decide +kernel), List.mem_of_getElem? (i := 58) (by decide +kernel), List.mem_of_getElem? (i := 657) (by decide +kernel)⟩
theorem zmo_98 : zMok 98 := ⟨fun _ => ⟨List.mem_of_getElem? (i := 679) (by decide +kernel), List.mem_of_getElem? (i := 680) (by decide +kernel)⟩, fun h => absurd h (by decide +kernel), fun h => absurd h (by decide +kernel), List.mem_of_getElem? (i := 58) (by decide +kernel), List.mem_of_getElem? (i := 681) (by decide +kernel)⟩
theorem zmo_99 : zMok 99 := ⟨fun _ => ⟨List.mem_of_getElem? (i := 687) (by decide +kernel), List.mem_of_getElem? (i := 688) (by decide +kernel)⟩, fun h => absurd h (by decide +kernel), fun h => absurd h (by decide +kernel), List.mem_of_getElem? (i := 58) (by decide +kernel), List.mem_of_getElem? (i := 689) (by decide +kernel)⟩
theorem zmo_100 : zMok 100 := ⟨fun _ => ⟨List.mem_of_getElem? (i := 695) (by decide +kernel), List.mem_of_getElem? (i := 696) (by decide +kernel)⟩, fun h => absurd h (by decide +kernel), fun h => absurd h (by decide +kernel), List.mem_of_getElem? (i := 58) (by decide +kernel), List.mem_of_getElem? (i := 697) (by decide +kernel)⟩
theorem zmo_101 : zMok 101 := ⟨fun _ => ⟨List.mem_of_getElem? (i := 711) (by decide +kernel), List.mem_of_getElem? (i := 712) (by decide +kernel)⟩, fun h => absurd h (by decide +kernel), fun h => absurd h (by decide +kernel), List.mem_of_getElem? (i := 58) (by decide +kernel), List.mem_of_getElem? (i := 713) (by decide +kernel)⟩
theorem zmo_102 : zMok 102 := ⟨fun _ => ⟨List.mem_of_getElem? (i := 727) (by decide +kernel), List.mem_of_getElem? (i := 728) (by decide +kernel)⟩, fun h => absurd h (by decide +kernel), fun h => absurd h (by decide +kernel), List.mem_of_getElem? (i := 58) (by decide +kernel), List.mem_of_getElem? (i := 729) (by decide +kernel)⟩
theorem zmo_103 : zMok 103 := ⟨fun _ => ⟨List.mem_of_getElem? (i := 735) (by decide +kernel), List.mem_of_getElem? (i := 736) (by decide +kernel)⟩, fun h => absurd h (by decide +kernel), fun h => absurd h (by decide +kernel), List.mem_of_getElem? (i := 58) (by decide +kernel), List.mem_of_getElem? (i := 737) (by decide +kernel)⟩
theorem zmo_104 : zMok 104 := ⟨fun _ => ⟨List.mem_of_getElem? (i := 749) (by decide +kernel), List.mem_of_getElem? (i := 750) (by decide +kernel)⟩, fun h => absurd h (by decide +kernel), fun h => absurd h (by decide +kernel), List.mem_of_getElem? (i := 58) (by decide +kernel), List.mem_of_getElem? (i := 751) (by decide +kernel)⟩
theorem zmo_105 : zMok 105 := ⟨fun _ => ⟨List.mem_of_getElem? (i := 773) (by decide +kernel), List.mem_of_getElem? (i := 774) (by decide +kernel)⟩, fun h => absurd h (by decide +kernel), fun h => absurd h (by decide +kernel), List.mem_of_getElem? (i := 58) (by decide +kernel), List.mem_of_getElem? (i := 775) (by decide +kernel)⟩
theorem zmo_106 : zMok 106 := ⟨fun _ => ⟨List.mem_of_getElem? (i := 777) (by decide +kernel), List.mem_of_getElem? (i := 778) (by decide +kernel)⟩, fun h => absurd h (by decide +kernel), fun h => absurd h (by decide +kernel), List.mem_of_getElem? (i := 58) (by decide +kernel), List.mem_of_getElem? (i := 779) (by decide +kernel)⟩
theorem zmo_107 : zMok 107 := ⟨fun _ => ⟨List.mem_of_getElem? (i := 782) (by decide +kernel), List.mem_of_getElem? (i := 783) (by decide +kernel)⟩, fun h => absurd h (by decide +kernel), fun h => absurd h (by decide +kernel), List.mem_of_getElem? (i := 58) (by decide +kernel), List.mem_of_getElem? (i := 784) (by decide +kernel)⟩
theorem zmo_108 : zMok 108 := ⟨fun _ => ⟨List.mem_of_getElem? (i := 787) (by decide +kernel), List.mem_of_getElem? (i := 18) (by decide +kernel)⟩, fun h => absurd h (by decide +kernel), fun h => absurd h (by decide +kernel), List.mem_of_getElem? (i := 58) (by decide +kernel), List.mem_of_getElem? (i := 788) (by decide +kernel)⟩
theorem zmo_109 : zMok 109 := ⟨fun h => absurd h (by decide +kernel), fun _ => List.mem_of_getElem? (i := 111) (by decide +kernel), fun h => absurd h (by decide +kernel), List.mem_of_getElem? (i := 58) (by decide +kernel), List.mem_of_getElem? (i := 112) (by decide +kernel)⟩
theorem zmo_110 : zMok 110 := ⟨fun h => absurd h (by decide +kernel), fun _ => List.mem_of_getElem? (i := 339) (by decide +kernel), fun h => absurd h (by decide +kernel), List.mem_of_getElem? (i := 58) (by decide +kernel), List.mem_of_getElem? (i := 340) (by decide +kernel)⟩
theorem zmo_111 : zMok 111 := ⟨fun h => absurd h (by decide +kernel), fun _ => List.mem_of_getElem? (i := 108) (by decide +kernel), fun h => absurd h (by decide +kernel), List.mem_of_getElem? (i := 58) (by decide +kernel), List.mem_of_getElem? (i := 109) (by decide +kernel)⟩
theorem zmo_112 : zMok 112 := ⟨fun h => absurd h (by decide +kernel), fun _ => List.mem_of_getElem? (i := 374) (by decide +kernel), fun h => absurd h (by decide +kernel), List.mem_of_getElem? (i := 58) (by decide +kernel), List.mem_of_getElem? (i := 375) (by decide +kernel)⟩
theorem zmo_113 : zMok 113 := ⟨fun h => absurd h (by decide +kernel), fun _ => List.mem_of_getElem? (i := 499) (by decide +kernel), fun h => absurd h (by decide +kernel), List.mem_of_getElem? (i := 58) (by decide +kernel), List.mem_of_getElem? (i := 500) (by decide +kernel)⟩
theorem zmo_114 : zMok 114 := ⟨fun h => absurd h (by decide +kernel), fun _ => List.mem_of_getElem? (i := 740) (by decide +kernel), fun h => absurd h (by decide +kernel), List.mem_of_getElem? (i := 58) (by decide +kernel), List.mem_of_getElem? (i := 741) (by decide +kernel)⟩
theorem zmo_115 : zMok 115 := ⟨fun h => absurd h (by decide +kernel), fun _ => List.mem_of_getElem? (i := 743) (by decide +kernel), fun h => absurd h (by decide +kernel), List.mem_of_getElem? (i := 58) (by decide +kernel), List.mem_of_getElem? (i := 744) (by decide +kernel)⟩
theorem zmo_116 : zMok 116 := ⟨fun h => absurd h (by decide +kernel), fun h => absurd h (by decide +kernel), fun _ => ⟨List.mem_of_getElem? (i := 793) (by decide +kernel), by decide +kernel, by decide +kernel⟩, List.mem_of_getElem? (i := 72) (by decide +kernel), List.mem_of_getElem? (i := 794) (by decide +kernel)⟩
theorem zmo_117 : zMok 117 := ⟨fun h => absurd h (by decide +kernel), fun _ => List.mem_of_getElem? (i := 903) (by decide +kernel), fun h => absurd h (by decide +kernel), List.mem_of_getElem? (i := 72) (by decide +kernel), List.mem_of_getElem? (i := 904) (by decide +kernel)⟩
theorem zmo_118 : zMok 118 := ⟨fun h => absurd h (by decide +kernel), fun _ => List.mem_of_getElem? (i := 899) (by decide +kernel), fun h => absurd h (by decide +kernel), List.mem_of_getElem? (i := 72) (by decide +kernel), List.mem_of_getElem? (i := 900) (by decide +kernel)⟩
theorem zmo_119 : zMok 119 := ⟨fun h => absurd h (by decide +kernel), fun _ => List.mem_of_getElem? (i := 916) (by decide +kernel), fun h => absurd h (by decide +kernel), List.mem_of_getElem? (i := 72) (by decide +kernel), List.mem_of_getElem? (i := 917) (by decide +kernel)⟩
theorem zmo_120 : zMok 120 := ⟨fun h => absurd h (by decide +kernel), fun _ => List.mem_of_getElem? (i := 924) (by decide +kernel), fun h => absurd h (by decide +kernel), List.mem_of_getElem? (i := 72) (by decide +kernel), List.mem_of_getElem? (i := 925) (by decide +kernel)⟩
theorem zmo_121 : zMok 121 := ⟨fun h => absurd h (by decide +kernel), fun _ => List.mem_of_getElem? (i := 1003) (by decide +kernel), fun h => absurd h (by decide +kernel), List.mem_of_getElem? (i := 72) (by decide +kernel), List.mem_of_getElem? (i := 1004) (by decide +kernel)⟩
theorem zmo_122 : zMok 122 := ⟨fun h => absurd h (by decide +kernel), fun _ => List.mem_of_getElem? (i := 906) (by decide +kernel), fun h => absurd h (by decide +kernel), List.mem_of_getElem? (i := 72) (by decide +kernel), List.mem_of_getElem? (i := 907) (by decide +kernel)⟩
theorem zmo_123 : zMok 123 := ⟨fun h => absurd h (by decide +kernel), fun _ => List.mem_of_getElem? (i := 909) (by decide +kernel), fun h => absurd h (by decide +kernel), List.mem_of_getElem? (i := 72) (by decide +kernel), List.mem_of_getElem? (i := 910) (by decide +kernel)⟩
theorem zmo_124 : zMok 124 := ⟨fun _ => ⟨List.mem_of_getElem? (i := 895) (by decide +kernel), List.mem_of_getElem? (i := 896) (by decide +kernel)⟩, fun h => absurd h (by decide +kernel), fun h => absurd h (by decide +kernel), List.mem_of_getElem? (i := 72) (by decide +kernel), List.mem_of_getElem? (i := 897) (by decide +kernel)⟩
theorem zmo_125 : zMok 125 := ⟨fun _ => ⟨List.mem_of_getElem? (i := 912) (by decide +kernel), List.mem_of_getElem? (i := 913) (by decide +kernel)⟩, fun h => absurd h (by decide +kernel), fun h => absurd h (by decide +kernel), List.mem_of_getElem? (i := 72) (by decide +kernel), List.mem_of_getElem? (i := 914) (by decide +kernel)⟩
theorem zmo_126 : zMok 126 := ⟨fun _ => ⟨List.mem_of_getElem? (i := 933) (by decide +kernel), List.mem_of_getElem? (i := 20) (by decide +kernel)⟩, fun h => absurd h (by decide +kernel), fun h => absurd h (by decide +kernel), List.mem_of_getElem? (i := 72) (by decide +kernel), List.mem_of_getElem? (i := 934) (by decide +kernel)⟩
theorem zmo_127 : zMok 127 := ⟨fun _ => ⟨List.mem_of_getElem? (i := 929) (by decide +kernel), List.mem_of_getElem? (i := 19) (by decide +kernel)⟩, fun h => absurd h (by decide +kernel), fun h => absurd h (by decide +kernel), List.mem_of_getElem? (i := 72) (by decide +kernel), List.mem_of_getElem? (i := 930) (by decide +kernel)⟩
theorem zmo_128 : zMok 128 := ⟨fun _ => ⟨List.mem_of_getElem? (i := 920) (by decide +kernel), List.mem_of_getElem? (i := 921) (by decide +kernel)⟩, fun h => absurd h (by decide +kernel), fun h => absurd h (by decide +kernel), List.mem_of_getElem? (i := 72) (by decide +kernel), List.mem_of_getElem? (i := 922) (by decide +kernel)⟩
theorem zmo_129 : zMok 129 := ⟨fun _ => ⟨List.mem_of_getElem? (i := 936) (by decide +kernel), List.mem_of_getElem? (i := 937) (by decide +kernel)⟩, fun h => absurd h (by decide +kernel), fun h => absurd h (by decide +kernel), List.mem_of_getElem? (i := 72) (by decide +kernel), List.mem_of_getElem? (i := 938) (by decide +kernel)⟩
theorem zmo_130 : zMok 130 := ⟨fun _ => ⟨List.mem_of_getElem? (i := 940) (by decide +kernel), List.mem_of_getElem? (i := 941) (by decide +kernel)⟩, fun h => absurd h (by decide +kernel), fun h => absurd h (by decide +kernel), List.mem_of_getElem? (i := 72) (by decide +kernel), List.mem_of_getElem? (i := 942) (by decide +kernel)⟩
theorem zmo_131 : zMok 131 := ⟨fun _ => ⟨List.mem_of_getElem? (i := 944) (by decide +kernel), List.mem_of_getElem? (i := 945) (by decide +kernel)⟩, fun h => absurd h (by decide +kernel), fun h => absurd h (by decide +kernel), List.mem_of_getElem? (i := 72) (by decide +kernel), List.mem_of_getElem? (i := 946) (by decide +kernel)⟩
theorem zmo_132 : zMok 132 := ⟨fun _ => ⟨List.mem_of_getElem? (i := 950) (by decide +kernel), List.mem_of_getElem? (i := 951) (by decide +kernel)⟩, fun h => absurd h (by decide +kernel), fun h => absurd h (by decide +kernel), List.mem_of_getElem? (i := 72) (by decide +kernel), List.mem_of_getElem? (i := 952) (by decide +kernel)⟩
theorem zmo_133 : zMok 133 := ⟨fun _ => ⟨List.mem_of_getElem? (i := 972) (by decide +kernel), List.mem_of_getElem? (i := 23) (by decide +kernel)⟩, fun h => absurd h (by decide +kernel), fun h => absurd h (by decide +kernel), List.mem_of_getElem? (i := 72) (by decide +kernel), List.mem_of_getElem? (i := 973) (by decide +kernel)⟩
theorem zmo_134 : zMok 134 := ⟨fun h => absurd h (by decide +kernel), fun _ => List.mem_of_getElem? (i := 966) (by decide +kernel), fun h => absurd h (by decide +kernel), List.mem_of_getElem? (i := 72) (by decide +kernel), List.mem_of_getElem? (i := 967) (by decide +kernel)⟩
theorem zmo_135 : zMok 135 := ⟨fun _ => ⟨List.mem_of_getElem? (i := 963) (by decide +kernel), List.mem_of_getElem? (i := 22) (by decide +kernel)⟩, fun h => absurd h (by decide +kernel), fun h => absurd h (by decide +kernel), List.mem_of_getElem? (i := 72) (by decide +kernel), List.mem_of_getElem? (i := 964) (by decide +kernel)⟩
theorem zmo_136 : zMok 136 := ⟨fun _ => ⟨List.mem_of_getElem? (i := 976) (by decide +kernel), List.mem_of_getElem? (i := 24) (by decide +kernel)⟩, fun h => absurd h (by decide +kernel), fun h => absurd h (by decide +kernel), List.mem_of_getElem? (i := 72) (by decide +kernel), List.mem_of_getElem? (i := 977) (by decide +kernel)⟩
theorem zmo_137 : zMok 137 := ⟨fun _ => ⟨List.mem_of_getElem? (i := 959) (by decide +kernel), List.mem_of_getElem? (i := 21) (by decide +kernel)⟩, fun h => absurd h (by decide +kernel), fun h => absurd h (by decide +kernel), List.mem_of_getElem? (i := 72) (by decide +kernel), List.mem_of_getElem? (i := 960) (by decide +kernel)⟩
theorem zmo_138 : zMok 138 := ⟨fun _ => ⟨List.mem_of_getElem? (i := 954) (by decide +kernel), List.mem_of_getElem? (i := 955) (by decide +kernel)⟩, fun h => absurd h (by decide +kernel), fun h => absurd h (by decide +kernel), List.mem_of_getElem? (i := 72) (by decide +kernel), List.mem_of_getElem? (i := 956) (by decide +kernel)⟩
theorem zmo_139 : zMok 139 := ⟨fun _ => ⟨List.mem_of_getElem? (i := 1007) (by decide +kernel), List.mem_of_getElem? (i := 29) (by decide +kernel)⟩, fun h => absurd h (by decide +kernel), fun h => absurd h (by decide +kernel), List.mem_of_getElem? (i := 72) (by decide +kernel), List.mem_of_getElem? (i := 1008) (by decide +kernel)⟩
theorem zmo_140 : zMok 140 := ⟨fun _ => ⟨List.mem_of_getElem? (i := 1011) (by decide +kernel), List.mem_of_getElem? (i := 30) (by decide +kernel)⟩, fun h => absurd h (by decide +kernel), fun h => absurd h (by decide +kernel), List.mem_of_getElem? (i := 72) (by decide +kernel), List.mem_of_getElem? (i := 1012) (by decide +kernel)⟩
theorem zmo_141 : zMok 141 := ⟨fun _ => ⟨List.mem_of_getElem? (i := 1000) (by decide +kernel), List.mem_of_getElem? (i := 28) (by decide +kernel)⟩, fun h => absurd h (by decide +kernel), fun h => absurd h (by decide +kernel), List.mem_of_getElem? (i := 72) (by decide +kernel), List.mem_of_getElem? (i := 1001) (by decide +kernel)⟩
theorem zmo_142 : zMok 142 := ⟨fun _ => ⟨List.mem_of_getElem? (i := 1023) (by decide +kernel), List.mem_of_getElem? (i := 33) (by decide +kernel)⟩, fun h => absurd h (by decide +kernel), fun h => absurd h (by decide +kernel), List.mem_of_getElem? (i := 72) (by decide +kernel), List.mem_of_getElem? (i := 1024) (by decide +kernel)⟩
theorem zmo_143 : zMok 143 := ⟨fun _ => ⟨List.mem_of_getElem? (i := 1019) (by decide +kernel), List.mem_of_getElem? (i := 32) (by decide +kernel)⟩, fun h => absurd h (by decide +kernel), fun h => absurd h (by decide +kernel), List.mem_of_getElem? (i := 72) (by decide +kernel), List.mem_of_getElem? (i := 1020) (by decide +kernel)⟩
theorem zmo_144 : zMok 144 := ⟨fun _ => ⟨List.mem_of_getElem? (i := 1027) (by decide +kernel), List.mem_of_getElem? (i := 34) (by decide +kernel)⟩, fun h => absurd h (by decide +kernel), fun h => absurd h (by decide +kernel), List.mem_of_getElem? (i := 72) (by decide +kernel), List.mem_of_getElem? (i := 1028) (by decide +kernel)⟩
theorem zmo_145 : zMok 145 := ⟨fun _ => ⟨List.mem_of_getElem? (i := 1031) (by decide +kernel), List.mem_of_getElem? (i := 35) (by decide +kernel)⟩, fun h => absurd h (by decide +kernel), fun h => absurd h (by decide +kernel), List.mem_of_getElem? (i := 72) (by decide +kernel), List.mem_of_getElem? (i := 1032) (by decide +kernel)⟩
theorem zmo_146 : zMok 146 := ⟨fun _ => ⟨List.mem_of_getElem? (i := 1015) (by decide +kernel), List.mem_of_getElem? (i := 31) (by decide +kernel)⟩, fun h => absurd h (by decide +kernel), fun h => absurd h (by decide +kernel), List.mem_of_getElem? (i := 72) (by decide +kernel), List.mem_of_getElem? (i := 1016) (by decide +kernel)⟩
theorem zmo_147 : zMok 147 := ⟨fun _ => ⟨List.mem_of_getElem? (i := 991) (by decide +kernel), List.mem_of_getElem? (i := 26) (by decide +kernel)⟩, fun h => absurd h (by decide +kernel), fun h => absurd h (by decide +kernel), List.mem_of_getElem? (i := 72) (by decide +kernel), List.mem_of_getElem? (i := 992) (by decide +kernel)⟩
theorem zmo_148 : zMok 148 := ⟨fun _ => ⟨List.mem_of_getElem? (i := 1035) (by decide +kernel), List.mem_of_getElem? (i := 36) (by decide +kernel)⟩, fun h => absurd h (by decide +kernel), fun h => absurd h (by decide +kernel), List.mem_of_getElem? (i := 72) (by decide +kernel), List.mem_of_getElem? (i := 1036) (by decide +kernel)⟩
theorem zmo_149 : zMok 149 := ⟨fun _ => ⟨List.mem_of_getElem? (i := 996) (by decide +kernel), List.mem_of_getElem? (i := 27) (by decide +kernel)⟩, fun h => absurd h (by decide +kernel), fun h => absurd h (by decide +kernel), List.mem_of_getElem? (i := 72) (by decide +kernel), List.mem_of_getElem? (i := 997) (by decide +kernel)⟩
theorem zmo_150 : zMok 150 := ⟨fun _ => ⟨List.mem_of_getElem? (i := 987) (by decide +kernel), List.mem_of_getElem? (i := 25) (by decide +kernel)⟩, fun h => absurd h (by decide +kernel), fun h => absurd h (by decide +kernel), List.mem_of_getElem? (i := 72) (by decide +kernel), List.mem_of_getElem? (i := 988) (by decide +kernel)⟩
theorem zmo_151 : zMok 151 := ⟨fun _ => ⟨List.mem_of_getElem? (i := 981) (by decide +kernel), List.mem_of_getElem? (i := 982) (by decide +kernel)⟩, fun h => absurd h (by decide +kernel), fun h => absurd h (by decide +kernel), List.mem_of_getElem? (i := 72) (by decide +kernel), List.mem_of_getElem? (i := 983) (by decide +kernel)⟩
theorem zmo_152 : zMok 152 := ⟨fun _ => ⟨List.mem_of_getElem? (i := 1038) (by decide +kernel), List.mem_of_getElem? (i := 1039) (by decide +kernel)⟩, fun h => absurd h (by decide +kernel), fun h => absurd h (by decide +kernel), List.mem_of_getElem? (i := 72) (by decide +kernel), List.mem_of_getElem? (i := 1040) (by decide +kernel)⟩
theorem zmo_153 : zMok 153 := ⟨fun _ => ⟨List.mem_of_getElem? (i := 1042) (by decide +kernel), List.mem_of_getElem? (i := 1043) (by decide +kernel)⟩, fun h => absurd h (by decide +kernel), fun h => absurd h (by decide +kernel), List.mem_of_getElem? (i := 72) (by decide +kernel), List.mem_of_getElem? (i := 1044) (by decide +kernel)⟩
theorem zmo_154 : zMok 154 := ⟨fun _ => ⟨List.mem_of_getElem? (i := 1046) (by decide +kernel), List.mem_of_getElem? (i := 1047) (by decide +kernel)⟩, fun h => absurd h (by decide +kernel), fun h => absurd h (by decide +kernel), List.mem_of_getElem? (i := 72) (by decide +kernel), List.mem_of_getElem? (i := 1048) (by decide +kernel)⟩
theorem zmo_155 : zMok 155 := ⟨fun _ => ⟨List.mem_of_getElem? (i := 1050) (by decide +kernel), List.mem_of_getElem? (i := 1051) (by decide +kernel)⟩, fun h => absurd h (by decide +kernel), fun h => absurd h (by decide +kernel), List.mem_of_getElem? (i := 72) (by decide +kernel), List.mem_of_getElem? (i := 1052) (by decide +kernel)⟩
theorem zmo_156 : zMok 156 := ⟨fun _ => ⟨List.mem_of_getElem? (i := 1054) (by decide +kernel), List.mem_of_getElem? (i := 1055) (by decide +kernel)⟩, fun h => absurd h (by decide +kernel), fun h => absurd h (by decide +kernel), List.mem_of_getElem? (i := 72) (by decide +kernel), List.mem_of_getElem? (i := 1056) (by decide +kernel)⟩
theorem zmo_157 : zMok 157 := ⟨fun _ => ⟨List.mem_of_getElem? (i := 1063) (by decide +kernel), List.mem_of_getElem? (i := 37) (by decide +kernel)⟩, fun h => absurd h (by decide +kernel), fun h => absurd h (by decide +kernel), List.mem_of_getElem? (i := 72) (by decide +kernel), List.mem_of_getElem? (i := 1064) (by decide +kernel)⟩
theorem zmo_158 : zMok 158 := ⟨fun _ => ⟨List.mem_of_getElem? (i := 1058) (by decide +kernel), List.mem_of_getElem? (i := 1059) (by decide +kernel)⟩, fun h => absurd h (by decide +kernel), fun h => absurd h (by decide +kernel), List.mem_of_getElem? (i := 72) (by decide +kernel), List.mem_of_getElem? (i := 1060) (by decide +kernel)⟩
theorem zmo_159 : zMok 159 := ⟨fun _ => ⟨List.mem_of_getElem? (i := 1066) (by decide +kernel), List.mem_of_getElem? (i := 1067) (by decide +kernel)⟩, fun h => absurd h (by decide +kernel), fun h => absurd h (by decide +kernel), List.mem_of_getElem? (i := 72) (by decide +kernel), List.mem_of_getElem? (i := 1068) (by decide +kernel)⟩
theorem zmo_160 : zMok 160 := ⟨fun _ => ⟨List.mem_of_getElem? (i := 1076) (by decide +kernel), List.mem_of_getElem? (i := 38) (by decide +kernel)⟩, fun h => absurd h (by decide +kernel), fun h => absurd h (by decide +kernel), List.mem_of_getElem? (i := 72) (by decide +kernel), List.mem_of_getElem? (i := 1077) (by decide +kernel)⟩
theorem zmo_161 : zMok 161 := ⟨fun h => absurd h (by decide +kernel), fun _ => List.mem_of_getElem? (i := 1083) (by decide +kernel), fun h => absurd h (by decide +kernel), List.mem_of_getElem? (i := 72) (by decide +kernel), List.mem_of_getElem? (i := 1084) (by decide +kernel)⟩
theorem zmo_162 : zMok 162 := ⟨fun _ => ⟨List.mem_of_getElem? (i := 1080) (by decide +kernel), List.mem_of_getElem? (i := 39) (by decide +kernel)⟩, fun h => absurd h (by decide +kernel), fun h => absurd h (by decide +kernel), List.mem_of_getElem? (i := 72) (by decide +kernel), List.mem_of_getElem? (i := 1081) (by decide +kernel)⟩
theorem zmo_163 : zMok 163 := ⟨fun _ => ⟨List.mem_of_getElem? (i := 1070) (by decide +kernel), List.mem_of_getElem? (i := 1071) (by decide +kernel)⟩, fun h => absurd h (by decide +kernel), fun h => absurd h (by decide +kernel), List.mem_of_getElem? (i := 72) (by decide +kernel), List.mem_of_getElem? (i := 1072) (by decide +kernel)⟩
theorem zmo_164 : zMok 164 := ⟨fun _ => ⟨List.mem_of_getElem? (i := 1091) (by decide +kernel), List.mem_of_getElem? (i := 40) (by decide +kernel)⟩, fun h => absurd h (by decide +kernel), fun h => absurd h (by decide +kernel), List.mem_of_getElem? (i := 72) (by decide +kernel), List.mem_of_getElem? (i := 1092) (by decide +kernel)⟩
theorem zmo_165 : zMok 165 := ⟨fun _ => ⟨List.mem_of_getElem? (i := 1086) (by decide +kernel), List.mem_of_getElem? (i := 1087) (by decide +kernel)⟩, fun h => absurd h (by decide +kernel), fun h => absurd h (by decide +kernel), List.mem_of_getElem? (i := 72) (by decide +kernel), List.mem_of_getElem? (i := 1088) (by decide +kernel)⟩
theorem zmo_166 : zMok 166 := ⟨fun _ => ⟨List.mem_of_getElem? (i := 1100) (by decide +kernel), List.mem_of_getElem? (i := 41) (by decide +kernel)⟩, fun h => absurd h (by decide +kernel), fun h => absurd h (by decide +kernel), List.mem_of_getElem? (i := 72) (by decide +kernel), List.mem_of_getElem? (i := 1101) (by decide +kernel)⟩
theorem zmo_167 : zMok 167 := ⟨fun _ => ⟨List.mem_of_getElem? (i := 1104) (by decide +kernel), List.mem_of_getElem? (i := 42) (by decide +kernel)⟩, fun h => absurd h (by decide +kernel), fun h => absurd h (by decide +kernel), List.mem_of_getElem? (i := 72) (by decide +kernel), List.mem_of_getElem? (i := 1105) (by decide +kernel)⟩
theorem zmo_168 : zMok 168 := ⟨fun _ => ⟨List.mem_of_getElem? (i := 1108) (by decide +kernel), List.mem_of_getElem? (i := 43) (by decide +kernel)⟩, fun h => absurd h (by decide +kernel), fun h => absurd h (by decide +kernel), List.mem_of_getElem? (i := 72) (by decide +kernel), List.mem_of_getElem? (i := 1109) (by decide +kernel)⟩
theorem zmo_169 : zMok 169 := ⟨fun _ => ⟨List.mem_of_getElem? (i := 1094) (by decide +kernel), List.mem_of_getElem? (i := 1095) (by decide +kernel)⟩, fun h => absurd h (by decide +kernel), fun h => absurd h (by decide +kernel), List.mem_of_getElem? (i := 72) (by decide +kernel), List.mem_of_getElem? (i := 1096) (by decide +kernel)⟩
theorem zmo_170 : zMok 170 := ⟨fun _ => ⟨List.mem_of_getElem? (i := 1111) (by decide +kernel), List.mem_of_getElem? (i := 1112) (by decide +kernel)⟩, fun h => absurd h (by decide +kernel), fun h => absurd h (by decide +kernel), List.mem_of_getElem? (i := 72) (by decide +kernel), List.mem_of_getElem? (i := 1113) (by decide +kernel)⟩
theorem zmo_171 : zMok 171 := ⟨fun _ => ⟨List.mem_of_getElem? (i := 1116) (by decide +kernel), List.mem_of_getElem? (i := 1117) (by decide +kernel)⟩, fun h => absurd h (by decide +kernel), fun h => absurd h (by decide +kernel), List.mem_of_getElem? (i := 72) (by decide +kernel), List.mem_of_getElem? (i := 1118) (by decide +kernel)⟩
theorem zmo_172 : zMok 172 := ⟨fun h => absurd h (by decide +kernel), fun _ => List.mem_of_getElem? (i := 1129) (by decide +kernel), fun h => absurd h (by decide +kernel), List.mem_of_getElem? (i := 72) (by decide +kernel), List.mem_of_getElem? (i := 1130) (by decide +kernel)⟩
theorem zmo_173 : zMok 173 := ⟨fun _ => ⟨List.mem_of_getElem? (i := 1125) (by decide +kernel), List.mem_of_getElem? (i := 44) (by decide +kernel)⟩, fun h => absurd h (by decide +kernel), fun h => absurd h (by decide +kernel), List.mem_of_getElem? (i := 72) (by decide +kernel), List.mem_of_getElem? (i := 1126) (by decide +kernel)⟩
theorem zmo_174 : zMok 174 := ⟨fun _ => ⟨List.mem_of_getElem? (i := 1120) (by decide +kernel), List.mem_of_getElem? (i := 1121) (by decide +kernel)⟩, fun h => absurd h (by decide +kernel), fun h => absurd h (by decide +kernel), List.mem_of_getElem? (i := 72) (by decide +kernel), List.mem_of_getElem? (i := 1122) (by decide +kernel)⟩
theorem zmo_175 : zMok 175 := ⟨fun _ => ⟨List.mem_of_getElem? (i := 1138) (by decide +kernel), List.mem_of_getElem? (i := 45) (by decide +kernel)⟩, fun h => absurd h (by decide +kernel), fun h => absurd h (by decide +kernel), List.mem_of_getElem? (i := 72) (by decide +kernel), List.mem_of_getElem? (i := 1139) (by decide +kernel)⟩
theorem zmo_176 : zMok 176 := ⟨fun _ => ⟨List.mem_of_getElem? (i := 1132) (by decide +kernel), List.mem_of_getElem? (i := 1133) (by decide +kernel)⟩, fun h => absurd h (by decide +kernel), fun h => absurd h (by decide +kernel), List.mem_of_getElem? (i := 72) (by decide +kernel), List.mem_of_getElem? (i := 1134) (by decide +kernel)⟩
theorem zmo_177 : zMok 177 := ⟨fun _ => ⟨List.mem_of_getElem? (i := 1151) (by decide +kernel), List.mem_of_getElem? (i := 47) (by decide +kernel)⟩, fun h => absurd h (by decide +kernel), fun h => absurd h (by decide +kernel), List.mem_of_getElem? (i := 72) (by decide +kernel), List.mem_of_getElem? (i := 1152) (by decide +kernel)⟩
theorem zmo_178 : zMok 178 := ⟨fun _ => ⟨List.mem_of_getElem? (i := 1147) (by decide +kernel), List.mem_of_getElem? (i := 46) (by decide +kernel)⟩, fun h => absurd h (by decide +kernel), fun h => absurd h (by decide +kernel), List.mem_of_getElem? (i := 72) (by decide +kernel), List.mem_of_getElem? (i := 1148) (by decide +kernel)⟩
theorem zmo_179 : zMok 179 := ⟨fun _ => ⟨List.mem_of_getElem? (i := 1141) (by decide +kernel), List.mem_of_getElem? (i := 1142) (by decide +kernel)⟩, fun h => absurd h (by decide +kernel), fun h => absurd h (by decide +kernel), List.mem_of_getElem? (i := 72) (by decide +kernel), List.mem_of_getElem? (i := 1143) (by decide +kernel)⟩
theorem zmo_180 : zMok 180 := ⟨fun h => absurd h (by decide +kernel), fun _ => List.mem_of_getElem? (i := 1161) (by decide +kernel), fun h => absurd h (by decide +kernel), List.mem_of_getElem? (i := 72) (by decide +kernel), List.mem_of_getElem? (i := 1162) (by decide +kernel)⟩
theorem zmo_181 : zMok 181 := ⟨fun _ => ⟨List.mem_of_getElem? (i := 1154) (by decide +kernel), List.mem_of_getElem? (i := 1155) (by decide +kernel)⟩, fun h => absurd h (by decide +kernel), fun h => absurd h (by decide +kernel), List.mem_of_getElem? (i := 72) (by decide +kernel), List.mem_of_getElem? (i := 1156) (by decide +kernel)⟩
theorem zmo_182 : zMok 182 := ⟨fun _ => ⟨List.mem_of_getElem? (i := 1174) (by decide +kernel), List.mem_of_getElem? (i := 48) (by decide +kernel)⟩, fun h => absurd h (by decide +kernel), fun h => absurd h (by decide +kernel), List.mem_of_getElem? (i := 72) (by decide +kernel), List.mem_of_getElem? (i := 1175) (by decide +kernel)⟩
theorem zmo_183 : zMok 183 := ⟨fun _ => ⟨List.mem_of_getElem? (i := 1182) (by decide +kernel), List.mem_of_getElem? (i := 50) (by decide +kernel)⟩, fun h => absurd h (by decide +kernel), fun h => absurd h (by decide +kernel), List.mem_of_getElem? (i := 72) (by decide +kernel), List.mem_of_getElem? (i := 1183) (by decide +kernel)⟩
theorem zmo_184 : zMok 184 := ⟨fun _ => ⟨List.mem_of_getElem? (i := 1178) (by decide +kernel), List.mem_of_getElem? (i := 49) (by decide +kernel)⟩, fun h => absurd h (by decide +kernel), fun h => absurd h (by decide +kernel), List.mem_of_getElem? (i := 72) (by decide +kernel), List.mem_of_getElem? (i := 1179) (by decide +kernel)⟩
theorem zmo_185 : zMok 185 := ⟨fun _ => ⟨List.mem_of_getElem? (i := 1164) (by decide +kernel), List.mem_of_getElem? (i := 1165) (by decide +kernel)⟩, fun h => absurd h (by decide +kernel), fun h => absurd h (by decide +kernel), List.mem_of_getElem? (i := 72) (by decide +kernel), List.mem_of_getElem? (i := 1166) (by decide +kernel)⟩
theorem zmo_186 : zMok 186 := ⟨fun _ => ⟨List.mem_of_getElem? (i := 1194) (by decide +kernel), List.mem_of_getElem? (i := 52) (by decide +kernel)⟩, fun h => absurd h (by decide +kernel), fun h => absurd h (by decide +kernel), List.mem_of_getElem? (i := 72) (by decide +kernel), List.mem_of_getElem? (i := 1195) (by decide +kernel)⟩
theorem zmo_187 : zMok 187 := ⟨fun _ => ⟨List.mem_of_getElem? (i := 1198) (by decide +kernel), List.mem_of_getElem? (i := 53) (by decide +kernel)⟩, fun h => absurd h (by decide +kernel), fun h => absurd h (by decide +kernel), List.mem_of_getElem? (i := 72) (by decide +kernel), List.mem_of_getElem? (i := 1199) (by decide +kernel)⟩
theorem zmo_188 : zMok 188 := ⟨fun _ => ⟨List.mem_of_getElem? (i := 1190) (by decide +kernel), List.mem_of_getElem? (i := 51) (by decide +kernel)⟩, fun h => absurd h (by decide +kernel), fun h => absurd h (by decide +kernel), List.mem_of_getElem? (i := 72) (by decide +kernel), List.mem_of_getElem? (i := 1191) (by decide +kernel)⟩
theorem zmo_189 : zMok 189 := ⟨fun _ => ⟨List.mem_of_getElem? (i := 1185) (by decide +kernel), List.mem_of_getElem? (i := 1186) (by decide +kernel)⟩, fun h => absurd h (by decide +kernel), fun h => absurd h (by decide +kernel), List.mem_of_getElem? (i := 72) (by decide +kernel), List.mem_of_getElem? (i := 1187) (by decide +kernel)⟩
theorem zmo_190 : zMok 190 := ⟨fun _ => ⟨List.mem_of_getElem? (i := 1201) (by decide +kernel), List.mem_of_getElem? (i := 1202) (by decide +kernel)⟩, fun h => absurd h (by decide +kernel), fun h => absurd h (by decide +kernel), List.mem_of_getElem? (i := 72) (by decide +kernel), List.mem_of_getElem? (i := 1203) (by decide +kernel)⟩
theorem zmo_191 : zMok 191 := ⟨fun _ => ⟨List.mem_of_getElem? (i := 1213) (by decide +kernel), List.mem_of_getElem? (i := 54) (by decide +kernel)⟩, fun h => absurd h (by decide +kernel), fun h => absurd h (by decide +kernel), List.mem_of_getElem? (i := 72) (by decide +kernel), List.mem_of_getElem? (i := 1214) (by decide +kernel)⟩
theorem zmo_192 : zMok 192 := ⟨fun _ => ⟨List.mem_of_getElem? (i := 1218) (by decide +kernel), List.mem_of_getElem? (i := 55) (by decide +kernel)⟩, fun h => absurd h (by decide +kernel), fun h => absurd h (by decide +kernel), List.mem_of_getElem? (i := 72) (by decide +kernel), List.mem_of_getElem? (i := 1219) (by decide +kernel)⟩
theorem zmo_193 : zMok 193 := ⟨fun _ => ⟨List.mem_of_getElem? (i := 1222) (by decide +kernel), List.mem_of_getElem? (i := 56) (by decide +kernel)⟩, fun h => absurd h (by decide +kernel), fun h => absurd h (by decide +kernel), List.mem_of_getElem? (i := 72) (by decide +kernel), List.mem_of_getElem? (i := 1223) (by decide +kernel)⟩
theorem zmo_194 : zMok 194 := ⟨fun _ => ⟨List.mem_of_getElem? (i := 1205) (by decide +kernel), List.mem_of_getElem? (i := 1206) (by decide +kernel)⟩, fun h => absurd h (by decide +kernel), fun h => absurd h (by decide +kernel), List.mem_of_getElem? (i := 72) (by decide +kernel), List.mem_of_getElem? (i := 1207) (by decide +kernel)⟩
theorem zmo_195 : zMok 195 := ⟨fun h => absurd h (by decide +kernel), fun _ => List.mem_of_getElem? (i := 292) (by decide +kernel), fun h => absurd h (by decide +kernel), List.mem_of_getElem? (i := 71) (by decide +kernel), List.mem_of_getElem? (i := 293) (by decide +kernel)⟩
theorem zmo_196 : zMok 196 := ⟨fun h => absurd h (by decide +kernel), fun _ => List.mem_of_getElem? (i := 351) (by decide +kernel), fun h => absurd h (by decide +kernel), List.mem_of_getElem? (i := 71) (by decide +kernel), List.mem_of_getElem? (i := 352) (by decide +kernel)⟩
theorem zmo_197 : zMok 197 := ⟨fun h => absurd h (by decide +kernel), fun _ => List.mem_of_getElem? (i := 289) (by decide +kernel), fun h => absurd h (by decide +kernel), List.mem_of_getElem? (i := 70) (by decide +kernel), List.mem_of_getElem? (i := 290) (by decide +kernel)⟩
theorem zmo_198 : zMok 198 := ⟨fun h => absurd h (by decide +kernel), fun _ => List.mem_of_getElem? (i := 478) (by decide +kernel), fun h => absurd h (by decide +kernel), List.mem_of_getElem? (i := 74) (by decide +kernel), List.mem_of_getElem? (i := 479) (by decide +kernel)⟩
def zCpOk (o i : Nat) : zRs → Prop
  | (1, a, k, c) => ∃ q : vw_C, zcls[a]? = some q ∧ k < q.2.2 ∧ (c = 0 → Jvm.Cond.fieldLink (zOn o) i (q.2.1 k).1 (q.2.1 k).2.1 (q.2.1 k).2.2.1 ∈ lw_tbl) ∧ (¬ c = 0 → Jvm.Cond.fieldLinkNest (zOn o) i (q.2.1 k).1 (q.2.1 k).2.1 (q.2.1 k).2.2.1 "BenchMemories" ∈ lw_tbl)
  | (2, _, _, c) => Jvm.Cond.constant (zOn o) i (Int32.ofInt c) ∈ lw_tbl
  | (3, _, _, c) => Jvm.Cond.constantLong (zOn o) i (Int64.ofInt c) ∈ lw_tbl
  | (4, a, _, _) => ∃ q : vw_C, zcls[a]? = some q ∧ Jvm.Cond.classLink (zOn o) i q.1 ∈ lw_tbl ∧ Jvm.Cond.instantiable q.1 q.2.2 ∈ lw_tbl ∧ Jvm.Cond.initialized q.1 ∈ lw_tbl
  | (5, N, _, c) => zMok N ∧ (c = 0 → Jvm.Cond.methodLink (zOn o) i (zYn N) ∈ lw_tbl) ∧ (¬ c = 0 → Jvm.Cond.methodLinkNest (zOn o) i (zYn N) "BenchMemories" ∈ lw_tbl)
  | (6, _, _, _) => Jvm.Cond.methodLink (zOn o) i objectInit ∈ lw_tbl
  | (7, _, _, _) => Jvm.Cond.methodLink (zOn o) i arraycopyName ∈ lw_tbl
  | (8, _, _, _) => Jvm.Cond.methodLink (zOn o) i Lib.Math.max.name ∈ lw_tbl
  | (9, _, _, _) => Jvm.Cond.methodLink (zOn o) i Lib.Math.min.name ∈ lw_tbl
  | (10, _, _, _) => Jvm.Cond.methodLink (zOn o) i Lib.MathLoose.max_long.x ∈ lw_tbl
  | _ => False
theorem zk_0_3 : zCpOk 0 3 (6, 0, 0, 0) := List.mem_of_getElem? (i := 164) (by decide +kernel)
theorem zk_0_9 : zCpOk 0 9 (4, 1, 0, 0) := ⟨(RX1, TX1, 8), rfl, List.mem_of_getElem? (i := 165) (by decide +kernel), List.mem_of_getElem? (i := 84) (by decide +kernel), List.mem_of_getElem? (i := 59) (by decide +kernel)⟩
theorem zk_0_11 : zCpOk 0 11 (5, 9, 0, 0) := ⟨zmo_9, fun _ => List.mem_of_getElem? (i := 166) (by decide +kernel), fun h => absurd rfl h⟩
theorem zk_0_12 : zCpOk 0 12 (1, 0, 0, 0) := ⟨(RX0, TX0, 6), rfl, by decide +kernel, fun _ => List.mem_of_getElem? (i := 169) (by decide +kernel), fun h => absurd rfl h⟩
theorem zk_0_18 : zCpOk 0 18 (4, 5, 0, 0) := ⟨(RX5, TX5, 1), rfl, List.mem_of_getElem? (i := 167) (by decide +kernel), List.mem_of_getElem? (i := 90) (by decide +kernel), List.mem_of_getElem? (i := 60) (by decide +kernel)⟩
theorem zk_0_20 : zCpOk 0 20 (5, 59, 0, 0) := ⟨zmo_59, fun _ => List.mem_of_getElem? (i := 168) (by decide +kernel), fun h => absurd rfl h⟩
theorem zk_0_23 : zCpOk 0 23 (1, 0, 1, 0) := ⟨(RX0, TX0, 6), rfl, by decide +kernel, fun _ => List.mem_of_getElem? (i := 171) (by decide +kernel), fun h => absurd rfl h⟩
theorem zk_0_27 : zCpOk 0 27 (5, 48, 0, 0) := ⟨zmo_48, fun _ => List.mem_of_getElem? (i := 457) (by decide +kernel), fun h => absurd rfl h⟩
theorem zk_0_33 : zCpOk 0 33 (5, 2, 0, 0) := ⟨zmo_2, fun _ => List.mem_of_getElem? (i := 458) (by decide +kernel), fun h => absurd rfl h⟩
theorem zk_0_37 : zCpOk 0 37 (1, 3, 1, 1) := ⟨(RX3, TX3, 2), rfl, by decide +kernel, fun h => absurd h (by decide +kernel), fun _ => List.mem_of_getElem? (i := 152) (by decide +kernel)⟩
theorem zk_0_41 : zCpOk 0 41 (1, 0, 4, 0) := ⟨(RX0, TX0, 6), rfl, by decide +kernel, fun _ => List.mem_of_getElem? (i := 177) (by decide +kernel), fun h => absurd rfl h⟩
theorem zk_0_44 : zCpOk 0 44 (1, 3, 0, 1) := ⟨(RX3, TX3, 2), rfl, by decide +kernel, fun h => absurd h (by decide +kernel), fun _ => List.mem_of_getElem? (i := 150) (by decide +kernel)⟩
theorem zk_0_47 : zCpOk 0 47 (5, 60, 0, 0) := ⟨zmo_60, fun _ => List.mem_of_getElem? (i := 480) (by decide +kernel), fun h => absurd rfl h⟩
theorem zk_0_51 : zCpOk 0 51 (5, 111, 0, 1) := ⟨zmo_111, fun h => absurd h (by decide +kernel), fun _ => List.mem_of_getElem? (i := 481) (by decide +kernel)⟩
theorem zk_0_55 : zCpOk 0 55 (5, 49, 0, 0) := ⟨zmo_49, fun _ => List.mem_of_getElem? (i := 482) (by decide +kernel), fun h => absurd rfl h⟩
theorem zk_0_59 : zCpOk 0 59 (5, 52, 0, 0) := ⟨zmo_52, fun _ => List.mem_of_getElem? (i := 483) (by decide +kernel), fun h => absurd rfl h⟩
theorem zk_0_62 : zCpOk 0 62 (5, 53, 0, 0) := ⟨zmo_53, fun _ => List.mem_of_getElem? (i := 486) (by decide +kernel), fun h => absurd rfl h⟩
theorem zk_0_65 : zCpOk 0 65 (5, 3, 0, 0) := ⟨zmo_3, fun _ => List.mem_of_getElem? (i := 489) (by decide +kernel), fun h => absurd rfl h⟩
theorem zk_0_69 : zCpOk 0 69 (5, 10, 0, 0) := ⟨zmo_10, fun _ => List.mem_of_getElem? (i := 462) (by decide +kernel), fun h => absurd rfl h⟩
theorem zk_0_72 : zCpOk 0 72 (5, 62, 0, 0) := ⟨zmo_62, fun _ => List.mem_of_getElem? (i := 473) (by decide +kernel), fun h => absurd rfl h⟩
theorem zk_0_75 : zCpOk 0 75 (1, 0, 2, 0) := ⟨(RX0, TX0, 6), rfl, by decide +kernel, fun _ => List.mem_of_getElem? (i := 173) (by decide +kernel), fun h => absurd rfl h⟩
theorem zk_0_78 : zCpOk 0 78 (1, 0, 3, 0) := ⟨(RX0, TX0, 6), rfl, by decide +kernel, fun _ => List.mem_of_getElem? (i := 175) (by decide +kernel), fun h => absurd rfl h⟩
theorem zk_0_81 : zCpOk 0 81 (1, 0, 5, 0) := ⟨(RX0, TX0, 6), rfl, by decide +kernel, fun _ => List.mem_of_getElem? (i := 179) (by decide +kernel), fun h => absurd rfl h⟩
theorem zk_0_84 : zCpOk 0 84 (5, 30, 0, 0) := ⟨zmo_30, fun _ => List.mem_of_getElem? (i := 493) (by decide +kernel), fun h => absurd rfl h⟩
theorem zk_0_88 : zCpOk 0 88 (5, 33, 0, 0) := ⟨zmo_33, fun _ => List.mem_of_getElem? (i := 513) (by decide +kernel), fun h => absurd rfl h⟩
theorem zk_0_91 : zCpOk 0 91 (5, 20, 0, 0) := ⟨zmo_20, fun _ => List.mem_of_getElem? (i := 533) (by decide +kernel), fun h => absurd rfl h⟩
theorem zk_0_94 : zCpOk 0 94 (5, 4, 0, 0) := ⟨zmo_4, fun _ => List.mem_of_getElem? (i := 534) (by decide +kernel), fun h => absurd rfl h⟩
theorem zk_0_97 : zCpOk 0 97 (5, 61, 0, 0) := ⟨zmo_61, fun _ => List.mem_of_getElem? (i := 538) (by decide +kernel), fun h => absurd rfl h⟩
theorem zk_0_101 : zCpOk 0 101 (2, 0, 0, 65537) := List.mem_of_getElem? (i := 756) (by decide +kernel)
theorem zk_0_102 : zCpOk 0 102 (5, 7, 0, 0) := ⟨zmo_7, fun _ => List.mem_of_getElem? (i := 757) (by decide +kernel), fun h => absurd rfl h⟩
theorem zk_0_105 : zCpOk 0 105 (5, 8, 0, 0) := ⟨zmo_8, fun _ => List.mem_of_getElem? (i := 761) (by decide +kernel), fun h => absurd rfl h⟩
theorem zko_0 : ∀ q ∈ zc_0, zCpOk 0 q.1 q.2 := List.forall_mem_cons.mpr ⟨zk_0_3, List.forall_mem_cons.mpr ⟨zk_0_9, List.forall_mem_cons.mpr ⟨zk_0_11, List.forall_mem_cons.mpr ⟨zk_0_12, List.forall_mem_cons.mpr ⟨zk_0_18, List.forall_mem_cons.mpr ⟨zk_0_20, List.forall_mem_cons.mpr ⟨zk_0_23, List.forall_mem_cons.mpr ⟨zk_0_27, List.forall_mem_cons.mpr ⟨zk_0_33, List.forall_mem_cons.mpr ⟨zk_0_37, List.forall_mem_cons.mpr ⟨zk_0_41, List.forall_mem_cons.mpr ⟨zk_0_44, List.forall_mem_cons.mpr ⟨zk_0_47, List.forall_mem_cons.mpr ⟨zk_0_51, List.forall_mem_cons.mpr ⟨zk_0_55, List.forall_mem_cons.mpr ⟨zk_0_59, List.forall_mem_cons.mpr ⟨zk_0_62, List.forall_mem_cons.mpr ⟨zk_0_65, List.forall_mem_cons.mpr ⟨zk_0_69, List.forall_mem_cons.mpr ⟨zk_0_72, List.forall_mem_cons.mpr ⟨zk_0_75, List.forall_mem_cons.mpr ⟨zk_0_78, List.forall_mem_cons.mpr ⟨zk_0_81, List.forall_mem_cons.mpr ⟨zk_0_84, List.forall_mem_cons.mpr ⟨zk_0_88, List.forall_mem_cons.mpr ⟨zk_0_91, List.forall_mem_cons.mpr ⟨zk_0_94, List.forall_mem_cons.mpr ⟨zk_0_97, List.forall_mem_cons.mpr ⟨zk_0_101, List.forall_mem_cons.mpr ⟨zk_0_102, List.forall_mem_cons.mpr ⟨zk_0_105, fun _ h => absurd h List.not_mem_nil⟩⟩⟩⟩⟩⟩⟩⟩⟩⟩⟩⟩⟩⟩⟩⟩⟩⟩⟩⟩⟩⟩⟩⟩⟩⟩⟩⟩⟩⟩⟩
theorem zk_1_3 : zCpOk 1 3 (6, 0, 0, 0) := List.mem_of_getElem? (i := 88) (by decide +kernel)
theorem zk_1_9 : zCpOk 1 9 (4, 5, 0, 0) := ⟨(RX5, TX5, 1), rfl, List.mem_of_getElem? (i := 89) (by decide +kernel), List.mem_of_getElem? (i := 90) (by decide +kernel), List.mem_of_getElem? (i := 60) (by decide +kernel)⟩
theorem zk_1_11 : zCpOk 1 11 (5, 59, 0, 0) := ⟨zmo_59, fun _ => List.mem_of_getElem? (i := 91) (by decide +kernel), fun h => absurd rfl h⟩
theorem zk_1_14 : zCpOk 1 14 (1, 1, 0, 0) := ⟨(RX1, TX1, 8), rfl, by decide +kernel, fun _ => List.mem_of_getElem? (i := 113) (by decide +kernel), fun h => absurd rfl h⟩
theorem zk_1_20 : zCpOk 1 20 (1, 1, 1, 0) := ⟨(RX1, TX1, 8), rfl, by decide +kernel, fun _ => List.mem_of_getElem? (i := 114) (by decide +kernel), fun h => absurd rfl h⟩
theorem zk_1_23 : zCpOk 1 23 (1, 1, 2, 0) := ⟨(RX1, TX1, 8), rfl, by decide +kernel, fun _ => List.mem_of_getElem? (i := 115) (by decide +kernel), fun h => absurd rfl h⟩
theorem zk_1_26 : zCpOk 1 26 (1, 1, 3, 0) := ⟨(RX1, TX1, 8), rfl, by decide +kernel, fun _ => List.mem_of_getElem? (i := 116) (by decide +kernel), fun h => absurd rfl h⟩
theorem zk_1_29 : zCpOk 1 29 (1, 1, 4, 0) := ⟨(RX1, TX1, 8), rfl, by decide +kernel, fun _ => List.mem_of_getElem? (i := 117) (by decide +kernel), fun h => absurd rfl h⟩
theorem zk_1_32 : zCpOk 1 32 (5, 61, 0, 0) := ⟨zmo_61, fun _ => List.mem_of_getElem? (i := 103) (by decide +kernel), fun h => absurd rfl h⟩
theorem zk_1_36 : zCpOk 1 36 (5, 111, 0, 1) := ⟨zmo_111, fun h => absurd h (by decide +kernel), fun _ => List.mem_of_getElem? (i := 107) (by decide +kernel)⟩
theorem zk_1_40 : zCpOk 1 40 (5, 63, 0, 0) := ⟨zmo_63, fun _ => List.mem_of_getElem? (i := 466) (by decide +kernel), fun h => absurd rfl h⟩
theorem zk_1_44 : zCpOk 1 44 (1, 1, 5, 0) := ⟨(RX1, TX1, 8), rfl, by decide +kernel, fun _ => List.mem_of_getElem? (i := 118) (by decide +kernel), fun h => absurd rfl h⟩
theorem zk_1_48 : zCpOk 1 48 (1, 1, 6, 0) := ⟨(RX1, TX1, 8), rfl, by decide +kernel, fun _ => List.mem_of_getElem? (i := 120) (by decide +kernel), fun h => absurd rfl h⟩
theorem zk_1_51 : zCpOk 1 51 (1, 1, 7, 0) := ⟨(RX1, TX1, 8), rfl, by decide +kernel, fun _ => List.mem_of_getElem? (i := 122) (by decide +kernel), fun h => absurd rfl h⟩
theorem zk_1_54 : zCpOk 1 54 (5, 60, 0, 0) := ⟨zmo_60, fun _ => List.mem_of_getElem? (i := 345) (by decide +kernel), fun h => absurd rfl h⟩
theorem zk_1_58 : zCpOk 1 58 (5, 196, 0, 0) := ⟨zmo_196, fun _ => List.mem_of_getElem? (i := 350) (by decide +kernel), fun h => absurd rfl h⟩
theorem zk_1_63 : zCpOk 1 63 (5, 113, 0, 1) := ⟨zmo_113, fun h => absurd h (by decide +kernel), fun _ => List.mem_of_getElem? (i := 498) (by decide +kernel)⟩
theorem zk_1_67 : zCpOk 1 67 (5, 14, 0, 0) := ⟨zmo_14, fun _ => List.mem_of_getElem? (i := 578) (by decide +kernel), fun h => absurd rfl h⟩
theorem zk_1_70 : zCpOk 1 70 (5, 22, 0, 0) := ⟨zmo_22, fun _ => List.mem_of_getElem? (i := 384) (by decide +kernel), fun h => absurd rfl h⟩
theorem zk_1_73 : zCpOk 1 73 (5, 21, 0, 0) := ⟨zmo_21, fun _ => List.mem_of_getElem? (i := 551) (by decide +kernel), fun h => absurd rfl h⟩
theorem zk_1_76 : zCpOk 1 76 (5, 18, 0, 0) := ⟨zmo_18, fun _ => List.mem_of_getElem? (i := 497) (by decide +kernel), fun h => absurd rfl h⟩
theorem zk_1_79 : zCpOk 1 79 (5, 31, 0, 0) := ⟨zmo_31, fun _ => List.mem_of_getElem? (i := 501) (by decide +kernel), fun h => absurd rfl h⟩
theorem zk_1_82 : zCpOk 1 82 (5, 32, 0, 0) := ⟨zmo_32, fun _ => List.mem_of_getElem? (i := 509) (by decide +kernel), fun h => absurd rfl h⟩
theorem zk_1_86 : zCpOk 1 86 (5, 17, 0, 0) := ⟨zmo_17, fun _ => List.mem_of_getElem? (i := 505) (by decide +kernel), fun h => absurd rfl h⟩
theorem zk_1_89 : zCpOk 1 89 (5, 24, 0, 0) := ⟨zmo_24, fun _ => List.mem_of_getElem? (i := 517) (by decide +kernel), fun h => absurd rfl h⟩
theorem zk_1_92 : zCpOk 1 92 (5, 34, 0, 0) := ⟨zmo_34, fun _ => List.mem_of_getElem? (i := 518) (by decide +kernel), fun h => absurd rfl h⟩
theorem zk_1_95 : zCpOk 1 95 (5, 35, 0, 0) := ⟨zmo_35, fun _ => List.mem_of_getElem? (i := 524) (by decide +kernel), fun h => absurd rfl h⟩
theorem zk_1_98 : zCpOk 1 98 (5, 26, 0, 0) := ⟨zmo_26, fun _ => List.mem_of_getElem? (i := 528) (by decide +kernel), fun h => absurd rfl h⟩
theorem zk_1_101 : zCpOk 1 101 (5, 36, 0, 0) := ⟨zmo_36, fun _ => List.mem_of_getElem? (i := 529) (by decide +kernel), fun h => absurd rfl h⟩
theorem zk_1_104 : zCpOk 1 104 (5, 27, 0, 0) := ⟨zmo_27, fun _ => List.mem_of_getElem? (i := 522) (by decide +kernel), fun h => absurd rfl h⟩
theorem zk_1_108 : zCpOk 1 108 (5, 25, 0, 0) := ⟨zmo_25, fun _ => List.mem_of_getElem? (i := 523) (by decide +kernel), fun h => absurd rfl h⟩
theorem zk_1_111 : zCpOk 1 111 (5, 66, 0, 0) := ⟨zmo_66, fun _ => List.mem_of_getElem? (i := 706) (by decide +kernel), fun h => absurd rfl h⟩
theorem zko_1 : ∀ q ∈ zc_1, zCpOk 1 q.1 q.2 := List.forall_mem_cons.mpr ⟨zk_1_3, List.forall_mem_cons.mpr ⟨zk_1_9, List.forall_mem_cons.mpr ⟨zk_1_11, List.forall_mem_cons.mpr ⟨zk_1_14, List.forall_mem_cons.mpr ⟨zk_1_20, List.forall_mem_cons.mpr ⟨zk_1_23, List.forall_mem_cons.mpr ⟨zk_1_26, List.forall_mem_cons.mpr ⟨zk_1_29, List.forall_mem_cons.mpr ⟨zk_1_32, List.forall_mem_cons.mpr ⟨zk_1_36, List.forall_mem_cons.mpr ⟨zk_1_40, List.forall_mem_cons.mpr ⟨zk_1_44, List.forall_mem_cons.mpr ⟨zk_1_48, List.forall_mem_cons.mpr ⟨zk_1_51, List.forall_mem_cons.mpr ⟨zk_1_54, List.forall_mem_cons.mpr ⟨zk_1_58, List.forall_mem_cons.mpr ⟨zk_1_63, List.forall_mem_cons.mpr ⟨zk_1_67, List.forall_mem_cons.mpr ⟨zk_1_70, List.forall_mem_cons.mpr ⟨zk_1_73, List.forall_mem_cons.mpr ⟨zk_1_76, List.forall_mem_cons.mpr ⟨zk_1_79, List.forall_mem_cons.mpr ⟨zk_1_82, List.forall_mem_cons.mpr ⟨zk_1_86, List.forall_mem_cons.mpr ⟨zk_1_89, List.forall_mem_cons.mpr ⟨zk_1_92, List.forall_mem_cons.mpr ⟨zk_1_95, List.forall_mem_cons.mpr ⟨zk_1_98, List.forall_mem_cons.mpr ⟨zk_1_101, List.forall_mem_cons.mpr ⟨zk_1_104, List.forall_mem_cons.mpr ⟨zk_1_108, List.forall_mem_cons.mpr ⟨zk_1_111, fun _ h => absurd h List.not_mem_nil⟩⟩⟩⟩⟩⟩⟩⟩⟩⟩⟩⟩⟩⟩⟩⟩⟩⟩⟩⟩⟩⟩⟩⟩⟩⟩⟩⟩⟩⟩⟩⟩
theorem zk_2_3 : zCpOk 2 3 (6, 0, 0, 0) := List.mem_of_getElem? (i := 235) (by decide +kernel)
theorem zk_2_9 : zCpOk 2 9 (4, 5, 0, 0) := ⟨(RX5, TX5, 1), rfl, List.mem_of_getElem? (i := 236) (by decide +kernel), List.mem_of_getElem? (i := 90) (by decide +kernel), List.mem_of_getElem? (i := 60) (by decide +kernel)⟩
theorem zk_2_13 : zCpOk 2 13 (5, 59, 0, 0) := ⟨zmo_59, fun _ => List.mem_of_getElem? (i := 237) (by decide +kernel), fun h => absurd rfl h⟩
theorem zk_2_16 : zCpOk 2 16 (1, 2, 0, 0) := ⟨(RX2, TX2, 1), rfl, by decide +kernel, fun _ => List.mem_of_getElem? (i := 238) (by decide +kernel), fun h => absurd rfl h⟩
theorem zk_2_20 : zCpOk 2 20 (5, 61, 0, 0) := ⟨zmo_61, fun _ => List.mem_of_getElem? (i := 662) (by decide +kernel), fun h => absurd rfl h⟩
theorem zk_2_24 : zCpOk 2 24 (5, 113, 0, 1) := ⟨zmo_113, fun h => absurd h (by decide +kernel), fun _ => List.mem_of_getElem? (i := 667) (by decide +kernel)⟩
theorem zk_2_28 : zCpOk 2 28 (5, 60, 0, 0) := ⟨zmo_60, fun _ => List.mem_of_getElem? (i := 668) (by decide +kernel), fun h => absurd rfl h⟩
theorem zk_2_32 : zCpOk 2 32 (5, 42, 0, 0) := ⟨zmo_42, fun _ => List.mem_of_getElem? (i := 673) (by decide +kernel), fun h => absurd rfl h⟩
theorem zk_2_36 : zCpOk 2 36 (5, 44, 0, 0) := ⟨zmo_44, fun _ => List.mem_of_getElem? (i := 674) (by decide +kernel), fun h => absurd rfl h⟩
theorem zko_2 : ∀ q ∈ zc_2, zCpOk 2 q.1 q.2 := List.forall_mem_cons.mpr ⟨zk_2_3, List.forall_mem_cons.mpr ⟨zk_2_9, List.forall_mem_cons.mpr ⟨zk_2_13, List.forall_mem_cons.mpr ⟨zk_2_16, List.forall_mem_cons.mpr ⟨zk_2_20, List.forall_mem_cons.mpr ⟨zk_2_24, List.forall_mem_cons.mpr ⟨zk_2_28, List.forall_mem_cons.mpr ⟨zk_2_32, List.forall_mem_cons.mpr ⟨zk_2_36, fun _ h => absurd h List.not_mem_nil⟩⟩⟩⟩⟩⟩⟩⟩⟩
theorem zk_3_3 : zCpOk 3 3 (6, 0, 0, 0) := List.mem_of_getElem? (i := 146) (by decide +kernel)
theorem zk_3_9 : zCpOk 3 9 (4, 5, 0, 0) := ⟨(RX5, TX5, 1), rfl, List.mem_of_getElem? (i := 147) (by decide +kernel), List.mem_of_getElem? (i := 90) (by decide +kernel), List.mem_of_getElem? (i := 60) (by decide +kernel)⟩
theorem zk_3_11 : zCpOk 3 11 (5, 59, 0, 0) := ⟨zmo_59, fun _ => List.mem_of_getElem? (i := 148) (by decide +kernel), fun h => absurd rfl h⟩
theorem zk_3_14 : zCpOk 3 14 (1, 3, 0, 0) := ⟨(RX3, TX3, 2), rfl, by decide +kernel, fun _ => List.mem_of_getElem? (i := 149) (by decide +kernel), fun h => absurd rfl h⟩
theorem zk_3_20 : zCpOk 3 20 (1, 3, 1, 0) := ⟨(RX3, TX3, 2), rfl, by decide +kernel, fun _ => List.mem_of_getElem? (i := 151) (by decide +kernel), fun h => absurd rfl h⟩
theorem zk_3_24 : zCpOk 3 24 (5, 61, 0, 0) := ⟨zmo_61, fun _ => List.mem_of_getElem? (i := 420) (by decide +kernel), fun h => absurd rfl h⟩
theorem zk_3_28 : zCpOk 3 28 (5, 60, 0, 0) := ⟨zmo_60, fun _ => List.mem_of_getElem? (i := 437) (by decide +kernel), fun h => absurd rfl h⟩
theorem zk_3_32 : zCpOk 3 32 (5, 49, 0, 0) := ⟨zmo_49, fun _ => List.mem_of_getElem? (i := 438) (by decide +kernel), fun h => absurd rfl h⟩
theorem zk_3_36 : zCpOk 3 36 (5, 50, 0, 0) := ⟨zmo_50, fun _ => List.mem_of_getElem? (i := 441) (by decide +kernel), fun h => absurd rfl h⟩
theorem zk_3_39 : zCpOk 3 39 (5, 51, 0, 0) := ⟨zmo_51, fun _ => List.mem_of_getElem? (i := 445) (by decide +kernel), fun h => absurd rfl h⟩
theorem zk_3_42 : zCpOk 3 42 (5, 110, 0, 1) := ⟨zmo_110, fun h => absurd h (by decide +kernel), fun _ => List.mem_of_getElem? (i := 448) (by decide +kernel)⟩
theorem zk_3_46 : zCpOk 3 46 (5, 111, 0, 1) := ⟨zmo_111, fun h => absurd h (by decide +kernel), fun _ => List.mem_of_getElem? (i := 444) (by decide +kernel)⟩
theorem zko_3 : ∀ q ∈ zc_3, zCpOk 3 q.1 q.2 := List.forall_mem_cons.mpr ⟨zk_3_3, List.forall_mem_cons.mpr ⟨zk_3_9, List.forall_mem_cons.mpr ⟨zk_3_11, List.forall_mem_cons.mpr ⟨zk_3_14, List.forall_mem_cons.mpr ⟨zk_3_20, List.forall_mem_cons.mpr ⟨zk_3_24, List.forall_mem_cons.mpr ⟨zk_3_28, List.forall_mem_cons.mpr ⟨zk_3_32, List.forall_mem_cons.mpr ⟨zk_3_36, List.forall_mem_cons.mpr ⟨zk_3_39, List.forall_mem_cons.mpr ⟨zk_3_42, List.forall_mem_cons.mpr ⟨zk_3_46, fun _ h => absurd h List.not_mem_nil⟩⟩⟩⟩⟩⟩⟩⟩⟩⟩⟩⟩
theorem zk_4_5 : zCpOk 4 5 (6, 0, 0, 0) := List.mem_of_getElem? (i := 199) (by decide +kernel)
theorem zk_4_11 : zCpOk 4 11 (4, 5, 0, 0) := ⟨(RX5, TX5, 1), rfl, List.mem_of_getElem? (i := 200) (by decide +kernel), List.mem_of_getElem? (i := 90) (by decide +kernel), List.mem_of_getElem? (i := 60) (by decide +kernel)⟩
theorem zk_4_13 : zCpOk 4 13 (5, 59, 0, 0) := ⟨zmo_59, fun _ => List.mem_of_getElem? (i := 201) (by decide +kernel), fun h => absurd rfl h⟩
theorem zk_4_16 : zCpOk 4 16 (1, 4, 0, 0) := ⟨(RX4, TX4, 4), rfl, by decide +kernel, fun _ => List.mem_of_getElem? (i := 202) (by decide +kernel), fun h => absurd rfl h⟩
theorem zk_4_20 : zCpOk 4 20 (1, 4, 1, 0) := ⟨(RX4, TX4, 4), rfl, by decide +kernel, fun _ => List.mem_of_getElem? (i := 203) (by decide +kernel), fun h => absurd rfl h⟩
theorem zk_4_23 : zCpOk 4 23 (1, 4, 2, 0) := ⟨(RX4, TX4, 4), rfl, by decide +kernel, fun _ => List.mem_of_getElem? (i := 204) (by decide +kernel), fun h => absurd rfl h⟩
theorem zk_4_26 : zCpOk 4 26 (5, 56, 0, 0) := ⟨zmo_56, fun _ => List.mem_of_getElem? (i := 595) (by decide +kernel), fun h => absurd rfl h⟩
theorem zk_4_30 : zCpOk 4 30 (1, 4, 3, 0) := ⟨(RX4, TX4, 4), rfl, by decide +kernel, fun _ => List.mem_of_getElem? (i := 205) (by decide +kernel), fun h => absurd rfl h⟩
theorem zk_4_34 : zCpOk 4 34 (5, 16, 0, 0) := ⟨zmo_16, fun _ => List.mem_of_getElem? (i := 601) (by decide +kernel), fun h => absurd rfl h⟩
theorem zk_4_40 : zCpOk 4 40 (5, 57, 0, 0) := ⟨zmo_57, fun _ => List.mem_of_getElem? (i := 605) (by decide +kernel), fun h => absurd rfl h⟩
theorem zk_4_44 : zCpOk 4 44 (5, 113, 0, 1) := ⟨zmo_113, fun h => absurd h (by decide +kernel), fun _ => List.mem_of_getElem? (i := 599) (by decide +kernel)⟩
theorem zk_4_48 : zCpOk 4 48 (5, 58, 0, 0) := ⟨zmo_58, fun _ => List.mem_of_getElem? (i := 611) (by decide +kernel), fun h => absurd rfl h⟩
theorem zk_4_52 : zCpOk 4 52 (5, 61, 0, 0) := ⟨zmo_61, fun _ => List.mem_of_getElem? (i := 600) (by decide +kernel), fun h => absurd rfl h⟩
theorem zk_4_55 : zCpOk 4 55 (5, 60, 0, 0) := ⟨zmo_60, fun _ => List.mem_of_getElem? (i := 609) (by decide +kernel), fun h => absurd rfl h⟩
theorem zk_4_58 : zCpOk 4 58 (5, 15, 0, 0) := ⟨zmo_15, fun _ => List.mem_of_getElem? (i := 610) (by decide +kernel), fun h => absurd rfl h⟩
theorem zk_4_61 : zCpOk 4 61 (2, 0, 0, 1000000) := List.mem_of_getElem? (i := 615) (by decide +kernel)
theorem zk_4_62 : zCpOk 4 62 (9, 0, 0, 0) := List.mem_of_getElem? (i := 616) (by decide +kernel)
theorem zko_4 : ∀ q ∈ zc_4, zCpOk 4 q.1 q.2 := List.forall_mem_cons.mpr ⟨zk_4_5, List.forall_mem_cons.mpr ⟨zk_4_11, List.forall_mem_cons.mpr ⟨zk_4_13, List.forall_mem_cons.mpr ⟨zk_4_16, List.forall_mem_cons.mpr ⟨zk_4_20, List.forall_mem_cons.mpr ⟨zk_4_23, List.forall_mem_cons.mpr ⟨zk_4_26, List.forall_mem_cons.mpr ⟨zk_4_30, List.forall_mem_cons.mpr ⟨zk_4_34, List.forall_mem_cons.mpr ⟨zk_4_40, List.forall_mem_cons.mpr ⟨zk_4_44, List.forall_mem_cons.mpr ⟨zk_4_48, List.forall_mem_cons.mpr ⟨zk_4_52, List.forall_mem_cons.mpr ⟨zk_4_55, List.forall_mem_cons.mpr ⟨zk_4_58, List.forall_mem_cons.mpr ⟨zk_4_61, List.forall_mem_cons.mpr ⟨zk_4_62, fun _ h => absurd h List.not_mem_nil⟩⟩⟩⟩⟩⟩⟩⟩⟩⟩⟩⟩⟩⟩⟩⟩⟩
theorem zk_5_3 : zCpOk 5 3 (6, 0, 0, 0) := List.mem_of_getElem? (i := 94) (by decide +kernel)
theorem zk_5_9 : zCpOk 5 9 (8, 0, 0, 0) := List.mem_of_getElem? (i := 95) (by decide +kernel)
theorem zk_5_15 : zCpOk 5 15 (1, 5, 0, 0) := ⟨(RX5, TX5, 1), rfl, by decide +kernel, fun _ => List.mem_of_getElem? (i := 98) (by decide +kernel), fun h => absurd rfl h⟩
theorem zk_5_21 : zCpOk 5 21 (5, 198, 0, 0) := ⟨zmo_198, fun _ => List.mem_of_getElem? (i := 477) (by decide +kernel), fun h => absurd rfl h⟩
theorem zk_5_27 : zCpOk 5 27 (7, 0, 0, 0) := List.mem_of_getElem? (i := 470) (by decide +kernel)
theorem zko_5 : ∀ q ∈ zc_5, zCpOk 5 q.1 q.2 := List.forall_mem_cons.mpr ⟨zk_5_3, List.forall_mem_cons.mpr ⟨zk_5_9, List.forall_mem_cons.mpr ⟨zk_5_15, List.forall_mem_cons.mpr ⟨zk_5_21, List.forall_mem_cons.mpr ⟨zk_5_27, fun _ h => absurd h List.not_mem_nil⟩⟩⟩⟩⟩
theorem zk_6_3 : zCpOk 6 3 (6, 0, 0, 0) := List.mem_of_getElem? (i := 247) (by decide +kernel)
theorem zk_6_9 : zCpOk 6 9 (4, 5, 0, 0) := ⟨(RX5, TX5, 1), rfl, List.mem_of_getElem? (i := 248) (by decide +kernel), List.mem_of_getElem? (i := 90) (by decide +kernel), List.mem_of_getElem? (i := 60) (by decide +kernel)⟩
theorem zk_6_13 : zCpOk 6 13 (5, 59, 0, 0) := ⟨zmo_59, fun _ => List.mem_of_getElem? (i := 249) (by decide +kernel), fun h => absurd rfl h⟩
theorem zk_6_16 : zCpOk 6 16 (1, 6, 0, 0) := ⟨(RX6, TX6, 5), rfl, by decide +kernel, fun _ => List.mem_of_getElem? (i := 250) (by decide +kernel), fun h => absurd rfl h⟩
theorem zk_6_20 : zCpOk 6 20 (1, 6, 1, 0) := ⟨(RX6, TX6, 5), rfl, by decide +kernel, fun _ => List.mem_of_getElem? (i := 252) (by decide +kernel), fun h => absurd rfl h⟩
theorem zk_6_23 : zCpOk 6 23 (1, 6, 2, 0) := ⟨(RX6, TX6, 5), rfl, by decide +kernel, fun _ => List.mem_of_getElem? (i := 253) (by decide +kernel), fun h => absurd rfl h⟩
theorem zk_6_27 : zCpOk 6 27 (5, 39, 0, 0) := ⟨zmo_39, fun _ => List.mem_of_getElem? (i := 702) (by decide +kernel), fun h => absurd rfl h⟩
theorem zk_6_33 : zCpOk 6 33 (5, 61, 0, 0) := ⟨zmo_61, fun _ => List.mem_of_getElem? (i := 709) (by decide +kernel), fun h => absurd rfl h⟩
theorem zk_6_37 : zCpOk 6 37 (1, 6, 3, 0) := ⟨(RX6, TX6, 5), rfl, by decide +kernel, fun _ => List.mem_of_getElem? (i := 255) (by decide +kernel), fun h => absurd rfl h⟩
theorem zk_6_40 : zCpOk 6 40 (1, 6, 4, 0) := ⟨(RX6, TX6, 5), rfl, by decide +kernel, fun _ => List.mem_of_getElem? (i := 257) (by decide +kernel), fun h => absurd rfl h⟩
theorem zk_6_43 : zCpOk 6 43 (5, 68, 0, 0) := ⟨zmo_68, fun _ => List.mem_of_getElem? (i := 718) (by decide +kernel), fun h => absurd rfl h⟩
theorem zk_6_46 : zCpOk 6 46 (5, 60, 0, 0) := ⟨zmo_60, fun _ => List.mem_of_getElem? (i := 723) (by decide +kernel), fun h => absurd rfl h⟩
theorem zk_6_50 : zCpOk 6 50 (8, 0, 0, 0) := List.mem_of_getElem? (i := 725) (by decide +kernel)
theorem zk_6_56 : zCpOk 6 56 (5, 62, 0, 0) := ⟨zmo_62, fun _ => List.mem_of_getElem? (i := 722) (by decide +kernel), fun h => absurd rfl h⟩
theorem zk_6_59 : zCpOk 6 59 (5, 66, 0, 0) := ⟨zmo_66, fun _ => List.mem_of_getElem? (i := 724) (by decide +kernel), fun h => absurd rfl h⟩
theorem zko_6 : ∀ q ∈ zc_6, zCpOk 6 q.1 q.2 := List.forall_mem_cons.mpr ⟨zk_6_3, List.forall_mem_cons.mpr ⟨zk_6_9, List.forall_mem_cons.mpr ⟨zk_6_13, List.forall_mem_cons.mpr ⟨zk_6_16, List.forall_mem_cons.mpr ⟨zk_6_20, List.forall_mem_cons.mpr ⟨zk_6_23, List.forall_mem_cons.mpr ⟨zk_6_27, List.forall_mem_cons.mpr ⟨zk_6_33, List.forall_mem_cons.mpr ⟨zk_6_37, List.forall_mem_cons.mpr ⟨zk_6_40, List.forall_mem_cons.mpr ⟨zk_6_43, List.forall_mem_cons.mpr ⟨zk_6_46, List.forall_mem_cons.mpr ⟨zk_6_50, List.forall_mem_cons.mpr ⟨zk_6_56, List.forall_mem_cons.mpr ⟨zk_6_59, fun _ h => absurd h List.not_mem_nil⟩⟩⟩⟩⟩⟩⟩⟩⟩⟩⟩⟩⟩⟩⟩
theorem zk_7_3 : zCpOk 7 3 (6, 0, 0, 0) := List.mem_of_getElem? (i := 275) (by decide +kernel)
theorem zk_7_9 : zCpOk 7 9 (4, 5, 0, 0) := ⟨(RX5, TX5, 1), rfl, List.mem_of_getElem? (i := 276) (by decide +kernel), List.mem_of_getElem? (i := 90) (by decide +kernel), List.mem_of_getElem? (i := 60) (by decide +kernel)⟩
theorem zk_7_11 : zCpOk 7 11 (5, 59, 0, 0) := ⟨zmo_59, fun _ => List.mem_of_getElem? (i := 277) (by decide +kernel), fun h => absurd rfl h⟩
theorem zk_7_14 : zCpOk 7 14 (1, 7, 0, 0) := ⟨(RX7, TX7, 1), rfl, by decide +kernel, fun _ => List.mem_of_getElem? (i := 296) (by decide +kernel), fun h => absurd rfl h⟩
theorem zk_7_20 : zCpOk 7 20 (5, 70, 0, 0) := ⟨zmo_70, fun _ => List.mem_of_getElem? (i := 278) (by decide +kernel), fun h => absurd rfl h⟩
theorem zk_7_24 : zCpOk 7 24 (3, 0, 0, -1) := List.mem_of_getElem? (i := 287) (by decide +kernel)
theorem zk_7_26 : zCpOk 7 26 (5, 197, 0, 0) := ⟨zmo_197, fun _ => List.mem_of_getElem? (i := 288) (by decide +kernel), fun h => absurd rfl h⟩
theorem zk_7_32 : zCpOk 7 32 (5, 61, 0, 0) := ⟨zmo_61, fun _ => List.mem_of_getElem? (i := 295) (by decide +kernel), fun h => absurd rfl h⟩
theorem zk_7_36 : zCpOk 7 36 (8, 0, 0, 0) := List.mem_of_getElem? (i := 282) (by decide +kernel)
theorem zk_7_41 : zCpOk 7 41 (5, 60, 0, 0) := ⟨zmo_60, fun _ => List.mem_of_getElem? (i := 283) (by decide +kernel), fun h => absurd rfl h⟩
theorem zko_7 : ∀ q ∈ zc_7, zCpOk 7 q.1 q.2 := List.forall_mem_cons.mpr ⟨zk_7_3, List.forall_mem_cons.mpr ⟨zk_7_9, List.forall_mem_cons.mpr ⟨zk_7_11, List.forall_mem_cons.mpr ⟨zk_7_14, List.forall_mem_cons.mpr ⟨zk_7_20, List.forall_mem_cons.mpr ⟨zk_7_24, List.forall_mem_cons.mpr ⟨zk_7_26, List.forall_mem_cons.mpr ⟨zk_7_32, List.forall_mem_cons.mpr ⟨zk_7_36, List.forall_mem_cons.mpr ⟨zk_7_41, fun _ h => absurd h List.not_mem_nil⟩⟩⟩⟩⟩⟩⟩⟩⟩⟩
theorem zk_8_3 : zCpOk 8 3 (6, 0, 0, 0) := List.mem_of_getElem? (i := 220) (by decide +kernel)
theorem zk_8_9 : zCpOk 8 9 (4, 5, 0, 0) := ⟨(RX5, TX5, 1), rfl, List.mem_of_getElem? (i := 221) (by decide +kernel), List.mem_of_getElem? (i := 90) (by decide +kernel), List.mem_of_getElem? (i := 60) (by decide +kernel)⟩
theorem zk_8_13 : zCpOk 8 13 (5, 59, 0, 0) := ⟨zmo_59, fun _ => List.mem_of_getElem? (i := 222) (by decide +kernel), fun h => absurd rfl h⟩
theorem zk_8_16 : zCpOk 8 16 (1, 8, 0, 0) := ⟨(RX8, TX8, 2), rfl, by decide +kernel, fun _ => List.mem_of_getElem? (i := 223) (by decide +kernel), fun h => absurd rfl h⟩
theorem zk_8_20 : zCpOk 8 20 (5, 16, 0, 0) := ⟨zmo_16, fun _ => List.mem_of_getElem? (i := 627) (by decide +kernel), fun h => absurd rfl h⟩
theorem zk_8_26 : zCpOk 8 26 (1, 8, 1, 0) := ⟨(RX8, TX8, 2), rfl, by decide +kernel, fun _ => List.mem_of_getElem? (i := 224) (by decide +kernel), fun h => absurd rfl h⟩
theorem zk_8_30 : zCpOk 8 30 (5, 74, 0, 0) := ⟨zmo_74, fun _ => List.mem_of_getElem? (i := 628) (by decide +kernel), fun h => absurd rfl h⟩
theorem zk_8_34 : zCpOk 8 34 (5, 61, 0, 0) := ⟨zmo_61, fun _ => List.mem_of_getElem? (i := 638) (by decide +kernel), fun h => absurd rfl h⟩
theorem zk_8_38 : zCpOk 8 38 (5, 113, 0, 1) := ⟨zmo_113, fun h => absurd h (by decide +kernel), fun _ => List.mem_of_getElem? (i := 632) (by decide +kernel)⟩
theorem zk_8_42 : zCpOk 8 42 (5, 60, 0, 0) := ⟨zmo_60, fun _ => List.mem_of_getElem? (i := 633) (by decide +kernel), fun h => absurd rfl h⟩
theorem zk_8_45 : zCpOk 8 45 (5, 11, 0, 0) := ⟨zmo_11, fun _ => List.mem_of_getElem? (i := 634) (by decide +kernel), fun h => absurd rfl h⟩
theorem zk_8_48 : zCpOk 8 48 (5, 196, 0, 0) := ⟨zmo_196, fun _ => List.mem_of_getElem? (i := 643) (by decide +kernel), fun h => absurd rfl h⟩
theorem zk_8_53 : zCpOk 8 53 (8, 0, 0, 0) := List.mem_of_getElem? (i := 644) (by decide +kernel)
theorem zk_8_59 : zCpOk 8 59 (5, 77, 0, 0) := ⟨zmo_77, fun _ => List.mem_of_getElem? (i := 649) (by decide +kernel), fun h => absurd rfl h⟩
theorem zk_8_62 : zCpOk 8 62 (5, 195, 0, 0) := ⟨zmo_195, fun _ => List.mem_of_getElem? (i := 653) (by decide +kernel), fun h => absurd rfl h⟩
theorem zko_8 : ∀ q ∈ zc_8, zCpOk 8 q.1 q.2 := List.forall_mem_cons.mpr ⟨zk_8_3, List.forall_mem_cons.mpr ⟨zk_8_9, List.forall_mem_cons.mpr ⟨zk_8_13, List.forall_mem_cons.mpr ⟨zk_8_16, List.forall_mem_cons.mpr ⟨zk_8_20, List.forall_mem_cons.mpr ⟨zk_8_26, List.forall_mem_cons.mpr ⟨zk_8_30, List.forall_mem_cons.mpr ⟨zk_8_34, List.forall_mem_cons.mpr ⟨zk_8_38, List.forall_mem_cons.mpr ⟨zk_8_42, List.forall_mem_cons.mpr ⟨zk_8_45, List.forall_mem_cons.mpr ⟨zk_8_48, List.forall_mem_cons.mpr ⟨zk_8_53, List.forall_mem_cons.mpr ⟨zk_8_59, List.forall_mem_cons.mpr ⟨zk_8_62, fun _ h => absurd h List.not_mem_nil⟩⟩⟩⟩⟩⟩⟩⟩⟩⟩⟩⟩⟩⟩⟩
theorem zk_9_1 : zCpOk 9 1 (6, 0, 0, 0) := List.mem_of_getElem? (i := 80) (by decide +kernel)
theorem zk_9_7 : zCpOk 9 7 (4, 1, 0, 0) := ⟨(RX1, TX1, 8), rfl, List.mem_of_getElem? (i := 83) (by decide +kernel), List.mem_of_getElem? (i := 84) (by decide +kernel), List.mem_of_getElem? (i := 59) (by decide +kernel)⟩
theorem zk_9_9 : zCpOk 9 9 (5, 9, 0, 0) := ⟨zmo_9, fun _ => List.mem_of_getElem? (i := 85) (by decide +kernel), fun h => absurd rfl h⟩
theorem zk_9_10 : zCpOk 9 10 (1, 9, 0, 0) := ⟨(RX9, TX9, 11), rfl, by decide +kernel, fun _ => List.mem_of_getElem? (i := 300) (by decide +kernel), fun h => absurd rfl h⟩
theorem zk_9_16 : zCpOk 9 16 (1, 9, 1, 0) := ⟨(RX9, TX9, 11), rfl, by decide +kernel, fun _ => List.mem_of_getElem? (i := 301) (by decide +kernel), fun h => absurd rfl h⟩
theorem zk_9_19 : zCpOk 9 19 (1, 9, 2, 0) := ⟨(RX9, TX9, 11), rfl, by decide +kernel, fun _ => List.mem_of_getElem? (i := 302) (by decide +kernel), fun h => absurd rfl h⟩
theorem zk_9_22 : zCpOk 9 22 (4, 3, 0, 0) := ⟨(RX3, TX3, 2), rfl, List.mem_of_getElem? (i := 141) (by decide +kernel), List.mem_of_getElem? (i := 142) (by decide +kernel), List.mem_of_getElem? (i := 62) (by decide +kernel)⟩
theorem zk_9_24 : zCpOk 9 24 (5, 45, 0, 1) := ⟨zmo_45, fun h => absurd h (by decide +kernel), fun _ => List.mem_of_getElem? (i := 143) (by decide +kernel)⟩
theorem zk_9_25 : zCpOk 9 25 (1, 9, 3, 0) := ⟨(RX9, TX9, 11), rfl, by decide +kernel, fun _ => List.mem_of_getElem? (i := 303) (by decide +kernel), fun h => absurd rfl h⟩
theorem zk_9_29 : zCpOk 9 29 (4, 0, 0, 0) := ⟨(RX0, TX0, 6), rfl, List.mem_of_getElem? (i := 159) (by decide +kernel), List.mem_of_getElem? (i := 160) (by decide +kernel), List.mem_of_getElem? (i := 63) (by decide +kernel)⟩
theorem zk_9_31 : zCpOk 9 31 (5, 0, 0, 1) := ⟨zmo_0, fun h => absurd h (by decide +kernel), fun _ => List.mem_of_getElem? (i := 161) (by decide +kernel)⟩
theorem zk_9_32 : zCpOk 9 32 (1, 9, 4, 0) := ⟨(RX9, TX9, 11), rfl, by decide +kernel, fun _ => List.mem_of_getElem? (i := 304) (by decide +kernel), fun h => absurd rfl h⟩
theorem zk_9_36 : zCpOk 9 36 (4, 4, 0, 0) := ⟨(RX4, TX4, 4), rfl, List.mem_of_getElem? (i := 194) (by decide +kernel), List.mem_of_getElem? (i := 195) (by decide +kernel), List.mem_of_getElem? (i := 64) (by decide +kernel)⟩
theorem zk_9_38 : zCpOk 9 38 (5, 54, 0, 1) := ⟨zmo_54, fun h => absurd h (by decide +kernel), fun _ => List.mem_of_getElem? (i := 196) (by decide +kernel)⟩
theorem zk_9_39 : zCpOk 9 39 (1, 9, 5, 0) := ⟨(RX9, TX9, 11), rfl, by decide +kernel, fun _ => List.mem_of_getElem? (i := 305) (by decide +kernel), fun h => absurd rfl h⟩
theorem zk_9_43 : zCpOk 9 43 (4, 8, 0, 0) := ⟨(RX8, TX8, 2), rfl, List.mem_of_getElem? (i := 215) (by decide +kernel), List.mem_of_getElem? (i := 216) (by decide +kernel), List.mem_of_getElem? (i := 65) (by decide +kernel)⟩
theorem zk_9_45 : zCpOk 9 45 (5, 72, 0, 1) := ⟨zmo_72, fun h => absurd h (by decide +kernel), fun _ => List.mem_of_getElem? (i := 217) (by decide +kernel)⟩
theorem zk_9_46 : zCpOk 9 46 (1, 9, 6, 0) := ⟨(RX9, TX9, 11), rfl, by decide +kernel, fun _ => List.mem_of_getElem? (i := 306) (by decide +kernel), fun h => absurd rfl h⟩
theorem zk_9_50 : zCpOk 9 50 (4, 2, 0, 0) := ⟨(RX2, TX2, 1), rfl, List.mem_of_getElem? (i := 230) (by decide +kernel), List.mem_of_getElem? (i := 231) (by decide +kernel), List.mem_of_getElem? (i := 66) (by decide +kernel)⟩
theorem zk_9_52 : zCpOk 9 52 (5, 40, 0, 1) := ⟨zmo_40, fun h => absurd h (by decide +kernel), fun _ => List.mem_of_getElem? (i := 232) (by decide +kernel)⟩
theorem zk_9_53 : zCpOk 9 53 (1, 9, 7, 0) := ⟨(RX9, TX9, 11), rfl, by decide +kernel, fun _ => List.mem_of_getElem? (i := 307) (by decide +kernel), fun h => absurd rfl h⟩
theorem zk_9_57 : zCpOk 9 57 (4, 6, 0, 0) := ⟨(RX6, TX6, 5), rfl, List.mem_of_getElem? (i := 242) (by decide +kernel), List.mem_of_getElem? (i := 243) (by decide +kernel), List.mem_of_getElem? (i := 67) (by decide +kernel)⟩
theorem zk_9_59 : zCpOk 9 59 (5, 64, 0, 1) := ⟨zmo_64, fun h => absurd h (by decide +kernel), fun _ => List.mem_of_getElem? (i := 244) (by decide +kernel)⟩
theorem zk_9_60 : zCpOk 9 60 (1, 9, 8, 0) := ⟨(RX9, TX9, 11), rfl, by decide +kernel, fun _ => List.mem_of_getElem? (i := 308) (by decide +kernel), fun h => absurd rfl h⟩
theorem zk_9_64 : zCpOk 9 64 (4, 7, 0, 0) := ⟨(RX7, TX7, 1), rfl, List.mem_of_getElem? (i := 270) (by decide +kernel), List.mem_of_getElem? (i := 271) (by decide +kernel), List.mem_of_getElem? (i := 68) (by decide +kernel)⟩
theorem zk_9_66 : zCpOk 9 66 (5, 69, 0, 0) := ⟨zmo_69, fun _ => List.mem_of_getElem? (i := 272) (by decide +kernel), fun h => absurd rfl h⟩
theorem zk_9_67 : zCpOk 9 67 (1, 9, 9, 0) := ⟨(RX9, TX9, 11), rfl, by decide +kernel, fun _ => List.mem_of_getElem? (i := 309) (by decide +kernel), fun h => absurd rfl h⟩
theorem zk_9_71 : zCpOk 9 71 (5, 110, 0, 0) := ⟨zmo_110, fun _ => List.mem_of_getElem? (i := 338) (by decide +kernel), fun h => absurd rfl h⟩
theorem zk_9_75 : zCpOk 9 75 (5, 12, 0, 0) := ⟨zmo_12, fun _ => List.mem_of_getElem? (i := 341) (by decide +kernel), fun h => absurd rfl h⟩
theorem zk_9_79 : zCpOk 9 79 (5, 13, 0, 0) := ⟨zmo_13, fun _ => List.mem_of_getElem? (i := 346) (by decide +kernel), fun h => absurd rfl h⟩
theorem zk_9_83 : zCpOk 9 83 (5, 111, 0, 0) := ⟨zmo_111, fun _ => List.mem_of_getElem? (i := 360) (by decide +kernel), fun h => absurd rfl h⟩
theorem zk_9_86 : zCpOk 9 86 (5, 18, 0, 0) := ⟨zmo_18, fun _ => List.mem_of_getElem? (i := 361) (by decide +kernel), fun h => absurd rfl h⟩
theorem zk_9_90 : zCpOk 9 90 (5, 24, 0, 0) := ⟨zmo_24, fun _ => List.mem_of_getElem? (i := 365) (by decide +kernel), fun h => absurd rfl h⟩
theorem zk_9_94 : zCpOk 9 94 (5, 112, 0, 0) := ⟨zmo_112, fun _ => List.mem_of_getElem? (i := 373) (by decide +kernel), fun h => absurd rfl h⟩
theorem zk_9_97 : zCpOk 9 97 (5, 19, 0, 0) := ⟨zmo_19, fun _ => List.mem_of_getElem? (i := 376) (by decide +kernel), fun h => absurd rfl h⟩
theorem zk_9_100 : zCpOk 9 100 (5, 20, 0, 0) := ⟨zmo_20, fun _ => List.mem_of_getElem? (i := 380) (by decide +kernel), fun h => absurd rfl h⟩
theorem zk_9_103 : zCpOk 9 103 (5, 26, 0, 0) := ⟨zmo_26, fun _ => List.mem_of_getElem? (i := 388) (by decide +kernel), fun h => absurd rfl h⟩
theorem zk_9_107 : zCpOk 9 107 (5, 25, 0, 0) := ⟨zmo_25, fun _ => List.mem_of_getElem? (i := 392) (by decide +kernel), fun h => absurd rfl h⟩
theorem zk_9_110 : zCpOk 9 110 (5, 109, 0, 0) := ⟨zmo_109, fun _ => List.mem_of_getElem? (i := 110) (by decide +kernel), fun h => absurd rfl h⟩
theorem zk_9_114 : zCpOk 9 114 (5, 21, 0, 0) := ⟨zmo_21, fun _ => List.mem_of_getElem? (i := 400) (by decide +kernel), fun h => absurd rfl h⟩
theorem zk_9_117 : zCpOk 9 117 (5, 27, 0, 0) := ⟨zmo_27, fun _ => List.mem_of_getElem? (i := 404) (by decide +kernel), fun h => absurd rfl h⟩
theorem zk_9_121 : zCpOk 9 121 (1, 3, 1, 1) := ⟨(RX3, TX3, 2), rfl, by decide +kernel, fun h => absurd h (by decide +kernel), fun _ => List.mem_of_getElem? (i := 153) (by decide +kernel)⟩
theorem zk_9_125 : zCpOk 9 125 (5, 46, 0, 0) := ⟨zmo_46, fun _ => List.mem_of_getElem? (i := 416) (by decide +kernel), fun h => absurd rfl h⟩
theorem zk_9_128 : zCpOk 9 128 (5, 47, 0, 0) := ⟨zmo_47, fun _ => List.mem_of_getElem? (i := 425) (by decide +kernel), fun h => absurd rfl h⟩
theorem zk_9_131 : zCpOk 9 131 (5, 48, 0, 0) := ⟨zmo_48, fun _ => List.mem_of_getElem? (i := 433) (by decide +kernel), fun h => absurd rfl h⟩
theorem zk_9_134 : zCpOk 9 134 (5, 1, 0, 0) := ⟨zmo_1, fun _ => List.mem_of_getElem? (i := 453) (by decide +kernel), fun h => absurd rfl h⟩
theorem zk_9_138 : zCpOk 9 138 (1, 0, 3, 1) := ⟨(RX0, TX0, 6), rfl, by decide +kernel, fun h => absurd h (by decide +kernel), fun _ => List.mem_of_getElem? (i := 176) (by decide +kernel)⟩
theorem zk_9_141 : zCpOk 9 141 (1, 0, 4, 1) := ⟨(RX0, TX0, 6), rfl, by decide +kernel, fun h => absurd h (by decide +kernel), fun _ => List.mem_of_getElem? (i := 178) (by decide +kernel)⟩
theorem zk_9_144 : zCpOk 9 144 (1, 0, 5, 1) := ⟨(RX0, TX0, 6), rfl, by decide +kernel, fun h => absurd h (by decide +kernel), fun _ => List.mem_of_getElem? (i := 180) (by decide +kernel)⟩
theorem zk_9_147 : zCpOk 9 147 (1, 0, 0, 1) := ⟨(RX0, TX0, 6), rfl, by decide +kernel, fun h => absurd h (by decide +kernel), fun _ => List.mem_of_getElem? (i := 170) (by decide +kernel)⟩
theorem zk_9_150 : zCpOk 9 150 (5, 23, 0, 0) := ⟨zmo_23, fun _ => List.mem_of_getElem? (i := 547) (by decide +kernel), fun h => absurd rfl h⟩
theorem zk_9_153 : zCpOk 9 153 (1, 0, 1, 1) := ⟨(RX0, TX0, 6), rfl, by decide +kernel, fun h => absurd h (by decide +kernel), fun _ => List.mem_of_getElem? (i := 172) (by decide +kernel)⟩
theorem zk_9_157 : zCpOk 9 157 (5, 60, 0, 0) := ⟨zmo_60, fun _ => List.mem_of_getElem? (i := 556) (by decide +kernel), fun h => absurd rfl h⟩
theorem zk_9_162 : zCpOk 9 162 (5, 5, 0, 0) := ⟨zmo_5, fun _ => List.mem_of_getElem? (i := 561) (by decide +kernel), fun h => absurd rfl h⟩
theorem zk_9_165 : zCpOk 9 165 (5, 10, 0, 0) := ⟨zmo_10, fun _ => List.mem_of_getElem? (i := 569) (by decide +kernel), fun h => absurd rfl h⟩
theorem zk_9_169 : zCpOk 9 169 (1, 0, 2, 1) := ⟨(RX0, TX0, 6), rfl, by decide +kernel, fun h => absurd h (by decide +kernel), fun _ => List.mem_of_getElem? (i := 174) (by decide +kernel)⟩
theorem zk_9_172 : zCpOk 9 172 (5, 15, 0, 0) := ⟨zmo_15, fun _ => List.mem_of_getElem? (i := 574) (by decide +kernel), fun h => absurd rfl h⟩
theorem zk_9_176 : zCpOk 9 176 (5, 17, 0, 0) := ⟨zmo_17, fun _ => List.mem_of_getElem? (i := 586) (by decide +kernel), fun h => absurd rfl h⟩
theorem zk_9_179 : zCpOk 9 179 (5, 55, 0, 0) := ⟨zmo_55, fun _ => List.mem_of_getElem? (i := 591) (by decide +kernel), fun h => absurd rfl h⟩
theorem zk_9_183 : zCpOk 9 183 (5, 73, 0, 0) := ⟨zmo_73, fun _ => List.mem_of_getElem? (i := 623) (by decide +kernel), fun h => absurd rfl h⟩
theorem zk_9_187 : zCpOk 9 187 (5, 75, 0, 0) := ⟨zmo_75, fun _ => List.mem_of_getElem? (i := 639) (by decide +kernel), fun h => absurd rfl h⟩
theorem zk_9_190 : zCpOk 9 190 (5, 76, 0, 0) := ⟨zmo_76, fun _ => List.mem_of_getElem? (i := 645) (by decide +kernel), fun h => absurd rfl h⟩
theorem zk_9_193 : zCpOk 9 193 (5, 41, 0, 0) := ⟨zmo_41, fun _ => List.mem_of_getElem? (i := 658) (by decide +kernel), fun h => absurd rfl h⟩
theorem zk_9_196 : zCpOk 9 196 (5, 42, 0, 0) := ⟨zmo_42, fun _ => List.mem_of_getElem? (i := 663) (by decide +kernel), fun h => absurd rfl h⟩
theorem zk_9_199 : zCpOk 9 199 (5, 43, 0, 0) := ⟨zmo_43, fun _ => List.mem_of_getElem? (i := 669) (by decide +kernel), fun h => absurd rfl h⟩
theorem zk_9_202 : zCpOk 9 202 (1, 1, 5, 1) := ⟨(RX1, TX1, 8), rfl, by decide +kernel, fun h => absurd h (by decide +kernel), fun _ => List.mem_of_getElem? (i := 119) (by decide +kernel)⟩
theorem zk_9_205 : zCpOk 9 205 (5, 37, 0, 0) := ⟨zmo_37, fun _ => List.mem_of_getElem? (i := 682) (by decide +kernel), fun h => absurd rfl h⟩
theorem zk_9_208 : zCpOk 9 208 (5, 38, 0, 0) := ⟨zmo_38, fun _ => List.mem_of_getElem? (i := 690) (by decide +kernel), fun h => absurd rfl h⟩
theorem zk_9_211 : zCpOk 9 211 (5, 65, 0, 0) := ⟨zmo_65, fun _ => List.mem_of_getElem? (i := 698) (by decide +kernel), fun h => absurd rfl h⟩
theorem zk_9_214 : zCpOk 9 214 (1, 6, 2, 1) := ⟨(RX6, TX6, 5), rfl, by decide +kernel, fun h => absurd h (by decide +kernel), fun _ => List.mem_of_getElem? (i := 254) (by decide +kernel)⟩
theorem zk_9_215 : zCpOk 9 215 (1, 6, 0, 1) := ⟨(RX6, TX6, 5), rfl, by decide +kernel, fun h => absurd h (by decide +kernel), fun _ => List.mem_of_getElem? (i := 251) (by decide +kernel)⟩
theorem zk_9_218 : zCpOk 9 218 (5, 67, 0, 0) := ⟨zmo_67, fun _ => List.mem_of_getElem? (i := 714) (by decide +kernel), fun h => absurd rfl h⟩
theorem zk_9_221 : zCpOk 9 221 (1, 6, 3, 1) := ⟨(RX6, TX6, 5), rfl, by decide +kernel, fun h => absurd h (by decide +kernel), fun _ => List.mem_of_getElem? (i := 256) (by decide +kernel)⟩
theorem zk_9_224 : zCpOk 9 224 (1, 6, 4, 1) := ⟨(RX6, TX6, 5), rfl, by decide +kernel, fun h => absurd h (by decide +kernel), fun _ => List.mem_of_getElem? (i := 258) (by decide +kernel)⟩
theorem zk_9_227 : zCpOk 9 227 (5, 71, 0, 0) := ⟨zmo_71, fun _ => List.mem_of_getElem? (i := 730) (by decide +kernel), fun h => absurd rfl h⟩
theorem zk_9_230 : zCpOk 9 230 (3, 0, 0, -1000000000000000002) := List.mem_of_getElem? (i := 738) (by decide +kernel)
theorem zk_9_232 : zCpOk 9 232 (5, 114, 0, 0) := ⟨zmo_114, fun _ => List.mem_of_getElem? (i := 739) (by decide +kernel), fun h => absurd rfl h⟩
theorem zk_9_236 : zCpOk 9 236 (5, 115, 0, 0) := ⟨zmo_115, fun _ => List.mem_of_getElem? (i := 742) (by decide +kernel), fun h => absurd rfl h⟩
theorem zk_9_240 : zCpOk 9 240 (10, 0, 0, 0) := List.mem_of_getElem? (i := 745) (by decide +kernel)
theorem zk_9_245 : zCpOk 9 245 (5, 6, 0, 0) := ⟨zmo_6, fun _ => List.mem_of_getElem? (i := 752) (by decide +kernel), fun h => absurd rfl h⟩
theorem zk_9_249 : zCpOk 9 249 (1, 1, 7, 1) := ⟨(RX1, TX1, 8), rfl, by decide +kernel, fun h => absurd h (by decide +kernel), fun _ => List.mem_of_getElem? (i := 123) (by decide +kernel)⟩
theorem zk_9_252 : zCpOk 9 252 (5, 28, 0, 0) := ⟨zmo_28, fun _ => List.mem_of_getElem? (i := 764) (by decide +kernel), fun h => absurd rfl h⟩
theorem zk_9_255 : zCpOk 9 255 (5, 29, 0, 0) := ⟨zmo_29, fun _ => List.mem_of_getElem? (i := 768) (by decide +kernel), fun h => absurd rfl h⟩
theorem zk_9_258 : zCpOk 9 258 (1, 9, 10, 0) := ⟨(RX9, TX9, 11), rfl, by decide +kernel, fun _ => List.mem_of_getElem? (i := 310) (by decide +kernel), fun h => absurd rfl h⟩
theorem zk_9_261 : zCpOk 9 261 (5, 113, 0, 0) := ⟨zmo_113, fun _ => List.mem_of_getElem? (i := 780) (by decide +kernel), fun h => absurd rfl h⟩
theorem zk_9_265 : zCpOk 9 265 (1, 1, 6, 1) := ⟨(RX1, TX1, 8), rfl, by decide +kernel, fun h => absurd h (by decide +kernel), fun _ => List.mem_of_getElem? (i := 121) (by decide +kernel)⟩
theorem zk_9_268 : zCpOk 9 268 (5, 108, 0, 0) := ⟨zmo_108, fun _ => List.mem_of_getElem? (i := 785) (by decide +kernel), fun h => absurd rfl h⟩
theorem zk_9_271 : zCpOk 9 271 (5, 11, 0, 0) := ⟨zmo_11, fun _ => List.mem_of_getElem? (i := 789) (by decide +kernel), fun h => absurd rfl h⟩
theorem zko_9 : ∀ q ∈ zc_9, zCpOk 9 q.1 q.2 := List.forall_mem_cons.mpr ⟨zk_9_1, List.forall_mem_cons.mpr ⟨zk_9_7, List.forall_mem_cons.mpr ⟨zk_9_9, List.forall_mem_cons.mpr ⟨zk_9_10, List.forall_mem_cons.mpr ⟨zk_9_16, List.forall_mem_cons.mpr ⟨zk_9_19, List.forall_mem_cons.mpr ⟨zk_9_22, List.forall_mem_cons.mpr ⟨zk_9_24, List.forall_mem_cons.mpr ⟨zk_9_25, List.forall_mem_cons.mpr ⟨zk_9_29, List.forall_mem_cons.mpr ⟨zk_9_31, List.forall_mem_cons.mpr ⟨zk_9_32, List.forall_mem_cons.mpr ⟨zk_9_36, List.forall_mem_cons.mpr ⟨zk_9_38, List.forall_mem_cons.mpr ⟨zk_9_39, List.forall_mem_cons.mpr ⟨zk_9_43, List.forall_mem_cons.mpr ⟨zk_9_45, List.forall_mem_cons.mpr ⟨zk_9_46, List.forall_mem_cons.mpr ⟨zk_9_50, List.forall_mem_cons.mpr ⟨zk_9_52, List.forall_mem_cons.mpr ⟨zk_9_53, List.forall_mem_cons.mpr ⟨zk_9_57, List.forall_mem_cons.mpr ⟨zk_9_59, List.forall_mem_cons.mpr ⟨zk_9_60, List.forall_mem_cons.mpr ⟨zk_9_64, List.forall_mem_cons.mpr ⟨zk_9_66, List.forall_mem_cons.mpr ⟨zk_9_67, List.forall_mem_cons.mpr ⟨zk_9_71, List.forall_mem_cons.mpr ⟨zk_9_75, List.forall_mem_cons.mpr ⟨zk_9_79, List.forall_mem_cons.mpr ⟨zk_9_83, List.forall_mem_cons.mpr ⟨zk_9_86, List.forall_mem_cons.mpr ⟨zk_9_90, List.forall_mem_cons.mpr ⟨zk_9_94, List.forall_mem_cons.mpr ⟨zk_9_97, List.forall_mem_cons.mpr ⟨zk_9_100, List.forall_mem_cons.mpr ⟨zk_9_103, List.forall_mem_cons.mpr ⟨zk_9_107, List.forall_mem_cons.mpr ⟨zk_9_110, List.forall_mem_cons.mpr ⟨zk_9_114, List.forall_mem_cons.mpr ⟨zk_9_117, List.forall_mem_cons.mpr ⟨zk_9_121, List.forall_mem_cons.mpr ⟨zk_9_125, List.forall_mem_cons.mpr ⟨zk_9_128, List.forall_mem_cons.mpr ⟨zk_9_131, List.forall_mem_cons.mpr ⟨zk_9_134, List.forall_mem_cons.mpr ⟨zk_9_138, List.forall_mem_cons.mpr ⟨zk_9_141, List.forall_mem_cons.mpr ⟨zk_9_144, List.forall_mem_cons.mpr ⟨zk_9_147, List.forall_mem_cons.mpr ⟨zk_9_150, List.forall_mem_cons.mpr ⟨zk_9_153, List.forall_mem_cons.mpr ⟨zk_9_157, List.forall_mem_cons.mpr ⟨zk_9_162, List.forall_mem_cons.mpr ⟨zk_9_165, List.forall_mem_cons.mpr ⟨zk_9_169, List.forall_mem_cons.mpr ⟨zk_9_172, List.forall_mem_cons.mpr ⟨zk_9_176, List.forall_mem_cons.mpr ⟨zk_9_179, List.forall_mem_cons.mpr ⟨zk_9_183, List.forall_mem_cons.mpr ⟨zk_9_187, List.forall_mem_cons.mpr ⟨zk_9_190, List.forall_mem_cons.mpr ⟨zk_9_193, List.forall_mem_cons.mpr ⟨zk_9_196, List.forall_mem_cons.mpr ⟨zk_9_199, List.forall_mem_cons.mpr ⟨zk_9_202, List.forall_mem_cons.mpr ⟨zk_9_205, List.forall_mem_cons.mpr ⟨zk_9_208, List.forall_mem_cons.mpr ⟨zk_9_211, List.forall_mem_cons.mpr ⟨zk_9_214, List.forall_mem_cons.mpr ⟨zk_9_215, List.forall_mem_cons.mpr ⟨zk_9_218, List.forall_mem_cons.mpr ⟨zk_9_221, List.forall_mem_cons.mpr ⟨zk_9_224, List.forall_mem_cons.mpr ⟨zk_9_227, List.forall_mem_cons.mpr ⟨zk_9_230, List.forall_mem_cons.mpr ⟨zk_9_232, List.forall_mem_cons.mpr ⟨zk_9_236, List.forall_mem_cons.mpr ⟨zk_9_240, List.forall_mem_cons.mpr ⟨zk_9_245, List.forall_mem_cons.mpr ⟨zk_9_249, List.forall_mem_cons.mpr ⟨zk_9_252, List.forall_mem_cons.mpr ⟨zk_9_255, List.forall_mem_cons.mpr ⟨zk_9_258, List.forall_mem_cons.mpr ⟨zk_9_261, List.forall_mem_cons.mpr ⟨zk_9_265, List.forall_mem_cons.mpr ⟨zk_9_268, List.forall_mem_cons.mpr ⟨zk_9_271, fun _ h => absurd h List.not_mem_nil⟩⟩⟩⟩⟩⟩⟩⟩⟩⟩⟩⟩⟩⟩⟩⟩⟩⟩⟩⟩⟩⟩⟩⟩⟩⟩⟩⟩⟩⟩⟩⟩⟩⟩⟩⟩⟩⟩⟩⟩⟩⟩⟩⟩⟩⟩⟩⟩⟩⟩⟩⟩⟩⟩⟩⟩⟩⟩⟩⟩⟩⟩⟩⟩⟩⟩⟩⟩⟩⟩⟩⟩⟩⟩⟩⟩⟩⟩⟩⟩⟩⟩⟩⟩⟩⟩⟩⟩
theorem zk_10_1 : zCpOk 10 1 (6, 0, 0, 0) := List.mem_of_getElem? (i := 795) (by decide +kernel)
theorem zk_10_7 : zCpOk 10 7 (1, 10, 0, 0) := ⟨(RX10, TX10, 32), rfl, by decide +kernel, fun _ => List.mem_of_getElem? (i := 796) (by decide +kernel), fun h => absurd rfl h⟩
theorem zk_10_13 : zCpOk 10 13 (1, 10, 1, 0) := ⟨(RX10, TX10, 32), rfl, by decide +kernel, fun _ => List.mem_of_getElem? (i := 797) (by decide +kernel), fun h => absurd rfl h⟩
theorem zk_10_16 : zCpOk 10 16 (1, 10, 2, 0) := ⟨(RX10, TX10, 32), rfl, by decide +kernel, fun _ => List.mem_of_getElem? (i := 798) (by decide +kernel), fun h => absurd rfl h⟩
theorem zk_10_19 : zCpOk 10 19 (1, 10, 3, 0) := ⟨(RX10, TX10, 32), rfl, by decide +kernel, fun _ => List.mem_of_getElem? (i := 799) (by decide +kernel), fun h => absurd rfl h⟩
theorem zk_10_22 : zCpOk 10 22 (1, 10, 4, 0) := ⟨(RX10, TX10, 32), rfl, by decide +kernel, fun _ => List.mem_of_getElem? (i := 800) (by decide +kernel), fun h => absurd rfl h⟩
theorem zk_10_25 : zCpOk 10 25 (1, 10, 7, 0) := ⟨(RX10, TX10, 32), rfl, by decide +kernel, fun _ => List.mem_of_getElem? (i := 803) (by decide +kernel), fun h => absurd rfl h⟩
theorem zk_10_28 : zCpOk 10 28 (1, 10, 8, 0) := ⟨(RX10, TX10, 32), rfl, by decide +kernel, fun _ => List.mem_of_getElem? (i := 804) (by decide +kernel), fun h => absurd rfl h⟩
theorem zk_10_31 : zCpOk 10 31 (1, 10, 9, 0) := ⟨(RX10, TX10, 32), rfl, by decide +kernel, fun _ => List.mem_of_getElem? (i := 805) (by decide +kernel), fun h => absurd rfl h⟩
theorem zk_10_34 : zCpOk 10 34 (1, 10, 11, 0) := ⟨(RX10, TX10, 32), rfl, by decide +kernel, fun _ => List.mem_of_getElem? (i := 807) (by decide +kernel), fun h => absurd rfl h⟩
theorem zk_10_37 : zCpOk 10 37 (1, 10, 13, 0) := ⟨(RX10, TX10, 32), rfl, by decide +kernel, fun _ => List.mem_of_getElem? (i := 809) (by decide +kernel), fun h => absurd rfl h⟩
theorem zk_10_40 : zCpOk 10 40 (1, 10, 14, 0) := ⟨(RX10, TX10, 32), rfl, by decide +kernel, fun _ => List.mem_of_getElem? (i := 810) (by decide +kernel), fun h => absurd rfl h⟩
theorem zk_10_43 : zCpOk 10 43 (1, 10, 15, 0) := ⟨(RX10, TX10, 32), rfl, by decide +kernel, fun _ => List.mem_of_getElem? (i := 811) (by decide +kernel), fun h => absurd rfl h⟩
theorem zk_10_46 : zCpOk 10 46 (1, 10, 17, 0) := ⟨(RX10, TX10, 32), rfl, by decide +kernel, fun _ => List.mem_of_getElem? (i := 813) (by decide +kernel), fun h => absurd rfl h⟩
theorem zk_10_49 : zCpOk 10 49 (1, 10, 18, 0) := ⟨(RX10, TX10, 32), rfl, by decide +kernel, fun _ => List.mem_of_getElem? (i := 814) (by decide +kernel), fun h => absurd rfl h⟩
theorem zk_10_52 : zCpOk 10 52 (1, 10, 22, 0) := ⟨(RX10, TX10, 32), rfl, by decide +kernel, fun _ => List.mem_of_getElem? (i := 818) (by decide +kernel), fun h => absurd rfl h⟩
theorem zk_10_55 : zCpOk 10 55 (1, 10, 23, 0) := ⟨(RX10, TX10, 32), rfl, by decide +kernel, fun _ => List.mem_of_getElem? (i := 819) (by decide +kernel), fun h => absurd rfl h⟩
theorem zk_10_58 : zCpOk 10 58 (1, 10, 24, 0) := ⟨(RX10, TX10, 32), rfl, by decide +kernel, fun _ => List.mem_of_getElem? (i := 820) (by decide +kernel), fun h => absurd rfl h⟩
theorem zk_10_61 : zCpOk 10 61 (1, 10, 25, 0) := ⟨(RX10, TX10, 32), rfl, by decide +kernel, fun _ => List.mem_of_getElem? (i := 821) (by decide +kernel), fun h => absurd rfl h⟩
theorem zk_10_64 : zCpOk 10 64 (1, 10, 26, 0) := ⟨(RX10, TX10, 32), rfl, by decide +kernel, fun _ => List.mem_of_getElem? (i := 822) (by decide +kernel), fun h => absurd rfl h⟩
theorem zk_10_67 : zCpOk 10 67 (1, 10, 27, 0) := ⟨(RX10, TX10, 32), rfl, by decide +kernel, fun _ => List.mem_of_getElem? (i := 823) (by decide +kernel), fun h => absurd rfl h⟩
theorem zk_10_71 : zCpOk 10 71 (1, 10, 28, 0) := ⟨(RX10, TX10, 32), rfl, by decide +kernel, fun _ => List.mem_of_getElem? (i := 824) (by decide +kernel), fun h => absurd rfl h⟩
theorem zk_10_74 : zCpOk 10 74 (1, 10, 29, 0) := ⟨(RX10, TX10, 32), rfl, by decide +kernel, fun _ => List.mem_of_getElem? (i := 825) (by decide +kernel), fun h => absurd rfl h⟩
theorem zk_10_77 : zCpOk 10 77 (3, 0, 0, 9) := List.mem_of_getElem? (i := 901) (by decide +kernel)
theorem zk_10_79 : zCpOk 10 79 (5, 117, 0, 0) := ⟨zmo_117, fun _ => List.mem_of_getElem? (i := 902) (by decide +kernel), fun h => absurd rfl h⟩
theorem zk_10_83 : zCpOk 10 83 (3, 0, 0, 7) := List.mem_of_getElem? (i := 918) (by decide +kernel)
theorem zk_10_85 : zCpOk 10 85 (3, 0, 0, 11) := List.mem_of_getElem? (i := 926) (by decide +kernel)
theorem zk_10_87 : zCpOk 10 87 (5, 118, 0, 0) := ⟨zmo_118, fun _ => List.mem_of_getElem? (i := 898) (by decide +kernel), fun h => absurd rfl h⟩
theorem zk_10_91 : zCpOk 10 91 (5, 122, 0, 0) := ⟨zmo_122, fun _ => List.mem_of_getElem? (i := 905) (by decide +kernel), fun h => absurd rfl h⟩
theorem zk_10_95 : zCpOk 10 95 (5, 123, 0, 0) := ⟨zmo_123, fun _ => List.mem_of_getElem? (i := 908) (by decide +kernel), fun h => absurd rfl h⟩
theorem zk_10_99 : zCpOk 10 99 (5, 119, 0, 0) := ⟨zmo_119, fun _ => List.mem_of_getElem? (i := 915) (by decide +kernel), fun h => absurd rfl h⟩
theorem zk_10_102 : zCpOk 10 102 (5, 126, 0, 0) := ⟨zmo_126, fun _ => List.mem_of_getElem? (i := 931) (by decide +kernel), fun h => absurd rfl h⟩
theorem zk_10_105 : zCpOk 10 105 (5, 120, 0, 0) := ⟨zmo_120, fun _ => List.mem_of_getElem? (i := 923) (by decide +kernel), fun h => absurd rfl h⟩
theorem zk_10_108 : zCpOk 10 108 (5, 127, 0, 0) := ⟨zmo_127, fun _ => List.mem_of_getElem? (i := 927) (by decide +kernel), fun h => absurd rfl h⟩
theorem zk_10_111 : zCpOk 10 111 (3, 0, 0, 33) := List.mem_of_getElem? (i := 947) (by decide +kernel)
theorem zk_10_113 : zCpOk 10 113 (3, 0, 0, 126) := List.mem_of_getElem? (i := 948) (by decide +kernel)
theorem zk_10_115 : zCpOk 10 115 (1, 10, 12, 0) := ⟨(RX10, TX10, 32), rfl, by decide +kernel, fun _ => List.mem_of_getElem? (i := 808) (by decide +kernel), fun h => absurd rfl h⟩
theorem zk_10_119 : zCpOk 10 119 (1, 10, 16, 0) := ⟨(RX10, TX10, 32), rfl, by decide +kernel, fun _ => List.mem_of_getElem? (i := 812) (by decide +kernel), fun h => absurd rfl h⟩
theorem zk_10_122 : zCpOk 10 122 (3, 0, 0, 65) := List.mem_of_getElem? (i := 968) (by decide +kernel)
theorem zk_10_124 : zCpOk 10 124 (3, 0, 0, 72) := List.mem_of_getElem? (i := 969) (by decide +kernel)
theorem zk_10_126 : zCpOk 10 126 (5, 134, 0, 0) := ⟨zmo_134, fun _ => List.mem_of_getElem? (i := 965) (by decide +kernel), fun h => absurd rfl h⟩
theorem zk_10_129 : zCpOk 10 129 (5, 133, 0, 0) := ⟨zmo_133, fun _ => List.mem_of_getElem? (i := 970) (by decide +kernel), fun h => absurd rfl h⟩
theorem zk_10_133 : zCpOk 10 133 (3, 0, 0, 48) := List.mem_of_getElem? (i := 978) (by decide +kernel)
theorem zk_10_135 : zCpOk 10 135 (3, 0, 0, 57) := List.mem_of_getElem? (i := 979) (by decide +kernel)
theorem zk_10_137 : zCpOk 10 137 (5, 135, 0, 0) := ⟨zmo_135, fun _ => List.mem_of_getElem? (i := 961) (by decide +kernel), fun h => absurd rfl h⟩
theorem zk_10_140 : zCpOk 10 140 (5, 136, 0, 0) := ⟨zmo_136, fun _ => List.mem_of_getElem? (i := 974) (by decide +kernel), fun h => absurd rfl h⟩
theorem zk_10_143 : zCpOk 10 143 (5, 137, 0, 0) := ⟨zmo_137, fun _ => List.mem_of_getElem? (i := 957) (by decide +kernel), fun h => absurd rfl h⟩
theorem zk_10_146 : zCpOk 10 146 (1, 10, 5, 0) := ⟨(RX10, TX10, 32), rfl, by decide +kernel, fun _ => List.mem_of_getElem? (i := 801) (by decide +kernel), fun h => absurd rfl h⟩
theorem zk_10_149 : zCpOk 10 149 (5, 121, 0, 0) := ⟨zmo_121, fun _ => List.mem_of_getElem? (i := 1002) (by decide +kernel), fun h => absurd rfl h⟩
theorem zk_10_153 : zCpOk 10 153 (5, 139, 0, 0) := ⟨zmo_139, fun _ => List.mem_of_getElem? (i := 1005) (by decide +kernel), fun h => absurd rfl h⟩
theorem zk_10_156 : zCpOk 10 156 (5, 140, 0, 0) := ⟨zmo_140, fun _ => List.mem_of_getElem? (i := 1009) (by decide +kernel), fun h => absurd rfl h⟩
theorem zk_10_159 : zCpOk 10 159 (1, 10, 6, 0) := ⟨(RX10, TX10, 32), rfl, by decide +kernel, fun _ => List.mem_of_getElem? (i := 802) (by decide +kernel), fun h => absurd rfl h⟩
theorem zk_10_162 : zCpOk 10 162 (5, 142, 0, 0) := ⟨zmo_142, fun _ => List.mem_of_getElem? (i := 1021) (by decide +kernel), fun h => absurd rfl h⟩
theorem zk_10_166 : zCpOk 10 166 (5, 143, 0, 0) := ⟨zmo_143, fun _ => List.mem_of_getElem? (i := 1017) (by decide +kernel), fun h => absurd rfl h⟩
theorem zk_10_170 : zCpOk 10 170 (5, 144, 0, 0) := ⟨zmo_144, fun _ => List.mem_of_getElem? (i := 1025) (by decide +kernel), fun h => absurd rfl h⟩
theorem zk_10_173 : zCpOk 10 173 (5, 145, 0, 0) := ⟨zmo_145, fun _ => List.mem_of_getElem? (i := 1029) (by decide +kernel), fun h => absurd rfl h⟩
theorem zk_10_176 : zCpOk 10 176 (1, 10, 19, 0) := ⟨(RX10, TX10, 32), rfl, by decide +kernel, fun _ => List.mem_of_getElem? (i := 815) (by decide +kernel), fun h => absurd rfl h⟩
theorem zk_10_179 : zCpOk 10 179 (1, 10, 20, 0) := ⟨(RX10, TX10, 32), rfl, by decide +kernel, fun _ => List.mem_of_getElem? (i := 816) (by decide +kernel), fun h => absurd rfl h⟩
theorem zk_10_182 : zCpOk 10 182 (1, 10, 21, 0) := ⟨(RX10, TX10, 32), rfl, by decide +kernel, fun _ => List.mem_of_getElem? (i := 817) (by decide +kernel), fun h => absurd rfl h⟩
theorem zk_10_185 : zCpOk 10 185 (5, 141, 0, 0) := ⟨zmo_141, fun _ => List.mem_of_getElem? (i := 998) (by decide +kernel), fun h => absurd rfl h⟩
theorem zk_10_189 : zCpOk 10 189 (5, 146, 0, 0) := ⟨zmo_146, fun _ => List.mem_of_getElem? (i := 1013) (by decide +kernel), fun h => absurd rfl h⟩
theorem zk_10_193 : zCpOk 10 193 (5, 147, 0, 0) := ⟨zmo_147, fun _ => List.mem_of_getElem? (i := 989) (by decide +kernel), fun h => absurd rfl h⟩
theorem zk_10_196 : zCpOk 10 196 (5, 138, 0, 0) := ⟨zmo_138, fun _ => List.mem_of_getElem? (i := 993) (by decide +kernel), fun h => absurd rfl h⟩
theorem zk_10_200 : zCpOk 10 200 (5, 149, 0, 0) := ⟨zmo_149, fun _ => List.mem_of_getElem? (i := 994) (by decide +kernel), fun h => absurd rfl h⟩
theorem zk_10_203 : zCpOk 10 203 (3, 0, 0, 2) := List.mem_of_getElem? (i := 984) (by decide +kernel)
theorem zk_10_205 : zCpOk 10 205 (5, 150, 0, 0) := ⟨zmo_150, fun _ => List.mem_of_getElem? (i := 985) (by decide +kernel), fun h => absurd rfl h⟩
theorem zk_10_208 : zCpOk 10 208 (5, 148, 0, 0) := ⟨zmo_148, fun _ => List.mem_of_getElem? (i := 1033) (by decide +kernel), fun h => absurd rfl h⟩
theorem zk_10_211 : zCpOk 10 211 (5, 157, 0, 0) := ⟨zmo_157, fun _ => List.mem_of_getElem? (i := 1061) (by decide +kernel), fun h => absurd rfl h⟩
theorem zk_10_214 : zCpOk 10 214 (5, 161, 0, 0) := ⟨zmo_161, fun _ => List.mem_of_getElem? (i := 1082) (by decide +kernel), fun h => absurd rfl h⟩
theorem zk_10_217 : zCpOk 10 217 (3, 0, 0, 1023) := List.mem_of_getElem? (i := 1073) (by decide +kernel)
theorem zk_10_219 : zCpOk 10 219 (5, 160, 0, 0) := ⟨zmo_160, fun _ => List.mem_of_getElem? (i := 1074) (by decide +kernel), fun h => absurd rfl h⟩
theorem zk_10_222 : zCpOk 10 222 (5, 162, 0, 0) := ⟨zmo_162, fun _ => List.mem_of_getElem? (i := 1078) (by decide +kernel), fun h => absurd rfl h⟩
theorem zk_10_225 : zCpOk 10 225 (5, 164, 0, 0) := ⟨zmo_164, fun _ => List.mem_of_getElem? (i := 1089) (by decide +kernel), fun h => absurd rfl h⟩
theorem zk_10_228 : zCpOk 10 228 (3, 0, 0, 9999999) := List.mem_of_getElem? (i := 1097) (by decide +kernel)
theorem zk_10_230 : zCpOk 10 230 (5, 166, 0, 0) := ⟨zmo_166, fun _ => List.mem_of_getElem? (i := 1098) (by decide +kernel), fun h => absurd rfl h⟩
theorem zk_10_233 : zCpOk 10 233 (5, 167, 0, 0) := ⟨zmo_167, fun _ => List.mem_of_getElem? (i := 1102) (by decide +kernel), fun h => absurd rfl h⟩
theorem zk_10_236 : zCpOk 10 236 (5, 168, 0, 0) := ⟨zmo_168, fun _ => List.mem_of_getElem? (i := 1106) (by decide +kernel), fun h => absurd rfl h⟩
theorem zk_10_239 : zCpOk 10 239 (3, 0, 0, 60) := List.mem_of_getElem? (i := 1114) (by decide +kernel)
theorem zk_10_241 : zCpOk 10 241 (1, 10, 10, 0) := ⟨(RX10, TX10, 32), rfl, by decide +kernel, fun _ => List.mem_of_getElem? (i := 806) (by decide +kernel), fun h => absurd rfl h⟩
theorem zk_10_244 : zCpOk 10 244 (3, 0, 0, 8) := List.mem_of_getElem? (i := 1127) (by decide +kernel)
theorem zk_10_246 : zCpOk 10 246 (5, 172, 0, 0) := ⟨zmo_172, fun _ => List.mem_of_getElem? (i := 1128) (by decide +kernel), fun h => absurd rfl h⟩
theorem zk_10_249 : zCpOk 10 249 (5, 173, 0, 0) := ⟨zmo_173, fun _ => List.mem_of_getElem? (i := 1123) (by decide +kernel), fun h => absurd rfl h⟩
theorem zk_10_252 : zCpOk 10 252 (5, 174, 0, 0) := ⟨zmo_174, fun _ => List.mem_of_getElem? (i := 1135) (by decide +kernel), fun h => absurd rfl h⟩
theorem zk_10_255 : zCpOk 10 255 (5, 175, 0, 0) := ⟨zmo_175, fun _ => List.mem_of_getElem? (i := 1136) (by decide +kernel), fun h => absurd rfl h⟩
theorem zk_10_258 : zCpOk 10 258 (5, 177, 0, 0) := ⟨zmo_177, fun _ => List.mem_of_getElem? (i := 1149) (by decide +kernel), fun h => absurd rfl h⟩
theorem zk_10_261 : zCpOk 10 261 (3, 0, 0, 40) := List.mem_of_getElem? (i := 1144) (by decide +kernel)
theorem zk_10_263 : zCpOk 10 263 (5, 178, 0, 0) := ⟨zmo_178, fun _ => List.mem_of_getElem? (i := 1145) (by decide +kernel), fun h => absurd rfl h⟩
theorem zk_10_266 : zCpOk 10 266 (3, 0, 0, 12) := List.mem_of_getElem? (i := 1157) (by decide +kernel)
theorem zk_10_268 : zCpOk 10 268 (3, 0, 0, 10) := List.mem_of_getElem? (i := 1158) (by decide +kernel)
theorem zk_10_270 : zCpOk 10 270 (3, 0, 0, -1000000000000000002) := List.mem_of_getElem? (i := 1159) (by decide +kernel)
theorem zk_10_272 : zCpOk 10 272 (5, 180, 0, 0) := ⟨zmo_180, fun _ => List.mem_of_getElem? (i := 1160) (by decide +kernel), fun h => absurd rfl h⟩
theorem zk_10_276 : zCpOk 10 276 (3, 0, 0, 9999) := List.mem_of_getElem? (i := 1167) (by decide +kernel)
theorem zk_10_278 : zCpOk 10 278 (3, 0, 0, 99) := List.mem_of_getElem? (i := 1168) (by decide +kernel)
theorem zk_10_280 : zCpOk 10 280 (3, 0, 0, 75) := List.mem_of_getElem? (i := 1169) (by decide +kernel)
theorem zk_10_282 : zCpOk 10 282 (3, 0, 0, 74) := List.mem_of_getElem? (i := 1170) (by decide +kernel)
theorem zk_10_284 : zCpOk 10 284 (3, 0, 0, 65537) := List.mem_of_getElem? (i := 1171) (by decide +kernel)
theorem zk_10_286 : zCpOk 10 286 (5, 182, 0, 0) := ⟨zmo_182, fun _ => List.mem_of_getElem? (i := 1172) (by decide +kernel), fun h => absurd rfl h⟩
theorem zk_10_289 : zCpOk 10 289 (5, 184, 0, 0) := ⟨zmo_184, fun _ => List.mem_of_getElem? (i := 1176) (by decide +kernel), fun h => absurd rfl h⟩
theorem zk_10_292 : zCpOk 10 292 (5, 183, 0, 0) := ⟨zmo_183, fun _ => List.mem_of_getElem? (i := 1180) (by decide +kernel), fun h => absurd rfl h⟩
theorem zk_10_295 : zCpOk 10 295 (1, 10, 31, 0) := ⟨(RX10, TX10, 32), rfl, by decide +kernel, fun _ => List.mem_of_getElem? (i := 827) (by decide +kernel), fun h => absurd rfl h⟩
theorem zk_10_299 : zCpOk 10 299 (1, 10, 30, 0) := ⟨(RX10, TX10, 32), rfl, by decide +kernel, fun _ => List.mem_of_getElem? (i := 826) (by decide +kernel), fun h => absurd rfl h⟩
theorem zk_10_302 : zCpOk 10 302 (5, 186, 0, 0) := ⟨zmo_186, fun _ => List.mem_of_getElem? (i := 1192) (by decide +kernel), fun h => absurd rfl h⟩
theorem zk_10_305 : zCpOk 10 305 (5, 187, 0, 0) := ⟨zmo_187, fun _ => List.mem_of_getElem? (i := 1196) (by decide +kernel), fun h => absurd rfl h⟩
theorem zk_10_309 : zCpOk 10 309 (5, 188, 0, 0) := ⟨zmo_188, fun _ => List.mem_of_getElem? (i := 1188) (by decide +kernel), fun h => absurd rfl h⟩
theorem zk_10_312 : zCpOk 10 312 (3, 0, 0, 100) := List.mem_of_getElem? (i := 1208) (by decide +kernel)
theorem zk_10_314 : zCpOk 10 314 (3, 0, 0, 111) := List.mem_of_getElem? (i := 1209) (by decide +kernel)
theorem zk_10_316 : zCpOk 10 316 (3, 0, 0, 39) := List.mem_of_getElem? (i := 1210) (by decide +kernel)
theorem zk_10_318 : zCpOk 10 318 (5, 191, 0, 0) := ⟨zmo_191, fun _ => List.mem_of_getElem? (i := 1211) (by decide +kernel), fun h => absurd rfl h⟩
theorem zk_10_321 : zCpOk 10 321 (3, 0, 0, 59) := List.mem_of_getElem? (i := 1215) (by decide +kernel)
theorem zk_10_323 : zCpOk 10 323 (5, 192, 0, 0) := ⟨zmo_192, fun _ => List.mem_of_getElem? (i := 1216) (by decide +kernel), fun h => absurd rfl h⟩
theorem zk_10_326 : zCpOk 10 326 (5, 193, 0, 0) := ⟨zmo_193, fun _ => List.mem_of_getElem? (i := 1220) (by decide +kernel), fun h => absurd rfl h⟩
theorem zko_10 : ∀ q ∈ zc_10, zCpOk 10 q.1 q.2 := List.forall_mem_cons.mpr ⟨zk_10_1, List.forall_mem_cons.mpr ⟨zk_10_7, List.forall_mem_cons.mpr ⟨zk_10_13, List.forall_mem_cons.mpr ⟨zk_10_16, List.forall_mem_cons.mpr ⟨zk_10_19, List.forall_mem_cons.mpr ⟨zk_10_22, List.forall_mem_cons.mpr ⟨zk_10_25, List.forall_mem_cons.mpr ⟨zk_10_28, List.forall_mem_cons.mpr ⟨zk_10_31, List.forall_mem_cons.mpr ⟨zk_10_34, List.forall_mem_cons.mpr ⟨zk_10_37, List.forall_mem_cons.mpr ⟨zk_10_40, List.forall_mem_cons.mpr ⟨zk_10_43, List.forall_mem_cons.mpr ⟨zk_10_46, List.forall_mem_cons.mpr ⟨zk_10_49, List.forall_mem_cons.mpr ⟨zk_10_52, List.forall_mem_cons.mpr ⟨zk_10_55, List.forall_mem_cons.mpr ⟨zk_10_58, List.forall_mem_cons.mpr ⟨zk_10_61, List.forall_mem_cons.mpr ⟨zk_10_64, List.forall_mem_cons.mpr ⟨zk_10_67, List.forall_mem_cons.mpr ⟨zk_10_71, List.forall_mem_cons.mpr ⟨zk_10_74, List.forall_mem_cons.mpr ⟨zk_10_77, List.forall_mem_cons.mpr ⟨zk_10_79, List.forall_mem_cons.mpr ⟨zk_10_83, List.forall_mem_cons.mpr ⟨zk_10_85, List.forall_mem_cons.mpr ⟨zk_10_87, List.forall_mem_cons.mpr ⟨zk_10_91, List.forall_mem_cons.mpr ⟨zk_10_95, List.forall_mem_cons.mpr ⟨zk_10_99, List.forall_mem_cons.mpr ⟨zk_10_102, List.forall_mem_cons.mpr ⟨zk_10_105, List.forall_mem_cons.mpr ⟨zk_10_108, List.forall_mem_cons.mpr ⟨zk_10_111, List.forall_mem_cons.mpr ⟨zk_10_113, List.forall_mem_cons.mpr ⟨zk_10_115, List.forall_mem_cons.mpr ⟨zk_10_119, List.forall_mem_cons.mpr ⟨zk_10_122, List.forall_mem_cons.mpr ⟨zk_10_124, List.forall_mem_cons.mpr ⟨zk_10_126, List.forall_mem_cons.mpr ⟨zk_10_129, List.forall_mem_cons.mpr ⟨zk_10_133, List.forall_mem_cons.mpr ⟨zk_10_135, List.forall_mem_cons.mpr ⟨zk_10_137, List.forall_mem_cons.mpr ⟨zk_10_140, List.forall_mem_cons.mpr ⟨zk_10_143, List.forall_mem_cons.mpr ⟨zk_10_146, List.forall_mem_cons.mpr ⟨zk_10_149, List.forall_mem_cons.mpr ⟨zk_10_153, List.forall_mem_cons.mpr ⟨zk_10_156, List.forall_mem_cons.mpr ⟨zk_10_159, List.forall_mem_cons.mpr ⟨zk_10_162, List.forall_mem_cons.mpr ⟨zk_10_166, List.forall_mem_cons.mpr ⟨zk_10_170, List.forall_mem_cons.mpr ⟨zk_10_173, List.forall_mem_cons.mpr ⟨zk_10_176, List.forall_mem_cons.mpr ⟨zk_10_179, List.forall_mem_cons.mpr ⟨zk_10_182, List.forall_mem_cons.mpr ⟨zk_10_185, List.forall_mem_cons.mpr ⟨zk_10_189, List.forall_mem_cons.mpr ⟨zk_10_193, List.forall_mem_cons.mpr ⟨zk_10_196, List.forall_mem_cons.mpr ⟨zk_10_200, List.forall_mem_cons.mpr ⟨zk_10_203, List.forall_mem_cons.mpr ⟨zk_10_205, List.forall_mem_cons.mpr ⟨zk_10_208, List.forall_mem_cons.mpr ⟨zk_10_211, List.forall_mem_cons.mpr ⟨zk_10_214, List.forall_mem_cons.mpr ⟨zk_10_217, List.forall_mem_cons.mpr ⟨zk_10_219, List.forall_mem_cons.mpr ⟨zk_10_222, List.forall_mem_cons.mpr ⟨zk_10_225, List.forall_mem_cons.mpr ⟨zk_10_228, List.forall_mem_cons.mpr ⟨zk_10_230, List.forall_mem_cons.mpr ⟨zk_10_233, List.forall_mem_cons.mpr ⟨zk_10_236, List.forall_mem_cons.mpr ⟨zk_10_239, List.forall_mem_cons.mpr ⟨zk_10_241, List.forall_mem_cons.mpr ⟨zk_10_244, List.forall_mem_cons.mpr ⟨zk_10_246, List.forall_mem_cons.mpr ⟨zk_10_249, List.forall_mem_cons.mpr ⟨zk_10_252, List.forall_mem_cons.mpr ⟨zk_10_255, List.forall_mem_cons.mpr ⟨zk_10_258, List.forall_mem_cons.mpr ⟨zk_10_261, List.forall_mem_cons.mpr ⟨zk_10_263, List.forall_mem_cons.mpr ⟨zk_10_266, List.forall_mem_cons.mpr ⟨zk_10_268, List.forall_mem_cons.mpr ⟨zk_10_270, List.forall_mem_cons.mpr ⟨zk_10_272, List.forall_mem_cons.mpr ⟨zk_10_276, List.forall_mem_cons.mpr ⟨zk_10_278, List.forall_mem_cons.mpr ⟨zk_10_280, List.forall_mem_cons.mpr ⟨zk_10_282, List.forall_mem_cons.mpr ⟨zk_10_284, List.forall_mem_cons.mpr ⟨zk_10_286, List.forall_mem_cons.mpr ⟨zk_10_289, List.forall_mem_cons.mpr ⟨zk_10_292, List.forall_mem_cons.mpr ⟨zk_10_295, List.forall_mem_cons.mpr ⟨zk_10_299, List.forall_mem_cons.mpr ⟨zk_10_302, List.forall_mem_cons.mpr ⟨zk_10_305, List.forall_mem_cons.mpr ⟨zk_10_309, List.forall_mem_cons.mpr ⟨zk_10_312, List.forall_mem_cons.mpr ⟨zk_10_314, List.forall_mem_cons.mpr ⟨zk_10_316, List.forall_mem_cons.mpr ⟨zk_10_318, List.forall_mem_cons.mpr ⟨zk_10_321, List.forall_mem_cons.mpr ⟨zk_10_323, List.forall_mem_cons.mpr ⟨zk_10_326, fun _ h => absurd h List.not_mem_nil⟩⟩⟩⟩⟩⟩⟩⟩⟩⟩⟩⟩⟩⟩⟩⟩⟩⟩⟩⟩⟩⟩⟩⟩⟩⟩⟩⟩⟩⟩⟩⟩⟩⟩⟩⟩⟩⟩⟩⟩⟩⟩⟩⟩⟩⟩⟩⟩⟩⟩⟩⟩⟩⟩⟩⟩⟩⟩⟩⟩⟩⟩⟩⟩⟩⟩⟩⟩⟩⟩⟩⟩⟩⟩⟩⟩⟩⟩⟩⟩⟩⟩⟩⟩⟩⟩⟩⟩⟩⟩⟩⟩⟩⟩⟩⟩⟩⟩⟩⟩⟩⟩⟩⟩⟩⟩⟩⟩⟩⟩⟩
theorem zk_11_264 : zCpOk 11 264 (2, 0, 0, 65536) := List.mem_of_getElem? (i := 294) (by decide +kernel)
theorem zk_11_265 : zCpOk 11 265 (2, 0, 0, 1431655765) := List.mem_of_getElem? (i := 353) (by decide +kernel)
theorem zk_11_266 : zCpOk 11 266 (2, 0, 0, 858993459) := List.mem_of_getElem? (i := 354) (by decide +kernel)
theorem zk_11_267 : zCpOk 11 267 (2, 0, 0, 252645135) := List.mem_of_getElem? (i := 355) (by decide +kernel)
theorem zko_11 : ∀ q ∈ zc_11, zCpOk 11 q.1 q.2 := List.forall_mem_cons.mpr ⟨zk_11_264, List.forall_mem_cons.mpr ⟨zk_11_265, List.forall_mem_cons.mpr ⟨zk_11_266, List.forall_mem_cons.mpr ⟨zk_11_267, fun _ h => absurd h List.not_mem_nil⟩⟩⟩⟩
theorem zk_12_311 : zCpOk 12 311 (5, 195, 0, 0) := ⟨zmo_195, fun _ => List.mem_of_getElem? (i := 291) (by decide +kernel), fun h => absurd rfl h⟩
theorem zko_12 : ∀ q ∈ zc_12, zCpOk 12 q.1 q.2 := List.forall_mem_cons.mpr ⟨zk_12_311, fun _ h => absurd h List.not_mem_nil⟩
theorem zko_13 : ∀ q ∈ zc_13, zCpOk 13 q.1 q.2 := fun _ h => absurd h List.not_mem_nil
theorem zk_14_7 : zCpOk 14 7 (4, 9, 0, 0) := ⟨(RX9, TX9, 11), rfl, List.mem_of_getElem? (i := 75) (by decide +kernel), List.mem_of_getElem? (i := 76) (by decide +kernel), List.mem_of_getElem? (i := 58) (by decide +kernel)⟩
theorem zk_14_9 : zCpOk 14 9 (5, 78, 0, 0) := ⟨zmo_78, fun _ => List.mem_of_getElem? (i := 77) (by decide +kernel), fun h => absurd rfl h⟩
theorem zk_14_10 : zCpOk 14 10 (4, 10, 0, 0) := ⟨(RX10, TX10, 32), rfl, List.mem_of_getElem? (i := 790) (by decide +kernel), List.mem_of_getElem? (i := 791) (by decide +kernel), List.mem_of_getElem? (i := 72) (by decide +kernel)⟩
theorem zk_14_12 : zCpOk 14 12 (5, 116, 0, 0) := ⟨zmo_116, fun _ => List.mem_of_getElem? (i := 792) (by decide +kernel), fun h => absurd rfl h⟩
theorem zk_14_13 : zCpOk 14 13 (5, 79, 0, 0) := ⟨zmo_79, fun _ => List.mem_of_getElem? (i := 334) (by decide +kernel), fun h => absurd rfl h⟩
theorem zk_14_17 : zCpOk 14 17 (5, 124, 0, 0) := ⟨zmo_124, fun _ => List.mem_of_getElem? (i := 894) (by decide +kernel), fun h => absurd rfl h⟩
theorem zk_14_18 : zCpOk 14 18 (5, 80, 0, 0) := ⟨zmo_80, fun _ => List.mem_of_getElem? (i := 356) (by decide +kernel), fun h => absurd rfl h⟩
theorem zk_14_22 : zCpOk 14 22 (5, 125, 0, 0) := ⟨zmo_125, fun _ => List.mem_of_getElem? (i := 911) (by decide +kernel), fun h => absurd rfl h⟩
theorem zk_14_23 : zCpOk 14 23 (5, 81, 0, 0) := ⟨zmo_81, fun _ => List.mem_of_getElem? (i := 369) (by decide +kernel), fun h => absurd rfl h⟩
theorem zk_14_26 : zCpOk 14 26 (5, 128, 0, 0) := ⟨zmo_128, fun _ => List.mem_of_getElem? (i := 919) (by decide +kernel), fun h => absurd rfl h⟩
theorem zk_14_27 : zCpOk 14 27 (5, 82, 0, 0) := ⟨zmo_82, fun _ => List.mem_of_getElem? (i := 396) (by decide +kernel), fun h => absurd rfl h⟩
theorem zk_14_31 : zCpOk 14 31 (5, 129, 0, 0) := ⟨zmo_129, fun _ => List.mem_of_getElem? (i := 935) (by decide +kernel), fun h => absurd rfl h⟩
theorem zk_14_32 : zCpOk 14 32 (5, 83, 0, 0) := ⟨zmo_83, fun _ => List.mem_of_getElem? (i := 408) (by decide +kernel), fun h => absurd rfl h⟩
theorem zk_14_36 : zCpOk 14 36 (5, 130, 0, 0) := ⟨zmo_130, fun _ => List.mem_of_getElem? (i := 939) (by decide +kernel), fun h => absurd rfl h⟩
theorem zk_14_37 : zCpOk 14 37 (5, 84, 0, 0) := ⟨zmo_84, fun _ => List.mem_of_getElem? (i := 412) (by decide +kernel), fun h => absurd rfl h⟩
theorem zk_14_40 : zCpOk 14 40 (5, 131, 0, 0) := ⟨zmo_131, fun _ => List.mem_of_getElem? (i := 943) (by decide +kernel), fun h => absurd rfl h⟩
theorem zk_14_41 : zCpOk 14 41 (5, 85, 0, 0) := ⟨zmo_85, fun _ => List.mem_of_getElem? (i := 421) (by decide +kernel), fun h => absurd rfl h⟩
theorem zk_14_45 : zCpOk 14 45 (5, 132, 0, 0) := ⟨zmo_132, fun _ => List.mem_of_getElem? (i := 949) (by decide +kernel), fun h => absurd rfl h⟩
theorem zk_14_46 : zCpOk 14 46 (5, 86, 0, 0) := ⟨zmo_86, fun _ => List.mem_of_getElem? (i := 429) (by decide +kernel), fun h => absurd rfl h⟩
theorem zk_14_49 : zCpOk 14 49 (5, 138, 0, 0) := ⟨zmo_138, fun _ => List.mem_of_getElem? (i := 953) (by decide +kernel), fun h => absurd rfl h⟩
theorem zk_14_50 : zCpOk 14 50 (5, 87, 0, 0) := ⟨zmo_87, fun _ => List.mem_of_getElem? (i := 449) (by decide +kernel), fun h => absurd rfl h⟩
theorem zk_14_53 : zCpOk 14 53 (5, 151, 0, 0) := ⟨zmo_151, fun _ => List.mem_of_getElem? (i := 980) (by decide +kernel), fun h => absurd rfl h⟩
theorem zk_14_54 : zCpOk 14 54 (5, 88, 0, 0) := ⟨zmo_88, fun _ => List.mem_of_getElem? (i := 539) (by decide +kernel), fun h => absurd rfl h⟩
theorem zk_14_57 : zCpOk 14 57 (5, 152, 0, 0) := ⟨zmo_152, fun _ => List.mem_of_getElem? (i := 1037) (by decide +kernel), fun h => absurd rfl h⟩
theorem zk_14_58 : zCpOk 14 58 (5, 89, 0, 0) := ⟨zmo_89, fun _ => List.mem_of_getElem? (i := 543) (by decide +kernel), fun h => absurd rfl h⟩
theorem zk_14_61 : zCpOk 14 61 (5, 153, 0, 0) := ⟨zmo_153, fun _ => List.mem_of_getElem? (i := 1041) (by decide +kernel), fun h => absurd rfl h⟩
theorem zk_14_62 : zCpOk 14 62 (5, 90, 0, 0) := ⟨zmo_90, fun _ => List.mem_of_getElem? (i := 552) (by decide +kernel), fun h => absurd rfl h⟩
theorem zk_14_65 : zCpOk 14 65 (5, 154, 0, 0) := ⟨zmo_154, fun _ => List.mem_of_getElem? (i := 1045) (by decide +kernel), fun h => absurd rfl h⟩
theorem zk_14_66 : zCpOk 14 66 (5, 91, 0, 0) := ⟨zmo_91, fun _ => List.mem_of_getElem? (i := 557) (by decide +kernel), fun h => absurd rfl h⟩
theorem zk_14_69 : zCpOk 14 69 (5, 155, 0, 0) := ⟨zmo_155, fun _ => List.mem_of_getElem? (i := 1049) (by decide +kernel), fun h => absurd rfl h⟩
theorem zk_14_70 : zCpOk 14 70 (5, 92, 0, 0) := ⟨zmo_92, fun _ => List.mem_of_getElem? (i := 565) (by decide +kernel), fun h => absurd rfl h⟩
theorem zk_14_73 : zCpOk 14 73 (5, 156, 0, 0) := ⟨zmo_156, fun _ => List.mem_of_getElem? (i := 1053) (by decide +kernel), fun h => absurd rfl h⟩
theorem zk_14_74 : zCpOk 14 74 (5, 93, 0, 0) := ⟨zmo_93, fun _ => List.mem_of_getElem? (i := 570) (by decide +kernel), fun h => absurd rfl h⟩
theorem zk_14_77 : zCpOk 14 77 (5, 158, 0, 0) := ⟨zmo_158, fun _ => List.mem_of_getElem? (i := 1057) (by decide +kernel), fun h => absurd rfl h⟩
theorem zk_14_78 : zCpOk 14 78 (5, 94, 0, 0) := ⟨zmo_94, fun _ => List.mem_of_getElem? (i := 582) (by decide +kernel), fun h => absurd rfl h⟩
theorem zk_14_81 : zCpOk 14 81 (5, 159, 0, 0) := ⟨zmo_159, fun _ => List.mem_of_getElem? (i := 1065) (by decide +kernel), fun h => absurd rfl h⟩
theorem zk_14_82 : zCpOk 14 82 (5, 95, 0, 0) := ⟨zmo_95, fun _ => List.mem_of_getElem? (i := 587) (by decide +kernel), fun h => absurd rfl h⟩
theorem zk_14_85 : zCpOk 14 85 (5, 163, 0, 0) := ⟨zmo_163, fun _ => List.mem_of_getElem? (i := 1069) (by decide +kernel), fun h => absurd rfl h⟩
theorem zk_14_86 : zCpOk 14 86 (5, 96, 0, 0) := ⟨zmo_96, fun _ => List.mem_of_getElem? (i := 619) (by decide +kernel), fun h => absurd rfl h⟩
theorem zk_14_89 : zCpOk 14 89 (5, 165, 0, 0) := ⟨zmo_165, fun _ => List.mem_of_getElem? (i := 1085) (by decide +kernel), fun h => absurd rfl h⟩
theorem zk_14_90 : zCpOk 14 90 (5, 97, 0, 0) := ⟨zmo_97, fun _ => List.mem_of_getElem? (i := 654) (by decide +kernel), fun h => absurd rfl h⟩
theorem zk_14_93 : zCpOk 14 93 (5, 169, 0, 0) := ⟨zmo_169, fun _ => List.mem_of_getElem? (i := 1093) (by decide +kernel), fun h => absurd rfl h⟩
theorem zk_14_94 : zCpOk 14 94 (5, 98, 0, 0) := ⟨zmo_98, fun _ => List.mem_of_getElem? (i := 678) (by decide +kernel), fun h => absurd rfl h⟩
theorem zk_14_97 : zCpOk 14 97 (5, 170, 0, 0) := ⟨zmo_170, fun _ => List.mem_of_getElem? (i := 1110) (by decide +kernel), fun h => absurd rfl h⟩
theorem zk_14_98 : zCpOk 14 98 (5, 99, 0, 0) := ⟨zmo_99, fun _ => List.mem_of_getElem? (i := 686) (by decide +kernel), fun h => absurd rfl h⟩
theorem zk_14_101 : zCpOk 14 101 (5, 171, 0, 0) := ⟨zmo_171, fun _ => List.mem_of_getElem? (i := 1115) (by decide +kernel), fun h => absurd rfl h⟩
theorem zk_14_102 : zCpOk 14 102 (5, 100, 0, 0) := ⟨zmo_100, fun _ => List.mem_of_getElem? (i := 694) (by decide +kernel), fun h => absurd rfl h⟩
theorem zk_14_105 : zCpOk 14 105 (5, 174, 0, 0) := ⟨zmo_174, fun _ => List.mem_of_getElem? (i := 1119) (by decide +kernel), fun h => absurd rfl h⟩
theorem zk_14_106 : zCpOk 14 106 (5, 101, 0, 0) := ⟨zmo_101, fun _ => List.mem_of_getElem? (i := 710) (by decide +kernel), fun h => absurd rfl h⟩
theorem zk_14_109 : zCpOk 14 109 (5, 176, 0, 0) := ⟨zmo_176, fun _ => List.mem_of_getElem? (i := 1131) (by decide +kernel), fun h => absurd rfl h⟩
theorem zk_14_110 : zCpOk 14 110 (5, 102, 0, 0) := ⟨zmo_102, fun _ => List.mem_of_getElem? (i := 726) (by decide +kernel), fun h => absurd rfl h⟩
theorem zk_14_113 : zCpOk 14 113 (5, 179, 0, 0) := ⟨zmo_179, fun _ => List.mem_of_getElem? (i := 1140) (by decide +kernel), fun h => absurd rfl h⟩
theorem zk_14_114 : zCpOk 14 114 (5, 103, 0, 0) := ⟨zmo_103, fun _ => List.mem_of_getElem? (i := 734) (by decide +kernel), fun h => absurd rfl h⟩
theorem zk_14_118 : zCpOk 14 118 (5, 181, 0, 0) := ⟨zmo_181, fun _ => List.mem_of_getElem? (i := 1153) (by decide +kernel), fun h => absurd rfl h⟩
theorem zk_14_119 : zCpOk 14 119 (5, 104, 0, 0) := ⟨zmo_104, fun _ => List.mem_of_getElem? (i := 748) (by decide +kernel), fun h => absurd rfl h⟩
theorem zk_14_122 : zCpOk 14 122 (5, 185, 0, 0) := ⟨zmo_185, fun _ => List.mem_of_getElem? (i := 1163) (by decide +kernel), fun h => absurd rfl h⟩
theorem zk_14_123 : zCpOk 14 123 (5, 105, 0, 0) := ⟨zmo_105, fun _ => List.mem_of_getElem? (i := 772) (by decide +kernel), fun h => absurd rfl h⟩
theorem zk_14_126 : zCpOk 14 126 (5, 189, 0, 0) := ⟨zmo_189, fun _ => List.mem_of_getElem? (i := 1184) (by decide +kernel), fun h => absurd rfl h⟩
theorem zk_14_127 : zCpOk 14 127 (5, 106, 0, 0) := ⟨zmo_106, fun _ => List.mem_of_getElem? (i := 776) (by decide +kernel), fun h => absurd rfl h⟩
theorem zk_14_130 : zCpOk 14 130 (5, 190, 0, 0) := ⟨zmo_190, fun _ => List.mem_of_getElem? (i := 1200) (by decide +kernel), fun h => absurd rfl h⟩
theorem zk_14_131 : zCpOk 14 131 (5, 107, 0, 0) := ⟨zmo_107, fun _ => List.mem_of_getElem? (i := 781) (by decide +kernel), fun h => absurd rfl h⟩
theorem zk_14_134 : zCpOk 14 134 (5, 194, 0, 0) := ⟨zmo_194, fun _ => List.mem_of_getElem? (i := 1204) (by decide +kernel), fun h => absurd rfl h⟩
theorem zko_14 : ∀ q ∈ zc_14, zCpOk 14 q.1 q.2 := List.forall_mem_cons.mpr ⟨zk_14_7, List.forall_mem_cons.mpr ⟨zk_14_9, List.forall_mem_cons.mpr ⟨zk_14_10, List.forall_mem_cons.mpr ⟨zk_14_12, List.forall_mem_cons.mpr ⟨zk_14_13, List.forall_mem_cons.mpr ⟨zk_14_17, List.forall_mem_cons.mpr ⟨zk_14_18, List.forall_mem_cons.mpr ⟨zk_14_22, List.forall_mem_cons.mpr ⟨zk_14_23, List.forall_mem_cons.mpr ⟨zk_14_26, List.forall_mem_cons.mpr ⟨zk_14_27, List.forall_mem_cons.mpr ⟨zk_14_31, List.forall_mem_cons.mpr ⟨zk_14_32, List.forall_mem_cons.mpr ⟨zk_14_36, List.forall_mem_cons.mpr ⟨zk_14_37, List.forall_mem_cons.mpr ⟨zk_14_40, List.forall_mem_cons.mpr ⟨zk_14_41, List.forall_mem_cons.mpr ⟨zk_14_45, List.forall_mem_cons.mpr ⟨zk_14_46, List.forall_mem_cons.mpr ⟨zk_14_49, List.forall_mem_cons.mpr ⟨zk_14_50, List.forall_mem_cons.mpr ⟨zk_14_53, List.forall_mem_cons.mpr ⟨zk_14_54, List.forall_mem_cons.mpr ⟨zk_14_57, List.forall_mem_cons.mpr ⟨zk_14_58, List.forall_mem_cons.mpr ⟨zk_14_61, List.forall_mem_cons.mpr ⟨zk_14_62, List.forall_mem_cons.mpr ⟨zk_14_65, List.forall_mem_cons.mpr ⟨zk_14_66, List.forall_mem_cons.mpr ⟨zk_14_69, List.forall_mem_cons.mpr ⟨zk_14_70, List.forall_mem_cons.mpr ⟨zk_14_73, List.forall_mem_cons.mpr ⟨zk_14_74, List.forall_mem_cons.mpr ⟨zk_14_77, List.forall_mem_cons.mpr ⟨zk_14_78, List.forall_mem_cons.mpr ⟨zk_14_81, List.forall_mem_cons.mpr ⟨zk_14_82, List.forall_mem_cons.mpr ⟨zk_14_85, List.forall_mem_cons.mpr ⟨zk_14_86, List.forall_mem_cons.mpr ⟨zk_14_89, List.forall_mem_cons.mpr ⟨zk_14_90, List.forall_mem_cons.mpr ⟨zk_14_93, List.forall_mem_cons.mpr ⟨zk_14_94, List.forall_mem_cons.mpr ⟨zk_14_97, List.forall_mem_cons.mpr ⟨zk_14_98, List.forall_mem_cons.mpr ⟨zk_14_101, List.forall_mem_cons.mpr ⟨zk_14_102, List.forall_mem_cons.mpr ⟨zk_14_105, List.forall_mem_cons.mpr ⟨zk_14_106, List.forall_mem_cons.mpr ⟨zk_14_109, List.forall_mem_cons.mpr ⟨zk_14_110, List.forall_mem_cons.mpr ⟨zk_14_113, List.forall_mem_cons.mpr ⟨zk_14_114, List.forall_mem_cons.mpr ⟨zk_14_118, List.forall_mem_cons.mpr ⟨zk_14_119, List.forall_mem_cons.mpr ⟨zk_14_122, List.forall_mem_cons.mpr ⟨zk_14_123, List.forall_mem_cons.mpr ⟨zk_14_126, List.forall_mem_cons.mpr ⟨zk_14_127, List.forall_mem_cons.mpr ⟨zk_14_130, List.forall_mem_cons.mpr ⟨zk_14_131, List.forall_mem_cons.mpr ⟨zk_14_134, fun _ h => absurd h List.not_mem_nil⟩⟩⟩⟩⟩⟩⟩⟩⟩⟩⟩⟩⟩⟩⟩⟩⟩⟩⟩⟩⟩⟩⟩⟩⟩⟩⟩⟩⟩⟩⟩⟩⟩⟩⟩⟩⟩⟩⟩⟩⟩⟩⟩⟩⟩⟩⟩⟩⟩⟩⟩⟩⟩⟩⟩⟩⟩⟩⟩⟩⟩⟩
theorem zu_0 : ∀ w ∈ u_ws RX0 TX0 6, w ∈ lw_tbl := by
  have h : u_ws RX0 TX0 6 = [u_lay RX0 TX0 0, u_lay RX0 TX0 1, u_lay RX0 TX0 2, u_lay RX0 TX0 3, u_lay RX0 TX0 4, u_lay RX0 TX0 5] := by decide +kernel
  rw [h]
  exact List.forall_mem_cons.mpr ⟨List.mem_of_getElem? (i := 181) (by decide +kernel), List.forall_mem_cons.mpr ⟨List.mem_of_getElem? (i := 183) (by decide +kernel), List.forall_mem_cons.mpr ⟨List.mem_of_getElem? (i := 185) (by decide +kernel), List.forall_mem_cons.mpr ⟨List.mem_of_getElem? (i := 187) (by decide +kernel), List.forall_mem_cons.mpr ⟨List.mem_of_getElem? (i := 189) (by decide +kernel), List.forall_mem_cons.mpr ⟨List.mem_of_getElem? (i := 191) (by decide +kernel), fun _ h => absurd h List.not_mem_nil⟩⟩⟩⟩⟩⟩
theorem zu_1 : ∀ w ∈ u_ws RX1 TX1 8, w ∈ lw_tbl := by
  have h : u_ws RX1 TX1 8 = [u_lay RX1 TX1 0, u_lay RX1 TX1 1, u_lay RX1 TX1 2, u_lay RX1 TX1 3, u_lay RX1 TX1 4, u_lay RX1 TX1 5, u_lay RX1 TX1 6, u_lay RX1 TX1 7] := by decide +kernel
  rw [h]
  exact List.forall_mem_cons.mpr ⟨List.mem_of_getElem? (i := 124) (by decide +kernel), List.forall_mem_cons.mpr ⟨List.mem_of_getElem? (i := 126) (by decide +kernel), List.forall_mem_cons.mpr ⟨List.mem_of_getElem? (i := 128) (by decide +kernel), List.forall_mem_cons.mpr ⟨List.mem_of_getElem? (i := 130) (by decide +kernel), List.forall_mem_cons.mpr ⟨List.mem_of_getElem? (i := 132) (by decide +kernel), List.forall_mem_cons.mpr ⟨List.mem_of_getElem? (i := 134) (by decide +kernel), List.forall_mem_cons.mpr ⟨List.mem_of_getElem? (i := 136) (by decide +kernel), List.forall_mem_cons.mpr ⟨List.mem_of_getElem? (i := 138) (by decide +kernel), fun _ h => absurd h List.not_mem_nil⟩⟩⟩⟩⟩⟩⟩⟩
theorem zu_2 : ∀ w ∈ u_ws RX2 TX2 1, w ∈ lw_tbl := by
  have h : u_ws RX2 TX2 1 = [u_lay RX2 TX2 0] := by decide +kernel
  rw [h]
  exact List.forall_mem_cons.mpr ⟨List.mem_of_getElem? (i := 239) (by decide +kernel), fun _ h => absurd h List.not_mem_nil⟩
theorem zu_3 : ∀ w ∈ u_ws RX3 TX3 2, w ∈ lw_tbl := by
  have h : u_ws RX3 TX3 2 = [u_lay RX3 TX3 0, u_lay RX3 TX3 1] := by decide +kernel
  rw [h]
  exact List.forall_mem_cons.mpr ⟨List.mem_of_getElem? (i := 154) (by decide +kernel), List.forall_mem_cons.mpr ⟨List.mem_of_getElem? (i := 156) (by decide +kernel), fun _ h => absurd h List.not_mem_nil⟩⟩
theorem zu_4 : ∀ w ∈ u_ws RX4 TX4 4, w ∈ lw_tbl := by
  have h : u_ws RX4 TX4 4 = [u_lay RX4 TX4 0, u_lay RX4 TX4 1, u_lay RX4 TX4 2, u_lay RX4 TX4 3] := by decide +kernel
  rw [h]
  exact List.forall_mem_cons.mpr ⟨List.mem_of_getElem? (i := 206) (by decide +kernel), List.forall_mem_cons.mpr ⟨List.mem_of_getElem? (i := 208) (by decide +kernel), List.forall_mem_cons.mpr ⟨List.mem_of_getElem? (i := 210) (by decide +kernel), List.forall_mem_cons.mpr ⟨List.mem_of_getElem? (i := 212) (by decide +kernel), fun _ h => absurd h List.not_mem_nil⟩⟩⟩⟩
theorem zu_5 : ∀ w ∈ u_ws RX5 TX5 1, w ∈ lw_tbl := by
  have h : u_ws RX5 TX5 1 = [u_lay RX5 TX5 0] := by decide +kernel
  rw [h]
  exact List.forall_mem_cons.mpr ⟨List.mem_of_getElem? (i := 99) (by decide +kernel), fun _ h => absurd h List.not_mem_nil⟩
theorem zu_6 : ∀ w ∈ u_ws RX6 TX6 5, w ∈ lw_tbl := by
  have h : u_ws RX6 TX6 5 = [u_lay RX6 TX6 0, u_lay RX6 TX6 1, u_lay RX6 TX6 2, u_lay RX6 TX6 3, u_lay RX6 TX6 4] := by decide +kernel
  rw [h]
  exact List.forall_mem_cons.mpr ⟨List.mem_of_getElem? (i := 259) (by decide +kernel), List.forall_mem_cons.mpr ⟨List.mem_of_getElem? (i := 261) (by decide +kernel), List.forall_mem_cons.mpr ⟨List.mem_of_getElem? (i := 263) (by decide +kernel), List.forall_mem_cons.mpr ⟨List.mem_of_getElem? (i := 265) (by decide +kernel), List.forall_mem_cons.mpr ⟨List.mem_of_getElem? (i := 267) (by decide +kernel), fun _ h => absurd h List.not_mem_nil⟩⟩⟩⟩⟩
theorem zu_7 : ∀ w ∈ u_ws RX7 TX7 1, w ∈ lw_tbl := by
  have h : u_ws RX7 TX7 1 = [u_lay RX7 TX7 0] := by decide +kernel
  rw [h]
  exact List.forall_mem_cons.mpr ⟨List.mem_of_getElem? (i := 297) (by decide +kernel), fun _ h => absurd h List.not_mem_nil⟩
theorem zu_8 : ∀ w ∈ u_ws RX8 TX8 2, w ∈ lw_tbl := by
  have h : u_ws RX8 TX8 2 = [u_lay RX8 TX8 0, u_lay RX8 TX8 1] := by decide +kernel
  rw [h]
  exact List.forall_mem_cons.mpr ⟨List.mem_of_getElem? (i := 225) (by decide +kernel), List.forall_mem_cons.mpr ⟨List.mem_of_getElem? (i := 227) (by decide +kernel), fun _ h => absurd h List.not_mem_nil⟩⟩
theorem zu_9 : ∀ w ∈ u_ws RX9 TX9 11, w ∈ lw_tbl := by
  have h : u_ws RX9 TX9 11 = [u_lay RX9 TX9 0, u_lay RX9 TX9 1, u_lay RX9 TX9 2, u_lay RX9 TX9 3, u_lay RX9 TX9 4, u_lay RX9 TX9 5, u_lay RX9 TX9 6, u_lay RX9 TX9 7, u_lay RX9 TX9 8, u_lay RX9 TX9 9, u_lay RX9 TX9 10] := by decide +kernel
  rw [h]
  exact List.forall_mem_cons.mpr ⟨List.mem_of_getElem? (i := 311) (by decide +kernel), List.forall_mem_cons.mpr ⟨List.mem_of_getElem? (i := 313) (by decide +kernel), List.forall_mem_cons.mpr ⟨List.mem_of_getElem? (i := 315) (by decide +kernel), List.forall_mem_cons.mpr ⟨List.mem_of_getElem? (i := 317) (by decide +kernel), List.forall_mem_cons.mpr ⟨List.mem_of_getElem? (i := 319) (by decide +kernel), List.forall_mem_cons.mpr ⟨List.mem_of_getElem? (i := 321) (by decide +kernel), List.forall_mem_cons.mpr ⟨List.mem_of_getElem? (i := 323) (by decide +kernel), List.forall_mem_cons.mpr ⟨List.mem_of_getElem? (i := 325) (by decide +kernel), List.forall_mem_cons.mpr ⟨List.mem_of_getElem? (i := 327) (by decide +kernel), List.forall_mem_cons.mpr ⟨List.mem_of_getElem? (i := 329) (by decide +kernel), List.forall_mem_cons.mpr ⟨List.mem_of_getElem? (i := 331) (by decide +kernel), fun _ h => absurd h List.not_mem_nil⟩⟩⟩⟩⟩⟩⟩⟩⟩⟩⟩
theorem zu_10 : ∀ w ∈ u_ws RX10 TX10 32, w ∈ lw_tbl := by
  have h : u_ws RX10 TX10 32 = [u_lay RX10 TX10 0, u_lay RX10 TX10 1, u_lay RX10 TX10 2, u_lay RX10 TX10 3, u_lay RX10 TX10 4, u_lay RX10 TX10 5, u_lay RX10 TX10 6, u_lay RX10 TX10 7, u_lay RX10 TX10 8, u_lay RX10 TX10 9, u_lay RX10 TX10 10, u_lay RX10 TX10 11, u_lay RX10 TX10 12, u_lay RX10 TX10 13, u_lay RX10 TX10 14, u_lay RX10 TX10 15, u_lay RX10 TX10 16, u_lay RX10 TX10 17, u_lay RX10 TX10 18, u_lay RX10 TX10 19, u_lay RX10 TX10 20, u_lay RX10 TX10 21, u_lay RX10 TX10 22, u_lay RX10 TX10 23, u_lay RX10 TX10 24, u_lay RX10 TX10 25, u_lay RX10 TX10 26, u_lay RX10 TX10 27, u_lay RX10 TX10 28, u_lay RX10 TX10 29, u_lay RX10 TX10 30, u_lay RX10 TX10 31] := by decide +kernel
  rw [h]
  exact List.forall_mem_cons.mpr ⟨List.mem_of_getElem? (i := 828) (by decide +kernel), List.forall_mem_cons.mpr ⟨List.mem_of_getElem? (i := 830) (by decide +kernel), List.forall_mem_cons.mpr ⟨List.mem_of_getElem? (i := 832) (by decide +kernel), List.forall_mem_cons.mpr ⟨List.mem_of_getElem? (i := 834) (by decide +kernel), List.forall_mem_cons.mpr ⟨List.mem_of_getElem? (i := 836) (by decide +kernel), List.forall_mem_cons.mpr ⟨List.mem_of_getElem? (i := 838) (by decide +kernel), List.forall_mem_cons.mpr ⟨List.mem_of_getElem? (i := 840) (by decide +kernel), List.forall_mem_cons.mpr ⟨List.mem_of_getElem? (i := 842) (by decide +kernel), List.forall_mem_cons.mpr ⟨List.mem_of_getElem? (i := 844) (by decide +kernel), List.forall_mem_cons.mpr ⟨List.mem_of_getElem? (i := 846) (by decide +kernel), List.forall_mem_cons.mpr ⟨List.mem_of_getElem? (i := 848) (by decide +kernel), List.forall_mem_cons.mpr ⟨List.mem_of_getElem? (i := 850) (by decide +kernel), List.forall_mem_cons.mpr ⟨List.mem_of_getElem? (i := 852) (by decide +kernel), List.forall_mem_cons.mpr ⟨List.mem_of_getElem? (i := 854) (by decide +kernel), List.forall_mem_cons.mpr ⟨List.mem_of_getElem? (i := 856) (by decide +kernel), List.forall_mem_cons.mpr ⟨List.mem_of_getElem? (i := 858) (by decide +kernel), List.forall_mem_cons.mpr ⟨List.mem_of_getElem? (i := 860) (by decide +kernel), List.forall_mem_cons.mpr ⟨List.mem_of_getElem? (i := 862) (by decide +kernel), List.forall_mem_cons.mpr ⟨List.mem_of_getElem? (i := 864) (by decide +kernel), List.forall_mem_cons.mpr ⟨List.mem_of_getElem? (i := 866) (by decide +kernel), List.forall_mem_cons.mpr ⟨List.mem_of_getElem? (i := 868) (by decide +kernel), List.forall_mem_cons.mpr ⟨List.mem_of_getElem? (i := 870) (by decide +kernel), List.forall_mem_cons.mpr ⟨List.mem_of_getElem? (i := 872) (by decide +kernel), List.forall_mem_cons.mpr ⟨List.mem_of_getElem? (i := 874) (by decide +kernel), List.forall_mem_cons.mpr ⟨List.mem_of_getElem? (i := 876) (by decide +kernel), List.forall_mem_cons.mpr ⟨List.mem_of_getElem? (i := 878) (by decide +kernel), List.forall_mem_cons.mpr ⟨List.mem_of_getElem? (i := 880) (by decide +kernel), List.forall_mem_cons.mpr ⟨List.mem_of_getElem? (i := 882) (by decide +kernel), List.forall_mem_cons.mpr ⟨List.mem_of_getElem? (i := 884) (by decide +kernel), List.forall_mem_cons.mpr ⟨List.mem_of_getElem? (i := 886) (by decide +kernel), List.forall_mem_cons.mpr ⟨List.mem_of_getElem? (i := 888) (by decide +kernel), List.forall_mem_cons.mpr ⟨List.mem_of_getElem? (i := 890) (by decide +kernel), fun _ h => absurd h List.not_mem_nil⟩⟩⟩⟩⟩⟩⟩⟩⟩⟩⟩⟩⟩⟩⟩⟩⟩⟩⟩⟩⟩⟩⟩⟩⟩⟩⟩⟩⟩⟩⟩⟩
theorem zarr_i : Jvm.Cond.arrayClass .int ∈ lw_tbl := List.mem_of_getElem? (i := 102) (by decide +kernel)
theorem zarr_z : Jvm.Cond.arrayClass .boolean ∈ lw_tbl := List.mem_of_getElem? (i := 893) (by decide +kernel)
theorem zobj_i : Jvm.Cond.instanceMethod objectInit ∈ lw_tbl := List.mem_of_getElem? (i := 81) (by decide +kernel)
theorem zobj_c : Jvm.Cond.code objectInit ⟨#[0xb1]⟩ 1 none ∈ lw_tbl := List.mem_of_getElem? (i := 82) (by decide +kernel)
theorem zac_n : Jvm.Cond.native arraycopyName ∈ lw_tbl := List.mem_of_getElem? (i := 472) (by decide +kernel)
theorem zac_s : Jvm.Cond.static arraycopyName ∈ lw_tbl := List.mem_of_getElem? (i := 471) (by decide +kernel)
theorem zac_i : Jvm.Cond.initialized "java/lang/System" ∈ lw_tbl := List.mem_of_getElem? (i := 73) (by decide +kernel)
theorem zmt_as : Jvm.Cond.static Lib.Math.max.name ∈ lw_tbl := List.mem_of_getElem? (i := 96) (by decide +kernel)
theorem zmt_ac : Jvm.Cond.code Lib.Math.max.name Lib.Math.max.code 2 (some .int) ∈ lw_tbl := List.mem_of_getElem? (i := 97) (by decide +kernel)
theorem zmt_bs : Jvm.Cond.static Lib.Math.min.name ∈ lw_tbl := List.mem_of_getElem? (i := 617) (by decide +kernel)
theorem zmt_bc : Jvm.Cond.code Lib.Math.min.name Lib.Math.min.code 2 (some .int) ∈ lw_tbl := List.mem_of_getElem? (i := 618) (by decide +kernel)
theorem zmt_cs : Jvm.Cond.static Lib.MathLoose.max_long.x ∈ lw_tbl := List.mem_of_getElem? (i := 746) (by decide +kernel)
theorem zmt_cc : Jvm.Cond.code Lib.MathLoose.max_long.x Lib.MathLoose.max_long.code 4 (some .long) ∈ lw_tbl := List.mem_of_getElem? (i := 747) (by decide +kernel)
theorem zmt_i : Jvm.Cond.initialized "java/lang/Math" ∈ lw_tbl := List.mem_of_getElem? (i := 61) (by decide +kernel)
end
section
/-! THE INTERPRETER: a heap is the cells' shapes (0: an object, by its kind; 1: a row of ints (0) or booleans (1); how many slots), what their references are (0: null), what their ints are. The cell k of the list is the reference k + 1; the reference 0 is the law's own script. -/
abbrev zFr : Type := Nat × List (Option Value) × List Value
abbrev zRl : Type := List (Nat × Nat × Nat)
abbrev zH : Type := List (Nat × Nat × Nat) × zRl × (Nat → Nat → Int32)
def zRg : zRl → Nat → Nat → Nat
  | [], _, _ => 0
  | (a, j, v) :: t, b, i => bif Nat.beq a b && Nat.beq j i then v else zRg t b i
def zRw (R : zRl) (a : Nat) : zRl := R.filter fun q => !(Nat.beq q.1 a)
abbrev zR : Type := Option (Option Value × zH)
abbrev zX : Type := Option (Nat × (Nat → Int32))
def zI1 (st : List Value) (k : Int32 → List Value → zR) : zR := match st with
  | .int x :: r => k x r
  | _ => none
def zI2 (st : List Value) (k : Int32 → Int32 → List Value → zR) : zR := match st with
  | .int y :: .int x :: r => k x y r
  | _ => none
def zJ1 (st : List Value) (k : Int64 → List Value → zR) : zR := match st with
  | .long x :: r => k x r
  | _ => none
def zJ2 (st : List Value) (k : Int64 → Int64 → List Value → zR) : zR := match st with
  | .long y :: .long x :: r => k x y r
  | _ => none
def zA1 (st : List Value) (k : Nat → List Value → zR) : zR := match st with
  | .ref a :: r => k a r
  | _ => none
def zTo (pc : Nat) (off : Int) (k : Nat → zR) : zR := match (pc : Int) + off with
  | .ofNat t => k t
  | _ => none
def zGo (b : Prop) [Decidable b] (k : zR) : zR := if b then k else none
def zSh (h : zH) (a : Nat) : Option (Nat × Nat × Nat) := match a with
  | 0 => none
  | k + 1 => h.1[k]?
def zRv (r : Nat) : Value := match r with
  | 0 => .null
  | k + 1 => .ref (k + 1)
def zUp {α : Type} (f : Nat → Nat → α) (a i : Nat) (v : α) : Nat → Nat → α := fun b j => if b = a then (if j = i then v else f b j) else f b j
def zRow {α : Type} (f : Nat → Nat → α) (a : Nat) (g : Nat → α) : Nat → Nat → α := fun b => if b = a then g else f b
def zClr (i : Nat) (L : List (Option Value)) : List (Option Value) := match i with
  | 0 => L
  | j + 1 => match L[j]? with
    | some (some v) => if v.category = 2 then L.set j none else L
    | _ => L
def zS1 (L : List (Option Value)) (i : Nat) (v : Value) : List (Option Value) := (zClr i L).set i (some v)
def zS2 (L : List (Option Value)) (i : Nat) (v : Value) : List (Option Value) := ((zClr i L).set i (some v)).set (i + 1) none
def zCnd (c : Jvm.ClassFile.Cond) (x y : Int32) (k1 k2 : zR) : zR := match c with
  | .eq => if x = y then k1 else k2
  | .ne => if x = y then k2 else k1
  | .lt => if x < y then k1 else k2
  | .ge => if y ≤ x then k1 else k2
  | .gt => if y < x then k1 else k2
  | .le => if x ≤ y then k1 else k2
def zLI (L : List (Option Value)) (i : Nat) (k : Int32 → zR) : zR := match L[i]? with
  | some (some (.int x)) => k x
  | _ => none
def zLJ (L : List (Option Value)) (i : Nat) (k : Int64 → zR) : zR := match L[i]? with
  | some (some (.long x)) => k x
  | _ => none
def zLA (L : List (Option Value)) (i : Nat) (k : Nat → zR) : zR := match L[i]? with
  | some (some (.ref x)) => k x
  | _ => none
def zCat (st : List Value) : Nat := (st.map fun v => v.category).sum
def zArgs (vs : List Value) : List (Option Value) := vs.flatMap fun v => if v.category = 2 then [some v, none] else [some v]
def zEnt (maxL : Nat) (vs : List Value) : zFr := (0, zArgs vs ++ List.replicate (maxL - (zArgs vs).length) none, [])
/-- a constant pool's row, of a kind -/
def zCp (o i kind : Nat) (k : Nat → Nat → Int → zR) : zR := match zcp o i with
  | some (q, a, b, c) => if q = kind then k a b c else none
  | none => none
def zFd (ci k : Nat) : Option (Nat × Bool) := (zfd[ci]?).bind fun l => l[k]?
def zFn (ci : Nat) : Nat := (zfd.getD ci []).length

/-- what is held is of cells that are there -/
def zVk (n : Nat) : Value → Bool
  | .ref (k + 1) => decide (k < n)
  | _ => true
def zVs (n : Nat) (L : List (Option Value)) (st : List Value) : Bool := (L.all fun o => match o with
  | some v => zVk n v
  | none => true) && st.all (zVk n)
def zHok (h : zH) : Bool := (List.range h.1.length).all fun k => match h.1[k]? with
  | some (0, ci, _) => (List.range (zFn ci)).all fun j => decide (zRg h.2.1 (k + 1) j ≤ h.1.length)
  | _ => true
def zNr : Option Value → Bool
  | some (.ref _) => false
  | _ => true
def zKeep (h h' : zH) (L : List (Option Value)) (st : List Value) (v : Option Value) (k : zR) : zR := zGo (zNr v = true) (if h'.1.length = h.1.length then k else zGo (zVs h.1.length L st = true) k)
/-- one instruction: K goes on, C calls a method; o: whose constant pool; M: the method; d: how many calls may stand open above this one -/
def zdo (xs : zX) (d o M : Nat) (K : zFr → zH → zR) (C : Nat → List Value → zH → (Option Value → zH → zR) → zR) (i : Instr) (len pc : Nat) (L : List (Option Value)) (st : List Value) (h : zH) : zR :=
  match i with
  | .iload_n k => zLI L k fun x => K (pc + 1, L, .int x :: st) h
  | .iload k => zLI L k fun x => K (pc + 2, L, .int x :: st) h
  | .lload_n k => zLJ L k fun x => K (pc + 1, L, .long x :: st) h
  | .lload k => zLJ L k fun x => K (pc + 2, L, .long x :: st) h
  | .aload_n k => zLA L k fun x => K (pc + 1, L, .ref x :: st) h
  | .aload k => zLA L k fun x => K (pc + 2, L, .ref x :: st) h
  | .iconst n => K (pc + 1, L, .int (Int32.ofInt n) :: st) h
  | .bipush n => K (pc + 2, L, .int (Int8.ofInt n).toInt32 :: st) h
  | .sipush n => K (pc + 3, L, .int (Int16.ofInt n).toInt32 :: st) h
  | .lconst n => K (pc + 1, L, .long (Int64.ofNat (n : Nat)) :: st) h
  | .ldc n => zCp o n 2 fun _ _ c => K (pc + 2, L, .int (Int32.ofInt c) :: st) h
  | .ldc_w n => zCp o n 2 fun _ _ c => K (pc + 3, L, .int (Int32.ofInt c) :: st) h
  | .ldc2_w n => zCp o n 3 fun _ _ c => K (pc + 3, L, .long (Int64.ofInt c) :: st) h
  | .istore_n k => zI1 st fun x r => zGo ((k : Nat) < L.length) (K (pc + 1, zS1 L k (.int x), r) h)
  | .istore k => zI1 st fun x r => zGo (k < L.length) (K (pc + 2, zS1 L k (.int x), r) h)
  | .astore_n k => zA1 st fun x r => zGo ((k : Nat) < L.length) (K (pc + 1, zS1 L k (.ref x), r) h)
  | .lstore_n k => zJ1 st fun x r => zGo ((k : Nat) + 1 < L.length) (K (pc + 1, zS2 L k (.long x), r) h)
  | .lstore k => zJ1 st fun x r => zGo (k + 1 < L.length) (K (pc + 2, zS2 L k (.long x), r) h)
  | .iinc k n => zLI L k fun x => K (pc + 3, zS1 L k (.int (x + Int32.ofInt n)), st) h
  | .goto off => zTo pc off fun t => K (t, L, st) h
  | .if_icmp c off => zI2 st fun x y r => zTo pc off fun t => zCnd c x y (K (t, L, r) h) (K (pc + 3, L, r) h)
  | .ifCond c off => zI1 st fun x r => zTo pc off fun t => zCnd c x 0 (K (t, L, r) h) (K (pc + 3, L, r) h)
  | .ifnull _ => zA1 st fun _ r => K (pc + 3, L, r) h
  | .ifnonnull off => zA1 st fun _ r => zTo pc off fun t => K (t, L, r) h
  | .tableswitch d lo hi offs => zI1 st fun x r => if x.toInt < lo ∨ hi < x.toInt then zTo pc d fun t => K (t, L, r) h
      else match offs[(x.toInt - lo).toNat]? with
        | some off => zTo pc off fun t => K (t, L, r) h
        | none => none
  | .lookupswitch d ps => zI1 st fun x r => zGo ((ps.toList.zip (ps.toList.drop 1)).all (fun (a, next) => a.1 < next.1) = true) (zTo pc (Op.lookupswitch.offset ps.toList d x.toInt) fun t => K (t, L, r) h)
  | .dup => match st with
    | v :: r => zGo (v.category = 1) (K (pc + 1, L, v :: v :: r) h)
    | _ => none
  | .dup2 => match st with
    | v :: w :: r => zGo (v.category = 1 ∧ w.category = 1) (K (pc + 1, L, v :: w :: v :: w :: r) h)
    | _ => none
  | .iadd => zI2 st fun x y r => K (pc + 1, L, .int (x + y) :: r) h
  | .isub => zI2 st fun x y r => K (pc + 1, L, .int (x - y) :: r) h
  | .imul => zI2 st fun x y r => K (pc + 1, L, .int (x * y) :: r) h
  | .iand => zI2 st fun x y r => K (pc + 1, L, .int (x &&& y) :: r) h
  | .ior => zI2 st fun x y r => K (pc + 1, L, .int (x ||| y) :: r) h
  | .ixor => zI2 st fun x y r => K (pc + 1, L, .int (x ^^^ y) :: r) h
  | .ishl => zI2 st fun x y r => K (pc + 1, L, .int (x <<< (y &&& 31)) :: r) h
  | .ishr => zI2 st fun x y r => K (pc + 1, L, .int (x >>> (y &&& 31)) :: r) h
  | .iushr => zI2 st fun x y r => K (pc + 1, L, .int (x.toUInt32 >>> (y.toUInt32 &&& Int32.toUInt32 31)).toInt32 :: r) h
  | .idiv => zI2 st fun x y r => zGo (¬ y = 0) (K (pc + 1, L, .int (x / y) :: r) h)
  | .irem => zI2 st fun x y r => zGo (¬ y = 0) (K (pc + 1, L, .int (x - x / y * y) :: r) h)
  | .ladd => zJ2 st fun x y r => K (pc + 1, L, .long (x + y) :: r) h
  | .lsub => zJ2 st fun x y r => K (pc + 1, L, .long (x - y) :: r) h
  | .lmul => zJ2 st fun x y r => K (pc + 1, L, .long (x * y) :: r) h
  | .lor => zJ2 st fun x y r => K (pc + 1, L, .long (x ||| y) :: r) h
  | .lxor => zJ2 st fun x y r => K (pc + 1, L, .long (x ^^^ y) :: r) h
  | .ldiv => zJ2 st fun x y r => zGo (¬ y = 0) (K (pc + 1, L, .long (x / y) :: r) h)
  | .lrem => zJ2 st fun x y r => zGo (¬ y = 0) (K (pc + 1, L, .long (x - x / y * y) :: r) h)
  | .lshl => zI1 st fun y r => zJ1 r fun x r => K (pc + 1, L, .long (x <<< (y.toInt64 &&& 63)) :: r) h
  | .lushr => zI1 st fun y r => zJ1 r fun x r => K (pc + 1, L, .long (x.toUInt64 >>> (y.toInt64.toUInt64 &&& Int64.toUInt64 63)).toInt64 :: r) h
  | .lcmp => zJ2 st fun x y r => K (pc + 1, L, .int (lg_cmp x y) :: r) h
  | .i2l => zI1 st fun x r => K (pc + 1, L, .long x.toInt64 :: r) h
  | .l2i => zJ1 st fun x r => K (pc + 1, L, .int x.toInt32 :: r) h
  | .getfield n => zA1 st fun a r => zCp o n 1 fun ci k _ => match zSh h a with
    | some (0, cj, _) => zGo (cj = ci) (match zFd ci k with
      | some (2, _) => K (pc + 3, L, zRv (zRg h.2.1 a k) :: r) h
      | some _ => K (pc + 3, L, .int (h.2.2 a k) :: r) h
      | none => none)
    | _ => none
  | .putfield n => match st with
    | .int x :: .ref a :: r => zCp o n 1 fun ci k nest => match zSh h a with
      | some (0, cj, _) => zGo (cj = ci ∧ nest = 0) (match zFd ci k with
        | some (0, false) => K (pc + 3, L, r) (h.1, h.2.1, zUp h.2.2 a k x)
        | some (1, false) => zGo (x = 0 ∨ x = 1) (K (pc + 3, L, r) (h.1, h.2.1, zUp h.2.2 a k x))
        | _ => none)
      | _ => none
    | .ref (q + 1) :: .ref a :: r => zCp o n 1 fun ci k nest => match zSh h a with
      | some (0, cj, _) => zGo (cj = ci ∧ nest = 0 ∧ q < h.1.length) (match zFd ci k with
        | some (2, true) => zGo (zKd M = 2 ∧ o = ci) (K (pc + 3, L, r) (h.1, (a, k, q + 1) :: h.2.1, h.2.2))
        | _ => none)
      | _ => none
    | _ => none
  | .iaload => zI1 st fun i r => zA1 r fun a r => match a, xs with
    | 0, some (n, f) => zGo (¬ (i < 0 ∨ n ≤ i.toNatClampNeg)) (K (pc + 1, L, .int (f i.toNatClampNeg) :: r) h)
    | 0, none => none
    | a + 1, _ => match zSh h (a + 1) with
      | some (1, 0, n) => zGo (¬ (i < 0 ∨ n ≤ i.toNatClampNeg)) (K (pc + 1, L, .int (h.2.2 (a + 1) i.toNatClampNeg) :: r) h)
      | _ => none
  | .baload => zI1 st fun i r => zA1 r fun a r => match zSh h a with
    | some (1, 1, n) => zGo (¬ (i < 0 ∨ n ≤ i.toNatClampNeg)) (K (pc + 1, L, .int (h.2.2 a i.toNatClampNeg) :: r) h)
    | _ => none
  | .iastore => zI2 st fun i x r => zA1 r fun a r => match zSh h a with
    | some (1, 0, n) => zGo (¬ (i < 0 ∨ n ≤ i.toNatClampNeg)) (K (pc + 1, L, r) (h.1, h.2.1, zUp h.2.2 a i.toNatClampNeg x))
    | _ => none
  | .bastore => zI2 st fun i x r => zA1 r fun a r => match zSh h a with
    | some (1, 1, n) => zGo (¬ (i < 0 ∨ n ≤ i.toNatClampNeg) ∧ (x = 0 ∨ x = 1)) (K (pc + 1, L, r) (h.1, h.2.1, zUp h.2.2 a i.toNatClampNeg x))
    | _ => none
  | .arraylength => zA1 st fun a r => match a, xs with
    | 0, some (n, _) => K (pc + 1, L, .int (Int32.ofNat n) :: r) h
    | 0, none => none
    | a + 1, _ => match zSh h (a + 1) with
      | some (1, _, n) => K (pc + 1, L, .int (Int32.ofNat n) :: r) h
      | _ => none
  | .newarray ty => zI1 st fun n r => match ty with
    | .int => zGo (¬ n < 0 ∧ n.toNatClampNeg ≤ 100000 ∧ zVs h.1.length L r = true ∧ zHok h = true) (K (pc + 2, L, .ref (h.1.length + 1) :: r) (h.1 ++ [(1, 0, n.toNatClampNeg)], h.2.1, zRow h.2.2 (h.1.length + 1) (fun _ => 0)))
    | .boolean => zGo (¬ n < 0 ∧ n.toNatClampNeg ≤ 100000 ∧ zVs h.1.length L r = true ∧ zHok h = true) (K (pc + 2, L, .ref (h.1.length + 1) :: r) (h.1 ++ [(1, 1, n.toNatClampNeg)], h.2.1, zRow h.2.2 (h.1.length + 1) (fun _ => 0)))
    | _ => none
  | .new n => zCp o n 4 fun ci _ _ => zGo (zVs h.1.length L st = true ∧ zHok h = true) (K (pc + 3, L, .ref (h.1.length + 1) :: st) (h.1 ++ [(0, ci, zFn ci)], zRw h.2.1 (h.1.length + 1), zRow h.2.2 (h.1.length + 1) (fun _ => 0)))
  | .invokestatic n => match zcp o n with
    | some (5, N, _, _) => zGo (zKd N = 1 ∧ zPn N ≤ st.length ∧ zCat (st.drop (zPn N)) ≤ 8) (C N (st.take (zPn N)).reverse h fun v h' => zKeep h h' L (st.drop (zPn N)) v (K (pc + 3, L, v.toList ++ st.drop (zPn N)) h'))
    | some (7, _, _, _) => match st with
      | .int n :: .int dp :: .ref a :: .int sp :: .ref a0 :: r => match zSh h a0, zSh h a with
        | some (1, 0, n0), some (1, 0, n1) => zGo (¬ sp < 0 ∧ ¬ dp < 0 ∧ ¬ n < 0 ∧ sp.toNatClampNeg + n.toNatClampNeg ≤ n0 ∧ dp.toNatClampNeg + n.toNatClampNeg ≤ n1 ∧ 0 < d ∧ zCat r ≤ 8) (K (pc + 3, L, r) (h.1, h.2.1, zRow h.2.2 a (va_cpy (h.2.2 a0) (h.2.2 a) sp.toNatClampNeg dp.toNatClampNeg n.toNatClampNeg)))
        | _, _ => none
      | _ => none
    | some (8, _, _, _) => zI2 st fun x y r => zGo (0 < d ∧ zCat r ≤ 8) (K (pc + 3, L, .int (if x < y then y else x) :: r) h)
    | some (9, _, _, _) => zI2 st fun x y r => zGo (0 < d ∧ zCat r ≤ 8) (K (pc + 3, L, .int (if y < x then y else x) :: r) h)
    | some (10, _, _, _) => zJ2 st fun x y r => zGo (0 < d ∧ zCat r ≤ 8) (K (pc + 3, L, .long (if y < x then x else y) :: r) h)
    | _ => none
  | .invokevirtual n => zCp o n 5 fun N _ _ => match st.drop (zPn N) with
    | .ref a :: r => match zSh h a with
      | some (0, cj, _) => zGo (zKd N = 0 ∧ cj = zOw N ∧ zPn N ≤ st.length ∧ zCat r ≤ 8) (C N (.ref a :: (st.take (zPn N)).reverse) h fun v h' => zKeep h h' L r v (K (pc + 3, L, v.toList ++ r) h'))
      | _ => none
    | _ => none
  | .invokespecial n => match zcp o n with
    | some (5, N, _, _) => match st.drop (zPn N) with
      | .ref a :: r => zGo (zKd N = 2 ∧ zPn N ≤ st.length ∧ zCat r ≤ 8) (C N (.ref a :: (st.take (zPn N)).reverse) h fun v h' => zKeep h h' L r v (K (pc + 3, L, v.toList ++ r) h'))
      | _ => none
    | some (6, _, _, _) => match st with
      | .ref _ :: r => zGo (0 < d ∧ zCat r ≤ 8) (K (pc + 3, L, r) h)
      | _ => none
    | _ => none
  | .ireturn => match st with
    | [.int x] => match zRt M with
      | some .int => some (some (.int x), h)
      | some .boolean => zGo (x = 0 ∨ x = 1) (some (some (.int x), h))
      | _ => none
    | _ => none
  | .lreturn => match st with
    | [.long x] => zGo (zRt M = some .long) (some (some (.long x), h))
    | _ => none
  | .return_ => match st with
    | [] => zGo (zRt M = none) (some (none, h))
    | _ => none
  | _ => none
def zin (M pc : Nat) : Option (Instr × Nat) := (zml[M]?).bind fun r => r.2.2.2.2.2.2.2.lookup pc
/-- n: how many instructions at the most; d: how many calls may stand open above this one -/
def zrun (xs : zX) : Nat → Nat → Nat → zFr → zH → zR
  | 0, _, _, _, _ => none
  | n + 1, d, M, f, h => match zin M f.1 with
    | none => none
    | some (i, len) => zdo xs d (zOw M) M (fun f h => zrun xs n d M f h) (fun N vs h k => match d with
      | 0 => none
      | d + 1 => zGo ((zArgs vs).length ≤ zMl N) (match zrun none n d N (zEnt (zMl N) vs) h with
        | some (v, h') => k v h'
        | none => none)) i len f.1 f.2.1 f.2.2 h
def zEv (xs : zX) (d M : Nat) (f : zFr) (h : zH) (v : Option Value) (h' : zH) : Prop := ∃ n, zrun xs n d M f h = some (v, h')
def zCall (d M : Nat) (vs : List Value) (h : zH) (v : Option Value) (h' : zH) : Prop := zEv none d M (zEnt (zMl M) vs) h v h'
end
section
/-! the interpreter and the machine: what both say -/
theorem zLk {α : Type} {pc : Nat} {x : α} : ∀ {l : List (Nat × α)}, l.lookup pc = some x → (pc, x) ∈ l
  | [], h => by cases h
  | (k, y) :: t, h => by
    rw [List.lookup_cons] at h
    split at h
    · rename_i hk
      have hk := beq_iff_eq.mp hk
      subst hk
      cases h
      exact List.mem_cons_self
    · exact List.mem_cons_of_mem _ (zLk h)
def zLenOk : Instr → Nat → Bool
  | .iload _, n => n == 2
  | .lload _, n => n == 2
  | .aload _, n => n == 2
  | .istore _, n => n == 2
  | .lstore _, n => n == 2
  | .bipush _, n => n == 2
  | .ldc _, n => n == 2
  | .newarray _, n => n == 2
  | .sipush _, n => n == 3
  | .ldc_w _, n => n == 3
  | .ldc2_w _, n => n == 3
  | .iinc _ _, n => n == 3
  | .goto _, n => n == 3
  | .if_icmp _ _, n => n == 3
  | .ifCond _ _, n => n == 3
  | .ifnull _, n => n == 3
  | .ifnonnull _, n => n == 3
  | .getfield _, n => n == 3
  | .putfield _, n => n == 3
  | .new _, n => n == 3
  | .invokestatic _, n => n == 3
  | .invokevirtual _, n => n == 3
  | .invokespecial _, n => n == 3
  | .tableswitch _ _ _ _, _ => true
  | .lookupswitch _ _, _ => true
  | _, n => n == 1
set_option maxRecDepth 100000 in
theorem zLen_all : (zml.all fun r => r.2.2.2.2.2.2.2.all fun q => zLenOk q.2.1 q.2.2) = true := by decide +kernel
set_option maxRecDepth 100000 in
/-- the heads of the methods -/
theorem zHd_all : (zml.all fun r => plainName r.1.cls && decide (r.1.cls = zOn r.2.2.2.2.2.1) && decide (r.1.cls ≠ "java/lang/invoke/MethodHandle") && decide (r.1.cls ≠ "java/lang/invoke/VarHandle") && decide ((parseMethodDescriptor r.1.desc).map (fun d => d.parameters.length) = some r.2.2.2.2.1) && decide (r.2.2.1 ≤ 23)) = true := by decide +kernel
set_option maxRecDepth 100000 in
theorem zin_all : ∀ r ∈ zml, ∀ q ∈ r.2.2.2.2.2.2.2, decode r.2.1 q.1 = .ok q.2 := List.forall_mem_cons.mpr ⟨zd_0, List.forall_mem_cons.mpr ⟨zd_1, List.forall_mem_cons.mpr ⟨zd_2, List.forall_mem_cons.mpr ⟨zd_3, List.forall_mem_cons.mpr ⟨zd_4, List.forall_mem_cons.mpr ⟨zd_5, List.forall_mem_cons.mpr ⟨zd_6, List.forall_mem_cons.mpr ⟨zd_7, List.forall_mem_cons.mpr ⟨zd_8, List.forall_mem_cons.mpr ⟨zd_9, List.forall_mem_cons.mpr ⟨zd_10, List.forall_mem_cons.mpr ⟨zd_11, List.forall_mem_cons.mpr ⟨zd_12, List.forall_mem_cons.mpr ⟨zd_13, List.forall_mem_cons.mpr ⟨zd_14, List.forall_mem_cons.mpr ⟨zd_15, List.forall_mem_cons.mpr ⟨zd_16, List.forall_mem_cons.mpr ⟨zd_17, List.forall_mem_cons.mpr ⟨zd_18, List.forall_mem_cons.mpr ⟨zd_19, List.forall_mem_cons.mpr ⟨zd_20, List.forall_mem_cons.mpr ⟨zd_21, List.forall_mem_cons.mpr ⟨zd_22, List.forall_mem_cons.mpr ⟨zd_23, List.forall_mem_cons.mpr ⟨zd_24, List.forall_mem_cons.mpr ⟨zd_25, List.forall_mem_cons.mpr ⟨zd_26, List.forall_mem_cons.mpr ⟨zd_27, List.forall_mem_cons.mpr ⟨zd_28, List.forall_mem_cons.mpr ⟨zd_29, List.forall_mem_cons.mpr ⟨zd_30, List.forall_mem_cons.mpr ⟨zd_31, List.forall_mem_cons.mpr ⟨zd_32, List.forall_mem_cons.mpr ⟨zd_33, List.forall_mem_cons.mpr ⟨zd_34, List.forall_mem_cons.mpr ⟨zd_35, List.forall_mem_cons.mpr ⟨zd_36, List.forall_mem_cons.mpr ⟨zd_37, List.forall_mem_cons.mpr ⟨zd_38, List.forall_mem_cons.mpr ⟨zd_39, List.forall_mem_cons.mpr ⟨zd_40, List.forall_mem_cons.mpr ⟨zd_41, List.forall_mem_cons.mpr ⟨zd_42, List.forall_mem_cons.mpr ⟨zd_43, List.forall_mem_cons.mpr ⟨zd_44, List.forall_mem_cons.mpr ⟨zd_45, List.forall_mem_cons.mpr ⟨zd_46, List.forall_mem_cons.mpr ⟨zd_47, List.forall_mem_cons.mpr ⟨zd_48, List.forall_mem_cons.mpr ⟨zd_49, List.forall_mem_cons.mpr ⟨zd_50, List.forall_mem_cons.mpr ⟨zd_51, List.forall_mem_cons.mpr ⟨zd_52, List.forall_mem_cons.mpr ⟨zd_53, List.forall_mem_cons.mpr ⟨zd_54, List.forall_mem_cons.mpr ⟨zd_55, List.forall_mem_cons.mpr ⟨zd_56, List.forall_mem_cons.mpr ⟨zd_57, List.forall_mem_cons.mpr ⟨zd_58, List.forall_mem_cons.mpr ⟨zd_59, List.forall_mem_cons.mpr ⟨zd_60, List.forall_mem_cons.mpr ⟨zd_61, List.forall_mem_cons.mpr ⟨zd_62, List.forall_mem_cons.mpr ⟨zd_63, List.forall_mem_cons.mpr ⟨zd_64, List.forall_mem_cons.mpr ⟨zd_65, List.forall_mem_cons.mpr ⟨zd_66, List.forall_mem_cons.mpr ⟨zd_67, List.forall_mem_cons.mpr ⟨zd_68, List.forall_mem_cons.mpr ⟨zd_69, List.forall_mem_cons.mpr ⟨zd_70, List.forall_mem_cons.mpr ⟨zd_71, List.forall_mem_cons.mpr ⟨zd_72, List.forall_mem_cons.mpr ⟨zd_73, List.forall_mem_cons.mpr ⟨zd_74, List.forall_mem_cons.mpr ⟨zd_75, List.forall_mem_cons.mpr ⟨zd_76, List.forall_mem_cons.mpr ⟨zd_77, List.forall_mem_cons.mpr ⟨zd_78, List.forall_mem_cons.mpr ⟨zd_79, List.forall_mem_cons.mpr ⟨zd_80, List.forall_mem_cons.mpr ⟨zd_81, List.forall_mem_cons.mpr ⟨zd_82, List.forall_mem_cons.mpr ⟨zd_83, List.forall_mem_cons.mpr ⟨zd_84, List.forall_mem_cons.mpr ⟨zd_85, List.forall_mem_cons.mpr ⟨zd_86, List.forall_mem_cons.mpr ⟨zd_87, List.forall_mem_cons.mpr ⟨zd_88, List.forall_mem_cons.mpr ⟨zd_89, List.forall_mem_cons.mpr ⟨zd_90, List.forall_mem_cons.mpr ⟨zd_91, List.forall_mem_cons.mpr ⟨zd_92, List.forall_mem_cons.mpr ⟨zd_93, List.forall_mem_cons.mpr ⟨zd_94, List.forall_mem_cons.mpr ⟨zd_95, List.forall_mem_cons.mpr ⟨zd_96, List.forall_mem_cons.mpr ⟨zd_97, List.forall_mem_cons.mpr ⟨zd_98, List.forall_mem_cons.mpr ⟨zd_99, List.forall_mem_cons.mpr ⟨zd_100, List.forall_mem_cons.mpr ⟨zd_101, List.forall_mem_cons.mpr ⟨zd_102, List.forall_mem_cons.mpr ⟨zd_103, List.forall_mem_cons.mpr ⟨zd_104, List.forall_mem_cons.mpr ⟨zd_105, List.forall_mem_cons.mpr ⟨zd_106, List.forall_mem_cons.mpr ⟨zd_107, List.forall_mem_cons.mpr ⟨zd_108, List.forall_mem_cons.mpr ⟨zd_109, List.forall_mem_cons.mpr ⟨zd_110, List.forall_mem_cons.mpr ⟨zd_111, List.forall_mem_cons.mpr ⟨zd_112, List.forall_mem_cons.mpr ⟨zd_113, List.forall_mem_cons.mpr ⟨zd_114, List.forall_mem_cons.mpr ⟨zd_115, List.forall_mem_cons.mpr ⟨zd_116, List.forall_mem_cons.mpr ⟨zd_117, List.forall_mem_cons.mpr ⟨zd_118, List.forall_mem_cons.mpr ⟨zd_119, List.forall_mem_cons.mpr ⟨zd_120, List.forall_mem_cons.mpr ⟨zd_121, List.forall_mem_cons.mpr ⟨zd_122, List.forall_mem_cons.mpr ⟨zd_123, List.forall_mem_cons.mpr ⟨zd_124, List.forall_mem_cons.mpr ⟨zd_125, List.forall_mem_cons.mpr ⟨zd_126, List.forall_mem_cons.mpr ⟨zd_127, List.forall_mem_cons.mpr ⟨zd_128, List.forall_mem_cons.mpr ⟨zd_129, List.forall_mem_cons.mpr ⟨zd_130, List.forall_mem_cons.mpr ⟨zd_131, List.forall_mem_cons.mpr ⟨zd_132, List.forall_mem_cons.mpr ⟨zd_133, List.forall_mem_cons.mpr ⟨zd_134, List.forall_mem_cons.mpr ⟨zd_135, List.forall_mem_cons.mpr ⟨zd_136, List.forall_mem_cons.mpr ⟨zd_137, List.forall_mem_cons.mpr ⟨zd_138, List.forall_mem_cons.mpr ⟨zd_139, List.forall_mem_cons.mpr ⟨zd_140, List.forall_mem_cons.mpr ⟨zd_141, List.forall_mem_cons.mpr ⟨zd_142, List.forall_mem_cons.mpr ⟨zd_143, List.forall_mem_cons.mpr ⟨zd_144, List.forall_mem_cons.mpr ⟨zd_145, List.forall_mem_cons.mpr ⟨zd_146, List.forall_mem_cons.mpr ⟨zd_147, List.forall_mem_cons.mpr ⟨zd_148, List.forall_mem_cons.mpr ⟨zd_149, List.forall_mem_cons.mpr ⟨zd_150, List.forall_mem_cons.mpr ⟨zd_151, List.forall_mem_cons.mpr ⟨zd_152, List.forall_mem_cons.mpr ⟨zd_153, List.forall_mem_cons.mpr ⟨zd_154, List.forall_mem_cons.mpr ⟨zd_155, List.forall_mem_cons.mpr ⟨zd_156, List.forall_mem_cons.mpr ⟨zd_157, List.forall_mem_cons.mpr ⟨zd_158, List.forall_mem_cons.mpr ⟨zd_159, List.forall_mem_cons.mpr ⟨zd_160, List.forall_mem_cons.mpr ⟨zd_161, List.forall_mem_cons.mpr ⟨zd_162, List.forall_mem_cons.mpr ⟨zd_163, List.forall_mem_cons.mpr ⟨zd_164, List.forall_mem_cons.mpr ⟨zd_165, List.forall_mem_cons.mpr ⟨zd_166, List.forall_mem_cons.mpr ⟨zd_167, List.forall_mem_cons.mpr ⟨zd_168, List.forall_mem_cons.mpr ⟨zd_169, List.forall_mem_cons.mpr ⟨zd_170, List.forall_mem_cons.mpr ⟨zd_171, List.forall_mem_cons.mpr ⟨zd_172, List.forall_mem_cons.mpr ⟨zd_173, List.forall_mem_cons.mpr ⟨zd_174, List.forall_mem_cons.mpr ⟨zd_175, List.forall_mem_cons.mpr ⟨zd_176, List.forall_mem_cons.mpr ⟨zd_177, List.forall_mem_cons.mpr ⟨zd_178, List.forall_mem_cons.mpr ⟨zd_179, List.forall_mem_cons.mpr ⟨zd_180, List.forall_mem_cons.mpr ⟨zd_181, List.forall_mem_cons.mpr ⟨zd_182, List.forall_mem_cons.mpr ⟨zd_183, List.forall_mem_cons.mpr ⟨zd_184, List.forall_mem_cons.mpr ⟨zd_185, List.forall_mem_cons.mpr ⟨zd_186, List.forall_mem_cons.mpr ⟨zd_187, List.forall_mem_cons.mpr ⟨zd_188, List.forall_mem_cons.mpr ⟨zd_189, List.forall_mem_cons.mpr ⟨zd_190, List.forall_mem_cons.mpr ⟨zd_191, List.forall_mem_cons.mpr ⟨zd_192, List.forall_mem_cons.mpr ⟨zd_193, List.forall_mem_cons.mpr ⟨zd_194, List.forall_mem_cons.mpr ⟨zd_195, List.forall_mem_cons.mpr ⟨zd_196, List.forall_mem_cons.mpr ⟨zd_197, List.forall_mem_cons.mpr ⟨zd_198, List.forall_mem_cons.mpr ⟨zd_199, fun _ h => absurd h List.not_mem_nil⟩⟩⟩⟩⟩⟩⟩⟩⟩⟩⟩⟩⟩⟩⟩⟩⟩⟩⟩⟩⟩⟩⟩⟩⟩⟩⟩⟩⟩⟩⟩⟩⟩⟩⟩⟩⟩⟩⟩⟩⟩⟩⟩⟩⟩⟩⟩⟩⟩⟩⟩⟩⟩⟩⟩⟩⟩⟩⟩⟩⟩⟩⟩⟩⟩⟩⟩⟩⟩⟩⟩⟩⟩⟩⟩⟩⟩⟩⟩⟩⟩⟩⟩⟩⟩⟩⟩⟩⟩⟩⟩⟩⟩⟩⟩⟩⟩⟩⟩⟩⟩⟩⟩⟩⟩⟩⟩⟩⟩⟩⟩⟩⟩⟩⟩⟩⟩⟩⟩⟩⟩⟩⟩⟩⟩⟩⟩⟩⟩⟩⟩⟩⟩⟩⟩⟩⟩⟩⟩⟩⟩⟩⟩⟩⟩⟩⟩⟩⟩⟩⟩⟩⟩⟩⟩⟩⟩⟩⟩⟩⟩⟩⟩⟩⟩⟩⟩⟩⟩⟩⟩⟩⟩⟩⟩⟩⟩⟩⟩⟩⟩⟩⟩⟩⟩⟩⟩⟩⟩⟩⟩⟩⟩⟩⟩⟩⟩⟩⟩⟩
theorem zin_ok {M pc : Nat} {i : Instr} {len : Nat} (h : zin M pc = some (i, len)) : decode (zBy M) pc = .ok (i, len) ∧ zLenOk i len = true := by
  unfold zin at h
  cases hr : zml[M]? with
  | none => rw [hr] at h; cases h
  | some r =>
    rw [hr] at h
    have hm := zLk (l := r.2.2.2.2.2.2.2) h
    have hz : r ∈ zml := List.mem_of_getElem? hr
    have e : zBy M = r.2.1 := by unfold zBy; rw [hr]; rfl
    rw [e]
    have h2 := List.all_eq_true.mp (List.all_eq_true.mp zLen_all r hz) (pc, i, len) hm
    exact ⟨zin_all r hz (pc, i, len) hm, h2⟩
theorem zcp_ok {o i : Nat} {q : zRs} (h : zcp o i = some q) : zCpOk o i q := by
  unfold zcp at h
  have key : ∀ (l : List (Nat × zRs)), zcl[o]? = some l → (∀ q ∈ l, zCpOk o q.1 q.2) → zCpOk o i q := by
    intro l hl hk
    rw [hl] at h
    exact hk _ (zLk h)
  match o, h, key with
  | 0, h, key => exact key _ rfl zko_0
  | 1, h, key => exact key _ rfl zko_1
  | 2, h, key => exact key _ rfl zko_2
  | 3, h, key => exact key _ rfl zko_3
  | 4, h, key => exact key _ rfl zko_4
  | 5, h, key => exact key _ rfl zko_5
  | 6, h, key => exact key _ rfl zko_6
  | 7, h, key => exact key _ rfl zko_7
  | 8, h, key => exact key _ rfl zko_8
  | 9, h, key => exact key _ rfl zko_9
  | 10, h, key => exact key _ rfl zko_10
  | 11, h, key => exact key _ rfl zko_11
  | 12, h, key => exact key _ rfl zko_12
  | 13, h, key => exact key _ rfl zko_13
  | 14, h, key => exact key _ rfl zko_14
  | n + 15, h, key => cases h
theorem zHd {N : Nat} (h : zKd N ≤ 2) : plainName (zYn N).cls = true ∧ (zYn N).cls = zOn (zOw N) ∧ ((zYn N).cls ≠ "java/lang/invoke/MethodHandle" ∧ (zYn N).cls ≠ "java/lang/invoke/VarHandle") ∧ (parseMethodDescriptor (zYn N).desc).map (fun d => d.parameters.length) = some (zPn N) ∧ zMl N ≤ 23 := by
  cases hr : zml[N]? with
  | none =>
    unfold zKd at h
    rw [hr] at h
    exact absurd h (by decide)
  | some r =>
    have hz : r ∈ zml := List.mem_of_getElem? hr
    have h1 := List.all_eq_true.mp zHd_all r hz
    simp only [Bool.and_eq_true, decide_eq_true_eq] at h1
    have e1 : zYn N = r.1 := by unfold zYn; rw [hr]; rfl
    have e2 : zOw N = r.2.2.2.2.2.1 := by unfold zOw; rw [hr]; rfl
    have e3 : zPn N = r.2.2.2.2.1 := by unfold zPn; rw [hr]; rfl
    have e4 : zMl N = r.2.2.1 := by unfold zMl; rw [hr]; rfl
    rw [e1, e2, e3, e4]
    exact ⟨h1.1.1.1.1.1, h1.1.1.1.1.2, ⟨h1.1.1.1.2, h1.1.1.2⟩, h1.1.2, h1.2⟩
theorem zMlt (M : Nat) : zMl M ≤ 23 := by
  cases hr : zml[M]? with
  | none =>
    unfold zMl
    rw [hr]
    exact Nat.zero_le _
  | some r =>
    have hz : r ∈ zml := List.mem_of_getElem? hr
    have h1 := List.all_eq_true.mp zHd_all r hz
    simp only [Bool.and_eq_true, decide_eq_true_eq] at h1
    have e4 : zMl M = r.2.2.1 := by unfold zMl; rw [hr]; rfl
    rw [e4]
    exact h1.2
end
section
/-! what the interpreter's heap is on the machine -/
def zVal (b : Nat) (σ : List Nat) : Value → Value
  | .ref 0 => .ref b
  | .ref (k + 1) => .ref (σ.getD k 0)
  | v => v
theorem znb {a b : Nat} (h : a ≠ b) : Nat.beq a b = false := by
  cases hb : Nat.beq a b with
  | false => rfl
  | true => exact absurd (Nat.eq_of_beq_eq_true hb) h
theorem zRg_put {R : zRl} {a j v : Nat} : zRg ((a, j, v) :: R) = zUp (zRg R) a j v := by
  funext b i
  unfold zUp
  show (bif Nat.beq a b && Nat.beq j i then v else zRg R b i) = _
  by_cases h1 : b = a
  · subst h1
    rw [if_pos rfl, Nat.beq_refl, Bool.true_and]
    by_cases h2 : i = j
    · subst h2
      rw [if_pos rfl, Nat.beq_refl]
      rfl
    · rw [if_neg h2, znb (fun q => h2 q.symm)]
      rfl
  · rw [if_neg h1, znb (fun q => h1 q.symm)]
    rfl
theorem zRg_new {R : zRl} {a : Nat} : zRg (zRw R a) = zRow (zRg R) a (fun _ => 0) := by
  funext b i
  unfold zRow
  induction R with
  | nil =>
    show (0 : Nat) = _
    split <;> rfl
  | cons q t ih =>
    obtain ⟨a1, j1, v1⟩ := q
    unfold zRw at *
    by_cases h1 : a1 = a
    · subst h1
      rw [List.filter_cons_of_neg (by rw [Nat.beq_refl]; decide), ih]
      by_cases h2 : b = a1
      · rw [if_pos h2, if_pos h2]
      · rw [if_neg h2, if_neg h2]
        show _ = (bif Nat.beq a1 b && Nat.beq j1 i then v1 else zRg t b i)
        rw [znb (fun q => h2 q.symm)]
        rfl
    · have hb : Nat.beq a1 a = false := znb h1
      rw [List.filter_cons_of_pos (by rw [hb]; rfl)]
      show (bif Nat.beq a1 b && Nat.beq j1 i then v1 else zRg (List.filter _ t) b i) = _
      rw [ih]
      by_cases h2 : b = a
      · subst h2
        rw [if_pos rfl, if_pos rfl, hb]
        rfl
      · rw [if_neg h2, if_neg h2]
        rfl
theorem zVal_cat (b : Nat) (σ : List Nat) (v : Value) : (zVal b σ v).category = v.category := by
  unfold zVal
  split <;> rfl
def zFv (b : Nat) (σ : List Nat) (h : zH) (k ci j : Nat) : Value := match zFd ci j with
  | some (2, _) => zVal b σ (zRv (zRg h.2.1 (k + 1) j))
  | _ => .int (h.2.2 (k + 1) j)
def zCell (cI cZ : ClassId) (b : Nat) (σ : List Nat) (h : zH) (k : Nat) (sh : Nat × Nat × Nat) : va_E := match sh with
  | (0, ci, _) => .inr (ci, (List.range (zFn ci)).map fun j => zFv b σ h k ci j)
  | (_, 0, n) => .inl (cI, n, .inl (h.2.2 (k + 1)))
  | (_, _, n) => .inl (cZ, n, .inl (h.2.2 (k + 1)))
def zWl (cI cZ : ClassId) (b : Nat) (σ : List Nat) (h : zH) : va_W := h.1.mapIdx fun k sh => (σ.getD k 0, zCell cI cZ b σ h k sh)
theorem zWl_at {cI cZ : ClassId} {b : Nat} {σ : List Nat} {h : zH} {k : Nat} {sh : Nat × Nat × Nat} (hk : h.1[k]? = some sh) : (zWl cI cZ b σ h)[k]? = some (σ.getD k 0, zCell cI cZ b σ h k sh) := by
  unfold zWl
  rw [List.getElem?_mapIdx, hk]
  rfl
/-- cells that are the same are the same on the machine -/
theorem zWl_set {cI cZ : ClassId} {b : Nat} {σ : List Nat} {h h' : zH} {k : Nat} {sh : Nat × Nat × Nat} (h1 : h'.1 = h.1) (hk : h.1[k]? = some sh) (ho : ∀ j, j ≠ k → ∀ sj, h.1[j]? = some sj → zCell cI cZ b σ h' j sj = zCell cI cZ b σ h j sj) :
    zWl cI cZ b σ h' = (zWl cI cZ b σ h).set k (σ.getD k 0, zCell cI cZ b σ h' k sh) := by
  apply List.ext_getElem?
  intro j
  have e1 : (zWl cI cZ b σ h')[j]? = (h.1[j]?).map fun sj => (σ.getD j 0, zCell cI cZ b σ h' j sj) := by
    unfold zWl
    rw [List.getElem?_mapIdx, h1]
  have e2 : (zWl cI cZ b σ h)[j]? = (h.1[j]?).map fun sj => (σ.getD j 0, zCell cI cZ b σ h j sj) := by
    unfold zWl
    rw [List.getElem?_mapIdx]
  rw [e1, List.getElem?_set]
  by_cases hj : k = j
  · subst hj
    have hl : k < (zWl cI cZ b σ h).length := by
      unfold zWl
      rw [List.length_mapIdx]
      exact (List.getElem?_eq_some_iff.mp hk).1
    rw [if_pos rfl, if_pos hl, hk]
    rfl
  · rw [if_neg hj, e2]
    cases hs : h.1[j]? with
    | none => rfl
    | some sj => rw [Option.map_some, Option.map_some, ho j (fun q => hj q.symm) sj hs]
theorem zgD {l t : List Nat} {k d : Nat} (h : k < l.length) : (l ++ t).getD k d = l.getD k d := by
  simp [List.getD, List.getElem?_append_left h]
theorem zVal_ext {b : Nat} {σ : List Nat} {q : Nat} {v : Value} (h : zVk σ.length v = true) : zVal b (σ ++ [q]) v = zVal b σ v := by
  unfold zVal
  split
  · rfl
  · rename_i k
    have hk : k < σ.length := by simpa [zVk] using h
    rw [zgD hk]
  · rfl
theorem zVal_pre {b : Nat} {σ σ' : List Nat} {v : Value} (hp : σ <+: σ') (h : zVk σ.length v = true) : zVal b σ' v = zVal b σ v := by
  obtain ⟨t, rfl⟩ := hp
  unfold zVal
  split
  · rfl
  · rename_i k
    have hk : k < σ.length := by simpa [zVk] using h
    rw [zgD hk]
  · rfl
theorem zCell_ext {cI cZ : ClassId} {b : Nat} {σ : List Nat} {q : Nat} {h h' : zH} {k : Nat} {sh : Nat × Nat × Nat} (hσ : σ.length = h.1.length) (hok : zHok h = true) (hk : h.1[k]? = some sh) (e1 : zRg h'.2.1 (k + 1) = zRg h.2.1 (k + 1)) (e2 : h'.2.2 (k + 1) = h.2.2 (k + 1)) :
    zCell cI cZ b (σ ++ [q]) h' k sh = zCell cI cZ b σ h k sh := by
  have hl := (List.getElem?_eq_some_iff.mp hk).1
  have h1 := List.all_eq_true.mp hok k (List.mem_range.mpr hl)
  rw [hk] at h1
  obtain ⟨a, ci, n⟩ := sh
  cases a with
  | zero =>
    simp only [List.all_eq_true, List.mem_range, decide_eq_true_eq] at h1
    unfold zCell
    simp only
    congr 2
    apply List.map_congr_left
    intro j hj
    have h2 := h1 j (List.mem_range.mp hj)
    unfold zFv
    rw [e1, e2]
    split
    · apply zVal_ext
      cases hr : zRg h.2.1 (k + 1) j with
      | zero => rfl
      | succ m =>
        rw [hr] at h2
        show decide (m < σ.length) = true
        rw [hσ]
        exact decide_eq_true (by omega)
    · rfl
  | succ a =>
    cases ci <;> simp only [zCell, e2]
/-- a new cell -/
theorem zWl_push {cI cZ : ClassId} {b : Nat} {σ : List Nat} {q : Nat} {h : zH} {sh : Nat × Nat × Nat} {F : zRl} {G : Nat → Nat → Int32} (hσ : σ.length = h.1.length) (hok : zHok h = true) (hF : ∀ k, k < h.1.length → zRg F (k + 1) = zRg h.2.1 (k + 1)) (hG : ∀ k, k < h.1.length → G (k + 1) = h.2.2 (k + 1)) :
    zWl cI cZ b (σ ++ [q]) (h.1 ++ [sh], F, G) = zWl cI cZ b σ h ++ [(q, zCell cI cZ b (σ ++ [q]) (h.1 ++ [sh], F, G) h.1.length sh)] := by
  apply List.ext_getElem?
  intro j
  have e1 : (zWl cI cZ b (σ ++ [q]) (h.1 ++ [sh], F, G))[j]? = ((h.1 ++ [sh])[j]?).map fun sj => ((σ ++ [q]).getD j 0, zCell cI cZ b (σ ++ [q]) (h.1 ++ [sh], F, G) j sj) := by
    unfold zWl
    rw [List.getElem?_mapIdx]
  have e2 : (zWl cI cZ b σ h)[j]? = (h.1[j]?).map fun sj => (σ.getD j 0, zCell cI cZ b σ h j sj) := by
    unfold zWl
    rw [List.getElem?_mapIdx]
  have el : (zWl cI cZ b σ h).length = h.1.length := by
    unfold zWl
    rw [List.length_mapIdx]
  rw [e1]
  by_cases hj : j < h.1.length
  · rw [List.getElem?_append_left hj, List.getElem?_append_left (by rw [el]; exact hj), e2]
    cases hs : h.1[j]? with
    | none => rfl
    | some sj =>
      rw [Option.map_some, Option.map_some, zgD (by rw [hσ]; exact hj), zCell_ext hσ hok hs (hF j hj) (hG j hj)]
  · by_cases hj2 : j = h.1.length
    · subst hj2
      rw [List.getElem?_append_right (Nat.le_refl _), List.getElem?_append_right (by rw [el]; exact Nat.le_refl _), el, Nat.sub_self]
      simp only [List.getElem?_cons_zero, Option.map_some]
      rw [← hσ]
      simp
    · rw [List.getElem?_eq_none (by simp; omega), List.getElem?_eq_none (by simp [el]; omega)]
      rfl
end
section
theorem zI1_inv {st : List Value} {k : Int32 → List Value → zR} {R : Option Value × zH} (h : zI1 st k = some R) : ∃ x r, st = .int x :: r ∧ k x r = some R := by
  unfold zI1 at h
  split at h
  · exact ⟨_, _, rfl, h⟩
  · cases h
theorem zI2_inv {st : List Value} {k : Int32 → Int32 → List Value → zR} {R : Option Value × zH} (h : zI2 st k = some R) : ∃ x y r, st = .int y :: .int x :: r ∧ k x y r = some R := by
  unfold zI2 at h
  split at h
  · exact ⟨_, _, _, rfl, h⟩
  · cases h
theorem zJ1_inv {st : List Value} {k : Int64 → List Value → zR} {R : Option Value × zH} (h : zJ1 st k = some R) : ∃ x r, st = .long x :: r ∧ k x r = some R := by
  unfold zJ1 at h
  split at h
  · exact ⟨_, _, rfl, h⟩
  · cases h
theorem zJ2_inv {st : List Value} {k : Int64 → Int64 → List Value → zR} {R : Option Value × zH} (h : zJ2 st k = some R) : ∃ x y r, st = .long y :: .long x :: r ∧ k x y r = some R := by
  unfold zJ2 at h
  split at h
  · exact ⟨_, _, _, rfl, h⟩
  · cases h
theorem zA1_inv {st : List Value} {k : Nat → List Value → zR} {R : Option Value × zH} (h : zA1 st k = some R) : ∃ a r, st = .ref a :: r ∧ k a r = some R := by
  unfold zA1 at h
  split at h
  · exact ⟨_, _, rfl, h⟩
  · cases h
theorem zTo_inv {pc : Nat} {off : Int} {k : Nat → zR} {R : Option Value × zH} (h : zTo pc off k = some R) : ∃ t : Nat, (pc : Int) + off = (t : Int) ∧ k t = some R := by
  unfold zTo at h
  split at h
  · rename_i t ht
    exact ⟨t, ht, h⟩
  · cases h
theorem zGo_inv {c : Prop} [Decidable c] {k : zR} {R : Option Value × zH} (h : zGo c k = some R) : c ∧ k = some R := by
  unfold zGo at h
  split at h
  · rename_i hc
    exact ⟨hc, h⟩
  · cases h
theorem zCp_inv {o i kind : Nat} {k : Nat → Nat → Int → zR} {R : Option Value × zH} (h : zCp o i kind k = some R) : ∃ a b c, zcp o i = some (kind, a, b, c) ∧ k a b c = some R := by
  unfold zCp at h
  split at h
  · rename_i q a b c hq
    split at h
    · rename_i he
      subst he
      exact ⟨a, b, c, hq, h⟩
    · cases h
  · cases h
theorem zLI_inv {L : List (Option Value)} {i : Nat} {k : Int32 → zR} {R : Option Value × zH} (h : zLI L i k = some R) : ∃ x, L[i]? = some (some (.int x)) ∧ k x = some R := by
  unfold zLI at h
  split at h
  · rename_i x hx
    exact ⟨x, hx, h⟩
  · cases h
theorem zLJ_inv {L : List (Option Value)} {i : Nat} {k : Int64 → zR} {R : Option Value × zH} (h : zLJ L i k = some R) : ∃ x, L[i]? = some (some (.long x)) ∧ k x = some R := by
  unfold zLJ at h
  split at h
  · rename_i x hx
    exact ⟨x, hx, h⟩
  · cases h
theorem zLA_inv {L : List (Option Value)} {i : Nat} {k : Nat → zR} {R : Option Value × zH} (h : zLA L i k = some R) : ∃ x, L[i]? = some (some (.ref x)) ∧ k x = some R := by
  unfold zLA at h
  split at h
  · rename_i x hx
    exact ⟨x, hx, h⟩
  · cases h
theorem zKeep_inv {h h' : zH} {L : List (Option Value)} {st : List Value} {v : Option Value} {k : zR} {R : Option Value × zH} (hr : zKeep h h' L st v k = some R) : (zNr v = true ∧ (h'.1.length = h.1.length ∨ zVs h.1.length L st = true)) ∧ k = some R := by
  unfold zKeep at hr
  obtain ⟨hv, hr⟩ := zGo_inv hr
  split at hr
  · rename_i he
    exact ⟨⟨hv, Or.inl he⟩, hr⟩
  · obtain ⟨a, b⟩ := zGo_inv hr
    exact ⟨⟨hv, Or.inr a⟩, b⟩
theorem zCnd_inv {c : Jvm.ClassFile.Cond} {x y : Int32} {k1 k2 : zR} {R : Option Value × zH} (h : zCnd c x y k1 k2 = some R) : k1 = some R ∨ k2 = some R := by
  unfold zCnd at h
  split at h <;> split at h <;> first | exact Or.inl h | exact Or.inr h
def zSl (h : zH) : Nat := (h.1.map fun q => q.2.2).sum
def zLe (h h' : zH) : Prop := h.1.length ≤ h'.1.length ∧ zSl h ≤ zSl h'
theorem zLe.rf {h : zH} : zLe h h := ⟨Nat.le_refl _, Nat.le_refl _⟩
theorem zLe.tr {a b c : zH} (h1 : zLe a b) (h2 : zLe b c) : zLe a c := ⟨Nat.le_trans h1.1 h2.1, Nat.le_trans h1.2 h2.2⟩
theorem zLe.same {h h1 h' : zH} (e : h1.1 = h.1) (k : zLe h1 h') : zLe h h' := by
  unfold zLe zSl at *
  rw [e] at k
  exact k
theorem zSl_push {h : zH} {sh : Nat × Nat × Nat} {F : zRl} {G : Nat → Nat → Int32} : zSl (h.1 ++ [sh], F, G) = zSl h + sh.2.2 := by
  unfold zSl
  simp
theorem zLe.push {h h' : zH} {sh : Nat × Nat × Nat} {F : zRl} {G : Nat → Nat → Int32} (k : zLe (h.1 ++ [sh], F, G) h') : zLe h h' := by
  unfold zLe at *
  rw [zSl_push] at k
  simp only [List.length_append, List.length_cons, List.length_nil] at k
  omega
set_option maxHeartbeats 4000000 in
theorem zdo_mono {xs : zX} {d o M : Nat} {K : zFr → zH → zR} {C : Nat → List Value → zH → (Option Value → zH → zR) → zR} {i : Instr} {len pc : Nat} {L : List (Option Value)} {st : List Value} {h h' : zH} {v : Option Value}
    (hK : ∀ f h1, K f h1 = some (v, h') → zLe h1 h') (hC : ∀ N vs h1 k, C N vs h1 k = some (v, h') → ∃ v1 h2, zLe h1 h2 ∧ k v1 h2 = some (v, h'))
    (hr : zdo xs d o M K C i len pc L st h = some (v, h')) : zLe h h' := by
  unfold zdo at hr
  split at hr
  all_goals first
    | (obtain ⟨_, _, hr⟩ := zLI_inv hr; exact hK _ _ hr)
    | (obtain ⟨_, _, hr⟩ := zLJ_inv hr; exact hK _ _ hr)
    | (obtain ⟨_, _, hr⟩ := zLA_inv hr; exact hK _ _ hr)
    | exact hK _ _ hr
    | (obtain ⟨_, _, _, _, hr⟩ := zCp_inv hr; exact hK _ _ hr)
    | (obtain ⟨_, _, _, hr⟩ := zI1_inv hr; obtain ⟨_, hr⟩ := zGo_inv hr; exact hK _ _ hr)
    | (obtain ⟨_, _, _, hr⟩ := zA1_inv hr; obtain ⟨_, hr⟩ := zGo_inv hr; exact hK _ _ hr)
    | (obtain ⟨_, _, _, hr⟩ := zJ1_inv hr; obtain ⟨_, hr⟩ := zGo_inv hr; exact hK _ _ hr)
    | (obtain ⟨_, _, hr⟩ := zTo_inv hr; exact hK _ _ hr)
    | (obtain ⟨_, _, _, _, hr⟩ := zI2_inv hr; obtain ⟨_, _, hr⟩ := zTo_inv hr; rcases zCnd_inv hr with hr | hr <;> exact hK _ _ hr)
    | (obtain ⟨_, _, _, hr⟩ := zI1_inv hr; obtain ⟨_, _, hr⟩ := zTo_inv hr; rcases zCnd_inv hr with hr | hr <;> exact hK _ _ hr)
    | (obtain ⟨_, _, _, hr⟩ := zA1_inv hr; exact hK _ _ hr)
    | (obtain ⟨_, _, _, hr⟩ := zA1_inv hr; obtain ⟨_, _, hr⟩ := zTo_inv hr; exact hK _ _ hr)
    | (obtain ⟨_, _, _, hr⟩ := zI1_inv hr; obtain ⟨_, hr⟩ := zGo_inv hr; obtain ⟨_, _, hr⟩ := zTo_inv hr; exact hK _ _ hr)
    | (obtain ⟨_, _, _, _, hr⟩ := zI2_inv hr; exact hK _ _ hr)
    | (obtain ⟨_, _, _, _, hr⟩ := zJ2_inv hr; exact hK _ _ hr)
    | (obtain ⟨_, _, _, _, hr⟩ := zI2_inv hr; obtain ⟨_, hr⟩ := zGo_inv hr; exact hK _ _ hr)
    | (obtain ⟨_, _, _, _, hr⟩ := zJ2_inv hr; obtain ⟨_, hr⟩ := zGo_inv hr; exact hK _ _ hr)
    | (obtain ⟨_, _, _, hr⟩ := zI1_inv hr; obtain ⟨_, _, _, hr⟩ := zJ1_inv hr; exact hK _ _ hr)
    | (obtain ⟨_, _, _, hr⟩ := zI1_inv hr; exact hK _ _ hr)
    | (obtain ⟨_, _, _, hr⟩ := zJ1_inv hr; exact hK _ _ hr)
    | (cases hr; done)
    | skip
  · obtain ⟨_, _, _, hr⟩ := zI1_inv hr
    split at hr
    · obtain ⟨_, _, hr⟩ := zTo_inv hr
      exact hK _ _ hr
    · split at hr
      · obtain ⟨_, _, hr⟩ := zTo_inv hr
        exact hK _ _ hr
      · cases hr
  · split at hr
    · exact hK _ _ (zGo_inv hr).2
    · cases hr
  · split at hr
    · exact hK _ _ (zGo_inv hr).2
    · cases hr
  · obtain ⟨_, _, _, hr⟩ := zA1_inv hr
    obtain ⟨_, _, _, _, hr⟩ := zCp_inv hr
    split at hr
    · obtain ⟨_, hr⟩ := zGo_inv hr
      split at hr
      · exact hK _ _ hr
      · exact hK _ _ hr
      · cases hr
    · cases hr
  · split at hr
    · obtain ⟨_, _, _, _, hr⟩ := zCp_inv hr
      split at hr
      · obtain ⟨_, hr⟩ := zGo_inv hr
        split at hr
        · have q := hK _ _ hr; exact q
        · have q := hK _ _ (zGo_inv hr).2; exact q
        · cases hr
      · cases hr
    · obtain ⟨_, _, _, _, hr⟩ := zCp_inv hr
      split at hr
      · obtain ⟨_, hr⟩ := zGo_inv hr
        split at hr
        · have q := hK _ _ (zGo_inv hr).2; exact q
        · cases hr
      · cases hr
    · cases hr
  · obtain ⟨_, _, _, hr⟩ := zI1_inv hr
    obtain ⟨_, _, _, hr⟩ := zA1_inv hr
    split at hr
    · exact hK _ _ (zGo_inv hr).2
    · cases hr
    · split at hr
      · exact hK _ _ (zGo_inv hr).2
      · cases hr
  · obtain ⟨_, _, _, hr⟩ := zI1_inv hr
    obtain ⟨_, _, _, hr⟩ := zA1_inv hr
    split at hr
    · exact hK _ _ (zGo_inv hr).2
    · cases hr
  · obtain ⟨_, _, _, _, hr⟩ := zI2_inv hr
    obtain ⟨_, _, _, hr⟩ := zA1_inv hr
    split at hr
    · have q := hK _ _ (zGo_inv hr).2; exact q
    · cases hr
  · obtain ⟨_, _, _, _, hr⟩ := zI2_inv hr
    obtain ⟨_, _, _, hr⟩ := zA1_inv hr
    split at hr
    · have q := hK _ _ (zGo_inv hr).2; exact q
    · cases hr
  · obtain ⟨_, _, _, hr⟩ := zA1_inv hr
    split at hr
    · exact hK _ _ hr
    · cases hr
    · split at hr
      · exact hK _ _ hr
      · cases hr
  · obtain ⟨_, _, _, hr⟩ := zI1_inv hr
    split at hr
    · exact zLe.push (hK _ _ (zGo_inv hr).2)
    · exact zLe.push (hK _ _ (zGo_inv hr).2)
    · cases hr
  · obtain ⟨_, _, _, _, hr⟩ := zCp_inv hr
    exact zLe.push (hK _ _ (zGo_inv hr).2)
  · split at hr
    · obtain ⟨_, hr⟩ := zGo_inv hr
      obtain ⟨_, _, h1, hr⟩ := hC _ _ _ _ hr
      exact h1.tr (hK _ _ (zKeep_inv hr).2)
    · split at hr
      · split at hr
        · have q := hK _ _ (zGo_inv hr).2; exact q
        · cases hr
      · cases hr
    · obtain ⟨_, _, _, _, hr⟩ := zI2_inv hr
      exact hK _ _ (zGo_inv hr).2
    · obtain ⟨_, _, _, _, hr⟩ := zI2_inv hr
      exact hK _ _ (zGo_inv hr).2
    · obtain ⟨_, _, _, _, hr⟩ := zJ2_inv hr
      exact hK _ _ (zGo_inv hr).2
    · cases hr
  · obtain ⟨_, _, _, _, hr⟩ := zCp_inv hr
    split at hr
    · split at hr
      · obtain ⟨_, hr⟩ := zGo_inv hr
        obtain ⟨_, _, h1, hr⟩ := hC _ _ _ _ hr
        exact h1.tr (hK _ _ (zKeep_inv hr).2)
      · cases hr
    · cases hr
  · split at hr
    · split at hr
      · obtain ⟨_, hr⟩ := zGo_inv hr
        obtain ⟨_, _, h1, hr⟩ := hC _ _ _ _ hr
        exact h1.tr (hK _ _ (zKeep_inv hr).2)
      · cases hr
    · split at hr
      · exact hK _ _ (zGo_inv hr).2
      · cases hr
    · cases hr
  · split at hr
    · split at hr
      · cases hr
        exact zLe.rf
      · cases (zGo_inv hr).2
        exact zLe.rf
      · cases hr
    · cases hr
  · split at hr
    · cases (zGo_inv hr).2
      exact zLe.rf
    · cases hr
  · split at hr
    · cases (zGo_inv hr).2
      exact zLe.rf
    · cases hr
theorem zrun_mono : ∀ (n : Nat) {xs : zX} {d M : Nat} {f : zFr} {h h' : zH} {v : Option Value}, zrun xs n d M f h = some (v, h') → zLe h h'
  | 0, xs, d, M, f, h, h', v, hr => by cases hr
  | n + 1, xs, d, M, f, h, h', v, hr => by
    unfold zrun at hr
    split at hr
    · cases hr
    · refine zdo_mono (fun f h1 hk => zrun_mono n hk) (fun N vs h1 k hk => ?_) hr
      cases d with
      | zero => cases hk
      | succ d =>
        obtain ⟨_, hk⟩ := zGo_inv hk
        split at hk
        · rename_i v1 h2 hz
          exact ⟨v1, h2, zrun_mono n hz, hk⟩
        · cases hk
end
section
def zZW : List Jvm.Cond := lw_tbl.filter goodWord
theorem zZW_of {w : Jvm.Cond} (h : w ∈ lw_tbl) (g : goodWord w = true) : w ∈ zZW := List.mem_filter.mpr ⟨h, g⟩
def zIsN : Jvm.Cond → Bool
  | .fieldLinkNest _ _ _ _ _ _ => true
  | .methodLinkNest _ _ _ _ => true
  | _ => false
def zNK (U : State) : Prop := ∀ w ∈ lw_tbl, zIsN w = true → va_Nw w U
theorem zNK.warm {s U : State} (hW : s.WarmedH U.vm) (h : zNK s) : zNK U := by
  intro w hw hn
  have q := h w hw hn
  cases w <;> first | (cases hn; done) | exact va_Nw.warmF hW q | exact va_Nw.warmM hW q
theorem zNK.same {s U : State} (e : s.vm = U.vm) (h : zNK s) : zNK U := by
  intro w hw hn
  have q := h w hw hn
  cases w <;> first | (cases hn; done) | exact va_Nw.same rfl e q
def zWs (M : Nat) : List Jvm.Cond := .code (zYn M) (zBy M) (zMl M) (zRt M) :: zZW
abbrev zTys (cI cZ : ClassId) : List (ClassId × FieldType) := [(cI, .int), (cZ, .boolean)]
def zPre (D : va_G) (cI cZ : ClassId) (b : Nat) (vs : List Value) (σ : List Nat) (h : zH) (sz : Nat) : Array Value → State → Prop :=
  va_Pc (vs.map (zVal b σ)) (fun U => U.heap.size = sz ∧ va_P D zcls (zWl cI cZ b σ h) U.heap ∧ va_K D zcls (zTys cI cZ) U ∧ va_D (fun _ => True) (zWl cI cZ b σ h) ∧ zNK U)
def zQc (D : va_G) (cI cZ : ClassId) (b : Nat) (σ : List Nat) (h' : zH) (v : Option Value) (A : Nat → Prop) : Array Value → State → Outcome → State → Prop :=
  fun _ st o t => (∃ σ' : List Nat, o = .returned v ∧ σ <+: σ' ∧ σ'.length = h'.1.length ∧ va_P D zcls (zWl cI cZ b σ' h') t.heap ∧ va_D A (zWl cI cZ b σ' h')) ∧ va_F A st t
theorem zPre_blind {D : va_G} {cI cZ : ClassId} {b : Nat} {vs : List Value} {σ : List Nat} {h : zH} {sz : Nat} : FrameBlind (zPre D cI cZ b vs σ h sz) := by
  intro a U g mk q
  obtain ⟨q0, q1, qP, qK, qD, qN⟩ := q
  exact ⟨q0, q1, qP, va_K.moved (u := U) (U := U.calling g mk a) (Vm.Alike.refl U.vm) qK, qD, zNK.same (s := U) (U := U.calling g mk a) rfl qN⟩
def zLc (b : Nat) (σ : List Nat) (nL : Nat) (L : List (Option Value)) (ls : Array Slot) : Prop := ls.size = nL ∧ L.length = nL ∧ lv_wf ls ∧ ∀ (i : Nat) (v : Value), L[i]? = some (some v) → ls[i]? = some (.val (zVal b σ v))
def zPs (b : Nat) (σ : List Nat) (nL : Nat) (L : List (Option Value)) : List (Nat × Value) := (List.range nL).filterMap fun i => (L[i]?).join.map fun v => (i, zVal b σ v)
theorem zPs_mem {b : Nat} {σ : List Nat} {nL : Nat} {L : List (Option Value)} {i : Nat} {v : Value} (hl : L.length = nL) (h : L[i]? = some (some v)) : (i, zVal b σ v) ∈ zPs b σ nL L := by
  unfold zPs
  refine List.mem_filterMap.mpr ⟨i, List.mem_range.mpr ?_, ?_⟩
  · rw [← hl]
    exact (List.getElem?_eq_some_iff.mp h).1
  · rw [h]
    rfl
theorem zPs_has {b : Nat} {σ : List Nat} {nL : Nat} {L : List (Option Value)} {ls : Array Slot} (h : zLc b σ nL L ls) : lv_has ls nL (zPs b σ nL L) := by
  obtain ⟨h1, h2, h3, h4⟩ := h
  refine ⟨h1, h3, fun q hq => ?_⟩
  unfold zPs at hq
  obtain ⟨i, -, hi⟩ := List.mem_filterMap.mp hq
  cases hv : (L[i]?).join with
  | none => rw [hv] at hi; cases hi
  | some v =>
    rw [hv] at hi
    cases hi
    exact h4 i v (Option.join_eq_some_iff.mp hv)
theorem zClr_len (i : Nat) (L : List (Option Value)) : (zClr i L).length = L.length := by
  unfold zClr
  split
  · rfl
  · split
    · split
      · simp
      · rfl
    · rfl
theorem zClr_get {i j : Nat} {L : List (Option Value)} {w : Value} (h : (zClr i L)[j]? = some (some w)) : L[j]? = some (some w) ∧ ¬ (j + 1 = i ∧ w.category = 2) := by
  unfold zClr at h
  split at h
  · exact ⟨h, by omega⟩
  · rename_i k
    split at h
    · rename_i v hv
      split at h
      · by_cases hj : k = j
        · subst hj
          rw [List.getElem?_set] at h
          split at h
          · split at h <;> cases h
          · rename_i hne
            exact absurd rfl hne
        · rw [List.getElem?_set_ne hj] at h
          exact ⟨h, fun q => hj (by omega)⟩
      · rename_i hc
        refine ⟨h, fun q => hc ?_⟩
        obtain ⟨q1, q2⟩ := q
        have hjk : j = k := by omega
        subst hjk
        rw [h] at hv
        cases hv
        exact q2
    · rename_i hv
      refine ⟨h, fun q => ?_⟩
      obtain ⟨q1, q2⟩ := q
      have hjk : j = k := by omega
      subst hjk
      exact hv w h
theorem zLc_s1 {b : Nat} {σ : List Nat} {nL i : Nat} {L : List (Option Value)} {ls ls' : Array Slot} {v : Value} (h : zLc b σ nL L ls) (hi : i < L.length) (h' : lv_has ls' nL ((i, zVal b σ v) :: (zPs b σ nL L).filter (fun q => !(q.1 == i) && !(q.1 + 1 == i && q.2.category == 2)))) : zLc b σ nL (zS1 L i v) ls' := by
  refine ⟨h'.1, ?_, h'.2.1, fun j w hw => ?_⟩
  · unfold zS1
    rw [List.length_set, zClr_len, h.2.1]
  · unfold zS1 at hw
    by_cases hj : i = j
    · subst hj
      rw [List.getElem?_set_self (by rw [zClr_len]; exact hi)] at hw
      cases hw
      exact h'.2.2 _ List.mem_cons_self
    · rw [List.getElem?_set_ne hj] at hw
      obtain ⟨h1, h2⟩ := zClr_get hw
      refine h'.2.2 (j, zVal b σ w) (List.mem_cons_of_mem _ (List.mem_filter.mpr ⟨zPs_mem h.2.1 h1, ?_⟩))
      simp only [zVal_cat, Bool.and_eq_true, Bool.not_eq_true', beq_eq_false_iff_ne, ne_eq, Bool.and_eq_false_iff]
      refine ⟨fun q => hj q.symm, ?_⟩
      by_cases q : j + 1 = i
      · exact Or.inr fun z => h2 ⟨q, z⟩
      · exact Or.inl q
theorem zLc_s2 {b : Nat} {σ : List Nat} {nL i : Nat} {L : List (Option Value)} {ls ls' : Array Slot} {v : Value} (h : zLc b σ nL L ls) (hi : i + 1 < L.length) (h' : lv_has ls' nL ((i, zVal b σ v) :: (zPs b σ nL L).filter (fun q => !(q.1 == i) && (!(q.1 == i + 1) && !(q.1 + 1 == i && q.2.category == 2))))) : zLc b σ nL (zS2 L i v) ls' := by
  refine ⟨h'.1, ?_, h'.2.1, fun j w hw => ?_⟩
  · unfold zS2
    rw [List.length_set, List.length_set, zClr_len, h.2.1]
  · unfold zS2 at hw
    by_cases hk : i + 1 = j
    · subst hk
      rw [List.getElem?_set_self (by rw [List.length_set, zClr_len]; exact hi)] at hw
      cases hw
    · rw [List.getElem?_set_ne hk] at hw
      by_cases hj : i = j
      · subst hj
        rw [List.getElem?_set_self (by rw [zClr_len]; omega)] at hw
        cases hw
        exact h'.2.2 _ List.mem_cons_self
      · rw [List.getElem?_set_ne hj] at hw
        obtain ⟨h1, h2⟩ := zClr_get hw
        refine h'.2.2 (j, zVal b σ w) (List.mem_cons_of_mem _ (List.mem_filter.mpr ⟨zPs_mem h.2.1 h1, ?_⟩))
        simp only [zVal_cat, Bool.and_eq_true, Bool.not_eq_true', beq_eq_false_iff_ne, ne_eq, Bool.and_eq_false_iff]
        refine ⟨fun q => hj q.symm, fun q => hk q.symm, ?_⟩
        by_cases q : j + 1 = i
        · exact Or.inr fun z => h2 ⟨q, z⟩
        · exact Or.inl q
theorem zLc_pre {b : Nat} {σ σ' : List Nat} {nL : Nat} {L : List (Option Value)} {st : List Value} {ls : Array Slot} (h : zLc b σ nL L ls) (hp : σ <+: σ') (hv : zVs σ.length L st = true) : zLc b σ' nL L ls ∧ st.map (zVal b σ') = st.map (zVal b σ) := by
  unfold zVs at hv
  rw [Bool.and_eq_true] at hv
  refine ⟨⟨h.1, h.2.1, h.2.2.1, fun i v hi => ?_⟩, List.map_congr_left fun v hv2 => ?_⟩
  · rw [h.2.2.2 i v hi]
    have h1 := List.all_eq_true.mp hv.1 (some v) (List.mem_of_getElem? hi)
    rw [zVal_pre hp h1]
  · exact zVal_pre hp (List.all_eq_true.mp hv.2 v hv2)
theorem zArg_at {b : Nat} {σ : List Nat} : ∀ (vs : List Value), (lg_sl (vs.map (zVal b σ))).length = (zArgs vs).length ∧ ∀ (i : Nat) (v : Value), (zArgs vs)[i]? = some (some v) → (lg_sl (vs.map (zVal b σ)))[i]? = some (.val (zVal b σ v))
  | [] => ⟨rfl, fun i v h => by simp [zArgs] at h⟩
  | a :: t => by
    obtain ⟨h1, h2⟩ := zArg_at (b := b) (σ := σ) t
    have e1 : zArgs (a :: t) = (if a.category = 2 then [some a, none] else [some a]) ++ zArgs t := by simp [zArgs]
    have e2 : lg_sl ((a :: t).map (zVal b σ)) = (if a.category = 2 then [.val (zVal b σ a), .second] else [.val (zVal b σ a)]) ++ lg_sl (t.map (zVal b σ)) := by
      simp only [lg_sl, List.map_cons, List.flatMap_cons, zVal_cat]
    rw [e1, e2]
    by_cases hc : a.category = 2
    · rw [if_pos hc, if_pos hc]
      refine ⟨by simp [h1], fun i v hv => ?_⟩
      match i, hv with
      | 0, hv => cases hv; rfl
      | 1, hv => cases hv
      | i + 2, hv => exact h2 i v hv
    · rw [if_neg hc, if_neg hc]
      refine ⟨by simp [h1], fun i v hv => ?_⟩
      match i, hv with
      | 0, hv => cases hv; rfl
      | i + 1, hv => exact h2 i v hv
theorem zLc_entry {b : Nat} {σ : List Nat} {vs : List Value} {n : Nat} (h : (zArgs vs).length ≤ n) : zLc b σ n (zEnt n vs).2.1 ((lg_sl (vs.map (zVal b σ)) ++ List.replicate (n - (lg_sl (vs.map (zVal b σ))).length) Slot.unset).toArray) := by
  obtain ⟨h1, h2⟩ := zArg_at (b := b) (σ := σ) vs
  have h3 := lv_entry (vs.map (zVal b σ)) (n := n) (by rw [h1]; exact h)
  refine ⟨h3.1, ?_, h3.2.1, fun i v hv => ?_⟩
  · simp [zEnt]
    omega
  · have hv : (zArgs vs ++ List.replicate (n - (zArgs vs).length) none)[i]? = some (some v) := hv
    by_cases hi : i < (zArgs vs).length
    · rw [List.getElem?_append_left hi] at hv
      rw [List.getElem?_toArray, List.getElem?_append_left (by rw [h1]; exact hi)]
      exact h2 i v hv
    · rw [List.getElem?_append_right (by omega)] at hv
      have := List.mem_replicate.mp (List.mem_of_getElem? hv)
      cases this.2
end
section
/-! THE INTERPRETER IS SOUND: what it answers, the machine answers -/
def zCx (p : Program) (s : State) (m : MethodId) (args : Array Value) (meth : Method) (c : Code) (D : va_G) (cI cZ : ClassId) (A : Nat → Prop) (M : Nat) : Prop :=
  p.tables.exec = Jvm.exec ∧ c.code = zBy M ∧ c.maxLocals = zMl M ∧ s.vm.findClass (zOn (zOw M)) = some m.cls ∧ (∀ w ∈ zZW, w.before args s = true) ∧ zNK s ∧ va_K D zcls (zTys cI cZ) s ∧ meth.sig.returnType = zRt M ∧ meth.locks = false ∧ (zKd M = 2 → meth.name = "<init>") ∧ (∀ q, s.heap.size ≤ q → A q)
def zG (D : va_G) (cI cZ : ClassId) (A : Nat → Prop) (b : Nat) (s : State) (σ : List Nat) (h : zH) (H : Heap) (locs : List Loc) : Prop :=
  va_P D zcls (zWl cI cZ b σ h) H ∧ va_D A (zWl cI cZ b σ h) ∧ va_S A s.heap H locs ∧ σ.length = h.1.length
def zXs (A : Nat → Prop) (b : Nat) (s : State) : zX → Prop
  | none => True
  | some (L, g) => va_X b L g s s.heap ∧ b < s.heap.size ∧ ¬ A b
def zFin (M pc : Nat) (v : Option Value) : Prop := match v with
  | none => decode (zBy M) pc = .ok (.return_, 1) ∧ zRt M = none
  | some (.int x) => decode (zBy M) pc = .ok (.ireturn, 1) ∧ (zRt M = some .int ∨ zRt M = some .boolean ∧ (x = 0 ∨ x = 1))
  | some (.long _) => decode (zBy M) pc = .ok (.lreturn, 1) ∧ zRt M = some .long
  | _ => False
def zEn (p : Program) (l : Launch) (e : Env) (R : Room) (s : State) (m : MethodId) (args : Array Value) (below : List Frame) (meth : Method) (c : Code) (Q : State → Prop) (D : va_G) (cI cZ : ClassId) (A : Nat → Prop) (b M tc ts : Nat) (σ : List Nat) (v : Option Value) (h' : zH) : Prop :=
  ∀ (σ' : List Nat) (H' : Heap) (locs' : List Loc) (pc : Nat) (ls' : Array Slot), zG D cI cZ A b s σ' h' H' locs' → σ <+: σ' → zFin M pc v → W p l e R s m args below meth c H' locs' tc ts Q (F0 m pc ls' v.toList)
def zWst (l : Launch) (D : va_G) (cI cZ : ClassId) (n : Nat) : Prop :=
  ∀ (p : Program) (e : Env) (R : Room) (s : State) (m : MethodId) (args : Array Value) (below : List Frame) (meth : Method) (c : Code) (Q : State → Prop) (A : Nat → Prop) (b M tc ts : Nat) (xs : zX) (d : Nat) (f : zFr) (h h' : zH) (v : Option Value) (σ : List Nat) (H : Heap) (locs : List Loc) (cells slots : Nat) (ls : Array Slot),
    zrun xs n d M f h = some (v, h') → zCx p s m args meth c D cI cZ A M → d ≤ R.frames → 42 * d ≤ R.locals → tc ≤ R.cells → ts ≤ R.slots → cells + h'.1.length = tc + h.1.length → slots + zSl h' = ts + zSl h →
    zG D cI cZ A b s σ h H locs → zXs A b s xs → zLc b σ (zMl M) f.2.1 ls → zEn p l e R s m args below meth c Q D cI cZ A b M tc ts σ v h' →
    W p l e R s m args below meth c H locs cells slots Q (F0 m f.1 ls (f.2.2.map (zVal b σ)))
/-- a method's contract, out of its run -/
theorem z_met {l : Launch} {D : va_G} {cI cZ : ClassId} {n : Nat} (hn : zWst l D cI cZ n) {N d : Nat} {vs : List Value} {h h' : zH} {v : Option Value} (hk : zKd N ≤ 2) (hi : zKd N = 2 → (zYn N).name = "<init>") (hL : (zArgs vs).length ≤ zMl N) (hr : zrun none n d N (zEnt (zMl N) vs) h = some (v, h')) (b : Nat) (σ : List Nat) (sz : Nat) (hσ : σ.length = h.1.length) :
    Met l (zYn N) (zWs N) { frames := d, cells := h'.1.length - h.1.length, slots := zSl h' - zSl h, locals := 42 * d } (zPre D cI cZ b vs σ h sz) (zQc D cI cZ b σ h' v (va_A (zWl cI cZ b σ h) sz)) (h'.1.length - h.1.length) (zSl h' - zSl h) (va_A (zWl cI cZ b σ h) sz) := by
  obtain ⟨hy, hown0, -, -, -⟩ := zHd hk
  refine Met.ofW (cc := zBy N) (maxL := zMl N) (ret := zRt N) hy rfl ?_
  intro p e s m args below meth c s₁ B hml hv
  obtain ⟨rfl, hsz, hP, hK, hD0, hNK⟩ := hv
  have hts := atoms_spec (ws := zWs N) B.pre
  subst hsz
  have hD := hD0.self (sz := s.heap.size)
  have hmo := zrun_mono n hr
  have e1 : entryFrame m ((vs.map (zVal b σ)).toArray) (zMl N) = F0 m 0 ((lg_sl (vs.map (zVal b σ)) ++ List.replicate (zMl N - (lg_sl (vs.map (zVal b σ))).length) Slot.unset).toArray) [] := lg_entry_eq _ _ _
  rw [e1]
  refine hn p e _ s m _ below meth c _ (va_A (zWl cI cZ b σ h) s.heap.size) b N (h'.1.length - h.1.length) (zSl h' - zSl h) none d (zEnt (zMl N) vs) h h' v σ s.heap [] 0 0 _ hr ?_ (Nat.le_refl _) (Nat.le_refl _) (Nat.le_refl _) (Nat.le_refl _) ?_ ?_ ⟨hP, hD, va_S.rf, hσ⟩ trivial (zLc_entry hL) ?_
  · refine ⟨B.exec, B.bytes, hml, ?_, fun w hw => hts w (List.mem_cons_of_mem _ hw), hNK, hK, B.returns, B.notSynchronized, fun h2 => ?_, fun q hq => Or.inr hq⟩
    · rw [← hown0]
      exact findClass_of_methodNamed B.named
    · rw [(name_of_methodNamed B.named B.method).1]
      exact hi h2
  · have := hmo.1
    omega
  · have := hmo.2
    omega
  · intro σ' H' locs' pc ls' hG hp hf
    obtain ⟨hP', hD', hS', hl'⟩ := hG
    have post : ∀ t : State, t.heap = H' → zQc D cI cZ b σ h' v (va_A (zWl cI cZ b σ h) s.heap.size) (vs.map (zVal b σ)).toArray s (.returned v) t := fun t ht => ⟨⟨σ', rfl, hp, hl', by rw [ht]; exact hP', hD'⟩, hS'.F ht⟩
    match v, hf, post with
    | none, hf, post => exact W.vret B.exec B.bytes (B.returns.trans hf.2) (fun t ht _ => post t ht) hS'.2.2 hf.1 B.notSynchronized
    | some (.int x), hf, post =>
      obtain ⟨hd, hr2⟩ := hf
      rcases hr2 with hr2 | ⟨hr2, hx⟩
      · exact W.iret B.exec B.bytes (B.returns.trans hr2) (fun t ht _ => post t ht) hS'.2.2 hd B.notSynchronized
      · exact W.zret B.exec B.bytes (B.returns.trans hr2) (by rcases hx with rfl | rfl <;> decide +kernel) (fun t ht _ => post t ht) hS'.2.2 hd B.notSynchronized
    | some (.long x), hf, post => exact W.lret B.exec B.bytes (B.returns.trans hf.2) (fun t ht _ => post t ht) hS'.2.2 hf.1 B.notSynchronized
/-- behind a call -/
theorem z_call {p : Program} {l : Launch} {e : Env} {R : Room} {s : State} {m : MethodId} {args : Array Value} {below : List Frame} {meth : Method} {c : Code} {Q : State → Prop} {H : Heap} {locs : List Loc} {cells slots mc ms pc : Nat} {ls : Array Slot} {st0 rest : List Value} {D : va_G} {cI cZ : ClassId} {A A1 : Nat → Prop} {b : Nat} {σ : List Nat} {h' : zH} {v : Option Value} {a : Array Value} {free : Addr → Prop}
    (hr : va_Run p l e R s m args below meth c H locs cells slots mc ms (F0 m pc ls st0) rest (zQc D cI cZ b σ h' v A1 a) free) (hS : va_S A s.heap H locs) (hA : ∀ q, A1 q → A q) (hf : ∀ q, free q → A q)
    (kk : ∀ (σ' : List Nat) (H1 : Heap) (locs1 : List Loc), zG D cI cZ A b s σ' h' H1 locs1 → σ <+: σ' → W p l e R s m args below meth c H1 locs1 (cells + mc) (slots + ms) Q (F0 m (pc + 3) ls (v.toList ++ rest))) :
    W p l e R s m args below meth c H locs cells slots Q (F0 m pc ls st0) := by
  intro T hT X
  obtain ⟨v0, st₀, t, T', L, h0, X', hL, e1, e2, ⟨⟨σ', hv, hp, hl, hP, hD⟩, hz, hk⟩, st⟩ := hr T hT X
  cases hv
  rw [h0] at hz hk
  obtain ⟨t2, a1, b1⟩ := kk σ' T'.heap (locs ++ L) ⟨by rw [e1]; exact hP, hD.weaken (fun _ _ _ q => hA _ q),
    ⟨Nat.le_trans hS.1 (by rw [e1]; exact hz), fun q h1 h2 => by rw [e1, hk q (Nat.lt_of_lt_of_le h1 hS.1) (fun z => h2 (hA q z))]; exact hS.2.1 q h1 h2, fun q hq => by
      rcases List.mem_append.mp hq with h | h
      · exact hS.2.2 q h
      · exact hf _ (hL q h)⟩, hl⟩ hp T' rfl X'
  exact ⟨t2, st t2 a1, b1⟩
theorem z_frA {A : Nat → Prop} {cI cZ : ClassId} {b : Nat} {σ : List Nat} {h : zH} {s : State} {H : Heap} {locs : List Loc} (hD : va_D A (zWl cI cZ b σ h)) (hS : va_S A s.heap H locs) (hA : ∀ q, s.heap.size ≤ q → A q) : ∀ q, va_A (zWl cI cZ b σ h) H.size q → A q := by
  intro q hq
  rcases hq with ⟨k, e, hk⟩ | hq
  · exact hD.2 k (q, e) hk
  · exact hA q (Nat.le_trans hS.1 hq)
end
section
set_option maxRecDepth 100000
def zFk : FieldType → Nat
  | .int => 0
  | .boolean => 1
  | .object _ => 2
  | .array _ => 2
  | _ => 9
def zClOk (ci : Nat) (q : vw_C) : Prop := (∀ w ∈ u_ws q.1 q.2.1 q.2.2, w ∈ zZW) ∧ (∀ a, a < q.2.2 → ∀ b, b < q.2.2 → a ≠ b → (q.2.1 a).2.1 ≠ (q.2.1 b).2.1) ∧ zFn ci = q.2.2 ∧ q.1 = zOn ci ∧ ∃ ty : Nat → FieldType, (∀ k, k < q.2.2 → parseFieldDescriptor (q.2.1 k).2.2.1 = some (ty k)) ∧ ∀ k, k < q.2.2 → zFd ci k = some (zFk (ty k), (q.2.1 k).2.2.2) ∧ (q.2.1 k).1 = q.1
theorem zqa_0 : zFn 0 = 6 ∧ RX0 = zOn 0 := by decide +kernel
theorem zqb_0 : ∀ k, k < 6 → zFd 0 k = some (zFk (tyX0 k), (TX0 k).2.2.2) ∧ (TX0 k).1 = RX0 := by decide +kernel
theorem zqg_0 : ∀ w ∈ u_ws RX0 TX0 6, goodWord w = true := by decide +kernel
theorem zql_0 : zClOk 0 (RX0, TX0, 6) := ⟨fun w hw => zZW_of (zu_0 w hw) (zqg_0 w hw), nmX0, zqa_0.1, zqa_0.2, tyX0, tyX0_ok, zqb_0⟩
theorem zqa_1 : zFn 1 = 8 ∧ RX1 = zOn 1 := by decide +kernel
theorem zqb_1 : ∀ k, k < 8 → zFd 1 k = some (zFk (tyX1 k), (TX1 k).2.2.2) ∧ (TX1 k).1 = RX1 := by decide +kernel
theorem zqg_1 : ∀ w ∈ u_ws RX1 TX1 8, goodWord w = true := by decide +kernel
theorem zql_1 : zClOk 1 (RX1, TX1, 8) := ⟨fun w hw => zZW_of (zu_1 w hw) (zqg_1 w hw), nmX1, zqa_1.1, zqa_1.2, tyX1, tyX1_ok, zqb_1⟩
theorem zqa_2 : zFn 2 = 1 ∧ RX2 = zOn 2 := by decide +kernel
theorem zqb_2 : ∀ k, k < 1 → zFd 2 k = some (zFk (tyX2 k), (TX2 k).2.2.2) ∧ (TX2 k).1 = RX2 := by decide +kernel
theorem zqg_2 : ∀ w ∈ u_ws RX2 TX2 1, goodWord w = true := by decide +kernel
theorem zql_2 : zClOk 2 (RX2, TX2, 1) := ⟨fun w hw => zZW_of (zu_2 w hw) (zqg_2 w hw), nmX2, zqa_2.1, zqa_2.2, tyX2, tyX2_ok, zqb_2⟩
theorem zqa_3 : zFn 3 = 2 ∧ RX3 = zOn 3 := by decide +kernel
theorem zqb_3 : ∀ k, k < 2 → zFd 3 k = some (zFk (tyX3 k), (TX3 k).2.2.2) ∧ (TX3 k).1 = RX3 := by decide +kernel
theorem zqg_3 : ∀ w ∈ u_ws RX3 TX3 2, goodWord w = true := by decide +kernel
theorem zql_3 : zClOk 3 (RX3, TX3, 2) := ⟨fun w hw => zZW_of (zu_3 w hw) (zqg_3 w hw), nmX3, zqa_3.1, zqa_3.2, tyX3, tyX3_ok, zqb_3⟩
theorem zqa_4 : zFn 4 = 4 ∧ RX4 = zOn 4 := by decide +kernel
theorem zqb_4 : ∀ k, k < 4 → zFd 4 k = some (zFk (tyX4 k), (TX4 k).2.2.2) ∧ (TX4 k).1 = RX4 := by decide +kernel
theorem zqg_4 : ∀ w ∈ u_ws RX4 TX4 4, goodWord w = true := by decide +kernel
theorem zql_4 : zClOk 4 (RX4, TX4, 4) := ⟨fun w hw => zZW_of (zu_4 w hw) (zqg_4 w hw), nmX4, zqa_4.1, zqa_4.2, tyX4, tyX4_ok, zqb_4⟩
theorem zqa_5 : zFn 5 = 1 ∧ RX5 = zOn 5 := by decide +kernel
theorem zqb_5 : ∀ k, k < 1 → zFd 5 k = some (zFk (tyX5 k), (TX5 k).2.2.2) ∧ (TX5 k).1 = RX5 := by decide +kernel
theorem zqg_5 : ∀ w ∈ u_ws RX5 TX5 1, goodWord w = true := by decide +kernel
theorem zql_5 : zClOk 5 (RX5, TX5, 1) := ⟨fun w hw => zZW_of (zu_5 w hw) (zqg_5 w hw), nmX5, zqa_5.1, zqa_5.2, tyX5, tyX5_ok, zqb_5⟩
theorem zqa_6 : zFn 6 = 5 ∧ RX6 = zOn 6 := by decide +kernel
theorem zqb_6 : ∀ k, k < 5 → zFd 6 k = some (zFk (tyX6 k), (TX6 k).2.2.2) ∧ (TX6 k).1 = RX6 := by decide +kernel
theorem zqg_6 : ∀ w ∈ u_ws RX6 TX6 5, goodWord w = true := by decide +kernel
theorem zql_6 : zClOk 6 (RX6, TX6, 5) := ⟨fun w hw => zZW_of (zu_6 w hw) (zqg_6 w hw), nmX6, zqa_6.1, zqa_6.2, tyX6, tyX6_ok, zqb_6⟩
theorem zqa_7 : zFn 7 = 1 ∧ RX7 = zOn 7 := by decide +kernel
theorem zqb_7 : ∀ k, k < 1 → zFd 7 k = some (zFk (tyX7 k), (TX7 k).2.2.2) ∧ (TX7 k).1 = RX7 := by decide +kernel
theorem zqg_7 : ∀ w ∈ u_ws RX7 TX7 1, goodWord w = true := by decide +kernel
theorem zql_7 : zClOk 7 (RX7, TX7, 1) := ⟨fun w hw => zZW_of (zu_7 w hw) (zqg_7 w hw), nmX7, zqa_7.1, zqa_7.2, tyX7, tyX7_ok, zqb_7⟩
theorem zqa_8 : zFn 8 = 2 ∧ RX8 = zOn 8 := by decide +kernel
theorem zqb_8 : ∀ k, k < 2 → zFd 8 k = some (zFk (tyX8 k), (TX8 k).2.2.2) ∧ (TX8 k).1 = RX8 := by decide +kernel
theorem zqg_8 : ∀ w ∈ u_ws RX8 TX8 2, goodWord w = true := by decide +kernel
theorem zql_8 : zClOk 8 (RX8, TX8, 2) := ⟨fun w hw => zZW_of (zu_8 w hw) (zqg_8 w hw), nmX8, zqa_8.1, zqa_8.2, tyX8, tyX8_ok, zqb_8⟩
theorem zqa_9 : zFn 9 = 11 ∧ RX9 = zOn 9 := by decide +kernel
theorem zqb_9 : ∀ k, k < 11 → zFd 9 k = some (zFk (tyX9 k), (TX9 k).2.2.2) ∧ (TX9 k).1 = RX9 := by decide +kernel
theorem zqg_9 : ∀ w ∈ u_ws RX9 TX9 11, goodWord w = true := by decide +kernel
theorem zql_9 : zClOk 9 (RX9, TX9, 11) := ⟨fun w hw => zZW_of (zu_9 w hw) (zqg_9 w hw), nmX9, zqa_9.1, zqa_9.2, tyX9, tyX9_ok, zqb_9⟩
theorem zqa_10 : zFn 10 = 32 ∧ RX10 = zOn 10 := by decide +kernel
theorem zqb_10 : ∀ k, k < 32 → zFd 10 k = some (zFk (tyX10 k), (TX10 k).2.2.2) ∧ (TX10 k).1 = RX10 := by decide +kernel
theorem zqg_10 : ∀ w ∈ u_ws RX10 TX10 32, goodWord w = true := by decide +kernel
theorem zql_10 : zClOk 10 (RX10, TX10, 32) := ⟨fun w hw => zZW_of (zu_10 w hw) (zqg_10 w hw), nmX10, zqa_10.1, zqa_10.2, tyX10, tyX10_ok, zqb_10⟩
theorem zql {ci : Nat} {q : vw_C} (h : zcls[ci]? = some q) : zClOk ci q := by
  match ci, h with
  | 0, h => cases h; exact zql_0
  | 1, h => cases h; exact zql_1
  | 2, h => cases h; exact zql_2
  | 3, h => cases h; exact zql_3
  | 4, h => cases h; exact zql_4
  | 5, h => cases h; exact zql_5
  | 6, h => cases h; exact zql_6
  | 7, h => cases h; exact zql_7
  | 8, h => cases h; exact zql_8
  | 9, h => cases h; exact zql_9
  | 10, h => cases h; exact zql_10
  | n + 11, h => cases h
theorem zFd_lt {ci k : Nat} {x : Nat × Bool} (h : zFd ci k = some x) : k < zFn ci := by
  unfold zFd at h
  unfold zFn
  cases hz : zfd[ci]? with
  | none => rw [hz] at h; cases h
  | some l =>
    rw [hz] at h
    have h1 : l[k]? = some x := h
    have h2 : zfd.getD ci [] = l := by simp [List.getD, hz]
    rw [h2]
    exact (List.getElem?_eq_some_iff.mp h1).1
theorem zFv_at {b : Nat} {σ : List Nat} {h : zH} {a ci k : Nat} (hk : k < zFn ci) : ((List.range (zFn ci)).map fun j => zFv b σ h a ci j)[k]? = some (zFv b σ h a ci k) := by
  rw [List.getElem?_map, List.getElem?_range hk]
  rfl
theorem zCell_off {cI cZ : ClassId} {b : Nat} {σ : List Nat} {h h' : zH} {k : Nat} {sh : Nat × Nat × Nat} (e1 : zRg h'.2.1 (k + 1) = zRg h.2.1 (k + 1)) (e2 : h'.2.2 (k + 1) = h.2.2 (k + 1)) : zCell cI cZ b σ h' k sh = zCell cI cZ b σ h k sh := by
  obtain ⟨a, ci, n⟩ := sh
  cases a with
  | zero => simp only [zCell, zFv, e1, e2]
  | succ a => cases ci <;> simp only [zCell, e2]
theorem zUp_at {α : Type} {f : Nat → Nat → α} {a i j : Nat} {v : α} : zUp f a i v a j = if j = i then v else f a j := by
  unfold zUp
  rw [if_pos rfl]
theorem zUp_off {α : Type} {f : Nat → Nat → α} {a b i : Nat} {v : α} (h : b ≠ a) : zUp f a i v b = f b := by
  funext j
  unfold zUp
  rw [if_neg h]
theorem zRow_at {α : Type} {f : Nat → Nat → α} {a : Nat} {g : Nat → α} : zRow f a g a = g := by
  unfold zRow
  rw [if_pos rfl]
theorem zRow_off {α : Type} {f : Nat → Nat → α} {a b : Nat} {g : Nat → α} (h : b ≠ a) : zRow f a g b = f b := by
  unfold zRow
  rw [if_neg h]
/-- an int field is put -/
theorem zWl_putI {cI cZ : ClassId} {b : Nat} {σ : List Nat} {h : zH} {a ci n k kd : Nat} {fin : Bool} {x : Int32} (hk : h.1[a]? = some (0, ci, n)) (hf : zFd ci k = some (kd, fin)) (hn : kd ≠ 2) :
    zWl cI cZ b σ (h.1, h.2.1, zUp h.2.2 (a + 1) k x) = (zWl cI cZ b σ h).set a (σ.getD a 0, .inr (ci, ((List.range (zFn ci)).map fun j => zFv b σ h a ci j).set k (.int x))) := by
  rw [zWl_set (h := h) (h' := (h.1, h.2.1, zUp h.2.2 (a + 1) k x)) rfl hk (fun j hj sj _ => zCell_off rfl (zUp_off (by omega)))]
  congr 2
  show Sum.inr _ = _
  congr 2
  apply List.ext_getElem?
  intro j
  rw [List.getElem?_set]
  by_cases hj : k = j
  · subst hj
    have hl := zFd_lt hf
    rw [if_pos rfl, if_pos (by simpa using hl), List.getElem?_map, List.getElem?_range hl]
    show some (zFv b σ (h.1, h.2.1, zUp h.2.2 (a + 1) k x) a ci k) = _
    congr 1
    unfold zFv
    rw [hf]
    split
    · rename_i q
      cases q
      exact absurd rfl hn
    · show Value.int (zUp h.2.2 (a + 1) k x (a + 1) k) = _
      rw [zUp_at, if_pos rfl]
  · rw [if_neg hj]
    by_cases hl : j < zFn ci
    · rw [List.getElem?_map, List.getElem?_map, List.getElem?_range hl]
      show some _ = some _
      congr 1
      unfold zFv
      show (match zFd ci j with | some (2, _) => _ | _ => Value.int (zUp h.2.2 (a + 1) k x (a + 1) j)) = _
      rw [zUp_at, if_neg (fun q => hj q.symm)]
      rfl
    · rw [List.getElem?_eq_none (by simpa using hl), List.getElem?_eq_none (by simpa using hl)]
/-- a reference is put -/
theorem zWl_putR {cI cZ : ClassId} {b : Nat} {σ : List Nat} {h : zH} {a ci n k x : Nat} {fin : Bool} (hk : h.1[a]? = some (0, ci, n)) (hf : zFd ci k = some (2, fin)) :
    zWl cI cZ b σ (h.1, (a + 1, k, x) :: h.2.1, h.2.2) = (zWl cI cZ b σ h).set a (σ.getD a 0, .inr (ci, ((List.range (zFn ci)).map fun j => zFv b σ h a ci j).set k (zVal b σ (zRv x)))) := by
  rw [zWl_set (h := h) (h' := (h.1, (a + 1, k, x) :: h.2.1, h.2.2)) rfl hk (fun j hj sj _ => zCell_off (by rw [zRg_put]; exact zUp_off (by omega)) rfl)]
  congr 2
  show Sum.inr _ = _
  congr 2
  apply List.ext_getElem?
  intro j
  rw [List.getElem?_set]
  by_cases hj : k = j
  · subst hj
    have hl := zFd_lt hf
    rw [if_pos rfl, if_pos (by simpa using hl), List.getElem?_map, List.getElem?_range hl]
    show some (zFv b σ (h.1, (a + 1, k, x) :: h.2.1, h.2.2) a ci k) = _
    congr 1
    unfold zFv
    rw [hf]
    show zVal b σ (zRv (zRg ((a + 1, k, x) :: h.2.1) (a + 1) k)) = _
    rw [zRg_put, zUp_at, if_pos rfl]
  · rw [if_neg hj]
    by_cases hl : j < zFn ci
    · rw [List.getElem?_map, List.getElem?_map, List.getElem?_range hl]
      show some _ = some _
      congr 1
      unfold zFv
      show (match zFd ci j with | some (2, _) => zVal b σ (zRv (zRg ((a + 1, k, x) :: h.2.1) (a + 1) j)) | _ => _) = _
      rw [zRg_put, zUp_at, if_neg (fun q => hj q.symm)]
      rfl
    · rw [List.getElem?_eq_none (by simpa using hl), List.getElem?_eq_none (by simpa using hl)]
/-- a row is written -/
theorem zWl_row {cI cZ : ClassId} {b : Nat} {σ : List Nat} {h : zH} {a t n : Nat} {G : Nat → Nat → Int32} (hk : h.1[a]? = some (1, t, n)) (hG : ∀ j, j ≠ a + 1 → G j = h.2.2 j) :
    zWl cI cZ b σ (h.1, h.2.1, G) = (zWl cI cZ b σ h).set a (σ.getD a 0, .inl (if t = 0 then cI else cZ, n, .inl (G (a + 1)))) := by
  rw [zWl_set (h := h) (h' := (h.1, h.2.1, G)) rfl hk (fun j hj sj _ => zCell_off rfl (hG (j + 1) (by omega)))]
  congr 2
  cases t <;> rfl
theorem zWl_arr {cI cZ : ClassId} {b : Nat} {σ : List Nat} {h : zH} {a t n : Nat} (hk : h.1[a]? = some (1, t, n)) : (zWl cI cZ b σ h)[a]? = some (σ.getD a 0, .inl (if t = 0 then cI else cZ, n, .inl (h.2.2 (a + 1)))) := by
  rw [zWl_at hk]
  cases t <;> rfl
theorem zUp_upd {f : Nat → Nat → Int32} {a i : Nat} {v : Int32} : zUp f a i v a = upd (f a) i v := by
  funext j
  rw [zUp_at]
  rfl
def zF0 (ci j : Nat) : Value := match zFd ci j with
  | some (2, _) => .null
  | _ => .int 0
theorem zCell_new {cI cZ : ClassId} {b : Nat} {σ : List Nat} {h : zH} {ci n a : Nat} (e1 : zRg h.2.1 (a + 1) = fun _ => 0) (e2 : h.2.2 (a + 1) = fun _ => 0) : zCell cI cZ b σ h a (0, ci, n) = .inr (ci, (List.range (zFn ci)).map (zF0 ci)) := by
  unfold zCell
  simp only
  congr 2
  apply List.map_congr_left
  intro j _
  unfold zFv zF0
  rw [e1, e2]
  generalize zFd ci j = z
  match z with
  | none => rfl
  | some (0, _) => rfl
  | some (1, _) => rfl
  | some (2, _) => rfl
  | some (n + 3, _) => rfl
theorem zF0_def {ci j : Nat} {ty : FieldType} {fin : Bool} (h : zFd ci j = some (zFk ty, fin)) (hk : zFk ty ≠ 9) : defaultValue ty = zF0 ci j := by
  unfold zF0
  rw [h]
  cases ty <;> first | rfl | exact absurd rfl hk
end
section
theorem zk9 (t : FieldType) {d : String} (h : parseFieldDescriptor d = some t) {ci k : Nat} {fin : Bool} (hz : zFd ci k = some (zFk t, fin)) : zFk t ≠ 9 := by
  intro q
  rw [q] at hz
  unfold zFd at hz
  cases hc : zfd[ci]? with
  | none => rw [hc] at hz; cases hz
  | some l =>
    rw [hc] at hz
    have h1 : l ∈ zfd := List.mem_of_getElem? hc
    have h2 : (9, fin) ∈ l := List.mem_of_getElem? hz
    have h3 : (zfd.all fun l => l.all fun x => decide (x.1 ≠ 9)) = true := by decide +kernel
    have h4 := List.all_eq_true.mp (List.all_eq_true.mp h3 l h1) _ h2
    exact absurd rfl (of_decide_eq_true h4)
theorem zNr_map {b : Nat} {σ : List Nat} {v : Option Value} (h : zNr v = true) : v.toList.map (zVal b σ) = v.toList := by
  cases v with
  | none => rfl
  | some x => cases x <;> first | rfl | cases h
theorem zCat_map {b : Nat} {σ : List Nat} {st : List Value} : ((st.map (zVal b σ)).map fun v => v.category).sum = zCat st := by
  unfold zCat
  rw [List.map_map]
  congr 1
  exact List.map_congr_left fun v _ => zVal_cat b σ v
theorem zWs_good {N : Nat} (h : zMok N) : GoodIn zZW (zWs N) := by
  intro w hw
  rcases List.mem_cons.mp hw with rfl | hw
  · exact ⟨zZW_of h.2.2.2.2 rfl, good_of_word rfl⟩
  · exact ⟨hw, good_of_word (List.mem_filter.mp hw).2⟩
theorem zCall_inv {n d N : Nat} {vs : List Value} {h : zH} {k : Option Value → zH → zR} {R : Option Value × zH} (hk : (match d with
      | 0 => none
      | d + 1 => zGo ((zArgs vs).length ≤ zMl N) (match zrun none n d N (zEnt (zMl N) vs) h with
        | some (v, h') => k v h'
        | none => none)) = some R) : ∃ d1 v1 h1, d = d1 + 1 ∧ (zArgs vs).length ≤ zMl N ∧ zrun none n d1 N (zEnt (zMl N) vs) h = some (v1, h1) ∧ k v1 h1 = some R := by
  cases d with
  | zero => cases hk
  | succ d1 =>
    obtain ⟨hl, hk⟩ := zGo_inv hk
    split at hk
    · rename_i v1 h1 hz
      exact ⟨d1, v1, h1, rfl, hl, hz, hk⟩
    · cases hk
set_option maxHeartbeats 8000000 in
theorem z_all (l : Launch) (D : va_G) (cI cZ : ClassId) : ∀ n, zWst l D cI cZ n := by
  intro n
  induction n with
  | zero =>
    intro p e R s m args below meth c Q A b M tc ts xs d f h h' v σ H locs cells slots ls hr
    cases hr
  | succ n ih =>
    intro p e R s m args below meth c Q A b M tc ts xs d f h h' v σ H locs cells slots ls hr hC hd1 hd2 htc hts2 hc1 hc2 hG hX hL hE
    obtain ⟨pc, L, st⟩ := f
    unfold zrun at hr
    split at hr
    · cases hr
    rename_i i len hz
    obtain ⟨hdg, hlen⟩ := zin_ok hz
    obtain ⟨hx, hb, hml, hown, hts, hNK, hK, hret, hlocks, hin, hA⟩ := id hC
    obtain ⟨hP, hD, hS, hσ⟩ := id hG
    have gow : ∀ {f' : zFr} {ls' : Array Slot} {h1 : zH} {H1 : Heap} {locs1 : List Loc}, zrun xs n d M f' h1 = some (v, h') → h1.1 = h.1 → zG D cI cZ A b s σ h1 H1 locs1 → zLc b σ (zMl M) f'.2.1 ls' → W p l e R s m args below meth c H1 locs1 cells slots Q (F0 m f'.1 ls' (f'.2.2.map (zVal b σ))) :=
      fun {f'} {ls'} {h1} {H1} {locs1} hr e1 hG1 hL => ih p e R s m args below meth c Q A b M tc ts xs d f' h1 h' v σ H1 locs1 cells slots ls' hr hC hd1 hd2 htc hts2 (by rw [e1]; exact hc1) (by unfold zSl at hc2 ⊢; rw [e1]; exact hc2) hG1 hX hL hE
    have ccl : zLe h h' → cells ≤ R.cells := fun q => by have := q.1; omega
    have csl : zLe h h' → slots ≤ R.slots := fun q => by have := q.2; omega
    have go : ∀ {f' : zFr} {ls' : Array Slot}, zrun xs n d M f' h = some (v, h') → zLc b σ (zMl M) f'.2.1 ls' → W p l e R s m args below meth c H locs cells slots Q (F0 m f'.1 ls' (f'.2.2.map (zVal b σ))) :=
      fun {f'} {ls'} hr hL => gow hr rfl hG hL
    have keep : ∀ {σ' : List Nat} {h1 : zH} {H1 : Heap} {locs1 : List Loc} {rest : List Value}, σ <+: σ' → zG D cI cZ A b s σ' h1 H1 locs1 → (h1.1.length = h.1.length ∨ zVs h.1.length L rest = true) → zLc b σ' (zMl M) L ls ∧ rest.map (zVal b σ') = rest.map (zVal b σ) := by
      intro σ' h1 H1 locs1 rest hp hG1 hk
      rcases hk with hk | hk
      · have e : σ = σ' := hp.eq_of_length (by rw [hσ, hG1.2.2.2, hk])
        subst e
        exact ⟨hL, rfl⟩
      · exact zLc_pre hL hp (by rw [hσ]; exact hk)
    clear hz
    unfold zdo at hr
    simp only at hr hdg hL
    split at hr
    · obtain rfl := beq_iff_eq.mp hlen
      obtain ⟨x, hx1, hr⟩ := zLI_inv hr
      exact lv_iload_n hx hb hdg rfl (hL.2.2.2 _ _ hx1) (go hr hL)
    · obtain rfl := beq_iff_eq.mp hlen
      obtain ⟨x, hx1, hr⟩ := zLI_inv hr
      exact lv_iload hx hb hdg (hL.2.2.2 _ _ hx1) (go hr hL)
    · obtain rfl := beq_iff_eq.mp hlen
      obtain ⟨x, hx1, hr⟩ := zLJ_inv hr
      exact lv_lload_n hx hb hdg rfl (hL.2.2.2 _ _ hx1) (go hr hL)
    · obtain rfl := beq_iff_eq.mp hlen
      obtain ⟨x, hx1, hr⟩ := zLJ_inv hr
      exact lv_lload hx hb hdg (hL.2.2.2 _ _ hx1) (go hr hL)
    · obtain rfl := beq_iff_eq.mp hlen
      obtain ⟨x, hx1, hr⟩ := zLA_inv hr
      have h1 := hL.2.2.2 _ _ hx1
      cases x with
      | zero => exact lv_aload_n hx hb hdg rfl h1 (go hr hL)
      | succ x => exact lv_aload_n hx hb hdg rfl h1 (go hr hL)
    · obtain rfl := beq_iff_eq.mp hlen
      obtain ⟨x, hx1, hr⟩ := zLA_inv hr
      have h1 := hL.2.2.2 _ _ hx1
      cases x with
      | zero => exact lv_aload hx hb hdg h1 (go hr hL)
      | succ x => exact lv_aload hx hb hdg h1 (go hr hL)
    · obtain rfl := beq_iff_eq.mp hlen
      exact lv_iconst hx hb hdg rfl (go hr hL)
    · obtain rfl := beq_iff_eq.mp hlen
      exact lv_bipush hx hb hdg rfl (go hr hL)
    · obtain rfl := beq_iff_eq.mp hlen
      exact lv_sipush hx hb hdg rfl (go hr hL)
    · obtain rfl := beq_iff_eq.mp hlen
      exact lv_lconst hx hb hdg rfl (go hr hL)
    · obtain rfl := beq_iff_eq.mp hlen
      obtain ⟨a1, b1, c1, hcp, hr⟩ := zCp_inv hr
      exact lv_ldc hx hb hown (hts _ (zZW_of (zcp_ok hcp) rfl)) hdg (go hr hL)
    · obtain rfl := beq_iff_eq.mp hlen
      obtain ⟨a1, b1, c1, hcp, hr⟩ := zCp_inv hr
      exact lv_ldcw hx hb hown (hts _ (zZW_of (zcp_ok hcp) rfl)) hdg (go hr hL)
    · obtain rfl := beq_iff_eq.mp hlen
      obtain ⟨a1, b1, c1, hcp, hr⟩ := zCp_inv hr
      exact lv_ldc2 hx hb hown (hts _ (zZW_of (zcp_ok hcp) rfl)) hdg (go hr hL)
    · obtain rfl := beq_iff_eq.mp hlen
      obtain ⟨x, r, hst, hr2⟩ := zI1_inv hr; clear hr; have hr := hr2; clear hr2; subst hst
      obtain ⟨hk, hr⟩ := zGo_inv hr
      have hk2 := hk
      rw [hL.2.1] at hk2
      exact lv_istore_n hx hb hdg rfl (zPs_has hL) hk2 rfl (fun ls' hl' => go hr (zLc_s1 (v := .int x) hL hk hl'))
    · obtain rfl := beq_iff_eq.mp hlen
      obtain ⟨x, r, hst, hr2⟩ := zI1_inv hr; clear hr; have hr := hr2; clear hr2; subst hst
      obtain ⟨hk, hr⟩ := zGo_inv hr
      have hk2 := hk
      rw [hL.2.1] at hk2
      exact lv_istore hx hb hdg (zPs_has hL) hk2 rfl (fun ls' hl' => go hr (zLc_s1 (v := .int x) hL hk hl'))
    · obtain rfl := beq_iff_eq.mp hlen
      obtain ⟨x, r, hst, hr2⟩ := zA1_inv hr; clear hr; have hr := hr2; clear hr2; subst hst
      obtain ⟨hk, hr⟩ := zGo_inv hr
      have hk2 := hk
      rw [hL.2.1] at hk2
      cases x with
      | zero => exact lv_astore_n hx hb hdg rfl (zPs_has hL) hk2 rfl (fun ls' hl' => go hr (zLc_s1 (v := .ref 0) hL hk hl'))
      | succ x => exact lv_astore_n hx hb hdg rfl (zPs_has hL) hk2 rfl (fun ls' hl' => go hr (zLc_s1 (v := .ref (x + 1)) hL hk hl'))
    · obtain rfl := beq_iff_eq.mp hlen
      obtain ⟨x, r, hst, hr2⟩ := zJ1_inv hr; clear hr; have hr := hr2; clear hr2; subst hst
      obtain ⟨hk, hr⟩ := zGo_inv hr
      have hk2 := hk
      rw [hL.2.1] at hk2
      exact lv_lstore_n hx hb hdg rfl (zPs_has hL) hk2 rfl (fun ls' hl' => go hr (zLc_s2 (v := .long x) hL hk hl'))
    · obtain rfl := beq_iff_eq.mp hlen
      obtain ⟨x, r, hst, hr2⟩ := zJ1_inv hr; clear hr; have hr := hr2; clear hr2; subst hst
      obtain ⟨hk, hr⟩ := zGo_inv hr
      have hk2 := hk
      rw [hL.2.1] at hk2
      exact lv_lstore hx hb hdg (zPs_has hL) hk2 rfl (fun ls' hl' => go hr (zLc_s2 (v := .long x) hL hk hl'))
    · obtain rfl := beq_iff_eq.mp hlen
      rename_i k n'
      obtain ⟨x, hx1, hr⟩ := zLI_inv hr
      have hk := (List.getElem?_eq_some_iff.mp hx1).1
      have hk2 := hk
      rw [hL.2.1] at hk2
      obtain ⟨kk, hkk⟩ := List.getElem?_of_mem (zPs_mem (b := b) (σ := σ) hL.2.1 hx1)
      exact lv_iinc hx hb hdg (zPs_has hL) hkk rfl hk2 rfl (fun ls' hl' => go hr (zLc_s1 (v := .int (x + Int32.ofInt n')) hL hk hl'))
    · obtain rfl := beq_iff_eq.mp hlen
      obtain ⟨t, ht, hr⟩ := zTo_inv hr
      exact lv_goto hx hb hdg ht (go hr hL)
    · obtain rfl := beq_iff_eq.mp hlen
      rename_i cnd off
      obtain ⟨x, y, r, hst, hr2⟩ := zI2_inv hr; clear hr; have hr := hr2; clear hr2; subst hst
      obtain ⟨t, ht, hr⟩ := zTo_inv hr
      unfold zCnd at hr
      cases cnd <;> simp only at hr
      · exact lv_icmp_eq hx hb hdg ht (fun hc => by rw [if_pos hc] at hr; exact go hr hL) (fun hc => by rw [if_neg hc] at hr; exact go hr hL)
      · exact lv_icmp_ne hx hb hdg ht (fun hc => by rw [if_neg hc] at hr; exact go hr hL) (fun hc => by rw [if_pos hc] at hr; exact go hr hL)
      · exact lv_icmp_lt hx hb hdg ht (fun hc => by rw [if_pos hc] at hr; exact go hr hL) (fun hc => by rw [if_neg hc] at hr; exact go hr hL)
      · exact lv_icmp_ge hx hb hdg ht (fun hc => by rw [if_pos hc] at hr; exact go hr hL) (fun hc => by rw [if_neg hc] at hr; exact go hr hL)
      · exact lv_icmp_gt hx hb hdg ht (fun hc => by rw [if_pos hc] at hr; exact go hr hL) (fun hc => by rw [if_neg hc] at hr; exact go hr hL)
      · exact lv_icmp_le hx hb hdg ht (fun hc => by rw [if_pos hc] at hr; exact go hr hL) (fun hc => by rw [if_neg hc] at hr; exact go hr hL)
    · obtain rfl := beq_iff_eq.mp hlen
      rename_i cnd off
      obtain ⟨x, r, hst, hr2⟩ := zI1_inv hr; clear hr; have hr := hr2; clear hr2; subst hst
      obtain ⟨t, ht, hr⟩ := zTo_inv hr
      unfold zCnd at hr
      cases cnd <;> simp only at hr
      · exact lv_if_eq hx hb hdg ht (fun hc => by rw [if_pos hc] at hr; exact go hr hL) (fun hc => by rw [if_neg hc] at hr; exact go hr hL)
      · exact lv_if_ne hx hb hdg ht (fun hc => by rw [if_neg hc] at hr; exact go hr hL) (fun hc => by rw [if_pos hc] at hr; exact go hr hL)
      · exact lv_if_lt hx hb hdg ht (fun hc => by rw [if_pos hc] at hr; exact go hr hL) (fun hc => by rw [if_neg hc] at hr; exact go hr hL)
      · exact lv_if_ge hx hb hdg ht (fun hc => by rw [if_pos hc] at hr; exact go hr hL) (fun hc => by rw [if_neg hc] at hr; exact go hr hL)
      · exact lv_if_gt hx hb hdg ht (fun hc => by rw [if_pos hc] at hr; exact go hr hL) (fun hc => by rw [if_neg hc] at hr; exact go hr hL)
      · exact lv_if_le hx hb hdg ht (fun hc => by rw [if_pos hc] at hr; exact go hr hL) (fun hc => by rw [if_neg hc] at hr; exact go hr hL)
    · obtain rfl := beq_iff_eq.mp hlen
      obtain ⟨x, r, hst, hr2⟩ := zA1_inv hr; clear hr; have hr := hr2; clear hr2; subst hst
      cases x with
      | zero => exact lv_ifnull hx hb hdg (go hr hL)
      | succ x => exact lv_ifnull hx hb hdg (go hr hL)
    · obtain rfl := beq_iff_eq.mp hlen
      obtain ⟨x, r, hst, hr2⟩ := zA1_inv hr; clear hr; have hr := hr2; clear hr2; subst hst
      obtain ⟨t, ht, hr⟩ := zTo_inv hr
      cases x with
      | zero => exact lv_ifnonnull hx hb hdg ht (go hr hL)
      | succ x => exact lv_ifnonnull hx hb hdg ht (go hr hL)
    · obtain ⟨x, r, hst, hr2⟩ := zI1_inv hr; clear hr; have hr := hr2; clear hr2; subst hst
      split at hr
      · rename_i hc
        obtain ⟨t, ht, hr⟩ := zTo_inv hr
        exact lv_tableOut hx hb hdg hc ht (go hr hL)
      · rename_i hc
        split at hr
        · rename_i off ho
          obtain ⟨t, ht, hr⟩ := zTo_inv hr
          exact lv_tableIn hx hb hdg (fun q => hc (Or.inl q)) (fun q => hc (Or.inr q)) ho ht (go hr hL)
        · cases hr
    · obtain ⟨x, r, hst, hr2⟩ := zI1_inv hr; clear hr; have hr := hr2; clear hr2; subst hst
      obtain ⟨hp, hr⟩ := zGo_inv hr
      obtain ⟨t, ht, hr⟩ := zTo_inv hr
      exact lv_lookup hx hb hdg hp rfl ht (go hr hL)
    · obtain rfl := beq_iff_eq.mp hlen
      split at hr
      · obtain ⟨hc, hr⟩ := zGo_inv hr
        exact lv_dup hx hb hdg ((zVal_cat b σ _).trans hc) (go hr hL)
      · cases hr
    · obtain rfl := beq_iff_eq.mp hlen
      split at hr
      · obtain ⟨hc, hr⟩ := zGo_inv hr
        exact lv_dup2_11 hx hb hdg ((zVal_cat b σ _).trans hc.1) ((zVal_cat b σ _).trans hc.2) (go hr hL)
      · cases hr
    · obtain rfl := beq_iff_eq.mp hlen
      obtain ⟨x, y, r, hst, hr2⟩ := zI2_inv hr; clear hr; have hr := hr2; clear hr2; subst hst
      exact lv_iadd hx hb hdg (go hr hL)
    · obtain rfl := beq_iff_eq.mp hlen
      obtain ⟨x, y, r, hst, hr2⟩ := zI2_inv hr; clear hr; have hr := hr2; clear hr2; subst hst
      exact lv_isub hx hb hdg (go hr hL)
    · obtain rfl := beq_iff_eq.mp hlen
      obtain ⟨x, y, r, hst, hr2⟩ := zI2_inv hr; clear hr; have hr := hr2; clear hr2; subst hst
      exact lv_imul hx hb hdg (go hr hL)
    · obtain rfl := beq_iff_eq.mp hlen
      obtain ⟨x, y, r, hst, hr2⟩ := zI2_inv hr; clear hr; have hr := hr2; clear hr2; subst hst
      exact lv_iand hx hb hdg (go hr hL)
    · obtain rfl := beq_iff_eq.mp hlen
      obtain ⟨x, y, r, hst, hr2⟩ := zI2_inv hr; clear hr; have hr := hr2; clear hr2; subst hst
      exact lv_ior hx hb hdg (go hr hL)
    · obtain rfl := beq_iff_eq.mp hlen
      obtain ⟨x, y, r, hst, hr2⟩ := zI2_inv hr; clear hr; have hr := hr2; clear hr2; subst hst
      exact lv_ixor hx hb hdg (go hr hL)
    · obtain rfl := beq_iff_eq.mp hlen
      obtain ⟨x, y, r, hst, hr2⟩ := zI2_inv hr; clear hr; have hr := hr2; clear hr2; subst hst
      exact lv_ishl hx hb hdg (go hr hL)
    · obtain rfl := beq_iff_eq.mp hlen
      obtain ⟨x, y, r, hst, hr2⟩ := zI2_inv hr; clear hr; have hr := hr2; clear hr2; subst hst
      exact lv_ishr hx hb hdg (go hr hL)
    · obtain rfl := beq_iff_eq.mp hlen
      obtain ⟨x, y, r, hst, hr2⟩ := zI2_inv hr; clear hr; have hr := hr2; clear hr2; subst hst
      exact lv_iushr hx hb hdg rfl (go hr hL)
    · obtain rfl := beq_iff_eq.mp hlen
      obtain ⟨x, y, r, hst, hr2⟩ := zI2_inv hr; clear hr; have hr := hr2; clear hr2; subst hst
      obtain ⟨hc, hr⟩ := zGo_inv hr
      exact lv_idiv hx hb hdg hc (go hr hL)
    · obtain rfl := beq_iff_eq.mp hlen
      obtain ⟨x, y, r, hst, hr2⟩ := zI2_inv hr; clear hr; have hr := hr2; clear hr2; subst hst
      obtain ⟨hc, hr⟩ := zGo_inv hr
      exact lv_irem hx hb hdg hc (go hr hL)
    · obtain rfl := beq_iff_eq.mp hlen
      obtain ⟨x, y, r, hst, hr2⟩ := zJ2_inv hr; clear hr; have hr := hr2; clear hr2; subst hst
      exact lv_ladd hx hb hdg (go hr hL)
    · obtain rfl := beq_iff_eq.mp hlen
      obtain ⟨x, y, r, hst, hr2⟩ := zJ2_inv hr; clear hr; have hr := hr2; clear hr2; subst hst
      exact lv_lsub hx hb hdg (go hr hL)
    · obtain rfl := beq_iff_eq.mp hlen
      obtain ⟨x, y, r, hst, hr2⟩ := zJ2_inv hr; clear hr; have hr := hr2; clear hr2; subst hst
      exact lv_lmul hx hb hdg (go hr hL)
    · obtain rfl := beq_iff_eq.mp hlen
      obtain ⟨x, y, r, hst, hr2⟩ := zJ2_inv hr; clear hr; have hr := hr2; clear hr2; subst hst
      exact lv_lor hx hb hdg (go hr hL)
    · obtain rfl := beq_iff_eq.mp hlen
      obtain ⟨x, y, r, hst, hr2⟩ := zJ2_inv hr; clear hr; have hr := hr2; clear hr2; subst hst
      exact lv_lxor hx hb hdg (go hr hL)
    · obtain rfl := beq_iff_eq.mp hlen
      obtain ⟨x, y, r, hst, hr2⟩ := zJ2_inv hr; clear hr; have hr := hr2; clear hr2; subst hst
      obtain ⟨hc, hr⟩ := zGo_inv hr
      exact lv_ldiv hx hb hdg hc (go hr hL)
    · obtain rfl := beq_iff_eq.mp hlen
      obtain ⟨x, y, r, hst, hr2⟩ := zJ2_inv hr; clear hr; have hr := hr2; clear hr2; subst hst
      obtain ⟨hc, hr⟩ := zGo_inv hr
      exact lv_lrem hx hb hdg hc (go hr hL)
    · obtain rfl := beq_iff_eq.mp hlen
      obtain ⟨y, r, hst, hr2⟩ := zI1_inv hr; clear hr; have hr := hr2; clear hr2; subst hst
      obtain ⟨x, r, hst, hr2⟩ := zJ1_inv hr; clear hr; have hr := hr2; clear hr2; subst hst
      exact lv_lshl hx hb hdg rfl (go hr hL)
    · obtain rfl := beq_iff_eq.mp hlen
      obtain ⟨y, r, hst, hr2⟩ := zI1_inv hr; clear hr; have hr := hr2; clear hr2; subst hst
      obtain ⟨x, r, hst, hr2⟩ := zJ1_inv hr; clear hr; have hr := hr2; clear hr2; subst hst
      exact lv_lushr hx hb hdg rfl (go hr hL)
    · obtain rfl := beq_iff_eq.mp hlen
      obtain ⟨x, y, r, hst, hr2⟩ := zJ2_inv hr; clear hr; have hr := hr2; clear hr2; subst hst
      exact W.lcmp hx hb hdg (go hr hL)
    · obtain rfl := beq_iff_eq.mp hlen
      obtain ⟨x, r, hst, hr2⟩ := zI1_inv hr; clear hr; have hr := hr2; clear hr2; subst hst
      exact lv_i2l hx hb hdg rfl (go hr hL)
    · obtain rfl := beq_iff_eq.mp hlen
      obtain ⟨x, r, hst, hr2⟩ := zJ1_inv hr; clear hr; have hr := hr2; clear hr2; subst hst
      exact lv_l2i hx hb hdg rfl (go hr hL)
    · obtain rfl := beq_iff_eq.mp hlen
      obtain ⟨a, r, hst, hr2⟩ := zA1_inv hr; clear hr; have hr := hr2; clear hr2; subst hst
      obtain ⟨ci, k, nest, hcp, hr⟩ := zCp_inv hr
      split at hr
      · rename_i cj nn hsh
        obtain ⟨hc, hr⟩ := zGo_inv hr
        subst hc
        obtain ⟨⟨C0, T0, N0⟩, hq, hkN, hl0, hl1⟩ := zcp_ok hcp
        obtain ⟨hin0, hnm0, hfn, hcn, ty0, hty0, hfd⟩ := zql hq
        cases a with
        | zero => cases hsh
        | succ a =>
          have hsh : h.1[a]? = some (0, cj, nn) := hsh
          have he := zWl_at (cI := cI) (cZ := cZ) (b := b) (σ := σ) hsh
          have hv := zFv_at (b := b) (σ := σ) (h := h) (a := a) (ci := cj) (k := k) (by rw [hfn]; exact hkN)
          have key : ∀ w : Value, zFv b σ h a cj k = w → W p l e R s m args below meth c H locs cells slots Q (F0 m (pc + 3) ls (w :: r.map (zVal b σ))) → W p l e R s m args below meth c H locs cells slots Q (F0 m pc ls (.ref (σ.getD a 0) :: r.map (zVal b σ))) := by
            intro w hw hk1
            rw [hw] at hv
            by_cases hn : nest = 0
            · exact va_get (D := D) (ci := cj) hx hb hts hin0 hown hK hP a he hq k hkN (hts _ (zZW_of (hl0 hn) rfl)) (fun _ h9 => h9) hv hdg hk1
            · exact va_getN (D := D) (ci := cj) hx hb hts hin0 hown hK hP a he hq k hkN (va_Nw.use rfl (hNK _ (hl1 hn) rfl)) (fun _ h9 => h9) hv hdg hk1
          split at hr
          · rename_i fin hz
            have e1 : zFv b σ h a cj k = zVal b σ (zRv (zRg h.2.1 (a + 1) k)) := by
              unfold zFv
              rw [hz]
              rfl
            exact key _ e1 (go hr hL)
          · rename_i p1 hn1 hz
            have e1 : zFv b σ h a cj k = .int (h.2.2 (a + 1) k) := by
              unfold zFv
              rw [hz]
              split
              · rename_i q
                cases q
                exact absurd rfl (hn1 _)
              · rfl
            exact key _ e1 (go hr hL)
          · cases hr
      · cases hr
    · obtain rfl := beq_iff_eq.mp hlen
      split at hr
      · rename_i x a r
        obtain ⟨ci, k, nest, hcp, hr⟩ := zCp_inv hr
        split at hr
        · rename_i cj nn hsh
          obtain ⟨⟨hc, hn0⟩, hr⟩ := zGo_inv hr
          subst hc
          obtain ⟨⟨C0, T0, N0⟩, hq, hkN, hl0, hl1⟩ := zcp_ok hcp
          obtain ⟨hin0, hnm0, hfn, hcn, ty0, hty0, hfd⟩ := zql hq
          cases a with
          | zero => cases hsh
          | succ a =>
            have hsh : h.1[a]? = some (0, cj, nn) := hsh
            have he := zWl_at (cI := cI) (cZ := cZ) (b := b) (σ := σ) hsh
            have key : ∀ (kd : Nat) (ty : FieldType), zFd cj k = some (kd, false) → kd ≠ 2 → parseFieldDescriptor (T0 k).2.2.1 = some ty → narrow ty (.int x) = .int x → fits ty (.int x) = true → zrun xs n d M (pc + 3, L, r) (h.1, h.2.1, zUp h.2.2 (a + 1) k x) = some (v, h') → W p l e R s m args below meth c H locs cells slots Q (F0 m pc ls (.int x :: .ref (σ.getD a 0) :: r.map (zVal b σ))) := by
              intro kd ty hz hkd hpt hnr hft hr
              have hfin : (T0 k).2.2.2 = false := by
                have h3 := (hfd k hkN).1
                rw [hz] at h3
                exact (congrArg Prod.snd (Option.some.inj h3)).symm
              refine va_put (D := D) (ci := cj) hx hb hts hin0 ty0 hty0 hnm0 hown hK hP hD hS a he hq k hkN (hts _ (zZW_of (hl0 hn0) rfl)) (fun _ h9 => h9) hfin hpt hnr hft (by simp only [List.length_map, List.length_range, hfn]; exact hkN) hdg (fun H1 locs1 hP1 hD1 hS1 => ?_)
              have e1 := zWl_putI (cI := cI) (cZ := cZ) (b := b) (σ := σ) (x := x) hsh hz hkd
              exact gow (h1 := (h.1, h.2.1, zUp h.2.2 (a + 1) k x)) hr rfl ⟨e1 ▸ hP1, e1 ▸ hD1, hS1, hσ⟩ hL
            have hpk := hty0 k hkN
            have h3 := (hfd k hkN).1
            split at hr
            · rename_i hz
              rw [hz] at h3
              have h4 := congrArg Prod.fst (Option.some.inj h3)
              refine key 0 .int hz (by decide) ?_ rfl rfl hr
              rw [hpk]
              generalize ty0 k = t at h4 ⊢
              cases t <;> first | rfl | cases h4
            · rename_i hz
              obtain ⟨hx01, hr⟩ := zGo_inv hr
              rw [hz] at h3
              have h4 := congrArg Prod.fst (Option.some.inj h3)
              refine key 1 .boolean hz (by decide) ?_ (by rcases hx01 with rfl | rfl <;> decide +kernel) (by rcases hx01 with rfl | rfl <;> decide +kernel) hr
              rw [hpk]
              generalize ty0 k = t at h4 ⊢
              cases t <;> first | rfl | cases h4
            · cases hr
        · cases hr
      · rename_i x a r
        obtain ⟨ci, k, nest, hcp, hr⟩ := zCp_inv hr
        split at hr
        · rename_i cj nn hsh
          obtain ⟨⟨hc, hn0, hxl⟩, hr⟩ := zGo_inv hr
          subst hc
          obtain ⟨⟨C0, T0, N0⟩, hq, hkN, hl0, hl1⟩ := zcp_ok hcp
          obtain ⟨hin0, hnm0, hfn, hcn, ty0, hty0, hfd⟩ := zql hq
          cases a with
          | zero => cases hsh
          | succ a =>
            have hsh : h.1[a]? = some (0, cj, nn) := hsh
            have he := zWl_at (cI := cI) (cZ := cZ) (b := b) (σ := σ) hsh
            split at hr
            · rename_i hz
              obtain ⟨⟨hi2, hoc⟩, hr⟩ := zGo_inv hr
              have h3 := (hfd k hkN).1
              rw [hz] at h3
              have h4 := congrArg Prod.fst (Option.some.inj h3)
              have hfin : (T0 k).2.2.2 = true := (congrArg Prod.snd (Option.some.inj h3)).symm
              have hpk := hty0 k hkN
              have hrf : narrow (ty0 k) (.ref (σ.getD x 0)) = .ref (σ.getD x 0) ∧ fits (ty0 k) (.ref (σ.getD x 0)) = true := by
                generalize ty0 k = t at h4 ⊢
                cases t <;> first | exact ⟨rfl, rfl⟩ | cases h4
              refine va_putF (D := D) (ci := cj) hx hb hts hin0 ty0 hty0 hnm0 hown hK hP hD hS a he hq k hkN (hts _ (zZW_of (hl0 hn0) rfl)) (fun _ h9 => h9) hfin (hin hi2) (by rw [(hfd k hkN).2, hoc]; exact hcn) hpk hrf.1 hrf.2 (by simp only [List.length_map, List.length_range, hfn]; exact hkN) hdg (fun H1 locs1 hP1 hD1 hS1 => ?_)
              have e1 := zWl_putR (cI := cI) (cZ := cZ) (b := b) (σ := σ) (x := x + 1) hsh hz
              exact gow (h1 := (h.1, (a + 1, k, x + 1) :: h.2.1, h.2.2)) hr rfl ⟨e1 ▸ hP1, e1 ▸ hD1, hS1, hσ⟩ hL
            · cases hr
        · cases hr
      · cases hr
    · obtain rfl := beq_iff_eq.mp hlen
      obtain ⟨j, r0, hst, hr2⟩ := zI1_inv hr; clear hr; have hr := hr2; clear hr2; subst hst
      obtain ⟨a, r, hst, hr2⟩ := zA1_inv hr; clear hr; have hr := hr2; clear hr2; subst hst
      split at hr
      · rename_i nn g
        obtain ⟨hc, hr⟩ := zGo_inv hr
        obtain ⟨hX1, hX2, hX3⟩ := hX
        exact va_sld hx hb hX1 hX2 hX3 hS hc hdg (go hr hL)
      · cases hr
      · split at hr
        · rename_i nn hsh
          obtain ⟨hc, hr⟩ := zGo_inv hr
          exact va_iald hx hb hK hP _ 0 (zWl_arr hsh) rfl hc hdg (go hr hL)
        · cases hr
    · obtain rfl := beq_iff_eq.mp hlen
      obtain ⟨j, r0, hst, hr2⟩ := zI1_inv hr; clear hr; have hr := hr2; clear hr2; subst hst
      obtain ⟨a, r, hst, hr2⟩ := zA1_inv hr; clear hr; have hr := hr2; clear hr2; subst hst
      split at hr
      · rename_i nn hsh
        obtain ⟨hc, hr⟩ := zGo_inv hr
        cases a with
        | zero => cases hsh
        | succ a => exact va_zald hx hb hK hP _ 1 (zWl_arr hsh) rfl hc hdg (go hr hL)
      · cases hr
    · obtain rfl := beq_iff_eq.mp hlen
      obtain ⟨j, x, r0, hst, hr2⟩ := zI2_inv hr; clear hr; have hr := hr2; clear hr2; subst hst
      obtain ⟨a, r, hst, hr2⟩ := zA1_inv hr; clear hr; have hr := hr2; clear hr2; subst hst
      split at hr
      · rename_i nn hsh
        obtain ⟨hc, hr⟩ := zGo_inv hr
        cases a with
        | zero => cases hsh
        | succ a =>
          refine va_iast hx hb hK hP hD hS _ 0 (zWl_arr hsh) rfl hc hdg (fun H1 locs1 hP1 hD1 hS1 => ?_)
          have e1 := zWl_row (cI := cI) (cZ := cZ) (b := b) (σ := σ) (G := zUp h.2.2 (a + 1) j.toNatClampNeg x) hsh (fun q hq => zUp_off hq)
          rw [zUp_upd] at e1
          exact gow (h1 := (h.1, h.2.1, zUp h.2.2 (a + 1) j.toNatClampNeg x)) hr rfl ⟨e1 ▸ hP1, e1 ▸ hD1, hS1, hσ⟩ hL
      · cases hr
    · obtain rfl := beq_iff_eq.mp hlen
      obtain ⟨j, x, r0, hst, hr2⟩ := zI2_inv hr; clear hr; have hr := hr2; clear hr2; subst hst
      obtain ⟨a, r, hst, hr2⟩ := zA1_inv hr; clear hr; have hr := hr2; clear hr2; subst hst
      split at hr
      · rename_i nn hsh
        obtain ⟨⟨hc, hx01⟩, hr⟩ := zGo_inv hr
        cases a with
        | zero => cases hsh
        | succ a =>
          refine va_zast hx hb hK hP hD hS _ 1 (zWl_arr hsh) rfl hc hdg (fun H1 locs1 hP1 hD1 hS1 => ?_)
          have e1 := zWl_row (cI := cI) (cZ := cZ) (b := b) (σ := σ) (G := zUp h.2.2 (a + 1) j.toNatClampNeg x) hsh (fun q hq => zUp_off hq)
          have e2 : vp_nar .boolean x = x := by rcases hx01 with rfl | rfl <;> decide +kernel
          rw [e2] at hP1 hD1
          rw [zUp_upd] at e1
          exact gow (h1 := (h.1, h.2.1, zUp h.2.2 (a + 1) j.toNatClampNeg x)) hr rfl ⟨e1 ▸ hP1, e1 ▸ hD1, hS1, hσ⟩ hL
      · cases hr
    · obtain rfl := beq_iff_eq.mp hlen
      obtain ⟨a, r, hst, hr2⟩ := zA1_inv hr; clear hr; have hr := hr2; clear hr2; subst hst
      split at hr
      · rename_i nn g
        obtain ⟨hX1, hX2, hX3⟩ := hX
        exact va_slen hx hb hX1 hX2 hX3 hS hdg (go hr hL)
      · cases hr
      · split at hr
        · rename_i t nn hsh
          cases t with
          | zero => exact va_alen hx hb hK hP _ 0 (zWl_arr hsh) rfl rfl hdg (go hr hL)
          | succ t => exact va_alen hx hb hK hP _ 1 (zWl_arr hsh) rfl rfl hdg (go hr hL)
        · cases hr
    · obtain rfl := beq_iff_eq.mp hlen
      obtain ⟨x, r, hst, hr2⟩ := zI1_inv hr; clear hr; have hr := hr2; clear hr2; subst hst
      have gon : ∀ {q : Nat} {t : Nat} {E : va_E} {F : zRl} {G : Nat → Nat → Int32} {H1 : Heap} {locs1 : List Loc} {N1 : Nat}, zWl cI cZ b (σ ++ [q]) (h.1 ++ [(1, t, N1)], F, G) = zWl cI cZ b σ h ++ [(q, E)] → N1 = N1 → zrun xs n d M (pc + 2, L, .ref (h.1.length + 1) :: r) (h.1 ++ [(1, t, N1)], F, G) = some (v, h') → zVs h.1.length L r = true → va_P D zcls (zWl cI cZ b σ h ++ [(q, E)]) H1 → va_D A (zWl cI cZ b σ h ++ [(q, E)]) → va_S A s.heap H1 locs1 → W p l e R s m args below meth c H1 locs1 (cells + 1) (slots + N1) Q (F0 m (pc + 2) ls (.ref q :: r.map (zVal b σ))) := by
        intro q t E F G H1 locs1 N1 e1 _ hr hvs hP1 hD1 hS1
        rw [← hσ] at hvs
        obtain ⟨hL2, hst⟩ := zLc_pre hL (List.prefix_append σ [q]) hvs
        have e3 : (σ ++ [q]).getD h.1.length 0 = q := by rw [← hσ]; simp
        have g1 := ih p e R s m args below meth c Q A b M tc ts xs d (pc + 2, L, .ref (h.1.length + 1) :: r) _ h' v (σ ++ [q]) H1 locs1 (cells + 1) (slots + N1) ls hr hC hd1 hd2 htc hts2 (by simp only [List.length_append, List.length_cons, List.length_nil]; omega) (by rw [zSl_push]; show slots + N1 + zSl h' = ts + (zSl h + N1); omega) ⟨by rw [e1]; exact hP1, by rw [e1]; exact hD1, hS1, by simp [hσ]⟩ hX hL2 (fun σ' H' locs' pc ls' hG1 hp hf => hE σ' H' locs' pc ls' hG1 ((List.prefix_append σ [q]).trans hp) hf)
        have e4 : List.map (zVal b (σ ++ [q])) (.ref (h.1.length + 1) :: r) = .ref q :: r.map (zVal b σ) := by
          rw [List.map_cons, hst]
          show Value.ref ((σ ++ [q]).getD h.1.length 0) :: _ = _
          rw [e3]
        have g2 : W p l e R s m args below meth c H1 locs1 (cells + 1) (slots + N1) Q (F0 m (pc + 2) ls (List.map (zVal b (σ ++ [q])) (.ref (h.1.length + 1) :: r))) := g1
        rw [e4] at g2
        exact g2
      split at hr
      · obtain ⟨⟨hn0, hn1, hvs, hok⟩, hr⟩ := zGo_inv hr
        have hmo := zrun_mono n hr
        have hm1 := hmo.1
        have hm2 := hmo.2
        rw [zSl_push] at hm2
        simp only [List.length_append, List.length_cons, List.length_nil] at hm1 hm2
        refine va_newa hx hb (atype := .int) (hts _ (zZW_of zarr_i rfl)) (ty := .int) rfl hK hP hD hS hA (a0 := (x.toNatClampNeg, .inl (fun _ => 0))) (fun _ => rfl) hn0 rfl ?_ (by omega) (by omega) hdg (fun q cA H1 hK1 hP1 hD1 hS1 => ?_)
        · have e4 : componentBytes .int ≤ 4 := by decide +kernel
          exact Nat.le_trans (Nat.mul_le_mul hn1 e4) (by decide)
        have ec : cA = cI := by
          have q1 : s.vm.findClass ("[" ++ (FieldType.toString .int)) = some cA := (hK1.2 2 (cA, .int) rfl).2
          have q2 : s.vm.findClass ("[" ++ (FieldType.toString .int)) = some cI := (hK.2 0 (cI, .int) rfl).2
          exact Option.some.inj (q1.symm.trans q2)
        rw [ec] at hP1 hD1
        have e1 := zWl_push (cI := cI) (cZ := cZ) (b := b) (σ := σ) (q := q) (h := h) (sh := (1, 0, x.toNatClampNeg)) (F := h.2.1) (G := zRow h.2.2 (h.1.length + 1) (fun _ => 0)) hσ hok (fun _ _ => rfl) (fun k hk => zRow_off (by omega))
        have e2 : zCell cI cZ b (σ ++ [q]) (h.1 ++ [(1, 0, x.toNatClampNeg)], h.2.1, zRow h.2.2 (h.1.length + 1) (fun _ => 0)) h.1.length (1, 0, x.toNatClampNeg) = .inl (cI, x.toNatClampNeg, .inl (fun _ => 0)) := by
          simp only [zCell, zRow_at]
        rw [e2] at e1
        exact gon e1 rfl hr hvs hP1 hD1 hS1
      · obtain ⟨⟨hn0, hn1, hvs, hok⟩, hr⟩ := zGo_inv hr
        have hmo := zrun_mono n hr
        have hm1 := hmo.1
        have hm2 := hmo.2
        rw [zSl_push] at hm2
        simp only [List.length_append, List.length_cons, List.length_nil] at hm1 hm2
        refine va_newa hx hb (atype := .boolean) (hts _ (zZW_of zarr_z rfl)) (ty := .boolean) rfl hK hP hD hS hA (a0 := (x.toNatClampNeg, .inl (fun _ => 0))) (fun _ => rfl) hn0 rfl ?_ (by omega) (by omega) hdg (fun q cA H1 hK1 hP1 hD1 hS1 => ?_)
        · have e4 : componentBytes .boolean ≤ 4 := by decide +kernel
          exact Nat.le_trans (Nat.mul_le_mul hn1 e4) (by decide)
        have ec : cA = cZ := by
          have q1 : s.vm.findClass ("[" ++ (FieldType.toString .boolean)) = some cA := (hK1.2 2 (cA, .boolean) rfl).2
          have q2 : s.vm.findClass ("[" ++ (FieldType.toString .boolean)) = some cZ := (hK.2 1 (cZ, .boolean) rfl).2
          exact Option.some.inj (q1.symm.trans q2)
        rw [ec] at hP1 hD1
        have e1 := zWl_push (cI := cI) (cZ := cZ) (b := b) (σ := σ) (q := q) (h := h) (sh := (1, 1, x.toNatClampNeg)) (F := h.2.1) (G := zRow h.2.2 (h.1.length + 1) (fun _ => 0)) hσ hok (fun _ _ => rfl) (fun k hk => zRow_off (by omega))
        have e2 : zCell cI cZ b (σ ++ [q]) (h.1 ++ [(1, 1, x.toNatClampNeg)], h.2.1, zRow h.2.2 (h.1.length + 1) (fun _ => 0)) h.1.length (1, 1, x.toNatClampNeg) = .inl (cZ, x.toNatClampNeg, .inl (fun _ => 0)) := by
          simp only [zCell, zRow_at]
        rw [e2] at e1
        exact gon e1 rfl hr hvs hP1 hD1 hS1
      · cases hr
    · obtain rfl := beq_iff_eq.mp hlen
      obtain ⟨ci, b1, c1, hcp, hr⟩ := zCp_inv hr
      obtain ⟨⟨hvs, hok⟩, hr⟩ := zGo_inv hr
      obtain ⟨⟨C0, T0, N0⟩, hq, hcl, hinst, hini⟩ := zcp_ok hcp
      obtain ⟨hin0, hnm0, hfn, hcn, ty0, hty0, hfd⟩ := zql hq
      have hmo := zrun_mono n hr
      have hm1 := hmo.1
      have hm2 := hmo.2
      rw [zSl_push] at hm2
      simp only [List.length_append, List.length_cons, List.length_nil] at hm1
      have hfn : zFn ci = N0 := hfn
      simp only [hfn] at hm2
      refine va_new (ci := ci) (fs := (List.range (zFn ci)).map (zF0 ci)) hx hb hts hin0 ty0 hty0 hown (hts _ (zZW_of hcl rfl)) (hts _ (zZW_of hinst rfl)) (hts _ (zZW_of hini rfl)) hK hP hD hS hA hq ?_ (by omega) (by omega) hdg (fun q H1 hP1 hD1 hS1 => ?_)
      · intro j hj
        have hj2 : j < zFn ci := by rw [hfn]; exact hj
        unfold vp_V
        rw [List.getD, List.getElem?_map, List.getElem?_range hj2]
        exact zF0_def (hfd j hj).1 (zk9 (ty0 j) (hty0 j hj) (hfd j hj).1)
      have e1 := zWl_push (cI := cI) (cZ := cZ) (b := b) (σ := σ) (q := q) (h := h) (sh := (0, ci, zFn ci)) (F := zRw h.2.1 (h.1.length + 1)) (G := zRow h.2.2 (h.1.length + 1) (fun _ => 0)) hσ hok (fun k hk => by rw [zRg_new]; exact zRow_off (by omega)) (fun k hk => zRow_off (by omega))
      rw [zCell_new (by show zRg (zRw h.2.1 (h.1.length + 1)) (h.1.length + 1) = _; rw [zRg_new]; exact zRow_at) (by exact zRow_at)] at e1
      rw [← hσ] at hvs
      obtain ⟨hL2, hst⟩ := zLc_pre hL (List.prefix_append σ [q]) hvs
      have e3 : (σ ++ [q]).getD h.1.length 0 = q := by rw [← hσ]; simp
      have g1 := ih p e R s m args below meth c Q A b M tc ts xs d (pc + 3, L, .ref (h.1.length + 1) :: st) _ h' v (σ ++ [q]) H1 locs (cells + 1) (slots + N0) ls hr hC hd1 hd2 htc hts2 (by simp only [List.length_append, List.length_cons, List.length_nil]; omega) (by rw [zSl_push]; simp only [hfn]; omega) ⟨by rw [e1]; exact hP1, by rw [e1]; exact hD1, hS1, by simp [hσ]⟩ hX hL2 (fun σ' H' locs' pc ls' hG1 hp hf => hE σ' H' locs' pc ls' hG1 ((List.prefix_append σ [q]).trans hp) hf)
      have e4 : List.map (zVal b (σ ++ [q])) (.ref (h.1.length + 1) :: st) = .ref q :: st.map (zVal b σ) := by
        rw [List.map_cons, hst]
        show Value.ref ((σ ++ [q]).getD h.1.length 0) :: _ = _
        rw [e3]
      have g2 : W p l e R s m args below meth c H1 locs (cells + 1) (slots + N0) Q (F0 m (pc + 3) ls (List.map (zVal b (σ ++ [q])) (.ref (h.1.length + 1) :: st))) := g1
      rw [e4] at g2
      exact g2
    · obtain rfl := beq_iff_eq.mp hlen
      split at hr
      · rename_i N b1 c1 hcp
        obtain ⟨⟨hkd, hpn, hcat⟩, hr⟩ := zGo_inv hr
        obtain ⟨hMo, hl0, hl1⟩ := zcp_ok hcp
        have hkN : zKd N ≤ 2 := by omega
        obtain ⟨d1, v1, h1, hd, hLn, hrun, hr2⟩ := zCall_inv hr
        clear hr
        obtain ⟨hkeep, hr⟩ := zKeep_inv hr2
        clear hr2
        have hmo1 := zrun_mono n hrun
        have hmo2 := zrun_mono n hr
        have hm1 := hmo1.1
        have hm2 := hmo1.2
        have hm3 := hmo2.1
        have hm4 := hmo2.2
        obtain ⟨hpl, hyo, hyd, hypn, hml23⟩ := zHd hkN
        generalize hvs : (st.take (zPn N)).reverse = vs at hLn hrun
        generalize hrest : st.drop (zPn N) = rest at hcat hkeep hr
        have hstk : st.map (zVal b σ) = (vs.map (zVal b σ)).reverse ++ rest.map (zVal b σ) := by
          rw [← hvs, ← hrest, ← List.map_reverse, List.reverse_reverse, ← List.map_append, List.take_append_drop]
        have hln : (vs.map (zVal b σ)).length = zPn N := by rw [← hvs]; simp; omega
        have hcr : 2 * (F0 m pc ls (st.map (zVal b σ))).monitorRoom + ((rest.map (zVal b σ)).map fun v => v.category).sum ≤ 8 := lv_room (by rw [zCat_map]; exact hcat)
        have hM := z_met ih hkN (fun h2 => by omega) hLn hrun b σ H.size hσ
        have hPS : PreS s H (zPre D cI cZ b vs σ h H.size) (vs.map (zVal b σ)) := ⟨zPre_blind, fun U hU hW => ⟨rfl, by rw [hU], by rw [hU]; exact hP, va_K.moved hW.alike hK, hD.weaken (fun _ _ _ _ => trivial), zNK.warm hW hNK⟩⟩
        have hini := hts _ (zZW_of hMo.2.2.2.1 rfl)
        have hstt := hts _ (zZW_of (hMo.2.1 hkd) rfl)
        have hcc : cells + (h1.1.length - h.1.length) ≤ R.cells ∧ slots + (zSl h1 - zSl h) ≤ R.slots := ⟨by omega, by omega⟩
        have hrunM : va_Run p l e R s m args below meth c H locs cells slots (h1.1.length - h.1.length) (zSl h1 - zSl h) (F0 m pc ls (st.map (zVal b σ))) (rest.map (zVal b σ)) (zQc D cI cZ b σ h1 v1 (va_A (zWl cI cZ b σ h) H.size) (vs.map (zVal b σ)).toArray) (va_A (zWl cI cZ b σ h) H.size) := by
          by_cases hc0 : c1 = 0
          · exact va_runS ⟨hx, hb, hml, hown, hts⟩ hM ⟨callB_of (zPn N) hts (zWs_good hMo) rfl rfl rfl hini (hts _ (zZW_of (hl0 hc0) rfl)) ⟨hyd.1, hyd.2, hypn⟩ ⟨show d1 + 1 ≤ R.frames from by omega, show 8 + (zMl N + 11) + 42 * d1 ≤ R.locals from by omega⟩, hstt⟩ hPS rfl hln hL.1 hstk hcr hdg hcc
          · exact va_runSN ⟨hx, hb, hml, hown, hts⟩ hM ⟨va_cnB (zPn N) hts (zWs_good hMo) rfl rfl rfl (hNK _ (hl1 hc0) rfl) hini ⟨hyd.1, hyd.2, hypn⟩ ⟨show d1 + 1 ≤ R.frames from by omega, show 8 + (zMl N + 11) + 42 * d1 ≤ R.locals from by omega⟩, hstt, trivial⟩ hPS rfl hln hL.1 hstk hcr hdg hcc
        refine z_call hrunM hS        (z_frA hD hS hA) (z_frA hD hS hA) (fun σ' H1 locs1 hG1 hp => ?_)
        obtain ⟨hL2, hst2⟩ := keep hp hG1 hkeep.2
        have e5 : v1.toList.map (zVal b σ') = v1.toList := zNr_map hkeep.1
        have g1 := ih p e R s m args below meth c Q A b M tc ts xs d (pc + 3, L, v1.toList ++ rest) h1 h' v σ' H1 locs1 (cells + (h1.1.length - h.1.length)) (slots + (zSl h1 - zSl h)) ls hr hC hd1 hd2 htc hts2 (by omega) (by omega) hG1 hX hL2 (fun σ2 H' locs' pc ls' hG2 hp2 hf => hE σ2 H' locs' pc ls' hG2 (hp.trans hp2) hf)
        have g2 : W p l e R s m args below meth c H1 locs1 (cells + (h1.1.length - h.1.length)) (slots + (zSl h1 - zSl h)) Q (F0 m (pc + 3) ls ((v1.toList ++ rest).map (zVal b σ'))) := g1
        rw [List.map_append, e5, hst2] at g2
        exact g2
      · rename_i b1 c1 e1 hcp
        split at hr
        · rename_i nn dp a sp a0 r
          split at hr
          · rename_i n0 n1 hs0 hs1
            obtain ⟨⟨k1, k2, k3, k4, k5, k6, k7⟩, hr⟩ := zGo_inv hr
            cases a with
            | zero => cases hs1
            | succ a =>
              cases a0 with
              | zero => cases hs0
              | succ a0 =>
                have hlk := zcp_ok hcp
                refine va_copyi (ty := .int) hx hb (hml.trans hL.1.symm) hown (hts _ (zZW_of hlk rfl)) (hts _ (zZW_of zac_n rfl)) (hts _ (zZW_of zac_s rfl)) (hts _ (zZW_of zac_i rfl)) hK hP hD hS _ _ 0 0 (zWl_arr hs0) (zWl_arr hs1) rfl rfl rfl k1 k2 k3 k4 k5 (fun _ _ => rfl) (by omega) ?_ hdg (fun H1 locs1 hP1 hD1 hS1 => ?_)
                · have e6 : nativeFrameWords "java/lang/System" "arraycopy" 5 = 7 := by decide +kernel
                  rw [e6, zCat_map]
                  omega
                have e1 := zWl_row (cI := cI) (cZ := cZ) (b := b) (σ := σ) (G := zRow h.2.2 (a + 1) (va_cpy (h.2.2 (a0 + 1)) (h.2.2 (a + 1)) sp.toNatClampNeg dp.toNatClampNeg nn.toNatClampNeg)) hs1 (fun q hq => zRow_off hq)
                rw [zRow_at] at e1
                exact gow (h1 := (h.1, h.2.1, zRow h.2.2 (a + 1) (va_cpy (h.2.2 (a0 + 1)) (h.2.2 (a + 1)) sp.toNatClampNeg dp.toNatClampNeg nn.toNatClampNeg))) hr rfl ⟨e1 ▸ hP1, e1 ▸ hD1, hS1, hσ⟩ hL
          · cases hr
        · cases hr
      · rename_i hcp
        obtain ⟨x, y, r, hst, hr2⟩ := zI2_inv hr; clear hr; have hr := hr2; clear hr2; subst hst
        obtain ⟨⟨k6, k7⟩, hr⟩ := zGo_inv hr
        exact va_mmax hx hb (hml.trans hL.1.symm) hown (hts _ (zZW_of (zcp_ok hcp) rfl)) (hts _ (zZW_of zmt_as rfl)) (hts _ (zZW_of zmt_i rfl)) (hts _ (zZW_of zmt_ac rfl)) (by omega) (by rw [zCat_map]; omega) (ccl (zrun_mono n hr)) (csl (zrun_mono n hr)) hdg (go hr hL)
      · rename_i hcp
        obtain ⟨x, y, r, hst, hr2⟩ := zI2_inv hr; clear hr; have hr := hr2; clear hr2; subst hst
        obtain ⟨⟨k6, k7⟩, hr⟩ := zGo_inv hr
        exact va_mmin hx hb (hml.trans hL.1.symm) hown (hts _ (zZW_of (zcp_ok hcp) rfl)) (hts _ (zZW_of zmt_bs rfl)) (hts _ (zZW_of zmt_i rfl)) (hts _ (zZW_of zmt_bc rfl)) (by omega) (by rw [zCat_map]; omega) (ccl (zrun_mono n hr)) (csl (zrun_mono n hr)) hdg (go hr hL)
      · rename_i hcp
        obtain ⟨x, y, r, hst, hr2⟩ := zJ2_inv hr; clear hr; have hr := hr2; clear hr2; subst hst
        obtain ⟨⟨k6, k7⟩, hr⟩ := zGo_inv hr
        exact va_mmax_long hx hb (hml.trans hL.1.symm) hown (hts _ (zZW_of (zcp_ok hcp) rfl)) (hts _ (zZW_of zmt_cs rfl)) (hts _ (zZW_of zmt_i rfl)) (hts _ (zZW_of zmt_cc rfl)) (by omega) (by rw [zCat_map]; omega) (ccl (zrun_mono n hr)) (csl (zrun_mono n hr)) hdg (go hr hL)
      · cases hr
    · obtain rfl := beq_iff_eq.mp hlen
      obtain ⟨N, b1, c1, hcp, hr⟩ := zCp_inv hr
      split at hr
      · rename_i a rest hdr
        split at hr
        · rename_i cj nn hsh
          rcases a with _ | a
          · cases hsh
          obtain ⟨⟨hkd, hcj, hpn, hcat⟩, hr2⟩ := zGo_inv hr
          clear hr
          have hr := hr2
          clear hr2
          obtain ⟨hMo, hl0, hl1⟩ := zcp_ok hcp
          have hkN : zKd N ≤ 2 := by omega
          obtain ⟨d1, v1, h1, hd, hLn, hrun, hr2⟩ := zCall_inv hr
          clear hr
          obtain ⟨hkeep, hr⟩ := zKeep_inv hr2
          clear hr2
          have hmo1 := zrun_mono n hrun
          have hmo2 := zrun_mono n hr
          have hm1 := hmo1.1
          have hm2 := hmo1.2
          have hm3 := hmo2.1
          have hm4 := hmo2.2
          obtain ⟨hpl, hyo, hyd, hypn, hml23⟩ := zHd hkN
          have hsh : h.1[a]? = some (0, cj, nn) := hsh
          have he := zWl_at (cI := cI) (cZ := cZ) (b := b) (σ := σ) hsh
          obtain ⟨q, hq, -⟩ := hP a _ he
          have hqn := (zql hq).2.2.2.1
          generalize hvs : (st.take (zPn N)).reverse = vs at hLn hrun
          have hstk : st.map (zVal b σ) = (vs.map (zVal b σ)).reverse ++ .ref (σ.getD a 0) :: rest.map (zVal b σ) := by
            rw [← hvs, ← List.map_reverse, List.reverse_reverse]
            show _ = _ ++ ((Value.ref (a + 1)) :: rest).map (zVal b σ)
            rw [← hdr, ← List.map_append, List.take_append_drop]
          have hln : (vs.map (zVal b σ)).length = zPn N := by rw [← hvs]; simp; omega
          have hcr : 2 * (F0 m pc ls (st.map (zVal b σ))).monitorRoom + ((rest.map (zVal b σ)).map fun v => v.category).sum ≤ 8 := lv_room (by rw [zCat_map]; exact hcat)
          have hM := z_met ih hkN (fun h2 => by omega) hLn hrun b σ H.size hσ
          have hPV : PreV s H (zOn (zOw N)) (σ.getD a 0) (zPre D cI cZ b (.ref (a + 1) :: vs) σ h H.size) (vs.map (zVal b σ)) := ⟨zPre_blind, by rw [← hcj, ← hqn]; exact va_recv hK hP hq he, fun U hU hW => ⟨rfl, by rw [hU], by rw [hU]; exact hP, va_K.moved hW.alike hK, hD.weaken (fun _ _ _ _ => trivial), zNK.warm hW hNK⟩⟩
          have hini := hts _ (zZW_of hMo.2.2.2.1 rfl)
          have hi0 := hts _ (zZW_of (hMo.1 hkd).1 rfl)
          have hse := hts _ (zZW_of (hMo.1 hkd).2 rfl)
          have hcc : cells + (h1.1.length - h.1.length) ≤ R.cells ∧ slots + (zSl h1 - zSl h) ≤ R.slots := ⟨by omega, by omega⟩
          have hrunM : va_Run p l e R s m args below meth c H locs cells slots (h1.1.length - h.1.length) (zSl h1 - zSl h) (F0 m pc ls (st.map (zVal b σ))) (rest.map (zVal b σ)) (zQc D cI cZ b σ h1 v1 (va_A (zWl cI cZ b σ h) H.size) (Value.ref (σ.getD a 0) :: vs.map (zVal b σ)).toArray) (va_A (zWl cI cZ b σ h) H.size) := by
            by_cases hc0 : c1 = 0
            · exact va_runV ⟨hx, hb, hml, hown, hts⟩ hM ⟨callB_of (zPn N) hts (zWs_good hMo) rfl rfl rfl hini (hts _ (zZW_of (hl0 hc0) rfl)) ⟨hyd.1, hyd.2, hypn⟩ ⟨show d1 + 1 ≤ R.frames from by omega, show 8 + (zMl N + 11) + 42 * d1 ≤ R.locals from by omega⟩, hi0, hse⟩ hPV rfl hln hL.1 hstk hcr hdg hcc
            · exact va_runVN ⟨hx, hb, hml, hown, hts⟩ hM ⟨va_cnB (zPn N) hts (zWs_good hMo) rfl rfl rfl (hNK _ (hl1 hc0) rfl) hini ⟨hyd.1, hyd.2, hypn⟩ ⟨show d1 + 1 ≤ R.frames from by omega, show 8 + (zMl N + 11) + 42 * d1 ≤ R.locals from by omega⟩, hi0, hse⟩ hPV rfl hln hL.1 hstk hcr hdg hcc
          refine z_call hrunM hS        (z_frA hD hS hA) (z_frA hD hS hA) (fun σ' H1 locs1 hG1 hp => ?_)
          obtain ⟨hL2, hst2⟩ := keep hp hG1 hkeep.2
          have e5 : v1.toList.map (zVal b σ') = v1.toList := zNr_map hkeep.1
          have g1 := ih p e R s m args below meth c Q A b M tc ts xs d (pc + 3, L, v1.toList ++ rest) h1 h' v σ' H1 locs1 (cells + (h1.1.length - h.1.length)) (slots + (zSl h1 - zSl h)) ls hr hC hd1 hd2 htc hts2 (by omega) (by omega) hG1 hX hL2 (fun σ2 H' locs' pc ls' hG2 hp2 hf => hE σ2 H' locs' pc ls' hG2 (hp.trans hp2) hf)
          have g2 : W p l e R s m args below meth c H1 locs1 (cells + (h1.1.length - h.1.length)) (slots + (zSl h1 - zSl h)) Q (F0 m (pc + 3) ls ((v1.toList ++ rest).map (zVal b σ'))) := g1
          rw [List.map_append, e5, hst2] at g2
          exact g2
        · cases hr
      · cases hr
    · obtain rfl := beq_iff_eq.mp hlen
      split at hr
      · rename_i N b1 c1 hcp
        split at hr
        · rename_i a rest hdr
          obtain ⟨⟨hkd, hpn, hcat⟩, hr⟩ := zGo_inv hr
          obtain ⟨hMo, hl0, hl1⟩ := zcp_ok hcp
          have hkN : zKd N ≤ 2 := by omega
          obtain ⟨hi0, hin0, hrt0⟩ := hMo.2.2.1 hkd
          obtain ⟨d1, v1, h1, hd, hLn, hrun, hr2⟩ := zCall_inv hr
          clear hr
          obtain ⟨hkeep, hr⟩ := zKeep_inv hr2
          clear hr2
          have hmo1 := zrun_mono n hrun
          have hmo2 := zrun_mono n hr
          have hm1 := hmo1.1
          have hm2 := hmo1.2
          have hm3 := hmo2.1
          have hm4 := hmo2.2
          obtain ⟨hpl, hyo, hyd, hypn, hml23⟩ := zHd hkN
          generalize hvs : (st.take (zPn N)).reverse = vs at hLn hrun
          obtain ⟨a1, ha1⟩ : ∃ a1, zVal b σ (.ref a) = .ref a1 := by cases a <;> exact ⟨_, rfl⟩
          have hstk : st.map (zVal b σ) = (vs.map (zVal b σ)).reverse ++ .ref a1 :: rest.map (zVal b σ) := by
            rw [← hvs, ← List.map_reverse, List.reverse_reverse, ← ha1]
            show _ = _ ++ ((Value.ref a) :: rest).map (zVal b σ)
            rw [← hdr, ← List.map_append, List.take_append_drop]
          have hln : (vs.map (zVal b σ)).length = zPn N := by rw [← hvs]; simp; omega
          have hcr : 2 * (F0 m pc ls (st.map (zVal b σ))).monitorRoom + ((rest.map (zVal b σ)).map fun v => v.category).sum ≤ 8 := lv_room (by rw [zCat_map]; exact hcat)
          have hM := z_met ih hkN (fun _ => hin0) hLn hrun b σ H.size hσ
          have hPS : PreS s H (zPre D cI cZ b (.ref a :: vs) σ h H.size) (.ref a1 :: vs.map (zVal b σ)) := ⟨zPre_blind, fun U hU hW => ⟨by rw [← ha1]; rfl, by rw [hU], by rw [hU]; exact hP, va_K.moved hW.alike hK, hD.weaken (fun _ _ _ _ => trivial), zNK.warm hW hNK⟩⟩
          have hini := hts _ (zZW_of hMo.2.2.2.1 rfl)
          have hi0 := hts _ (zZW_of hi0 rfl)
          have hcc : cells + (h1.1.length - h.1.length) ≤ R.cells ∧ slots + (zSl h1 - zSl h) ≤ R.slots := ⟨by omega, by omega⟩
          have hws : zWs N = Cond.code (zYn N) (zBy N) (zMl N) none :: zZW := by rw [← hrt0]; rfl
          have hrunM : va_Run p l e R s m args below meth c H locs cells slots (h1.1.length - h.1.length) (zSl h1 - zSl h) (F0 m pc ls (st.map (zVal b σ))) (rest.map (zVal b σ)) (zQc D cI cZ b σ h1 v1 (va_A (zWl cI cZ b σ h) H.size) (Value.ref a1 :: vs.map (zVal b σ)).toArray) (va_A (zWl cI cZ b σ h) H.size) := by
            by_cases hc0 : c1 = 0
            · exact va_runI ⟨hx, hb, hml, hown, hts⟩ hM ⟨callB_of (zPn N) hts (zWs_good hMo) hws rfl rfl hini (hts _ (zZW_of (hl0 hc0) rfl)) ⟨hyd.1, hyd.2, hypn⟩ ⟨show d1 + 1 ≤ R.frames from by omega, show 8 + (zMl N + 11) + 42 * d1 ≤ R.locals from by omega⟩, hin0, hi0⟩ hPS rfl hln hL.1 hstk hcr hdg hcc
            · exact va_runIN ⟨hx, hb, hml, hown, hts⟩ hM ⟨va_cnB (zPn N) hts (zWs_good hMo) hws rfl rfl (hNK _ (hl1 hc0) rfl) hini ⟨hyd.1, hyd.2, hypn⟩ ⟨show d1 + 1 ≤ R.frames from by omega, show 8 + (zMl N + 11) + 42 * d1 ≤ R.locals from by omega⟩, hin0, hi0⟩ hPS rfl hln hL.1 hstk hcr hdg hcc
          refine z_call hrunM hS        (z_frA hD hS hA) (z_frA hD hS hA) (fun σ' H1 locs1 hG1 hp => ?_)
          obtain ⟨hL2, hst2⟩ := keep hp hG1 hkeep.2
          have e5 : v1.toList.map (zVal b σ') = v1.toList := zNr_map hkeep.1
          have g1 := ih p e R s m args below meth c Q A b M tc ts xs d (pc + 3, L, v1.toList ++ rest) h1 h' v σ' H1 locs1 (cells + (h1.1.length - h.1.length)) (slots + (zSl h1 - zSl h)) ls hr hC hd1 hd2 htc hts2 (by omega) (by omega) hG1 hX hL2 (fun σ2 H' locs' pc ls' hG2 hp2 hf => hE σ2 H' locs' pc ls' hG2 (hp.trans hp2) hf)
          have g2 : W p l e R s m args below meth c H1 locs1 (cells + (h1.1.length - h.1.length)) (slots + (zSl h1 - zSl h)) Q (F0 m (pc + 3) ls ((v1.toList ++ rest).map (zVal b σ'))) := g1
          rw [List.map_append, e5, hst2] at g2
          exact g2
        · cases hr
      · rename_i b1 c1 e1 hcp
        split at hr
        · rename_i a r
          obtain ⟨⟨k6, k7⟩, hr⟩ := zGo_inv hr
          obtain ⟨a1, ha1⟩ : ∃ a1, zVal b σ (.ref a) = .ref a1 := by cases a <;> exact ⟨_, rfl⟩
          refine W.objInit hx hb hown (hts _ (zZW_of (zcp_ok hcp) rfl)) (hts _ (zZW_of zobj_i rfl)) (hts _ (zZW_of zobj_c rfl)) rfl (by rw [hml]; exact hL.1) (rest := r.map (zVal b σ)) (a := a1) (by show zVal b σ (.ref a) :: _ = _; rw [ha1]) hdg (by omega) ?_ (go hr hL)
          have := lv_room (m := m) (pc := pc) (ls := ls) (rest := (Value.ref a :: r).map (zVal b σ)) (st := r.map (zVal b σ)) (by rw [zCat_map]; exact k7)
          have e7 : (F0 m (pc, L, Value.ref a :: r).1 ls ((pc, L, Value.ref a :: r).2.2.map (zVal b σ))).monitorRoom = (F0 m pc ls ((Value.ref a :: r).map (zVal b σ))).monitorRoom := rfl
          rw [e7]
          omega
        · cases hr
      · cases hr
    · obtain rfl := beq_iff_eq.mp hlen
      split at hr
      · rename_i x
        split at hr
        · rename_i hrt
          cases hr
          obtain rfl : cells = tc := by omega
          obtain rfl : slots = ts := by omega
          exact hE σ H locs pc ls ⟨hP, hD, hS, hσ⟩ List.prefix_rfl ⟨hdg, Or.inl hrt⟩
        · rename_i hrt
          obtain ⟨hc, hr⟩ := zGo_inv hr
          cases hr
          obtain rfl : cells = tc := by omega
          obtain rfl : slots = ts := by omega
          exact hE σ H locs pc ls ⟨hP, hD, hS, hσ⟩ List.prefix_rfl ⟨hdg, Or.inr ⟨hrt, hc⟩⟩
        · cases hr
      · cases hr
    · obtain rfl := beq_iff_eq.mp hlen
      split at hr
      · obtain ⟨hc, hr⟩ := zGo_inv hr
        cases hr
        obtain rfl : cells = tc := by omega
        obtain rfl : slots = ts := by omega
        exact hE σ H locs pc ls ⟨hP, hD, hS, hσ⟩ List.prefix_rfl ⟨hdg, hc⟩
      · cases hr
    · obtain rfl := beq_iff_eq.mp hlen
      split at hr
      · obtain ⟨hc, hr⟩ := zGo_inv hr
        cases hr
        obtain rfl : cells = tc := by omega
        obtain rfl : slots = ts := by omega
        exact hE σ H locs pc ls ⟨hP, hD, hS, hσ⟩ List.prefix_rfl ⟨hdg, hc⟩
      · cases hr
    · cases hr
end
section
/-! THE CLAIM OUT OF ONE WALK OF THE LAW'S BODY. Your part is whole_start (and what it stands on); all else here is the same for every law, but numbers. -/
def R_law : String := "BenchMemoriesLaw"
def lw_P (b : Addr) (xs : List Int32) (args : Array Value) (s : State) : Prop := args = #[.ref b] ∧ s.IntsAt b xs ∧ xs.length ≤ 2560 ∧ (Jvm.Cond.and given_1 narrow_1).before args s = true
def lw_Q (_ : Array Value) (s : State) (o : Outcome) (t : State) : Prop := o = .returned (some (.int 1)) ∧ Framed s o t [] 600000 7302250
def lw_Z (below : List Frame) (a : Array Value) (s : State) : State → Prop := fun t => ∃ o, t.status = .running ∧ Ended t below o ∧ lw_Q a s o t
/-- the law's own end, with 1 on the stack, nothing written that was there before, its room as the claim has it -/
theorem lw_ret {p : Program} {l : Launch} {e : Env} {s : State} {m : MethodId} {below : List Frame} {meth : Method} {c : Code} {b : Nat} (hx : p.tables.exec = Jvm.exec) (hb : c.code = code) (hr : meth.sig.returnType = ret) (hlocks : meth.locks = false) {pc : Nat} {H : Heap} {ls : Array Slot} (hdg : decode code pc = .ok (.ireturn, 1)) : W p l e room_1 s m #[Value.ref b] below meth c H [] 600000 7302250 (lw_Z below #[Value.ref b] s) (F0 m pc ls [.int 1]) := by
  intro T hT X
  obtain ⟨fs, hret, hrun, hended, hW, hframe⟩ := X.leave (v := some (.int 1)) (hlocks := hlocks) (fun h => by rw [hr] at h; cases h)
  have hmeth' : T.vm.method? m = some meth := X.method'
  refine ⟨T.setFrames fs, ?_, .returned (some (.int 1)), hrun, hended, rfl, ⟨_, rfl⟩, hW, hframe⟩
  jvm_step X.here [X.here.top, hx, hb, hdg, hmeth', hr, ret, narrow_b1]
  (try refine ⟨rfl, ?_⟩); (try refine ⟨rfl, ?_⟩)
  first | (intro acts; rw [hret _ acts rfl rfl rfl]) | rw [hret _ _ rfl rfl rfl]
  exact Steps.refl _
/-- what holds at the law's entry: the machine, the code, the tables' words (any of lw_tbl by 'hts w (by decide +kernel)'), the script of L ints xs at the cell b, what the Statement gives of the start (any of its parts by flat_of_before) -/
def lw_At (p : Program) (s : State) (m : MethodId) (meth : Method) (c : Code) (b L : Nat) (xs : Nat → Int32) : Prop :=
  p.tables.exec = Jvm.exec ∧ c.code = code ∧ meth.sig.returnType = ret ∧ c.maxLocals = 4 ∧ s.vm.findClass R_law = some m.cls ∧ (∀ w ∈ lw_tbl, w.before #[Value.ref b] s = true) ∧ va_X b L xs s s.heap ∧ b < s.heap.size ∧ meth.locks = false ∧ (Jvm.Cond.and given_1 narrow_1).before #[Value.ref b] s = true
theorem zbw {args : Array Value} {s : State} {ty : FieldType} (h : (Jvm.Cond.arrayClass ty).before args s = true) : ∃ cA : ClassId, ArrOfT s cA ty ∧ s.vm.findClass ("[" ++ ty.toString) = some cA := by
  obtain ⟨cA, kA, comp, h1, h2, h3⟩ := Cond.arrayClass_spec h
  exact ⟨cA, fun n z => ⟨fun k h => (by cases h), kA, h2, comp, h3⟩, h1⟩
def zh0 : zH := ([], [], fun _ _ => 0)
def zf0 : zFr := (0, [some (.ref 0), none, none, none], [])
def zLaw (L : Nat) (xs : Nat → Int32) : Prop := ∃ (n : Nat) (h' : zH), zrun (some (L, xs)) n 8 199 zf0 zh0 = some (some (.int 1), h') ∧ h'.1.length ≤ 600000 ∧ zSl h' ≤ 7302250
theorem zu_ok (ci : Nat) (q : vw_C) (h : zcls[ci]? = some q) : (∀ w ∈ u_ws q.1 q.2.1 q.2.2, w ∈ lw_tbl) ∧ Jvm.Cond.instantiable q.1 q.2.2 ∈ lw_tbl := by
  match ci, h with
  | 0, h => cases h; exact ⟨zu_0, List.mem_of_getElem? (i := 160) (by decide +kernel)⟩
  | 1, h => cases h; exact ⟨zu_1, List.mem_of_getElem? (i := 84) (by decide +kernel)⟩
  | 2, h => cases h; exact ⟨zu_2, List.mem_of_getElem? (i := 231) (by decide +kernel)⟩
  | 3, h => cases h; exact ⟨zu_3, List.mem_of_getElem? (i := 142) (by decide +kernel)⟩
  | 4, h => cases h; exact ⟨zu_4, List.mem_of_getElem? (i := 195) (by decide +kernel)⟩
  | 5, h => cases h; exact ⟨zu_5, List.mem_of_getElem? (i := 90) (by decide +kernel)⟩
  | 6, h => cases h; exact ⟨zu_6, List.mem_of_getElem? (i := 243) (by decide +kernel)⟩
  | 7, h => cases h; exact ⟨zu_7, List.mem_of_getElem? (i := 271) (by decide +kernel)⟩
  | 8, h => cases h; exact ⟨zu_8, List.mem_of_getElem? (i := 216) (by decide +kernel)⟩
  | 9, h => cases h; exact ⟨zu_9, List.mem_of_getElem? (i := 76) (by decide +kernel)⟩
  | 10, h => cases h; exact ⟨zu_10, List.mem_of_getElem? (i := 791) (by decide +kernel)⟩
  | n + 11, h => cases h
set_option maxHeartbeats 4000000 in
theorem z_start {p : Program} {e : Env} {s : State} {m : MethodId} {below : List Frame} {meth : Method} {c : Code} (l : Launch) {b L : Nat} {xs : Nat → Int32} (C0 : lw_At p s m meth c b L xs) (hr : zLaw L xs) : W p l e room_1 s m #[Value.ref b] below meth c s.heap [] 0 0 (lw_Z below #[Value.ref b] s) (entryFrame m ([Value.ref b] : List Value).toArray 4) := by
  obtain ⟨hx, hb, hret, hml, hown, hts, hX, hbl, hlocks, hgv⟩ := id C0
  obtain ⟨n, h', hrun, hn1, hn2⟩ := hr
  have hkn : ∀ k : Nat, ∃ (cC : ClassId) (iS : Nat → Nat), ∀ q : vw_C, zcls[k]? = some q → u_Kn s q.1 q.2.1 q.2.2 cC iS := by
    intro k
    cases hk : zcls[k]? with
    | none => exact ⟨0, fun _ => 0, fun q hq => by cases hq⟩
    | some q =>
      obtain ⟨h1, h2⟩ := zu_ok k q hk
      obtain ⟨cC, iS, h3⟩ := u_known hts h1 (hts _ h2)
      exact ⟨cC, iS, fun q2 hq => by cases hq; exact h3⟩
  obtain ⟨cI, hI1, hI2⟩ := zbw (hts _ zarr_i)
  obtain ⟨cZ, hZ1, hZ2⟩ := zbw (hts _ zarr_z)
  have hK : va_K (fun k => Classical.choose (hkn k), fun k => Classical.choose (Classical.choose_spec (hkn k))) zcls (zTys cI cZ) s := by
    refine ⟨fun k q hq => Classical.choose_spec (Classical.choose_spec (hkn k)) q hq, fun k q hq => ?_⟩
    match k, hq with
    | 0, hq => cases hq; exact ⟨hI1, hI2⟩
    | 1, hq => cases hq; exact ⟨hZ1, hZ2⟩
    | k + 2, hq => cases hq
  generalize (fun k => Classical.choose (hkn k), fun k => Classical.choose (Classical.choose_spec (hkn k))) = D at hK
  have e1 : entryFrame m ([Value.ref b] : List Value).toArray 4 = F0 m 0 ((lg_sl ([.ref b]) ++ List.replicate (4 - (lg_sl ([.ref b])).length) Slot.unset).toArray) [] := lg_entry_eq _ _ _
  rw [e1]
  have hl := zLc_entry (b := b) (σ := []) (vs := [.ref 0]) (n := 4) (by decide)
  have hNK : zNK s := fun w hw hn => va_Nw.of (by cases w <;> first | (cases hn; done) | rfl) (hts w hw)
  refine z_all l D cI cZ n p e room_1 s m #[Value.ref b] below meth c _ (fun q => s.heap.size ≤ q) b 199 h'.1.length (zSl h') (some (L, xs)) 8 zf0 zh0 h' (some (.int 1)) [] s.heap [] 0 0 _ hrun ?_ (by decide) (by decide) hn1 hn2 ?_ ?_ ?_ ?_ hl ?_
  · exact ⟨hx, hb, hml, hown, fun w hw => hts w (List.mem_filter.mp hw).1, hNK, hK, hret, hlocks, fun h2 => absurd h2 (by decide +kernel), fun _ h => h⟩
  · show 0 + h'.1.length = h'.1.length + 0
    omega
  · show 0 + zSl h' = zSl h' + 0
    omega
  · refine ⟨fun k q hk => ?_, ⟨fun i j p q hi => ?_, fun k q hk => ?_⟩, va_S.rf, rfl⟩
    · simp [zWl, zh0] at hk
    · simp [zWl, zh0] at hi
    · simp [zWl, zh0] at hk
  · exact ⟨hX, hbl, Nat.not_le.mpr hbl⟩
  · intro σ' H' locs' pc ls' hG _ hf
    refine va_forget (fun q hq => hG.2.2.1.2.2 q hq) ?_
    refine W.widen (k := 600000) (n := 7302250) hn1 hn2 ?_
    exact lw_ret hx hb hret hlocks hf.1
end
section
def zS : List (Nat × Nat × Nat) := [(0, 9, 11), (0, 1, 8), (0, 5, 1), (1, 0, 10), (0, 5, 1), (1, 0, 8), (0, 5, 1), (1, 0, 12), (0, 5, 1), (1, 0, 12), (0, 5, 1), (1, 0, 8), (0, 1, 8), (0, 5, 1), (1, 0, 10), (0, 5, 1), (1, 0, 8), (0, 5, 1), (1, 0, 12), (0, 5, 1), (1, 0, 12), (0, 5, 1), (1, 0, 8), (0, 1, 8), (0, 5, 1), (1, 0, 10), (0, 5, 1), (1, 0, 8), (0, 5, 1), (1, 0, 12), (0, 5, 1), (1, 0, 12), (0, 5, 1), (1, 0, 8), (0, 3, 2), (0, 5, 1), (1, 0, 60), (0, 0, 6), (0, 1, 8), (0, 5, 1), (1, 0, 10), (0, 5, 1), (1, 0, 8), (0, 5, 1), (1, 0, 12), (0, 5, 1), (1, 0, 12), (0, 5, 1), (1, 0, 8), (0, 5, 1), (1, 0, 12), (0, 4, 4), (0, 5, 1), (1, 0, 10), (0, 5, 1), (1, 0, 100), (0, 5, 1), (1, 0, 4608), (0, 8, 2), (0, 5, 1), (1, 0, 1024), (0, 2, 1), (0, 5, 1), (1, 0, 7), (0, 6, 5), (0, 5, 1), (1, 0, 35), (0, 5, 1), (1, 0, 8), (0, 7, 1), (0, 5, 1), (1, 0, 41), (0, 10, 32), (1, 0, 10), (1, 0, 8), (1, 0, 8), (1, 0, 10), (1, 0, 10), (1, 0, 8), (1, 0, 8), (1, 0, 8), (1, 0, 60), (1, 0, 60), (1, 0, 60), (1, 0, 60), (1, 0, 12), (1, 0, 38), (1, 0, 10240), (1, 0, 100), (1, 0, 7), (1, 0, 8), (1, 0, 41), (1, 1, 128), (1, 0, 200), (1, 1, 2)]
def zRf : zRl := [(73, 29, 95), (73, 28, 94), (73, 27, 93), (73, 26, 92), (73, 25, 91), (73, 24, 90), (73, 23, 89), (73, 22, 88), (73, 18, 87), (73, 17, 86), (73, 15, 85), (73, 14, 84), (73, 13, 83), (73, 11, 82), (73, 9, 81), (73, 8, 80), (73, 7, 79), (73, 4, 78), (73, 3, 77), (73, 2, 76), (73, 1, 75), (73, 0, 74), (1, 9, 70), (70, 0, 71), (71, 0, 72), (1, 8, 65), (65, 1, 68), (68, 0, 69), (65, 0, 66), (66, 0, 67), (1, 7, 62), (62, 0, 63), (63, 0, 64), (1, 6, 59), (59, 0, 60), (60, 0, 61), (1, 5, 52), (52, 2, 57), (57, 0, 58), (52, 1, 55), (55, 0, 56), (52, 0, 53), (53, 0, 54), (1, 4, 38), (38, 1, 50), (50, 0, 51), (38, 0, 39), (39, 4, 48), (48, 0, 49), (39, 3, 46), (46, 0, 47), (39, 2, 44), (44, 0, 45), (39, 1, 42), (42, 0, 43), (39, 0, 40), (40, 0, 41), (1, 3, 35), (35, 0, 36), (36, 0, 37), (1, 2, 24), (24, 4, 33), (33, 0, 34), (24, 3, 31), (31, 0, 32), (24, 2, 29), (29, 0, 30), (24, 1, 27), (27, 0, 28), (24, 0, 25), (25, 0, 26), (1, 1, 13), (13, 4, 22), (22, 0, 23), (13, 3, 20), (20, 0, 21), (13, 2, 18), (18, 0, 19), (13, 1, 16), (16, 0, 17), (13, 0, 14), (14, 0, 15), (1, 0, 2), (2, 4, 11), (11, 0, 12), (2, 3, 9), (9, 0, 10), (2, 2, 7), (7, 0, 8), (2, 1, 5), (5, 0, 6), (2, 0, 3), (3, 0, 4)]
abbrev zI : Type := Nat → Nat → Int32
abbrev zHp (I : zI) : zH := (zS, zRf, I)
end
section
/-! rules for walking the interpreter -/
theorem zEv_ret {xs : zX} {d M : Nat} {f : zFr} {h h' : zH} {v : Option Value} (k : Nat) (hb : ∀ n, zrun xs (n + k) d M f h = some (v, h')) : zEv xs d M f h v h' := ⟨0 + k, hb 0⟩
theorem zEv_go {xs : zX} {d M : Nat} {f f1 : zFr} {h h1 h' : zH} {v : Option Value} (k : Nat) (hb : ∀ n, zrun xs (n + k) d M f h = zrun xs n d M f1 h1) (kk : zEv xs d M f1 h1 v h') : zEv xs d M f h v h' := by
  obtain ⟨n, hn⟩ := kk
  exact ⟨n + k, (hb n).trans hn⟩
theorem zEv_if {xs : zX} {d M : Nat} {f f1 f2 : zFr} {h h1 h' : zH} {v : Option Value} (k : Nat) {c : Prop} [Decidable c] (hb : ∀ n, zrun xs (n + k) d M f h = if c then zrun xs n d M f1 h1 else zrun xs n d M f2 h1) (k1 : c → zEv xs d M f1 h1 v h') (k2 : ¬ c → zEv xs d M f2 h1 v h') : zEv xs d M f h v h' := by
  by_cases hc : c
  · obtain ⟨n, hn⟩ := k1 hc
    exact ⟨n + k, (hb n).trans ((if_pos hc).trans hn)⟩
  · obtain ⟨n, hn⟩ := k2 hc
    exact ⟨n + k, (hb n).trans ((if_neg hc).trans hn)⟩
theorem zEv_gd {xs : zX} {d M : Nat} {f f1 : zFr} {h h1 h' : zH} {v : Option Value} (k : Nat) {c : Prop} [Decidable c] (hb : ∀ n, zrun xs (n + k) d M f h = if c then zrun xs n d M f1 h1 else none) (hc : c) (k1 : zEv xs d M f1 h1 v h') : zEv xs d M f h v h' := by
  obtain ⟨n, hn⟩ := k1
  exact ⟨n + k, (hb n).trans ((if_pos hc).trans hn)⟩
theorem zEv_rt {xs : zX} {d M : Nat} {f : zFr} {h h' : zH} {v : Option Value} {c : Prop} [Decidable c] (hc : c) (k : Nat) (hb : ∀ n, zrun xs (n + k) d M f h = if c then some (v, h') else none) : zEv xs d M f h v h' := ⟨0 + k, (hb 0).trans (if_pos hc)⟩
theorem zGd_inv {α : Type} {c : Prop} [Decidable c] {a : Option α} {r : α} (h : (if c then a else none) = some r) : c ∧ a = some r := by
  by_cases hc : c
  · rw [if_pos hc] at h
    exact ⟨hc, h⟩
  · rw [if_neg hc] at h
    cases h
/-- what isn't told of the locals, but for references -/
def zLw : List (Option Value) → List (Option Value) → Prop
  | [], [] => True
  | none :: t, o :: t' => zNr o = true ∧ zLw t t'
  | some v :: t, some v' :: t' => v = v' ∧ zLw t t'
  | _, _ => False
theorem zLw_rf : ∀ (L : List (Option Value)), zLw L L
  | [] => trivial
  | none :: t => ⟨rfl, zLw_rf t⟩
  | some _ :: t => ⟨rfl, zLw_rf t⟩
theorem zLw_len : ∀ {L L' : List (Option Value)}, zLw L L' → L'.length = L.length
  | [], [], _ => rfl
  | none :: t, _ :: t', h => congrArg (· + 1) (zLw_len h.2)
  | some _ :: t, some _ :: t', h => congrArg (· + 1) (zLw_len h.2)
theorem zLw_get : ∀ {L L' : List (Option Value)} (i : Nat), zLw L L' → (∀ v, L[i]? = some (some v) → L'[i]? = some (some v)) ∧ (L[i]? = some none → ∃ o, L'[i]? = some o ∧ zNr o = true) ∧ (L[i]? = none → L'[i]? = none)
  | [], [], i, _ => ⟨fun v h => (by simp at h), fun h => (by simp at h), fun _ => rfl⟩
  | none :: t, o :: t', 0, h => ⟨fun v h => (by simp at h), fun _ => ⟨o, rfl, h.1⟩, fun h => (by simp at h)⟩
  | none :: t, o :: t', i + 1, h => zLw_get i h.2
  | some v :: t, some v' :: t', 0, h => ⟨fun w hw => (by rw [← h.1]; exact hw), fun h => (by simp at h), fun h => (by simp at h)⟩
  | some v :: t, some v' :: t', i + 1, h => zLw_get i h.2
theorem zLw_set : ∀ {L L' : List (Option Value)} (i : Nat) (o : Option Value), zLw L L' → zLw (L.set i o) (L'.set i o)
  | [], [], i, o, _ => trivial
  | none :: t, q :: t', 0, none, h => ⟨rfl, h.2⟩
  | none :: t, q :: t', 0, some v, h => ⟨rfl, h.2⟩
  | none :: t, q :: t', i + 1, o, h => ⟨h.1, zLw_set i o h.2⟩
  | some v :: t, some v' :: t', 0, none, h => ⟨rfl, h.2⟩
  | some v :: t, some v' :: t', 0, some w, h => ⟨rfl, h.2⟩
  | some v :: t, some v' :: t', i + 1, o, h => ⟨h.1, zLw_set i o h.2⟩
theorem zLw_no : ∀ {L L' : List (Option Value)} (i : Nat), L[i]? = some none → zLw L L' → zLw L (L'.set i none)
  | [], [], i, h, _ => by simp at h
  | none :: t, q :: t', 0, _, h => ⟨rfl, h.2⟩
  | none :: t, q :: t', i + 1, h0, h => ⟨h.1, zLw_no i h0 h.2⟩
  | some v :: t, some v' :: t', 0, h0, _ => by simp at h0
  | some v :: t, some v' :: t', i + 1, h0, h => ⟨h.1, zLw_no i h0 h.2⟩
theorem zLw_clr {L L' : List (Option Value)} (i : Nat) (h : zLw L L') : zLw (zClr i L) (zClr i L') := by
  cases i with
  | zero => exact h
  | succ j =>
    obtain ⟨g1, g2, g3⟩ := zLw_get j h
    unfold zClr
    simp only
    cases hj : L[j]? with
    | none => rw [g3 hj]; exact h
    | some o =>
      cases o with
      | none =>
        obtain ⟨o', h1, h2⟩ := g2 hj
        rw [h1]
        cases o' with
        | none => exact h
        | some v =>
          simp only
          split
          · exact zLw_no j hj h
          · exact h
      | some v =>
        rw [g1 v hj]
        simp only
        split
        · exact zLw_set j none h
        · exact h
theorem zLw_s1 {L L' : List (Option Value)} {i : Nat} {v : Value} (h : zLw L L') : zLw (zS1 L i v) (zS1 L' i v) := zLw_set i (some v) (zLw_clr i h)
theorem zLw_s2 {L L' : List (Option Value)} {i : Nat} {v : Value} (h : zLw L L') : zLw (zS2 L i v) (zS2 L' i v) := zLw_set (i + 1) none (zLw_set i (some v) (zLw_clr i h))
theorem zLw_all {n : Nat} : ∀ {L L' : List (Option Value)}, zLw L L' → (L.all fun o => match o with
  | some v => zVk n v
  | none => true) = true → (L'.all fun o => match o with
  | some v => zVk n v
  | none => true) = true
  | [], [], _, _ => rfl
  | none :: t, o :: t', h, hv => by
    rw [List.all_cons, Bool.and_eq_true] at hv ⊢
    refine ⟨?_, zLw_all h.2 hv.2⟩
    cases o with
    | none => rfl
    | some v =>
      have h1 := h.1
      cases v <;> first | rfl | cases h1
  | some v :: t, some v' :: t', h, hv => by
    rw [List.all_cons, Bool.and_eq_true] at hv ⊢
    refine ⟨?_, zLw_all h.2 hv.2⟩
    rw [← h.1]
    exact hv.1
theorem zLw_vs {n : Nat} {L L' : List (Option Value)} {st : List Value} (h : zLw L L') (hv : zVs n L st = true) : zVs n L' st = true := by
  unfold zVs at hv ⊢
  rw [Bool.and_eq_true] at hv ⊢
  exact ⟨zLw_all h hv.1, hv.2⟩
theorem zLI_up {L L' : List (Option Value)} {i : Nat} {k k' : Int32 → zR} {R : Option Value × zH} (h : zLw L L') (hk : ∀ x, k x = some R → k' x = some R) (hr : zLI L i k = some R) : zLI L' i k' = some R := by
  obtain ⟨x, hx, hr⟩ := zLI_inv hr
  unfold zLI
  rw [(zLw_get i h).1 _ hx]
  exact hk x hr
theorem zLJ_up {L L' : List (Option Value)} {i : Nat} {k k' : Int64 → zR} {R : Option Value × zH} (h : zLw L L') (hk : ∀ x, k x = some R → k' x = some R) (hr : zLJ L i k = some R) : zLJ L' i k' = some R := by
  obtain ⟨x, hx, hr⟩ := zLJ_inv hr
  unfold zLJ
  rw [(zLw_get i h).1 _ hx]
  exact hk x hr
theorem zLA_up {L L' : List (Option Value)} {i : Nat} {k k' : Nat → zR} {R : Option Value × zH} (h : zLw L L') (hk : ∀ x, k x = some R → k' x = some R) (hr : zLA L i k = some R) : zLA L' i k' = some R := by
  obtain ⟨x, hx, hr⟩ := zLA_inv hr
  unfold zLA
  rw [(zLw_get i h).1 _ hx]
  exact hk x hr
theorem zI1_up {st : List Value} {k k' : Int32 → List Value → zR} {R : Option Value × zH} (hk : ∀ x r, k x r = some R → k' x r = some R) (hr : zI1 st k = some R) : zI1 st k' = some R := by
  obtain ⟨x, r, rfl, hr⟩ := zI1_inv hr
  exact hk x r (by assumption)
theorem zI2_up {st : List Value} {k k' : Int32 → Int32 → List Value → zR} {R : Option Value × zH} (hk : ∀ x y r, k x y r = some R → k' x y r = some R) (hr : zI2 st k = some R) : zI2 st k' = some R := by
  obtain ⟨x, y, r, rfl, hr⟩ := zI2_inv hr
  exact hk x y r (by assumption)
theorem zJ1_up {st : List Value} {k k' : Int64 → List Value → zR} {R : Option Value × zH} (hk : ∀ x r, k x r = some R → k' x r = some R) (hr : zJ1 st k = some R) : zJ1 st k' = some R := by
  obtain ⟨x, r, rfl, hr⟩ := zJ1_inv hr
  exact hk x r (by assumption)
theorem zJ2_up {st : List Value} {k k' : Int64 → Int64 → List Value → zR} {R : Option Value × zH} (hk : ∀ x y r, k x y r = some R → k' x y r = some R) (hr : zJ2 st k = some R) : zJ2 st k' = some R := by
  obtain ⟨x, y, r, rfl, hr⟩ := zJ2_inv hr
  exact hk x y r (by assumption)
theorem zA1_up {st : List Value} {k k' : Nat → List Value → zR} {R : Option Value × zH} (hk : ∀ x r, k x r = some R → k' x r = some R) (hr : zA1 st k = some R) : zA1 st k' = some R := by
  obtain ⟨x, r, rfl, hr⟩ := zA1_inv hr
  exact hk x r (by assumption)
theorem zTo_up {pc : Nat} {off : Int} {k k' : Nat → zR} {R : Option Value × zH} (hk : ∀ t, k t = some R → k' t = some R) (hr : zTo pc off k = some R) : zTo pc off k' = some R := by
  obtain ⟨t, ht, hr⟩ := zTo_inv hr
  unfold zTo
  rw [ht]
  exact hk t hr
theorem zGo_up {c : Prop} [Decidable c] {k k' : zR} {R : Option Value × zH} (hk : k = some R → k' = some R) (hr : zGo c k = some R) : zGo c k' = some R := by
  obtain ⟨hc, hr⟩ := zGo_inv hr
  unfold zGo
  rw [if_pos hc]
  exact hk hr
theorem zGo_up2 {c c' : Prop} [Decidable c] [Decidable c'] {k k' : zR} {R : Option Value × zH} (hcc : c → c') (hk : k = some R → k' = some R) (hr : zGo c k = some R) : zGo c' k' = some R := by
  obtain ⟨hc, hr⟩ := zGo_inv hr
  unfold zGo
  rw [if_pos (hcc hc)]
  exact hk hr
theorem zCp_up {o i q : Nat} {k k' : Nat → Nat → Int → zR} {R : Option Value × zH} (hk : ∀ a b c, k a b c = some R → k' a b c = some R) (hr : zCp o i q k = some R) : zCp o i q k' = some R := by
  obtain ⟨a, b, c, hcp, hr⟩ := zCp_inv hr
  unfold zCp
  rw [hcp]
  show (if q = q then k' a b c else none) = some R
  rw [if_pos rfl]
  exact hk a b c hr
theorem zCnd_up {c : Jvm.ClassFile.Cond} {x y : Int32} {k1 k2 k1' k2' : zR} {R : Option Value × zH} (h1 : k1 = some R → k1' = some R) (h2 : k2 = some R → k2' = some R) (hr : zCnd c x y k1 k2 = some R) : zCnd c x y k1' k2' = some R := by
  unfold zCnd at hr ⊢
  cases c <;> simp only at hr ⊢ <;> split at hr <;> rename_i hc <;> first | (rw [if_pos hc]; first | exact h1 hr | exact h2 hr) | (rw [if_neg hc]; first | exact h1 hr | exact h2 hr)
theorem zKeep_up {h h' : zH} {L L' : List (Option Value)} {st : List Value} {v : Option Value} {k k' : zR} {R : Option Value × zH} (hl : zLw L L') (hk : k = some R → k' = some R) (hr : zKeep h h' L st v k = some R) : zKeep h h' L' st v k' = some R := by
  unfold zKeep at hr ⊢
  refine zGo_up (fun hr => ?_) hr
  by_cases he : h'.1.length = h.1.length
  · rw [if_pos he] at hr ⊢
    exact hk hr
  · rw [if_neg he] at hr ⊢
    exact zGo_up2 (zLw_vs hl) hk hr
set_option maxHeartbeats 4000000 in
theorem zdo_up {xs : zX} {d o M : Nat} {K K' : zFr → zH → zR} {C C' : Nat → List Value → zH → (Option Value → zH → zR) → zR} {i : Instr} {len pc : Nat} {L L' : List (Option Value)} {st : List Value} {h : zH} {R : Option Value × zH} (hl : zLw L L')
    (hK : ∀ pc L L' st h1, zLw L L' → K (pc, L, st) h1 = some R → K' (pc, L', st) h1 = some R) (hC : ∀ N vs h1 k k', (∀ v h2, k v h2 = some R → k' v h2 = some R) → C N vs h1 k = some R → C' N vs h1 k' = some R)
    (hr : zdo xs d o M K C i len pc L st h = some R) : zdo xs d o M K' C' i len pc L' st h = some R := by
  have g : ∀ {pc : Nat} {st : List Value} {h1 : zH}, K (pc, L, st) h1 = some R → K' (pc, L', st) h1 = some R := fun hr => hK _ _ _ _ _ hl hr
  have hlen := zLw_len hl
  revert hr
  unfold zdo
  split <;> intro hr <;> (try dsimp only)
  all_goals first
    | exact g hr
    | exact zLI_up hl (fun _ q => g q) hr
    | exact zLJ_up hl (fun _ q => g q) hr
    | exact zLA_up hl (fun _ q => g q) hr
    | exact zLI_up hl (fun _ q => hK _ _ _ _ _ (zLw_s1 hl) q) hr
    | exact zCp_up (fun _ _ _ q => g q) hr
    | exact zI1_up (fun _ _ q => zGo_up2 (fun z => by rw [hlen]; exact z) (fun q => hK _ _ _ _ _ (zLw_s1 hl) q) q) hr
    | exact zA1_up (fun _ _ q => zGo_up2 (fun z => by rw [hlen]; exact z) (fun q => hK _ _ _ _ _ (zLw_s1 hl) q) q) hr
    | exact zJ1_up (fun _ _ q => zGo_up2 (fun z => by rw [hlen]; exact z) (fun q => hK _ _ _ _ _ (zLw_s2 hl) q) q) hr
    | exact zTo_up (fun _ q => g q) hr
    | exact zI2_up (fun _ _ _ q => zTo_up (fun _ q => zCnd_up g g q) q) hr
    | exact zI1_up (fun _ _ q => zTo_up (fun _ q => zCnd_up g g q) q) hr
    | exact zA1_up (fun _ _ q => g q) hr
    | exact zA1_up (fun _ _ q => zTo_up (fun _ q => g q) q) hr
    | exact zI1_up (fun _ _ q => zGo_up (fun q => zTo_up (fun _ q => g q) q) q) hr
    | exact zI2_up (fun _ _ _ q => g q) hr
    | exact zI2_up (fun _ _ _ q => zGo_up (fun q => g q) q) hr
    | exact zJ2_up (fun _ _ _ q => g q) hr
    | exact zJ2_up (fun _ _ _ q => zGo_up (fun q => g q) q) hr
    | exact zI1_up (fun _ _ q => zJ1_up (fun _ _ q => g q) q) hr
    | exact zI1_up (fun _ _ q => g q) hr
    | exact zJ1_up (fun _ _ q => g q) hr
    | (cases hr; done)
    | skip
  · refine zI1_up (fun x r q => ?_) hr
    split at q
    · rename_i hc
      rw [if_pos hc]
      exact zTo_up (fun _ q => g q) q
    · rename_i hc
      rw [if_neg hc]
      split at q
      · rename_i off ho
        try rw [ho]
        exact zTo_up (fun _ q => g q) q
      · cases q
  · revert hr
    split <;> intro hr
    · exact zGo_up (fun q => g q) hr
    · cases hr
  · revert hr
    split <;> intro hr
    · exact zGo_up (fun q => g q) hr
    · cases hr
  · refine zA1_up (fun a r q => zCp_up (fun ci k c q => ?_) q) hr
    revert q
    try dsimp only
    split <;> intro q
    · refine zGo_up (fun q => ?_) q
      revert q
      split <;> intro q
      · exact g q
      · exact g q
      · cases q
    · cases q
  · revert hr
    split <;> intro hr
    · refine zCp_up (fun ci k c q => ?_) hr
      revert q
      split <;> intro q
      · refine zGo_up (fun q => ?_) q
        revert q
        split <;> intro q
        · exact g q
        · exact zGo_up (fun q => g q) q
        · cases q
      · cases q
    · refine zCp_up (fun ci k c q => ?_) hr
      revert q
      split <;> intro q
      · refine zGo_up (fun q => ?_) q
        revert q
        split <;> intro q
        · exact zGo_up (fun q => g q) q
        · cases q
      · cases q
    · cases hr
  · refine zI1_up (fun x r q => ?_) hr
    refine zA1_up (fun a r q => ?_) q
    revert q
    try dsimp only
    split <;> intro q
    · exact zGo_up (fun q => g q) q
    · cases q
    · revert q
      split <;> intro q
      · exact zGo_up (fun q => g q) q
      · cases q
  · refine zI1_up (fun x r q => ?_) hr
    refine zA1_up (fun a r q => ?_) q
    revert q
    try dsimp only
    split <;> intro q
    · exact zGo_up (fun q => g q) q
    · cases q
  · refine zI2_up (fun x y r q => ?_) hr
    refine zA1_up (fun a r q => ?_) q
    revert q
    try dsimp only
    split <;> intro q
    · exact zGo_up (fun q => g q) q
    · cases q
  · refine zI2_up (fun x y r q => ?_) hr
    refine zA1_up (fun a r q => ?_) q
    revert q
    try dsimp only
    split <;> intro q
    · exact zGo_up (fun q => g q) q
    · cases q
  · refine zA1_up (fun a r q => ?_) hr
    revert q
    try dsimp only
    split <;> intro q
    · exact g q
    · cases q
    · revert q
      split <;> intro q
      · exact g q
      · cases q
  · refine zI1_up (fun x r q => ?_) hr
    revert q
    try dsimp only
    split <;> intro q
    · exact zGo_up2 (fun z => ⟨z.1, z.2.1, zLw_vs hl z.2.2.1, z.2.2.2⟩) (fun q => g q) q
    · exact zGo_up2 (fun z => ⟨z.1, z.2.1, zLw_vs hl z.2.2.1, z.2.2.2⟩) (fun q => g q) q
    · cases q
  · refine zCp_up (fun ci k c q => ?_) hr
    exact zGo_up2 (fun z => ⟨zLw_vs hl z.1, z.2⟩) (fun q => g q) q
  · revert hr
    split <;> intro hr
    · refine zGo_up (fun q => hC _ _ _ _ _ (fun v h2 q => zKeep_up hl (fun q => g q) q) q) hr
    · revert hr
      split <;> intro hr
      · revert hr
        split <;> intro hr
        · exact zGo_up (fun q => g q) hr
        · cases hr
      · cases hr
    · exact zI2_up (fun _ _ _ q => zGo_up (fun q => g q) q) hr
    · exact zI2_up (fun _ _ _ q => zGo_up (fun q => g q) q) hr
    · exact zJ2_up (fun _ _ _ q => zGo_up (fun q => g q) q) hr
    · cases hr
  · refine zCp_up (fun N k c q => ?_) hr
    revert q
    try dsimp only
    split <;> intro q
    · revert q
      split <;> intro q
      · exact zGo_up (fun q => hC _ _ _ _ _ (fun v h2 q => zKeep_up hl (fun q => g q) q) q) q
      · cases q
    · cases q
  · revert hr
    split <;> intro hr
    · revert hr
      split <;> intro hr
      · exact zGo_up (fun q => hC _ _ _ _ _ (fun v h2 q => zKeep_up hl (fun q => g q) q) q) hr
      · cases hr
    · revert hr
      split <;> intro hr
      · exact zGo_up (fun q => g q) hr
      · cases hr
    · cases hr
  all_goals exact hr
theorem zrun_up {xs : zX} : ∀ (n k : Nat) {d M pc : Nat} {L L' : List (Option Value)} {st : List Value} {h : zH} {R : Option Value × zH}, zLw L L' → zrun xs n d M (pc, L, st) h = some R → zrun xs (n + k) d M (pc, L', st) h = some R
  | 0, _, _, _, _, _, _, _, _, _, _, hr => by cases hr
  | n + 1, k, d, M, pc, L, L', st, h, R, hl, hr => by
    rw [Nat.add_right_comm]
    unfold zrun at hr ⊢
    dsimp only at hr ⊢
    split at hr
    · cases hr
    · rename_i i len hz
      try rw [hz]
      refine zdo_up hl (fun pc L L' st h1 hl q => zrun_up n k hl q) (fun N vs h1 k1 k2 hk q => ?_) hr
      cases d with
      | zero => cases q
      | succ d =>
        refine zGo_up (fun q => ?_) q
        split at q
        · rename_i v2 h2 hz2
          have e := zrun_up (xs := none) n k (zLw_rf _) hz2
          show (match zrun none (n + k) d N (zEnt (zMl N) vs) h1 with
            | some (v, h') => k2 v h'
            | none => none) = some R
          rw [show zrun none (n + k) d N (zEnt (zMl N) vs) h1 = some (v2, h2) from e]
          exact hk v2 h2 q
        · cases q
theorem zrun_more {xs : zX} (n k : Nat) {d M : Nat} {f : zFr} {h : zH} {R : Option Value × zH} (hr : zrun xs n d M f h = some R) : zrun xs (n + k) d M f h = some R := zrun_up n k (zLw_rf _) hr
theorem zEv_weak {xs : zX} {d M pc : Nat} {L L' : List (Option Value)} {st : List Value} {h h' : zH} {v : Option Value} (hl : zLw L L') (kk : zEv xs d M (pc, L, st) h v h') : zEv xs d M (pc, L', st) h v h' := by
  obtain ⟨n, hn⟩ := kk
  exact ⟨n, zrun_up n 0 hl hn⟩
theorem zEv_call {xs : zX} {d M N : Nat} {f : zFr} {h0 h h1 h' : zH} {L : List (Option Value)} {vs rest : List Value} {v v1 : Option Value} {pc : Nat} (k : Nat)
    (hb : ∀ n, zrun xs (n + k) (d + 1) M f h0 = (match zrun none n d N (zEnt (zMl N) vs) h with
      | some (v, h') => zKeep h h' L rest v (zrun xs n (d + 1) M (pc, L, v.toList ++ rest) h')
      | none => none)) (hc : zCall d N vs h v1 h1) (hv : zNr v1 = true) (hl : h1.1.length = h.1.length) (kk : zEv xs (d + 1) M (pc, L, v1.toList ++ rest) h1 v h') : zEv xs (d + 1) M f h0 v h' := by
  obtain ⟨n1, hn1⟩ := hc
  obtain ⟨n2, hn2⟩ := kk
  refine ⟨n1 + n2 + k, (hb _).trans ?_⟩
  have e1 := zrun_more n1 n2 hn1
  have e2 := zrun_more n2 n1 hn2
  rw [Nat.add_comm n2 n1] at e2
  rw [e1]
  show zKeep h h1 L rest v1 (zrun xs (n1 + n2) (d + 1) M (pc, L, v1.toList ++ rest) h1) = _
  unfold zKeep zGo
  rw [if_pos hv, if_pos hl, e2]
abbrev zIn (i : Int32) (n : Nat) : Prop := ¬ (i < 0 ∨ n ≤ i.toNatClampNeg)
def zRem (x y : Int32) : Int32 := x - x / y * y
def zShl (x y : Int32) : Int32 := x <<< (y &&& 31)
def zShr (x y : Int32) : Int32 := x >>> (y &&& 31)
def zUsh (x y : Int32) : Int32 := (x.toUInt32 >>> (y.toUInt32 &&& Int32.toUInt32 31)).toInt32
def zLrem (x y : Int64) : Int64 := x - x / y * y
def zLshl (x : Int64) (y : Int32) : Int64 := x <<< (y.toInt64 &&& 63)
def zLush (x : Int64) (y : Int32) : Int64 := (x.toUInt64 >>> (y.toInt64.toUInt64 &&& Int64.toUInt64 63)).toInt64
theorem zEv_tsk {xs : zX} {d M pc len : Nat} {L : List (Option Value)} {r : List Value} {h h' : zH} {v : Option Value} {df lo hi : Int} {offs : Array Int} {x : Int32} {off : Int} {t : Nat} (k : Int) (hz : zin M pc = some (.tableswitch df lo hi offs, len)) (hx : x = Int32.ofInt k) (h1 : ¬ ((Int32.ofInt k).toInt < lo ∨ hi < (Int32.ofInt k).toInt)) (h2 : offs[((Int32.ofInt k).toInt - lo).toNat]? = some off) (ht : (pc : Int) + off = .ofNat t) (kk : zEv xs d M (t, L, r) h v h') : zEv xs d M (pc, L, .int x :: r) h v h' := by
  subst hx
  obtain ⟨n, hn⟩ := kk
  refine ⟨n + 1, ?_⟩
  unfold zrun
  simp only [hz]
  unfold zdo
  simp only [zI1]
  rw [if_neg h1, h2]
  simp only [zTo]
  rw [ht]
  exact hn
theorem zEv_tsd {xs : zX} {d M pc len : Nat} {L : List (Option Value)} {r : List Value} {h h' : zH} {v : Option Value} {df lo hi : Int} {offs : Array Int} {x : Int32} {t : Nat} (hz : zin M pc = some (.tableswitch df lo hi offs, len)) (h1 : x.toInt < lo ∨ hi < x.toInt) (ht : (pc : Int) + df = .ofNat t) (kk : zEv xs d M (t, L, r) h v h') : zEv xs d M (pc, L, .int x :: r) h v h' := by
  obtain ⟨n, hn⟩ := kk
  refine ⟨n + 1, ?_⟩
  unfold zrun
  simp only [hz]
  unfold zdo
  simp only [zI1]
  rw [if_pos h1]
  simp only [zTo]
  rw [ht]
  exact hn
theorem zEv_ls {xs : zX} {d M pc len : Nat} {L : List (Option Value)} {r : List Value} {h h' : zH} {v : Option Value} {df : Int} {ps : Array (Int × Int)} {x : Int32} {off : Int} {t : Nat} (hz : zin M pc = some (.lookupswitch df ps, len)) (hp : (ps.toList.zip (ps.toList.drop 1)).all (fun (a, next) => a.1 < next.1) = true) (ho : Op.lookupswitch.offset ps.toList df x.toInt = off) (ht : (pc : Int) + off = .ofNat t) (kk : zEv xs d M (t, L, r) h v h') : zEv xs d M (pc, L, .int x :: r) h v h' := by
  obtain ⟨n, hn⟩ := kk
  refine ⟨n + 1, ?_⟩
  unfold zrun
  simp only [hz]
  unfold zdo
  simp only [zI1]
  unfold zGo
  rw [if_pos hp, ho]
  simp only [zTo]
  rw [ht]
  exact hn
theorem zNt {x : Int32} {k : Int} (h : ¬ x = Int32.ofInt k) (hk : (Int32.ofInt k).toInt = k) : ¬ x.toInt = k := fun q => h (Int32.toInt_inj.mp (q.trans hk.symm))
end
section
set_option maxRecDepth 1000000
def zB0 : zH := ([(0, 9, 11)], [], zRow (fun _ _ => 0) 1 (fun _ => 0))
def zBa : zR := zrun none 200000 7 78 (zEnt (zMl 78) [.ref 1]) zB0
theorem zBa_ok : (zBa.map fun q => (q.1.isNone, q.2.1, q.2.2.1)) = some (true, zS.take 72, zRf.drop 22) := by decide +kernel
end

section
-- ===== PART A: goes FIRST, ahead of the names: the tables' words, and 'selects' of the private methods out of them =====
/-- a private method of a class that the tables say can be made, by its rows of tables_1 -/
def lw_okq (q : MethodName × Nat) : Prop := (q.1.cls ≠ "java/lang/invoke/MethodHandle" ∧ q.1.cls ≠ "java/lang/invoke/VarHandle") ∧ Cond.instantiable q.1.cls q.2 ∈ tables_1 ∧ Cond.privateMethod q.1 ∈ tables_1 ∧ Cond.instanceMethod q.1 ∈ tables_1
theorem lw_p0 : lw_okq (⟨"BenchMemories$Turns", "worthBehind", "(II)I"⟩, 1) := ⟨⟨by decide +kernel, by decide +kernel⟩, List.mem_of_getElem? (i := 214) (by decide +kernel), List.mem_of_getElem? (i := 222) (by decide +kernel), List.mem_of_getElem? (i := 223) (by decide +kernel)⟩
theorem lw_p1 : lw_okq (⟨"BenchMemories$Garden", "memoryAt", "(I)I"⟩, 8) := ⟨⟨by decide +kernel, by decide +kernel⟩, List.mem_of_getElem? (i := 27) (by decide +kernel), List.mem_of_getElem? (i := 328) (by decide +kernel), List.mem_of_getElem? (i := 329) (by decide +kernel)⟩
theorem lw_p2 : lw_okq (⟨"BenchMemories$Course", "begin", "(LBenchMemories$Garden;)V"⟩, 6) := ⟨⟨by decide +kernel, by decide +kernel⟩, List.mem_of_getElem? (i := 103) (by decide +kernel), List.mem_of_getElem? (i := 402) (by decide +kernel), List.mem_of_getElem? (i := 403) (by decide +kernel)⟩
theorem lw_p3 : lw_okq (⟨"BenchMemories$Course", "tryAct", "(III)V"⟩, 6) := ⟨⟨by decide +kernel, by decide +kernel⟩, List.mem_of_getElem? (i := 103) (by decide +kernel), List.mem_of_getElem? (i := 433) (by decide +kernel), List.mem_of_getElem? (i := 434) (by decide +kernel)⟩
theorem lw_p4 : lw_okq (⟨"BenchMemories$Garden", "whyNotSit", "(I)I"⟩, 8) := ⟨⟨by decide +kernel, by decide +kernel⟩, List.mem_of_getElem? (i := 27) (by decide +kernel), List.mem_of_getElem? (i := 445) (by decide +kernel), List.mem_of_getElem? (i := 446) (by decide +kernel)⟩
theorem lw_p5 : lw_okq (⟨"BenchMemories$Garden", "whyNotChange", "(II)I"⟩, 8) := ⟨⟨by decide +kernel, by decide +kernel⟩, List.mem_of_getElem? (i := 27) (by decide +kernel), List.mem_of_getElem? (i := 453) (by decide +kernel), List.mem_of_getElem? (i := 454) (by decide +kernel)⟩
theorem lw_p6 : lw_okq (⟨"BenchMemories$Garden", "sitDown", "(I)V"⟩, 8) := ⟨⟨by decide +kernel, by decide +kernel⟩, List.mem_of_getElem? (i := 27) (by decide +kernel), List.mem_of_getElem? (i := 462) (by decide +kernel), List.mem_of_getElem? (i := 463) (by decide +kernel)⟩
theorem lw_p7 : lw_okq (⟨"BenchMemories$Garden", "swap", "(II)V"⟩, 8) := ⟨⟨by decide +kernel, by decide +kernel⟩, List.mem_of_getElem? (i := 27) (by decide +kernel), List.mem_of_getElem? (i := 468) (by decide +kernel), List.mem_of_getElem? (i := 469) (by decide +kernel)⟩
theorem lw_p8 : lw_okq (⟨"BenchMemories$Garden", "endDay", "()V"⟩, 8) := ⟨⟨by decide +kernel, by decide +kernel⟩, List.mem_of_getElem? (i := 27) (by decide +kernel), List.mem_of_getElem? (i := 473) (by decide +kernel), List.mem_of_getElem? (i := 474) (by decide +kernel)⟩
theorem lw_p9 : lw_okq (⟨"BenchMemories$Course", "countHand", "(I)V"⟩, 6) := ⟨⟨by decide +kernel, by decide +kernel⟩, List.mem_of_getElem? (i := 103) (by decide +kernel), List.mem_of_getElem? (i := 478) (by decide +kernel), List.mem_of_getElem? (i := 479) (by decide +kernel)⟩
theorem lw_p10 : lw_okq (⟨"BenchMemories$Rounds", "gatherStops", "(II)V"⟩, 4) := ⟨⟨by decide +kernel, by decide +kernel⟩, List.mem_of_getElem? (i := 138) (by decide +kernel), List.mem_of_getElem? (i := 539) (by decide +kernel), List.mem_of_getElem? (i := 540) (by decide +kernel)⟩
theorem lw_p11 : lw_okq (⟨"BenchMemories$Rounds", "measureLegs", "(LBenchMemories$Garden;)V"⟩, 4) := ⟨⟨by decide +kernel, by decide +kernel⟩, List.mem_of_getElem? (i := 138) (by decide +kernel), List.mem_of_getElem? (i := 549) (by decide +kernel), List.mem_of_getElem? (i := 550) (by decide +kernel)⟩
theorem lw_p12 : lw_okq (⟨"BenchMemories$Rounds", "cheapest", "(II)I"⟩, 4) := ⟨⟨by decide +kernel, by decide +kernel⟩, List.mem_of_getElem? (i := 138) (by decide +kernel), List.mem_of_getElem? (i := 555) (by decide +kernel), List.mem_of_getElem? (i := 556) (by decide +kernel)⟩
theorem lw_p13 : lw_okq (⟨"BenchMemories$Walks", "startsOf", "(LBenchMemories$Garden;I)I"⟩, 2) := ⟨⟨by decide +kernel, by decide +kernel⟩, List.mem_of_getElem? (i := 159) (by decide +kernel), List.mem_of_getElem? (i := 572) (by decide +kernel), List.mem_of_getElem? (i := 573) (by decide +kernel)⟩
theorem lw_p14 : lw_okq (⟨"BenchMemories$Walks", "startsOfWalks", "(II)I"⟩, 2) := ⟨⟨by decide +kernel, by decide +kernel⟩, List.mem_of_getElem? (i := 159) (by decide +kernel), List.mem_of_getElem? (i := 593) (by decide +kernel), List.mem_of_getElem? (i := 594) (by decide +kernel)⟩
theorem lw_p15 : lw_okq (⟨"BenchMemories$Order", "swapWith", "(I)V"⟩, 1) := ⟨⟨by decide +kernel, by decide +kernel⟩, List.mem_of_getElem? (i := 174) (by decide +kernel), List.mem_of_getElem? (i := 618) (by decide +kernel), List.mem_of_getElem? (i := 619) (by decide +kernel)⟩
def lw_privs_1 : List (MethodName × Nat) := [(⟨"BenchMemories$Turns", "worthBehind", "(II)I"⟩, 1), (⟨"BenchMemories$Garden", "memoryAt", "(I)I"⟩, 8), (⟨"BenchMemories$Course", "begin", "(LBenchMemories$Garden;)V"⟩, 6), (⟨"BenchMemories$Course", "tryAct", "(III)V"⟩, 6), (⟨"BenchMemories$Garden", "whyNotSit", "(I)I"⟩, 8), (⟨"BenchMemories$Garden", "whyNotChange", "(II)I"⟩, 8), (⟨"BenchMemories$Garden", "sitDown", "(I)V"⟩, 8), (⟨"BenchMemories$Garden", "swap", "(II)V"⟩, 8), (⟨"BenchMemories$Garden", "endDay", "()V"⟩, 8), (⟨"BenchMemories$Course", "countHand", "(I)V"⟩, 6), (⟨"BenchMemories$Rounds", "gatherStops", "(II)V"⟩, 4), (⟨"BenchMemories$Rounds", "measureLegs", "(LBenchMemories$Garden;)V"⟩, 4), (⟨"BenchMemories$Rounds", "cheapest", "(II)I"⟩, 4), (⟨"BenchMemories$Walks", "startsOf", "(LBenchMemories$Garden;I)I"⟩, 2), (⟨"BenchMemories$Walks", "startsOfWalks", "(II)I"⟩, 2), (⟨"BenchMemories$Order", "swapWith", "(I)V"⟩, 1)]
theorem lw_r1 : ∀ q ∈ lw_privs_1, lw_okq q := List.forall_mem_cons.mpr ⟨lw_p0, List.forall_mem_cons.mpr ⟨lw_p1, List.forall_mem_cons.mpr ⟨lw_p2, List.forall_mem_cons.mpr ⟨lw_p3, List.forall_mem_cons.mpr ⟨lw_p4, List.forall_mem_cons.mpr ⟨lw_p5, List.forall_mem_cons.mpr ⟨lw_p6, List.forall_mem_cons.mpr ⟨lw_p7, List.forall_mem_cons.mpr ⟨lw_p8, List.forall_mem_cons.mpr ⟨lw_p9, List.forall_mem_cons.mpr ⟨lw_p10, List.forall_mem_cons.mpr ⟨lw_p11, List.forall_mem_cons.mpr ⟨lw_p12, List.forall_mem_cons.mpr ⟨lw_p13, List.forall_mem_cons.mpr ⟨lw_p14, List.forall_mem_cons.mpr ⟨lw_p15, fun _ h => absurd h List.not_mem_nil⟩⟩⟩⟩⟩⟩⟩⟩⟩⟩⟩⟩⟩⟩⟩⟩
theorem lw_p16 : lw_okq (⟨"BenchMemories$Suspects", "countHolders", "(I)V"⟩, 5) := ⟨⟨by decide +kernel, by decide +kernel⟩, List.mem_of_getElem? (i := 186) (by decide +kernel), List.mem_of_getElem? (i := 662) (by decide +kernel), List.mem_of_getElem? (i := 663) (by decide +kernel)⟩
theorem lw_p17 : lw_okq (⟨"BenchMemories$Course", "drawAct", "(III)V"⟩, 6) := ⟨⟨by decide +kernel, by decide +kernel⟩, List.mem_of_getElem? (i := 103) (by decide +kernel), List.mem_of_getElem? (i := 701) (by decide +kernel), List.mem_of_getElem? (i := 702) (by decide +kernel)⟩
theorem lw_p18 : lw_okq (⟨"BenchMemories", "toldOfOne", "(I)I"⟩, 11) := ⟨⟨by decide +kernel, by decide +kernel⟩, List.mem_of_getElem? (i := 19) (by decide +kernel), List.mem_of_getElem? (i := 729) (by decide +kernel), List.mem_of_getElem? (i := 730) (by decide +kernel)⟩
theorem lw_p19 : lw_okq (⟨"BenchMemoriesModel", "lose", "(I)I"⟩, 32) := ⟨⟨by decide +kernel, by decide +kernel⟩, List.mem_of_getElem? (i := 734) (by decide +kernel), List.mem_of_getElem? (i := 871) (by decide +kernel), List.mem_of_getElem? (i := 872) (by decide +kernel)⟩
theorem lw_p20 : lw_okq (⟨"BenchMemoriesModel", "whereIs", "(I)I"⟩, 32) := ⟨⟨by decide +kernel, by decide +kernel⟩, List.mem_of_getElem? (i := 734) (by decide +kernel), List.mem_of_getElem? (i := 875) (by decide +kernel), List.mem_of_getElem? (i := 876) (by decide +kernel)⟩
theorem lw_p21 : lw_okq (⟨"BenchMemoriesModel", "readOn", "(II)I"⟩, 32) := ⟨⟨by decide +kernel, by decide +kernel⟩, List.mem_of_getElem? (i := 734) (by decide +kernel), List.mem_of_getElem? (i := 901) (by decide +kernel), List.mem_of_getElem? (i := 902) (by decide +kernel)⟩
theorem lw_p22 : lw_okq (⟨"BenchMemoriesModel", "begin", "(I)I"⟩, 32) := ⟨⟨by decide +kernel, by decide +kernel⟩, List.mem_of_getElem? (i := 734) (by decide +kernel), List.mem_of_getElem? (i := 905) (by decide +kernel), List.mem_of_getElem? (i := 906) (by decide +kernel)⟩
theorem lw_p23 : lw_okq (⟨"BenchMemoriesModel", "close", "(II)I"⟩, 32) := ⟨⟨by decide +kernel, by decide +kernel⟩, List.mem_of_getElem? (i := 734) (by decide +kernel), List.mem_of_getElem? (i := 914) (by decide +kernel), List.mem_of_getElem? (i := 915) (by decide +kernel)⟩
theorem lw_p24 : lw_okq (⟨"BenchMemoriesModel", "deed", "(I)I"⟩, 32) := ⟨⟨by decide +kernel, by decide +kernel⟩, List.mem_of_getElem? (i := 734) (by decide +kernel), List.mem_of_getElem? (i := 918) (by decide +kernel), List.mem_of_getElem? (i := 919) (by decide +kernel)⟩
theorem lw_p25 : lw_okq (⟨"BenchMemoriesModel", "refusal", "()I"⟩, 32) := ⟨⟨by decide +kernel, by decide +kernel⟩, List.mem_of_getElem? (i := 734) (by decide +kernel), List.mem_of_getElem? (i := 929) (by decide +kernel), List.mem_of_getElem? (i := 930) (by decide +kernel)⟩
theorem lw_p26 : lw_okq (⟨"BenchMemoriesModel", "keepNow", "()V"⟩, 32) := ⟨⟨by decide +kernel, by decide +kernel⟩, List.mem_of_getElem? (i := 734) (by decide +kernel), List.mem_of_getElem? (i := 933) (by decide +kernel), List.mem_of_getElem? (i := 934) (by decide +kernel)⟩
theorem lw_p27 : lw_okq (⟨"BenchMemoriesModel", "goDays", "()V"⟩, 32) := ⟨⟨by decide +kernel, by decide +kernel⟩, List.mem_of_getElem? (i := 734) (by decide +kernel), List.mem_of_getElem? (i := 938) (by decide +kernel), List.mem_of_getElem? (i := 939) (by decide +kernel)⟩
theorem lw_p28 : lw_okq (⟨"BenchMemoriesModel", "whyNot", "(III)I"⟩, 32) := ⟨⟨by decide +kernel, by decide +kernel⟩, List.mem_of_getElem? (i := 734) (by decide +kernel), List.mem_of_getElem? (i := 942) (by decide +kernel), List.mem_of_getElem? (i := 943) (by decide +kernel)⟩
theorem lw_p29 : lw_okq (⟨"BenchMemoriesModel", "whyNoSeat", "(I)I"⟩, 32) := ⟨⟨by decide +kernel, by decide +kernel⟩, List.mem_of_getElem? (i := 734) (by decide +kernel), List.mem_of_getElem? (i := 949) (by decide +kernel), List.mem_of_getElem? (i := 950) (by decide +kernel)⟩
theorem lw_p30 : lw_okq (⟨"BenchMemoriesModel", "whyNoChange", "(II)I"⟩, 32) := ⟨⟨by decide +kernel, by decide +kernel⟩, List.mem_of_getElem? (i := 734) (by decide +kernel), List.mem_of_getElem? (i := 953) (by decide +kernel), List.mem_of_getElem? (i := 954) (by decide +kernel)⟩
theorem lw_p31 : lw_okq (⟨"BenchMemoriesModel", "happen", "(III)V"⟩, 32) := ⟨⟨by decide +kernel, by decide +kernel⟩, List.mem_of_getElem? (i := 734) (by decide +kernel), List.mem_of_getElem? (i := 957) (by decide +kernel), List.mem_of_getElem? (i := 958) (by decide +kernel)⟩
def lw_privs_2 : List (MethodName × Nat) := [(⟨"BenchMemories$Suspects", "countHolders", "(I)V"⟩, 5), (⟨"BenchMemories$Course", "drawAct", "(III)V"⟩, 6), (⟨"BenchMemories", "toldOfOne", "(I)I"⟩, 11), (⟨"BenchMemoriesModel", "lose", "(I)I"⟩, 32), (⟨"BenchMemoriesModel", "whereIs", "(I)I"⟩, 32), (⟨"BenchMemoriesModel", "readOn", "(II)I"⟩, 32), (⟨"BenchMemoriesModel", "begin", "(I)I"⟩, 32), (⟨"BenchMemoriesModel", "close", "(II)I"⟩, 32), (⟨"BenchMemoriesModel", "deed", "(I)I"⟩, 32), (⟨"BenchMemoriesModel", "refusal", "()I"⟩, 32), (⟨"BenchMemoriesModel", "keepNow", "()V"⟩, 32), (⟨"BenchMemoriesModel", "goDays", "()V"⟩, 32), (⟨"BenchMemoriesModel", "whyNot", "(III)I"⟩, 32), (⟨"BenchMemoriesModel", "whyNoSeat", "(I)I"⟩, 32), (⟨"BenchMemoriesModel", "whyNoChange", "(II)I"⟩, 32), (⟨"BenchMemoriesModel", "happen", "(III)V"⟩, 32)]
theorem lw_r2 : ∀ q ∈ lw_privs_2, lw_okq q := List.forall_mem_cons.mpr ⟨lw_p16, List.forall_mem_cons.mpr ⟨lw_p17, List.forall_mem_cons.mpr ⟨lw_p18, List.forall_mem_cons.mpr ⟨lw_p19, List.forall_mem_cons.mpr ⟨lw_p20, List.forall_mem_cons.mpr ⟨lw_p21, List.forall_mem_cons.mpr ⟨lw_p22, List.forall_mem_cons.mpr ⟨lw_p23, List.forall_mem_cons.mpr ⟨lw_p24, List.forall_mem_cons.mpr ⟨lw_p25, List.forall_mem_cons.mpr ⟨lw_p26, List.forall_mem_cons.mpr ⟨lw_p27, List.forall_mem_cons.mpr ⟨lw_p28, List.forall_mem_cons.mpr ⟨lw_p29, List.forall_mem_cons.mpr ⟨lw_p30, List.forall_mem_cons.mpr ⟨lw_p31, fun _ h => absurd h List.not_mem_nil⟩⟩⟩⟩⟩⟩⟩⟩⟩⟩⟩⟩⟩⟩⟩⟩
theorem lw_p32 : lw_okq (⟨"BenchMemoriesModel", "sit", "(I)V"⟩, 32) := ⟨⟨by decide +kernel, by decide +kernel⟩, List.mem_of_getElem? (i := 734) (by decide +kernel), List.mem_of_getElem? (i := 961) (by decide +kernel), List.mem_of_getElem? (i := 962) (by decide +kernel)⟩
theorem lw_p33 : lw_okq (⟨"BenchMemoriesModel", "comeTo", "(II)V"⟩, 32) := ⟨⟨by decide +kernel, by decide +kernel⟩, List.mem_of_getElem? (i := 734) (by decide +kernel), List.mem_of_getElem? (i := 965) (by decide +kernel), List.mem_of_getElem? (i := 966) (by decide +kernel)⟩
theorem lw_p34 : lw_okq (⟨"BenchMemoriesModel", "change", "(II)V"⟩, 32) := ⟨⟨by decide +kernel, by decide +kernel⟩, List.mem_of_getElem? (i := 734) (by decide +kernel), List.mem_of_getElem? (i := 969) (by decide +kernel), List.mem_of_getElem? (i := 970) (by decide +kernel)⟩
theorem lw_p35 : lw_okq (⟨"BenchMemoriesModel", "evening", "()V"⟩, 32) := ⟨⟨by decide +kernel, by decide +kernel⟩, List.mem_of_getElem? (i := 734) (by decide +kernel), List.mem_of_getElem? (i := 973) (by decide +kernel), List.mem_of_getElem? (i := 974) (by decide +kernel)⟩
theorem lw_p36 : lw_okq (⟨"BenchMemoriesModel", "back", "(I)I"⟩, 32) := ⟨⟨by decide +kernel, by decide +kernel⟩, List.mem_of_getElem? (i := 734) (by decide +kernel), List.mem_of_getElem? (i := 977) (by decide +kernel), List.mem_of_getElem? (i := 978) (by decide +kernel)⟩
theorem lw_p37 : lw_okq (⟨"BenchMemoriesModel", "far", "(II)I"⟩, 32) := ⟨⟨by decide +kernel, by decide +kernel⟩, List.mem_of_getElem? (i := 734) (by decide +kernel), List.mem_of_getElem? (i := 1005) (by decide +kernel), List.mem_of_getElem? (i := 1006) (by decide +kernel)⟩
theorem lw_p38 : lw_okq (⟨"BenchMemoriesModel", "findOff", "()V"⟩, 32) := ⟨⟨by decide +kernel, by decide +kernel⟩, List.mem_of_getElem? (i := 734) (by decide +kernel), List.mem_of_getElem? (i := 1018) (by decide +kernel), List.mem_of_getElem? (i := 1019) (by decide +kernel)⟩
theorem lw_p39 : lw_okq (⟨"BenchMemoriesModel", "rowBy", "(III)I"⟩, 32) := ⟨⟨by decide +kernel, by decide +kernel⟩, List.mem_of_getElem? (i := 734) (by decide +kernel), List.mem_of_getElem? (i := 1022) (by decide +kernel), List.mem_of_getElem? (i := 1023) (by decide +kernel)⟩
theorem lw_p40 : lw_okq (⟨"BenchMemoriesModel", "goesOn", "(II)I"⟩, 32) := ⟨⟨by decide +kernel, by decide +kernel⟩, List.mem_of_getElem? (i := 734) (by decide +kernel), List.mem_of_getElem? (i := 1033) (by decide +kernel), List.mem_of_getElem? (i := 1034) (by decide +kernel)⟩
theorem lw_p41 : lw_okq (⟨"BenchMemoriesModel", "readSeven", "(I)Z"⟩, 32) := ⟨⟨by decide +kernel, by decide +kernel⟩, List.mem_of_getElem? (i := 734) (by decide +kernel), List.mem_of_getElem? (i := 1042) (by decide +kernel), List.mem_of_getElem? (i := 1043) (by decide +kernel)⟩
theorem lw_p42 : lw_okq (⟨"BenchMemoriesModel", "sitsBy", "()I"⟩, 32) := ⟨⟨by decide +kernel, by decide +kernel⟩, List.mem_of_getElem? (i := 734) (by decide +kernel), List.mem_of_getElem? (i := 1046) (by decide +kernel), List.mem_of_getElem? (i := 1047) (by decide +kernel)⟩
theorem lw_p43 : lw_okq (⟨"BenchMemoriesModel", "seat", "(I)V"⟩, 32) := ⟨⟨by decide +kernel, by decide +kernel⟩, List.mem_of_getElem? (i := 734) (by decide +kernel), List.mem_of_getElem? (i := 1050) (by decide +kernel), List.mem_of_getElem? (i := 1051) (by decide +kernel)⟩
theorem lw_p44 : lw_okq (⟨"BenchMemoriesModel", "isFit", "(I)Z"⟩, 32) := ⟨⟨by decide +kernel, by decide +kernel⟩, List.mem_of_getElem? (i := 734) (by decide +kernel), List.mem_of_getElem? (i := 1067) (by decide +kernel), List.mem_of_getElem? (i := 1068) (by decide +kernel)⟩
theorem lw_p45 : lw_okq (⟨"BenchMemoriesModel", "countBy", "(I)V"⟩, 32) := ⟨⟨by decide +kernel, by decide +kernel⟩, List.mem_of_getElem? (i := 734) (by decide +kernel), List.mem_of_getElem? (i := 1080) (by decide +kernel), List.mem_of_getElem? (i := 1081) (by decide +kernel)⟩
theorem lw_p46 : lw_okq (⟨"BenchMemoriesModel", "worthOf", "(I)I"⟩, 32) := ⟨⟨by decide +kernel, by decide +kernel⟩, List.mem_of_getElem? (i := 734) (by decide +kernel), List.mem_of_getElem? (i := 1089) (by decide +kernel), List.mem_of_getElem? (i := 1090) (by decide +kernel)⟩
theorem lw_p47 : lw_okq (⟨"BenchMemoriesModel", "rowsBy", "(II)I"⟩, 32) := ⟨⟨by decide +kernel, by decide +kernel⟩, List.mem_of_getElem? (i := 734) (by decide +kernel), List.mem_of_getElem? (i := 1093) (by decide +kernel), List.mem_of_getElem? (i := 1094) (by decide +kernel)⟩
def lw_privs_3 : List (MethodName × Nat) := [(⟨"BenchMemoriesModel", "sit", "(I)V"⟩, 32), (⟨"BenchMemoriesModel", "comeTo", "(II)V"⟩, 32), (⟨"BenchMemoriesModel", "change", "(II)V"⟩, 32), (⟨"BenchMemoriesModel", "evening", "()V"⟩, 32), (⟨"BenchMemoriesModel", "back", "(I)I"⟩, 32), (⟨"BenchMemoriesModel", "far", "(II)I"⟩, 32), (⟨"BenchMemoriesModel", "findOff", "()V"⟩, 32), (⟨"BenchMemoriesModel", "rowBy", "(III)I"⟩, 32), (⟨"BenchMemoriesModel", "goesOn", "(II)I"⟩, 32), (⟨"BenchMemoriesModel", "readSeven", "(I)Z"⟩, 32), (⟨"BenchMemoriesModel", "sitsBy", "()I"⟩, 32), (⟨"BenchMemoriesModel", "seat", "(I)V"⟩, 32), (⟨"BenchMemoriesModel", "isFit", "(I)Z"⟩, 32), (⟨"BenchMemoriesModel", "countBy", "(I)V"⟩, 32), (⟨"BenchMemoriesModel", "worthOf", "(I)I"⟩, 32), (⟨"BenchMemoriesModel", "rowsBy", "(II)I"⟩, 32)]
theorem lw_r3 : ∀ q ∈ lw_privs_3, lw_okq q := List.forall_mem_cons.mpr ⟨lw_p32, List.forall_mem_cons.mpr ⟨lw_p33, List.forall_mem_cons.mpr ⟨lw_p34, List.forall_mem_cons.mpr ⟨lw_p35, List.forall_mem_cons.mpr ⟨lw_p36, List.forall_mem_cons.mpr ⟨lw_p37, List.forall_mem_cons.mpr ⟨lw_p38, List.forall_mem_cons.mpr ⟨lw_p39, List.forall_mem_cons.mpr ⟨lw_p40, List.forall_mem_cons.mpr ⟨lw_p41, List.forall_mem_cons.mpr ⟨lw_p42, List.forall_mem_cons.mpr ⟨lw_p43, List.forall_mem_cons.mpr ⟨lw_p44, List.forall_mem_cons.mpr ⟨lw_p45, List.forall_mem_cons.mpr ⟨lw_p46, List.forall_mem_cons.mpr ⟨lw_p47, fun _ h => absurd h List.not_mem_nil⟩⟩⟩⟩⟩⟩⟩⟩⟩⟩⟩⟩⟩⟩⟩⟩
theorem lw_p48 : lw_okq (⟨"BenchMemoriesModel", "seasonOne", "(III)V"⟩, 32) := ⟨⟨by decide +kernel, by decide +kernel⟩, List.mem_of_getElem? (i := 734) (by decide +kernel), List.mem_of_getElem? (i := 1116) (by decide +kernel), List.mem_of_getElem? (i := 1117) (by decide +kernel)⟩
theorem lw_p49 : lw_okq (⟨"BenchMemoriesModel", "manyLost", "()I"⟩, 32) := ⟨⟨by decide +kernel, by decide +kernel⟩, List.mem_of_getElem? (i := 734) (by decide +kernel), List.mem_of_getElem? (i := 1120) (by decide +kernel), List.mem_of_getElem? (i := 1121) (by decide +kernel)⟩
theorem lw_p50 : lw_okq (⟨"BenchMemoriesModel", "manyLie", "()I"⟩, 32) := ⟨⟨by decide +kernel, by decide +kernel⟩, List.mem_of_getElem? (i := 734) (by decide +kernel), List.mem_of_getElem? (i := 1124) (by decide +kernel), List.mem_of_getElem? (i := 1125) (by decide +kernel)⟩
theorem lw_p51 : lw_okq (⟨"BenchMemoriesModel", "passAll", "()V"⟩, 32) := ⟨⟨by decide +kernel, by decide +kernel⟩, List.mem_of_getElem? (i := 734) (by decide +kernel), List.mem_of_getElem? (i := 1132) (by decide +kernel), List.mem_of_getElem? (i := 1133) (by decide +kernel)⟩
theorem lw_p52 : lw_okq (⟨"BenchMemoriesModel", "pass", "(I)I"⟩, 32) := ⟨⟨by decide +kernel, by decide +kernel⟩, List.mem_of_getElem? (i := 734) (by decide +kernel), List.mem_of_getElem? (i := 1136) (by decide +kernel), List.mem_of_getElem? (i := 1137) (by decide +kernel)⟩
theorem lw_p53 : lw_okq (⟨"BenchMemoriesModel", "passRow", "([II)V"⟩, 32) := ⟨⟨by decide +kernel, by decide +kernel⟩, List.mem_of_getElem? (i := 734) (by decide +kernel), List.mem_of_getElem? (i := 1140) (by decide +kernel), List.mem_of_getElem? (i := 1141) (by decide +kernel)⟩
theorem lw_p54 : lw_okq (⟨"BenchMemoriesModel", "ofBenches", "(I)I"⟩, 32) := ⟨⟨by decide +kernel, by decide +kernel⟩, List.mem_of_getElem? (i := 734) (by decide +kernel), List.mem_of_getElem? (i := 1155) (by decide +kernel), List.mem_of_getElem? (i := 1156) (by decide +kernel)⟩
theorem lw_p55 : lw_okq (⟨"BenchMemoriesModel", "ofOnes", "(I)I"⟩, 32) := ⟨⟨by decide +kernel, by decide +kernel⟩, List.mem_of_getElem? (i := 734) (by decide +kernel), List.mem_of_getElem? (i := 1160) (by decide +kernel), List.mem_of_getElem? (i := 1161) (by decide +kernel)⟩
theorem lw_p56 : lw_okq (⟨"BenchMemoriesModel", "ofAll", "(I)I"⟩, 32) := ⟨⟨by decide +kernel, by decide +kernel⟩, List.mem_of_getElem? (i := 734) (by decide +kernel), List.mem_of_getElem? (i := 1164) (by decide +kernel), List.mem_of_getElem? (i := 1165) (by decide +kernel)⟩
def lw_privs_4 : List (MethodName × Nat) := [(⟨"BenchMemoriesModel", "seasonOne", "(III)V"⟩, 32), (⟨"BenchMemoriesModel", "manyLost", "()I"⟩, 32), (⟨"BenchMemoriesModel", "manyLie", "()I"⟩, 32), (⟨"BenchMemoriesModel", "passAll", "()V"⟩, 32), (⟨"BenchMemoriesModel", "pass", "(I)I"⟩, 32), (⟨"BenchMemoriesModel", "passRow", "([II)V"⟩, 32), (⟨"BenchMemoriesModel", "ofBenches", "(I)I"⟩, 32), (⟨"BenchMemoriesModel", "ofOnes", "(I)I"⟩, 32), (⟨"BenchMemoriesModel", "ofAll", "(I)I"⟩, 32)]
theorem lw_r4 : ∀ q ∈ lw_privs_4, lw_okq q := List.forall_mem_cons.mpr ⟨lw_p48, List.forall_mem_cons.mpr ⟨lw_p49, List.forall_mem_cons.mpr ⟨lw_p50, List.forall_mem_cons.mpr ⟨lw_p51, List.forall_mem_cons.mpr ⟨lw_p52, List.forall_mem_cons.mpr ⟨lw_p53, List.forall_mem_cons.mpr ⟨lw_p54, List.forall_mem_cons.mpr ⟨lw_p55, List.forall_mem_cons.mpr ⟨lw_p56, fun _ h => absurd h List.not_mem_nil⟩⟩⟩⟩⟩⟩⟩⟩⟩
def lw_privs : List (MethodName × Nat) := lw_privs_1 ++ (lw_privs_2 ++ (lw_privs_3 ++ (lw_privs_4)))
def lw_tbl : List Cond := k2_sels lw_privs ++ tables_1
theorem lw_privs_ok : ∀ q ∈ lw_privs, lw_okq q := by
  show ∀ q ∈ lw_privs_1 ++ (lw_privs_2 ++ (lw_privs_3 ++ (lw_privs_4))), lw_okq q
  exact List.forall_mem_append.mpr ⟨lw_r1, List.forall_mem_append.mpr ⟨lw_r2, List.forall_mem_append.mpr ⟨lw_r3, lw_r4⟩⟩⟩
end
section
def RX0 : String := "BenchMemories$Course"
def TX0 : u_T := fun k => match k with
  | 0 => ("BenchMemories$Course", "trial", "LBenchMemories$Garden;", true)
  | 1 => ("BenchMemories$Course", "handsOf", "LBenchMemories$Row;", true)
  | 2 => ("BenchMemories$Course", "acts", "I", false)
  | 3 => ("BenchMemories$Course", "sittings", "I", false)
  | 4 => ("BenchMemories$Course", "failed", "I", false)
  | _ => ("BenchMemories$Course", "reason", "I", false)
def tyX0 : Nat → FieldType := fun k => match k with
  | 0 => .object "BenchMemories$Garden"
  | 1 => .object "BenchMemories$Row"
  | 2 => .int
  | 3 => .int
  | 4 => .int
  | _ => .int
theorem nmX0 : ∀ a, a < 6 → ∀ b, b < 6 → a ≠ b → (TX0 a).2.1 ≠ (TX0 b).2.1 := by decide +kernel
theorem tyX0_ok : ∀ k, k < 6 → parseFieldDescriptor (TX0 k).2.2.1 = some (tyX0 k) := by decide +kernel
abbrev cX0_init : ByteArray := prog_2_method_1_code
def yX0_init : MethodName := ⟨RX0, "<init>", "()V"⟩
abbrev cX0_tryOut : ByteArray := prog_2_method_2_code
def yX0_tryOut : MethodName := ⟨RX0, "tryOut", "(LBenchMemories$Garden;LBenchMemories$Pad;)I"⟩
abbrev cX0_begin : ByteArray := prog_2_method_3_code
def yX0_begin : MethodName := ⟨RX0, "begin", "(LBenchMemories$Garden;)V"⟩
abbrev cX0_tryAct : ByteArray := prog_2_method_4_code
def yX0_tryAct : MethodName := ⟨RX0, "tryAct", "(III)V"⟩
abbrev cX0_countHand : ByteArray := prog_2_method_5_code
def yX0_countHand : MethodName := ⟨RX0, "countHand", "(I)V"⟩
abbrev cX0_mostHanded : ByteArray := prog_2_method_6_code
def yX0_mostHanded : MethodName := ⟨RX0, "mostHanded", "()I"⟩
abbrev cX0_drift : ByteArray := prog_2_method_7_code
def yX0_drift : MethodName := ⟨RX0, "drift", "(LBenchMemories$Garden;II)V"⟩
abbrev cX0_drawAct : ByteArray := prog_2_method_8_code
def yX0_drawAct : MethodName := ⟨RX0, "drawAct", "(III)V"⟩
abbrev cX0_actByLot : ByteArray := prog_2_method_9_code
def yX0_actByLot : MethodName := ⟨RX0, "actByLot", "(I)I"⟩
def RX1 : String := "BenchMemories$Garden"
def TX1 : u_T := fun k => match k with
  | 0 => ("BenchMemories$Garden", "ways", "LBenchMemories$Row;", true)
  | 1 => ("BenchMemories$Garden", "stands", "LBenchMemories$Row;", true)
  | 2 => ("BenchMemories$Garden", "places", "LBenchMemories$Row;", true)
  | 3 => ("BenchMemories$Garden", "freshness", "LBenchMemories$Row;", true)
  | 4 => ("BenchMemories$Garden", "sights", "LBenchMemories$Row;", true)
  | 5 => ("BenchMemories$Garden", "sightCount", "I", false)
  | 6 => ("BenchMemories$Garden", "cushions", "I", false)
  | _ => ("BenchMemories$Garden", "day", "I", false)
def tyX1 : Nat → FieldType := fun k => match k with
  | 0 => .object "BenchMemories$Row"
  | 1 => .object "BenchMemories$Row"
  | 2 => .object "BenchMemories$Row"
  | 3 => .object "BenchMemories$Row"
  | 4 => .object "BenchMemories$Row"
  | 5 => .int
  | 6 => .int
  | _ => .int
theorem nmX1 : ∀ a, a < 8 → ∀ b, b < 8 → a ≠ b → (TX1 a).2.1 ≠ (TX1 b).2.1 := by decide +kernel
theorem tyX1_ok : ∀ k, k < 8 → parseFieldDescriptor (TX1 k).2.2.1 = some (tyX1 k) := by decide +kernel
abbrev cX1_init : ByteArray := prog_3_method_1_code
def yX1_init : MethodName := ⟨RX1, "<init>", "()V"⟩
abbrev cX1_copyFrom : ByteArray := prog_3_method_2_code
def yX1_copyFrom : MethodName := ⟨RX1, "copyFrom", "(LBenchMemories$Garden;)V"⟩
abbrev cX1_waysFrom : ByteArray := prog_3_method_3_code
def yX1_waysFrom : MethodName := ⟨RX1, "waysFrom", "(I)I"⟩
abbrev cX1_setWay : ByteArray := prog_3_method_4_code
def yX1_setWay : MethodName := ⟨RX1, "setWay", "(IIZ)V"⟩
abbrev cX1_countWays : ByteArray := prog_3_method_5_code
def yX1_countWays : MethodName := ⟨RX1, "countWays", "()I"⟩
abbrev cX1_neighboursOf : ByteArray := prog_3_method_6_code
def yX1_neighboursOf : MethodName := ⟨RX1, "neighboursOf", "(I)I"⟩
abbrev cX1_stepsBetween : ByteArray := prog_3_method_7_code
def yX1_stepsBetween : MethodName := ⟨RX1, "stepsBetween", "(II)I"⟩
abbrev cX1_reachableFrom : ByteArray := prog_3_method_8_code
def yX1_reachableFrom : MethodName := ⟨RX1, "reachableFrom", "(I)I"⟩
abbrev cX1_hasCushion : ByteArray := prog_3_method_9_code
def yX1_hasCushion : MethodName := ⟨RX1, "hasCushion", "(I)Z"⟩
abbrev cX1_benchOf : ByteArray := prog_3_method_10_code
def yX1_benchOf : MethodName := ⟨RX1, "benchOf", "(I)I"⟩
abbrev cX1_placeOf : ByteArray := prog_3_method_11_code
def yX1_placeOf : MethodName := ⟨RX1, "placeOf", "(I)I"⟩
abbrev cX1_heldBy : ByteArray := prog_3_method_12_code
def yX1_heldBy : MethodName := ⟨RX1, "heldBy", "(I)I"⟩
abbrev cX1_lyingOn : ByteArray := prog_3_method_13_code
def yX1_lyingOn : MethodName := ⟨RX1, "lyingOn", "(I)I"⟩
abbrev cX1_memoryAt : ByteArray := prog_3_method_14_code
def yX1_memoryAt : MethodName := ⟨RX1, "memoryAt", "(I)I"⟩
abbrev cX1_freshOn : ByteArray := prog_3_method_15_code
def yX1_freshOn : MethodName := ⟨RX1, "freshOn", "(I)I"⟩
abbrev cX1_standAt : ByteArray := prog_3_method_16_code
def yX1_standAt : MethodName := ⟨RX1, "standAt", "(II)V"⟩
abbrev cX1_putWith : ByteArray := prog_3_method_17_code
def yX1_putWith : MethodName := ⟨RX1, "putWith", "(II)V"⟩
abbrev cX1_makeNowhere : ByteArray := prog_3_method_18_code
def yX1_makeNowhere : MethodName := ⟨RX1, "makeNowhere", "(I)V"⟩
abbrev cX1_putOn : ByteArray := prog_3_method_19_code
def yX1_putOn : MethodName := ⟨RX1, "putOn", "(III)V"⟩
abbrev cX1_countNowhere : ByteArray := prog_3_method_20_code
def yX1_countNowhere : MethodName := ⟨RX1, "countNowhere", "()I"⟩
abbrev cX1_countOnBenches : ByteArray := prog_3_method_21_code
def yX1_countOnBenches : MethodName := ⟨RX1, "countOnBenches", "()I"⟩
abbrev cX1_whyNot : ByteArray := prog_3_method_22_code
def yX1_whyNot : MethodName := ⟨RX1, "whyNot", "(III)I"⟩
abbrev cX1_whyNotSit : ByteArray := prog_3_method_23_code
def yX1_whyNotSit : MethodName := ⟨RX1, "whyNotSit", "(I)I"⟩
abbrev cX1_whyNotChange : ByteArray := prog_3_method_24_code
def yX1_whyNotChange : MethodName := ⟨RX1, "whyNotChange", "(II)I"⟩
abbrev cX1_carryOut : ByteArray := prog_3_method_25_code
def yX1_carryOut : MethodName := ⟨RX1, "carryOut", "(III)V"⟩
abbrev cX1_sitDown : ByteArray := prog_3_method_26_code
def yX1_sitDown : MethodName := ⟨RX1, "sitDown", "(I)V"⟩
abbrev cX1_swap : ByteArray := prog_3_method_27_code
def yX1_swap : MethodName := ⟨RX1, "swap", "(II)V"⟩
abbrev cX1_endDay : ByteArray := prog_3_method_28_code
def yX1_endDay : MethodName := ⟨RX1, "endDay", "()V"⟩
abbrev cX1_addSight : ByteArray := prog_3_method_29_code
def yX1_addSight : MethodName := ⟨RX1, "addSight", "(IIZ)V"⟩
abbrev cX1_dropSights : ByteArray := prog_3_method_30_code
def yX1_dropSights : MethodName := ⟨RX1, "dropSights", "()V"⟩
abbrev cX1_allSeenSo : ByteArray := prog_3_method_31_code
def yX1_allSeenSo : MethodName := ⟨RX1, "allSeenSo", "(II)Z"⟩
def RX2 : String := "BenchMemories$Order"
def TX2 : u_T := fun k => match k with
  | _ => ("BenchMemories$Order", "memories", "LBenchMemories$Row;", true)
def tyX2 : Nat → FieldType := fun k => match k with
  | _ => .object "BenchMemories$Row"
theorem nmX2 : ∀ a, a < 1 → ∀ b, b < 1 → a ≠ b → (TX2 a).2.1 ≠ (TX2 b).2.1 := by decide +kernel
theorem tyX2_ok : ∀ k, k < 1 → parseFieldDescriptor (TX2 k).2.2.1 = some (tyX2 k) := by decide +kernel
abbrev cX2_init : ByteArray := prog_4_method_1_code
def yX2_init : MethodName := ⟨RX2, "<init>", "()V"⟩
abbrev cX2_read : ByteArray := prog_4_method_2_code
def yX2_read : MethodName := ⟨RX2, "read", "(I)Z"⟩
abbrev cX2_sittingsLeft : ByteArray := prog_4_method_3_code
def yX2_sittingsLeft : MethodName := ⟨RX2, "sittingsLeft", "()I"⟩
abbrev cX2_firstSitting : ByteArray := prog_4_method_4_code
def yX2_firstSitting : MethodName := ⟨RX2, "firstSitting", "()I"⟩
abbrev cX2_swapWith : ByteArray := prog_4_method_5_code
def yX2_swapWith : MethodName := ⟨RX2, "swapWith", "(I)V"⟩
def RX3 : String := "BenchMemories$Pad"
def TX3 : u_T := fun k => match k with
  | 0 => ("BenchMemories$Pad", "signs", "LBenchMemories$Row;", true)
  | _ => ("BenchMemories$Pad", "count", "I", false)
def tyX3 : Nat → FieldType := fun k => match k with
  | 0 => .object "BenchMemories$Row"
  | _ => .int
theorem nmX3 : ∀ a, a < 2 → ∀ b, b < 2 → a ≠ b → (TX3 a).2.1 ≠ (TX3 b).2.1 := by decide +kernel
theorem tyX3_ok : ∀ k, k < 2 → parseFieldDescriptor (TX3 k).2.2.1 = some (tyX3 k) := by decide +kernel
abbrev cX3_init : ByteArray := prog_5_method_1_code
def yX3_init : MethodName := ⟨RX3, "<init>", "()V"⟩
abbrev cX3_append : ByteArray := prog_5_method_2_code
def yX3_append : MethodName := ⟨RX3, "append", "(I)V"⟩
abbrev cX3_empty : ByteArray := prog_5_method_3_code
def yX3_empty : MethodName := ⟨RX3, "empty", "()V"⟩
abbrev cX3_firstFault : ByteArray := prog_5_method_4_code
def yX3_firstFault : MethodName := ⟨RX3, "firstFault", "()I"⟩
abbrev cX3_dueBehind : ByteArray := prog_5_method_5_code
def yX3_dueBehind : MethodName := ⟨RX3, "dueBehind", "(II)I"⟩
abbrev cX3_dueBehindStart : ByteArray := prog_5_method_6_code
def yX3_dueBehindStart : MethodName := ⟨RX3, "dueBehindStart", "(I)I"⟩
abbrev cX3_dueBehindDeed : ByteArray := prog_5_method_7_code
def yX3_dueBehindDeed : MethodName := ⟨RX3, "dueBehindDeed", "(I)I"⟩
abbrev cX3_actEndedBy : ByteArray := prog_5_method_8_code
def yX3_actEndedBy : MethodName := ⟨RX3, "actEndedBy", "(II)I"⟩
abbrev cX3_targetOf : ByteArray := prog_5_method_9_code
def yX3_targetOf : MethodName := ⟨RX3, "targetOf", "(I)I"⟩
def RX4 : String := "BenchMemories$Rounds"
def TX4 : u_T := fun k => match k with
  | 0 => ("BenchMemories$Rounds", "stops", "LBenchMemories$Row;", true)
  | 1 => ("BenchMemories$Rounds", "legs", "LBenchMemories$Row;", true)
  | 2 => ("BenchMemories$Rounds", "costs", "LBenchMemories$Row;", true)
  | _ => ("BenchMemories$Rounds", "count", "I", false)
def tyX4 : Nat → FieldType := fun k => match k with
  | 0 => .object "BenchMemories$Row"
  | 1 => .object "BenchMemories$Row"
  | 2 => .object "BenchMemories$Row"
  | _ => .int
theorem nmX4 : ∀ a, a < 4 → ∀ b, b < 4 → a ≠ b → (TX4 a).2.1 ≠ (TX4 b).2.1 := by decide +kernel
theorem tyX4_ok : ∀ k, k < 4 → parseFieldDescriptor (TX4 k).2.2.1 = some (tyX4 k) := by decide +kernel
abbrev cX4_init : ByteArray := prog_6_method_1_code
def yX4_init : MethodName := ⟨RX4, "<init>", "()V"⟩
abbrev cX4_shortest : ByteArray := prog_6_method_2_code
def yX4_shortest : MethodName := ⟨RX4, "shortest", "(LBenchMemories$Garden;II)I"⟩
abbrev cX4_gatherStops : ByteArray := prog_6_method_3_code
def yX4_gatherStops : MethodName := ⟨RX4, "gatherStops", "(II)V"⟩
abbrev cX4_measureLegs : ByteArray := prog_6_method_4_code
def yX4_measureLegs : MethodName := ⟨RX4, "measureLegs", "(LBenchMemories$Garden;)V"⟩
abbrev cX4_cheapest : ByteArray := prog_6_method_5_code
def yX4_cheapest : MethodName := ⟨RX4, "cheapest", "(II)I"⟩
def RX5 : String := "BenchMemories$Row"
def TX5 : u_T := fun k => match k with
  | _ => ("BenchMemories$Row", "cells", "[I", true)
def tyX5 : Nat → FieldType := fun k => match k with
  | _ => .array .int
theorem nmX5 : ∀ a, a < 1 → ∀ b, b < 1 → a ≠ b → (TX5 a).2.1 ≠ (TX5 b).2.1 := by decide +kernel
theorem tyX5_ok : ∀ k, k < 1 → parseFieldDescriptor (TX5 k).2.2.1 = some (tyX5 k) := by decide +kernel
abbrev cX5_init : ByteArray := prog_7_method_1_code
def yX5_init : MethodName := ⟨RX5, "<init>", "(I)V"⟩
abbrev cX5_at : ByteArray := prog_7_method_2_code
def yX5_at : MethodName := ⟨RX5, "at", "(I)I"⟩
abbrev cX5_put : ByteArray := prog_7_method_3_code
def yX5_put : MethodName := ⟨RX5, "put", "(II)V"⟩
abbrev cX5_fillWith : ByteArray := prog_7_method_4_code
def yX5_fillWith : MethodName := ⟨RX5, "fillWith", "(I)V"⟩
abbrev cX5_copyFrom : ByteArray := prog_7_method_5_code
def yX5_copyFrom : MethodName := ⟨RX5, "copyFrom", "(LBenchMemories$Row;)V"⟩
def RX6 : String := "BenchMemories$Suspects"
def TX6 : u_T := fun k => match k with
  | 0 => ("BenchMemories$Suspects", "codes", "LBenchMemories$Row;", true)
  | 1 => ("BenchMemories$Suspects", "holders", "LBenchMemories$Row;", true)
  | 2 => ("BenchMemories$Suspects", "count", "I", false)
  | 3 => ("BenchMemories$Suspects", "question", "I", false)
  | _ => ("BenchMemories$Suspects", "mostLeft", "I", false)
def tyX6 : Nat → FieldType := fun k => match k with
  | 0 => .object "BenchMemories$Row"
  | 1 => .object "BenchMemories$Row"
  | 2 => .int
  | 3 => .int
  | _ => .int
theorem nmX6 : ∀ a, a < 5 → ∀ b, b < 5 → a ≠ b → (TX6 a).2.1 ≠ (TX6 b).2.1 := by decide +kernel
theorem tyX6_ok : ∀ k, k < 5 → parseFieldDescriptor (TX6 k).2.2.1 = some (tyX6 k) := by decide +kernel
abbrev cX6_init : ByteArray := prog_8_method_1_code
def yX6_init : MethodName := ⟨RX6, "<init>", "()V"⟩
abbrev cX6_sift : ByteArray := prog_8_method_2_code
def yX6_sift : MethodName := ⟨RX6, "sift", "(LBenchMemories$Garden;)V"⟩
abbrev cX6_holder : ByteArray := prog_8_method_3_code
def yX6_holder : MethodName := ⟨RX6, "holder", "(III)I"⟩
abbrev cX6_chooseQuestion : ByteArray := prog_8_method_4_code
def yX6_chooseQuestion : MethodName := ⟨RX6, "chooseQuestion", "()V"⟩
abbrev cX6_countHolders : ByteArray := prog_8_method_5_code
def yX6_countHolders : MethodName := ⟨RX6, "countHolders", "(I)V"⟩
def RX7 : String := "BenchMemories$Turns"
def TX7 : u_T := fun k => match k with
  | _ => ("BenchMemories$Turns", "worths", "LBenchMemories$Row;", true)
def tyX7 : Nat → FieldType := fun k => match k with
  | _ => .object "BenchMemories$Row"
theorem nmX7 : ∀ a, a < 1 → ∀ b, b < 1 → a ≠ b → (TX7 a).2.1 ≠ (TX7 b).2.1 := by decide +kernel
theorem tyX7_ok : ∀ k, k < 1 → parseFieldDescriptor (TX7 k).2.2.1 = some (tyX7 k) := by decide +kernel
abbrev cX7_init : ByteArray := prog_9_method_1_code
def yX7_init : MethodName := ⟨RX7, "<init>", "()V"⟩
abbrev cX7_worthBehind : ByteArray := prog_9_method_2_code
def yX7_worthBehind : MethodName := ⟨RX7, "worthBehind", "(II)I"⟩
abbrev cX7_winningBench : ByteArray := prog_9_method_3_code
def yX7_winningBench : MethodName := ⟨RX7, "winningBench", "(I)I"⟩
def RX8 : String := "BenchMemories$Walks"
def TX8 : u_T := fun k => match k with
  | 0 => ("BenchMemories$Walks", "starts", "LBenchMemories$Row;", true)
  | _ => ("BenchMemories$Walks", "reachable", "I", false)
def tyX8 : Nat → FieldType := fun k => match k with
  | 0 => .object "BenchMemories$Row"
  | _ => .int
theorem nmX8 : ∀ a, a < 2 → ∀ b, b < 2 → a ≠ b → (TX8 a).2.1 ≠ (TX8 b).2.1 := by decide +kernel
theorem tyX8_ok : ∀ k, k < 2 → parseFieldDescriptor (TX8 k).2.2.1 = some (tyX8 k) := by decide +kernel
abbrev cX8_init : ByteArray := prog_10_method_1_code
def yX8_init : MethodName := ⟨RX8, "<init>", "()V"⟩
abbrev cX8_explore : ByteArray := prog_10_method_2_code
def yX8_explore : MethodName := ⟨RX8, "explore", "(LBenchMemories$Garden;I)V"⟩
abbrev cX8_startsOf : ByteArray := prog_10_method_3_code
def yX8_startsOf : MethodName := ⟨RX8, "startsOf", "(LBenchMemories$Garden;I)I"⟩
abbrev cX8_longestFrom : ByteArray := prog_10_method_4_code
def yX8_longestFrom : MethodName := ⟨RX8, "longestFrom", "(I)I"⟩
abbrev cX8_firstFrom : ByteArray := prog_10_method_5_code
def yX8_firstFrom : MethodName := ⟨RX8, "firstFrom", "(LBenchMemories$Garden;II)I"⟩
abbrev cX8_startsOfWalks : ByteArray := prog_10_method_6_code
def yX8_startsOfWalks : MethodName := ⟨RX8, "startsOfWalks", "(II)I"⟩
def RX9 : String := "BenchMemories"
def TX9 : u_T := fun k => match k with
  | 0 => ("BenchMemories", "garden", "LBenchMemories$Garden;", true)
  | 1 => ("BenchMemories", "firstImage", "LBenchMemories$Garden;", true)
  | 2 => ("BenchMemories", "secondImage", "LBenchMemories$Garden;", true)
  | 3 => ("BenchMemories", "pad", "LBenchMemories$Pad;", true)
  | 4 => ("BenchMemories", "course", "LBenchMemories$Course;", true)
  | 5 => ("BenchMemories", "rounds", "LBenchMemories$Rounds;", true)
  | 6 => ("BenchMemories", "walks", "LBenchMemories$Walks;", true)
  | 7 => ("BenchMemories", "order", "LBenchMemories$Order;", true)
  | 8 => ("BenchMemories", "suspects", "LBenchMemories$Suspects;", true)
  | 9 => ("BenchMemories", "turns", "LBenchMemories$Turns;", true)
  | _ => ("BenchMemories", "imagesKept", "I", false)
def tyX9 : Nat → FieldType := fun k => match k with
  | 0 => .object "BenchMemories$Garden"
  | 1 => .object "BenchMemories$Garden"
  | 2 => .object "BenchMemories$Garden"
  | 3 => .object "BenchMemories$Pad"
  | 4 => .object "BenchMemories$Course"
  | 5 => .object "BenchMemories$Rounds"
  | 6 => .object "BenchMemories$Walks"
  | 7 => .object "BenchMemories$Order"
  | 8 => .object "BenchMemories$Suspects"
  | 9 => .object "BenchMemories$Turns"
  | _ => .int
theorem nmX9 : ∀ a, a < 11 → ∀ b, b < 11 → a ≠ b → (TX9 a).2.1 ≠ (TX9 b).2.1 := by decide +kernel
theorem tyX9_ok : ∀ k, k < 11 → parseFieldDescriptor (TX9 k).2.2.1 = some (tyX9 k) := by decide +kernel
abbrev cX9_init : ByteArray := prog_1_method_1_code
def yX9_init : MethodName := ⟨RX9, "<init>", "()V"⟩
abbrev cX9_way : ByteArray := prog_1_method_2_code
def yX9_way : MethodName := ⟨RX9, "way", "(IIZ)I"⟩
abbrev cX9_stand : ByteArray := prog_1_method_3_code
def yX9_stand : MethodName := ⟨RX9, "stand", "(II)I"⟩
abbrev cX9_give : ByteArray := prog_1_method_4_code
def yX9_give : MethodName := ⟨RX9, "give", "(II)I"⟩
abbrev cX9_lay : ByteArray := prog_1_method_5_code
def yX9_lay : MethodName := ⟨RX9, "lay", "(III)I"⟩
abbrev cX9_forget : ByteArray := prog_1_method_6_code
def yX9_forget : MethodName := ⟨RX9, "forget", "(I)I"⟩
abbrev cX9_say : ByteArray := prog_1_method_7_code
def yX9_say : MethodName := ⟨RX9, "say", "(I)I"⟩
abbrev cX9_wipe : ByteArray := prog_1_method_8_code
def yX9_wipe : MethodName := ⟨RX9, "wipe", "()I"⟩
abbrev cX9_fault : ByteArray := prog_1_method_9_code
def yX9_fault : MethodName := ⟨RX9, "fault", "()I"⟩
abbrev cX9_judge : ByteArray := prog_1_method_10_code
def yX9_judge : MethodName := ⟨RX9, "judge", "(I)I"⟩
abbrev cX9_behind : ByteArray := prog_1_method_11_code
def yX9_behind : MethodName := ⟨RX9, "behind", "(II)I"⟩
abbrev cX9_lies : ByteArray := prog_1_method_12_code
def yX9_lies : MethodName := ⟨RX9, "lies", "(II)I"⟩
abbrev cX9_hands : ByteArray := prog_1_method_13_code
def yX9_hands : MethodName := ⟨RX9, "hands", "(II)I"⟩
abbrev cX9_most : ByteArray := prog_1_method_14_code
def yX9_most : MethodName := ⟨RX9, "most", "()I"⟩
abbrev cX9_done : ByteArray := prog_1_method_15_code
def yX9_done : MethodName := ⟨RX9, "done", "()I"⟩
abbrev cX9_steps : ByteArray := prog_1_method_16_code
def yX9_steps : MethodName := ⟨RX9, "steps", "(II)I"⟩
abbrev cX9_get : ByteArray := prog_1_method_17_code
def yX9_get : MethodName := ⟨RX9, "get", "(II)I"⟩
abbrev cX9_round : ByteArray := prog_1_method_18_code
def yX9_round : MethodName := ⟨RX9, "round", "(II)I"⟩
abbrev cX9_walk : ByteArray := prog_1_method_19_code
def yX9_walk : MethodName := ⟨RX9, "walk", "(II)I"⟩
abbrev cX9_right : ByteArray := prog_1_method_20_code
def yX9_right : MethodName := ⟨RX9, "right", "(II)I"⟩
abbrev cX9_seen : ByteArray := prog_1_method_21_code
def yX9_seen : MethodName := ⟨RX9, "seen", "(IIZ)I"⟩
abbrev cX9_clear : ByteArray := prog_1_method_22_code
def yX9_clear : MethodName := ⟨RX9, "clear", "()I"⟩
abbrev cX9_fits : ByteArray := prog_1_method_23_code
def yX9_fits : MethodName := ⟨RX9, "fits", "(I)I"⟩
abbrev cX9_ask : ByteArray := prog_1_method_24_code
def yX9_ask : MethodName := ⟨RX9, "ask", "(I)I"⟩
abbrev cX9_take : ByteArray := prog_1_method_25_code
def yX9_take : MethodName := ⟨RX9, "take", "(II)I"⟩
abbrev cX9_evenings : ByteArray := prog_1_method_26_code
def yX9_evenings : MethodName := ⟨RX9, "evenings", "(IIII)J"⟩
abbrev cX9_season : ByteArray := prog_1_method_27_code
def yX9_season : MethodName := ⟨RX9, "season", "(III)I"⟩
abbrev cX9_image : ByteArray := prog_1_method_28_code
def yX9_image : MethodName := ⟨RX9, "image", "(I)I"⟩
abbrev cX9_restore : ByteArray := prog_1_method_29_code
def yX9_restore : MethodName := ⟨RX9, "restore", "(I)I"⟩
abbrev cX9_told : ByteArray := prog_1_method_30_code
def yX9_told : MethodName := ⟨RX9, "told", "(I)I"⟩
abbrev cX9_toldOfOne : ByteArray := prog_1_method_31_code
def yX9_toldOfOne : MethodName := ⟨RX9, "toldOfOne", "(I)I"⟩
abbrev cX9_isWithin : ByteArray := prog_1_method_32_code
def yX9_isWithin : MethodName := ⟨RX9, "isWithin", "(III)Z"⟩
abbrev cX9_isBench : ByteArray := prog_1_method_33_code
def yX9_isBench : MethodName := ⟨RX9, "isBench", "(I)Z"⟩
abbrev cX9_isOne : ByteArray := prog_1_method_34_code
def yX9_isOne : MethodName := ⟨RX9, "isOne", "(I)Z"⟩
abbrev cX9_isMemory : ByteArray := prog_1_method_35_code
def yX9_isMemory : MethodName := ⟨RX9, "isMemory", "(I)Z"⟩
abbrev cX9_has : ByteArray := prog_1_method_36_code
def yX9_has : MethodName := ⟨RX9, "has", "(II)Z"⟩
abbrev cX9_power : ByteArray := prog_1_method_37_code
def yX9_power : MethodName := ⟨RX9, "power", "(II)J"⟩
abbrev cX9_commonDivisor : ByteArray := prog_1_method_38_code
def yX9_commonDivisor : MethodName := ⟨RX9, "commonDivisor", "(JJ)J"⟩
def RX10 : String := "BenchMemoriesModel"
def TX10 : u_T := fun k => match k with
  | 0 => ("BenchMemoriesModel", "ways", "[I", true)
  | 1 => ("BenchMemoriesModel", "place", "[I", true)
  | 2 => ("BenchMemoriesModel", "has", "[I", true)
  | 3 => ("BenchMemoriesModel", "there", "[I", true)
  | 4 => ("BenchMemoriesModel", "fresh", "[I", true)
  | 5 => ("BenchMemoriesModel", "cushions", "I", false)
  | 6 => ("BenchMemoriesModel", "day", "I", false)
  | 7 => ("BenchMemoriesModel", "sightSat", "[I", true)
  | 8 => ("BenchMemoriesModel", "sightWho", "[I", true)
  | 9 => ("BenchMemoriesModel", "sightHad", "[I", true)
  | 10 => ("BenchMemoriesModel", "sights", "I", false)
  | 11 => ("BenchMemoriesModel", "pad", "[I", true)
  | 12 => ("BenchMemoriesModel", "padMany", "I", false)
  | 13 => ("BenchMemoriesModel", "act", "[I", true)
  | 14 => ("BenchMemoriesModel", "who", "[I", true)
  | 15 => ("BenchMemoriesModel", "which", "[I", true)
  | 16 => ("BenchMemoriesModel", "acts", "I", false)
  | 17 => ("BenchMemoriesModel", "went", "[I", true)
  | 18 => ("BenchMemoriesModel", "had", "[I", true)
  | 19 => ("BenchMemoriesModel", "badAct", "I", false)
  | 20 => ("BenchMemoriesModel", "badWhy", "I", false)
  | 21 => ("BenchMemoriesModel", "satMany", "I", false)
  | 22 => ("BenchMemoriesModel", "rows", "[I", true)
  | 23 => ("BenchMemoriesModel", "off", "[I", true)
  | 24 => ("BenchMemoriesModel", "lie", "[I", true)
  | 25 => ("BenchMemoriesModel", "byWho", "[I", true)
  | 26 => ("BenchMemoriesModel", "worth", "[I", true)
  | 27 => ("BenchMemoriesModel", "met", "[Z", true)
  | 28 => ("BenchMemoriesModel", "kept", "[I", true)
  | 29 => ("BenchMemoriesModel", "isKept", "[Z", true)
  | 30 => ("BenchMemoriesModel", "keptAt", "I", false)
  | _ => ("BenchMemoriesModel", "isWriting", "Z", false)
def tyX10 : Nat → FieldType := fun k => match k with
  | 0 => .array .int
  | 1 => .array .int
  | 2 => .array .int
  | 3 => .array .int
  | 4 => .array .int
  | 5 => .int
  | 6 => .int
  | 7 => .array .int
  | 8 => .array .int
  | 9 => .array .int
  | 10 => .int
  | 11 => .array .int
  | 12 => .int
  | 13 => .array .int
  | 14 => .array .int
  | 15 => .array .int
  | 16 => .int
  | 17 => .array .int
  | 18 => .array .int
  | 19 => .int
  | 20 => .int
  | 21 => .int
  | 22 => .array .int
  | 23 => .array .int
  | 24 => .array .int
  | 25 => .array .int
  | 26 => .array .int
  | 27 => .array .boolean
  | 28 => .array .int
  | 29 => .array .boolean
  | 30 => .int
  | _ => .boolean
theorem nmX10 : ∀ a, a < 32 → ∀ b, b < 32 → a ≠ b → (TX10 a).2.1 ≠ (TX10 b).2.1 := by decide +kernel
theorem tyX10_ok : ∀ k, k < 32 → parseFieldDescriptor (TX10 k).2.2.1 = some (tyX10 k) := by decide +kernel
abbrev cX10_init : ByteArray := prog_12_method_1_code
def yX10_init : MethodName := ⟨RX10, "<init>", "()V"⟩
abbrev cX10_in : ByteArray := prog_12_method_3_code
def yX10_in : MethodName := ⟨RX10, "in", "(JJJ)Z"⟩
abbrev cX10_isBench : ByteArray := prog_12_method_4_code
def yX10_isBench : MethodName := ⟨RX10, "isBench", "(I)Z"⟩
abbrev cX10_isOne : ByteArray := prog_12_method_5_code
def yX10_isOne : MethodName := ⟨RX10, "isOne", "(I)Z"⟩
abbrev cX10_isMemory : ByteArray := prog_12_method_6_code
def yX10_isMemory : MethodName := ⟨RX10, "isMemory", "(I)Z"⟩
abbrev cX10_isIn : ByteArray := prog_12_method_7_code
def yX10_isIn : MethodName := ⟨RX10, "isIn", "(II)Z"⟩
abbrev cX10_with : ByteArray := prog_12_method_8_code
def yX10_with : MethodName := ⟨RX10, "with", "(IIZ)I"⟩
abbrev cX10_ones : ByteArray := prog_12_method_9_code
def yX10_ones : MethodName := ⟨RX10, "ones", "(I)I"⟩
abbrev cX10_way : ByteArray := prog_12_method_10_code
def yX10_way : MethodName := ⟨RX10, "way", "(IIZ)I"⟩
abbrev cX10_stand : ByteArray := prog_12_method_11_code
def yX10_stand : MethodName := ⟨RX10, "stand", "(II)I"⟩
abbrev cX10_whereIs : ByteArray := prog_12_method_12_code
def yX10_whereIs : MethodName := ⟨RX10, "whereIs", "(I)I"⟩
abbrev cX10_lose : ByteArray := prog_12_method_13_code
def yX10_lose : MethodName := ⟨RX10, "lose", "(I)I"⟩
abbrev cX10_give : ByteArray := prog_12_method_14_code
def yX10_give : MethodName := ⟨RX10, "give", "(II)I"⟩
abbrev cX10_lay : ByteArray := prog_12_method_15_code
def yX10_lay : MethodName := ⟨RX10, "lay", "(III)I"⟩
abbrev cX10_forget : ByteArray := prog_12_method_16_code
def yX10_forget : MethodName := ⟨RX10, "forget", "(I)I"⟩
abbrev cX10_say : ByteArray := prog_12_method_17_code
def yX10_say : MethodName := ⟨RX10, "say", "(I)I"⟩
abbrev cX10_wipe : ByteArray := prog_12_method_18_code
def yX10_wipe : MethodName := ⟨RX10, "wipe", "()I"⟩
abbrev cX10_close : ByteArray := prog_12_method_19_code
def yX10_close : MethodName := ⟨RX10, "close", "(II)I"⟩
abbrev cX10_isName : ByteArray := prog_12_method_20_code
def yX10_isName : MethodName := ⟨RX10, "isName", "(I)Z"⟩
abbrev cX10_begin : ByteArray := prog_12_method_21_code
def yX10_begin : MethodName := ⟨RX10, "begin", "(I)I"⟩
abbrev cX10_deed : ByteArray := prog_12_method_22_code
def yX10_deed : MethodName := ⟨RX10, "deed", "(I)I"⟩
abbrev cX10_readOn : ByteArray := prog_12_method_23_code
def yX10_readOn : MethodName := ⟨RX10, "readOn", "(II)I"⟩
abbrev cX10_fault : ByteArray := prog_12_method_24_code
def yX10_fault : MethodName := ⟨RX10, "fault", "()I"⟩
abbrev cX10_whyNoSeat : ByteArray := prog_12_method_25_code
def yX10_whyNoSeat : MethodName := ⟨RX10, "whyNoSeat", "(I)I"⟩
abbrev cX10_whyNoChange : ByteArray := prog_12_method_26_code
def yX10_whyNoChange : MethodName := ⟨RX10, "whyNoChange", "(II)I"⟩
abbrev cX10_whyNot : ByteArray := prog_12_method_27_code
def yX10_whyNot : MethodName := ⟨RX10, "whyNot", "(III)I"⟩
abbrev cX10_comeTo : ByteArray := prog_12_method_28_code
def yX10_comeTo : MethodName := ⟨RX10, "comeTo", "(II)V"⟩
abbrev cX10_sit : ByteArray := prog_12_method_29_code
def yX10_sit : MethodName := ⟨RX10, "sit", "(I)V"⟩
abbrev cX10_change : ByteArray := prog_12_method_30_code
def yX10_change : MethodName := ⟨RX10, "change", "(II)V"⟩
abbrev cX10_evening : ByteArray := prog_12_method_31_code
def yX10_evening : MethodName := ⟨RX10, "evening", "()V"⟩
abbrev cX10_happen : ByteArray := prog_12_method_32_code
def yX10_happen : MethodName := ⟨RX10, "happen", "(III)V"⟩
abbrev cX10_keepNow : ByteArray := prog_12_method_33_code
def yX10_keepNow : MethodName := ⟨RX10, "keepNow", "()V"⟩
abbrev cX10_back : ByteArray := prog_12_method_34_code
def yX10_back : MethodName := ⟨RX10, "back", "(I)I"⟩
abbrev cX10_goDays : ByteArray := prog_12_method_35_code
def yX10_goDays : MethodName := ⟨RX10, "goDays", "()V"⟩
abbrev cX10_refusal : ByteArray := prog_12_method_36_code
def yX10_refusal : MethodName := ⟨RX10, "refusal", "()I"⟩
abbrev cX10_judge : ByteArray := prog_12_method_37_code
def yX10_judge : MethodName := ⟨RX10, "judge", "(I)I"⟩
abbrev cX10_behind : ByteArray := prog_12_method_38_code
def yX10_behind : MethodName := ⟨RX10, "behind", "(II)I"⟩
abbrev cX10_lies : ByteArray := prog_12_method_39_code
def yX10_lies : MethodName := ⟨RX10, "lies", "(II)I"⟩
abbrev cX10_hands : ByteArray := prog_12_method_40_code
def yX10_hands : MethodName := ⟨RX10, "hands", "(II)I"⟩
abbrev cX10_most : ByteArray := prog_12_method_41_code
def yX10_most : MethodName := ⟨RX10, "most", "()I"⟩
abbrev cX10_done : ByteArray := prog_12_method_42_code
def yX10_done : MethodName := ⟨RX10, "done", "()I"⟩
abbrev cX10_far : ByteArray := prog_12_method_43_code
def yX10_far : MethodName := ⟨RX10, "far", "(II)I"⟩
abbrev cX10_steps : ByteArray := prog_12_method_44_code
def yX10_steps : MethodName := ⟨RX10, "steps", "(II)I"⟩
abbrev cX10_get : ByteArray := prog_12_method_45_code
def yX10_get : MethodName := ⟨RX10, "get", "(II)I"⟩
abbrev cX10_findOff : ByteArray := prog_12_method_46_code
def yX10_findOff : MethodName := ⟨RX10, "findOff", "()V"⟩
abbrev cX10_least : ByteArray := prog_12_method_47_code
def yX10_least : MethodName := ⟨RX10, "least", "(II)I"⟩
abbrev cX10_rowBy : ByteArray := prog_12_method_48_code
def yX10_rowBy : MethodName := ⟨RX10, "rowBy", "(III)I"⟩
abbrev cX10_round : ByteArray := prog_12_method_49_code
def yX10_round : MethodName := ⟨RX10, "round", "(II)I"⟩
abbrev cX10_goesOn : ByteArray := prog_12_method_50_code
def yX10_goesOn : MethodName := ⟨RX10, "goesOn", "(II)I"⟩
abbrev cX10_walk : ByteArray := prog_12_method_51_code
def yX10_walk : MethodName := ⟨RX10, "walk", "(II)I"⟩
abbrev cX10_readSeven : ByteArray := prog_12_method_52_code
def yX10_readSeven : MethodName := ⟨RX10, "readSeven", "(I)Z"⟩
abbrev cX10_sitsBy : ByteArray := prog_12_method_53_code
def yX10_sitsBy : MethodName := ⟨RX10, "sitsBy", "()I"⟩
abbrev cX10_seat : ByteArray := prog_12_method_54_code
def yX10_seat : MethodName := ⟨RX10, "seat", "(I)V"⟩
abbrev cX10_right : ByteArray := prog_12_method_55_code
def yX10_right : MethodName := ⟨RX10, "right", "(II)I"⟩
abbrev cX10_seen : ByteArray := prog_12_method_56_code
def yX10_seen : MethodName := ⟨RX10, "seen", "(IIZ)I"⟩
abbrev cX10_clear : ByteArray := prog_12_method_57_code
def yX10_clear : MethodName := ⟨RX10, "clear", "()I"⟩
abbrev cX10_whoHas : ByteArray := prog_12_method_58_code
def yX10_whoHas : MethodName := ⟨RX10, "whoHas", "(II)I"⟩
abbrev cX10_isFit : ByteArray := prog_12_method_59_code
def yX10_isFit : MethodName := ⟨RX10, "isFit", "(I)Z"⟩
abbrev cX10_fits : ByteArray := prog_12_method_60_code
def yX10_fits : MethodName := ⟨RX10, "fits", "(I)I"⟩
abbrev cX10_countBy : ByteArray := prog_12_method_61_code
def yX10_countBy : MethodName := ⟨RX10, "countBy", "(I)V"⟩
abbrev cX10_ask : ByteArray := prog_12_method_62_code
def yX10_ask : MethodName := ⟨RX10, "ask", "(I)I"⟩
abbrev cX10_rowsBy : ByteArray := prog_12_method_63_code
def yX10_rowsBy : MethodName := ⟨RX10, "rowsBy", "(II)I"⟩
abbrev cX10_worthOf : ByteArray := prog_12_method_64_code
def yX10_worthOf : MethodName := ⟨RX10, "worthOf", "(I)I"⟩
abbrev cX10_take : ByteArray := prog_12_method_65_code
def yX10_take : MethodName := ⟨RX10, "take", "(II)I"⟩
abbrev cX10_lowest : ByteArray := prog_12_method_66_code
def yX10_lowest : MethodName := ⟨RX10, "lowest", "(JJI)J"⟩
abbrev cX10_evenings : ByteArray := prog_12_method_67_code
def yX10_evenings : MethodName := ⟨RX10, "evenings", "(IIII)J"⟩
abbrev cX10_seasonOne : ByteArray := prog_12_method_68_code
def yX10_seasonOne : MethodName := ⟨RX10, "seasonOne", "(III)V"⟩
abbrev cX10_manyLie : ByteArray := prog_12_method_69_code
def yX10_manyLie : MethodName := ⟨RX10, "manyLie", "()I"⟩
abbrev cX10_manyLost : ByteArray := prog_12_method_70_code
def yX10_manyLost : MethodName := ⟨RX10, "manyLost", "()I"⟩
abbrev cX10_season : ByteArray := prog_12_method_71_code
def yX10_season : MethodName := ⟨RX10, "season", "(III)I"⟩
abbrev cX10_pass : ByteArray := prog_12_method_72_code
def yX10_pass : MethodName := ⟨RX10, "pass", "(I)I"⟩
abbrev cX10_passRow : ByteArray := prog_12_method_73_code
def yX10_passRow : MethodName := ⟨RX10, "passRow", "([II)V"⟩
abbrev cX10_passAll : ByteArray := prog_12_method_74_code
def yX10_passAll : MethodName := ⟨RX10, "passAll", "()V"⟩
abbrev cX10_image : ByteArray := prog_12_method_75_code
def yX10_image : MethodName := ⟨RX10, "image", "(I)I"⟩
abbrev cX10_restore : ByteArray := prog_12_method_76_code
def yX10_restore : MethodName := ⟨RX10, "restore", "(I)I"⟩
abbrev cX10_ofBenches : ByteArray := prog_12_method_77_code
def yX10_ofBenches : MethodName := ⟨RX10, "ofBenches", "(I)I"⟩
abbrev cX10_ofOnes : ByteArray := prog_12_method_78_code
def yX10_ofOnes : MethodName := ⟨RX10, "ofOnes", "(I)I"⟩
abbrev cX10_ofAll : ByteArray := prog_12_method_79_code
def yX10_ofAll : MethodName := ⟨RX10, "ofAll", "(I)I"⟩
abbrev cX10_told : ByteArray := prog_12_method_80_code
def yX10_told : MethodName := ⟨RX10, "told", "(I)I"⟩
def RJ6 : String := "java/lang/Integer"
def TJ6 : u_T := fun k => match k with
  | _ => ("", "", "", false)
def tyJ6 : Nat → FieldType := fun k => match k with
  | _ => .int
abbrev cJ6_numberOfTrailingZeros_0f7a4 : ByteArray := prog_13_method_48_code
def yJ6_numberOfTrailingZeros_0f7a4 : MethodName := ⟨RJ6, "numberOfTrailingZeros", "(I)I"⟩
abbrev cJ6_bitCount_0f7a4 : ByteArray := prog_13_method_49_code
def yJ6_bitCount_0f7a4 : MethodName := ⟨RJ6, "bitCount", "(I)I"⟩
def RJ13 : String := "java/lang/Long"
def TJ13 : u_T := fun k => match k with
  | _ => ("", "", "", false)
def tyJ13 : Nat → FieldType := fun k => match k with
  | _ => .int
abbrev cJ13_numberOfTrailingZeros_95d88 : ByteArray := prog_14_method_49_code
def yJ13_numberOfTrailingZeros_95d88 : MethodName := ⟨RJ13, "numberOfTrailingZeros", "(J)I"⟩
def RJ9 : String := "java/lang/Math"
def TJ9 : u_T := fun k => match k with
  | _ => ("", "", "", false)
def tyJ9 : Nat → FieldType := fun k => match k with
  | _ => .int
abbrev cJ9_max_7cf53 : ByteArray := prog_15_method_65_code
def yJ9_max_7cf53 : MethodName := ⟨RJ9, "max", "(II)I"⟩
abbrev cJ9_max_f86c9 : ByteArray := prog_15_method_66_code
def yJ9_max_f86c9 : MethodName := ⟨RJ9, "max", "(JJ)J"⟩
abbrev cJ9_min_7cf53 : ByteArray := prog_15_method_69_code
def yJ9_min_7cf53 : MethodName := ⟨RJ9, "min", "(II)I"⟩
def RJ7 : String := "java/util/Arrays"
def TJ7 : u_T := fun k => match k with
  | _ => ("", "", "", false)
def tyJ7 : Nat → FieldType := fun k => match k with
  | _ => .int
abbrev cJ7_fill_53178 : ByteArray := prog_18_method_103_code
def yJ7_fill_53178 : MethodName := ⟨RJ7, "fill", "([II)V"⟩
def RL : String := "BenchMemoriesLaw"
abbrev cL_law : ByteArray := code
def yL_law : MethodName := ⟨RL, "law", "([I)Z"⟩
end
section
set_option maxRecDepth 100000
/-- BenchMemories$Course.<init>()V -/
def zp_0 : List (Nat × Instr × Nat) := [(0, .aload_n 0, 1), (1, .invokespecial 3, 3), (4, .aload_n 0, 1), (5, .new 9, 3), (8, .dup, 1), (9, .invokespecial 11, 3), (12, .putfield 12, 3), (15, .aload_n 0, 1), (16, .new 18, 3), (19, .dup, 1), (20, .bipush 12, 2), (22, .invokespecial 20, 3), (25, .putfield 23, 3), (28, .return_, 1)]
theorem zd_0 : ∀ q ∈ zp_0, decode cX0_init q.1 = .ok q.2 := by decide +kernel
/-- BenchMemories$Course.tryOut(LBenchMemories$Garden;LBenchMemories$Pad;)I -/
def zp_1 : List (Nat × Instr × Nat) := [(0, .aload_n 2, 1), (1, .ifnull 12, 3), (4, .aload_n 2, 1), (5, .invokevirtual 27, 3), (8, .bipush (-6), 2), (10, .if_icmp .eq 6, 3), (13, .bipush (-5), 2), (15, .ireturn, 1), (16, .aload_n 0, 1), (17, .aload_n 1, 1), (18, .invokevirtual 33, 3), (21, .iconst 0, 1), (22, .istore_n 3, 1), (23, .iconst 0, 1), (24, .istore 4, 2), (26, .iconst 0, 1), (27, .istore 5, 2), (29, .iload 5, 2), (31, .aload_n 2, 1), (32, .getfield 37, 3), (35, .if_icmp .ge 84, 3), (38, .aload_n 0, 1), (39, .getfield 41, 3), (42, .bipush (-6), 2), (44, .if_icmp .ne 75, 3), (47, .aload_n 2, 1), (48, .getfield 44, 3), (51, .iload 5, 2), (53, .invokevirtual 47, 3), (56, .istore 6, 2), (58, .iload_n 3, 1), (59, .ifCond .ne 21, 3), (62, .iload 6, 2), (64, .bipush 65, 2), (66, .isub, 1), (67, .invokestatic 51, 3), (70, .ifCond .eq 10, 3), (73, .iload 6, 2), (75, .bipush 65, 2), (77, .isub, 1), (78, .istore 4, 2), (80, .iload_n 3, 1), (81, .iload 6, 2), (83, .invokestatic 55, 3), (86, .istore 7, 2), (88, .iload 7, 2), (90, .ifCond .ne 20, 3), (93, .aload_n 0, 1), (94, .iload_n 3, 1), (95, .iload 6, 2), (97, .invokestatic 59, 3), (100, .iload 4, 2), (102, .iload 6, 2), (104, .invokestatic 62, 3), (107, .invokevirtual 65, 3), (110, .iload 7, 2), (112, .istore_n 3, 1), (113, .iinc 5 1, 3), (116, .goto (-87), 3), (119, .aload_n 0, 1), (120, .getfield 41, 3), (123, .bipush (-6), 2), (125, .if_icmp .ne 7, 3), (128, .iconst 0, 1), (129, .goto 5, 3), (132, .bipush (-3), 2), (134, .ireturn, 1)]
theorem zd_1 : ∀ q ∈ zp_1, decode cX0_tryOut q.1 = .ok q.2 := by decide +kernel
/-- BenchMemories$Course.begin(LBenchMemories$Garden;)V -/
def zp_2 : List (Nat × Instr × Nat) := [(0, .aload_n 0, 1), (1, .getfield 12, 3), (4, .aload_n 1, 1), (5, .invokevirtual 69, 3), (8, .aload_n 0, 1), (9, .getfield 23, 3), (12, .iconst 0, 1), (13, .invokevirtual 72, 3), (16, .aload_n 0, 1), (17, .iconst 0, 1), (18, .putfield 75, 3), (21, .aload_n 0, 1), (22, .iconst 0, 1), (23, .putfield 78, 3), (26, .aload_n 0, 1), (27, .bipush (-6), 2), (29, .putfield 41, 3), (32, .aload_n 0, 1), (33, .bipush (-6), 2), (35, .putfield 81, 3), (38, .return_, 1)]
theorem zd_2 : ∀ q ∈ zp_2, decode cX0_begin q.1 = .ok q.2 := by decide +kernel
/-- BenchMemories$Course.tryAct(III)V -/
def zp_3 : List (Nat × Instr × Nat) := [(0, .aload_n 0, 1), (1, .getfield 12, 3), (4, .iload_n 1, 1), (5, .iload_n 2, 1), (6, .iload_n 3, 1), (7, .invokevirtual 84, 3), (10, .istore 4, 2), (12, .iload 4, 2), (14, .ifCond .eq 18, 3), (17, .aload_n 0, 1), (18, .aload_n 0, 1), (19, .getfield 75, 3), (22, .putfield 41, 3), (25, .aload_n 0, 1), (26, .iload 4, 2), (28, .putfield 81, 3), (31, .return_, 1), (32, .aload_n 0, 1), (33, .getfield 12, 3), (36, .iload_n 1, 1), (37, .iload_n 2, 1), (38, .iload_n 3, 1), (39, .invokevirtual 88, 3), (42, .aload_n 0, 1), (43, .dup, 1), (44, .getfield 75, 3), (47, .iconst 1, 1), (48, .iadd, 1), (49, .putfield 75, 3), (52, .iload_n 1, 1), (53, .iconst 1, 1), (54, .if_icmp .ne 25, 3), (57, .aload_n 0, 1), (58, .dup, 1), (59, .getfield 78, 3), (62, .iconst 1, 1), (63, .iadd, 1), (64, .putfield 78, 3), (67, .aload_n 0, 1), (68, .aload_n 0, 1), (69, .getfield 12, 3), (72, .iload_n 2, 1), (73, .invokevirtual 91, 3), (76, .invokevirtual 94, 3), (79, .iload_n 1, 1), (80, .iconst 2, 1), (81, .if_icmp .ne 27, 3), (84, .aload_n 0, 1), (85, .aload_n 0, 1), (86, .getfield 12, 3), (89, .iload_n 2, 1), (90, .invokevirtual 91, 3), (93, .invokevirtual 94, 3), (96, .aload_n 0, 1), (97, .aload_n 0, 1), (98, .getfield 12, 3), (101, .iload_n 3, 1), (102, .invokevirtual 91, 3), (105, .invokevirtual 94, 3), (108, .return_, 1)]
theorem zd_3 : ∀ q ∈ zp_3, decode cX0_tryAct q.1 = .ok q.2 := by decide +kernel
/-- BenchMemories$Course.countHand(I)V -/
def zp_4 : List (Nat × Instr × Nat) := [(0, .aload_n 0, 1), (1, .getfield 23, 3), (4, .iload_n 1, 1), (5, .aload_n 0, 1), (6, .getfield 23, 3), (9, .iload_n 1, 1), (10, .invokevirtual 47, 3), (13, .iconst 1, 1), (14, .iadd, 1), (15, .invokevirtual 97, 3), (18, .return_, 1)]
theorem zd_4 : ∀ q ∈ zp_4, decode cX0_countHand q.1 = .ok q.2 := by decide +kernel
/-- BenchMemories$Course.mostHanded()I -/
def zp_5 : List (Nat × Instr × Nat) := [(0, .bipush (-6), 2), (2, .istore_n 1, 1), (3, .iconst 0, 1), (4, .istore_n 2, 1), (5, .iconst 0, 1), (6, .istore_n 3, 1), (7, .iload_n 3, 1), (8, .bipush 12, 2), (10, .if_icmp .ge 32, 3), (13, .aload_n 0, 1), (14, .getfield 23, 3), (17, .iload_n 3, 1), (18, .invokevirtual 47, 3), (21, .iload_n 2, 1), (22, .if_icmp .le 14, 3), (25, .iload_n 3, 1), (26, .istore_n 1, 1), (27, .aload_n 0, 1), (28, .getfield 23, 3), (31, .iload_n 3, 1), (32, .invokevirtual 47, 3), (35, .istore_n 2, 1), (36, .iinc 3 1, 3), (39, .goto (-32), 3), (42, .iload_n 1, 1), (43, .ireturn, 1)]
theorem zd_5 : ∀ q ∈ zp_5, decode cX0_mostHanded q.1 = .ok q.2 := by decide +kernel
/-- BenchMemories$Course.drift(LBenchMemories$Garden;II)V -/
def zp_6 : List (Nat × Instr × Nat) := [(0, .aload_n 0, 1), (1, .aload_n 1, 1), (2, .invokevirtual 33, 3), (5, .iload_n 2, 1), (6, .istore 4, 2), (8, .iconst 0, 1), (9, .istore 5, 2), (11, .iload 5, 2), (13, .iload_n 3, 1), (14, .if_icmp .ge 44, 3), (17, .bipush 75, 2), (19, .iload 4, 2), (21, .imul, 1), (22, .bipush 74, 2), (24, .iadd, 1), (25, .ldc 101, 2), (27, .irem, 1), (28, .istore 4, 2), (30, .aload_n 0, 1), (31, .iload 4, 2), (33, .bipush 8, 2), (35, .irem, 1), (36, .iload 4, 2), (38, .bipush 8, 2), (40, .idiv, 1), (41, .bipush 8, 2), (43, .irem, 1), (44, .iload 4, 2), (46, .bipush 64, 2), (48, .idiv, 1), (49, .invokevirtual 102, 3), (52, .iinc 5 1, 3), (55, .goto (-44), 3), (58, .return_, 1)]
theorem zd_6 : ∀ q ∈ zp_6, decode cX0_drift q.1 = .ok q.2 := by decide +kernel
/-- BenchMemories$Course.drawAct(III)V -/
def zp_7 : List (Nat × Instr × Nat) := [(0, .iload_n 2, 1), (1, .bipush 6, 2), (3, .if_icmp .ne 11, 3), (6, .iload_n 3, 1), (7, .bipush 8, 2), (9, .irem, 1), (10, .ifCond .eq 4, 3), (13, .return_, 1), (14, .iload_n 2, 1), (15, .invokestatic 105, 3), (18, .istore 4, 2), (20, .iload 4, 2), (22, .ifCond .ne 10, 3), (25, .iload_n 3, 1), (26, .bipush 10, 2), (28, .irem, 1), (29, .goto 7, 3), (32, .iload_n 3, 1), (33, .bipush 8, 2), (35, .irem, 1), (36, .istore 5, 2), (38, .aload_n 0, 1), (39, .getfield 12, 3), (42, .iload 4, 2), (44, .iload_n 1, 1), (45, .iload 5, 2), (47, .invokevirtual 84, 3), (50, .ifCond .ne 15, 3), (53, .aload_n 0, 1), (54, .getfield 12, 3), (57, .iload 4, 2), (59, .iload_n 1, 1), (60, .iload 5, 2), (62, .invokevirtual 88, 3), (65, .return_, 1)]
theorem zd_7 : ∀ q ∈ zp_7, decode cX0_drawAct q.1 = .ok q.2 := by decide +kernel
/-- BenchMemories$Course.actByLot(I)I -/
def zp_8 : List (Nat × Instr × Nat) := [(0, .iload_n 0, 1), (1, .tableswitch 43 3 7 #[35, 35, 37, 39, 41], 35), (36, .iconst 1, 1), (37, .ireturn, 1), (38, .iconst 2, 1), (39, .ireturn, 1), (40, .iconst 3, 1), (41, .ireturn, 1), (42, .iconst 5, 1), (43, .ireturn, 1), (44, .iconst 0, 1), (45, .ireturn, 1)]
theorem zd_8 : ∀ q ∈ zp_8, decode cX0_actByLot q.1 = .ok q.2 := by decide +kernel
/-- BenchMemories$Garden.<init>()V -/
def zp_9 : List (Nat × Instr × Nat) := [(0, .aload_n 0, 1), (1, .invokespecial 3, 3), (4, .aload_n 0, 1), (5, .new 9, 3), (8, .dup, 1), (9, .bipush 10, 2), (11, .invokespecial 11, 3), (14, .putfield 14, 3), (17, .aload_n 0, 1), (18, .new 9, 3), (21, .dup, 1), (22, .bipush 8, 2), (24, .invokespecial 11, 3), (27, .putfield 20, 3), (30, .aload_n 0, 1), (31, .new 9, 3), (34, .dup, 1), (35, .bipush 12, 2), (37, .invokespecial 11, 3), (40, .putfield 23, 3), (43, .aload_n 0, 1), (44, .new 9, 3), (47, .dup, 1), (48, .bipush 12, 2), (50, .invokespecial 11, 3), (53, .putfield 26, 3), (56, .aload_n 0, 1), (57, .new 9, 3), (60, .dup, 1), (61, .bipush 8, 2), (63, .invokespecial 11, 3), (66, .putfield 29, 3), (69, .iconst 0, 1), (70, .istore_n 1, 1), (71, .iload_n 1, 1), (72, .bipush 8, 2), (74, .if_icmp .ge 18, 3), (77, .aload_n 0, 1), (78, .getfield 20, 3), (81, .iload_n 1, 1), (82, .iload_n 1, 1), (83, .invokevirtual 32, 3), (86, .iinc 1 1, 3), (89, .goto (-18), 3), (92, .iconst 0, 1), (93, .istore_n 1, 1), (94, .iload_n 1, 1), (95, .bipush 12, 2), (97, .if_icmp .ge 30, 3), (100, .aload_n 0, 1), (101, .getfield 23, 3), (104, .iload_n 1, 1), (105, .iload_n 1, 1), (106, .invokestatic 36, 3), (109, .ifCond .eq 7, 3), (112, .iload_n 1, 1), (113, .goto 5, 3), (116, .bipush (-6), 2), (118, .invokevirtual 32, 3), (121, .iinc 1 1, 3), (124, .goto (-30), 3), (127, .return_, 1)]
theorem zd_9 : ∀ q ∈ zp_9, decode cX1_init q.1 = .ok q.2 := by decide +kernel
/-- BenchMemories$Garden.copyFrom(LBenchMemories$Garden;)V -/
def zp_10 : List (Nat × Instr × Nat) := [(0, .aload_n 1, 1), (1, .ifnonnull 4, 3), (4, .return_, 1), (5, .aload_n 0, 1), (6, .getfield 14, 3), (9, .aload_n 1, 1), (10, .getfield 14, 3), (13, .invokevirtual 40, 3), (16, .aload_n 0, 1), (17, .getfield 20, 3), (20, .aload_n 1, 1), (21, .getfield 20, 3), (24, .invokevirtual 40, 3), (27, .aload_n 0, 1), (28, .getfield 23, 3), (31, .aload_n 1, 1), (32, .getfield 23, 3), (35, .invokevirtual 40, 3), (38, .aload_n 0, 1), (39, .getfield 26, 3), (42, .aload_n 1, 1), (43, .getfield 26, 3), (46, .invokevirtual 40, 3), (49, .aload_n 0, 1), (50, .getfield 29, 3), (53, .aload_n 1, 1), (54, .getfield 29, 3), (57, .invokevirtual 40, 3), (60, .aload_n 0, 1), (61, .aload_n 1, 1), (62, .getfield 44, 3), (65, .putfield 44, 3), (68, .aload_n 0, 1), (69, .aload_n 1, 1), (70, .getfield 48, 3), (73, .putfield 48, 3), (76, .aload_n 0, 1), (77, .aload_n 1, 1), (78, .getfield 51, 3), (81, .putfield 51, 3), (84, .return_, 1)]
theorem zd_10 : ∀ q ∈ zp_10, decode cX1_copyFrom q.1 = .ok q.2 := by decide +kernel
/-- BenchMemories$Garden.waysFrom(I)I -/
def zp_11 : List (Nat × Instr × Nat) := [(0, .aload_n 0, 1), (1, .getfield 14, 3), (4, .iload_n 1, 1), (5, .invokevirtual 54, 3), (8, .ireturn, 1)]
theorem zd_11 : ∀ q ∈ zp_11, decode cX1_waysFrom q.1 = .ok q.2 := by decide +kernel
/-- BenchMemories$Garden.setWay(IIZ)V -/
def zp_12 : List (Nat × Instr × Nat) := [(0, .aload_n 0, 1), (1, .getfield 14, 3), (4, .iload_n 1, 1), (5, .invokevirtual 54, 3), (8, .iconst 1, 1), (9, .iload_n 2, 1), (10, .ishl, 1), (11, .iconst (-1), 1), (12, .ixor, 1), (13, .iand, 1), (14, .istore 4, 2), (16, .aload_n 0, 1), (17, .getfield 14, 3), (20, .iload_n 2, 1), (21, .invokevirtual 54, 3), (24, .iconst 1, 1), (25, .iload_n 1, 1), (26, .ishl, 1), (27, .iconst (-1), 1), (28, .ixor, 1), (29, .iand, 1), (30, .istore 5, 2), (32, .aload_n 0, 1), (33, .getfield 14, 3), (36, .iload_n 1, 1), (37, .iload_n 3, 1), (38, .ifCond .eq 12, 3), (41, .iload 4, 2), (43, .iconst 1, 1), (44, .iload_n 2, 1), (45, .ishl, 1), (46, .ior, 1), (47, .goto 5, 3), (50, .iload 4, 2), (52, .invokevirtual 32, 3), (55, .aload_n 0, 1), (56, .getfield 14, 3), (59, .iload_n 2, 1), (60, .iload_n 3, 1), (61, .ifCond .eq 12, 3), (64, .iload 5, 2), (66, .iconst 1, 1), (67, .iload_n 1, 1), (68, .ishl, 1), (69, .ior, 1), (70, .goto 5, 3), (73, .iload 5, 2), (75, .invokevirtual 32, 3), (78, .return_, 1)]
theorem zd_12 : ∀ q ∈ zp_12, decode cX1_setWay q.1 = .ok q.2 := by decide +kernel
/-- BenchMemories$Garden.countWays()I -/
def zp_13 : List (Nat × Instr × Nat) := [(0, .iconst 0, 1), (1, .istore_n 1, 1), (2, .iconst 0, 1), (3, .istore_n 2, 1), (4, .iload_n 2, 1), (5, .bipush 10, 2), (7, .if_icmp .ge 23, 3), (10, .iload_n 1, 1), (11, .aload_n 0, 1), (12, .getfield 14, 3), (15, .iload_n 2, 1), (16, .invokevirtual 54, 3), (19, .invokestatic 58, 3), (22, .iadd, 1), (23, .istore_n 1, 1), (24, .iinc 2 1, 3), (27, .goto (-23), 3), (30, .iload_n 1, 1), (31, .iconst 2, 1), (32, .idiv, 1), (33, .ireturn, 1)]
theorem zd_13 : ∀ q ∈ zp_13, decode cX1_countWays q.1 = .ok q.2 := by decide +kernel
/-- BenchMemories$Garden.neighboursOf(I)I -/
def zp_14 : List (Nat × Instr × Nat) := [(0, .iconst 0, 1), (1, .istore_n 2, 1), (2, .iconst 0, 1), (3, .istore_n 3, 1), (4, .iload_n 3, 1), (5, .bipush 10, 2), (7, .if_icmp .ge 28, 3), (10, .iload_n 1, 1), (11, .iload_n 3, 1), (12, .invokestatic 63, 3), (15, .ifCond .eq 14, 3), (18, .iload_n 2, 1), (19, .aload_n 0, 1), (20, .getfield 14, 3), (23, .iload_n 3, 1), (24, .invokevirtual 54, 3), (27, .ior, 1), (28, .istore_n 2, 1), (29, .iinc 3 1, 3), (32, .goto (-28), 3), (35, .iload_n 2, 1), (36, .ireturn, 1)]
theorem zd_14 : ∀ q ∈ zp_14, decode cX1_neighboursOf q.1 = .ok q.2 := by decide +kernel
/-- BenchMemories$Garden.stepsBetween(II)I -/
def zp_15 : List (Nat × Instr × Nat) := [(0, .iconst 1, 1), (1, .iload_n 1, 1), (2, .ishl, 1), (3, .istore_n 3, 1), (4, .iconst 0, 1), (5, .istore 4, 2), (7, .iload 4, 2), (9, .bipush 10, 2), (11, .if_icmp .ge 28, 3), (14, .iload_n 3, 1), (15, .iload_n 2, 1), (16, .invokestatic 63, 3), (19, .ifCond .eq 6, 3), (22, .iload 4, 2), (24, .ireturn, 1), (25, .iload_n 3, 1), (26, .aload_n 0, 1), (27, .iload_n 3, 1), (28, .invokevirtual 67, 3), (31, .ior, 1), (32, .istore_n 3, 1), (33, .iinc 4 1, 3), (36, .goto (-29), 3), (39, .bipush (-6), 2), (41, .ireturn, 1)]
theorem zd_15 : ∀ q ∈ zp_15, decode cX1_stepsBetween q.1 = .ok q.2 := by decide +kernel
/-- BenchMemories$Garden.reachableFrom(I)I -/
def zp_16 : List (Nat × Instr × Nat) := [(0, .iconst 1, 1), (1, .iload_n 1, 1), (2, .ishl, 1), (3, .istore_n 2, 1), (4, .iconst 1, 1), (5, .istore_n 3, 1), (6, .iload_n 3, 1), (7, .bipush 10, 2), (9, .if_icmp .ge 17, 3), (12, .iload_n 2, 1), (13, .aload_n 0, 1), (14, .iload_n 2, 1), (15, .invokevirtual 67, 3), (18, .ior, 1), (19, .istore_n 2, 1), (20, .iinc 3 1, 3), (23, .goto (-17), 3), (26, .iload_n 2, 1), (27, .ireturn, 1)]
theorem zd_16 : ∀ q ∈ zp_16, decode cX1_reachableFrom q.1 = .ok q.2 := by decide +kernel
/-- BenchMemories$Garden.hasCushion(I)Z -/
def zp_17 : List (Nat × Instr × Nat) := [(0, .aload_n 0, 1), (1, .getfield 48, 3), (4, .iload_n 1, 1), (5, .invokestatic 63, 3), (8, .ireturn, 1)]
theorem zd_17 : ∀ q ∈ zp_17, decode cX1_hasCushion q.1 = .ok q.2 := by decide +kernel
/-- BenchMemories$Garden.benchOf(I)I -/
def zp_18 : List (Nat × Instr × Nat) := [(0, .aload_n 0, 1), (1, .getfield 20, 3), (4, .iload_n 1, 1), (5, .invokevirtual 54, 3), (8, .ireturn, 1)]
theorem zd_18 : ∀ q ∈ zp_18, decode cX1_benchOf q.1 = .ok q.2 := by decide +kernel
/-- BenchMemories$Garden.placeOf(I)I -/
def zp_19 : List (Nat × Instr × Nat) := [(0, .aload_n 0, 1), (1, .getfield 23, 3), (4, .iload_n 1, 1), (5, .invokevirtual 54, 3), (8, .ireturn, 1)]
theorem zd_19 : ∀ q ∈ zp_19, decode cX1_placeOf q.1 = .ok q.2 := by decide +kernel
/-- BenchMemories$Garden.heldBy(I)I -/
def zp_20 : List (Nat × Instr × Nat) := [(0, .aload_n 0, 1), (1, .iload_n 1, 1), (2, .invokevirtual 70, 3), (5, .ireturn, 1)]
theorem zd_20 : ∀ q ∈ zp_20, decode cX1_heldBy q.1 = .ok q.2 := by decide +kernel
/-- BenchMemories$Garden.lyingOn(I)I -/
def zp_21 : List (Nat × Instr × Nat) := [(0, .aload_n 0, 1), (1, .bipush 10, 2), (3, .iload_n 1, 1), (4, .iadd, 1), (5, .invokevirtual 70, 3), (8, .ireturn, 1)]
theorem zd_21 : ∀ q ∈ zp_21, decode cX1_lyingOn q.1 = .ok q.2 := by decide +kernel
/-- BenchMemories$Garden.memoryAt(I)I -/
def zp_22 : List (Nat × Instr × Nat) := [(0, .iconst 0, 1), (1, .istore_n 2, 1), (2, .iload_n 2, 1), (3, .bipush 12, 2), (5, .if_icmp .ge 23, 3), (8, .aload_n 0, 1), (9, .getfield 23, 3), (12, .iload_n 2, 1), (13, .invokevirtual 54, 3), (16, .iload_n 1, 1), (17, .if_icmp .ne 5, 3), (20, .iload_n 2, 1), (21, .ireturn, 1), (22, .iinc 2 1, 3), (25, .goto (-23), 3), (28, .bipush (-6), 2), (30, .ireturn, 1)]
theorem zd_22 : ∀ q ∈ zp_22, decode cX1_memoryAt q.1 = .ok q.2 := by decide +kernel
/-- BenchMemories$Garden.freshOn(I)I -/
def zp_23 : List (Nat × Instr × Nat) := [(0, .aload_n 0, 1), (1, .iload_n 1, 1), (2, .invokevirtual 73, 3), (5, .istore_n 2, 1), (6, .iload_n 2, 1), (7, .bipush (-6), 2), (9, .if_icmp .ne 8, 3), (12, .bipush (-6), 2), (14, .goto 11, 3), (17, .aload_n 0, 1), (18, .getfield 26, 3), (21, .iload_n 2, 1), (22, .invokevirtual 54, 3), (25, .ireturn, 1)]
theorem zd_23 : ∀ q ∈ zp_23, decode cX1_freshOn q.1 = .ok q.2 := by decide +kernel
/-- BenchMemories$Garden.standAt(II)V -/
def zp_24 : List (Nat × Instr × Nat) := [(0, .aload_n 0, 1), (1, .getfield 20, 3), (4, .iload_n 1, 1), (5, .iload_n 2, 1), (6, .invokevirtual 32, 3), (9, .return_, 1)]
theorem zd_24 : ∀ q ∈ zp_24, decode cX1_standAt q.1 = .ok q.2 := by decide +kernel
/-- BenchMemories$Garden.putWith(II)V -/
def zp_25 : List (Nat × Instr × Nat) := [(0, .aload_n 0, 1), (1, .getfield 23, 3), (4, .iload_n 1, 1), (5, .iload_n 2, 1), (6, .invokevirtual 32, 3), (9, .return_, 1)]
theorem zd_25 : ∀ q ∈ zp_25, decode cX1_putWith q.1 = .ok q.2 := by decide +kernel
/-- BenchMemories$Garden.makeNowhere(I)V -/
def zp_26 : List (Nat × Instr × Nat) := [(0, .aload_n 0, 1), (1, .getfield 23, 3), (4, .iload_n 1, 1), (5, .bipush (-6), 2), (7, .invokevirtual 32, 3), (10, .return_, 1)]
theorem zd_26 : ∀ q ∈ zp_26, decode cX1_makeNowhere q.1 = .ok q.2 := by decide +kernel
/-- BenchMemories$Garden.putOn(III)V -/
def zp_27 : List (Nat × Instr × Nat) := [(0, .aload_n 0, 1), (1, .getfield 23, 3), (4, .iload_n 1, 1), (5, .bipush 10, 2), (7, .iload_n 2, 1), (8, .iadd, 1), (9, .invokevirtual 32, 3), (12, .aload_n 0, 1), (13, .getfield 26, 3), (16, .iload_n 1, 1), (17, .iload_n 3, 1), (18, .invokevirtual 32, 3), (21, .return_, 1)]
theorem zd_27 : ∀ q ∈ zp_27, decode cX1_putOn q.1 = .ok q.2 := by decide +kernel
/-- BenchMemories$Garden.countNowhere()I -/
def zp_28 : List (Nat × Instr × Nat) := [(0, .iconst 0, 1), (1, .istore_n 1, 1), (2, .iconst 0, 1), (3, .istore_n 2, 1), (4, .iload_n 2, 1), (5, .bipush 12, 2), (7, .if_icmp .ge 30, 3), (10, .iload_n 1, 1), (11, .aload_n 0, 1), (12, .getfield 23, 3), (15, .iload_n 2, 1), (16, .invokevirtual 54, 3), (19, .bipush (-6), 2), (21, .if_icmp .ne 7, 3), (24, .iconst 1, 1), (25, .goto 4, 3), (28, .iconst 0, 1), (29, .iadd, 1), (30, .istore_n 1, 1), (31, .iinc 2 1, 3), (34, .goto (-30), 3), (37, .iload_n 1, 1), (38, .ireturn, 1)]
theorem zd_28 : ∀ q ∈ zp_28, decode cX1_countNowhere q.1 = .ok q.2 := by decide +kernel
/-- BenchMemories$Garden.countOnBenches()I -/
def zp_29 : List (Nat × Instr × Nat) := [(0, .iconst 0, 1), (1, .istore_n 1, 1), (2, .iconst 0, 1), (3, .istore_n 2, 1), (4, .iload_n 2, 1), (5, .bipush 12, 2), (7, .if_icmp .ge 30, 3), (10, .iload_n 1, 1), (11, .aload_n 0, 1), (12, .getfield 23, 3), (15, .iload_n 2, 1), (16, .invokevirtual 54, 3), (19, .bipush 10, 2), (21, .if_icmp .lt 7, 3), (24, .iconst 1, 1), (25, .goto 4, 3), (28, .iconst 0, 1), (29, .iadd, 1), (30, .istore_n 1, 1), (31, .iinc 2 1, 3), (34, .goto (-30), 3), (37, .iload_n 1, 1), (38, .ireturn, 1)]
theorem zd_29 : ∀ q ∈ zp_29, decode cX1_countOnBenches q.1 = .ok q.2 := by decide +kernel
/-- BenchMemories$Garden.whyNot(III)I -/
def zp_30 : List (Nat × Instr × Nat) := [(0, .iload_n 1, 1), (1, .tableswitch 108 0 5 #[39, 64, 70, 77, 108, 93], 39), (40, .aload_n 0, 1), (41, .getfield 14, 3), (44, .aload_n 0, 1), (45, .iload_n 2, 1), (46, .invokevirtual 76, 3), (49, .invokevirtual 54, 3), (52, .iload_n 3, 1), (53, .invokestatic 63, 3), (56, .ifCond .eq 7, 3), (59, .iconst 0, 1), (60, .goto 4, 3), (63, .iconst 1, 1), (64, .ireturn, 1), (65, .aload_n 0, 1), (66, .iload_n 2, 1), (67, .invokevirtual 79, 3), (70, .ireturn, 1), (71, .aload_n 0, 1), (72, .iload_n 2, 1), (73, .iload_n 3, 1), (74, .invokevirtual 82, 3), (77, .ireturn, 1), (78, .aload_n 0, 1), (79, .iload_n 2, 1), (80, .invokevirtual 70, 3), (83, .bipush (-6), 2), (85, .if_icmp .ne 7, 3), (88, .iconst 3, 1), (89, .goto 4, 3), (92, .iconst 0, 1), (93, .ireturn, 1), (94, .aload_n 0, 1), (95, .getfield 51, 3), (98, .bipush 99, 2), (100, .if_icmp .lt 7, 3), (103, .iconst 5, 1), (104, .goto 4, 3), (107, .iconst 0, 1), (108, .ireturn, 1), (109, .iconst 0, 1), (110, .ireturn, 1)]
theorem zd_30 : ∀ q ∈ zp_30, decode cX1_whyNot q.1 = .ok q.2 := by decide +kernel
/-- BenchMemories$Garden.whyNotSit(I)I -/
def zp_31 : List (Nat × Instr × Nat) := [(0, .aload_n 0, 1), (1, .iload_n 1, 1), (2, .invokevirtual 76, 3), (5, .istore_n 2, 1), (6, .aload_n 0, 1), (7, .iload_n 2, 1), (8, .invokevirtual 86, 3), (11, .ifCond .eq 5, 3), (14, .iconst 2, 1), (15, .ireturn, 1), (16, .aload_n 0, 1), (17, .iload_n 1, 1), (18, .invokevirtual 70, 3), (21, .bipush (-6), 2), (23, .if_icmp .ne 20, 3), (26, .aload_n 0, 1), (27, .bipush 10, 2), (29, .iload_n 2, 1), (30, .iadd, 1), (31, .invokevirtual 70, 3), (34, .bipush (-6), 2), (36, .if_icmp .ne 7, 3), (39, .iconst 3, 1), (40, .goto 4, 3), (43, .iconst 0, 1), (44, .ireturn, 1)]
theorem zd_31 : ∀ q ∈ zp_31, decode cX1_whyNotSit q.1 = .ok q.2 := by decide +kernel
/-- BenchMemories$Garden.whyNotChange(II)I -/
def zp_32 : List (Nat × Instr × Nat) := [(0, .aload_n 0, 1), (1, .iload_n 1, 1), (2, .invokevirtual 70, 3), (5, .bipush (-6), 2), (7, .if_icmp .ne 15, 3), (10, .aload_n 0, 1), (11, .iload_n 2, 1), (12, .invokevirtual 70, 3), (15, .bipush (-6), 2), (17, .if_icmp .ne 5, 3), (20, .iconst 3, 1), (21, .ireturn, 1), (22, .iload_n 1, 1), (23, .iload_n 2, 1), (24, .if_icmp .eq 16, 3), (27, .aload_n 0, 1), (28, .iload_n 1, 1), (29, .invokevirtual 76, 3), (32, .aload_n 0, 1), (33, .iload_n 2, 1), (34, .invokevirtual 76, 3), (37, .if_icmp .eq 7, 3), (40, .iconst 4, 1), (41, .goto 4, 3), (44, .iconst 0, 1), (45, .ireturn, 1)]
theorem zd_32 : ∀ q ∈ zp_32, decode cX1_whyNotChange q.1 = .ok q.2 := by decide +kernel
/-- BenchMemories$Garden.carryOut(III)V -/
def zp_33 : List (Nat × Instr × Nat) := [(0, .iload_n 1, 1), (1, .tableswitch 99 0 5 #[39, 48, 56, 65, 77, 92], 39), (40, .aload_n 0, 1), (41, .iload_n 2, 1), (42, .iload_n 3, 1), (43, .invokevirtual 89, 3), (46, .goto 54, 3), (49, .aload_n 0, 1), (50, .iload_n 2, 1), (51, .invokevirtual 92, 3), (54, .goto 46, 3), (57, .aload_n 0, 1), (58, .iload_n 2, 1), (59, .iload_n 3, 1), (60, .invokevirtual 95, 3), (63, .goto 37, 3), (66, .aload_n 0, 1), (67, .aload_n 0, 1), (68, .iload_n 2, 1), (69, .invokevirtual 70, 3), (72, .invokevirtual 98, 3), (75, .goto 25, 3), (78, .aload_n 0, 1), (79, .dup, 1), (80, .getfield 48, 3), (83, .iconst 1, 1), (84, .iload_n 3, 1), (85, .ishl, 1), (86, .ixor, 1), (87, .putfield 48, 3), (90, .goto 10, 3), (93, .aload_n 0, 1), (94, .invokevirtual 101, 3), (97, .goto 3, 3), (100, .return_, 1)]
theorem zd_33 : ∀ q ∈ zp_33, decode cX1_carryOut q.1 = .ok q.2 := by decide +kernel
/-- BenchMemories$Garden.sitDown(I)V -/
def zp_34 : List (Nat × Instr × Nat) := [(0, .aload_n 0, 1), (1, .iload_n 1, 1), (2, .invokevirtual 76, 3), (5, .istore_n 2, 1), (6, .aload_n 0, 1), (7, .iload_n 1, 1), (8, .invokevirtual 70, 3), (11, .istore_n 3, 1), (12, .aload_n 0, 1), (13, .bipush 10, 2), (15, .iload_n 2, 1), (16, .iadd, 1), (17, .invokevirtual 70, 3), (20, .istore 4, 2), (22, .iload_n 3, 1), (23, .bipush (-6), 2), (25, .if_icmp .eq 11, 3), (28, .aload_n 0, 1), (29, .iload_n 3, 1), (30, .iload_n 2, 1), (31, .bipush 9, 2), (33, .invokevirtual 104, 3), (36, .iload 4, 2), (38, .bipush (-6), 2), (40, .if_icmp .eq 10, 3), (43, .aload_n 0, 1), (44, .iload 4, 2), (46, .iload_n 1, 1), (47, .invokevirtual 108, 3), (50, .return_, 1)]
theorem zd_34 : ∀ q ∈ zp_34, decode cX1_sitDown q.1 = .ok q.2 := by decide +kernel
/-- BenchMemories$Garden.swap(II)V -/
def zp_35 : List (Nat × Instr × Nat) := [(0, .aload_n 0, 1), (1, .iload_n 1, 1), (2, .invokevirtual 70, 3), (5, .istore_n 3, 1), (6, .aload_n 0, 1), (7, .iload_n 2, 1), (8, .invokevirtual 70, 3), (11, .istore 4, 2), (13, .iload_n 3, 1), (14, .bipush (-6), 2), (16, .if_icmp .eq 9, 3), (19, .aload_n 0, 1), (20, .iload_n 3, 1), (21, .iload_n 2, 1), (22, .invokevirtual 108, 3), (25, .iload 4, 2), (27, .bipush (-6), 2), (29, .if_icmp .eq 10, 3), (32, .aload_n 0, 1), (33, .iload 4, 2), (35, .iload_n 1, 1), (36, .invokevirtual 108, 3), (39, .return_, 1)]
theorem zd_35 : ∀ q ∈ zp_35, decode cX1_swap q.1 = .ok q.2 := by decide +kernel
/-- BenchMemories$Garden.endDay()V -/
def zp_36 : List (Nat × Instr × Nat) := [(0, .aload_n 0, 1), (1, .dup, 1), (2, .getfield 51, 3), (5, .iconst 1, 1), (6, .iadd, 1), (7, .putfield 51, 3), (10, .iconst 0, 1), (11, .istore_n 1, 1), (12, .iload_n 1, 1), (13, .bipush 12, 2), (15, .if_icmp .ge 67, 3), (18, .aload_n 0, 1), (19, .getfield 23, 3), (22, .iload_n 1, 1), (23, .invokevirtual 54, 3), (26, .bipush 10, 2), (28, .if_icmp .lt 48, 3), (31, .aload_n 0, 1), (32, .getfield 26, 3), (35, .iload_n 1, 1), (36, .invokevirtual 54, 3), (39, .iconst 1, 1), (40, .isub, 1), (41, .istore_n 2, 1), (42, .aload_n 0, 1), (43, .getfield 26, 3), (46, .iload_n 1, 1), (47, .iload_n 2, 1), (48, .invokevirtual 32, 3), (51, .aload_n 0, 1), (52, .getfield 23, 3), (55, .iload_n 1, 1), (56, .iload_n 2, 1), (57, .ifCond .le 14, 3), (60, .aload_n 0, 1), (61, .getfield 23, 3), (64, .iload_n 1, 1), (65, .invokevirtual 54, 3), (68, .goto 5, 3), (71, .bipush (-6), 2), (73, .invokevirtual 32, 3), (76, .iinc 1 1, 3), (79, .goto (-67), 3), (82, .return_, 1)]
theorem zd_36 : ∀ q ∈ zp_36, decode cX1_endDay q.1 = .ok q.2 := by decide +kernel
/-- BenchMemories$Garden.addSight(IIZ)V -/
def zp_37 : List (Nat × Instr × Nat) := [(0, .aload_n 0, 1), (1, .getfield 29, 3), (4, .aload_n 0, 1), (5, .getfield 44, 3), (8, .iload_n 1, 1), (9, .bipush 8, 2), (11, .imul, 1), (12, .iload_n 2, 1), (13, .iadd, 1), (14, .iconst 2, 1), (15, .imul, 1), (16, .iload_n 3, 1), (17, .ifCond .eq 7, 3), (20, .iconst 1, 1), (21, .goto 4, 3), (24, .iconst 0, 1), (25, .iadd, 1), (26, .invokevirtual 32, 3), (29, .aload_n 0, 1), (30, .dup, 1), (31, .getfield 44, 3), (34, .iconst 1, 1), (35, .iadd, 1), (36, .putfield 44, 3), (39, .return_, 1)]
theorem zd_37 : ∀ q ∈ zp_37, decode cX1_addSight q.1 = .ok q.2 := by decide +kernel
/-- BenchMemories$Garden.dropSights()V -/
def zp_38 : List (Nat × Instr × Nat) := [(0, .aload_n 0, 1), (1, .iconst 0, 1), (2, .putfield 44, 3), (5, .return_, 1)]
theorem zd_38 : ∀ q ∈ zp_38, decode cX1_dropSights q.1 = .ok q.2 := by decide +kernel
/-- BenchMemories$Garden.allSeenSo(II)Z -/
def zp_39 : List (Nat × Instr × Nat) := [(0, .iconst 0, 1), (1, .istore_n 3, 1), (2, .iload_n 3, 1), (3, .aload_n 0, 1), (4, .getfield 44, 3), (7, .if_icmp .ge 76, 3), (10, .aload_n 0, 1), (11, .getfield 29, 3), (14, .iload_n 3, 1), (15, .invokevirtual 54, 3), (18, .istore 4, 2), (20, .iload 4, 2), (22, .iconst 2, 1), (23, .idiv, 1), (24, .bipush 8, 2), (26, .irem, 1), (27, .istore 5, 2), (29, .iload 4, 2), (31, .iconst 2, 1), (32, .irem, 1), (33, .iconst 1, 1), (34, .if_icmp .ne 7, 3), (37, .iconst 1, 1), (38, .goto 4, 3), (41, .iconst 0, 1), (42, .istore 6, 2), (44, .iload_n 1, 1), (45, .iload_n 2, 1), (46, .iload 4, 2), (48, .iconst 2, 1), (49, .idiv, 1), (50, .bipush 8, 2), (52, .idiv, 1), (53, .invokestatic 111, 3), (56, .istore 7, 2), (58, .iload 6, 2), (60, .iload 7, 2), (62, .iload 5, 2), (64, .if_icmp .ne 7, 3), (67, .iconst 1, 1), (68, .goto 4, 3), (71, .iconst 0, 1), (72, .if_icmp .eq 5, 3), (75, .iconst 0, 1), (76, .ireturn, 1), (77, .iinc 3 1, 3), (80, .goto (-78), 3), (83, .iconst 1, 1), (84, .ireturn, 1)]
theorem zd_39 : ∀ q ∈ zp_39, decode cX1_allSeenSo q.1 = .ok q.2 := by decide +kernel
/-- BenchMemories$Order.<init>()V -/
def zp_40 : List (Nat × Instr × Nat) := [(0, .aload_n 0, 1), (1, .invokespecial 3, 3), (4, .aload_n 0, 1), (5, .new 9, 3), (8, .dup, 1), (9, .bipush 7, 2), (11, .invokespecial 13, 3), (14, .putfield 16, 3), (17, .return_, 1)]
theorem zd_40 : ∀ q ∈ zp_40, decode cX2_init q.1 = .ok q.2 := by decide +kernel
/-- BenchMemories$Order.read(I)Z -/
def zp_41 : List (Nat × Instr × Nat) := [(0, .iload_n 1, 1), (1, .ifCond .ge 5, 3), (4, .iconst 0, 1), (5, .ireturn, 1), (6, .iload_n 1, 1), (7, .istore_n 2, 1), (8, .iconst 0, 1), (9, .istore_n 3, 1), (10, .bipush 6, 2), (12, .istore 4, 2), (14, .iload 4, 2), (16, .ifCond .lt 36, 3), (19, .aload_n 0, 1), (20, .getfield 16, 3), (23, .iload 4, 2), (25, .iload_n 2, 1), (26, .bipush 10, 2), (28, .irem, 1), (29, .invokevirtual 20, 3), (32, .iload_n 3, 1), (33, .iconst 1, 1), (34, .iload_n 2, 1), (35, .bipush 10, 2), (37, .irem, 1), (38, .ishl, 1), (39, .ior, 1), (40, .istore_n 3, 1), (41, .iload_n 2, 1), (42, .bipush 10, 2), (44, .idiv, 1), (45, .istore_n 2, 1), (46, .iinc 4 (-1), 3), (49, .goto (-35), 3), (52, .iload_n 2, 1), (53, .ifCond .ne 13, 3), (56, .iload_n 3, 1), (57, .bipush 127, 2), (59, .if_icmp .ne 7, 3), (62, .iconst 1, 1), (63, .goto 4, 3), (66, .iconst 0, 1), (67, .ireturn, 1)]
theorem zd_41 : ∀ q ∈ zp_41, decode cX2_read q.1 = .ok q.2 := by decide +kernel
/-- BenchMemories$Order.sittingsLeft()I -/
def zp_42 : List (Nat × Instr × Nat) := [(0, .iconst 0, 1), (1, .istore_n 1, 1), (2, .iconst 0, 1), (3, .istore_n 2, 1), (4, .iconst 0, 1), (5, .istore_n 3, 1), (6, .iload_n 3, 1), (7, .bipush 7, 2), (9, .if_icmp .ge 85, 3), (12, .iconst 0, 1), (13, .istore 4, 2), (15, .iload_n 3, 1), (16, .istore 5, 2), (18, .iconst 0, 1), (19, .istore 6, 2), (21, .iload 6, 2), (23, .bipush 7, 2), (25, .if_icmp .ge 39, 3), (28, .iload_n 2, 1), (29, .iload 5, 2), (31, .invokestatic 24, 3), (34, .ifCond .ne 30, 3), (37, .iload_n 2, 1), (38, .iconst 1, 1), (39, .iload 5, 2), (41, .ishl, 1), (42, .ior, 1), (43, .istore_n 2, 1), (44, .aload_n 0, 1), (45, .getfield 16, 3), (48, .iload 5, 2), (50, .invokevirtual 28, 3), (53, .istore 5, 2), (55, .iinc 4 1, 3), (58, .iinc 6 1, 3), (61, .goto (-40), 3), (64, .iload 4, 2), (66, .iconst 1, 1), (67, .if_icmp .le 21, 3), (70, .iload_n 1, 1), (71, .iload_n 3, 1), (72, .ifCond .ne 10, 3), (75, .iload 4, 2), (77, .iconst 1, 1), (78, .isub, 1), (79, .goto 7, 3), (82, .iload 4, 2), (84, .iconst 1, 1), (85, .iadd, 1), (86, .iadd, 1), (87, .istore_n 1, 1), (88, .iinc 3 1, 3), (91, .goto (-85), 3), (94, .iload_n 1, 1), (95, .ireturn, 1)]
theorem zd_42 : ∀ q ∈ zp_42, decode cX2_sittingsLeft q.1 = .ok q.2 := by decide +kernel
/-- BenchMemories$Order.firstSitting()I -/
def zp_43 : List (Nat × Instr × Nat) := [(0, .aload_n 0, 1), (1, .invokevirtual 32, 3), (4, .istore_n 1, 1), (5, .iconst 1, 1), (6, .istore_n 2, 1), (7, .iload_n 2, 1), (8, .bipush 7, 2), (10, .if_icmp .ge 31, 3), (13, .aload_n 0, 1), (14, .iload_n 2, 1), (15, .invokevirtual 36, 3), (18, .aload_n 0, 1), (19, .invokevirtual 32, 3), (22, .istore_n 3, 1), (23, .aload_n 0, 1), (24, .iload_n 2, 1), (25, .invokevirtual 36, 3), (28, .iload_n 3, 1), (29, .iload_n 1, 1), (30, .if_icmp .ge 5, 3), (33, .iload_n 2, 1), (34, .ireturn, 1), (35, .iinc 2 1, 3), (38, .goto (-31), 3), (41, .bipush (-6), 2), (43, .ireturn, 1)]
theorem zd_43 : ∀ q ∈ zp_43, decode cX2_firstSitting q.1 = .ok q.2 := by decide +kernel
/-- BenchMemories$Order.swapWith(I)V -/
def zp_44 : List (Nat × Instr × Nat) := [(0, .aload_n 0, 1), (1, .getfield 16, 3), (4, .iconst 0, 1), (5, .invokevirtual 28, 3), (8, .istore_n 2, 1), (9, .aload_n 0, 1), (10, .getfield 16, 3), (13, .iconst 0, 1), (14, .aload_n 0, 1), (15, .getfield 16, 3), (18, .iload_n 1, 1), (19, .invokevirtual 28, 3), (22, .invokevirtual 20, 3), (25, .aload_n 0, 1), (26, .getfield 16, 3), (29, .iload_n 1, 1), (30, .iload_n 2, 1), (31, .invokevirtual 20, 3), (34, .return_, 1)]
theorem zd_44 : ∀ q ∈ zp_44, decode cX2_swapWith q.1 = .ok q.2 := by decide +kernel
/-- BenchMemories$Pad.<init>()V -/
def zp_45 : List (Nat × Instr × Nat) := [(0, .aload_n 0, 1), (1, .invokespecial 3, 3), (4, .aload_n 0, 1), (5, .new 9, 3), (8, .dup, 1), (9, .bipush 60, 2), (11, .invokespecial 11, 3), (14, .putfield 14, 3), (17, .return_, 1)]
theorem zd_45 : ∀ q ∈ zp_45, decode cX3_init q.1 = .ok q.2 := by decide +kernel
/-- BenchMemories$Pad.append(I)V -/
def zp_46 : List (Nat × Instr × Nat) := [(0, .aload_n 0, 1), (1, .getfield 14, 3), (4, .aload_n 0, 1), (5, .getfield 20, 3), (8, .iload_n 1, 1), (9, .invokevirtual 24, 3), (12, .aload_n 0, 1), (13, .dup, 1), (14, .getfield 20, 3), (17, .iconst 1, 1), (18, .iadd, 1), (19, .putfield 20, 3), (22, .return_, 1)]
theorem zd_46 : ∀ q ∈ zp_46, decode cX3_append q.1 = .ok q.2 := by decide +kernel
/-- BenchMemories$Pad.empty()V -/
def zp_47 : List (Nat × Instr × Nat) := [(0, .aload_n 0, 1), (1, .iconst 0, 1), (2, .putfield 20, 3), (5, .return_, 1)]
theorem zd_47 : ∀ q ∈ zp_47, decode cX3_empty q.1 = .ok q.2 := by decide +kernel
/-- BenchMemories$Pad.firstFault()I -/
def zp_48 : List (Nat × Instr × Nat) := [(0, .iconst 0, 1), (1, .istore_n 1, 1), (2, .iconst 0, 1), (3, .istore_n 2, 1), (4, .iload_n 2, 1), (5, .aload_n 0, 1), (6, .getfield 20, 3), (9, .if_icmp .ge 30, 3), (12, .iload_n 1, 1), (13, .aload_n 0, 1), (14, .getfield 14, 3), (17, .iload_n 2, 1), (18, .invokevirtual 28, 3), (21, .invokestatic 32, 3), (24, .istore_n 1, 1), (25, .iload_n 1, 1), (26, .bipush (-6), 2), (28, .if_icmp .ne 5, 3), (31, .iload_n 2, 1), (32, .ireturn, 1), (33, .iinc 2 1, 3), (36, .goto (-32), 3), (39, .iload_n 1, 1), (40, .ifCond .ne 8, 3), (43, .bipush (-6), 2), (45, .goto 7, 3), (48, .aload_n 0, 1), (49, .getfield 20, 3), (52, .ireturn, 1)]
theorem zd_48 : ∀ q ∈ zp_48, decode cX3_firstFault q.1 = .ok q.2 := by decide +kernel
/-- BenchMemories$Pad.dueBehind(II)I -/
def zp_49 : List (Nat × Instr × Nat) := [(0, .iload_n 0, 1), (1, .tableswitch 75 0 3 #[31, 36, 41, 58], 31), (32, .iload_n 1, 1), (33, .invokestatic 36, 3), (36, .ireturn, 1), (37, .iload_n 1, 1), (38, .invokestatic 39, 3), (41, .ireturn, 1), (42, .iload_n 1, 1), (43, .bipush 48, 2), (45, .isub, 1), (46, .invokestatic 42, 3), (49, .ifCond .eq 7, 3), (52, .iconst 0, 1), (53, .goto 5, 3), (56, .bipush (-6), 2), (58, .ireturn, 1), (59, .iload_n 1, 1), (60, .bipush 65, 2), (62, .isub, 1), (63, .invokestatic 46, 3), (66, .ifCond .eq 7, 3), (69, .iconst 0, 1), (70, .goto 5, 3), (73, .bipush (-6), 2), (75, .ireturn, 1), (76, .bipush (-6), 2), (78, .ireturn, 1)]
theorem zd_49 : ∀ q ∈ zp_49, decode cX3_dueBehind q.1 = .ok q.2 := by decide +kernel
end
section
set_option maxRecDepth 100000
/-- BenchMemories$Pad.dueBehindStart(I)I -/
def zp_50 : List (Nat × Instr × Nat) := [(0, .iload_n 0, 1), (1, .bipush 65, 2), (3, .isub, 1), (4, .invokestatic 46, 3), (7, .ifCond .eq 5, 3), (10, .iconst 1, 1), (11, .ireturn, 1), (12, .iload_n 0, 1), (13, .lookupswitch 31 #[(35, 27), (46, 29)], 27), (40, .iconst 2, 1), (41, .ireturn, 1), (42, .iconst 0, 1), (43, .ireturn, 1), (44, .bipush (-6), 2), (46, .ireturn, 1)]
theorem zd_50 : ∀ q ∈ zp_50, decode cX3_dueBehindStart q.1 = .ok q.2 := by decide +kernel
/-- BenchMemories$Pad.dueBehindDeed(I)I -/
def zp_51 : List (Nat × Instr × Nat) := [(0, .iload_n 0, 1), (1, .bipush 120, 2), (3, .if_icmp .ne 5, 3), (6, .iconst 3, 1), (7, .ireturn, 1), (8, .iload_n 0, 1), (9, .bipush 48, 2), (11, .isub, 1), (12, .invokestatic 42, 3), (15, .ifCond .ne 15, 3), (18, .iload_n 0, 1), (19, .bipush 95, 2), (21, .if_icmp .eq 9, 3), (24, .iload_n 0, 1), (25, .bipush 33, 2), (27, .if_icmp .ne 7, 3), (30, .iconst 0, 1), (31, .goto 5, 3), (34, .bipush (-6), 2), (36, .ireturn, 1)]
theorem zd_51 : ∀ q ∈ zp_51, decode cX3_dueBehindDeed q.1 = .ok q.2 := by decide +kernel
/-- BenchMemories$Pad.actEndedBy(II)I -/
def zp_52 : List (Nat × Instr × Nat) := [(0, .iload_n 1, 1), (1, .lookupswitch 41 #[(33, 37), (46, 39), (95, 35)], 35), (36, .iconst 1, 1), (37, .ireturn, 1), (38, .iconst 3, 1), (39, .ireturn, 1), (40, .iconst 5, 1), (41, .ireturn, 1), (42, .iload_n 0, 1), (43, .lookupswitch 29 #[(2, 25), (3, 27)], 25), (68, .iconst 4, 1), (69, .ireturn, 1), (70, .iconst 2, 1), (71, .ireturn, 1), (72, .iconst 0, 1), (73, .ireturn, 1)]
theorem zd_52 : ∀ q ∈ zp_52, decode cX3_actEndedBy q.1 = .ok q.2 := by decide +kernel
/-- BenchMemories$Pad.targetOf(I)I -/
def zp_53 : List (Nat × Instr × Nat) := [(0, .iload_n 0, 1), (1, .bipush 65, 2), (3, .isub, 1), (4, .invokestatic 46, 3), (7, .ifCond .eq 10, 3), (10, .iload_n 0, 1), (11, .bipush 65, 2), (13, .isub, 1), (14, .goto 7, 3), (17, .iload_n 0, 1), (18, .bipush 48, 2), (20, .isub, 1), (21, .ireturn, 1)]
theorem zd_53 : ∀ q ∈ zp_53, decode cX3_targetOf q.1 = .ok q.2 := by decide +kernel
/-- BenchMemories$Rounds.<init>()V -/
def zp_54 : List (Nat × Instr × Nat) := [(0, .aload_n 0, 1), (1, .invokespecial 5, 3), (4, .aload_n 0, 1), (5, .new 11, 3), (8, .dup, 1), (9, .bipush 10, 2), (11, .invokespecial 13, 3), (14, .putfield 16, 3), (17, .aload_n 0, 1), (18, .new 11, 3), (21, .dup, 1), (22, .bipush 100, 2), (24, .invokespecial 13, 3), (27, .putfield 20, 3), (30, .aload_n 0, 1), (31, .new 11, 3), (34, .dup, 1), (35, .sipush 4608, 3), (38, .invokespecial 13, 3), (41, .putfield 23, 3), (44, .return_, 1)]
theorem zd_54 : ∀ q ∈ zp_54, decode cX4_init q.1 = .ok q.2 := by decide +kernel
/-- BenchMemories$Rounds.shortest(LBenchMemories$Garden;II)I -/
def zp_55 : List (Nat × Instr × Nat) := [(0, .aload_n 1, 1), (1, .ifnonnull 6, 3), (4, .bipush (-6), 2), (6, .ireturn, 1), (7, .aload_n 0, 1), (8, .iload_n 2, 1), (9, .iload_n 3, 1), (10, .invokevirtual 26, 3), (13, .aload_n 0, 1), (14, .getfield 30, 3), (17, .ifCond .ne 5, 3), (20, .iconst 0, 1), (21, .ireturn, 1), (22, .iload_n 3, 1), (23, .aload_n 1, 1), (24, .iload_n 2, 1), (25, .invokevirtual 34, 3), (28, .iconst (-1), 1), (29, .ixor, 1), (30, .iand, 1), (31, .ifCond .eq 6, 3), (34, .bipush (-6), 2), (36, .ireturn, 1), (37, .aload_n 0, 1), (38, .aload_n 1, 1), (39, .invokevirtual 40, 3), (42, .iconst 1, 1), (43, .aload_n 0, 1), (44, .getfield 30, 3), (47, .ishl, 1), (48, .iconst 1, 1), (49, .isub, 1), (50, .istore 4, 2), (52, .iconst 1, 1), (53, .istore 5, 2), (55, .iload 5, 2), (57, .iload 4, 2), (59, .if_icmp .gt 67, 3), (62, .iconst 0, 1), (63, .istore 6, 2), (65, .iload 6, 2), (67, .aload_n 0, 1), (68, .getfield 30, 3), (71, .if_icmp .ge 49, 3), (74, .iload 5, 2), (76, .iload 6, 2), (78, .invokestatic 44, 3), (81, .ifCond .eq 33, 3), (84, .aload_n 0, 1), (85, .getfield 23, 3), (88, .iload 5, 2), (90, .bipush 9, 2), (92, .imul, 1), (93, .iload 6, 2), (95, .iadd, 1), (96, .aload_n 0, 1), (97, .iload 5, 2), (99, .iconst 1, 1), (100, .iload 6, 2), (102, .ishl, 1), (103, .iconst (-1), 1), (104, .ixor, 1), (105, .iand, 1), (106, .iload 6, 2), (108, .invokevirtual 48, 3), (111, .invokevirtual 52, 3), (114, .iinc 6 1, 3), (117, .goto (-52), 3), (120, .iinc 5 1, 3), (123, .goto (-68), 3), (126, .aload_n 0, 1), (127, .iload 4, 2), (129, .bipush 9, 2), (131, .invokevirtual 48, 3), (134, .ireturn, 1)]
theorem zd_55 : ∀ q ∈ zp_55, decode cX4_shortest q.1 = .ok q.2 := by decide +kernel
/-- BenchMemories$Rounds.gatherStops(II)V -/
def zp_56 : List (Nat × Instr × Nat) := [(0, .aload_n 0, 1), (1, .iconst 0, 1), (2, .putfield 30, 3), (5, .iconst 0, 1), (6, .istore_n 3, 1), (7, .iload_n 3, 1), (8, .bipush 10, 2), (10, .if_icmp .ge 44, 3), (13, .iload_n 3, 1), (14, .iload_n 1, 1), (15, .if_icmp .eq 33, 3), (18, .iload_n 2, 1), (19, .iload_n 3, 1), (20, .invokestatic 44, 3), (23, .ifCond .eq 25, 3), (26, .aload_n 0, 1), (27, .getfield 16, 3), (30, .aload_n 0, 1), (31, .getfield 30, 3), (34, .iload_n 3, 1), (35, .invokevirtual 52, 3), (38, .aload_n 0, 1), (39, .dup, 1), (40, .getfield 30, 3), (43, .iconst 1, 1), (44, .iadd, 1), (45, .putfield 30, 3), (48, .iinc 3 1, 3), (51, .goto (-44), 3), (54, .aload_n 0, 1), (55, .getfield 16, 3), (58, .bipush 9, 2), (60, .iload_n 1, 1), (61, .invokevirtual 52, 3), (64, .return_, 1)]
theorem zd_56 : ∀ q ∈ zp_56, decode cX4_gatherStops q.1 = .ok q.2 := by decide +kernel
/-- BenchMemories$Rounds.measureLegs(LBenchMemories$Garden;)V -/
def zp_57 : List (Nat × Instr × Nat) := [(0, .iconst 0, 1), (1, .istore_n 2, 1), (2, .iload_n 2, 1), (3, .bipush 10, 2), (5, .if_icmp .ge 96, 3), (8, .iconst 0, 1), (9, .istore_n 3, 1), (10, .iload_n 3, 1), (11, .bipush 10, 2), (13, .if_icmp .ge 82, 3), (16, .iload_n 2, 1), (17, .aload_n 0, 1), (18, .getfield 30, 3), (21, .if_icmp .lt 9, 3), (24, .iload_n 2, 1), (25, .bipush 9, 2), (27, .if_icmp .ne 21, 3), (30, .iload_n 3, 1), (31, .aload_n 0, 1), (32, .getfield 30, 3), (35, .if_icmp .lt 9, 3), (38, .iload_n 3, 1), (39, .bipush 9, 2), (41, .if_icmp .ne 7, 3), (44, .iconst 1, 1), (45, .goto 4, 3), (48, .iconst 0, 1), (49, .istore 4, 2), (51, .iload 4, 2), (53, .ifCond .eq 36, 3), (56, .aload_n 0, 1), (57, .getfield 20, 3), (60, .iload_n 2, 1), (61, .bipush 10, 2), (63, .imul, 1), (64, .iload_n 3, 1), (65, .iadd, 1), (66, .aload_n 1, 1), (67, .aload_n 0, 1), (68, .getfield 16, 3), (71, .iload_n 2, 1), (72, .invokevirtual 55, 3), (75, .aload_n 0, 1), (76, .getfield 16, 3), (79, .iload_n 3, 1), (80, .invokevirtual 55, 3), (83, .invokevirtual 58, 3), (86, .invokevirtual 52, 3), (89, .iinc 3 1, 3), (92, .goto (-82), 3), (95, .iinc 2 1, 3), (98, .goto (-96), 3), (101, .return_, 1)]
theorem zd_57 : ∀ q ∈ zp_57, decode cX4_measureLegs q.1 = .ok q.2 := by decide +kernel
/-- BenchMemories$Rounds.cheapest(II)I -/
def zp_58 : List (Nat × Instr × Nat) := [(0, .iload_n 1, 1), (1, .ifCond .ne 15, 3), (4, .aload_n 0, 1), (5, .getfield 20, 3), (8, .bipush 90, 2), (10, .iload_n 2, 1), (11, .iadd, 1), (12, .invokevirtual 55, 3), (15, .ireturn, 1), (16, .ldc 61, 2), (18, .istore_n 3, 1), (19, .iconst 0, 1), (20, .istore 4, 2), (22, .iload 4, 2), (24, .aload_n 0, 1), (25, .getfield 30, 3), (28, .if_icmp .ge 56, 3), (31, .iload_n 1, 1), (32, .iload 4, 2), (34, .invokestatic 44, 3), (37, .ifCond .eq 41, 3), (40, .aload_n 0, 1), (41, .getfield 23, 3), (44, .iload_n 1, 1), (45, .bipush 9, 2), (47, .imul, 1), (48, .iload 4, 2), (50, .iadd, 1), (51, .invokevirtual 55, 3), (54, .aload_n 0, 1), (55, .getfield 20, 3), (58, .iload 4, 2), (60, .bipush 10, 2), (62, .imul, 1), (63, .iload_n 2, 1), (64, .iadd, 1), (65, .invokevirtual 55, 3), (68, .iadd, 1), (69, .istore 5, 2), (71, .iload_n 3, 1), (72, .iload 5, 2), (74, .invokestatic 62, 3), (77, .istore_n 3, 1), (78, .iinc 4 1, 3), (81, .goto (-59), 3), (84, .iload_n 3, 1), (85, .ireturn, 1)]
theorem zd_58 : ∀ q ∈ zp_58, decode cX4_cheapest q.1 = .ok q.2 := by decide +kernel
/-- BenchMemories$Row.<init>(I)V -/
def zp_59 : List (Nat × Instr × Nat) := [(0, .aload_n 0, 1), (1, .invokespecial 3, 3), (4, .aload_n 0, 1), (5, .iconst 0, 1), (6, .iload_n 1, 1), (7, .invokestatic 9, 3), (10, .newarray .int, 2), (12, .putfield 15, 3), (15, .return_, 1)]
theorem zd_59 : ∀ q ∈ zp_59, decode cX5_init q.1 = .ok q.2 := by decide +kernel
/-- BenchMemories$Row.at(I)I -/
def zp_60 : List (Nat × Instr × Nat) := [(0, .iload_n 1, 1), (1, .ifCond .lt 21, 3), (4, .iload_n 1, 1), (5, .aload_n 0, 1), (6, .getfield 15, 3), (9, .arraylength, 1), (10, .if_icmp .ge 12, 3), (13, .aload_n 0, 1), (14, .getfield 15, 3), (17, .iload_n 1, 1), (18, .iaload, 1), (19, .goto 5, 3), (22, .bipush (-6), 2), (24, .ireturn, 1)]
theorem zd_60 : ∀ q ∈ zp_60, decode cX5_at q.1 = .ok q.2 := by decide +kernel
/-- BenchMemories$Row.put(II)V -/
def zp_61 : List (Nat × Instr × Nat) := [(0, .iload_n 1, 1), (1, .ifCond .lt 19, 3), (4, .iload_n 1, 1), (5, .aload_n 0, 1), (6, .getfield 15, 3), (9, .arraylength, 1), (10, .if_icmp .ge 10, 3), (13, .aload_n 0, 1), (14, .getfield 15, 3), (17, .iload_n 1, 1), (18, .iload_n 2, 1), (19, .iastore, 1), (20, .return_, 1)]
theorem zd_61 : ∀ q ∈ zp_61, decode cX5_put q.1 = .ok q.2 := by decide +kernel
/-- BenchMemories$Row.fillWith(I)V -/
def zp_62 : List (Nat × Instr × Nat) := [(0, .aload_n 0, 1), (1, .getfield 15, 3), (4, .iload_n 1, 1), (5, .invokestatic 21, 3), (8, .return_, 1)]
theorem zd_62 : ∀ q ∈ zp_62, decode cX5_fillWith q.1 = .ok q.2 := by decide +kernel
/-- BenchMemories$Row.copyFrom(LBenchMemories$Row;)V -/
def zp_63 : List (Nat × Instr × Nat) := [(0, .aload_n 1, 1), (1, .ifnull 34, 3), (4, .aload_n 1, 1), (5, .getfield 15, 3), (8, .arraylength, 1), (9, .aload_n 0, 1), (10, .getfield 15, 3), (13, .arraylength, 1), (14, .if_icmp .ne 21, 3), (17, .aload_n 1, 1), (18, .getfield 15, 3), (21, .iconst 0, 1), (22, .aload_n 0, 1), (23, .getfield 15, 3), (26, .iconst 0, 1), (27, .aload_n 0, 1), (28, .getfield 15, 3), (31, .arraylength, 1), (32, .invokestatic 27, 3), (35, .return_, 1)]
theorem zd_63 : ∀ q ∈ zp_63, decode cX5_copyFrom q.1 = .ok q.2 := by decide +kernel
/-- BenchMemories$Suspects.<init>()V -/
def zp_64 : List (Nat × Instr × Nat) := [(0, .aload_n 0, 1), (1, .invokespecial 3, 3), (4, .aload_n 0, 1), (5, .new 9, 3), (8, .dup, 1), (9, .bipush 35, 2), (11, .invokespecial 13, 3), (14, .putfield 16, 3), (17, .aload_n 0, 1), (18, .new 9, 3), (21, .dup, 1), (22, .bipush 8, 2), (24, .invokespecial 13, 3), (27, .putfield 20, 3), (30, .return_, 1)]
theorem zd_64 : ∀ q ∈ zp_64, decode cX6_init q.1 = .ok q.2 := by decide +kernel
/-- BenchMemories$Suspects.sift(LBenchMemories$Garden;)V -/
def zp_65 : List (Nat × Instr × Nat) := [(0, .aload_n 0, 1), (1, .iconst 0, 1), (2, .putfield 23, 3), (5, .iconst 2, 1), (6, .istore_n 2, 1), (7, .iload_n 2, 1), (8, .bipush 8, 2), (10, .if_icmp .gt 62, 3), (13, .iconst 0, 1), (14, .istore_n 3, 1), (15, .iload_n 3, 1), (16, .iload_n 2, 1), (17, .if_icmp .ge 49, 3), (20, .aload_n 1, 1), (21, .ifnull 39, 3), (24, .aload_n 1, 1), (25, .iload_n 2, 1), (26, .iload_n 3, 1), (27, .invokevirtual 27, 3), (30, .ifCond .eq 30, 3), (33, .aload_n 0, 1), (34, .getfield 16, 3), (37, .aload_n 0, 1), (38, .getfield 23, 3), (41, .bipush 10, 2), (43, .iload_n 2, 1), (44, .imul, 1), (45, .iload_n 3, 1), (46, .iadd, 1), (47, .invokevirtual 33, 3), (50, .aload_n 0, 1), (51, .dup, 1), (52, .getfield 23, 3), (55, .iconst 1, 1), (56, .iadd, 1), (57, .putfield 23, 3), (60, .iinc 3 1, 3), (63, .goto (-48), 3), (66, .iinc 2 1, 3), (69, .goto (-62), 3), (72, .return_, 1)]
theorem zd_65 : ∀ q ∈ zp_65, decode cX6_sift q.1 = .ok q.2 := by decide +kernel
/-- BenchMemories$Suspects.holder(III)I -/
def zp_66 : List (Nat × Instr × Nat) := [(0, .iload_n 0, 1), (1, .iconst 2, 1), (2, .if_icmp .lt 8, 3), (5, .iload_n 2, 1), (6, .iload_n 1, 1), (7, .if_icmp .gt 5, 3), (10, .iload_n 1, 1), (11, .ireturn, 1), (12, .iload_n 2, 1), (13, .iload_n 1, 1), (14, .isub, 1), (15, .iconst 1, 1), (16, .isub, 1), (17, .istore_n 3, 1), (18, .iload_n 3, 1), (19, .iload_n 0, 1), (20, .iconst 1, 1), (21, .iadd, 1), (22, .irem, 1), (23, .ifCond .ne 8, 3), (26, .bipush (-6), 2), (28, .goto 14, 3), (31, .iload_n 1, 1), (32, .iconst 1, 1), (33, .iadd, 1), (34, .iload_n 3, 1), (35, .iload_n 0, 1), (36, .iconst 1, 1), (37, .iadd, 1), (38, .idiv, 1), (39, .iadd, 1), (40, .iload_n 0, 1), (41, .irem, 1), (42, .ireturn, 1)]
theorem zd_66 : ∀ q ∈ zp_66, decode cX6_holder q.1 = .ok q.2 := by decide +kernel
/-- BenchMemories$Suspects.chooseQuestion()V -/
def zp_67 : List (Nat × Instr × Nat) := [(0, .aload_n 0, 1), (1, .bipush (-6), 2), (3, .putfield 37, 3), (6, .aload_n 0, 1), (7, .bipush 36, 2), (9, .putfield 40, 3), (12, .iconst 0, 1), (13, .istore_n 1, 1), (14, .iload_n 1, 1), (15, .bipush 60, 2), (17, .if_icmp .gt 76, 3), (20, .aload_n 0, 1), (21, .iload_n 1, 1), (22, .invokevirtual 43, 3), (25, .iconst 0, 1), (26, .istore_n 2, 1), (27, .iload_n 2, 1), (28, .bipush 8, 2), (30, .if_icmp .ge 57, 3), (33, .aload_n 0, 1), (34, .getfield 20, 3), (37, .iload_n 2, 1), (38, .invokevirtual 46, 3), (41, .aload_n 0, 1), (42, .getfield 23, 3), (45, .aload_n 0, 1), (46, .getfield 20, 3), (49, .iload_n 2, 1), (50, .invokevirtual 46, 3), (53, .isub, 1), (54, .invokestatic 50, 3), (57, .istore_n 3, 1), (58, .iload_n 3, 1), (59, .aload_n 0, 1), (60, .getfield 40, 3), (63, .if_icmp .ge 18, 3), (66, .aload_n 0, 1), (67, .iload_n 3, 1), (68, .putfield 40, 3), (71, .aload_n 0, 1), (72, .bipush 10, 2), (74, .iload_n 1, 1), (75, .imul, 1), (76, .iload_n 2, 1), (77, .iadd, 1), (78, .putfield 37, 3), (81, .iinc 2 1, 3), (84, .goto (-57), 3), (87, .iinc 1 1, 3), (90, .goto (-76), 3), (93, .return_, 1)]
theorem zd_67 : ∀ q ∈ zp_67, decode cX6_chooseQuestion q.1 = .ok q.2 := by decide +kernel
/-- BenchMemories$Suspects.countHolders(I)V -/
def zp_68 : List (Nat × Instr × Nat) := [(0, .aload_n 0, 1), (1, .getfield 20, 3), (4, .iconst 0, 1), (5, .invokevirtual 56, 3), (8, .iconst 0, 1), (9, .istore_n 2, 1), (10, .iload_n 2, 1), (11, .aload_n 0, 1), (12, .getfield 23, 3), (15, .if_icmp .ge 54, 3), (18, .aload_n 0, 1), (19, .getfield 16, 3), (22, .iload_n 2, 1), (23, .invokevirtual 46, 3), (26, .bipush 10, 2), (28, .idiv, 1), (29, .aload_n 0, 1), (30, .getfield 16, 3), (33, .iload_n 2, 1), (34, .invokevirtual 46, 3), (37, .bipush 10, 2), (39, .irem, 1), (40, .iload_n 1, 1), (41, .invokestatic 59, 3), (44, .istore_n 3, 1), (45, .aload_n 0, 1), (46, .getfield 20, 3), (49, .iload_n 3, 1), (50, .aload_n 0, 1), (51, .getfield 20, 3), (54, .iload_n 3, 1), (55, .invokevirtual 46, 3), (58, .iconst 1, 1), (59, .iadd, 1), (60, .invokevirtual 33, 3), (63, .iinc 2 1, 3), (66, .goto (-56), 3), (69, .return_, 1)]
theorem zd_68 : ∀ q ∈ zp_68, decode cX6_countHolders q.1 = .ok q.2 := by decide +kernel
/-- BenchMemories$Turns.<init>()V -/
def zp_69 : List (Nat × Instr × Nat) := [(0, .aload_n 0, 1), (1, .invokespecial 3, 3), (4, .aload_n 0, 1), (5, .new 9, 3), (8, .dup, 1), (9, .bipush 41, 2), (11, .invokespecial 11, 3), (14, .putfield 14, 3), (17, .iconst 1, 1), (18, .istore_n 1, 1), (19, .iload_n 1, 1), (20, .bipush 40, 2), (22, .if_icmp .gt 54, 3), (25, .lconst 0, 1), (26, .lstore_n 2, 1), (27, .iconst 0, 1), (28, .istore 4, 2), (30, .iload 4, 2), (32, .iload_n 1, 1), (33, .if_icmp .ge 21, 3), (36, .lload_n 2, 1), (37, .lconst 1, 1), (38, .aload_n 0, 1), (39, .iload_n 1, 1), (40, .iload 4, 2), (42, .invokevirtual 20, 3), (45, .lshl, 1), (46, .lor, 1), (47, .lstore_n 2, 1), (48, .iinc 4 1, 3), (51, .goto (-21), 3), (54, .aload_n 0, 1), (55, .getfield 14, 3), (58, .iload_n 1, 1), (59, .lload_n 2, 1), (60, .ldc2_w 24, 3), (63, .lxor, 1), (64, .invokestatic 26, 3), (67, .invokevirtual 32, 3), (70, .iinc 1 1, 3), (73, .goto (-54), 3), (76, .return_, 1)]
theorem zd_69 : ∀ q ∈ zp_69, decode cX7_init q.1 = .ok q.2 := by decide +kernel
/-- BenchMemories$Turns.worthBehind(II)I -/
def zp_70 : List (Nat × Instr × Nat) := [(0, .aload_n 0, 1), (1, .getfield 14, 3), (4, .iconst 0, 1), (5, .iload_n 2, 1), (6, .iconst 1, 1), (7, .isub, 1), (8, .invokestatic 36, 3), (11, .invokevirtual 41, 3), (14, .aload_n 0, 1), (15, .getfield 14, 3), (18, .iconst 0, 1), (19, .iload_n 1, 1), (20, .iload_n 2, 1), (21, .isub, 1), (22, .iconst 2, 1), (23, .isub, 1), (24, .invokestatic 36, 3), (27, .invokevirtual 41, 3), (30, .ixor, 1), (31, .ireturn, 1)]
theorem zd_70 : ∀ q ∈ zp_70, decode cX7_worthBehind q.1 = .ok q.2 := by decide +kernel
/-- BenchMemories$Turns.winningBench(I)I -/
def zp_71 : List (Nat × Instr × Nat) := [(0, .iconst 0, 1), (1, .istore_n 2, 1), (2, .iload_n 2, 1), (3, .iload_n 1, 1), (4, .if_icmp .ge 20, 3), (7, .aload_n 0, 1), (8, .iload_n 1, 1), (9, .iload_n 2, 1), (10, .invokevirtual 20, 3), (13, .ifCond .ne 5, 3), (16, .iload_n 2, 1), (17, .ireturn, 1), (18, .iinc 2 1, 3), (21, .goto (-19), 3), (24, .bipush (-6), 2), (26, .ireturn, 1)]
theorem zd_71 : ∀ q ∈ zp_71, decode cX7_winningBench q.1 = .ok q.2 := by decide +kernel
/-- BenchMemories$Walks.<init>()V -/
def zp_72 : List (Nat × Instr × Nat) := [(0, .aload_n 0, 1), (1, .invokespecial 3, 3), (4, .aload_n 0, 1), (5, .new 9, 3), (8, .dup, 1), (9, .sipush 1024, 3), (12, .invokespecial 13, 3), (15, .putfield 16, 3), (18, .return_, 1)]
theorem zd_72 : ∀ q ∈ zp_72, decode cX8_init q.1 = .ok q.2 := by decide +kernel
/-- BenchMemories$Walks.explore(LBenchMemories$Garden;I)V -/
def zp_73 : List (Nat × Instr × Nat) := [(0, .aload_n 1, 1), (1, .ifnonnull 4, 3), (4, .return_, 1), (5, .aload_n 0, 1), (6, .aload_n 1, 1), (7, .iload_n 2, 1), (8, .invokevirtual 20, 3), (11, .putfield 26, 3), (14, .iconst 1, 1), (15, .istore_n 3, 1), (16, .iload_n 3, 1), (17, .sipush 1024, 3), (20, .if_icmp .ge 34, 3), (23, .iload_n 3, 1), (24, .aload_n 0, 1), (25, .getfield 26, 3), (28, .iconst (-1), 1), (29, .ixor, 1), (30, .iand, 1), (31, .ifCond .ne 17, 3), (34, .aload_n 0, 1), (35, .getfield 16, 3), (38, .iload_n 3, 1), (39, .aload_n 0, 1), (40, .aload_n 1, 1), (41, .iload_n 3, 1), (42, .invokevirtual 30, 3), (45, .invokevirtual 34, 3), (48, .iinc 3 1, 3), (51, .goto (-35), 3), (54, .return_, 1)]
theorem zd_73 : ∀ q ∈ zp_73, decode cX8_explore q.1 = .ok q.2 := by decide +kernel
/-- BenchMemories$Walks.startsOf(LBenchMemories$Garden;I)I -/
def zp_74 : List (Nat × Instr × Nat) := [(0, .iconst 0, 1), (1, .istore_n 3, 1), (2, .iconst 0, 1), (3, .istore 4, 2), (5, .iload 4, 2), (7, .bipush 10, 2), (9, .if_icmp .ge 75, 3), (12, .iload_n 2, 1), (13, .iload 4, 2), (15, .invokestatic 38, 3), (18, .ifCond .eq 60, 3), (21, .iload_n 2, 1), (22, .iconst 1, 1), (23, .iload 4, 2), (25, .ishl, 1), (26, .iconst (-1), 1), (27, .ixor, 1), (28, .iand, 1), (29, .istore 5, 2), (31, .iload 5, 2), (33, .ifCond .eq 22, 3), (36, .aload_n 0, 1), (37, .getfield 16, 3), (40, .iload 5, 2), (42, .invokevirtual 42, 3), (45, .aload_n 1, 1), (46, .iload 4, 2), (48, .invokevirtual 45, 3), (51, .iand, 1), (52, .ifCond .eq 7, 3), (55, .iconst 1, 1), (56, .goto 4, 3), (59, .iconst 0, 1), (60, .istore 6, 2), (62, .iload_n 3, 1), (63, .iload 6, 2), (65, .ifCond .eq 10, 3), (68, .iconst 1, 1), (69, .iload 4, 2), (71, .ishl, 1), (72, .goto 4, 3), (75, .iconst 0, 1), (76, .ior, 1), (77, .istore_n 3, 1), (78, .iinc 4 1, 3), (81, .goto (-76), 3), (84, .iload_n 3, 1), (85, .ireturn, 1)]
theorem zd_74 : ∀ q ∈ zp_74, decode cX8_startsOf q.1 = .ok q.2 := by decide +kernel
/-- BenchMemories$Walks.longestFrom(I)I -/
def zp_75 : List (Nat × Instr × Nat) := [(0, .iconst 1, 1), (1, .istore_n 2, 1), (2, .aload_n 0, 1), (3, .getfield 26, 3), (6, .istore_n 3, 1), (7, .iload_n 3, 1), (8, .ifCond .le 39, 3), (11, .aload_n 0, 1), (12, .getfield 16, 3), (15, .iload_n 3, 1), (16, .invokevirtual 42, 3), (19, .iload_n 1, 1), (20, .invokestatic 38, 3), (23, .ifCond .eq 12, 3), (26, .iload_n 2, 1), (27, .iload_n 3, 1), (28, .invokestatic 48, 3), (31, .invokestatic 53, 3), (34, .istore_n 2, 1), (35, .iload_n 3, 1), (36, .iconst 1, 1), (37, .isub, 1), (38, .aload_n 0, 1), (39, .getfield 26, 3), (42, .iand, 1), (43, .istore_n 3, 1), (44, .goto (-37), 3), (47, .iload_n 2, 1), (48, .iconst 1, 1), (49, .isub, 1), (50, .ireturn, 1)]
theorem zd_75 : ∀ q ∈ zp_75, decode cX8_longestFrom q.1 = .ok q.2 := by decide +kernel
/-- BenchMemories$Walks.firstFrom(LBenchMemories$Garden;II)I -/
def zp_76 : List (Nat × Instr × Nat) := [(0, .iconst 0, 1), (1, .istore 4, 2), (3, .iload_n 2, 1), (4, .istore 5, 2), (6, .aload_n 0, 1), (7, .getfield 26, 3), (10, .istore 6, 2), (12, .iload_n 3, 1), (13, .istore 7, 2), (15, .iload 7, 2), (17, .ifCond .le 58, 3), (20, .aload_n 1, 1), (21, .ifnull 54, 3), (24, .iload 6, 2), (26, .iconst 1, 1), (27, .iload 5, 2), (29, .ishl, 1), (30, .iconst (-1), 1), (31, .ixor, 1), (32, .iand, 1), (33, .istore 6, 2), (35, .aload_n 1, 1), (36, .iload 5, 2), (38, .invokevirtual 45, 3), (41, .aload_n 0, 1), (42, .iload 6, 2), (44, .iload 7, 2), (46, .invokevirtual 59, 3), (49, .iand, 1), (50, .istore 8, 2), (52, .iload 8, 2), (54, .invokestatic 62, 3), (57, .istore 5, 2), (59, .iload 4, 2), (61, .bipush 10, 2), (63, .imul, 1), (64, .iload 5, 2), (66, .iadd, 1), (67, .istore 4, 2), (69, .iinc 7 (-1), 3), (72, .goto (-57), 3), (75, .iload 4, 2), (77, .ireturn, 1)]
theorem zd_76 : ∀ q ∈ zp_76, decode cX8_firstFrom q.1 = .ok q.2 := by decide +kernel
/-- BenchMemories$Walks.startsOfWalks(II)I -/
def zp_77 : List (Nat × Instr × Nat) := [(0, .iconst 0, 1), (1, .istore_n 3, 1), (2, .iload_n 1, 1), (3, .istore 4, 2), (5, .iload 4, 2), (7, .ifCond .le 35, 3), (10, .iload 4, 2), (12, .invokestatic 48, 3), (15, .iload_n 2, 1), (16, .if_icmp .ne 15, 3), (19, .iload_n 3, 1), (20, .aload_n 0, 1), (21, .getfield 16, 3), (24, .iload 4, 2), (26, .invokevirtual 42, 3), (29, .ior, 1), (30, .istore_n 3, 1), (31, .iload 4, 2), (33, .iconst 1, 1), (34, .isub, 1), (35, .iload_n 1, 1), (36, .iand, 1), (37, .istore 4, 2), (39, .goto (-34), 3), (42, .iload_n 3, 1), (43, .ireturn, 1)]
theorem zd_77 : ∀ q ∈ zp_77, decode cX8_startsOfWalks q.1 = .ok q.2 := by decide +kernel
/-- BenchMemories.<init>()V -/
def zp_78 : List (Nat × Instr × Nat) := [(0, .aload_n 0, 1), (1, .invokespecial 1, 3), (4, .aload_n 0, 1), (5, .new 7, 3), (8, .dup, 1), (9, .invokespecial 9, 3), (12, .putfield 10, 3), (15, .aload_n 0, 1), (16, .new 7, 3), (19, .dup, 1), (20, .invokespecial 9, 3), (23, .putfield 16, 3), (26, .aload_n 0, 1), (27, .new 7, 3), (30, .dup, 1), (31, .invokespecial 9, 3), (34, .putfield 19, 3), (37, .aload_n 0, 1), (38, .new 22, 3), (41, .dup, 1), (42, .invokespecial 24, 3), (45, .putfield 25, 3), (48, .aload_n 0, 1), (49, .new 29, 3), (52, .dup, 1), (53, .invokespecial 31, 3), (56, .putfield 32, 3), (59, .aload_n 0, 1), (60, .new 36, 3), (63, .dup, 1), (64, .invokespecial 38, 3), (67, .putfield 39, 3), (70, .aload_n 0, 1), (71, .new 43, 3), (74, .dup, 1), (75, .invokespecial 45, 3), (78, .putfield 46, 3), (81, .aload_n 0, 1), (82, .new 50, 3), (85, .dup, 1), (86, .invokespecial 52, 3), (89, .putfield 53, 3), (92, .aload_n 0, 1), (93, .new 57, 3), (96, .dup, 1), (97, .invokespecial 59, 3), (100, .putfield 60, 3), (103, .aload_n 0, 1), (104, .new 64, 3), (107, .dup, 1), (108, .invokespecial 66, 3), (111, .putfield 67, 3), (114, .return_, 1)]
theorem zd_78 : ∀ q ∈ zp_78, decode cX9_init q.1 = .ok q.2 := by decide +kernel
/-- BenchMemories.way(IIZ)I -/
def zp_79 : List (Nat × Instr × Nat) := [(0, .iload_n 1, 1), (1, .invokestatic 71, 3), (4, .ifCond .eq 15, 3), (7, .iload_n 2, 1), (8, .invokestatic 71, 3), (11, .ifCond .eq 8, 3), (14, .iload_n 1, 1), (15, .iload_n 2, 1), (16, .if_icmp .ne 5, 3), (19, .iconst (-1), 1), (20, .ireturn, 1), (21, .aload_n 0, 1), (22, .getfield 10, 3), (25, .iload_n 1, 1), (26, .iload_n 2, 1), (27, .iload_n 3, 1), (28, .invokevirtual 75, 3), (31, .aload_n 0, 1), (32, .getfield 10, 3), (35, .invokevirtual 79, 3), (38, .ireturn, 1)]
theorem zd_79 : ∀ q ∈ zp_79, decode cX9_way q.1 = .ok q.2 := by decide +kernel
/-- BenchMemories.stand(II)I -/
def zp_80 : List (Nat × Instr × Nat) := [(0, .iload_n 1, 1), (1, .invokestatic 83, 3), (4, .ifCond .eq 10, 3), (7, .iload_n 2, 1), (8, .invokestatic 71, 3), (11, .ifCond .ne 5, 3), (14, .iconst (-1), 1), (15, .ireturn, 1), (16, .aload_n 0, 1), (17, .getfield 10, 3), (20, .iload_n 1, 1), (21, .invokevirtual 86, 3), (24, .istore_n 3, 1), (25, .aload_n 0, 1), (26, .getfield 10, 3), (29, .iload_n 1, 1), (30, .iload_n 2, 1), (31, .invokevirtual 90, 3), (34, .iload_n 3, 1), (35, .ireturn, 1)]
theorem zd_80 : ∀ q ∈ zp_80, decode cX9_stand q.1 = .ok q.2 := by decide +kernel
/-- BenchMemories.give(II)I -/
def zp_81 : List (Nat × Instr × Nat) := [(0, .iload_n 1, 1), (1, .invokestatic 94, 3), (4, .ifCond .eq 10, 3), (7, .iload_n 2, 1), (8, .invokestatic 83, 3), (11, .ifCond .ne 5, 3), (14, .iconst (-1), 1), (15, .ireturn, 1), (16, .aload_n 0, 1), (17, .getfield 10, 3), (20, .iload_n 1, 1), (21, .invokevirtual 97, 3), (24, .istore_n 3, 1), (25, .aload_n 0, 1), (26, .getfield 10, 3), (29, .aload_n 0, 1), (30, .getfield 10, 3), (33, .iload_n 2, 1), (34, .invokevirtual 100, 3), (37, .invokevirtual 103, 3), (40, .aload_n 0, 1), (41, .getfield 10, 3), (44, .iload_n 1, 1), (45, .iload_n 2, 1), (46, .invokevirtual 107, 3), (49, .iload_n 3, 1), (50, .ireturn, 1)]
theorem zd_81 : ∀ q ∈ zp_81, decode cX9_give q.1 = .ok q.2 := by decide +kernel
/-- BenchMemories.lay(III)I -/
def zp_82 : List (Nat × Instr × Nat) := [(0, .iload_n 1, 1), (1, .invokestatic 94, 3), (4, .ifCond .eq 10, 3), (7, .iload_n 2, 1), (8, .invokestatic 71, 3), (11, .ifCond .ne 5, 3), (14, .iconst (-1), 1), (15, .ireturn, 1), (16, .iload_n 3, 1), (17, .iconst 1, 1), (18, .bipush 9, 2), (20, .invokestatic 110, 3), (23, .ifCond .ne 6, 3), (26, .bipush (-2), 2), (28, .ireturn, 1), (29, .aload_n 0, 1), (30, .getfield 10, 3), (33, .iload_n 1, 1), (34, .invokevirtual 97, 3), (37, .istore 4, 2), (39, .aload_n 0, 1), (40, .getfield 10, 3), (43, .aload_n 0, 1), (44, .getfield 10, 3), (47, .iload_n 2, 1), (48, .invokevirtual 114, 3), (51, .invokevirtual 103, 3), (54, .aload_n 0, 1), (55, .getfield 10, 3), (58, .iload_n 1, 1), (59, .iload_n 2, 1), (60, .iload_n 3, 1), (61, .invokevirtual 117, 3), (64, .iload 4, 2), (66, .ireturn, 1)]
theorem zd_82 : ∀ q ∈ zp_82, decode cX9_lay q.1 = .ok q.2 := by decide +kernel
/-- BenchMemories.forget(I)I -/
def zp_83 : List (Nat × Instr × Nat) := [(0, .iload_n 1, 1), (1, .invokestatic 94, 3), (4, .ifCond .ne 5, 3), (7, .iconst (-1), 1), (8, .ireturn, 1), (9, .aload_n 0, 1), (10, .getfield 10, 3), (13, .iload_n 1, 1), (14, .invokevirtual 97, 3), (17, .istore_n 2, 1), (18, .aload_n 0, 1), (19, .getfield 10, 3), (22, .iload_n 1, 1), (23, .invokevirtual 103, 3), (26, .iload_n 2, 1), (27, .ireturn, 1)]
theorem zd_83 : ∀ q ∈ zp_83, decode cX9_forget q.1 = .ok q.2 := by decide +kernel
/-- BenchMemories.say(I)I -/
def zp_84 : List (Nat × Instr × Nat) := [(0, .iload_n 1, 1), (1, .bipush 33, 2), (3, .bipush 126, 2), (5, .invokestatic 110, 3), (8, .ifCond .ne 6, 3), (11, .bipush (-2), 2), (13, .ireturn, 1), (14, .aload_n 0, 1), (15, .getfield 25, 3), (18, .getfield 121, 3), (21, .bipush 60, 2), (23, .if_icmp .lt 6, 3), (26, .bipush (-4), 2), (28, .ireturn, 1), (29, .aload_n 0, 1), (30, .getfield 25, 3), (33, .iload_n 1, 1), (34, .invokevirtual 125, 3), (37, .aload_n 0, 1), (38, .getfield 25, 3), (41, .getfield 121, 3), (44, .ireturn, 1)]
theorem zd_84 : ∀ q ∈ zp_84, decode cX9_say q.1 = .ok q.2 := by decide +kernel
/-- BenchMemories.wipe()I -/
def zp_85 : List (Nat × Instr × Nat) := [(0, .aload_n 0, 1), (1, .getfield 25, 3), (4, .getfield 121, 3), (7, .istore_n 1, 1), (8, .aload_n 0, 1), (9, .getfield 25, 3), (12, .invokevirtual 128, 3), (15, .iload_n 1, 1), (16, .ireturn, 1)]
theorem zd_85 : ∀ q ∈ zp_85, decode cX9_wipe q.1 = .ok q.2 := by decide +kernel
/-- BenchMemories.fault()I -/
def zp_86 : List (Nat × Instr × Nat) := [(0, .aload_n 0, 1), (1, .getfield 25, 3), (4, .invokevirtual 131, 3), (7, .ireturn, 1)]
theorem zd_86 : ∀ q ∈ zp_86, decode cX9_fault q.1 = .ok q.2 := by decide +kernel
/-- BenchMemories.judge(I)I -/
def zp_87 : List (Nat × Instr × Nat) := [(0, .iload_n 1, 1), (1, .iconst 0, 1), (2, .iconst 2, 1), (3, .invokestatic 110, 3), (6, .ifCond .ne 6, 3), (9, .bipush (-2), 2), (11, .ireturn, 1), (12, .aload_n 0, 1), (13, .getfield 32, 3), (16, .aload_n 0, 1), (17, .getfield 10, 3), (20, .aload_n 0, 1), (21, .getfield 25, 3), (24, .invokevirtual 134, 3), (27, .istore_n 2, 1), (28, .iload_n 2, 1), (29, .bipush (-5), 2), (31, .if_icmp .eq 14, 3), (34, .iload_n 1, 1), (35, .iconst 2, 1), (36, .if_icmp .ne 11, 3), (39, .iload_n 2, 1), (40, .bipush (-3), 2), (42, .if_icmp .ne 5, 3), (45, .iload_n 2, 1), (46, .ireturn, 1), (47, .iload_n 1, 1), (48, .iconst 2, 1), (49, .if_icmp .ne 11, 3), (52, .aload_n 0, 1), (53, .getfield 32, 3), (56, .getfield 138, 3), (59, .ireturn, 1), (60, .iload_n 1, 1), (61, .ifCond .ne 13, 3), (64, .aload_n 0, 1), (65, .getfield 32, 3), (68, .getfield 141, 3), (71, .goto 10, 3), (74, .aload_n 0, 1), (75, .getfield 32, 3), (78, .getfield 144, 3), (81, .ireturn, 1)]
theorem zd_87 : ∀ q ∈ zp_87, decode cX9_judge q.1 = .ok q.2 := by decide +kernel
/-- BenchMemories.behind(II)I -/
def zp_88 : List (Nat × Instr × Nat) := [(0, .iload_n 1, 1), (1, .invokestatic 83, 3), (4, .ifCond .ne 5, 3), (7, .iconst (-1), 1), (8, .ireturn, 1), (9, .iload_n 2, 1), (10, .iconst 0, 1), (11, .iconst 1, 1), (12, .invokestatic 110, 3), (15, .ifCond .ne 6, 3), (18, .bipush (-2), 2), (20, .ireturn, 1), (21, .aload_n 0, 1), (22, .getfield 32, 3), (25, .aload_n 0, 1), (26, .getfield 10, 3), (29, .aload_n 0, 1), (30, .getfield 25, 3), (33, .invokevirtual 134, 3), (36, .istore_n 3, 1), (37, .iload_n 3, 1), (38, .ifCond .eq 5, 3), (41, .iload_n 3, 1), (42, .ireturn, 1), (43, .iload_n 2, 1), (44, .ifCond .ne 17, 3), (47, .aload_n 0, 1), (48, .getfield 32, 3), (51, .getfield 147, 3), (54, .iload_n 1, 1), (55, .invokevirtual 86, 3), (58, .goto 14, 3), (61, .aload_n 0, 1), (62, .getfield 32, 3), (65, .getfield 147, 3), (68, .iload_n 1, 1), (69, .invokevirtual 100, 3), (72, .ireturn, 1)]
theorem zd_88 : ∀ q ∈ zp_88, decode cX9_behind q.1 = .ok q.2 := by decide +kernel
/-- BenchMemories.lies(II)I -/
def zp_89 : List (Nat × Instr × Nat) := [(0, .iload_n 1, 1), (1, .invokestatic 71, 3), (4, .ifCond .ne 5, 3), (7, .iconst (-1), 1), (8, .ireturn, 1), (9, .iload_n 2, 1), (10, .iconst 0, 1), (11, .iconst 1, 1), (12, .invokestatic 110, 3), (15, .ifCond .ne 6, 3), (18, .bipush (-2), 2), (20, .ireturn, 1), (21, .aload_n 0, 1), (22, .getfield 32, 3), (25, .aload_n 0, 1), (26, .getfield 10, 3), (29, .aload_n 0, 1), (30, .getfield 25, 3), (33, .invokevirtual 134, 3), (36, .istore_n 3, 1), (37, .iload_n 3, 1), (38, .ifCond .eq 5, 3), (41, .iload_n 3, 1), (42, .ireturn, 1), (43, .iload_n 2, 1), (44, .ifCond .ne 17, 3), (47, .aload_n 0, 1), (48, .getfield 32, 3), (51, .getfield 147, 3), (54, .iload_n 1, 1), (55, .invokevirtual 114, 3), (58, .goto 14, 3), (61, .aload_n 0, 1), (62, .getfield 32, 3), (65, .getfield 147, 3), (68, .iload_n 1, 1), (69, .invokevirtual 150, 3), (72, .ireturn, 1)]
theorem zd_89 : ∀ q ∈ zp_89, decode cX9_lies q.1 = .ok q.2 := by decide +kernel
/-- BenchMemories.hands(II)I -/
def zp_90 : List (Nat × Instr × Nat) := [(0, .iload_n 1, 1), (1, .invokestatic 94, 3), (4, .ifCond .ne 5, 3), (7, .iconst (-1), 1), (8, .ireturn, 1), (9, .iload_n 2, 1), (10, .iconst 0, 1), (11, .iconst 1, 1), (12, .invokestatic 110, 3), (15, .ifCond .ne 6, 3), (18, .bipush (-2), 2), (20, .ireturn, 1), (21, .aload_n 0, 1), (22, .getfield 32, 3), (25, .aload_n 0, 1), (26, .getfield 10, 3), (29, .aload_n 0, 1), (30, .getfield 25, 3), (33, .invokevirtual 134, 3), (36, .istore_n 3, 1), (37, .iload_n 3, 1), (38, .ifCond .eq 5, 3), (41, .iload_n 3, 1), (42, .ireturn, 1), (43, .iload_n 2, 1), (44, .ifCond .ne 15, 3), (47, .aload_n 0, 1), (48, .getfield 32, 3), (51, .getfield 153, 3), (54, .iload_n 1, 1), (55, .invokevirtual 157, 3), (58, .ireturn, 1), (59, .aload_n 0, 1), (60, .getfield 32, 3), (63, .getfield 147, 3), (66, .iload_n 1, 1), (67, .invokevirtual 97, 3), (70, .istore 4, 2), (72, .iload 4, 2), (74, .invokestatic 83, 3), (77, .ifCond .eq 8, 3), (80, .iload 4, 2), (82, .goto 5, 3), (85, .bipush (-6), 2), (87, .ireturn, 1)]
theorem zd_90 : ∀ q ∈ zp_90, decode cX9_hands q.1 = .ok q.2 := by decide +kernel
/-- BenchMemories.most()I -/
def zp_91 : List (Nat × Instr × Nat) := [(0, .aload_n 0, 1), (1, .getfield 32, 3), (4, .aload_n 0, 1), (5, .getfield 10, 3), (8, .aload_n 0, 1), (9, .getfield 25, 3), (12, .invokevirtual 134, 3), (15, .istore_n 1, 1), (16, .iload_n 1, 1), (17, .ifCond .eq 7, 3), (20, .iload_n 1, 1), (21, .goto 10, 3), (24, .aload_n 0, 1), (25, .getfield 32, 3), (28, .invokevirtual 162, 3), (31, .ireturn, 1)]
theorem zd_91 : ∀ q ∈ zp_91, decode cX9_most q.1 = .ok q.2 := by decide +kernel
end
section
set_option maxRecDepth 100000
/-- BenchMemories.done()I -/
def zp_92 : List (Nat × Instr × Nat) := [(0, .aload_n 0, 1), (1, .getfield 32, 3), (4, .aload_n 0, 1), (5, .getfield 10, 3), (8, .aload_n 0, 1), (9, .getfield 25, 3), (12, .invokevirtual 134, 3), (15, .istore_n 1, 1), (16, .iload_n 1, 1), (17, .ifCond .eq 5, 3), (20, .iload_n 1, 1), (21, .ireturn, 1), (22, .aload_n 0, 1), (23, .getfield 10, 3), (26, .aload_n 0, 1), (27, .getfield 32, 3), (30, .getfield 147, 3), (33, .invokevirtual 165, 3), (36, .aload_n 0, 1), (37, .getfield 25, 3), (40, .invokevirtual 128, 3), (43, .aload_n 0, 1), (44, .getfield 32, 3), (47, .getfield 169, 3), (50, .ireturn, 1)]
theorem zd_92 : ∀ q ∈ zp_92, decode cX9_done q.1 = .ok q.2 := by decide +kernel
/-- BenchMemories.steps(II)I -/
def zp_93 : List (Nat × Instr × Nat) := [(0, .iload_n 1, 1), (1, .invokestatic 71, 3), (4, .ifCond .eq 22, 3), (7, .iload_n 2, 1), (8, .invokestatic 71, 3), (11, .ifCond .eq 15, 3), (14, .aload_n 0, 1), (15, .getfield 10, 3), (18, .iload_n 1, 1), (19, .iload_n 2, 1), (20, .invokevirtual 172, 3), (23, .goto 4, 3), (26, .iconst (-1), 1), (27, .ireturn, 1)]
theorem zd_93 : ∀ q ∈ zp_93, decode cX9_steps q.1 = .ok q.2 := by decide +kernel
/-- BenchMemories.get(II)I -/
def zp_94 : List (Nat × Instr × Nat) := [(0, .iload_n 1, 1), (1, .invokestatic 83, 3), (4, .ifCond .eq 10, 3), (7, .iload_n 2, 1), (8, .invokestatic 94, 3), (11, .ifCond .ne 5, 3), (14, .iconst (-1), 1), (15, .ireturn, 1), (16, .aload_n 0, 1), (17, .getfield 10, 3), (20, .iload_n 2, 1), (21, .invokevirtual 97, 3), (24, .bipush 10, 2), (26, .isub, 1), (27, .istore_n 3, 1), (28, .iload_n 3, 1), (29, .invokestatic 71, 3), (32, .ifCond .ne 6, 3), (35, .bipush (-3), 2), (37, .ireturn, 1), (38, .aload_n 0, 1), (39, .getfield 10, 3), (42, .aload_n 0, 1), (43, .getfield 10, 3), (46, .iload_n 1, 1), (47, .invokevirtual 86, 3), (50, .iload_n 3, 1), (51, .invokevirtual 172, 3), (54, .istore 4, 2), (56, .iload 4, 2), (58, .bipush (-6), 2), (60, .if_icmp .eq 14, 3), (63, .aload_n 0, 1), (64, .getfield 10, 3), (67, .iload_n 3, 1), (68, .invokevirtual 176, 3), (71, .ifCond .eq 8, 3), (74, .bipush (-6), 2), (76, .goto 7, 3), (79, .iload 4, 2), (81, .iconst 1, 1), (82, .iadd, 1), (83, .ireturn, 1)]
theorem zd_94 : ∀ q ∈ zp_94, decode cX9_get q.1 = .ok q.2 := by decide +kernel
/-- BenchMemories.round(II)I -/
def zp_95 : List (Nat × Instr × Nat) := [(0, .iload_n 1, 1), (1, .invokestatic 71, 3), (4, .ifCond .ne 5, 3), (7, .iconst (-1), 1), (8, .ireturn, 1), (9, .iload_n 2, 1), (10, .iconst 0, 1), (11, .sipush 1023, 3), (14, .invokestatic 110, 3), (17, .ifCond .ne 6, 3), (20, .bipush (-2), 2), (22, .ireturn, 1), (23, .aload_n 0, 1), (24, .getfield 39, 3), (27, .aload_n 0, 1), (28, .getfield 10, 3), (31, .iload_n 1, 1), (32, .iload_n 2, 1), (33, .invokevirtual 179, 3), (36, .ireturn, 1)]
theorem zd_95 : ∀ q ∈ zp_95, decode cX9_round q.1 = .ok q.2 := by decide +kernel
/-- BenchMemories.walk(II)I -/
def zp_96 : List (Nat × Instr × Nat) := [(0, .iload_n 1, 1), (1, .invokestatic 71, 3), (4, .ifCond .ne 5, 3), (7, .iconst (-1), 1), (8, .ireturn, 1), (9, .iload_n 2, 1), (10, .iconst 0, 1), (11, .iconst 1, 1), (12, .invokestatic 110, 3), (15, .ifCond .ne 6, 3), (18, .bipush (-2), 2), (20, .ireturn, 1), (21, .aload_n 0, 1), (22, .getfield 46, 3), (25, .aload_n 0, 1), (26, .getfield 10, 3), (29, .iload_n 1, 1), (30, .invokevirtual 183, 3), (33, .aload_n 0, 1), (34, .getfield 46, 3), (37, .iload_n 1, 1), (38, .invokevirtual 187, 3), (41, .istore_n 3, 1), (42, .iload_n 2, 1), (43, .ifCond .ne 7, 3), (46, .iload_n 3, 1), (47, .goto 16, 3), (50, .aload_n 0, 1), (51, .getfield 46, 3), (54, .aload_n 0, 1), (55, .getfield 10, 3), (58, .iload_n 1, 1), (59, .iload_n 3, 1), (60, .invokevirtual 190, 3), (63, .ireturn, 1)]
theorem zd_96 : ∀ q ∈ zp_96, decode cX9_walk q.1 = .ok q.2 := by decide +kernel
/-- BenchMemories.right(II)I -/
def zp_97 : List (Nat × Instr × Nat) := [(0, .aload_n 0, 1), (1, .getfield 53, 3), (4, .iload_n 1, 1), (5, .invokevirtual 193, 3), (8, .ifCond .eq 12, 3), (11, .iload_n 2, 1), (12, .iconst 0, 1), (13, .iconst 1, 1), (14, .invokestatic 110, 3), (17, .ifCond .ne 6, 3), (20, .bipush (-2), 2), (22, .ireturn, 1), (23, .iload_n 2, 1), (24, .ifCond .ne 13, 3), (27, .aload_n 0, 1), (28, .getfield 53, 3), (31, .invokevirtual 196, 3), (34, .goto 10, 3), (37, .aload_n 0, 1), (38, .getfield 53, 3), (41, .invokevirtual 199, 3), (44, .ireturn, 1)]
theorem zd_97 : ∀ q ∈ zp_97, decode cX9_right q.1 = .ok q.2 := by decide +kernel
/-- BenchMemories.seen(IIZ)I -/
def zp_98 : List (Nat × Instr × Nat) := [(0, .iload_n 1, 1), (1, .iconst 0, 1), (2, .bipush 60, 2), (4, .invokestatic 110, 3), (7, .ifCond .eq 13, 3), (10, .iload_n 2, 1), (11, .iconst 0, 1), (12, .bipush 7, 2), (14, .invokestatic 110, 3), (17, .ifCond .ne 6, 3), (20, .bipush (-2), 2), (22, .ireturn, 1), (23, .aload_n 0, 1), (24, .getfield 10, 3), (27, .getfield 202, 3), (30, .bipush 8, 2), (32, .if_icmp .lt 6, 3), (35, .bipush (-4), 2), (37, .ireturn, 1), (38, .aload_n 0, 1), (39, .getfield 10, 3), (42, .iload_n 1, 1), (43, .iload_n 2, 1), (44, .iload_n 3, 1), (45, .invokevirtual 205, 3), (48, .aload_n 0, 1), (49, .getfield 10, 3), (52, .getfield 202, 3), (55, .ireturn, 1)]
theorem zd_98 : ∀ q ∈ zp_98, decode cX9_seen q.1 = .ok q.2 := by decide +kernel
/-- BenchMemories.clear()I -/
def zp_99 : List (Nat × Instr × Nat) := [(0, .aload_n 0, 1), (1, .getfield 10, 3), (4, .getfield 202, 3), (7, .istore_n 1, 1), (8, .aload_n 0, 1), (9, .getfield 10, 3), (12, .invokevirtual 208, 3), (15, .iload_n 1, 1), (16, .ireturn, 1)]
theorem zd_99 : ∀ q ∈ zp_99, decode cX9_clear q.1 = .ok q.2 := by decide +kernel
/-- BenchMemories.fits(I)I -/
def zp_100 : List (Nat × Instr × Nat) := [(0, .aload_n 0, 1), (1, .getfield 60, 3), (4, .aload_n 0, 1), (5, .getfield 10, 3), (8, .invokevirtual 211, 3), (11, .iload_n 1, 1), (12, .iconst (-1), 1), (13, .if_icmp .ne 11, 3), (16, .aload_n 0, 1), (17, .getfield 60, 3), (20, .getfield 214, 3), (23, .ireturn, 1), (24, .iload_n 1, 1), (25, .iconst 0, 1), (26, .aload_n 0, 1), (27, .getfield 60, 3), (30, .getfield 214, 3), (33, .iconst 1, 1), (34, .isub, 1), (35, .invokestatic 110, 3), (38, .ifCond .eq 17, 3), (41, .aload_n 0, 1), (42, .getfield 60, 3), (45, .getfield 215, 3), (48, .iload_n 1, 1), (49, .invokevirtual 157, 3), (52, .goto 5, 3), (55, .bipush (-6), 2), (57, .ireturn, 1)]
theorem zd_100 : ∀ q ∈ zp_100, decode cX9_fits q.1 = .ok q.2 := by decide +kernel
/-- BenchMemories.ask(I)I -/
def zp_101 : List (Nat × Instr × Nat) := [(0, .iload_n 1, 1), (1, .iconst 0, 1), (2, .iconst 1, 1), (3, .invokestatic 110, 3), (6, .ifCond .ne 6, 3), (9, .bipush (-2), 2), (11, .ireturn, 1), (12, .aload_n 0, 1), (13, .getfield 60, 3), (16, .aload_n 0, 1), (17, .getfield 10, 3), (20, .invokevirtual 211, 3), (23, .aload_n 0, 1), (24, .getfield 60, 3), (27, .getfield 214, 3), (30, .ifCond .ne 6, 3), (33, .bipush (-6), 2), (35, .ireturn, 1), (36, .aload_n 0, 1), (37, .getfield 60, 3), (40, .invokevirtual 218, 3), (43, .iload_n 1, 1), (44, .ifCond .ne 13, 3), (47, .aload_n 0, 1), (48, .getfield 60, 3), (51, .getfield 221, 3), (54, .goto 10, 3), (57, .aload_n 0, 1), (58, .getfield 60, 3), (61, .getfield 224, 3), (64, .ireturn, 1)]
theorem zd_101 : ∀ q ∈ zp_101, decode cX9_ask q.1 = .ok q.2 := by decide +kernel
/-- BenchMemories.take(II)I -/
def zp_102 : List (Nat × Instr × Nat) := [(0, .iload_n 1, 1), (1, .iconst 0, 1), (2, .bipush 40, 2), (4, .invokestatic 110, 3), (7, .ifCond .eq 12, 3), (10, .iload_n 2, 1), (11, .iconst 0, 1), (12, .iconst 1, 1), (13, .invokestatic 110, 3), (16, .ifCond .ne 6, 3), (19, .bipush (-2), 2), (21, .ireturn, 1), (22, .aload_n 0, 1), (23, .getfield 67, 3), (26, .iload_n 1, 1), (27, .invokevirtual 227, 3), (30, .istore_n 3, 1), (31, .iload_n 2, 1), (32, .iconst 1, 1), (33, .if_icmp .ne 5, 3), (36, .iload_n 3, 1), (37, .ireturn, 1), (38, .iload_n 3, 1), (39, .bipush (-6), 2), (41, .if_icmp .ne 7, 3), (44, .iconst 0, 1), (45, .goto 4, 3), (48, .iconst 1, 1), (49, .ireturn, 1)]
theorem zd_102 : ∀ q ∈ zp_102, decode cX9_take q.1 = .ok q.2 := by decide +kernel
/-- BenchMemories.evenings(IIII)J -/
def zp_103 : List (Nat × Instr × Nat) := [(0, .iload_n 1, 1), (1, .iconst 0, 1), (2, .bipush 12, 2), (4, .invokestatic 110, 3), (7, .ifCond .eq 36, 3), (10, .iload_n 2, 1), (11, .iconst 1, 1), (12, .bipush 10, 2), (14, .invokestatic 110, 3), (17, .ifCond .eq 26, 3), (20, .iload_n 3, 1), (21, .iconst 0, 1), (22, .iconst 1, 1), (23, .invokestatic 110, 3), (26, .ifCond .eq 17, 3), (29, .iload 4, 2), (31, .iconst 0, 1), (32, .iconst 1, 1), (33, .invokestatic 110, 3), (36, .ifCond .eq 7, 3), (39, .iconst 1, 1), (40, .goto 4, 3), (43, .iconst 0, 1), (44, .istore 5, 2), (46, .iload 5, 2), (48, .ifCond .ne 7, 3), (51, .ldc2_w 230, 3), (54, .lreturn, 1), (55, .iload_n 2, 1), (56, .iload_n 1, 1), (57, .invokestatic 232, 3), (60, .lstore 6, 2), (62, .lload 6, 2), (64, .iload_n 2, 1), (65, .iconst 1, 1), (66, .isub, 1), (67, .iload_n 1, 1), (68, .invokestatic 232, 3), (71, .lsub, 1), (72, .lstore 8, 2), (74, .iload_n 3, 1), (75, .iconst 1, 1), (76, .if_icmp .ne 10, 3), (79, .lload 8, 2), (81, .iload_n 2, 1), (82, .i2l, 1), (83, .lmul, 1), (84, .lstore 8, 2), (86, .lconst 1, 1), (87, .lload 8, 2), (89, .lload 6, 2), (91, .invokestatic 236, 3), (94, .invokestatic 240, 3), (97, .lstore 10, 2), (99, .iload 4, 2), (101, .ifCond .ne 8, 3), (104, .lload 8, 2), (106, .goto 5, 3), (109, .lload 6, 2), (111, .lload 10, 2), (113, .ldiv, 1), (114, .lreturn, 1)]
theorem zd_103 : ∀ q ∈ zp_103, decode cX9_evenings q.1 = .ok q.2 := by decide +kernel
/-- BenchMemories.season(III)I -/
def zp_104 : List (Nat × Instr × Nat) := [(0, .iload_n 1, 1), (1, .iconst 0, 1), (2, .sipush 9999, 3), (5, .invokestatic 110, 3), (8, .ifCond .eq 26, 3), (11, .iload_n 2, 1), (12, .iconst 1, 1), (13, .bipush 99, 2), (15, .invokestatic 110, 3), (18, .ifCond .eq 16, 3), (21, .iload_n 3, 1), (22, .iconst 0, 1), (23, .iconst 2, 1), (24, .invokestatic 110, 3), (27, .ifCond .eq 7, 3), (30, .iconst 1, 1), (31, .goto 4, 3), (34, .iconst 0, 1), (35, .istore 4, 2), (37, .iload 4, 2), (39, .ifCond .ne 6, 3), (42, .bipush (-2), 2), (44, .ireturn, 1), (45, .aload_n 0, 1), (46, .getfield 32, 3), (49, .aload_n 0, 1), (50, .getfield 10, 3), (53, .iload_n 1, 1), (54, .iload_n 2, 1), (55, .invokevirtual 245, 3), (58, .iload_n 3, 1), (59, .iconst 2, 1), (60, .if_icmp .ne 14, 3), (63, .aload_n 0, 1), (64, .getfield 32, 3), (67, .getfield 147, 3), (70, .getfield 249, 3), (73, .ireturn, 1), (74, .iload_n 3, 1), (75, .ifCond .ne 16, 3), (78, .aload_n 0, 1), (79, .getfield 32, 3), (82, .getfield 147, 3), (85, .invokevirtual 252, 3), (88, .goto 13, 3), (91, .aload_n 0, 1), (92, .getfield 32, 3), (95, .getfield 147, 3), (98, .invokevirtual 255, 3), (101, .ireturn, 1)]
theorem zd_104 : ∀ q ∈ zp_104, decode cX9_season q.1 = .ok q.2 := by decide +kernel
/-- BenchMemories.image(I)I -/
def zp_105 : List (Nat × Instr × Nat) := [(0, .iload_n 1, 1), (1, .iconst 0, 1), (2, .iconst 1, 1), (3, .invokestatic 110, 3), (6, .ifCond .ne 6, 3), (9, .bipush (-2), 2), (11, .ireturn, 1), (12, .iload_n 1, 1), (13, .ifCond .ne 10, 3), (16, .aload_n 0, 1), (17, .getfield 16, 3), (20, .goto 7, 3), (23, .aload_n 0, 1), (24, .getfield 19, 3), (27, .astore_n 2, 1), (28, .aload_n 2, 1), (29, .aload_n 0, 1), (30, .getfield 10, 3), (33, .invokevirtual 165, 3), (36, .aload_n 0, 1), (37, .dup, 1), (38, .getfield 258, 3), (41, .iconst 1, 1), (42, .iload_n 1, 1), (43, .ishl, 1), (44, .ior, 1), (45, .putfield 258, 3), (48, .iconst 1, 1), (49, .ireturn, 1)]
theorem zd_105 : ∀ q ∈ zp_105, decode cX9_image q.1 = .ok q.2 := by decide +kernel
/-- BenchMemories.restore(I)I -/
def zp_106 : List (Nat × Instr × Nat) := [(0, .iload_n 1, 1), (1, .iconst 0, 1), (2, .iconst 1, 1), (3, .invokestatic 110, 3), (6, .ifCond .ne 6, 3), (9, .bipush (-2), 2), (11, .ireturn, 1), (12, .aload_n 0, 1), (13, .getfield 258, 3), (16, .iload_n 1, 1), (17, .invokestatic 261, 3), (20, .ifCond .ne 6, 3), (23, .bipush (-3), 2), (25, .ireturn, 1), (26, .aload_n 0, 1), (27, .getfield 10, 3), (30, .iload_n 1, 1), (31, .ifCond .ne 10, 3), (34, .aload_n 0, 1), (35, .getfield 16, 3), (38, .goto 7, 3), (41, .aload_n 0, 1), (42, .getfield 19, 3), (45, .invokevirtual 165, 3), (48, .iconst 1, 1), (49, .ireturn, 1)]
theorem zd_106 : ∀ q ∈ zp_106, decode cX9_restore q.1 = .ok q.2 := by decide +kernel
/-- BenchMemories.told(I)I -/
def zp_107 : List (Nat × Instr × Nat) := [(0, .iload_n 1, 1), (1, .tableswitch 63 0 3 #[31, 39, 47, 55], 31), (32, .aload_n 0, 1), (33, .getfield 25, 3), (36, .getfield 121, 3), (39, .ireturn, 1), (40, .aload_n 0, 1), (41, .getfield 10, 3), (44, .getfield 265, 3), (47, .ireturn, 1), (48, .aload_n 0, 1), (49, .getfield 10, 3), (52, .getfield 249, 3), (55, .ireturn, 1), (56, .aload_n 0, 1), (57, .getfield 10, 3), (60, .getfield 202, 3), (63, .ireturn, 1), (64, .aload_n 0, 1), (65, .iload_n 1, 1), (66, .invokevirtual 268, 3), (69, .ireturn, 1)]
theorem zd_107 : ∀ q ∈ zp_107, decode cX9_told q.1 = .ok q.2 := by decide +kernel
/-- BenchMemories.toldOfOne(I)I -/
def zp_108 : List (Nat × Instr × Nat) := [(0, .iload_n 1, 1), (1, .bipush 10, 2), (3, .isub, 1), (4, .invokestatic 71, 3), (7, .ifCond .eq 15, 3), (10, .aload_n 0, 1), (11, .getfield 10, 3), (14, .iload_n 1, 1), (15, .bipush 10, 2), (17, .isub, 1), (18, .invokevirtual 271, 3), (21, .ireturn, 1), (22, .iload_n 1, 1), (23, .bipush 20, 2), (25, .isub, 1), (26, .invokestatic 71, 3), (29, .ifCond .eq 15, 3), (32, .aload_n 0, 1), (33, .getfield 10, 3), (36, .iload_n 1, 1), (37, .bipush 20, 2), (39, .isub, 1), (40, .invokevirtual 114, 3), (43, .ireturn, 1), (44, .iload_n 1, 1), (45, .bipush 30, 2), (47, .isub, 1), (48, .invokestatic 71, 3), (51, .ifCond .eq 15, 3), (54, .aload_n 0, 1), (55, .getfield 10, 3), (58, .iload_n 1, 1), (59, .bipush 30, 2), (61, .isub, 1), (62, .invokevirtual 150, 3), (65, .ireturn, 1), (66, .iload_n 1, 1), (67, .bipush 40, 2), (69, .isub, 1), (70, .invokestatic 83, 3), (73, .ifCond .eq 15, 3), (76, .aload_n 0, 1), (77, .getfield 10, 3), (80, .iload_n 1, 1), (81, .bipush 40, 2), (83, .isub, 1), (84, .invokevirtual 86, 3), (87, .ireturn, 1), (88, .iload_n 1, 1), (89, .bipush 50, 2), (91, .isub, 1), (92, .invokestatic 83, 3), (95, .ifCond .eq 15, 3), (98, .aload_n 0, 1), (99, .getfield 10, 3), (102, .iload_n 1, 1), (103, .bipush 50, 2), (105, .isub, 1), (106, .invokevirtual 100, 3), (109, .ireturn, 1), (110, .iload_n 1, 1), (111, .bipush 100, 2), (113, .isub, 1), (114, .invokestatic 94, 3), (117, .ifCond .eq 17, 3), (120, .aload_n 0, 1), (121, .getfield 10, 3), (124, .iload_n 1, 1), (125, .bipush 100, 2), (127, .isub, 1), (128, .invokevirtual 97, 3), (131, .goto 5, 3), (134, .bipush (-2), 2), (136, .ireturn, 1)]
theorem zd_108 : ∀ q ∈ zp_108, decode cX9_toldOfOne q.1 = .ok q.2 := by decide +kernel
/-- BenchMemories.isWithin(III)Z -/
def zp_109 : List (Nat × Instr × Nat) := [(0, .iload_n 0, 1), (1, .iload_n 1, 1), (2, .if_icmp .lt 12, 3), (5, .iload_n 0, 1), (6, .iload_n 2, 1), (7, .if_icmp .gt 7, 3), (10, .iconst 1, 1), (11, .goto 4, 3), (14, .iconst 0, 1), (15, .ireturn, 1)]
theorem zd_109 : ∀ q ∈ zp_109, decode cX9_isWithin q.1 = .ok q.2 := by decide +kernel
/-- BenchMemories.isBench(I)Z -/
def zp_110 : List (Nat × Instr × Nat) := [(0, .iload_n 0, 1), (1, .iconst 0, 1), (2, .bipush 9, 2), (4, .invokestatic 110, 3), (7, .ireturn, 1)]
theorem zd_110 : ∀ q ∈ zp_110, decode cX9_isBench q.1 = .ok q.2 := by decide +kernel
/-- BenchMemories.isOne(I)Z -/
def zp_111 : List (Nat × Instr × Nat) := [(0, .iload_n 0, 1), (1, .iconst 0, 1), (2, .bipush 7, 2), (4, .invokestatic 110, 3), (7, .ireturn, 1)]
theorem zd_111 : ∀ q ∈ zp_111, decode cX9_isOne q.1 = .ok q.2 := by decide +kernel
/-- BenchMemories.isMemory(I)Z -/
def zp_112 : List (Nat × Instr × Nat) := [(0, .iload_n 0, 1), (1, .iconst 0, 1), (2, .bipush 11, 2), (4, .invokestatic 110, 3), (7, .ireturn, 1)]
theorem zd_112 : ∀ q ∈ zp_112, decode cX9_isMemory q.1 = .ok q.2 := by decide +kernel
/-- BenchMemories.has(II)Z -/
def zp_113 : List (Nat × Instr × Nat) := [(0, .iload_n 0, 1), (1, .iload_n 1, 1), (2, .ishr, 1), (3, .iconst 1, 1), (4, .iand, 1), (5, .ifCond .eq 7, 3), (8, .iconst 1, 1), (9, .goto 4, 3), (12, .iconst 0, 1), (13, .ireturn, 1)]
theorem zd_113 : ∀ q ∈ zp_113, decode cX9_has q.1 = .ok q.2 := by decide +kernel
/-- BenchMemories.power(II)J -/
def zp_114 : List (Nat × Instr × Nat) := [(0, .lconst 1, 1), (1, .lstore_n 2, 1), (2, .iconst 0, 1), (3, .istore 4, 2), (5, .iload 4, 2), (7, .iload_n 1, 1), (8, .if_icmp .ge 14, 3), (11, .lload_n 2, 1), (12, .iload_n 0, 1), (13, .i2l, 1), (14, .lmul, 1), (15, .lstore_n 2, 1), (16, .iinc 4 1, 3), (19, .goto (-14), 3), (22, .lload_n 2, 1), (23, .lreturn, 1)]
theorem zd_114 : ∀ q ∈ zp_114, decode cX9_power q.1 = .ok q.2 := by decide +kernel
/-- BenchMemories.commonDivisor(JJ)J -/
def zp_115 : List (Nat × Instr × Nat) := [(0, .lload_n 0, 1), (1, .lstore 4, 2), (3, .lload_n 2, 1), (4, .lstore 6, 2), (6, .iconst 0, 1), (7, .istore 8, 2), (9, .iload 8, 2), (11, .sipush 200, 3), (14, .if_icmp .ge 31, 3), (17, .lload 6, 2), (19, .lconst 0, 1), (20, .lcmp, 1), (21, .ifCond .eq 24, 3), (24, .lload 4, 2), (26, .lload 6, 2), (28, .lrem, 1), (29, .lstore 9, 2), (31, .lload 6, 2), (33, .lstore 4, 2), (35, .lload 9, 2), (37, .lstore 6, 2), (39, .iinc 8 1, 3), (42, .goto (-33), 3), (45, .lload 4, 2), (47, .lreturn, 1)]
theorem zd_115 : ∀ q ∈ zp_115, decode cX9_commonDivisor q.1 = .ok q.2 := by decide +kernel
/-- BenchMemoriesModel.<init>()V -/
def zp_116 : List (Nat × Instr × Nat) := [(0, .aload_n 0, 1), (1, .invokespecial 1, 3), (4, .aload_n 0, 1), (5, .bipush 10, 2), (7, .newarray .int, 2), (9, .putfield 7, 3), (12, .aload_n 0, 1), (13, .bipush 8, 2), (15, .newarray .int, 2), (17, .putfield 13, 3), (20, .aload_n 0, 1), (21, .bipush 8, 2), (23, .newarray .int, 2), (25, .putfield 16, 3), (28, .aload_n 0, 1), (29, .bipush 10, 2), (31, .newarray .int, 2), (33, .putfield 19, 3), (36, .aload_n 0, 1), (37, .bipush 10, 2), (39, .newarray .int, 2), (41, .putfield 22, 3), (44, .aload_n 0, 1), (45, .bipush 8, 2), (47, .newarray .int, 2), (49, .putfield 25, 3), (52, .aload_n 0, 1), (53, .bipush 8, 2), (55, .newarray .int, 2), (57, .putfield 28, 3), (60, .aload_n 0, 1), (61, .bipush 8, 2), (63, .newarray .int, 2), (65, .putfield 31, 3), (68, .aload_n 0, 1), (69, .bipush 60, 2), (71, .newarray .int, 2), (73, .putfield 34, 3), (76, .aload_n 0, 1), (77, .bipush 60, 2), (79, .newarray .int, 2), (81, .putfield 37, 3), (84, .aload_n 0, 1), (85, .bipush 60, 2), (87, .newarray .int, 2), (89, .putfield 40, 3), (92, .aload_n 0, 1), (93, .bipush 60, 2), (95, .newarray .int, 2), (97, .putfield 43, 3), (100, .aload_n 0, 1), (101, .bipush 12, 2), (103, .newarray .int, 2), (105, .putfield 46, 3), (108, .aload_n 0, 1), (109, .bipush 38, 2), (111, .newarray .int, 2), (113, .putfield 49, 3), (116, .aload_n 0, 1), (117, .sipush 10240, 3), (120, .newarray .int, 2), (122, .putfield 52, 3), (125, .aload_n 0, 1), (126, .bipush 100, 2), (128, .newarray .int, 2), (130, .putfield 55, 3), (133, .aload_n 0, 1), (134, .bipush 7, 2), (136, .newarray .int, 2), (138, .putfield 58, 3), (141, .aload_n 0, 1), (142, .bipush 8, 2), (144, .newarray .int, 2), (146, .putfield 61, 3), (149, .aload_n 0, 1), (150, .bipush 41, 2), (152, .newarray .int, 2), (154, .putfield 64, 3), (157, .aload_n 0, 1), (158, .sipush 128, 3), (161, .newarray .boolean, 2), (163, .putfield 67, 3), (166, .aload_n 0, 1), (167, .sipush 200, 3), (170, .newarray .int, 2), (172, .putfield 71, 3), (175, .aload_n 0, 1), (176, .iconst 2, 1), (177, .newarray .boolean, 2), (179, .putfield 74, 3), (182, .iconst 0, 1), (183, .istore_n 1, 1), (184, .iload_n 1, 1), (185, .bipush 8, 2), (187, .if_icmp .ge 23, 3), (190, .aload_n 0, 1), (191, .getfield 13, 3), (194, .iload_n 1, 1), (195, .iload_n 1, 1), (196, .iastore, 1), (197, .aload_n 0, 1), (198, .getfield 16, 3), (201, .iload_n 1, 1), (202, .iload_n 1, 1), (203, .iastore, 1), (204, .iinc 1 1, 3), (207, .goto (-23), 3), (210, .iconst 0, 1), (211, .istore_n 1, 1), (212, .iload_n 1, 1), (213, .bipush 10, 2), (215, .if_icmp .ge 25, 3), (218, .aload_n 0, 1), (219, .getfield 19, 3), (222, .iload_n 1, 1), (223, .bipush (-6), 2), (225, .iastore, 1), (226, .aload_n 0, 1), (227, .getfield 22, 3), (230, .iload_n 1, 1), (231, .bipush (-6), 2), (233, .iastore, 1), (234, .iinc 1 1, 3), (237, .goto (-25), 3), (240, .return_, 1)]
theorem zd_116 : ∀ q ∈ zp_116, decode cX10_init q.1 = .ok q.2 := by decide +kernel
/-- BenchMemoriesModel.in(JJJ)Z -/
def zp_117 : List (Nat × Instr × Nat) := [(0, .lload_n 0, 1), (1, .lload_n 2, 1), (2, .lcmp, 1), (3, .ifCond .lt 14, 3), (6, .lload_n 0, 1), (7, .lload 4, 2), (9, .lcmp, 1), (10, .ifCond .gt 7, 3), (13, .iconst 1, 1), (14, .goto 4, 3), (17, .iconst 0, 1), (18, .ireturn, 1)]
theorem zd_117 : ∀ q ∈ zp_117, decode cX10_in q.1 = .ok q.2 := by decide +kernel
/-- BenchMemoriesModel.isBench(I)Z -/
def zp_118 : List (Nat × Instr × Nat) := [(0, .iload_n 0, 1), (1, .i2l, 1), (2, .lconst 0, 1), (3, .ldc2_w 77, 3), (6, .invokestatic 79, 3), (9, .ireturn, 1)]
theorem zd_118 : ∀ q ∈ zp_118, decode cX10_isBench q.1 = .ok q.2 := by decide +kernel
/-- BenchMemoriesModel.isOne(I)Z -/
def zp_119 : List (Nat × Instr × Nat) := [(0, .iload_n 0, 1), (1, .i2l, 1), (2, .lconst 0, 1), (3, .ldc2_w 83, 3), (6, .invokestatic 79, 3), (9, .ireturn, 1)]
theorem zd_119 : ∀ q ∈ zp_119, decode cX10_isOne q.1 = .ok q.2 := by decide +kernel
/-- BenchMemoriesModel.isMemory(I)Z -/
def zp_120 : List (Nat × Instr × Nat) := [(0, .iload_n 0, 1), (1, .i2l, 1), (2, .lconst 0, 1), (3, .ldc2_w 85, 3), (6, .invokestatic 79, 3), (9, .ireturn, 1)]
theorem zd_120 : ∀ q ∈ zp_120, decode cX10_isMemory q.1 = .ok q.2 := by decide +kernel
/-- BenchMemoriesModel.isIn(II)Z -/
def zp_121 : List (Nat × Instr × Nat) := [(0, .iload_n 0, 1), (1, .iload_n 1, 1), (2, .ishr, 1), (3, .iconst 1, 1), (4, .iand, 1), (5, .iconst 1, 1), (6, .if_icmp .ne 7, 3), (9, .iconst 1, 1), (10, .goto 4, 3), (13, .iconst 0, 1), (14, .ireturn, 1)]
theorem zd_121 : ∀ q ∈ zp_121, decode cX10_isIn q.1 = .ok q.2 := by decide +kernel
/-- BenchMemoriesModel.with(IIZ)I -/
def zp_122 : List (Nat × Instr × Nat) := [(0, .iload_n 2, 1), (1, .ifCond .eq 11, 3), (4, .iload_n 0, 1), (5, .iconst 1, 1), (6, .iload_n 1, 1), (7, .ishl, 1), (8, .ior, 1), (9, .goto 10, 3), (12, .iload_n 0, 1), (13, .iconst 1, 1), (14, .iload_n 1, 1), (15, .ishl, 1), (16, .iconst (-1), 1), (17, .ixor, 1), (18, .iand, 1), (19, .ireturn, 1)]
theorem zd_122 : ∀ q ∈ zp_122, decode cX10_with q.1 = .ok q.2 := by decide +kernel
/-- BenchMemoriesModel.ones(I)I -/
def zp_123 : List (Nat × Instr × Nat) := [(0, .iconst 0, 1), (1, .istore_n 1, 1), (2, .iload_n 0, 1), (3, .istore_n 2, 1), (4, .iload_n 2, 1), (5, .ifCond .eq 15, 3), (8, .iinc 1 1, 3), (11, .iload_n 2, 1), (12, .iload_n 2, 1), (13, .iconst 1, 1), (14, .isub, 1), (15, .iand, 1), (16, .istore_n 2, 1), (17, .goto (-13), 3), (20, .iload_n 1, 1), (21, .ireturn, 1)]
theorem zd_123 : ∀ q ∈ zp_123, decode cX10_ones q.1 = .ok q.2 := by decide +kernel
/-- BenchMemoriesModel.way(IIZ)I -/
def zp_124 : List (Nat × Instr × Nat) := [(0, .iload_n 1, 1), (1, .invokestatic 87, 3), (4, .ifCond .eq 15, 3), (7, .iload_n 2, 1), (8, .invokestatic 87, 3), (11, .ifCond .eq 8, 3), (14, .iload_n 1, 1), (15, .iload_n 2, 1), (16, .if_icmp .ne 5, 3), (19, .iconst (-1), 1), (20, .ireturn, 1), (21, .aload_n 0, 1), (22, .getfield 7, 3), (25, .iload_n 1, 1), (26, .aload_n 0, 1), (27, .getfield 7, 3), (30, .iload_n 1, 1), (31, .iaload, 1), (32, .iload_n 2, 1), (33, .iload_n 3, 1), (34, .invokestatic 91, 3), (37, .iastore, 1), (38, .aload_n 0, 1), (39, .getfield 7, 3), (42, .iload_n 2, 1), (43, .aload_n 0, 1), (44, .getfield 7, 3), (47, .iload_n 2, 1), (48, .iaload, 1), (49, .iload_n 1, 1), (50, .iload_n 3, 1), (51, .invokestatic 91, 3), (54, .iastore, 1), (55, .iconst 0, 1), (56, .istore 4, 2), (58, .iconst 0, 1), (59, .istore 5, 2), (61, .iload 5, 2), (63, .bipush 10, 2), (65, .if_icmp .ge 24, 3), (68, .iload 4, 2), (70, .aload_n 0, 1), (71, .getfield 7, 3), (74, .iload 5, 2), (76, .iaload, 1), (77, .invokestatic 95, 3), (80, .iadd, 1), (81, .istore 4, 2), (83, .iinc 5 1, 3), (86, .goto (-25), 3), (89, .iload 4, 2), (91, .iconst 2, 1), (92, .idiv, 1), (93, .ireturn, 1)]
theorem zd_124 : ∀ q ∈ zp_124, decode cX10_way q.1 = .ok q.2 := by decide +kernel
/-- BenchMemoriesModel.stand(II)I -/
def zp_125 : List (Nat × Instr × Nat) := [(0, .iload_n 1, 1), (1, .invokestatic 99, 3), (4, .ifCond .eq 10, 3), (7, .iload_n 2, 1), (8, .invokestatic 87, 3), (11, .ifCond .ne 5, 3), (14, .iconst (-1), 1), (15, .ireturn, 1), (16, .aload_n 0, 1), (17, .getfield 13, 3), (20, .iload_n 1, 1), (21, .iaload, 1), (22, .istore_n 3, 1), (23, .aload_n 0, 1), (24, .getfield 13, 3), (27, .iload_n 1, 1), (28, .iload_n 2, 1), (29, .iastore, 1), (30, .iload_n 3, 1), (31, .ireturn, 1)]
theorem zd_125 : ∀ q ∈ zp_125, decode cX10_stand q.1 = .ok q.2 := by decide +kernel
/-- BenchMemoriesModel.whereIs(I)I -/
def zp_126 : List (Nat × Instr × Nat) := [(0, .bipush (-6), 2), (2, .istore_n 2, 1), (3, .iconst 0, 1), (4, .istore_n 3, 1), (5, .iload_n 3, 1), (6, .bipush 8, 2), (8, .if_icmp .ge 25, 3), (11, .aload_n 0, 1), (12, .getfield 16, 3), (15, .iload_n 3, 1), (16, .iaload, 1), (17, .iload_n 1, 1), (18, .if_icmp .ne 7, 3), (21, .iload_n 3, 1), (22, .goto 4, 3), (25, .iload_n 2, 1), (26, .istore_n 2, 1), (27, .iinc 3 1, 3), (30, .goto (-25), 3), (33, .iconst 0, 1), (34, .istore_n 3, 1), (35, .iload_n 3, 1), (36, .bipush 10, 2), (38, .if_icmp .ge 28, 3), (41, .aload_n 0, 1), (42, .getfield 19, 3), (45, .iload_n 3, 1), (46, .iaload, 1), (47, .iload_n 1, 1), (48, .if_icmp .ne 10, 3), (51, .bipush 10, 2), (53, .iload_n 3, 1), (54, .iadd, 1), (55, .goto 4, 3), (58, .iload_n 2, 1), (59, .istore_n 2, 1), (60, .iinc 3 1, 3), (63, .goto (-28), 3), (66, .iload_n 2, 1), (67, .ireturn, 1)]
theorem zd_126 : ∀ q ∈ zp_126, decode cX10_whereIs q.1 = .ok q.2 := by decide +kernel
/-- BenchMemoriesModel.lose(I)I -/
def zp_127 : List (Nat × Instr × Nat) := [(0, .aload_n 0, 1), (1, .iload_n 1, 1), (2, .invokevirtual 102, 3), (5, .istore_n 2, 1), (6, .iload_n 2, 1), (7, .bipush 10, 2), (9, .if_icmp .lt 28, 3), (12, .aload_n 0, 1), (13, .getfield 19, 3), (16, .iload_n 2, 1), (17, .bipush 10, 2), (19, .isub, 1), (20, .bipush (-6), 2), (22, .iastore, 1), (23, .aload_n 0, 1), (24, .getfield 22, 3), (27, .iload_n 2, 1), (28, .bipush 10, 2), (30, .isub, 1), (31, .bipush (-6), 2), (33, .iastore, 1), (34, .goto 15, 3), (37, .iload_n 2, 1), (38, .ifCond .lt 11, 3), (41, .aload_n 0, 1), (42, .getfield 16, 3), (45, .iload_n 2, 1), (46, .bipush (-6), 2), (48, .iastore, 1), (49, .iload_n 2, 1), (50, .ireturn, 1)]
theorem zd_127 : ∀ q ∈ zp_127, decode cX10_lose q.1 = .ok q.2 := by decide +kernel
/-- BenchMemoriesModel.give(II)I -/
def zp_128 : List (Nat × Instr × Nat) := [(0, .iload_n 1, 1), (1, .invokestatic 105, 3), (4, .ifCond .eq 10, 3), (7, .iload_n 2, 1), (8, .invokestatic 99, 3), (11, .ifCond .ne 5, 3), (14, .iconst (-1), 1), (15, .ireturn, 1), (16, .aload_n 0, 1), (17, .iload_n 1, 1), (18, .invokevirtual 108, 3), (21, .istore_n 3, 1), (22, .aload_n 0, 1), (23, .getfield 16, 3), (26, .iload_n 2, 1), (27, .iload_n 1, 1), (28, .iastore, 1), (29, .iload_n 3, 1), (30, .ireturn, 1)]
theorem zd_128 : ∀ q ∈ zp_128, decode cX10_give q.1 = .ok q.2 := by decide +kernel
/-- BenchMemoriesModel.lay(III)I -/
def zp_129 : List (Nat × Instr × Nat) := [(0, .iload_n 1, 1), (1, .invokestatic 105, 3), (4, .ifCond .eq 10, 3), (7, .iload_n 2, 1), (8, .invokestatic 87, 3), (11, .ifCond .ne 5, 3), (14, .iconst (-1), 1), (15, .ireturn, 1), (16, .iload_n 3, 1), (17, .i2l, 1), (18, .lconst 1, 1), (19, .ldc2_w 77, 3), (22, .invokestatic 79, 3), (25, .ifCond .ne 6, 3), (28, .bipush (-2), 2), (30, .ireturn, 1), (31, .aload_n 0, 1), (32, .iload_n 1, 1), (33, .invokevirtual 108, 3), (36, .istore 4, 2), (38, .aload_n 0, 1), (39, .getfield 19, 3), (42, .iload_n 2, 1), (43, .iload_n 1, 1), (44, .iastore, 1), (45, .aload_n 0, 1), (46, .getfield 22, 3), (49, .iload_n 2, 1), (50, .iload_n 3, 1), (51, .iastore, 1), (52, .iload 4, 2), (54, .ireturn, 1)]
theorem zd_129 : ∀ q ∈ zp_129, decode cX10_lay q.1 = .ok q.2 := by decide +kernel
/-- BenchMemoriesModel.forget(I)I -/
def zp_130 : List (Nat × Instr × Nat) := [(0, .iload_n 1, 1), (1, .invokestatic 105, 3), (4, .ifCond .eq 11, 3), (7, .aload_n 0, 1), (8, .iload_n 1, 1), (9, .invokevirtual 108, 3), (12, .goto 4, 3), (15, .iconst (-1), 1), (16, .ireturn, 1)]
theorem zd_130 : ∀ q ∈ zp_130, decode cX10_forget q.1 = .ok q.2 := by decide +kernel
/-- BenchMemoriesModel.say(I)I -/
def zp_131 : List (Nat × Instr × Nat) := [(0, .iload_n 1, 1), (1, .i2l, 1), (2, .ldc2_w 111, 3), (5, .ldc2_w 113, 3), (8, .invokestatic 79, 3), (11, .ifCond .ne 6, 3), (14, .bipush (-2), 2), (16, .ireturn, 1), (17, .aload_n 0, 1), (18, .getfield 115, 3), (21, .bipush 60, 2), (23, .if_icmp .ne 6, 3), (26, .bipush (-4), 2), (28, .ireturn, 1), (29, .aload_n 0, 1), (30, .getfield 34, 3), (33, .aload_n 0, 1), (34, .getfield 115, 3), (37, .iload_n 1, 1), (38, .iastore, 1), (39, .aload_n 0, 1), (40, .dup, 1), (41, .getfield 115, 3), (44, .iconst 1, 1), (45, .iadd, 1), (46, .putfield 115, 3), (49, .aload_n 0, 1), (50, .getfield 115, 3), (53, .ireturn, 1)]
theorem zd_131 : ∀ q ∈ zp_131, decode cX10_say q.1 = .ok q.2 := by decide +kernel
/-- BenchMemoriesModel.wipe()I -/
def zp_132 : List (Nat × Instr × Nat) := [(0, .aload_n 0, 1), (1, .getfield 115, 3), (4, .istore_n 1, 1), (5, .aload_n 0, 1), (6, .iconst 0, 1), (7, .putfield 115, 3), (10, .iload_n 1, 1), (11, .ireturn, 1)]
theorem zd_132 : ∀ q ∈ zp_132, decode cX10_wipe q.1 = .ok q.2 := by decide +kernel
/-- BenchMemoriesModel.close(II)I -/
def zp_133 : List (Nat × Instr × Nat) := [(0, .aload_n 0, 1), (1, .getfield 37, 3), (4, .aload_n 0, 1), (5, .getfield 119, 3), (8, .iload_n 1, 1), (9, .iastore, 1), (10, .aload_n 0, 1), (11, .getfield 43, 3), (14, .aload_n 0, 1), (15, .getfield 119, 3), (18, .iload_n 2, 1), (19, .iastore, 1), (20, .aload_n 0, 1), (21, .dup, 1), (22, .getfield 119, 3), (25, .iconst 1, 1), (26, .iadd, 1), (27, .putfield 119, 3), (30, .iconst 0, 1), (31, .ireturn, 1)]
theorem zd_133 : ∀ q ∈ zp_133, decode cX10_close q.1 = .ok q.2 := by decide +kernel
/-- BenchMemoriesModel.isName(I)Z -/
def zp_134 : List (Nat × Instr × Nat) := [(0, .iload_n 0, 1), (1, .i2l, 1), (2, .ldc2_w 122, 3), (5, .ldc2_w 124, 3), (8, .invokestatic 79, 3), (11, .ireturn, 1)]
theorem zd_134 : ∀ q ∈ zp_134, decode cX10_isName q.1 = .ok q.2 := by decide +kernel
/-- BenchMemoriesModel.begin(I)I -/
def zp_135 : List (Nat × Instr × Nat) := [(0, .aload_n 0, 1), (1, .getfield 40, 3), (4, .aload_n 0, 1), (5, .getfield 119, 3), (8, .iload_n 1, 1), (9, .invokestatic 126, 3), (12, .ifCond .eq 10, 3), (15, .iload_n 1, 1), (16, .bipush 65, 2), (18, .isub, 1), (19, .goto 4, 3), (22, .iconst 0, 1), (23, .iastore, 1), (24, .iload_n 1, 1), (25, .invokestatic 126, 3), (28, .ifCond .eq 7, 3), (31, .iconst 1, 1), (32, .goto 30, 3), (35, .iload_n 1, 1), (36, .bipush 35, 2), (38, .if_icmp .ne 7, 3), (41, .iconst 3, 1), (42, .goto 20, 3), (45, .iload_n 1, 1), (46, .bipush 46, 2), (48, .if_icmp .ne 12, 3), (51, .aload_n 0, 1), (52, .iconst 5, 1), (53, .iconst 0, 1), (54, .invokevirtual 129, 3), (57, .goto 5, 3), (60, .bipush (-6), 2), (62, .ireturn, 1)]
theorem zd_135 : ∀ q ∈ zp_135, decode cX10_begin q.1 = .ok q.2 := by decide +kernel
/-- BenchMemoriesModel.deed(I)I -/
def zp_136 : List (Nat × Instr × Nat) := [(0, .iload_n 1, 1), (1, .lookupswitch 51 #[(33, 42), (95, 35), (120, 49)], 35), (36, .aload_n 0, 1), (37, .iconst 1, 1), (38, .iconst 0, 1), (39, .invokevirtual 129, 3), (42, .ireturn, 1), (43, .aload_n 0, 1), (44, .iconst 3, 1), (45, .iconst 0, 1), (46, .invokevirtual 129, 3), (49, .ireturn, 1), (50, .iconst 2, 1), (51, .ireturn, 1), (52, .iload_n 1, 1), (53, .i2l, 1), (54, .ldc2_w 133, 3), (57, .ldc2_w 135, 3), (60, .invokestatic 79, 3), (63, .ifCond .eq 15, 3), (66, .aload_n 0, 1), (67, .iconst 0, 1), (68, .iload_n 1, 1), (69, .bipush 48, 2), (71, .isub, 1), (72, .invokevirtual 129, 3), (75, .goto 5, 3), (78, .bipush (-6), 2), (80, .ireturn, 1)]
theorem zd_136 : ∀ q ∈ zp_136, decode cX10_deed q.1 = .ok q.2 := by decide +kernel
/-- BenchMemoriesModel.readOn(II)I -/
def zp_137 : List (Nat × Instr × Nat) := [(0, .iload_n 1, 1), (1, .tableswitch 61 0 2 #[27, 33, 39], 27), (28, .aload_n 0, 1), (29, .iload_n 2, 1), (30, .invokevirtual 137, 3), (33, .ireturn, 1), (34, .aload_n 0, 1), (35, .iload_n 2, 1), (36, .invokevirtual 140, 3), (39, .ireturn, 1), (40, .iload_n 2, 1), (41, .invokestatic 126, 3), (44, .ifCond .eq 15, 3), (47, .aload_n 0, 1), (48, .iconst 2, 1), (49, .iload_n 2, 1), (50, .bipush 65, 2), (52, .isub, 1), (53, .invokevirtual 129, 3), (56, .goto 5, 3), (59, .bipush (-6), 2), (61, .ireturn, 1), (62, .iload_n 2, 1), (63, .i2l, 1), (64, .ldc2_w 133, 3), (67, .ldc2_w 135, 3), (70, .invokestatic 79, 3), (73, .ifCond .eq 15, 3), (76, .aload_n 0, 1), (77, .iconst 4, 1), (78, .iload_n 2, 1), (79, .bipush 48, 2), (81, .isub, 1), (82, .invokevirtual 129, 3), (85, .goto 5, 3), (88, .bipush (-6), 2), (90, .ireturn, 1)]
theorem zd_137 : ∀ q ∈ zp_137, decode cX10_readOn q.1 = .ok q.2 := by decide +kernel
end
section
set_option maxRecDepth 100000
/-- BenchMemoriesModel.fault()I -/
def zp_138 : List (Nat × Instr × Nat) := [(0, .aload_n 0, 1), (1, .iconst 0, 1), (2, .putfield 119, 3), (5, .iconst 0, 1), (6, .istore_n 1, 1), (7, .iconst 0, 1), (8, .istore_n 2, 1), (9, .iload_n 2, 1), (10, .aload_n 0, 1), (11, .getfield 115, 3), (14, .if_icmp .ge 27, 3), (17, .aload_n 0, 1), (18, .iload_n 1, 1), (19, .aload_n 0, 1), (20, .getfield 34, 3), (23, .iload_n 2, 1), (24, .iaload, 1), (25, .invokevirtual 143, 3), (28, .istore_n 1, 1), (29, .iload_n 1, 1), (30, .ifCond .ge 5, 3), (33, .iload_n 2, 1), (34, .ireturn, 1), (35, .iinc 2 1, 3), (38, .goto (-29), 3), (41, .iload_n 1, 1), (42, .ifCond .ne 8, 3), (45, .bipush (-6), 2), (47, .goto 7, 3), (50, .aload_n 0, 1), (51, .getfield 115, 3), (54, .ireturn, 1)]
theorem zd_138 : ∀ q ∈ zp_138, decode cX10_fault q.1 = .ok q.2 := by decide +kernel
/-- BenchMemoriesModel.whyNoSeat(I)I -/
def zp_139 : List (Nat × Instr × Nat) := [(0, .aload_n 0, 1), (1, .getfield 13, 3), (4, .iload_n 1, 1), (5, .iaload, 1), (6, .istore_n 2, 1), (7, .aload_n 0, 1), (8, .getfield 146, 3), (11, .iload_n 2, 1), (12, .invokestatic 149, 3), (15, .ifCond .eq 7, 3), (18, .iconst 2, 1), (19, .goto 26, 3), (22, .aload_n 0, 1), (23, .getfield 16, 3), (26, .iload_n 1, 1), (27, .iaload, 1), (28, .ifCond .ge 16, 3), (31, .aload_n 0, 1), (32, .getfield 19, 3), (35, .iload_n 2, 1), (36, .iaload, 1), (37, .ifCond .ge 7, 3), (40, .iconst 3, 1), (41, .goto 4, 3), (44, .iconst 0, 1), (45, .ireturn, 1)]
theorem zd_139 : ∀ q ∈ zp_139, decode cX10_whyNoSeat q.1 = .ok q.2 := by decide +kernel
/-- BenchMemoriesModel.whyNoChange(II)I -/
def zp_140 : List (Nat × Instr × Nat) := [(0, .aload_n 0, 1), (1, .getfield 16, 3), (4, .iload_n 1, 1), (5, .iaload, 1), (6, .ifCond .ge 16, 3), (9, .aload_n 0, 1), (10, .getfield 16, 3), (13, .iload_n 2, 1), (14, .iaload, 1), (15, .ifCond .ge 7, 3), (18, .iconst 3, 1), (19, .goto 28, 3), (22, .iload_n 1, 1), (23, .iload_n 2, 1), (24, .if_icmp .eq 18, 3), (27, .aload_n 0, 1), (28, .getfield 13, 3), (31, .iload_n 1, 1), (32, .iaload, 1), (33, .aload_n 0, 1), (34, .getfield 13, 3), (37, .iload_n 2, 1), (38, .iaload, 1), (39, .if_icmp .eq 7, 3), (42, .iconst 4, 1), (43, .goto 4, 3), (46, .iconst 0, 1), (47, .ireturn, 1)]
theorem zd_140 : ∀ q ∈ zp_140, decode cX10_whyNoChange q.1 = .ok q.2 := by decide +kernel
/-- BenchMemoriesModel.whyNot(III)I -/
def zp_141 : List (Nat × Instr × Nat) := [(0, .iload_n 1, 1), (1, .tableswitch 106 0 5 #[39, 63, 69, 76, 106, 91], 39), (40, .aload_n 0, 1), (41, .getfield 7, 3), (44, .aload_n 0, 1), (45, .getfield 13, 3), (48, .iload_n 2, 1), (49, .iaload, 1), (50, .iaload, 1), (51, .iload_n 3, 1), (52, .invokestatic 149, 3), (55, .ifCond .eq 7, 3), (58, .iconst 0, 1), (59, .goto 4, 3), (62, .iconst 1, 1), (63, .ireturn, 1), (64, .aload_n 0, 1), (65, .iload_n 2, 1), (66, .invokevirtual 153, 3), (69, .ireturn, 1), (70, .aload_n 0, 1), (71, .iload_n 2, 1), (72, .iload_n 3, 1), (73, .invokevirtual 156, 3), (76, .ireturn, 1), (77, .aload_n 0, 1), (78, .getfield 16, 3), (81, .iload_n 2, 1), (82, .iaload, 1), (83, .ifCond .ge 7, 3), (86, .iconst 3, 1), (87, .goto 4, 3), (90, .iconst 0, 1), (91, .ireturn, 1), (92, .aload_n 0, 1), (93, .getfield 159, 3), (96, .bipush 99, 2), (98, .if_icmp .ne 7, 3), (101, .iconst 5, 1), (102, .goto 4, 3), (105, .iconst 0, 1), (106, .ireturn, 1), (107, .iconst 0, 1), (108, .ireturn, 1)]
theorem zd_141 : ∀ q ∈ zp_141, decode cX10_whyNot q.1 = .ok q.2 := by decide +kernel
/-- BenchMemoriesModel.comeTo(II)V -/
def zp_142 : List (Nat × Instr × Nat) := [(0, .aload_n 0, 1), (1, .getfield 16, 3), (4, .iload_n 1, 1), (5, .iload_n 2, 1), (6, .iastore, 1), (7, .iload_n 2, 1), (8, .ifCond .lt 13, 3), (11, .aload_n 0, 1), (12, .getfield 46, 3), (15, .iload_n 2, 1), (16, .dup2, 1), (17, .iaload, 1), (18, .iconst 1, 1), (19, .iadd, 1), (20, .iastore, 1), (21, .return_, 1)]
theorem zd_142 : ∀ q ∈ zp_142, decode cX10_comeTo q.1 = .ok q.2 := by decide +kernel
/-- BenchMemoriesModel.sit(I)V -/
def zp_143 : List (Nat × Instr × Nat) := [(0, .aload_n 0, 1), (1, .getfield 13, 3), (4, .iload_n 1, 1), (5, .iaload, 1), (6, .istore_n 2, 1), (7, .aload_n 0, 1), (8, .getfield 16, 3), (11, .iload_n 1, 1), (12, .iaload, 1), (13, .istore_n 3, 1), (14, .aload_n 0, 1), (15, .iload_n 1, 1), (16, .aload_n 0, 1), (17, .getfield 19, 3), (20, .iload_n 2, 1), (21, .iaload, 1), (22, .invokevirtual 162, 3), (25, .aload_n 0, 1), (26, .getfield 19, 3), (29, .iload_n 2, 1), (30, .iload_n 3, 1), (31, .iastore, 1), (32, .aload_n 0, 1), (33, .getfield 22, 3), (36, .iload_n 2, 1), (37, .iload_n 3, 1), (38, .ifCond .ge 8, 3), (41, .bipush (-6), 2), (43, .goto 5, 3), (46, .bipush 9, 2), (48, .iastore, 1), (49, .return_, 1)]
theorem zd_143 : ∀ q ∈ zp_143, decode cX10_sit q.1 = .ok q.2 := by decide +kernel
/-- BenchMemoriesModel.change(II)V -/
def zp_144 : List (Nat × Instr × Nat) := [(0, .aload_n 0, 1), (1, .getfield 16, 3), (4, .iload_n 1, 1), (5, .iaload, 1), (6, .istore_n 3, 1), (7, .aload_n 0, 1), (8, .iload_n 1, 1), (9, .aload_n 0, 1), (10, .getfield 16, 3), (13, .iload_n 2, 1), (14, .iaload, 1), (15, .invokevirtual 162, 3), (18, .aload_n 0, 1), (19, .iload_n 2, 1), (20, .iload_n 3, 1), (21, .invokevirtual 162, 3), (24, .return_, 1)]
theorem zd_144 : ∀ q ∈ zp_144, decode cX10_change q.1 = .ok q.2 := by decide +kernel
/-- BenchMemoriesModel.evening()V -/
def zp_145 : List (Nat × Instr × Nat) := [(0, .iconst 0, 1), (1, .istore_n 1, 1), (2, .iload_n 1, 1), (3, .bipush 10, 2), (5, .if_icmp .ge 53, 3), (8, .aload_n 0, 1), (9, .getfield 19, 3), (12, .iload_n 1, 1), (13, .iaload, 1), (14, .ifCond .lt 13, 3), (17, .aload_n 0, 1), (18, .getfield 22, 3), (21, .iload_n 1, 1), (22, .dup2, 1), (23, .iaload, 1), (24, .iconst 1, 1), (25, .isub, 1), (26, .iastore, 1), (27, .aload_n 0, 1), (28, .getfield 22, 3), (31, .iload_n 1, 1), (32, .iaload, 1), (33, .ifCond .ne 19, 3), (36, .aload_n 0, 1), (37, .getfield 19, 3), (40, .iload_n 1, 1), (41, .bipush (-6), 2), (43, .iastore, 1), (44, .aload_n 0, 1), (45, .getfield 22, 3), (48, .iload_n 1, 1), (49, .bipush (-6), 2), (51, .iastore, 1), (52, .iinc 1 1, 3), (55, .goto (-53), 3), (58, .aload_n 0, 1), (59, .dup, 1), (60, .getfield 159, 3), (63, .iconst 1, 1), (64, .iadd, 1), (65, .putfield 159, 3), (68, .return_, 1)]
theorem zd_145 : ∀ q ∈ zp_145, decode cX10_evening q.1 = .ok q.2 := by decide +kernel
/-- BenchMemoriesModel.happen(III)V -/
def zp_146 : List (Nat × Instr × Nat) := [(0, .iload_n 1, 1), (1, .tableswitch 88 0 4 #[35, 45, 53, 62, 73], 35), (36, .aload_n 0, 1), (37, .getfield 13, 3), (40, .iload_n 2, 1), (41, .iload_n 3, 1), (42, .iastore, 1), (43, .goto 50, 3), (46, .aload_n 0, 1), (47, .iload_n 2, 1), (48, .invokevirtual 166, 3), (51, .goto 42, 3), (54, .aload_n 0, 1), (55, .iload_n 2, 1), (56, .iload_n 3, 1), (57, .invokevirtual 170, 3), (60, .goto 33, 3), (63, .aload_n 0, 1), (64, .getfield 16, 3), (67, .iload_n 2, 1), (68, .bipush (-6), 2), (70, .iastore, 1), (71, .goto 22, 3), (74, .aload_n 0, 1), (75, .dup, 1), (76, .getfield 146, 3), (79, .iconst 1, 1), (80, .iload_n 3, 1), (81, .ishl, 1), (82, .ixor, 1), (83, .putfield 146, 3), (86, .goto 7, 3), (89, .aload_n 0, 1), (90, .invokevirtual 173, 3), (93, .return_, 1)]
theorem zd_146 : ∀ q ∈ zp_146, decode cX10_happen q.1 = .ok q.2 := by decide +kernel
/-- BenchMemoriesModel.keepNow()V -/
def zp_147 : List (Nat × Instr × Nat) := [(0, .iconst 0, 1), (1, .istore_n 1, 1), (2, .iload_n 1, 1), (3, .bipush 8, 2), (5, .if_icmp .ge 36, 3), (8, .aload_n 0, 1), (9, .getfield 49, 3), (12, .iload_n 1, 1), (13, .aload_n 0, 1), (14, .getfield 13, 3), (17, .iload_n 1, 1), (18, .iaload, 1), (19, .iastore, 1), (20, .aload_n 0, 1), (21, .getfield 49, 3), (24, .bipush 8, 2), (26, .iload_n 1, 1), (27, .iadd, 1), (28, .aload_n 0, 1), (29, .getfield 16, 3), (32, .iload_n 1, 1), (33, .iaload, 1), (34, .iastore, 1), (35, .iinc 1 1, 3), (38, .goto (-36), 3), (41, .iconst 0, 1), (42, .istore_n 1, 1), (43, .iload_n 1, 1), (44, .bipush 10, 2), (46, .if_icmp .ge 39, 3), (49, .aload_n 0, 1), (50, .getfield 49, 3), (53, .bipush 16, 2), (55, .iload_n 1, 1), (56, .iadd, 1), (57, .aload_n 0, 1), (58, .getfield 19, 3), (61, .iload_n 1, 1), (62, .iaload, 1), (63, .iastore, 1), (64, .aload_n 0, 1), (65, .getfield 49, 3), (68, .bipush 26, 2), (70, .iload_n 1, 1), (71, .iadd, 1), (72, .aload_n 0, 1), (73, .getfield 22, 3), (76, .iload_n 1, 1), (77, .iaload, 1), (78, .iastore, 1), (79, .iinc 1 1, 3), (82, .goto (-39), 3), (85, .aload_n 0, 1), (86, .getfield 49, 3), (89, .bipush 36, 2), (91, .aload_n 0, 1), (92, .getfield 146, 3), (95, .iastore, 1), (96, .aload_n 0, 1), (97, .getfield 49, 3), (100, .bipush 37, 2), (102, .aload_n 0, 1), (103, .getfield 159, 3), (106, .iastore, 1), (107, .return_, 1)]
theorem zd_147 : ∀ q ∈ zp_147, decode cX10_keepNow q.1 = .ok q.2 := by decide +kernel
/-- BenchMemoriesModel.back(I)I -/
def zp_148 : List (Nat × Instr × Nat) := [(0, .iconst 0, 1), (1, .istore_n 2, 1), (2, .iload_n 2, 1), (3, .bipush 8, 2), (5, .if_icmp .ge 36, 3), (8, .aload_n 0, 1), (9, .getfield 13, 3), (12, .iload_n 2, 1), (13, .aload_n 0, 1), (14, .getfield 49, 3), (17, .iload_n 2, 1), (18, .iaload, 1), (19, .iastore, 1), (20, .aload_n 0, 1), (21, .getfield 16, 3), (24, .iload_n 2, 1), (25, .aload_n 0, 1), (26, .getfield 49, 3), (29, .bipush 8, 2), (31, .iload_n 2, 1), (32, .iadd, 1), (33, .iaload, 1), (34, .iastore, 1), (35, .iinc 2 1, 3), (38, .goto (-36), 3), (41, .iconst 0, 1), (42, .istore_n 2, 1), (43, .iload_n 2, 1), (44, .bipush 10, 2), (46, .if_icmp .ge 39, 3), (49, .aload_n 0, 1), (50, .getfield 19, 3), (53, .iload_n 2, 1), (54, .aload_n 0, 1), (55, .getfield 49, 3), (58, .bipush 16, 2), (60, .iload_n 2, 1), (61, .iadd, 1), (62, .iaload, 1), (63, .iastore, 1), (64, .aload_n 0, 1), (65, .getfield 22, 3), (68, .iload_n 2, 1), (69, .aload_n 0, 1), (70, .getfield 49, 3), (73, .bipush 26, 2), (75, .iload_n 2, 1), (76, .iadd, 1), (77, .iaload, 1), (78, .iastore, 1), (79, .iinc 2 1, 3), (82, .goto (-39), 3), (85, .aload_n 0, 1), (86, .aload_n 0, 1), (87, .getfield 49, 3), (90, .bipush 36, 2), (92, .iaload, 1), (93, .putfield 146, 3), (96, .aload_n 0, 1), (97, .aload_n 0, 1), (98, .getfield 49, 3), (101, .bipush 37, 2), (103, .iaload, 1), (104, .putfield 159, 3), (107, .iload_n 1, 1), (108, .ireturn, 1)]
theorem zd_148 : ∀ q ∈ zp_148, decode cX10_back q.1 = .ok q.2 := by decide +kernel
/-- BenchMemoriesModel.goDays()V -/
def zp_149 : List (Nat × Instr × Nat) := [(0, .aload_n 0, 1), (1, .bipush (-6), 2), (3, .putfield 176, 3), (6, .aload_n 0, 1), (7, .bipush (-6), 2), (9, .putfield 179, 3), (12, .aload_n 0, 1), (13, .iconst 0, 1), (14, .putfield 182, 3), (17, .iconst 0, 1), (18, .istore_n 1, 1), (19, .iload_n 1, 1), (20, .bipush 12, 2), (22, .if_icmp .ge 16, 3), (25, .aload_n 0, 1), (26, .getfield 46, 3), (29, .iload_n 1, 1), (30, .iconst 0, 1), (31, .iastore, 1), (32, .iinc 1 1, 3), (35, .goto (-16), 3), (38, .iconst 0, 1), (39, .istore_n 1, 1), (40, .iload_n 1, 1), (41, .aload_n 0, 1), (42, .getfield 119, 3), (45, .if_icmp .ge 117, 3), (48, .aload_n 0, 1), (49, .getfield 176, 3), (52, .ifCond .ge 110, 3), (55, .aload_n 0, 1), (56, .aload_n 0, 1), (57, .getfield 37, 3), (60, .iload_n 1, 1), (61, .iaload, 1), (62, .aload_n 0, 1), (63, .getfield 40, 3), (66, .iload_n 1, 1), (67, .iaload, 1), (68, .aload_n 0, 1), (69, .getfield 43, 3), (72, .iload_n 1, 1), (73, .iaload, 1), (74, .invokevirtual 185, 3), (77, .istore_n 2, 1), (78, .aload_n 0, 1), (79, .iload_n 2, 1), (80, .ifCond .le 7, 3), (83, .iload_n 1, 1), (84, .goto 5, 3), (87, .bipush (-6), 2), (89, .putfield 176, 3), (92, .aload_n 0, 1), (93, .iload_n 2, 1), (94, .ifCond .le 7, 3), (97, .iload_n 2, 1), (98, .goto 5, 3), (101, .bipush (-6), 2), (103, .putfield 179, 3), (106, .iload_n 2, 1), (107, .ifCond .ne 49, 3), (110, .aload_n 0, 1), (111, .aload_n 0, 1), (112, .getfield 37, 3), (115, .iload_n 1, 1), (116, .iaload, 1), (117, .aload_n 0, 1), (118, .getfield 40, 3), (121, .iload_n 1, 1), (122, .iaload, 1), (123, .aload_n 0, 1), (124, .getfield 43, 3), (127, .iload_n 1, 1), (128, .iaload, 1), (129, .invokevirtual 189, 3), (132, .aload_n 0, 1), (133, .dup, 1), (134, .getfield 182, 3), (137, .aload_n 0, 1), (138, .getfield 37, 3), (141, .iload_n 1, 1), (142, .iaload, 1), (143, .iconst 1, 1), (144, .if_icmp .ne 7, 3), (147, .iconst 1, 1), (148, .goto 4, 3), (151, .iconst 0, 1), (152, .iadd, 1), (153, .putfield 182, 3), (156, .iinc 1 1, 3), (159, .goto (-119), 3), (162, .return_, 1)]
theorem zd_149 : ∀ q ∈ zp_149, decode cX10_goDays q.1 = .ok q.2 := by decide +kernel
/-- BenchMemoriesModel.refusal()I -/
def zp_150 : List (Nat × Instr × Nat) := [(0, .aload_n 0, 1), (1, .invokevirtual 193, 3), (4, .aload_n 0, 1), (5, .invokevirtual 196, 3), (8, .ifCond .lt 6, 3), (11, .bipush (-5), 2), (13, .ireturn, 1), (14, .aload_n 0, 1), (15, .invokevirtual 200, 3), (18, .aload_n 0, 1), (19, .getfield 176, 3), (22, .ifCond .lt 8, 3), (25, .bipush (-3), 2), (27, .goto 5, 3), (30, .bipush (-6), 2), (32, .ireturn, 1)]
theorem zd_150 : ∀ q ∈ zp_150, decode cX10_refusal q.1 = .ok q.2 := by decide +kernel
/-- BenchMemoriesModel.judge(I)I -/
def zp_151 : List (Nat × Instr × Nat) := [(0, .iload_n 1, 1), (1, .i2l, 1), (2, .lconst 0, 1), (3, .ldc2_w 203, 3), (6, .invokestatic 79, 3), (9, .ifCond .ne 6, 3), (12, .bipush (-2), 2), (14, .ireturn, 1), (15, .aload_n 0, 1), (16, .aload_n 0, 1), (17, .invokevirtual 205, 3), (20, .invokevirtual 208, 3), (23, .istore_n 2, 1), (24, .iload_n 2, 1), (25, .bipush (-5), 2), (27, .if_icmp .eq 14, 3), (30, .iload_n 1, 1), (31, .iconst 1, 1), (32, .if_icmp .le 11, 3), (35, .iload_n 2, 1), (36, .bipush (-3), 2), (38, .if_icmp .ne 5, 3), (41, .iload_n 2, 1), (42, .ireturn, 1), (43, .iload_n 1, 1), (44, .ifCond .ne 10, 3), (47, .aload_n 0, 1), (48, .getfield 176, 3), (51, .goto 19, 3), (54, .iload_n 1, 1), (55, .iconst 1, 1), (56, .if_icmp .ne 10, 3), (59, .aload_n 0, 1), (60, .getfield 179, 3), (63, .goto 7, 3), (66, .aload_n 0, 1), (67, .getfield 182, 3), (70, .ireturn, 1)]
theorem zd_151 : ∀ q ∈ zp_151, decode cX10_judge q.1 = .ok q.2 := by decide +kernel
/-- BenchMemoriesModel.behind(II)I -/
def zp_152 : List (Nat × Instr × Nat) := [(0, .iload_n 1, 1), (1, .invokestatic 99, 3), (4, .ifCond .ne 5, 3), (7, .iconst (-1), 1), (8, .ireturn, 1), (9, .iload_n 2, 1), (10, .i2l, 1), (11, .lconst 0, 1), (12, .lconst 1, 1), (13, .invokestatic 79, 3), (16, .ifCond .ne 6, 3), (19, .bipush (-2), 2), (21, .ireturn, 1), (22, .aload_n 0, 1), (23, .invokevirtual 205, 3), (26, .istore_n 3, 1), (27, .aload_n 0, 1), (28, .iload_n 3, 1), (29, .bipush (-6), 2), (31, .if_icmp .eq 7, 3), (34, .iload_n 3, 1), (35, .goto 22, 3), (38, .iload_n 2, 1), (39, .ifCond .ne 12, 3), (42, .aload_n 0, 1), (43, .getfield 13, 3), (46, .iload_n 1, 1), (47, .iaload, 1), (48, .goto 9, 3), (51, .aload_n 0, 1), (52, .getfield 16, 3), (55, .iload_n 1, 1), (56, .iaload, 1), (57, .invokevirtual 208, 3), (60, .ireturn, 1)]
theorem zd_152 : ∀ q ∈ zp_152, decode cX10_behind q.1 = .ok q.2 := by decide +kernel
/-- BenchMemoriesModel.lies(II)I -/
def zp_153 : List (Nat × Instr × Nat) := [(0, .iload_n 1, 1), (1, .invokestatic 87, 3), (4, .ifCond .ne 5, 3), (7, .iconst (-1), 1), (8, .ireturn, 1), (9, .iload_n 2, 1), (10, .i2l, 1), (11, .lconst 0, 1), (12, .lconst 1, 1), (13, .invokestatic 79, 3), (16, .ifCond .ne 6, 3), (19, .bipush (-2), 2), (21, .ireturn, 1), (22, .aload_n 0, 1), (23, .invokevirtual 205, 3), (26, .istore_n 3, 1), (27, .aload_n 0, 1), (28, .iload_n 3, 1), (29, .bipush (-6), 2), (31, .if_icmp .eq 7, 3), (34, .iload_n 3, 1), (35, .goto 22, 3), (38, .iload_n 2, 1), (39, .ifCond .ne 12, 3), (42, .aload_n 0, 1), (43, .getfield 19, 3), (46, .iload_n 1, 1), (47, .iaload, 1), (48, .goto 9, 3), (51, .aload_n 0, 1), (52, .getfield 22, 3), (55, .iload_n 1, 1), (56, .iaload, 1), (57, .invokevirtual 208, 3), (60, .ireturn, 1)]
theorem zd_153 : ∀ q ∈ zp_153, decode cX10_lies q.1 = .ok q.2 := by decide +kernel
/-- BenchMemoriesModel.hands(II)I -/
def zp_154 : List (Nat × Instr × Nat) := [(0, .iload_n 1, 1), (1, .invokestatic 105, 3), (4, .ifCond .ne 5, 3), (7, .iconst (-1), 1), (8, .ireturn, 1), (9, .iload_n 2, 1), (10, .i2l, 1), (11, .lconst 0, 1), (12, .lconst 1, 1), (13, .invokestatic 79, 3), (16, .ifCond .ne 6, 3), (19, .bipush (-2), 2), (21, .ireturn, 1), (22, .aload_n 0, 1), (23, .invokevirtual 205, 3), (26, .istore_n 3, 1), (27, .aload_n 0, 1), (28, .iload_n 1, 1), (29, .invokevirtual 102, 3), (32, .istore 4, 2), (34, .aload_n 0, 1), (35, .iload_n 3, 1), (36, .bipush (-6), 2), (38, .if_icmp .eq 7, 3), (41, .iload_n 3, 1), (42, .goto 30, 3), (45, .iload_n 2, 1), (46, .ifCond .ne 12, 3), (49, .aload_n 0, 1), (50, .getfield 46, 3), (53, .iload_n 1, 1), (54, .iaload, 1), (55, .goto 17, 3), (58, .iload 4, 2), (60, .bipush 10, 2), (62, .if_icmp .lt 8, 3), (65, .bipush (-6), 2), (67, .goto 5, 3), (70, .iload 4, 2), (72, .invokevirtual 208, 3), (75, .ireturn, 1)]
theorem zd_154 : ∀ q ∈ zp_154, decode cX10_hands q.1 = .ok q.2 := by decide +kernel
/-- BenchMemoriesModel.most()I -/
def zp_155 : List (Nat × Instr × Nat) := [(0, .aload_n 0, 1), (1, .aload_n 0, 1), (2, .invokevirtual 205, 3), (5, .invokevirtual 208, 3), (8, .istore_n 1, 1), (9, .iload_n 1, 1), (10, .bipush (-6), 2), (12, .if_icmp .eq 5, 3), (15, .iload_n 1, 1), (16, .ireturn, 1), (17, .bipush (-6), 2), (19, .istore_n 2, 1), (20, .bipush 11, 2), (22, .istore_n 3, 1), (23, .iload_n 3, 1), (24, .ifCond .lt 43, 3), (27, .aload_n 0, 1), (28, .getfield 46, 3), (31, .iload_n 3, 1), (32, .iaload, 1), (33, .ifCond .le 26, 3), (36, .iload_n 2, 1), (37, .ifCond .lt 18, 3), (40, .aload_n 0, 1), (41, .getfield 46, 3), (44, .iload_n 3, 1), (45, .iaload, 1), (46, .aload_n 0, 1), (47, .getfield 46, 3), (50, .iload_n 2, 1), (51, .iaload, 1), (52, .if_icmp .lt 7, 3), (55, .iload_n 3, 1), (56, .goto 4, 3), (59, .iload_n 2, 1), (60, .istore_n 2, 1), (61, .iinc 3 (-1), 3), (64, .goto (-41), 3), (67, .iload_n 2, 1), (68, .ireturn, 1)]
theorem zd_155 : ∀ q ∈ zp_155, decode cX10_most q.1 = .ok q.2 := by decide +kernel
/-- BenchMemoriesModel.done()I -/
def zp_156 : List (Nat × Instr × Nat) := [(0, .aload_n 0, 1), (1, .invokevirtual 205, 3), (4, .istore_n 1, 1), (5, .iload_n 1, 1), (6, .bipush (-6), 2), (8, .if_icmp .eq 9, 3), (11, .aload_n 0, 1), (12, .iload_n 1, 1), (13, .invokevirtual 208, 3), (16, .ireturn, 1), (17, .aload_n 0, 1), (18, .iconst 0, 1), (19, .putfield 115, 3), (22, .aload_n 0, 1), (23, .getfield 119, 3), (26, .ireturn, 1)]
theorem zd_156 : ∀ q ∈ zp_156, decode cX10_done q.1 = .ok q.2 := by decide +kernel
/-- BenchMemoriesModel.far(II)I -/
def zp_157 : List (Nat × Instr × Nat) := [(0, .iconst 1, 1), (1, .iload_n 1, 1), (2, .ishl, 1), (3, .istore_n 3, 1), (4, .iconst 0, 1), (5, .istore 4, 2), (7, .iload 4, 2), (9, .bipush 10, 2), (11, .if_icmp .ge 67, 3), (14, .iload_n 3, 1), (15, .iload_n 2, 1), (16, .invokestatic 149, 3), (19, .ifCond .eq 6, 3), (22, .iload 4, 2), (24, .ireturn, 1), (25, .iload_n 3, 1), (26, .istore 5, 2), (28, .iconst 0, 1), (29, .istore 6, 2), (31, .iload 6, 2), (33, .bipush 10, 2), (35, .if_icmp .ge 34, 3), (38, .iload 5, 2), (40, .iload_n 3, 1), (41, .iload 6, 2), (43, .invokestatic 149, 3), (46, .ifCond .eq 13, 3), (49, .aload_n 0, 1), (50, .getfield 7, 3), (53, .iload 6, 2), (55, .iaload, 1), (56, .goto 4, 3), (59, .iconst 0, 1), (60, .ior, 1), (61, .istore 5, 2), (63, .iinc 6 1, 3), (66, .goto (-35), 3), (69, .iload 5, 2), (71, .istore_n 3, 1), (72, .iinc 4 1, 3), (75, .goto (-68), 3), (78, .bipush (-6), 2), (80, .ireturn, 1)]
theorem zd_157 : ∀ q ∈ zp_157, decode cX10_far q.1 = .ok q.2 := by decide +kernel
/-- BenchMemoriesModel.steps(II)I -/
def zp_158 : List (Nat × Instr × Nat) := [(0, .iload_n 1, 1), (1, .invokestatic 87, 3), (4, .ifCond .eq 19, 3), (7, .iload_n 2, 1), (8, .invokestatic 87, 3), (11, .ifCond .eq 12, 3), (14, .aload_n 0, 1), (15, .iload_n 1, 1), (16, .iload_n 2, 1), (17, .invokevirtual 211, 3), (20, .goto 4, 3), (23, .iconst (-1), 1), (24, .ireturn, 1)]
theorem zd_158 : ∀ q ∈ zp_158, decode cX10_steps q.1 = .ok q.2 := by decide +kernel
/-- BenchMemoriesModel.get(II)I -/
def zp_159 : List (Nat × Instr × Nat) := [(0, .iload_n 1, 1), (1, .invokestatic 99, 3), (4, .ifCond .eq 10, 3), (7, .iload_n 2, 1), (8, .invokestatic 105, 3), (11, .ifCond .ne 5, 3), (14, .iconst (-1), 1), (15, .ireturn, 1), (16, .aload_n 0, 1), (17, .iload_n 2, 1), (18, .invokevirtual 102, 3), (21, .istore_n 3, 1), (22, .iload_n 3, 1), (23, .bipush 10, 2), (25, .if_icmp .ge 6, 3), (28, .bipush (-3), 2), (30, .ireturn, 1), (31, .aload_n 0, 1), (32, .aload_n 0, 1), (33, .getfield 13, 3), (36, .iload_n 1, 1), (37, .iaload, 1), (38, .iload_n 3, 1), (39, .bipush 10, 2), (41, .isub, 1), (42, .invokevirtual 211, 3), (45, .istore 4, 2), (47, .iload 4, 2), (49, .ifCond .lt 17, 3), (52, .aload_n 0, 1), (53, .getfield 146, 3), (56, .iload_n 3, 1), (57, .bipush 10, 2), (59, .isub, 1), (60, .invokestatic 149, 3), (63, .ifCond .eq 8, 3), (66, .bipush (-6), 2), (68, .goto 7, 3), (71, .iload 4, 2), (73, .iconst 1, 1), (74, .iadd, 1), (75, .ireturn, 1)]
theorem zd_159 : ∀ q ∈ zp_159, decode cX10_get q.1 = .ok q.2 := by decide +kernel
/-- BenchMemoriesModel.findOff()V -/
def zp_160 : List (Nat × Instr × Nat) := [(0, .iconst 0, 1), (1, .istore_n 1, 1), (2, .iload_n 1, 1), (3, .bipush 100, 2), (5, .if_icmp .ge 27, 3), (8, .aload_n 0, 1), (9, .getfield 55, 3), (12, .iload_n 1, 1), (13, .aload_n 0, 1), (14, .iload_n 1, 1), (15, .bipush 10, 2), (17, .idiv, 1), (18, .iload_n 1, 1), (19, .bipush 10, 2), (21, .irem, 1), (22, .invokevirtual 211, 3), (25, .iastore, 1), (26, .iinc 1 1, 3), (29, .goto (-27), 3), (32, .return_, 1)]
theorem zd_160 : ∀ q ∈ zp_160, decode cX10_findOff q.1 = .ok q.2 := by decide +kernel
/-- BenchMemoriesModel.least(II)I -/
def zp_161 : List (Nat × Instr × Nat) := [(0, .iload_n 0, 1), (1, .ifCond .lt 12, 3), (4, .iload_n 1, 1), (5, .ifCond .lt 12, 3), (8, .iload_n 1, 1), (9, .iload_n 0, 1), (10, .if_icmp .ge 7, 3), (13, .iload_n 1, 1), (14, .goto 4, 3), (17, .iload_n 0, 1), (18, .ireturn, 1)]
theorem zd_161 : ∀ q ∈ zp_161, decode cX10_least q.1 = .ok q.2 := by decide +kernel
/-- BenchMemoriesModel.rowBy(III)I -/
def zp_162 : List (Nat × Instr × Nat) := [(0, .iload_n 2, 1), (1, .iconst 1, 1), (2, .iload_n 3, 1), (3, .ishl, 1), (4, .iconst (-1), 1), (5, .ixor, 1), (6, .iand, 1), (7, .istore 4, 2), (9, .iload 4, 2), (11, .ifCond .ne 15, 3), (14, .aload_n 0, 1), (15, .getfield 55, 3), (18, .bipush 10, 2), (20, .iload_n 1, 1), (21, .imul, 1), (22, .iload_n 3, 1), (23, .iadd, 1), (24, .iaload, 1), (25, .ireturn, 1), (26, .bipush (-6), 2), (28, .istore 5, 2), (30, .iconst 0, 1), (31, .istore 6, 2), (33, .iload 6, 2), (35, .bipush 10, 2), (37, .if_icmp .ge 100, 3), (40, .iload 4, 2), (42, .iload 6, 2), (44, .invokestatic 149, 3), (47, .ifCond .eq 38, 3), (50, .aload_n 0, 1), (51, .getfield 52, 3), (54, .bipush 10, 2), (56, .iload 4, 2), (58, .imul, 1), (59, .iload 6, 2), (61, .iadd, 1), (62, .iaload, 1), (63, .ifCond .lt 22, 3), (66, .aload_n 0, 1), (67, .getfield 55, 3), (70, .bipush 10, 2), (72, .iload 6, 2), (74, .imul, 1), (75, .iload_n 3, 1), (76, .iadd, 1), (77, .iaload, 1), (78, .ifCond .lt 7, 3), (81, .iconst 1, 1), (82, .goto 4, 3), (85, .iconst 0, 1), (86, .istore 7, 2), (88, .iload 7, 2), (90, .ifCond .eq 37, 3), (93, .iload 5, 2), (95, .aload_n 0, 1), (96, .getfield 52, 3), (99, .bipush 10, 2), (101, .iload 4, 2), (103, .imul, 1), (104, .iload 6, 2), (106, .iadd, 1), (107, .iaload, 1), (108, .aload_n 0, 1), (109, .getfield 55, 3), (112, .bipush 10, 2), (114, .iload 6, 2), (116, .imul, 1), (117, .iload_n 3, 1), (118, .iadd, 1), (119, .iaload, 1), (120, .iadd, 1), (121, .invokestatic 214, 3), (124, .goto 5, 3), (127, .iload 5, 2), (129, .istore 5, 2), (131, .iinc 6 1, 3), (134, .goto (-101), 3), (137, .iload 5, 2), (139, .ireturn, 1)]
theorem zd_162 : ∀ q ∈ zp_162, decode cX10_rowBy q.1 = .ok q.2 := by decide +kernel
/-- BenchMemoriesModel.round(II)I -/
def zp_163 : List (Nat × Instr × Nat) := [(0, .iload_n 1, 1), (1, .invokestatic 87, 3), (4, .ifCond .ne 5, 3), (7, .iconst (-1), 1), (8, .ireturn, 1), (9, .iload_n 2, 1), (10, .i2l, 1), (11, .lconst 0, 1), (12, .ldc2_w 217, 3), (15, .invokestatic 79, 3), (18, .ifCond .ne 6, 3), (21, .bipush (-2), 2), (23, .ireturn, 1), (24, .aload_n 0, 1), (25, .invokevirtual 219, 3), (28, .iconst 1, 1), (29, .istore_n 3, 1), (30, .iload_n 3, 1), (31, .iload_n 2, 1), (32, .if_icmp .gt 59, 3), (35, .iconst 0, 1), (36, .istore 4, 2), (38, .iload 4, 2), (40, .bipush 10, 2), (42, .if_icmp .ge 43, 3), (45, .aload_n 0, 1), (46, .getfield 52, 3), (49, .bipush 10, 2), (51, .iload_n 3, 1), (52, .imul, 1), (53, .iload 4, 2), (55, .iadd, 1), (56, .iload_n 3, 1), (57, .iload 4, 2), (59, .invokestatic 149, 3), (62, .ifCond .eq 14, 3), (65, .aload_n 0, 1), (66, .iload_n 1, 1), (67, .iload_n 3, 1), (68, .iload 4, 2), (70, .invokevirtual 222, 3), (73, .goto 5, 3), (76, .bipush (-6), 2), (78, .iastore, 1), (79, .iinc 4 1, 3), (82, .goto (-44), 3), (85, .iinc 3 1, 3), (88, .goto (-58), 3), (91, .iload_n 2, 1), (92, .ifCond .ne 7, 3), (95, .iconst 0, 1), (96, .goto 5, 3), (99, .bipush (-6), 2), (101, .istore_n 3, 1), (102, .iconst 0, 1), (103, .istore 4, 2), (105, .iload 4, 2), (107, .bipush 10, 2), (109, .if_icmp .ge 79, 3), (112, .iload_n 2, 1), (113, .iload 4, 2), (115, .invokestatic 149, 3), (118, .ifCond .eq 22, 3), (121, .aload_n 0, 1), (122, .getfield 52, 3), (125, .bipush 10, 2), (127, .iload_n 2, 1), (128, .imul, 1), (129, .iload 4, 2), (131, .iadd, 1), (132, .iaload, 1), (133, .ifCond .lt 7, 3), (136, .iconst 1, 1), (137, .goto 4, 3), (140, .iconst 0, 1), (141, .istore 5, 2), (143, .iload 5, 2), (145, .ifCond .eq 35, 3), (148, .iload_n 3, 1), (149, .aload_n 0, 1), (150, .getfield 52, 3), (153, .bipush 10, 2), (155, .iload_n 2, 1), (156, .imul, 1), (157, .iload 4, 2), (159, .iadd, 1), (160, .iaload, 1), (161, .aload_n 0, 1), (162, .getfield 55, 3), (165, .bipush 10, 2), (167, .iload 4, 2), (169, .imul, 1), (170, .iload_n 1, 1), (171, .iadd, 1), (172, .iaload, 1), (173, .iadd, 1), (174, .invokestatic 214, 3), (177, .goto 4, 3), (180, .iload_n 3, 1), (181, .istore_n 3, 1), (182, .iinc 4 1, 3), (185, .goto (-80), 3), (188, .iload_n 3, 1), (189, .ireturn, 1)]
theorem zd_163 : ∀ q ∈ zp_163, decode cX10_round q.1 = .ok q.2 := by decide +kernel
/-- BenchMemoriesModel.goesOn(II)I -/
def zp_164 : List (Nat × Instr × Nat) := [(0, .iconst 0, 1), (1, .istore_n 3, 1), (2, .iconst 0, 1), (3, .istore 4, 2), (5, .iload 4, 2), (7, .bipush 10, 2), (9, .if_icmp .ge 91, 3), (12, .aload_n 0, 1), (13, .getfield 7, 3), (16, .iload_n 2, 1), (17, .iaload, 1), (18, .iload 4, 2), (20, .invokestatic 149, 3), (23, .ifCond .eq 16, 3), (26, .iload_n 1, 1), (27, .iload 4, 2), (29, .invokestatic 149, 3), (32, .ifCond .ne 7, 3), (35, .iconst 1, 1), (36, .goto 4, 3), (39, .iconst 0, 1), (40, .istore 5, 2), (42, .iload 5, 2), (44, .ifCond .eq 34, 3), (47, .iconst 1, 1), (48, .aload_n 0, 1), (49, .getfield 52, 3), (52, .bipush 10, 2), (54, .iload_n 1, 1), (55, .iload 5, 2), (57, .ifCond .eq 10, 3), (60, .iconst 1, 1), (61, .iload 4, 2), (63, .ishl, 1), (64, .goto 4, 3), (67, .iconst 0, 1), (68, .ior, 1), (69, .imul, 1), (70, .iload 4, 2), (72, .iadd, 1), (73, .iaload, 1), (74, .iadd, 1), (75, .goto 4, 3), (78, .iconst 0, 1), (79, .istore 6, 2), (81, .iload 6, 2), (83, .iload_n 3, 1), (84, .if_icmp .le 8, 3), (87, .iload 6, 2), (89, .goto 4, 3), (92, .iload_n 3, 1), (93, .istore_n 3, 1), (94, .iinc 4 1, 3), (97, .goto (-92), 3), (100, .iload_n 3, 1), (101, .ireturn, 1)]
theorem zd_164 : ∀ q ∈ zp_164, decode cX10_goesOn q.1 = .ok q.2 := by decide +kernel
end
section
set_option maxRecDepth 100000
/-- BenchMemoriesModel.walk(II)I -/
def zp_165 : List (Nat × Instr × Nat) := [(0, .iload_n 1, 1), (1, .invokestatic 87, 3), (4, .ifCond .ne 5, 3), (7, .iconst (-1), 1), (8, .ireturn, 1), (9, .iload_n 2, 1), (10, .i2l, 1), (11, .lconst 0, 1), (12, .lconst 1, 1), (13, .invokestatic 79, 3), (16, .ifCond .ne 6, 3), (19, .bipush (-2), 2), (21, .ireturn, 1), (22, .sipush 1023, 3), (25, .istore_n 3, 1), (26, .iload_n 3, 1), (27, .ifCond .le 57, 3), (30, .iconst 0, 1), (31, .istore 4, 2), (33, .iload 4, 2), (35, .bipush 10, 2), (37, .if_icmp .ge 41, 3), (40, .aload_n 0, 1), (41, .getfield 52, 3), (44, .bipush 10, 2), (46, .iload_n 3, 1), (47, .imul, 1), (48, .iload 4, 2), (50, .iadd, 1), (51, .iload_n 3, 1), (52, .iload 4, 2), (54, .invokestatic 149, 3), (57, .ifCond .eq 13, 3), (60, .aload_n 0, 1), (61, .iload_n 3, 1), (62, .iload 4, 2), (64, .invokevirtual 225, 3), (67, .goto 4, 3), (70, .iconst 0, 1), (71, .iastore, 1), (72, .iinc 4 1, 3), (75, .goto (-42), 3), (78, .iinc 3 (-1), 3), (81, .goto (-55), 3), (84, .iconst 1, 1), (85, .iload_n 1, 1), (86, .ishl, 1), (87, .istore_n 3, 1), (88, .iload_n 1, 1), (89, .istore 4, 2), (91, .aload_n 0, 1), (92, .getfield 52, 3), (95, .bipush 10, 2), (97, .iload_n 3, 1), (98, .imul, 1), (99, .iload 4, 2), (101, .iadd, 1), (102, .iaload, 1), (103, .istore 5, 2), (105, .iload_n 2, 1), (106, .ifCond .ne 6, 3), (109, .iload 5, 2), (111, .ireturn, 1), (112, .iconst 0, 1), (113, .istore 6, 2), (115, .iload 5, 2), (117, .ifCond .le 118, 3), (120, .bipush (-6), 2), (122, .istore 7, 2), (124, .bipush 9, 2), (126, .istore 8, 2), (128, .iload 8, 2), (130, .ifCond .lt 78, 3), (133, .aload_n 0, 1), (134, .getfield 7, 3), (137, .iload 4, 2), (139, .iaload, 1), (140, .iload 8, 2), (142, .invokestatic 149, 3), (145, .ifCond .eq 40, 3), (148, .iload_n 3, 1), (149, .iload 8, 2), (151, .invokestatic 149, 3), (154, .ifCond .ne 31, 3), (157, .aload_n 0, 1), (158, .getfield 52, 3), (161, .bipush 10, 2), (163, .iload_n 3, 1), (164, .iconst 1, 1), (165, .iload 8, 2), (167, .ishl, 1), (168, .ior, 1), (169, .imul, 1), (170, .iload 8, 2), (172, .iadd, 1), (173, .iaload, 1), (174, .iload 5, 2), (176, .iconst 1, 1), (177, .isub, 1), (178, .if_icmp .ne 7, 3), (181, .iconst 1, 1), (182, .goto 4, 3), (185, .iconst 0, 1), (186, .istore 9, 2), (188, .iload 9, 2), (190, .ifCond .eq 8, 3), (193, .iload 8, 2), (195, .goto 5, 3), (198, .iload 7, 2), (200, .istore 7, 2), (202, .iinc 8 (-1), 3), (205, .goto (-77), 3), (208, .bipush 10, 2), (210, .iload 6, 2), (212, .imul, 1), (213, .iload 7, 2), (215, .iadd, 1), (216, .istore 6, 2), (218, .iload_n 3, 1), (219, .iconst 1, 1), (220, .iload 7, 2), (222, .ishl, 1), (223, .ior, 1), (224, .istore_n 3, 1), (225, .iload 7, 2), (227, .istore 4, 2), (229, .iinc 5 (-1), 3), (232, .goto (-117), 3), (235, .iload 6, 2), (237, .ireturn, 1)]
theorem zd_165 : ∀ q ∈ zp_165, decode cX10_walk q.1 = .ok q.2 := by decide +kernel
/-- BenchMemoriesModel.readSeven(I)Z -/
def zp_166 : List (Nat × Instr × Nat) := [(0, .iload_n 1, 1), (1, .istore_n 2, 1), (2, .iconst 0, 1), (3, .istore_n 3, 1), (4, .bipush 6, 2), (6, .istore 4, 2), (8, .iload 4, 2), (10, .ifCond .lt 37, 3), (13, .aload_n 0, 1), (14, .getfield 58, 3), (17, .iload 4, 2), (19, .iload_n 2, 1), (20, .bipush 10, 2), (22, .irem, 1), (23, .iastore, 1), (24, .iload_n 3, 1), (25, .iconst 1, 1), (26, .aload_n 0, 1), (27, .getfield 58, 3), (30, .iload 4, 2), (32, .iaload, 1), (33, .ishl, 1), (34, .ior, 1), (35, .istore_n 3, 1), (36, .iload_n 2, 1), (37, .bipush 10, 2), (39, .idiv, 1), (40, .istore_n 2, 1), (41, .iinc 4 (-1), 3), (44, .goto (-36), 3), (47, .iload_n 2, 1), (48, .ifCond .ne 13, 3), (51, .iload_n 3, 1), (52, .bipush 127, 2), (54, .if_icmp .ne 7, 3), (57, .iconst 1, 1), (58, .goto 4, 3), (61, .iconst 0, 1), (62, .ireturn, 1)]
theorem zd_166 : ∀ q ∈ zp_166, decode cX10_readSeven q.1 = .ok q.2 := by decide +kernel
/-- BenchMemoriesModel.sitsBy()I -/
def zp_167 : List (Nat × Instr × Nat) := [(0, .iconst 0, 1), (1, .istore_n 1, 1), (2, .iconst 0, 1), (3, .istore_n 2, 1), (4, .iconst 0, 1), (5, .istore_n 3, 1), (6, .iload_n 3, 1), (7, .bipush 7, 2), (9, .if_icmp .ge 74, 3), (12, .iconst 0, 1), (13, .istore 4, 2), (15, .iload_n 3, 1), (16, .istore 5, 2), (18, .iload_n 1, 1), (19, .iload 5, 2), (21, .invokestatic 149, 3), (24, .ifCond .ne 25, 3), (27, .iload_n 1, 1), (28, .iconst 1, 1), (29, .iload 5, 2), (31, .ishl, 1), (32, .ior, 1), (33, .istore_n 1, 1), (34, .iinc 4 1, 3), (37, .aload_n 0, 1), (38, .getfield 58, 3), (41, .iload 5, 2), (43, .iaload, 1), (44, .istore 5, 2), (46, .goto (-28), 3), (49, .iload_n 2, 1), (50, .iload 4, 2), (52, .iconst 1, 1), (53, .if_icmp .le 21, 3), (56, .iload_n 3, 1), (57, .ifCond .ne 10, 3), (60, .iload 4, 2), (62, .iconst 1, 1), (63, .isub, 1), (64, .goto 11, 3), (67, .iload 4, 2), (69, .iconst 1, 1), (70, .iadd, 1), (71, .goto 4, 3), (74, .iconst 0, 1), (75, .iadd, 1), (76, .istore_n 2, 1), (77, .iinc 3 1, 3), (80, .goto (-74), 3), (83, .iload_n 2, 1), (84, .ireturn, 1)]
theorem zd_167 : ∀ q ∈ zp_167, decode cX10_sitsBy q.1 = .ok q.2 := by decide +kernel
/-- BenchMemoriesModel.seat(I)V -/
def zp_168 : List (Nat × Instr × Nat) := [(0, .aload_n 0, 1), (1, .getfield 58, 3), (4, .iconst 0, 1), (5, .iaload, 1), (6, .istore_n 2, 1), (7, .aload_n 0, 1), (8, .getfield 58, 3), (11, .iconst 0, 1), (12, .aload_n 0, 1), (13, .getfield 58, 3), (16, .iload_n 1, 1), (17, .iaload, 1), (18, .iastore, 1), (19, .aload_n 0, 1), (20, .getfield 58, 3), (23, .iload_n 1, 1), (24, .iload_n 2, 1), (25, .iastore, 1), (26, .return_, 1)]
theorem zd_168 : ∀ q ∈ zp_168, decode cX10_seat q.1 = .ok q.2 := by decide +kernel
/-- BenchMemoriesModel.right(II)I -/
def zp_169 : List (Nat × Instr × Nat) := [(0, .iload_n 1, 1), (1, .i2l, 1), (2, .lconst 0, 1), (3, .ldc2_w 228, 3), (6, .invokestatic 79, 3), (9, .ifCond .eq 21, 3), (12, .aload_n 0, 1), (13, .iload_n 1, 1), (14, .invokevirtual 230, 3), (17, .ifCond .eq 13, 3), (20, .iload_n 2, 1), (21, .i2l, 1), (22, .lconst 0, 1), (23, .lconst 1, 1), (24, .invokestatic 79, 3), (27, .ifCond .ne 6, 3), (30, .bipush (-2), 2), (32, .ireturn, 1), (33, .aload_n 0, 1), (34, .invokevirtual 233, 3), (37, .istore_n 3, 1), (38, .iload_n 2, 1), (39, .ifCond .ne 5, 3), (42, .iload_n 3, 1), (43, .ireturn, 1), (44, .bipush (-6), 2), (46, .istore 4, 2), (48, .bipush 6, 2), (50, .istore 5, 2), (52, .iload 5, 2), (54, .ifCond .le 40, 3), (57, .aload_n 0, 1), (58, .iload 5, 2), (60, .invokevirtual 236, 3), (63, .aload_n 0, 1), (64, .invokevirtual 233, 3), (67, .iload_n 3, 1), (68, .iconst 1, 1), (69, .isub, 1), (70, .if_icmp .ne 8, 3), (73, .iload 5, 2), (75, .goto 5, 3), (78, .iload 4, 2), (80, .istore 4, 2), (82, .aload_n 0, 1), (83, .iload 5, 2), (85, .invokevirtual 236, 3), (88, .iinc 5 (-1), 3), (91, .goto (-39), 3), (94, .iload 4, 2), (96, .ireturn, 1)]
theorem zd_169 : ∀ q ∈ zp_169, decode cX10_right q.1 = .ok q.2 := by decide +kernel
/-- BenchMemoriesModel.seen(IIZ)I -/
def zp_170 : List (Nat × Instr × Nat) := [(0, .iload_n 1, 1), (1, .i2l, 1), (2, .lconst 0, 1), (3, .ldc2_w 239, 3), (6, .invokestatic 79, 3), (9, .ifCond .eq 15, 3), (12, .iload_n 2, 1), (13, .i2l, 1), (14, .lconst 0, 1), (15, .ldc2_w 83, 3), (18, .invokestatic 79, 3), (21, .ifCond .ne 6, 3), (24, .bipush (-2), 2), (26, .ireturn, 1), (27, .aload_n 0, 1), (28, .getfield 241, 3), (31, .bipush 8, 2), (33, .if_icmp .ne 6, 3), (36, .bipush (-4), 2), (38, .ireturn, 1), (39, .aload_n 0, 1), (40, .getfield 25, 3), (43, .aload_n 0, 1), (44, .getfield 241, 3), (47, .iload_n 1, 1), (48, .iastore, 1), (49, .aload_n 0, 1), (50, .getfield 28, 3), (53, .aload_n 0, 1), (54, .getfield 241, 3), (57, .iload_n 2, 1), (58, .iastore, 1), (59, .aload_n 0, 1), (60, .getfield 31, 3), (63, .aload_n 0, 1), (64, .getfield 241, 3), (67, .iload_n 3, 1), (68, .ifCond .eq 7, 3), (71, .iconst 1, 1), (72, .goto 4, 3), (75, .iconst 0, 1), (76, .iastore, 1), (77, .aload_n 0, 1), (78, .dup, 1), (79, .getfield 241, 3), (82, .iconst 1, 1), (83, .iadd, 1), (84, .putfield 241, 3), (87, .aload_n 0, 1), (88, .getfield 241, 3), (91, .ireturn, 1)]
theorem zd_170 : ∀ q ∈ zp_170, decode cX10_seen q.1 = .ok q.2 := by decide +kernel
/-- BenchMemoriesModel.clear()I -/
def zp_171 : List (Nat × Instr × Nat) := [(0, .aload_n 0, 1), (1, .getfield 241, 3), (4, .istore_n 1, 1), (5, .aload_n 0, 1), (6, .iconst 0, 1), (7, .putfield 241, 3), (10, .iload_n 1, 1), (11, .ireturn, 1)]
theorem zd_171 : ∀ q ∈ zp_171, decode cX10_clear q.1 = .ok q.2 := by decide +kernel
/-- BenchMemoriesModel.whoHas(II)I -/
def zp_172 : List (Nat × Instr × Nat) := [(0, .iload_n 0, 1), (1, .bipush 10, 2), (3, .idiv, 1), (4, .istore_n 2, 1), (5, .iload_n 0, 1), (6, .bipush 10, 2), (8, .irem, 1), (9, .istore_n 3, 1), (10, .iconst 0, 1), (11, .istore 4, 2), (13, .iload 4, 2), (15, .iload_n 1, 1), (16, .if_icmp .ge 37, 3), (19, .iload 4, 2), (21, .iload_n 2, 1), (22, .irem, 1), (23, .istore 5, 2), (25, .iload_n 3, 1), (26, .ifCond .ge 8, 3), (29, .iload 5, 2), (31, .goto 15, 3), (34, .iload_n 3, 1), (35, .iload 5, 2), (37, .if_icmp .ne 8, 3), (40, .bipush (-6), 2), (42, .goto 4, 3), (45, .iload_n 3, 1), (46, .istore_n 3, 1), (47, .iinc 4 1, 3), (50, .goto (-37), 3), (53, .iload_n 3, 1), (54, .ireturn, 1)]
theorem zd_172 : ∀ q ∈ zp_172, decode cX10_whoHas q.1 = .ok q.2 := by decide +kernel
/-- BenchMemoriesModel.isFit(I)Z -/
def zp_173 : List (Nat × Instr × Nat) := [(0, .iload_n 1, 1), (1, .bipush 10, 2), (3, .idiv, 1), (4, .i2l, 1), (5, .ldc2_w 203, 3), (8, .ldc2_w 244, 3), (11, .invokestatic 79, 3), (14, .ifCond .eq 18, 3), (17, .iload_n 1, 1), (18, .bipush 10, 2), (20, .irem, 1), (21, .iload_n 1, 1), (22, .bipush 10, 2), (24, .idiv, 1), (25, .if_icmp .ge 7, 3), (28, .iconst 1, 1), (29, .goto 4, 3), (32, .iconst 0, 1), (33, .istore_n 2, 1), (34, .iconst 0, 1), (35, .istore_n 3, 1), (36, .iload_n 3, 1), (37, .aload_n 0, 1), (38, .getfield 241, 3), (41, .if_icmp .ge 61, 3), (44, .iload_n 2, 1), (45, .ifCond .eq 57, 3), (48, .iload_n 1, 1), (49, .aload_n 0, 1), (50, .getfield 25, 3), (53, .iload_n 3, 1), (54, .iaload, 1), (55, .invokestatic 246, 3), (58, .aload_n 0, 1), (59, .getfield 28, 3), (62, .iload_n 3, 1), (63, .iaload, 1), (64, .if_icmp .ne 7, 3), (67, .iconst 1, 1), (68, .goto 4, 3), (71, .iconst 0, 1), (72, .aload_n 0, 1), (73, .getfield 31, 3), (76, .iload_n 3, 1), (77, .iaload, 1), (78, .iconst 1, 1), (79, .if_icmp .ne 7, 3), (82, .iconst 1, 1), (83, .goto 4, 3), (86, .iconst 0, 1), (87, .if_icmp .ne 7, 3), (90, .iconst 1, 1), (91, .goto 4, 3), (94, .iconst 0, 1), (95, .istore_n 2, 1), (96, .iinc 3 1, 3), (99, .goto (-63), 3), (102, .iload_n 2, 1), (103, .ireturn, 1)]
theorem zd_173 : ∀ q ∈ zp_173, decode cX10_isFit q.1 = .ok q.2 := by decide +kernel
/-- BenchMemoriesModel.fits(I)I -/
def zp_174 : List (Nat × Instr × Nat) := [(0, .iconst 0, 1), (1, .istore_n 2, 1), (2, .bipush 20, 2), (4, .istore_n 3, 1), (5, .iload_n 3, 1), (6, .bipush 90, 2), (8, .if_icmp .ge 27, 3), (11, .aload_n 0, 1), (12, .iload_n 3, 1), (13, .invokevirtual 249, 3), (16, .ifCond .eq 13, 3), (19, .iload_n 2, 1), (20, .iload_n 1, 1), (21, .if_icmp .ne 5, 3), (24, .iload_n 3, 1), (25, .ireturn, 1), (26, .iinc 2 1, 3), (29, .iinc 3 1, 3), (32, .goto (-27), 3), (35, .iload_n 1, 1), (36, .iconst (-1), 1), (37, .if_icmp .ne 7, 3), (40, .iload_n 2, 1), (41, .goto 5, 3), (44, .bipush (-6), 2), (46, .ireturn, 1)]
theorem zd_174 : ∀ q ∈ zp_174, decode cX10_fits q.1 = .ok q.2 := by decide +kernel
/-- BenchMemoriesModel.countBy(I)V -/
def zp_175 : List (Nat × Instr × Nat) := [(0, .iconst 0, 1), (1, .istore_n 2, 1), (2, .iload_n 2, 1), (3, .bipush 8, 2), (5, .if_icmp .ge 16, 3), (8, .aload_n 0, 1), (9, .getfield 61, 3), (12, .iload_n 2, 1), (13, .iconst 0, 1), (14, .iastore, 1), (15, .iinc 2 1, 3), (18, .goto (-16), 3), (21, .bipush 20, 2), (23, .istore_n 2, 1), (24, .iload_n 2, 1), (25, .bipush 90, 2), (27, .if_icmp .ge 42, 3), (30, .aload_n 0, 1), (31, .iload_n 2, 1), (32, .invokevirtual 249, 3), (35, .ifCond .eq 11, 3), (38, .iload_n 2, 1), (39, .iload_n 1, 1), (40, .invokestatic 246, 3), (43, .goto 5, 3), (46, .bipush (-6), 2), (48, .istore_n 3, 1), (49, .iload_n 3, 1), (50, .ifCond .lt 13, 3), (53, .aload_n 0, 1), (54, .getfield 61, 3), (57, .iload_n 3, 1), (58, .dup2, 1), (59, .iaload, 1), (60, .iconst 1, 1), (61, .iadd, 1), (62, .iastore, 1), (63, .iinc 2 1, 3), (66, .goto (-42), 3), (69, .return_, 1)]
theorem zd_175 : ∀ q ∈ zp_175, decode cX10_countBy q.1 = .ok q.2 := by decide +kernel
/-- BenchMemoriesModel.ask(I)I -/
def zp_176 : List (Nat × Instr × Nat) := [(0, .iload_n 1, 1), (1, .i2l, 1), (2, .lconst 0, 1), (3, .lconst 1, 1), (4, .invokestatic 79, 3), (7, .ifCond .ne 6, 3), (10, .bipush (-2), 2), (12, .ireturn, 1), (13, .aload_n 0, 1), (14, .iconst (-1), 1), (15, .invokevirtual 252, 3), (18, .istore_n 2, 1), (19, .bipush (-6), 2), (21, .istore_n 3, 1), (22, .iload_n 2, 1), (23, .iconst 1, 1), (24, .iadd, 1), (25, .istore 4, 2), (27, .iconst 0, 1), (28, .istore 5, 2), (30, .iload 5, 2), (32, .bipush 60, 2), (34, .if_icmp .gt 111, 3), (37, .iload_n 2, 1), (38, .ifCond .le 107, 3), (41, .aload_n 0, 1), (42, .iload 5, 2), (44, .invokevirtual 255, 3), (47, .iconst 0, 1), (48, .istore 6, 2), (50, .iload 6, 2), (52, .bipush 8, 2), (54, .if_icmp .ge 85, 3), (57, .aload_n 0, 1), (58, .getfield 61, 3), (61, .iload 6, 2), (63, .iaload, 1), (64, .iload_n 2, 1), (65, .aload_n 0, 1), (66, .getfield 61, 3), (69, .iload 6, 2), (71, .iaload, 1), (72, .isub, 1), (73, .if_icmp .le 13, 3), (76, .aload_n 0, 1), (77, .getfield 61, 3), (80, .iload 6, 2), (82, .iaload, 1), (83, .goto 12, 3), (86, .iload_n 2, 1), (87, .aload_n 0, 1), (88, .getfield 61, 3), (91, .iload 6, 2), (93, .iaload, 1), (94, .isub, 1), (95, .istore 7, 2), (97, .iload 7, 2), (99, .iload 4, 2), (101, .if_icmp .ge 14, 3), (104, .bipush 10, 2), (106, .iload 5, 2), (108, .imul, 1), (109, .iload 6, 2), (111, .iadd, 1), (112, .goto 4, 3), (115, .iload_n 3, 1), (116, .istore_n 3, 1), (117, .iload 7, 2), (119, .iload 4, 2), (121, .if_icmp .ge 8, 3), (124, .iload 7, 2), (126, .goto 5, 3), (129, .iload 4, 2), (131, .istore 4, 2), (133, .iinc 6 1, 3), (136, .goto (-86), 3), (139, .iinc 5 1, 3), (142, .goto (-112), 3), (145, .iload_n 3, 1), (146, .ifCond .lt 7, 3), (149, .iload_n 1, 1), (150, .ifCond .ne 7, 3), (153, .iload_n 3, 1), (154, .goto 5, 3), (157, .iload 4, 2), (159, .ireturn, 1)]
theorem zd_176 : ∀ q ∈ zp_176, decode cX10_ask q.1 = .ok q.2 := by decide +kernel
/-- BenchMemoriesModel.rowsBy(II)I -/
def zp_177 : List (Nat × Instr × Nat) := [(0, .iload_n 2, 1), (1, .iconst 1, 1), (2, .if_icmp .le 9, 3), (5, .iload_n 2, 1), (6, .iconst 1, 1), (7, .isub, 1), (8, .goto 4, 3), (11, .iconst 0, 1), (12, .istore_n 3, 1), (13, .iload_n 1, 1), (14, .iload_n 2, 1), (15, .isub, 1), (16, .iconst 2, 1), (17, .if_icmp .le 11, 3), (20, .iload_n 1, 1), (21, .iload_n 2, 1), (22, .isub, 1), (23, .iconst 2, 1), (24, .isub, 1), (25, .goto 4, 3), (28, .iconst 0, 1), (29, .istore 4, 2), (31, .aload_n 0, 1), (32, .getfield 64, 3), (35, .iload_n 3, 1), (36, .iaload, 1), (37, .aload_n 0, 1), (38, .getfield 64, 3), (41, .iload 4, 2), (43, .iaload, 1), (44, .ixor, 1), (45, .ireturn, 1)]
theorem zd_177 : ∀ q ∈ zp_177, decode cX10_rowsBy q.1 = .ok q.2 := by decide +kernel
/-- BenchMemoriesModel.worthOf(I)I -/
def zp_178 : List (Nat × Instr × Nat) := [(0, .iconst 0, 1), (1, .istore_n 2, 1), (2, .iload_n 2, 1), (3, .sipush 128, 3), (6, .if_icmp .ge 16, 3), (9, .aload_n 0, 1), (10, .getfield 67, 3), (13, .iload_n 2, 1), (14, .iconst 0, 1), (15, .bastore, 1), (16, .iinc 2 1, 3), (19, .goto (-17), 3), (22, .iconst 0, 1), (23, .istore_n 2, 1), (24, .iload_n 2, 1), (25, .iload_n 1, 1), (26, .if_icmp .ge 21, 3), (29, .aload_n 0, 1), (30, .getfield 67, 3), (33, .aload_n 0, 1), (34, .iload_n 1, 1), (35, .iload_n 2, 1), (36, .invokevirtual 258, 3), (39, .iconst 1, 1), (40, .bastore, 1), (41, .iinc 2 1, 3), (44, .goto (-20), 3), (47, .iconst 0, 1), (48, .istore_n 2, 1), (49, .aload_n 0, 1), (50, .getfield 67, 3), (53, .iload_n 2, 1), (54, .baload, 1), (55, .ifCond .eq 9, 3), (58, .iinc 2 1, 3), (61, .goto (-12), 3), (64, .iload_n 2, 1), (65, .ireturn, 1)]
theorem zd_178 : ∀ q ∈ zp_178, decode cX10_worthOf q.1 = .ok q.2 := by decide +kernel
/-- BenchMemoriesModel.take(II)I -/
def zp_179 : List (Nat × Instr × Nat) := [(0, .iload_n 1, 1), (1, .i2l, 1), (2, .lconst 0, 1), (3, .ldc2_w 261, 3), (6, .invokestatic 79, 3), (9, .ifCond .eq 13, 3), (12, .iload_n 2, 1), (13, .i2l, 1), (14, .lconst 0, 1), (15, .lconst 1, 1), (16, .invokestatic 79, 3), (19, .ifCond .ne 6, 3), (22, .bipush (-2), 2), (24, .ireturn, 1), (25, .iconst 0, 1), (26, .istore_n 3, 1), (27, .iload_n 3, 1), (28, .iload_n 1, 1), (29, .if_icmp .gt 20, 3), (32, .aload_n 0, 1), (33, .getfield 64, 3), (36, .iload_n 3, 1), (37, .aload_n 0, 1), (38, .iload_n 3, 1), (39, .invokevirtual 263, 3), (42, .iastore, 1), (43, .iinc 3 1, 3), (46, .goto (-19), 3), (49, .bipush (-6), 2), (51, .istore_n 3, 1), (52, .iload_n 1, 1), (53, .iconst 1, 1), (54, .isub, 1), (55, .istore 4, 2), (57, .iload 4, 2), (59, .ifCond .lt 26, 3), (62, .aload_n 0, 1), (63, .iload_n 1, 1), (64, .iload 4, 2), (66, .invokevirtual 258, 3), (69, .ifCond .ne 8, 3), (72, .iload 4, 2), (74, .goto 4, 3), (77, .iload_n 3, 1), (78, .istore_n 3, 1), (79, .iinc 4 (-1), 3), (82, .goto (-25), 3), (85, .iload_n 2, 1), (86, .iconst 1, 1), (87, .if_icmp .ne 7, 3), (90, .iload_n 3, 1), (91, .goto 12, 3), (94, .iload_n 3, 1), (95, .ifCond .ge 7, 3), (98, .iconst 0, 1), (99, .goto 4, 3), (102, .iconst 1, 1), (103, .ireturn, 1)]
theorem zd_179 : ∀ q ∈ zp_179, decode cX10_take q.1 = .ok q.2 := by decide +kernel
/-- BenchMemoriesModel.lowest(JJI)J -/
def zp_180 : List (Nat × Instr × Nat) := [(0, .lload_n 2, 1), (1, .lstore 5, 2), (3, .lload_n 0, 1), (4, .lstore 7, 2), (6, .lload 7, 2), (8, .lconst 0, 1), (9, .lcmp, 1), (10, .ifCond .eq 21, 3), (13, .lload 5, 2), (15, .lload 7, 2), (17, .lrem, 1), (18, .lstore 9, 2), (20, .lload 7, 2), (22, .lstore 5, 2), (24, .lload 9, 2), (26, .lstore 7, 2), (28, .goto (-22), 3), (31, .iload 4, 2), (33, .ifCond .ne 10, 3), (36, .lload_n 0, 1), (37, .lload 5, 2), (39, .ldiv, 1), (40, .goto 7, 3), (43, .lload_n 2, 1), (44, .lload 5, 2), (46, .ldiv, 1), (47, .lreturn, 1)]
theorem zd_180 : ∀ q ∈ zp_180, decode cX10_lowest q.1 = .ok q.2 := by decide +kernel
/-- BenchMemoriesModel.evenings(IIII)J -/
def zp_181 : List (Nat × Instr × Nat) := [(0, .iload_n 1, 1), (1, .i2l, 1), (2, .lconst 0, 1), (3, .ldc2_w 266, 3), (6, .invokestatic 79, 3), (9, .ifCond .eq 36, 3), (12, .iload_n 2, 1), (13, .i2l, 1), (14, .lconst 1, 1), (15, .ldc2_w 268, 3), (18, .invokestatic 79, 3), (21, .ifCond .eq 24, 3), (24, .iload_n 3, 1), (25, .i2l, 1), (26, .lconst 0, 1), (27, .lconst 1, 1), (28, .invokestatic 79, 3), (31, .ifCond .eq 14, 3), (34, .iload 4, 2), (36, .i2l, 1), (37, .lconst 0, 1), (38, .lconst 1, 1), (39, .invokestatic 79, 3), (42, .ifCond .ne 7, 3), (45, .ldc2_w 270, 3), (48, .lreturn, 1), (49, .lconst 1, 1), (50, .lstore 5, 2), (52, .lconst 1, 1), (53, .lstore 7, 2), (55, .iconst 0, 1), (56, .istore 9, 2), (58, .iload 9, 2), (60, .iload_n 1, 1), (61, .if_icmp .ge 25, 3), (64, .lload 5, 2), (66, .iload_n 2, 1), (67, .i2l, 1), (68, .lmul, 1), (69, .lstore 5, 2), (71, .lload 7, 2), (73, .iload_n 2, 1), (74, .iconst 1, 1), (75, .isub, 1), (76, .i2l, 1), (77, .lmul, 1), (78, .lstore 7, 2), (80, .iinc 9 1, 3), (83, .goto (-25), 3), (86, .iload_n 3, 1), (87, .ifCond .ne 11, 3), (90, .lload 5, 2), (92, .lload 7, 2), (94, .lsub, 1), (95, .goto 11, 3), (98, .iload_n 2, 1), (99, .i2l, 1), (100, .lload 5, 2), (102, .lload 7, 2), (104, .lsub, 1), (105, .lmul, 1), (106, .lload 5, 2), (108, .iload 4, 2), (110, .invokestatic 272, 3), (113, .lreturn, 1)]
theorem zd_181 : ∀ q ∈ zp_181, decode cX10_evenings q.1 = .ok q.2 := by decide +kernel
/-- BenchMemoriesModel.seasonOne(III)V -/
def zp_182 : List (Nat × Instr × Nat) := [(0, .iload_n 2, 1), (1, .iconst 3, 1), (2, .if_icmp .ge 7, 3), (5, .iconst 0, 1), (6, .goto 32, 3), (9, .iload_n 2, 1), (10, .iconst 5, 1), (11, .if_icmp .ge 7, 3), (14, .iconst 1, 1), (15, .goto 23, 3), (18, .iload_n 2, 1), (19, .iconst 5, 1), (20, .if_icmp .ne 7, 3), (23, .iconst 2, 1), (24, .goto 14, 3), (27, .iload_n 2, 1), (28, .bipush 6, 2), (30, .if_icmp .ne 7, 3), (33, .iconst 3, 1), (34, .goto 4, 3), (37, .iconst 5, 1), (38, .istore 4, 2), (40, .iload_n 3, 1), (41, .iload 4, 2), (43, .ifCond .ne 8, 3), (46, .bipush 10, 2), (48, .goto 5, 3), (51, .bipush 8, 2), (53, .irem, 1), (54, .istore 5, 2), (56, .iload 4, 2), (58, .iconst 3, 1), (59, .if_icmp .ne 8, 3), (62, .iload 5, 2), (64, .ifCond .ne 7, 3), (67, .iconst 1, 1), (68, .goto 4, 3), (71, .iconst 0, 1), (72, .istore 6, 2), (74, .iload 6, 2), (76, .ifCond .eq 24, 3), (79, .aload_n 0, 1), (80, .iload 4, 2), (82, .iload_n 1, 1), (83, .iload 5, 2), (85, .invokevirtual 185, 3), (88, .ifCond .ne 12, 3), (91, .aload_n 0, 1), (92, .iload 4, 2), (94, .iload_n 1, 1), (95, .iload 5, 2), (97, .invokevirtual 189, 3), (100, .return_, 1)]
theorem zd_182 : ∀ q ∈ zp_182, decode cX10_seasonOne q.1 = .ok q.2 := by decide +kernel
/-- BenchMemoriesModel.manyLie()I -/
def zp_183 : List (Nat × Instr × Nat) := [(0, .iconst 0, 1), (1, .istore_n 1, 1), (2, .iconst 0, 1), (3, .istore_n 2, 1), (4, .iload_n 2, 1), (5, .bipush 10, 2), (7, .if_icmp .ge 26, 3), (10, .iload_n 1, 1), (11, .aload_n 0, 1), (12, .getfield 19, 3), (15, .iload_n 2, 1), (16, .iaload, 1), (17, .ifCond .lt 7, 3), (20, .iconst 1, 1), (21, .goto 4, 3), (24, .iconst 0, 1), (25, .iadd, 1), (26, .istore_n 1, 1), (27, .iinc 2 1, 3), (30, .goto (-26), 3), (33, .iload_n 1, 1), (34, .ireturn, 1)]
theorem zd_183 : ∀ q ∈ zp_183, decode cX10_manyLie q.1 = .ok q.2 := by decide +kernel
/-- BenchMemoriesModel.manyLost()I -/
def zp_184 : List (Nat × Instr × Nat) := [(0, .iconst 0, 1), (1, .istore_n 1, 1), (2, .iconst 0, 1), (3, .istore_n 2, 1), (4, .iload_n 2, 1), (5, .bipush 12, 2), (7, .if_icmp .ge 25, 3), (10, .iload_n 1, 1), (11, .aload_n 0, 1), (12, .iload_n 2, 1), (13, .invokevirtual 102, 3), (16, .ifCond .ge 7, 3), (19, .iconst 1, 1), (20, .goto 4, 3), (23, .iconst 0, 1), (24, .iadd, 1), (25, .istore_n 1, 1), (26, .iinc 2 1, 3), (29, .goto (-25), 3), (32, .iload_n 1, 1), (33, .ireturn, 1)]
theorem zd_184 : ∀ q ∈ zp_184, decode cX10_manyLost q.1 = .ok q.2 := by decide +kernel
/-- BenchMemoriesModel.season(III)I -/
def zp_185 : List (Nat × Instr × Nat) := [(0, .iload_n 1, 1), (1, .i2l, 1), (2, .lconst 0, 1), (3, .ldc2_w 276, 3), (6, .invokestatic 79, 3), (9, .ifCond .eq 27, 3), (12, .iload_n 2, 1), (13, .i2l, 1), (14, .lconst 1, 1), (15, .ldc2_w 278, 3), (18, .invokestatic 79, 3), (21, .ifCond .eq 15, 3), (24, .iload_n 3, 1), (25, .i2l, 1), (26, .lconst 0, 1), (27, .ldc2_w 203, 3), (30, .invokestatic 79, 3), (33, .ifCond .ne 6, 3), (36, .bipush (-2), 2), (38, .ireturn, 1), (39, .aload_n 0, 1), (40, .invokevirtual 193, 3), (43, .iload_n 1, 1), (44, .istore 4, 2), (46, .iconst 0, 1), (47, .istore 5, 2), (49, .iload 5, 2), (51, .iload_n 2, 1), (52, .if_icmp .ge 49, 3), (55, .ldc2_w 280, 3), (58, .iload 4, 2), (60, .i2l, 1), (61, .lmul, 1), (62, .ldc2_w 282, 3), (65, .ladd, 1), (66, .ldc2_w 284, 3), (69, .lrem, 1), (70, .l2i, 1), (71, .istore 4, 2), (73, .aload_n 0, 1), (74, .iload 4, 2), (76, .bipush 8, 2), (78, .irem, 1), (79, .iload 4, 2), (81, .bipush 8, 2), (83, .idiv, 1), (84, .bipush 8, 2), (86, .irem, 1), (87, .iload 4, 2), (89, .bipush 64, 2), (91, .idiv, 1), (92, .invokevirtual 286, 3), (95, .iinc 5 1, 3), (98, .goto (-49), 3), (101, .aload_n 0, 1), (102, .iload_n 3, 1), (103, .ifCond .ne 10, 3), (106, .aload_n 0, 1), (107, .invokevirtual 289, 3), (110, .goto 19, 3), (113, .iload_n 3, 1), (114, .iconst 1, 1), (115, .if_icmp .ne 10, 3), (118, .aload_n 0, 1), (119, .invokevirtual 292, 3), (122, .goto 7, 3), (125, .aload_n 0, 1), (126, .getfield 159, 3), (129, .invokevirtual 208, 3), (132, .ireturn, 1)]
theorem zd_185 : ∀ q ∈ zp_185, decode cX10_season q.1 = .ok q.2 := by decide +kernel
/-- BenchMemoriesModel.pass(I)I -/
def zp_186 : List (Nat × Instr × Nat) := [(0, .aload_n 0, 1), (1, .getfield 295, 3), (4, .ifCond .eq 7, 3), (7, .iload_n 1, 1), (8, .goto 12, 3), (11, .aload_n 0, 1), (12, .getfield 71, 3), (15, .aload_n 0, 1), (16, .getfield 299, 3), (19, .iaload, 1), (20, .istore_n 2, 1), (21, .aload_n 0, 1), (22, .getfield 71, 3), (25, .aload_n 0, 1), (26, .getfield 299, 3), (29, .iload_n 2, 1), (30, .iastore, 1), (31, .aload_n 0, 1), (32, .dup, 1), (33, .getfield 299, 3), (36, .iconst 1, 1), (37, .iadd, 1), (38, .putfield 299, 3), (41, .iload_n 2, 1), (42, .ireturn, 1)]
theorem zd_186 : ∀ q ∈ zp_186, decode cX10_pass q.1 = .ok q.2 := by decide +kernel
/-- BenchMemoriesModel.passRow([II)V -/
def zp_187 : List (Nat × Instr × Nat) := [(0, .iconst 0, 1), (1, .istore_n 3, 1), (2, .iload_n 3, 1), (3, .iload_n 2, 1), (4, .if_icmp .ge 19, 3), (7, .aload_n 1, 1), (8, .iload_n 3, 1), (9, .aload_n 0, 1), (10, .aload_n 1, 1), (11, .iload_n 3, 1), (12, .iaload, 1), (13, .invokevirtual 302, 3), (16, .iastore, 1), (17, .iinc 3 1, 3), (20, .goto (-18), 3), (23, .return_, 1)]
theorem zd_187 : ∀ q ∈ zp_187, decode cX10_passRow q.1 = .ok q.2 := by decide +kernel
/-- BenchMemoriesModel.passAll()V -/
def zp_188 : List (Nat × Instr × Nat) := [(0, .aload_n 0, 1), (1, .aload_n 0, 1), (2, .aload_n 0, 1), (3, .getfield 146, 3), (6, .invokevirtual 302, 3), (9, .putfield 146, 3), (12, .aload_n 0, 1), (13, .aload_n 0, 1), (14, .aload_n 0, 1), (15, .getfield 159, 3), (18, .invokevirtual 302, 3), (21, .putfield 159, 3), (24, .aload_n 0, 1), (25, .aload_n 0, 1), (26, .aload_n 0, 1), (27, .getfield 241, 3), (30, .invokevirtual 302, 3), (33, .putfield 241, 3), (36, .aload_n 0, 1), (37, .aload_n 0, 1), (38, .getfield 7, 3), (41, .bipush 10, 2), (43, .invokevirtual 305, 3), (46, .aload_n 0, 1), (47, .aload_n 0, 1), (48, .getfield 13, 3), (51, .bipush 8, 2), (53, .invokevirtual 305, 3), (56, .aload_n 0, 1), (57, .aload_n 0, 1), (58, .getfield 16, 3), (61, .bipush 8, 2), (63, .invokevirtual 305, 3), (66, .aload_n 0, 1), (67, .aload_n 0, 1), (68, .getfield 19, 3), (71, .bipush 10, 2), (73, .invokevirtual 305, 3), (76, .aload_n 0, 1), (77, .aload_n 0, 1), (78, .getfield 22, 3), (81, .bipush 10, 2), (83, .invokevirtual 305, 3), (86, .aload_n 0, 1), (87, .aload_n 0, 1), (88, .getfield 25, 3), (91, .bipush 8, 2), (93, .invokevirtual 305, 3), (96, .aload_n 0, 1), (97, .aload_n 0, 1), (98, .getfield 28, 3), (101, .bipush 8, 2), (103, .invokevirtual 305, 3), (106, .aload_n 0, 1), (107, .aload_n 0, 1), (108, .getfield 31, 3), (111, .bipush 8, 2), (113, .invokevirtual 305, 3), (116, .return_, 1)]
theorem zd_188 : ∀ q ∈ zp_188, decode cX10_passAll q.1 = .ok q.2 := by decide +kernel
/-- BenchMemoriesModel.image(I)I -/
def zp_189 : List (Nat × Instr × Nat) := [(0, .iload_n 1, 1), (1, .i2l, 1), (2, .lconst 0, 1), (3, .lconst 1, 1), (4, .invokestatic 79, 3), (7, .ifCond .ne 6, 3), (10, .bipush (-2), 2), (12, .ireturn, 1), (13, .aload_n 0, 1), (14, .bipush 100, 2), (16, .iload_n 1, 1), (17, .imul, 1), (18, .putfield 299, 3), (21, .aload_n 0, 1), (22, .iconst 1, 1), (23, .putfield 295, 3), (26, .aload_n 0, 1), (27, .invokevirtual 309, 3), (30, .aload_n 0, 1), (31, .getfield 74, 3), (34, .iload_n 1, 1), (35, .iconst 1, 1), (36, .bastore, 1), (37, .iconst 1, 1), (38, .ireturn, 1)]
theorem zd_189 : ∀ q ∈ zp_189, decode cX10_image q.1 = .ok q.2 := by decide +kernel
/-- BenchMemoriesModel.restore(I)I -/
def zp_190 : List (Nat × Instr × Nat) := [(0, .iload_n 1, 1), (1, .i2l, 1), (2, .lconst 0, 1), (3, .lconst 1, 1), (4, .invokestatic 79, 3), (7, .ifCond .ne 6, 3), (10, .bipush (-2), 2), (12, .ireturn, 1), (13, .aload_n 0, 1), (14, .getfield 74, 3), (17, .iload_n 1, 1), (18, .baload, 1), (19, .ifCond .ne 6, 3), (22, .bipush (-3), 2), (24, .ireturn, 1), (25, .aload_n 0, 1), (26, .bipush 100, 2), (28, .iload_n 1, 1), (29, .imul, 1), (30, .putfield 299, 3), (33, .aload_n 0, 1), (34, .iconst 0, 1), (35, .putfield 295, 3), (38, .aload_n 0, 1), (39, .invokevirtual 309, 3), (42, .iconst 1, 1), (43, .ireturn, 1)]
theorem zd_190 : ∀ q ∈ zp_190, decode cX10_restore q.1 = .ok q.2 := by decide +kernel
/-- BenchMemoriesModel.ofBenches(I)I -/
def zp_191 : List (Nat × Instr × Nat) := [(0, .iload_n 1, 1), (1, .bipush 10, 2), (3, .irem, 1), (4, .istore_n 2, 1), (5, .iload_n 1, 1), (6, .bipush 20, 2), (8, .if_icmp .ge 12, 3), (11, .aload_n 0, 1), (12, .getfield 7, 3), (15, .iload_n 2, 1), (16, .iaload, 1), (17, .goto 24, 3), (20, .iload_n 1, 1), (21, .bipush 30, 2), (23, .if_icmp .ge 12, 3), (26, .aload_n 0, 1), (27, .getfield 19, 3), (30, .iload_n 2, 1), (31, .iaload, 1), (32, .goto 9, 3), (35, .aload_n 0, 1), (36, .getfield 22, 3), (39, .iload_n 2, 1), (40, .iaload, 1), (41, .ireturn, 1)]
theorem zd_191 : ∀ q ∈ zp_191, decode cX10_ofBenches q.1 = .ok q.2 := by decide +kernel
/-- BenchMemoriesModel.ofOnes(I)I -/
def zp_192 : List (Nat × Instr × Nat) := [(0, .iload_n 1, 1), (1, .bipush 10, 2), (3, .irem, 1), (4, .istore_n 2, 1), (5, .iload_n 2, 1), (6, .invokestatic 99, 3), (9, .ifCond .ne 8, 3), (12, .bipush (-2), 2), (14, .goto 24, 3), (17, .iload_n 1, 1), (18, .bipush 50, 2), (20, .if_icmp .ge 12, 3), (23, .aload_n 0, 1), (24, .getfield 13, 3), (27, .iload_n 2, 1), (28, .iaload, 1), (29, .goto 9, 3), (32, .aload_n 0, 1), (33, .getfield 16, 3), (36, .iload_n 2, 1), (37, .iaload, 1), (38, .ireturn, 1)]
theorem zd_192 : ∀ q ∈ zp_192, decode cX10_ofOnes q.1 = .ok q.2 := by decide +kernel
end
section
set_option maxRecDepth 100000
/-- BenchMemoriesModel.ofAll(I)I -/
def zp_193 : List (Nat × Instr × Nat) := [(0, .iload_n 1, 1), (1, .ifCond .ne 10, 3), (4, .aload_n 0, 1), (5, .getfield 115, 3), (8, .goto 41, 3), (11, .iload_n 1, 1), (12, .iconst 1, 1), (13, .if_icmp .ne 10, 3), (16, .aload_n 0, 1), (17, .getfield 146, 3), (20, .goto 29, 3), (23, .iload_n 1, 1), (24, .iconst 2, 1), (25, .if_icmp .ne 10, 3), (28, .aload_n 0, 1), (29, .getfield 159, 3), (32, .goto 17, 3), (35, .iload_n 1, 1), (36, .iconst 3, 1), (37, .if_icmp .ne 10, 3), (40, .aload_n 0, 1), (41, .getfield 241, 3), (44, .goto 5, 3), (47, .bipush (-2), 2), (49, .ireturn, 1)]
theorem zd_193 : ∀ q ∈ zp_193, decode cX10_ofAll q.1 = .ok q.2 := by decide +kernel
/-- BenchMemoriesModel.told(I)I -/
def zp_194 : List (Nat × Instr × Nat) := [(0, .iload_n 1, 1), (1, .i2l, 1), (2, .ldc2_w 312, 3), (5, .ldc2_w 314, 3), (8, .invokestatic 79, 3), (11, .ifCond .eq 12, 3), (14, .aload_n 0, 1), (15, .iload_n 1, 1), (16, .bipush 100, 2), (18, .isub, 1), (19, .invokevirtual 102, 3), (22, .ireturn, 1), (23, .iload_n 1, 1), (24, .i2l, 1), (25, .ldc2_w 268, 3), (28, .ldc2_w 316, 3), (31, .invokestatic 79, 3), (34, .ifCond .eq 9, 3), (37, .aload_n 0, 1), (38, .iload_n 1, 1), (39, .invokevirtual 318, 3), (42, .ireturn, 1), (43, .iload_n 1, 1), (44, .i2l, 1), (45, .ldc2_w 261, 3), (48, .ldc2_w 321, 3), (51, .invokestatic 79, 3), (54, .ifCond .eq 11, 3), (57, .aload_n 0, 1), (58, .iload_n 1, 1), (59, .invokevirtual 323, 3), (62, .goto 8, 3), (65, .aload_n 0, 1), (66, .iload_n 1, 1), (67, .invokevirtual 326, 3), (70, .ireturn, 1)]
theorem zd_194 : ∀ q ∈ zp_194, decode cX10_told q.1 = .ok q.2 := by decide +kernel
/-- java/lang/Integer.numberOfTrailingZeros(I)I -/
def zp_195 : List (Nat × Instr × Nat) := [(0, .iload_n 0, 1), (1, .iconst (-1), 1), (2, .ixor, 1), (3, .iload_n 0, 1), (4, .iconst 1, 1), (5, .isub, 1), (6, .iand, 1), (7, .istore_n 0, 1), (8, .iload_n 0, 1), (9, .ifCond .gt 8, 3), (12, .iload_n 0, 1), (13, .bipush 32, 2), (15, .iand, 1), (16, .ireturn, 1), (17, .iconst 1, 1), (18, .istore_n 1, 1), (19, .iload_n 0, 1), (20, .ldc_w 264, 3), (23, .if_icmp .le 11, 3), (26, .iinc 1 16, 3), (29, .iload_n 0, 1), (30, .bipush 16, 2), (32, .iushr, 1), (33, .istore_n 0, 1), (34, .iload_n 0, 1), (35, .sipush 256, 3), (38, .if_icmp .le 11, 3), (41, .iinc 1 8, 3), (44, .iload_n 0, 1), (45, .bipush 8, 2), (47, .iushr, 1), (48, .istore_n 0, 1), (49, .iload_n 0, 1), (50, .bipush 16, 2), (52, .if_icmp .le 10, 3), (55, .iinc 1 4, 3), (58, .iload_n 0, 1), (59, .iconst 4, 1), (60, .iushr, 1), (61, .istore_n 0, 1), (62, .iload_n 0, 1), (63, .iconst 4, 1), (64, .if_icmp .le 10, 3), (67, .iinc 1 2, 3), (70, .iload_n 0, 1), (71, .iconst 2, 1), (72, .iushr, 1), (73, .istore_n 0, 1), (74, .iload_n 1, 1), (75, .iload_n 0, 1), (76, .iconst 1, 1), (77, .iushr, 1), (78, .iadd, 1), (79, .ireturn, 1)]
theorem zd_195 : ∀ q ∈ zp_195, decode cJ6_numberOfTrailingZeros_0f7a4 q.1 = .ok q.2 := by decide +kernel
/-- java/lang/Integer.bitCount(I)I -/
def zp_196 : List (Nat × Instr × Nat) := [(0, .iload_n 0, 1), (1, .iload_n 0, 1), (2, .iconst 1, 1), (3, .iushr, 1), (4, .ldc_w 265, 3), (7, .iand, 1), (8, .isub, 1), (9, .istore_n 0, 1), (10, .iload_n 0, 1), (11, .ldc_w 266, 3), (14, .iand, 1), (15, .iload_n 0, 1), (16, .iconst 2, 1), (17, .iushr, 1), (18, .ldc_w 266, 3), (21, .iand, 1), (22, .iadd, 1), (23, .istore_n 0, 1), (24, .iload_n 0, 1), (25, .iload_n 0, 1), (26, .iconst 4, 1), (27, .iushr, 1), (28, .iadd, 1), (29, .ldc_w 267, 3), (32, .iand, 1), (33, .istore_n 0, 1), (34, .iload_n 0, 1), (35, .iload_n 0, 1), (36, .bipush 8, 2), (38, .iushr, 1), (39, .iadd, 1), (40, .istore_n 0, 1), (41, .iload_n 0, 1), (42, .iload_n 0, 1), (43, .bipush 16, 2), (45, .iushr, 1), (46, .iadd, 1), (47, .istore_n 0, 1), (48, .iload_n 0, 1), (49, .bipush 63, 2), (51, .iand, 1), (52, .ireturn, 1)]
theorem zd_196 : ∀ q ∈ zp_196, decode cJ6_bitCount_0f7a4 q.1 = .ok q.2 := by decide +kernel
/-- java/lang/Long.numberOfTrailingZeros(J)I -/
def zp_197 : List (Nat × Instr × Nat) := [(0, .lload_n 0, 1), (1, .l2i, 1), (2, .istore_n 2, 1), (3, .iload_n 2, 1), (4, .ifCond .ne 17, 3), (7, .bipush 32, 2), (9, .lload_n 0, 1), (10, .bipush 32, 2), (12, .lushr, 1), (13, .l2i, 1), (14, .invokestatic 311, 3), (17, .iadd, 1), (18, .goto 7, 3), (21, .iload_n 2, 1), (22, .invokestatic 311, 3), (25, .ireturn, 1)]
theorem zd_197 : ∀ q ∈ zp_197, decode cJ13_numberOfTrailingZeros_95d88 q.1 = .ok q.2 := by decide +kernel
/-- java/lang/Math.max(II)I -/
def zp_198 : List (Nat × Instr × Nat) := [(0, .iload_n 0, 1), (1, .iload_n 1, 1), (2, .if_icmp .lt 7, 3), (5, .iload_n 0, 1), (6, .goto 4, 3), (9, .iload_n 1, 1), (10, .ireturn, 1)]
theorem zd_198 : ∀ q ∈ zp_198, decode cJ9_max_7cf53 q.1 = .ok q.2 := by decide +kernel
/-- java/lang/Math.max(JJ)J -/
def zp_199 : List (Nat × Instr × Nat) := [(0, .lload_n 0, 1), (1, .lload_n 2, 1), (2, .lcmp, 1), (3, .ifCond .lt 7, 3), (6, .lload_n 0, 1), (7, .goto 4, 3), (10, .lload_n 2, 1), (11, .lreturn, 1)]
theorem zd_199 : ∀ q ∈ zp_199, decode cJ9_max_f86c9 q.1 = .ok q.2 := by decide +kernel
/-- java/lang/Math.min(II)I -/
def zp_200 : List (Nat × Instr × Nat) := [(0, .iload_n 0, 1), (1, .iload_n 1, 1), (2, .if_icmp .gt 7, 3), (5, .iload_n 0, 1), (6, .goto 4, 3), (9, .iload_n 1, 1), (10, .ireturn, 1)]
theorem zd_200 : ∀ q ∈ zp_200, decode cJ9_min_7cf53 q.1 = .ok q.2 := by decide +kernel
/-- java/util/Arrays.fill([II)V -/
def zp_201 : List (Nat × Instr × Nat) := [(0, .iconst 0, 1), (1, .istore_n 2, 1), (2, .aload_n 0, 1), (3, .arraylength, 1), (4, .istore_n 3, 1), (5, .iload_n 2, 1), (6, .iload_n 3, 1), (7, .if_icmp .ge 13, 3), (10, .aload_n 0, 1), (11, .iload_n 2, 1), (12, .iload_n 1, 1), (13, .iastore, 1), (14, .iinc 2 1, 3), (17, .goto (-12), 3), (20, .return_, 1)]
theorem zd_201 : ∀ q ∈ zp_201, decode cJ7_fill_53178 q.1 = .ok q.2 := by decide +kernel
def zp_202_0 : List (Nat × Instr × Nat) := [(0, .new 7, 3), (3, .dup, 1), (4, .invokespecial 9, 3), (7, .astore_n 1, 1), (8, .new 10, 3), (11, .dup, 1), (12, .invokespecial 12, 3), (15, .astore_n 2, 1), (16, .iconst 0, 1), (17, .istore_n 3, 1), (18, .iload_n 3, 1), (19, .aload_n 0, 1), (20, .arraylength, 1), (21, .iconst 5, 1), (22, .isub, 1), (23, .if_icmp .gt 1017, 3), (26, .aload_n 0, 1), (27, .iload_n 3, 1), (28, .iaload, 1), (29, .bipush 31, 2), (31, .iand, 1), (32, .tableswitch 1002 0 28 #[132, 191, 224, 257, 300, 323, 346, 359, 372, 395, 428, 461, 494, 507, 520, 553, 586, 619, 652, 685, 744, 757, 780, 803, 836, 890, 933, 956, 979], 132), (164, .aload_n 1, 1), (165, .aload_n 0, 1), (166, .iload_n 3, 1), (167, .iconst 1, 1), (168, .iadd, 1), (169, .iaload, 1), (170, .aload_n 0, 1), (171, .iload_n 3, 1), (172, .iconst 2, 1), (173, .iadd, 1), (174, .iaload, 1), (175, .aload_n 0, 1), (176, .iload_n 3, 1), (177, .iconst 3, 1), (178, .iadd, 1), (179, .iaload, 1), (180, .ifCond .eq 7, 3), (183, .iconst 1, 1), (184, .goto 4, 3), (187, .iconst 0, 1), (188, .invokevirtual 13, 3), (191, .aload_n 2, 1), (192, .aload_n 0, 1), (193, .iload_n 3, 1), (194, .iconst 1, 1), (195, .iadd, 1), (196, .iaload, 1), (197, .aload_n 0, 1), (198, .iload_n 3, 1), (199, .iconst 2, 1), (200, .iadd, 1), (201, .iaload, 1), (202, .aload_n 0, 1), (203, .iload_n 3, 1), (204, .iconst 3, 1), (205, .iadd, 1), (206, .iaload, 1), (207, .ifCond .eq 7, 3)]
theorem zd_202_0 : ∀ q ∈ zp_202_0, decode cL_law q.1 = .ok q.2 := by decide +kernel
def zp_202_1 : List (Nat × Instr × Nat) := [(210, .iconst 1, 1), (211, .goto 4, 3), (214, .iconst 0, 1), (215, .invokevirtual 17, 3), (218, .if_icmp .eq 816, 3), (221, .iconst 0, 1), (222, .ireturn, 1), (223, .aload_n 1, 1), (224, .aload_n 0, 1), (225, .iload_n 3, 1), (226, .iconst 1, 1), (227, .iadd, 1), (228, .iaload, 1), (229, .aload_n 0, 1), (230, .iload_n 3, 1), (231, .iconst 2, 1), (232, .iadd, 1), (233, .iaload, 1), (234, .invokevirtual 18, 3), (237, .aload_n 2, 1), (238, .aload_n 0, 1), (239, .iload_n 3, 1), (240, .iconst 1, 1), (241, .iadd, 1), (242, .iaload, 1), (243, .aload_n 0, 1), (244, .iload_n 3, 1), (245, .iconst 2, 1), (246, .iadd, 1), (247, .iaload, 1), (248, .invokevirtual 22, 3), (251, .if_icmp .eq 783, 3), (254, .iconst 0, 1), (255, .ireturn, 1), (256, .aload_n 1, 1), (257, .aload_n 0, 1), (258, .iload_n 3, 1), (259, .iconst 1, 1), (260, .iadd, 1), (261, .iaload, 1), (262, .aload_n 0, 1), (263, .iload_n 3, 1), (264, .iconst 2, 1), (265, .iadd, 1), (266, .iaload, 1), (267, .invokevirtual 23, 3), (270, .aload_n 2, 1), (271, .aload_n 0, 1), (272, .iload_n 3, 1), (273, .iconst 1, 1), (274, .iadd, 1), (275, .iaload, 1), (276, .aload_n 0, 1), (277, .iload_n 3, 1), (278, .iconst 2, 1), (279, .iadd, 1), (280, .iaload, 1), (281, .invokevirtual 26, 3), (284, .if_icmp .eq 750, 3), (287, .iconst 0, 1)]
theorem zd_202_1 : ∀ q ∈ zp_202_1, decode cL_law q.1 = .ok q.2 := by decide +kernel
def zp_202_2 : List (Nat × Instr × Nat) := [(288, .ireturn, 1), (289, .aload_n 1, 1), (290, .aload_n 0, 1), (291, .iload_n 3, 1), (292, .iconst 1, 1), (293, .iadd, 1), (294, .iaload, 1), (295, .aload_n 0, 1), (296, .iload_n 3, 1), (297, .iconst 2, 1), (298, .iadd, 1), (299, .iaload, 1), (300, .aload_n 0, 1), (301, .iload_n 3, 1), (302, .iconst 3, 1), (303, .iadd, 1), (304, .iaload, 1), (305, .invokevirtual 27, 3), (308, .aload_n 2, 1), (309, .aload_n 0, 1), (310, .iload_n 3, 1), (311, .iconst 1, 1), (312, .iadd, 1), (313, .iaload, 1), (314, .aload_n 0, 1), (315, .iload_n 3, 1), (316, .iconst 2, 1), (317, .iadd, 1), (318, .iaload, 1), (319, .aload_n 0, 1), (320, .iload_n 3, 1), (321, .iconst 3, 1), (322, .iadd, 1), (323, .iaload, 1), (324, .invokevirtual 31, 3), (327, .if_icmp .eq 707, 3), (330, .iconst 0, 1), (331, .ireturn, 1), (332, .aload_n 1, 1), (333, .aload_n 0, 1), (334, .iload_n 3, 1), (335, .iconst 1, 1), (336, .iadd, 1), (337, .iaload, 1), (338, .invokevirtual 32, 3), (341, .aload_n 2, 1), (342, .aload_n 0, 1), (343, .iload_n 3, 1), (344, .iconst 1, 1), (345, .iadd, 1), (346, .iaload, 1), (347, .invokevirtual 36, 3), (350, .if_icmp .eq 684, 3), (353, .iconst 0, 1), (354, .ireturn, 1), (355, .aload_n 1, 1), (356, .aload_n 0, 1), (357, .iload_n 3, 1), (358, .iconst 1, 1), (359, .iadd, 1)]
theorem zd_202_2 : ∀ q ∈ zp_202_2, decode cL_law q.1 = .ok q.2 := by decide +kernel
def zp_202_3 : List (Nat × Instr × Nat) := [(360, .iaload, 1), (361, .invokevirtual 37, 3), (364, .aload_n 2, 1), (365, .aload_n 0, 1), (366, .iload_n 3, 1), (367, .iconst 1, 1), (368, .iadd, 1), (369, .iaload, 1), (370, .invokevirtual 40, 3), (373, .if_icmp .eq 661, 3), (376, .iconst 0, 1), (377, .ireturn, 1), (378, .aload_n 1, 1), (379, .invokevirtual 41, 3), (382, .aload_n 2, 1), (383, .invokevirtual 45, 3), (386, .if_icmp .eq 648, 3), (389, .iconst 0, 1), (390, .ireturn, 1), (391, .aload_n 1, 1), (392, .invokevirtual 46, 3), (395, .aload_n 2, 1), (396, .invokevirtual 49, 3), (399, .if_icmp .eq 635, 3), (402, .iconst 0, 1), (403, .ireturn, 1), (404, .aload_n 1, 1), (405, .aload_n 0, 1), (406, .iload_n 3, 1), (407, .iconst 1, 1), (408, .iadd, 1), (409, .iaload, 1), (410, .invokevirtual 50, 3), (413, .aload_n 2, 1), (414, .aload_n 0, 1), (415, .iload_n 3, 1), (416, .iconst 1, 1), (417, .iadd, 1), (418, .iaload, 1), (419, .invokevirtual 53, 3), (422, .if_icmp .eq 612, 3), (425, .iconst 0, 1), (426, .ireturn, 1), (427, .aload_n 1, 1), (428, .aload_n 0, 1), (429, .iload_n 3, 1), (430, .iconst 1, 1), (431, .iadd, 1), (432, .iaload, 1), (433, .aload_n 0, 1), (434, .iload_n 3, 1), (435, .iconst 2, 1), (436, .iadd, 1), (437, .iaload, 1), (438, .invokevirtual 54, 3), (441, .aload_n 2, 1), (442, .aload_n 0, 1), (443, .iload_n 3, 1), (444, .iconst 1, 1), (445, .iadd, 1)]
theorem zd_202_3 : ∀ q ∈ zp_202_3, decode cL_law q.1 = .ok q.2 := by decide +kernel
def zp_202_4 : List (Nat × Instr × Nat) := [(446, .iaload, 1), (447, .aload_n 0, 1), (448, .iload_n 3, 1), (449, .iconst 2, 1), (450, .iadd, 1), (451, .iaload, 1), (452, .invokevirtual 57, 3), (455, .if_icmp .eq 579, 3), (458, .iconst 0, 1), (459, .ireturn, 1), (460, .aload_n 1, 1), (461, .aload_n 0, 1), (462, .iload_n 3, 1), (463, .iconst 1, 1), (464, .iadd, 1), (465, .iaload, 1), (466, .aload_n 0, 1), (467, .iload_n 3, 1), (468, .iconst 2, 1), (469, .iadd, 1), (470, .iaload, 1), (471, .invokevirtual 58, 3), (474, .aload_n 2, 1), (475, .aload_n 0, 1), (476, .iload_n 3, 1), (477, .iconst 1, 1), (478, .iadd, 1), (479, .iaload, 1), (480, .aload_n 0, 1), (481, .iload_n 3, 1), (482, .iconst 2, 1), (483, .iadd, 1), (484, .iaload, 1), (485, .invokevirtual 61, 3), (488, .if_icmp .eq 546, 3), (491, .iconst 0, 1), (492, .ireturn, 1), (493, .aload_n 1, 1), (494, .aload_n 0, 1), (495, .iload_n 3, 1), (496, .iconst 1, 1), (497, .iadd, 1), (498, .iaload, 1), (499, .aload_n 0, 1), (500, .iload_n 3, 1), (501, .iconst 2, 1), (502, .iadd, 1), (503, .iaload, 1), (504, .invokevirtual 62, 3), (507, .aload_n 2, 1), (508, .aload_n 0, 1), (509, .iload_n 3, 1), (510, .iconst 1, 1), (511, .iadd, 1), (512, .iaload, 1), (513, .aload_n 0, 1), (514, .iload_n 3, 1), (515, .iconst 2, 1), (516, .iadd, 1), (517, .iaload, 1)]
theorem zd_202_4 : ∀ q ∈ zp_202_4, decode cL_law q.1 = .ok q.2 := by decide +kernel
def zp_202_5 : List (Nat × Instr × Nat) := [(518, .invokevirtual 65, 3), (521, .if_icmp .eq 513, 3), (524, .iconst 0, 1), (525, .ireturn, 1), (526, .aload_n 1, 1), (527, .invokevirtual 66, 3), (530, .aload_n 2, 1), (531, .invokevirtual 69, 3), (534, .if_icmp .eq 500, 3), (537, .iconst 0, 1), (538, .ireturn, 1), (539, .aload_n 1, 1), (540, .invokevirtual 70, 3), (543, .aload_n 2, 1), (544, .invokevirtual 73, 3), (547, .if_icmp .eq 487, 3), (550, .iconst 0, 1), (551, .ireturn, 1), (552, .aload_n 1, 1), (553, .aload_n 0, 1), (554, .iload_n 3, 1), (555, .iconst 1, 1), (556, .iadd, 1), (557, .iaload, 1), (558, .aload_n 0, 1), (559, .iload_n 3, 1), (560, .iconst 2, 1), (561, .iadd, 1), (562, .iaload, 1), (563, .invokevirtual 74, 3), (566, .aload_n 2, 1), (567, .aload_n 0, 1), (568, .iload_n 3, 1), (569, .iconst 1, 1), (570, .iadd, 1), (571, .iaload, 1), (572, .aload_n 0, 1), (573, .iload_n 3, 1), (574, .iconst 2, 1), (575, .iadd, 1), (576, .iaload, 1), (577, .invokevirtual 77, 3), (580, .if_icmp .eq 454, 3), (583, .iconst 0, 1), (584, .ireturn, 1), (585, .aload_n 1, 1), (586, .aload_n 0, 1), (587, .iload_n 3, 1), (588, .iconst 1, 1), (589, .iadd, 1), (590, .iaload, 1), (591, .aload_n 0, 1), (592, .iload_n 3, 1), (593, .iconst 2, 1), (594, .iadd, 1), (595, .iaload, 1), (596, .invokevirtual 78, 3), (599, .aload_n 2, 1), (600, .aload_n 0, 1), (601, .iload_n 3, 1)]
theorem zd_202_5 : ∀ q ∈ zp_202_5, decode cL_law q.1 = .ok q.2 := by decide +kernel
def zp_202_6 : List (Nat × Instr × Nat) := [(602, .iconst 1, 1), (603, .iadd, 1), (604, .iaload, 1), (605, .aload_n 0, 1), (606, .iload_n 3, 1), (607, .iconst 2, 1), (608, .iadd, 1), (609, .iaload, 1), (610, .invokevirtual 81, 3), (613, .if_icmp .eq 421, 3), (616, .iconst 0, 1), (617, .ireturn, 1), (618, .aload_n 1, 1), (619, .aload_n 0, 1), (620, .iload_n 3, 1), (621, .iconst 1, 1), (622, .iadd, 1), (623, .iaload, 1), (624, .aload_n 0, 1), (625, .iload_n 3, 1), (626, .iconst 2, 1), (627, .iadd, 1), (628, .iaload, 1), (629, .invokevirtual 82, 3), (632, .aload_n 2, 1), (633, .aload_n 0, 1), (634, .iload_n 3, 1), (635, .iconst 1, 1), (636, .iadd, 1), (637, .iaload, 1), (638, .aload_n 0, 1), (639, .iload_n 3, 1), (640, .iconst 2, 1), (641, .iadd, 1), (642, .iaload, 1), (643, .invokevirtual 85, 3), (646, .if_icmp .eq 388, 3), (649, .iconst 0, 1), (650, .ireturn, 1), (651, .aload_n 1, 1), (652, .aload_n 0, 1), (653, .iload_n 3, 1), (654, .iconst 1, 1), (655, .iadd, 1), (656, .iaload, 1), (657, .aload_n 0, 1), (658, .iload_n 3, 1), (659, .iconst 2, 1), (660, .iadd, 1), (661, .iaload, 1), (662, .invokevirtual 86, 3), (665, .aload_n 2, 1), (666, .aload_n 0, 1), (667, .iload_n 3, 1), (668, .iconst 1, 1), (669, .iadd, 1), (670, .iaload, 1), (671, .aload_n 0, 1), (672, .iload_n 3, 1), (673, .iconst 2, 1)]
theorem zd_202_6 : ∀ q ∈ zp_202_6, decode cL_law q.1 = .ok q.2 := by decide +kernel
def zp_202_7 : List (Nat × Instr × Nat) := [(674, .iadd, 1), (675, .iaload, 1), (676, .invokevirtual 89, 3), (679, .if_icmp .eq 355, 3), (682, .iconst 0, 1), (683, .ireturn, 1), (684, .aload_n 1, 1), (685, .aload_n 0, 1), (686, .iload_n 3, 1), (687, .iconst 1, 1), (688, .iadd, 1), (689, .iaload, 1), (690, .aload_n 0, 1), (691, .iload_n 3, 1), (692, .iconst 2, 1), (693, .iadd, 1), (694, .iaload, 1), (695, .invokevirtual 90, 3), (698, .aload_n 2, 1), (699, .aload_n 0, 1), (700, .iload_n 3, 1), (701, .iconst 1, 1), (702, .iadd, 1), (703, .iaload, 1), (704, .aload_n 0, 1), (705, .iload_n 3, 1), (706, .iconst 2, 1), (707, .iadd, 1), (708, .iaload, 1), (709, .invokevirtual 93, 3), (712, .if_icmp .eq 322, 3), (715, .iconst 0, 1), (716, .ireturn, 1), (717, .aload_n 1, 1), (718, .aload_n 0, 1), (719, .iload_n 3, 1), (720, .iconst 1, 1), (721, .iadd, 1), (722, .iaload, 1), (723, .aload_n 0, 1), (724, .iload_n 3, 1), (725, .iconst 2, 1), (726, .iadd, 1), (727, .iaload, 1), (728, .aload_n 0, 1), (729, .iload_n 3, 1), (730, .iconst 3, 1), (731, .iadd, 1), (732, .iaload, 1), (733, .ifCond .eq 7, 3), (736, .iconst 1, 1), (737, .goto 4, 3), (740, .iconst 0, 1), (741, .invokevirtual 94, 3), (744, .aload_n 2, 1), (745, .aload_n 0, 1), (746, .iload_n 3, 1), (747, .iconst 1, 1), (748, .iadd, 1), (749, .iaload, 1)]
theorem zd_202_7 : ∀ q ∈ zp_202_7, decode cL_law q.1 = .ok q.2 := by decide +kernel
def zp_202_8 : List (Nat × Instr × Nat) := [(750, .aload_n 0, 1), (751, .iload_n 3, 1), (752, .iconst 2, 1), (753, .iadd, 1), (754, .iaload, 1), (755, .aload_n 0, 1), (756, .iload_n 3, 1), (757, .iconst 3, 1), (758, .iadd, 1), (759, .iaload, 1), (760, .ifCond .eq 7, 3), (763, .iconst 1, 1), (764, .goto 4, 3), (767, .iconst 0, 1), (768, .invokevirtual 97, 3), (771, .if_icmp .eq 263, 3), (774, .iconst 0, 1), (775, .ireturn, 1), (776, .aload_n 1, 1), (777, .invokevirtual 98, 3), (780, .aload_n 2, 1), (781, .invokevirtual 101, 3), (784, .if_icmp .eq 250, 3), (787, .iconst 0, 1), (788, .ireturn, 1), (789, .aload_n 1, 1), (790, .aload_n 0, 1), (791, .iload_n 3, 1), (792, .iconst 1, 1), (793, .iadd, 1), (794, .iaload, 1), (795, .invokevirtual 102, 3), (798, .aload_n 2, 1), (799, .aload_n 0, 1), (800, .iload_n 3, 1), (801, .iconst 1, 1), (802, .iadd, 1), (803, .iaload, 1), (804, .invokevirtual 105, 3), (807, .if_icmp .eq 227, 3), (810, .iconst 0, 1), (811, .ireturn, 1), (812, .aload_n 1, 1), (813, .aload_n 0, 1), (814, .iload_n 3, 1), (815, .iconst 1, 1), (816, .iadd, 1), (817, .iaload, 1), (818, .invokevirtual 106, 3), (821, .aload_n 2, 1), (822, .aload_n 0, 1), (823, .iload_n 3, 1), (824, .iconst 1, 1), (825, .iadd, 1), (826, .iaload, 1), (827, .invokevirtual 109, 3), (830, .if_icmp .eq 204, 3), (833, .iconst 0, 1), (834, .ireturn, 1), (835, .aload_n 1, 1)]
theorem zd_202_8 : ∀ q ∈ zp_202_8, decode cL_law q.1 = .ok q.2 := by decide +kernel
def zp_202_9 : List (Nat × Instr × Nat) := [(836, .aload_n 0, 1), (837, .iload_n 3, 1), (838, .iconst 1, 1), (839, .iadd, 1), (840, .iaload, 1), (841, .aload_n 0, 1), (842, .iload_n 3, 1), (843, .iconst 2, 1), (844, .iadd, 1), (845, .iaload, 1), (846, .invokevirtual 110, 3), (849, .aload_n 2, 1), (850, .aload_n 0, 1), (851, .iload_n 3, 1), (852, .iconst 1, 1), (853, .iadd, 1), (854, .iaload, 1), (855, .aload_n 0, 1), (856, .iload_n 3, 1), (857, .iconst 2, 1), (858, .iadd, 1), (859, .iaload, 1), (860, .invokevirtual 113, 3), (863, .if_icmp .eq 171, 3), (866, .iconst 0, 1), (867, .ireturn, 1), (868, .aload_n 1, 1), (869, .aload_n 0, 1), (870, .iload_n 3, 1), (871, .iconst 1, 1), (872, .iadd, 1), (873, .iaload, 1), (874, .aload_n 0, 1), (875, .iload_n 3, 1), (876, .iconst 2, 1), (877, .iadd, 1), (878, .iaload, 1), (879, .aload_n 0, 1), (880, .iload_n 3, 1), (881, .iconst 3, 1), (882, .iadd, 1), (883, .iaload, 1), (884, .aload_n 0, 1), (885, .iload_n 3, 1), (886, .iconst 4, 1), (887, .iadd, 1), (888, .iaload, 1), (889, .invokevirtual 114, 3), (892, .aload_n 2, 1), (893, .aload_n 0, 1), (894, .iload_n 3, 1), (895, .iconst 1, 1), (896, .iadd, 1), (897, .iaload, 1), (898, .aload_n 0, 1), (899, .iload_n 3, 1), (900, .iconst 2, 1), (901, .iadd, 1), (902, .iaload, 1), (903, .aload_n 0, 1)]
theorem zd_202_9 : ∀ q ∈ zp_202_9, decode cL_law q.1 = .ok q.2 := by decide +kernel
def zp_202_10 : List (Nat × Instr × Nat) := [(904, .iload_n 3, 1), (905, .iconst 3, 1), (906, .iadd, 1), (907, .iaload, 1), (908, .aload_n 0, 1), (909, .iload_n 3, 1), (910, .iconst 4, 1), (911, .iadd, 1), (912, .iaload, 1), (913, .invokevirtual 118, 3), (916, .lcmp, 1), (917, .ifCond .eq 117, 3), (920, .iconst 0, 1), (921, .ireturn, 1), (922, .aload_n 1, 1), (923, .aload_n 0, 1), (924, .iload_n 3, 1), (925, .iconst 1, 1), (926, .iadd, 1), (927, .iaload, 1), (928, .aload_n 0, 1), (929, .iload_n 3, 1), (930, .iconst 2, 1), (931, .iadd, 1), (932, .iaload, 1), (933, .aload_n 0, 1), (934, .iload_n 3, 1), (935, .iconst 3, 1), (936, .iadd, 1), (937, .iaload, 1), (938, .invokevirtual 119, 3), (941, .aload_n 2, 1), (942, .aload_n 0, 1), (943, .iload_n 3, 1), (944, .iconst 1, 1), (945, .iadd, 1), (946, .iaload, 1), (947, .aload_n 0, 1), (948, .iload_n 3, 1), (949, .iconst 2, 1), (950, .iadd, 1), (951, .iaload, 1), (952, .aload_n 0, 1), (953, .iload_n 3, 1), (954, .iconst 3, 1), (955, .iadd, 1), (956, .iaload, 1), (957, .invokevirtual 122, 3), (960, .if_icmp .eq 74, 3), (963, .iconst 0, 1), (964, .ireturn, 1), (965, .aload_n 1, 1), (966, .aload_n 0, 1), (967, .iload_n 3, 1), (968, .iconst 1, 1), (969, .iadd, 1), (970, .iaload, 1), (971, .invokevirtual 123, 3), (974, .aload_n 2, 1), (975, .aload_n 0, 1)]
theorem zd_202_10 : ∀ q ∈ zp_202_10, decode cL_law q.1 = .ok q.2 := by decide +kernel
def zp_202_11 : List (Nat × Instr × Nat) := [(976, .iload_n 3, 1), (977, .iconst 1, 1), (978, .iadd, 1), (979, .iaload, 1), (980, .invokevirtual 126, 3), (983, .if_icmp .eq 51, 3), (986, .iconst 0, 1), (987, .ireturn, 1), (988, .aload_n 1, 1), (989, .aload_n 0, 1), (990, .iload_n 3, 1), (991, .iconst 1, 1), (992, .iadd, 1), (993, .iaload, 1), (994, .invokevirtual 127, 3), (997, .aload_n 2, 1), (998, .aload_n 0, 1), (999, .iload_n 3, 1), (1000, .iconst 1, 1), (1001, .iadd, 1), (1002, .iaload, 1), (1003, .invokevirtual 130, 3), (1006, .if_icmp .eq 28, 3), (1009, .iconst 0, 1), (1010, .ireturn, 1), (1011, .aload_n 1, 1), (1012, .aload_n 0, 1), (1013, .iload_n 3, 1), (1014, .iconst 1, 1), (1015, .iadd, 1), (1016, .iaload, 1), (1017, .invokevirtual 131, 3), (1020, .aload_n 2, 1), (1021, .aload_n 0, 1), (1022, .iload_n 3, 1), (1023, .iconst 1, 1), (1024, .iadd, 1), (1025, .iaload, 1), (1026, .invokevirtual 134, 3), (1029, .if_icmp .eq 5, 3), (1032, .iconst 0, 1), (1033, .ireturn, 1), (1034, .iinc 3 5, 3), (1037, .goto (-1019), 3), (1040, .iconst 1, 1), (1041, .ireturn, 1)]
theorem zd_202_11 : ∀ q ∈ zp_202_11, decode cL_law q.1 = .ok q.2 := by decide +kernel
def zp_202 : List (Nat × Instr × Nat) := zp_202_0 ++ (zp_202_1 ++ (zp_202_2 ++ (zp_202_3 ++ (zp_202_4 ++ (zp_202_5 ++ (zp_202_6 ++ (zp_202_7 ++ (zp_202_8 ++ (zp_202_9 ++ (zp_202_10 ++ (zp_202_11)))))))))))
theorem zd_202 : ∀ q ∈ zp_202, decode cL_law q.1 = .ok q.2 := List.forall_mem_append.mpr ⟨zd_202_0, List.forall_mem_append.mpr ⟨zd_202_1, List.forall_mem_append.mpr ⟨zd_202_2, List.forall_mem_append.mpr ⟨zd_202_3, List.forall_mem_append.mpr ⟨zd_202_4, List.forall_mem_append.mpr ⟨zd_202_5, List.forall_mem_append.mpr ⟨zd_202_6, List.forall_mem_append.mpr ⟨zd_202_7, List.forall_mem_append.mpr ⟨zd_202_8, List.forall_mem_append.mpr ⟨zd_202_9, List.forall_mem_append.mpr ⟨zd_202_10, zd_202_11⟩⟩⟩⟩⟩⟩⟩⟩⟩⟩⟩
end

-- ===== PART A: goes FIRST, ahead of the names: the tables' words, and 'selects' of the private methods out of them =====
/-- a private method of a class that the tables say can be made, by its rows of tables_1 -/
def lw_okq (q : MethodName × Nat) : Prop := (q.1.cls ≠ "java/lang/invoke/MethodHandle" ∧ q.1.cls ≠ "java/lang/invoke/VarHandle") ∧ Cond.instantiable q.1.cls q.2 ∈ tables_1 ∧ Cond.privateMethod q.1 ∈ tables_1 ∧ Cond.instanceMethod q.1 ∈ tables_1
theorem lw_p0 : lw_okq (⟨"AilingKing", "found", "(I)I"⟩, 11) := ⟨⟨by decide +kernel, by decide +kernel⟩, List.mem_of_getElem? (i := 13) (by decide +kernel), List.mem_of_getElem? (i := 263) (by decide +kernel), List.mem_of_getElem? (i := 264) (by decide +kernel)⟩
theorem lw_p1 : lw_okq (⟨"AilingKing", "foundNothing", "(I)I"⟩, 11) := ⟨⟨by decide +kernel, by decide +kernel⟩, List.mem_of_getElem? (i := 13) (by decide +kernel), List.mem_of_getElem? (i := 272) (by decide +kernel), List.mem_of_getElem? (i := 273) (by decide +kernel)⟩
theorem lw_p2 : lw_okq (⟨"AilingKing$Tape", "tellsLaw", "(LAilingKing$Castle;)Z"⟩, 5) := ⟨⟨by decide +kernel, by decide +kernel⟩, List.mem_of_getElem? (i := 38) (by decide +kernel), List.mem_of_getElem? (i := 332) (by decide +kernel), List.mem_of_getElem? (i := 333) (by decide +kernel)⟩
theorem lw_p3 : lw_okq (⟨"AilingKing$Tape", "tellsSign", "(I)Z"⟩, 5) := ⟨⟨by decide +kernel, by decide +kernel⟩, List.mem_of_getElem? (i := 38) (by decide +kernel), List.mem_of_getElem? (i := 336) (by decide +kernel), List.mem_of_getElem? (i := 337) (by decide +kernel)⟩
theorem lw_p4 : lw_okq (⟨"AilingKing$Tape", "letter", "()I"⟩, 5) := ⟨⟨by decide +kernel, by decide +kernel⟩, List.mem_of_getElem? (i := 38) (by decide +kernel), List.mem_of_getElem? (i := 340) (by decide +kernel), List.mem_of_getElem? (i := 341) (by decide +kernel)⟩
theorem lw_p5 : lw_okq (⟨"AilingKing$Tape", "isFaulty", "(I)Z"⟩, 5) := ⟨⟨by decide +kernel, by decide +kernel⟩, List.mem_of_getElem? (i := 38) (by decide +kernel), List.mem_of_getElem? (i := 344) (by decide +kernel), List.mem_of_getElem? (i := 345) (by decide +kernel)⟩
theorem lw_p6 : lw_okq (⟨"AilingKing$Tape", "tellsNumber", "(III)Z"⟩, 5) := ⟨⟨by decide +kernel, by decide +kernel⟩, List.mem_of_getElem? (i := 38) (by decide +kernel), List.mem_of_getElem? (i := 348) (by decide +kernel), List.mem_of_getElem? (i := 349) (by decide +kernel)⟩
theorem lw_p7 : lw_okq (⟨"AilingKing$Tape", "tellsHints", "(LAilingKing$Castle;)Z"⟩, 5) := ⟨⟨by decide +kernel, by decide +kernel⟩, List.mem_of_getElem? (i := 38) (by decide +kernel), List.mem_of_getElem? (i := 355) (by decide +kernel), List.mem_of_getElem? (i := 356) (by decide +kernel)⟩
theorem lw_p8 : lw_okq (⟨"AilingKing$Tape", "tellsHint", "(LAilingKing$Castle;I)Z"⟩, 5) := ⟨⟨by decide +kernel, by decide +kernel⟩, List.mem_of_getElem? (i := 38) (by decide +kernel), List.mem_of_getElem? (i := 362) (by decide +kernel), List.mem_of_getElem? (i := 363) (by decide +kernel)⟩
theorem lw_p9 : lw_okq (⟨"AilingKing$Tape", "tellsGuests", "(LAilingKing$Castle;)Z"⟩, 5) := ⟨⟨by decide +kernel, by decide +kernel⟩, List.mem_of_getElem? (i := 38) (by decide +kernel), List.mem_of_getElem? (i := 366) (by decide +kernel), List.mem_of_getElem? (i := 367) (by decide +kernel)⟩
theorem lw_p10 : lw_okq (⟨"AilingKing$Tape", "tellsGuest", "(LAilingKing$Castle;I)Z"⟩, 5) := ⟨⟨by decide +kernel, by decide +kernel⟩, List.mem_of_getElem? (i := 38) (by decide +kernel), List.mem_of_getElem? (i := 370) (by decide +kernel), List.mem_of_getElem? (i := 371) (by decide +kernel)⟩
theorem lw_p11 : lw_okq (⟨"AilingKing", "takeBack", "(III)V"⟩, 11) := ⟨⟨by decide +kernel, by decide +kernel⟩, List.mem_of_getElem? (i := 13) (by decide +kernel), List.mem_of_getElem? (i := 474) (by decide +kernel), List.mem_of_getElem? (i := 475) (by decide +kernel)⟩
theorem lw_p12 : lw_okq (⟨"AilingKing$Foretold", "leadingInto", "(LAilingKing$Castle;I)I"⟩, 2) := ⟨⟨by decide +kernel, by decide +kernel⟩, List.mem_of_getElem? (i := 193) (by decide +kernel), List.mem_of_getElem? (i := 520) (by decide +kernel), List.mem_of_getElem? (i := 521) (by decide +kernel)⟩
theorem lw_p13 : lw_okq (⟨"AilingKing$Foretold", "firstNearer", "(LAilingKing$Castle;II)I"⟩, 2) := ⟨⟨by decide +kernel, by decide +kernel⟩, List.mem_of_getElem? (i := 193) (by decide +kernel), List.mem_of_getElem? (i := 542) (by decide +kernel), List.mem_of_getElem? (i := 543) (by decide +kernel)⟩
theorem lw_p14 : lw_okq (⟨"AilingKing$Foretold", "haveRoute", "(LAilingKing$Castle;II)Z"⟩, 2) := ⟨⟨by decide +kernel, by decide +kernel⟩, List.mem_of_getElem? (i := 193) (by decide +kernel), List.mem_of_getElem? (i := 598) (by decide +kernel), List.mem_of_getElem? (i := 599) (by decide +kernel)⟩
theorem lw_p15 : lw_okq (⟨"AilingKing$Foretold", "thoughtsWithRoute", "(LAilingKing$Castle;I)I"⟩, 2) := ⟨⟨by decide +kernel, by decide +kernel⟩, List.mem_of_getElem? (i := 193) (by decide +kernel), List.mem_of_getElem? (i := 602) (by decide +kernel), List.mem_of_getElem? (i := 603) (by decide +kernel)⟩
def lw_privs_1 : List (MethodName × Nat) := [(⟨"AilingKing", "found", "(I)I"⟩, 11), (⟨"AilingKing", "foundNothing", "(I)I"⟩, 11), (⟨"AilingKing$Tape", "tellsLaw", "(LAilingKing$Castle;)Z"⟩, 5), (⟨"AilingKing$Tape", "tellsSign", "(I)Z"⟩, 5), (⟨"AilingKing$Tape", "letter", "()I"⟩, 5), (⟨"AilingKing$Tape", "isFaulty", "(I)Z"⟩, 5), (⟨"AilingKing$Tape", "tellsNumber", "(III)Z"⟩, 5), (⟨"AilingKing$Tape", "tellsHints", "(LAilingKing$Castle;)Z"⟩, 5), (⟨"AilingKing$Tape", "tellsHint", "(LAilingKing$Castle;I)Z"⟩, 5), (⟨"AilingKing$Tape", "tellsGuests", "(LAilingKing$Castle;)Z"⟩, 5), (⟨"AilingKing$Tape", "tellsGuest", "(LAilingKing$Castle;I)Z"⟩, 5), (⟨"AilingKing", "takeBack", "(III)V"⟩, 11), (⟨"AilingKing$Foretold", "leadingInto", "(LAilingKing$Castle;I)I"⟩, 2), (⟨"AilingKing$Foretold", "firstNearer", "(LAilingKing$Castle;II)I"⟩, 2), (⟨"AilingKing$Foretold", "haveRoute", "(LAilingKing$Castle;II)Z"⟩, 2), (⟨"AilingKing$Foretold", "thoughtsWithRoute", "(LAilingKing$Castle;I)I"⟩, 2)]
theorem lw_r1 : ∀ q ∈ lw_privs_1, lw_okq q := List.forall_mem_cons.mpr ⟨lw_p0, List.forall_mem_cons.mpr ⟨lw_p1, List.forall_mem_cons.mpr ⟨lw_p2, List.forall_mem_cons.mpr ⟨lw_p3, List.forall_mem_cons.mpr ⟨lw_p4, List.forall_mem_cons.mpr ⟨lw_p5, List.forall_mem_cons.mpr ⟨lw_p6, List.forall_mem_cons.mpr ⟨lw_p7, List.forall_mem_cons.mpr ⟨lw_p8, List.forall_mem_cons.mpr ⟨lw_p9, List.forall_mem_cons.mpr ⟨lw_p10, List.forall_mem_cons.mpr ⟨lw_p11, List.forall_mem_cons.mpr ⟨lw_p12, List.forall_mem_cons.mpr ⟨lw_p13, List.forall_mem_cons.mpr ⟨lw_p14, List.forall_mem_cons.mpr ⟨lw_p15, fun _ h => absurd h List.not_mem_nil⟩⟩⟩⟩⟩⟩⟩⟩⟩⟩⟩⟩⟩⟩⟩⟩
theorem lw_p16 : lw_okq (⟨"AilingKing", "imageOf", "(I)LAilingKing$Castle;"⟩, 11) := ⟨⟨by decide +kernel, by decide +kernel⟩, List.mem_of_getElem? (i := 13) (by decide +kernel), List.mem_of_getElem? (i := 642) (by decide +kernel), List.mem_of_getElem? (i := 643) (by decide +kernel)⟩
theorem lw_p17 : lw_okq (⟨"AilingKing$Asks", "leave", "(I)V"⟩, 2) := ⟨⟨by decide +kernel, by decide +kernel⟩, List.mem_of_getElem? (i := 206) (by decide +kernel), List.mem_of_getElem? (i := 681) (by decide +kernel), List.mem_of_getElem? (i := 682) (by decide +kernel)⟩
theorem lw_p18 : lw_okq (⟨"AilingKingModel", "found", "(I)I"⟩, 24) := ⟨⟨by decide +kernel, by decide +kernel⟩, List.mem_of_getElem? (i := 702) (by decide +kernel), List.mem_of_getElem? (i := 794) (by decide +kernel), List.mem_of_getElem? (i := 795) (by decide +kernel)⟩
theorem lw_p19 : lw_okq (⟨"AilingKingModel", "well", "(I)I"⟩, 24) := ⟨⟨by decide +kernel, by decide +kernel⟩, List.mem_of_getElem? (i := 702) (by decide +kernel), List.mem_of_getElem? (i := 799) (by decide +kernel), List.mem_of_getElem? (i := 800) (by decide +kernel)⟩
theorem lw_p20 : lw_okq (⟨"AilingKingModel", "isMissing", "(I)Z"⟩, 24) := ⟨⟨by decide +kernel, by decide +kernel⟩, List.mem_of_getElem? (i := 702) (by decide +kernel), List.mem_of_getElem? (i := 807) (by decide +kernel), List.mem_of_getElem? (i := 808) (by decide +kernel)⟩
theorem lw_p21 : lw_okq (⟨"AilingKingModel", "isPart", "(III)Z"⟩, 24) := ⟨⟨by decide +kernel, by decide +kernel⟩, List.mem_of_getElem? (i := 702) (by decide +kernel), List.mem_of_getElem? (i := 818) (by decide +kernel), List.mem_of_getElem? (i := 819) (by decide +kernel)⟩
theorem lw_p22 : lw_okq (⟨"AilingKingModel", "advances", "()V"⟩, 24) := ⟨⟨by decide +kernel, by decide +kernel⟩, List.mem_of_getElem? (i := 702) (by decide +kernel), List.mem_of_getElem? (i := 835) (by decide +kernel), List.mem_of_getElem? (i := 836) (by decide +kernel)⟩
theorem lw_p23 : lw_okq (⟨"AilingKingModel", "byteAt", "(I)I"⟩, 24) := ⟨⟨by decide +kernel, by decide +kernel⟩, List.mem_of_getElem? (i := 702) (by decide +kernel), List.mem_of_getElem? (i := 839) (by decide +kernel), List.mem_of_getElem? (i := 840) (by decide +kernel)⟩
theorem lw_p24 : lw_okq (⟨"AilingKingModel", "takes", "(ZI)I"⟩, 24) := ⟨⟨by decide +kernel, by decide +kernel⟩, List.mem_of_getElem? (i := 702) (by decide +kernel), List.mem_of_getElem? (i := 843) (by decide +kernel), List.mem_of_getElem? (i := 844) (by decide +kernel)⟩
theorem lw_p25 : lw_okq (⟨"AilingKingModel", "isWell", "()Z"⟩, 24) := ⟨⟨by decide +kernel, by decide +kernel⟩, List.mem_of_getElem? (i := 702) (by decide +kernel), List.mem_of_getElem? (i := 847) (by decide +kernel), List.mem_of_getElem? (i := 848) (by decide +kernel)⟩
theorem lw_p26 : lw_okq (⟨"AilingKingModel", "figure", "(II)I"⟩, 24) := ⟨⟨by decide +kernel, by decide +kernel⟩, List.mem_of_getElem? (i := 702) (by decide +kernel), List.mem_of_getElem? (i := 851) (by decide +kernel), List.mem_of_getElem? (i := 852) (by decide +kernel)⟩
theorem lw_p27 : lw_okq (⟨"AilingKingModel", "figureBut", "(II)I"⟩, 24) := ⟨⟨by decide +kernel, by decide +kernel⟩, List.mem_of_getElem? (i := 702) (by decide +kernel), List.mem_of_getElem? (i := 855) (by decide +kernel), List.mem_of_getElem? (i := 856) (by decide +kernel)⟩
theorem lw_p28 : lw_okq (⟨"AilingKingModel", "readsHint", "()V"⟩, 24) := ⟨⟨by decide +kernel, by decide +kernel⟩, List.mem_of_getElem? (i := 702) (by decide +kernel), List.mem_of_getElem? (i := 862) (by decide +kernel), List.mem_of_getElem? (i := 863) (by decide +kernel)⟩
theorem lw_p29 : lw_okq (⟨"AilingKingModel", "readsGuest", "()V"⟩, 24) := ⟨⟨by decide +kernel, by decide +kernel⟩, List.mem_of_getElem? (i := 702) (by decide +kernel), List.mem_of_getElem? (i := 866) (by decide +kernel), List.mem_of_getElem? (i := 867) (by decide +kernel)⟩
theorem lw_p30 : lw_okq (⟨"AilingKingModel", "isGuest", "(I)Z"⟩, 24) := ⟨⟨by decide +kernel, by decide +kernel⟩, List.mem_of_getElem? (i := 702) (by decide +kernel), List.mem_of_getElem? (i := 882) (by decide +kernel), List.mem_of_getElem? (i := 883) (by decide +kernel)⟩
theorem lw_p31 : lw_okq (⟨"AilingKingModel", "isToCome", "(I)Z"⟩, 24) := ⟨⟨by decide +kernel, by decide +kernel⟩, List.mem_of_getElem? (i := 702) (by decide +kernel), List.mem_of_getElem? (i := 886) (by decide +kernel), List.mem_of_getElem? (i := 887) (by decide +kernel)⟩
def lw_privs_2 : List (MethodName × Nat) := [(⟨"AilingKing", "imageOf", "(I)LAilingKing$Castle;"⟩, 11), (⟨"AilingKing$Asks", "leave", "(I)V"⟩, 2), (⟨"AilingKingModel", "found", "(I)I"⟩, 24), (⟨"AilingKingModel", "well", "(I)I"⟩, 24), (⟨"AilingKingModel", "isMissing", "(I)Z"⟩, 24), (⟨"AilingKingModel", "isPart", "(III)Z"⟩, 24), (⟨"AilingKingModel", "advances", "()V"⟩, 24), (⟨"AilingKingModel", "byteAt", "(I)I"⟩, 24), (⟨"AilingKingModel", "takes", "(ZI)I"⟩, 24), (⟨"AilingKingModel", "isWell", "()Z"⟩, 24), (⟨"AilingKingModel", "figure", "(II)I"⟩, 24), (⟨"AilingKingModel", "figureBut", "(II)I"⟩, 24), (⟨"AilingKingModel", "readsHint", "()V"⟩, 24), (⟨"AilingKingModel", "readsGuest", "()V"⟩, 24), (⟨"AilingKingModel", "isGuest", "(I)Z"⟩, 24), (⟨"AilingKingModel", "isToCome", "(I)Z"⟩, 24)]
theorem lw_r2 : ∀ q ∈ lw_privs_2, lw_okq q := List.forall_mem_cons.mpr ⟨lw_p16, List.forall_mem_cons.mpr ⟨lw_p17, List.forall_mem_cons.mpr ⟨lw_p18, List.forall_mem_cons.mpr ⟨lw_p19, List.forall_mem_cons.mpr ⟨lw_p20, List.forall_mem_cons.mpr ⟨lw_p21, List.forall_mem_cons.mpr ⟨lw_p22, List.forall_mem_cons.mpr ⟨lw_p23, List.forall_mem_cons.mpr ⟨lw_p24, List.forall_mem_cons.mpr ⟨lw_p25, List.forall_mem_cons.mpr ⟨lw_p26, List.forall_mem_cons.mpr ⟨lw_p27, List.forall_mem_cons.mpr ⟨lw_p28, List.forall_mem_cons.mpr ⟨lw_p29, List.forall_mem_cons.mpr ⟨lw_p30, List.forall_mem_cons.mpr ⟨lw_p31, fun _ h => absurd h List.not_mem_nil⟩⟩⟩⟩⟩⟩⟩⟩⟩⟩⟩⟩⟩⟩⟩⟩
theorem lw_p32 : lw_okq (⟨"AilingKingModel", "of", "(II)I"⟩, 24) := ⟨⟨by decide +kernel, by decide +kernel⟩, List.mem_of_getElem? (i := 702) (by decide +kernel), List.mem_of_getElem? (i := 890) (by decide +kernel), List.mem_of_getElem? (i := 891) (by decide +kernel)⟩
theorem lw_p33 : lw_okq (⟨"AilingKingModel", "notes", "()V"⟩, 24) := ⟨⟨by decide +kernel, by decide +kernel⟩, List.mem_of_getElem? (i := 702) (by decide +kernel), List.mem_of_getElem? (i := 895) (by decide +kernel), List.mem_of_getElem? (i := 896) (by decide +kernel)⟩
theorem lw_p34 : lw_okq (⟨"AilingKingModel", "isHint", "(I)Z"⟩, 24) := ⟨⟨by decide +kernel, by decide +kernel⟩, List.mem_of_getElem? (i := 702) (by decide +kernel), List.mem_of_getElem? (i := 903) (by decide +kernel), List.mem_of_getElem? (i := 904) (by decide +kernel)⟩
theorem lw_p35 : lw_okq (⟨"AilingKingModel", "leadsNow", "(II)I"⟩, 24) := ⟨⟨by decide +kernel, by decide +kernel⟩, List.mem_of_getElem? (i := 702) (by decide +kernel), List.mem_of_getElem? (i := 913) (by decide +kernel), List.mem_of_getElem? (i := 914) (by decide +kernel)⟩
theorem lw_p36 : lw_okq (⟨"AilingKingModel", "leadsTo", "(III)I"⟩, 24) := ⟨⟨by decide +kernel, by decide +kernel⟩, List.mem_of_getElem? (i := 702) (by decide +kernel), List.mem_of_getElem? (i := 917) (by decide +kernel), List.mem_of_getElem? (i := 918) (by decide +kernel)⟩
theorem lw_p37 : lw_okq (⟨"AilingKingModel", "dares", "(I)Z"⟩, 24) := ⟨⟨by decide +kernel, by decide +kernel⟩, List.mem_of_getElem? (i := 702) (by decide +kernel), List.mem_of_getElem? (i := 925) (by decide +kernel), List.mem_of_getElem? (i := 926) (by decide +kernel)⟩
theorem lw_p38 : lw_okq (⟨"AilingKingModel", "atMost", "(I)I"⟩, 24) := ⟨⟨by decide +kernel, by decide +kernel⟩, List.mem_of_getElem? (i := 702) (by decide +kernel), List.mem_of_getElem? (i := 953) (by decide +kernel), List.mem_of_getElem? (i := 954) (by decide +kernel)⟩
theorem lw_p39 : lw_okq (⟨"AilingKingModel", "ahead", "(I)I"⟩, 24) := ⟨⟨by decide +kernel, by decide +kernel⟩, List.mem_of_getElem? (i := 702) (by decide +kernel), List.mem_of_getElem? (i := 957) (by decide +kernel), List.mem_of_getElem? (i := 958) (by decide +kernel)⟩
theorem lw_p40 : lw_okq (⟨"AilingKingModel", "allHints", "()I"⟩, 24) := ⟨⟨by decide +kernel, by decide +kernel⟩, List.mem_of_getElem? (i := 702) (by decide +kernel), List.mem_of_getElem? (i := 961) (by decide +kernel), List.mem_of_getElem? (i := 962) (by decide +kernel)⟩
theorem lw_p41 : lw_okq (⟨"AilingKingModel", "endOf", "(IIIZ)I"⟩, 24) := ⟨⟨by decide +kernel, by decide +kernel⟩, List.mem_of_getElem? (i := 702) (by decide +kernel), List.mem_of_getElem? (i := 968) (by decide +kernel), List.mem_of_getElem? (i := 969) (by decide +kernel)⟩
theorem lw_p42 : lw_okq (⟨"AilingKingModel", "thinks", "(I)V"⟩, 24) := ⟨⟨by decide +kernel, by decide +kernel⟩, List.mem_of_getElem? (i := 702) (by decide +kernel), List.mem_of_getElem? (i := 976) (by decide +kernel), List.mem_of_getElem? (i := 977) (by decide +kernel)⟩
theorem lw_p43 : lw_okq (⟨"AilingKingModel", "isCastle", "()Z"⟩, 24) := ⟨⟨by decide +kernel, by decide +kernel⟩, List.mem_of_getElem? (i := 702) (by decide +kernel), List.mem_of_getElem? (i := 992) (by decide +kernel), List.mem_of_getElem? (i := 993) (by decide +kernel)⟩
theorem lw_p44 : lw_okq (⟨"AilingKingModel", "fewest", "(II)I"⟩, 24) := ⟨⟨by decide +kernel, by decide +kernel⟩, List.mem_of_getElem? (i := 702) (by decide +kernel), List.mem_of_getElem? (i := 996) (by decide +kernel), List.mem_of_getElem? (i := 997) (by decide +kernel)⟩
theorem lw_p45 : lw_okq (⟨"AilingKingModel", "laysRoutes", "()V"⟩, 24) := ⟨⟨by decide +kernel, by decide +kernel⟩, List.mem_of_getElem? (i := 702) (by decide +kernel), List.mem_of_getElem? (i := 1004) (by decide +kernel), List.mem_of_getElem? (i := 1005) (by decide +kernel)⟩
theorem lw_p46 : lw_okq (⟨"AilingKingModel", "allToCome", "()I"⟩, 24) := ⟨⟨by decide +kernel, by decide +kernel⟩, List.mem_of_getElem? (i := 702) (by decide +kernel), List.mem_of_getElem? (i := 1008) (by decide +kernel), List.mem_of_getElem? (i := 1009) (by decide +kernel)⟩
theorem lw_p47 : lw_okq (⟨"AilingKingModel", "thinksBy", "(III)I"⟩, 24) := ⟨⟨by decide +kernel, by decide +kernel⟩, List.mem_of_getElem? (i := 702) (by decide +kernel), List.mem_of_getElem? (i := 1020) (by decide +kernel), List.mem_of_getElem? (i := 1021) (by decide +kernel)⟩
def lw_privs_3 : List (MethodName × Nat) := [(⟨"AilingKingModel", "of", "(II)I"⟩, 24), (⟨"AilingKingModel", "notes", "()V"⟩, 24), (⟨"AilingKingModel", "isHint", "(I)Z"⟩, 24), (⟨"AilingKingModel", "leadsNow", "(II)I"⟩, 24), (⟨"AilingKingModel", "leadsTo", "(III)I"⟩, 24), (⟨"AilingKingModel", "dares", "(I)Z"⟩, 24), (⟨"AilingKingModel", "atMost", "(I)I"⟩, 24), (⟨"AilingKingModel", "ahead", "(I)I"⟩, 24), (⟨"AilingKingModel", "allHints", "()I"⟩, 24), (⟨"AilingKingModel", "endOf", "(IIIZ)I"⟩, 24), (⟨"AilingKingModel", "thinks", "(I)V"⟩, 24), (⟨"AilingKingModel", "isCastle", "()Z"⟩, 24), (⟨"AilingKingModel", "fewest", "(II)I"⟩, 24), (⟨"AilingKingModel", "laysRoutes", "()V"⟩, 24), (⟨"AilingKingModel", "allToCome", "()I"⟩, 24), (⟨"AilingKingModel", "thinksBy", "(III)I"⟩, 24)]
theorem lw_r3 : ∀ q ∈ lw_privs_3, lw_okq q := List.forall_mem_cons.mpr ⟨lw_p32, List.forall_mem_cons.mpr ⟨lw_p33, List.forall_mem_cons.mpr ⟨lw_p34, List.forall_mem_cons.mpr ⟨lw_p35, List.forall_mem_cons.mpr ⟨lw_p36, List.forall_mem_cons.mpr ⟨lw_p37, List.forall_mem_cons.mpr ⟨lw_p38, List.forall_mem_cons.mpr ⟨lw_p39, List.forall_mem_cons.mpr ⟨lw_p40, List.forall_mem_cons.mpr ⟨lw_p41, List.forall_mem_cons.mpr ⟨lw_p42, List.forall_mem_cons.mpr ⟨lw_p43, List.forall_mem_cons.mpr ⟨lw_p44, List.forall_mem_cons.mpr ⟨lw_p45, List.forall_mem_cons.mpr ⟨lw_p46, List.forall_mem_cons.mpr ⟨lw_p47, fun _ h => absurd h List.not_mem_nil⟩⟩⟩⟩⟩⟩⟩⟩⟩⟩⟩⟩⟩⟩⟩⟩
theorem lw_p48 : lw_okq (⟨"AilingKingModel", "kindIn", "(I)I"⟩, 24) := ⟨⟨by decide +kernel, by decide +kernel⟩, List.mem_of_getElem? (i := 702) (by decide +kernel), List.mem_of_getElem? (i := 1036) (by decide +kernel), List.mem_of_getElem? (i := 1037) (by decide +kernel)⟩
theorem lw_p49 : lw_okq (⟨"AilingKingModel", "mistakenSize", "(I)I"⟩, 24) := ⟨⟨by decide +kernel, by decide +kernel⟩, List.mem_of_getElem? (i := 702) (by decide +kernel), List.mem_of_getElem? (i := 1048) (by decide +kernel), List.mem_of_getElem? (i := 1049) (by decide +kernel)⟩
theorem lw_p50 : lw_okq (⟨"AilingKingModel", "begins", "(I)V"⟩, 24) := ⟨⟨by decide +kernel, by decide +kernel⟩, List.mem_of_getElem? (i := 702) (by decide +kernel), List.mem_of_getElem? (i := 1052) (by decide +kernel), List.mem_of_getElem? (i := 1053) (by decide +kernel)⟩
theorem lw_p51 : lw_okq (⟨"AilingKingModel", "silentSize", "(I)I"⟩, 24) := ⟨⟨by decide +kernel, by decide +kernel⟩, List.mem_of_getElem? (i := 702) (by decide +kernel), List.mem_of_getElem? (i := 1056) (by decide +kernel), List.mem_of_getElem? (i := 1057) (by decide +kernel)⟩
theorem lw_p52 : lw_okq (⟨"AilingKingModel", "silentMark", "(I)I"⟩, 24) := ⟨⟨by decide +kernel, by decide +kernel⟩, List.mem_of_getElem? (i := 702) (by decide +kernel), List.mem_of_getElem? (i := 1060) (by decide +kernel), List.mem_of_getElem? (i := 1061) (by decide +kernel)⟩
theorem lw_p53 : lw_okq (⟨"AilingKingModel", "mistakenMark", "(I)I"⟩, 24) := ⟨⟨by decide +kernel, by decide +kernel⟩, List.mem_of_getElem? (i := 702) (by decide +kernel), List.mem_of_getElem? (i := 1064) (by decide +kernel), List.mem_of_getElem? (i := 1065) (by decide +kernel)⟩
def lw_privs_4 : List (MethodName × Nat) := [(⟨"AilingKingModel", "kindIn", "(I)I"⟩, 24), (⟨"AilingKingModel", "mistakenSize", "(I)I"⟩, 24), (⟨"AilingKingModel", "begins", "(I)V"⟩, 24), (⟨"AilingKingModel", "silentSize", "(I)I"⟩, 24), (⟨"AilingKingModel", "silentMark", "(I)I"⟩, 24), (⟨"AilingKingModel", "mistakenMark", "(I)I"⟩, 24)]
theorem lw_r4 : ∀ q ∈ lw_privs_4, lw_okq q := List.forall_mem_cons.mpr ⟨lw_p48, List.forall_mem_cons.mpr ⟨lw_p49, List.forall_mem_cons.mpr ⟨lw_p50, List.forall_mem_cons.mpr ⟨lw_p51, List.forall_mem_cons.mpr ⟨lw_p52, List.forall_mem_cons.mpr ⟨lw_p53, fun _ h => absurd h List.not_mem_nil⟩⟩⟩⟩⟩⟩
def lw_privs : List (MethodName × Nat) := lw_privs_1 ++ (lw_privs_2 ++ (lw_privs_3 ++ (lw_privs_4)))
def lw_tbl : List Cond := k2_sels lw_privs ++ tables_1
theorem lw_privs_ok : ∀ q ∈ lw_privs, lw_okq q := by
  show ∀ q ∈ lw_privs_1 ++ (lw_privs_2 ++ (lw_privs_3 ++ (lw_privs_4))), lw_okq q
  exact List.forall_mem_append.mpr ⟨lw_r1, List.forall_mem_append.mpr ⟨lw_r2, List.forall_mem_append.mpr ⟨lw_r3, lw_r4⟩⟩⟩

def RX0 : String := "AilingKing$Acts"
def TX0 : u_T := fun k => match k with
  | 0 => ("AilingKing$Acts", "what", "[I", true)
  | 1 => ("AilingKing$Acts", "who", "[I", true)
  | 2 => ("AilingKing$Acts", "before", "[I", true)
  | 3 => ("AilingKing$Acts", "kept", "I", false)
  | _ => ("AilingKing$Acts", "first", "I", false)
def tyX0 : Nat → FieldType := fun k => match k with
  | 0 => .array .int
  | 1 => .array .int
  | 2 => .array .int
  | 3 => .int
  | _ => .int
abbrev wsX00 : List Cond := u_ws RX0 TX0 5
theorem nmX0 : ∀ a, a < 5 → ∀ b, b < 5 → a ≠ b → (TX0 a).2.1 ≠ (TX0 b).2.1 := by decide +kernel
theorem tyX0_ok : ∀ k, k < 5 → parseFieldDescriptor (TX0 k).2.2.1 = some (tyX0 k) := by decide +kernel
abbrev cX0_init : ByteArray := prog_2_method_1_code
def yX0_init : MethodName := ⟨RX0, "<init>", "()V"⟩
abbrev cX0_keep : ByteArray := prog_2_method_2_code
def yX0_keep : MethodName := ⟨RX0, "keep", "(III)V"⟩
abbrev cX0_takeLatest : ByteArray := prog_2_method_3_code
def yX0_takeLatest : MethodName := ⟨RX0, "takeLatest", "()I"⟩
abbrev cX0_forgetAll : ByteArray := prog_2_method_4_code
def yX0_forgetAll : MethodName := ⟨RX0, "forgetAll", "()V"⟩
def RX1 : String := "AilingKing$Asks"
def TX1 : u_T := fun k => match k with
  | 0 => ("AilingKing$Asks", "begun", "[I", true)
  | _ => ("AilingKing$Asks", "length", "I", false)
def tyX1 : Nat → FieldType := fun k => match k with
  | 0 => .array .int
  | _ => .int
abbrev wsX10 : List Cond := u_ws RX1 TX1 2
theorem nmX1 : ∀ a, a < 2 → ∀ b, b < 2 → a ≠ b → (TX1 a).2.1 ≠ (TX1 b).2.1 := by decide +kernel
theorem tyX1_ok : ∀ k, k < 2 → parseFieldDescriptor (TX1 k).2.2.1 = some (tyX1 k) := by decide +kernel
abbrev cX1_init : ByteArray := prog_3_method_1_code
def yX1_init : MethodName := ⟨RX1, "<init>", "()V"⟩
abbrev cX1_answer : ByteArray := prog_3_method_2_code
def yX1_answer : MethodName := ⟨RX1, "answer", "(LAilingKing$Castle;II)I"⟩
abbrev cX1_sizeBody : ByteArray := prog_3_method_3_code
def yX1_sizeBody : MethodName := ⟨RX1, "sizeBody", "(I)I"⟩
abbrev cX1_markBody : ByteArray := prog_3_method_4_code
def yX1_markBody : MethodName := ⟨RX1, "markBody", "(I)I"⟩
abbrev cX1_leave : ByteArray := prog_3_method_5_code
def yX1_leave : MethodName := ⟨RX1, "leave", "(I)V"⟩
abbrev cX1_given : ByteArray := prog_3_method_6_code
def yX1_given : MethodName := ⟨RX1, "given", "(LAilingKing$Asks;LAilingKing$Castle;III)I"⟩
def RX2 : String := "AilingKing$Castle"
def TX2 : u_T := fun k => match k with
  | 0 => ("AilingKing$Castle", "stands", "Z", false)
  | 1 => ("AilingKing$Castle", "question", "I", false)
  | 2 => ("AilingKing$Castle", "wrong", "I", false)
  | 3 => ("AilingKing$Castle", "limit", "I", false)
  | 4 => ("AilingKing$Castle", "hints", "I", false)
  | 5 => ("AilingKing$Castle", "guests", "I", false)
  | 6 => ("AilingKing$Castle", "sort", "[I", true)
  | 7 => ("AilingKing$Castle", "from", "[I", true)
  | 8 => ("AilingKing$Castle", "to", "[I", true)
  | 9 => ("AilingKing$Castle", "shown", "[I", true)
  | 10 => ("AilingKing$Castle", "mind", "[I", true)
  | 11 => ("AilingKing$Castle", "fear", "[I", true)
  | 12 => ("AilingKing$Castle", "bold", "[I", true)
  | 13 => ("AilingKing$Castle", "asked", "[I", true)
  | 14 => ("AilingKing$Castle", "here", "I", false)
  | 15 => ("AilingKing$Castle", "been", "I", false)
  | 16 => ("AilingKing$Castle", "tonight", "I", false)
  | 17 => ("AilingKing$Castle", "worse", "I", false)
  | _ => ("AilingKing$Castle", "healed", "Z", false)
def tyX2 : Nat → FieldType := fun k => match k with
  | 0 => .boolean
  | 1 => .int
  | 2 => .int
  | 3 => .int
  | 4 => .int
  | 5 => .int
  | 6 => .array .int
  | 7 => .array .int
  | 8 => .array .int
  | 9 => .array .int
  | 10 => .array .int
  | 11 => .array .int
  | 12 => .array .int
  | 13 => .array .int
  | 14 => .int
  | 15 => .int
  | 16 => .int
  | 17 => .int
  | _ => .boolean
abbrev wsX20 : List Cond := u_ws RX2 TX2 19
theorem nmX2 : ∀ a, a < 19 → ∀ b, b < 19 → a ≠ b → (TX2 a).2.1 ≠ (TX2 b).2.1 := by decide +kernel
theorem tyX2_ok : ∀ k, k < 19 → parseFieldDescriptor (TX2 k).2.2.1 = some (tyX2 k) := by decide +kernel
abbrev cX2_init : ByteArray := prog_4_method_1_code
def yX2_init : MethodName := ⟨RX2, "<init>", "()V"⟩
abbrev cX2_become : ByteArray := prog_4_method_2_code
def yX2_become : MethodName := ⟨RX2, "become", "(LAilingKing$Castle;)V"⟩
abbrev cX2_isHint : ByteArray := prog_4_method_3_code
def yX2_isHint : MethodName := ⟨RX2, "isHint", "(I)Z"⟩
abbrev cX2_isGuest : ByteArray := prog_4_method_4_code
def yX2_isGuest : MethodName := ⟨RX2, "isGuest", "(I)Z"⟩
abbrev cX2_stateOf : ByteArray := prog_4_method_5_code
def yX2_stateOf : MethodName := ⟨RX2, "stateOf", "(I)I"⟩
abbrev cX2_dares : ByteArray := prog_4_method_6_code
def yX2_dares : MethodName := ⟨RX2, "dares", "(I)Z"⟩
abbrev cX2_receive : ByteArray := prog_4_method_7_code
def yX2_receive : MethodName := ⟨RX2, "receive", "(I)V"⟩
abbrev cX2_dismiss : ByteArray := prog_4_method_8_code
def yX2_dismiss : MethodName := ⟨RX2, "dismiss", "()V"⟩
abbrev cX2_reveal : ByteArray := prog_4_method_9_code
def yX2_reveal : MethodName := ⟨RX2, "reveal", "(I)V"⟩
abbrev cX2_conceal : ByteArray := prog_4_method_10_code
def yX2_conceal : MethodName := ⟨RX2, "conceal", "(II)V"⟩
abbrev cX2_hear : ByteArray := prog_4_method_11_code
def yX2_hear : MethodName := ⟨RX2, "hear", "(I)V"⟩
abbrev cX2_unhear : ByteArray := prog_4_method_12_code
def yX2_unhear : MethodName := ⟨RX2, "unhear", "(II)V"⟩
abbrev cX2_forth : ByteArray := prog_4_method_13_code
def yX2_forth : MethodName := ⟨RX2, "forth", "(II)I"⟩
abbrev cX2_back : ByteArray := prog_4_method_14_code
def yX2_back : MethodName := ⟨RX2, "back", "(I)I"⟩
abbrev cX2_ledFrom : ByteArray := prog_4_method_15_code
def yX2_ledFrom : MethodName := ⟨RX2, "ledFrom", "(III)I"⟩
abbrev cX2_allHints : ByteArray := prog_4_method_16_code
def yX2_allHints : MethodName := ⟨RX2, "allHints", "()I"⟩
abbrev cX2_hintsAhead : ByteArray := prog_4_method_17_code
def yX2_hintsAhead : MethodName := ⟨RX2, "hintsAhead", "(I)I"⟩
abbrev cX2_leftAhead : ByteArray := prog_4_method_18_code
def yX2_leftAhead : MethodName := ⟨RX2, "leftAhead", "(I)I"⟩
abbrev cX2_thoughtsToCome : ByteArray := prog_4_method_19_code
def yX2_thoughtsToCome : MethodName := ⟨RX2, "thoughtsToCome", "()I"⟩
abbrev cX2_toComeWith : ByteArray := prog_4_method_20_code
def yX2_toComeWith : MethodName := ⟨RX2, "toComeWith", "(I)I"⟩
def RX3 : String := "AilingKing$Foretold"
def TX3 : u_T := fun k => match k with
  | 0 => ("AilingKing$Foretold", "near", "[I", true)
  | _ => ("AilingKing$Foretold", "allowed", "I", false)
def tyX3 : Nat → FieldType := fun k => match k with
  | 0 => .array .int
  | _ => .int
abbrev wsX30 : List Cond := u_ws RX3 TX3 2
theorem nmX3 : ∀ a, a < 2 → ∀ b, b < 2 → a ≠ b → (TX3 a).2.1 ≠ (TX3 b).2.1 := by decide +kernel
theorem tyX3_ok : ∀ k, k < 2 → parseFieldDescriptor (TX3 k).2.2.1 = some (tyX3 k) := by decide +kernel
abbrev cX3_init : ByteArray := prog_5_method_1_code
def yX3_init : MethodName := ⟨RX3, "<init>", "()V"⟩
abbrev cX3_measure : ByteArray := prog_5_method_2_code
def yX3_measure : MethodName := ⟨RX3, "measure", "(LAilingKing$Castle;IZ)V"⟩
abbrev cX3_leadingInto : ByteArray := prog_5_method_3_code
def yX3_leadingInto : MethodName := ⟨RX3, "leadingInto", "(LAilingKing$Castle;I)I"⟩
abbrev cX3_fewestFrom : ByteArray := prog_5_method_4_code
def yX3_fewestFrom : MethodName := ⟨RX3, "fewestFrom", "(II)I"⟩
abbrev cX3_hintOfRoute : ByteArray := prog_5_method_5_code
def yX3_hintOfRoute : MethodName := ⟨RX3, "hintOfRoute", "(LAilingKing$Castle;III)I"⟩
abbrev cX3_firstNearer : ByteArray := prog_5_method_6_code
def yX3_firstNearer : MethodName := ⟨RX3, "firstNearer", "(LAilingKing$Castle;II)I"⟩
abbrev cX3_thoughtsWithin : ByteArray := prog_5_method_7_code
def yX3_thoughtsWithin : MethodName := ⟨RX3, "thoughtsWithin", "(LAilingKing$Castle;III)I"⟩
abbrev cX3_rowsToQuestion : ByteArray := prog_5_method_8_code
def yX3_rowsToQuestion : MethodName := ⟨RX3, "rowsToQuestion", "(LAilingKing$Castle;III)I"⟩
abbrev cX3_bestOf : ByteArray := prog_5_method_9_code
def yX3_bestOf : MethodName := ⟨RX3, "bestOf", "(LAilingKing$Castle;Z)I"⟩
abbrev cX3_fewestForAll : ByteArray := prog_5_method_10_code
def yX3_fewestForAll : MethodName := ⟨RX3, "fewestForAll", "(LAilingKing$Castle;)I"⟩
abbrev cX3_haveRoute : ByteArray := prog_5_method_11_code
def yX3_haveRoute : MethodName := ⟨RX3, "haveRoute", "(LAilingKing$Castle;II)Z"⟩
abbrev cX3_thoughtsWithRoute : ByteArray := prog_5_method_12_code
def yX3_thoughtsWithRoute : MethodName := ⟨RX3, "thoughtsWithRoute", "(LAilingKing$Castle;I)I"⟩
abbrev cX3_mostMissed : ByteArray := prog_5_method_13_code
def yX3_mostMissed : MethodName := ⟨RX3, "mostMissed", "(LAilingKing$Castle;Z)I"⟩
abbrev cX3_wouldAskButFear : ByteArray := prog_5_method_14_code
def yX3_wouldAskButFear : MethodName := ⟨RX3, "wouldAskButFear", "(LAilingKing$Castle;LAilingKing$Rows;III)I"⟩
abbrev cX3_afterRow : ByteArray := prog_5_method_15_code
def yX3_afterRow : MethodName := ⟨RX3, "afterRow", "(LAilingKing$Castle;ILAilingKing$Rows;III)I"⟩
abbrev cX3_timesAhead : ByteArray := prog_5_method_16_code
def yX3_timesAhead : MethodName := ⟨RX3, "timesAhead", "(LAilingKing$Rows;III)I"⟩
def RX4 : String := "AilingKing$Rows"
def TX4 : u_T := fun k => match k with
  | 0 => ("AilingKing$Rows", "items", "[I", true)
  | 1 => ("AilingKing$Rows", "lane", "[I", true)
  | _ => ("AilingKing$Rows", "size", "[I", true)
def tyX4 : Nat → FieldType := fun k => match k with
  | 0 => .array .int
  | 1 => .array .int
  | _ => .array .int
abbrev wsX40 : List Cond := u_ws RX4 TX4 3
theorem nmX4 : ∀ a, a < 3 → ∀ b, b < 3 → a ≠ b → (TX4 a).2.1 ≠ (TX4 b).2.1 := by decide +kernel
theorem tyX4_ok : ∀ k, k < 3 → parseFieldDescriptor (TX4 k).2.2.1 = some (tyX4 k) := by decide +kernel
abbrev cX4_init : ByteArray := prog_6_method_1_code
def yX4_init : MethodName := ⟨RX4, "<init>", "()V"⟩
abbrev cX4_make : ByteArray := prog_6_method_2_code
def yX4_make : MethodName := ⟨RX4, "make", "(III)V"⟩
abbrev cX4_remove : ByteArray := prog_6_method_3_code
def yX4_remove : MethodName := ⟨RX4, "remove", "(I)I"⟩
abbrev cX4_isMissing : ByteArray := prog_6_method_4_code
def yX4_isMissing : MethodName := ⟨RX4, "isMissing", "(I)Z"⟩
abbrev cX4_laneOf : ByteArray := prog_6_method_5_code
def yX4_laneOf : MethodName := ⟨RX4, "laneOf", "(I)I"⟩
abbrev cX4_holds : ByteArray := prog_6_method_6_code
def yX4_holds : MethodName := ⟨RX4, "holds", "(III)Z"⟩
abbrev cX4_put : ByteArray := prog_6_method_7_code
def yX4_put : MethodName := ⟨RX4, "put", "(III)I"⟩
abbrev cX4_itemOf : ByteArray := prog_6_method_8_code
def yX4_itemOf : MethodName := ⟨RX4, "itemOf", "(II)I"⟩
abbrev cX4_carry : ByteArray := prog_6_method_9_code
def yX4_carry : MethodName := ⟨RX4, "carry", "(IIIII)V"⟩
abbrev cX4_present : ByteArray := prog_6_method_10_code
def yX4_present : MethodName := ⟨RX4, "present", "()I"⟩
def RX5 : String := "AilingKing$Tape"
def TX5 : u_T := fun k => match k with
  | 0 => ("AilingKing$Tape", "bytes", "[I", true)
  | 1 => ("AilingKing$Tape", "length", "I", false)
  | 2 => ("AilingKing$Tape", "at", "I", false)
  | 3 => ("AilingKing$Tape", "fault", "I", false)
  | _ => ("AilingKing$Tape", "value", "I", false)
def tyX5 : Nat → FieldType := fun k => match k with
  | 0 => .array .int
  | 1 => .int
  | 2 => .int
  | 3 => .int
  | _ => .int
abbrev wsX50 : List Cond := u_ws RX5 TX5 5
theorem nmX5 : ∀ a, a < 5 → ∀ b, b < 5 → a ≠ b → (TX5 a).2.1 ≠ (TX5 b).2.1 := by decide +kernel
theorem tyX5_ok : ∀ k, k < 5 → parseFieldDescriptor (TX5 k).2.2.1 = some (tyX5 k) := by decide +kernel
abbrev cX5_init : ByteArray := prog_7_method_1_code
def yX5_init : MethodName := ⟨RX5, "<init>", "()V"⟩
abbrev cX5_append : ByteArray := prog_7_method_2_code
def yX5_append : MethodName := ⟨RX5, "append", "(I)I"⟩
abbrev cX5_tells : ByteArray := prog_7_method_3_code
def yX5_tells : MethodName := ⟨RX5, "tells", "(LAilingKing$Castle;)Z"⟩
abbrev cX5_tellsLaw : ByteArray := prog_7_method_4_code
def yX5_tellsLaw : MethodName := ⟨RX5, "tellsLaw", "(LAilingKing$Castle;)Z"⟩
abbrev cX5_tellsHints : ByteArray := prog_7_method_5_code
def yX5_tellsHints : MethodName := ⟨RX5, "tellsHints", "(LAilingKing$Castle;)Z"⟩
abbrev cX5_tellsHint : ByteArray := prog_7_method_6_code
def yX5_tellsHint : MethodName := ⟨RX5, "tellsHint", "(LAilingKing$Castle;I)Z"⟩
abbrev cX5_tellsGuests : ByteArray := prog_7_method_7_code
def yX5_tellsGuests : MethodName := ⟨RX5, "tellsGuests", "(LAilingKing$Castle;)Z"⟩
abbrev cX5_tellsGuest : ByteArray := prog_7_method_8_code
def yX5_tellsGuest : MethodName := ⟨RX5, "tellsGuest", "(LAilingKing$Castle;I)Z"⟩
abbrev cX5_tellsSign : ByteArray := prog_7_method_9_code
def yX5_tellsSign : MethodName := ⟨RX5, "tellsSign", "(I)Z"⟩
abbrev cX5_tellsNumber : ByteArray := prog_7_method_10_code
def yX5_tellsNumber : MethodName := ⟨RX5, "tellsNumber", "(III)Z"⟩
abbrev cX5_letter : ByteArray := prog_7_method_11_code
def yX5_letter : MethodName := ⟨RX5, "letter", "()I"⟩
abbrev cX5_isFaulty : ByteArray := prog_7_method_12_code
def yX5_isFaulty : MethodName := ⟨RX5, "isFaulty", "(I)Z"⟩
abbrev cX5_isFigure : ByteArray := prog_7_method_13_code
def yX5_isFigure : MethodName := ⟨RX5, "isFigure", "(I)Z"⟩
abbrev cX5_sortOf : ByteArray := prog_7_method_14_code
def yX5_sortOf : MethodName := ⟨RX5, "sortOf", "(I)I"⟩
def RX6 : String := "AilingKing"
def TX6 : u_T := fun k => match k with
  | 0 => ("AilingKing", "rows", "LAilingKing$Rows;", true)
  | 1 => ("AilingKing", "tape", "LAilingKing$Tape;", true)
  | 2 => ("AilingKing", "now", "LAilingKing$Castle;", true)
  | 3 => ("AilingKing", "draft", "LAilingKing$Castle;", true)
  | 4 => ("AilingKing", "firstImage", "LAilingKing$Castle;", true)
  | 5 => ("AilingKing", "secondImage", "LAilingKing$Castle;", true)
  | 6 => ("AilingKing", "acts", "LAilingKing$Acts;", true)
  | 7 => ("AilingKing", "foretold", "LAilingKing$Foretold;", true)
  | 8 => ("AilingKing", "asks", "LAilingKing$Asks;", true)
  | 9 => ("AilingKing", "latestFault", "I", false)
  | _ => ("AilingKing", "latestFinding", "I", false)
def tyX6 : Nat → FieldType := fun k => match k with
  | 0 => .object "AilingKing$Rows"
  | 1 => .object "AilingKing$Tape"
  | 2 => .object "AilingKing$Castle"
  | 3 => .object "AilingKing$Castle"
  | 4 => .object "AilingKing$Castle"
  | 5 => .object "AilingKing$Castle"
  | 6 => .object "AilingKing$Acts"
  | 7 => .object "AilingKing$Foretold"
  | 8 => .object "AilingKing$Asks"
  | 9 => .int
  | _ => .int
abbrev wsX60 : List Cond := u_ws RX6 TX6 11
theorem nmX6 : ∀ a, a < 11 → ∀ b, b < 11 → a ≠ b → (TX6 a).2.1 ≠ (TX6 b).2.1 := by decide +kernel
theorem tyX6_ok : ∀ k, k < 11 → parseFieldDescriptor (TX6 k).2.2.1 = some (tyX6 k) := by decide +kernel
abbrev cX6_init : ByteArray := prog_1_method_1_code
def yX6_init : MethodName := ⟨RX6, "<init>", "()V"⟩
abbrev cX6_row : ByteArray := prog_1_method_2_code
def yX6_row : MethodName := ⟨RX6, "row", "(III)I"⟩
abbrev cX6_set : ByteArray := prog_1_method_3_code
def yX6_set : MethodName := ⟨RX6, "set", "(III)I"⟩
abbrev cX6_copy : ByteArray := prog_1_method_4_code
def yX6_copy : MethodName := ⟨RX6, "copy", "(IIIII)I"⟩
abbrev cX6_drop : ByteArray := prog_1_method_5_code
def yX6_drop : MethodName := ⟨RX6, "drop", "(I)I"⟩
abbrev cX6_feed : ByteArray := prog_1_method_6_code
def yX6_feed : MethodName := ⟨RX6, "feed", "(I)I"⟩
abbrev cX6_castle : ByteArray := prog_1_method_7_code
def yX6_castle : MethodName := ⟨RX6, "castle", "()I"⟩
abbrev cX6_fault : ByteArray := prog_1_method_8_code
def yX6_fault : MethodName := ⟨RX6, "fault", "()I"⟩
abbrev cX6_invite : ByteArray := prog_1_method_9_code
def yX6_invite : MethodName := ⟨RX6, "invite", "(I)I"⟩
abbrev cX6_show : ByteArray := prog_1_method_10_code
def yX6_show : MethodName := ⟨RX6, "show", "(I)I"⟩
abbrev cX6_speak : ByteArray := prog_1_method_11_code
def yX6_speak : MethodName := ⟨RX6, "speak", "()I"⟩
abbrev cX6_tale : ByteArray := prog_1_method_12_code
def yX6_tale : MethodName := ⟨RX6, "tale", "(II)I"⟩
abbrev cX6_undo : ByteArray := prog_1_method_13_code
def yX6_undo : MethodName := ⟨RX6, "undo", "()I"⟩
abbrev cX6_guest : ByteArray := prog_1_method_14_code
def yX6_guest : MethodName := ⟨RX6, "guest", "(II)I"⟩
abbrev cX6_hint : ByteArray := prog_1_method_15_code
def yX6_hint : MethodName := ⟨RX6, "hint", "(II)I"⟩
abbrev cX6_leads : ByteArray := prog_1_method_16_code
def yX6_leads : MethodName := ⟨RX6, "leads", "(II)I"⟩
abbrev cX6_route : ByteArray := prog_1_method_17_code
def yX6_route : MethodName := ⟨RX6, "route", "(III)I"⟩
abbrev cX6_thinkable : ByteArray := prog_1_method_18_code
def yX6_thinkable : MethodName := ⟨RX6, "thinkable", "(I)I"⟩
abbrev cX6_chance : ByteArray := prog_1_method_19_code
def yX6_chance : MethodName := ⟨RX6, "chance", "(III)I"⟩
abbrev cX6_taught : ByteArray := prog_1_method_20_code
def yX6_taught : MethodName := ⟨RX6, "taught", "(I)I"⟩
abbrev cX6_bestGuest : ByteArray := prog_1_method_21_code
def yX6_bestGuest : MethodName := ⟨RX6, "bestGuest", "(I)I"⟩
abbrev cX6_cover : ByteArray := prog_1_method_22_code
def yX6_cover : MethodName := ⟨RX6, "cover", "(I)I"⟩
abbrev cX6_spoilt : ByteArray := prog_1_method_23_code
def yX6_spoilt : MethodName := ⟨RX6, "spoilt", "(I)I"⟩
abbrev cX6_nearly : ByteArray := prog_1_method_24_code
def yX6_nearly : MethodName := ⟨RX6, "nearly", "(III)I"⟩
abbrev cX6_image : ByteArray := prog_1_method_25_code
def yX6_image : MethodName := ⟨RX6, "image", "(I)I"⟩
abbrev cX6_restore : ByteArray := prog_1_method_26_code
def yX6_restore : MethodName := ⟨RX6, "restore", "(I)I"⟩
abbrev cX6_kind : ByteArray := prog_1_method_27_code
def yX6_kind : MethodName := ⟨RX6, "kind", "(I)I"⟩
abbrev cX6_as : ByteArray := prog_1_method_28_code
def yX6_as : MethodName := ⟨RX6, "as", "(II)I"⟩
abbrev cX6_ask : ByteArray := prog_1_method_29_code
def yX6_ask : MethodName := ⟨RX6, "ask", "(II)I"⟩
abbrev cX6_trace : ByteArray := prog_1_method_30_code
def yX6_trace : MethodName := ⟨RX6, "trace", "(I)I"⟩
abbrev cX6_count : ByteArray := prog_1_method_31_code
def yX6_count : MethodName := ⟨RX6, "count", "(I)I"⟩
abbrev cX6_status : ByteArray := prog_1_method_32_code
def yX6_status : MethodName := ⟨RX6, "status", "()I"⟩
abbrev cX6_isBelow : ByteArray := prog_1_method_33_code
def yX6_isBelow : MethodName := ⟨RX6, "isBelow", "(II)Z"⟩
abbrev cX6_has : ByteArray := prog_1_method_34_code
def yX6_has : MethodName := ⟨RX6, "has", "(II)Z"⟩
abbrev cX6_found : ByteArray := prog_1_method_35_code
def yX6_found : MethodName := ⟨RX6, "found", "(I)I"⟩
abbrev cX6_foundNothing : ByteArray := prog_1_method_36_code
def yX6_foundNothing : MethodName := ⟨RX6, "foundNothing", "(I)I"⟩
abbrev cX6_imageOf : ByteArray := prog_1_method_37_code
def yX6_imageOf : MethodName := ⟨RX6, "imageOf", "(I)LAilingKing$Castle;"⟩
abbrev cX6_takeBack : ByteArray := prog_1_method_38_code
def yX6_takeBack : MethodName := ⟨RX6, "takeBack", "(III)V"⟩
abbrev cX6_rowsOfUnlike : ByteArray := prog_1_method_39_code
def yX6_rowsOfUnlike : MethodName := ⟨RX6, "rowsOfUnlike", "(II)I"⟩
abbrev cX6_commonDivisor : ByteArray := prog_1_method_40_code
def yX6_commonDivisor : MethodName := ⟨RX6, "commonDivisor", "(II)I"⟩
abbrev cX6_parentOf : ByteArray := prog_1_method_41_code
def yX6_parentOf : MethodName := ⟨RX6, "parentOf", "(I)I"⟩
abbrev cX6_isOneOf : ByteArray := prog_1_method_42_code
def yX6_isOneOf : MethodName := ⟨RX6, "isOneOf", "(II)Z"⟩
def RX7 : String := "AilingKingModel"
def TX7 : u_T := fun k => match k with
  | 0 => ("AilingKingModel", "lane", "[I", true)
  | 1 => ("AilingKingModel", "many", "[I", true)
  | 2 => ("AilingKingModel", "items", "[I", true)
  | 3 => ("AilingKingModel", "spare", "[I", true)
  | 4 => ("AilingKingModel", "status", "I", false)
  | 5 => ("AilingKingModel", "tape", "[I", true)
  | 6 => ("AilingKingModel", "taped", "I", false)
  | 7 => ("AilingKingModel", "faultKind", "I", false)
  | 8 => ("AilingKingModel", "faultPlace", "I", false)
  | 9 => ("AilingKingModel", "at", "I", false)
  | 10 => ("AilingKingModel", "start", "I", false)
  | 11 => ("AilingKingModel", "token", "I", false)
  | 12 => ("AilingKingModel", "value", "I", false)
  | 13 => ("AilingKingModel", "now", "[I", true)
  | 14 => ("AilingKingModel", "draft", "[I", true)
  | 15 => ("AilingKingModel", "past", "[I", true)
  | 16 => ("AilingKingModel", "acts", "I", false)
  | 17 => ("AilingKingModel", "images", "[I", true)
  | 18 => ("AilingKingModel", "kept", "[Z", true)
  | 19 => ("AilingKingModel", "trace", "[I", true)
  | 20 => ("AilingKingModel", "traced", "I", false)
  | 21 => ("AilingKingModel", "thoughts", "[I", true)
  | 22 => ("AilingKingModel", "routes", "[I", true)
  | _ => ("AilingKingModel", "shown", "[I", true)
def tyX7 : Nat → FieldType := fun k => match k with
  | 0 => .array .int
  | 1 => .array .int
  | 2 => .array .int
  | 3 => .array .int
  | 4 => .int
  | 5 => .array .int
  | 6 => .int
  | 7 => .int
  | 8 => .int
  | 9 => .int
  | 10 => .int
  | 11 => .int
  | 12 => .int
  | 13 => .array .int
  | 14 => .array .int
  | 15 => .array .int
  | 16 => .int
  | 17 => .array .int
  | 18 => .array .boolean
  | 19 => .array .int
  | 20 => .int
  | 21 => .array .int
  | 22 => .array .int
  | _ => .array .int
abbrev wsX70 : List Cond := u_ws RX7 TX7 24
theorem nmX7 : ∀ a, a < 24 → ∀ b, b < 24 → a ≠ b → (TX7 a).2.1 ≠ (TX7 b).2.1 := by decide +kernel
theorem tyX7_ok : ∀ k, k < 24 → parseFieldDescriptor (TX7 k).2.2.1 = some (tyX7 k) := by decide +kernel
abbrev cX7_init : ByteArray := prog_9_method_1_code
def yX7_init : MethodName := ⟨RX7, "<init>", "()V"⟩
abbrev cX7_in : ByteArray := prog_9_method_3_code
def yX7_in : MethodName := ⟨RX7, "in", "(III)Z"⟩
abbrev cX7_has : ByteArray := prog_9_method_4_code
def yX7_has : MethodName := ⟨RX7, "has", "(II)Z"⟩
abbrev cX7_ones : ByteArray := prog_9_method_5_code
def yX7_ones : MethodName := ⟨RX7, "ones", "(I)I"⟩
abbrev cX7_found : ByteArray := prog_9_method_6_code
def yX7_found : MethodName := ⟨RX7, "found", "(I)I"⟩
abbrev cX7_well : ByteArray := prog_9_method_7_code
def yX7_well : MethodName := ⟨RX7, "well", "(I)I"⟩
abbrev cX7_copies : ByteArray := prog_9_method_8_code
def yX7_copies : MethodName := ⟨RX7, "copies", "([II[II)V"⟩
abbrev cX7_isRow : ByteArray := prog_9_method_9_code
def yX7_isRow : MethodName := ⟨RX7, "isRow", "(I)Z"⟩
abbrev cX7_isMissing : ByteArray := prog_9_method_10_code
def yX7_isMissing : MethodName := ⟨RX7, "isMissing", "(I)Z"⟩
abbrev cX7_cut : ByteArray := prog_9_method_11_code
def yX7_cut : MethodName := ⟨RX7, "cut", "(II)I"⟩
abbrev cX7_row : ByteArray := prog_9_method_12_code
def yX7_row : MethodName := ⟨RX7, "row", "(III)I"⟩
abbrev cX7_set : ByteArray := prog_9_method_13_code
def yX7_set : MethodName := ⟨RX7, "set", "(III)I"⟩
abbrev cX7_isPart : ByteArray := prog_9_method_14_code
def yX7_isPart : MethodName := ⟨RX7, "isPart", "(III)Z"⟩
abbrev cX7_copy : ByteArray := prog_9_method_15_code
def yX7_copy : MethodName := ⟨RX7, "copy", "(IIIII)I"⟩
abbrev cX7_drop : ByteArray := prog_9_method_16_code
def yX7_drop : MethodName := ⟨RX7, "drop", "(I)I"⟩
abbrev cX7_feed : ByteArray := prog_9_method_17_code
def yX7_feed : MethodName := ⟨RX7, "feed", "(I)I"⟩
abbrev cX7_byteAt : ByteArray := prog_9_method_18_code
def yX7_byteAt : MethodName := ⟨RX7, "byteAt", "(I)I"⟩
abbrev cX7_advances : ByteArray := prog_9_method_19_code
def yX7_advances : MethodName := ⟨RX7, "advances", "()V"⟩
abbrev cX7_isWell : ByteArray := prog_9_method_20_code
def yX7_isWell : MethodName := ⟨RX7, "isWell", "()Z"⟩
abbrev cX7_takes : ByteArray := prog_9_method_21_code
def yX7_takes : MethodName := ⟨RX7, "takes", "(ZI)I"⟩
abbrev cX7_figure : ByteArray := prog_9_method_22_code
def yX7_figure : MethodName := ⟨RX7, "figure", "(II)I"⟩
abbrev cX7_kindOf : ByteArray := prog_9_method_23_code
def yX7_kindOf : MethodName := ⟨RX7, "kindOf", "(I)I"⟩
abbrev cX7_figureBut : ByteArray := prog_9_method_24_code
def yX7_figureBut : MethodName := ⟨RX7, "figureBut", "(II)I"⟩
abbrev cX7_readsHint : ByteArray := prog_9_method_25_code
def yX7_readsHint : MethodName := ⟨RX7, "readsHint", "()V"⟩
abbrev cX7_readsGuest : ByteArray := prog_9_method_26_code
def yX7_readsGuest : MethodName := ⟨RX7, "readsGuest", "()V"⟩
abbrev cX7_castle : ByteArray := prog_9_method_27_code
def yX7_castle : MethodName := ⟨RX7, "castle", "()I"⟩
abbrev cX7_fault : ByteArray := prog_9_method_28_code
def yX7_fault : MethodName := ⟨RX7, "fault", "()I"⟩
abbrev cX7_isCastle : ByteArray := prog_9_method_29_code
def yX7_isCastle : MethodName := ⟨RX7, "isCastle", "()Z"⟩
abbrev cX7_isHint : ByteArray := prog_9_method_30_code
def yX7_isHint : MethodName := ⟨RX7, "isHint", "(I)Z"⟩
abbrev cX7_isGuest : ByteArray := prog_9_method_31_code
def yX7_isGuest : MethodName := ⟨RX7, "isGuest", "(I)Z"⟩
abbrev cX7_of : ByteArray := prog_9_method_32_code
def yX7_of : MethodName := ⟨RX7, "of", "(II)I"⟩
abbrev cX7_isToCome : ByteArray := prog_9_method_33_code
def yX7_isToCome : MethodName := ⟨RX7, "isToCome", "(I)Z"⟩
abbrev cX7_dares : ByteArray := prog_9_method_34_code
def yX7_dares : MethodName := ⟨RX7, "dares", "(I)Z"⟩
abbrev cX7_leadsTo : ByteArray := prog_9_method_35_code
def yX7_leadsTo : MethodName := ⟨RX7, "leadsTo", "(III)I"⟩
abbrev cX7_leadsNow : ByteArray := prog_9_method_36_code
def yX7_leadsNow : MethodName := ⟨RX7, "leadsNow", "(II)I"⟩
abbrev cX7_notes : ByteArray := prog_9_method_37_code
def yX7_notes : MethodName := ⟨RX7, "notes", "()V"⟩
abbrev cX7_invite : ByteArray := prog_9_method_38_code
def yX7_invite : MethodName := ⟨RX7, "invite", "(I)I"⟩
abbrev cX7_show : ByteArray := prog_9_method_39_code
def yX7_show : MethodName := ⟨RX7, "show", "(I)I"⟩
abbrev cX7_speak : ByteArray := prog_9_method_40_code
def yX7_speak : MethodName := ⟨RX7, "speak", "()I"⟩
abbrev cX7_tale : ByteArray := prog_9_method_41_code
def yX7_tale : MethodName := ⟨RX7, "tale", "(II)I"⟩
abbrev cX7_undo : ByteArray := prog_9_method_42_code
def yX7_undo : MethodName := ⟨RX7, "undo", "()I"⟩
abbrev cX7_guest : ByteArray := prog_9_method_43_code
def yX7_guest : MethodName := ⟨RX7, "guest", "(II)I"⟩
abbrev cX7_hint : ByteArray := prog_9_method_44_code
def yX7_hint : MethodName := ⟨RX7, "hint", "(II)I"⟩
abbrev cX7_leads : ByteArray := prog_9_method_45_code
def yX7_leads : MethodName := ⟨RX7, "leads", "(II)I"⟩
abbrev cX7_allHints : ByteArray := prog_9_method_46_code
def yX7_allHints : MethodName := ⟨RX7, "allHints", "()I"⟩
abbrev cX7_ahead : ByteArray := prog_9_method_47_code
def yX7_ahead : MethodName := ⟨RX7, "ahead", "(I)I"⟩
abbrev cX7_atMost : ByteArray := prog_9_method_48_code
def yX7_atMost : MethodName := ⟨RX7, "atMost", "(I)I"⟩
abbrev cX7_thinks : ByteArray := prog_9_method_49_code
def yX7_thinks : MethodName := ⟨RX7, "thinks", "(I)V"⟩
abbrev cX7_fewest : ByteArray := prog_9_method_50_code
def yX7_fewest : MethodName := ⟨RX7, "fewest", "(II)I"⟩
abbrev cX7_power : ByteArray := prog_9_method_51_code
def yX7_power : MethodName := ⟨RX7, "power", "(II)I"⟩
abbrev cX7_endOf : ByteArray := prog_9_method_52_code
def yX7_endOf : MethodName := ⟨RX7, "endOf", "(IIIZ)I"⟩
abbrev cX7_route : ByteArray := prog_9_method_53_code
def yX7_route : MethodName := ⟨RX7, "route", "(III)I"⟩
abbrev cX7_thinkable : ByteArray := prog_9_method_54_code
def yX7_thinkable : MethodName := ⟨RX7, "thinkable", "(I)I"⟩
abbrev cX7_chance : ByteArray := prog_9_method_55_code
def yX7_chance : MethodName := ⟨RX7, "chance", "(III)I"⟩
abbrev cX7_taught : ByteArray := prog_9_method_56_code
def yX7_taught : MethodName := ⟨RX7, "taught", "(I)I"⟩
abbrev cX7_bestGuest : ByteArray := prog_9_method_57_code
def yX7_bestGuest : MethodName := ⟨RX7, "bestGuest", "(I)I"⟩
abbrev cX7_laysRoutes : ByteArray := prog_9_method_58_code
def yX7_laysRoutes : MethodName := ⟨RX7, "laysRoutes", "()V"⟩
abbrev cX7_allToCome : ByteArray := prog_9_method_59_code
def yX7_allToCome : MethodName := ⟨RX7, "allToCome", "()I"⟩
abbrev cX7_cover : ByteArray := prog_9_method_60_code
def yX7_cover : MethodName := ⟨RX7, "cover", "(I)I"⟩
abbrev cX7_spoilt : ByteArray := prog_9_method_61_code
def yX7_spoilt : MethodName := ⟨RX7, "spoilt", "(I)I"⟩
abbrev cX7_thinksBy : ByteArray := prog_9_method_62_code
def yX7_thinksBy : MethodName := ⟨RX7, "thinksBy", "(III)I"⟩
abbrev cX7_nearly : ByteArray := prog_9_method_63_code
def yX7_nearly : MethodName := ⟨RX7, "nearly", "(III)I"⟩
abbrev cX7_image : ByteArray := prog_9_method_64_code
def yX7_image : MethodName := ⟨RX7, "image", "(I)I"⟩
abbrev cX7_restore : ByteArray := prog_9_method_65_code
def yX7_restore : MethodName := ⟨RX7, "restore", "(I)I"⟩
abbrev cX7_kindIn : ByteArray := prog_9_method_66_code
def yX7_kindIn : MethodName := ⟨RX7, "kindIn", "(I)I"⟩
abbrev cX7_kind : ByteArray := prog_9_method_67_code
def yX7_kind : MethodName := ⟨RX7, "kind", "(I)I"⟩
abbrev cX7_as : ByteArray := prog_9_method_68_code
def yX7_as : MethodName := ⟨RX7, "as", "(II)I"⟩
abbrev cX7_begins : ByteArray := prog_9_method_69_code
def yX7_begins : MethodName := ⟨RX7, "begins", "(I)V"⟩
abbrev cX7_silentMark : ByteArray := prog_9_method_70_code
def yX7_silentMark : MethodName := ⟨RX7, "silentMark", "(I)I"⟩
abbrev cX7_mistakenSize : ByteArray := prog_9_method_71_code
def yX7_mistakenSize : MethodName := ⟨RX7, "mistakenSize", "(I)I"⟩
abbrev cX7_silentSize : ByteArray := prog_9_method_72_code
def yX7_silentSize : MethodName := ⟨RX7, "silentSize", "(I)I"⟩
abbrev cX7_mistakenMark : ByteArray := prog_9_method_73_code
def yX7_mistakenMark : MethodName := ⟨RX7, "mistakenMark", "(I)I"⟩
abbrev cX7_ask : ByteArray := prog_9_method_74_code
def yX7_ask : MethodName := ⟨RX7, "ask", "(II)I"⟩
abbrev cX7_trace : ByteArray := prog_9_method_75_code
def yX7_trace : MethodName := ⟨RX7, "trace", "(I)I"⟩
abbrev cX7_count : ByteArray := prog_9_method_76_code
def yX7_count : MethodName := ⟨RX7, "count", "(I)I"⟩
abbrev cX7_status : ByteArray := prog_9_method_77_code
def yX7_status : MethodName := ⟨RX7, "status", "()I"⟩
def RJ6 : String := "java/lang/Integer"
def TJ6 : u_T := fun k => match k with
  | _ => ("", "", "", false)
def tyJ6 : Nat → FieldType := fun k => match k with
  | _ => .int
abbrev wsJ60 : List Cond := u_ws RJ6 TJ6 0
theorem nmJ6 : ∀ a, a < 0 → ∀ b, b < 0 → a ≠ b → (TJ6 a).2.1 ≠ (TJ6 b).2.1 := by decide +kernel
theorem tyJ6_ok : ∀ k, k < 0 → parseFieldDescriptor (TJ6 k).2.2.1 = some (tyJ6 k) := by decide +kernel
abbrev cJ6_bitCount_0f7a4 : ByteArray := prog_10_method_49_code
def yJ6_bitCount_0f7a4 : MethodName := ⟨RJ6, "bitCount", "(I)I"⟩
def RJ9 : String := "java/lang/Math"
def TJ9 : u_T := fun k => match k with
  | _ => ("", "", "", false)
def tyJ9 : Nat → FieldType := fun k => match k with
  | _ => .int
abbrev wsJ90 : List Cond := u_ws RJ9 TJ9 0
theorem nmJ9 : ∀ a, a < 0 → ∀ b, b < 0 → a ≠ b → (TJ9 a).2.1 ≠ (TJ9 b).2.1 := by decide +kernel
theorem tyJ9_ok : ∀ k, k < 0 → parseFieldDescriptor (TJ9 k).2.2.1 = some (tyJ9 k) := by decide +kernel
abbrev cJ9_max_7cf53 : ByteArray := prog_11_method_65_code
def yJ9_max_7cf53 : MethodName := ⟨RJ9, "max", "(II)I"⟩
abbrev cJ9_min_7cf53 : ByteArray := prog_11_method_69_code
def yJ9_min_7cf53 : MethodName := ⟨RJ9, "min", "(II)I"⟩
def RJ10 : String := "java/lang/System"
def TJ10 : u_T := fun k => match k with
  | _ => ("", "", "", false)
def tyJ10 : Nat → FieldType := fun k => match k with
  | _ => .int
abbrev wsJ100 : List Cond := u_ws RJ10 TJ10 0
theorem nmJ10 : ∀ a, a < 0 → ∀ b, b < 0 → a ≠ b → (TJ10 a).2.1 ≠ (TJ10 b).2.1 := by decide +kernel
theorem tyJ10_ok : ∀ k, k < 0 → parseFieldDescriptor (TJ10 k).2.2.1 = some (tyJ10 k) := by decide +kernel
def RL : String := "AilingKingLaw"
abbrev cL_law : ByteArray := code
def yL_law : MethodName := ⟨RL, "law", "([I)Z"⟩
theorem inJ6 : ∀ w ∈ wsJ60, w ∈ lw_tbl := by decide +kernel
theorem inJ9 : ∀ w ∈ wsJ90, w ∈ lw_tbl := by decide +kernel
theorem inJ10 : ∀ w ∈ wsJ100, w ∈ lw_tbl := by decide +kernel
abbrev vwCl : List vw_C := [(RX0, TX0, 5), (RX1, TX1, 2), (RX2, TX2, 19), (RX3, TX3, 2), (RX4, TX4, 3), (RX5, TX5, 5), (RX6, TX6, 11), (RX7, TX7, 24)]

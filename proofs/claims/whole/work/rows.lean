section
-- ===== PART A: goes FIRST, ahead of the names: the tables' words, and 'selects' of the private methods out of them =====
/-- a private method of a class that the tables say can be made, by its rows of tables_1 -/
def lw_okq (q : MethodName × Nat) : Prop := (q.1.cls ≠ "java/lang/invoke/MethodHandle" ∧ q.1.cls ≠ "java/lang/invoke/VarHandle") ∧ Cond.instantiable q.1.cls q.2 ∈ tables_1 ∧ Cond.privateMethod q.1 ∈ tables_1 ∧ Cond.instanceMethod q.1 ∈ tables_1
theorem lw_p0 : lw_okq (⟨"AilingKing", "found", "(I)I"⟩, 11) := ⟨⟨by decide +kernel, by decide +kernel⟩, List.mem_of_getElem? (i := 13) (by decide +kernel), List.mem_of_getElem? (i := 263) (by decide +kernel), List.mem_of_getElem? (i := 264) (by decide +kernel)⟩
theorem lw_p1 : lw_okq (⟨"AilingKing", "foundNothing", "(I)I"⟩, 11) := ⟨⟨by decide +kernel, by decide +kernel⟩, List.mem_of_getElem? (i := 13) (by decide +kernel), List.mem_of_getElem? (i := 272) (by decide +kernel), List.mem_of_getElem? (i := 273) (by decide +kernel)⟩
theorem lw_p2 : lw_okq (⟨"AilingKing$Tape", "tellsLaw", "(LAilingKing$Castle;)Z"⟩, 5) := ⟨⟨by decide +kernel, by decide +kernel⟩, List.mem_of_getElem? (i := 38) (by decide +kernel), List.mem_of_getElem? (i := 332) (by decide +kernel), List.mem_of_getElem? (i := 333) (by decide +kernel)⟩
theorem lw_p3 : lw_okq (⟨"AilingKing$Tape", "tellsSign", "(I)Z"⟩, 5) := ⟨⟨by decide +kernel, by decide +kernel⟩, List.mem_of_getElem? (i := 38) (by decide +kernel), List.mem_of_getElem? (i := 336) (by decide +kernel), List.mem_of_getElem? (i := 337) (by decide +kernel)⟩
theorem lw_p4 : lw_okq (⟨"AilingKing$Tape", "letter", "()I"⟩, 5) := ⟨⟨by decide +kernel, by decide +kernel⟩, List.mem_of_getElem? (i := 38) (by decide +kernel), List.mem_of_getElem? (i := 340) (by decide +kernel), List.mem_of_getElem? (i := 341) (by decide +kernel)⟩
theorem lw_p5 : lw_okq (⟨"AilingKing$Tape", "isFaulty", "(I)Z"⟩, 5) := ⟨⟨by decide +kernel, by decide +kernel⟩, List.mem_of_getElem? (i := 38) (by decide +kernel), List.mem_of_getElem? (i := 344) (by decide +kernel), List.mem_of_getElem? (i := 345) (by decide +kernel)⟩
theorem lw_p6 : lw_okq (⟨"AilingKing$Tape", "tellsNumber", "(III)Z"⟩, 5) := ⟨⟨by decide +kernel, by decide +kernel⟩, List.mem_of_getElem? (i := 38) (by decide +kernel), List.mem_of_getElem? (i := 348) (by decide +kernel), List.mem_of_getElem? (i := 349) (by decide +kernel)⟩
theorem lw_p7 : lw_okq (⟨"AilingKing$Tape", "tellsHints", "(LAilingKing$Castle;)Z"⟩, 5) := ⟨⟨by decide +kernel, by decide +kernel⟩, List.mem_of_getElem? (i := 38) (by decide +kernel), List.mem_of_getElem? (i := 355) (by decide +kernel), List.mem_of_getElem? (i := 356) (by decide +kernel)⟩
theorem lw_p8 : lw_okq (⟨"AilingKing$Tape", "tellsHint", "(LAilingKing$Castle;I)Z"⟩, 5) := ⟨⟨by decide +kernel, by decide +kernel⟩, List.mem_of_getElem? (i := 38) (by decide +kernel), List.mem_of_getElem? (i := 362) (by decide +kernel), List.mem_of_getElem? (i := 363) (by decide +kernel)⟩
theorem lw_p9 : lw_okq (⟨"AilingKing$Tape", "tellsGuests", "(LAilingKing$Castle;)Z"⟩, 5) := ⟨⟨by decide +kernel, by decide +kernel⟩, List.mem_of_getElem? (i := 38) (by decide +kernel), List.mem_of_getElem? (i := 366) (by decide +kernel), List.mem_of_getElem? (i := 367) (by decide +kernel)⟩
theorem lw_p10 : lw_okq (⟨"AilingKing$Tape", "tellsGuest", "(LAilingKing$Castle;I)Z"⟩, 5) := ⟨⟨by decide +kernel, by decide +kernel⟩, List.mem_of_getElem? (i := 38) (by decide +kernel), List.mem_of_getElem? (i := 370) (by decide +kernel), List.mem_of_getElem? (i := 371) (by decide +kernel)⟩
theorem lw_p11 : lw_okq (⟨"AilingKing", "takeBack", "(III)V"⟩, 11) := ⟨⟨by decide +kernel, by decide +kernel⟩, List.mem_of_getElem? (i := 13) (by decide +kernel), List.mem_of_getElem? (i := 474) (by decide +kernel), List.mem_of_getElem? (i := 475) (by decide +kernel)⟩
theorem lw_p12 : lw_okq (⟨"AilingKing$Foretold", "leadingInto", "(LAilingKing$Castle;I)I"⟩, 2) := ⟨⟨by decide +kernel, by decide +kernel⟩, List.mem_of_getElem? (i := 193) (by decide +kernel), List.mem_of_getElem? (i := 520) (by decide +kernel), List.mem_of_getElem? (i := 521) (by decide +kernel)⟩
theorem lw_p13 : lw_okq (⟨"AilingKing$Foretold", "firstNearer", "(LAilingKing$Castle;II)I"⟩, 2) := ⟨⟨by decide +kernel, by decide +kernel⟩, List.mem_of_getElem? (i := 193) (by decide +kernel), List.mem_of_getElem? (i := 542) (by decide +kernel), List.mem_of_getElem? (i := 543) (by decide +kernel)⟩
theorem lw_p14 : lw_okq (⟨"AilingKing$Foretold", "haveRoute", "(LAilingKing$Castle;II)Z"⟩, 2) := ⟨⟨by decide +kernel, by decide +kernel⟩, List.mem_of_getElem? (i := 193) (by decide +kernel), List.mem_of_getElem? (i := 598) (by decide +kernel), List.mem_of_getElem? (i := 599) (by decide +kernel)⟩
theorem lw_p15 : lw_okq (⟨"AilingKing$Foretold", "thoughtsWithRoute", "(LAilingKing$Castle;I)I"⟩, 2) := ⟨⟨by decide +kernel, by decide +kernel⟩, List.mem_of_getElem? (i := 193) (by decide +kernel), List.mem_of_getElem? (i := 602) (by decide +kernel), List.mem_of_getElem? (i := 603) (by decide +kernel)⟩
def lw_privs_1 : List (MethodName × Nat) := [(⟨"AilingKing", "found", "(I)I"⟩, 11), (⟨"AilingKing", "foundNothing", "(I)I"⟩, 11), (⟨"AilingKing$Tape", "tellsLaw", "(LAilingKing$Castle;)Z"⟩, 5), (⟨"AilingKing$Tape", "tellsSign", "(I)Z"⟩, 5), (⟨"AilingKing$Tape", "letter", "()I"⟩, 5), (⟨"AilingKing$Tape", "isFaulty", "(I)Z"⟩, 5), (⟨"AilingKing$Tape", "tellsNumber", "(III)Z"⟩, 5), (⟨"AilingKing$Tape", "tellsHints", "(LAilingKing$Castle;)Z"⟩, 5), (⟨"AilingKing$Tape", "tellsHint", "(LAilingKing$Castle;I)Z"⟩, 5), (⟨"AilingKing$Tape", "tellsGuests", "(LAilingKing$Castle;)Z"⟩, 5), (⟨"AilingKing$Tape", "tellsGuest", "(LAilingKing$Castle;I)Z"⟩, 5), (⟨"AilingKing", "takeBack", "(III)V"⟩, 11), (⟨"AilingKing$Foretold", "leadingInto", "(LAilingKing$Castle;I)I"⟩, 2), (⟨"AilingKing$Foretold", "firstNearer", "(LAilingKing$Castle;II)I"⟩, 2), (⟨"AilingKing$Foretold", "haveRoute", "(LAilingKing$Castle;II)Z"⟩, 2), (⟨"AilingKing$Foretold", "thoughtsWithRoute", "(LAilingKing$Castle;I)I"⟩, 2)]
theorem lw_r1 : ∀ q ∈ lw_privs_1, lw_okq q := List.forall_mem_cons.mpr ⟨lw_p0, List.forall_mem_cons.mpr ⟨lw_p1, List.forall_mem_cons.mpr ⟨lw_p2, List.forall_mem_cons.mpr ⟨lw_p3, List.forall_mem_cons.mpr ⟨lw_p4, List.forall_mem_cons.mpr ⟨lw_p5, List.forall_mem_cons.mpr ⟨lw_p6, List.forall_mem_cons.mpr ⟨lw_p7, List.forall_mem_cons.mpr ⟨lw_p8, List.forall_mem_cons.mpr ⟨lw_p9, List.forall_mem_cons.mpr ⟨lw_p10, List.forall_mem_cons.mpr ⟨lw_p11, List.forall_mem_cons.mpr ⟨lw_p12, List.forall_mem_cons.mpr ⟨lw_p13, List.forall_mem_cons.mpr ⟨lw_p14, List.forall_mem_cons.mpr ⟨lw_p15, fun _ h => absurd h List.not_mem_nil⟩⟩⟩⟩⟩⟩⟩⟩⟩⟩⟩⟩⟩⟩⟩⟩
theorem lw_p16 : lw_okq (⟨"AilingKing", "imageOf", "(I)LAilingKing$Castle;"⟩, 11) := ⟨⟨by decide +kernel, by decide +kernel⟩, List.mem_of_getElem? (i := 13) (by decide +kernel), List.mem_of_getElem? (i := 642) (by decide +kernel), List.mem_of_getElem? (i := 643) (by decide +kernel)⟩
theorem lw_p17 : lw_okq (⟨"AilingKing$Asks", "leave", "(I)V"⟩, 2) := ⟨⟨by decide +kernel, by decide +kernel⟩, List.mem_of_getElem? (i := 206) (by decide +kernel), List.mem_of_getElem? (i := 681) (by decide +kernel), List.mem_of_getElem? (i := 682) (by decide +kernel)⟩
theorem lw_p18 : lw_okq (⟨"AilingKingModel", "found", "(I)I"⟩, 24) := ⟨⟨by decide +kernel, by decide +kernel⟩, List.mem_of_getElem? (i := 702) (by decide +kernel), List.mem_of_getElem? (i := 794) (by decide +kernel), List.mem_of_getElem? (i := 795) (by decide +kernel)⟩
theorem lw_p19 : lw_okq (⟨"AilingKingModel", "well", "(I)I"⟩, 24) := ⟨⟨by decide +kernel, by decide +kernel⟩, List.mem_of_getElem? (i := 702) (by decide +kernel), List.mem_of_getElem? (i := 799) (by decide +kernel), List.mem_of_getElem? (i := 800) (by decide +kernel)⟩
theorem lw_p20 : lw_okq (⟨"AilingKingModel", "isMissing", "(I)Z"⟩, 24) := ⟨⟨by decide +kernel, by decide +kernel⟩, List.mem_of_getElem? (i := 702) (by decide +kernel), List.mem_of_getElem? (i := 807) (by decide +kernel), List.mem_of_getElem? (i := 808) (by decide +kernel)⟩
theorem lw_p21 : lw_okq (⟨"AilingKingModel", "isPart", "(III)Z"⟩, 24) := ⟨⟨by decide +kernel, by decide +kernel⟩, List.mem_of_getElem? (i := 702) (by decide +kernel), List.mem_of_getElem? (i := 818) (by decide +kernel), List.mem_of_getElem? (i := 819) (by decide +kernel)⟩
theorem lw_p22 : lw_okq (⟨"AilingKingModel", "advances", "()V"⟩, 24) := ⟨⟨by decide +kernel, by decide +kernel⟩, List.mem_of_getElem? (i := 702) (by decide +kernel), List.mem_of_getElem? (i := 835) (by decide +kernel), List.mem_of_getElem? (i := 836) (by decide +kernel)⟩
theorem lw_p23 : lw_okq (⟨"AilingKingModel", "byteAt", "(I)I"⟩, 24) := ⟨⟨by decide +kernel, by decide +kernel⟩, List.mem_of_getElem? (i := 702) (by decide +kernel), List.mem_of_getElem? (i := 839) (by decide +kernel), List.mem_of_getElem? (i := 840) (by decide +kernel)⟩
theorem lw_p24 : lw_okq (⟨"AilingKingModel", "takes", "(ZI)I"⟩, 24) := ⟨⟨by decide +kernel, by decide +kernel⟩, List.mem_of_getElem? (i := 702) (by decide +kernel), List.mem_of_getElem? (i := 843) (by decide +kernel), List.mem_of_getElem? (i := 844) (by decide +kernel)⟩
theorem lw_p25 : lw_okq (⟨"AilingKingModel", "isWell", "()Z"⟩, 24) := ⟨⟨by decide +kernel, by decide +kernel⟩, List.mem_of_getElem? (i := 702) (by decide +kernel), List.mem_of_getElem? (i := 847) (by decide +kernel), List.mem_of_getElem? (i := 848) (by decide +kernel)⟩
theorem lw_p26 : lw_okq (⟨"AilingKingModel", "figure", "(II)I"⟩, 24) := ⟨⟨by decide +kernel, by decide +kernel⟩, List.mem_of_getElem? (i := 702) (by decide +kernel), List.mem_of_getElem? (i := 851) (by decide +kernel), List.mem_of_getElem? (i := 852) (by decide +kernel)⟩
theorem lw_p27 : lw_okq (⟨"AilingKingModel", "figureBut", "(II)I"⟩, 24) := ⟨⟨by decide +kernel, by decide +kernel⟩, List.mem_of_getElem? (i := 702) (by decide +kernel), List.mem_of_getElem? (i := 855) (by decide +kernel), List.mem_of_getElem? (i := 856) (by decide +kernel)⟩
theorem lw_p28 : lw_okq (⟨"AilingKingModel", "readsHint", "()V"⟩, 24) := ⟨⟨by decide +kernel, by decide +kernel⟩, List.mem_of_getElem? (i := 702) (by decide +kernel), List.mem_of_getElem? (i := 862) (by decide +kernel), List.mem_of_getElem? (i := 863) (by decide +kernel)⟩
theorem lw_p29 : lw_okq (⟨"AilingKingModel", "readsGuest", "()V"⟩, 24) := ⟨⟨by decide +kernel, by decide +kernel⟩, List.mem_of_getElem? (i := 702) (by decide +kernel), List.mem_of_getElem? (i := 866) (by decide +kernel), List.mem_of_getElem? (i := 867) (by decide +kernel)⟩
theorem lw_p30 : lw_okq (⟨"AilingKingModel", "isGuest", "(I)Z"⟩, 24) := ⟨⟨by decide +kernel, by decide +kernel⟩, List.mem_of_getElem? (i := 702) (by decide +kernel), List.mem_of_getElem? (i := 882) (by decide +kernel), List.mem_of_getElem? (i := 883) (by decide +kernel)⟩
theorem lw_p31 : lw_okq (⟨"AilingKingModel", "isToCome", "(I)Z"⟩, 24) := ⟨⟨by decide +kernel, by decide +kernel⟩, List.mem_of_getElem? (i := 702) (by decide +kernel), List.mem_of_getElem? (i := 886) (by decide +kernel), List.mem_of_getElem? (i := 887) (by decide +kernel)⟩
def lw_privs_2 : List (MethodName × Nat) := [(⟨"AilingKing", "imageOf", "(I)LAilingKing$Castle;"⟩, 11), (⟨"AilingKing$Asks", "leave", "(I)V"⟩, 2), (⟨"AilingKingModel", "found", "(I)I"⟩, 24), (⟨"AilingKingModel", "well", "(I)I"⟩, 24), (⟨"AilingKingModel", "isMissing", "(I)Z"⟩, 24), (⟨"AilingKingModel", "isPart", "(III)Z"⟩, 24), (⟨"AilingKingModel", "advances", "()V"⟩, 24), (⟨"AilingKingModel", "byteAt", "(I)I"⟩, 24), (⟨"AilingKingModel", "takes", "(ZI)I"⟩, 24), (⟨"AilingKingModel", "isWell", "()Z"⟩, 24), (⟨"AilingKingModel", "figure", "(II)I"⟩, 24), (⟨"AilingKingModel", "figureBut", "(II)I"⟩, 24), (⟨"AilingKingModel", "readsHint", "()V"⟩, 24), (⟨"AilingKingModel", "readsGuest", "()V"⟩, 24), (⟨"AilingKingModel", "isGuest", "(I)Z"⟩, 24), (⟨"AilingKingModel", "isToCome", "(I)Z"⟩, 24)]
theorem lw_r2 : ∀ q ∈ lw_privs_2, lw_okq q := List.forall_mem_cons.mpr ⟨lw_p16, List.forall_mem_cons.mpr ⟨lw_p17, List.forall_mem_cons.mpr ⟨lw_p18, List.forall_mem_cons.mpr ⟨lw_p19, List.forall_mem_cons.mpr ⟨lw_p20, List.forall_mem_cons.mpr ⟨lw_p21, List.forall_mem_cons.mpr ⟨lw_p22, List.forall_mem_cons.mpr ⟨lw_p23, List.forall_mem_cons.mpr ⟨lw_p24, List.forall_mem_cons.mpr ⟨lw_p25, List.forall_mem_cons.mpr ⟨lw_p26, List.forall_mem_cons.mpr ⟨lw_p27, List.forall_mem_cons.mpr ⟨lw_p28, List.forall_mem_cons.mpr ⟨lw_p29, List.forall_mem_cons.mpr ⟨lw_p30, List.forall_mem_cons.mpr ⟨lw_p31, fun _ h => absurd h List.not_mem_nil⟩⟩⟩⟩⟩⟩⟩⟩⟩⟩⟩⟩⟩⟩⟩⟩
theorem lw_p32 : lw_okq (⟨"AilingKingModel", "of", "(II)I"⟩, 24) := ⟨⟨by decide +kernel, by decide +kernel⟩, List.mem_of_getElem? (i := 702) (by decide +kernel), List.mem_of_getElem? (i := 890) (by decide +kernel), List.mem_of_getElem? (i := 891) (by decide +kernel)⟩
theorem lw_p33 : lw_okq (⟨"AilingKingModel", "notes", "()V"⟩, 24) := ⟨⟨by decide +kernel, by decide +kernel⟩, List.mem_of_getElem? (i := 702) (by decide +kernel), List.mem_of_getElem? (i := 895) (by decide +kernel), List.mem_of_getElem? (i := 896) (by decide +kernel)⟩
theorem lw_p34 : lw_okq (⟨"AilingKingModel", "isHint", "(I)Z"⟩, 24) := ⟨⟨by decide +kernel, by decide +kernel⟩, List.mem_of_getElem? (i := 702) (by decide +kernel), List.mem_of_getElem? (i := 903) (by decide +kernel), List.mem_of_getElem? (i := 904) (by decide +kernel)⟩
theorem lw_p35 : lw_okq (⟨"AilingKingModel", "leadsNow", "(II)I"⟩, 24) := ⟨⟨by decide +kernel, by decide +kernel⟩, List.mem_of_getElem? (i := 702) (by decide +kernel), List.mem_of_getElem? (i := 913) (by decide +kernel), List.mem_of_getElem? (i := 914) (by decide +kernel)⟩
theorem lw_p36 : lw_okq (⟨"AilingKingModel", "leadsTo", "(III)I"⟩, 24) := ⟨⟨by decide +kernel, by decide +kernel⟩, List.mem_of_getElem? (i := 702) (by decide +kernel), List.mem_of_getElem? (i := 917) (by decide +kernel), List.mem_of_getElem? (i := 918) (by decide +kernel)⟩
theorem lw_p37 : lw_okq (⟨"AilingKingModel", "dares", "(I)Z"⟩, 24) := ⟨⟨by decide +kernel, by decide +kernel⟩, List.mem_of_getElem? (i := 702) (by decide +kernel), List.mem_of_getElem? (i := 925) (by decide +kernel), List.mem_of_getElem? (i := 926) (by decide +kernel)⟩
theorem lw_p38 : lw_okq (⟨"AilingKingModel", "atMost", "(I)I"⟩, 24) := ⟨⟨by decide +kernel, by decide +kernel⟩, List.mem_of_getElem? (i := 702) (by decide +kernel), List.mem_of_getElem? (i := 953) (by decide +kernel), List.mem_of_getElem? (i := 954) (by decide +kernel)⟩
theorem lw_p39 : lw_okq (⟨"AilingKingModel", "ahead", "(I)I"⟩, 24) := ⟨⟨by decide +kernel, by decide +kernel⟩, List.mem_of_getElem? (i := 702) (by decide +kernel), List.mem_of_getElem? (i := 957) (by decide +kernel), List.mem_of_getElem? (i := 958) (by decide +kernel)⟩
theorem lw_p40 : lw_okq (⟨"AilingKingModel", "allHints", "()I"⟩, 24) := ⟨⟨by decide +kernel, by decide +kernel⟩, List.mem_of_getElem? (i := 702) (by decide +kernel), List.mem_of_getElem? (i := 961) (by decide +kernel), List.mem_of_getElem? (i := 962) (by decide +kernel)⟩
theorem lw_p41 : lw_okq (⟨"AilingKingModel", "endOf", "(IIIZ)I"⟩, 24) := ⟨⟨by decide +kernel, by decide +kernel⟩, List.mem_of_getElem? (i := 702) (by decide +kernel), List.mem_of_getElem? (i := 968) (by decide +kernel), List.mem_of_getElem? (i := 969) (by decide +kernel)⟩
theorem lw_p42 : lw_okq (⟨"AilingKingModel", "thinks", "(I)V"⟩, 24) := ⟨⟨by decide +kernel, by decide +kernel⟩, List.mem_of_getElem? (i := 702) (by decide +kernel), List.mem_of_getElem? (i := 976) (by decide +kernel), List.mem_of_getElem? (i := 977) (by decide +kernel)⟩
theorem lw_p43 : lw_okq (⟨"AilingKingModel", "isCastle", "()Z"⟩, 24) := ⟨⟨by decide +kernel, by decide +kernel⟩, List.mem_of_getElem? (i := 702) (by decide +kernel), List.mem_of_getElem? (i := 992) (by decide +kernel), List.mem_of_getElem? (i := 993) (by decide +kernel)⟩
theorem lw_p44 : lw_okq (⟨"AilingKingModel", "fewest", "(II)I"⟩, 24) := ⟨⟨by decide +kernel, by decide +kernel⟩, List.mem_of_getElem? (i := 702) (by decide +kernel), List.mem_of_getElem? (i := 996) (by decide +kernel), List.mem_of_getElem? (i := 997) (by decide +kernel)⟩
theorem lw_p45 : lw_okq (⟨"AilingKingModel", "laysRoutes", "()V"⟩, 24) := ⟨⟨by decide +kernel, by decide +kernel⟩, List.mem_of_getElem? (i := 702) (by decide +kernel), List.mem_of_getElem? (i := 1004) (by decide +kernel), List.mem_of_getElem? (i := 1005) (by decide +kernel)⟩
theorem lw_p46 : lw_okq (⟨"AilingKingModel", "allToCome", "()I"⟩, 24) := ⟨⟨by decide +kernel, by decide +kernel⟩, List.mem_of_getElem? (i := 702) (by decide +kernel), List.mem_of_getElem? (i := 1008) (by decide +kernel), List.mem_of_getElem? (i := 1009) (by decide +kernel)⟩
theorem lw_p47 : lw_okq (⟨"AilingKingModel", "thinksBy", "(III)I"⟩, 24) := ⟨⟨by decide +kernel, by decide +kernel⟩, List.mem_of_getElem? (i := 702) (by decide +kernel), List.mem_of_getElem? (i := 1020) (by decide +kernel), List.mem_of_getElem? (i := 1021) (by decide +kernel)⟩
def lw_privs_3 : List (MethodName × Nat) := [(⟨"AilingKingModel", "of", "(II)I"⟩, 24), (⟨"AilingKingModel", "notes", "()V"⟩, 24), (⟨"AilingKingModel", "isHint", "(I)Z"⟩, 24), (⟨"AilingKingModel", "leadsNow", "(II)I"⟩, 24), (⟨"AilingKingModel", "leadsTo", "(III)I"⟩, 24), (⟨"AilingKingModel", "dares", "(I)Z"⟩, 24), (⟨"AilingKingModel", "atMost", "(I)I"⟩, 24), (⟨"AilingKingModel", "ahead", "(I)I"⟩, 24), (⟨"AilingKingModel", "allHints", "()I"⟩, 24), (⟨"AilingKingModel", "endOf", "(IIIZ)I"⟩, 24), (⟨"AilingKingModel", "thinks", "(I)V"⟩, 24), (⟨"AilingKingModel", "isCastle", "()Z"⟩, 24), (⟨"AilingKingModel", "fewest", "(II)I"⟩, 24), (⟨"AilingKingModel", "laysRoutes", "()V"⟩, 24), (⟨"AilingKingModel", "allToCome", "()I"⟩, 24), (⟨"AilingKingModel", "thinksBy", "(III)I"⟩, 24)]
theorem lw_r3 : ∀ q ∈ lw_privs_3, lw_okq q := List.forall_mem_cons.mpr ⟨lw_p32, List.forall_mem_cons.mpr ⟨lw_p33, List.forall_mem_cons.mpr ⟨lw_p34, List.forall_mem_cons.mpr ⟨lw_p35, List.forall_mem_cons.mpr ⟨lw_p36, List.forall_mem_cons.mpr ⟨lw_p37, List.forall_mem_cons.mpr ⟨lw_p38, List.forall_mem_cons.mpr ⟨lw_p39, List.forall_mem_cons.mpr ⟨lw_p40, List.forall_mem_cons.mpr ⟨lw_p41, List.forall_mem_cons.mpr ⟨lw_p42, List.forall_mem_cons.mpr ⟨lw_p43, List.forall_mem_cons.mpr ⟨lw_p44, List.forall_mem_cons.mpr ⟨lw_p45, List.forall_mem_cons.mpr ⟨lw_p46, List.forall_mem_cons.mpr ⟨lw_p47, fun _ h => absurd h List.not_mem_nil⟩⟩⟩⟩⟩⟩⟩⟩⟩⟩⟩⟩⟩⟩⟩⟩
theorem lw_p48 : lw_okq (⟨"AilingKingModel", "kindIn", "(I)I"⟩, 24) := ⟨⟨by decide +kernel, by decide +kernel⟩, List.mem_of_getElem? (i := 702) (by decide +kernel), List.mem_of_getElem? (i := 1036) (by decide +kernel), List.mem_of_getElem? (i := 1037) (by decide +kernel)⟩
theorem lw_p49 : lw_okq (⟨"AilingKingModel", "mistakenSize", "(I)I"⟩, 24) := ⟨⟨by decide +kernel, by decide +kernel⟩, List.mem_of_getElem? (i := 702) (by decide +kernel), List.mem_of_getElem? (i := 1048) (by decide +kernel), List.mem_of_getElem? (i := 1049) (by decide +kernel)⟩
theorem lw_p50 : lw_okq (⟨"AilingKingModel", "begins", "(I)V"⟩, 24) := ⟨⟨by decide +kernel, by decide +kernel⟩, List.mem_of_getElem? (i := 702) (by decide +kernel), List.mem_of_getElem? (i := 1052) (by decide +kernel), List.mem_of_getElem? (i := 1053) (by decide +kernel)⟩
theorem lw_p51 : lw_okq (⟨"AilingKingModel", "silentSize", "(I)I"⟩, 24) := ⟨⟨by decide +kernel, by decide +kernel⟩, List.mem_of_getElem? (i := 702) (by decide +kernel), List.mem_of_getElem? (i := 1056) (by decide +kernel), List.mem_of_getElem? (i := 1057) (by decide +kernel)⟩
theorem lw_p52 : lw_okq (⟨"AilingKingModel", "silentMark", "(I)I"⟩, 24) := ⟨⟨by decide +kernel, by decide +kernel⟩, List.mem_of_getElem? (i := 702) (by decide +kernel), List.mem_of_getElem? (i := 1060) (by decide +kernel), List.mem_of_getElem? (i := 1061) (by decide +kernel)⟩
theorem lw_p53 : lw_okq (⟨"AilingKingModel", "mistakenMark", "(I)I"⟩, 24) := ⟨⟨by decide +kernel, by decide +kernel⟩, List.mem_of_getElem? (i := 702) (by decide +kernel), List.mem_of_getElem? (i := 1064) (by decide +kernel), List.mem_of_getElem? (i := 1065) (by decide +kernel)⟩
def lw_privs_4 : List (MethodName × Nat) := [(⟨"AilingKingModel", "kindIn", "(I)I"⟩, 24), (⟨"AilingKingModel", "mistakenSize", "(I)I"⟩, 24), (⟨"AilingKingModel", "begins", "(I)V"⟩, 24), (⟨"AilingKingModel", "silentSize", "(I)I"⟩, 24), (⟨"AilingKingModel", "silentMark", "(I)I"⟩, 24), (⟨"AilingKingModel", "mistakenMark", "(I)I"⟩, 24)]
theorem lw_r4 : ∀ q ∈ lw_privs_4, lw_okq q := List.forall_mem_cons.mpr ⟨lw_p48, List.forall_mem_cons.mpr ⟨lw_p49, List.forall_mem_cons.mpr ⟨lw_p50, List.forall_mem_cons.mpr ⟨lw_p51, List.forall_mem_cons.mpr ⟨lw_p52, List.forall_mem_cons.mpr ⟨lw_p53, fun _ h => absurd h List.not_mem_nil⟩⟩⟩⟩⟩⟩
def lw_privs : List (MethodName × Nat) := lw_privs_1 ++ (lw_privs_2 ++ (lw_privs_3 ++ (lw_privs_4)))
def lw_tbl : List Cond := k2_sels lw_privs ++ tables_1
theorem lw_privs_ok : ∀ q ∈ lw_privs, lw_okq q := by
  show ∀ q ∈ lw_privs_1 ++ (lw_privs_2 ++ (lw_privs_3 ++ (lw_privs_4))), lw_okq q
  exact List.forall_mem_append.mpr ⟨lw_r1, List.forall_mem_append.mpr ⟨lw_r2, List.forall_mem_append.mpr ⟨lw_r3, lw_r4⟩⟩⟩

def RX0 : String := "AilingKing$Acts"
def TX0 : u_T := fun k => match k with
  | 0 => ("AilingKing$Acts", "what", "[I", true)
  | 1 => ("AilingKing$Acts", "who", "[I", true)
  | 2 => ("AilingKing$Acts", "before", "[I", true)
  | 3 => ("AilingKing$Acts", "kept", "I", false)
  | _ => ("AilingKing$Acts", "first", "I", false)
def tyX0 : Nat → FieldType := fun k => match k with
  | 0 => .array .int
  | 1 => .array .int
  | 2 => .array .int
  | 3 => .int
  | _ => .int
abbrev wsX00 : List Cond := u_ws RX0 TX0 5
theorem nmX0 : ∀ a, a < 5 → ∀ b, b < 5 → a ≠ b → (TX0 a).2.1 ≠ (TX0 b).2.1 := by decide +kernel
theorem tyX0_ok : ∀ k, k < 5 → parseFieldDescriptor (TX0 k).2.2.1 = some (tyX0 k) := by decide +kernel
abbrev cX0_init : ByteArray := prog_2_method_1_code
def yX0_init : MethodName := ⟨RX0, "<init>", "()V"⟩
abbrev cX0_keep : ByteArray := prog_2_method_2_code
def yX0_keep : MethodName := ⟨RX0, "keep", "(III)V"⟩
abbrev cX0_takeLatest : ByteArray := prog_2_method_3_code
def yX0_takeLatest : MethodName := ⟨RX0, "takeLatest", "()I"⟩
abbrev cX0_forgetAll : ByteArray := prog_2_method_4_code
def yX0_forgetAll : MethodName := ⟨RX0, "forgetAll", "()V"⟩
def RX1 : String := "AilingKing$Asks"
def TX1 : u_T := fun k => match k with
  | 0 => ("AilingKing$Asks", "begun", "[I", true)
  | _ => ("AilingKing$Asks", "length", "I", false)
def tyX1 : Nat → FieldType := fun k => match k with
  | 0 => .array .int
  | _ => .int
abbrev wsX10 : List Cond := u_ws RX1 TX1 2
theorem nmX1 : ∀ a, a < 2 → ∀ b, b < 2 → a ≠ b → (TX1 a).2.1 ≠ (TX1 b).2.1 := by decide +kernel
theorem tyX1_ok : ∀ k, k < 2 → parseFieldDescriptor (TX1 k).2.2.1 = some (tyX1 k) := by decide +kernel
abbrev cX1_init : ByteArray := prog_3_method_1_code
def yX1_init : MethodName := ⟨RX1, "<init>", "()V"⟩
abbrev cX1_answer : ByteArray := prog_3_method_2_code
def yX1_answer : MethodName := ⟨RX1, "answer", "(LAilingKing$Castle;II)I"⟩
abbrev cX1_sizeBody : ByteArray := prog_3_method_3_code
def yX1_sizeBody : MethodName := ⟨RX1, "sizeBody", "(I)I"⟩
abbrev cX1_markBody : ByteArray := prog_3_method_4_code
def yX1_markBody : MethodName := ⟨RX1, "markBody", "(I)I"⟩
abbrev cX1_leave : ByteArray := prog_3_method_5_code
def yX1_leave : MethodName := ⟨RX1, "leave", "(I)V"⟩
abbrev cX1_given : ByteArray := prog_3_method_6_code
def yX1_given : MethodName := ⟨RX1, "given", "(LAilingKing$Asks;LAilingKing$Castle;III)I"⟩
def RX2 : String := "AilingKing$Castle"
def TX2 : u_T := fun k => match k with
  | 0 => ("AilingKing$Castle", "stands", "Z", false)
  | 1 => ("AilingKing$Castle", "question", "I", false)
  | 2 => ("AilingKing$Castle", "wrong", "I", false)
  | 3 => ("AilingKing$Castle", "limit", "I", false)
  | 4 => ("AilingKing$Castle", "hints", "I", false)
  | 5 => ("AilingKing$Castle", "guests", "I", false)
  | 6 => ("AilingKing$Castle", "sort", "[I", true)
  | 7 => ("AilingKing$Castle", "from", "[I", true)
  | 8 => ("AilingKing$Castle", "to", "[I", true)
  | 9 => ("AilingKing$Castle", "shown", "[I", true)
  | 10 => ("AilingKing$Castle", "mind", "[I", true)
  | 11 => ("AilingKing$Castle", "fear", "[I", true)
  | 12 => ("AilingKing$Castle", "bold", "[I", true)
  | 13 => ("AilingKing$Castle", "asked", "[I", true)
  | 14 => ("AilingKing$Castle", "here", "I", false)
  | 15 => ("AilingKing$Castle", "been", "I", false)
  | 16 => ("AilingKing$Castle", "tonight", "I", false)
  | 17 => ("AilingKing$Castle", "worse", "I", false)
  | _ => ("AilingKing$Castle", "healed", "Z", false)
def tyX2 : Nat → FieldType := fun k => match k with
  | 0 => .boolean
  | 1 => .int
  | 2 => .int
  | 3 => .int
  | 4 => .int
  | 5 => .int
  | 6 => .array .int
  | 7 => .array .int
  | 8 => .array .int
  | 9 => .array .int
  | 10 => .array .int
  | 11 => .array .int
  | 12 => .array .int
  | 13 => .array .int
  | 14 => .int
  | 15 => .int
  | 16 => .int
  | 17 => .int
  | _ => .boolean
abbrev wsX20 : List Cond := u_ws RX2 TX2 19
theorem nmX2 : ∀ a, a < 19 → ∀ b, b < 19 → a ≠ b → (TX2 a).2.1 ≠ (TX2 b).2.1 := by decide +kernel
theorem tyX2_ok : ∀ k, k < 19 → parseFieldDescriptor (TX2 k).2.2.1 = some (tyX2 k) := by decide +kernel
abbrev cX2_init : ByteArray := prog_4_method_1_code
def yX2_init : MethodName := ⟨RX2, "<init>", "()V"⟩
abbrev cX2_become : ByteArray := prog_4_method_2_code
def yX2_become : MethodName := ⟨RX2, "become", "(LAilingKing$Castle;)V"⟩
abbrev cX2_isHint : ByteArray := prog_4_method_3_code
def yX2_isHint : MethodName := ⟨RX2, "isHint", "(I)Z"⟩
abbrev cX2_isGuest : ByteArray := prog_4_method_4_code
def yX2_isGuest : MethodName := ⟨RX2, "isGuest", "(I)Z"⟩
abbrev cX2_stateOf : ByteArray := prog_4_method_5_code
def yX2_stateOf : MethodName := ⟨RX2, "stateOf", "(I)I"⟩
abbrev cX2_dares : ByteArray := prog_4_method_6_code
def yX2_dares : MethodName := ⟨RX2, "dares", "(I)Z"⟩
abbrev cX2_receive : ByteArray := prog_4_method_7_code
def yX2_receive : MethodName := ⟨RX2, "receive", "(I)V"⟩
abbrev cX2_dismiss : ByteArray := prog_4_method_8_code
def yX2_dismiss : MethodName := ⟨RX2, "dismiss", "()V"⟩
abbrev cX2_reveal : ByteArray := prog_4_method_9_code
def yX2_reveal : MethodName := ⟨RX2, "reveal", "(I)V"⟩
abbrev cX2_conceal : ByteArray := prog_4_method_10_code
def yX2_conceal : MethodName := ⟨RX2, "conceal", "(II)V"⟩
abbrev cX2_hear : ByteArray := prog_4_method_11_code
def yX2_hear : MethodName := ⟨RX2, "hear", "(I)V"⟩
abbrev cX2_unhear : ByteArray := prog_4_method_12_code
def yX2_unhear : MethodName := ⟨RX2, "unhear", "(II)V"⟩
abbrev cX2_forth : ByteArray := prog_4_method_13_code
def yX2_forth : MethodName := ⟨RX2, "forth", "(II)I"⟩
abbrev cX2_back : ByteArray := prog_4_method_14_code
def yX2_back : MethodName := ⟨RX2, "back", "(I)I"⟩
abbrev cX2_ledFrom : ByteArray := prog_4_method_15_code
def yX2_ledFrom : MethodName := ⟨RX2, "ledFrom", "(III)I"⟩
abbrev cX2_allHints : ByteArray := prog_4_method_16_code
def yX2_allHints : MethodName := ⟨RX2, "allHints", "()I"⟩
abbrev cX2_hintsAhead : ByteArray := prog_4_method_17_code
def yX2_hintsAhead : MethodName := ⟨RX2, "hintsAhead", "(I)I"⟩
abbrev cX2_leftAhead : ByteArray := prog_4_method_18_code
def yX2_leftAhead : MethodName := ⟨RX2, "leftAhead", "(I)I"⟩
abbrev cX2_thoughtsToCome : ByteArray := prog_4_method_19_code
def yX2_thoughtsToCome : MethodName := ⟨RX2, "thoughtsToCome", "()I"⟩
abbrev cX2_toComeWith : ByteArray := prog_4_method_20_code
def yX2_toComeWith : MethodName := ⟨RX2, "toComeWith", "(I)I"⟩
def RX3 : String := "AilingKing$Foretold"
def TX3 : u_T := fun k => match k with
  | 0 => ("AilingKing$Foretold", "near", "[I", true)
  | _ => ("AilingKing$Foretold", "allowed", "I", false)
def tyX3 : Nat → FieldType := fun k => match k with
  | 0 => .array .int
  | _ => .int
abbrev wsX30 : List Cond := u_ws RX3 TX3 2
theorem nmX3 : ∀ a, a < 2 → ∀ b, b < 2 → a ≠ b → (TX3 a).2.1 ≠ (TX3 b).2.1 := by decide +kernel
theorem tyX3_ok : ∀ k, k < 2 → parseFieldDescriptor (TX3 k).2.2.1 = some (tyX3 k) := by decide +kernel
abbrev cX3_init : ByteArray := prog_5_method_1_code
def yX3_init : MethodName := ⟨RX3, "<init>", "()V"⟩
abbrev cX3_measure : ByteArray := prog_5_method_2_code
def yX3_measure : MethodName := ⟨RX3, "measure", "(LAilingKing$Castle;IZ)V"⟩
abbrev cX3_leadingInto : ByteArray := prog_5_method_3_code
def yX3_leadingInto : MethodName := ⟨RX3, "leadingInto", "(LAilingKing$Castle;I)I"⟩
abbrev cX3_fewestFrom : ByteArray := prog_5_method_4_code
def yX3_fewestFrom : MethodName := ⟨RX3, "fewestFrom", "(II)I"⟩
abbrev cX3_hintOfRoute : ByteArray := prog_5_method_5_code
def yX3_hintOfRoute : MethodName := ⟨RX3, "hintOfRoute", "(LAilingKing$Castle;III)I"⟩
abbrev cX3_firstNearer : ByteArray := prog_5_method_6_code
def yX3_firstNearer : MethodName := ⟨RX3, "firstNearer", "(LAilingKing$Castle;II)I"⟩
abbrev cX3_thoughtsWithin : ByteArray := prog_5_method_7_code
def yX3_thoughtsWithin : MethodName := ⟨RX3, "thoughtsWithin", "(LAilingKing$Castle;III)I"⟩
abbrev cX3_rowsToQuestion : ByteArray := prog_5_method_8_code
def yX3_rowsToQuestion : MethodName := ⟨RX3, "rowsToQuestion", "(LAilingKing$Castle;III)I"⟩
abbrev cX3_bestOf : ByteArray := prog_5_method_9_code
def yX3_bestOf : MethodName := ⟨RX3, "bestOf", "(LAilingKing$Castle;Z)I"⟩
abbrev cX3_fewestForAll : ByteArray := prog_5_method_10_code
def yX3_fewestForAll : MethodName := ⟨RX3, "fewestForAll", "(LAilingKing$Castle;)I"⟩
abbrev cX3_haveRoute : ByteArray := prog_5_method_11_code
def yX3_haveRoute : MethodName := ⟨RX3, "haveRoute", "(LAilingKing$Castle;II)Z"⟩
abbrev cX3_thoughtsWithRoute : ByteArray := prog_5_method_12_code
def yX3_thoughtsWithRoute : MethodName := ⟨RX3, "thoughtsWithRoute", "(LAilingKing$Castle;I)I"⟩
abbrev cX3_mostMissed : ByteArray := prog_5_method_13_code
def yX3_mostMissed : MethodName := ⟨RX3, "mostMissed", "(LAilingKing$Castle;Z)I"⟩
abbrev cX3_wouldAskButFear : ByteArray := prog_5_method_14_code
def yX3_wouldAskButFear : MethodName := ⟨RX3, "wouldAskButFear", "(LAilingKing$Castle;LAilingKing$Rows;III)I"⟩
abbrev cX3_afterRow : ByteArray := prog_5_method_15_code
def yX3_afterRow : MethodName := ⟨RX3, "afterRow", "(LAilingKing$Castle;ILAilingKing$Rows;III)I"⟩
abbrev cX3_timesAhead : ByteArray := prog_5_method_16_code
def yX3_timesAhead : MethodName := ⟨RX3, "timesAhead", "(LAilingKing$Rows;III)I"⟩
def RX4 : String := "AilingKing$Rows"
def TX4 : u_T := fun k => match k with
  | 0 => ("AilingKing$Rows", "items", "[I", true)
  | 1 => ("AilingKing$Rows", "lane", "[I", true)
  | _ => ("AilingKing$Rows", "size", "[I", true)
def tyX4 : Nat → FieldType := fun k => match k with
  | 0 => .array .int
  | 1 => .array .int
  | _ => .array .int
abbrev wsX40 : List Cond := u_ws RX4 TX4 3
theorem nmX4 : ∀ a, a < 3 → ∀ b, b < 3 → a ≠ b → (TX4 a).2.1 ≠ (TX4 b).2.1 := by decide +kernel
theorem tyX4_ok : ∀ k, k < 3 → parseFieldDescriptor (TX4 k).2.2.1 = some (tyX4 k) := by decide +kernel
abbrev cX4_init : ByteArray := prog_6_method_1_code
def yX4_init : MethodName := ⟨RX4, "<init>", "()V"⟩
abbrev cX4_make : ByteArray := prog_6_method_2_code
def yX4_make : MethodName := ⟨RX4, "make", "(III)V"⟩
abbrev cX4_remove : ByteArray := prog_6_method_3_code
def yX4_remove : MethodName := ⟨RX4, "remove", "(I)I"⟩
abbrev cX4_isMissing : ByteArray := prog_6_method_4_code
def yX4_isMissing : MethodName := ⟨RX4, "isMissing", "(I)Z"⟩
abbrev cX4_laneOf : ByteArray := prog_6_method_5_code
def yX4_laneOf : MethodName := ⟨RX4, "laneOf", "(I)I"⟩
abbrev cX4_holds : ByteArray := prog_6_method_6_code
def yX4_holds : MethodName := ⟨RX4, "holds", "(III)Z"⟩
abbrev cX4_put : ByteArray := prog_6_method_7_code
def yX4_put : MethodName := ⟨RX4, "put", "(III)I"⟩
abbrev cX4_itemOf : ByteArray := prog_6_method_8_code
def yX4_itemOf : MethodName := ⟨RX4, "itemOf", "(II)I"⟩
abbrev cX4_carry : ByteArray := prog_6_method_9_code
def yX4_carry : MethodName := ⟨RX4, "carry", "(IIIII)V"⟩
abbrev cX4_present : ByteArray := prog_6_method_10_code
def yX4_present : MethodName := ⟨RX4, "present", "()I"⟩
def RX5 : String := "AilingKing$Tape"
def TX5 : u_T := fun k => match k with
  | 0 => ("AilingKing$Tape", "bytes", "[I", true)
  | 1 => ("AilingKing$Tape", "length", "I", false)
  | 2 => ("AilingKing$Tape", "at", "I", false)
  | 3 => ("AilingKing$Tape", "fault", "I", false)
  | _ => ("AilingKing$Tape", "value", "I", false)
def tyX5 : Nat → FieldType := fun k => match k with
  | 0 => .array .int
  | 1 => .int
  | 2 => .int
  | 3 => .int
  | _ => .int
abbrev wsX50 : List Cond := u_ws RX5 TX5 5
theorem nmX5 : ∀ a, a < 5 → ∀ b, b < 5 → a ≠ b → (TX5 a).2.1 ≠ (TX5 b).2.1 := by decide +kernel
theorem tyX5_ok : ∀ k, k < 5 → parseFieldDescriptor (TX5 k).2.2.1 = some (tyX5 k) := by decide +kernel
abbrev cX5_init : ByteArray := prog_7_method_1_code
def yX5_init : MethodName := ⟨RX5, "<init>", "()V"⟩
abbrev cX5_append : ByteArray := prog_7_method_2_code
def yX5_append : MethodName := ⟨RX5, "append", "(I)I"⟩
abbrev cX5_tells : ByteArray := prog_7_method_3_code
def yX5_tells : MethodName := ⟨RX5, "tells", "(LAilingKing$Castle;)Z"⟩
abbrev cX5_tellsLaw : ByteArray := prog_7_method_4_code
def yX5_tellsLaw : MethodName := ⟨RX5, "tellsLaw", "(LAilingKing$Castle;)Z"⟩
abbrev cX5_tellsHints : ByteArray := prog_7_method_5_code
def yX5_tellsHints : MethodName := ⟨RX5, "tellsHints", "(LAilingKing$Castle;)Z"⟩
abbrev cX5_tellsHint : ByteArray := prog_7_method_6_code
def yX5_tellsHint : MethodName := ⟨RX5, "tellsHint", "(LAilingKing$Castle;I)Z"⟩
abbrev cX5_tellsGuests : ByteArray := prog_7_method_7_code
def yX5_tellsGuests : MethodName := ⟨RX5, "tellsGuests", "(LAilingKing$Castle;)Z"⟩
abbrev cX5_tellsGuest : ByteArray := prog_7_method_8_code
def yX5_tellsGuest : MethodName := ⟨RX5, "tellsGuest", "(LAilingKing$Castle;I)Z"⟩
abbrev cX5_tellsSign : ByteArray := prog_7_method_9_code
def yX5_tellsSign : MethodName := ⟨RX5, "tellsSign", "(I)Z"⟩
abbrev cX5_tellsNumber : ByteArray := prog_7_method_10_code
def yX5_tellsNumber : MethodName := ⟨RX5, "tellsNumber", "(III)Z"⟩
abbrev cX5_letter : ByteArray := prog_7_method_11_code
def yX5_letter : MethodName := ⟨RX5, "letter", "()I"⟩
abbrev cX5_isFaulty : ByteArray := prog_7_method_12_code
def yX5_isFaulty : MethodName := ⟨RX5, "isFaulty", "(I)Z"⟩
abbrev cX5_isFigure : ByteArray := prog_7_method_13_code
def yX5_isFigure : MethodName := ⟨RX5, "isFigure", "(I)Z"⟩
abbrev cX5_sortOf : ByteArray := prog_7_method_14_code
def yX5_sortOf : MethodName := ⟨RX5, "sortOf", "(I)I"⟩
def RX6 : String := "AilingKing"
def TX6 : u_T := fun k => match k with
  | 0 => ("AilingKing", "rows", "LAilingKing$Rows;", true)
  | 1 => ("AilingKing", "tape", "LAilingKing$Tape;", true)
  | 2 => ("AilingKing", "now", "LAilingKing$Castle;", true)
  | 3 => ("AilingKing", "draft", "LAilingKing$Castle;", true)
  | 4 => ("AilingKing", "firstImage", "LAilingKing$Castle;", true)
  | 5 => ("AilingKing", "secondImage", "LAilingKing$Castle;", true)
  | 6 => ("AilingKing", "acts", "LAilingKing$Acts;", true)
  | 7 => ("AilingKing", "foretold", "LAilingKing$Foretold;", true)
  | 8 => ("AilingKing", "asks", "LAilingKing$Asks;", true)
  | 9 => ("AilingKing", "latestFault", "I", false)
  | _ => ("AilingKing", "latestFinding", "I", false)
def tyX6 : Nat → FieldType := fun k => match k with
  | 0 => .object "AilingKing$Rows"
  | 1 => .object "AilingKing$Tape"
  | 2 => .object "AilingKing$Castle"
  | 3 => .object "AilingKing$Castle"
  | 4 => .object "AilingKing$Castle"
  | 5 => .object "AilingKing$Castle"
  | 6 => .object "AilingKing$Acts"
  | 7 => .object "AilingKing$Foretold"
  | 8 => .object "AilingKing$Asks"
  | 9 => .int
  | _ => .int
abbrev wsX60 : List Cond := u_ws RX6 TX6 11
theorem nmX6 : ∀ a, a < 11 → ∀ b, b < 11 → a ≠ b → (TX6 a).2.1 ≠ (TX6 b).2.1 := by decide +kernel
theorem tyX6_ok : ∀ k, k < 11 → parseFieldDescriptor (TX6 k).2.2.1 = some (tyX6 k) := by decide +kernel
abbrev cX6_init : ByteArray := prog_1_method_1_code
def yX6_init : MethodName := ⟨RX6, "<init>", "()V"⟩
abbrev cX6_row : ByteArray := prog_1_method_2_code
def yX6_row : MethodName := ⟨RX6, "row", "(III)I"⟩
abbrev cX6_set : ByteArray := prog_1_method_3_code
def yX6_set : MethodName := ⟨RX6, "set", "(III)I"⟩
abbrev cX6_copy : ByteArray := prog_1_method_4_code
def yX6_copy : MethodName := ⟨RX6, "copy", "(IIIII)I"⟩
abbrev cX6_drop : ByteArray := prog_1_method_5_code
def yX6_drop : MethodName := ⟨RX6, "drop", "(I)I"⟩
abbrev cX6_feed : ByteArray := prog_1_method_6_code
def yX6_feed : MethodName := ⟨RX6, "feed", "(I)I"⟩
abbrev cX6_castle : ByteArray := prog_1_method_7_code
def yX6_castle : MethodName := ⟨RX6, "castle", "()I"⟩
abbrev cX6_fault : ByteArray := prog_1_method_8_code
def yX6_fault : MethodName := ⟨RX6, "fault", "()I"⟩
abbrev cX6_invite : ByteArray := prog_1_method_9_code
def yX6_invite : MethodName := ⟨RX6, "invite", "(I)I"⟩
abbrev cX6_show : ByteArray := prog_1_method_10_code
def yX6_show : MethodName := ⟨RX6, "show", "(I)I"⟩
abbrev cX6_speak : ByteArray := prog_1_method_11_code
def yX6_speak : MethodName := ⟨RX6, "speak", "()I"⟩
abbrev cX6_tale : ByteArray := prog_1_method_12_code
def yX6_tale : MethodName := ⟨RX6, "tale", "(II)I"⟩
abbrev cX6_undo : ByteArray := prog_1_method_13_code
def yX6_undo : MethodName := ⟨RX6, "undo", "()I"⟩
abbrev cX6_guest : ByteArray := prog_1_method_14_code
def yX6_guest : MethodName := ⟨RX6, "guest", "(II)I"⟩
abbrev cX6_hint : ByteArray := prog_1_method_15_code
def yX6_hint : MethodName := ⟨RX6, "hint", "(II)I"⟩
abbrev cX6_leads : ByteArray := prog_1_method_16_code
def yX6_leads : MethodName := ⟨RX6, "leads", "(II)I"⟩
abbrev cX6_route : ByteArray := prog_1_method_17_code
def yX6_route : MethodName := ⟨RX6, "route", "(III)I"⟩
abbrev cX6_thinkable : ByteArray := prog_1_method_18_code
def yX6_thinkable : MethodName := ⟨RX6, "thinkable", "(I)I"⟩
abbrev cX6_chance : ByteArray := prog_1_method_19_code
def yX6_chance : MethodName := ⟨RX6, "chance", "(III)I"⟩
abbrev cX6_taught : ByteArray := prog_1_method_20_code
def yX6_taught : MethodName := ⟨RX6, "taught", "(I)I"⟩
abbrev cX6_bestGuest : ByteArray := prog_1_method_21_code
def yX6_bestGuest : MethodName := ⟨RX6, "bestGuest", "(I)I"⟩
abbrev cX6_cover : ByteArray := prog_1_method_22_code
def yX6_cover : MethodName := ⟨RX6, "cover", "(I)I"⟩
abbrev cX6_spoilt : ByteArray := prog_1_method_23_code
def yX6_spoilt : MethodName := ⟨RX6, "spoilt", "(I)I"⟩
abbrev cX6_nearly : ByteArray := prog_1_method_24_code
def yX6_nearly : MethodName := ⟨RX6, "nearly", "(III)I"⟩
abbrev cX6_image : ByteArray := prog_1_method_25_code
def yX6_image : MethodName := ⟨RX6, "image", "(I)I"⟩
abbrev cX6_restore : ByteArray := prog_1_method_26_code
def yX6_restore : MethodName := ⟨RX6, "restore", "(I)I"⟩
abbrev cX6_kind : ByteArray := prog_1_method_27_code
def yX6_kind : MethodName := ⟨RX6, "kind", "(I)I"⟩
abbrev cX6_as : ByteArray := prog_1_method_28_code
def yX6_as : MethodName := ⟨RX6, "as", "(II)I"⟩
abbrev cX6_ask : ByteArray := prog_1_method_29_code
def yX6_ask : MethodName := ⟨RX6, "ask", "(II)I"⟩
abbrev cX6_trace : ByteArray := prog_1_method_30_code
def yX6_trace : MethodName := ⟨RX6, "trace", "(I)I"⟩
abbrev cX6_count : ByteArray := prog_1_method_31_code
def yX6_count : MethodName := ⟨RX6, "count", "(I)I"⟩
abbrev cX6_status : ByteArray := prog_1_method_32_code
def yX6_status : MethodName := ⟨RX6, "status", "()I"⟩
abbrev cX6_isBelow : ByteArray := prog_1_method_33_code
def yX6_isBelow : MethodName := ⟨RX6, "isBelow", "(II)Z"⟩
abbrev cX6_has : ByteArray := prog_1_method_34_code
def yX6_has : MethodName := ⟨RX6, "has", "(II)Z"⟩
abbrev cX6_found : ByteArray := prog_1_method_35_code
def yX6_found : MethodName := ⟨RX6, "found", "(I)I"⟩
abbrev cX6_foundNothing : ByteArray := prog_1_method_36_code
def yX6_foundNothing : MethodName := ⟨RX6, "foundNothing", "(I)I"⟩
abbrev cX6_imageOf : ByteArray := prog_1_method_37_code
def yX6_imageOf : MethodName := ⟨RX6, "imageOf", "(I)LAilingKing$Castle;"⟩
abbrev cX6_takeBack : ByteArray := prog_1_method_38_code
def yX6_takeBack : MethodName := ⟨RX6, "takeBack", "(III)V"⟩
abbrev cX6_rowsOfUnlike : ByteArray := prog_1_method_39_code
def yX6_rowsOfUnlike : MethodName := ⟨RX6, "rowsOfUnlike", "(II)I"⟩
abbrev cX6_commonDivisor : ByteArray := prog_1_method_40_code
def yX6_commonDivisor : MethodName := ⟨RX6, "commonDivisor", "(II)I"⟩
abbrev cX6_parentOf : ByteArray := prog_1_method_41_code
def yX6_parentOf : MethodName := ⟨RX6, "parentOf", "(I)I"⟩
abbrev cX6_isOneOf : ByteArray := prog_1_method_42_code
def yX6_isOneOf : MethodName := ⟨RX6, "isOneOf", "(II)Z"⟩
def RX7 : String := "AilingKingModel"
def TX7 : u_T := fun k => match k with
  | 0 => ("AilingKingModel", "lane", "[I", true)
  | 1 => ("AilingKingModel", "many", "[I", true)
  | 2 => ("AilingKingModel", "items", "[I", true)
  | 3 => ("AilingKingModel", "spare", "[I", true)
  | 4 => ("AilingKingModel", "status", "I", false)
  | 5 => ("AilingKingModel", "tape", "[I", true)
  | 6 => ("AilingKingModel", "taped", "I", false)
  | 7 => ("AilingKingModel", "faultKind", "I", false)
  | 8 => ("AilingKingModel", "faultPlace", "I", false)
  | 9 => ("AilingKingModel", "at", "I", false)
  | 10 => ("AilingKingModel", "start", "I", false)
  | 11 => ("AilingKingModel", "token", "I", false)
  | 12 => ("AilingKingModel", "value", "I", false)
  | 13 => ("AilingKingModel", "now", "[I", true)
  | 14 => ("AilingKingModel", "draft", "[I", true)
  | 15 => ("AilingKingModel", "past", "[I", true)
  | 16 => ("AilingKingModel", "acts", "I", false)
  | 17 => ("AilingKingModel", "images", "[I", true)
  | 18 => ("AilingKingModel", "kept", "[Z", true)
  | 19 => ("AilingKingModel", "trace", "[I", true)
  | 20 => ("AilingKingModel", "traced", "I", false)
  | 21 => ("AilingKingModel", "thoughts", "[I", true)
  | 22 => ("AilingKingModel", "routes", "[I", true)
  | _ => ("AilingKingModel", "shown", "[I", true)
def tyX7 : Nat → FieldType := fun k => match k with
  | 0 => .array .int
  | 1 => .array .int
  | 2 => .array .int
  | 3 => .array .int
  | 4 => .int
  | 5 => .array .int
  | 6 => .int
  | 7 => .int
  | 8 => .int
  | 9 => .int
  | 10 => .int
  | 11 => .int
  | 12 => .int
  | 13 => .array .int
  | 14 => .array .int
  | 15 => .array .int
  | 16 => .int
  | 17 => .array .int
  | 18 => .array .boolean
  | 19 => .array .int
  | 20 => .int
  | 21 => .array .int
  | 22 => .array .int
  | _ => .array .int
abbrev wsX70 : List Cond := u_ws RX7 TX7 24
theorem nmX7 : ∀ a, a < 24 → ∀ b, b < 24 → a ≠ b → (TX7 a).2.1 ≠ (TX7 b).2.1 := by decide +kernel
theorem tyX7_ok : ∀ k, k < 24 → parseFieldDescriptor (TX7 k).2.2.1 = some (tyX7 k) := by decide +kernel
abbrev cX7_init : ByteArray := prog_9_method_1_code
def yX7_init : MethodName := ⟨RX7, "<init>", "()V"⟩
abbrev cX7_in : ByteArray := prog_9_method_3_code
def yX7_in : MethodName := ⟨RX7, "in", "(III)Z"⟩
abbrev cX7_has : ByteArray := prog_9_method_4_code
def yX7_has : MethodName := ⟨RX7, "has", "(II)Z"⟩
abbrev cX7_ones : ByteArray := prog_9_method_5_code
def yX7_ones : MethodName := ⟨RX7, "ones", "(I)I"⟩
abbrev cX7_found : ByteArray := prog_9_method_6_code
def yX7_found : MethodName := ⟨RX7, "found", "(I)I"⟩
abbrev cX7_well : ByteArray := prog_9_method_7_code
def yX7_well : MethodName := ⟨RX7, "well", "(I)I"⟩
abbrev cX7_copies : ByteArray := prog_9_method_8_code
def yX7_copies : MethodName := ⟨RX7, "copies", "([II[II)V"⟩
abbrev cX7_isRow : ByteArray := prog_9_method_9_code
def yX7_isRow : MethodName := ⟨RX7, "isRow", "(I)Z"⟩
abbrev cX7_isMissing : ByteArray := prog_9_method_10_code
def yX7_isMissing : MethodName := ⟨RX7, "isMissing", "(I)Z"⟩
abbrev cX7_cut : ByteArray := prog_9_method_11_code
def yX7_cut : MethodName := ⟨RX7, "cut", "(II)I"⟩
abbrev cX7_row : ByteArray := prog_9_method_12_code
def yX7_row : MethodName := ⟨RX7, "row", "(III)I"⟩
abbrev cX7_set : ByteArray := prog_9_method_13_code
def yX7_set : MethodName := ⟨RX7, "set", "(III)I"⟩
abbrev cX7_isPart : ByteArray := prog_9_method_14_code
def yX7_isPart : MethodName := ⟨RX7, "isPart", "(III)Z"⟩
abbrev cX7_copy : ByteArray := prog_9_method_15_code
def yX7_copy : MethodName := ⟨RX7, "copy", "(IIIII)I"⟩
abbrev cX7_drop : ByteArray := prog_9_method_16_code
def yX7_drop : MethodName := ⟨RX7, "drop", "(I)I"⟩
abbrev cX7_feed : ByteArray := prog_9_method_17_code
def yX7_feed : MethodName := ⟨RX7, "feed", "(I)I"⟩
abbrev cX7_byteAt : ByteArray := prog_9_method_18_code
def yX7_byteAt : MethodName := ⟨RX7, "byteAt", "(I)I"⟩
abbrev cX7_advances : ByteArray := prog_9_method_19_code
def yX7_advances : MethodName := ⟨RX7, "advances", "()V"⟩
abbrev cX7_isWell : ByteArray := prog_9_method_20_code
def yX7_isWell : MethodName := ⟨RX7, "isWell", "()Z"⟩
abbrev cX7_takes : ByteArray := prog_9_method_21_code
def yX7_takes : MethodName := ⟨RX7, "takes", "(ZI)I"⟩
abbrev cX7_figure : ByteArray := prog_9_method_22_code
def yX7_figure : MethodName := ⟨RX7, "figure", "(II)I"⟩
abbrev cX7_kindOf : ByteArray := prog_9_method_23_code
def yX7_kindOf : MethodName := ⟨RX7, "kindOf", "(I)I"⟩
abbrev cX7_figureBut : ByteArray := prog_9_method_24_code
def yX7_figureBut : MethodName := ⟨RX7, "figureBut", "(II)I"⟩
abbrev cX7_readsHint : ByteArray := prog_9_method_25_code
def yX7_readsHint : MethodName := ⟨RX7, "readsHint", "()V"⟩
abbrev cX7_readsGuest : ByteArray := prog_9_method_26_code
def yX7_readsGuest : MethodName := ⟨RX7, "readsGuest", "()V"⟩
abbrev cX7_castle : ByteArray := prog_9_method_27_code
def yX7_castle : MethodName := ⟨RX7, "castle", "()I"⟩
abbrev cX7_fault : ByteArray := prog_9_method_28_code
def yX7_fault : MethodName := ⟨RX7, "fault", "()I"⟩
abbrev cX7_isCastle : ByteArray := prog_9_method_29_code
def yX7_isCastle : MethodName := ⟨RX7, "isCastle", "()Z"⟩
abbrev cX7_isHint : ByteArray := prog_9_method_30_code
def yX7_isHint : MethodName := ⟨RX7, "isHint", "(I)Z"⟩
abbrev cX7_isGuest : ByteArray := prog_9_method_31_code
def yX7_isGuest : MethodName := ⟨RX7, "isGuest", "(I)Z"⟩
abbrev cX7_of : ByteArray := prog_9_method_32_code
def yX7_of : MethodName := ⟨RX7, "of", "(II)I"⟩
abbrev cX7_isToCome : ByteArray := prog_9_method_33_code
def yX7_isToCome : MethodName := ⟨RX7, "isToCome", "(I)Z"⟩
abbrev cX7_dares : ByteArray := prog_9_method_34_code
def yX7_dares : MethodName := ⟨RX7, "dares", "(I)Z"⟩
abbrev cX7_leadsTo : ByteArray := prog_9_method_35_code
def yX7_leadsTo : MethodName := ⟨RX7, "leadsTo", "(III)I"⟩
abbrev cX7_leadsNow : ByteArray := prog_9_method_36_code
def yX7_leadsNow : MethodName := ⟨RX7, "leadsNow", "(II)I"⟩
abbrev cX7_notes : ByteArray := prog_9_method_37_code
def yX7_notes : MethodName := ⟨RX7, "notes", "()V"⟩
abbrev cX7_invite : ByteArray := prog_9_method_38_code
def yX7_invite : MethodName := ⟨RX7, "invite", "(I)I"⟩
abbrev cX7_show : ByteArray := prog_9_method_39_code
def yX7_show : MethodName := ⟨RX7, "show", "(I)I"⟩
abbrev cX7_speak : ByteArray := prog_9_method_40_code
def yX7_speak : MethodName := ⟨RX7, "speak", "()I"⟩
abbrev cX7_tale : ByteArray := prog_9_method_41_code
def yX7_tale : MethodName := ⟨RX7, "tale", "(II)I"⟩
abbrev cX7_undo : ByteArray := prog_9_method_42_code
def yX7_undo : MethodName := ⟨RX7, "undo", "()I"⟩
abbrev cX7_guest : ByteArray := prog_9_method_43_code
def yX7_guest : MethodName := ⟨RX7, "guest", "(II)I"⟩
abbrev cX7_hint : ByteArray := prog_9_method_44_code
def yX7_hint : MethodName := ⟨RX7, "hint", "(II)I"⟩
abbrev cX7_leads : ByteArray := prog_9_method_45_code
def yX7_leads : MethodName := ⟨RX7, "leads", "(II)I"⟩
abbrev cX7_allHints : ByteArray := prog_9_method_46_code
def yX7_allHints : MethodName := ⟨RX7, "allHints", "()I"⟩
abbrev cX7_ahead : ByteArray := prog_9_method_47_code
def yX7_ahead : MethodName := ⟨RX7, "ahead", "(I)I"⟩
abbrev cX7_atMost : ByteArray := prog_9_method_48_code
def yX7_atMost : MethodName := ⟨RX7, "atMost", "(I)I"⟩
abbrev cX7_thinks : ByteArray := prog_9_method_49_code
def yX7_thinks : MethodName := ⟨RX7, "thinks", "(I)V"⟩
abbrev cX7_fewest : ByteArray := prog_9_method_50_code
def yX7_fewest : MethodName := ⟨RX7, "fewest", "(II)I"⟩
abbrev cX7_power : ByteArray := prog_9_method_51_code
def yX7_power : MethodName := ⟨RX7, "power", "(II)I"⟩
abbrev cX7_endOf : ByteArray := prog_9_method_52_code
def yX7_endOf : MethodName := ⟨RX7, "endOf", "(IIIZ)I"⟩
abbrev cX7_route : ByteArray := prog_9_method_53_code
def yX7_route : MethodName := ⟨RX7, "route", "(III)I"⟩
abbrev cX7_thinkable : ByteArray := prog_9_method_54_code
def yX7_thinkable : MethodName := ⟨RX7, "thinkable", "(I)I"⟩
abbrev cX7_chance : ByteArray := prog_9_method_55_code
def yX7_chance : MethodName := ⟨RX7, "chance", "(III)I"⟩
abbrev cX7_taught : ByteArray := prog_9_method_56_code
def yX7_taught : MethodName := ⟨RX7, "taught", "(I)I"⟩
abbrev cX7_bestGuest : ByteArray := prog_9_method_57_code
def yX7_bestGuest : MethodName := ⟨RX7, "bestGuest", "(I)I"⟩
abbrev cX7_laysRoutes : ByteArray := prog_9_method_58_code
def yX7_laysRoutes : MethodName := ⟨RX7, "laysRoutes", "()V"⟩
abbrev cX7_allToCome : ByteArray := prog_9_method_59_code
def yX7_allToCome : MethodName := ⟨RX7, "allToCome", "()I"⟩
abbrev cX7_cover : ByteArray := prog_9_method_60_code
def yX7_cover : MethodName := ⟨RX7, "cover", "(I)I"⟩
abbrev cX7_spoilt : ByteArray := prog_9_method_61_code
def yX7_spoilt : MethodName := ⟨RX7, "spoilt", "(I)I"⟩
abbrev cX7_thinksBy : ByteArray := prog_9_method_62_code
def yX7_thinksBy : MethodName := ⟨RX7, "thinksBy", "(III)I"⟩
abbrev cX7_nearly : ByteArray := prog_9_method_63_code
def yX7_nearly : MethodName := ⟨RX7, "nearly", "(III)I"⟩
abbrev cX7_image : ByteArray := prog_9_method_64_code
def yX7_image : MethodName := ⟨RX7, "image", "(I)I"⟩
abbrev cX7_restore : ByteArray := prog_9_method_65_code
def yX7_restore : MethodName := ⟨RX7, "restore", "(I)I"⟩
abbrev cX7_kindIn : ByteArray := prog_9_method_66_code
def yX7_kindIn : MethodName := ⟨RX7, "kindIn", "(I)I"⟩
abbrev cX7_kind : ByteArray := prog_9_method_67_code
def yX7_kind : MethodName := ⟨RX7, "kind", "(I)I"⟩
abbrev cX7_as : ByteArray := prog_9_method_68_code
def yX7_as : MethodName := ⟨RX7, "as", "(II)I"⟩
abbrev cX7_begins : ByteArray := prog_9_method_69_code
def yX7_begins : MethodName := ⟨RX7, "begins", "(I)V"⟩
abbrev cX7_silentMark : ByteArray := prog_9_method_70_code
def yX7_silentMark : MethodName := ⟨RX7, "silentMark", "(I)I"⟩
abbrev cX7_mistakenSize : ByteArray := prog_9_method_71_code
def yX7_mistakenSize : MethodName := ⟨RX7, "mistakenSize", "(I)I"⟩
abbrev cX7_silentSize : ByteArray := prog_9_method_72_code
def yX7_silentSize : MethodName := ⟨RX7, "silentSize", "(I)I"⟩
abbrev cX7_mistakenMark : ByteArray := prog_9_method_73_code
def yX7_mistakenMark : MethodName := ⟨RX7, "mistakenMark", "(I)I"⟩
abbrev cX7_ask : ByteArray := prog_9_method_74_code
def yX7_ask : MethodName := ⟨RX7, "ask", "(II)I"⟩
abbrev cX7_trace : ByteArray := prog_9_method_75_code
def yX7_trace : MethodName := ⟨RX7, "trace", "(I)I"⟩
abbrev cX7_count : ByteArray := prog_9_method_76_code
def yX7_count : MethodName := ⟨RX7, "count", "(I)I"⟩
abbrev cX7_status : ByteArray := prog_9_method_77_code
def yX7_status : MethodName := ⟨RX7, "status", "()I"⟩
def RJ6 : String := "java/lang/Integer"
def TJ6 : u_T := fun k => match k with
  | _ => ("", "", "", false)
def tyJ6 : Nat → FieldType := fun k => match k with
  | _ => .int
abbrev wsJ60 : List Cond := u_ws RJ6 TJ6 0
theorem nmJ6 : ∀ a, a < 0 → ∀ b, b < 0 → a ≠ b → (TJ6 a).2.1 ≠ (TJ6 b).2.1 := by decide +kernel
theorem tyJ6_ok : ∀ k, k < 0 → parseFieldDescriptor (TJ6 k).2.2.1 = some (tyJ6 k) := by decide +kernel
abbrev cJ6_bitCount_0f7a4 : ByteArray := prog_10_method_49_code
def yJ6_bitCount_0f7a4 : MethodName := ⟨RJ6, "bitCount", "(I)I"⟩
def RJ9 : String := "java/lang/Math"
def TJ9 : u_T := fun k => match k with
  | _ => ("", "", "", false)
def tyJ9 : Nat → FieldType := fun k => match k with
  | _ => .int
abbrev wsJ90 : List Cond := u_ws RJ9 TJ9 0
theorem nmJ9 : ∀ a, a < 0 → ∀ b, b < 0 → a ≠ b → (TJ9 a).2.1 ≠ (TJ9 b).2.1 := by decide +kernel
theorem tyJ9_ok : ∀ k, k < 0 → parseFieldDescriptor (TJ9 k).2.2.1 = some (tyJ9 k) := by decide +kernel
abbrev cJ9_max_7cf53 : ByteArray := prog_11_method_65_code
def yJ9_max_7cf53 : MethodName := ⟨RJ9, "max", "(II)I"⟩
abbrev cJ9_min_7cf53 : ByteArray := prog_11_method_69_code
def yJ9_min_7cf53 : MethodName := ⟨RJ9, "min", "(II)I"⟩
def RJ10 : String := "java/lang/System"
def TJ10 : u_T := fun k => match k with
  | _ => ("", "", "", false)
def tyJ10 : Nat → FieldType := fun k => match k with
  | _ => .int
abbrev wsJ100 : List Cond := u_ws RJ10 TJ10 0
theorem nmJ10 : ∀ a, a < 0 → ∀ b, b < 0 → a ≠ b → (TJ10 a).2.1 ≠ (TJ10 b).2.1 := by decide +kernel
theorem tyJ10_ok : ∀ k, k < 0 → parseFieldDescriptor (TJ10 k).2.2.1 = some (tyJ10 k) := by decide +kernel
def RL : String := "AilingKingLaw"
abbrev cL_law : ByteArray := code
def yL_law : MethodName := ⟨RL, "law", "([I)Z"⟩
theorem inJ6 : ∀ w ∈ wsJ60, w ∈ lw_tbl := by decide +kernel
theorem inJ9 : ∀ w ∈ wsJ90, w ∈ lw_tbl := by decide +kernel
theorem inJ10 : ∀ w ∈ wsJ100, w ∈ lw_tbl := by decide +kernel
abbrev vwCl : List vw_C := [(RX0, TX0, 5), (RX1, TX1, 2), (RX2, TX2, 19), (RX3, TX3, 2), (RX4, TX4, 3), (RX5, TX5, 5), (RX6, TX6, 11), (RX7, TX7, 24)]
end
section
theorem dX0_init_0 : decode cX0_init 0 = .ok (.aload_n 0, 1) := by decide +kernel
theorem dX0_init_1 : decode cX0_init 1 = .ok (.invokespecial 3, 3) := by decide +kernel
theorem dX0_init_4 : decode cX0_init 4 = .ok (.aload_n 0, 1) := by decide +kernel
theorem dX0_init_5 : decode cX0_init 5 = .ok (.bipush 24, 2) := by decide +kernel
theorem dX0_init_7 : decode cX0_init 7 = .ok (.newarray .int, 2) := by decide +kernel
theorem dX0_init_9 : decode cX0_init 9 = .ok (.putfield 9, 3) := by decide +kernel
theorem dX0_init_12 : decode cX0_init 12 = .ok (.aload_n 0, 1) := by decide +kernel
theorem dX0_init_13 : decode cX0_init 13 = .ok (.bipush 24, 2) := by decide +kernel
theorem dX0_init_15 : decode cX0_init 15 = .ok (.newarray .int, 2) := by decide +kernel
theorem dX0_init_17 : decode cX0_init 17 = .ok (.putfield 15, 3) := by decide +kernel
theorem dX0_init_20 : decode cX0_init 20 = .ok (.aload_n 0, 1) := by decide +kernel
theorem dX0_init_21 : decode cX0_init 21 = .ok (.bipush 24, 2) := by decide +kernel
theorem dX0_init_23 : decode cX0_init 23 = .ok (.newarray .int, 2) := by decide +kernel
theorem dX0_init_25 : decode cX0_init 25 = .ok (.putfield 18, 3) := by decide +kernel
theorem dX0_init_28 : decode cX0_init 28 = .ok (.return_, 1) := by decide +kernel
theorem dX0_keep_0 : decode cX0_keep 0 = .ok (.aload_n 0, 1) := by decide +kernel
theorem dX0_keep_1 : decode cX0_keep 1 = .ok (.getfield 21, 3) := by decide +kernel
theorem dX0_keep_4 : decode cX0_keep 4 = .ok (.aload_n 0, 1) := by decide +kernel
theorem dX0_keep_5 : decode cX0_keep 5 = .ok (.getfield 25, 3) := by decide +kernel
theorem dX0_keep_8 : decode cX0_keep 8 = .ok (.iadd, 1) := by decide +kernel
theorem dX0_keep_9 : decode cX0_keep 9 = .ok (.bipush 24, 2) := by decide +kernel
theorem dX0_keep_11 : decode cX0_keep 11 = .ok (.irem, 1) := by decide +kernel
theorem dX0_keep_12 : decode cX0_keep 12 = .ok (.istore 4, 2) := by decide +kernel
theorem dX0_keep_14 : decode cX0_keep 14 = .ok (.aload_n 0, 1) := by decide +kernel
theorem dX0_keep_15 : decode cX0_keep 15 = .ok (.getfield 9, 3) := by decide +kernel
theorem dX0_keep_18 : decode cX0_keep 18 = .ok (.iload 4, 2) := by decide +kernel
theorem dX0_keep_20 : decode cX0_keep 20 = .ok (.iload_n 1, 1) := by decide +kernel
theorem dX0_keep_21 : decode cX0_keep 21 = .ok (.iastore, 1) := by decide +kernel
theorem dX0_keep_22 : decode cX0_keep 22 = .ok (.aload_n 0, 1) := by decide +kernel
theorem dX0_keep_23 : decode cX0_keep 23 = .ok (.getfield 15, 3) := by decide +kernel
theorem dX0_keep_26 : decode cX0_keep 26 = .ok (.iload 4, 2) := by decide +kernel
theorem dX0_keep_28 : decode cX0_keep 28 = .ok (.iload_n 2, 1) := by decide +kernel
theorem dX0_keep_29 : decode cX0_keep 29 = .ok (.iastore, 1) := by decide +kernel
theorem dX0_keep_30 : decode cX0_keep 30 = .ok (.aload_n 0, 1) := by decide +kernel
theorem dX0_keep_31 : decode cX0_keep 31 = .ok (.getfield 18, 3) := by decide +kernel
theorem dX0_keep_34 : decode cX0_keep 34 = .ok (.iload 4, 2) := by decide +kernel
theorem dX0_keep_36 : decode cX0_keep 36 = .ok (.iload_n 3, 1) := by decide +kernel
theorem dX0_keep_37 : decode cX0_keep 37 = .ok (.iastore, 1) := by decide +kernel
theorem dX0_keep_38 : decode cX0_keep 38 = .ok (.aload_n 0, 1) := by decide +kernel
theorem dX0_keep_39 : decode cX0_keep 39 = .ok (.getfield 25, 3) := by decide +kernel
theorem dX0_keep_42 : decode cX0_keep 42 = .ok (.bipush 24, 2) := by decide +kernel
theorem dX0_keep_44 : decode cX0_keep 44 = .ok (.if_icmp .ge 16, 3) := by decide +kernel
theorem dX0_keep_47 : decode cX0_keep 47 = .ok (.aload_n 0, 1) := by decide +kernel
theorem dX0_keep_48 : decode cX0_keep 48 = .ok (.dup, 1) := by decide +kernel
theorem dX0_keep_49 : decode cX0_keep 49 = .ok (.getfield 25, 3) := by decide +kernel
theorem dX0_keep_52 : decode cX0_keep 52 = .ok (.iconst 1, 1) := by decide +kernel
theorem dX0_keep_53 : decode cX0_keep 53 = .ok (.iadd, 1) := by decide +kernel
theorem dX0_keep_54 : decode cX0_keep 54 = .ok (.putfield 25, 3) := by decide +kernel
theorem dX0_keep_57 : decode cX0_keep 57 = .ok (.goto 16, 3) := by decide +kernel
theorem dX0_keep_60 : decode cX0_keep 60 = .ok (.aload_n 0, 1) := by decide +kernel
theorem dX0_keep_61 : decode cX0_keep 61 = .ok (.aload_n 0, 1) := by decide +kernel
theorem dX0_keep_62 : decode cX0_keep 62 = .ok (.getfield 21, 3) := by decide +kernel
theorem dX0_keep_65 : decode cX0_keep 65 = .ok (.iconst 1, 1) := by decide +kernel
theorem dX0_keep_66 : decode cX0_keep 66 = .ok (.iadd, 1) := by decide +kernel
theorem dX0_keep_67 : decode cX0_keep 67 = .ok (.bipush 24, 2) := by decide +kernel
theorem dX0_keep_69 : decode cX0_keep 69 = .ok (.irem, 1) := by decide +kernel
theorem dX0_keep_70 : decode cX0_keep 70 = .ok (.putfield 21, 3) := by decide +kernel
theorem dX0_keep_73 : decode cX0_keep 73 = .ok (.return_, 1) := by decide +kernel
theorem dX0_takeLatest_0 : decode cX0_takeLatest 0 = .ok (.aload_n 0, 1) := by decide +kernel
theorem dX0_takeLatest_1 : decode cX0_takeLatest 1 = .ok (.dup, 1) := by decide +kernel
theorem dX0_takeLatest_2 : decode cX0_takeLatest 2 = .ok (.getfield 25, 3) := by decide +kernel
theorem dX0_takeLatest_5 : decode cX0_takeLatest 5 = .ok (.iconst 1, 1) := by decide +kernel
theorem dX0_takeLatest_6 : decode cX0_takeLatest 6 = .ok (.isub, 1) := by decide +kernel
theorem dX0_takeLatest_7 : decode cX0_takeLatest 7 = .ok (.putfield 25, 3) := by decide +kernel
theorem dX0_takeLatest_10 : decode cX0_takeLatest 10 = .ok (.aload_n 0, 1) := by decide +kernel
theorem dX0_takeLatest_11 : decode cX0_takeLatest 11 = .ok (.getfield 21, 3) := by decide +kernel
theorem dX0_takeLatest_14 : decode cX0_takeLatest 14 = .ok (.aload_n 0, 1) := by decide +kernel
theorem dX0_takeLatest_15 : decode cX0_takeLatest 15 = .ok (.getfield 25, 3) := by decide +kernel
theorem dX0_takeLatest_18 : decode cX0_takeLatest 18 = .ok (.iadd, 1) := by decide +kernel
theorem dX0_takeLatest_19 : decode cX0_takeLatest 19 = .ok (.bipush 24, 2) := by decide +kernel
theorem dX0_takeLatest_21 : decode cX0_takeLatest 21 = .ok (.irem, 1) := by decide +kernel
theorem dX0_takeLatest_22 : decode cX0_takeLatest 22 = .ok (.ireturn, 1) := by decide +kernel
theorem dX0_forgetAll_0 : decode cX0_forgetAll 0 = .ok (.aload_n 0, 1) := by decide +kernel
theorem dX0_forgetAll_1 : decode cX0_forgetAll 1 = .ok (.iconst 0, 1) := by decide +kernel
theorem dX0_forgetAll_2 : decode cX0_forgetAll 2 = .ok (.putfield 25, 3) := by decide +kernel
theorem dX0_forgetAll_5 : decode cX0_forgetAll 5 = .ok (.return_, 1) := by decide +kernel
theorem dX1_init_0 : decode cX1_init 0 = .ok (.aload_n 0, 1) := by decide +kernel
theorem dX1_init_1 : decode cX1_init 1 = .ok (.invokespecial 3, 3) := by decide +kernel
theorem dX1_init_4 : decode cX1_init 4 = .ok (.aload_n 0, 1) := by decide +kernel
theorem dX1_init_5 : decode cX1_init 5 = .ok (.bipush 16, 2) := by decide +kernel
theorem dX1_init_7 : decode cX1_init 7 = .ok (.newarray .int, 2) := by decide +kernel
theorem dX1_init_9 : decode cX1_init 9 = .ok (.putfield 9, 3) := by decide +kernel
theorem dX1_init_12 : decode cX1_init 12 = .ok (.return_, 1) := by decide +kernel
theorem dX1_answer_0 : decode cX1_answer 0 = .ok (.aload_n 1, 1) := by decide +kernel
theorem dX1_answer_1 : decode cX1_answer 1 = .ok (.getfield 15, 3) := by decide +kernel
theorem dX1_answer_4 : decode cX1_answer 4 = .ok (.iload_n 2, 1) := by decide +kernel
theorem dX1_answer_5 : decode cX1_answer 5 = .ok (.iaload, 1) := by decide +kernel
theorem dX1_answer_6 : decode cX1_answer 6 = .ok (.istore 4, 2) := by decide +kernel
theorem dX1_answer_8 : decode cX1_answer 8 = .ok (.aload_n 0, 1) := by decide +kernel
theorem dX1_answer_9 : decode cX1_answer 9 = .ok (.iconst 0, 1) := by decide +kernel
theorem dX1_answer_10 : decode cX1_answer 10 = .ok (.putfield 20, 3) := by decide +kernel
theorem dX1_answer_13 : decode cX1_answer 13 = .ok (.aload_n 0, 1) := by decide +kernel
theorem dX1_answer_14 : decode cX1_answer 14 = .ok (.aload_n 1, 1) := by decide +kernel
theorem dX1_answer_15 : decode cX1_answer 15 = .ok (.iload_n 3, 1) := by decide +kernel
theorem dX1_answer_16 : decode cX1_answer 16 = .ok (.ifCond .ne 11, 3) := by decide +kernel
theorem dX1_answer_19 : decode cX1_answer 19 = .ok (.iload 4, 2) := by decide +kernel
theorem dX1_answer_21 : decode cX1_answer 21 = .ok (.invokestatic 24, 3) := by decide +kernel
theorem dX1_answer_24 : decode cX1_answer 24 = .ok (.goto 8, 3) := by decide +kernel
theorem dX1_answer_27 : decode cX1_answer 27 = .ok (.iload 4, 2) := by decide +kernel
theorem dX1_answer_29 : decode cX1_answer 29 = .ok (.invokestatic 28, 3) := by decide +kernel
theorem dX1_answer_32 : decode cX1_answer 32 = .ok (.iload_n 2, 1) := by decide +kernel
theorem dX1_answer_33 : decode cX1_answer 33 = .ok (.iconst 0, 1) := by decide +kernel
theorem dX1_answer_34 : decode cX1_answer 34 = .ok (.invokestatic 31, 3) := by decide +kernel
theorem dX1_answer_37 : decode cX1_answer 37 = .ok (.ireturn, 1) := by decide +kernel
theorem dX1_sizeBody_0 : decode cX1_sizeBody 0 = .ok (.iload_n 0, 1) := by decide +kernel
theorem dX1_sizeBody_1 : decode cX1_sizeBody 1 = .ok (.tableswitch 50 1 5 #[35, 38, 41, 44, 47], 35) := by decide +kernel
theorem dX1_sizeBody_36 : decode cX1_sizeBody 36 = .ok (.bipush 11, 2) := by decide +kernel
theorem dX1_sizeBody_38 : decode cX1_sizeBody 38 = .ok (.ireturn, 1) := by decide +kernel
theorem dX1_sizeBody_39 : decode cX1_sizeBody 39 = .ok (.bipush 12, 2) := by decide +kernel
theorem dX1_sizeBody_41 : decode cX1_sizeBody 41 = .ok (.ireturn, 1) := by decide +kernel
theorem dX1_sizeBody_42 : decode cX1_sizeBody 42 = .ok (.bipush 11, 2) := by decide +kernel
theorem dX1_sizeBody_44 : decode cX1_sizeBody 44 = .ok (.ireturn, 1) := by decide +kernel
theorem dX1_sizeBody_45 : decode cX1_sizeBody 45 = .ok (.bipush 13, 2) := by decide +kernel
theorem dX1_sizeBody_47 : decode cX1_sizeBody 47 = .ok (.ireturn, 1) := by decide +kernel
theorem dX1_sizeBody_48 : decode cX1_sizeBody 48 = .ok (.bipush 14, 2) := by decide +kernel
theorem dX1_sizeBody_50 : decode cX1_sizeBody 50 = .ok (.ireturn, 1) := by decide +kernel
theorem dX1_sizeBody_51 : decode cX1_sizeBody 51 = .ok (.bipush 10, 2) := by decide +kernel
theorem dX1_sizeBody_53 : decode cX1_sizeBody 53 = .ok (.ireturn, 1) := by decide +kernel
theorem dX1_markBody_0 : decode cX1_markBody 0 = .ok (.iload_n 0, 1) := by decide +kernel
theorem dX1_markBody_1 : decode cX1_markBody 1 = .ok (.tableswitch 50 1 5 #[35, 38, 41, 44, 47], 35) := by decide +kernel
theorem dX1_markBody_36 : decode cX1_markBody 36 = .ok (.bipush 21, 2) := by decide +kernel
theorem dX1_markBody_38 : decode cX1_markBody 38 = .ok (.ireturn, 1) := by decide +kernel
theorem dX1_markBody_39 : decode cX1_markBody 39 = .ok (.bipush 24, 2) := by decide +kernel
theorem dX1_markBody_41 : decode cX1_markBody 41 = .ok (.ireturn, 1) := by decide +kernel
theorem dX1_markBody_42 : decode cX1_markBody 42 = .ok (.bipush 22, 2) := by decide +kernel
theorem dX1_markBody_44 : decode cX1_markBody 44 = .ok (.ireturn, 1) := by decide +kernel
theorem dX1_markBody_45 : decode cX1_markBody 45 = .ok (.bipush 23, 2) := by decide +kernel
theorem dX1_markBody_47 : decode cX1_markBody 47 = .ok (.ireturn, 1) := by decide +kernel
theorem dX1_markBody_48 : decode cX1_markBody 48 = .ok (.bipush 23, 2) := by decide +kernel
theorem dX1_markBody_50 : decode cX1_markBody 50 = .ok (.ireturn, 1) := by decide +kernel
theorem dX1_markBody_51 : decode cX1_markBody 51 = .ok (.bipush 20, 2) := by decide +kernel
theorem dX1_markBody_53 : decode cX1_markBody 53 = .ok (.ireturn, 1) := by decide +kernel
theorem dX1_leave_0 : decode cX1_leave 0 = .ok (.aload_n 0, 1) := by decide +kernel
theorem dX1_leave_1 : decode cX1_leave 1 = .ok (.getfield 20, 3) := by decide +kernel
theorem dX1_leave_4 : decode cX1_leave 4 = .ok (.bipush 16, 2) := by decide +kernel
theorem dX1_leave_6 : decode cX1_leave 6 = .ok (.if_icmp .ge 23, 3) := by decide +kernel
theorem dX1_leave_9 : decode cX1_leave 9 = .ok (.aload_n 0, 1) := by decide +kernel
theorem dX1_leave_10 : decode cX1_leave 10 = .ok (.getfield 9, 3) := by decide +kernel
theorem dX1_leave_13 : decode cX1_leave 13 = .ok (.aload_n 0, 1) := by decide +kernel
theorem dX1_leave_14 : decode cX1_leave 14 = .ok (.getfield 20, 3) := by decide +kernel
theorem dX1_leave_17 : decode cX1_leave 17 = .ok (.iload_n 1, 1) := by decide +kernel
theorem dX1_leave_18 : decode cX1_leave 18 = .ok (.iastore, 1) := by decide +kernel
theorem dX1_leave_19 : decode cX1_leave 19 = .ok (.aload_n 0, 1) := by decide +kernel
theorem dX1_leave_20 : decode cX1_leave 20 = .ok (.dup, 1) := by decide +kernel
theorem dX1_leave_21 : decode cX1_leave 21 = .ok (.getfield 20, 3) := by decide +kernel
theorem dX1_leave_24 : decode cX1_leave 24 = .ok (.iconst 1, 1) := by decide +kernel
theorem dX1_leave_25 : decode cX1_leave 25 = .ok (.iadd, 1) := by decide +kernel
theorem dX1_leave_26 : decode cX1_leave 26 = .ok (.putfield 20, 3) := by decide +kernel
theorem dX1_leave_29 : decode cX1_leave 29 = .ok (.return_, 1) := by decide +kernel
theorem dX1_given_0 : decode cX1_given 0 = .ok (.iload 4, 2) := by decide +kernel
theorem dX1_given_2 : decode cX1_given 2 = .ok (.bipush 8, 2) := by decide +kernel
theorem dX1_given_4 : decode cX1_given 4 = .ok (.if_icmp .lt 5, 3) := by decide +kernel
theorem dX1_given_7 : decode cX1_given 7 = .ok (.iconst 0, 1) := by decide +kernel
theorem dX1_given_8 : decode cX1_given 8 = .ok (.ireturn, 1) := by decide +kernel
theorem dX1_given_9 : decode cX1_given 9 = .ok (.aload_n 1, 1) := by decide +kernel
theorem dX1_given_10 : decode cX1_given 10 = .ok (.getfield 15, 3) := by decide +kernel
theorem dX1_given_13 : decode cX1_given 13 = .ok (.iload_n 3, 1) := by decide +kernel
theorem dX1_given_14 : decode cX1_given 14 = .ok (.iaload, 1) := by decide +kernel
theorem dX1_given_15 : decode cX1_given 15 = .ok (.istore 5, 2) := by decide +kernel
theorem dX1_given_17 : decode cX1_given 17 = .ok (.aload_n 0, 1) := by decide +kernel
theorem dX1_given_18 : decode cX1_given 18 = .ok (.iload_n 2, 1) := by decide +kernel
theorem dX1_given_19 : decode cX1_given 19 = .ok (.invokevirtual 35, 3) := by decide +kernel
theorem dX1_given_22 : decode cX1_given 22 = .ok (.iload_n 2, 1) := by decide +kernel
theorem dX1_given_23 : decode cX1_given 23 = .ok (.tableswitch 237 10 24 #[73, 80, 109, 123, 139, 237, 237, 237, 237, 237, 154, 156, 176, 193, 222], 73) := by decide +kernel
theorem dX1_given_96 : decode cX1_given 96 = .ok (.aload_n 1, 1) := by decide +kernel
theorem dX1_given_97 : decode cX1_given 97 = .ok (.getfield 39, 3) := by decide +kernel
theorem dX1_given_100 : decode cX1_given 100 = .ok (.iload_n 3, 1) := by decide +kernel
theorem dX1_given_101 : decode cX1_given 101 = .ok (.iaload, 1) := by decide +kernel
theorem dX1_given_102 : decode cX1_given 102 = .ok (.ireturn, 1) := by decide +kernel
theorem dX1_given_103 : decode cX1_given 103 = .ok (.aload_n 0, 1) := by decide +kernel
theorem dX1_given_104 : decode cX1_given 104 = .ok (.aload_n 1, 1) := by decide +kernel
theorem dX1_given_105 : decode cX1_given 105 = .ok (.bipush 10, 2) := by decide +kernel
theorem dX1_given_107 : decode cX1_given 107 = .ok (.iload_n 3, 1) := by decide +kernel
theorem dX1_given_108 : decode cX1_given 108 = .ok (.iload 4, 2) := by decide +kernel
theorem dX1_given_110 : decode cX1_given 110 = .ok (.iconst 1, 1) := by decide +kernel
theorem dX1_given_111 : decode cX1_given 111 = .ok (.iadd, 1) := by decide +kernel
theorem dX1_given_112 : decode cX1_given 112 = .ok (.invokestatic 31, 3) := by decide +kernel
theorem dX1_given_115 : decode cX1_given 115 = .ok (.aload_n 0, 1) := by decide +kernel
theorem dX1_given_116 : decode cX1_given 116 = .ok (.aload_n 1, 1) := by decide +kernel
theorem dX1_given_117 : decode cX1_given 117 = .ok (.iload 5, 2) := by decide +kernel
theorem dX1_given_119 : decode cX1_given 119 = .ok (.invokestatic 28, 3) := by decide +kernel
theorem dX1_given_122 : decode cX1_given 122 = .ok (.iload_n 3, 1) := by decide +kernel
theorem dX1_given_123 : decode cX1_given 123 = .ok (.iload 4, 2) := by decide +kernel
theorem dX1_given_125 : decode cX1_given 125 = .ok (.iconst 1, 1) := by decide +kernel
theorem dX1_given_126 : decode cX1_given 126 = .ok (.iadd, 1) := by decide +kernel
theorem dX1_given_127 : decode cX1_given 127 = .ok (.invokestatic 31, 3) := by decide +kernel
theorem dX1_given_130 : decode cX1_given 130 = .ok (.iadd, 1) := by decide +kernel
theorem dX1_given_131 : decode cX1_given 131 = .ok (.ireturn, 1) := by decide +kernel
theorem dX1_given_132 : decode cX1_given 132 = .ok (.aload_n 0, 1) := by decide +kernel
theorem dX1_given_133 : decode cX1_given 133 = .ok (.aload_n 1, 1) := by decide +kernel
theorem dX1_given_134 : decode cX1_given 134 = .ok (.bipush 11, 2) := by decide +kernel
theorem dX1_given_136 : decode cX1_given 136 = .ok (.iload_n 3, 1) := by decide +kernel
theorem dX1_given_137 : decode cX1_given 137 = .ok (.iload 4, 2) := by decide +kernel
theorem dX1_given_139 : decode cX1_given 139 = .ok (.iconst 1, 1) := by decide +kernel
theorem dX1_given_140 : decode cX1_given 140 = .ok (.iadd, 1) := by decide +kernel
theorem dX1_given_141 : decode cX1_given 141 = .ok (.invokestatic 31, 3) := by decide +kernel
theorem dX1_given_144 : decode cX1_given 144 = .ok (.ineg, 1) := by decide +kernel
theorem dX1_given_145 : decode cX1_given 145 = .ok (.ireturn, 1) := by decide +kernel
theorem dX1_given_146 : decode cX1_given 146 = .ok (.aload_n 0, 1) := by decide +kernel
theorem dX1_given_147 : decode cX1_given 147 = .ok (.aload_n 1, 1) := by decide +kernel
theorem dX1_given_148 : decode cX1_given 148 = .ok (.bipush 10, 2) := by decide +kernel
theorem dX1_given_150 : decode cX1_given 150 = .ok (.iload_n 3, 1) := by decide +kernel
theorem dX1_given_151 : decode cX1_given 151 = .ok (.iload 4, 2) := by decide +kernel
theorem dX1_given_153 : decode cX1_given 153 = .ok (.iconst 1, 1) := by decide +kernel
theorem dX1_given_154 : decode cX1_given 154 = .ok (.iadd, 1) := by decide +kernel
theorem dX1_given_155 : decode cX1_given 155 = .ok (.invokestatic 31, 3) := by decide +kernel
theorem dX1_given_158 : decode cX1_given 158 = .ok (.bipush 100, 2) := by decide +kernel
theorem dX1_given_160 : decode cX1_given 160 = .ok (.isub, 1) := by decide +kernel
theorem dX1_given_161 : decode cX1_given 161 = .ok (.ireturn, 1) := by decide +kernel
theorem dX1_given_162 : decode cX1_given 162 = .ok (.iconst 2, 1) := by decide +kernel
theorem dX1_given_163 : decode cX1_given 163 = .ok (.aload_n 0, 1) := by decide +kernel
theorem dX1_given_164 : decode cX1_given 164 = .ok (.aload_n 1, 1) := by decide +kernel
theorem dX1_given_165 : decode cX1_given 165 = .ok (.bipush 13, 2) := by decide +kernel
theorem dX1_given_167 : decode cX1_given 167 = .ok (.iload_n 3, 1) := by decide +kernel
theorem dX1_given_168 : decode cX1_given 168 = .ok (.iload 4, 2) := by decide +kernel
theorem dX1_given_170 : decode cX1_given 170 = .ok (.iconst 1, 1) := by decide +kernel
theorem dX1_given_171 : decode cX1_given 171 = .ok (.iadd, 1) := by decide +kernel
theorem dX1_given_172 : decode cX1_given 172 = .ok (.invokestatic 31, 3) := by decide +kernel
theorem dX1_given_175 : decode cX1_given 175 = .ok (.imul, 1) := by decide +kernel
theorem dX1_given_176 : decode cX1_given 176 = .ok (.ireturn, 1) := by decide +kernel
theorem dX1_given_177 : decode cX1_given 177 = .ok (.iload_n 3, 1) := by decide +kernel
theorem dX1_given_178 : decode cX1_given 178 = .ok (.ireturn, 1) := by decide +kernel
theorem dX1_given_179 : decode cX1_given 179 = .ok (.aload_n 0, 1) := by decide +kernel
theorem dX1_given_180 : decode cX1_given 180 = .ok (.aload_n 1, 1) := by decide +kernel
theorem dX1_given_181 : decode cX1_given 181 = .ok (.bipush 20, 2) := by decide +kernel
theorem dX1_given_183 : decode cX1_given 183 = .ok (.iload_n 3, 1) := by decide +kernel
theorem dX1_given_184 : decode cX1_given 184 = .ok (.iload 4, 2) := by decide +kernel
theorem dX1_given_186 : decode cX1_given 186 = .ok (.iconst 1, 1) := by decide +kernel
theorem dX1_given_187 : decode cX1_given 187 = .ok (.iadd, 1) := by decide +kernel
theorem dX1_given_188 : decode cX1_given 188 = .ok (.invokestatic 31, 3) := by decide +kernel
theorem dX1_given_191 : decode cX1_given 191 = .ok (.aload_n 1, 1) := by decide +kernel
theorem dX1_given_192 : decode cX1_given 192 = .ok (.getfield 42, 3) := by decide +kernel
theorem dX1_given_195 : decode cX1_given 195 = .ok (.iload_n 3, 1) := by decide +kernel
theorem dX1_given_196 : decode cX1_given 196 = .ok (.iaload, 1) := by decide +kernel
theorem dX1_given_197 : decode cX1_given 197 = .ok (.iadd, 1) := by decide +kernel
theorem dX1_given_198 : decode cX1_given 198 = .ok (.ireturn, 1) := by decide +kernel
theorem dX1_given_199 : decode cX1_given 199 = .ok (.aload_n 0, 1) := by decide +kernel
theorem dX1_given_200 : decode cX1_given 200 = .ok (.aload_n 1, 1) := by decide +kernel
theorem dX1_given_201 : decode cX1_given 201 = .ok (.bipush 21, 2) := by decide +kernel
theorem dX1_given_203 : decode cX1_given 203 = .ok (.iload_n 3, 1) := by decide +kernel
theorem dX1_given_204 : decode cX1_given 204 = .ok (.iload 4, 2) := by decide +kernel
theorem dX1_given_206 : decode cX1_given 206 = .ok (.iconst 1, 1) := by decide +kernel
theorem dX1_given_207 : decode cX1_given 207 = .ok (.iadd, 1) := by decide +kernel
theorem dX1_given_208 : decode cX1_given 208 = .ok (.invokestatic 31, 3) := by decide +kernel
theorem dX1_given_211 : decode cX1_given 211 = .ok (.sipush 1000, 3) := by decide +kernel
theorem dX1_given_214 : decode cX1_given 214 = .ok (.isub, 1) := by decide +kernel
theorem dX1_given_215 : decode cX1_given 215 = .ok (.ireturn, 1) := by decide +kernel
theorem dX1_given_216 : decode cX1_given 216 = .ok (.aload_n 0, 1) := by decide +kernel
theorem dX1_given_217 : decode cX1_given 217 = .ok (.aload_n 1, 1) := by decide +kernel
theorem dX1_given_218 : decode cX1_given 218 = .ok (.bipush 20, 2) := by decide +kernel
theorem dX1_given_220 : decode cX1_given 220 = .ok (.iload_n 3, 1) := by decide +kernel
theorem dX1_given_221 : decode cX1_given 221 = .ok (.iload 4, 2) := by decide +kernel
theorem dX1_given_223 : decode cX1_given 223 = .ok (.iconst 1, 1) := by decide +kernel
theorem dX1_given_224 : decode cX1_given 224 = .ok (.iadd, 1) := by decide +kernel
theorem dX1_given_225 : decode cX1_given 225 = .ok (.invokestatic 31, 3) := by decide +kernel
theorem dX1_given_228 : decode cX1_given 228 = .ok (.aload_n 0, 1) := by decide +kernel
theorem dX1_given_229 : decode cX1_given 229 = .ok (.aload_n 1, 1) := by decide +kernel
theorem dX1_given_230 : decode cX1_given 230 = .ok (.iload 5, 2) := by decide +kernel
theorem dX1_given_232 : decode cX1_given 232 = .ok (.invokestatic 24, 3) := by decide +kernel
theorem dX1_given_235 : decode cX1_given 235 = .ok (.iload_n 3, 1) := by decide +kernel
theorem dX1_given_236 : decode cX1_given 236 = .ok (.iload 4, 2) := by decide +kernel
theorem dX1_given_238 : decode cX1_given 238 = .ok (.iconst 1, 1) := by decide +kernel
theorem dX1_given_239 : decode cX1_given 239 = .ok (.iadd, 1) := by decide +kernel
theorem dX1_given_240 : decode cX1_given 240 = .ok (.invokestatic 31, 3) := by decide +kernel
theorem dX1_given_243 : decode cX1_given 243 = .ok (.isub, 1) := by decide +kernel
theorem dX1_given_244 : decode cX1_given 244 = .ok (.ireturn, 1) := by decide +kernel
theorem dX1_given_245 : decode cX1_given 245 = .ok (.iconst 2, 1) := by decide +kernel
theorem dX1_given_246 : decode cX1_given 246 = .ok (.aload_n 0, 1) := by decide +kernel
theorem dX1_given_247 : decode cX1_given 247 = .ok (.aload_n 1, 1) := by decide +kernel
theorem dX1_given_248 : decode cX1_given 248 = .ok (.bipush 21, 2) := by decide +kernel
theorem dX1_given_250 : decode cX1_given 250 = .ok (.iload_n 3, 1) := by decide +kernel
theorem dX1_given_251 : decode cX1_given 251 = .ok (.iload 4, 2) := by decide +kernel
theorem dX1_given_253 : decode cX1_given 253 = .ok (.iconst 1, 1) := by decide +kernel
theorem dX1_given_254 : decode cX1_given 254 = .ok (.iadd, 1) := by decide +kernel
theorem dX1_given_255 : decode cX1_given 255 = .ok (.invokestatic 31, 3) := by decide +kernel
theorem dX1_given_258 : decode cX1_given 258 = .ok (.imul, 1) := by decide +kernel
theorem dX1_given_259 : decode cX1_given 259 = .ok (.ireturn, 1) := by decide +kernel
theorem dX1_given_260 : decode cX1_given 260 = .ok (.iconst 0, 1) := by decide +kernel
theorem dX1_given_261 : decode cX1_given 261 = .ok (.ireturn, 1) := by decide +kernel
theorem dX2_init_0 : decode cX2_init 0 = .ok (.aload_n 0, 1) := by decide +kernel
theorem dX2_init_1 : decode cX2_init 1 = .ok (.invokespecial 3, 3) := by decide +kernel
theorem dX2_init_4 : decode cX2_init 4 = .ok (.aload_n 0, 1) := by decide +kernel
theorem dX2_init_5 : decode cX2_init 5 = .ok (.bipush 8, 2) := by decide +kernel
theorem dX2_init_7 : decode cX2_init 7 = .ok (.newarray .int, 2) := by decide +kernel
theorem dX2_init_9 : decode cX2_init 9 = .ok (.putfield 9, 3) := by decide +kernel
theorem dX2_init_12 : decode cX2_init 12 = .ok (.aload_n 0, 1) := by decide +kernel
theorem dX2_init_13 : decode cX2_init 13 = .ok (.bipush 8, 2) := by decide +kernel
theorem dX2_init_15 : decode cX2_init 15 = .ok (.newarray .int, 2) := by decide +kernel
theorem dX2_init_17 : decode cX2_init 17 = .ok (.putfield 15, 3) := by decide +kernel
theorem dX2_init_20 : decode cX2_init 20 = .ok (.aload_n 0, 1) := by decide +kernel
theorem dX2_init_21 : decode cX2_init 21 = .ok (.bipush 8, 2) := by decide +kernel
theorem dX2_init_23 : decode cX2_init 23 = .ok (.newarray .int, 2) := by decide +kernel
theorem dX2_init_25 : decode cX2_init 25 = .ok (.putfield 18, 3) := by decide +kernel
theorem dX2_init_28 : decode cX2_init 28 = .ok (.aload_n 0, 1) := by decide +kernel
theorem dX2_init_29 : decode cX2_init 29 = .ok (.bipush 8, 2) := by decide +kernel
theorem dX2_init_31 : decode cX2_init 31 = .ok (.newarray .int, 2) := by decide +kernel
theorem dX2_init_33 : decode cX2_init 33 = .ok (.putfield 21, 3) := by decide +kernel
theorem dX2_init_36 : decode cX2_init 36 = .ok (.aload_n 0, 1) := by decide +kernel
theorem dX2_init_37 : decode cX2_init 37 = .ok (.bipush 6, 2) := by decide +kernel
theorem dX2_init_39 : decode cX2_init 39 = .ok (.newarray .int, 2) := by decide +kernel
theorem dX2_init_41 : decode cX2_init 41 = .ok (.putfield 24, 3) := by decide +kernel
theorem dX2_init_44 : decode cX2_init 44 = .ok (.aload_n 0, 1) := by decide +kernel
theorem dX2_init_45 : decode cX2_init 45 = .ok (.bipush 6, 2) := by decide +kernel
theorem dX2_init_47 : decode cX2_init 47 = .ok (.newarray .int, 2) := by decide +kernel
theorem dX2_init_49 : decode cX2_init 49 = .ok (.putfield 27, 3) := by decide +kernel
theorem dX2_init_52 : decode cX2_init 52 = .ok (.aload_n 0, 1) := by decide +kernel
theorem dX2_init_53 : decode cX2_init 53 = .ok (.bipush 6, 2) := by decide +kernel
theorem dX2_init_55 : decode cX2_init 55 = .ok (.newarray .int, 2) := by decide +kernel
theorem dX2_init_57 : decode cX2_init 57 = .ok (.putfield 30, 3) := by decide +kernel
theorem dX2_init_60 : decode cX2_init 60 = .ok (.aload_n 0, 1) := by decide +kernel
theorem dX2_init_61 : decode cX2_init 61 = .ok (.bipush 6, 2) := by decide +kernel
theorem dX2_init_63 : decode cX2_init 63 = .ok (.newarray .int, 2) := by decide +kernel
theorem dX2_init_65 : decode cX2_init 65 = .ok (.putfield 33, 3) := by decide +kernel
theorem dX2_init_68 : decode cX2_init 68 = .ok (.aload_n 0, 1) := by decide +kernel
theorem dX2_init_69 : decode cX2_init 69 = .ok (.iconst (-1), 1) := by decide +kernel
theorem dX2_init_70 : decode cX2_init 70 = .ok (.putfield 36, 3) := by decide +kernel
theorem dX2_init_73 : decode cX2_init 73 = .ok (.iconst 0, 1) := by decide +kernel
theorem dX2_init_74 : decode cX2_init 74 = .ok (.istore_n 1, 1) := by decide +kernel
theorem dX2_init_75 : decode cX2_init 75 = .ok (.iload_n 1, 1) := by decide +kernel
theorem dX2_init_76 : decode cX2_init 76 = .ok (.bipush 6, 2) := by decide +kernel
theorem dX2_init_78 : decode cX2_init 78 = .ok (.if_icmp .ge 17, 3) := by decide +kernel
theorem dX2_init_81 : decode cX2_init 81 = .ok (.aload_n 0, 1) := by decide +kernel
theorem dX2_init_82 : decode cX2_init 82 = .ok (.getfield 33, 3) := by decide +kernel
theorem dX2_init_85 : decode cX2_init 85 = .ok (.iload_n 1, 1) := by decide +kernel
theorem dX2_init_86 : decode cX2_init 86 = .ok (.ldc 40, 2) := by decide +kernel
theorem dX2_init_88 : decode cX2_init 88 = .ok (.iastore, 1) := by decide +kernel
theorem dX2_init_89 : decode cX2_init 89 = .ok (.iinc 1 1, 3) := by decide +kernel
theorem dX2_init_92 : decode cX2_init 92 = .ok (.goto (-17), 3) := by decide +kernel
theorem dX2_init_95 : decode cX2_init 95 = .ok (.return_, 1) := by decide +kernel
theorem dX2_become_0 : decode cX2_become 0 = .ok (.aload_n 0, 1) := by decide +kernel
theorem dX2_become_1 : decode cX2_become 1 = .ok (.aload_n 1, 1) := by decide +kernel
theorem dX2_become_2 : decode cX2_become 2 = .ok (.getfield 41, 3) := by decide +kernel
theorem dX2_become_5 : decode cX2_become 5 = .ok (.putfield 41, 3) := by decide +kernel
theorem dX2_become_8 : decode cX2_become 8 = .ok (.aload_n 0, 1) := by decide +kernel
theorem dX2_become_9 : decode cX2_become 9 = .ok (.aload_n 1, 1) := by decide +kernel
theorem dX2_become_10 : decode cX2_become 10 = .ok (.getfield 45, 3) := by decide +kernel
theorem dX2_become_13 : decode cX2_become 13 = .ok (.putfield 45, 3) := by decide +kernel
theorem dX2_become_16 : decode cX2_become 16 = .ok (.aload_n 0, 1) := by decide +kernel
theorem dX2_become_17 : decode cX2_become 17 = .ok (.aload_n 1, 1) := by decide +kernel
theorem dX2_become_18 : decode cX2_become 18 = .ok (.getfield 48, 3) := by decide +kernel
theorem dX2_become_21 : decode cX2_become 21 = .ok (.putfield 48, 3) := by decide +kernel
theorem dX2_become_24 : decode cX2_become 24 = .ok (.aload_n 0, 1) := by decide +kernel
theorem dX2_become_25 : decode cX2_become 25 = .ok (.aload_n 1, 1) := by decide +kernel
theorem dX2_become_26 : decode cX2_become 26 = .ok (.getfield 51, 3) := by decide +kernel
theorem dX2_become_29 : decode cX2_become 29 = .ok (.putfield 51, 3) := by decide +kernel
theorem dX2_become_32 : decode cX2_become 32 = .ok (.aload_n 0, 1) := by decide +kernel
theorem dX2_become_33 : decode cX2_become 33 = .ok (.aload_n 1, 1) := by decide +kernel
theorem dX2_become_34 : decode cX2_become 34 = .ok (.getfield 54, 3) := by decide +kernel
theorem dX2_become_37 : decode cX2_become 37 = .ok (.putfield 54, 3) := by decide +kernel
theorem dX2_become_40 : decode cX2_become 40 = .ok (.aload_n 0, 1) := by decide +kernel
theorem dX2_become_41 : decode cX2_become 41 = .ok (.aload_n 1, 1) := by decide +kernel
theorem dX2_become_42 : decode cX2_become 42 = .ok (.getfield 57, 3) := by decide +kernel
theorem dX2_become_45 : decode cX2_become 45 = .ok (.putfield 57, 3) := by decide +kernel
theorem dX2_become_48 : decode cX2_become 48 = .ok (.aload_n 0, 1) := by decide +kernel
theorem dX2_become_49 : decode cX2_become 49 = .ok (.aload_n 1, 1) := by decide +kernel
theorem dX2_become_50 : decode cX2_become 50 = .ok (.getfield 36, 3) := by decide +kernel
theorem dX2_become_53 : decode cX2_become 53 = .ok (.putfield 36, 3) := by decide +kernel
theorem dX2_become_56 : decode cX2_become 56 = .ok (.aload_n 0, 1) := by decide +kernel
theorem dX2_become_57 : decode cX2_become 57 = .ok (.aload_n 1, 1) := by decide +kernel
theorem dX2_become_58 : decode cX2_become 58 = .ok (.getfield 60, 3) := by decide +kernel
theorem dX2_become_61 : decode cX2_become 61 = .ok (.putfield 60, 3) := by decide +kernel
theorem dX2_become_64 : decode cX2_become 64 = .ok (.aload_n 0, 1) := by decide +kernel
theorem dX2_become_65 : decode cX2_become 65 = .ok (.aload_n 1, 1) := by decide +kernel
theorem dX2_become_66 : decode cX2_become 66 = .ok (.getfield 63, 3) := by decide +kernel
theorem dX2_become_69 : decode cX2_become 69 = .ok (.putfield 63, 3) := by decide +kernel
theorem dX2_become_72 : decode cX2_become 72 = .ok (.aload_n 0, 1) := by decide +kernel
theorem dX2_become_73 : decode cX2_become 73 = .ok (.aload_n 1, 1) := by decide +kernel
theorem dX2_become_74 : decode cX2_become 74 = .ok (.getfield 66, 3) := by decide +kernel
theorem dX2_become_77 : decode cX2_become 77 = .ok (.putfield 66, 3) := by decide +kernel
theorem dX2_become_80 : decode cX2_become 80 = .ok (.aload_n 0, 1) := by decide +kernel
theorem dX2_become_81 : decode cX2_become 81 = .ok (.aload_n 1, 1) := by decide +kernel
theorem dX2_become_82 : decode cX2_become 82 = .ok (.getfield 69, 3) := by decide +kernel
theorem dX2_become_85 : decode cX2_become 85 = .ok (.putfield 69, 3) := by decide +kernel
theorem dX2_become_88 : decode cX2_become 88 = .ok (.aload_n 1, 1) := by decide +kernel
theorem dX2_become_89 : decode cX2_become 89 = .ok (.getfield 9, 3) := by decide +kernel
theorem dX2_become_92 : decode cX2_become 92 = .ok (.iconst 0, 1) := by decide +kernel
theorem dX2_become_93 : decode cX2_become 93 = .ok (.aload_n 0, 1) := by decide +kernel
theorem dX2_become_94 : decode cX2_become 94 = .ok (.getfield 9, 3) := by decide +kernel
theorem dX2_become_97 : decode cX2_become 97 = .ok (.iconst 0, 1) := by decide +kernel
theorem dX2_become_98 : decode cX2_become 98 = .ok (.bipush 8, 2) := by decide +kernel
theorem dX2_become_100 : decode cX2_become 100 = .ok (.invokestatic 72, 3) := by decide +kernel
theorem dX2_become_103 : decode cX2_become 103 = .ok (.aload_n 1, 1) := by decide +kernel
theorem dX2_become_104 : decode cX2_become 104 = .ok (.getfield 15, 3) := by decide +kernel
theorem dX2_become_107 : decode cX2_become 107 = .ok (.iconst 0, 1) := by decide +kernel
theorem dX2_become_108 : decode cX2_become 108 = .ok (.aload_n 0, 1) := by decide +kernel
theorem dX2_become_109 : decode cX2_become 109 = .ok (.getfield 15, 3) := by decide +kernel
theorem dX2_become_112 : decode cX2_become 112 = .ok (.iconst 0, 1) := by decide +kernel
theorem dX2_become_113 : decode cX2_become 113 = .ok (.bipush 8, 2) := by decide +kernel
theorem dX2_become_115 : decode cX2_become 115 = .ok (.invokestatic 72, 3) := by decide +kernel
theorem dX2_become_118 : decode cX2_become 118 = .ok (.aload_n 1, 1) := by decide +kernel
theorem dX2_become_119 : decode cX2_become 119 = .ok (.getfield 18, 3) := by decide +kernel
theorem dX2_become_122 : decode cX2_become 122 = .ok (.iconst 0, 1) := by decide +kernel
theorem dX2_become_123 : decode cX2_become 123 = .ok (.aload_n 0, 1) := by decide +kernel
theorem dX2_become_124 : decode cX2_become 124 = .ok (.getfield 18, 3) := by decide +kernel
theorem dX2_become_127 : decode cX2_become 127 = .ok (.iconst 0, 1) := by decide +kernel
theorem dX2_become_128 : decode cX2_become 128 = .ok (.bipush 8, 2) := by decide +kernel
theorem dX2_become_130 : decode cX2_become 130 = .ok (.invokestatic 72, 3) := by decide +kernel
theorem dX2_become_133 : decode cX2_become 133 = .ok (.aload_n 1, 1) := by decide +kernel
theorem dX2_become_134 : decode cX2_become 134 = .ok (.getfield 21, 3) := by decide +kernel
theorem dX2_become_137 : decode cX2_become 137 = .ok (.iconst 0, 1) := by decide +kernel
theorem dX2_become_138 : decode cX2_become 138 = .ok (.aload_n 0, 1) := by decide +kernel
theorem dX2_become_139 : decode cX2_become 139 = .ok (.getfield 21, 3) := by decide +kernel
theorem dX2_become_142 : decode cX2_become 142 = .ok (.iconst 0, 1) := by decide +kernel
theorem dX2_become_143 : decode cX2_become 143 = .ok (.bipush 8, 2) := by decide +kernel
theorem dX2_become_145 : decode cX2_become 145 = .ok (.invokestatic 72, 3) := by decide +kernel
theorem dX2_become_148 : decode cX2_become 148 = .ok (.aload_n 1, 1) := by decide +kernel
theorem dX2_become_149 : decode cX2_become 149 = .ok (.getfield 24, 3) := by decide +kernel
theorem dX2_become_152 : decode cX2_become 152 = .ok (.iconst 0, 1) := by decide +kernel
theorem dX2_become_153 : decode cX2_become 153 = .ok (.aload_n 0, 1) := by decide +kernel
theorem dX2_become_154 : decode cX2_become 154 = .ok (.getfield 24, 3) := by decide +kernel
theorem dX2_become_157 : decode cX2_become 157 = .ok (.iconst 0, 1) := by decide +kernel
theorem dX2_become_158 : decode cX2_become 158 = .ok (.bipush 6, 2) := by decide +kernel
theorem dX2_become_160 : decode cX2_become 160 = .ok (.invokestatic 72, 3) := by decide +kernel
theorem dX2_become_163 : decode cX2_become 163 = .ok (.aload_n 1, 1) := by decide +kernel
theorem dX2_become_164 : decode cX2_become 164 = .ok (.getfield 27, 3) := by decide +kernel
theorem dX2_become_167 : decode cX2_become 167 = .ok (.iconst 0, 1) := by decide +kernel
theorem dX2_become_168 : decode cX2_become 168 = .ok (.aload_n 0, 1) := by decide +kernel
theorem dX2_become_169 : decode cX2_become 169 = .ok (.getfield 27, 3) := by decide +kernel
theorem dX2_become_172 : decode cX2_become 172 = .ok (.iconst 0, 1) := by decide +kernel
theorem dX2_become_173 : decode cX2_become 173 = .ok (.bipush 6, 2) := by decide +kernel
theorem dX2_become_175 : decode cX2_become 175 = .ok (.invokestatic 72, 3) := by decide +kernel
theorem dX2_become_178 : decode cX2_become 178 = .ok (.aload_n 1, 1) := by decide +kernel
theorem dX2_become_179 : decode cX2_become 179 = .ok (.getfield 30, 3) := by decide +kernel
theorem dX2_become_182 : decode cX2_become 182 = .ok (.iconst 0, 1) := by decide +kernel
theorem dX2_become_183 : decode cX2_become 183 = .ok (.aload_n 0, 1) := by decide +kernel
theorem dX2_become_184 : decode cX2_become 184 = .ok (.getfield 30, 3) := by decide +kernel
theorem dX2_become_187 : decode cX2_become 187 = .ok (.iconst 0, 1) := by decide +kernel
theorem dX2_become_188 : decode cX2_become 188 = .ok (.bipush 6, 2) := by decide +kernel
theorem dX2_become_190 : decode cX2_become 190 = .ok (.invokestatic 72, 3) := by decide +kernel
theorem dX2_become_193 : decode cX2_become 193 = .ok (.aload_n 1, 1) := by decide +kernel
theorem dX2_become_194 : decode cX2_become 194 = .ok (.getfield 33, 3) := by decide +kernel
theorem dX2_become_197 : decode cX2_become 197 = .ok (.iconst 0, 1) := by decide +kernel
theorem dX2_become_198 : decode cX2_become 198 = .ok (.aload_n 0, 1) := by decide +kernel
theorem dX2_become_199 : decode cX2_become 199 = .ok (.getfield 33, 3) := by decide +kernel
theorem dX2_become_202 : decode cX2_become 202 = .ok (.iconst 0, 1) := by decide +kernel
theorem dX2_become_203 : decode cX2_become 203 = .ok (.bipush 6, 2) := by decide +kernel
theorem dX2_become_205 : decode cX2_become 205 = .ok (.invokestatic 72, 3) := by decide +kernel
theorem dX2_become_208 : decode cX2_become 208 = .ok (.return_, 1) := by decide +kernel
theorem dX2_isHint_0 : decode cX2_isHint 0 = .ok (.iload_n 1, 1) := by decide +kernel
theorem dX2_isHint_1 : decode cX2_isHint 1 = .ok (.aload_n 0, 1) := by decide +kernel
theorem dX2_isHint_2 : decode cX2_isHint 2 = .ok (.getfield 54, 3) := by decide +kernel
theorem dX2_isHint_5 : decode cX2_isHint 5 = .ok (.invokestatic 78, 3) := by decide +kernel
theorem dX2_isHint_8 : decode cX2_isHint 8 = .ok (.ireturn, 1) := by decide +kernel
theorem dX2_isGuest_0 : decode cX2_isGuest 0 = .ok (.iload_n 1, 1) := by decide +kernel
theorem dX2_isGuest_1 : decode cX2_isGuest 1 = .ok (.aload_n 0, 1) := by decide +kernel
theorem dX2_isGuest_2 : decode cX2_isGuest 2 = .ok (.getfield 57, 3) := by decide +kernel
theorem dX2_isGuest_5 : decode cX2_isGuest 5 = .ok (.invokestatic 78, 3) := by decide +kernel
theorem dX2_isGuest_8 : decode cX2_isGuest 8 = .ok (.ireturn, 1) := by decide +kernel
theorem dX2_stateOf_0 : decode cX2_stateOf 0 = .ok (.aload_n 0, 1) := by decide +kernel
theorem dX2_stateOf_1 : decode cX2_stateOf 1 = .ok (.getfield 60, 3) := by decide +kernel
theorem dX2_stateOf_4 : decode cX2_stateOf 4 = .ok (.iload_n 1, 1) := by decide +kernel
theorem dX2_stateOf_5 : decode cX2_stateOf 5 = .ok (.invokestatic 82, 3) := by decide +kernel
theorem dX2_stateOf_8 : decode cX2_stateOf 8 = .ok (.ifCond .eq 5, 3) := by decide +kernel
theorem dX2_stateOf_11 : decode cX2_stateOf 11 = .ok (.iconst 2, 1) := by decide +kernel
theorem dX2_stateOf_12 : decode cX2_stateOf 12 = .ok (.ireturn, 1) := by decide +kernel
theorem dX2_stateOf_13 : decode cX2_stateOf 13 = .ok (.aload_n 0, 1) := by decide +kernel
theorem dX2_stateOf_14 : decode cX2_stateOf 14 = .ok (.getfield 36, 3) := by decide +kernel
theorem dX2_stateOf_17 : decode cX2_stateOf 17 = .ok (.iload_n 1, 1) := by decide +kernel
theorem dX2_stateOf_18 : decode cX2_stateOf 18 = .ok (.if_icmp .ne 7, 3) := by decide +kernel
theorem dX2_stateOf_21 : decode cX2_stateOf 21 = .ok (.iconst 1, 1) := by decide +kernel
theorem dX2_stateOf_22 : decode cX2_stateOf 22 = .ok (.goto 4, 3) := by decide +kernel
theorem dX2_stateOf_25 : decode cX2_stateOf 25 = .ok (.iconst 0, 1) := by decide +kernel
theorem dX2_stateOf_26 : decode cX2_stateOf 26 = .ok (.ireturn, 1) := by decide +kernel
theorem dX2_dares_0 : decode cX2_dares 0 = .ok (.aload_n 0, 1) := by decide +kernel
theorem dX2_dares_1 : decode cX2_dares 1 = .ok (.getfield 30, 3) := by decide +kernel
theorem dX2_dares_4 : decode cX2_dares 4 = .ok (.iload_n 1, 1) := by decide +kernel
theorem dX2_dares_5 : decode cX2_dares 5 = .ok (.iaload, 1) := by decide +kernel
theorem dX2_dares_6 : decode cX2_dares 6 = .ok (.aload_n 0, 1) := by decide +kernel
theorem dX2_dares_7 : decode cX2_dares 7 = .ok (.getfield 27, 3) := by decide +kernel
theorem dX2_dares_10 : decode cX2_dares 10 = .ok (.iload_n 1, 1) := by decide +kernel
theorem dX2_dares_11 : decode cX2_dares 11 = .ok (.iaload, 1) := by decide +kernel
theorem dX2_dares_12 : decode cX2_dares 12 = .ok (.if_icmp .lt 7, 3) := by decide +kernel
theorem dX2_dares_15 : decode cX2_dares 15 = .ok (.iconst 1, 1) := by decide +kernel
theorem dX2_dares_16 : decode cX2_dares 16 = .ok (.goto 4, 3) := by decide +kernel
theorem dX2_dares_19 : decode cX2_dares 19 = .ok (.iconst 0, 1) := by decide +kernel
theorem dX2_dares_20 : decode cX2_dares 20 = .ok (.ireturn, 1) := by decide +kernel
theorem dX2_receive_0 : decode cX2_receive 0 = .ok (.aload_n 0, 1) := by decide +kernel
theorem dX2_receive_1 : decode cX2_receive 1 = .ok (.iload_n 1, 1) := by decide +kernel
theorem dX2_receive_2 : decode cX2_receive 2 = .ok (.putfield 36, 3) := by decide +kernel
theorem dX2_receive_5 : decode cX2_receive 5 = .ok (.return_, 1) := by decide +kernel
theorem dX2_dismiss_0 : decode cX2_dismiss 0 = .ok (.aload_n 0, 1) := by decide +kernel
theorem dX2_dismiss_1 : decode cX2_dismiss 1 = .ok (.iconst (-1), 1) := by decide +kernel
theorem dX2_dismiss_2 : decode cX2_dismiss 2 = .ok (.putfield 36, 3) := by decide +kernel
theorem dX2_dismiss_5 : decode cX2_dismiss 5 = .ok (.return_, 1) := by decide +kernel
theorem dX2_reveal_0 : decode cX2_reveal 0 = .ok (.aload_n 0, 1) := by decide +kernel
theorem dX2_reveal_1 : decode cX2_reveal 1 = .ok (.getfield 24, 3) := by decide +kernel
theorem dX2_reveal_4 : decode cX2_reveal 4 = .ok (.aload_n 0, 1) := by decide +kernel
theorem dX2_reveal_5 : decode cX2_reveal 5 = .ok (.getfield 36, 3) := by decide +kernel
theorem dX2_reveal_8 : decode cX2_reveal 8 = .ok (.aload_n 0, 1) := by decide +kernel
theorem dX2_reveal_9 : decode cX2_reveal 9 = .ok (.aload_n 0, 1) := by decide +kernel
theorem dX2_reveal_10 : decode cX2_reveal 10 = .ok (.getfield 24, 3) := by decide +kernel
theorem dX2_reveal_13 : decode cX2_reveal 13 = .ok (.aload_n 0, 1) := by decide +kernel
theorem dX2_reveal_14 : decode cX2_reveal 14 = .ok (.getfield 36, 3) := by decide +kernel
theorem dX2_reveal_17 : decode cX2_reveal 17 = .ok (.iaload, 1) := by decide +kernel
theorem dX2_reveal_18 : decode cX2_reveal 18 = .ok (.iload_n 1, 1) := by decide +kernel
theorem dX2_reveal_19 : decode cX2_reveal 19 = .ok (.aload_n 0, 1) := by decide +kernel
theorem dX2_reveal_20 : decode cX2_reveal 20 = .ok (.getfield 21, 3) := by decide +kernel
theorem dX2_reveal_23 : decode cX2_reveal 23 = .ok (.iload_n 1, 1) := by decide +kernel
theorem dX2_reveal_24 : decode cX2_reveal 24 = .ok (.iaload, 1) := by decide +kernel
theorem dX2_reveal_25 : decode cX2_reveal 25 = .ok (.invokevirtual 85, 3) := by decide +kernel
theorem dX2_reveal_28 : decode cX2_reveal 28 = .ok (.iastore, 1) := by decide +kernel
theorem dX2_reveal_29 : decode cX2_reveal 29 = .ok (.aload_n 0, 1) := by decide +kernel
theorem dX2_reveal_30 : decode cX2_reveal 30 = .ok (.getfield 21, 3) := by decide +kernel
theorem dX2_reveal_33 : decode cX2_reveal 33 = .ok (.iload_n 1, 1) := by decide +kernel
theorem dX2_reveal_34 : decode cX2_reveal 34 = .ok (.dup2, 1) := by decide +kernel
theorem dX2_reveal_35 : decode cX2_reveal 35 = .ok (.iaload, 1) := by decide +kernel
theorem dX2_reveal_36 : decode cX2_reveal 36 = .ok (.iconst 1, 1) := by decide +kernel
theorem dX2_reveal_37 : decode cX2_reveal 37 = .ok (.iadd, 1) := by decide +kernel
theorem dX2_reveal_38 : decode cX2_reveal 38 = .ok (.iastore, 1) := by decide +kernel
theorem dX2_reveal_39 : decode cX2_reveal 39 = .ok (.aload_n 0, 1) := by decide +kernel
theorem dX2_reveal_40 : decode cX2_reveal 40 = .ok (.dup, 1) := by decide +kernel
theorem dX2_reveal_41 : decode cX2_reveal 41 = .ok (.getfield 63, 3) := by decide +kernel
theorem dX2_reveal_44 : decode cX2_reveal 44 = .ok (.iconst 1, 1) := by decide +kernel
theorem dX2_reveal_45 : decode cX2_reveal 45 = .ok (.iload_n 1, 1) := by decide +kernel
theorem dX2_reveal_46 : decode cX2_reveal 46 = .ok (.ishl, 1) := by decide +kernel
theorem dX2_reveal_47 : decode cX2_reveal 47 = .ok (.ior, 1) := by decide +kernel
theorem dX2_reveal_48 : decode cX2_reveal 48 = .ok (.putfield 63, 3) := by decide +kernel
theorem dX2_reveal_51 : decode cX2_reveal 51 = .ok (.return_, 1) := by decide +kernel
theorem dX2_conceal_0 : decode cX2_conceal 0 = .ok (.aload_n 0, 1) := by decide +kernel
theorem dX2_conceal_1 : decode cX2_conceal 1 = .ok (.aload_n 0, 1) := by decide +kernel
theorem dX2_conceal_2 : decode cX2_conceal 2 = .ok (.getfield 36, 3) := by decide +kernel
theorem dX2_conceal_5 : decode cX2_conceal 5 = .ok (.invokevirtual 89, 3) := by decide +kernel
theorem dX2_conceal_8 : decode cX2_conceal 8 = .ok (.ifCond .eq 13, 3) := by decide +kernel
theorem dX2_conceal_11 : decode cX2_conceal 11 = .ok (.aload_n 0, 1) := by decide +kernel
theorem dX2_conceal_12 : decode cX2_conceal 12 = .ok (.getfield 24, 3) := by decide +kernel
theorem dX2_conceal_15 : decode cX2_conceal 15 = .ok (.aload_n 0, 1) := by decide +kernel
theorem dX2_conceal_16 : decode cX2_conceal 16 = .ok (.getfield 36, 3) := by decide +kernel
theorem dX2_conceal_19 : decode cX2_conceal 19 = .ok (.iload_n 2, 1) := by decide +kernel
theorem dX2_conceal_20 : decode cX2_conceal 20 = .ok (.iastore, 1) := by decide +kernel
theorem dX2_conceal_21 : decode cX2_conceal 21 = .ok (.aload_n 0, 1) := by decide +kernel
theorem dX2_conceal_22 : decode cX2_conceal 22 = .ok (.getfield 21, 3) := by decide +kernel
theorem dX2_conceal_25 : decode cX2_conceal 25 = .ok (.iload_n 1, 1) := by decide +kernel
theorem dX2_conceal_26 : decode cX2_conceal 26 = .ok (.dup2, 1) := by decide +kernel
theorem dX2_conceal_27 : decode cX2_conceal 27 = .ok (.iaload, 1) := by decide +kernel
theorem dX2_conceal_28 : decode cX2_conceal 28 = .ok (.iconst 1, 1) := by decide +kernel
theorem dX2_conceal_29 : decode cX2_conceal 29 = .ok (.isub, 1) := by decide +kernel
theorem dX2_conceal_30 : decode cX2_conceal 30 = .ok (.iastore, 1) := by decide +kernel
theorem dX2_conceal_31 : decode cX2_conceal 31 = .ok (.aload_n 0, 1) := by decide +kernel
theorem dX2_conceal_32 : decode cX2_conceal 32 = .ok (.dup, 1) := by decide +kernel
theorem dX2_conceal_33 : decode cX2_conceal 33 = .ok (.getfield 63, 3) := by decide +kernel
theorem dX2_conceal_36 : decode cX2_conceal 36 = .ok (.iconst 1, 1) := by decide +kernel
theorem dX2_conceal_37 : decode cX2_conceal 37 = .ok (.iload_n 1, 1) := by decide +kernel
theorem dX2_conceal_38 : decode cX2_conceal 38 = .ok (.ishl, 1) := by decide +kernel
theorem dX2_conceal_39 : decode cX2_conceal 39 = .ok (.iconst (-1), 1) := by decide +kernel
theorem dX2_conceal_40 : decode cX2_conceal 40 = .ok (.ixor, 1) := by decide +kernel
theorem dX2_conceal_41 : decode cX2_conceal 41 = .ok (.iand, 1) := by decide +kernel
theorem dX2_conceal_42 : decode cX2_conceal 42 = .ok (.putfield 63, 3) := by decide +kernel
theorem dX2_conceal_45 : decode cX2_conceal 45 = .ok (.return_, 1) := by decide +kernel
theorem dX2_hear_0 : decode cX2_hear 0 = .ok (.aload_n 0, 1) := by decide +kernel
theorem dX2_hear_1 : decode cX2_hear 1 = .ok (.getfield 24, 3) := by decide +kernel
theorem dX2_hear_4 : decode cX2_hear 4 = .ok (.iload_n 1, 1) := by decide +kernel
theorem dX2_hear_5 : decode cX2_hear 5 = .ok (.iaload, 1) := by decide +kernel
theorem dX2_hear_6 : decode cX2_hear 6 = .ok (.istore_n 2, 1) := by decide +kernel
theorem dX2_hear_7 : decode cX2_hear 7 = .ok (.aload_n 0, 1) := by decide +kernel
theorem dX2_hear_8 : decode cX2_hear 8 = .ok (.iload_n 1, 1) := by decide +kernel
theorem dX2_hear_9 : decode cX2_hear 9 = .ok (.invokevirtual 93, 3) := by decide +kernel
theorem dX2_hear_12 : decode cX2_hear 12 = .ok (.ifCond .eq 65, 3) := by decide +kernel
theorem dX2_hear_15 : decode cX2_hear 15 = .ok (.iload_n 2, 1) := by decide +kernel
theorem dX2_hear_16 : decode cX2_hear 16 = .ok (.aload_n 0, 1) := by decide +kernel
theorem dX2_hear_17 : decode cX2_hear 17 = .ok (.getfield 45, 3) := by decide +kernel
theorem dX2_hear_20 : decode cX2_hear 20 = .ok (.if_icmp .eq 11, 3) := by decide +kernel
theorem dX2_hear_23 : decode cX2_hear 23 = .ok (.iload_n 2, 1) := by decide +kernel
theorem dX2_hear_24 : decode cX2_hear 24 = .ok (.aload_n 0, 1) := by decide +kernel
theorem dX2_hear_25 : decode cX2_hear 25 = .ok (.getfield 48, 3) := by decide +kernel
theorem dX2_hear_28 : decode cX2_hear 28 = .ok (.if_icmp .ne 49, 3) := by decide +kernel
theorem dX2_hear_31 : decode cX2_hear 31 = .ok (.aload_n 0, 1) := by decide +kernel
theorem dX2_hear_32 : decode cX2_hear 32 = .ok (.getfield 33, 3) := by decide +kernel
theorem dX2_hear_35 : decode cX2_hear 35 = .ok (.iload_n 1, 1) := by decide +kernel
theorem dX2_hear_36 : decode cX2_hear 36 = .ok (.iload_n 2, 1) := by decide +kernel
theorem dX2_hear_37 : decode cX2_hear 37 = .ok (.iastore, 1) := by decide +kernel
theorem dX2_hear_38 : decode cX2_hear 38 = .ok (.aload_n 0, 1) := by decide +kernel
theorem dX2_hear_39 : decode cX2_hear 39 = .ok (.iload_n 2, 1) := by decide +kernel
theorem dX2_hear_40 : decode cX2_hear 40 = .ok (.aload_n 0, 1) := by decide +kernel
theorem dX2_hear_41 : decode cX2_hear 41 = .ok (.getfield 45, 3) := by decide +kernel
theorem dX2_hear_44 : decode cX2_hear 44 = .ok (.if_icmp .ne 7, 3) := by decide +kernel
theorem dX2_hear_47 : decode cX2_hear 47 = .ok (.iconst 1, 1) := by decide +kernel
theorem dX2_hear_48 : decode cX2_hear 48 = .ok (.goto 4, 3) := by decide +kernel
theorem dX2_hear_51 : decode cX2_hear 51 = .ok (.iconst 0, 1) := by decide +kernel
theorem dX2_hear_52 : decode cX2_hear 52 = .ok (.putfield 69, 3) := by decide +kernel
theorem dX2_hear_55 : decode cX2_hear 55 = .ok (.aload_n 0, 1) := by decide +kernel
theorem dX2_hear_56 : decode cX2_hear 56 = .ok (.dup, 1) := by decide +kernel
theorem dX2_hear_57 : decode cX2_hear 57 = .ok (.getfield 66, 3) := by decide +kernel
theorem dX2_hear_60 : decode cX2_hear 60 = .ok (.iload_n 2, 1) := by decide +kernel
theorem dX2_hear_61 : decode cX2_hear 61 = .ok (.aload_n 0, 1) := by decide +kernel
theorem dX2_hear_62 : decode cX2_hear 62 = .ok (.getfield 48, 3) := by decide +kernel
theorem dX2_hear_65 : decode cX2_hear 65 = .ok (.if_icmp .ne 7, 3) := by decide +kernel
theorem dX2_hear_68 : decode cX2_hear 68 = .ok (.iconst 1, 1) := by decide +kernel
theorem dX2_hear_69 : decode cX2_hear 69 = .ok (.goto 4, 3) := by decide +kernel
theorem dX2_hear_72 : decode cX2_hear 72 = .ok (.iconst 0, 1) := by decide +kernel
theorem dX2_hear_73 : decode cX2_hear 73 = .ok (.iadd, 1) := by decide +kernel
theorem dX2_hear_74 : decode cX2_hear 74 = .ok (.putfield 66, 3) := by decide +kernel
theorem dX2_hear_77 : decode cX2_hear 77 = .ok (.aload_n 0, 1) := by decide +kernel
theorem dX2_hear_78 : decode cX2_hear 78 = .ok (.dup, 1) := by decide +kernel
theorem dX2_hear_79 : decode cX2_hear 79 = .ok (.getfield 60, 3) := by decide +kernel
theorem dX2_hear_82 : decode cX2_hear 82 = .ok (.iconst 1, 1) := by decide +kernel
theorem dX2_hear_83 : decode cX2_hear 83 = .ok (.iload_n 1, 1) := by decide +kernel
theorem dX2_hear_84 : decode cX2_hear 84 = .ok (.ishl, 1) := by decide +kernel
theorem dX2_hear_85 : decode cX2_hear 85 = .ok (.ior, 1) := by decide +kernel
theorem dX2_hear_86 : decode cX2_hear 86 = .ok (.putfield 60, 3) := by decide +kernel
theorem dX2_hear_89 : decode cX2_hear 89 = .ok (.aload_n 0, 1) := by decide +kernel
theorem dX2_hear_90 : decode cX2_hear 90 = .ok (.iconst (-1), 1) := by decide +kernel
theorem dX2_hear_91 : decode cX2_hear 91 = .ok (.putfield 36, 3) := by decide +kernel
theorem dX2_hear_94 : decode cX2_hear 94 = .ok (.aload_n 0, 1) := by decide +kernel
theorem dX2_hear_95 : decode cX2_hear 95 = .ok (.iconst 0, 1) := by decide +kernel
theorem dX2_hear_96 : decode cX2_hear 96 = .ok (.putfield 63, 3) := by decide +kernel
theorem dX2_hear_99 : decode cX2_hear 99 = .ok (.return_, 1) := by decide +kernel
theorem dX2_unhear_0 : decode cX2_unhear 0 = .ok (.aload_n 0, 1) := by decide +kernel
theorem dX2_unhear_1 : decode cX2_unhear 1 = .ok (.iconst 0, 1) := by decide +kernel
theorem dX2_unhear_2 : decode cX2_unhear 2 = .ok (.putfield 69, 3) := by decide +kernel
theorem dX2_unhear_5 : decode cX2_unhear 5 = .ok (.aload_n 0, 1) := by decide +kernel
theorem dX2_unhear_6 : decode cX2_unhear 6 = .ok (.dup, 1) := by decide +kernel
theorem dX2_unhear_7 : decode cX2_unhear 7 = .ok (.getfield 66, 3) := by decide +kernel
theorem dX2_unhear_10 : decode cX2_unhear 10 = .ok (.aload_n 0, 1) := by decide +kernel
theorem dX2_unhear_11 : decode cX2_unhear 11 = .ok (.getfield 33, 3) := by decide +kernel
theorem dX2_unhear_14 : decode cX2_unhear 14 = .ok (.iload_n 1, 1) := by decide +kernel
theorem dX2_unhear_15 : decode cX2_unhear 15 = .ok (.iaload, 1) := by decide +kernel
theorem dX2_unhear_16 : decode cX2_unhear 16 = .ok (.aload_n 0, 1) := by decide +kernel
theorem dX2_unhear_17 : decode cX2_unhear 17 = .ok (.getfield 48, 3) := by decide +kernel
theorem dX2_unhear_20 : decode cX2_unhear 20 = .ok (.if_icmp .ne 7, 3) := by decide +kernel
theorem dX2_unhear_23 : decode cX2_unhear 23 = .ok (.iconst 1, 1) := by decide +kernel
theorem dX2_unhear_24 : decode cX2_unhear 24 = .ok (.goto 4, 3) := by decide +kernel
theorem dX2_unhear_27 : decode cX2_unhear 27 = .ok (.iconst 0, 1) := by decide +kernel
theorem dX2_unhear_28 : decode cX2_unhear 28 = .ok (.isub, 1) := by decide +kernel
theorem dX2_unhear_29 : decode cX2_unhear 29 = .ok (.putfield 66, 3) := by decide +kernel
theorem dX2_unhear_32 : decode cX2_unhear 32 = .ok (.aload_n 0, 1) := by decide +kernel
theorem dX2_unhear_33 : decode cX2_unhear 33 = .ok (.getfield 33, 3) := by decide +kernel
theorem dX2_unhear_36 : decode cX2_unhear 36 = .ok (.iload_n 1, 1) := by decide +kernel
theorem dX2_unhear_37 : decode cX2_unhear 37 = .ok (.ldc 40, 2) := by decide +kernel
theorem dX2_unhear_39 : decode cX2_unhear 39 = .ok (.iastore, 1) := by decide +kernel
theorem dX2_unhear_40 : decode cX2_unhear 40 = .ok (.aload_n 0, 1) := by decide +kernel
theorem dX2_unhear_41 : decode cX2_unhear 41 = .ok (.dup, 1) := by decide +kernel
theorem dX2_unhear_42 : decode cX2_unhear 42 = .ok (.getfield 60, 3) := by decide +kernel
theorem dX2_unhear_45 : decode cX2_unhear 45 = .ok (.iconst 1, 1) := by decide +kernel
theorem dX2_unhear_46 : decode cX2_unhear 46 = .ok (.iload_n 1, 1) := by decide +kernel
theorem dX2_unhear_47 : decode cX2_unhear 47 = .ok (.ishl, 1) := by decide +kernel
theorem dX2_unhear_48 : decode cX2_unhear 48 = .ok (.iconst (-1), 1) := by decide +kernel
theorem dX2_unhear_49 : decode cX2_unhear 49 = .ok (.ixor, 1) := by decide +kernel
theorem dX2_unhear_50 : decode cX2_unhear 50 = .ok (.iand, 1) := by decide +kernel
theorem dX2_unhear_51 : decode cX2_unhear 51 = .ok (.putfield 60, 3) := by decide +kernel
theorem dX2_unhear_54 : decode cX2_unhear 54 = .ok (.aload_n 0, 1) := by decide +kernel
theorem dX2_unhear_55 : decode cX2_unhear 55 = .ok (.iload_n 1, 1) := by decide +kernel
theorem dX2_unhear_56 : decode cX2_unhear 56 = .ok (.putfield 36, 3) := by decide +kernel
theorem dX2_unhear_59 : decode cX2_unhear 59 = .ok (.aload_n 0, 1) := by decide +kernel
theorem dX2_unhear_60 : decode cX2_unhear 60 = .ok (.iload_n 2, 1) := by decide +kernel
theorem dX2_unhear_61 : decode cX2_unhear 61 = .ok (.putfield 63, 3) := by decide +kernel
theorem dX2_unhear_64 : decode cX2_unhear 64 = .ok (.return_, 1) := by decide +kernel
theorem dX2_forth_0 : decode cX2_forth 0 = .ok (.aload_n 0, 1) := by decide +kernel
theorem dX2_forth_1 : decode cX2_forth 1 = .ok (.getfield 9, 3) := by decide +kernel
theorem dX2_forth_4 : decode cX2_forth 4 = .ok (.iload_n 1, 1) := by decide +kernel
theorem dX2_forth_5 : decode cX2_forth 5 = .ok (.iaload, 1) := by decide +kernel
theorem dX2_forth_6 : decode cX2_forth 6 = .ok (.tableswitch 66 2 4 #[26, 46, 64], 26) := by decide +kernel
theorem dX2_forth_32 : decode cX2_forth 32 = .ok (.iconst 1, 1) := by decide +kernel
theorem dX2_forth_33 : decode cX2_forth 33 = .ok (.aload_n 0, 1) := by decide +kernel
theorem dX2_forth_34 : decode cX2_forth 34 = .ok (.getfield 15, 3) := by decide +kernel
theorem dX2_forth_37 : decode cX2_forth 37 = .ok (.iload_n 1, 1) := by decide +kernel
theorem dX2_forth_38 : decode cX2_forth 38 = .ok (.iaload, 1) := by decide +kernel
theorem dX2_forth_39 : decode cX2_forth 39 = .ok (.ishl, 1) := by decide +kernel
theorem dX2_forth_40 : decode cX2_forth 40 = .ok (.iconst 1, 1) := by decide +kernel
theorem dX2_forth_41 : decode cX2_forth 41 = .ok (.aload_n 0, 1) := by decide +kernel
theorem dX2_forth_42 : decode cX2_forth 42 = .ok (.getfield 15, 3) := by decide +kernel
theorem dX2_forth_45 : decode cX2_forth 45 = .ok (.iload_n 1, 1) := by decide +kernel
theorem dX2_forth_46 : decode cX2_forth 46 = .ok (.iaload, 1) := by decide +kernel
theorem dX2_forth_47 : decode cX2_forth 47 = .ok (.ishl, 1) := by decide +kernel
theorem dX2_forth_48 : decode cX2_forth 48 = .ok (.iconst 1, 1) := by decide +kernel
theorem dX2_forth_49 : decode cX2_forth 49 = .ok (.ishr, 1) := by decide +kernel
theorem dX2_forth_50 : decode cX2_forth 50 = .ok (.ior, 1) := by decide +kernel
theorem dX2_forth_51 : decode cX2_forth 51 = .ok (.ireturn, 1) := by decide +kernel
theorem dX2_forth_52 : decode cX2_forth 52 = .ok (.iload_n 2, 1) := by decide +kernel
theorem dX2_forth_53 : decode cX2_forth 53 = .ok (.iconst 2, 1) := by decide +kernel
theorem dX2_forth_54 : decode cX2_forth 54 = .ok (.if_icmp .ge 14, 3) := by decide +kernel
theorem dX2_forth_57 : decode cX2_forth 57 = .ok (.iconst 1, 1) := by decide +kernel
theorem dX2_forth_58 : decode cX2_forth 58 = .ok (.aload_n 0, 1) := by decide +kernel
theorem dX2_forth_59 : decode cX2_forth 59 = .ok (.getfield 15, 3) := by decide +kernel
theorem dX2_forth_62 : decode cX2_forth 62 = .ok (.iload_n 1, 1) := by decide +kernel
theorem dX2_forth_63 : decode cX2_forth 63 = .ok (.iaload, 1) := by decide +kernel
theorem dX2_forth_64 : decode cX2_forth 64 = .ok (.ishl, 1) := by decide +kernel
theorem dX2_forth_65 : decode cX2_forth 65 = .ok (.goto 4, 3) := by decide +kernel
theorem dX2_forth_68 : decode cX2_forth 68 = .ok (.iconst 0, 1) := by decide +kernel
theorem dX2_forth_69 : decode cX2_forth 69 = .ok (.ireturn, 1) := by decide +kernel
theorem dX2_forth_70 : decode cX2_forth 70 = .ok (.iconst 0, 1) := by decide +kernel
theorem dX2_forth_71 : decode cX2_forth 71 = .ok (.ireturn, 1) := by decide +kernel
theorem dX2_forth_72 : decode cX2_forth 72 = .ok (.iconst 1, 1) := by decide +kernel
theorem dX2_forth_73 : decode cX2_forth 73 = .ok (.aload_n 0, 1) := by decide +kernel
theorem dX2_forth_74 : decode cX2_forth 74 = .ok (.getfield 15, 3) := by decide +kernel
theorem dX2_forth_77 : decode cX2_forth 77 = .ok (.iload_n 1, 1) := by decide +kernel
theorem dX2_forth_78 : decode cX2_forth 78 = .ok (.iaload, 1) := by decide +kernel
theorem dX2_forth_79 : decode cX2_forth 79 = .ok (.ishl, 1) := by decide +kernel
theorem dX2_forth_80 : decode cX2_forth 80 = .ok (.ireturn, 1) := by decide +kernel
theorem dX2_back_0 : decode cX2_back 0 = .ok (.aload_n 0, 1) := by decide +kernel
theorem dX2_back_1 : decode cX2_back 1 = .ok (.getfield 9, 3) := by decide +kernel
theorem dX2_back_4 : decode cX2_back 4 = .ok (.iload_n 1, 1) := by decide +kernel
theorem dX2_back_5 : decode cX2_back 5 = .ok (.iaload, 1) := by decide +kernel
theorem dX2_back_6 : decode cX2_back 6 = .ok (.iconst 4, 1) := by decide +kernel
theorem dX2_back_7 : decode cX2_back 7 = .ok (.if_icmp .eq 13, 3) := by decide +kernel
theorem dX2_back_10 : decode cX2_back 10 = .ok (.aload_n 0, 1) := by decide +kernel
theorem dX2_back_11 : decode cX2_back 11 = .ok (.getfield 9, 3) := by decide +kernel
theorem dX2_back_14 : decode cX2_back 14 = .ok (.iload_n 1, 1) := by decide +kernel
theorem dX2_back_15 : decode cX2_back 15 = .ok (.iaload, 1) := by decide +kernel
theorem dX2_back_16 : decode cX2_back 16 = .ok (.iconst 5, 1) := by decide +kernel
theorem dX2_back_17 : decode cX2_back 17 = .ok (.if_icmp .ne 14, 3) := by decide +kernel
theorem dX2_back_20 : decode cX2_back 20 = .ok (.iconst 1, 1) := by decide +kernel
theorem dX2_back_21 : decode cX2_back 21 = .ok (.aload_n 0, 1) := by decide +kernel
theorem dX2_back_22 : decode cX2_back 22 = .ok (.getfield 18, 3) := by decide +kernel
theorem dX2_back_25 : decode cX2_back 25 = .ok (.iload_n 1, 1) := by decide +kernel
theorem dX2_back_26 : decode cX2_back 26 = .ok (.iaload, 1) := by decide +kernel
theorem dX2_back_27 : decode cX2_back 27 = .ok (.ishl, 1) := by decide +kernel
theorem dX2_back_28 : decode cX2_back 28 = .ok (.goto 4, 3) := by decide +kernel
theorem dX2_back_31 : decode cX2_back 31 = .ok (.iconst 0, 1) := by decide +kernel
theorem dX2_back_32 : decode cX2_back 32 = .ok (.ireturn, 1) := by decide +kernel
theorem dX2_ledFrom_0 : decode cX2_ledFrom 0 = .ok (.aload_n 0, 1) := by decide +kernel
theorem dX2_ledFrom_1 : decode cX2_ledFrom 1 = .ok (.iload_n 2, 1) := by decide +kernel
theorem dX2_ledFrom_2 : decode cX2_ledFrom 2 = .ok (.iload_n 3, 1) := by decide +kernel
theorem dX2_ledFrom_3 : decode cX2_ledFrom 3 = .ok (.invokevirtual 96, 3) := by decide +kernel
theorem dX2_ledFrom_6 : decode cX2_ledFrom 6 = .ok (.iload_n 1, 1) := by decide +kernel
theorem dX2_ledFrom_7 : decode cX2_ledFrom 7 = .ok (.invokestatic 82, 3) := by decide +kernel
theorem dX2_ledFrom_10 : decode cX2_ledFrom 10 = .ok (.ifCond .eq 10, 3) := by decide +kernel
theorem dX2_ledFrom_13 : decode cX2_ledFrom 13 = .ok (.aload_n 0, 1) := by decide +kernel
theorem dX2_ledFrom_14 : decode cX2_ledFrom 14 = .ok (.getfield 18, 3) := by decide +kernel
theorem dX2_ledFrom_17 : decode cX2_ledFrom 17 = .ok (.iload_n 2, 1) := by decide +kernel
theorem dX2_ledFrom_18 : decode cX2_ledFrom 18 = .ok (.iaload, 1) := by decide +kernel
theorem dX2_ledFrom_19 : decode cX2_ledFrom 19 = .ok (.ireturn, 1) := by decide +kernel
theorem dX2_ledFrom_20 : decode cX2_ledFrom 20 = .ok (.aload_n 0, 1) := by decide +kernel
theorem dX2_ledFrom_21 : decode cX2_ledFrom 21 = .ok (.iload_n 2, 1) := by decide +kernel
theorem dX2_ledFrom_22 : decode cX2_ledFrom 22 = .ok (.invokevirtual 100, 3) := by decide +kernel
theorem dX2_ledFrom_25 : decode cX2_ledFrom 25 = .ok (.iload_n 1, 1) := by decide +kernel
theorem dX2_ledFrom_26 : decode cX2_ledFrom 26 = .ok (.invokestatic 82, 3) := by decide +kernel
theorem dX2_ledFrom_29 : decode cX2_ledFrom 29 = .ok (.ifCond .eq 12, 3) := by decide +kernel
theorem dX2_ledFrom_32 : decode cX2_ledFrom 32 = .ok (.aload_n 0, 1) := by decide +kernel
theorem dX2_ledFrom_33 : decode cX2_ledFrom 33 = .ok (.getfield 15, 3) := by decide +kernel
theorem dX2_ledFrom_36 : decode cX2_ledFrom 36 = .ok (.iload_n 2, 1) := by decide +kernel
theorem dX2_ledFrom_37 : decode cX2_ledFrom 37 = .ok (.iaload, 1) := by decide +kernel
theorem dX2_ledFrom_38 : decode cX2_ledFrom 38 = .ok (.goto 4, 3) := by decide +kernel
theorem dX2_ledFrom_41 : decode cX2_ledFrom 41 = .ok (.iload_n 1, 1) := by decide +kernel
theorem dX2_ledFrom_42 : decode cX2_ledFrom 42 = .ok (.ireturn, 1) := by decide +kernel
theorem dX2_allHints_0 : decode cX2_allHints 0 = .ok (.iconst 1, 1) := by decide +kernel
theorem dX2_allHints_1 : decode cX2_allHints 1 = .ok (.aload_n 0, 1) := by decide +kernel
theorem dX2_allHints_2 : decode cX2_allHints 2 = .ok (.getfield 54, 3) := by decide +kernel
theorem dX2_allHints_5 : decode cX2_allHints 5 = .ok (.ishl, 1) := by decide +kernel
theorem dX2_allHints_6 : decode cX2_allHints 6 = .ok (.iconst 1, 1) := by decide +kernel
theorem dX2_allHints_7 : decode cX2_allHints 7 = .ok (.isub, 1) := by decide +kernel
theorem dX2_allHints_8 : decode cX2_allHints 8 = .ok (.ireturn, 1) := by decide +kernel
theorem dX2_hintsAhead_0 : decode cX2_hintsAhead 0 = .ok (.aload_n 0, 1) := by decide +kernel
theorem dX2_hintsAhead_1 : decode cX2_hintsAhead 1 = .ok (.getfield 36, 3) := by decide +kernel
theorem dX2_hintsAhead_4 : decode cX2_hintsAhead 4 = .ok (.iload_n 1, 1) := by decide +kernel
theorem dX2_hintsAhead_5 : decode cX2_hintsAhead 5 = .ok (.if_icmp .ne 17, 3) := by decide +kernel
theorem dX2_hintsAhead_8 : decode cX2_hintsAhead 8 = .ok (.aload_n 0, 1) := by decide +kernel
theorem dX2_hintsAhead_9 : decode cX2_hintsAhead 9 = .ok (.invokevirtual 104, 3) := by decide +kernel
theorem dX2_hintsAhead_12 : decode cX2_hintsAhead 12 = .ok (.aload_n 0, 1) := by decide +kernel
theorem dX2_hintsAhead_13 : decode cX2_hintsAhead 13 = .ok (.getfield 63, 3) := by decide +kernel
theorem dX2_hintsAhead_16 : decode cX2_hintsAhead 16 = .ok (.iconst (-1), 1) := by decide +kernel
theorem dX2_hintsAhead_17 : decode cX2_hintsAhead 17 = .ok (.ixor, 1) := by decide +kernel
theorem dX2_hintsAhead_18 : decode cX2_hintsAhead 18 = .ok (.iand, 1) := by decide +kernel
theorem dX2_hintsAhead_19 : decode cX2_hintsAhead 19 = .ok (.goto 7, 3) := by decide +kernel
theorem dX2_hintsAhead_22 : decode cX2_hintsAhead 22 = .ok (.aload_n 0, 1) := by decide +kernel
theorem dX2_hintsAhead_23 : decode cX2_hintsAhead 23 = .ok (.invokevirtual 104, 3) := by decide +kernel
theorem dX2_hintsAhead_26 : decode cX2_hintsAhead 26 = .ok (.ireturn, 1) := by decide +kernel
theorem dX2_leftAhead_0 : decode cX2_leftAhead 0 = .ok (.aload_n 0, 1) := by decide +kernel
theorem dX2_leftAhead_1 : decode cX2_leftAhead 1 = .ok (.getfield 36, 3) := by decide +kernel
theorem dX2_leftAhead_4 : decode cX2_leftAhead 4 = .ok (.iload_n 1, 1) := by decide +kernel
theorem dX2_leftAhead_5 : decode cX2_leftAhead 5 = .ok (.if_icmp .ne 18, 3) := by decide +kernel
theorem dX2_leftAhead_8 : decode cX2_leftAhead 8 = .ok (.aload_n 0, 1) := by decide +kernel
theorem dX2_leftAhead_9 : decode cX2_leftAhead 9 = .ok (.getfield 51, 3) := by decide +kernel
theorem dX2_leftAhead_12 : decode cX2_leftAhead 12 = .ok (.aload_n 0, 1) := by decide +kernel
theorem dX2_leftAhead_13 : decode cX2_leftAhead 13 = .ok (.getfield 63, 3) := by decide +kernel
theorem dX2_leftAhead_16 : decode cX2_leftAhead 16 = .ok (.invokestatic 108, 3) := by decide +kernel
theorem dX2_leftAhead_19 : decode cX2_leftAhead 19 = .ok (.isub, 1) := by decide +kernel
theorem dX2_leftAhead_20 : decode cX2_leftAhead 20 = .ok (.goto 7, 3) := by decide +kernel
theorem dX2_leftAhead_23 : decode cX2_leftAhead 23 = .ok (.aload_n 0, 1) := by decide +kernel
theorem dX2_leftAhead_24 : decode cX2_leftAhead 24 = .ok (.getfield 51, 3) := by decide +kernel
theorem dX2_leftAhead_27 : decode cX2_leftAhead 27 = .ok (.ireturn, 1) := by decide +kernel
theorem dX2_thoughtsToCome_0 : decode cX2_thoughtsToCome 0 = .ok (.iconst 0, 1) := by decide +kernel
theorem dX2_thoughtsToCome_1 : decode cX2_thoughtsToCome 1 = .ok (.istore_n 1, 1) := by decide +kernel
theorem dX2_thoughtsToCome_2 : decode cX2_thoughtsToCome 2 = .ok (.iconst 0, 1) := by decide +kernel
theorem dX2_thoughtsToCome_3 : decode cX2_thoughtsToCome 3 = .ok (.istore_n 2, 1) := by decide +kernel
theorem dX2_thoughtsToCome_4 : decode cX2_thoughtsToCome 4 = .ok (.iload_n 2, 1) := by decide +kernel
theorem dX2_thoughtsToCome_5 : decode cX2_thoughtsToCome 5 = .ok (.aload_n 0, 1) := by decide +kernel
theorem dX2_thoughtsToCome_6 : decode cX2_thoughtsToCome 6 = .ok (.getfield 57, 3) := by decide +kernel
theorem dX2_thoughtsToCome_9 : decode cX2_thoughtsToCome 9 = .ok (.if_icmp .ge 28, 3) := by decide +kernel
theorem dX2_thoughtsToCome_12 : decode cX2_thoughtsToCome 12 = .ok (.aload_n 0, 1) := by decide +kernel
theorem dX2_thoughtsToCome_13 : decode cX2_thoughtsToCome 13 = .ok (.iload_n 2, 1) := by decide +kernel
theorem dX2_thoughtsToCome_14 : decode cX2_thoughtsToCome 14 = .ok (.invokevirtual 113, 3) := by decide +kernel
theorem dX2_thoughtsToCome_17 : decode cX2_thoughtsToCome 17 = .ok (.ifCond .ne 14, 3) := by decide +kernel
theorem dX2_thoughtsToCome_20 : decode cX2_thoughtsToCome 20 = .ok (.iload_n 1, 1) := by decide +kernel
theorem dX2_thoughtsToCome_21 : decode cX2_thoughtsToCome 21 = .ok (.iconst 1, 1) := by decide +kernel
theorem dX2_thoughtsToCome_22 : decode cX2_thoughtsToCome 22 = .ok (.aload_n 0, 1) := by decide +kernel
theorem dX2_thoughtsToCome_23 : decode cX2_thoughtsToCome 23 = .ok (.getfield 24, 3) := by decide +kernel
theorem dX2_thoughtsToCome_26 : decode cX2_thoughtsToCome 26 = .ok (.iload_n 2, 1) := by decide +kernel
theorem dX2_thoughtsToCome_27 : decode cX2_thoughtsToCome 27 = .ok (.iaload, 1) := by decide +kernel
theorem dX2_thoughtsToCome_28 : decode cX2_thoughtsToCome 28 = .ok (.ishl, 1) := by decide +kernel
theorem dX2_thoughtsToCome_29 : decode cX2_thoughtsToCome 29 = .ok (.ior, 1) := by decide +kernel
theorem dX2_thoughtsToCome_30 : decode cX2_thoughtsToCome 30 = .ok (.istore_n 1, 1) := by decide +kernel
theorem dX2_thoughtsToCome_31 : decode cX2_thoughtsToCome 31 = .ok (.iinc 2 1, 3) := by decide +kernel
theorem dX2_thoughtsToCome_34 : decode cX2_thoughtsToCome 34 = .ok (.goto (-30), 3) := by decide +kernel
theorem dX2_thoughtsToCome_37 : decode cX2_thoughtsToCome 37 = .ok (.iload_n 1, 1) := by decide +kernel
theorem dX2_thoughtsToCome_38 : decode cX2_thoughtsToCome 38 = .ok (.ireturn, 1) := by decide +kernel
theorem dX2_toComeWith_0 : decode cX2_toComeWith 0 = .ok (.iconst 0, 1) := by decide +kernel
theorem dX2_toComeWith_1 : decode cX2_toComeWith 1 = .ok (.istore_n 2, 1) := by decide +kernel
theorem dX2_toComeWith_2 : decode cX2_toComeWith 2 = .ok (.iconst 0, 1) := by decide +kernel
theorem dX2_toComeWith_3 : decode cX2_toComeWith 3 = .ok (.istore_n 3, 1) := by decide +kernel
theorem dX2_toComeWith_4 : decode cX2_toComeWith 4 = .ok (.iload_n 3, 1) := by decide +kernel
theorem dX2_toComeWith_5 : decode cX2_toComeWith 5 = .ok (.aload_n 0, 1) := by decide +kernel
theorem dX2_toComeWith_6 : decode cX2_toComeWith 6 = .ok (.getfield 57, 3) := by decide +kernel
theorem dX2_toComeWith_9 : decode cX2_toComeWith 9 = .ok (.if_icmp .ge 33, 3) := by decide +kernel
theorem dX2_toComeWith_12 : decode cX2_toComeWith 12 = .ok (.aload_n 0, 1) := by decide +kernel
theorem dX2_toComeWith_13 : decode cX2_toComeWith 13 = .ok (.iload_n 3, 1) := by decide +kernel
theorem dX2_toComeWith_14 : decode cX2_toComeWith 14 = .ok (.invokevirtual 113, 3) := by decide +kernel
theorem dX2_toComeWith_17 : decode cX2_toComeWith 17 = .ok (.ifCond .ne 19, 3) := by decide +kernel
theorem dX2_toComeWith_20 : decode cX2_toComeWith 20 = .ok (.iload_n 1, 1) := by decide +kernel
theorem dX2_toComeWith_21 : decode cX2_toComeWith 21 = .ok (.aload_n 0, 1) := by decide +kernel
theorem dX2_toComeWith_22 : decode cX2_toComeWith 22 = .ok (.getfield 24, 3) := by decide +kernel
theorem dX2_toComeWith_25 : decode cX2_toComeWith 25 = .ok (.iload_n 3, 1) := by decide +kernel
theorem dX2_toComeWith_26 : decode cX2_toComeWith 26 = .ok (.iaload, 1) := by decide +kernel
theorem dX2_toComeWith_27 : decode cX2_toComeWith 27 = .ok (.invokestatic 82, 3) := by decide +kernel
theorem dX2_toComeWith_30 : decode cX2_toComeWith 30 = .ok (.ifCond .eq 6, 3) := by decide +kernel
theorem dX2_toComeWith_33 : decode cX2_toComeWith 33 = .ok (.iinc 2 1, 3) := by decide +kernel
theorem dX2_toComeWith_36 : decode cX2_toComeWith 36 = .ok (.iinc 3 1, 3) := by decide +kernel
theorem dX2_toComeWith_39 : decode cX2_toComeWith 39 = .ok (.goto (-35), 3) := by decide +kernel
theorem dX2_toComeWith_42 : decode cX2_toComeWith 42 = .ok (.iload_n 2, 1) := by decide +kernel
theorem dX2_toComeWith_43 : decode cX2_toComeWith 43 = .ok (.ireturn, 1) := by decide +kernel
theorem dX3_init_0 : decode cX3_init 0 = .ok (.aload_n 0, 1) := by decide +kernel
theorem dX3_init_1 : decode cX3_init 1 = .ok (.invokespecial 3, 3) := by decide +kernel
theorem dX3_init_4 : decode cX3_init 4 = .ok (.aload_n 0, 1) := by decide +kernel
theorem dX3_init_5 : decode cX3_init 5 = .ok (.bipush 6, 2) := by decide +kernel
theorem dX3_init_7 : decode cX3_init 7 = .ok (.newarray .int, 2) := by decide +kernel
theorem dX3_init_9 : decode cX3_init 9 = .ok (.putfield 9, 3) := by decide +kernel
theorem dX3_init_12 : decode cX3_init 12 = .ok (.return_, 1) := by decide +kernel
theorem dX3_measure_0 : decode cX3_measure 0 = .ok (.iload_n 3, 1) := by decide +kernel
theorem dX3_measure_1 : decode cX3_measure 1 = .ok (.ifCond .eq 12, 3) := by decide +kernel
theorem dX3_measure_4 : decode cX3_measure 4 = .ok (.iconst 1, 1) := by decide +kernel
theorem dX3_measure_5 : decode cX3_measure 5 = .ok (.aload_n 1, 1) := by decide +kernel
theorem dX3_measure_6 : decode cX3_measure 6 = .ok (.getfield 15, 3) := by decide +kernel
theorem dX3_measure_9 : decode cX3_measure 9 = .ok (.ishl, 1) := by decide +kernel
theorem dX3_measure_10 : decode cX3_measure 10 = .ok (.goto 4, 3) := by decide +kernel
theorem dX3_measure_13 : decode cX3_measure 13 = .ok (.iconst 0, 1) := by decide +kernel
theorem dX3_measure_14 : decode cX3_measure 14 = .ok (.istore 4, 2) := by decide +kernel
theorem dX3_measure_16 : decode cX3_measure 16 = .ok (.aload_n 0, 1) := by decide +kernel
theorem dX3_measure_17 : decode cX3_measure 17 = .ok (.iload_n 2, 1) := by decide +kernel
theorem dX3_measure_18 : decode cX3_measure 18 = .ok (.putfield 21, 3) := by decide +kernel
theorem dX3_measure_21 : decode cX3_measure 21 = .ok (.aload_n 0, 1) := by decide +kernel
theorem dX3_measure_22 : decode cX3_measure 22 = .ok (.getfield 9, 3) := by decide +kernel
theorem dX3_measure_25 : decode cX3_measure 25 = .ok (.iconst 0, 1) := by decide +kernel
theorem dX3_measure_26 : decode cX3_measure 26 = .ok (.iconst 1, 1) := by decide +kernel
theorem dX3_measure_27 : decode cX3_measure 27 = .ok (.aload_n 1, 1) := by decide +kernel
theorem dX3_measure_28 : decode cX3_measure 28 = .ok (.getfield 24, 3) := by decide +kernel
theorem dX3_measure_31 : decode cX3_measure 31 = .ok (.ishl, 1) := by decide +kernel
theorem dX3_measure_32 : decode cX3_measure 32 = .ok (.iastore, 1) := by decide +kernel
theorem dX3_measure_33 : decode cX3_measure 33 = .ok (.iconst 1, 1) := by decide +kernel
theorem dX3_measure_34 : decode cX3_measure 34 = .ok (.istore 5, 2) := by decide +kernel
theorem dX3_measure_36 : decode cX3_measure 36 = .ok (.iload 5, 2) := by decide +kernel
theorem dX3_measure_38 : decode cX3_measure 38 = .ok (.aload_n 1, 1) := by decide +kernel
theorem dX3_measure_39 : decode cX3_measure 39 = .ok (.getfield 27, 3) := by decide +kernel
theorem dX3_measure_42 : decode cX3_measure 42 = .ok (.if_icmp .gt 45, 3) := by decide +kernel
theorem dX3_measure_45 : decode cX3_measure 45 = .ok (.iload 5, 2) := by decide +kernel
theorem dX3_measure_47 : decode cX3_measure 47 = .ok (.aload_n 0, 1) := by decide +kernel
theorem dX3_measure_48 : decode cX3_measure 48 = .ok (.getfield 9, 3) := by decide +kernel
theorem dX3_measure_51 : decode cX3_measure 51 = .ok (.arraylength, 1) := by decide +kernel
theorem dX3_measure_52 : decode cX3_measure 52 = .ok (.if_icmp .ge 35, 3) := by decide +kernel
theorem dX3_measure_55 : decode cX3_measure 55 = .ok (.aload_n 0, 1) := by decide +kernel
theorem dX3_measure_56 : decode cX3_measure 56 = .ok (.getfield 9, 3) := by decide +kernel
theorem dX3_measure_59 : decode cX3_measure 59 = .ok (.iload 5, 2) := by decide +kernel
theorem dX3_measure_61 : decode cX3_measure 61 = .ok (.aload_n 0, 1) := by decide +kernel
theorem dX3_measure_62 : decode cX3_measure 62 = .ok (.aload_n 1, 1) := by decide +kernel
theorem dX3_measure_63 : decode cX3_measure 63 = .ok (.aload_n 0, 1) := by decide +kernel
theorem dX3_measure_64 : decode cX3_measure 64 = .ok (.getfield 9, 3) := by decide +kernel
theorem dX3_measure_67 : decode cX3_measure 67 = .ok (.iload 5, 2) := by decide +kernel
theorem dX3_measure_69 : decode cX3_measure 69 = .ok (.iconst 1, 1) := by decide +kernel
theorem dX3_measure_70 : decode cX3_measure 70 = .ok (.isub, 1) := by decide +kernel
theorem dX3_measure_71 : decode cX3_measure 71 = .ok (.iaload, 1) := by decide +kernel
theorem dX3_measure_72 : decode cX3_measure 72 = .ok (.invokevirtual 30, 3) := by decide +kernel
theorem dX3_measure_75 : decode cX3_measure 75 = .ok (.iload 4, 2) := by decide +kernel
theorem dX3_measure_77 : decode cX3_measure 77 = .ok (.iconst (-1), 1) := by decide +kernel
theorem dX3_measure_78 : decode cX3_measure 78 = .ok (.ixor, 1) := by decide +kernel
theorem dX3_measure_79 : decode cX3_measure 79 = .ok (.iand, 1) := by decide +kernel
theorem dX3_measure_80 : decode cX3_measure 80 = .ok (.iastore, 1) := by decide +kernel
theorem dX3_measure_81 : decode cX3_measure 81 = .ok (.iinc 5 1, 3) := by decide +kernel
theorem dX3_measure_84 : decode cX3_measure 84 = .ok (.goto (-48), 3) := by decide +kernel
theorem dX3_measure_87 : decode cX3_measure 87 = .ok (.return_, 1) := by decide +kernel
theorem dX3_leadingInto_0 : decode cX3_leadingInto 0 = .ok (.iload_n 2, 1) := by decide +kernel
theorem dX3_leadingInto_1 : decode cX3_leadingInto 1 = .ok (.istore_n 3, 1) := by decide +kernel
theorem dX3_leadingInto_2 : decode cX3_leadingInto 2 = .ok (.iconst 0, 1) := by decide +kernel
theorem dX3_leadingInto_3 : decode cX3_leadingInto 3 = .ok (.istore 4, 2) := by decide +kernel
theorem dX3_leadingInto_5 : decode cX3_leadingInto 5 = .ok (.iload 4, 2) := by decide +kernel
theorem dX3_leadingInto_7 : decode cX3_leadingInto 7 = .ok (.aload_n 1, 1) := by decide +kernel
theorem dX3_leadingInto_8 : decode cX3_leadingInto 8 = .ok (.getfield 34, 3) := by decide +kernel
theorem dX3_leadingInto_11 : decode cX3_leadingInto 11 = .ok (.if_icmp .ge 82, 3) := by decide +kernel
theorem dX3_leadingInto_14 : decode cX3_leadingInto 14 = .ok (.aload_n 0, 1) := by decide +kernel
theorem dX3_leadingInto_15 : decode cX3_leadingInto 15 = .ok (.getfield 21, 3) := by decide +kernel
theorem dX3_leadingInto_18 : decode cX3_leadingInto 18 = .ok (.iload 4, 2) := by decide +kernel
theorem dX3_leadingInto_20 : decode cX3_leadingInto 20 = .ok (.invokestatic 37, 3) := by decide +kernel
theorem dX3_leadingInto_23 : decode cX3_leadingInto 23 = .ok (.ifCond .eq 64, 3) := by decide +kernel
theorem dX3_leadingInto_26 : decode cX3_leadingInto 26 = .ok (.iload_n 3, 1) := by decide +kernel
theorem dX3_leadingInto_27 : decode cX3_leadingInto 27 = .ok (.iload_n 2, 1) := by decide +kernel
theorem dX3_leadingInto_28 : decode cX3_leadingInto 28 = .ok (.aload_n 1, 1) := by decide +kernel
theorem dX3_leadingInto_29 : decode cX3_leadingInto 29 = .ok (.getfield 41, 3) := by decide +kernel
theorem dX3_leadingInto_32 : decode cX3_leadingInto 32 = .ok (.iload 4, 2) := by decide +kernel
theorem dX3_leadingInto_34 : decode cX3_leadingInto 34 = .ok (.iaload, 1) := by decide +kernel
theorem dX3_leadingInto_35 : decode cX3_leadingInto 35 = .ok (.invokestatic 37, 3) := by decide +kernel
theorem dX3_leadingInto_38 : decode cX3_leadingInto 38 = .ok (.ifCond .eq 19, 3) := by decide +kernel
theorem dX3_leadingInto_41 : decode cX3_leadingInto 41 = .ok (.aload_n 1, 1) := by decide +kernel
theorem dX3_leadingInto_42 : decode cX3_leadingInto 42 = .ok (.iload 4, 2) := by decide +kernel
theorem dX3_leadingInto_44 : decode cX3_leadingInto 44 = .ok (.aload_n 1, 1) := by decide +kernel
theorem dX3_leadingInto_45 : decode cX3_leadingInto 45 = .ok (.getfield 44, 3) := by decide +kernel
theorem dX3_leadingInto_48 : decode cX3_leadingInto 48 = .ok (.iload 4, 2) := by decide +kernel
theorem dX3_leadingInto_50 : decode cX3_leadingInto 50 = .ok (.iaload, 1) := by decide +kernel
theorem dX3_leadingInto_51 : decode cX3_leadingInto 51 = .ok (.invokevirtual 47, 3) := by decide +kernel
theorem dX3_leadingInto_54 : decode cX3_leadingInto 54 = .ok (.goto 4, 3) := by decide +kernel
theorem dX3_leadingInto_57 : decode cX3_leadingInto 57 = .ok (.iconst 0, 1) := by decide +kernel
theorem dX3_leadingInto_58 : decode cX3_leadingInto 58 = .ok (.ior, 1) := by decide +kernel
theorem dX3_leadingInto_59 : decode cX3_leadingInto 59 = .ok (.istore_n 3, 1) := by decide +kernel
theorem dX3_leadingInto_60 : decode cX3_leadingInto 60 = .ok (.iload_n 3, 1) := by decide +kernel
theorem dX3_leadingInto_61 : decode cX3_leadingInto 61 = .ok (.iload_n 2, 1) := by decide +kernel
theorem dX3_leadingInto_62 : decode cX3_leadingInto 62 = .ok (.aload_n 1, 1) := by decide +kernel
theorem dX3_leadingInto_63 : decode cX3_leadingInto 63 = .ok (.getfield 51, 3) := by decide +kernel
theorem dX3_leadingInto_66 : decode cX3_leadingInto 66 = .ok (.iload 4, 2) := by decide +kernel
theorem dX3_leadingInto_68 : decode cX3_leadingInto 68 = .ok (.iaload, 1) := by decide +kernel
theorem dX3_leadingInto_69 : decode cX3_leadingInto 69 = .ok (.invokestatic 37, 3) := by decide +kernel
theorem dX3_leadingInto_72 : decode cX3_leadingInto 72 = .ok (.ifCond .eq 12, 3) := by decide +kernel
theorem dX3_leadingInto_75 : decode cX3_leadingInto 75 = .ok (.aload_n 1, 1) := by decide +kernel
theorem dX3_leadingInto_76 : decode cX3_leadingInto 76 = .ok (.iload 4, 2) := by decide +kernel
theorem dX3_leadingInto_78 : decode cX3_leadingInto 78 = .ok (.invokevirtual 54, 3) := by decide +kernel
theorem dX3_leadingInto_81 : decode cX3_leadingInto 81 = .ok (.goto 4, 3) := by decide +kernel
theorem dX3_leadingInto_84 : decode cX3_leadingInto 84 = .ok (.iconst 0, 1) := by decide +kernel
theorem dX3_leadingInto_85 : decode cX3_leadingInto 85 = .ok (.ior, 1) := by decide +kernel
theorem dX3_leadingInto_86 : decode cX3_leadingInto 86 = .ok (.istore_n 3, 1) := by decide +kernel
theorem dX3_leadingInto_87 : decode cX3_leadingInto 87 = .ok (.iinc 4 1, 3) := by decide +kernel
theorem dX3_leadingInto_90 : decode cX3_leadingInto 90 = .ok (.goto (-85), 3) := by decide +kernel
theorem dX3_leadingInto_93 : decode cX3_leadingInto 93 = .ok (.iload_n 3, 1) := by decide +kernel
theorem dX3_leadingInto_94 : decode cX3_leadingInto 94 = .ok (.ireturn, 1) := by decide +kernel
theorem dX3_fewestFrom_0 : decode cX3_fewestFrom 0 = .ok (.iconst 0, 1) := by decide +kernel
theorem dX3_fewestFrom_1 : decode cX3_fewestFrom 1 = .ok (.istore_n 3, 1) := by decide +kernel
theorem dX3_fewestFrom_2 : decode cX3_fewestFrom 2 = .ok (.iload_n 3, 1) := by decide +kernel
theorem dX3_fewestFrom_3 : decode cX3_fewestFrom 3 = .ok (.iload_n 2, 1) := by decide +kernel
theorem dX3_fewestFrom_4 : decode cX3_fewestFrom 4 = .ok (.if_icmp .gt 33, 3) := by decide +kernel
theorem dX3_fewestFrom_7 : decode cX3_fewestFrom 7 = .ok (.iload_n 3, 1) := by decide +kernel
theorem dX3_fewestFrom_8 : decode cX3_fewestFrom 8 = .ok (.aload_n 0, 1) := by decide +kernel
theorem dX3_fewestFrom_9 : decode cX3_fewestFrom 9 = .ok (.getfield 9, 3) := by decide +kernel
theorem dX3_fewestFrom_12 : decode cX3_fewestFrom 12 = .ok (.arraylength, 1) := by decide +kernel
theorem dX3_fewestFrom_13 : decode cX3_fewestFrom 13 = .ok (.if_icmp .ge 24, 3) := by decide +kernel
theorem dX3_fewestFrom_16 : decode cX3_fewestFrom 16 = .ok (.aload_n 0, 1) := by decide +kernel
theorem dX3_fewestFrom_17 : decode cX3_fewestFrom 17 = .ok (.getfield 9, 3) := by decide +kernel
theorem dX3_fewestFrom_20 : decode cX3_fewestFrom 20 = .ok (.iload_n 3, 1) := by decide +kernel
theorem dX3_fewestFrom_21 : decode cX3_fewestFrom 21 = .ok (.iaload, 1) := by decide +kernel
theorem dX3_fewestFrom_22 : decode cX3_fewestFrom 22 = .ok (.iload_n 1, 1) := by decide +kernel
theorem dX3_fewestFrom_23 : decode cX3_fewestFrom 23 = .ok (.invokestatic 37, 3) := by decide +kernel
theorem dX3_fewestFrom_26 : decode cX3_fewestFrom 26 = .ok (.ifCond .eq 5, 3) := by decide +kernel
theorem dX3_fewestFrom_29 : decode cX3_fewestFrom 29 = .ok (.iload_n 3, 1) := by decide +kernel
theorem dX3_fewestFrom_30 : decode cX3_fewestFrom 30 = .ok (.ireturn, 1) := by decide +kernel
theorem dX3_fewestFrom_31 : decode cX3_fewestFrom 31 = .ok (.iinc 3 1, 3) := by decide +kernel
theorem dX3_fewestFrom_34 : decode cX3_fewestFrom 34 = .ok (.goto (-32), 3) := by decide +kernel
theorem dX3_fewestFrom_37 : decode cX3_fewestFrom 37 = .ok (.ldc 58, 2) := by decide +kernel
theorem dX3_fewestFrom_39 : decode cX3_fewestFrom 39 = .ok (.ireturn, 1) := by decide +kernel
theorem dX3_hintOfRoute_0 : decode cX3_hintOfRoute 0 = .ok (.aload_n 1, 1) := by decide +kernel
theorem dX3_hintOfRoute_1 : decode cX3_hintOfRoute 1 = .ok (.getfield 59, 3) := by decide +kernel
theorem dX3_hintOfRoute_4 : decode cX3_hintOfRoute 4 = .ok (.iload_n 2, 1) := by decide +kernel
theorem dX3_hintOfRoute_5 : decode cX3_hintOfRoute 5 = .ok (.iaload, 1) := by decide +kernel
theorem dX3_hintOfRoute_6 : decode cX3_hintOfRoute 6 = .ok (.istore 5, 2) := by decide +kernel
theorem dX3_hintOfRoute_8 : decode cX3_hintOfRoute 8 = .ok (.ldc 58, 2) := by decide +kernel
theorem dX3_hintOfRoute_10 : decode cX3_hintOfRoute 10 = .ok (.istore 6, 2) := by decide +kernel
theorem dX3_hintOfRoute_12 : decode cX3_hintOfRoute 12 = .ok (.iconst 0, 1) := by decide +kernel
theorem dX3_hintOfRoute_13 : decode cX3_hintOfRoute 13 = .ok (.istore 7, 2) := by decide +kernel
theorem dX3_hintOfRoute_15 : decode cX3_hintOfRoute 15 = .ok (.iload 7, 2) := by decide +kernel
theorem dX3_hintOfRoute_17 : decode cX3_hintOfRoute 17 = .ok (.iload 4, 2) := by decide +kernel
theorem dX3_hintOfRoute_19 : decode cX3_hintOfRoute 19 = .ok (.if_icmp .gt 57, 3) := by decide +kernel
theorem dX3_hintOfRoute_22 : decode cX3_hintOfRoute 22 = .ok (.iload 7, 2) := by decide +kernel
theorem dX3_hintOfRoute_24 : decode cX3_hintOfRoute 24 = .ok (.iload_n 3, 1) := by decide +kernel
theorem dX3_hintOfRoute_25 : decode cX3_hintOfRoute 25 = .ok (.if_icmp .ge 51, 3) := by decide +kernel
theorem dX3_hintOfRoute_28 : decode cX3_hintOfRoute 28 = .ok (.aload_n 0, 1) := by decide +kernel
theorem dX3_hintOfRoute_29 : decode cX3_hintOfRoute 29 = .ok (.aload_n 1, 1) := by decide +kernel
theorem dX3_hintOfRoute_30 : decode cX3_hintOfRoute 30 = .ok (.iload 5, 2) := by decide +kernel
theorem dX3_hintOfRoute_32 : decode cX3_hintOfRoute 32 = .ok (.iload_n 3, 1) := by decide +kernel
theorem dX3_hintOfRoute_33 : decode cX3_hintOfRoute 33 = .ok (.iload 7, 2) := by decide +kernel
theorem dX3_hintOfRoute_35 : decode cX3_hintOfRoute 35 = .ok (.isub, 1) := by decide +kernel
theorem dX3_hintOfRoute_36 : decode cX3_hintOfRoute 36 = .ok (.iconst 1, 1) := by decide +kernel
theorem dX3_hintOfRoute_37 : decode cX3_hintOfRoute 37 = .ok (.isub, 1) := by decide +kernel
theorem dX3_hintOfRoute_38 : decode cX3_hintOfRoute 38 = .ok (.invokevirtual 62, 3) := by decide +kernel
theorem dX3_hintOfRoute_41 : decode cX3_hintOfRoute 41 = .ok (.istore 6, 2) := by decide +kernel
theorem dX3_hintOfRoute_43 : decode cX3_hintOfRoute 43 = .ok (.iload 6, 2) := by decide +kernel
theorem dX3_hintOfRoute_45 : decode cX3_hintOfRoute 45 = .ok (.ldc 58, 2) := by decide +kernel
theorem dX3_hintOfRoute_47 : decode cX3_hintOfRoute 47 = .ok (.if_icmp .ne 6, 3) := by decide +kernel
theorem dX3_hintOfRoute_50 : decode cX3_hintOfRoute 50 = .ok (.ldc 58, 2) := by decide +kernel
theorem dX3_hintOfRoute_52 : decode cX3_hintOfRoute 52 = .ok (.ireturn, 1) := by decide +kernel
theorem dX3_hintOfRoute_53 : decode cX3_hintOfRoute 53 = .ok (.aload_n 1, 1) := by decide +kernel
theorem dX3_hintOfRoute_54 : decode cX3_hintOfRoute 54 = .ok (.iload 5, 2) := by decide +kernel
theorem dX3_hintOfRoute_56 : decode cX3_hintOfRoute 56 = .ok (.iload 6, 2) := by decide +kernel
theorem dX3_hintOfRoute_58 : decode cX3_hintOfRoute 58 = .ok (.aload_n 1, 1) := by decide +kernel
theorem dX3_hintOfRoute_59 : decode cX3_hintOfRoute 59 = .ok (.getfield 44, 3) := by decide +kernel
theorem dX3_hintOfRoute_62 : decode cX3_hintOfRoute 62 = .ok (.iload 6, 2) := by decide +kernel
theorem dX3_hintOfRoute_64 : decode cX3_hintOfRoute 64 = .ok (.iaload, 1) := by decide +kernel
theorem dX3_hintOfRoute_65 : decode cX3_hintOfRoute 65 = .ok (.invokevirtual 66, 3) := by decide +kernel
theorem dX3_hintOfRoute_68 : decode cX3_hintOfRoute 68 = .ok (.istore 5, 2) := by decide +kernel
theorem dX3_hintOfRoute_70 : decode cX3_hintOfRoute 70 = .ok (.iinc 7 1, 3) := by decide +kernel
theorem dX3_hintOfRoute_73 : decode cX3_hintOfRoute 73 = .ok (.goto (-58), 3) := by decide +kernel
theorem dX3_hintOfRoute_76 : decode cX3_hintOfRoute 76 = .ok (.iload 6, 2) := by decide +kernel
theorem dX3_hintOfRoute_78 : decode cX3_hintOfRoute 78 = .ok (.ireturn, 1) := by decide +kernel
theorem dX3_firstNearer_0 : decode cX3_firstNearer 0 = .ok (.iconst 0, 1) := by decide +kernel
theorem dX3_firstNearer_1 : decode cX3_firstNearer 1 = .ok (.istore 4, 2) := by decide +kernel
theorem dX3_firstNearer_3 : decode cX3_firstNearer 3 = .ok (.iload 4, 2) := by decide +kernel
theorem dX3_firstNearer_5 : decode cX3_firstNearer 5 = .ok (.aload_n 1, 1) := by decide +kernel
theorem dX3_firstNearer_6 : decode cX3_firstNearer 6 = .ok (.getfield 34, 3) := by decide +kernel
theorem dX3_firstNearer_9 : decode cX3_firstNearer 9 = .ok (.if_icmp .ge 50, 3) := by decide +kernel
theorem dX3_firstNearer_12 : decode cX3_firstNearer 12 = .ok (.aload_n 0, 1) := by decide +kernel
theorem dX3_firstNearer_13 : decode cX3_firstNearer 13 = .ok (.getfield 21, 3) := by decide +kernel
theorem dX3_firstNearer_16 : decode cX3_firstNearer 16 = .ok (.iload 4, 2) := by decide +kernel
theorem dX3_firstNearer_18 : decode cX3_firstNearer 18 = .ok (.invokestatic 37, 3) := by decide +kernel
theorem dX3_firstNearer_21 : decode cX3_firstNearer 21 = .ok (.ifCond .eq 32, 3) := by decide +kernel
theorem dX3_firstNearer_24 : decode cX3_firstNearer 24 = .ok (.aload_n 0, 1) := by decide +kernel
theorem dX3_firstNearer_25 : decode cX3_firstNearer 25 = .ok (.getfield 9, 3) := by decide +kernel
theorem dX3_firstNearer_28 : decode cX3_firstNearer 28 = .ok (.iload_n 3, 1) := by decide +kernel
theorem dX3_firstNearer_29 : decode cX3_firstNearer 29 = .ok (.iaload, 1) := by decide +kernel
theorem dX3_firstNearer_30 : decode cX3_firstNearer 30 = .ok (.aload_n 1, 1) := by decide +kernel
theorem dX3_firstNearer_31 : decode cX3_firstNearer 31 = .ok (.iload_n 2, 1) := by decide +kernel
theorem dX3_firstNearer_32 : decode cX3_firstNearer 32 = .ok (.iload 4, 2) := by decide +kernel
theorem dX3_firstNearer_34 : decode cX3_firstNearer 34 = .ok (.aload_n 1, 1) := by decide +kernel
theorem dX3_firstNearer_35 : decode cX3_firstNearer 35 = .ok (.getfield 44, 3) := by decide +kernel
theorem dX3_firstNearer_38 : decode cX3_firstNearer 38 = .ok (.iload 4, 2) := by decide +kernel
theorem dX3_firstNearer_40 : decode cX3_firstNearer 40 = .ok (.iaload, 1) := by decide +kernel
theorem dX3_firstNearer_41 : decode cX3_firstNearer 41 = .ok (.invokevirtual 66, 3) := by decide +kernel
theorem dX3_firstNearer_44 : decode cX3_firstNearer 44 = .ok (.invokestatic 37, 3) := by decide +kernel
theorem dX3_firstNearer_47 : decode cX3_firstNearer 47 = .ok (.ifCond .eq 6, 3) := by decide +kernel
theorem dX3_firstNearer_50 : decode cX3_firstNearer 50 = .ok (.iload 4, 2) := by decide +kernel
theorem dX3_firstNearer_52 : decode cX3_firstNearer 52 = .ok (.ireturn, 1) := by decide +kernel
theorem dX3_firstNearer_53 : decode cX3_firstNearer 53 = .ok (.iinc 4 1, 3) := by decide +kernel
theorem dX3_firstNearer_56 : decode cX3_firstNearer 56 = .ok (.goto (-53), 3) := by decide +kernel
theorem dX3_firstNearer_59 : decode cX3_firstNearer 59 = .ok (.ldc 58, 2) := by decide +kernel
theorem dX3_firstNearer_61 : decode cX3_firstNearer 61 = .ok (.ireturn, 1) := by decide +kernel
theorem dX3_thoughtsWithin_0 : decode cX3_thoughtsWithin 0 = .ok (.iconst 1, 1) := by decide +kernel
theorem dX3_thoughtsWithin_1 : decode cX3_thoughtsWithin 1 = .ok (.iload_n 1, 1) := by decide +kernel
theorem dX3_thoughtsWithin_2 : decode cX3_thoughtsWithin 2 = .ok (.ishl, 1) := by decide +kernel
theorem dX3_thoughtsWithin_3 : decode cX3_thoughtsWithin 3 = .ok (.istore 4, 2) := by decide +kernel
theorem dX3_thoughtsWithin_5 : decode cX3_thoughtsWithin 5 = .ok (.iconst 0, 1) := by decide +kernel
theorem dX3_thoughtsWithin_6 : decode cX3_thoughtsWithin 6 = .ok (.istore 5, 2) := by decide +kernel
theorem dX3_thoughtsWithin_8 : decode cX3_thoughtsWithin 8 = .ok (.iload 5, 2) := by decide +kernel
theorem dX3_thoughtsWithin_10 : decode cX3_thoughtsWithin 10 = .ok (.iload_n 3, 1) := by decide +kernel
theorem dX3_thoughtsWithin_11 : decode cX3_thoughtsWithin 11 = .ok (.if_icmp .ge 111, 3) := by decide +kernel
theorem dX3_thoughtsWithin_14 : decode cX3_thoughtsWithin 14 = .ok (.iload 4, 2) := by decide +kernel
theorem dX3_thoughtsWithin_16 : decode cX3_thoughtsWithin 16 = .ok (.istore 6, 2) := by decide +kernel
theorem dX3_thoughtsWithin_18 : decode cX3_thoughtsWithin 18 = .ok (.iconst 0, 1) := by decide +kernel
theorem dX3_thoughtsWithin_19 : decode cX3_thoughtsWithin 19 = .ok (.istore 7, 2) := by decide +kernel
theorem dX3_thoughtsWithin_21 : decode cX3_thoughtsWithin 21 = .ok (.iload 7, 2) := by decide +kernel
theorem dX3_thoughtsWithin_23 : decode cX3_thoughtsWithin 23 = .ok (.aload_n 0, 1) := by decide +kernel
theorem dX3_thoughtsWithin_24 : decode cX3_thoughtsWithin 24 = .ok (.getfield 34, 3) := by decide +kernel
theorem dX3_thoughtsWithin_27 : decode cX3_thoughtsWithin 27 = .ok (.if_icmp .ge 85, 3) := by decide +kernel
theorem dX3_thoughtsWithin_30 : decode cX3_thoughtsWithin 30 = .ok (.iload_n 2, 1) := by decide +kernel
theorem dX3_thoughtsWithin_31 : decode cX3_thoughtsWithin 31 = .ok (.iload 7, 2) := by decide +kernel
theorem dX3_thoughtsWithin_33 : decode cX3_thoughtsWithin 33 = .ok (.invokestatic 37, 3) := by decide +kernel
theorem dX3_thoughtsWithin_36 : decode cX3_thoughtsWithin 36 = .ok (.ifCond .eq 70, 3) := by decide +kernel
theorem dX3_thoughtsWithin_39 : decode cX3_thoughtsWithin 39 = .ok (.iload 6, 2) := by decide +kernel
theorem dX3_thoughtsWithin_41 : decode cX3_thoughtsWithin 41 = .ok (.iload 4, 2) := by decide +kernel
theorem dX3_thoughtsWithin_43 : decode cX3_thoughtsWithin 43 = .ok (.aload_n 0, 1) := by decide +kernel
theorem dX3_thoughtsWithin_44 : decode cX3_thoughtsWithin 44 = .ok (.iload 7, 2) := by decide +kernel
theorem dX3_thoughtsWithin_46 : decode cX3_thoughtsWithin 46 = .ok (.aload_n 0, 1) := by decide +kernel
theorem dX3_thoughtsWithin_47 : decode cX3_thoughtsWithin 47 = .ok (.getfield 44, 3) := by decide +kernel
theorem dX3_thoughtsWithin_50 : decode cX3_thoughtsWithin 50 = .ok (.iload 7, 2) := by decide +kernel
theorem dX3_thoughtsWithin_52 : decode cX3_thoughtsWithin 52 = .ok (.iaload, 1) := by decide +kernel
theorem dX3_thoughtsWithin_53 : decode cX3_thoughtsWithin 53 = .ok (.invokevirtual 47, 3) := by decide +kernel
theorem dX3_thoughtsWithin_56 : decode cX3_thoughtsWithin 56 = .ok (.iand, 1) := by decide +kernel
theorem dX3_thoughtsWithin_57 : decode cX3_thoughtsWithin 57 = .ok (.ifCond .eq 15, 3) := by decide +kernel
theorem dX3_thoughtsWithin_60 : decode cX3_thoughtsWithin 60 = .ok (.iconst 1, 1) := by decide +kernel
theorem dX3_thoughtsWithin_61 : decode cX3_thoughtsWithin 61 = .ok (.aload_n 0, 1) := by decide +kernel
theorem dX3_thoughtsWithin_62 : decode cX3_thoughtsWithin 62 = .ok (.getfield 41, 3) := by decide +kernel
theorem dX3_thoughtsWithin_65 : decode cX3_thoughtsWithin 65 = .ok (.iload 7, 2) := by decide +kernel
theorem dX3_thoughtsWithin_67 : decode cX3_thoughtsWithin 67 = .ok (.iaload, 1) := by decide +kernel
theorem dX3_thoughtsWithin_68 : decode cX3_thoughtsWithin 68 = .ok (.ishl, 1) := by decide +kernel
theorem dX3_thoughtsWithin_69 : decode cX3_thoughtsWithin 69 = .ok (.goto 4, 3) := by decide +kernel
theorem dX3_thoughtsWithin_72 : decode cX3_thoughtsWithin 72 = .ok (.iconst 0, 1) := by decide +kernel
theorem dX3_thoughtsWithin_73 : decode cX3_thoughtsWithin 73 = .ok (.ior, 1) := by decide +kernel
theorem dX3_thoughtsWithin_74 : decode cX3_thoughtsWithin 74 = .ok (.istore 6, 2) := by decide +kernel
theorem dX3_thoughtsWithin_76 : decode cX3_thoughtsWithin 76 = .ok (.iload 6, 2) := by decide +kernel
theorem dX3_thoughtsWithin_78 : decode cX3_thoughtsWithin 78 = .ok (.iload 4, 2) := by decide +kernel
theorem dX3_thoughtsWithin_80 : decode cX3_thoughtsWithin 80 = .ok (.aload_n 0, 1) := by decide +kernel
theorem dX3_thoughtsWithin_81 : decode cX3_thoughtsWithin 81 = .ok (.iload 7, 2) := by decide +kernel
theorem dX3_thoughtsWithin_83 : decode cX3_thoughtsWithin 83 = .ok (.invokevirtual 54, 3) := by decide +kernel
theorem dX3_thoughtsWithin_86 : decode cX3_thoughtsWithin 86 = .ok (.iand, 1) := by decide +kernel
theorem dX3_thoughtsWithin_87 : decode cX3_thoughtsWithin 87 = .ok (.ifCond .eq 15, 3) := by decide +kernel
theorem dX3_thoughtsWithin_90 : decode cX3_thoughtsWithin 90 = .ok (.iconst 1, 1) := by decide +kernel
theorem dX3_thoughtsWithin_91 : decode cX3_thoughtsWithin 91 = .ok (.aload_n 0, 1) := by decide +kernel
theorem dX3_thoughtsWithin_92 : decode cX3_thoughtsWithin 92 = .ok (.getfield 51, 3) := by decide +kernel
theorem dX3_thoughtsWithin_95 : decode cX3_thoughtsWithin 95 = .ok (.iload 7, 2) := by decide +kernel
theorem dX3_thoughtsWithin_97 : decode cX3_thoughtsWithin 97 = .ok (.iaload, 1) := by decide +kernel
theorem dX3_thoughtsWithin_98 : decode cX3_thoughtsWithin 98 = .ok (.ishl, 1) := by decide +kernel
theorem dX3_thoughtsWithin_99 : decode cX3_thoughtsWithin 99 = .ok (.goto 4, 3) := by decide +kernel
theorem dX3_thoughtsWithin_102 : decode cX3_thoughtsWithin 102 = .ok (.iconst 0, 1) := by decide +kernel
theorem dX3_thoughtsWithin_103 : decode cX3_thoughtsWithin 103 = .ok (.ior, 1) := by decide +kernel
theorem dX3_thoughtsWithin_104 : decode cX3_thoughtsWithin 104 = .ok (.istore 6, 2) := by decide +kernel
theorem dX3_thoughtsWithin_106 : decode cX3_thoughtsWithin 106 = .ok (.iinc 7 1, 3) := by decide +kernel
theorem dX3_thoughtsWithin_109 : decode cX3_thoughtsWithin 109 = .ok (.goto (-88), 3) := by decide +kernel
theorem dX3_thoughtsWithin_112 : decode cX3_thoughtsWithin 112 = .ok (.iload 6, 2) := by decide +kernel
theorem dX3_thoughtsWithin_114 : decode cX3_thoughtsWithin 114 = .ok (.istore 4, 2) := by decide +kernel
theorem dX3_thoughtsWithin_116 : decode cX3_thoughtsWithin 116 = .ok (.iinc 5 1, 3) := by decide +kernel
theorem dX3_thoughtsWithin_119 : decode cX3_thoughtsWithin 119 = .ok (.goto (-111), 3) := by decide +kernel
theorem dX3_thoughtsWithin_122 : decode cX3_thoughtsWithin 122 = .ok (.iload 4, 2) := by decide +kernel
theorem dX3_thoughtsWithin_124 : decode cX3_thoughtsWithin 124 = .ok (.ireturn, 1) := by decide +kernel
theorem dX3_rowsToQuestion_0 : decode cX3_rowsToQuestion 0 = .ok (.iload_n 3, 1) := by decide +kernel
theorem dX3_rowsToQuestion_1 : decode cX3_rowsToQuestion 1 = .ok (.ifCond .gt 17, 3) := by decide +kernel
theorem dX3_rowsToQuestion_4 : decode cX3_rowsToQuestion 4 = .ok (.iload_n 1, 1) := by decide +kernel
theorem dX3_rowsToQuestion_5 : decode cX3_rowsToQuestion 5 = .ok (.aload_n 0, 1) := by decide +kernel
theorem dX3_rowsToQuestion_6 : decode cX3_rowsToQuestion 6 = .ok (.getfield 24, 3) := by decide +kernel
theorem dX3_rowsToQuestion_9 : decode cX3_rowsToQuestion 9 = .ok (.if_icmp .ne 7, 3) := by decide +kernel
theorem dX3_rowsToQuestion_12 : decode cX3_rowsToQuestion 12 = .ok (.iconst 1, 1) := by decide +kernel
theorem dX3_rowsToQuestion_13 : decode cX3_rowsToQuestion 13 = .ok (.goto 4, 3) := by decide +kernel
theorem dX3_rowsToQuestion_16 : decode cX3_rowsToQuestion 16 = .ok (.iconst 0, 1) := by decide +kernel
theorem dX3_rowsToQuestion_17 : decode cX3_rowsToQuestion 17 = .ok (.ireturn, 1) := by decide +kernel
theorem dX3_rowsToQuestion_18 : decode cX3_rowsToQuestion 18 = .ok (.iconst 0, 1) := by decide +kernel
theorem dX3_rowsToQuestion_19 : decode cX3_rowsToQuestion 19 = .ok (.istore 4, 2) := by decide +kernel
theorem dX3_rowsToQuestion_21 : decode cX3_rowsToQuestion 21 = .ok (.iconst 0, 1) := by decide +kernel
theorem dX3_rowsToQuestion_22 : decode cX3_rowsToQuestion 22 = .ok (.istore 5, 2) := by decide +kernel
theorem dX3_rowsToQuestion_24 : decode cX3_rowsToQuestion 24 = .ok (.iload 5, 2) := by decide +kernel
theorem dX3_rowsToQuestion_26 : decode cX3_rowsToQuestion 26 = .ok (.aload_n 0, 1) := by decide +kernel
theorem dX3_rowsToQuestion_27 : decode cX3_rowsToQuestion 27 = .ok (.getfield 34, 3) := by decide +kernel
theorem dX3_rowsToQuestion_30 : decode cX3_rowsToQuestion 30 = .ok (.if_icmp .ge 56, 3) := by decide +kernel
theorem dX3_rowsToQuestion_33 : decode cX3_rowsToQuestion 33 = .ok (.iload_n 2, 1) := by decide +kernel
theorem dX3_rowsToQuestion_34 : decode cX3_rowsToQuestion 34 = .ok (.iload 5, 2) := by decide +kernel
theorem dX3_rowsToQuestion_36 : decode cX3_rowsToQuestion 36 = .ok (.invokestatic 37, 3) := by decide +kernel
theorem dX3_rowsToQuestion_39 : decode cX3_rowsToQuestion 39 = .ok (.ifCond .eq 41, 3) := by decide +kernel
theorem dX3_rowsToQuestion_42 : decode cX3_rowsToQuestion 42 = .ok (.aload_n 0, 1) := by decide +kernel
theorem dX3_rowsToQuestion_43 : decode cX3_rowsToQuestion 43 = .ok (.iload_n 1, 1) := by decide +kernel
theorem dX3_rowsToQuestion_44 : decode cX3_rowsToQuestion 44 = .ok (.iload 5, 2) := by decide +kernel
theorem dX3_rowsToQuestion_46 : decode cX3_rowsToQuestion 46 = .ok (.aload_n 0, 1) := by decide +kernel
theorem dX3_rowsToQuestion_47 : decode cX3_rowsToQuestion 47 = .ok (.getfield 44, 3) := by decide +kernel
theorem dX3_rowsToQuestion_50 : decode cX3_rowsToQuestion 50 = .ok (.iload 5, 2) := by decide +kernel
theorem dX3_rowsToQuestion_52 : decode cX3_rowsToQuestion 52 = .ok (.iaload, 1) := by decide +kernel
theorem dX3_rowsToQuestion_53 : decode cX3_rowsToQuestion 53 = .ok (.invokevirtual 66, 3) := by decide +kernel
theorem dX3_rowsToQuestion_56 : decode cX3_rowsToQuestion 56 = .ok (.istore 6, 2) := by decide +kernel
theorem dX3_rowsToQuestion_58 : decode cX3_rowsToQuestion 58 = .ok (.iload 4, 2) := by decide +kernel
theorem dX3_rowsToQuestion_60 : decode cX3_rowsToQuestion 60 = .ok (.aload_n 0, 1) := by decide +kernel
theorem dX3_rowsToQuestion_61 : decode cX3_rowsToQuestion 61 = .ok (.iload 6, 2) := by decide +kernel
theorem dX3_rowsToQuestion_63 : decode cX3_rowsToQuestion 63 = .ok (.iload_n 2, 1) := by decide +kernel
theorem dX3_rowsToQuestion_64 : decode cX3_rowsToQuestion 64 = .ok (.iconst 1, 1) := by decide +kernel
theorem dX3_rowsToQuestion_65 : decode cX3_rowsToQuestion 65 = .ok (.iload 5, 2) := by decide +kernel
theorem dX3_rowsToQuestion_67 : decode cX3_rowsToQuestion 67 = .ok (.ishl, 1) := by decide +kernel
theorem dX3_rowsToQuestion_68 : decode cX3_rowsToQuestion 68 = .ok (.iconst (-1), 1) := by decide +kernel
theorem dX3_rowsToQuestion_69 : decode cX3_rowsToQuestion 69 = .ok (.ixor, 1) := by decide +kernel
theorem dX3_rowsToQuestion_70 : decode cX3_rowsToQuestion 70 = .ok (.iand, 1) := by decide +kernel
theorem dX3_rowsToQuestion_71 : decode cX3_rowsToQuestion 71 = .ok (.iload_n 3, 1) := by decide +kernel
theorem dX3_rowsToQuestion_72 : decode cX3_rowsToQuestion 72 = .ok (.iconst 1, 1) := by decide +kernel
theorem dX3_rowsToQuestion_73 : decode cX3_rowsToQuestion 73 = .ok (.isub, 1) := by decide +kernel
theorem dX3_rowsToQuestion_74 : decode cX3_rowsToQuestion 74 = .ok (.invokestatic 70, 3) := by decide +kernel
theorem dX3_rowsToQuestion_77 : decode cX3_rowsToQuestion 77 = .ok (.iadd, 1) := by decide +kernel
theorem dX3_rowsToQuestion_78 : decode cX3_rowsToQuestion 78 = .ok (.istore 4, 2) := by decide +kernel
theorem dX3_rowsToQuestion_80 : decode cX3_rowsToQuestion 80 = .ok (.iinc 5 1, 3) := by decide +kernel
theorem dX3_rowsToQuestion_83 : decode cX3_rowsToQuestion 83 = .ok (.goto (-59), 3) := by decide +kernel
theorem dX3_rowsToQuestion_86 : decode cX3_rowsToQuestion 86 = .ok (.iload 4, 2) := by decide +kernel
theorem dX3_rowsToQuestion_88 : decode cX3_rowsToQuestion 88 = .ok (.ireturn, 1) := by decide +kernel
theorem dX3_bestOf_0 : decode cX3_bestOf 0 = .ok (.ldc 58, 2) := by decide +kernel
theorem dX3_bestOf_2 : decode cX3_bestOf 2 = .ok (.istore_n 3, 1) := by decide +kernel
theorem dX3_bestOf_3 : decode cX3_bestOf 3 = .ok (.ldc 58, 2) := by decide +kernel
theorem dX3_bestOf_5 : decode cX3_bestOf 5 = .ok (.istore 4, 2) := by decide +kernel
theorem dX3_bestOf_7 : decode cX3_bestOf 7 = .ok (.aload_n 0, 1) := by decide +kernel
theorem dX3_bestOf_8 : decode cX3_bestOf 8 = .ok (.aload_n 1, 1) := by decide +kernel
theorem dX3_bestOf_9 : decode cX3_bestOf 9 = .ok (.aload_n 1, 1) := by decide +kernel
theorem dX3_bestOf_10 : decode cX3_bestOf 10 = .ok (.invokevirtual 74, 3) := by decide +kernel
theorem dX3_bestOf_13 : decode cX3_bestOf 13 = .ok (.iconst 0, 1) := by decide +kernel
theorem dX3_bestOf_14 : decode cX3_bestOf 14 = .ok (.invokevirtual 78, 3) := by decide +kernel
theorem dX3_bestOf_17 : decode cX3_bestOf 17 = .ok (.iconst 0, 1) := by decide +kernel
theorem dX3_bestOf_18 : decode cX3_bestOf 18 = .ok (.istore 5, 2) := by decide +kernel
theorem dX3_bestOf_20 : decode cX3_bestOf 20 = .ok (.iload 5, 2) := by decide +kernel
theorem dX3_bestOf_22 : decode cX3_bestOf 22 = .ok (.aload_n 1, 1) := by decide +kernel
theorem dX3_bestOf_23 : decode cX3_bestOf 23 = .ok (.getfield 82, 3) := by decide +kernel
theorem dX3_bestOf_26 : decode cX3_bestOf 26 = .ok (.if_icmp .ge 83, 3) := by decide +kernel
theorem dX3_bestOf_29 : decode cX3_bestOf 29 = .ok (.aload_n 0, 1) := by decide +kernel
theorem dX3_bestOf_30 : decode cX3_bestOf 30 = .ok (.aload_n 1, 1) := by decide +kernel
theorem dX3_bestOf_31 : decode cX3_bestOf 31 = .ok (.getfield 59, 3) := by decide +kernel
theorem dX3_bestOf_34 : decode cX3_bestOf 34 = .ok (.iload 5, 2) := by decide +kernel
theorem dX3_bestOf_36 : decode cX3_bestOf 36 = .ok (.iaload, 1) := by decide +kernel
theorem dX3_bestOf_37 : decode cX3_bestOf 37 = .ok (.aload_n 1, 1) := by decide +kernel
theorem dX3_bestOf_38 : decode cX3_bestOf 38 = .ok (.getfield 27, 3) := by decide +kernel
theorem dX3_bestOf_41 : decode cX3_bestOf 41 = .ok (.invokevirtual 85, 3) := by decide +kernel
theorem dX3_bestOf_44 : decode cX3_bestOf 44 = .ok (.istore 6, 2) := by decide +kernel
theorem dX3_bestOf_46 : decode cX3_bestOf 46 = .ok (.aload_n 1, 1) := by decide +kernel
theorem dX3_bestOf_47 : decode cX3_bestOf 47 = .ok (.iload 5, 2) := by decide +kernel
theorem dX3_bestOf_49 : decode cX3_bestOf 49 = .ok (.invokevirtual 88, 3) := by decide +kernel
theorem dX3_bestOf_52 : decode cX3_bestOf 52 = .ok (.ifCond .ne 23, 3) := by decide +kernel
theorem dX3_bestOf_55 : decode cX3_bestOf 55 = .ok (.aload_n 1, 1) := by decide +kernel
theorem dX3_bestOf_56 : decode cX3_bestOf 56 = .ok (.iload 5, 2) := by decide +kernel
theorem dX3_bestOf_58 : decode cX3_bestOf 58 = .ok (.invokevirtual 91, 3) := by decide +kernel
theorem dX3_bestOf_61 : decode cX3_bestOf 61 = .ok (.ifCond .eq 14, 3) := by decide +kernel
theorem dX3_bestOf_64 : decode cX3_bestOf 64 = .ok (.iload 6, 2) := by decide +kernel
theorem dX3_bestOf_66 : decode cX3_bestOf 66 = .ok (.ldc 58, 2) := by decide +kernel
theorem dX3_bestOf_68 : decode cX3_bestOf 68 = .ok (.if_icmp .eq 7, 3) := by decide +kernel
theorem dX3_bestOf_71 : decode cX3_bestOf 71 = .ok (.iconst 1, 1) := by decide +kernel
theorem dX3_bestOf_72 : decode cX3_bestOf 72 = .ok (.goto 4, 3) := by decide +kernel
theorem dX3_bestOf_75 : decode cX3_bestOf 75 = .ok (.iconst 0, 1) := by decide +kernel
theorem dX3_bestOf_76 : decode cX3_bestOf 76 = .ok (.istore 7, 2) := by decide +kernel
theorem dX3_bestOf_78 : decode cX3_bestOf 78 = .ok (.iload 7, 2) := by decide +kernel
theorem dX3_bestOf_80 : decode cX3_bestOf 80 = .ok (.ifCond .eq 23, 3) := by decide +kernel
theorem dX3_bestOf_83 : decode cX3_bestOf 83 = .ok (.iload_n 3, 1) := by decide +kernel
theorem dX3_bestOf_84 : decode cX3_bestOf 84 = .ok (.ldc 58, 2) := by decide +kernel
theorem dX3_bestOf_86 : decode cX3_bestOf 86 = .ok (.if_icmp .eq 10, 3) := by decide +kernel
theorem dX3_bestOf_89 : decode cX3_bestOf 89 = .ok (.iload 6, 2) := by decide +kernel
theorem dX3_bestOf_91 : decode cX3_bestOf 91 = .ok (.iload 4, 2) := by decide +kernel
theorem dX3_bestOf_93 : decode cX3_bestOf 93 = .ok (.if_icmp .ge 10, 3) := by decide +kernel
theorem dX3_bestOf_96 : decode cX3_bestOf 96 = .ok (.iload 5, 2) := by decide +kernel
theorem dX3_bestOf_98 : decode cX3_bestOf 98 = .ok (.istore_n 3, 1) := by decide +kernel
theorem dX3_bestOf_99 : decode cX3_bestOf 99 = .ok (.iload 6, 2) := by decide +kernel
theorem dX3_bestOf_101 : decode cX3_bestOf 101 = .ok (.istore 4, 2) := by decide +kernel
theorem dX3_bestOf_103 : decode cX3_bestOf 103 = .ok (.iinc 5 1, 3) := by decide +kernel
theorem dX3_bestOf_106 : decode cX3_bestOf 106 = .ok (.goto (-86), 3) := by decide +kernel
theorem dX3_bestOf_109 : decode cX3_bestOf 109 = .ok (.iload_n 2, 1) := by decide +kernel
theorem dX3_bestOf_110 : decode cX3_bestOf 110 = .ok (.ifCond .eq 7, 3) := by decide +kernel
theorem dX3_bestOf_113 : decode cX3_bestOf 113 = .ok (.iload_n 3, 1) := by decide +kernel
theorem dX3_bestOf_114 : decode cX3_bestOf 114 = .ok (.goto 5, 3) := by decide +kernel
theorem dX3_bestOf_117 : decode cX3_bestOf 117 = .ok (.iload 4, 2) := by decide +kernel
theorem dX3_bestOf_119 : decode cX3_bestOf 119 = .ok (.ireturn, 1) := by decide +kernel
theorem dX3_fewestForAll_0 : decode cX3_fewestForAll 0 = .ok (.aload_n 1, 1) := by decide +kernel
theorem dX3_fewestForAll_1 : decode cX3_fewestForAll 1 = .ok (.invokevirtual 95, 3) := by decide +kernel
theorem dX3_fewestForAll_4 : decode cX3_fewestForAll 4 = .ok (.istore_n 2, 1) := by decide +kernel
theorem dX3_fewestForAll_5 : decode cX3_fewestForAll 5 = .ok (.ldc 58, 2) := by decide +kernel
theorem dX3_fewestForAll_7 : decode cX3_fewestForAll 7 = .ok (.istore_n 3, 1) := by decide +kernel
theorem dX3_fewestForAll_8 : decode cX3_fewestForAll 8 = .ok (.aload_n 0, 1) := by decide +kernel
theorem dX3_fewestForAll_9 : decode cX3_fewestForAll 9 = .ok (.aload_n 1, 1) := by decide +kernel
theorem dX3_fewestForAll_10 : decode cX3_fewestForAll 10 = .ok (.iload_n 2, 1) := by decide +kernel
theorem dX3_fewestForAll_11 : decode cX3_fewestForAll 11 = .ok (.aload_n 1, 1) := by decide +kernel
theorem dX3_fewestForAll_12 : decode cX3_fewestForAll 12 = .ok (.invokevirtual 74, 3) := by decide +kernel
theorem dX3_fewestForAll_15 : decode cX3_fewestForAll 15 = .ok (.invokevirtual 98, 3) := by decide +kernel
theorem dX3_fewestForAll_18 : decode cX3_fewestForAll 18 = .ok (.ifCond .ne 6, 3) := by decide +kernel
theorem dX3_fewestForAll_21 : decode cX3_fewestForAll 21 = .ok (.ldc 58, 2) := by decide +kernel
theorem dX3_fewestForAll_23 : decode cX3_fewestForAll 23 = .ok (.ireturn, 1) := by decide +kernel
theorem dX3_fewestForAll_24 : decode cX3_fewestForAll 24 = .ok (.iconst 0, 1) := by decide +kernel
theorem dX3_fewestForAll_25 : decode cX3_fewestForAll 25 = .ok (.istore 4, 2) := by decide +kernel
theorem dX3_fewestForAll_27 : decode cX3_fewestForAll 27 = .ok (.iload 4, 2) := by decide +kernel
theorem dX3_fewestForAll_29 : decode cX3_fewestForAll 29 = .ok (.aload_n 1, 1) := by decide +kernel
theorem dX3_fewestForAll_30 : decode cX3_fewestForAll 30 = .ok (.invokevirtual 74, 3) := by decide +kernel
theorem dX3_fewestForAll_33 : decode cX3_fewestForAll 33 = .ok (.if_icmp .gt 53, 3) := by decide +kernel
theorem dX3_fewestForAll_36 : decode cX3_fewestForAll 36 = .ok (.iload_n 3, 1) := by decide +kernel
theorem dX3_fewestForAll_37 : decode cX3_fewestForAll 37 = .ok (.ldc 58, 2) := by decide +kernel
theorem dX3_fewestForAll_39 : decode cX3_fewestForAll 39 = .ok (.if_icmp .eq 15, 3) := by decide +kernel
theorem dX3_fewestForAll_42 : decode cX3_fewestForAll 42 = .ok (.iload 4, 2) := by decide +kernel
theorem dX3_fewestForAll_44 : decode cX3_fewestForAll 44 = .ok (.invokestatic 102, 3) := by decide +kernel
theorem dX3_fewestForAll_47 : decode cX3_fewestForAll 47 = .ok (.iload_n 3, 1) := by decide +kernel
theorem dX3_fewestForAll_48 : decode cX3_fewestForAll 48 = .ok (.invokestatic 102, 3) := by decide +kernel
theorem dX3_fewestForAll_51 : decode cX3_fewestForAll 51 = .ok (.if_icmp .ge 7, 3) := by decide +kernel
theorem dX3_fewestForAll_54 : decode cX3_fewestForAll 54 = .ok (.iconst 1, 1) := by decide +kernel
theorem dX3_fewestForAll_55 : decode cX3_fewestForAll 55 = .ok (.goto 4, 3) := by decide +kernel
theorem dX3_fewestForAll_58 : decode cX3_fewestForAll 58 = .ok (.iconst 0, 1) := by decide +kernel
theorem dX3_fewestForAll_59 : decode cX3_fewestForAll 59 = .ok (.istore 5, 2) := by decide +kernel
theorem dX3_fewestForAll_61 : decode cX3_fewestForAll 61 = .ok (.iload 5, 2) := by decide +kernel
theorem dX3_fewestForAll_63 : decode cX3_fewestForAll 63 = .ok (.ifCond .eq 17, 3) := by decide +kernel
theorem dX3_fewestForAll_66 : decode cX3_fewestForAll 66 = .ok (.aload_n 0, 1) := by decide +kernel
theorem dX3_fewestForAll_67 : decode cX3_fewestForAll 67 = .ok (.aload_n 1, 1) := by decide +kernel
theorem dX3_fewestForAll_68 : decode cX3_fewestForAll 68 = .ok (.iload_n 2, 1) := by decide +kernel
theorem dX3_fewestForAll_69 : decode cX3_fewestForAll 69 = .ok (.iload 4, 2) := by decide +kernel
theorem dX3_fewestForAll_71 : decode cX3_fewestForAll 71 = .ok (.invokevirtual 98, 3) := by decide +kernel
theorem dX3_fewestForAll_74 : decode cX3_fewestForAll 74 = .ok (.ifCond .eq 6, 3) := by decide +kernel
theorem dX3_fewestForAll_77 : decode cX3_fewestForAll 77 = .ok (.iload 4, 2) := by decide +kernel
theorem dX3_fewestForAll_79 : decode cX3_fewestForAll 79 = .ok (.istore_n 3, 1) := by decide +kernel
theorem dX3_fewestForAll_80 : decode cX3_fewestForAll 80 = .ok (.iinc 4 1, 3) := by decide +kernel
theorem dX3_fewestForAll_83 : decode cX3_fewestForAll 83 = .ok (.goto (-56), 3) := by decide +kernel
theorem dX3_fewestForAll_86 : decode cX3_fewestForAll 86 = .ok (.iload_n 3, 1) := by decide +kernel
theorem dX3_fewestForAll_87 : decode cX3_fewestForAll 87 = .ok (.ireturn, 1) := by decide +kernel
theorem dX3_haveRoute_0 : decode cX3_haveRoute 0 = .ok (.iload_n 2, 1) := by decide +kernel
theorem dX3_haveRoute_1 : decode cX3_haveRoute 1 = .ok (.aload_n 0, 1) := by decide +kernel
theorem dX3_haveRoute_2 : decode cX3_haveRoute 2 = .ok (.aload_n 1, 1) := by decide +kernel
theorem dX3_haveRoute_3 : decode cX3_haveRoute 3 = .ok (.iload_n 3, 1) := by decide +kernel
theorem dX3_haveRoute_4 : decode cX3_haveRoute 4 = .ok (.invokevirtual 107, 3) := by decide +kernel
theorem dX3_haveRoute_7 : decode cX3_haveRoute 7 = .ok (.iconst (-1), 1) := by decide +kernel
theorem dX3_haveRoute_8 : decode cX3_haveRoute 8 = .ok (.ixor, 1) := by decide +kernel
theorem dX3_haveRoute_9 : decode cX3_haveRoute 9 = .ok (.iand, 1) := by decide +kernel
theorem dX3_haveRoute_10 : decode cX3_haveRoute 10 = .ok (.ifCond .ne 7, 3) := by decide +kernel
theorem dX3_haveRoute_13 : decode cX3_haveRoute 13 = .ok (.iconst 1, 1) := by decide +kernel
theorem dX3_haveRoute_14 : decode cX3_haveRoute 14 = .ok (.goto 4, 3) := by decide +kernel
theorem dX3_haveRoute_17 : decode cX3_haveRoute 17 = .ok (.iconst 0, 1) := by decide +kernel
theorem dX3_haveRoute_18 : decode cX3_haveRoute 18 = .ok (.ireturn, 1) := by decide +kernel
theorem dX3_thoughtsWithRoute_0 : decode cX3_thoughtsWithRoute 0 = .ok (.aload_n 0, 1) := by decide +kernel
theorem dX3_thoughtsWithRoute_1 : decode cX3_thoughtsWithRoute 1 = .ok (.aload_n 1, 1) := by decide +kernel
theorem dX3_thoughtsWithRoute_2 : decode cX3_thoughtsWithRoute 2 = .ok (.iload_n 2, 1) := by decide +kernel
theorem dX3_thoughtsWithRoute_3 : decode cX3_thoughtsWithRoute 3 = .ok (.iconst 0, 1) := by decide +kernel
theorem dX3_thoughtsWithRoute_4 : decode cX3_thoughtsWithRoute 4 = .ok (.invokevirtual 78, 3) := by decide +kernel
theorem dX3_thoughtsWithRoute_7 : decode cX3_thoughtsWithRoute 7 = .ok (.aload_n 1, 1) := by decide +kernel
theorem dX3_thoughtsWithRoute_8 : decode cX3_thoughtsWithRoute 8 = .ok (.getfield 27, 3) := by decide +kernel
theorem dX3_thoughtsWithRoute_11 : decode cX3_thoughtsWithRoute 11 = .ok (.aload_n 0, 1) := by decide +kernel
theorem dX3_thoughtsWithRoute_12 : decode cX3_thoughtsWithRoute 12 = .ok (.getfield 9, 3) := by decide +kernel
theorem dX3_thoughtsWithRoute_15 : decode cX3_thoughtsWithRoute 15 = .ok (.arraylength, 1) := by decide +kernel
theorem dX3_thoughtsWithRoute_16 : decode cX3_thoughtsWithRoute 16 = .ok (.invokestatic 110, 3) := by decide +kernel
theorem dX3_thoughtsWithRoute_19 : decode cX3_thoughtsWithRoute 19 = .ok (.ifCond .eq 15, 3) := by decide +kernel
theorem dX3_thoughtsWithRoute_22 : decode cX3_thoughtsWithRoute 22 = .ok (.aload_n 0, 1) := by decide +kernel
theorem dX3_thoughtsWithRoute_23 : decode cX3_thoughtsWithRoute 23 = .ok (.getfield 9, 3) := by decide +kernel
theorem dX3_thoughtsWithRoute_26 : decode cX3_thoughtsWithRoute 26 = .ok (.aload_n 1, 1) := by decide +kernel
theorem dX3_thoughtsWithRoute_27 : decode cX3_thoughtsWithRoute 27 = .ok (.getfield 27, 3) := by decide +kernel
theorem dX3_thoughtsWithRoute_30 : decode cX3_thoughtsWithRoute 30 = .ok (.iaload, 1) := by decide +kernel
theorem dX3_thoughtsWithRoute_31 : decode cX3_thoughtsWithRoute 31 = .ok (.goto 4, 3) := by decide +kernel
theorem dX3_thoughtsWithRoute_34 : decode cX3_thoughtsWithRoute 34 = .ok (.iconst 0, 1) := by decide +kernel
theorem dX3_thoughtsWithRoute_35 : decode cX3_thoughtsWithRoute 35 = .ok (.ireturn, 1) := by decide +kernel
theorem dX3_mostMissed_0 : decode cX3_mostMissed 0 = .ok (.ldc 58, 2) := by decide +kernel
theorem dX3_mostMissed_2 : decode cX3_mostMissed 2 = .ok (.istore_n 3, 1) := by decide +kernel
theorem dX3_mostMissed_3 : decode cX3_mostMissed 3 = .ok (.ldc 58, 2) := by decide +kernel
theorem dX3_mostMissed_5 : decode cX3_mostMissed 5 = .ok (.istore 4, 2) := by decide +kernel
theorem dX3_mostMissed_7 : decode cX3_mostMissed 7 = .ok (.iconst 0, 1) := by decide +kernel
theorem dX3_mostMissed_8 : decode cX3_mostMissed 8 = .ok (.istore 5, 2) := by decide +kernel
theorem dX3_mostMissed_10 : decode cX3_mostMissed 10 = .ok (.iload 5, 2) := by decide +kernel
theorem dX3_mostMissed_12 : decode cX3_mostMissed 12 = .ok (.aload_n 1, 1) := by decide +kernel
theorem dX3_mostMissed_13 : decode cX3_mostMissed 13 = .ok (.getfield 34, 3) := by decide +kernel
theorem dX3_mostMissed_16 : decode cX3_mostMissed 16 = .ok (.if_icmp .ge 51, 3) := by decide +kernel
theorem dX3_mostMissed_19 : decode cX3_mostMissed 19 = .ok (.aload_n 1, 1) := by decide +kernel
theorem dX3_mostMissed_20 : decode cX3_mostMissed 20 = .ok (.aload_n 0, 1) := by decide +kernel
theorem dX3_mostMissed_21 : decode cX3_mostMissed 21 = .ok (.aload_n 1, 1) := by decide +kernel
theorem dX3_mostMissed_22 : decode cX3_mostMissed 22 = .ok (.aload_n 1, 1) := by decide +kernel
theorem dX3_mostMissed_23 : decode cX3_mostMissed 23 = .ok (.invokevirtual 74, 3) := by decide +kernel
theorem dX3_mostMissed_26 : decode cX3_mostMissed 26 = .ok (.iconst 1, 1) := by decide +kernel
theorem dX3_mostMissed_27 : decode cX3_mostMissed 27 = .ok (.iload 5, 2) := by decide +kernel
theorem dX3_mostMissed_29 : decode cX3_mostMissed 29 = .ok (.ishl, 1) := by decide +kernel
theorem dX3_mostMissed_30 : decode cX3_mostMissed 30 = .ok (.iconst (-1), 1) := by decide +kernel
theorem dX3_mostMissed_31 : decode cX3_mostMissed 31 = .ok (.ixor, 1) := by decide +kernel
theorem dX3_mostMissed_32 : decode cX3_mostMissed 32 = .ok (.iand, 1) := by decide +kernel
theorem dX3_mostMissed_33 : decode cX3_mostMissed 33 = .ok (.invokevirtual 107, 3) := by decide +kernel
theorem dX3_mostMissed_36 : decode cX3_mostMissed 36 = .ok (.invokevirtual 113, 3) := by decide +kernel
theorem dX3_mostMissed_39 : decode cX3_mostMissed 39 = .ok (.istore 6, 2) := by decide +kernel
theorem dX3_mostMissed_41 : decode cX3_mostMissed 41 = .ok (.iload_n 3, 1) := by decide +kernel
theorem dX3_mostMissed_42 : decode cX3_mostMissed 42 = .ok (.ldc 58, 2) := by decide +kernel
theorem dX3_mostMissed_44 : decode cX3_mostMissed 44 = .ok (.if_icmp .eq 10, 3) := by decide +kernel
theorem dX3_mostMissed_47 : decode cX3_mostMissed 47 = .ok (.iload 6, 2) := by decide +kernel
theorem dX3_mostMissed_49 : decode cX3_mostMissed 49 = .ok (.iload 4, 2) := by decide +kernel
theorem dX3_mostMissed_51 : decode cX3_mostMissed 51 = .ok (.if_icmp .ge 10, 3) := by decide +kernel
theorem dX3_mostMissed_54 : decode cX3_mostMissed 54 = .ok (.iload 5, 2) := by decide +kernel
theorem dX3_mostMissed_56 : decode cX3_mostMissed 56 = .ok (.istore_n 3, 1) := by decide +kernel
theorem dX3_mostMissed_57 : decode cX3_mostMissed 57 = .ok (.iload 6, 2) := by decide +kernel
theorem dX3_mostMissed_59 : decode cX3_mostMissed 59 = .ok (.istore 4, 2) := by decide +kernel
theorem dX3_mostMissed_61 : decode cX3_mostMissed 61 = .ok (.iinc 5 1, 3) := by decide +kernel
theorem dX3_mostMissed_64 : decode cX3_mostMissed 64 = .ok (.goto (-54), 3) := by decide +kernel
theorem dX3_mostMissed_67 : decode cX3_mostMissed 67 = .ok (.iload_n 2, 1) := by decide +kernel
theorem dX3_mostMissed_68 : decode cX3_mostMissed 68 = .ok (.ifCond .eq 7, 3) := by decide +kernel
theorem dX3_mostMissed_71 : decode cX3_mostMissed 71 = .ok (.iload_n 3, 1) := by decide +kernel
theorem dX3_mostMissed_72 : decode cX3_mostMissed 72 = .ok (.goto 5, 3) := by decide +kernel
theorem dX3_mostMissed_75 : decode cX3_mostMissed 75 = .ok (.iload 4, 2) := by decide +kernel
theorem dX3_mostMissed_77 : decode cX3_mostMissed 77 = .ok (.ireturn, 1) := by decide +kernel
theorem dX3_wouldAskButFear_0 : decode cX3_wouldAskButFear 0 = .ok (.iconst 0, 1) := by decide +kernel
theorem dX3_wouldAskButFear_1 : decode cX3_wouldAskButFear 1 = .ok (.istore 5, 2) := by decide +kernel
theorem dX3_wouldAskButFear_3 : decode cX3_wouldAskButFear 3 = .ok (.iconst 0, 1) := by decide +kernel
theorem dX3_wouldAskButFear_4 : decode cX3_wouldAskButFear 4 = .ok (.istore 6, 2) := by decide +kernel
theorem dX3_wouldAskButFear_6 : decode cX3_wouldAskButFear 6 = .ok (.iload 6, 2) := by decide +kernel
theorem dX3_wouldAskButFear_8 : decode cX3_wouldAskButFear 8 = .ok (.aload_n 0, 1) := by decide +kernel
theorem dX3_wouldAskButFear_9 : decode cX3_wouldAskButFear 9 = .ok (.getfield 82, 3) := by decide +kernel
theorem dX3_wouldAskButFear_12 : decode cX3_wouldAskButFear 12 = .ok (.if_icmp .ge 59, 3) := by decide +kernel
theorem dX3_wouldAskButFear_15 : decode cX3_wouldAskButFear 15 = .ok (.aload_n 0, 1) := by decide +kernel
theorem dX3_wouldAskButFear_16 : decode cX3_wouldAskButFear 16 = .ok (.iload 6, 2) := by decide +kernel
theorem dX3_wouldAskButFear_18 : decode cX3_wouldAskButFear 18 = .ok (.invokevirtual 88, 3) := by decide +kernel
theorem dX3_wouldAskButFear_21 : decode cX3_wouldAskButFear 21 = .ok (.ifCond .ne 44, 3) := by decide +kernel
theorem dX3_wouldAskButFear_24 : decode cX3_wouldAskButFear 24 = .ok (.aload_n 0, 1) := by decide +kernel
theorem dX3_wouldAskButFear_25 : decode cX3_wouldAskButFear 25 = .ok (.iload 6, 2) := by decide +kernel
theorem dX3_wouldAskButFear_27 : decode cX3_wouldAskButFear 27 = .ok (.invokevirtual 91, 3) := by decide +kernel
theorem dX3_wouldAskButFear_30 : decode cX3_wouldAskButFear 30 = .ok (.ifCond .ne 35, 3) := by decide +kernel
theorem dX3_wouldAskButFear_33 : decode cX3_wouldAskButFear 33 = .ok (.aload_n 0, 1) := by decide +kernel
theorem dX3_wouldAskButFear_34 : decode cX3_wouldAskButFear 34 = .ok (.aload_n 0, 1) := by decide +kernel
theorem dX3_wouldAskButFear_35 : decode cX3_wouldAskButFear 35 = .ok (.getfield 59, 3) := by decide +kernel
theorem dX3_wouldAskButFear_38 : decode cX3_wouldAskButFear 38 = .ok (.iload 6, 2) := by decide +kernel
theorem dX3_wouldAskButFear_40 : decode cX3_wouldAskButFear 40 = .ok (.iaload, 1) := by decide +kernel
theorem dX3_wouldAskButFear_41 : decode cX3_wouldAskButFear 41 = .ok (.aload_n 1, 1) := by decide +kernel
theorem dX3_wouldAskButFear_42 : decode cX3_wouldAskButFear 42 = .ok (.iload_n 2, 1) := by decide +kernel
theorem dX3_wouldAskButFear_43 : decode cX3_wouldAskButFear 43 = .ok (.iload_n 3, 1) := by decide +kernel
theorem dX3_wouldAskButFear_44 : decode cX3_wouldAskButFear 44 = .ok (.iload 4, 2) := by decide +kernel
theorem dX3_wouldAskButFear_46 : decode cX3_wouldAskButFear 46 = .ok (.invokestatic 116, 3) := by decide +kernel
theorem dX3_wouldAskButFear_49 : decode cX3_wouldAskButFear 49 = .ok (.aload_n 0, 1) := by decide +kernel
theorem dX3_wouldAskButFear_50 : decode cX3_wouldAskButFear 50 = .ok (.getfield 24, 3) := by decide +kernel
theorem dX3_wouldAskButFear_53 : decode cX3_wouldAskButFear 53 = .ok (.if_icmp .ne 12, 3) := by decide +kernel
theorem dX3_wouldAskButFear_56 : decode cX3_wouldAskButFear 56 = .ok (.iload 5, 2) := by decide +kernel
theorem dX3_wouldAskButFear_58 : decode cX3_wouldAskButFear 58 = .ok (.iconst 1, 1) := by decide +kernel
theorem dX3_wouldAskButFear_59 : decode cX3_wouldAskButFear 59 = .ok (.iload 6, 2) := by decide +kernel
theorem dX3_wouldAskButFear_61 : decode cX3_wouldAskButFear 61 = .ok (.ishl, 1) := by decide +kernel
theorem dX3_wouldAskButFear_62 : decode cX3_wouldAskButFear 62 = .ok (.ior, 1) := by decide +kernel
theorem dX3_wouldAskButFear_63 : decode cX3_wouldAskButFear 63 = .ok (.istore 5, 2) := by decide +kernel
theorem dX3_wouldAskButFear_65 : decode cX3_wouldAskButFear 65 = .ok (.iinc 6 1, 3) := by decide +kernel
theorem dX3_wouldAskButFear_68 : decode cX3_wouldAskButFear 68 = .ok (.goto (-62), 3) := by decide +kernel
theorem dX3_wouldAskButFear_71 : decode cX3_wouldAskButFear 71 = .ok (.iload 5, 2) := by decide +kernel
theorem dX3_wouldAskButFear_73 : decode cX3_wouldAskButFear 73 = .ok (.ireturn, 1) := by decide +kernel
theorem dX3_afterRow_0 : decode cX3_afterRow 0 = .ok (.iload_n 1, 1) := by decide +kernel
theorem dX3_afterRow_1 : decode cX3_afterRow 1 = .ok (.istore 6, 2) := by decide +kernel
theorem dX3_afterRow_3 : decode cX3_afterRow 3 = .ok (.iconst 0, 1) := by decide +kernel
theorem dX3_afterRow_4 : decode cX3_afterRow 4 = .ok (.istore 7, 2) := by decide +kernel
theorem dX3_afterRow_6 : decode cX3_afterRow 6 = .ok (.iload 7, 2) := by decide +kernel
theorem dX3_afterRow_8 : decode cX3_afterRow 8 = .ok (.iload 5, 2) := by decide +kernel
theorem dX3_afterRow_10 : decode cX3_afterRow 10 = .ok (.if_icmp .ge 48, 3) := by decide +kernel
theorem dX3_afterRow_13 : decode cX3_afterRow 13 = .ok (.aload_n 2, 1) := by decide +kernel
theorem dX3_afterRow_14 : decode cX3_afterRow 14 = .ok (.iload_n 3, 1) := by decide +kernel
theorem dX3_afterRow_15 : decode cX3_afterRow 15 = .ok (.iload 4, 2) := by decide +kernel
theorem dX3_afterRow_17 : decode cX3_afterRow 17 = .ok (.iload 7, 2) := by decide +kernel
theorem dX3_afterRow_19 : decode cX3_afterRow 19 = .ok (.iadd, 1) := by decide +kernel
theorem dX3_afterRow_20 : decode cX3_afterRow 20 = .ok (.invokevirtual 120, 3) := by decide +kernel
theorem dX3_afterRow_23 : decode cX3_afterRow 23 = .ok (.istore 8, 2) := by decide +kernel
theorem dX3_afterRow_25 : decode cX3_afterRow 25 = .ok (.aload_n 0, 1) := by decide +kernel
theorem dX3_afterRow_26 : decode cX3_afterRow 26 = .ok (.iload 6, 2) := by decide +kernel
theorem dX3_afterRow_28 : decode cX3_afterRow 28 = .ok (.iload 8, 2) := by decide +kernel
theorem dX3_afterRow_30 : decode cX3_afterRow 30 = .ok (.aload_n 0, 1) := by decide +kernel
theorem dX3_afterRow_31 : decode cX3_afterRow 31 = .ok (.getfield 44, 3) := by decide +kernel
theorem dX3_afterRow_34 : decode cX3_afterRow 34 = .ok (.iload 8, 2) := by decide +kernel
theorem dX3_afterRow_36 : decode cX3_afterRow 36 = .ok (.iaload, 1) := by decide +kernel
theorem dX3_afterRow_37 : decode cX3_afterRow 37 = .ok (.aload_n 2, 1) := by decide +kernel
theorem dX3_afterRow_38 : decode cX3_afterRow 38 = .ok (.iload_n 3, 1) := by decide +kernel
theorem dX3_afterRow_39 : decode cX3_afterRow 39 = .ok (.iload 4, 2) := by decide +kernel
theorem dX3_afterRow_41 : decode cX3_afterRow 41 = .ok (.iload 7, 2) := by decide +kernel
theorem dX3_afterRow_43 : decode cX3_afterRow 43 = .ok (.invokestatic 125, 3) := by decide +kernel
theorem dX3_afterRow_46 : decode cX3_afterRow 46 = .ok (.iadd, 1) := by decide +kernel
theorem dX3_afterRow_47 : decode cX3_afterRow 47 = .ok (.invokevirtual 66, 3) := by decide +kernel
theorem dX3_afterRow_50 : decode cX3_afterRow 50 = .ok (.istore 6, 2) := by decide +kernel
theorem dX3_afterRow_52 : decode cX3_afterRow 52 = .ok (.iinc 7 1, 3) := by decide +kernel
theorem dX3_afterRow_55 : decode cX3_afterRow 55 = .ok (.goto (-49), 3) := by decide +kernel
theorem dX3_afterRow_58 : decode cX3_afterRow 58 = .ok (.iload 6, 2) := by decide +kernel
theorem dX3_afterRow_60 : decode cX3_afterRow 60 = .ok (.ireturn, 1) := by decide +kernel
theorem dX3_timesAhead_0 : decode cX3_timesAhead 0 = .ok (.iconst 0, 1) := by decide +kernel
theorem dX3_timesAhead_1 : decode cX3_timesAhead 1 = .ok (.istore 4, 2) := by decide +kernel
theorem dX3_timesAhead_3 : decode cX3_timesAhead 3 = .ok (.iconst 0, 1) := by decide +kernel
theorem dX3_timesAhead_4 : decode cX3_timesAhead 4 = .ok (.istore 5, 2) := by decide +kernel
theorem dX3_timesAhead_6 : decode cX3_timesAhead 6 = .ok (.iload 5, 2) := by decide +kernel
theorem dX3_timesAhead_8 : decode cX3_timesAhead 8 = .ok (.iload_n 3, 1) := by decide +kernel
theorem dX3_timesAhead_9 : decode cX3_timesAhead 9 = .ok (.if_icmp .ge 39, 3) := by decide +kernel
theorem dX3_timesAhead_12 : decode cX3_timesAhead 12 = .ok (.iload 4, 2) := by decide +kernel
theorem dX3_timesAhead_14 : decode cX3_timesAhead 14 = .ok (.aload_n 0, 1) := by decide +kernel
theorem dX3_timesAhead_15 : decode cX3_timesAhead 15 = .ok (.iload_n 1, 1) := by decide +kernel
theorem dX3_timesAhead_16 : decode cX3_timesAhead 16 = .ok (.iload_n 2, 1) := by decide +kernel
theorem dX3_timesAhead_17 : decode cX3_timesAhead 17 = .ok (.iload 5, 2) := by decide +kernel
theorem dX3_timesAhead_19 : decode cX3_timesAhead 19 = .ok (.iadd, 1) := by decide +kernel
theorem dX3_timesAhead_20 : decode cX3_timesAhead 20 = .ok (.invokevirtual 120, 3) := by decide +kernel
theorem dX3_timesAhead_23 : decode cX3_timesAhead 23 = .ok (.aload_n 0, 1) := by decide +kernel
theorem dX3_timesAhead_24 : decode cX3_timesAhead 24 = .ok (.iload_n 1, 1) := by decide +kernel
theorem dX3_timesAhead_25 : decode cX3_timesAhead 25 = .ok (.iload_n 2, 1) := by decide +kernel
theorem dX3_timesAhead_26 : decode cX3_timesAhead 26 = .ok (.iload_n 3, 1) := by decide +kernel
theorem dX3_timesAhead_27 : decode cX3_timesAhead 27 = .ok (.iadd, 1) := by decide +kernel
theorem dX3_timesAhead_28 : decode cX3_timesAhead 28 = .ok (.invokevirtual 120, 3) := by decide +kernel
theorem dX3_timesAhead_31 : decode cX3_timesAhead 31 = .ok (.if_icmp .ne 7, 3) := by decide +kernel
theorem dX3_timesAhead_34 : decode cX3_timesAhead 34 = .ok (.iconst 1, 1) := by decide +kernel
theorem dX3_timesAhead_35 : decode cX3_timesAhead 35 = .ok (.goto 4, 3) := by decide +kernel
theorem dX3_timesAhead_38 : decode cX3_timesAhead 38 = .ok (.iconst 0, 1) := by decide +kernel
theorem dX3_timesAhead_39 : decode cX3_timesAhead 39 = .ok (.iadd, 1) := by decide +kernel
theorem dX3_timesAhead_40 : decode cX3_timesAhead 40 = .ok (.istore 4, 2) := by decide +kernel
theorem dX3_timesAhead_42 : decode cX3_timesAhead 42 = .ok (.iinc 5 1, 3) := by decide +kernel
theorem dX3_timesAhead_45 : decode cX3_timesAhead 45 = .ok (.goto (-39), 3) := by decide +kernel
theorem dX3_timesAhead_48 : decode cX3_timesAhead 48 = .ok (.iload 4, 2) := by decide +kernel
theorem dX3_timesAhead_50 : decode cX3_timesAhead 50 = .ok (.ireturn, 1) := by decide +kernel
theorem dX4_init_0 : decode cX4_init 0 = .ok (.aload_n 0, 1) := by decide +kernel
theorem dX4_init_1 : decode cX4_init 1 = .ok (.invokespecial 3, 3) := by decide +kernel
theorem dX4_init_4 : decode cX4_init 4 = .ok (.aload_n 0, 1) := by decide +kernel
theorem dX4_init_5 : decode cX4_init 5 = .ok (.sipush 320, 3) := by decide +kernel
theorem dX4_init_8 : decode cX4_init 8 = .ok (.newarray .int, 2) := by decide +kernel
theorem dX4_init_10 : decode cX4_init 10 = .ok (.putfield 9, 3) := by decide +kernel
theorem dX4_init_13 : decode cX4_init 13 = .ok (.aload_n 0, 1) := by decide +kernel
theorem dX4_init_14 : decode cX4_init 14 = .ok (.bipush 8, 2) := by decide +kernel
theorem dX4_init_16 : decode cX4_init 16 = .ok (.newarray .int, 2) := by decide +kernel
theorem dX4_init_18 : decode cX4_init 18 = .ok (.putfield 15, 3) := by decide +kernel
theorem dX4_init_21 : decode cX4_init 21 = .ok (.aload_n 0, 1) := by decide +kernel
theorem dX4_init_22 : decode cX4_init 22 = .ok (.bipush 8, 2) := by decide +kernel
theorem dX4_init_24 : decode cX4_init 24 = .ok (.newarray .int, 2) := by decide +kernel
theorem dX4_init_26 : decode cX4_init 26 = .ok (.putfield 18, 3) := by decide +kernel
theorem dX4_init_29 : decode cX4_init 29 = .ok (.iconst 0, 1) := by decide +kernel
theorem dX4_init_30 : decode cX4_init 30 = .ok (.istore_n 1, 1) := by decide +kernel
theorem dX4_init_31 : decode cX4_init 31 = .ok (.iload_n 1, 1) := by decide +kernel
theorem dX4_init_32 : decode cX4_init 32 = .ok (.bipush 8, 2) := by decide +kernel
theorem dX4_init_34 : decode cX4_init 34 = .ok (.if_icmp .ge 16, 3) := by decide +kernel
theorem dX4_init_37 : decode cX4_init 37 = .ok (.aload_n 0, 1) := by decide +kernel
theorem dX4_init_38 : decode cX4_init 38 = .ok (.getfield 18, 3) := by decide +kernel
theorem dX4_init_41 : decode cX4_init 41 = .ok (.iload_n 1, 1) := by decide +kernel
theorem dX4_init_42 : decode cX4_init 42 = .ok (.iconst (-1), 1) := by decide +kernel
theorem dX4_init_43 : decode cX4_init 43 = .ok (.iastore, 1) := by decide +kernel
theorem dX4_init_44 : decode cX4_init 44 = .ok (.iinc 1 1, 3) := by decide +kernel
theorem dX4_init_47 : decode cX4_init 47 = .ok (.goto (-16), 3) := by decide +kernel
theorem dX4_init_50 : decode cX4_init 50 = .ok (.return_, 1) := by decide +kernel
theorem dX4_make_0 : decode cX4_make 0 = .ok (.aload_n 0, 1) := by decide +kernel
theorem dX4_make_1 : decode cX4_make 1 = .ok (.getfield 15, 3) := by decide +kernel
theorem dX4_make_4 : decode cX4_make 4 = .ok (.iload_n 1, 1) := by decide +kernel
theorem dX4_make_5 : decode cX4_make 5 = .ok (.iload_n 2, 1) := by decide +kernel
theorem dX4_make_6 : decode cX4_make 6 = .ok (.iastore, 1) := by decide +kernel
theorem dX4_make_7 : decode cX4_make 7 = .ok (.aload_n 0, 1) := by decide +kernel
theorem dX4_make_8 : decode cX4_make 8 = .ok (.getfield 18, 3) := by decide +kernel
theorem dX4_make_11 : decode cX4_make 11 = .ok (.iload_n 1, 1) := by decide +kernel
theorem dX4_make_12 : decode cX4_make 12 = .ok (.iload_n 3, 1) := by decide +kernel
theorem dX4_make_13 : decode cX4_make 13 = .ok (.iastore, 1) := by decide +kernel
theorem dX4_make_14 : decode cX4_make 14 = .ok (.iconst 0, 1) := by decide +kernel
theorem dX4_make_15 : decode cX4_make 15 = .ok (.istore 4, 2) := by decide +kernel
theorem dX4_make_17 : decode cX4_make 17 = .ok (.iload 4, 2) := by decide +kernel
theorem dX4_make_19 : decode cX4_make 19 = .ok (.iload_n 3, 1) := by decide +kernel
theorem dX4_make_20 : decode cX4_make 20 = .ok (.if_icmp .ge 22, 3) := by decide +kernel
theorem dX4_make_23 : decode cX4_make 23 = .ok (.aload_n 0, 1) := by decide +kernel
theorem dX4_make_24 : decode cX4_make 24 = .ok (.getfield 9, 3) := by decide +kernel
theorem dX4_make_27 : decode cX4_make 27 = .ok (.iload_n 1, 1) := by decide +kernel
theorem dX4_make_28 : decode cX4_make 28 = .ok (.bipush 40, 2) := by decide +kernel
theorem dX4_make_30 : decode cX4_make 30 = .ok (.imul, 1) := by decide +kernel
theorem dX4_make_31 : decode cX4_make 31 = .ok (.iload 4, 2) := by decide +kernel
theorem dX4_make_33 : decode cX4_make 33 = .ok (.iadd, 1) := by decide +kernel
theorem dX4_make_34 : decode cX4_make 34 = .ok (.iconst 0, 1) := by decide +kernel
theorem dX4_make_35 : decode cX4_make 35 = .ok (.iastore, 1) := by decide +kernel
theorem dX4_make_36 : decode cX4_make 36 = .ok (.iinc 4 1, 3) := by decide +kernel
theorem dX4_make_39 : decode cX4_make 39 = .ok (.goto (-22), 3) := by decide +kernel
theorem dX4_make_42 : decode cX4_make 42 = .ok (.return_, 1) := by decide +kernel
theorem dX4_remove_0 : decode cX4_remove 0 = .ok (.aload_n 0, 1) := by decide +kernel
theorem dX4_remove_1 : decode cX4_remove 1 = .ok (.getfield 18, 3) := by decide +kernel
theorem dX4_remove_4 : decode cX4_remove 4 = .ok (.iload_n 1, 1) := by decide +kernel
theorem dX4_remove_5 : decode cX4_remove 5 = .ok (.iaload, 1) := by decide +kernel
theorem dX4_remove_6 : decode cX4_remove 6 = .ok (.istore_n 2, 1) := by decide +kernel
theorem dX4_remove_7 : decode cX4_remove 7 = .ok (.aload_n 0, 1) := by decide +kernel
theorem dX4_remove_8 : decode cX4_remove 8 = .ok (.getfield 18, 3) := by decide +kernel
theorem dX4_remove_11 : decode cX4_remove 11 = .ok (.iload_n 1, 1) := by decide +kernel
theorem dX4_remove_12 : decode cX4_remove 12 = .ok (.iconst (-1), 1) := by decide +kernel
theorem dX4_remove_13 : decode cX4_remove 13 = .ok (.iastore, 1) := by decide +kernel
theorem dX4_remove_14 : decode cX4_remove 14 = .ok (.iload_n 2, 1) := by decide +kernel
theorem dX4_remove_15 : decode cX4_remove 15 = .ok (.ireturn, 1) := by decide +kernel
theorem dX4_isMissing_0 : decode cX4_isMissing 0 = .ok (.aload_n 0, 1) := by decide +kernel
theorem dX4_isMissing_1 : decode cX4_isMissing 1 = .ok (.getfield 18, 3) := by decide +kernel
theorem dX4_isMissing_4 : decode cX4_isMissing 4 = .ok (.iload_n 1, 1) := by decide +kernel
theorem dX4_isMissing_5 : decode cX4_isMissing 5 = .ok (.iaload, 1) := by decide +kernel
theorem dX4_isMissing_6 : decode cX4_isMissing 6 = .ok (.iconst (-1), 1) := by decide +kernel
theorem dX4_isMissing_7 : decode cX4_isMissing 7 = .ok (.if_icmp .ne 7, 3) := by decide +kernel
theorem dX4_isMissing_10 : decode cX4_isMissing 10 = .ok (.iconst 1, 1) := by decide +kernel
theorem dX4_isMissing_11 : decode cX4_isMissing 11 = .ok (.goto 4, 3) := by decide +kernel
theorem dX4_isMissing_14 : decode cX4_isMissing 14 = .ok (.iconst 0, 1) := by decide +kernel
theorem dX4_isMissing_15 : decode cX4_isMissing 15 = .ok (.ireturn, 1) := by decide +kernel
theorem dX4_laneOf_0 : decode cX4_laneOf 0 = .ok (.aload_n 0, 1) := by decide +kernel
theorem dX4_laneOf_1 : decode cX4_laneOf 1 = .ok (.getfield 15, 3) := by decide +kernel
theorem dX4_laneOf_4 : decode cX4_laneOf 4 = .ok (.iload_n 1, 1) := by decide +kernel
theorem dX4_laneOf_5 : decode cX4_laneOf 5 = .ok (.iaload, 1) := by decide +kernel
theorem dX4_laneOf_6 : decode cX4_laneOf 6 = .ok (.ireturn, 1) := by decide +kernel
theorem dX4_holds_0 : decode cX4_holds 0 = .ok (.iload_n 2, 1) := by decide +kernel
theorem dX4_holds_1 : decode cX4_holds 1 = .ok (.ifCond .lt 23, 3) := by decide +kernel
theorem dX4_holds_4 : decode cX4_holds 4 = .ok (.iload_n 3, 1) := by decide +kernel
theorem dX4_holds_5 : decode cX4_holds 5 = .ok (.ifCond .lt 19, 3) := by decide +kernel
theorem dX4_holds_8 : decode cX4_holds 8 = .ok (.iload_n 2, 1) := by decide +kernel
theorem dX4_holds_9 : decode cX4_holds 9 = .ok (.aload_n 0, 1) := by decide +kernel
theorem dX4_holds_10 : decode cX4_holds 10 = .ok (.getfield 18, 3) := by decide +kernel
theorem dX4_holds_13 : decode cX4_holds 13 = .ok (.iload_n 1, 1) := by decide +kernel
theorem dX4_holds_14 : decode cX4_holds 14 = .ok (.iaload, 1) := by decide +kernel
theorem dX4_holds_15 : decode cX4_holds 15 = .ok (.iload_n 3, 1) := by decide +kernel
theorem dX4_holds_16 : decode cX4_holds 16 = .ok (.isub, 1) := by decide +kernel
theorem dX4_holds_17 : decode cX4_holds 17 = .ok (.if_icmp .gt 7, 3) := by decide +kernel
theorem dX4_holds_20 : decode cX4_holds 20 = .ok (.iconst 1, 1) := by decide +kernel
theorem dX4_holds_21 : decode cX4_holds 21 = .ok (.goto 4, 3) := by decide +kernel
theorem dX4_holds_24 : decode cX4_holds 24 = .ok (.iconst 0, 1) := by decide +kernel
theorem dX4_holds_25 : decode cX4_holds 25 = .ok (.ireturn, 1) := by decide +kernel
theorem dX4_put_0 : decode cX4_put 0 = .ok (.aload_n 0, 1) := by decide +kernel
theorem dX4_put_1 : decode cX4_put 1 = .ok (.getfield 15, 3) := by decide +kernel
theorem dX4_put_4 : decode cX4_put 4 = .ok (.iload_n 1, 1) := by decide +kernel
theorem dX4_put_5 : decode cX4_put 5 = .ok (.iaload, 1) := by decide +kernel
theorem dX4_put_6 : decode cX4_put 6 = .ok (.ifCond .ne 8, 3) := by decide +kernel
theorem dX4_put_9 : decode cX4_put 9 = .ok (.iload_n 3, 1) := by decide +kernel
theorem dX4_put_10 : decode cX4_put 10 = .ok (.i2b, 1) := by decide +kernel
theorem dX4_put_11 : decode cX4_put 11 = .ok (.goto 19, 3) := by decide +kernel
theorem dX4_put_14 : decode cX4_put 14 = .ok (.aload_n 0, 1) := by decide +kernel
theorem dX4_put_15 : decode cX4_put 15 = .ok (.getfield 15, 3) := by decide +kernel
theorem dX4_put_18 : decode cX4_put 18 = .ok (.iload_n 1, 1) := by decide +kernel
theorem dX4_put_19 : decode cX4_put 19 = .ok (.iaload, 1) := by decide +kernel
theorem dX4_put_20 : decode cX4_put 20 = .ok (.iconst 1, 1) := by decide +kernel
theorem dX4_put_21 : decode cX4_put 21 = .ok (.if_icmp .ne 8, 3) := by decide +kernel
theorem dX4_put_24 : decode cX4_put 24 = .ok (.iload_n 3, 1) := by decide +kernel
theorem dX4_put_25 : decode cX4_put 25 = .ok (.i2s, 1) := by decide +kernel
theorem dX4_put_26 : decode cX4_put 26 = .ok (.goto 4, 3) := by decide +kernel
theorem dX4_put_29 : decode cX4_put 29 = .ok (.iload_n 3, 1) := by decide +kernel
theorem dX4_put_30 : decode cX4_put 30 = .ok (.istore 4, 2) := by decide +kernel
theorem dX4_put_32 : decode cX4_put 32 = .ok (.aload_n 0, 1) := by decide +kernel
theorem dX4_put_33 : decode cX4_put 33 = .ok (.getfield 9, 3) := by decide +kernel
theorem dX4_put_36 : decode cX4_put 36 = .ok (.iload_n 1, 1) := by decide +kernel
theorem dX4_put_37 : decode cX4_put 37 = .ok (.bipush 40, 2) := by decide +kernel
theorem dX4_put_39 : decode cX4_put 39 = .ok (.imul, 1) := by decide +kernel
theorem dX4_put_40 : decode cX4_put 40 = .ok (.iload_n 2, 1) := by decide +kernel
theorem dX4_put_41 : decode cX4_put 41 = .ok (.iadd, 1) := by decide +kernel
theorem dX4_put_42 : decode cX4_put 42 = .ok (.iload 4, 2) := by decide +kernel
theorem dX4_put_44 : decode cX4_put 44 = .ok (.iastore, 1) := by decide +kernel
theorem dX4_put_45 : decode cX4_put 45 = .ok (.iload 4, 2) := by decide +kernel
theorem dX4_put_47 : decode cX4_put 47 = .ok (.ireturn, 1) := by decide +kernel
theorem dX4_itemOf_0 : decode cX4_itemOf 0 = .ok (.aload_n 0, 1) := by decide +kernel
theorem dX4_itemOf_1 : decode cX4_itemOf 1 = .ok (.getfield 9, 3) := by decide +kernel
theorem dX4_itemOf_4 : decode cX4_itemOf 4 = .ok (.iload_n 1, 1) := by decide +kernel
theorem dX4_itemOf_5 : decode cX4_itemOf 5 = .ok (.bipush 40, 2) := by decide +kernel
theorem dX4_itemOf_7 : decode cX4_itemOf 7 = .ok (.imul, 1) := by decide +kernel
theorem dX4_itemOf_8 : decode cX4_itemOf 8 = .ok (.iload_n 2, 1) := by decide +kernel
theorem dX4_itemOf_9 : decode cX4_itemOf 9 = .ok (.iadd, 1) := by decide +kernel
theorem dX4_itemOf_10 : decode cX4_itemOf 10 = .ok (.iaload, 1) := by decide +kernel
theorem dX4_itemOf_11 : decode cX4_itemOf 11 = .ok (.ireturn, 1) := by decide +kernel
theorem dX4_carry_0 : decode cX4_carry 0 = .ok (.aload_n 0, 1) := by decide +kernel
theorem dX4_carry_1 : decode cX4_carry 1 = .ok (.getfield 9, 3) := by decide +kernel
theorem dX4_carry_4 : decode cX4_carry 4 = .ok (.iload_n 1, 1) := by decide +kernel
theorem dX4_carry_5 : decode cX4_carry 5 = .ok (.bipush 40, 2) := by decide +kernel
theorem dX4_carry_7 : decode cX4_carry 7 = .ok (.imul, 1) := by decide +kernel
theorem dX4_carry_8 : decode cX4_carry 8 = .ok (.iload_n 2, 1) := by decide +kernel
theorem dX4_carry_9 : decode cX4_carry 9 = .ok (.iadd, 1) := by decide +kernel
theorem dX4_carry_10 : decode cX4_carry 10 = .ok (.aload_n 0, 1) := by decide +kernel
theorem dX4_carry_11 : decode cX4_carry 11 = .ok (.getfield 9, 3) := by decide +kernel
theorem dX4_carry_14 : decode cX4_carry 14 = .ok (.iload_n 3, 1) := by decide +kernel
theorem dX4_carry_15 : decode cX4_carry 15 = .ok (.bipush 40, 2) := by decide +kernel
theorem dX4_carry_17 : decode cX4_carry 17 = .ok (.imul, 1) := by decide +kernel
theorem dX4_carry_18 : decode cX4_carry 18 = .ok (.iload 4, 2) := by decide +kernel
theorem dX4_carry_20 : decode cX4_carry 20 = .ok (.iadd, 1) := by decide +kernel
theorem dX4_carry_21 : decode cX4_carry 21 = .ok (.iload 5, 2) := by decide +kernel
theorem dX4_carry_23 : decode cX4_carry 23 = .ok (.invokestatic 21, 3) := by decide +kernel
theorem dX4_carry_26 : decode cX4_carry 26 = .ok (.return_, 1) := by decide +kernel
theorem dX4_present_0 : decode cX4_present 0 = .ok (.iconst 0, 1) := by decide +kernel
theorem dX4_present_1 : decode cX4_present 1 = .ok (.istore_n 1, 1) := by decide +kernel
theorem dX4_present_2 : decode cX4_present 2 = .ok (.iconst 0, 1) := by decide +kernel
theorem dX4_present_3 : decode cX4_present 3 = .ok (.istore_n 2, 1) := by decide +kernel
theorem dX4_present_4 : decode cX4_present 4 = .ok (.iload_n 2, 1) := by decide +kernel
theorem dX4_present_5 : decode cX4_present 5 = .ok (.bipush 8, 2) := by decide +kernel
theorem dX4_present_7 : decode cX4_present 7 = .ok (.if_icmp .ge 25, 3) := by decide +kernel
theorem dX4_present_10 : decode cX4_present 10 = .ok (.iload_n 1, 1) := by decide +kernel
theorem dX4_present_11 : decode cX4_present 11 = .ok (.aload_n 0, 1) := by decide +kernel
theorem dX4_present_12 : decode cX4_present 12 = .ok (.iload_n 2, 1) := by decide +kernel
theorem dX4_present_13 : decode cX4_present 13 = .ok (.invokevirtual 27, 3) := by decide +kernel
theorem dX4_present_16 : decode cX4_present 16 = .ok (.ifCond .eq 7, 3) := by decide +kernel
theorem dX4_present_19 : decode cX4_present 19 = .ok (.iconst 0, 1) := by decide +kernel
theorem dX4_present_20 : decode cX4_present 20 = .ok (.goto 4, 3) := by decide +kernel
theorem dX4_present_23 : decode cX4_present 23 = .ok (.iconst 1, 1) := by decide +kernel
theorem dX4_present_24 : decode cX4_present 24 = .ok (.iadd, 1) := by decide +kernel
theorem dX4_present_25 : decode cX4_present 25 = .ok (.istore_n 1, 1) := by decide +kernel
theorem dX4_present_26 : decode cX4_present 26 = .ok (.iinc 2 1, 3) := by decide +kernel
theorem dX4_present_29 : decode cX4_present 29 = .ok (.goto (-25), 3) := by decide +kernel
theorem dX4_present_32 : decode cX4_present 32 = .ok (.iload_n 1, 1) := by decide +kernel
theorem dX4_present_33 : decode cX4_present 33 = .ok (.ireturn, 1) := by decide +kernel
theorem dX5_init_0 : decode cX5_init 0 = .ok (.aload_n 0, 1) := by decide +kernel
theorem dX5_init_1 : decode cX5_init 1 = .ok (.invokespecial 3, 3) := by decide +kernel
theorem dX5_init_4 : decode cX5_init 4 = .ok (.aload_n 0, 1) := by decide +kernel
theorem dX5_init_5 : decode cX5_init 5 = .ok (.bipush 120, 2) := by decide +kernel
theorem dX5_init_7 : decode cX5_init 7 = .ok (.newarray .int, 2) := by decide +kernel
theorem dX5_init_9 : decode cX5_init 9 = .ok (.putfield 9, 3) := by decide +kernel
theorem dX5_init_12 : decode cX5_init 12 = .ok (.return_, 1) := by decide +kernel
theorem dX5_append_0 : decode cX5_append 0 = .ok (.aload_n 0, 1) := by decide +kernel
theorem dX5_append_1 : decode cX5_append 1 = .ok (.getfield 9, 3) := by decide +kernel
theorem dX5_append_4 : decode cX5_append 4 = .ok (.aload_n 0, 1) := by decide +kernel
theorem dX5_append_5 : decode cX5_append 5 = .ok (.getfield 15, 3) := by decide +kernel
theorem dX5_append_8 : decode cX5_append 8 = .ok (.iload_n 1, 1) := by decide +kernel
theorem dX5_append_9 : decode cX5_append 9 = .ok (.iastore, 1) := by decide +kernel
theorem dX5_append_10 : decode cX5_append 10 = .ok (.aload_n 0, 1) := by decide +kernel
theorem dX5_append_11 : decode cX5_append 11 = .ok (.dup, 1) := by decide +kernel
theorem dX5_append_12 : decode cX5_append 12 = .ok (.getfield 15, 3) := by decide +kernel
theorem dX5_append_15 : decode cX5_append 15 = .ok (.iconst 1, 1) := by decide +kernel
theorem dX5_append_16 : decode cX5_append 16 = .ok (.iadd, 1) := by decide +kernel
theorem dX5_append_17 : decode cX5_append 17 = .ok (.putfield 15, 3) := by decide +kernel
theorem dX5_append_20 : decode cX5_append 20 = .ok (.aload_n 0, 1) := by decide +kernel
theorem dX5_append_21 : decode cX5_append 21 = .ok (.getfield 15, 3) := by decide +kernel
theorem dX5_append_24 : decode cX5_append 24 = .ok (.ireturn, 1) := by decide +kernel
theorem dX5_tells_0 : decode cX5_tells 0 = .ok (.aload_n 0, 1) := by decide +kernel
theorem dX5_tells_1 : decode cX5_tells 1 = .ok (.iconst 0, 1) := by decide +kernel
theorem dX5_tells_2 : decode cX5_tells 2 = .ok (.putfield 19, 3) := by decide +kernel
theorem dX5_tells_5 : decode cX5_tells 5 = .ok (.aload_n 0, 1) := by decide +kernel
theorem dX5_tells_6 : decode cX5_tells 6 = .ok (.aload_n 1, 1) := by decide +kernel
theorem dX5_tells_7 : decode cX5_tells 7 = .ok (.invokevirtual 22, 3) := by decide +kernel
theorem dX5_tells_10 : decode cX5_tells 10 = .ok (.ifCond .eq 42, 3) := by decide +kernel
theorem dX5_tells_13 : decode cX5_tells 13 = .ok (.aload_n 0, 1) := by decide +kernel
theorem dX5_tells_14 : decode cX5_tells 14 = .ok (.aload_n 1, 1) := by decide +kernel
theorem dX5_tells_15 : decode cX5_tells 15 = .ok (.invokevirtual 26, 3) := by decide +kernel
theorem dX5_tells_18 : decode cX5_tells 18 = .ok (.ifCond .eq 34, 3) := by decide +kernel
theorem dX5_tells_21 : decode cX5_tells 21 = .ok (.aload_n 0, 1) := by decide +kernel
theorem dX5_tells_22 : decode cX5_tells 22 = .ok (.aload_n 1, 1) := by decide +kernel
theorem dX5_tells_23 : decode cX5_tells 23 = .ok (.invokevirtual 29, 3) := by decide +kernel
theorem dX5_tells_26 : decode cX5_tells 26 = .ok (.ifCond .eq 26, 3) := by decide +kernel
theorem dX5_tells_29 : decode cX5_tells 29 = .ok (.aload_n 0, 1) := by decide +kernel
theorem dX5_tells_30 : decode cX5_tells 30 = .ok (.getfield 19, 3) := by decide +kernel
theorem dX5_tells_33 : decode cX5_tells 33 = .ok (.aload_n 0, 1) := by decide +kernel
theorem dX5_tells_34 : decode cX5_tells 34 = .ok (.getfield 15, 3) := by decide +kernel
theorem dX5_tells_37 : decode cX5_tells 37 = .ok (.if_icmp .eq 11, 3) := by decide +kernel
theorem dX5_tells_40 : decode cX5_tells 40 = .ok (.aload_n 0, 1) := by decide +kernel
theorem dX5_tells_41 : decode cX5_tells 41 = .ok (.iconst 1, 1) := by decide +kernel
theorem dX5_tells_42 : decode cX5_tells 42 = .ok (.invokevirtual 32, 3) := by decide +kernel
theorem dX5_tells_45 : decode cX5_tells 45 = .ok (.ifCond .eq 7, 3) := by decide +kernel
theorem dX5_tells_48 : decode cX5_tells 48 = .ok (.iconst 1, 1) := by decide +kernel
theorem dX5_tells_49 : decode cX5_tells 49 = .ok (.goto 4, 3) := by decide +kernel
theorem dX5_tells_52 : decode cX5_tells 52 = .ok (.iconst 0, 1) := by decide +kernel
theorem dX5_tells_53 : decode cX5_tells 53 = .ok (.ireturn, 1) := by decide +kernel
theorem dX5_tellsLaw_0 : decode cX5_tellsLaw 0 = .ok (.aload_n 0, 1) := by decide +kernel
theorem dX5_tellsLaw_1 : decode cX5_tellsLaw 1 = .ok (.bipush 107, 2) := by decide +kernel
theorem dX5_tellsLaw_3 : decode cX5_tellsLaw 3 = .ok (.invokevirtual 36, 3) := by decide +kernel
theorem dX5_tellsLaw_6 : decode cX5_tellsLaw 6 = .ok (.ifCond .eq 14, 3) := by decide +kernel
theorem dX5_tellsLaw_9 : decode cX5_tellsLaw 9 = .ok (.aload_n 0, 1) := by decide +kernel
theorem dX5_tellsLaw_10 : decode cX5_tellsLaw 10 = .ok (.iconst 0, 1) := by decide +kernel
theorem dX5_tellsLaw_11 : decode cX5_tellsLaw 11 = .ok (.bipush 7, 2) := by decide +kernel
theorem dX5_tellsLaw_13 : decode cX5_tellsLaw 13 = .ok (.iconst (-1), 1) := by decide +kernel
theorem dX5_tellsLaw_14 : decode cX5_tellsLaw 14 = .ok (.invokevirtual 39, 3) := by decide +kernel
theorem dX5_tellsLaw_17 : decode cX5_tellsLaw 17 = .ok (.ifCond .ne 5, 3) := by decide +kernel
theorem dX5_tellsLaw_20 : decode cX5_tellsLaw 20 = .ok (.iconst 0, 1) := by decide +kernel
theorem dX5_tellsLaw_21 : decode cX5_tellsLaw 21 = .ok (.ireturn, 1) := by decide +kernel
theorem dX5_tellsLaw_22 : decode cX5_tellsLaw 22 = .ok (.aload_n 1, 1) := by decide +kernel
theorem dX5_tellsLaw_23 : decode cX5_tellsLaw 23 = .ok (.aload_n 0, 1) := by decide +kernel
theorem dX5_tellsLaw_24 : decode cX5_tellsLaw 24 = .ok (.getfield 43, 3) := by decide +kernel
theorem dX5_tellsLaw_27 : decode cX5_tellsLaw 27 = .ok (.putfield 46, 3) := by decide +kernel
theorem dX5_tellsLaw_30 : decode cX5_tellsLaw 30 = .ok (.aload_n 0, 1) := by decide +kernel
theorem dX5_tellsLaw_31 : decode cX5_tellsLaw 31 = .ok (.bipush 44, 2) := by decide +kernel
theorem dX5_tellsLaw_33 : decode cX5_tellsLaw 33 = .ok (.invokevirtual 36, 3) := by decide +kernel
theorem dX5_tellsLaw_36 : decode cX5_tellsLaw 36 = .ok (.ifCond .eq 17, 3) := by decide +kernel
theorem dX5_tellsLaw_39 : decode cX5_tellsLaw 39 = .ok (.aload_n 0, 1) := by decide +kernel
theorem dX5_tellsLaw_40 : decode cX5_tellsLaw 40 = .ok (.iconst 0, 1) := by decide +kernel
theorem dX5_tellsLaw_41 : decode cX5_tellsLaw 41 = .ok (.bipush 7, 2) := by decide +kernel
theorem dX5_tellsLaw_43 : decode cX5_tellsLaw 43 = .ok (.aload_n 1, 1) := by decide +kernel
theorem dX5_tellsLaw_44 : decode cX5_tellsLaw 44 = .ok (.getfield 46, 3) := by decide +kernel
theorem dX5_tellsLaw_47 : decode cX5_tellsLaw 47 = .ok (.invokevirtual 39, 3) := by decide +kernel
theorem dX5_tellsLaw_50 : decode cX5_tellsLaw 50 = .ok (.ifCond .ne 5, 3) := by decide +kernel
theorem dX5_tellsLaw_53 : decode cX5_tellsLaw 53 = .ok (.iconst 0, 1) := by decide +kernel
theorem dX5_tellsLaw_54 : decode cX5_tellsLaw 54 = .ok (.ireturn, 1) := by decide +kernel
theorem dX5_tellsLaw_55 : decode cX5_tellsLaw 55 = .ok (.aload_n 1, 1) := by decide +kernel
theorem dX5_tellsLaw_56 : decode cX5_tellsLaw 56 = .ok (.aload_n 0, 1) := by decide +kernel
theorem dX5_tellsLaw_57 : decode cX5_tellsLaw 57 = .ok (.getfield 43, 3) := by decide +kernel
theorem dX5_tellsLaw_60 : decode cX5_tellsLaw 60 = .ok (.putfield 51, 3) := by decide +kernel
theorem dX5_tellsLaw_63 : decode cX5_tellsLaw 63 = .ok (.aload_n 0, 1) := by decide +kernel
theorem dX5_tellsLaw_64 : decode cX5_tellsLaw 64 = .ok (.bipush 44, 2) := by decide +kernel
theorem dX5_tellsLaw_66 : decode cX5_tellsLaw 66 = .ok (.invokevirtual 36, 3) := by decide +kernel
theorem dX5_tellsLaw_69 : decode cX5_tellsLaw 69 = .ok (.ifCond .eq 13, 3) := by decide +kernel
theorem dX5_tellsLaw_72 : decode cX5_tellsLaw 72 = .ok (.aload_n 0, 1) := by decide +kernel
theorem dX5_tellsLaw_73 : decode cX5_tellsLaw 73 = .ok (.iconst 1, 1) := by decide +kernel
theorem dX5_tellsLaw_74 : decode cX5_tellsLaw 74 = .ok (.iconst 5, 1) := by decide +kernel
theorem dX5_tellsLaw_75 : decode cX5_tellsLaw 75 = .ok (.iconst (-1), 1) := by decide +kernel
theorem dX5_tellsLaw_76 : decode cX5_tellsLaw 76 = .ok (.invokevirtual 39, 3) := by decide +kernel
theorem dX5_tellsLaw_79 : decode cX5_tellsLaw 79 = .ok (.ifCond .ne 5, 3) := by decide +kernel
theorem dX5_tellsLaw_82 : decode cX5_tellsLaw 82 = .ok (.iconst 0, 1) := by decide +kernel
theorem dX5_tellsLaw_83 : decode cX5_tellsLaw 83 = .ok (.ireturn, 1) := by decide +kernel
theorem dX5_tellsLaw_84 : decode cX5_tellsLaw 84 = .ok (.aload_n 1, 1) := by decide +kernel
theorem dX5_tellsLaw_85 : decode cX5_tellsLaw 85 = .ok (.aload_n 0, 1) := by decide +kernel
theorem dX5_tellsLaw_86 : decode cX5_tellsLaw 86 = .ok (.getfield 43, 3) := by decide +kernel
theorem dX5_tellsLaw_89 : decode cX5_tellsLaw 89 = .ok (.putfield 54, 3) := by decide +kernel
theorem dX5_tellsLaw_92 : decode cX5_tellsLaw 92 = .ok (.aload_n 0, 1) := by decide +kernel
theorem dX5_tellsLaw_93 : decode cX5_tellsLaw 93 = .ok (.bipush 59, 2) := by decide +kernel
theorem dX5_tellsLaw_95 : decode cX5_tellsLaw 95 = .ok (.invokevirtual 36, 3) := by decide +kernel
theorem dX5_tellsLaw_98 : decode cX5_tellsLaw 98 = .ok (.ireturn, 1) := by decide +kernel
theorem dX5_tellsHints_0 : decode cX5_tellsHints 0 = .ok (.iconst 0, 1) := by decide +kernel
theorem dX5_tellsHints_1 : decode cX5_tellsHints 1 = .ok (.istore_n 2, 1) := by decide +kernel
theorem dX5_tellsHints_2 : decode cX5_tellsHints 2 = .ok (.iload_n 2, 1) := by decide +kernel
theorem dX5_tellsHints_3 : decode cX5_tellsHints 3 = .ok (.bipush 8, 2) := by decide +kernel
theorem dX5_tellsHints_5 : decode cX5_tellsHints 5 = .ok (.if_icmp .ge 30, 3) := by decide +kernel
theorem dX5_tellsHints_8 : decode cX5_tellsHints 8 = .ok (.aload_n 0, 1) := by decide +kernel
theorem dX5_tellsHints_9 : decode cX5_tellsHints 9 = .ok (.invokevirtual 57, 3) := by decide +kernel
theorem dX5_tellsHints_12 : decode cX5_tellsHints 12 = .ok (.invokestatic 61, 3) := by decide +kernel
theorem dX5_tellsHints_15 : decode cX5_tellsHints 15 = .ok (.ifCond .eq 20, 3) := by decide +kernel
theorem dX5_tellsHints_18 : decode cX5_tellsHints 18 = .ok (.aload_n 0, 1) := by decide +kernel
theorem dX5_tellsHints_19 : decode cX5_tellsHints 19 = .ok (.aload_n 1, 1) := by decide +kernel
theorem dX5_tellsHints_20 : decode cX5_tellsHints 20 = .ok (.iload_n 2, 1) := by decide +kernel
theorem dX5_tellsHints_21 : decode cX5_tellsHints 21 = .ok (.invokevirtual 65, 3) := by decide +kernel
theorem dX5_tellsHints_24 : decode cX5_tellsHints 24 = .ok (.ifCond .ne 5, 3) := by decide +kernel
theorem dX5_tellsHints_27 : decode cX5_tellsHints 27 = .ok (.iconst 0, 1) := by decide +kernel
theorem dX5_tellsHints_28 : decode cX5_tellsHints 28 = .ok (.ireturn, 1) := by decide +kernel
theorem dX5_tellsHints_29 : decode cX5_tellsHints 29 = .ok (.iinc 2 1, 3) := by decide +kernel
theorem dX5_tellsHints_32 : decode cX5_tellsHints 32 = .ok (.goto (-30), 3) := by decide +kernel
theorem dX5_tellsHints_35 : decode cX5_tellsHints 35 = .ok (.aload_n 1, 1) := by decide +kernel
theorem dX5_tellsHints_36 : decode cX5_tellsHints 36 = .ok (.iload_n 2, 1) := by decide +kernel
theorem dX5_tellsHints_37 : decode cX5_tellsHints 37 = .ok (.putfield 69, 3) := by decide +kernel
theorem dX5_tellsHints_40 : decode cX5_tellsHints 40 = .ok (.aload_n 0, 1) := by decide +kernel
theorem dX5_tellsHints_41 : decode cX5_tellsHints 41 = .ok (.invokevirtual 57, 3) := by decide +kernel
theorem dX5_tellsHints_44 : decode cX5_tellsHints 44 = .ok (.invokestatic 61, 3) := by decide +kernel
theorem dX5_tellsHints_47 : decode cX5_tellsHints 47 = .ok (.ifCond .eq 11, 3) := by decide +kernel
theorem dX5_tellsHints_50 : decode cX5_tellsHints 50 = .ok (.aload_n 0, 1) := by decide +kernel
theorem dX5_tellsHints_51 : decode cX5_tellsHints 51 = .ok (.iconst 3, 1) := by decide +kernel
theorem dX5_tellsHints_52 : decode cX5_tellsHints 52 = .ok (.invokevirtual 32, 3) := by decide +kernel
theorem dX5_tellsHints_55 : decode cX5_tellsHints 55 = .ok (.ifCond .eq 7, 3) := by decide +kernel
theorem dX5_tellsHints_58 : decode cX5_tellsHints 58 = .ok (.iconst 1, 1) := by decide +kernel
theorem dX5_tellsHints_59 : decode cX5_tellsHints 59 = .ok (.goto 4, 3) := by decide +kernel
theorem dX5_tellsHints_62 : decode cX5_tellsHints 62 = .ok (.iconst 0, 1) := by decide +kernel
theorem dX5_tellsHints_63 : decode cX5_tellsHints 63 = .ok (.ireturn, 1) := by decide +kernel
theorem dX5_tellsHint_0 : decode cX5_tellsHint 0 = .ok (.aload_n 1, 1) := by decide +kernel
theorem dX5_tellsHint_1 : decode cX5_tellsHint 1 = .ok (.getfield 72, 3) := by decide +kernel
theorem dX5_tellsHint_4 : decode cX5_tellsHint 4 = .ok (.iload_n 2, 1) := by decide +kernel
theorem dX5_tellsHint_5 : decode cX5_tellsHint 5 = .ok (.aload_n 0, 1) := by decide +kernel
theorem dX5_tellsHint_6 : decode cX5_tellsHint 6 = .ok (.invokevirtual 57, 3) := by decide +kernel
theorem dX5_tellsHint_9 : decode cX5_tellsHint 9 = .ok (.invokestatic 61, 3) := by decide +kernel
theorem dX5_tellsHint_12 : decode cX5_tellsHint 12 = .ok (.iastore, 1) := by decide +kernel
theorem dX5_tellsHint_13 : decode cX5_tellsHint 13 = .ok (.aload_n 0, 1) := by decide +kernel
theorem dX5_tellsHint_14 : decode cX5_tellsHint 14 = .ok (.dup, 1) := by decide +kernel
theorem dX5_tellsHint_15 : decode cX5_tellsHint 15 = .ok (.getfield 19, 3) := by decide +kernel
theorem dX5_tellsHint_18 : decode cX5_tellsHint 18 = .ok (.iconst 1, 1) := by decide +kernel
theorem dX5_tellsHint_19 : decode cX5_tellsHint 19 = .ok (.iadd, 1) := by decide +kernel
theorem dX5_tellsHint_20 : decode cX5_tellsHint 20 = .ok (.putfield 19, 3) := by decide +kernel
theorem dX5_tellsHint_23 : decode cX5_tellsHint 23 = .ok (.aload_n 0, 1) := by decide +kernel
theorem dX5_tellsHint_24 : decode cX5_tellsHint 24 = .ok (.iconst 0, 1) := by decide +kernel
theorem dX5_tellsHint_25 : decode cX5_tellsHint 25 = .ok (.bipush 7, 2) := by decide +kernel
theorem dX5_tellsHint_27 : decode cX5_tellsHint 27 = .ok (.iconst (-1), 1) := by decide +kernel
theorem dX5_tellsHint_28 : decode cX5_tellsHint 28 = .ok (.invokevirtual 39, 3) := by decide +kernel
theorem dX5_tellsHint_31 : decode cX5_tellsHint 31 = .ok (.ifCond .ne 5, 3) := by decide +kernel
theorem dX5_tellsHint_34 : decode cX5_tellsHint 34 = .ok (.iconst 0, 1) := by decide +kernel
theorem dX5_tellsHint_35 : decode cX5_tellsHint 35 = .ok (.ireturn, 1) := by decide +kernel
theorem dX5_tellsHint_36 : decode cX5_tellsHint 36 = .ok (.aload_n 1, 1) := by decide +kernel
theorem dX5_tellsHint_37 : decode cX5_tellsHint 37 = .ok (.getfield 75, 3) := by decide +kernel
theorem dX5_tellsHint_40 : decode cX5_tellsHint 40 = .ok (.iload_n 2, 1) := by decide +kernel
theorem dX5_tellsHint_41 : decode cX5_tellsHint 41 = .ok (.aload_n 0, 1) := by decide +kernel
theorem dX5_tellsHint_42 : decode cX5_tellsHint 42 = .ok (.getfield 43, 3) := by decide +kernel
theorem dX5_tellsHint_45 : decode cX5_tellsHint 45 = .ok (.iastore, 1) := by decide +kernel
theorem dX5_tellsHint_46 : decode cX5_tellsHint 46 = .ok (.aload_n 0, 1) := by decide +kernel
theorem dX5_tellsHint_47 : decode cX5_tellsHint 47 = .ok (.bipush 44, 2) := by decide +kernel
theorem dX5_tellsHint_49 : decode cX5_tellsHint 49 = .ok (.invokevirtual 36, 3) := by decide +kernel
theorem dX5_tellsHint_52 : decode cX5_tellsHint 52 = .ok (.ifCond .eq 19, 3) := by decide +kernel
theorem dX5_tellsHint_55 : decode cX5_tellsHint 55 = .ok (.aload_n 0, 1) := by decide +kernel
theorem dX5_tellsHint_56 : decode cX5_tellsHint 56 = .ok (.iconst 0, 1) := by decide +kernel
theorem dX5_tellsHint_57 : decode cX5_tellsHint 57 = .ok (.bipush 7, 2) := by decide +kernel
theorem dX5_tellsHint_59 : decode cX5_tellsHint 59 = .ok (.aload_n 1, 1) := by decide +kernel
theorem dX5_tellsHint_60 : decode cX5_tellsHint 60 = .ok (.getfield 75, 3) := by decide +kernel
theorem dX5_tellsHint_63 : decode cX5_tellsHint 63 = .ok (.iload_n 2, 1) := by decide +kernel
theorem dX5_tellsHint_64 : decode cX5_tellsHint 64 = .ok (.iaload, 1) := by decide +kernel
theorem dX5_tellsHint_65 : decode cX5_tellsHint 65 = .ok (.invokevirtual 39, 3) := by decide +kernel
theorem dX5_tellsHint_68 : decode cX5_tellsHint 68 = .ok (.ifCond .ne 5, 3) := by decide +kernel
theorem dX5_tellsHint_71 : decode cX5_tellsHint 71 = .ok (.iconst 0, 1) := by decide +kernel
theorem dX5_tellsHint_72 : decode cX5_tellsHint 72 = .ok (.ireturn, 1) := by decide +kernel
theorem dX5_tellsHint_73 : decode cX5_tellsHint 73 = .ok (.aload_n 1, 1) := by decide +kernel
theorem dX5_tellsHint_74 : decode cX5_tellsHint 74 = .ok (.getfield 78, 3) := by decide +kernel
theorem dX5_tellsHint_77 : decode cX5_tellsHint 77 = .ok (.iload_n 2, 1) := by decide +kernel
theorem dX5_tellsHint_78 : decode cX5_tellsHint 78 = .ok (.aload_n 0, 1) := by decide +kernel
theorem dX5_tellsHint_79 : decode cX5_tellsHint 79 = .ok (.getfield 43, 3) := by decide +kernel
theorem dX5_tellsHint_82 : decode cX5_tellsHint 82 = .ok (.iastore, 1) := by decide +kernel
theorem dX5_tellsHint_83 : decode cX5_tellsHint 83 = .ok (.aload_n 0, 1) := by decide +kernel
theorem dX5_tellsHint_84 : decode cX5_tellsHint 84 = .ok (.bipush 59, 2) := by decide +kernel
theorem dX5_tellsHint_86 : decode cX5_tellsHint 86 = .ok (.invokevirtual 36, 3) := by decide +kernel
theorem dX5_tellsHint_89 : decode cX5_tellsHint 89 = .ok (.ireturn, 1) := by decide +kernel
theorem dX5_tellsGuests_0 : decode cX5_tellsGuests 0 = .ok (.iconst 0, 1) := by decide +kernel
theorem dX5_tellsGuests_1 : decode cX5_tellsGuests 1 = .ok (.istore_n 2, 1) := by decide +kernel
theorem dX5_tellsGuests_2 : decode cX5_tellsGuests 2 = .ok (.iload_n 2, 1) := by decide +kernel
theorem dX5_tellsGuests_3 : decode cX5_tellsGuests 3 = .ok (.bipush 6, 2) := by decide +kernel
theorem dX5_tellsGuests_5 : decode cX5_tellsGuests 5 = .ok (.if_icmp .ge 29, 3) := by decide +kernel
theorem dX5_tellsGuests_8 : decode cX5_tellsGuests 8 = .ok (.aload_n 0, 1) := by decide +kernel
theorem dX5_tellsGuests_9 : decode cX5_tellsGuests 9 = .ok (.invokevirtual 57, 3) := by decide +kernel
theorem dX5_tellsGuests_12 : decode cX5_tellsGuests 12 = .ok (.bipush 110, 2) := by decide +kernel
theorem dX5_tellsGuests_14 : decode cX5_tellsGuests 14 = .ok (.if_icmp .ne 20, 3) := by decide +kernel
theorem dX5_tellsGuests_17 : decode cX5_tellsGuests 17 = .ok (.aload_n 0, 1) := by decide +kernel
theorem dX5_tellsGuests_18 : decode cX5_tellsGuests 18 = .ok (.aload_n 1, 1) := by decide +kernel
theorem dX5_tellsGuests_19 : decode cX5_tellsGuests 19 = .ok (.iload_n 2, 1) := by decide +kernel
theorem dX5_tellsGuests_20 : decode cX5_tellsGuests 20 = .ok (.invokevirtual 81, 3) := by decide +kernel
theorem dX5_tellsGuests_23 : decode cX5_tellsGuests 23 = .ok (.ifCond .ne 5, 3) := by decide +kernel
theorem dX5_tellsGuests_26 : decode cX5_tellsGuests 26 = .ok (.iconst 0, 1) := by decide +kernel
theorem dX5_tellsGuests_27 : decode cX5_tellsGuests 27 = .ok (.ireturn, 1) := by decide +kernel
theorem dX5_tellsGuests_28 : decode cX5_tellsGuests 28 = .ok (.iinc 2 1, 3) := by decide +kernel
theorem dX5_tellsGuests_31 : decode cX5_tellsGuests 31 = .ok (.goto (-29), 3) := by decide +kernel
theorem dX5_tellsGuests_34 : decode cX5_tellsGuests 34 = .ok (.aload_n 1, 1) := by decide +kernel
theorem dX5_tellsGuests_35 : decode cX5_tellsGuests 35 = .ok (.iload_n 2, 1) := by decide +kernel
theorem dX5_tellsGuests_36 : decode cX5_tellsGuests 36 = .ok (.putfield 84, 3) := by decide +kernel
theorem dX5_tellsGuests_39 : decode cX5_tellsGuests 39 = .ok (.aload_n 0, 1) := by decide +kernel
theorem dX5_tellsGuests_40 : decode cX5_tellsGuests 40 = .ok (.invokevirtual 57, 3) := by decide +kernel
theorem dX5_tellsGuests_43 : decode cX5_tellsGuests 43 = .ok (.bipush 110, 2) := by decide +kernel
theorem dX5_tellsGuests_45 : decode cX5_tellsGuests 45 = .ok (.if_icmp .ne 11, 3) := by decide +kernel
theorem dX5_tellsGuests_48 : decode cX5_tellsGuests 48 = .ok (.aload_n 0, 1) := by decide +kernel
theorem dX5_tellsGuests_49 : decode cX5_tellsGuests 49 = .ok (.iconst 3, 1) := by decide +kernel
theorem dX5_tellsGuests_50 : decode cX5_tellsGuests 50 = .ok (.invokevirtual 32, 3) := by decide +kernel
theorem dX5_tellsGuests_53 : decode cX5_tellsGuests 53 = .ok (.ifCond .eq 7, 3) := by decide +kernel
theorem dX5_tellsGuests_56 : decode cX5_tellsGuests 56 = .ok (.iconst 1, 1) := by decide +kernel
theorem dX5_tellsGuests_57 : decode cX5_tellsGuests 57 = .ok (.goto 4, 3) := by decide +kernel
theorem dX5_tellsGuests_60 : decode cX5_tellsGuests 60 = .ok (.iconst 0, 1) := by decide +kernel
theorem dX5_tellsGuests_61 : decode cX5_tellsGuests 61 = .ok (.ireturn, 1) := by decide +kernel
theorem dX5_tellsGuest_0 : decode cX5_tellsGuest 0 = .ok (.aload_n 0, 1) := by decide +kernel
theorem dX5_tellsGuest_1 : decode cX5_tellsGuest 1 = .ok (.dup, 1) := by decide +kernel
theorem dX5_tellsGuest_2 : decode cX5_tellsGuest 2 = .ok (.getfield 19, 3) := by decide +kernel
theorem dX5_tellsGuest_5 : decode cX5_tellsGuest 5 = .ok (.iconst 1, 1) := by decide +kernel
theorem dX5_tellsGuest_6 : decode cX5_tellsGuest 6 = .ok (.iadd, 1) := by decide +kernel
theorem dX5_tellsGuest_7 : decode cX5_tellsGuest 7 = .ok (.putfield 19, 3) := by decide +kernel
theorem dX5_tellsGuest_10 : decode cX5_tellsGuest 10 = .ok (.aload_n 0, 1) := by decide +kernel
theorem dX5_tellsGuest_11 : decode cX5_tellsGuest 11 = .ok (.iconst 0, 1) := by decide +kernel
theorem dX5_tellsGuest_12 : decode cX5_tellsGuest 12 = .ok (.bipush 7, 2) := by decide +kernel
theorem dX5_tellsGuest_14 : decode cX5_tellsGuest 14 = .ok (.iconst (-1), 1) := by decide +kernel
theorem dX5_tellsGuest_15 : decode cX5_tellsGuest 15 = .ok (.invokevirtual 39, 3) := by decide +kernel
theorem dX5_tellsGuest_18 : decode cX5_tellsGuest 18 = .ok (.ifCond .ne 5, 3) := by decide +kernel
theorem dX5_tellsGuest_21 : decode cX5_tellsGuest 21 = .ok (.iconst 0, 1) := by decide +kernel
theorem dX5_tellsGuest_22 : decode cX5_tellsGuest 22 = .ok (.ireturn, 1) := by decide +kernel
theorem dX5_tellsGuest_23 : decode cX5_tellsGuest 23 = .ok (.aload_n 1, 1) := by decide +kernel
theorem dX5_tellsGuest_24 : decode cX5_tellsGuest 24 = .ok (.getfield 87, 3) := by decide +kernel
theorem dX5_tellsGuest_27 : decode cX5_tellsGuest 27 = .ok (.iload_n 2, 1) := by decide +kernel
theorem dX5_tellsGuest_28 : decode cX5_tellsGuest 28 = .ok (.aload_n 0, 1) := by decide +kernel
theorem dX5_tellsGuest_29 : decode cX5_tellsGuest 29 = .ok (.getfield 43, 3) := by decide +kernel
theorem dX5_tellsGuest_32 : decode cX5_tellsGuest 32 = .ok (.iastore, 1) := by decide +kernel
theorem dX5_tellsGuest_33 : decode cX5_tellsGuest 33 = .ok (.aload_n 0, 1) := by decide +kernel
theorem dX5_tellsGuest_34 : decode cX5_tellsGuest 34 = .ok (.bipush 44, 2) := by decide +kernel
theorem dX5_tellsGuest_36 : decode cX5_tellsGuest 36 = .ok (.invokevirtual 36, 3) := by decide +kernel
theorem dX5_tellsGuest_39 : decode cX5_tellsGuest 39 = .ok (.ifCond .eq 14, 3) := by decide +kernel
theorem dX5_tellsGuest_42 : decode cX5_tellsGuest 42 = .ok (.aload_n 0, 1) := by decide +kernel
theorem dX5_tellsGuest_43 : decode cX5_tellsGuest 43 = .ok (.iconst 0, 1) := by decide +kernel
theorem dX5_tellsGuest_44 : decode cX5_tellsGuest 44 = .ok (.bipush 20, 2) := by decide +kernel
theorem dX5_tellsGuest_46 : decode cX5_tellsGuest 46 = .ok (.iconst (-1), 1) := by decide +kernel
theorem dX5_tellsGuest_47 : decode cX5_tellsGuest 47 = .ok (.invokevirtual 39, 3) := by decide +kernel
theorem dX5_tellsGuest_50 : decode cX5_tellsGuest 50 = .ok (.ifCond .ne 5, 3) := by decide +kernel
theorem dX5_tellsGuest_53 : decode cX5_tellsGuest 53 = .ok (.iconst 0, 1) := by decide +kernel
theorem dX5_tellsGuest_54 : decode cX5_tellsGuest 54 = .ok (.ireturn, 1) := by decide +kernel
theorem dX5_tellsGuest_55 : decode cX5_tellsGuest 55 = .ok (.aload_n 1, 1) := by decide +kernel
theorem dX5_tellsGuest_56 : decode cX5_tellsGuest 56 = .ok (.getfield 90, 3) := by decide +kernel
theorem dX5_tellsGuest_59 : decode cX5_tellsGuest 59 = .ok (.iload_n 2, 1) := by decide +kernel
theorem dX5_tellsGuest_60 : decode cX5_tellsGuest 60 = .ok (.aload_n 0, 1) := by decide +kernel
theorem dX5_tellsGuest_61 : decode cX5_tellsGuest 61 = .ok (.getfield 43, 3) := by decide +kernel
theorem dX5_tellsGuest_64 : decode cX5_tellsGuest 64 = .ok (.iastore, 1) := by decide +kernel
theorem dX5_tellsGuest_65 : decode cX5_tellsGuest 65 = .ok (.aload_n 0, 1) := by decide +kernel
theorem dX5_tellsGuest_66 : decode cX5_tellsGuest 66 = .ok (.bipush 44, 2) := by decide +kernel
theorem dX5_tellsGuest_68 : decode cX5_tellsGuest 68 = .ok (.invokevirtual 36, 3) := by decide +kernel
theorem dX5_tellsGuest_71 : decode cX5_tellsGuest 71 = .ok (.ifCond .eq 14, 3) := by decide +kernel
theorem dX5_tellsGuest_74 : decode cX5_tellsGuest 74 = .ok (.aload_n 0, 1) := by decide +kernel
theorem dX5_tellsGuest_75 : decode cX5_tellsGuest 75 = .ok (.iconst 0, 1) := by decide +kernel
theorem dX5_tellsGuest_76 : decode cX5_tellsGuest 76 = .ok (.bipush 20, 2) := by decide +kernel
theorem dX5_tellsGuest_78 : decode cX5_tellsGuest 78 = .ok (.iconst (-1), 1) := by decide +kernel
theorem dX5_tellsGuest_79 : decode cX5_tellsGuest 79 = .ok (.invokevirtual 39, 3) := by decide +kernel
theorem dX5_tellsGuest_82 : decode cX5_tellsGuest 82 = .ok (.ifCond .ne 5, 3) := by decide +kernel
theorem dX5_tellsGuest_85 : decode cX5_tellsGuest 85 = .ok (.iconst 0, 1) := by decide +kernel
theorem dX5_tellsGuest_86 : decode cX5_tellsGuest 86 = .ok (.ireturn, 1) := by decide +kernel
theorem dX5_tellsGuest_87 : decode cX5_tellsGuest 87 = .ok (.aload_n 1, 1) := by decide +kernel
theorem dX5_tellsGuest_88 : decode cX5_tellsGuest 88 = .ok (.getfield 93, 3) := by decide +kernel
theorem dX5_tellsGuest_91 : decode cX5_tellsGuest 91 = .ok (.iload_n 2, 1) := by decide +kernel
theorem dX5_tellsGuest_92 : decode cX5_tellsGuest 92 = .ok (.aload_n 0, 1) := by decide +kernel
theorem dX5_tellsGuest_93 : decode cX5_tellsGuest 93 = .ok (.getfield 43, 3) := by decide +kernel
theorem dX5_tellsGuest_96 : decode cX5_tellsGuest 96 = .ok (.iastore, 1) := by decide +kernel
theorem dX5_tellsGuest_97 : decode cX5_tellsGuest 97 = .ok (.aload_n 0, 1) := by decide +kernel
theorem dX5_tellsGuest_98 : decode cX5_tellsGuest 98 = .ok (.bipush 59, 2) := by decide +kernel
theorem dX5_tellsGuest_100 : decode cX5_tellsGuest 100 = .ok (.invokevirtual 36, 3) := by decide +kernel
theorem dX5_tellsGuest_103 : decode cX5_tellsGuest 103 = .ok (.ireturn, 1) := by decide +kernel
theorem dX5_tellsSign_0 : decode cX5_tellsSign 0 = .ok (.aload_n 0, 1) := by decide +kernel
theorem dX5_tellsSign_1 : decode cX5_tellsSign 1 = .ok (.invokevirtual 57, 3) := by decide +kernel
theorem dX5_tellsSign_4 : decode cX5_tellsSign 4 = .ok (.iload_n 1, 1) := by decide +kernel
theorem dX5_tellsSign_5 : decode cX5_tellsSign 5 = .ok (.if_icmp .eq 9, 3) := by decide +kernel
theorem dX5_tellsSign_8 : decode cX5_tellsSign 8 = .ok (.aload_n 0, 1) := by decide +kernel
theorem dX5_tellsSign_9 : decode cX5_tellsSign 9 = .ok (.iconst 1, 1) := by decide +kernel
theorem dX5_tellsSign_10 : decode cX5_tellsSign 10 = .ok (.invokevirtual 32, 3) := by decide +kernel
theorem dX5_tellsSign_13 : decode cX5_tellsSign 13 = .ok (.ireturn, 1) := by decide +kernel
theorem dX5_tellsSign_14 : decode cX5_tellsSign 14 = .ok (.aload_n 0, 1) := by decide +kernel
theorem dX5_tellsSign_15 : decode cX5_tellsSign 15 = .ok (.dup, 1) := by decide +kernel
theorem dX5_tellsSign_16 : decode cX5_tellsSign 16 = .ok (.getfield 19, 3) := by decide +kernel
theorem dX5_tellsSign_19 : decode cX5_tellsSign 19 = .ok (.iconst 1, 1) := by decide +kernel
theorem dX5_tellsSign_20 : decode cX5_tellsSign 20 = .ok (.iadd, 1) := by decide +kernel
theorem dX5_tellsSign_21 : decode cX5_tellsSign 21 = .ok (.putfield 19, 3) := by decide +kernel
theorem dX5_tellsSign_24 : decode cX5_tellsSign 24 = .ok (.iconst 1, 1) := by decide +kernel
theorem dX5_tellsSign_25 : decode cX5_tellsSign 25 = .ok (.ireturn, 1) := by decide +kernel
theorem dX5_tellsNumber_0 : decode cX5_tellsNumber 0 = .ok (.aload_n 0, 1) := by decide +kernel
theorem dX5_tellsNumber_1 : decode cX5_tellsNumber 1 = .ok (.getfield 19, 3) := by decide +kernel
theorem dX5_tellsNumber_4 : decode cX5_tellsNumber 4 = .ok (.istore 4, 2) := by decide +kernel
theorem dX5_tellsNumber_6 : decode cX5_tellsNumber 6 = .ok (.aload_n 0, 1) := by decide +kernel
theorem dX5_tellsNumber_7 : decode cX5_tellsNumber 7 = .ok (.iconst 0, 1) := by decide +kernel
theorem dX5_tellsNumber_8 : decode cX5_tellsNumber 8 = .ok (.putfield 43, 3) := by decide +kernel
theorem dX5_tellsNumber_11 : decode cX5_tellsNumber 11 = .ok (.iload 4, 2) := by decide +kernel
theorem dX5_tellsNumber_13 : decode cX5_tellsNumber 13 = .ok (.aload_n 0, 1) := by decide +kernel
theorem dX5_tellsNumber_14 : decode cX5_tellsNumber 14 = .ok (.getfield 15, 3) := by decide +kernel
theorem dX5_tellsNumber_17 : decode cX5_tellsNumber 17 = .ok (.if_icmp .ge 55, 3) := by decide +kernel
theorem dX5_tellsNumber_20 : decode cX5_tellsNumber 20 = .ok (.iload 4, 2) := by decide +kernel
theorem dX5_tellsNumber_22 : decode cX5_tellsNumber 22 = .ok (.aload_n 0, 1) := by decide +kernel
theorem dX5_tellsNumber_23 : decode cX5_tellsNumber 23 = .ok (.getfield 19, 3) := by decide +kernel
theorem dX5_tellsNumber_26 : decode cX5_tellsNumber 26 = .ok (.iconst 3, 1) := by decide +kernel
theorem dX5_tellsNumber_27 : decode cX5_tellsNumber 27 = .ok (.iadd, 1) := by decide +kernel
theorem dX5_tellsNumber_28 : decode cX5_tellsNumber 28 = .ok (.if_icmp .ge 44, 3) := by decide +kernel
theorem dX5_tellsNumber_31 : decode cX5_tellsNumber 31 = .ok (.aload_n 0, 1) := by decide +kernel
theorem dX5_tellsNumber_32 : decode cX5_tellsNumber 32 = .ok (.getfield 9, 3) := by decide +kernel
theorem dX5_tellsNumber_35 : decode cX5_tellsNumber 35 = .ok (.iload 4, 2) := by decide +kernel
theorem dX5_tellsNumber_37 : decode cX5_tellsNumber 37 = .ok (.iaload, 1) := by decide +kernel
theorem dX5_tellsNumber_38 : decode cX5_tellsNumber 38 = .ok (.invokestatic 96, 3) := by decide +kernel
theorem dX5_tellsNumber_41 : decode cX5_tellsNumber 41 = .ok (.ifCond .eq 31, 3) := by decide +kernel
theorem dX5_tellsNumber_44 : decode cX5_tellsNumber 44 = .ok (.aload_n 0, 1) := by decide +kernel
theorem dX5_tellsNumber_45 : decode cX5_tellsNumber 45 = .ok (.aload_n 0, 1) := by decide +kernel
theorem dX5_tellsNumber_46 : decode cX5_tellsNumber 46 = .ok (.getfield 43, 3) := by decide +kernel
theorem dX5_tellsNumber_49 : decode cX5_tellsNumber 49 = .ok (.bipush 10, 2) := by decide +kernel
theorem dX5_tellsNumber_51 : decode cX5_tellsNumber 51 = .ok (.imul, 1) := by decide +kernel
theorem dX5_tellsNumber_52 : decode cX5_tellsNumber 52 = .ok (.aload_n 0, 1) := by decide +kernel
theorem dX5_tellsNumber_53 : decode cX5_tellsNumber 53 = .ok (.getfield 9, 3) := by decide +kernel
theorem dX5_tellsNumber_56 : decode cX5_tellsNumber 56 = .ok (.iload 4, 2) := by decide +kernel
theorem dX5_tellsNumber_58 : decode cX5_tellsNumber 58 = .ok (.iaload, 1) := by decide +kernel
theorem dX5_tellsNumber_59 : decode cX5_tellsNumber 59 = .ok (.iadd, 1) := by decide +kernel
theorem dX5_tellsNumber_60 : decode cX5_tellsNumber 60 = .ok (.bipush 48, 2) := by decide +kernel
theorem dX5_tellsNumber_62 : decode cX5_tellsNumber 62 = .ok (.isub, 1) := by decide +kernel
theorem dX5_tellsNumber_63 : decode cX5_tellsNumber 63 = .ok (.putfield 43, 3) := by decide +kernel
theorem dX5_tellsNumber_66 : decode cX5_tellsNumber 66 = .ok (.iinc 4 1, 3) := by decide +kernel
theorem dX5_tellsNumber_69 : decode cX5_tellsNumber 69 = .ok (.goto (-58), 3) := by decide +kernel
theorem dX5_tellsNumber_72 : decode cX5_tellsNumber 72 = .ok (.iload 4, 2) := by decide +kernel
theorem dX5_tellsNumber_74 : decode cX5_tellsNumber 74 = .ok (.aload_n 0, 1) := by decide +kernel
theorem dX5_tellsNumber_75 : decode cX5_tellsNumber 75 = .ok (.getfield 19, 3) := by decide +kernel
theorem dX5_tellsNumber_78 : decode cX5_tellsNumber 78 = .ok (.if_icmp .eq 14, 3) := by decide +kernel
theorem dX5_tellsNumber_81 : decode cX5_tellsNumber 81 = .ok (.iload 4, 2) := by decide +kernel
theorem dX5_tellsNumber_83 : decode cX5_tellsNumber 83 = .ok (.aload_n 0, 1) := by decide +kernel
theorem dX5_tellsNumber_84 : decode cX5_tellsNumber 84 = .ok (.getfield 19, 3) := by decide +kernel
theorem dX5_tellsNumber_87 : decode cX5_tellsNumber 87 = .ok (.iconst 3, 1) := by decide +kernel
theorem dX5_tellsNumber_88 : decode cX5_tellsNumber 88 = .ok (.iadd, 1) := by decide +kernel
theorem dX5_tellsNumber_89 : decode cX5_tellsNumber 89 = .ok (.if_icmp .ne 9, 3) := by decide +kernel
theorem dX5_tellsNumber_92 : decode cX5_tellsNumber 92 = .ok (.aload_n 0, 1) := by decide +kernel
theorem dX5_tellsNumber_93 : decode cX5_tellsNumber 93 = .ok (.iconst 1, 1) := by decide +kernel
theorem dX5_tellsNumber_94 : decode cX5_tellsNumber 94 = .ok (.invokevirtual 32, 3) := by decide +kernel
theorem dX5_tellsNumber_97 : decode cX5_tellsNumber 97 = .ok (.ireturn, 1) := by decide +kernel
theorem dX5_tellsNumber_98 : decode cX5_tellsNumber 98 = .ok (.aload_n 0, 1) := by decide +kernel
theorem dX5_tellsNumber_99 : decode cX5_tellsNumber 99 = .ok (.getfield 43, 3) := by decide +kernel
theorem dX5_tellsNumber_102 : decode cX5_tellsNumber 102 = .ok (.iload_n 1, 1) := by decide +kernel
theorem dX5_tellsNumber_103 : decode cX5_tellsNumber 103 = .ok (.if_icmp .lt 19, 3) := by decide +kernel
theorem dX5_tellsNumber_106 : decode cX5_tellsNumber 106 = .ok (.aload_n 0, 1) := by decide +kernel
theorem dX5_tellsNumber_107 : decode cX5_tellsNumber 107 = .ok (.getfield 43, 3) := by decide +kernel
theorem dX5_tellsNumber_110 : decode cX5_tellsNumber 110 = .ok (.iload_n 2, 1) := by decide +kernel
theorem dX5_tellsNumber_111 : decode cX5_tellsNumber 111 = .ok (.if_icmp .gt 11, 3) := by decide +kernel
theorem dX5_tellsNumber_114 : decode cX5_tellsNumber 114 = .ok (.aload_n 0, 1) := by decide +kernel
theorem dX5_tellsNumber_115 : decode cX5_tellsNumber 115 = .ok (.getfield 43, 3) := by decide +kernel
theorem dX5_tellsNumber_118 : decode cX5_tellsNumber 118 = .ok (.iload_n 3, 1) := by decide +kernel
theorem dX5_tellsNumber_119 : decode cX5_tellsNumber 119 = .ok (.if_icmp .ne 9, 3) := by decide +kernel
theorem dX5_tellsNumber_122 : decode cX5_tellsNumber 122 = .ok (.aload_n 0, 1) := by decide +kernel
theorem dX5_tellsNumber_123 : decode cX5_tellsNumber 123 = .ok (.iconst 2, 1) := by decide +kernel
theorem dX5_tellsNumber_124 : decode cX5_tellsNumber 124 = .ok (.invokevirtual 32, 3) := by decide +kernel
theorem dX5_tellsNumber_127 : decode cX5_tellsNumber 127 = .ok (.ireturn, 1) := by decide +kernel
theorem dX5_tellsNumber_128 : decode cX5_tellsNumber 128 = .ok (.aload_n 0, 1) := by decide +kernel
theorem dX5_tellsNumber_129 : decode cX5_tellsNumber 129 = .ok (.iload 4, 2) := by decide +kernel
theorem dX5_tellsNumber_131 : decode cX5_tellsNumber 131 = .ok (.putfield 19, 3) := by decide +kernel
theorem dX5_tellsNumber_134 : decode cX5_tellsNumber 134 = .ok (.iconst 1, 1) := by decide +kernel
theorem dX5_tellsNumber_135 : decode cX5_tellsNumber 135 = .ok (.ireturn, 1) := by decide +kernel
theorem dX5_letter_0 : decode cX5_letter 0 = .ok (.aload_n 0, 1) := by decide +kernel
theorem dX5_letter_1 : decode cX5_letter 1 = .ok (.getfield 19, 3) := by decide +kernel
theorem dX5_letter_4 : decode cX5_letter 4 = .ok (.aload_n 0, 1) := by decide +kernel
theorem dX5_letter_5 : decode cX5_letter 5 = .ok (.getfield 15, 3) := by decide +kernel
theorem dX5_letter_8 : decode cX5_letter 8 = .ok (.if_icmp .ge 15, 3) := by decide +kernel
theorem dX5_letter_11 : decode cX5_letter 11 = .ok (.aload_n 0, 1) := by decide +kernel
theorem dX5_letter_12 : decode cX5_letter 12 = .ok (.getfield 9, 3) := by decide +kernel
theorem dX5_letter_15 : decode cX5_letter 15 = .ok (.aload_n 0, 1) := by decide +kernel
theorem dX5_letter_16 : decode cX5_letter 16 = .ok (.getfield 19, 3) := by decide +kernel
theorem dX5_letter_19 : decode cX5_letter 19 = .ok (.iaload, 1) := by decide +kernel
theorem dX5_letter_20 : decode cX5_letter 20 = .ok (.goto 4, 3) := by decide +kernel
theorem dX5_letter_23 : decode cX5_letter 23 = .ok (.iconst (-1), 1) := by decide +kernel
theorem dX5_letter_24 : decode cX5_letter 24 = .ok (.ireturn, 1) := by decide +kernel
theorem dX5_isFaulty_0 : decode cX5_isFaulty 0 = .ok (.aload_n 0, 1) := by decide +kernel
theorem dX5_isFaulty_1 : decode cX5_isFaulty 1 = .ok (.iload_n 1, 1) := by decide +kernel
theorem dX5_isFaulty_2 : decode cX5_isFaulty 2 = .ok (.putfield 99, 3) := by decide +kernel
theorem dX5_isFaulty_5 : decode cX5_isFaulty 5 = .ok (.iconst 0, 1) := by decide +kernel
theorem dX5_isFaulty_6 : decode cX5_isFaulty 6 = .ok (.ireturn, 1) := by decide +kernel
theorem dX5_isFigure_0 : decode cX5_isFigure 0 = .ok (.iload_n 0, 1) := by decide +kernel
theorem dX5_isFigure_1 : decode cX5_isFigure 1 = .ok (.bipush 48, 2) := by decide +kernel
theorem dX5_isFigure_3 : decode cX5_isFigure 3 = .ok (.if_icmp .lt 13, 3) := by decide +kernel
theorem dX5_isFigure_6 : decode cX5_isFigure 6 = .ok (.iload_n 0, 1) := by decide +kernel
theorem dX5_isFigure_7 : decode cX5_isFigure 7 = .ok (.bipush 57, 2) := by decide +kernel
theorem dX5_isFigure_9 : decode cX5_isFigure 9 = .ok (.if_icmp .gt 7, 3) := by decide +kernel
theorem dX5_isFigure_12 : decode cX5_isFigure 12 = .ok (.iconst 1, 1) := by decide +kernel
theorem dX5_isFigure_13 : decode cX5_isFigure 13 = .ok (.goto 4, 3) := by decide +kernel
theorem dX5_isFigure_16 : decode cX5_isFigure 16 = .ok (.iconst 0, 1) := by decide +kernel
theorem dX5_isFigure_17 : decode cX5_isFigure 17 = .ok (.ireturn, 1) := by decide +kernel
theorem dX5_sortOf_0 : decode cX5_sortOf 0 = .ok (.iload_n 0, 1) := by decide +kernel
theorem dX5_sortOf_1 : decode cX5_sortOf 1 = .ok (.lookupswitch 61 #[(100, 59), (103, 53), (109, 57), (115, 51), (119, 55)], 51) := by decide +kernel
theorem dX5_sortOf_52 : decode cX5_sortOf 52 = .ok (.iconst 1, 1) := by decide +kernel
theorem dX5_sortOf_53 : decode cX5_sortOf 53 = .ok (.ireturn, 1) := by decide +kernel
theorem dX5_sortOf_54 : decode cX5_sortOf 54 = .ok (.iconst 2, 1) := by decide +kernel
theorem dX5_sortOf_55 : decode cX5_sortOf 55 = .ok (.ireturn, 1) := by decide +kernel
theorem dX5_sortOf_56 : decode cX5_sortOf 56 = .ok (.iconst 3, 1) := by decide +kernel
theorem dX5_sortOf_57 : decode cX5_sortOf 57 = .ok (.ireturn, 1) := by decide +kernel
theorem dX5_sortOf_58 : decode cX5_sortOf 58 = .ok (.iconst 4, 1) := by decide +kernel
theorem dX5_sortOf_59 : decode cX5_sortOf 59 = .ok (.ireturn, 1) := by decide +kernel
theorem dX5_sortOf_60 : decode cX5_sortOf 60 = .ok (.iconst 5, 1) := by decide +kernel
theorem dX5_sortOf_61 : decode cX5_sortOf 61 = .ok (.ireturn, 1) := by decide +kernel
theorem dX5_sortOf_62 : decode cX5_sortOf 62 = .ok (.iconst 0, 1) := by decide +kernel
theorem dX5_sortOf_63 : decode cX5_sortOf 63 = .ok (.ireturn, 1) := by decide +kernel
theorem dX6_init_0 : decode cX6_init 0 = .ok (.aload_n 0, 1) := by decide +kernel
theorem dX6_init_1 : decode cX6_init 1 = .ok (.invokespecial 1, 3) := by decide +kernel
theorem dX6_init_4 : decode cX6_init 4 = .ok (.aload_n 0, 1) := by decide +kernel
theorem dX6_init_5 : decode cX6_init 5 = .ok (.new 7, 3) := by decide +kernel
theorem dX6_init_8 : decode cX6_init 8 = .ok (.dup, 1) := by decide +kernel
theorem dX6_init_9 : decode cX6_init 9 = .ok (.invokespecial 9, 3) := by decide +kernel
theorem dX6_init_12 : decode cX6_init 12 = .ok (.putfield 10, 3) := by decide +kernel
theorem dX6_init_15 : decode cX6_init 15 = .ok (.aload_n 0, 1) := by decide +kernel
theorem dX6_init_16 : decode cX6_init 16 = .ok (.new 16, 3) := by decide +kernel
theorem dX6_init_19 : decode cX6_init 19 = .ok (.dup, 1) := by decide +kernel
theorem dX6_init_20 : decode cX6_init 20 = .ok (.invokespecial 18, 3) := by decide +kernel
theorem dX6_init_23 : decode cX6_init 23 = .ok (.putfield 19, 3) := by decide +kernel
theorem dX6_init_26 : decode cX6_init 26 = .ok (.aload_n 0, 1) := by decide +kernel
theorem dX6_init_27 : decode cX6_init 27 = .ok (.new 23, 3) := by decide +kernel
theorem dX6_init_30 : decode cX6_init 30 = .ok (.dup, 1) := by decide +kernel
theorem dX6_init_31 : decode cX6_init 31 = .ok (.invokespecial 25, 3) := by decide +kernel
theorem dX6_init_34 : decode cX6_init 34 = .ok (.putfield 26, 3) := by decide +kernel
theorem dX6_init_37 : decode cX6_init 37 = .ok (.aload_n 0, 1) := by decide +kernel
theorem dX6_init_38 : decode cX6_init 38 = .ok (.new 23, 3) := by decide +kernel
theorem dX6_init_41 : decode cX6_init 41 = .ok (.dup, 1) := by decide +kernel
theorem dX6_init_42 : decode cX6_init 42 = .ok (.invokespecial 25, 3) := by decide +kernel
theorem dX6_init_45 : decode cX6_init 45 = .ok (.putfield 30, 3) := by decide +kernel
theorem dX6_init_48 : decode cX6_init 48 = .ok (.aload_n 0, 1) := by decide +kernel
theorem dX6_init_49 : decode cX6_init 49 = .ok (.new 23, 3) := by decide +kernel
theorem dX6_init_52 : decode cX6_init 52 = .ok (.dup, 1) := by decide +kernel
theorem dX6_init_53 : decode cX6_init 53 = .ok (.invokespecial 25, 3) := by decide +kernel
theorem dX6_init_56 : decode cX6_init 56 = .ok (.putfield 33, 3) := by decide +kernel
theorem dX6_init_59 : decode cX6_init 59 = .ok (.aload_n 0, 1) := by decide +kernel
theorem dX6_init_60 : decode cX6_init 60 = .ok (.new 23, 3) := by decide +kernel
theorem dX6_init_63 : decode cX6_init 63 = .ok (.dup, 1) := by decide +kernel
theorem dX6_init_64 : decode cX6_init 64 = .ok (.invokespecial 25, 3) := by decide +kernel
theorem dX6_init_67 : decode cX6_init 67 = .ok (.putfield 36, 3) := by decide +kernel
theorem dX6_init_70 : decode cX6_init 70 = .ok (.aload_n 0, 1) := by decide +kernel
theorem dX6_init_71 : decode cX6_init 71 = .ok (.new 39, 3) := by decide +kernel
theorem dX6_init_74 : decode cX6_init 74 = .ok (.dup, 1) := by decide +kernel
theorem dX6_init_75 : decode cX6_init 75 = .ok (.invokespecial 41, 3) := by decide +kernel
theorem dX6_init_78 : decode cX6_init 78 = .ok (.putfield 42, 3) := by decide +kernel
theorem dX6_init_81 : decode cX6_init 81 = .ok (.aload_n 0, 1) := by decide +kernel
theorem dX6_init_82 : decode cX6_init 82 = .ok (.new 46, 3) := by decide +kernel
theorem dX6_init_85 : decode cX6_init 85 = .ok (.dup, 1) := by decide +kernel
theorem dX6_init_86 : decode cX6_init 86 = .ok (.invokespecial 48, 3) := by decide +kernel
theorem dX6_init_89 : decode cX6_init 89 = .ok (.putfield 49, 3) := by decide +kernel
theorem dX6_init_92 : decode cX6_init 92 = .ok (.aload_n 0, 1) := by decide +kernel
theorem dX6_init_93 : decode cX6_init 93 = .ok (.new 53, 3) := by decide +kernel
theorem dX6_init_96 : decode cX6_init 96 = .ok (.dup, 1) := by decide +kernel
theorem dX6_init_97 : decode cX6_init 97 = .ok (.invokespecial 55, 3) := by decide +kernel
theorem dX6_init_100 : decode cX6_init 100 = .ok (.putfield 56, 3) := by decide +kernel
theorem dX6_init_103 : decode cX6_init 103 = .ok (.return_, 1) := by decide +kernel
theorem dX6_row_0 : decode cX6_row 0 = .ok (.iload_n 1, 1) := by decide +kernel
theorem dX6_row_1 : decode cX6_row 1 = .ok (.bipush 8, 2) := by decide +kernel
theorem dX6_row_3 : decode cX6_row 3 = .ok (.invokestatic 60, 3) := by decide +kernel
theorem dX6_row_6 : decode cX6_row 6 = .ok (.ifCond .eq 17, 3) := by decide +kernel
theorem dX6_row_9 : decode cX6_row 9 = .ok (.iload_n 2, 1) := by decide +kernel
theorem dX6_row_10 : decode cX6_row 10 = .ok (.iconst 3, 1) := by decide +kernel
theorem dX6_row_11 : decode cX6_row 11 = .ok (.invokestatic 60, 3) := by decide +kernel
theorem dX6_row_14 : decode cX6_row 14 = .ok (.ifCond .eq 9, 3) := by decide +kernel
theorem dX6_row_17 : decode cX6_row 17 = .ok (.iload_n 3, 1) := by decide +kernel
theorem dX6_row_18 : decode cX6_row 18 = .ok (.bipush 40, 2) := by decide +kernel
theorem dX6_row_20 : decode cX6_row 20 = .ok (.if_icmp .le 6, 3) := by decide +kernel
theorem dX6_row_23 : decode cX6_row 23 = .ok (.ldc 64, 2) := by decide +kernel
theorem dX6_row_25 : decode cX6_row 25 = .ok (.ireturn, 1) := by decide +kernel
theorem dX6_row_26 : decode cX6_row 26 = .ok (.iload_n 3, 1) := by decide +kernel
theorem dX6_row_27 : decode cX6_row 27 = .ok (.ifCond .ge 9, 3) := by decide +kernel
theorem dX6_row_30 : decode cX6_row 30 = .ok (.aload_n 0, 1) := by decide +kernel
theorem dX6_row_31 : decode cX6_row 31 = .ok (.iconst 4, 1) := by decide +kernel
theorem dX6_row_32 : decode cX6_row 32 = .ok (.invokevirtual 65, 3) := by decide +kernel
theorem dX6_row_35 : decode cX6_row 35 = .ok (.ireturn, 1) := by decide +kernel
theorem dX6_row_36 : decode cX6_row 36 = .ok (.aload_n 0, 1) := by decide +kernel
theorem dX6_row_37 : decode cX6_row 37 = .ok (.getfield 10, 3) := by decide +kernel
theorem dX6_row_40 : decode cX6_row 40 = .ok (.iload_n 1, 1) := by decide +kernel
theorem dX6_row_41 : decode cX6_row 41 = .ok (.iload_n 2, 1) := by decide +kernel
theorem dX6_row_42 : decode cX6_row 42 = .ok (.iload_n 3, 1) := by decide +kernel
theorem dX6_row_43 : decode cX6_row 43 = .ok (.invokevirtual 69, 3) := by decide +kernel
theorem dX6_row_46 : decode cX6_row 46 = .ok (.aload_n 0, 1) := by decide +kernel
theorem dX6_row_47 : decode cX6_row 47 = .ok (.iload_n 3, 1) := by decide +kernel
theorem dX6_row_48 : decode cX6_row 48 = .ok (.invokevirtual 73, 3) := by decide +kernel
theorem dX6_row_51 : decode cX6_row 51 = .ok (.ireturn, 1) := by decide +kernel
theorem dX6_set_0 : decode cX6_set 0 = .ok (.iload_n 1, 1) := by decide +kernel
theorem dX6_set_1 : decode cX6_set 1 = .ok (.bipush 8, 2) := by decide +kernel
theorem dX6_set_3 : decode cX6_set 3 = .ok (.invokestatic 60, 3) := by decide +kernel
theorem dX6_set_6 : decode cX6_set 6 = .ok (.ifCond .ne 6, 3) := by decide +kernel
theorem dX6_set_9 : decode cX6_set 9 = .ok (.ldc 64, 2) := by decide +kernel
theorem dX6_set_11 : decode cX6_set 11 = .ok (.ireturn, 1) := by decide +kernel
theorem dX6_set_12 : decode cX6_set 12 = .ok (.aload_n 0, 1) := by decide +kernel
theorem dX6_set_13 : decode cX6_set 13 = .ok (.getfield 10, 3) := by decide +kernel
theorem dX6_set_16 : decode cX6_set 16 = .ok (.iload_n 1, 1) := by decide +kernel
theorem dX6_set_17 : decode cX6_set 17 = .ok (.invokevirtual 76, 3) := by decide +kernel
theorem dX6_set_20 : decode cX6_set 20 = .ok (.ifCond .eq 9, 3) := by decide +kernel
theorem dX6_set_23 : decode cX6_set 23 = .ok (.aload_n 0, 1) := by decide +kernel
theorem dX6_set_24 : decode cX6_set 24 = .ok (.iconst 1, 1) := by decide +kernel
theorem dX6_set_25 : decode cX6_set 25 = .ok (.invokevirtual 65, 3) := by decide +kernel
theorem dX6_set_28 : decode cX6_set 28 = .ok (.ireturn, 1) := by decide +kernel
theorem dX6_set_29 : decode cX6_set 29 = .ok (.aload_n 0, 1) := by decide +kernel
theorem dX6_set_30 : decode cX6_set 30 = .ok (.getfield 10, 3) := by decide +kernel
theorem dX6_set_33 : decode cX6_set 33 = .ok (.iload_n 1, 1) := by decide +kernel
theorem dX6_set_34 : decode cX6_set 34 = .ok (.iload_n 2, 1) := by decide +kernel
theorem dX6_set_35 : decode cX6_set 35 = .ok (.iconst 1, 1) := by decide +kernel
theorem dX6_set_36 : decode cX6_set 36 = .ok (.invokevirtual 80, 3) := by decide +kernel
theorem dX6_set_39 : decode cX6_set 39 = .ok (.ifCond .ne 9, 3) := by decide +kernel
theorem dX6_set_42 : decode cX6_set 42 = .ok (.aload_n 0, 1) := by decide +kernel
theorem dX6_set_43 : decode cX6_set 43 = .ok (.iconst 2, 1) := by decide +kernel
theorem dX6_set_44 : decode cX6_set 44 = .ok (.invokevirtual 65, 3) := by decide +kernel
theorem dX6_set_47 : decode cX6_set 47 = .ok (.ireturn, 1) := by decide +kernel
theorem dX6_set_48 : decode cX6_set 48 = .ok (.aload_n 0, 1) := by decide +kernel
theorem dX6_set_49 : decode cX6_set 49 = .ok (.aload_n 0, 1) := by decide +kernel
theorem dX6_set_50 : decode cX6_set 50 = .ok (.getfield 10, 3) := by decide +kernel
theorem dX6_set_53 : decode cX6_set 53 = .ok (.iload_n 1, 1) := by decide +kernel
theorem dX6_set_54 : decode cX6_set 54 = .ok (.iload_n 2, 1) := by decide +kernel
theorem dX6_set_55 : decode cX6_set 55 = .ok (.iload_n 3, 1) := by decide +kernel
theorem dX6_set_56 : decode cX6_set 56 = .ok (.invokevirtual 84, 3) := by decide +kernel
theorem dX6_set_59 : decode cX6_set 59 = .ok (.invokevirtual 73, 3) := by decide +kernel
theorem dX6_set_62 : decode cX6_set 62 = .ok (.ireturn, 1) := by decide +kernel
theorem dX6_copy_0 : decode cX6_copy 0 = .ok (.iload_n 1, 1) := by decide +kernel
theorem dX6_copy_1 : decode cX6_copy 1 = .ok (.bipush 8, 2) := by decide +kernel
theorem dX6_copy_3 : decode cX6_copy 3 = .ok (.invokestatic 60, 3) := by decide +kernel
theorem dX6_copy_6 : decode cX6_copy 6 = .ok (.ifCond .eq 12, 3) := by decide +kernel
theorem dX6_copy_9 : decode cX6_copy 9 = .ok (.iload_n 3, 1) := by decide +kernel
theorem dX6_copy_10 : decode cX6_copy 10 = .ok (.bipush 8, 2) := by decide +kernel
theorem dX6_copy_12 : decode cX6_copy 12 = .ok (.invokestatic 60, 3) := by decide +kernel
theorem dX6_copy_15 : decode cX6_copy 15 = .ok (.ifCond .ne 6, 3) := by decide +kernel
theorem dX6_copy_18 : decode cX6_copy 18 = .ok (.ldc 64, 2) := by decide +kernel
theorem dX6_copy_20 : decode cX6_copy 20 = .ok (.ireturn, 1) := by decide +kernel
theorem dX6_copy_21 : decode cX6_copy 21 = .ok (.aload_n 0, 1) := by decide +kernel
theorem dX6_copy_22 : decode cX6_copy 22 = .ok (.getfield 10, 3) := by decide +kernel
theorem dX6_copy_25 : decode cX6_copy 25 = .ok (.iload_n 1, 1) := by decide +kernel
theorem dX6_copy_26 : decode cX6_copy 26 = .ok (.invokevirtual 76, 3) := by decide +kernel
theorem dX6_copy_29 : decode cX6_copy 29 = .ok (.ifCond .ne 14, 3) := by decide +kernel
theorem dX6_copy_32 : decode cX6_copy 32 = .ok (.aload_n 0, 1) := by decide +kernel
theorem dX6_copy_33 : decode cX6_copy 33 = .ok (.getfield 10, 3) := by decide +kernel
theorem dX6_copy_36 : decode cX6_copy 36 = .ok (.iload_n 3, 1) := by decide +kernel
theorem dX6_copy_37 : decode cX6_copy 37 = .ok (.invokevirtual 76, 3) := by decide +kernel
theorem dX6_copy_40 : decode cX6_copy 40 = .ok (.ifCond .eq 9, 3) := by decide +kernel
theorem dX6_copy_43 : decode cX6_copy 43 = .ok (.aload_n 0, 1) := by decide +kernel
theorem dX6_copy_44 : decode cX6_copy 44 = .ok (.iconst 1, 1) := by decide +kernel
theorem dX6_copy_45 : decode cX6_copy 45 = .ok (.invokevirtual 65, 3) := by decide +kernel
theorem dX6_copy_48 : decode cX6_copy 48 = .ok (.ireturn, 1) := by decide +kernel
theorem dX6_copy_49 : decode cX6_copy 49 = .ok (.aload_n 0, 1) := by decide +kernel
theorem dX6_copy_50 : decode cX6_copy 50 = .ok (.getfield 10, 3) := by decide +kernel
theorem dX6_copy_53 : decode cX6_copy 53 = .ok (.iload_n 1, 1) := by decide +kernel
theorem dX6_copy_54 : decode cX6_copy 54 = .ok (.invokevirtual 88, 3) := by decide +kernel
theorem dX6_copy_57 : decode cX6_copy 57 = .ok (.aload_n 0, 1) := by decide +kernel
theorem dX6_copy_58 : decode cX6_copy 58 = .ok (.getfield 10, 3) := by decide +kernel
theorem dX6_copy_61 : decode cX6_copy 61 = .ok (.iload_n 3, 1) := by decide +kernel
theorem dX6_copy_62 : decode cX6_copy 62 = .ok (.invokevirtual 88, 3) := by decide +kernel
theorem dX6_copy_65 : decode cX6_copy 65 = .ok (.if_icmp .eq 9, 3) := by decide +kernel
theorem dX6_copy_68 : decode cX6_copy 68 = .ok (.aload_n 0, 1) := by decide +kernel
theorem dX6_copy_69 : decode cX6_copy 69 = .ok (.iconst 5, 1) := by decide +kernel
theorem dX6_copy_70 : decode cX6_copy 70 = .ok (.invokevirtual 65, 3) := by decide +kernel
theorem dX6_copy_73 : decode cX6_copy 73 = .ok (.ireturn, 1) := by decide +kernel
theorem dX6_copy_74 : decode cX6_copy 74 = .ok (.aload_n 0, 1) := by decide +kernel
theorem dX6_copy_75 : decode cX6_copy 75 = .ok (.getfield 10, 3) := by decide +kernel
theorem dX6_copy_78 : decode cX6_copy 78 = .ok (.iload_n 1, 1) := by decide +kernel
theorem dX6_copy_79 : decode cX6_copy 79 = .ok (.iload_n 2, 1) := by decide +kernel
theorem dX6_copy_80 : decode cX6_copy 80 = .ok (.iload 5, 2) := by decide +kernel
theorem dX6_copy_82 : decode cX6_copy 82 = .ok (.invokevirtual 80, 3) := by decide +kernel
theorem dX6_copy_85 : decode cX6_copy 85 = .ok (.ifCond .eq 18, 3) := by decide +kernel
theorem dX6_copy_88 : decode cX6_copy 88 = .ok (.aload_n 0, 1) := by decide +kernel
theorem dX6_copy_89 : decode cX6_copy 89 = .ok (.getfield 10, 3) := by decide +kernel
theorem dX6_copy_92 : decode cX6_copy 92 = .ok (.iload_n 3, 1) := by decide +kernel
theorem dX6_copy_93 : decode cX6_copy 93 = .ok (.iload 4, 2) := by decide +kernel
theorem dX6_copy_95 : decode cX6_copy 95 = .ok (.iload 5, 2) := by decide +kernel
theorem dX6_copy_97 : decode cX6_copy 97 = .ok (.invokevirtual 80, 3) := by decide +kernel
theorem dX6_copy_100 : decode cX6_copy 100 = .ok (.ifCond .ne 9, 3) := by decide +kernel
theorem dX6_copy_103 : decode cX6_copy 103 = .ok (.aload_n 0, 1) := by decide +kernel
theorem dX6_copy_104 : decode cX6_copy 104 = .ok (.iconst 2, 1) := by decide +kernel
theorem dX6_copy_105 : decode cX6_copy 105 = .ok (.invokevirtual 65, 3) := by decide +kernel
theorem dX6_copy_108 : decode cX6_copy 108 = .ok (.ireturn, 1) := by decide +kernel
theorem dX6_copy_109 : decode cX6_copy 109 = .ok (.aload_n 0, 1) := by decide +kernel
theorem dX6_copy_110 : decode cX6_copy 110 = .ok (.getfield 10, 3) := by decide +kernel
theorem dX6_copy_113 : decode cX6_copy 113 = .ok (.iload_n 1, 1) := by decide +kernel
theorem dX6_copy_114 : decode cX6_copy 114 = .ok (.iload_n 2, 1) := by decide +kernel
theorem dX6_copy_115 : decode cX6_copy 115 = .ok (.iload_n 3, 1) := by decide +kernel
theorem dX6_copy_116 : decode cX6_copy 116 = .ok (.iload 4, 2) := by decide +kernel
theorem dX6_copy_118 : decode cX6_copy 118 = .ok (.iload 5, 2) := by decide +kernel
theorem dX6_copy_120 : decode cX6_copy 120 = .ok (.invokevirtual 91, 3) := by decide +kernel
theorem dX6_copy_123 : decode cX6_copy 123 = .ok (.aload_n 0, 1) := by decide +kernel
theorem dX6_copy_124 : decode cX6_copy 124 = .ok (.iload 5, 2) := by decide +kernel
theorem dX6_copy_126 : decode cX6_copy 126 = .ok (.invokevirtual 73, 3) := by decide +kernel
theorem dX6_copy_129 : decode cX6_copy 129 = .ok (.ireturn, 1) := by decide +kernel
theorem dX6_drop_0 : decode cX6_drop 0 = .ok (.iload_n 1, 1) := by decide +kernel
theorem dX6_drop_1 : decode cX6_drop 1 = .ok (.bipush 8, 2) := by decide +kernel
theorem dX6_drop_3 : decode cX6_drop 3 = .ok (.invokestatic 60, 3) := by decide +kernel
theorem dX6_drop_6 : decode cX6_drop 6 = .ok (.ifCond .ne 6, 3) := by decide +kernel
theorem dX6_drop_9 : decode cX6_drop 9 = .ok (.ldc 64, 2) := by decide +kernel
theorem dX6_drop_11 : decode cX6_drop 11 = .ok (.ireturn, 1) := by decide +kernel
theorem dX6_drop_12 : decode cX6_drop 12 = .ok (.aload_n 0, 1) := by decide +kernel
theorem dX6_drop_13 : decode cX6_drop 13 = .ok (.getfield 10, 3) := by decide +kernel
theorem dX6_drop_16 : decode cX6_drop 16 = .ok (.iload_n 1, 1) := by decide +kernel
theorem dX6_drop_17 : decode cX6_drop 17 = .ok (.invokevirtual 76, 3) := by decide +kernel
theorem dX6_drop_20 : decode cX6_drop 20 = .ok (.ifCond .eq 9, 3) := by decide +kernel
theorem dX6_drop_23 : decode cX6_drop 23 = .ok (.aload_n 0, 1) := by decide +kernel
theorem dX6_drop_24 : decode cX6_drop 24 = .ok (.iconst 1, 1) := by decide +kernel
theorem dX6_drop_25 : decode cX6_drop 25 = .ok (.invokevirtual 65, 3) := by decide +kernel
theorem dX6_drop_28 : decode cX6_drop 28 = .ok (.ireturn, 1) := by decide +kernel
theorem dX6_drop_29 : decode cX6_drop 29 = .ok (.aload_n 0, 1) := by decide +kernel
theorem dX6_drop_30 : decode cX6_drop 30 = .ok (.aload_n 0, 1) := by decide +kernel
theorem dX6_drop_31 : decode cX6_drop 31 = .ok (.getfield 10, 3) := by decide +kernel
theorem dX6_drop_34 : decode cX6_drop 34 = .ok (.iload_n 1, 1) := by decide +kernel
theorem dX6_drop_35 : decode cX6_drop 35 = .ok (.invokevirtual 95, 3) := by decide +kernel
theorem dX6_drop_38 : decode cX6_drop 38 = .ok (.invokevirtual 73, 3) := by decide +kernel
theorem dX6_drop_41 : decode cX6_drop 41 = .ok (.ireturn, 1) := by decide +kernel
theorem dX6_feed_0 : decode cX6_feed 0 = .ok (.iload_n 1, 1) := by decide +kernel
theorem dX6_feed_1 : decode cX6_feed 1 = .ok (.sipush 256, 3) := by decide +kernel
theorem dX6_feed_4 : decode cX6_feed 4 = .ok (.invokestatic 60, 3) := by decide +kernel
theorem dX6_feed_7 : decode cX6_feed 7 = .ok (.ifCond .ne 6, 3) := by decide +kernel
theorem dX6_feed_10 : decode cX6_feed 10 = .ok (.ldc 64, 2) := by decide +kernel
theorem dX6_feed_12 : decode cX6_feed 12 = .ok (.ireturn, 1) := by decide +kernel
theorem dX6_feed_13 : decode cX6_feed 13 = .ok (.aload_n 0, 1) := by decide +kernel
theorem dX6_feed_14 : decode cX6_feed 14 = .ok (.getfield 19, 3) := by decide +kernel
theorem dX6_feed_17 : decode cX6_feed 17 = .ok (.getfield 98, 3) := by decide +kernel
theorem dX6_feed_20 : decode cX6_feed 20 = .ok (.bipush 120, 2) := by decide +kernel
theorem dX6_feed_22 : decode cX6_feed 22 = .ok (.if_icmp .lt 6, 3) := by decide +kernel
theorem dX6_feed_25 : decode cX6_feed 25 = .ok (.ldc 102, 2) := by decide +kernel
theorem dX6_feed_27 : decode cX6_feed 27 = .ok (.ireturn, 1) := by decide +kernel
theorem dX6_feed_28 : decode cX6_feed 28 = .ok (.aload_n 0, 1) := by decide +kernel
theorem dX6_feed_29 : decode cX6_feed 29 = .ok (.getfield 19, 3) := by decide +kernel
theorem dX6_feed_32 : decode cX6_feed 32 = .ok (.iload_n 1, 1) := by decide +kernel
theorem dX6_feed_33 : decode cX6_feed 33 = .ok (.invokevirtual 103, 3) := by decide +kernel
theorem dX6_feed_36 : decode cX6_feed 36 = .ok (.ireturn, 1) := by decide +kernel
theorem dX6_castle_0 : decode cX6_castle 0 = .ok (.aload_n 0, 1) := by decide +kernel
theorem dX6_castle_1 : decode cX6_castle 1 = .ok (.getfield 19, 3) := by decide +kernel
theorem dX6_castle_4 : decode cX6_castle 4 = .ok (.aload_n 0, 1) := by decide +kernel
theorem dX6_castle_5 : decode cX6_castle 5 = .ok (.getfield 30, 3) := by decide +kernel
theorem dX6_castle_8 : decode cX6_castle 8 = .ok (.invokevirtual 106, 3) := by decide +kernel
theorem dX6_castle_11 : decode cX6_castle 11 = .ok (.istore_n 1, 1) := by decide +kernel
theorem dX6_castle_12 : decode cX6_castle 12 = .ok (.aload_n 0, 1) := by decide +kernel
theorem dX6_castle_13 : decode cX6_castle 13 = .ok (.getfield 19, 3) := by decide +kernel
theorem dX6_castle_16 : decode cX6_castle 16 = .ok (.iconst 0, 1) := by decide +kernel
theorem dX6_castle_17 : decode cX6_castle 17 = .ok (.putfield 98, 3) := by decide +kernel
theorem dX6_castle_20 : decode cX6_castle 20 = .ok (.iload_n 1, 1) := by decide +kernel
theorem dX6_castle_21 : decode cX6_castle 21 = .ok (.ifCond .ne 25, 3) := by decide +kernel
theorem dX6_castle_24 : decode cX6_castle 24 = .ok (.aload_n 0, 1) := by decide +kernel
theorem dX6_castle_25 : decode cX6_castle 25 = .ok (.aload_n 0, 1) := by decide +kernel
theorem dX6_castle_26 : decode cX6_castle 26 = .ok (.getfield 19, 3) := by decide +kernel
theorem dX6_castle_29 : decode cX6_castle 29 = .ok (.getfield 110, 3) := by decide +kernel
theorem dX6_castle_32 : decode cX6_castle 32 = .ok (.putfield 113, 3) := by decide +kernel
theorem dX6_castle_35 : decode cX6_castle 35 = .ok (.ldc 116, 2) := by decide +kernel
theorem dX6_castle_37 : decode cX6_castle 37 = .ok (.aload_n 0, 1) := by decide +kernel
theorem dX6_castle_38 : decode cX6_castle 38 = .ok (.getfield 19, 3) := by decide +kernel
theorem dX6_castle_41 : decode cX6_castle 41 = .ok (.getfield 117, 3) := by decide +kernel
theorem dX6_castle_44 : decode cX6_castle 44 = .ok (.isub, 1) := by decide +kernel
theorem dX6_castle_45 : decode cX6_castle 45 = .ok (.ireturn, 1) := by decide +kernel
theorem dX6_castle_46 : decode cX6_castle 46 = .ok (.aload_n 0, 1) := by decide +kernel
theorem dX6_castle_47 : decode cX6_castle 47 = .ok (.getfield 30, 3) := by decide +kernel
theorem dX6_castle_50 : decode cX6_castle 50 = .ok (.iconst 1, 1) := by decide +kernel
theorem dX6_castle_51 : decode cX6_castle 51 = .ok (.putfield 120, 3) := by decide +kernel
theorem dX6_castle_54 : decode cX6_castle 54 = .ok (.aload_n 0, 1) := by decide +kernel
theorem dX6_castle_55 : decode cX6_castle 55 = .ok (.getfield 26, 3) := by decide +kernel
theorem dX6_castle_58 : decode cX6_castle 58 = .ok (.aload_n 0, 1) := by decide +kernel
theorem dX6_castle_59 : decode cX6_castle 59 = .ok (.getfield 30, 3) := by decide +kernel
theorem dX6_castle_62 : decode cX6_castle 62 = .ok (.invokevirtual 124, 3) := by decide +kernel
theorem dX6_castle_65 : decode cX6_castle 65 = .ok (.aload_n 0, 1) := by decide +kernel
theorem dX6_castle_66 : decode cX6_castle 66 = .ok (.getfield 42, 3) := by decide +kernel
theorem dX6_castle_69 : decode cX6_castle 69 = .ok (.invokevirtual 128, 3) := by decide +kernel
theorem dX6_castle_72 : decode cX6_castle 72 = .ok (.aload_n 0, 1) := by decide +kernel
theorem dX6_castle_73 : decode cX6_castle 73 = .ok (.getfield 26, 3) := by decide +kernel
theorem dX6_castle_76 : decode cX6_castle 76 = .ok (.getfield 131, 3) := by decide +kernel
theorem dX6_castle_79 : decode cX6_castle 79 = .ok (.ireturn, 1) := by decide +kernel
theorem dX6_fault_0 : decode cX6_fault 0 = .ok (.aload_n 0, 1) := by decide +kernel
theorem dX6_fault_1 : decode cX6_fault 1 = .ok (.getfield 113, 3) := by decide +kernel
theorem dX6_fault_4 : decode cX6_fault 4 = .ok (.ireturn, 1) := by decide +kernel
theorem dX6_invite_0 : decode cX6_invite 0 = .ok (.aload_n 0, 1) := by decide +kernel
theorem dX6_invite_1 : decode cX6_invite 1 = .ok (.getfield 26, 3) := by decide +kernel
theorem dX6_invite_4 : decode cX6_invite 4 = .ok (.iload_n 1, 1) := by decide +kernel
theorem dX6_invite_5 : decode cX6_invite 5 = .ok (.invokevirtual 134, 3) := by decide +kernel
theorem dX6_invite_8 : decode cX6_invite 8 = .ok (.ifCond .ne 6, 3) := by decide +kernel
theorem dX6_invite_11 : decode cX6_invite 11 = .ok (.ldc 64, 2) := by decide +kernel
theorem dX6_invite_13 : decode cX6_invite 13 = .ok (.ireturn, 1) := by decide +kernel
theorem dX6_invite_14 : decode cX6_invite 14 = .ok (.aload_n 0, 1) := by decide +kernel
theorem dX6_invite_15 : decode cX6_invite 15 = .ok (.getfield 26, 3) := by decide +kernel
theorem dX6_invite_18 : decode cX6_invite 18 = .ok (.getfield 137, 3) := by decide +kernel
theorem dX6_invite_21 : decode cX6_invite 21 = .ok (.iconst (-1), 1) := by decide +kernel
theorem dX6_invite_22 : decode cX6_invite 22 = .ok (.if_icmp .ne 25, 3) := by decide +kernel
theorem dX6_invite_25 : decode cX6_invite 25 = .ok (.aload_n 0, 1) := by decide +kernel
theorem dX6_invite_26 : decode cX6_invite 26 = .ok (.getfield 26, 3) := by decide +kernel
theorem dX6_invite_29 : decode cX6_invite 29 = .ok (.iload_n 1, 1) := by decide +kernel
theorem dX6_invite_30 : decode cX6_invite 30 = .ok (.invokevirtual 140, 3) := by decide +kernel
theorem dX6_invite_33 : decode cX6_invite 33 = .ok (.iconst 2, 1) := by decide +kernel
theorem dX6_invite_34 : decode cX6_invite 34 = .ok (.if_icmp .eq 13, 3) := by decide +kernel
theorem dX6_invite_37 : decode cX6_invite 37 = .ok (.aload_n 0, 1) := by decide +kernel
theorem dX6_invite_38 : decode cX6_invite 38 = .ok (.getfield 26, 3) := by decide +kernel
theorem dX6_invite_41 : decode cX6_invite 41 = .ok (.getfield 143, 3) := by decide +kernel
theorem dX6_invite_44 : decode cX6_invite 44 = .ok (.ifCond .eq 6, 3) := by decide +kernel
theorem dX6_invite_47 : decode cX6_invite 47 = .ok (.ldc 146, 2) := by decide +kernel
theorem dX6_invite_49 : decode cX6_invite 49 = .ok (.ireturn, 1) := by decide +kernel
theorem dX6_invite_50 : decode cX6_invite 50 = .ok (.aload_n 0, 1) := by decide +kernel
theorem dX6_invite_51 : decode cX6_invite 51 = .ok (.getfield 42, 3) := by decide +kernel
theorem dX6_invite_54 : decode cX6_invite 54 = .ok (.iconst 0, 1) := by decide +kernel
theorem dX6_invite_55 : decode cX6_invite 55 = .ok (.iload_n 1, 1) := by decide +kernel
theorem dX6_invite_56 : decode cX6_invite 56 = .ok (.iconst 0, 1) := by decide +kernel
theorem dX6_invite_57 : decode cX6_invite 57 = .ok (.invokevirtual 147, 3) := by decide +kernel
theorem dX6_invite_60 : decode cX6_invite 60 = .ok (.aload_n 0, 1) := by decide +kernel
theorem dX6_invite_61 : decode cX6_invite 61 = .ok (.getfield 26, 3) := by decide +kernel
theorem dX6_invite_64 : decode cX6_invite 64 = .ok (.iload_n 1, 1) := by decide +kernel
theorem dX6_invite_65 : decode cX6_invite 65 = .ok (.invokevirtual 150, 3) := by decide +kernel
theorem dX6_invite_68 : decode cX6_invite 68 = .ok (.aload_n 0, 1) := by decide +kernel
theorem dX6_invite_69 : decode cX6_invite 69 = .ok (.getfield 26, 3) := by decide +kernel
theorem dX6_invite_72 : decode cX6_invite 72 = .ok (.getfield 154, 3) := by decide +kernel
theorem dX6_invite_75 : decode cX6_invite 75 = .ok (.iload_n 1, 1) := by decide +kernel
theorem dX6_invite_76 : decode cX6_invite 76 = .ok (.iaload, 1) := by decide +kernel
theorem dX6_invite_77 : decode cX6_invite 77 = .ok (.ireturn, 1) := by decide +kernel
theorem dX6_show_0 : decode cX6_show 0 = .ok (.aload_n 0, 1) := by decide +kernel
theorem dX6_show_1 : decode cX6_show 1 = .ok (.getfield 26, 3) := by decide +kernel
theorem dX6_show_4 : decode cX6_show 4 = .ok (.iload_n 1, 1) := by decide +kernel
theorem dX6_show_5 : decode cX6_show 5 = .ok (.invokevirtual 158, 3) := by decide +kernel
theorem dX6_show_8 : decode cX6_show 8 = .ok (.ifCond .ne 6, 3) := by decide +kernel
theorem dX6_show_11 : decode cX6_show 11 = .ok (.ldc 64, 2) := by decide +kernel
theorem dX6_show_13 : decode cX6_show 13 = .ok (.ireturn, 1) := by decide +kernel
theorem dX6_show_14 : decode cX6_show 14 = .ok (.aload_n 0, 1) := by decide +kernel
theorem dX6_show_15 : decode cX6_show 15 = .ok (.getfield 26, 3) := by decide +kernel
theorem dX6_show_18 : decode cX6_show 18 = .ok (.getfield 137, 3) := by decide +kernel
theorem dX6_show_21 : decode cX6_show 21 = .ok (.iconst (-1), 1) := by decide +kernel
theorem dX6_show_22 : decode cX6_show 22 = .ok (.if_icmp .eq 17, 3) := by decide +kernel
theorem dX6_show_25 : decode cX6_show 25 = .ok (.aload_n 0, 1) := by decide +kernel
theorem dX6_show_26 : decode cX6_show 26 = .ok (.getfield 26, 3) := by decide +kernel
theorem dX6_show_29 : decode cX6_show 29 = .ok (.getfield 161, 3) := by decide +kernel
theorem dX6_show_32 : decode cX6_show 32 = .ok (.iload_n 1, 1) := by decide +kernel
theorem dX6_show_33 : decode cX6_show 33 = .ok (.invokestatic 164, 3) := by decide +kernel
theorem dX6_show_36 : decode cX6_show 36 = .ok (.ifCond .eq 6, 3) := by decide +kernel
theorem dX6_show_39 : decode cX6_show 39 = .ok (.ldc 146, 2) := by decide +kernel
theorem dX6_show_41 : decode cX6_show 41 = .ok (.ireturn, 1) := by decide +kernel
theorem dX6_show_42 : decode cX6_show 42 = .ok (.aload_n 0, 1) := by decide +kernel
theorem dX6_show_43 : decode cX6_show 43 = .ok (.getfield 26, 3) := by decide +kernel
theorem dX6_show_46 : decode cX6_show 46 = .ok (.getfield 161, 3) := by decide +kernel
theorem dX6_show_49 : decode cX6_show 49 = .ok (.invokestatic 167, 3) := by decide +kernel
theorem dX6_show_52 : decode cX6_show 52 = .ok (.aload_n 0, 1) := by decide +kernel
theorem dX6_show_53 : decode cX6_show 53 = .ok (.getfield 26, 3) := by decide +kernel
theorem dX6_show_56 : decode cX6_show 56 = .ok (.getfield 172, 3) := by decide +kernel
theorem dX6_show_59 : decode cX6_show 59 = .ok (.if_icmp .lt 6, 3) := by decide +kernel
theorem dX6_show_62 : decode cX6_show 62 = .ok (.ldc 102, 2) := by decide +kernel
theorem dX6_show_64 : decode cX6_show 64 = .ok (.ireturn, 1) := by decide +kernel
theorem dX6_show_65 : decode cX6_show 65 = .ok (.aload_n 0, 1) := by decide +kernel
theorem dX6_show_66 : decode cX6_show 66 = .ok (.getfield 42, 3) := by decide +kernel
theorem dX6_show_69 : decode cX6_show 69 = .ok (.iconst 1, 1) := by decide +kernel
theorem dX6_show_70 : decode cX6_show 70 = .ok (.iload_n 1, 1) := by decide +kernel
theorem dX6_show_71 : decode cX6_show 71 = .ok (.aload_n 0, 1) := by decide +kernel
theorem dX6_show_72 : decode cX6_show 72 = .ok (.getfield 26, 3) := by decide +kernel
theorem dX6_show_75 : decode cX6_show 75 = .ok (.getfield 154, 3) := by decide +kernel
theorem dX6_show_78 : decode cX6_show 78 = .ok (.aload_n 0, 1) := by decide +kernel
theorem dX6_show_79 : decode cX6_show 79 = .ok (.getfield 26, 3) := by decide +kernel
theorem dX6_show_82 : decode cX6_show 82 = .ok (.getfield 137, 3) := by decide +kernel
theorem dX6_show_85 : decode cX6_show 85 = .ok (.iaload, 1) := by decide +kernel
theorem dX6_show_86 : decode cX6_show 86 = .ok (.invokevirtual 147, 3) := by decide +kernel
theorem dX6_show_89 : decode cX6_show 89 = .ok (.aload_n 0, 1) := by decide +kernel
theorem dX6_show_90 : decode cX6_show 90 = .ok (.getfield 26, 3) := by decide +kernel
theorem dX6_show_93 : decode cX6_show 93 = .ok (.iload_n 1, 1) := by decide +kernel
theorem dX6_show_94 : decode cX6_show 94 = .ok (.invokevirtual 175, 3) := by decide +kernel
theorem dX6_show_97 : decode cX6_show 97 = .ok (.aload_n 0, 1) := by decide +kernel
theorem dX6_show_98 : decode cX6_show 98 = .ok (.getfield 26, 3) := by decide +kernel
theorem dX6_show_101 : decode cX6_show 101 = .ok (.getfield 154, 3) := by decide +kernel
theorem dX6_show_104 : decode cX6_show 104 = .ok (.aload_n 0, 1) := by decide +kernel
theorem dX6_show_105 : decode cX6_show 105 = .ok (.getfield 26, 3) := by decide +kernel
theorem dX6_show_108 : decode cX6_show 108 = .ok (.getfield 137, 3) := by decide +kernel
theorem dX6_show_111 : decode cX6_show 111 = .ok (.iaload, 1) := by decide +kernel
theorem dX6_show_112 : decode cX6_show 112 = .ok (.ireturn, 1) := by decide +kernel
theorem dX6_speak_0 : decode cX6_speak 0 = .ok (.aload_n 0, 1) := by decide +kernel
theorem dX6_speak_1 : decode cX6_speak 1 = .ok (.getfield 26, 3) := by decide +kernel
theorem dX6_speak_4 : decode cX6_speak 4 = .ok (.getfield 137, 3) := by decide +kernel
theorem dX6_speak_7 : decode cX6_speak 7 = .ok (.istore_n 1, 1) := by decide +kernel
theorem dX6_speak_8 : decode cX6_speak 8 = .ok (.iload_n 1, 1) := by decide +kernel
theorem dX6_speak_9 : decode cX6_speak 9 = .ok (.iconst (-1), 1) := by decide +kernel
theorem dX6_speak_10 : decode cX6_speak 10 = .ok (.if_icmp .ne 6, 3) := by decide +kernel
theorem dX6_speak_13 : decode cX6_speak 13 = .ok (.ldc 146, 2) := by decide +kernel
theorem dX6_speak_15 : decode cX6_speak 15 = .ok (.ireturn, 1) := by decide +kernel
theorem dX6_speak_16 : decode cX6_speak 16 = .ok (.aload_n 0, 1) := by decide +kernel
theorem dX6_speak_17 : decode cX6_speak 17 = .ok (.getfield 42, 3) := by decide +kernel
theorem dX6_speak_20 : decode cX6_speak 20 = .ok (.iconst 2, 1) := by decide +kernel
theorem dX6_speak_21 : decode cX6_speak 21 = .ok (.iload_n 1, 1) := by decide +kernel
theorem dX6_speak_22 : decode cX6_speak 22 = .ok (.aload_n 0, 1) := by decide +kernel
theorem dX6_speak_23 : decode cX6_speak 23 = .ok (.getfield 26, 3) := by decide +kernel
theorem dX6_speak_26 : decode cX6_speak 26 = .ok (.getfield 161, 3) := by decide +kernel
theorem dX6_speak_29 : decode cX6_speak 29 = .ok (.invokevirtual 147, 3) := by decide +kernel
theorem dX6_speak_32 : decode cX6_speak 32 = .ok (.aload_n 0, 1) := by decide +kernel
theorem dX6_speak_33 : decode cX6_speak 33 = .ok (.getfield 26, 3) := by decide +kernel
theorem dX6_speak_36 : decode cX6_speak 36 = .ok (.iload_n 1, 1) := by decide +kernel
theorem dX6_speak_37 : decode cX6_speak 37 = .ok (.invokevirtual 178, 3) := by decide +kernel
theorem dX6_speak_40 : decode cX6_speak 40 = .ok (.aload_n 0, 1) := by decide +kernel
theorem dX6_speak_41 : decode cX6_speak 41 = .ok (.getfield 26, 3) := by decide +kernel
theorem dX6_speak_44 : decode cX6_speak 44 = .ok (.getfield 181, 3) := by decide +kernel
theorem dX6_speak_47 : decode cX6_speak 47 = .ok (.iload_n 1, 1) := by decide +kernel
theorem dX6_speak_48 : decode cX6_speak 48 = .ok (.iaload, 1) := by decide +kernel
theorem dX6_speak_49 : decode cX6_speak 49 = .ok (.ireturn, 1) := by decide +kernel
theorem dX6_tale_0 : decode cX6_tale 0 = .ok (.aload_n 0, 1) := by decide +kernel
theorem dX6_tale_1 : decode cX6_tale 1 = .ok (.getfield 26, 3) := by decide +kernel
theorem dX6_tale_4 : decode cX6_tale 4 = .ok (.iload_n 1, 1) := by decide +kernel
theorem dX6_tale_5 : decode cX6_tale 5 = .ok (.invokevirtual 134, 3) := by decide +kernel
theorem dX6_tale_8 : decode cX6_tale 8 = .ok (.ifCond .eq 19, 3) := by decide +kernel
theorem dX6_tale_11 : decode cX6_tale 11 = .ok (.iload_n 2, 1) := by decide +kernel
theorem dX6_tale_12 : decode cX6_tale 12 = .ok (.bipush (-20), 2) := by decide +kernel
theorem dX6_tale_14 : decode cX6_tale 14 = .ok (.if_icmp .lt 13, 3) := by decide +kernel
theorem dX6_tale_17 : decode cX6_tale 17 = .ok (.iload_n 2, 1) := by decide +kernel
theorem dX6_tale_18 : decode cX6_tale 18 = .ok (.bipush 20, 2) := by decide +kernel
theorem dX6_tale_20 : decode cX6_tale 20 = .ok (.if_icmp .gt 7, 3) := by decide +kernel
theorem dX6_tale_23 : decode cX6_tale 23 = .ok (.iload_n 2, 1) := by decide +kernel
theorem dX6_tale_24 : decode cX6_tale 24 = .ok (.ifCond .ne 6, 3) := by decide +kernel
theorem dX6_tale_27 : decode cX6_tale 27 = .ok (.ldc 64, 2) := by decide +kernel
theorem dX6_tale_29 : decode cX6_tale 29 = .ok (.ireturn, 1) := by decide +kernel
theorem dX6_tale_30 : decode cX6_tale 30 = .ok (.aload_n 0, 1) := by decide +kernel
theorem dX6_tale_31 : decode cX6_tale 31 = .ok (.getfield 26, 3) := by decide +kernel
theorem dX6_tale_34 : decode cX6_tale 34 = .ok (.iload_n 1, 1) := by decide +kernel
theorem dX6_tale_35 : decode cX6_tale 35 = .ok (.invokevirtual 140, 3) := by decide +kernel
theorem dX6_tale_38 : decode cX6_tale 38 = .ok (.ifCond .eq 6, 3) := by decide +kernel
theorem dX6_tale_41 : decode cX6_tale 41 = .ok (.ldc 146, 2) := by decide +kernel
theorem dX6_tale_43 : decode cX6_tale 43 = .ok (.ireturn, 1) := by decide +kernel
theorem dX6_tale_44 : decode cX6_tale 44 = .ok (.aload_n 0, 1) := by decide +kernel
theorem dX6_tale_45 : decode cX6_tale 45 = .ok (.getfield 42, 3) := by decide +kernel
theorem dX6_tale_48 : decode cX6_tale 48 = .ok (.iconst 3, 1) := by decide +kernel
theorem dX6_tale_49 : decode cX6_tale 49 = .ok (.iload_n 1, 1) := by decide +kernel
theorem dX6_tale_50 : decode cX6_tale 50 = .ok (.aload_n 0, 1) := by decide +kernel
theorem dX6_tale_51 : decode cX6_tale 51 = .ok (.getfield 26, 3) := by decide +kernel
theorem dX6_tale_54 : decode cX6_tale 54 = .ok (.getfield 184, 3) := by decide +kernel
theorem dX6_tale_57 : decode cX6_tale 57 = .ok (.iload_n 1, 1) := by decide +kernel
theorem dX6_tale_58 : decode cX6_tale 58 = .ok (.iaload, 1) := by decide +kernel
theorem dX6_tale_59 : decode cX6_tale 59 = .ok (.invokevirtual 147, 3) := by decide +kernel
theorem dX6_tale_62 : decode cX6_tale 62 = .ok (.aload_n 0, 1) := by decide +kernel
theorem dX6_tale_63 : decode cX6_tale 63 = .ok (.getfield 26, 3) := by decide +kernel
theorem dX6_tale_66 : decode cX6_tale 66 = .ok (.getfield 184, 3) := by decide +kernel
theorem dX6_tale_69 : decode cX6_tale 69 = .ok (.iload_n 1, 1) := by decide +kernel
theorem dX6_tale_70 : decode cX6_tale 70 = .ok (.iconst 0, 1) := by decide +kernel
theorem dX6_tale_71 : decode cX6_tale 71 = .ok (.bipush 20, 2) := by decide +kernel
theorem dX6_tale_73 : decode cX6_tale 73 = .ok (.aload_n 0, 1) := by decide +kernel
theorem dX6_tale_74 : decode cX6_tale 74 = .ok (.getfield 26, 3) := by decide +kernel
theorem dX6_tale_77 : decode cX6_tale 77 = .ok (.getfield 184, 3) := by decide +kernel
theorem dX6_tale_80 : decode cX6_tale 80 = .ok (.iload_n 1, 1) := by decide +kernel
theorem dX6_tale_81 : decode cX6_tale 81 = .ok (.iaload, 1) := by decide +kernel
theorem dX6_tale_82 : decode cX6_tale 82 = .ok (.iload_n 2, 1) := by decide +kernel
theorem dX6_tale_83 : decode cX6_tale 83 = .ok (.iadd, 1) := by decide +kernel
theorem dX6_tale_84 : decode cX6_tale 84 = .ok (.invokestatic 187, 3) := by decide +kernel
theorem dX6_tale_87 : decode cX6_tale 87 = .ok (.invokestatic 193, 3) := by decide +kernel
theorem dX6_tale_90 : decode cX6_tale 90 = .ok (.iastore, 1) := by decide +kernel
theorem dX6_tale_91 : decode cX6_tale 91 = .ok (.aload_n 0, 1) := by decide +kernel
theorem dX6_tale_92 : decode cX6_tale 92 = .ok (.getfield 26, 3) := by decide +kernel
theorem dX6_tale_95 : decode cX6_tale 95 = .ok (.getfield 184, 3) := by decide +kernel
theorem dX6_tale_98 : decode cX6_tale 98 = .ok (.iload_n 1, 1) := by decide +kernel
theorem dX6_tale_99 : decode cX6_tale 99 = .ok (.iaload, 1) := by decide +kernel
theorem dX6_tale_100 : decode cX6_tale 100 = .ok (.ireturn, 1) := by decide +kernel
theorem dX6_undo_0 : decode cX6_undo 0 = .ok (.aload_n 0, 1) := by decide +kernel
theorem dX6_undo_1 : decode cX6_undo 1 = .ok (.getfield 42, 3) := by decide +kernel
theorem dX6_undo_4 : decode cX6_undo 4 = .ok (.getfield 196, 3) := by decide +kernel
theorem dX6_undo_7 : decode cX6_undo 7 = .ok (.ifCond .ne 6, 3) := by decide +kernel
theorem dX6_undo_10 : decode cX6_undo 10 = .ok (.ldc 146, 2) := by decide +kernel
theorem dX6_undo_12 : decode cX6_undo 12 = .ok (.ireturn, 1) := by decide +kernel
theorem dX6_undo_13 : decode cX6_undo 13 = .ok (.aload_n 0, 1) := by decide +kernel
theorem dX6_undo_14 : decode cX6_undo 14 = .ok (.getfield 42, 3) := by decide +kernel
theorem dX6_undo_17 : decode cX6_undo 17 = .ok (.invokevirtual 199, 3) := by decide +kernel
theorem dX6_undo_20 : decode cX6_undo 20 = .ok (.istore_n 1, 1) := by decide +kernel
theorem dX6_undo_21 : decode cX6_undo 21 = .ok (.aload_n 0, 1) := by decide +kernel
theorem dX6_undo_22 : decode cX6_undo 22 = .ok (.aload_n 0, 1) := by decide +kernel
theorem dX6_undo_23 : decode cX6_undo 23 = .ok (.getfield 42, 3) := by decide +kernel
theorem dX6_undo_26 : decode cX6_undo 26 = .ok (.getfield 203, 3) := by decide +kernel
theorem dX6_undo_29 : decode cX6_undo 29 = .ok (.iload_n 1, 1) := by decide +kernel
theorem dX6_undo_30 : decode cX6_undo 30 = .ok (.iaload, 1) := by decide +kernel
theorem dX6_undo_31 : decode cX6_undo 31 = .ok (.aload_n 0, 1) := by decide +kernel
theorem dX6_undo_32 : decode cX6_undo 32 = .ok (.getfield 42, 3) := by decide +kernel
theorem dX6_undo_35 : decode cX6_undo 35 = .ok (.getfield 206, 3) := by decide +kernel
theorem dX6_undo_38 : decode cX6_undo 38 = .ok (.iload_n 1, 1) := by decide +kernel
theorem dX6_undo_39 : decode cX6_undo 39 = .ok (.iaload, 1) := by decide +kernel
theorem dX6_undo_40 : decode cX6_undo 40 = .ok (.aload_n 0, 1) := by decide +kernel
theorem dX6_undo_41 : decode cX6_undo 41 = .ok (.getfield 42, 3) := by decide +kernel
theorem dX6_undo_44 : decode cX6_undo 44 = .ok (.getfield 209, 3) := by decide +kernel
theorem dX6_undo_47 : decode cX6_undo 47 = .ok (.iload_n 1, 1) := by decide +kernel
theorem dX6_undo_48 : decode cX6_undo 48 = .ok (.iaload, 1) := by decide +kernel
theorem dX6_undo_49 : decode cX6_undo 49 = .ok (.invokevirtual 212, 3) := by decide +kernel
theorem dX6_undo_52 : decode cX6_undo 52 = .ok (.aload_n 0, 1) := by decide +kernel
theorem dX6_undo_53 : decode cX6_undo 53 = .ok (.getfield 42, 3) := by decide +kernel
theorem dX6_undo_56 : decode cX6_undo 56 = .ok (.getfield 196, 3) := by decide +kernel
theorem dX6_undo_59 : decode cX6_undo 59 = .ok (.ireturn, 1) := by decide +kernel
theorem dX6_guest_0 : decode cX6_guest 0 = .ok (.aload_n 0, 1) := by decide +kernel
theorem dX6_guest_1 : decode cX6_guest 1 = .ok (.getfield 26, 3) := by decide +kernel
theorem dX6_guest_4 : decode cX6_guest 4 = .ok (.iload_n 1, 1) := by decide +kernel
theorem dX6_guest_5 : decode cX6_guest 5 = .ok (.invokevirtual 134, 3) := by decide +kernel
theorem dX6_guest_8 : decode cX6_guest 8 = .ok (.ifCond .ne 6, 3) := by decide +kernel
theorem dX6_guest_11 : decode cX6_guest 11 = .ok (.ldc 64, 2) := by decide +kernel
theorem dX6_guest_13 : decode cX6_guest 13 = .ok (.ireturn, 1) := by decide +kernel
theorem dX6_guest_14 : decode cX6_guest 14 = .ok (.iload_n 2, 1) := by decide +kernel
theorem dX6_guest_15 : decode cX6_guest 15 = .ok (.tableswitch 82 0 4 #[33, 43, 53, 63, 72], 33) := by decide +kernel
theorem dX6_guest_48 : decode cX6_guest 48 = .ok (.aload_n 0, 1) := by decide +kernel
theorem dX6_guest_49 : decode cX6_guest 49 = .ok (.getfield 26, 3) := by decide +kernel
theorem dX6_guest_52 : decode cX6_guest 52 = .ok (.getfield 154, 3) := by decide +kernel
theorem dX6_guest_55 : decode cX6_guest 55 = .ok (.iload_n 1, 1) := by decide +kernel
theorem dX6_guest_56 : decode cX6_guest 56 = .ok (.iaload, 1) := by decide +kernel
theorem dX6_guest_57 : decode cX6_guest 57 = .ok (.ireturn, 1) := by decide +kernel
theorem dX6_guest_58 : decode cX6_guest 58 = .ok (.aload_n 0, 1) := by decide +kernel
theorem dX6_guest_59 : decode cX6_guest 59 = .ok (.getfield 26, 3) := by decide +kernel
theorem dX6_guest_62 : decode cX6_guest 62 = .ok (.getfield 215, 3) := by decide +kernel
theorem dX6_guest_65 : decode cX6_guest 65 = .ok (.iload_n 1, 1) := by decide +kernel
theorem dX6_guest_66 : decode cX6_guest 66 = .ok (.iaload, 1) := by decide +kernel
theorem dX6_guest_67 : decode cX6_guest 67 = .ok (.ireturn, 1) := by decide +kernel
theorem dX6_guest_68 : decode cX6_guest 68 = .ok (.aload_n 0, 1) := by decide +kernel
theorem dX6_guest_69 : decode cX6_guest 69 = .ok (.getfield 26, 3) := by decide +kernel
theorem dX6_guest_72 : decode cX6_guest 72 = .ok (.getfield 184, 3) := by decide +kernel
theorem dX6_guest_75 : decode cX6_guest 75 = .ok (.iload_n 1, 1) := by decide +kernel
theorem dX6_guest_76 : decode cX6_guest 76 = .ok (.iaload, 1) := by decide +kernel
theorem dX6_guest_77 : decode cX6_guest 77 = .ok (.ireturn, 1) := by decide +kernel
theorem dX6_guest_78 : decode cX6_guest 78 = .ok (.aload_n 0, 1) := by decide +kernel
theorem dX6_guest_79 : decode cX6_guest 79 = .ok (.getfield 26, 3) := by decide +kernel
theorem dX6_guest_82 : decode cX6_guest 82 = .ok (.iload_n 1, 1) := by decide +kernel
theorem dX6_guest_83 : decode cX6_guest 83 = .ok (.invokevirtual 140, 3) := by decide +kernel
theorem dX6_guest_86 : decode cX6_guest 86 = .ok (.ireturn, 1) := by decide +kernel
theorem dX6_guest_87 : decode cX6_guest 87 = .ok (.aload_n 0, 1) := by decide +kernel
theorem dX6_guest_88 : decode cX6_guest 88 = .ok (.getfield 26, 3) := by decide +kernel
theorem dX6_guest_91 : decode cX6_guest 91 = .ok (.getfield 181, 3) := by decide +kernel
theorem dX6_guest_94 : decode cX6_guest 94 = .ok (.iload_n 1, 1) := by decide +kernel
theorem dX6_guest_95 : decode cX6_guest 95 = .ok (.iaload, 1) := by decide +kernel
theorem dX6_guest_96 : decode cX6_guest 96 = .ok (.ireturn, 1) := by decide +kernel
theorem dX6_guest_97 : decode cX6_guest 97 = .ok (.ldc 64, 2) := by decide +kernel
theorem dX6_guest_99 : decode cX6_guest 99 = .ok (.ireturn, 1) := by decide +kernel
theorem dX6_hint_0 : decode cX6_hint 0 = .ok (.aload_n 0, 1) := by decide +kernel
theorem dX6_hint_1 : decode cX6_hint 1 = .ok (.getfield 26, 3) := by decide +kernel
theorem dX6_hint_4 : decode cX6_hint 4 = .ok (.iload_n 1, 1) := by decide +kernel
theorem dX6_hint_5 : decode cX6_hint 5 = .ok (.invokevirtual 158, 3) := by decide +kernel
theorem dX6_hint_8 : decode cX6_hint 8 = .ok (.ifCond .ne 6, 3) := by decide +kernel
theorem dX6_hint_11 : decode cX6_hint 11 = .ok (.ldc 64, 2) := by decide +kernel
theorem dX6_hint_13 : decode cX6_hint 13 = .ok (.ireturn, 1) := by decide +kernel
theorem dX6_hint_14 : decode cX6_hint 14 = .ok (.iload_n 2, 1) := by decide +kernel
theorem dX6_hint_15 : decode cX6_hint 15 = .ok (.tableswitch 79 0 3 #[29, 39, 49, 59], 29) := by decide +kernel
theorem dX6_hint_44 : decode cX6_hint 44 = .ok (.aload_n 0, 1) := by decide +kernel
theorem dX6_hint_45 : decode cX6_hint 45 = .ok (.getfield 26, 3) := by decide +kernel
theorem dX6_hint_48 : decode cX6_hint 48 = .ok (.getfield 218, 3) := by decide +kernel
theorem dX6_hint_51 : decode cX6_hint 51 = .ok (.iload_n 1, 1) := by decide +kernel
theorem dX6_hint_52 : decode cX6_hint 52 = .ok (.iaload, 1) := by decide +kernel
theorem dX6_hint_53 : decode cX6_hint 53 = .ok (.ireturn, 1) := by decide +kernel
theorem dX6_hint_54 : decode cX6_hint 54 = .ok (.aload_n 0, 1) := by decide +kernel
theorem dX6_hint_55 : decode cX6_hint 55 = .ok (.getfield 26, 3) := by decide +kernel
theorem dX6_hint_58 : decode cX6_hint 58 = .ok (.getfield 221, 3) := by decide +kernel
theorem dX6_hint_61 : decode cX6_hint 61 = .ok (.iload_n 1, 1) := by decide +kernel
theorem dX6_hint_62 : decode cX6_hint 62 = .ok (.iaload, 1) := by decide +kernel
theorem dX6_hint_63 : decode cX6_hint 63 = .ok (.ireturn, 1) := by decide +kernel
theorem dX6_hint_64 : decode cX6_hint 64 = .ok (.aload_n 0, 1) := by decide +kernel
theorem dX6_hint_65 : decode cX6_hint 65 = .ok (.getfield 26, 3) := by decide +kernel
theorem dX6_hint_68 : decode cX6_hint 68 = .ok (.getfield 224, 3) := by decide +kernel
theorem dX6_hint_71 : decode cX6_hint 71 = .ok (.iload_n 1, 1) := by decide +kernel
theorem dX6_hint_72 : decode cX6_hint 72 = .ok (.iaload, 1) := by decide +kernel
theorem dX6_hint_73 : decode cX6_hint 73 = .ok (.ireturn, 1) := by decide +kernel
theorem dX6_hint_74 : decode cX6_hint 74 = .ok (.aload_n 0, 1) := by decide +kernel
theorem dX6_hint_75 : decode cX6_hint 75 = .ok (.getfield 26, 3) := by decide +kernel
theorem dX6_hint_78 : decode cX6_hint 78 = .ok (.getfield 161, 3) := by decide +kernel
theorem dX6_hint_81 : decode cX6_hint 81 = .ok (.iload_n 1, 1) := by decide +kernel
theorem dX6_hint_82 : decode cX6_hint 82 = .ok (.invokestatic 164, 3) := by decide +kernel
theorem dX6_hint_85 : decode cX6_hint 85 = .ok (.ifCond .eq 7, 3) := by decide +kernel
theorem dX6_hint_88 : decode cX6_hint 88 = .ok (.iconst 1, 1) := by decide +kernel
theorem dX6_hint_89 : decode cX6_hint 89 = .ok (.goto 4, 3) := by decide +kernel
theorem dX6_hint_92 : decode cX6_hint 92 = .ok (.iconst 0, 1) := by decide +kernel
theorem dX6_hint_93 : decode cX6_hint 93 = .ok (.ireturn, 1) := by decide +kernel
theorem dX6_hint_94 : decode cX6_hint 94 = .ok (.ldc 64, 2) := by decide +kernel
theorem dX6_hint_96 : decode cX6_hint 96 = .ok (.ireturn, 1) := by decide +kernel
theorem dX6_leads_0 : decode cX6_leads 0 = .ok (.aload_n 0, 1) := by decide +kernel
theorem dX6_leads_1 : decode cX6_leads 1 = .ok (.getfield 26, 3) := by decide +kernel
theorem dX6_leads_4 : decode cX6_leads 4 = .ok (.iload_n 1, 1) := by decide +kernel
theorem dX6_leads_5 : decode cX6_leads 5 = .ok (.invokevirtual 158, 3) := by decide +kernel
theorem dX6_leads_8 : decode cX6_leads 8 = .ok (.ifCond .eq 12, 3) := by decide +kernel
theorem dX6_leads_11 : decode cX6_leads 11 = .ok (.iload_n 2, 1) := by decide +kernel
theorem dX6_leads_12 : decode cX6_leads 12 = .ok (.bipush 8, 2) := by decide +kernel
theorem dX6_leads_14 : decode cX6_leads 14 = .ok (.invokestatic 60, 3) := by decide +kernel
theorem dX6_leads_17 : decode cX6_leads 17 = .ok (.ifCond .ne 6, 3) := by decide +kernel
theorem dX6_leads_20 : decode cX6_leads 20 = .ok (.ldc 64, 2) := by decide +kernel
theorem dX6_leads_22 : decode cX6_leads 22 = .ok (.ireturn, 1) := by decide +kernel
theorem dX6_leads_23 : decode cX6_leads 23 = .ok (.aload_n 0, 1) := by decide +kernel
theorem dX6_leads_24 : decode cX6_leads 24 = .ok (.getfield 26, 3) := by decide +kernel
theorem dX6_leads_27 : decode cX6_leads 27 = .ok (.iload_n 2, 1) := by decide +kernel
theorem dX6_leads_28 : decode cX6_leads 28 = .ok (.iload_n 1, 1) := by decide +kernel
theorem dX6_leads_29 : decode cX6_leads 29 = .ok (.aload_n 0, 1) := by decide +kernel
theorem dX6_leads_30 : decode cX6_leads 30 = .ok (.getfield 26, 3) := by decide +kernel
theorem dX6_leads_33 : decode cX6_leads 33 = .ok (.getfield 224, 3) := by decide +kernel
theorem dX6_leads_36 : decode cX6_leads 36 = .ok (.iload_n 1, 1) := by decide +kernel
theorem dX6_leads_37 : decode cX6_leads 37 = .ok (.iaload, 1) := by decide +kernel
theorem dX6_leads_38 : decode cX6_leads 38 = .ok (.invokevirtual 227, 3) := by decide +kernel
theorem dX6_leads_41 : decode cX6_leads 41 = .ok (.ireturn, 1) := by decide +kernel
theorem dX6_route_0 : decode cX6_route 0 = .ok (.aload_n 0, 1) := by decide +kernel
theorem dX6_route_1 : decode cX6_route 1 = .ok (.getfield 26, 3) := by decide +kernel
theorem dX6_route_4 : decode cX6_route 4 = .ok (.iload_n 1, 1) := by decide +kernel
theorem dX6_route_5 : decode cX6_route 5 = .ok (.invokevirtual 134, 3) := by decide +kernel
theorem dX6_route_8 : decode cX6_route 8 = .ok (.ifCond .eq 16, 3) := by decide +kernel
theorem dX6_route_11 : decode cX6_route 11 = .ok (.iload_n 2, 1) := by decide +kernel
theorem dX6_route_12 : decode cX6_route 12 = .ok (.iconst 2, 1) := by decide +kernel
theorem dX6_route_13 : decode cX6_route 13 = .ok (.invokestatic 60, 3) := by decide +kernel
theorem dX6_route_16 : decode cX6_route 16 = .ok (.ifCond .eq 8, 3) := by decide +kernel
theorem dX6_route_19 : decode cX6_route 19 = .ok (.iload_n 3, 1) := by decide +kernel
theorem dX6_route_20 : decode cX6_route 20 = .ok (.iconst (-1), 1) := by decide +kernel
theorem dX6_route_21 : decode cX6_route 21 = .ok (.if_icmp .ge 6, 3) := by decide +kernel
theorem dX6_route_24 : decode cX6_route 24 = .ok (.ldc 64, 2) := by decide +kernel
theorem dX6_route_26 : decode cX6_route 26 = .ok (.ireturn, 1) := by decide +kernel
theorem dX6_route_27 : decode cX6_route 27 = .ok (.aload_n 0, 1) := by decide +kernel
theorem dX6_route_28 : decode cX6_route 28 = .ok (.getfield 26, 3) := by decide +kernel
theorem dX6_route_31 : decode cX6_route 31 = .ok (.iload_n 1, 1) := by decide +kernel
theorem dX6_route_32 : decode cX6_route 32 = .ok (.invokevirtual 140, 3) := by decide +kernel
theorem dX6_route_35 : decode cX6_route 35 = .ok (.iconst 2, 1) := by decide +kernel
theorem dX6_route_36 : decode cX6_route 36 = .ok (.if_icmp .ne 6, 3) := by decide +kernel
theorem dX6_route_39 : decode cX6_route 39 = .ok (.ldc 146, 2) := by decide +kernel
theorem dX6_route_41 : decode cX6_route 41 = .ok (.ireturn, 1) := by decide +kernel
theorem dX6_route_42 : decode cX6_route 42 = .ok (.aload_n 0, 1) := by decide +kernel
theorem dX6_route_43 : decode cX6_route 43 = .ok (.getfield 49, 3) := by decide +kernel
theorem dX6_route_46 : decode cX6_route 46 = .ok (.aload_n 0, 1) := by decide +kernel
theorem dX6_route_47 : decode cX6_route 47 = .ok (.getfield 26, 3) := by decide +kernel
theorem dX6_route_50 : decode cX6_route 50 = .ok (.aload_n 0, 1) := by decide +kernel
theorem dX6_route_51 : decode cX6_route 51 = .ok (.getfield 26, 3) := by decide +kernel
theorem dX6_route_54 : decode cX6_route 54 = .ok (.iload_n 1, 1) := by decide +kernel
theorem dX6_route_55 : decode cX6_route 55 = .ok (.invokevirtual 230, 3) := by decide +kernel
theorem dX6_route_58 : decode cX6_route 58 = .ok (.iload_n 2, 1) := by decide +kernel
theorem dX6_route_59 : decode cX6_route 59 = .ok (.iconst 1, 1) := by decide +kernel
theorem dX6_route_60 : decode cX6_route 60 = .ok (.if_icmp .ne 7, 3) := by decide +kernel
theorem dX6_route_63 : decode cX6_route 63 = .ok (.iconst 1, 1) := by decide +kernel
theorem dX6_route_64 : decode cX6_route 64 = .ok (.goto 4, 3) := by decide +kernel
theorem dX6_route_67 : decode cX6_route 67 = .ok (.iconst 0, 1) := by decide +kernel
theorem dX6_route_68 : decode cX6_route 68 = .ok (.invokevirtual 233, 3) := by decide +kernel
theorem dX6_route_71 : decode cX6_route 71 = .ok (.aload_n 0, 1) := by decide +kernel
theorem dX6_route_72 : decode cX6_route 72 = .ok (.getfield 49, 3) := by decide +kernel
theorem dX6_route_75 : decode cX6_route 75 = .ok (.aload_n 0, 1) := by decide +kernel
theorem dX6_route_76 : decode cX6_route 76 = .ok (.getfield 26, 3) := by decide +kernel
theorem dX6_route_79 : decode cX6_route 79 = .ok (.getfield 154, 3) := by decide +kernel
theorem dX6_route_82 : decode cX6_route 82 = .ok (.iload_n 1, 1) := by decide +kernel
theorem dX6_route_83 : decode cX6_route 83 = .ok (.iaload, 1) := by decide +kernel
theorem dX6_route_84 : decode cX6_route 84 = .ok (.aload_n 0, 1) := by decide +kernel
theorem dX6_route_85 : decode cX6_route 85 = .ok (.getfield 26, 3) := by decide +kernel
theorem dX6_route_88 : decode cX6_route 88 = .ok (.iload_n 1, 1) := by decide +kernel
theorem dX6_route_89 : decode cX6_route 89 = .ok (.invokevirtual 237, 3) := by decide +kernel
theorem dX6_route_92 : decode cX6_route 92 = .ok (.invokevirtual 240, 3) := by decide +kernel
theorem dX6_route_95 : decode cX6_route 95 = .ok (.istore 4, 2) := by decide +kernel
theorem dX6_route_97 : decode cX6_route 97 = .ok (.iload 4, 2) := by decide +kernel
theorem dX6_route_99 : decode cX6_route 99 = .ok (.ldc 243, 2) := by decide +kernel
theorem dX6_route_101 : decode cX6_route 101 = .ok (.if_icmp .eq 8, 3) := by decide +kernel
theorem dX6_route_104 : decode cX6_route 104 = .ok (.iload_n 3, 1) := by decide +kernel
theorem dX6_route_105 : decode cX6_route 105 = .ok (.iconst (-1), 1) := by decide +kernel
theorem dX6_route_106 : decode cX6_route 106 = .ok (.if_icmp .ne 6, 3) := by decide +kernel
theorem dX6_route_109 : decode cX6_route 109 = .ok (.iload 4, 2) := by decide +kernel
theorem dX6_route_111 : decode cX6_route 111 = .ok (.ireturn, 1) := by decide +kernel
theorem dX6_route_112 : decode cX6_route 112 = .ok (.iload_n 3, 1) := by decide +kernel
theorem dX6_route_113 : decode cX6_route 113 = .ok (.iload 4, 2) := by decide +kernel
theorem dX6_route_115 : decode cX6_route 115 = .ok (.if_icmp .ge 21, 3) := by decide +kernel
theorem dX6_route_118 : decode cX6_route 118 = .ok (.aload_n 0, 1) := by decide +kernel
theorem dX6_route_119 : decode cX6_route 119 = .ok (.getfield 49, 3) := by decide +kernel
theorem dX6_route_122 : decode cX6_route 122 = .ok (.aload_n 0, 1) := by decide +kernel
theorem dX6_route_123 : decode cX6_route 123 = .ok (.getfield 26, 3) := by decide +kernel
theorem dX6_route_126 : decode cX6_route 126 = .ok (.iload_n 1, 1) := by decide +kernel
theorem dX6_route_127 : decode cX6_route 127 = .ok (.iload 4, 2) := by decide +kernel
theorem dX6_route_129 : decode cX6_route 129 = .ok (.iload_n 3, 1) := by decide +kernel
theorem dX6_route_130 : decode cX6_route 130 = .ok (.invokevirtual 244, 3) := by decide +kernel
theorem dX6_route_133 : decode cX6_route 133 = .ok (.goto 5, 3) := by decide +kernel
theorem dX6_route_136 : decode cX6_route 136 = .ok (.ldc 243, 2) := by decide +kernel
theorem dX6_route_138 : decode cX6_route 138 = .ok (.ireturn, 1) := by decide +kernel
theorem dX6_thinkable_0 : decode cX6_thinkable 0 = .ok (.aload_n 0, 1) := by decide +kernel
theorem dX6_thinkable_1 : decode cX6_thinkable 1 = .ok (.getfield 26, 3) := by decide +kernel
theorem dX6_thinkable_4 : decode cX6_thinkable 4 = .ok (.iload_n 1, 1) := by decide +kernel
theorem dX6_thinkable_5 : decode cX6_thinkable 5 = .ok (.invokevirtual 134, 3) := by decide +kernel
theorem dX6_thinkable_8 : decode cX6_thinkable 8 = .ok (.ifCond .ne 6, 3) := by decide +kernel
theorem dX6_thinkable_11 : decode cX6_thinkable 11 = .ok (.ldc 64, 2) := by decide +kernel
theorem dX6_thinkable_13 : decode cX6_thinkable 13 = .ok (.ireturn, 1) := by decide +kernel
theorem dX6_thinkable_14 : decode cX6_thinkable 14 = .ok (.aload_n 0, 1) := by decide +kernel
theorem dX6_thinkable_15 : decode cX6_thinkable 15 = .ok (.getfield 26, 3) := by decide +kernel
theorem dX6_thinkable_18 : decode cX6_thinkable 18 = .ok (.iload_n 1, 1) := by decide +kernel
theorem dX6_thinkable_19 : decode cX6_thinkable 19 = .ok (.invokevirtual 140, 3) := by decide +kernel
theorem dX6_thinkable_22 : decode cX6_thinkable 22 = .ok (.iconst 2, 1) := by decide +kernel
theorem dX6_thinkable_23 : decode cX6_thinkable 23 = .ok (.if_icmp .ne 6, 3) := by decide +kernel
theorem dX6_thinkable_26 : decode cX6_thinkable 26 = .ok (.ldc 146, 2) := by decide +kernel
theorem dX6_thinkable_28 : decode cX6_thinkable 28 = .ok (.ireturn, 1) := by decide +kernel
theorem dX6_thinkable_29 : decode cX6_thinkable 29 = .ok (.aload_n 0, 1) := by decide +kernel
theorem dX6_thinkable_30 : decode cX6_thinkable 30 = .ok (.getfield 26, 3) := by decide +kernel
theorem dX6_thinkable_33 : decode cX6_thinkable 33 = .ok (.aload_n 0, 1) := by decide +kernel
theorem dX6_thinkable_34 : decode cX6_thinkable 34 = .ok (.getfield 26, 3) := by decide +kernel
theorem dX6_thinkable_37 : decode cX6_thinkable 37 = .ok (.getfield 154, 3) := by decide +kernel
theorem dX6_thinkable_40 : decode cX6_thinkable 40 = .ok (.iload_n 1, 1) := by decide +kernel
theorem dX6_thinkable_41 : decode cX6_thinkable 41 = .ok (.iaload, 1) := by decide +kernel
theorem dX6_thinkable_42 : decode cX6_thinkable 42 = .ok (.aload_n 0, 1) := by decide +kernel
theorem dX6_thinkable_43 : decode cX6_thinkable 43 = .ok (.getfield 26, 3) := by decide +kernel
theorem dX6_thinkable_46 : decode cX6_thinkable 46 = .ok (.iload_n 1, 1) := by decide +kernel
theorem dX6_thinkable_47 : decode cX6_thinkable 47 = .ok (.invokevirtual 230, 3) := by decide +kernel
theorem dX6_thinkable_50 : decode cX6_thinkable 50 = .ok (.aload_n 0, 1) := by decide +kernel
theorem dX6_thinkable_51 : decode cX6_thinkable 51 = .ok (.getfield 26, 3) := by decide +kernel
theorem dX6_thinkable_54 : decode cX6_thinkable 54 = .ok (.iload_n 1, 1) := by decide +kernel
theorem dX6_thinkable_55 : decode cX6_thinkable 55 = .ok (.invokevirtual 237, 3) := by decide +kernel
theorem dX6_thinkable_58 : decode cX6_thinkable 58 = .ok (.invokestatic 248, 3) := by decide +kernel
theorem dX6_thinkable_61 : decode cX6_thinkable 61 = .ok (.ireturn, 1) := by decide +kernel
theorem dX6_chance_0 : decode cX6_chance 0 = .ok (.aload_n 0, 1) := by decide +kernel
theorem dX6_chance_1 : decode cX6_chance 1 = .ok (.getfield 26, 3) := by decide +kernel
theorem dX6_chance_4 : decode cX6_chance 4 = .ok (.iload_n 1, 1) := by decide +kernel
theorem dX6_chance_5 : decode cX6_chance 5 = .ok (.invokevirtual 134, 3) := by decide +kernel
theorem dX6_chance_8 : decode cX6_chance 8 = .ok (.ifCond .eq 19, 3) := by decide +kernel
theorem dX6_chance_11 : decode cX6_chance 11 = .ok (.iload_n 2, 1) := by decide +kernel
theorem dX6_chance_12 : decode cX6_chance 12 = .ok (.iconst 5, 1) := by decide +kernel
theorem dX6_chance_13 : decode cX6_chance 13 = .ok (.invokestatic 60, 3) := by decide +kernel
theorem dX6_chance_16 : decode cX6_chance 16 = .ok (.ifCond .eq 11, 3) := by decide +kernel
theorem dX6_chance_19 : decode cX6_chance 19 = .ok (.iload_n 3, 1) := by decide +kernel
theorem dX6_chance_20 : decode cX6_chance 20 = .ok (.iconst 2, 1) := by decide +kernel
theorem dX6_chance_21 : decode cX6_chance 21 = .ok (.invokestatic 60, 3) := by decide +kernel
theorem dX6_chance_24 : decode cX6_chance 24 = .ok (.ifCond .ne 6, 3) := by decide +kernel
theorem dX6_chance_27 : decode cX6_chance 27 = .ok (.ldc 64, 2) := by decide +kernel
theorem dX6_chance_29 : decode cX6_chance 29 = .ok (.ireturn, 1) := by decide +kernel
theorem dX6_chance_30 : decode cX6_chance 30 = .ok (.aload_n 0, 1) := by decide +kernel
theorem dX6_chance_31 : decode cX6_chance 31 = .ok (.getfield 26, 3) := by decide +kernel
theorem dX6_chance_34 : decode cX6_chance 34 = .ok (.iload_n 1, 1) := by decide +kernel
theorem dX6_chance_35 : decode cX6_chance 35 = .ok (.invokevirtual 140, 3) := by decide +kernel
theorem dX6_chance_38 : decode cX6_chance 38 = .ok (.iconst 2, 1) := by decide +kernel
theorem dX6_chance_39 : decode cX6_chance 39 = .ok (.if_icmp .ne 6, 3) := by decide +kernel
theorem dX6_chance_42 : decode cX6_chance 42 = .ok (.ldc 146, 2) := by decide +kernel
theorem dX6_chance_44 : decode cX6_chance 44 = .ok (.ireturn, 1) := by decide +kernel
theorem dX6_chance_45 : decode cX6_chance 45 = .ok (.aload_n 0, 1) := by decide +kernel
theorem dX6_chance_46 : decode cX6_chance 46 = .ok (.getfield 26, 3) := by decide +kernel
theorem dX6_chance_49 : decode cX6_chance 49 = .ok (.iload_n 1, 1) := by decide +kernel
theorem dX6_chance_50 : decode cX6_chance 50 = .ok (.invokevirtual 230, 3) := by decide +kernel
theorem dX6_chance_53 : decode cX6_chance 53 = .ok (.istore 4, 2) := by decide +kernel
theorem dX6_chance_55 : decode cX6_chance 55 = .ok (.iload_n 2, 1) := by decide +kernel
theorem dX6_chance_56 : decode cX6_chance 56 = .ok (.iload 4, 2) := by decide +kernel
theorem dX6_chance_58 : decode cX6_chance 58 = .ok (.invokestatic 167, 3) := by decide +kernel
theorem dX6_chance_61 : decode cX6_chance 61 = .ok (.if_icmp .gt 15, 3) := by decide +kernel
theorem dX6_chance_64 : decode cX6_chance 64 = .ok (.iload_n 2, 1) := by decide +kernel
theorem dX6_chance_65 : decode cX6_chance 65 = .ok (.aload_n 0, 1) := by decide +kernel
theorem dX6_chance_66 : decode cX6_chance 66 = .ok (.getfield 26, 3) := by decide +kernel
theorem dX6_chance_69 : decode cX6_chance 69 = .ok (.iload_n 1, 1) := by decide +kernel
theorem dX6_chance_70 : decode cX6_chance 70 = .ok (.invokevirtual 237, 3) := by decide +kernel
theorem dX6_chance_73 : decode cX6_chance 73 = .ok (.if_icmp .le 6, 3) := by decide +kernel
theorem dX6_chance_76 : decode cX6_chance 76 = .ok (.ldc 243, 2) := by decide +kernel
theorem dX6_chance_78 : decode cX6_chance 78 = .ok (.ireturn, 1) := by decide +kernel
theorem dX6_chance_79 : decode cX6_chance 79 = .ok (.aload_n 0, 1) := by decide +kernel
theorem dX6_chance_80 : decode cX6_chance 80 = .ok (.getfield 26, 3) := by decide +kernel
theorem dX6_chance_83 : decode cX6_chance 83 = .ok (.aload_n 0, 1) := by decide +kernel
theorem dX6_chance_84 : decode cX6_chance 84 = .ok (.getfield 26, 3) := by decide +kernel
theorem dX6_chance_87 : decode cX6_chance 87 = .ok (.getfield 154, 3) := by decide +kernel
theorem dX6_chance_90 : decode cX6_chance 90 = .ok (.iload_n 1, 1) := by decide +kernel
theorem dX6_chance_91 : decode cX6_chance 91 = .ok (.iaload, 1) := by decide +kernel
theorem dX6_chance_92 : decode cX6_chance 92 = .ok (.iload 4, 2) := by decide +kernel
theorem dX6_chance_94 : decode cX6_chance 94 = .ok (.iload_n 2, 1) := by decide +kernel
theorem dX6_chance_95 : decode cX6_chance 95 = .ok (.invokestatic 251, 3) := by decide +kernel
theorem dX6_chance_98 : decode cX6_chance 98 = .ok (.istore 5, 2) := by decide +kernel
theorem dX6_chance_100 : decode cX6_chance 100 = .ok (.iload 4, 2) := by decide +kernel
theorem dX6_chance_102 : decode cX6_chance 102 = .ok (.invokestatic 167, 3) := by decide +kernel
theorem dX6_chance_105 : decode cX6_chance 105 = .ok (.iload_n 2, 1) := by decide +kernel
theorem dX6_chance_106 : decode cX6_chance 106 = .ok (.invokestatic 254, 3) := by decide +kernel
theorem dX6_chance_109 : decode cX6_chance 109 = .ok (.istore 6, 2) := by decide +kernel
theorem dX6_chance_111 : decode cX6_chance 111 = .ok (.iload 5, 2) := by decide +kernel
theorem dX6_chance_113 : decode cX6_chance 113 = .ok (.iload 6, 2) := by decide +kernel
theorem dX6_chance_115 : decode cX6_chance 115 = .ok (.invokestatic 257, 3) := by decide +kernel
theorem dX6_chance_118 : decode cX6_chance 118 = .ok (.istore 7, 2) := by decide +kernel
theorem dX6_chance_120 : decode cX6_chance 120 = .ok (.iload_n 3, 1) := by decide +kernel
theorem dX6_chance_121 : decode cX6_chance 121 = .ok (.ifCond .ne 8, 3) := by decide +kernel
theorem dX6_chance_124 : decode cX6_chance 124 = .ok (.iload 5, 2) := by decide +kernel
theorem dX6_chance_126 : decode cX6_chance 126 = .ok (.goto 5, 3) := by decide +kernel
theorem dX6_chance_129 : decode cX6_chance 129 = .ok (.iload 6, 2) := by decide +kernel
theorem dX6_chance_131 : decode cX6_chance 131 = .ok (.iload 7, 2) := by decide +kernel
theorem dX6_chance_133 : decode cX6_chance 133 = .ok (.idiv, 1) := by decide +kernel
theorem dX6_chance_134 : decode cX6_chance 134 = .ok (.ireturn, 1) := by decide +kernel
theorem dX6_taught_0 : decode cX6_taught 0 = .ok (.aload_n 0, 1) := by decide +kernel
theorem dX6_taught_1 : decode cX6_taught 1 = .ok (.getfield 26, 3) := by decide +kernel
theorem dX6_taught_4 : decode cX6_taught 4 = .ok (.iload_n 1, 1) := by decide +kernel
theorem dX6_taught_5 : decode cX6_taught 5 = .ok (.invokevirtual 134, 3) := by decide +kernel
theorem dX6_taught_8 : decode cX6_taught 8 = .ok (.ifCond .ne 6, 3) := by decide +kernel
theorem dX6_taught_11 : decode cX6_taught 11 = .ok (.ldc 64, 2) := by decide +kernel
theorem dX6_taught_13 : decode cX6_taught 13 = .ok (.ireturn, 1) := by decide +kernel
theorem dX6_taught_14 : decode cX6_taught 14 = .ok (.iconst 0, 1) := by decide +kernel
theorem dX6_taught_15 : decode cX6_taught 15 = .ok (.aload_n 0, 1) := by decide +kernel
theorem dX6_taught_16 : decode cX6_taught 16 = .ok (.getfield 26, 3) := by decide +kernel
theorem dX6_taught_19 : decode cX6_taught 19 = .ok (.getfield 215, 3) := by decide +kernel
theorem dX6_taught_22 : decode cX6_taught 22 = .ok (.iload_n 1, 1) := by decide +kernel
theorem dX6_taught_23 : decode cX6_taught 23 = .ok (.iaload, 1) := by decide +kernel
theorem dX6_taught_24 : decode cX6_taught 24 = .ok (.aload_n 0, 1) := by decide +kernel
theorem dX6_taught_25 : decode cX6_taught 25 = .ok (.getfield 26, 3) := by decide +kernel
theorem dX6_taught_28 : decode cX6_taught 28 = .ok (.getfield 184, 3) := by decide +kernel
theorem dX6_taught_31 : decode cX6_taught 31 = .ok (.iload_n 1, 1) := by decide +kernel
theorem dX6_taught_32 : decode cX6_taught 32 = .ok (.iaload, 1) := by decide +kernel
theorem dX6_taught_33 : decode cX6_taught 33 = .ok (.isub, 1) := by decide +kernel
theorem dX6_taught_34 : decode cX6_taught 34 = .ok (.invokestatic 193, 3) := by decide +kernel
theorem dX6_taught_37 : decode cX6_taught 37 = .ok (.ireturn, 1) := by decide +kernel
theorem dX6_bestGuest_0 : decode cX6_bestGuest 0 = .ok (.aload_n 0, 1) := by decide +kernel
theorem dX6_bestGuest_1 : decode cX6_bestGuest 1 = .ok (.getfield 26, 3) := by decide +kernel
theorem dX6_bestGuest_4 : decode cX6_bestGuest 4 = .ok (.getfield 120, 3) := by decide +kernel
theorem dX6_bestGuest_7 : decode cX6_bestGuest 7 = .ok (.ifCond .ne 6, 3) := by decide +kernel
theorem dX6_bestGuest_10 : decode cX6_bestGuest 10 = .ok (.ldc 146, 2) := by decide +kernel
theorem dX6_bestGuest_12 : decode cX6_bestGuest 12 = .ok (.ireturn, 1) := by decide +kernel
theorem dX6_bestGuest_13 : decode cX6_bestGuest 13 = .ok (.iload_n 1, 1) := by decide +kernel
theorem dX6_bestGuest_14 : decode cX6_bestGuest 14 = .ok (.iconst 2, 1) := by decide +kernel
theorem dX6_bestGuest_15 : decode cX6_bestGuest 15 = .ok (.invokestatic 60, 3) := by decide +kernel
theorem dX6_bestGuest_18 : decode cX6_bestGuest 18 = .ok (.ifCond .ne 6, 3) := by decide +kernel
theorem dX6_bestGuest_21 : decode cX6_bestGuest 21 = .ok (.ldc 64, 2) := by decide +kernel
theorem dX6_bestGuest_23 : decode cX6_bestGuest 23 = .ok (.ireturn, 1) := by decide +kernel
theorem dX6_bestGuest_24 : decode cX6_bestGuest 24 = .ok (.aload_n 0, 1) := by decide +kernel
theorem dX6_bestGuest_25 : decode cX6_bestGuest 25 = .ok (.getfield 49, 3) := by decide +kernel
theorem dX6_bestGuest_28 : decode cX6_bestGuest 28 = .ok (.aload_n 0, 1) := by decide +kernel
theorem dX6_bestGuest_29 : decode cX6_bestGuest 29 = .ok (.getfield 26, 3) := by decide +kernel
theorem dX6_bestGuest_32 : decode cX6_bestGuest 32 = .ok (.iload_n 1, 1) := by decide +kernel
theorem dX6_bestGuest_33 : decode cX6_bestGuest 33 = .ok (.ifCond .ne 7, 3) := by decide +kernel
theorem dX6_bestGuest_36 : decode cX6_bestGuest 36 = .ok (.iconst 1, 1) := by decide +kernel
theorem dX6_bestGuest_37 : decode cX6_bestGuest 37 = .ok (.goto 4, 3) := by decide +kernel
theorem dX6_bestGuest_40 : decode cX6_bestGuest 40 = .ok (.iconst 0, 1) := by decide +kernel
theorem dX6_bestGuest_41 : decode cX6_bestGuest 41 = .ok (.invokevirtual 260, 3) := by decide +kernel
theorem dX6_bestGuest_44 : decode cX6_bestGuest 44 = .ok (.ireturn, 1) := by decide +kernel
theorem dX6_cover_0 : decode cX6_cover 0 = .ok (.aload_n 0, 1) := by decide +kernel
theorem dX6_cover_1 : decode cX6_cover 1 = .ok (.getfield 26, 3) := by decide +kernel
theorem dX6_cover_4 : decode cX6_cover 4 = .ok (.getfield 120, 3) := by decide +kernel
theorem dX6_cover_7 : decode cX6_cover 7 = .ok (.ifCond .ne 6, 3) := by decide +kernel
theorem dX6_cover_10 : decode cX6_cover 10 = .ok (.ldc 146, 2) := by decide +kernel
theorem dX6_cover_12 : decode cX6_cover 12 = .ok (.ireturn, 1) := by decide +kernel
theorem dX6_cover_13 : decode cX6_cover 13 = .ok (.iload_n 1, 1) := by decide +kernel
theorem dX6_cover_14 : decode cX6_cover 14 = .ok (.iconst 2, 1) := by decide +kernel
theorem dX6_cover_15 : decode cX6_cover 15 = .ok (.invokestatic 60, 3) := by decide +kernel
theorem dX6_cover_18 : decode cX6_cover 18 = .ok (.ifCond .ne 6, 3) := by decide +kernel
theorem dX6_cover_21 : decode cX6_cover 21 = .ok (.ldc 64, 2) := by decide +kernel
theorem dX6_cover_23 : decode cX6_cover 23 = .ok (.ireturn, 1) := by decide +kernel
theorem dX6_cover_24 : decode cX6_cover 24 = .ok (.aload_n 0, 1) := by decide +kernel
theorem dX6_cover_25 : decode cX6_cover 25 = .ok (.getfield 49, 3) := by decide +kernel
theorem dX6_cover_28 : decode cX6_cover 28 = .ok (.aload_n 0, 1) := by decide +kernel
theorem dX6_cover_29 : decode cX6_cover 29 = .ok (.getfield 26, 3) := by decide +kernel
theorem dX6_cover_32 : decode cX6_cover 32 = .ok (.invokevirtual 264, 3) := by decide +kernel
theorem dX6_cover_35 : decode cX6_cover 35 = .ok (.istore_n 2, 1) := by decide +kernel
theorem dX6_cover_36 : decode cX6_cover 36 = .ok (.iload_n 2, 1) := by decide +kernel
theorem dX6_cover_37 : decode cX6_cover 37 = .ok (.ldc 243, 2) := by decide +kernel
theorem dX6_cover_39 : decode cX6_cover 39 = .ok (.if_icmp .eq 8, 3) := by decide +kernel
theorem dX6_cover_42 : decode cX6_cover 42 = .ok (.iload_n 1, 1) := by decide +kernel
theorem dX6_cover_43 : decode cX6_cover 43 = .ok (.iconst 1, 1) := by decide +kernel
theorem dX6_cover_44 : decode cX6_cover 44 = .ok (.if_icmp .ne 7, 3) := by decide +kernel
theorem dX6_cover_47 : decode cX6_cover 47 = .ok (.iload_n 2, 1) := by decide +kernel
theorem dX6_cover_48 : decode cX6_cover 48 = .ok (.goto 7, 3) := by decide +kernel
theorem dX6_cover_51 : decode cX6_cover 51 = .ok (.iload_n 2, 1) := by decide +kernel
theorem dX6_cover_52 : decode cX6_cover 52 = .ok (.invokestatic 167, 3) := by decide +kernel
theorem dX6_cover_55 : decode cX6_cover 55 = .ok (.ireturn, 1) := by decide +kernel
theorem dX6_spoilt_0 : decode cX6_spoilt 0 = .ok (.aload_n 0, 1) := by decide +kernel
theorem dX6_spoilt_1 : decode cX6_spoilt 1 = .ok (.getfield 26, 3) := by decide +kernel
theorem dX6_spoilt_4 : decode cX6_spoilt 4 = .ok (.getfield 120, 3) := by decide +kernel
theorem dX6_spoilt_7 : decode cX6_spoilt 7 = .ok (.ifCond .ne 6, 3) := by decide +kernel
theorem dX6_spoilt_10 : decode cX6_spoilt 10 = .ok (.ldc 146, 2) := by decide +kernel
theorem dX6_spoilt_12 : decode cX6_spoilt 12 = .ok (.ireturn, 1) := by decide +kernel
theorem dX6_spoilt_13 : decode cX6_spoilt 13 = .ok (.iload_n 1, 1) := by decide +kernel
theorem dX6_spoilt_14 : decode cX6_spoilt 14 = .ok (.iconst 2, 1) := by decide +kernel
theorem dX6_spoilt_15 : decode cX6_spoilt 15 = .ok (.invokestatic 60, 3) := by decide +kernel
theorem dX6_spoilt_18 : decode cX6_spoilt 18 = .ok (.ifCond .ne 6, 3) := by decide +kernel
theorem dX6_spoilt_21 : decode cX6_spoilt 21 = .ok (.ldc 64, 2) := by decide +kernel
theorem dX6_spoilt_23 : decode cX6_spoilt 23 = .ok (.ireturn, 1) := by decide +kernel
theorem dX6_spoilt_24 : decode cX6_spoilt 24 = .ok (.aload_n 0, 1) := by decide +kernel
theorem dX6_spoilt_25 : decode cX6_spoilt 25 = .ok (.getfield 49, 3) := by decide +kernel
theorem dX6_spoilt_28 : decode cX6_spoilt 28 = .ok (.aload_n 0, 1) := by decide +kernel
theorem dX6_spoilt_29 : decode cX6_spoilt 29 = .ok (.getfield 26, 3) := by decide +kernel
theorem dX6_spoilt_32 : decode cX6_spoilt 32 = .ok (.iload_n 1, 1) := by decide +kernel
theorem dX6_spoilt_33 : decode cX6_spoilt 33 = .ok (.ifCond .ne 7, 3) := by decide +kernel
theorem dX6_spoilt_36 : decode cX6_spoilt 36 = .ok (.iconst 1, 1) := by decide +kernel
theorem dX6_spoilt_37 : decode cX6_spoilt 37 = .ok (.goto 4, 3) := by decide +kernel
theorem dX6_spoilt_40 : decode cX6_spoilt 40 = .ok (.iconst 0, 1) := by decide +kernel
theorem dX6_spoilt_41 : decode cX6_spoilt 41 = .ok (.invokevirtual 268, 3) := by decide +kernel
theorem dX6_spoilt_44 : decode cX6_spoilt 44 = .ok (.ireturn, 1) := by decide +kernel
theorem dX6_nearly_0 : decode cX6_nearly 0 = .ok (.aload_n 0, 1) := by decide +kernel
theorem dX6_nearly_1 : decode cX6_nearly 1 = .ok (.getfield 26, 3) := by decide +kernel
theorem dX6_nearly_4 : decode cX6_nearly 4 = .ok (.getfield 120, 3) := by decide +kernel
theorem dX6_nearly_7 : decode cX6_nearly 7 = .ok (.ifCond .ne 6, 3) := by decide +kernel
theorem dX6_nearly_10 : decode cX6_nearly 10 = .ok (.ldc 146, 2) := by decide +kernel
theorem dX6_nearly_12 : decode cX6_nearly 12 = .ok (.ireturn, 1) := by decide +kernel
theorem dX6_nearly_13 : decode cX6_nearly 13 = .ok (.iload_n 1, 1) := by decide +kernel
theorem dX6_nearly_14 : decode cX6_nearly 14 = .ok (.bipush 8, 2) := by decide +kernel
theorem dX6_nearly_16 : decode cX6_nearly 16 = .ok (.invokestatic 60, 3) := by decide +kernel
theorem dX6_nearly_19 : decode cX6_nearly 19 = .ok (.ifCond .eq 12, 3) := by decide +kernel
theorem dX6_nearly_22 : decode cX6_nearly 22 = .ok (.iload_n 3, 1) := by decide +kernel
theorem dX6_nearly_23 : decode cX6_nearly 23 = .ok (.bipush 9, 2) := by decide +kernel
theorem dX6_nearly_25 : decode cX6_nearly 25 = .ok (.invokestatic 60, 3) := by decide +kernel
theorem dX6_nearly_28 : decode cX6_nearly 28 = .ok (.ifCond .ne 6, 3) := by decide +kernel
theorem dX6_nearly_31 : decode cX6_nearly 31 = .ok (.ldc 64, 2) := by decide +kernel
theorem dX6_nearly_33 : decode cX6_nearly 33 = .ok (.ireturn, 1) := by decide +kernel
theorem dX6_nearly_34 : decode cX6_nearly 34 = .ok (.aload_n 0, 1) := by decide +kernel
theorem dX6_nearly_35 : decode cX6_nearly 35 = .ok (.getfield 10, 3) := by decide +kernel
theorem dX6_nearly_38 : decode cX6_nearly 38 = .ok (.iload_n 1, 1) := by decide +kernel
theorem dX6_nearly_39 : decode cX6_nearly 39 = .ok (.invokevirtual 76, 3) := by decide +kernel
theorem dX6_nearly_42 : decode cX6_nearly 42 = .ok (.ifCond .eq 9, 3) := by decide +kernel
theorem dX6_nearly_45 : decode cX6_nearly 45 = .ok (.aload_n 0, 1) := by decide +kernel
theorem dX6_nearly_46 : decode cX6_nearly 46 = .ok (.iconst 1, 1) := by decide +kernel
theorem dX6_nearly_47 : decode cX6_nearly 47 = .ok (.invokevirtual 65, 3) := by decide +kernel
theorem dX6_nearly_50 : decode cX6_nearly 50 = .ok (.ireturn, 1) := by decide +kernel
theorem dX6_nearly_51 : decode cX6_nearly 51 = .ok (.aload_n 0, 1) := by decide +kernel
theorem dX6_nearly_52 : decode cX6_nearly 52 = .ok (.getfield 10, 3) := by decide +kernel
theorem dX6_nearly_55 : decode cX6_nearly 55 = .ok (.iload_n 1, 1) := by decide +kernel
theorem dX6_nearly_56 : decode cX6_nearly 56 = .ok (.iload_n 2, 1) := by decide +kernel
theorem dX6_nearly_57 : decode cX6_nearly 57 = .ok (.iload_n 3, 1) := by decide +kernel
theorem dX6_nearly_58 : decode cX6_nearly 58 = .ok (.invokevirtual 80, 3) := by decide +kernel
theorem dX6_nearly_61 : decode cX6_nearly 61 = .ok (.ifCond .ne 9, 3) := by decide +kernel
theorem dX6_nearly_64 : decode cX6_nearly 64 = .ok (.aload_n 0, 1) := by decide +kernel
theorem dX6_nearly_65 : decode cX6_nearly 65 = .ok (.iconst 2, 1) := by decide +kernel
theorem dX6_nearly_66 : decode cX6_nearly 66 = .ok (.invokevirtual 65, 3) := by decide +kernel
theorem dX6_nearly_69 : decode cX6_nearly 69 = .ok (.ireturn, 1) := by decide +kernel
theorem dX6_nearly_70 : decode cX6_nearly 70 = .ok (.iconst 0, 1) := by decide +kernel
theorem dX6_nearly_71 : decode cX6_nearly 71 = .ok (.istore 4, 2) := by decide +kernel
theorem dX6_nearly_73 : decode cX6_nearly 73 = .ok (.iload 4, 2) := by decide +kernel
theorem dX6_nearly_75 : decode cX6_nearly 75 = .ok (.iload_n 3, 1) := by decide +kernel
theorem dX6_nearly_76 : decode cX6_nearly 76 = .ok (.if_icmp .ge 34, 3) := by decide +kernel
theorem dX6_nearly_79 : decode cX6_nearly 79 = .ok (.aload_n 0, 1) := by decide +kernel
theorem dX6_nearly_80 : decode cX6_nearly 80 = .ok (.getfield 26, 3) := by decide +kernel
theorem dX6_nearly_83 : decode cX6_nearly 83 = .ok (.aload_n 0, 1) := by decide +kernel
theorem dX6_nearly_84 : decode cX6_nearly 84 = .ok (.getfield 10, 3) := by decide +kernel
theorem dX6_nearly_87 : decode cX6_nearly 87 = .ok (.iload_n 1, 1) := by decide +kernel
theorem dX6_nearly_88 : decode cX6_nearly 88 = .ok (.iload_n 2, 1) := by decide +kernel
theorem dX6_nearly_89 : decode cX6_nearly 89 = .ok (.iload 4, 2) := by decide +kernel
theorem dX6_nearly_91 : decode cX6_nearly 91 = .ok (.iadd, 1) := by decide +kernel
theorem dX6_nearly_92 : decode cX6_nearly 92 = .ok (.invokevirtual 271, 3) := by decide +kernel
theorem dX6_nearly_95 : decode cX6_nearly 95 = .ok (.invokevirtual 158, 3) := by decide +kernel
theorem dX6_nearly_98 : decode cX6_nearly 98 = .ok (.ifCond .ne 6, 3) := by decide +kernel
theorem dX6_nearly_101 : decode cX6_nearly 101 = .ok (.ldc 64, 2) := by decide +kernel
theorem dX6_nearly_103 : decode cX6_nearly 103 = .ok (.ireturn, 1) := by decide +kernel
theorem dX6_nearly_104 : decode cX6_nearly 104 = .ok (.iinc 4 1, 3) := by decide +kernel
theorem dX6_nearly_107 : decode cX6_nearly 107 = .ok (.goto (-34), 3) := by decide +kernel
theorem dX6_nearly_110 : decode cX6_nearly 110 = .ok (.aload_n 0, 1) := by decide +kernel
theorem dX6_nearly_111 : decode cX6_nearly 111 = .ok (.aload_n 0, 1) := by decide +kernel
theorem dX6_nearly_112 : decode cX6_nearly 112 = .ok (.getfield 26, 3) := by decide +kernel
theorem dX6_nearly_115 : decode cX6_nearly 115 = .ok (.aload_n 0, 1) := by decide +kernel
theorem dX6_nearly_116 : decode cX6_nearly 116 = .ok (.getfield 10, 3) := by decide +kernel
theorem dX6_nearly_119 : decode cX6_nearly 119 = .ok (.iload_n 1, 1) := by decide +kernel
theorem dX6_nearly_120 : decode cX6_nearly 120 = .ok (.iload_n 2, 1) := by decide +kernel
theorem dX6_nearly_121 : decode cX6_nearly 121 = .ok (.iload_n 3, 1) := by decide +kernel
theorem dX6_nearly_122 : decode cX6_nearly 122 = .ok (.invokestatic 274, 3) := by decide +kernel
theorem dX6_nearly_125 : decode cX6_nearly 125 = .ok (.invokevirtual 73, 3) := by decide +kernel
theorem dX6_nearly_128 : decode cX6_nearly 128 = .ok (.ireturn, 1) := by decide +kernel
theorem dX6_image_0 : decode cX6_image 0 = .ok (.iload_n 1, 1) := by decide +kernel
theorem dX6_image_1 : decode cX6_image 1 = .ok (.iconst 2, 1) := by decide +kernel
theorem dX6_image_2 : decode cX6_image 2 = .ok (.invokestatic 60, 3) := by decide +kernel
theorem dX6_image_5 : decode cX6_image 5 = .ok (.ifCond .ne 6, 3) := by decide +kernel
theorem dX6_image_8 : decode cX6_image 8 = .ok (.ldc 64, 2) := by decide +kernel
theorem dX6_image_10 : decode cX6_image 10 = .ok (.ireturn, 1) := by decide +kernel
theorem dX6_image_11 : decode cX6_image 11 = .ok (.aload_n 0, 1) := by decide +kernel
theorem dX6_image_12 : decode cX6_image 12 = .ok (.getfield 26, 3) := by decide +kernel
theorem dX6_image_15 : decode cX6_image 15 = .ok (.getfield 120, 3) := by decide +kernel
theorem dX6_image_18 : decode cX6_image 18 = .ok (.ifCond .ne 6, 3) := by decide +kernel
theorem dX6_image_21 : decode cX6_image 21 = .ok (.ldc 146, 2) := by decide +kernel
theorem dX6_image_23 : decode cX6_image 23 = .ok (.ireturn, 1) := by decide +kernel
theorem dX6_image_24 : decode cX6_image 24 = .ok (.aload_n 0, 1) := by decide +kernel
theorem dX6_image_25 : decode cX6_image 25 = .ok (.iload_n 1, 1) := by decide +kernel
theorem dX6_image_26 : decode cX6_image 26 = .ok (.invokevirtual 278, 3) := by decide +kernel
theorem dX6_image_29 : decode cX6_image 29 = .ok (.aload_n 0, 1) := by decide +kernel
theorem dX6_image_30 : decode cX6_image 30 = .ok (.getfield 26, 3) := by decide +kernel
theorem dX6_image_33 : decode cX6_image 33 = .ok (.invokevirtual 124, 3) := by decide +kernel
theorem dX6_image_36 : decode cX6_image 36 = .ok (.iconst 1, 1) := by decide +kernel
theorem dX6_image_37 : decode cX6_image 37 = .ok (.ireturn, 1) := by decide +kernel
theorem dX6_restore_0 : decode cX6_restore 0 = .ok (.iload_n 1, 1) := by decide +kernel
theorem dX6_restore_1 : decode cX6_restore 1 = .ok (.iconst 2, 1) := by decide +kernel
theorem dX6_restore_2 : decode cX6_restore 2 = .ok (.invokestatic 60, 3) := by decide +kernel
theorem dX6_restore_5 : decode cX6_restore 5 = .ok (.ifCond .ne 6, 3) := by decide +kernel
theorem dX6_restore_8 : decode cX6_restore 8 = .ok (.ldc 64, 2) := by decide +kernel
theorem dX6_restore_10 : decode cX6_restore 10 = .ok (.ireturn, 1) := by decide +kernel
theorem dX6_restore_11 : decode cX6_restore 11 = .ok (.aload_n 0, 1) := by decide +kernel
theorem dX6_restore_12 : decode cX6_restore 12 = .ok (.iload_n 1, 1) := by decide +kernel
theorem dX6_restore_13 : decode cX6_restore 13 = .ok (.invokevirtual 278, 3) := by decide +kernel
theorem dX6_restore_16 : decode cX6_restore 16 = .ok (.getfield 120, 3) := by decide +kernel
theorem dX6_restore_19 : decode cX6_restore 19 = .ok (.ifCond .ne 6, 3) := by decide +kernel
theorem dX6_restore_22 : decode cX6_restore 22 = .ok (.ldc 146, 2) := by decide +kernel
theorem dX6_restore_24 : decode cX6_restore 24 = .ok (.ireturn, 1) := by decide +kernel
theorem dX6_restore_25 : decode cX6_restore 25 = .ok (.aload_n 0, 1) := by decide +kernel
theorem dX6_restore_26 : decode cX6_restore 26 = .ok (.getfield 26, 3) := by decide +kernel
theorem dX6_restore_29 : decode cX6_restore 29 = .ok (.aload_n 0, 1) := by decide +kernel
theorem dX6_restore_30 : decode cX6_restore 30 = .ok (.iload_n 1, 1) := by decide +kernel
theorem dX6_restore_31 : decode cX6_restore 31 = .ok (.invokevirtual 278, 3) := by decide +kernel
theorem dX6_restore_34 : decode cX6_restore 34 = .ok (.invokevirtual 124, 3) := by decide +kernel
theorem dX6_restore_37 : decode cX6_restore 37 = .ok (.aload_n 0, 1) := by decide +kernel
theorem dX6_restore_38 : decode cX6_restore 38 = .ok (.getfield 42, 3) := by decide +kernel
theorem dX6_restore_41 : decode cX6_restore 41 = .ok (.invokevirtual 128, 3) := by decide +kernel
theorem dX6_restore_44 : decode cX6_restore 44 = .ok (.iconst 1, 1) := by decide +kernel
theorem dX6_restore_45 : decode cX6_restore 45 = .ok (.ireturn, 1) := by decide +kernel
theorem dX6_kind_0 : decode cX6_kind 0 = .ok (.aload_n 0, 1) := by decide +kernel
theorem dX6_kind_1 : decode cX6_kind 1 = .ok (.getfield 26, 3) := by decide +kernel
theorem dX6_kind_4 : decode cX6_kind 4 = .ok (.iload_n 1, 1) := by decide +kernel
theorem dX6_kind_5 : decode cX6_kind 5 = .ok (.invokevirtual 158, 3) := by decide +kernel
theorem dX6_kind_8 : decode cX6_kind 8 = .ok (.ifCond .eq 15, 3) := by decide +kernel
theorem dX6_kind_11 : decode cX6_kind 11 = .ok (.aload_n 0, 1) := by decide +kernel
theorem dX6_kind_12 : decode cX6_kind 12 = .ok (.getfield 26, 3) := by decide +kernel
theorem dX6_kind_15 : decode cX6_kind 15 = .ok (.getfield 282, 3) := by decide +kernel
theorem dX6_kind_18 : decode cX6_kind 18 = .ok (.iload_n 1, 1) := by decide +kernel
theorem dX6_kind_19 : decode cX6_kind 19 = .ok (.iaload, 1) := by decide +kernel
theorem dX6_kind_20 : decode cX6_kind 20 = .ok (.goto 5, 3) := by decide +kernel
theorem dX6_kind_23 : decode cX6_kind 23 = .ok (.ldc 64, 2) := by decide +kernel
theorem dX6_kind_25 : decode cX6_kind 25 = .ok (.ireturn, 1) := by decide +kernel
theorem dX6_as_0 : decode cX6_as 0 = .ok (.aload_n 0, 1) := by decide +kernel
theorem dX6_as_1 : decode cX6_as 1 = .ok (.getfield 26, 3) := by decide +kernel
theorem dX6_as_4 : decode cX6_as 4 = .ok (.iload_n 1, 1) := by decide +kernel
theorem dX6_as_5 : decode cX6_as 5 = .ok (.invokevirtual 158, 3) := by decide +kernel
theorem dX6_as_8 : decode cX6_as 8 = .ok (.ifCond .eq 12, 3) := by decide +kernel
theorem dX6_as_11 : decode cX6_as 11 = .ok (.iload_n 2, 1) := by decide +kernel
theorem dX6_as_12 : decode cX6_as 12 = .ok (.bipush 6, 2) := by decide +kernel
theorem dX6_as_14 : decode cX6_as 14 = .ok (.invokestatic 60, 3) := by decide +kernel
theorem dX6_as_17 : decode cX6_as 17 = .ok (.ifCond .ne 6, 3) := by decide +kernel
theorem dX6_as_20 : decode cX6_as 20 = .ok (.ldc 64, 2) := by decide +kernel
theorem dX6_as_22 : decode cX6_as 22 = .ok (.ireturn, 1) := by decide +kernel
theorem dX6_as_23 : decode cX6_as 23 = .ok (.aload_n 0, 1) := by decide +kernel
theorem dX6_as_24 : decode cX6_as 24 = .ok (.getfield 26, 3) := by decide +kernel
theorem dX6_as_27 : decode cX6_as 27 = .ok (.getfield 282, 3) := by decide +kernel
theorem dX6_as_30 : decode cX6_as 30 = .ok (.iload_n 1, 1) := by decide +kernel
theorem dX6_as_31 : decode cX6_as 31 = .ok (.iaload, 1) := by decide +kernel
theorem dX6_as_32 : decode cX6_as 32 = .ok (.iload_n 2, 1) := by decide +kernel
theorem dX6_as_33 : decode cX6_as 33 = .ok (.invokestatic 285, 3) := by decide +kernel
theorem dX6_as_36 : decode cX6_as 36 = .ok (.ifCond .ne 9, 3) := by decide +kernel
theorem dX6_as_39 : decode cX6_as 39 = .ok (.aload_n 0, 1) := by decide +kernel
theorem dX6_as_40 : decode cX6_as 40 = .ok (.iconst 3, 1) := by decide +kernel
theorem dX6_as_41 : decode cX6_as 41 = .ok (.invokevirtual 65, 3) := by decide +kernel
theorem dX6_as_44 : decode cX6_as 44 = .ok (.ireturn, 1) := by decide +kernel
theorem dX6_as_45 : decode cX6_as 45 = .ok (.aload_n 0, 1) := by decide +kernel
theorem dX6_as_46 : decode cX6_as 46 = .ok (.iload_n 1, 1) := by decide +kernel
theorem dX6_as_47 : decode cX6_as 47 = .ok (.invokevirtual 73, 3) := by decide +kernel
theorem dX6_as_50 : decode cX6_as 50 = .ok (.ireturn, 1) := by decide +kernel
theorem dX6_ask_0 : decode cX6_ask 0 = .ok (.aload_n 0, 1) := by decide +kernel
theorem dX6_ask_1 : decode cX6_ask 1 = .ok (.getfield 26, 3) := by decide +kernel
theorem dX6_ask_4 : decode cX6_ask 4 = .ok (.iload_n 1, 1) := by decide +kernel
theorem dX6_ask_5 : decode cX6_ask 5 = .ok (.invokevirtual 158, 3) := by decide +kernel
theorem dX6_ask_8 : decode cX6_ask 8 = .ok (.ifCond .eq 11, 3) := by decide +kernel
theorem dX6_ask_11 : decode cX6_ask 11 = .ok (.iload_n 2, 1) := by decide +kernel
theorem dX6_ask_12 : decode cX6_ask 12 = .ok (.iconst 2, 1) := by decide +kernel
theorem dX6_ask_13 : decode cX6_ask 13 = .ok (.invokestatic 60, 3) := by decide +kernel
theorem dX6_ask_16 : decode cX6_ask 16 = .ok (.ifCond .ne 6, 3) := by decide +kernel
theorem dX6_ask_19 : decode cX6_ask 19 = .ok (.ldc 64, 2) := by decide +kernel
theorem dX6_ask_21 : decode cX6_ask 21 = .ok (.ireturn, 1) := by decide +kernel
theorem dX6_ask_22 : decode cX6_ask 22 = .ok (.aload_n 0, 1) := by decide +kernel
theorem dX6_ask_23 : decode cX6_ask 23 = .ok (.getfield 56, 3) := by decide +kernel
theorem dX6_ask_26 : decode cX6_ask 26 = .ok (.aload_n 0, 1) := by decide +kernel
theorem dX6_ask_27 : decode cX6_ask 27 = .ok (.getfield 26, 3) := by decide +kernel
theorem dX6_ask_30 : decode cX6_ask 30 = .ok (.iload_n 1, 1) := by decide +kernel
theorem dX6_ask_31 : decode cX6_ask 31 = .ok (.iload_n 2, 1) := by decide +kernel
theorem dX6_ask_32 : decode cX6_ask 32 = .ok (.invokevirtual 288, 3) := by decide +kernel
theorem dX6_ask_35 : decode cX6_ask 35 = .ok (.ireturn, 1) := by decide +kernel
theorem dX6_trace_0 : decode cX6_trace 0 = .ok (.iload_n 1, 1) := by decide +kernel
theorem dX6_trace_1 : decode cX6_trace 1 = .ok (.aload_n 0, 1) := by decide +kernel
theorem dX6_trace_2 : decode cX6_trace 2 = .ok (.getfield 56, 3) := by decide +kernel
theorem dX6_trace_5 : decode cX6_trace 5 = .ok (.getfield 292, 3) := by decide +kernel
theorem dX6_trace_8 : decode cX6_trace 8 = .ok (.invokestatic 60, 3) := by decide +kernel
theorem dX6_trace_11 : decode cX6_trace 11 = .ok (.ifCond .eq 15, 3) := by decide +kernel
theorem dX6_trace_14 : decode cX6_trace 14 = .ok (.aload_n 0, 1) := by decide +kernel
theorem dX6_trace_15 : decode cX6_trace 15 = .ok (.getfield 56, 3) := by decide +kernel
theorem dX6_trace_18 : decode cX6_trace 18 = .ok (.getfield 293, 3) := by decide +kernel
theorem dX6_trace_21 : decode cX6_trace 21 = .ok (.iload_n 1, 1) := by decide +kernel
theorem dX6_trace_22 : decode cX6_trace 22 = .ok (.iaload, 1) := by decide +kernel
theorem dX6_trace_23 : decode cX6_trace 23 = .ok (.goto 5, 3) := by decide +kernel
theorem dX6_trace_26 : decode cX6_trace 26 = .ok (.ldc 243, 2) := by decide +kernel
theorem dX6_trace_28 : decode cX6_trace 28 = .ok (.ireturn, 1) := by decide +kernel
theorem dX6_count_0 : decode cX6_count 0 = .ok (.iload_n 1, 1) := by decide +kernel
theorem dX6_count_1 : decode cX6_count 1 = .ok (.tableswitch 134 0 8 #[51, 59, 67, 75, 83, 99, 107, 118, 126], 51) := by decide +kernel
theorem dX6_count_52 : decode cX6_count 52 = .ok (.aload_n 0, 1) := by decide +kernel
theorem dX6_count_53 : decode cX6_count 53 = .ok (.getfield 10, 3) := by decide +kernel
theorem dX6_count_56 : decode cX6_count 56 = .ok (.invokevirtual 296, 3) := by decide +kernel
theorem dX6_count_59 : decode cX6_count 59 = .ok (.ireturn, 1) := by decide +kernel
theorem dX6_count_60 : decode cX6_count 60 = .ok (.aload_n 0, 1) := by decide +kernel
theorem dX6_count_61 : decode cX6_count 61 = .ok (.getfield 26, 3) := by decide +kernel
theorem dX6_count_64 : decode cX6_count 64 = .ok (.getfield 299, 3) := by decide +kernel
theorem dX6_count_67 : decode cX6_count 67 = .ok (.ireturn, 1) := by decide +kernel
theorem dX6_count_68 : decode cX6_count 68 = .ok (.aload_n 0, 1) := by decide +kernel
theorem dX6_count_69 : decode cX6_count 69 = .ok (.getfield 26, 3) := by decide +kernel
theorem dX6_count_72 : decode cX6_count 72 = .ok (.getfield 131, 3) := by decide +kernel
theorem dX6_count_75 : decode cX6_count 75 = .ok (.ireturn, 1) := by decide +kernel
theorem dX6_count_76 : decode cX6_count 76 = .ok (.aload_n 0, 1) := by decide +kernel
theorem dX6_count_77 : decode cX6_count 77 = .ok (.getfield 26, 3) := by decide +kernel
theorem dX6_count_80 : decode cX6_count 80 = .ok (.getfield 137, 3) := by decide +kernel
theorem dX6_count_83 : decode cX6_count 83 = .ok (.ireturn, 1) := by decide +kernel
theorem dX6_count_84 : decode cX6_count 84 = .ok (.aload_n 0, 1) := by decide +kernel
theorem dX6_count_85 : decode cX6_count 85 = .ok (.getfield 26, 3) := by decide +kernel
theorem dX6_count_88 : decode cX6_count 88 = .ok (.getfield 143, 3) := by decide +kernel
theorem dX6_count_91 : decode cX6_count 91 = .ok (.ifCond .eq 7, 3) := by decide +kernel
theorem dX6_count_94 : decode cX6_count 94 = .ok (.iconst 1, 1) := by decide +kernel
theorem dX6_count_95 : decode cX6_count 95 = .ok (.goto 4, 3) := by decide +kernel
theorem dX6_count_98 : decode cX6_count 98 = .ok (.iconst 0, 1) := by decide +kernel
theorem dX6_count_99 : decode cX6_count 99 = .ok (.ireturn, 1) := by decide +kernel
theorem dX6_count_100 : decode cX6_count 100 = .ok (.aload_n 0, 1) := by decide +kernel
theorem dX6_count_101 : decode cX6_count 101 = .ok (.getfield 26, 3) := by decide +kernel
theorem dX6_count_104 : decode cX6_count 104 = .ok (.getfield 302, 3) := by decide +kernel
theorem dX6_count_107 : decode cX6_count 107 = .ok (.ireturn, 1) := by decide +kernel
theorem dX6_count_108 : decode cX6_count 108 = .ok (.aload_n 0, 1) := by decide +kernel
theorem dX6_count_109 : decode cX6_count 109 = .ok (.getfield 26, 3) := by decide +kernel
theorem dX6_count_112 : decode cX6_count 112 = .ok (.getfield 161, 3) := by decide +kernel
theorem dX6_count_115 : decode cX6_count 115 = .ok (.invokestatic 167, 3) := by decide +kernel
theorem dX6_count_118 : decode cX6_count 118 = .ok (.ireturn, 1) := by decide +kernel
theorem dX6_count_119 : decode cX6_count 119 = .ok (.aload_n 0, 1) := by decide +kernel
theorem dX6_count_120 : decode cX6_count 120 = .ok (.getfield 42, 3) := by decide +kernel
theorem dX6_count_123 : decode cX6_count 123 = .ok (.getfield 196, 3) := by decide +kernel
theorem dX6_count_126 : decode cX6_count 126 = .ok (.ireturn, 1) := by decide +kernel
theorem dX6_count_127 : decode cX6_count 127 = .ok (.aload_n 0, 1) := by decide +kernel
theorem dX6_count_128 : decode cX6_count 128 = .ok (.getfield 19, 3) := by decide +kernel
theorem dX6_count_131 : decode cX6_count 131 = .ok (.getfield 98, 3) := by decide +kernel
theorem dX6_count_134 : decode cX6_count 134 = .ok (.ireturn, 1) := by decide +kernel
theorem dX6_count_135 : decode cX6_count 135 = .ok (.ldc 64, 2) := by decide +kernel
theorem dX6_count_137 : decode cX6_count 137 = .ok (.ireturn, 1) := by decide +kernel
theorem dX6_status_0 : decode cX6_status 0 = .ok (.aload_n 0, 1) := by decide +kernel
theorem dX6_status_1 : decode cX6_status 1 = .ok (.getfield 305, 3) := by decide +kernel
theorem dX6_status_4 : decode cX6_status 4 = .ok (.ireturn, 1) := by decide +kernel
theorem dX6_isBelow_0 : decode cX6_isBelow 0 = .ok (.iload_n 0, 1) := by decide +kernel
theorem dX6_isBelow_1 : decode cX6_isBelow 1 = .ok (.ifCond .lt 12, 3) := by decide +kernel
theorem dX6_isBelow_4 : decode cX6_isBelow 4 = .ok (.iload_n 0, 1) := by decide +kernel
theorem dX6_isBelow_5 : decode cX6_isBelow 5 = .ok (.iload_n 1, 1) := by decide +kernel
theorem dX6_isBelow_6 : decode cX6_isBelow 6 = .ok (.if_icmp .ge 7, 3) := by decide +kernel
theorem dX6_isBelow_9 : decode cX6_isBelow 9 = .ok (.iconst 1, 1) := by decide +kernel
theorem dX6_isBelow_10 : decode cX6_isBelow 10 = .ok (.goto 4, 3) := by decide +kernel
theorem dX6_isBelow_13 : decode cX6_isBelow 13 = .ok (.iconst 0, 1) := by decide +kernel
theorem dX6_isBelow_14 : decode cX6_isBelow 14 = .ok (.ireturn, 1) := by decide +kernel
theorem dX6_has_0 : decode cX6_has 0 = .ok (.iload_n 0, 1) := by decide +kernel
theorem dX6_has_1 : decode cX6_has 1 = .ok (.iload_n 1, 1) := by decide +kernel
theorem dX6_has_2 : decode cX6_has 2 = .ok (.ishr, 1) := by decide +kernel
theorem dX6_has_3 : decode cX6_has 3 = .ok (.iconst 1, 1) := by decide +kernel
theorem dX6_has_4 : decode cX6_has 4 = .ok (.iand, 1) := by decide +kernel
theorem dX6_has_5 : decode cX6_has 5 = .ok (.ifCond .eq 7, 3) := by decide +kernel
theorem dX6_has_8 : decode cX6_has 8 = .ok (.iconst 1, 1) := by decide +kernel
theorem dX6_has_9 : decode cX6_has 9 = .ok (.goto 4, 3) := by decide +kernel
theorem dX6_has_12 : decode cX6_has 12 = .ok (.iconst 0, 1) := by decide +kernel
theorem dX6_has_13 : decode cX6_has 13 = .ok (.ireturn, 1) := by decide +kernel
theorem dX6_found_0 : decode cX6_found 0 = .ok (.aload_n 0, 1) := by decide +kernel
theorem dX6_found_1 : decode cX6_found 1 = .ok (.iload_n 1, 1) := by decide +kernel
theorem dX6_found_2 : decode cX6_found 2 = .ok (.putfield 305, 3) := by decide +kernel
theorem dX6_found_5 : decode cX6_found 5 = .ok (.ldc_w 308, 3) := by decide +kernel
theorem dX6_found_8 : decode cX6_found 8 = .ok (.iload_n 1, 1) := by decide +kernel
theorem dX6_found_9 : decode cX6_found 9 = .ok (.isub, 1) := by decide +kernel
theorem dX6_found_10 : decode cX6_found 10 = .ok (.ireturn, 1) := by decide +kernel
theorem dX6_foundNothing_0 : decode cX6_foundNothing 0 = .ok (.aload_n 0, 1) := by decide +kernel
theorem dX6_foundNothing_1 : decode cX6_foundNothing 1 = .ok (.iconst 0, 1) := by decide +kernel
theorem dX6_foundNothing_2 : decode cX6_foundNothing 2 = .ok (.putfield 305, 3) := by decide +kernel
theorem dX6_foundNothing_5 : decode cX6_foundNothing 5 = .ok (.iload_n 1, 1) := by decide +kernel
theorem dX6_foundNothing_6 : decode cX6_foundNothing 6 = .ok (.ireturn, 1) := by decide +kernel
theorem dX6_imageOf_0 : decode cX6_imageOf 0 = .ok (.iload_n 1, 1) := by decide +kernel
theorem dX6_imageOf_1 : decode cX6_imageOf 1 = .ok (.ifCond .ne 10, 3) := by decide +kernel
theorem dX6_imageOf_4 : decode cX6_imageOf 4 = .ok (.aload_n 0, 1) := by decide +kernel
theorem dX6_imageOf_5 : decode cX6_imageOf 5 = .ok (.getfield 33, 3) := by decide +kernel
theorem dX6_imageOf_8 : decode cX6_imageOf 8 = .ok (.goto 7, 3) := by decide +kernel
theorem dX6_imageOf_11 : decode cX6_imageOf 11 = .ok (.aload_n 0, 1) := by decide +kernel
theorem dX6_imageOf_12 : decode cX6_imageOf 12 = .ok (.getfield 36, 3) := by decide +kernel
theorem dX6_imageOf_15 : decode cX6_imageOf 15 = .ok (.areturn, 1) := by decide +kernel
theorem dX6_takeBack_0 : decode cX6_takeBack 0 = .ok (.iload_n 1, 1) := by decide +kernel
theorem dX6_takeBack_1 : decode cX6_takeBack 1 = .ok (.tableswitch 61 0 2 #[27, 37, 49], 27) := by decide +kernel
theorem dX6_takeBack_28 : decode cX6_takeBack 28 = .ok (.aload_n 0, 1) := by decide +kernel
theorem dX6_takeBack_29 : decode cX6_takeBack 29 = .ok (.getfield 26, 3) := by decide +kernel
theorem dX6_takeBack_32 : decode cX6_takeBack 32 = .ok (.invokevirtual 309, 3) := by decide +kernel
theorem dX6_takeBack_35 : decode cX6_takeBack 35 = .ok (.goto 37, 3) := by decide +kernel
theorem dX6_takeBack_38 : decode cX6_takeBack 38 = .ok (.aload_n 0, 1) := by decide +kernel
theorem dX6_takeBack_39 : decode cX6_takeBack 39 = .ok (.getfield 26, 3) := by decide +kernel
theorem dX6_takeBack_42 : decode cX6_takeBack 42 = .ok (.iload_n 2, 1) := by decide +kernel
theorem dX6_takeBack_43 : decode cX6_takeBack 43 = .ok (.iload_n 3, 1) := by decide +kernel
theorem dX6_takeBack_44 : decode cX6_takeBack 44 = .ok (.invokevirtual 312, 3) := by decide +kernel
theorem dX6_takeBack_47 : decode cX6_takeBack 47 = .ok (.goto 25, 3) := by decide +kernel
theorem dX6_takeBack_50 : decode cX6_takeBack 50 = .ok (.aload_n 0, 1) := by decide +kernel
theorem dX6_takeBack_51 : decode cX6_takeBack 51 = .ok (.getfield 26, 3) := by decide +kernel
theorem dX6_takeBack_54 : decode cX6_takeBack 54 = .ok (.iload_n 2, 1) := by decide +kernel
theorem dX6_takeBack_55 : decode cX6_takeBack 55 = .ok (.iload_n 3, 1) := by decide +kernel
theorem dX6_takeBack_56 : decode cX6_takeBack 56 = .ok (.invokevirtual 316, 3) := by decide +kernel
theorem dX6_takeBack_59 : decode cX6_takeBack 59 = .ok (.goto 13, 3) := by decide +kernel
theorem dX6_takeBack_62 : decode cX6_takeBack 62 = .ok (.aload_n 0, 1) := by decide +kernel
theorem dX6_takeBack_63 : decode cX6_takeBack 63 = .ok (.getfield 26, 3) := by decide +kernel
theorem dX6_takeBack_66 : decode cX6_takeBack 66 = .ok (.getfield 184, 3) := by decide +kernel
theorem dX6_takeBack_69 : decode cX6_takeBack 69 = .ok (.iload_n 2, 1) := by decide +kernel
theorem dX6_takeBack_70 : decode cX6_takeBack 70 = .ok (.iload_n 3, 1) := by decide +kernel
theorem dX6_takeBack_71 : decode cX6_takeBack 71 = .ok (.iastore, 1) := by decide +kernel
theorem dX6_takeBack_72 : decode cX6_takeBack 72 = .ok (.return_, 1) := by decide +kernel
theorem dX6_rowsOfUnlike_0 : decode cX6_rowsOfUnlike 0 = .ok (.iconst 1, 1) := by decide +kernel
theorem dX6_rowsOfUnlike_1 : decode cX6_rowsOfUnlike 1 = .ok (.istore_n 2, 1) := by decide +kernel
theorem dX6_rowsOfUnlike_2 : decode cX6_rowsOfUnlike 2 = .ok (.iconst 0, 1) := by decide +kernel
theorem dX6_rowsOfUnlike_3 : decode cX6_rowsOfUnlike 3 = .ok (.istore_n 3, 1) := by decide +kernel
theorem dX6_rowsOfUnlike_4 : decode cX6_rowsOfUnlike 4 = .ok (.iload_n 3, 1) := by decide +kernel
theorem dX6_rowsOfUnlike_5 : decode cX6_rowsOfUnlike 5 = .ok (.iload_n 1, 1) := by decide +kernel
theorem dX6_rowsOfUnlike_6 : decode cX6_rowsOfUnlike 6 = .ok (.if_icmp .ge 15, 3) := by decide +kernel
theorem dX6_rowsOfUnlike_9 : decode cX6_rowsOfUnlike 9 = .ok (.iload_n 2, 1) := by decide +kernel
theorem dX6_rowsOfUnlike_10 : decode cX6_rowsOfUnlike 10 = .ok (.iload_n 0, 1) := by decide +kernel
theorem dX6_rowsOfUnlike_11 : decode cX6_rowsOfUnlike 11 = .ok (.iload_n 3, 1) := by decide +kernel
theorem dX6_rowsOfUnlike_12 : decode cX6_rowsOfUnlike 12 = .ok (.isub, 1) := by decide +kernel
theorem dX6_rowsOfUnlike_13 : decode cX6_rowsOfUnlike 13 = .ok (.imul, 1) := by decide +kernel
theorem dX6_rowsOfUnlike_14 : decode cX6_rowsOfUnlike 14 = .ok (.istore_n 2, 1) := by decide +kernel
theorem dX6_rowsOfUnlike_15 : decode cX6_rowsOfUnlike 15 = .ok (.iinc 3 1, 3) := by decide +kernel
theorem dX6_rowsOfUnlike_18 : decode cX6_rowsOfUnlike 18 = .ok (.goto (-14), 3) := by decide +kernel
theorem dX6_rowsOfUnlike_21 : decode cX6_rowsOfUnlike 21 = .ok (.iload_n 2, 1) := by decide +kernel
theorem dX6_rowsOfUnlike_22 : decode cX6_rowsOfUnlike 22 = .ok (.ireturn, 1) := by decide +kernel
theorem dX6_commonDivisor_0 : decode cX6_commonDivisor 0 = .ok (.iload_n 1, 1) := by decide +kernel
theorem dX6_commonDivisor_1 : decode cX6_commonDivisor 1 = .ok (.istore_n 2, 1) := by decide +kernel
theorem dX6_commonDivisor_2 : decode cX6_commonDivisor 2 = .ok (.iload_n 0, 1) := by decide +kernel
theorem dX6_commonDivisor_3 : decode cX6_commonDivisor 3 = .ok (.istore_n 3, 1) := by decide +kernel
theorem dX6_commonDivisor_4 : decode cX6_commonDivisor 4 = .ok (.iconst 0, 1) := by decide +kernel
theorem dX6_commonDivisor_5 : decode cX6_commonDivisor 5 = .ok (.istore 4, 2) := by decide +kernel
theorem dX6_commonDivisor_7 : decode cX6_commonDivisor 7 = .ok (.iload 4, 2) := by decide +kernel
theorem dX6_commonDivisor_9 : decode cX6_commonDivisor 9 = .ok (.bipush 64, 2) := by decide +kernel
theorem dX6_commonDivisor_11 : decode cX6_commonDivisor 11 = .ok (.if_icmp .ge 23, 3) := by decide +kernel
theorem dX6_commonDivisor_14 : decode cX6_commonDivisor 14 = .ok (.iload_n 3, 1) := by decide +kernel
theorem dX6_commonDivisor_15 : decode cX6_commonDivisor 15 = .ok (.ifCond .eq 19, 3) := by decide +kernel
theorem dX6_commonDivisor_18 : decode cX6_commonDivisor 18 = .ok (.iload_n 2, 1) := by decide +kernel
theorem dX6_commonDivisor_19 : decode cX6_commonDivisor 19 = .ok (.iload_n 3, 1) := by decide +kernel
theorem dX6_commonDivisor_20 : decode cX6_commonDivisor 20 = .ok (.irem, 1) := by decide +kernel
theorem dX6_commonDivisor_21 : decode cX6_commonDivisor 21 = .ok (.istore 5, 2) := by decide +kernel
theorem dX6_commonDivisor_23 : decode cX6_commonDivisor 23 = .ok (.iload_n 3, 1) := by decide +kernel
theorem dX6_commonDivisor_24 : decode cX6_commonDivisor 24 = .ok (.istore_n 2, 1) := by decide +kernel
theorem dX6_commonDivisor_25 : decode cX6_commonDivisor 25 = .ok (.iload 5, 2) := by decide +kernel
theorem dX6_commonDivisor_27 : decode cX6_commonDivisor 27 = .ok (.istore_n 3, 1) := by decide +kernel
theorem dX6_commonDivisor_28 : decode cX6_commonDivisor 28 = .ok (.iinc 4 1, 3) := by decide +kernel
theorem dX6_commonDivisor_31 : decode cX6_commonDivisor 31 = .ok (.goto (-24), 3) := by decide +kernel
theorem dX6_commonDivisor_34 : decode cX6_commonDivisor 34 = .ok (.iload_n 2, 1) := by decide +kernel
theorem dX6_commonDivisor_35 : decode cX6_commonDivisor 35 = .ok (.ifCond .ne 7, 3) := by decide +kernel
theorem dX6_commonDivisor_38 : decode cX6_commonDivisor 38 = .ok (.iconst 1, 1) := by decide +kernel
theorem dX6_commonDivisor_39 : decode cX6_commonDivisor 39 = .ok (.goto 4, 3) := by decide +kernel
theorem dX6_commonDivisor_42 : decode cX6_commonDivisor 42 = .ok (.iload_n 2, 1) := by decide +kernel
theorem dX6_commonDivisor_43 : decode cX6_commonDivisor 43 = .ok (.ireturn, 1) := by decide +kernel
theorem dX6_parentOf_0 : decode cX6_parentOf 0 = .ok (.iload_n 0, 1) := by decide +kernel
theorem dX6_parentOf_1 : decode cX6_parentOf 1 = .ok (.iconst 2, 1) := by decide +kernel
theorem dX6_parentOf_2 : decode cX6_parentOf 2 = .ok (.if_icmp .eq 8, 3) := by decide +kernel
theorem dX6_parentOf_5 : decode cX6_parentOf 5 = .ok (.iload_n 0, 1) := by decide +kernel
theorem dX6_parentOf_6 : decode cX6_parentOf 6 = .ok (.iconst 3, 1) := by decide +kernel
theorem dX6_parentOf_7 : decode cX6_parentOf 7 = .ok (.if_icmp .ne 5, 3) := by decide +kernel
theorem dX6_parentOf_10 : decode cX6_parentOf 10 = .ok (.iconst 1, 1) := by decide +kernel
theorem dX6_parentOf_11 : decode cX6_parentOf 11 = .ok (.ireturn, 1) := by decide +kernel
theorem dX6_parentOf_12 : decode cX6_parentOf 12 = .ok (.iload_n 0, 1) := by decide +kernel
theorem dX6_parentOf_13 : decode cX6_parentOf 13 = .ok (.iconst 5, 1) := by decide +kernel
theorem dX6_parentOf_14 : decode cX6_parentOf 14 = .ok (.if_icmp .ne 7, 3) := by decide +kernel
theorem dX6_parentOf_17 : decode cX6_parentOf 17 = .ok (.iconst 4, 1) := by decide +kernel
theorem dX6_parentOf_18 : decode cX6_parentOf 18 = .ok (.goto 4, 3) := by decide +kernel
theorem dX6_parentOf_21 : decode cX6_parentOf 21 = .ok (.iconst 0, 1) := by decide +kernel
theorem dX6_parentOf_22 : decode cX6_parentOf 22 = .ok (.ireturn, 1) := by decide +kernel
theorem dX6_isOneOf_0 : decode cX6_isOneOf 0 = .ok (.iload_n 1, 1) := by decide +kernel
theorem dX6_isOneOf_1 : decode cX6_isOneOf 1 = .ok (.ifCond .eq 16, 3) := by decide +kernel
theorem dX6_isOneOf_4 : decode cX6_isOneOf 4 = .ok (.iload_n 1, 1) := by decide +kernel
theorem dX6_isOneOf_5 : decode cX6_isOneOf 5 = .ok (.iload_n 0, 1) := by decide +kernel
theorem dX6_isOneOf_6 : decode cX6_isOneOf 6 = .ok (.if_icmp .eq 11, 3) := by decide +kernel
theorem dX6_isOneOf_9 : decode cX6_isOneOf 9 = .ok (.iload_n 1, 1) := by decide +kernel
theorem dX6_isOneOf_10 : decode cX6_isOneOf 10 = .ok (.iload_n 0, 1) := by decide +kernel
theorem dX6_isOneOf_11 : decode cX6_isOneOf 11 = .ok (.invokestatic 319, 3) := by decide +kernel
theorem dX6_isOneOf_14 : decode cX6_isOneOf 14 = .ok (.if_icmp .ne 7, 3) := by decide +kernel
theorem dX6_isOneOf_17 : decode cX6_isOneOf 17 = .ok (.iconst 1, 1) := by decide +kernel
theorem dX6_isOneOf_18 : decode cX6_isOneOf 18 = .ok (.goto 4, 3) := by decide +kernel
theorem dX6_isOneOf_21 : decode cX6_isOneOf 21 = .ok (.iconst 0, 1) := by decide +kernel
theorem dX6_isOneOf_22 : decode cX6_isOneOf 22 = .ok (.ireturn, 1) := by decide +kernel
theorem dJ6_bitCount_0f7a4_0 : decode cJ6_bitCount_0f7a4 0 = .ok (.iload_n 0, 1) := by decide +kernel
theorem dJ6_bitCount_0f7a4_1 : decode cJ6_bitCount_0f7a4 1 = .ok (.iload_n 0, 1) := by decide +kernel
theorem dJ6_bitCount_0f7a4_2 : decode cJ6_bitCount_0f7a4 2 = .ok (.iconst 1, 1) := by decide +kernel
theorem dJ6_bitCount_0f7a4_3 : decode cJ6_bitCount_0f7a4 3 = .ok (.iushr, 1) := by decide +kernel
theorem dJ6_bitCount_0f7a4_4 : decode cJ6_bitCount_0f7a4 4 = .ok (.ldc_w 265, 3) := by decide +kernel
theorem dJ6_bitCount_0f7a4_7 : decode cJ6_bitCount_0f7a4 7 = .ok (.iand, 1) := by decide +kernel
theorem dJ6_bitCount_0f7a4_8 : decode cJ6_bitCount_0f7a4 8 = .ok (.isub, 1) := by decide +kernel
theorem dJ6_bitCount_0f7a4_9 : decode cJ6_bitCount_0f7a4 9 = .ok (.istore_n 0, 1) := by decide +kernel
theorem dJ6_bitCount_0f7a4_10 : decode cJ6_bitCount_0f7a4 10 = .ok (.iload_n 0, 1) := by decide +kernel
theorem dJ6_bitCount_0f7a4_11 : decode cJ6_bitCount_0f7a4 11 = .ok (.ldc_w 266, 3) := by decide +kernel
theorem dJ6_bitCount_0f7a4_14 : decode cJ6_bitCount_0f7a4 14 = .ok (.iand, 1) := by decide +kernel
theorem dJ6_bitCount_0f7a4_15 : decode cJ6_bitCount_0f7a4 15 = .ok (.iload_n 0, 1) := by decide +kernel
theorem dJ6_bitCount_0f7a4_16 : decode cJ6_bitCount_0f7a4 16 = .ok (.iconst 2, 1) := by decide +kernel
theorem dJ6_bitCount_0f7a4_17 : decode cJ6_bitCount_0f7a4 17 = .ok (.iushr, 1) := by decide +kernel
theorem dJ6_bitCount_0f7a4_18 : decode cJ6_bitCount_0f7a4 18 = .ok (.ldc_w 266, 3) := by decide +kernel
theorem dJ6_bitCount_0f7a4_21 : decode cJ6_bitCount_0f7a4 21 = .ok (.iand, 1) := by decide +kernel
theorem dJ6_bitCount_0f7a4_22 : decode cJ6_bitCount_0f7a4 22 = .ok (.iadd, 1) := by decide +kernel
theorem dJ6_bitCount_0f7a4_23 : decode cJ6_bitCount_0f7a4 23 = .ok (.istore_n 0, 1) := by decide +kernel
theorem dJ6_bitCount_0f7a4_24 : decode cJ6_bitCount_0f7a4 24 = .ok (.iload_n 0, 1) := by decide +kernel
theorem dJ6_bitCount_0f7a4_25 : decode cJ6_bitCount_0f7a4 25 = .ok (.iload_n 0, 1) := by decide +kernel
theorem dJ6_bitCount_0f7a4_26 : decode cJ6_bitCount_0f7a4 26 = .ok (.iconst 4, 1) := by decide +kernel
theorem dJ6_bitCount_0f7a4_27 : decode cJ6_bitCount_0f7a4 27 = .ok (.iushr, 1) := by decide +kernel
theorem dJ6_bitCount_0f7a4_28 : decode cJ6_bitCount_0f7a4 28 = .ok (.iadd, 1) := by decide +kernel
theorem dJ6_bitCount_0f7a4_29 : decode cJ6_bitCount_0f7a4 29 = .ok (.ldc_w 267, 3) := by decide +kernel
theorem dJ6_bitCount_0f7a4_32 : decode cJ6_bitCount_0f7a4 32 = .ok (.iand, 1) := by decide +kernel
theorem dJ6_bitCount_0f7a4_33 : decode cJ6_bitCount_0f7a4 33 = .ok (.istore_n 0, 1) := by decide +kernel
theorem dJ6_bitCount_0f7a4_34 : decode cJ6_bitCount_0f7a4 34 = .ok (.iload_n 0, 1) := by decide +kernel
theorem dJ6_bitCount_0f7a4_35 : decode cJ6_bitCount_0f7a4 35 = .ok (.iload_n 0, 1) := by decide +kernel
theorem dJ6_bitCount_0f7a4_36 : decode cJ6_bitCount_0f7a4 36 = .ok (.bipush 8, 2) := by decide +kernel
theorem dJ6_bitCount_0f7a4_38 : decode cJ6_bitCount_0f7a4 38 = .ok (.iushr, 1) := by decide +kernel
theorem dJ6_bitCount_0f7a4_39 : decode cJ6_bitCount_0f7a4 39 = .ok (.iadd, 1) := by decide +kernel
theorem dJ6_bitCount_0f7a4_40 : decode cJ6_bitCount_0f7a4 40 = .ok (.istore_n 0, 1) := by decide +kernel
theorem dJ6_bitCount_0f7a4_41 : decode cJ6_bitCount_0f7a4 41 = .ok (.iload_n 0, 1) := by decide +kernel
theorem dJ6_bitCount_0f7a4_42 : decode cJ6_bitCount_0f7a4 42 = .ok (.iload_n 0, 1) := by decide +kernel
theorem dJ6_bitCount_0f7a4_43 : decode cJ6_bitCount_0f7a4 43 = .ok (.bipush 16, 2) := by decide +kernel
theorem dJ6_bitCount_0f7a4_45 : decode cJ6_bitCount_0f7a4 45 = .ok (.iushr, 1) := by decide +kernel
theorem dJ6_bitCount_0f7a4_46 : decode cJ6_bitCount_0f7a4 46 = .ok (.iadd, 1) := by decide +kernel
theorem dJ6_bitCount_0f7a4_47 : decode cJ6_bitCount_0f7a4 47 = .ok (.istore_n 0, 1) := by decide +kernel
theorem dJ6_bitCount_0f7a4_48 : decode cJ6_bitCount_0f7a4 48 = .ok (.iload_n 0, 1) := by decide +kernel
theorem dJ6_bitCount_0f7a4_49 : decode cJ6_bitCount_0f7a4 49 = .ok (.bipush 63, 2) := by decide +kernel
theorem dJ6_bitCount_0f7a4_51 : decode cJ6_bitCount_0f7a4 51 = .ok (.iand, 1) := by decide +kernel
theorem dJ6_bitCount_0f7a4_52 : decode cJ6_bitCount_0f7a4 52 = .ok (.ireturn, 1) := by decide +kernel
theorem dJ9_max_7cf53_0 : decode cJ9_max_7cf53 0 = .ok (.iload_n 0, 1) := by decide +kernel
theorem dJ9_max_7cf53_1 : decode cJ9_max_7cf53 1 = .ok (.iload_n 1, 1) := by decide +kernel
theorem dJ9_max_7cf53_2 : decode cJ9_max_7cf53 2 = .ok (.if_icmp .lt 7, 3) := by decide +kernel
theorem dJ9_max_7cf53_5 : decode cJ9_max_7cf53 5 = .ok (.iload_n 0, 1) := by decide +kernel
theorem dJ9_max_7cf53_6 : decode cJ9_max_7cf53 6 = .ok (.goto 4, 3) := by decide +kernel
theorem dJ9_max_7cf53_9 : decode cJ9_max_7cf53 9 = .ok (.iload_n 1, 1) := by decide +kernel
theorem dJ9_max_7cf53_10 : decode cJ9_max_7cf53 10 = .ok (.ireturn, 1) := by decide +kernel
theorem dJ9_min_7cf53_0 : decode cJ9_min_7cf53 0 = .ok (.iload_n 0, 1) := by decide +kernel
theorem dJ9_min_7cf53_1 : decode cJ9_min_7cf53 1 = .ok (.iload_n 1, 1) := by decide +kernel
theorem dJ9_min_7cf53_2 : decode cJ9_min_7cf53 2 = .ok (.if_icmp .gt 7, 3) := by decide +kernel
theorem dJ9_min_7cf53_5 : decode cJ9_min_7cf53 5 = .ok (.iload_n 0, 1) := by decide +kernel
theorem dJ9_min_7cf53_6 : decode cJ9_min_7cf53 6 = .ok (.goto 4, 3) := by decide +kernel
theorem dJ9_min_7cf53_9 : decode cJ9_min_7cf53 9 = .ok (.iload_n 1, 1) := by decide +kernel
theorem dJ9_min_7cf53_10 : decode cJ9_min_7cf53 10 = .ok (.ireturn, 1) := by decide +kernel
end
section
theorem dX7_init_0 : decode cX7_init 0 = .ok (.aload_n 0, 1) := by decide +kernel
theorem dX7_init_1 : decode cX7_init 1 = .ok (.invokespecial 1, 3) := by decide +kernel
theorem dX7_init_4 : decode cX7_init 4 = .ok (.aload_n 0, 1) := by decide +kernel
theorem dX7_init_5 : decode cX7_init 5 = .ok (.bipush 8, 2) := by decide +kernel
theorem dX7_init_7 : decode cX7_init 7 = .ok (.newarray .int, 2) := by decide +kernel
theorem dX7_init_9 : decode cX7_init 9 = .ok (.putfield 7, 3) := by decide +kernel
theorem dX7_init_12 : decode cX7_init 12 = .ok (.aload_n 0, 1) := by decide +kernel
theorem dX7_init_13 : decode cX7_init 13 = .ok (.bipush 8, 2) := by decide +kernel
theorem dX7_init_15 : decode cX7_init 15 = .ok (.newarray .int, 2) := by decide +kernel
theorem dX7_init_17 : decode cX7_init 17 = .ok (.putfield 13, 3) := by decide +kernel
theorem dX7_init_20 : decode cX7_init 20 = .ok (.aload_n 0, 1) := by decide +kernel
theorem dX7_init_21 : decode cX7_init 21 = .ok (.sipush 320, 3) := by decide +kernel
theorem dX7_init_24 : decode cX7_init 24 = .ok (.newarray .int, 2) := by decide +kernel
theorem dX7_init_26 : decode cX7_init 26 = .ok (.putfield 16, 3) := by decide +kernel
theorem dX7_init_29 : decode cX7_init 29 = .ok (.aload_n 0, 1) := by decide +kernel
theorem dX7_init_30 : decode cX7_init 30 = .ok (.bipush 40, 2) := by decide +kernel
theorem dX7_init_32 : decode cX7_init 32 = .ok (.newarray .int, 2) := by decide +kernel
theorem dX7_init_34 : decode cX7_init 34 = .ok (.putfield 19, 3) := by decide +kernel
theorem dX7_init_37 : decode cX7_init 37 = .ok (.aload_n 0, 1) := by decide +kernel
theorem dX7_init_38 : decode cX7_init 38 = .ok (.bipush 120, 2) := by decide +kernel
theorem dX7_init_40 : decode cX7_init 40 = .ok (.newarray .int, 2) := by decide +kernel
theorem dX7_init_42 : decode cX7_init 42 = .ok (.putfield 22, 3) := by decide +kernel
theorem dX7_init_45 : decode cX7_init 45 = .ok (.aload_n 0, 1) := by decide +kernel
theorem dX7_init_46 : decode cX7_init 46 = .ok (.bipush 71, 2) := by decide +kernel
theorem dX7_init_48 : decode cX7_init 48 = .ok (.newarray .int, 2) := by decide +kernel
theorem dX7_init_50 : decode cX7_init 50 = .ok (.putfield 25, 3) := by decide +kernel
theorem dX7_init_53 : decode cX7_init 53 = .ok (.aload_n 0, 1) := by decide +kernel
theorem dX7_init_54 : decode cX7_init 54 = .ok (.bipush 71, 2) := by decide +kernel
theorem dX7_init_56 : decode cX7_init 56 = .ok (.newarray .int, 2) := by decide +kernel
theorem dX7_init_58 : decode cX7_init 58 = .ok (.putfield 28, 3) := by decide +kernel
theorem dX7_init_61 : decode cX7_init 61 = .ok (.aload_n 0, 1) := by decide +kernel
theorem dX7_init_62 : decode cX7_init 62 = .ok (.sipush 1704, 3) := by decide +kernel
theorem dX7_init_65 : decode cX7_init 65 = .ok (.newarray .int, 2) := by decide +kernel
theorem dX7_init_67 : decode cX7_init 67 = .ok (.putfield 31, 3) := by decide +kernel
theorem dX7_init_70 : decode cX7_init 70 = .ok (.aload_n 0, 1) := by decide +kernel
theorem dX7_init_71 : decode cX7_init 71 = .ok (.sipush 142, 3) := by decide +kernel
theorem dX7_init_74 : decode cX7_init 74 = .ok (.newarray .int, 2) := by decide +kernel
theorem dX7_init_76 : decode cX7_init 76 = .ok (.putfield 34, 3) := by decide +kernel
theorem dX7_init_79 : decode cX7_init 79 = .ok (.aload_n 0, 1) := by decide +kernel
theorem dX7_init_80 : decode cX7_init 80 = .ok (.iconst 2, 1) := by decide +kernel
theorem dX7_init_81 : decode cX7_init 81 = .ok (.newarray .boolean, 2) := by decide +kernel
theorem dX7_init_83 : decode cX7_init 83 = .ok (.putfield 37, 3) := by decide +kernel
theorem dX7_init_86 : decode cX7_init 86 = .ok (.aload_n 0, 1) := by decide +kernel
theorem dX7_init_87 : decode cX7_init 87 = .ok (.bipush 16, 2) := by decide +kernel
theorem dX7_init_89 : decode cX7_init 89 = .ok (.newarray .int, 2) := by decide +kernel
theorem dX7_init_91 : decode cX7_init 91 = .ok (.putfield 41, 3) := by decide +kernel
theorem dX7_init_94 : decode cX7_init 94 = .ok (.aload_n 0, 1) := by decide +kernel
theorem dX7_init_95 : decode cX7_init 95 = .ok (.sipush 256, 3) := by decide +kernel
theorem dX7_init_98 : decode cX7_init 98 = .ok (.newarray .int, 2) := by decide +kernel
theorem dX7_init_100 : decode cX7_init 100 = .ok (.putfield 44, 3) := by decide +kernel
theorem dX7_init_103 : decode cX7_init 103 = .ok (.aload_n 0, 1) := by decide +kernel
theorem dX7_init_104 : decode cX7_init 104 = .ok (.sipush 256, 3) := by decide +kernel
theorem dX7_init_107 : decode cX7_init 107 = .ok (.newarray .int, 2) := by decide +kernel
theorem dX7_init_109 : decode cX7_init 109 = .ok (.putfield 47, 3) := by decide +kernel
theorem dX7_init_112 : decode cX7_init 112 = .ok (.aload_n 0, 1) := by decide +kernel
theorem dX7_init_113 : decode cX7_init 113 = .ok (.bipush 8, 2) := by decide +kernel
theorem dX7_init_115 : decode cX7_init 115 = .ok (.newarray .int, 2) := by decide +kernel
theorem dX7_init_117 : decode cX7_init 117 = .ok (.putfield 50, 3) := by decide +kernel
theorem dX7_init_120 : decode cX7_init 120 = .ok (.iconst 0, 1) := by decide +kernel
theorem dX7_init_121 : decode cX7_init 121 = .ok (.istore_n 1, 1) := by decide +kernel
theorem dX7_init_122 : decode cX7_init 122 = .ok (.iload_n 1, 1) := by decide +kernel
theorem dX7_init_123 : decode cX7_init 123 = .ok (.bipush 8, 2) := by decide +kernel
theorem dX7_init_125 : decode cX7_init 125 = .ok (.if_icmp .ge 17, 3) := by decide +kernel
theorem dX7_init_128 : decode cX7_init 128 = .ok (.aload_n 0, 1) := by decide +kernel
theorem dX7_init_129 : decode cX7_init 129 = .ok (.getfield 7, 3) := by decide +kernel
theorem dX7_init_132 : decode cX7_init 132 = .ok (.iload_n 1, 1) := by decide +kernel
theorem dX7_init_133 : decode cX7_init 133 = .ok (.ldc 53, 2) := by decide +kernel
theorem dX7_init_135 : decode cX7_init 135 = .ok (.iastore, 1) := by decide +kernel
theorem dX7_init_136 : decode cX7_init 136 = .ok (.iinc 1 1, 3) := by decide +kernel
theorem dX7_init_139 : decode cX7_init 139 = .ok (.goto (-17), 3) := by decide +kernel
theorem dX7_init_142 : decode cX7_init 142 = .ok (.aload_n 0, 1) := by decide +kernel
theorem dX7_init_143 : decode cX7_init 143 = .ok (.getfield 25, 3) := by decide +kernel
theorem dX7_init_146 : decode cX7_init 146 = .ok (.iconst 3, 1) := by decide +kernel
theorem dX7_init_147 : decode cX7_init 147 = .ok (.iconst (-1), 1) := by decide +kernel
theorem dX7_init_148 : decode cX7_init 148 = .ok (.iastore, 1) := by decide +kernel
theorem dX7_init_149 : decode cX7_init 149 = .ok (.return_, 1) := by decide +kernel
theorem dX7_in_0 : decode cX7_in 0 = .ok (.iload_n 0, 1) := by decide +kernel
theorem dX7_in_1 : decode cX7_in 1 = .ok (.iload_n 1, 1) := by decide +kernel
theorem dX7_in_2 : decode cX7_in 2 = .ok (.if_icmp .lt 12, 3) := by decide +kernel
theorem dX7_in_5 : decode cX7_in 5 = .ok (.iload_n 0, 1) := by decide +kernel
theorem dX7_in_6 : decode cX7_in 6 = .ok (.iload_n 2, 1) := by decide +kernel
theorem dX7_in_7 : decode cX7_in 7 = .ok (.if_icmp .gt 7, 3) := by decide +kernel
theorem dX7_in_10 : decode cX7_in 10 = .ok (.iconst 1, 1) := by decide +kernel
theorem dX7_in_11 : decode cX7_in 11 = .ok (.goto 4, 3) := by decide +kernel
theorem dX7_in_14 : decode cX7_in 14 = .ok (.iconst 0, 1) := by decide +kernel
theorem dX7_in_15 : decode cX7_in 15 = .ok (.ireturn, 1) := by decide +kernel
theorem dX7_has_0 : decode cX7_has 0 = .ok (.iload_n 0, 1) := by decide +kernel
theorem dX7_has_1 : decode cX7_has 1 = .ok (.iload_n 1, 1) := by decide +kernel
theorem dX7_has_2 : decode cX7_has 2 = .ok (.ishr, 1) := by decide +kernel
theorem dX7_has_3 : decode cX7_has 3 = .ok (.iconst 1, 1) := by decide +kernel
theorem dX7_has_4 : decode cX7_has 4 = .ok (.iand, 1) := by decide +kernel
theorem dX7_has_5 : decode cX7_has 5 = .ok (.iconst 1, 1) := by decide +kernel
theorem dX7_has_6 : decode cX7_has 6 = .ok (.if_icmp .ne 7, 3) := by decide +kernel
theorem dX7_has_9 : decode cX7_has 9 = .ok (.iconst 1, 1) := by decide +kernel
theorem dX7_has_10 : decode cX7_has 10 = .ok (.goto 4, 3) := by decide +kernel
theorem dX7_has_13 : decode cX7_has 13 = .ok (.iconst 0, 1) := by decide +kernel
theorem dX7_has_14 : decode cX7_has 14 = .ok (.ireturn, 1) := by decide +kernel
theorem dX7_ones_0 : decode cX7_ones 0 = .ok (.iconst 0, 1) := by decide +kernel
theorem dX7_ones_1 : decode cX7_ones 1 = .ok (.istore_n 1, 1) := by decide +kernel
theorem dX7_ones_2 : decode cX7_ones 2 = .ok (.iconst 0, 1) := by decide +kernel
theorem dX7_ones_3 : decode cX7_ones 3 = .ok (.istore_n 2, 1) := by decide +kernel
theorem dX7_ones_4 : decode cX7_ones 4 = .ok (.iload_n 2, 1) := by decide +kernel
theorem dX7_ones_5 : decode cX7_ones 5 = .ok (.bipush 8, 2) := by decide +kernel
theorem dX7_ones_7 : decode cX7_ones 7 = .ok (.if_icmp .ge 17, 3) := by decide +kernel
theorem dX7_ones_10 : decode cX7_ones 10 = .ok (.iload_n 1, 1) := by decide +kernel
theorem dX7_ones_11 : decode cX7_ones 11 = .ok (.iload_n 0, 1) := by decide +kernel
theorem dX7_ones_12 : decode cX7_ones 12 = .ok (.iload_n 2, 1) := by decide +kernel
theorem dX7_ones_13 : decode cX7_ones 13 = .ok (.ishr, 1) := by decide +kernel
theorem dX7_ones_14 : decode cX7_ones 14 = .ok (.iconst 1, 1) := by decide +kernel
theorem dX7_ones_15 : decode cX7_ones 15 = .ok (.iand, 1) := by decide +kernel
theorem dX7_ones_16 : decode cX7_ones 16 = .ok (.iadd, 1) := by decide +kernel
theorem dX7_ones_17 : decode cX7_ones 17 = .ok (.istore_n 1, 1) := by decide +kernel
theorem dX7_ones_18 : decode cX7_ones 18 = .ok (.iinc 2 1, 3) := by decide +kernel
theorem dX7_ones_21 : decode cX7_ones 21 = .ok (.goto (-17), 3) := by decide +kernel
theorem dX7_ones_24 : decode cX7_ones 24 = .ok (.iload_n 1, 1) := by decide +kernel
theorem dX7_ones_25 : decode cX7_ones 25 = .ok (.ireturn, 1) := by decide +kernel
theorem dX7_found_0 : decode cX7_found 0 = .ok (.aload_n 0, 1) := by decide +kernel
theorem dX7_found_1 : decode cX7_found 1 = .ok (.iload_n 1, 1) := by decide +kernel
theorem dX7_found_2 : decode cX7_found 2 = .ok (.putfield 54, 3) := by decide +kernel
theorem dX7_found_5 : decode cX7_found 5 = .ok (.ldc 58, 2) := by decide +kernel
theorem dX7_found_7 : decode cX7_found 7 = .ok (.iload_n 1, 1) := by decide +kernel
theorem dX7_found_8 : decode cX7_found 8 = .ok (.isub, 1) := by decide +kernel
theorem dX7_found_9 : decode cX7_found 9 = .ok (.ireturn, 1) := by decide +kernel
theorem dX7_well_0 : decode cX7_well 0 = .ok (.aload_n 0, 1) := by decide +kernel
theorem dX7_well_1 : decode cX7_well 1 = .ok (.iconst 0, 1) := by decide +kernel
theorem dX7_well_2 : decode cX7_well 2 = .ok (.putfield 54, 3) := by decide +kernel
theorem dX7_well_5 : decode cX7_well 5 = .ok (.iload_n 1, 1) := by decide +kernel
theorem dX7_well_6 : decode cX7_well 6 = .ok (.ireturn, 1) := by decide +kernel
theorem dX7_copies_0 : decode cX7_copies 0 = .ok (.iconst 0, 1) := by decide +kernel
theorem dX7_copies_1 : decode cX7_copies 1 = .ok (.istore 4, 2) := by decide +kernel
theorem dX7_copies_3 : decode cX7_copies 3 = .ok (.iload 4, 2) := by decide +kernel
theorem dX7_copies_5 : decode cX7_copies 5 = .ok (.bipush 71, 2) := by decide +kernel
theorem dX7_copies_7 : decode cX7_copies 7 = .ok (.if_icmp .ge 21, 3) := by decide +kernel
theorem dX7_copies_10 : decode cX7_copies 10 = .ok (.aload_n 2, 1) := by decide +kernel
theorem dX7_copies_11 : decode cX7_copies 11 = .ok (.iload_n 3, 1) := by decide +kernel
theorem dX7_copies_12 : decode cX7_copies 12 = .ok (.iload 4, 2) := by decide +kernel
theorem dX7_copies_14 : decode cX7_copies 14 = .ok (.iadd, 1) := by decide +kernel
theorem dX7_copies_15 : decode cX7_copies 15 = .ok (.aload_n 0, 1) := by decide +kernel
theorem dX7_copies_16 : decode cX7_copies 16 = .ok (.iload_n 1, 1) := by decide +kernel
theorem dX7_copies_17 : decode cX7_copies 17 = .ok (.iload 4, 2) := by decide +kernel
theorem dX7_copies_19 : decode cX7_copies 19 = .ok (.iadd, 1) := by decide +kernel
theorem dX7_copies_20 : decode cX7_copies 20 = .ok (.iaload, 1) := by decide +kernel
theorem dX7_copies_21 : decode cX7_copies 21 = .ok (.iastore, 1) := by decide +kernel
theorem dX7_copies_22 : decode cX7_copies 22 = .ok (.iinc 4 1, 3) := by decide +kernel
theorem dX7_copies_25 : decode cX7_copies 25 = .ok (.goto (-22), 3) := by decide +kernel
theorem dX7_copies_28 : decode cX7_copies 28 = .ok (.return_, 1) := by decide +kernel
theorem dX7_isRow_0 : decode cX7_isRow 0 = .ok (.iload_n 0, 1) := by decide +kernel
theorem dX7_isRow_1 : decode cX7_isRow 1 = .ok (.iconst 0, 1) := by decide +kernel
theorem dX7_isRow_2 : decode cX7_isRow 2 = .ok (.bipush 7, 2) := by decide +kernel
theorem dX7_isRow_4 : decode cX7_isRow 4 = .ok (.invokestatic 59, 3) := by decide +kernel
theorem dX7_isRow_7 : decode cX7_isRow 7 = .ok (.ireturn, 1) := by decide +kernel
theorem dX7_isMissing_0 : decode cX7_isMissing 0 = .ok (.aload_n 0, 1) := by decide +kernel
theorem dX7_isMissing_1 : decode cX7_isMissing 1 = .ok (.getfield 7, 3) := by decide +kernel
theorem dX7_isMissing_4 : decode cX7_isMissing 4 = .ok (.iload_n 1, 1) := by decide +kernel
theorem dX7_isMissing_5 : decode cX7_isMissing 5 = .ok (.iaload, 1) := by decide +kernel
theorem dX7_isMissing_6 : decode cX7_isMissing 6 = .ok (.ldc 53, 2) := by decide +kernel
theorem dX7_isMissing_8 : decode cX7_isMissing 8 = .ok (.if_icmp .ne 7, 3) := by decide +kernel
theorem dX7_isMissing_11 : decode cX7_isMissing 11 = .ok (.iconst 1, 1) := by decide +kernel
theorem dX7_isMissing_12 : decode cX7_isMissing 12 = .ok (.goto 4, 3) := by decide +kernel
theorem dX7_isMissing_15 : decode cX7_isMissing 15 = .ok (.iconst 0, 1) := by decide +kernel
theorem dX7_isMissing_16 : decode cX7_isMissing 16 = .ok (.ireturn, 1) := by decide +kernel
theorem dX7_cut_0 : decode cX7_cut 0 = .ok (.iload_n 0, 1) := by decide +kernel
theorem dX7_cut_1 : decode cX7_cut 1 = .ok (.ifCond .ne 13, 3) := by decide +kernel
theorem dX7_cut_4 : decode cX7_cut 4 = .ok (.iload_n 1, 1) := by decide +kernel
theorem dX7_cut_5 : decode cX7_cut 5 = .ok (.bipush 24, 2) := by decide +kernel
theorem dX7_cut_7 : decode cX7_cut 7 = .ok (.ishl, 1) := by decide +kernel
theorem dX7_cut_8 : decode cX7_cut 8 = .ok (.bipush 24, 2) := by decide +kernel
theorem dX7_cut_10 : decode cX7_cut 10 = .ok (.ishr, 1) := by decide +kernel
theorem dX7_cut_11 : decode cX7_cut 11 = .ok (.goto 19, 3) := by decide +kernel
theorem dX7_cut_14 : decode cX7_cut 14 = .ok (.iload_n 0, 1) := by decide +kernel
theorem dX7_cut_15 : decode cX7_cut 15 = .ok (.iconst 1, 1) := by decide +kernel
theorem dX7_cut_16 : decode cX7_cut 16 = .ok (.if_icmp .ne 13, 3) := by decide +kernel
theorem dX7_cut_19 : decode cX7_cut 19 = .ok (.iload_n 1, 1) := by decide +kernel
theorem dX7_cut_20 : decode cX7_cut 20 = .ok (.bipush 16, 2) := by decide +kernel
theorem dX7_cut_22 : decode cX7_cut 22 = .ok (.ishl, 1) := by decide +kernel
theorem dX7_cut_23 : decode cX7_cut 23 = .ok (.bipush 16, 2) := by decide +kernel
theorem dX7_cut_25 : decode cX7_cut 25 = .ok (.ishr, 1) := by decide +kernel
theorem dX7_cut_26 : decode cX7_cut 26 = .ok (.goto 4, 3) := by decide +kernel
theorem dX7_cut_29 : decode cX7_cut 29 = .ok (.iload_n 1, 1) := by decide +kernel
theorem dX7_cut_30 : decode cX7_cut 30 = .ok (.ireturn, 1) := by decide +kernel
theorem dX7_row_0 : decode cX7_row 0 = .ok (.iload_n 1, 1) := by decide +kernel
theorem dX7_row_1 : decode cX7_row 1 = .ok (.invokestatic 63, 3) := by decide +kernel
theorem dX7_row_4 : decode cX7_row 4 = .ok (.ifCond .eq 18, 3) := by decide +kernel
theorem dX7_row_7 : decode cX7_row 7 = .ok (.iload_n 2, 1) := by decide +kernel
theorem dX7_row_8 : decode cX7_row 8 = .ok (.iconst 0, 1) := by decide +kernel
theorem dX7_row_9 : decode cX7_row 9 = .ok (.iconst 2, 1) := by decide +kernel
theorem dX7_row_10 : decode cX7_row 10 = .ok (.invokestatic 59, 3) := by decide +kernel
theorem dX7_row_13 : decode cX7_row 13 = .ok (.ifCond .eq 9, 3) := by decide +kernel
theorem dX7_row_16 : decode cX7_row 16 = .ok (.iload_n 3, 1) := by decide +kernel
theorem dX7_row_17 : decode cX7_row 17 = .ok (.bipush 40, 2) := by decide +kernel
theorem dX7_row_19 : decode cX7_row 19 = .ok (.if_icmp .le 6, 3) := by decide +kernel
theorem dX7_row_22 : decode cX7_row 22 = .ok (.ldc 67, 2) := by decide +kernel
theorem dX7_row_24 : decode cX7_row 24 = .ok (.ireturn, 1) := by decide +kernel
theorem dX7_row_25 : decode cX7_row 25 = .ok (.iload_n 3, 1) := by decide +kernel
theorem dX7_row_26 : decode cX7_row 26 = .ok (.ifCond .ge 9, 3) := by decide +kernel
theorem dX7_row_29 : decode cX7_row 29 = .ok (.aload_n 0, 1) := by decide +kernel
theorem dX7_row_30 : decode cX7_row 30 = .ok (.iconst 4, 1) := by decide +kernel
theorem dX7_row_31 : decode cX7_row 31 = .ok (.invokevirtual 68, 3) := by decide +kernel
theorem dX7_row_34 : decode cX7_row 34 = .ok (.ireturn, 1) := by decide +kernel
theorem dX7_row_35 : decode cX7_row 35 = .ok (.aload_n 0, 1) := by decide +kernel
theorem dX7_row_36 : decode cX7_row 36 = .ok (.getfield 7, 3) := by decide +kernel
theorem dX7_row_39 : decode cX7_row 39 = .ok (.iload_n 1, 1) := by decide +kernel
theorem dX7_row_40 : decode cX7_row 40 = .ok (.iload_n 2, 1) := by decide +kernel
theorem dX7_row_41 : decode cX7_row 41 = .ok (.iastore, 1) := by decide +kernel
theorem dX7_row_42 : decode cX7_row 42 = .ok (.aload_n 0, 1) := by decide +kernel
theorem dX7_row_43 : decode cX7_row 43 = .ok (.getfield 13, 3) := by decide +kernel
theorem dX7_row_46 : decode cX7_row 46 = .ok (.iload_n 1, 1) := by decide +kernel
theorem dX7_row_47 : decode cX7_row 47 = .ok (.iload_n 3, 1) := by decide +kernel
theorem dX7_row_48 : decode cX7_row 48 = .ok (.iastore, 1) := by decide +kernel
theorem dX7_row_49 : decode cX7_row 49 = .ok (.iconst 0, 1) := by decide +kernel
theorem dX7_row_50 : decode cX7_row 50 = .ok (.istore 4, 2) := by decide +kernel
theorem dX7_row_52 : decode cX7_row 52 = .ok (.iload 4, 2) := by decide +kernel
theorem dX7_row_54 : decode cX7_row 54 = .ok (.bipush 40, 2) := by decide +kernel
theorem dX7_row_56 : decode cX7_row 56 = .ok (.if_icmp .ge 22, 3) := by decide +kernel
theorem dX7_row_59 : decode cX7_row 59 = .ok (.aload_n 0, 1) := by decide +kernel
theorem dX7_row_60 : decode cX7_row 60 = .ok (.getfield 16, 3) := by decide +kernel
theorem dX7_row_63 : decode cX7_row 63 = .ok (.bipush 40, 2) := by decide +kernel
theorem dX7_row_65 : decode cX7_row 65 = .ok (.iload_n 1, 1) := by decide +kernel
theorem dX7_row_66 : decode cX7_row 66 = .ok (.imul, 1) := by decide +kernel
theorem dX7_row_67 : decode cX7_row 67 = .ok (.iload 4, 2) := by decide +kernel
theorem dX7_row_69 : decode cX7_row 69 = .ok (.iadd, 1) := by decide +kernel
theorem dX7_row_70 : decode cX7_row 70 = .ok (.iconst 0, 1) := by decide +kernel
theorem dX7_row_71 : decode cX7_row 71 = .ok (.iastore, 1) := by decide +kernel
theorem dX7_row_72 : decode cX7_row 72 = .ok (.iinc 4 1, 3) := by decide +kernel
theorem dX7_row_75 : decode cX7_row 75 = .ok (.goto (-23), 3) := by decide +kernel
theorem dX7_row_78 : decode cX7_row 78 = .ok (.aload_n 0, 1) := by decide +kernel
theorem dX7_row_79 : decode cX7_row 79 = .ok (.iload_n 3, 1) := by decide +kernel
theorem dX7_row_80 : decode cX7_row 80 = .ok (.invokevirtual 72, 3) := by decide +kernel
theorem dX7_row_83 : decode cX7_row 83 = .ok (.ireturn, 1) := by decide +kernel
theorem dX7_set_0 : decode cX7_set 0 = .ok (.iload_n 1, 1) := by decide +kernel
theorem dX7_set_1 : decode cX7_set 1 = .ok (.invokestatic 63, 3) := by decide +kernel
theorem dX7_set_4 : decode cX7_set 4 = .ok (.ifCond .ne 6, 3) := by decide +kernel
theorem dX7_set_7 : decode cX7_set 7 = .ok (.ldc 67, 2) := by decide +kernel
theorem dX7_set_9 : decode cX7_set 9 = .ok (.ireturn, 1) := by decide +kernel
theorem dX7_set_10 : decode cX7_set 10 = .ok (.aload_n 0, 1) := by decide +kernel
theorem dX7_set_11 : decode cX7_set 11 = .ok (.iload_n 1, 1) := by decide +kernel
theorem dX7_set_12 : decode cX7_set 12 = .ok (.invokevirtual 75, 3) := by decide +kernel
theorem dX7_set_15 : decode cX7_set 15 = .ok (.ifCond .eq 9, 3) := by decide +kernel
theorem dX7_set_18 : decode cX7_set 18 = .ok (.aload_n 0, 1) := by decide +kernel
theorem dX7_set_19 : decode cX7_set 19 = .ok (.iconst 1, 1) := by decide +kernel
theorem dX7_set_20 : decode cX7_set 20 = .ok (.invokevirtual 68, 3) := by decide +kernel
theorem dX7_set_23 : decode cX7_set 23 = .ok (.ireturn, 1) := by decide +kernel
theorem dX7_set_24 : decode cX7_set 24 = .ok (.iload_n 2, 1) := by decide +kernel
theorem dX7_set_25 : decode cX7_set 25 = .ok (.iconst 0, 1) := by decide +kernel
theorem dX7_set_26 : decode cX7_set 26 = .ok (.aload_n 0, 1) := by decide +kernel
theorem dX7_set_27 : decode cX7_set 27 = .ok (.getfield 13, 3) := by decide +kernel
theorem dX7_set_30 : decode cX7_set 30 = .ok (.iload_n 1, 1) := by decide +kernel
theorem dX7_set_31 : decode cX7_set 31 = .ok (.iaload, 1) := by decide +kernel
theorem dX7_set_32 : decode cX7_set 32 = .ok (.iconst 1, 1) := by decide +kernel
theorem dX7_set_33 : decode cX7_set 33 = .ok (.isub, 1) := by decide +kernel
theorem dX7_set_34 : decode cX7_set 34 = .ok (.invokestatic 59, 3) := by decide +kernel
theorem dX7_set_37 : decode cX7_set 37 = .ok (.ifCond .ne 9, 3) := by decide +kernel
theorem dX7_set_40 : decode cX7_set 40 = .ok (.aload_n 0, 1) := by decide +kernel
theorem dX7_set_41 : decode cX7_set 41 = .ok (.iconst 2, 1) := by decide +kernel
theorem dX7_set_42 : decode cX7_set 42 = .ok (.invokevirtual 68, 3) := by decide +kernel
theorem dX7_set_45 : decode cX7_set 45 = .ok (.ireturn, 1) := by decide +kernel
theorem dX7_set_46 : decode cX7_set 46 = .ok (.aload_n 0, 1) := by decide +kernel
theorem dX7_set_47 : decode cX7_set 47 = .ok (.getfield 16, 3) := by decide +kernel
theorem dX7_set_50 : decode cX7_set 50 = .ok (.bipush 40, 2) := by decide +kernel
theorem dX7_set_52 : decode cX7_set 52 = .ok (.iload_n 1, 1) := by decide +kernel
theorem dX7_set_53 : decode cX7_set 53 = .ok (.imul, 1) := by decide +kernel
theorem dX7_set_54 : decode cX7_set 54 = .ok (.iload_n 2, 1) := by decide +kernel
theorem dX7_set_55 : decode cX7_set 55 = .ok (.iadd, 1) := by decide +kernel
theorem dX7_set_56 : decode cX7_set 56 = .ok (.aload_n 0, 1) := by decide +kernel
theorem dX7_set_57 : decode cX7_set 57 = .ok (.getfield 7, 3) := by decide +kernel
theorem dX7_set_60 : decode cX7_set 60 = .ok (.iload_n 1, 1) := by decide +kernel
theorem dX7_set_61 : decode cX7_set 61 = .ok (.iaload, 1) := by decide +kernel
theorem dX7_set_62 : decode cX7_set 62 = .ok (.iload_n 3, 1) := by decide +kernel
theorem dX7_set_63 : decode cX7_set 63 = .ok (.invokestatic 78, 3) := by decide +kernel
theorem dX7_set_66 : decode cX7_set 66 = .ok (.iastore, 1) := by decide +kernel
theorem dX7_set_67 : decode cX7_set 67 = .ok (.aload_n 0, 1) := by decide +kernel
theorem dX7_set_68 : decode cX7_set 68 = .ok (.aload_n 0, 1) := by decide +kernel
theorem dX7_set_69 : decode cX7_set 69 = .ok (.getfield 16, 3) := by decide +kernel
theorem dX7_set_72 : decode cX7_set 72 = .ok (.bipush 40, 2) := by decide +kernel
theorem dX7_set_74 : decode cX7_set 74 = .ok (.iload_n 1, 1) := by decide +kernel
theorem dX7_set_75 : decode cX7_set 75 = .ok (.imul, 1) := by decide +kernel
theorem dX7_set_76 : decode cX7_set 76 = .ok (.iload_n 2, 1) := by decide +kernel
theorem dX7_set_77 : decode cX7_set 77 = .ok (.iadd, 1) := by decide +kernel
theorem dX7_set_78 : decode cX7_set 78 = .ok (.iaload, 1) := by decide +kernel
theorem dX7_set_79 : decode cX7_set 79 = .ok (.invokevirtual 72, 3) := by decide +kernel
theorem dX7_set_82 : decode cX7_set 82 = .ok (.ireturn, 1) := by decide +kernel
theorem dX7_isPart_0 : decode cX7_isPart 0 = .ok (.iload_n 2, 1) := by decide +kernel
theorem dX7_isPart_1 : decode cX7_isPart 1 = .ok (.ifCond .lt 33, 3) := by decide +kernel
theorem dX7_isPart_4 : decode cX7_isPart 4 = .ok (.iload_n 3, 1) := by decide +kernel
theorem dX7_isPart_5 : decode cX7_isPart 5 = .ok (.ifCond .lt 29, 3) := by decide +kernel
theorem dX7_isPart_8 : decode cX7_isPart 8 = .ok (.iload_n 2, 1) := by decide +kernel
theorem dX7_isPart_9 : decode cX7_isPart 9 = .ok (.aload_n 0, 1) := by decide +kernel
theorem dX7_isPart_10 : decode cX7_isPart 10 = .ok (.getfield 13, 3) := by decide +kernel
theorem dX7_isPart_13 : decode cX7_isPart 13 = .ok (.iload_n 1, 1) := by decide +kernel
theorem dX7_isPart_14 : decode cX7_isPart 14 = .ok (.iaload, 1) := by decide +kernel
theorem dX7_isPart_15 : decode cX7_isPart 15 = .ok (.if_icmp .gt 19, 3) := by decide +kernel
theorem dX7_isPart_18 : decode cX7_isPart 18 = .ok (.iload_n 3, 1) := by decide +kernel
theorem dX7_isPart_19 : decode cX7_isPart 19 = .ok (.aload_n 0, 1) := by decide +kernel
theorem dX7_isPart_20 : decode cX7_isPart 20 = .ok (.getfield 13, 3) := by decide +kernel
theorem dX7_isPart_23 : decode cX7_isPart 23 = .ok (.iload_n 1, 1) := by decide +kernel
theorem dX7_isPart_24 : decode cX7_isPart 24 = .ok (.iaload, 1) := by decide +kernel
theorem dX7_isPart_25 : decode cX7_isPart 25 = .ok (.iload_n 2, 1) := by decide +kernel
theorem dX7_isPart_26 : decode cX7_isPart 26 = .ok (.isub, 1) := by decide +kernel
theorem dX7_isPart_27 : decode cX7_isPart 27 = .ok (.if_icmp .gt 7, 3) := by decide +kernel
theorem dX7_isPart_30 : decode cX7_isPart 30 = .ok (.iconst 1, 1) := by decide +kernel
theorem dX7_isPart_31 : decode cX7_isPart 31 = .ok (.goto 4, 3) := by decide +kernel
theorem dX7_isPart_34 : decode cX7_isPart 34 = .ok (.iconst 0, 1) := by decide +kernel
theorem dX7_isPart_35 : decode cX7_isPart 35 = .ok (.ireturn, 1) := by decide +kernel
theorem dX7_copy_0 : decode cX7_copy 0 = .ok (.iload_n 1, 1) := by decide +kernel
theorem dX7_copy_1 : decode cX7_copy 1 = .ok (.invokestatic 63, 3) := by decide +kernel
theorem dX7_copy_4 : decode cX7_copy 4 = .ok (.ifCond .eq 10, 3) := by decide +kernel
theorem dX7_copy_7 : decode cX7_copy 7 = .ok (.iload_n 3, 1) := by decide +kernel
theorem dX7_copy_8 : decode cX7_copy 8 = .ok (.invokestatic 63, 3) := by decide +kernel
theorem dX7_copy_11 : decode cX7_copy 11 = .ok (.ifCond .ne 6, 3) := by decide +kernel
theorem dX7_copy_14 : decode cX7_copy 14 = .ok (.ldc 67, 2) := by decide +kernel
theorem dX7_copy_16 : decode cX7_copy 16 = .ok (.ireturn, 1) := by decide +kernel
theorem dX7_copy_17 : decode cX7_copy 17 = .ok (.aload_n 0, 1) := by decide +kernel
theorem dX7_copy_18 : decode cX7_copy 18 = .ok (.iload_n 1, 1) := by decide +kernel
theorem dX7_copy_19 : decode cX7_copy 19 = .ok (.invokevirtual 75, 3) := by decide +kernel
theorem dX7_copy_22 : decode cX7_copy 22 = .ok (.ifCond .ne 11, 3) := by decide +kernel
theorem dX7_copy_25 : decode cX7_copy 25 = .ok (.aload_n 0, 1) := by decide +kernel
theorem dX7_copy_26 : decode cX7_copy 26 = .ok (.iload_n 3, 1) := by decide +kernel
theorem dX7_copy_27 : decode cX7_copy 27 = .ok (.invokevirtual 75, 3) := by decide +kernel
theorem dX7_copy_30 : decode cX7_copy 30 = .ok (.ifCond .eq 9, 3) := by decide +kernel
theorem dX7_copy_33 : decode cX7_copy 33 = .ok (.aload_n 0, 1) := by decide +kernel
theorem dX7_copy_34 : decode cX7_copy 34 = .ok (.iconst 1, 1) := by decide +kernel
theorem dX7_copy_35 : decode cX7_copy 35 = .ok (.invokevirtual 68, 3) := by decide +kernel
theorem dX7_copy_38 : decode cX7_copy 38 = .ok (.ireturn, 1) := by decide +kernel
theorem dX7_copy_39 : decode cX7_copy 39 = .ok (.aload_n 0, 1) := by decide +kernel
theorem dX7_copy_40 : decode cX7_copy 40 = .ok (.getfield 7, 3) := by decide +kernel
theorem dX7_copy_43 : decode cX7_copy 43 = .ok (.iload_n 1, 1) := by decide +kernel
theorem dX7_copy_44 : decode cX7_copy 44 = .ok (.iaload, 1) := by decide +kernel
theorem dX7_copy_45 : decode cX7_copy 45 = .ok (.aload_n 0, 1) := by decide +kernel
theorem dX7_copy_46 : decode cX7_copy 46 = .ok (.getfield 7, 3) := by decide +kernel
theorem dX7_copy_49 : decode cX7_copy 49 = .ok (.iload_n 3, 1) := by decide +kernel
theorem dX7_copy_50 : decode cX7_copy 50 = .ok (.iaload, 1) := by decide +kernel
theorem dX7_copy_51 : decode cX7_copy 51 = .ok (.if_icmp .eq 9, 3) := by decide +kernel
theorem dX7_copy_54 : decode cX7_copy 54 = .ok (.aload_n 0, 1) := by decide +kernel
theorem dX7_copy_55 : decode cX7_copy 55 = .ok (.iconst 5, 1) := by decide +kernel
theorem dX7_copy_56 : decode cX7_copy 56 = .ok (.invokevirtual 68, 3) := by decide +kernel
theorem dX7_copy_59 : decode cX7_copy 59 = .ok (.ireturn, 1) := by decide +kernel
theorem dX7_copy_60 : decode cX7_copy 60 = .ok (.aload_n 0, 1) := by decide +kernel
theorem dX7_copy_61 : decode cX7_copy 61 = .ok (.iload_n 1, 1) := by decide +kernel
theorem dX7_copy_62 : decode cX7_copy 62 = .ok (.iload_n 2, 1) := by decide +kernel
theorem dX7_copy_63 : decode cX7_copy 63 = .ok (.iload 5, 2) := by decide +kernel
theorem dX7_copy_65 : decode cX7_copy 65 = .ok (.invokevirtual 82, 3) := by decide +kernel
theorem dX7_copy_68 : decode cX7_copy 68 = .ok (.ifCond .eq 15, 3) := by decide +kernel
theorem dX7_copy_71 : decode cX7_copy 71 = .ok (.aload_n 0, 1) := by decide +kernel
theorem dX7_copy_72 : decode cX7_copy 72 = .ok (.iload_n 3, 1) := by decide +kernel
theorem dX7_copy_73 : decode cX7_copy 73 = .ok (.iload 4, 2) := by decide +kernel
theorem dX7_copy_75 : decode cX7_copy 75 = .ok (.iload 5, 2) := by decide +kernel
theorem dX7_copy_77 : decode cX7_copy 77 = .ok (.invokevirtual 82, 3) := by decide +kernel
theorem dX7_copy_80 : decode cX7_copy 80 = .ok (.ifCond .ne 9, 3) := by decide +kernel
theorem dX7_copy_83 : decode cX7_copy 83 = .ok (.aload_n 0, 1) := by decide +kernel
theorem dX7_copy_84 : decode cX7_copy 84 = .ok (.iconst 2, 1) := by decide +kernel
theorem dX7_copy_85 : decode cX7_copy 85 = .ok (.invokevirtual 68, 3) := by decide +kernel
theorem dX7_copy_88 : decode cX7_copy 88 = .ok (.ireturn, 1) := by decide +kernel
theorem dX7_copy_89 : decode cX7_copy 89 = .ok (.iconst 0, 1) := by decide +kernel
theorem dX7_copy_90 : decode cX7_copy 90 = .ok (.istore 6, 2) := by decide +kernel
theorem dX7_copy_92 : decode cX7_copy 92 = .ok (.iload 6, 2) := by decide +kernel
theorem dX7_copy_94 : decode cX7_copy 94 = .ok (.iload 5, 2) := by decide +kernel
theorem dX7_copy_96 : decode cX7_copy 96 = .ok (.if_icmp .ge 30, 3) := by decide +kernel
theorem dX7_copy_99 : decode cX7_copy 99 = .ok (.aload_n 0, 1) := by decide +kernel
theorem dX7_copy_100 : decode cX7_copy 100 = .ok (.getfield 19, 3) := by decide +kernel
theorem dX7_copy_103 : decode cX7_copy 103 = .ok (.iload 6, 2) := by decide +kernel
theorem dX7_copy_105 : decode cX7_copy 105 = .ok (.aload_n 0, 1) := by decide +kernel
theorem dX7_copy_106 : decode cX7_copy 106 = .ok (.getfield 16, 3) := by decide +kernel
theorem dX7_copy_109 : decode cX7_copy 109 = .ok (.bipush 40, 2) := by decide +kernel
theorem dX7_copy_111 : decode cX7_copy 111 = .ok (.iload_n 1, 1) := by decide +kernel
theorem dX7_copy_112 : decode cX7_copy 112 = .ok (.imul, 1) := by decide +kernel
theorem dX7_copy_113 : decode cX7_copy 113 = .ok (.iload_n 2, 1) := by decide +kernel
theorem dX7_copy_114 : decode cX7_copy 114 = .ok (.iadd, 1) := by decide +kernel
theorem dX7_copy_115 : decode cX7_copy 115 = .ok (.iload 6, 2) := by decide +kernel
theorem dX7_copy_117 : decode cX7_copy 117 = .ok (.iadd, 1) := by decide +kernel
theorem dX7_copy_118 : decode cX7_copy 118 = .ok (.iaload, 1) := by decide +kernel
theorem dX7_copy_119 : decode cX7_copy 119 = .ok (.iastore, 1) := by decide +kernel
theorem dX7_copy_120 : decode cX7_copy 120 = .ok (.iinc 6 1, 3) := by decide +kernel
theorem dX7_copy_123 : decode cX7_copy 123 = .ok (.goto (-31), 3) := by decide +kernel
theorem dX7_copy_126 : decode cX7_copy 126 = .ok (.iconst 0, 1) := by decide +kernel
theorem dX7_copy_127 : decode cX7_copy 127 = .ok (.istore 6, 2) := by decide +kernel
theorem dX7_copy_129 : decode cX7_copy 129 = .ok (.iload 6, 2) := by decide +kernel
theorem dX7_copy_131 : decode cX7_copy 131 = .ok (.iload 5, 2) := by decide +kernel
theorem dX7_copy_133 : decode cX7_copy 133 = .ok (.if_icmp .ge 31, 3) := by decide +kernel
theorem dX7_copy_136 : decode cX7_copy 136 = .ok (.aload_n 0, 1) := by decide +kernel
theorem dX7_copy_137 : decode cX7_copy 137 = .ok (.getfield 16, 3) := by decide +kernel
theorem dX7_copy_140 : decode cX7_copy 140 = .ok (.bipush 40, 2) := by decide +kernel
theorem dX7_copy_142 : decode cX7_copy 142 = .ok (.iload_n 3, 1) := by decide +kernel
theorem dX7_copy_143 : decode cX7_copy 143 = .ok (.imul, 1) := by decide +kernel
theorem dX7_copy_144 : decode cX7_copy 144 = .ok (.iload 4, 2) := by decide +kernel
theorem dX7_copy_146 : decode cX7_copy 146 = .ok (.iadd, 1) := by decide +kernel
theorem dX7_copy_147 : decode cX7_copy 147 = .ok (.iload 6, 2) := by decide +kernel
theorem dX7_copy_149 : decode cX7_copy 149 = .ok (.iadd, 1) := by decide +kernel
theorem dX7_copy_150 : decode cX7_copy 150 = .ok (.aload_n 0, 1) := by decide +kernel
theorem dX7_copy_151 : decode cX7_copy 151 = .ok (.getfield 19, 3) := by decide +kernel
theorem dX7_copy_154 : decode cX7_copy 154 = .ok (.iload 6, 2) := by decide +kernel
theorem dX7_copy_156 : decode cX7_copy 156 = .ok (.iaload, 1) := by decide +kernel
theorem dX7_copy_157 : decode cX7_copy 157 = .ok (.iastore, 1) := by decide +kernel
theorem dX7_copy_158 : decode cX7_copy 158 = .ok (.iinc 6 1, 3) := by decide +kernel
theorem dX7_copy_161 : decode cX7_copy 161 = .ok (.goto (-32), 3) := by decide +kernel
theorem dX7_copy_164 : decode cX7_copy 164 = .ok (.aload_n 0, 1) := by decide +kernel
theorem dX7_copy_165 : decode cX7_copy 165 = .ok (.iload 5, 2) := by decide +kernel
theorem dX7_copy_167 : decode cX7_copy 167 = .ok (.invokevirtual 72, 3) := by decide +kernel
theorem dX7_copy_170 : decode cX7_copy 170 = .ok (.ireturn, 1) := by decide +kernel
theorem dX7_drop_0 : decode cX7_drop 0 = .ok (.iload_n 1, 1) := by decide +kernel
theorem dX7_drop_1 : decode cX7_drop 1 = .ok (.invokestatic 63, 3) := by decide +kernel
theorem dX7_drop_4 : decode cX7_drop 4 = .ok (.ifCond .ne 6, 3) := by decide +kernel
theorem dX7_drop_7 : decode cX7_drop 7 = .ok (.ldc 67, 2) := by decide +kernel
theorem dX7_drop_9 : decode cX7_drop 9 = .ok (.ireturn, 1) := by decide +kernel
theorem dX7_drop_10 : decode cX7_drop 10 = .ok (.aload_n 0, 1) := by decide +kernel
theorem dX7_drop_11 : decode cX7_drop 11 = .ok (.iload_n 1, 1) := by decide +kernel
theorem dX7_drop_12 : decode cX7_drop 12 = .ok (.invokevirtual 75, 3) := by decide +kernel
theorem dX7_drop_15 : decode cX7_drop 15 = .ok (.ifCond .eq 9, 3) := by decide +kernel
theorem dX7_drop_18 : decode cX7_drop 18 = .ok (.aload_n 0, 1) := by decide +kernel
theorem dX7_drop_19 : decode cX7_drop 19 = .ok (.iconst 1, 1) := by decide +kernel
theorem dX7_drop_20 : decode cX7_drop 20 = .ok (.invokevirtual 68, 3) := by decide +kernel
theorem dX7_drop_23 : decode cX7_drop 23 = .ok (.ireturn, 1) := by decide +kernel
theorem dX7_drop_24 : decode cX7_drop 24 = .ok (.aload_n 0, 1) := by decide +kernel
theorem dX7_drop_25 : decode cX7_drop 25 = .ok (.getfield 7, 3) := by decide +kernel
theorem dX7_drop_28 : decode cX7_drop 28 = .ok (.iload_n 1, 1) := by decide +kernel
theorem dX7_drop_29 : decode cX7_drop 29 = .ok (.ldc 53, 2) := by decide +kernel
theorem dX7_drop_31 : decode cX7_drop 31 = .ok (.iastore, 1) := by decide +kernel
theorem dX7_drop_32 : decode cX7_drop 32 = .ok (.aload_n 0, 1) := by decide +kernel
theorem dX7_drop_33 : decode cX7_drop 33 = .ok (.aload_n 0, 1) := by decide +kernel
theorem dX7_drop_34 : decode cX7_drop 34 = .ok (.getfield 13, 3) := by decide +kernel
theorem dX7_drop_37 : decode cX7_drop 37 = .ok (.iload_n 1, 1) := by decide +kernel
theorem dX7_drop_38 : decode cX7_drop 38 = .ok (.iaload, 1) := by decide +kernel
theorem dX7_drop_39 : decode cX7_drop 39 = .ok (.invokevirtual 72, 3) := by decide +kernel
theorem dX7_drop_42 : decode cX7_drop 42 = .ok (.ireturn, 1) := by decide +kernel
theorem dX7_feed_0 : decode cX7_feed 0 = .ok (.iload_n 1, 1) := by decide +kernel
theorem dX7_feed_1 : decode cX7_feed 1 = .ok (.iconst 0, 1) := by decide +kernel
theorem dX7_feed_2 : decode cX7_feed 2 = .ok (.sipush 255, 3) := by decide +kernel
theorem dX7_feed_5 : decode cX7_feed 5 = .ok (.invokestatic 59, 3) := by decide +kernel
theorem dX7_feed_8 : decode cX7_feed 8 = .ok (.ifCond .ne 6, 3) := by decide +kernel
theorem dX7_feed_11 : decode cX7_feed 11 = .ok (.ldc 67, 2) := by decide +kernel
theorem dX7_feed_13 : decode cX7_feed 13 = .ok (.ireturn, 1) := by decide +kernel
theorem dX7_feed_14 : decode cX7_feed 14 = .ok (.aload_n 0, 1) := by decide +kernel
theorem dX7_feed_15 : decode cX7_feed 15 = .ok (.getfield 85, 3) := by decide +kernel
theorem dX7_feed_18 : decode cX7_feed 18 = .ok (.bipush 120, 2) := by decide +kernel
theorem dX7_feed_20 : decode cX7_feed 20 = .ok (.if_icmp .ne 6, 3) := by decide +kernel
theorem dX7_feed_23 : decode cX7_feed 23 = .ok (.ldc 88, 2) := by decide +kernel
theorem dX7_feed_25 : decode cX7_feed 25 = .ok (.ireturn, 1) := by decide +kernel
theorem dX7_feed_26 : decode cX7_feed 26 = .ok (.aload_n 0, 1) := by decide +kernel
theorem dX7_feed_27 : decode cX7_feed 27 = .ok (.getfield 22, 3) := by decide +kernel
theorem dX7_feed_30 : decode cX7_feed 30 = .ok (.aload_n 0, 1) := by decide +kernel
theorem dX7_feed_31 : decode cX7_feed 31 = .ok (.getfield 85, 3) := by decide +kernel
theorem dX7_feed_34 : decode cX7_feed 34 = .ok (.iload_n 1, 1) := by decide +kernel
theorem dX7_feed_35 : decode cX7_feed 35 = .ok (.iastore, 1) := by decide +kernel
theorem dX7_feed_36 : decode cX7_feed 36 = .ok (.aload_n 0, 1) := by decide +kernel
theorem dX7_feed_37 : decode cX7_feed 37 = .ok (.dup, 1) := by decide +kernel
theorem dX7_feed_38 : decode cX7_feed 38 = .ok (.getfield 85, 3) := by decide +kernel
theorem dX7_feed_41 : decode cX7_feed 41 = .ok (.iconst 1, 1) := by decide +kernel
theorem dX7_feed_42 : decode cX7_feed 42 = .ok (.iadd, 1) := by decide +kernel
theorem dX7_feed_43 : decode cX7_feed 43 = .ok (.putfield 85, 3) := by decide +kernel
theorem dX7_feed_46 : decode cX7_feed 46 = .ok (.aload_n 0, 1) := by decide +kernel
theorem dX7_feed_47 : decode cX7_feed 47 = .ok (.getfield 85, 3) := by decide +kernel
theorem dX7_feed_50 : decode cX7_feed 50 = .ok (.ireturn, 1) := by decide +kernel
theorem dX7_byteAt_0 : decode cX7_byteAt 0 = .ok (.iload_n 1, 1) := by decide +kernel
theorem dX7_byteAt_1 : decode cX7_byteAt 1 = .ok (.aload_n 0, 1) := by decide +kernel
theorem dX7_byteAt_2 : decode cX7_byteAt 2 = .ok (.getfield 85, 3) := by decide +kernel
theorem dX7_byteAt_5 : decode cX7_byteAt 5 = .ok (.if_icmp .ge 12, 3) := by decide +kernel
theorem dX7_byteAt_8 : decode cX7_byteAt 8 = .ok (.aload_n 0, 1) := by decide +kernel
theorem dX7_byteAt_9 : decode cX7_byteAt 9 = .ok (.getfield 22, 3) := by decide +kernel
theorem dX7_byteAt_12 : decode cX7_byteAt 12 = .ok (.iload_n 1, 1) := by decide +kernel
theorem dX7_byteAt_13 : decode cX7_byteAt 13 = .ok (.iaload, 1) := by decide +kernel
theorem dX7_byteAt_14 : decode cX7_byteAt 14 = .ok (.goto 4, 3) := by decide +kernel
theorem dX7_byteAt_17 : decode cX7_byteAt 17 = .ok (.iconst (-1), 1) := by decide +kernel
theorem dX7_byteAt_18 : decode cX7_byteAt 18 = .ok (.ireturn, 1) := by decide +kernel
theorem dX7_advances_0 : decode cX7_advances 0 = .ok (.aload_n 0, 1) := by decide +kernel
theorem dX7_advances_1 : decode cX7_advances 1 = .ok (.aload_n 0, 1) := by decide +kernel
theorem dX7_advances_2 : decode cX7_advances 2 = .ok (.getfield 89, 3) := by decide +kernel
theorem dX7_advances_5 : decode cX7_advances 5 = .ok (.putfield 92, 3) := by decide +kernel
theorem dX7_advances_8 : decode cX7_advances 8 = .ok (.aload_n 0, 1) := by decide +kernel
theorem dX7_advances_9 : decode cX7_advances 9 = .ok (.aload_n 0, 1) := by decide +kernel
theorem dX7_advances_10 : decode cX7_advances 10 = .ok (.getfield 89, 3) := by decide +kernel
theorem dX7_advances_13 : decode cX7_advances 13 = .ok (.invokevirtual 95, 3) := by decide +kernel
theorem dX7_advances_16 : decode cX7_advances 16 = .ok (.istore_n 1, 1) := by decide +kernel
theorem dX7_advances_17 : decode cX7_advances 17 = .ok (.aload_n 0, 1) := by decide +kernel
theorem dX7_advances_18 : decode cX7_advances 18 = .ok (.iload_n 1, 1) := by decide +kernel
theorem dX7_advances_19 : decode cX7_advances 19 = .ok (.putfield 98, 3) := by decide +kernel
theorem dX7_advances_22 : decode cX7_advances 22 = .ok (.iload_n 1, 1) := by decide +kernel
theorem dX7_advances_23 : decode cX7_advances 23 = .ok (.bipush 48, 2) := by decide +kernel
theorem dX7_advances_25 : decode cX7_advances 25 = .ok (.bipush 57, 2) := by decide +kernel
theorem dX7_advances_27 : decode cX7_advances 27 = .ok (.invokestatic 59, 3) := by decide +kernel
theorem dX7_advances_30 : decode cX7_advances 30 = .ok (.ifCond .eq 105, 3) := by decide +kernel
theorem dX7_advances_33 : decode cX7_advances 33 = .ok (.aload_n 0, 1) := by decide +kernel
theorem dX7_advances_34 : decode cX7_advances 34 = .ok (.iconst 0, 1) := by decide +kernel
theorem dX7_advances_35 : decode cX7_advances 35 = .ok (.putfield 98, 3) := by decide +kernel
theorem dX7_advances_38 : decode cX7_advances 38 = .ok (.aload_n 0, 1) := by decide +kernel
theorem dX7_advances_39 : decode cX7_advances 39 = .ok (.aload_n 0, 1) := by decide +kernel
theorem dX7_advances_40 : decode cX7_advances 40 = .ok (.getfield 89, 3) := by decide +kernel
theorem dX7_advances_43 : decode cX7_advances 43 = .ok (.invokevirtual 95, 3) := by decide +kernel
theorem dX7_advances_46 : decode cX7_advances 46 = .ok (.bipush 48, 2) := by decide +kernel
theorem dX7_advances_48 : decode cX7_advances 48 = .ok (.bipush 57, 2) := by decide +kernel
theorem dX7_advances_50 : decode cX7_advances 50 = .ok (.invokestatic 59, 3) := by decide +kernel
theorem dX7_advances_53 : decode cX7_advances 53 = .ok (.ifCond .eq 59, 3) := by decide +kernel
theorem dX7_advances_56 : decode cX7_advances 56 = .ok (.aload_n 0, 1) := by decide +kernel
theorem dX7_advances_57 : decode cX7_advances 57 = .ok (.aload_n 0, 1) := by decide +kernel
theorem dX7_advances_58 : decode cX7_advances 58 = .ok (.getfield 89, 3) := by decide +kernel
theorem dX7_advances_61 : decode cX7_advances 61 = .ok (.aload_n 0, 1) := by decide +kernel
theorem dX7_advances_62 : decode cX7_advances 62 = .ok (.getfield 92, 3) := by decide +kernel
theorem dX7_advances_65 : decode cX7_advances 65 = .ok (.isub, 1) := by decide +kernel
theorem dX7_advances_66 : decode cX7_advances 66 = .ok (.iconst 2, 1) := by decide +kernel
theorem dX7_advances_67 : decode cX7_advances 67 = .ok (.if_icmp .ge 25, 3) := by decide +kernel
theorem dX7_advances_70 : decode cX7_advances 70 = .ok (.bipush 10, 2) := by decide +kernel
theorem dX7_advances_72 : decode cX7_advances 72 = .ok (.aload_n 0, 1) := by decide +kernel
theorem dX7_advances_73 : decode cX7_advances 73 = .ok (.getfield 98, 3) := by decide +kernel
theorem dX7_advances_76 : decode cX7_advances 76 = .ok (.imul, 1) := by decide +kernel
theorem dX7_advances_77 : decode cX7_advances 77 = .ok (.aload_n 0, 1) := by decide +kernel
theorem dX7_advances_78 : decode cX7_advances 78 = .ok (.aload_n 0, 1) := by decide +kernel
theorem dX7_advances_79 : decode cX7_advances 79 = .ok (.getfield 89, 3) := by decide +kernel
theorem dX7_advances_82 : decode cX7_advances 82 = .ok (.invokevirtual 95, 3) := by decide +kernel
theorem dX7_advances_85 : decode cX7_advances 85 = .ok (.iadd, 1) := by decide +kernel
theorem dX7_advances_86 : decode cX7_advances 86 = .ok (.bipush 48, 2) := by decide +kernel
theorem dX7_advances_88 : decode cX7_advances 88 = .ok (.isub, 1) := by decide +kernel
theorem dX7_advances_89 : decode cX7_advances 89 = .ok (.goto 7, 3) := by decide +kernel
theorem dX7_advances_92 : decode cX7_advances 92 = .ok (.aload_n 0, 1) := by decide +kernel
theorem dX7_advances_93 : decode cX7_advances 93 = .ok (.getfield 98, 3) := by decide +kernel
theorem dX7_advances_96 : decode cX7_advances 96 = .ok (.putfield 98, 3) := by decide +kernel
theorem dX7_advances_99 : decode cX7_advances 99 = .ok (.aload_n 0, 1) := by decide +kernel
theorem dX7_advances_100 : decode cX7_advances 100 = .ok (.dup, 1) := by decide +kernel
theorem dX7_advances_101 : decode cX7_advances 101 = .ok (.getfield 89, 3) := by decide +kernel
theorem dX7_advances_104 : decode cX7_advances 104 = .ok (.iconst 1, 1) := by decide +kernel
theorem dX7_advances_105 : decode cX7_advances 105 = .ok (.iadd, 1) := by decide +kernel
theorem dX7_advances_106 : decode cX7_advances 106 = .ok (.putfield 89, 3) := by decide +kernel
theorem dX7_advances_109 : decode cX7_advances 109 = .ok (.goto (-71), 3) := by decide +kernel
theorem dX7_advances_112 : decode cX7_advances 112 = .ok (.aload_n 0, 1) := by decide +kernel
theorem dX7_advances_113 : decode cX7_advances 113 = .ok (.aload_n 0, 1) := by decide +kernel
theorem dX7_advances_114 : decode cX7_advances 114 = .ok (.getfield 89, 3) := by decide +kernel
theorem dX7_advances_117 : decode cX7_advances 117 = .ok (.aload_n 0, 1) := by decide +kernel
theorem dX7_advances_118 : decode cX7_advances 118 = .ok (.getfield 92, 3) := by decide +kernel
theorem dX7_advances_121 : decode cX7_advances 121 = .ok (.isub, 1) := by decide +kernel
theorem dX7_advances_122 : decode cX7_advances 122 = .ok (.iconst 3, 1) := by decide +kernel
theorem dX7_advances_123 : decode cX7_advances 123 = .ok (.if_icmp .ge 7, 3) := by decide +kernel
theorem dX7_advances_126 : decode cX7_advances 126 = .ok (.iconst 2, 1) := by decide +kernel
theorem dX7_advances_127 : decode cX7_advances 127 = .ok (.goto 4, 3) := by decide +kernel
theorem dX7_advances_130 : decode cX7_advances 130 = .ok (.iconst 5, 1) := by decide +kernel
theorem dX7_advances_131 : decode cX7_advances 131 = .ok (.putfield 101, 3) := by decide +kernel
theorem dX7_advances_134 : decode cX7_advances 134 = .ok (.return_, 1) := by decide +kernel
theorem dX7_advances_135 : decode cX7_advances 135 = .ok (.aload_n 0, 1) := by decide +kernel
theorem dX7_advances_136 : decode cX7_advances 136 = .ok (.iload_n 1, 1) := by decide +kernel
theorem dX7_advances_137 : decode cX7_advances 137 = .ok (.ifCond .ge 7, 3) := by decide +kernel
theorem dX7_advances_140 : decode cX7_advances 140 = .ok (.iconst 0, 1) := by decide +kernel
theorem dX7_advances_141 : decode cX7_advances 141 = .ok (.goto 39, 3) := by decide +kernel
theorem dX7_advances_144 : decode cX7_advances 144 = .ok (.iload_n 1, 1) := by decide +kernel
theorem dX7_advances_145 : decode cX7_advances 145 = .ok (.bipush 97, 2) := by decide +kernel
theorem dX7_advances_147 : decode cX7_advances 147 = .ok (.bipush 122, 2) := by decide +kernel
theorem dX7_advances_149 : decode cX7_advances 149 = .ok (.invokestatic 59, 3) := by decide +kernel
theorem dX7_advances_152 : decode cX7_advances 152 = .ok (.ifCond .eq 7, 3) := by decide +kernel
theorem dX7_advances_155 : decode cX7_advances 155 = .ok (.iconst 1, 1) := by decide +kernel
theorem dX7_advances_156 : decode cX7_advances 156 = .ok (.goto 24, 3) := by decide +kernel
theorem dX7_advances_159 : decode cX7_advances 159 = .ok (.iload_n 1, 1) := by decide +kernel
theorem dX7_advances_160 : decode cX7_advances 160 = .ok (.bipush 44, 2) := by decide +kernel
theorem dX7_advances_162 : decode cX7_advances 162 = .ok (.if_icmp .ne 7, 3) := by decide +kernel
theorem dX7_advances_165 : decode cX7_advances 165 = .ok (.iconst 3, 1) := by decide +kernel
theorem dX7_advances_166 : decode cX7_advances 166 = .ok (.goto 14, 3) := by decide +kernel
theorem dX7_advances_169 : decode cX7_advances 169 = .ok (.iload_n 1, 1) := by decide +kernel
theorem dX7_advances_170 : decode cX7_advances 170 = .ok (.bipush 59, 2) := by decide +kernel
theorem dX7_advances_172 : decode cX7_advances 172 = .ok (.if_icmp .ne 7, 3) := by decide +kernel
theorem dX7_advances_175 : decode cX7_advances 175 = .ok (.iconst 4, 1) := by decide +kernel
theorem dX7_advances_176 : decode cX7_advances 176 = .ok (.goto 4, 3) := by decide +kernel
theorem dX7_advances_179 : decode cX7_advances 179 = .ok (.iconst 5, 1) := by decide +kernel
theorem dX7_advances_180 : decode cX7_advances 180 = .ok (.putfield 101, 3) := by decide +kernel
theorem dX7_advances_183 : decode cX7_advances 183 = .ok (.aload_n 0, 1) := by decide +kernel
theorem dX7_advances_184 : decode cX7_advances 184 = .ok (.dup, 1) := by decide +kernel
theorem dX7_advances_185 : decode cX7_advances 185 = .ok (.getfield 89, 3) := by decide +kernel
theorem dX7_advances_188 : decode cX7_advances 188 = .ok (.aload_n 0, 1) := by decide +kernel
theorem dX7_advances_189 : decode cX7_advances 189 = .ok (.getfield 101, 3) := by decide +kernel
theorem dX7_advances_192 : decode cX7_advances 192 = .ok (.ifCond .ne 7, 3) := by decide +kernel
theorem dX7_advances_195 : decode cX7_advances 195 = .ok (.iconst 0, 1) := by decide +kernel
theorem dX7_advances_196 : decode cX7_advances 196 = .ok (.goto 4, 3) := by decide +kernel
theorem dX7_advances_199 : decode cX7_advances 199 = .ok (.iconst 1, 1) := by decide +kernel
theorem dX7_advances_200 : decode cX7_advances 200 = .ok (.iadd, 1) := by decide +kernel
theorem dX7_advances_201 : decode cX7_advances 201 = .ok (.putfield 89, 3) := by decide +kernel
theorem dX7_advances_204 : decode cX7_advances 204 = .ok (.return_, 1) := by decide +kernel
theorem dX7_isWell_0 : decode cX7_isWell 0 = .ok (.aload_n 0, 1) := by decide +kernel
theorem dX7_isWell_1 : decode cX7_isWell 1 = .ok (.getfield 104, 3) := by decide +kernel
theorem dX7_isWell_4 : decode cX7_isWell 4 = .ok (.ifCond .ge 7, 3) := by decide +kernel
theorem dX7_isWell_7 : decode cX7_isWell 7 = .ok (.iconst 1, 1) := by decide +kernel
theorem dX7_isWell_8 : decode cX7_isWell 8 = .ok (.goto 4, 3) := by decide +kernel
theorem dX7_isWell_11 : decode cX7_isWell 11 = .ok (.iconst 0, 1) := by decide +kernel
theorem dX7_isWell_12 : decode cX7_isWell 12 = .ok (.ireturn, 1) := by decide +kernel
theorem dX7_takes_0 : decode cX7_takes 0 = .ok (.aload_n 0, 1) := by decide +kernel
theorem dX7_takes_1 : decode cX7_takes 1 = .ok (.invokevirtual 107, 3) := by decide +kernel
theorem dX7_takes_4 : decode cX7_takes 4 = .ok (.ifCond .ne 5, 3) := by decide +kernel
theorem dX7_takes_7 : decode cX7_takes 7 = .ok (.iconst 0, 1) := by decide +kernel
theorem dX7_takes_8 : decode cX7_takes 8 = .ok (.ireturn, 1) := by decide +kernel
theorem dX7_takes_9 : decode cX7_takes 9 = .ok (.iload_n 1, 1) := by decide +kernel
theorem dX7_takes_10 : decode cX7_takes 10 = .ok (.ifCond .ne 18, 3) := by decide +kernel
theorem dX7_takes_13 : decode cX7_takes 13 = .ok (.aload_n 0, 1) := by decide +kernel
theorem dX7_takes_14 : decode cX7_takes 14 = .ok (.aload_n 0, 1) := by decide +kernel
theorem dX7_takes_15 : decode cX7_takes 15 = .ok (.getfield 92, 3) := by decide +kernel
theorem dX7_takes_18 : decode cX7_takes 18 = .ok (.putfield 104, 3) := by decide +kernel
theorem dX7_takes_21 : decode cX7_takes 21 = .ok (.aload_n 0, 1) := by decide +kernel
theorem dX7_takes_22 : decode cX7_takes 22 = .ok (.iload_n 2, 1) := by decide +kernel
theorem dX7_takes_23 : decode cX7_takes 23 = .ok (.putfield 111, 3) := by decide +kernel
theorem dX7_takes_26 : decode cX7_takes 26 = .ok (.iconst 0, 1) := by decide +kernel
theorem dX7_takes_27 : decode cX7_takes 27 = .ok (.ireturn, 1) := by decide +kernel
theorem dX7_takes_28 : decode cX7_takes 28 = .ok (.aload_n 0, 1) := by decide +kernel
theorem dX7_takes_29 : decode cX7_takes 29 = .ok (.getfield 98, 3) := by decide +kernel
theorem dX7_takes_32 : decode cX7_takes 32 = .ok (.istore_n 3, 1) := by decide +kernel
theorem dX7_takes_33 : decode cX7_takes 33 = .ok (.aload_n 0, 1) := by decide +kernel
theorem dX7_takes_34 : decode cX7_takes 34 = .ok (.invokevirtual 114, 3) := by decide +kernel
theorem dX7_takes_37 : decode cX7_takes 37 = .ok (.iload_n 3, 1) := by decide +kernel
theorem dX7_takes_38 : decode cX7_takes 38 = .ok (.ireturn, 1) := by decide +kernel
theorem dX7_figure_0 : decode cX7_figure 0 = .ok (.aload_n 0, 1) := by decide +kernel
theorem dX7_figure_1 : decode cX7_figure 1 = .ok (.invokevirtual 107, 3) := by decide +kernel
theorem dX7_figure_4 : decode cX7_figure 4 = .ok (.ifCond .eq 18, 3) := by decide +kernel
theorem dX7_figure_7 : decode cX7_figure 7 = .ok (.aload_n 0, 1) := by decide +kernel
theorem dX7_figure_8 : decode cX7_figure 8 = .ok (.getfield 101, 3) := by decide +kernel
theorem dX7_figure_11 : decode cX7_figure 11 = .ok (.iconst 2, 1) := by decide +kernel
theorem dX7_figure_12 : decode cX7_figure 12 = .ok (.if_icmp .eq 10, 3) := by decide +kernel
theorem dX7_figure_15 : decode cX7_figure 15 = .ok (.aload_n 0, 1) := by decide +kernel
theorem dX7_figure_16 : decode cX7_figure 16 = .ok (.iconst 0, 1) := by decide +kernel
theorem dX7_figure_17 : decode cX7_figure 17 = .ok (.iconst 1, 1) := by decide +kernel
theorem dX7_figure_18 : decode cX7_figure 18 = .ok (.invokevirtual 117, 3) := by decide +kernel
theorem dX7_figure_21 : decode cX7_figure 21 = .ok (.ireturn, 1) := by decide +kernel
theorem dX7_figure_22 : decode cX7_figure 22 = .ok (.aload_n 0, 1) := by decide +kernel
theorem dX7_figure_23 : decode cX7_figure 23 = .ok (.aload_n 0, 1) := by decide +kernel
theorem dX7_figure_24 : decode cX7_figure 24 = .ok (.getfield 98, 3) := by decide +kernel
theorem dX7_figure_27 : decode cX7_figure 27 = .ok (.iload_n 1, 1) := by decide +kernel
theorem dX7_figure_28 : decode cX7_figure 28 = .ok (.iload_n 2, 1) := by decide +kernel
theorem dX7_figure_29 : decode cX7_figure 29 = .ok (.invokestatic 59, 3) := by decide +kernel
theorem dX7_figure_32 : decode cX7_figure 32 = .ok (.iconst 2, 1) := by decide +kernel
theorem dX7_figure_33 : decode cX7_figure 33 = .ok (.invokevirtual 117, 3) := by decide +kernel
theorem dX7_figure_36 : decode cX7_figure 36 = .ok (.ireturn, 1) := by decide +kernel
theorem dX7_kindOf_0 : decode cX7_kindOf 0 = .ok (.iload_n 0, 1) := by decide +kernel
theorem dX7_kindOf_1 : decode cX7_kindOf 1 = .ok (.bipush 115, 2) := by decide +kernel
theorem dX7_kindOf_3 : decode cX7_kindOf 3 = .ok (.if_icmp .ne 7, 3) := by decide +kernel
theorem dX7_kindOf_6 : decode cX7_kindOf 6 = .ok (.iconst 1, 1) := by decide +kernel
theorem dX7_kindOf_7 : decode cX7_kindOf 7 = .ok (.goto 44, 3) := by decide +kernel
theorem dX7_kindOf_10 : decode cX7_kindOf 10 = .ok (.iload_n 0, 1) := by decide +kernel
theorem dX7_kindOf_11 : decode cX7_kindOf 11 = .ok (.bipush 103, 2) := by decide +kernel
theorem dX7_kindOf_13 : decode cX7_kindOf 13 = .ok (.if_icmp .ne 7, 3) := by decide +kernel
theorem dX7_kindOf_16 : decode cX7_kindOf 16 = .ok (.iconst 2, 1) := by decide +kernel
theorem dX7_kindOf_17 : decode cX7_kindOf 17 = .ok (.goto 34, 3) := by decide +kernel
theorem dX7_kindOf_20 : decode cX7_kindOf 20 = .ok (.iload_n 0, 1) := by decide +kernel
theorem dX7_kindOf_21 : decode cX7_kindOf 21 = .ok (.bipush 119, 2) := by decide +kernel
theorem dX7_kindOf_23 : decode cX7_kindOf 23 = .ok (.if_icmp .ne 7, 3) := by decide +kernel
theorem dX7_kindOf_26 : decode cX7_kindOf 26 = .ok (.iconst 3, 1) := by decide +kernel
theorem dX7_kindOf_27 : decode cX7_kindOf 27 = .ok (.goto 24, 3) := by decide +kernel
theorem dX7_kindOf_30 : decode cX7_kindOf 30 = .ok (.iload_n 0, 1) := by decide +kernel
theorem dX7_kindOf_31 : decode cX7_kindOf 31 = .ok (.bipush 109, 2) := by decide +kernel
theorem dX7_kindOf_33 : decode cX7_kindOf 33 = .ok (.if_icmp .ne 7, 3) := by decide +kernel
theorem dX7_kindOf_36 : decode cX7_kindOf 36 = .ok (.iconst 4, 1) := by decide +kernel
theorem dX7_kindOf_37 : decode cX7_kindOf 37 = .ok (.goto 14, 3) := by decide +kernel
theorem dX7_kindOf_40 : decode cX7_kindOf 40 = .ok (.iload_n 0, 1) := by decide +kernel
theorem dX7_kindOf_41 : decode cX7_kindOf 41 = .ok (.bipush 100, 2) := by decide +kernel
theorem dX7_kindOf_43 : decode cX7_kindOf 43 = .ok (.if_icmp .ne 7, 3) := by decide +kernel
theorem dX7_kindOf_46 : decode cX7_kindOf 46 = .ok (.iconst 5, 1) := by decide +kernel
theorem dX7_kindOf_47 : decode cX7_kindOf 47 = .ok (.goto 4, 3) := by decide +kernel
theorem dX7_kindOf_50 : decode cX7_kindOf 50 = .ok (.iconst 0, 1) := by decide +kernel
theorem dX7_kindOf_51 : decode cX7_kindOf 51 = .ok (.ireturn, 1) := by decide +kernel
theorem dX7_figureBut_0 : decode cX7_figureBut 0 = .ok (.aload_n 0, 1) := by decide +kernel
theorem dX7_figureBut_1 : decode cX7_figureBut 1 = .ok (.invokevirtual 107, 3) := by decide +kernel
theorem dX7_figureBut_4 : decode cX7_figureBut 4 = .ok (.ifCond .eq 18, 3) := by decide +kernel
theorem dX7_figureBut_7 : decode cX7_figureBut 7 = .ok (.aload_n 0, 1) := by decide +kernel
theorem dX7_figureBut_8 : decode cX7_figureBut 8 = .ok (.getfield 101, 3) := by decide +kernel
theorem dX7_figureBut_11 : decode cX7_figureBut 11 = .ok (.iconst 2, 1) := by decide +kernel
theorem dX7_figureBut_12 : decode cX7_figureBut 12 = .ok (.if_icmp .eq 10, 3) := by decide +kernel
theorem dX7_figureBut_15 : decode cX7_figureBut 15 = .ok (.aload_n 0, 1) := by decide +kernel
theorem dX7_figureBut_16 : decode cX7_figureBut 16 = .ok (.iconst 0, 1) := by decide +kernel
theorem dX7_figureBut_17 : decode cX7_figureBut 17 = .ok (.iconst 1, 1) := by decide +kernel
theorem dX7_figureBut_18 : decode cX7_figureBut 18 = .ok (.invokevirtual 117, 3) := by decide +kernel
theorem dX7_figureBut_21 : decode cX7_figureBut 21 = .ok (.ireturn, 1) := by decide +kernel
theorem dX7_figureBut_22 : decode cX7_figureBut 22 = .ok (.aload_n 0, 1) := by decide +kernel
theorem dX7_figureBut_23 : decode cX7_figureBut 23 = .ok (.aload_n 0, 1) := by decide +kernel
theorem dX7_figureBut_24 : decode cX7_figureBut 24 = .ok (.getfield 98, 3) := by decide +kernel
theorem dX7_figureBut_27 : decode cX7_figureBut 27 = .ok (.iload_n 1, 1) := by decide +kernel
theorem dX7_figureBut_28 : decode cX7_figureBut 28 = .ok (.if_icmp .gt 15, 3) := by decide +kernel
theorem dX7_figureBut_31 : decode cX7_figureBut 31 = .ok (.aload_n 0, 1) := by decide +kernel
theorem dX7_figureBut_32 : decode cX7_figureBut 32 = .ok (.getfield 98, 3) := by decide +kernel
theorem dX7_figureBut_35 : decode cX7_figureBut 35 = .ok (.iload_n 2, 1) := by decide +kernel
theorem dX7_figureBut_36 : decode cX7_figureBut 36 = .ok (.if_icmp .eq 7, 3) := by decide +kernel
theorem dX7_figureBut_39 : decode cX7_figureBut 39 = .ok (.iconst 1, 1) := by decide +kernel
theorem dX7_figureBut_40 : decode cX7_figureBut 40 = .ok (.goto 4, 3) := by decide +kernel
theorem dX7_figureBut_43 : decode cX7_figureBut 43 = .ok (.iconst 0, 1) := by decide +kernel
theorem dX7_figureBut_44 : decode cX7_figureBut 44 = .ok (.iconst 2, 1) := by decide +kernel
theorem dX7_figureBut_45 : decode cX7_figureBut 45 = .ok (.invokevirtual 117, 3) := by decide +kernel
theorem dX7_figureBut_48 : decode cX7_figureBut 48 = .ok (.ireturn, 1) := by decide +kernel
theorem dX7_readsHint_0 : decode cX7_readsHint 0 = .ok (.aload_n 0, 1) := by decide +kernel
theorem dX7_readsHint_1 : decode cX7_readsHint 1 = .ok (.getfield 98, 3) := by decide +kernel
theorem dX7_readsHint_4 : decode cX7_readsHint 4 = .ok (.invokestatic 121, 3) := by decide +kernel
theorem dX7_readsHint_7 : decode cX7_readsHint 7 = .ok (.istore_n 1, 1) := by decide +kernel
theorem dX7_readsHint_8 : decode cX7_readsHint 8 = .ok (.aload_n 0, 1) := by decide +kernel
theorem dX7_readsHint_9 : decode cX7_readsHint 9 = .ok (.aload_n 0, 1) := by decide +kernel
theorem dX7_readsHint_10 : decode cX7_readsHint 10 = .ok (.getfield 28, 3) := by decide +kernel
theorem dX7_readsHint_13 : decode cX7_readsHint 13 = .ok (.bipush 7, 2) := by decide +kernel
theorem dX7_readsHint_15 : decode cX7_readsHint 15 = .ok (.iaload, 1) := by decide +kernel
theorem dX7_readsHint_16 : decode cX7_readsHint 16 = .ok (.bipush 8, 2) := by decide +kernel
theorem dX7_readsHint_18 : decode cX7_readsHint 18 = .ok (.if_icmp .ge 7, 3) := by decide +kernel
theorem dX7_readsHint_21 : decode cX7_readsHint 21 = .ok (.iconst 1, 1) := by decide +kernel
theorem dX7_readsHint_22 : decode cX7_readsHint 22 = .ok (.goto 4, 3) := by decide +kernel
theorem dX7_readsHint_25 : decode cX7_readsHint 25 = .ok (.iconst 0, 1) := by decide +kernel
theorem dX7_readsHint_26 : decode cX7_readsHint 26 = .ok (.iconst 3, 1) := by decide +kernel
theorem dX7_readsHint_27 : decode cX7_readsHint 27 = .ok (.invokevirtual 117, 3) := by decide +kernel
theorem dX7_readsHint_30 : decode cX7_readsHint 30 = .ok (.pop, 1) := by decide +kernel
theorem dX7_readsHint_31 : decode cX7_readsHint 31 = .ok (.bipush 9, 2) := by decide +kernel
theorem dX7_readsHint_33 : decode cX7_readsHint 33 = .ok (.iconst 4, 1) := by decide +kernel
theorem dX7_readsHint_34 : decode cX7_readsHint 34 = .ok (.aload_n 0, 1) := by decide +kernel
theorem dX7_readsHint_35 : decode cX7_readsHint 35 = .ok (.getfield 28, 3) := by decide +kernel
theorem dX7_readsHint_38 : decode cX7_readsHint 38 = .ok (.bipush 7, 2) := by decide +kernel
theorem dX7_readsHint_40 : decode cX7_readsHint 40 = .ok (.iaload, 1) := by decide +kernel
theorem dX7_readsHint_41 : decode cX7_readsHint 41 = .ok (.bipush 8, 2) := by decide +kernel
theorem dX7_readsHint_43 : decode cX7_readsHint 43 = .ok (.if_icmp .ge 13, 3) := by decide +kernel
theorem dX7_readsHint_46 : decode cX7_readsHint 46 = .ok (.aload_n 0, 1) := by decide +kernel
theorem dX7_readsHint_47 : decode cX7_readsHint 47 = .ok (.getfield 28, 3) := by decide +kernel
theorem dX7_readsHint_50 : decode cX7_readsHint 50 = .ok (.bipush 7, 2) := by decide +kernel
theorem dX7_readsHint_52 : decode cX7_readsHint 52 = .ok (.iaload, 1) := by decide +kernel
theorem dX7_readsHint_53 : decode cX7_readsHint 53 = .ok (.goto 4, 3) := by decide +kernel
theorem dX7_readsHint_56 : decode cX7_readsHint 56 = .ok (.iconst 0, 1) := by decide +kernel
theorem dX7_readsHint_57 : decode cX7_readsHint 57 = .ok (.imul, 1) := by decide +kernel
theorem dX7_readsHint_58 : decode cX7_readsHint 58 = .ok (.iadd, 1) := by decide +kernel
theorem dX7_readsHint_59 : decode cX7_readsHint 59 = .ok (.istore_n 2, 1) := by decide +kernel
theorem dX7_readsHint_60 : decode cX7_readsHint 60 = .ok (.aload_n 0, 1) := by decide +kernel
theorem dX7_readsHint_61 : decode cX7_readsHint 61 = .ok (.iconst 0, 1) := by decide +kernel
theorem dX7_readsHint_62 : decode cX7_readsHint 62 = .ok (.bipush 7, 2) := by decide +kernel
theorem dX7_readsHint_64 : decode cX7_readsHint 64 = .ok (.invokevirtual 124, 3) := by decide +kernel
theorem dX7_readsHint_67 : decode cX7_readsHint 67 = .ok (.istore_n 3, 1) := by decide +kernel
theorem dX7_readsHint_68 : decode cX7_readsHint 68 = .ok (.aload_n 0, 1) := by decide +kernel
theorem dX7_readsHint_69 : decode cX7_readsHint 69 = .ok (.aload_n 0, 1) := by decide +kernel
theorem dX7_readsHint_70 : decode cX7_readsHint 70 = .ok (.getfield 101, 3) := by decide +kernel
theorem dX7_readsHint_73 : decode cX7_readsHint 73 = .ok (.iconst 3, 1) := by decide +kernel
theorem dX7_readsHint_74 : decode cX7_readsHint 74 = .ok (.if_icmp .ne 7, 3) := by decide +kernel
theorem dX7_readsHint_77 : decode cX7_readsHint 77 = .ok (.iconst 1, 1) := by decide +kernel
theorem dX7_readsHint_78 : decode cX7_readsHint 78 = .ok (.goto 4, 3) := by decide +kernel
theorem dX7_readsHint_81 : decode cX7_readsHint 81 = .ok (.iconst 0, 1) := by decide +kernel
theorem dX7_readsHint_82 : decode cX7_readsHint 82 = .ok (.iconst 1, 1) := by decide +kernel
theorem dX7_readsHint_83 : decode cX7_readsHint 83 = .ok (.invokevirtual 117, 3) := by decide +kernel
theorem dX7_readsHint_86 : decode cX7_readsHint 86 = .ok (.pop, 1) := by decide +kernel
theorem dX7_readsHint_87 : decode cX7_readsHint 87 = .ok (.aload_n 0, 1) := by decide +kernel
theorem dX7_readsHint_88 : decode cX7_readsHint 88 = .ok (.bipush 7, 2) := by decide +kernel
theorem dX7_readsHint_90 : decode cX7_readsHint 90 = .ok (.iload_n 3, 1) := by decide +kernel
theorem dX7_readsHint_91 : decode cX7_readsHint 91 = .ok (.invokevirtual 127, 3) := by decide +kernel
theorem dX7_readsHint_94 : decode cX7_readsHint 94 = .ok (.istore 4, 2) := by decide +kernel
theorem dX7_readsHint_96 : decode cX7_readsHint 96 = .ok (.aload_n 0, 1) := by decide +kernel
theorem dX7_readsHint_97 : decode cX7_readsHint 97 = .ok (.aload_n 0, 1) := by decide +kernel
theorem dX7_readsHint_98 : decode cX7_readsHint 98 = .ok (.getfield 101, 3) := by decide +kernel
theorem dX7_readsHint_101 : decode cX7_readsHint 101 = .ok (.iconst 4, 1) := by decide +kernel
theorem dX7_readsHint_102 : decode cX7_readsHint 102 = .ok (.if_icmp .ne 7, 3) := by decide +kernel
theorem dX7_readsHint_105 : decode cX7_readsHint 105 = .ok (.iconst 1, 1) := by decide +kernel
theorem dX7_readsHint_106 : decode cX7_readsHint 106 = .ok (.goto 4, 3) := by decide +kernel
theorem dX7_readsHint_109 : decode cX7_readsHint 109 = .ok (.iconst 0, 1) := by decide +kernel
theorem dX7_readsHint_110 : decode cX7_readsHint 110 = .ok (.iconst 1, 1) := by decide +kernel
theorem dX7_readsHint_111 : decode cX7_readsHint 111 = .ok (.invokevirtual 117, 3) := by decide +kernel
theorem dX7_readsHint_114 : decode cX7_readsHint 114 = .ok (.pop, 1) := by decide +kernel
theorem dX7_readsHint_115 : decode cX7_readsHint 115 = .ok (.aload_n 0, 1) := by decide +kernel
theorem dX7_readsHint_116 : decode cX7_readsHint 116 = .ok (.invokevirtual 107, 3) := by decide +kernel
theorem dX7_readsHint_119 : decode cX7_readsHint 119 = .ok (.ifCond .eq 49, 3) := by decide +kernel
theorem dX7_readsHint_122 : decode cX7_readsHint 122 = .ok (.aload_n 0, 1) := by decide +kernel
theorem dX7_readsHint_123 : decode cX7_readsHint 123 = .ok (.getfield 28, 3) := by decide +kernel
theorem dX7_readsHint_126 : decode cX7_readsHint 126 = .ok (.iload_n 2, 1) := by decide +kernel
theorem dX7_readsHint_127 : decode cX7_readsHint 127 = .ok (.iload_n 1, 1) := by decide +kernel
theorem dX7_readsHint_128 : decode cX7_readsHint 128 = .ok (.iastore, 1) := by decide +kernel
theorem dX7_readsHint_129 : decode cX7_readsHint 129 = .ok (.aload_n 0, 1) := by decide +kernel
theorem dX7_readsHint_130 : decode cX7_readsHint 130 = .ok (.getfield 28, 3) := by decide +kernel
theorem dX7_readsHint_133 : decode cX7_readsHint 133 = .ok (.iload_n 2, 1) := by decide +kernel
theorem dX7_readsHint_134 : decode cX7_readsHint 134 = .ok (.iconst 1, 1) := by decide +kernel
theorem dX7_readsHint_135 : decode cX7_readsHint 135 = .ok (.iadd, 1) := by decide +kernel
theorem dX7_readsHint_136 : decode cX7_readsHint 136 = .ok (.iload_n 3, 1) := by decide +kernel
theorem dX7_readsHint_137 : decode cX7_readsHint 137 = .ok (.iastore, 1) := by decide +kernel
theorem dX7_readsHint_138 : decode cX7_readsHint 138 = .ok (.aload_n 0, 1) := by decide +kernel
theorem dX7_readsHint_139 : decode cX7_readsHint 139 = .ok (.getfield 28, 3) := by decide +kernel
theorem dX7_readsHint_142 : decode cX7_readsHint 142 = .ok (.iload_n 2, 1) := by decide +kernel
theorem dX7_readsHint_143 : decode cX7_readsHint 143 = .ok (.iconst 2, 1) := by decide +kernel
theorem dX7_readsHint_144 : decode cX7_readsHint 144 = .ok (.iadd, 1) := by decide +kernel
theorem dX7_readsHint_145 : decode cX7_readsHint 145 = .ok (.iload 4, 2) := by decide +kernel
theorem dX7_readsHint_147 : decode cX7_readsHint 147 = .ok (.iastore, 1) := by decide +kernel
theorem dX7_readsHint_148 : decode cX7_readsHint 148 = .ok (.aload_n 0, 1) := by decide +kernel
theorem dX7_readsHint_149 : decode cX7_readsHint 149 = .ok (.getfield 28, 3) := by decide +kernel
theorem dX7_readsHint_152 : decode cX7_readsHint 152 = .ok (.iload_n 2, 1) := by decide +kernel
theorem dX7_readsHint_153 : decode cX7_readsHint 153 = .ok (.iconst 3, 1) := by decide +kernel
theorem dX7_readsHint_154 : decode cX7_readsHint 154 = .ok (.iadd, 1) := by decide +kernel
theorem dX7_readsHint_155 : decode cX7_readsHint 155 = .ok (.iconst 0, 1) := by decide +kernel
theorem dX7_readsHint_156 : decode cX7_readsHint 156 = .ok (.iastore, 1) := by decide +kernel
theorem dX7_readsHint_157 : decode cX7_readsHint 157 = .ok (.aload_n 0, 1) := by decide +kernel
theorem dX7_readsHint_158 : decode cX7_readsHint 158 = .ok (.getfield 28, 3) := by decide +kernel
theorem dX7_readsHint_161 : decode cX7_readsHint 161 = .ok (.bipush 7, 2) := by decide +kernel
theorem dX7_readsHint_163 : decode cX7_readsHint 163 = .ok (.dup2, 1) := by decide +kernel
theorem dX7_readsHint_164 : decode cX7_readsHint 164 = .ok (.iaload, 1) := by decide +kernel
theorem dX7_readsHint_165 : decode cX7_readsHint 165 = .ok (.iconst 1, 1) := by decide +kernel
theorem dX7_readsHint_166 : decode cX7_readsHint 166 = .ok (.iadd, 1) := by decide +kernel
theorem dX7_readsHint_167 : decode cX7_readsHint 167 = .ok (.iastore, 1) := by decide +kernel
theorem dX7_readsHint_168 : decode cX7_readsHint 168 = .ok (.return_, 1) := by decide +kernel
theorem dX7_readsGuest_0 : decode cX7_readsGuest 0 = .ok (.aload_n 0, 1) := by decide +kernel
theorem dX7_readsGuest_1 : decode cX7_readsGuest 1 = .ok (.aload_n 0, 1) := by decide +kernel
theorem dX7_readsGuest_2 : decode cX7_readsGuest 2 = .ok (.getfield 28, 3) := by decide +kernel
theorem dX7_readsGuest_5 : decode cX7_readsGuest 5 = .ok (.bipush 8, 2) := by decide +kernel
theorem dX7_readsGuest_7 : decode cX7_readsGuest 7 = .ok (.iaload, 1) := by decide +kernel
theorem dX7_readsGuest_8 : decode cX7_readsGuest 8 = .ok (.bipush 6, 2) := by decide +kernel
theorem dX7_readsGuest_10 : decode cX7_readsGuest 10 = .ok (.if_icmp .ge 7, 3) := by decide +kernel
theorem dX7_readsGuest_13 : decode cX7_readsGuest 13 = .ok (.iconst 1, 1) := by decide +kernel
theorem dX7_readsGuest_14 : decode cX7_readsGuest 14 = .ok (.goto 4, 3) := by decide +kernel
theorem dX7_readsGuest_17 : decode cX7_readsGuest 17 = .ok (.iconst 0, 1) := by decide +kernel
theorem dX7_readsGuest_18 : decode cX7_readsGuest 18 = .ok (.iconst 3, 1) := by decide +kernel
theorem dX7_readsGuest_19 : decode cX7_readsGuest 19 = .ok (.invokevirtual 117, 3) := by decide +kernel
theorem dX7_readsGuest_22 : decode cX7_readsGuest 22 = .ok (.pop, 1) := by decide +kernel
theorem dX7_readsGuest_23 : decode cX7_readsGuest 23 = .ok (.bipush 41, 2) := by decide +kernel
theorem dX7_readsGuest_25 : decode cX7_readsGuest 25 = .ok (.iconst 5, 1) := by decide +kernel
theorem dX7_readsGuest_26 : decode cX7_readsGuest 26 = .ok (.aload_n 0, 1) := by decide +kernel
theorem dX7_readsGuest_27 : decode cX7_readsGuest 27 = .ok (.getfield 28, 3) := by decide +kernel
theorem dX7_readsGuest_30 : decode cX7_readsGuest 30 = .ok (.bipush 8, 2) := by decide +kernel
theorem dX7_readsGuest_32 : decode cX7_readsGuest 32 = .ok (.iaload, 1) := by decide +kernel
theorem dX7_readsGuest_33 : decode cX7_readsGuest 33 = .ok (.bipush 6, 2) := by decide +kernel
theorem dX7_readsGuest_35 : decode cX7_readsGuest 35 = .ok (.if_icmp .ge 13, 3) := by decide +kernel
theorem dX7_readsGuest_38 : decode cX7_readsGuest 38 = .ok (.aload_n 0, 1) := by decide +kernel
theorem dX7_readsGuest_39 : decode cX7_readsGuest 39 = .ok (.getfield 28, 3) := by decide +kernel
theorem dX7_readsGuest_42 : decode cX7_readsGuest 42 = .ok (.bipush 8, 2) := by decide +kernel
theorem dX7_readsGuest_44 : decode cX7_readsGuest 44 = .ok (.iaload, 1) := by decide +kernel
theorem dX7_readsGuest_45 : decode cX7_readsGuest 45 = .ok (.goto 4, 3) := by decide +kernel
theorem dX7_readsGuest_48 : decode cX7_readsGuest 48 = .ok (.iconst 0, 1) := by decide +kernel
theorem dX7_readsGuest_49 : decode cX7_readsGuest 49 = .ok (.imul, 1) := by decide +kernel
theorem dX7_readsGuest_50 : decode cX7_readsGuest 50 = .ok (.iadd, 1) := by decide +kernel
theorem dX7_readsGuest_51 : decode cX7_readsGuest 51 = .ok (.istore_n 1, 1) := by decide +kernel
theorem dX7_readsGuest_52 : decode cX7_readsGuest 52 = .ok (.aload_n 0, 1) := by decide +kernel
theorem dX7_readsGuest_53 : decode cX7_readsGuest 53 = .ok (.iconst 0, 1) := by decide +kernel
theorem dX7_readsGuest_54 : decode cX7_readsGuest 54 = .ok (.bipush 7, 2) := by decide +kernel
theorem dX7_readsGuest_56 : decode cX7_readsGuest 56 = .ok (.invokevirtual 124, 3) := by decide +kernel
theorem dX7_readsGuest_59 : decode cX7_readsGuest 59 = .ok (.istore_n 2, 1) := by decide +kernel
theorem dX7_readsGuest_60 : decode cX7_readsGuest 60 = .ok (.aload_n 0, 1) := by decide +kernel
theorem dX7_readsGuest_61 : decode cX7_readsGuest 61 = .ok (.aload_n 0, 1) := by decide +kernel
theorem dX7_readsGuest_62 : decode cX7_readsGuest 62 = .ok (.getfield 101, 3) := by decide +kernel
theorem dX7_readsGuest_65 : decode cX7_readsGuest 65 = .ok (.iconst 3, 1) := by decide +kernel
theorem dX7_readsGuest_66 : decode cX7_readsGuest 66 = .ok (.if_icmp .ne 7, 3) := by decide +kernel
theorem dX7_readsGuest_69 : decode cX7_readsGuest 69 = .ok (.iconst 1, 1) := by decide +kernel
theorem dX7_readsGuest_70 : decode cX7_readsGuest 70 = .ok (.goto 4, 3) := by decide +kernel
theorem dX7_readsGuest_73 : decode cX7_readsGuest 73 = .ok (.iconst 0, 1) := by decide +kernel
theorem dX7_readsGuest_74 : decode cX7_readsGuest 74 = .ok (.iconst 1, 1) := by decide +kernel
theorem dX7_readsGuest_75 : decode cX7_readsGuest 75 = .ok (.invokevirtual 117, 3) := by decide +kernel
theorem dX7_readsGuest_78 : decode cX7_readsGuest 78 = .ok (.pop, 1) := by decide +kernel
theorem dX7_readsGuest_79 : decode cX7_readsGuest 79 = .ok (.aload_n 0, 1) := by decide +kernel
theorem dX7_readsGuest_80 : decode cX7_readsGuest 80 = .ok (.iconst 0, 1) := by decide +kernel
theorem dX7_readsGuest_81 : decode cX7_readsGuest 81 = .ok (.bipush 20, 2) := by decide +kernel
theorem dX7_readsGuest_83 : decode cX7_readsGuest 83 = .ok (.invokevirtual 124, 3) := by decide +kernel
theorem dX7_readsGuest_86 : decode cX7_readsGuest 86 = .ok (.istore_n 3, 1) := by decide +kernel
theorem dX7_readsGuest_87 : decode cX7_readsGuest 87 = .ok (.aload_n 0, 1) := by decide +kernel
theorem dX7_readsGuest_88 : decode cX7_readsGuest 88 = .ok (.aload_n 0, 1) := by decide +kernel
theorem dX7_readsGuest_89 : decode cX7_readsGuest 89 = .ok (.getfield 101, 3) := by decide +kernel
theorem dX7_readsGuest_92 : decode cX7_readsGuest 92 = .ok (.iconst 3, 1) := by decide +kernel
theorem dX7_readsGuest_93 : decode cX7_readsGuest 93 = .ok (.if_icmp .ne 7, 3) := by decide +kernel
theorem dX7_readsGuest_96 : decode cX7_readsGuest 96 = .ok (.iconst 1, 1) := by decide +kernel
theorem dX7_readsGuest_97 : decode cX7_readsGuest 97 = .ok (.goto 4, 3) := by decide +kernel
theorem dX7_readsGuest_100 : decode cX7_readsGuest 100 = .ok (.iconst 0, 1) := by decide +kernel
theorem dX7_readsGuest_101 : decode cX7_readsGuest 101 = .ok (.iconst 1, 1) := by decide +kernel
theorem dX7_readsGuest_102 : decode cX7_readsGuest 102 = .ok (.invokevirtual 117, 3) := by decide +kernel
theorem dX7_readsGuest_105 : decode cX7_readsGuest 105 = .ok (.pop, 1) := by decide +kernel
theorem dX7_readsGuest_106 : decode cX7_readsGuest 106 = .ok (.aload_n 0, 1) := by decide +kernel
theorem dX7_readsGuest_107 : decode cX7_readsGuest 107 = .ok (.iconst 0, 1) := by decide +kernel
theorem dX7_readsGuest_108 : decode cX7_readsGuest 108 = .ok (.bipush 20, 2) := by decide +kernel
theorem dX7_readsGuest_110 : decode cX7_readsGuest 110 = .ok (.invokevirtual 124, 3) := by decide +kernel
theorem dX7_readsGuest_113 : decode cX7_readsGuest 113 = .ok (.istore 4, 2) := by decide +kernel
theorem dX7_readsGuest_115 : decode cX7_readsGuest 115 = .ok (.aload_n 0, 1) := by decide +kernel
theorem dX7_readsGuest_116 : decode cX7_readsGuest 116 = .ok (.aload_n 0, 1) := by decide +kernel
theorem dX7_readsGuest_117 : decode cX7_readsGuest 117 = .ok (.getfield 101, 3) := by decide +kernel
theorem dX7_readsGuest_120 : decode cX7_readsGuest 120 = .ok (.iconst 4, 1) := by decide +kernel
theorem dX7_readsGuest_121 : decode cX7_readsGuest 121 = .ok (.if_icmp .ne 7, 3) := by decide +kernel
theorem dX7_readsGuest_124 : decode cX7_readsGuest 124 = .ok (.iconst 1, 1) := by decide +kernel
theorem dX7_readsGuest_125 : decode cX7_readsGuest 125 = .ok (.goto 4, 3) := by decide +kernel
theorem dX7_readsGuest_128 : decode cX7_readsGuest 128 = .ok (.iconst 0, 1) := by decide +kernel
theorem dX7_readsGuest_129 : decode cX7_readsGuest 129 = .ok (.iconst 1, 1) := by decide +kernel
theorem dX7_readsGuest_130 : decode cX7_readsGuest 130 = .ok (.invokevirtual 117, 3) := by decide +kernel
theorem dX7_readsGuest_133 : decode cX7_readsGuest 133 = .ok (.pop, 1) := by decide +kernel
theorem dX7_readsGuest_134 : decode cX7_readsGuest 134 = .ok (.aload_n 0, 1) := by decide +kernel
theorem dX7_readsGuest_135 : decode cX7_readsGuest 135 = .ok (.invokevirtual 107, 3) := by decide +kernel
theorem dX7_readsGuest_138 : decode cX7_readsGuest 138 = .ok (.ifCond .eq 61, 3) := by decide +kernel
theorem dX7_readsGuest_141 : decode cX7_readsGuest 141 = .ok (.aload_n 0, 1) := by decide +kernel
theorem dX7_readsGuest_142 : decode cX7_readsGuest 142 = .ok (.getfield 28, 3) := by decide +kernel
theorem dX7_readsGuest_145 : decode cX7_readsGuest 145 = .ok (.iload_n 1, 1) := by decide +kernel
theorem dX7_readsGuest_146 : decode cX7_readsGuest 146 = .ok (.iconst 0, 1) := by decide +kernel
theorem dX7_readsGuest_147 : decode cX7_readsGuest 147 = .ok (.iadd, 1) := by decide +kernel
theorem dX7_readsGuest_148 : decode cX7_readsGuest 148 = .ok (.iload_n 2, 1) := by decide +kernel
theorem dX7_readsGuest_149 : decode cX7_readsGuest 149 = .ok (.iastore, 1) := by decide +kernel
theorem dX7_readsGuest_150 : decode cX7_readsGuest 150 = .ok (.aload_n 0, 1) := by decide +kernel
theorem dX7_readsGuest_151 : decode cX7_readsGuest 151 = .ok (.getfield 28, 3) := by decide +kernel
theorem dX7_readsGuest_154 : decode cX7_readsGuest 154 = .ok (.iload_n 1, 1) := by decide +kernel
theorem dX7_readsGuest_155 : decode cX7_readsGuest 155 = .ok (.iconst 1, 1) := by decide +kernel
theorem dX7_readsGuest_156 : decode cX7_readsGuest 156 = .ok (.iadd, 1) := by decide +kernel
theorem dX7_readsGuest_157 : decode cX7_readsGuest 157 = .ok (.iload_n 3, 1) := by decide +kernel
theorem dX7_readsGuest_158 : decode cX7_readsGuest 158 = .ok (.iastore, 1) := by decide +kernel
theorem dX7_readsGuest_159 : decode cX7_readsGuest 159 = .ok (.aload_n 0, 1) := by decide +kernel
theorem dX7_readsGuest_160 : decode cX7_readsGuest 160 = .ok (.getfield 28, 3) := by decide +kernel
theorem dX7_readsGuest_163 : decode cX7_readsGuest 163 = .ok (.iload_n 1, 1) := by decide +kernel
theorem dX7_readsGuest_164 : decode cX7_readsGuest 164 = .ok (.iconst 2, 1) := by decide +kernel
theorem dX7_readsGuest_165 : decode cX7_readsGuest 165 = .ok (.iadd, 1) := by decide +kernel
theorem dX7_readsGuest_166 : decode cX7_readsGuest 166 = .ok (.iload 4, 2) := by decide +kernel
theorem dX7_readsGuest_168 : decode cX7_readsGuest 168 = .ok (.iastore, 1) := by decide +kernel
theorem dX7_readsGuest_169 : decode cX7_readsGuest 169 = .ok (.aload_n 0, 1) := by decide +kernel
theorem dX7_readsGuest_170 : decode cX7_readsGuest 170 = .ok (.getfield 28, 3) := by decide +kernel
theorem dX7_readsGuest_173 : decode cX7_readsGuest 173 = .ok (.iload_n 1, 1) := by decide +kernel
theorem dX7_readsGuest_174 : decode cX7_readsGuest 174 = .ok (.iconst 3, 1) := by decide +kernel
theorem dX7_readsGuest_175 : decode cX7_readsGuest 175 = .ok (.iadd, 1) := by decide +kernel
theorem dX7_readsGuest_176 : decode cX7_readsGuest 176 = .ok (.iconst 0, 1) := by decide +kernel
theorem dX7_readsGuest_177 : decode cX7_readsGuest 177 = .ok (.iastore, 1) := by decide +kernel
theorem dX7_readsGuest_178 : decode cX7_readsGuest 178 = .ok (.aload_n 0, 1) := by decide +kernel
theorem dX7_readsGuest_179 : decode cX7_readsGuest 179 = .ok (.getfield 28, 3) := by decide +kernel
theorem dX7_readsGuest_182 : decode cX7_readsGuest 182 = .ok (.iload_n 1, 1) := by decide +kernel
theorem dX7_readsGuest_183 : decode cX7_readsGuest 183 = .ok (.iconst 4, 1) := by decide +kernel
theorem dX7_readsGuest_184 : decode cX7_readsGuest 184 = .ok (.iadd, 1) := by decide +kernel
theorem dX7_readsGuest_185 : decode cX7_readsGuest 185 = .ok (.ldc 53, 2) := by decide +kernel
theorem dX7_readsGuest_187 : decode cX7_readsGuest 187 = .ok (.iastore, 1) := by decide +kernel
theorem dX7_readsGuest_188 : decode cX7_readsGuest 188 = .ok (.aload_n 0, 1) := by decide +kernel
theorem dX7_readsGuest_189 : decode cX7_readsGuest 189 = .ok (.getfield 28, 3) := by decide +kernel
theorem dX7_readsGuest_192 : decode cX7_readsGuest 192 = .ok (.bipush 8, 2) := by decide +kernel
theorem dX7_readsGuest_194 : decode cX7_readsGuest 194 = .ok (.dup2, 1) := by decide +kernel
theorem dX7_readsGuest_195 : decode cX7_readsGuest 195 = .ok (.iaload, 1) := by decide +kernel
theorem dX7_readsGuest_196 : decode cX7_readsGuest 196 = .ok (.iconst 1, 1) := by decide +kernel
theorem dX7_readsGuest_197 : decode cX7_readsGuest 197 = .ok (.iadd, 1) := by decide +kernel
theorem dX7_readsGuest_198 : decode cX7_readsGuest 198 = .ok (.iastore, 1) := by decide +kernel
theorem dX7_readsGuest_199 : decode cX7_readsGuest 199 = .ok (.return_, 1) := by decide +kernel
theorem dX7_castle_0 : decode cX7_castle 0 = .ok (.iconst 0, 1) := by decide +kernel
theorem dX7_castle_1 : decode cX7_castle 1 = .ok (.istore_n 1, 1) := by decide +kernel
theorem dX7_castle_2 : decode cX7_castle 2 = .ok (.iload_n 1, 1) := by decide +kernel
theorem dX7_castle_3 : decode cX7_castle 3 = .ok (.bipush 71, 2) := by decide +kernel
theorem dX7_castle_5 : decode cX7_castle 5 = .ok (.if_icmp .ge 16, 3) := by decide +kernel
theorem dX7_castle_8 : decode cX7_castle 8 = .ok (.aload_n 0, 1) := by decide +kernel
theorem dX7_castle_9 : decode cX7_castle 9 = .ok (.getfield 28, 3) := by decide +kernel
theorem dX7_castle_12 : decode cX7_castle 12 = .ok (.iload_n 1, 1) := by decide +kernel
theorem dX7_castle_13 : decode cX7_castle 13 = .ok (.iconst 0, 1) := by decide +kernel
theorem dX7_castle_14 : decode cX7_castle 14 = .ok (.iastore, 1) := by decide +kernel
theorem dX7_castle_15 : decode cX7_castle 15 = .ok (.iinc 1 1, 3) := by decide +kernel
theorem dX7_castle_18 : decode cX7_castle 18 = .ok (.goto (-16), 3) := by decide +kernel
theorem dX7_castle_21 : decode cX7_castle 21 = .ok (.aload_n 0, 1) := by decide +kernel
theorem dX7_castle_22 : decode cX7_castle 22 = .ok (.getfield 28, 3) := by decide +kernel
theorem dX7_castle_25 : decode cX7_castle 25 = .ok (.iconst 3, 1) := by decide +kernel
theorem dX7_castle_26 : decode cX7_castle 26 = .ok (.iconst (-1), 1) := by decide +kernel
theorem dX7_castle_27 : decode cX7_castle 27 = .ok (.iastore, 1) := by decide +kernel
theorem dX7_castle_28 : decode cX7_castle 28 = .ok (.aload_n 0, 1) := by decide +kernel
theorem dX7_castle_29 : decode cX7_castle 29 = .ok (.iconst 0, 1) := by decide +kernel
theorem dX7_castle_30 : decode cX7_castle 30 = .ok (.putfield 89, 3) := by decide +kernel
theorem dX7_castle_33 : decode cX7_castle 33 = .ok (.aload_n 0, 1) := by decide +kernel
theorem dX7_castle_34 : decode cX7_castle 34 = .ok (.iconst (-1), 1) := by decide +kernel
theorem dX7_castle_35 : decode cX7_castle 35 = .ok (.putfield 104, 3) := by decide +kernel
theorem dX7_castle_38 : decode cX7_castle 38 = .ok (.aload_n 0, 1) := by decide +kernel
theorem dX7_castle_39 : decode cX7_castle 39 = .ok (.invokevirtual 114, 3) := by decide +kernel
theorem dX7_castle_42 : decode cX7_castle 42 = .ok (.aload_n 0, 1) := by decide +kernel
theorem dX7_castle_43 : decode cX7_castle 43 = .ok (.aload_n 0, 1) := by decide +kernel
theorem dX7_castle_44 : decode cX7_castle 44 = .ok (.getfield 101, 3) := by decide +kernel
theorem dX7_castle_47 : decode cX7_castle 47 = .ok (.iconst 1, 1) := by decide +kernel
theorem dX7_castle_48 : decode cX7_castle 48 = .ok (.if_icmp .ne 16, 3) := by decide +kernel
theorem dX7_castle_51 : decode cX7_castle 51 = .ok (.aload_n 0, 1) := by decide +kernel
theorem dX7_castle_52 : decode cX7_castle 52 = .ok (.getfield 98, 3) := by decide +kernel
theorem dX7_castle_55 : decode cX7_castle 55 = .ok (.bipush 107, 2) := by decide +kernel
theorem dX7_castle_57 : decode cX7_castle 57 = .ok (.if_icmp .ne 7, 3) := by decide +kernel
theorem dX7_castle_60 : decode cX7_castle 60 = .ok (.iconst 1, 1) := by decide +kernel
theorem dX7_castle_61 : decode cX7_castle 61 = .ok (.goto 4, 3) := by decide +kernel
theorem dX7_castle_64 : decode cX7_castle 64 = .ok (.iconst 0, 1) := by decide +kernel
theorem dX7_castle_65 : decode cX7_castle 65 = .ok (.iconst 1, 1) := by decide +kernel
theorem dX7_castle_66 : decode cX7_castle 66 = .ok (.invokevirtual 117, 3) := by decide +kernel
theorem dX7_castle_69 : decode cX7_castle 69 = .ok (.pop, 1) := by decide +kernel
theorem dX7_castle_70 : decode cX7_castle 70 = .ok (.aload_n 0, 1) := by decide +kernel
theorem dX7_castle_71 : decode cX7_castle 71 = .ok (.getfield 28, 3) := by decide +kernel
theorem dX7_castle_74 : decode cX7_castle 74 = .ok (.iconst 1, 1) := by decide +kernel
theorem dX7_castle_75 : decode cX7_castle 75 = .ok (.aload_n 0, 1) := by decide +kernel
theorem dX7_castle_76 : decode cX7_castle 76 = .ok (.iconst 0, 1) := by decide +kernel
theorem dX7_castle_77 : decode cX7_castle 77 = .ok (.bipush 7, 2) := by decide +kernel
theorem dX7_castle_79 : decode cX7_castle 79 = .ok (.invokevirtual 124, 3) := by decide +kernel
theorem dX7_castle_82 : decode cX7_castle 82 = .ok (.iastore, 1) := by decide +kernel
theorem dX7_castle_83 : decode cX7_castle 83 = .ok (.aload_n 0, 1) := by decide +kernel
theorem dX7_castle_84 : decode cX7_castle 84 = .ok (.aload_n 0, 1) := by decide +kernel
theorem dX7_castle_85 : decode cX7_castle 85 = .ok (.getfield 101, 3) := by decide +kernel
theorem dX7_castle_88 : decode cX7_castle 88 = .ok (.iconst 3, 1) := by decide +kernel
theorem dX7_castle_89 : decode cX7_castle 89 = .ok (.if_icmp .ne 7, 3) := by decide +kernel
theorem dX7_castle_92 : decode cX7_castle 92 = .ok (.iconst 1, 1) := by decide +kernel
theorem dX7_castle_93 : decode cX7_castle 93 = .ok (.goto 4, 3) := by decide +kernel
theorem dX7_castle_96 : decode cX7_castle 96 = .ok (.iconst 0, 1) := by decide +kernel
theorem dX7_castle_97 : decode cX7_castle 97 = .ok (.iconst 1, 1) := by decide +kernel
theorem dX7_castle_98 : decode cX7_castle 98 = .ok (.invokevirtual 117, 3) := by decide +kernel
theorem dX7_castle_101 : decode cX7_castle 101 = .ok (.pop, 1) := by decide +kernel
theorem dX7_castle_102 : decode cX7_castle 102 = .ok (.aload_n 0, 1) := by decide +kernel
theorem dX7_castle_103 : decode cX7_castle 103 = .ok (.getfield 28, 3) := by decide +kernel
theorem dX7_castle_106 : decode cX7_castle 106 = .ok (.iconst 2, 1) := by decide +kernel
theorem dX7_castle_107 : decode cX7_castle 107 = .ok (.aload_n 0, 1) := by decide +kernel
theorem dX7_castle_108 : decode cX7_castle 108 = .ok (.bipush 7, 2) := by decide +kernel
theorem dX7_castle_110 : decode cX7_castle 110 = .ok (.aload_n 0, 1) := by decide +kernel
theorem dX7_castle_111 : decode cX7_castle 111 = .ok (.getfield 28, 3) := by decide +kernel
theorem dX7_castle_114 : decode cX7_castle 114 = .ok (.iconst 1, 1) := by decide +kernel
theorem dX7_castle_115 : decode cX7_castle 115 = .ok (.iaload, 1) := by decide +kernel
theorem dX7_castle_116 : decode cX7_castle 116 = .ok (.invokevirtual 127, 3) := by decide +kernel
theorem dX7_castle_119 : decode cX7_castle 119 = .ok (.iastore, 1) := by decide +kernel
theorem dX7_castle_120 : decode cX7_castle 120 = .ok (.aload_n 0, 1) := by decide +kernel
theorem dX7_castle_121 : decode cX7_castle 121 = .ok (.aload_n 0, 1) := by decide +kernel
theorem dX7_castle_122 : decode cX7_castle 122 = .ok (.getfield 101, 3) := by decide +kernel
theorem dX7_castle_125 : decode cX7_castle 125 = .ok (.iconst 3, 1) := by decide +kernel
theorem dX7_castle_126 : decode cX7_castle 126 = .ok (.if_icmp .ne 7, 3) := by decide +kernel
theorem dX7_castle_129 : decode cX7_castle 129 = .ok (.iconst 1, 1) := by decide +kernel
theorem dX7_castle_130 : decode cX7_castle 130 = .ok (.goto 4, 3) := by decide +kernel
theorem dX7_castle_133 : decode cX7_castle 133 = .ok (.iconst 0, 1) := by decide +kernel
theorem dX7_castle_134 : decode cX7_castle 134 = .ok (.iconst 1, 1) := by decide +kernel
theorem dX7_castle_135 : decode cX7_castle 135 = .ok (.invokevirtual 117, 3) := by decide +kernel
theorem dX7_castle_138 : decode cX7_castle 138 = .ok (.pop, 1) := by decide +kernel
theorem dX7_castle_139 : decode cX7_castle 139 = .ok (.aload_n 0, 1) := by decide +kernel
theorem dX7_castle_140 : decode cX7_castle 140 = .ok (.getfield 28, 3) := by decide +kernel
theorem dX7_castle_143 : decode cX7_castle 143 = .ok (.iconst 0, 1) := by decide +kernel
theorem dX7_castle_144 : decode cX7_castle 144 = .ok (.aload_n 0, 1) := by decide +kernel
theorem dX7_castle_145 : decode cX7_castle 145 = .ok (.iconst 1, 1) := by decide +kernel
theorem dX7_castle_146 : decode cX7_castle 146 = .ok (.iconst 5, 1) := by decide +kernel
theorem dX7_castle_147 : decode cX7_castle 147 = .ok (.invokevirtual 124, 3) := by decide +kernel
theorem dX7_castle_150 : decode cX7_castle 150 = .ok (.iastore, 1) := by decide +kernel
theorem dX7_castle_151 : decode cX7_castle 151 = .ok (.aload_n 0, 1) := by decide +kernel
theorem dX7_castle_152 : decode cX7_castle 152 = .ok (.aload_n 0, 1) := by decide +kernel
theorem dX7_castle_153 : decode cX7_castle 153 = .ok (.getfield 101, 3) := by decide +kernel
theorem dX7_castle_156 : decode cX7_castle 156 = .ok (.iconst 4, 1) := by decide +kernel
theorem dX7_castle_157 : decode cX7_castle 157 = .ok (.if_icmp .ne 7, 3) := by decide +kernel
theorem dX7_castle_160 : decode cX7_castle 160 = .ok (.iconst 1, 1) := by decide +kernel
theorem dX7_castle_161 : decode cX7_castle 161 = .ok (.goto 4, 3) := by decide +kernel
theorem dX7_castle_164 : decode cX7_castle 164 = .ok (.iconst 0, 1) := by decide +kernel
theorem dX7_castle_165 : decode cX7_castle 165 = .ok (.iconst 1, 1) := by decide +kernel
theorem dX7_castle_166 : decode cX7_castle 166 = .ok (.invokevirtual 117, 3) := by decide +kernel
theorem dX7_castle_169 : decode cX7_castle 169 = .ok (.pop, 1) := by decide +kernel
theorem dX7_castle_170 : decode cX7_castle 170 = .ok (.aload_n 0, 1) := by decide +kernel
theorem dX7_castle_171 : decode cX7_castle 171 = .ok (.invokevirtual 107, 3) := by decide +kernel
theorem dX7_castle_174 : decode cX7_castle 174 = .ok (.ifCond .eq 28, 3) := by decide +kernel
theorem dX7_castle_177 : decode cX7_castle 177 = .ok (.aload_n 0, 1) := by decide +kernel
theorem dX7_castle_178 : decode cX7_castle 178 = .ok (.getfield 101, 3) := by decide +kernel
theorem dX7_castle_181 : decode cX7_castle 181 = .ok (.iconst 1, 1) := by decide +kernel
theorem dX7_castle_182 : decode cX7_castle 182 = .ok (.if_icmp .ne 20, 3) := by decide +kernel
theorem dX7_castle_185 : decode cX7_castle 185 = .ok (.aload_n 0, 1) := by decide +kernel
theorem dX7_castle_186 : decode cX7_castle 186 = .ok (.getfield 98, 3) := by decide +kernel
theorem dX7_castle_189 : decode cX7_castle 189 = .ok (.invokestatic 121, 3) := by decide +kernel
theorem dX7_castle_192 : decode cX7_castle 192 = .ok (.ifCond .le 10, 3) := by decide +kernel
theorem dX7_castle_195 : decode cX7_castle 195 = .ok (.aload_n 0, 1) := by decide +kernel
theorem dX7_castle_196 : decode cX7_castle 196 = .ok (.invokevirtual 130, 3) := by decide +kernel
theorem dX7_castle_199 : decode cX7_castle 199 = .ok (.goto (-29), 3) := by decide +kernel
theorem dX7_castle_202 : decode cX7_castle 202 = .ok (.aload_n 0, 1) := by decide +kernel
theorem dX7_castle_203 : decode cX7_castle 203 = .ok (.invokevirtual 107, 3) := by decide +kernel
theorem dX7_castle_206 : decode cX7_castle 206 = .ok (.ifCond .eq 27, 3) := by decide +kernel
theorem dX7_castle_209 : decode cX7_castle 209 = .ok (.aload_n 0, 1) := by decide +kernel
theorem dX7_castle_210 : decode cX7_castle 210 = .ok (.getfield 101, 3) := by decide +kernel
theorem dX7_castle_213 : decode cX7_castle 213 = .ok (.iconst 1, 1) := by decide +kernel
theorem dX7_castle_214 : decode cX7_castle 214 = .ok (.if_icmp .ne 19, 3) := by decide +kernel
theorem dX7_castle_217 : decode cX7_castle 217 = .ok (.aload_n 0, 1) := by decide +kernel
theorem dX7_castle_218 : decode cX7_castle 218 = .ok (.getfield 98, 3) := by decide +kernel
theorem dX7_castle_221 : decode cX7_castle 221 = .ok (.bipush 110, 2) := by decide +kernel
theorem dX7_castle_223 : decode cX7_castle 223 = .ok (.if_icmp .ne 10, 3) := by decide +kernel
theorem dX7_castle_226 : decode cX7_castle 226 = .ok (.aload_n 0, 1) := by decide +kernel
theorem dX7_castle_227 : decode cX7_castle 227 = .ok (.invokevirtual 133, 3) := by decide +kernel
theorem dX7_castle_230 : decode cX7_castle 230 = .ok (.goto (-28), 3) := by decide +kernel
theorem dX7_castle_233 : decode cX7_castle 233 = .ok (.aload_n 0, 1) := by decide +kernel
theorem dX7_castle_234 : decode cX7_castle 234 = .ok (.invokevirtual 107, 3) := by decide +kernel
theorem dX7_castle_237 : decode cX7_castle 237 = .ok (.ifCond .eq 17, 3) := by decide +kernel
theorem dX7_castle_240 : decode cX7_castle 240 = .ok (.aload_n 0, 1) := by decide +kernel
theorem dX7_castle_241 : decode cX7_castle 241 = .ok (.getfield 101, 3) := by decide +kernel
theorem dX7_castle_244 : decode cX7_castle 244 = .ok (.ifCond .eq 10, 3) := by decide +kernel
theorem dX7_castle_247 : decode cX7_castle 247 = .ok (.aload_n 0, 1) := by decide +kernel
theorem dX7_castle_248 : decode cX7_castle 248 = .ok (.iconst 0, 1) := by decide +kernel
theorem dX7_castle_249 : decode cX7_castle 249 = .ok (.iconst 1, 1) := by decide +kernel
theorem dX7_castle_250 : decode cX7_castle 250 = .ok (.invokevirtual 117, 3) := by decide +kernel
theorem dX7_castle_253 : decode cX7_castle 253 = .ok (.pop, 1) := by decide +kernel
theorem dX7_castle_254 : decode cX7_castle 254 = .ok (.aload_n 0, 1) := by decide +kernel
theorem dX7_castle_255 : decode cX7_castle 255 = .ok (.iconst 0, 1) := by decide +kernel
theorem dX7_castle_256 : decode cX7_castle 256 = .ok (.putfield 85, 3) := by decide +kernel
theorem dX7_castle_259 : decode cX7_castle 259 = .ok (.aload_n 0, 1) := by decide +kernel
theorem dX7_castle_260 : decode cX7_castle 260 = .ok (.invokevirtual 107, 3) := by decide +kernel
theorem dX7_castle_263 : decode cX7_castle 263 = .ok (.ifCond .ne 11, 3) := by decide +kernel
theorem dX7_castle_266 : decode cX7_castle 266 = .ok (.ldc 136, 2) := by decide +kernel
theorem dX7_castle_268 : decode cX7_castle 268 = .ok (.aload_n 0, 1) := by decide +kernel
theorem dX7_castle_269 : decode cX7_castle 269 = .ok (.getfield 104, 3) := by decide +kernel
theorem dX7_castle_272 : decode cX7_castle 272 = .ok (.isub, 1) := by decide +kernel
theorem dX7_castle_273 : decode cX7_castle 273 = .ok (.ireturn, 1) := by decide +kernel
theorem dX7_castle_274 : decode cX7_castle 274 = .ok (.aload_n 0, 1) := by decide +kernel
theorem dX7_castle_275 : decode cX7_castle 275 = .ok (.getfield 28, 3) := by decide +kernel
theorem dX7_castle_278 : decode cX7_castle 278 = .ok (.iconst 0, 1) := by decide +kernel
theorem dX7_castle_279 : decode cX7_castle 279 = .ok (.aload_n 0, 1) := by decide +kernel
theorem dX7_castle_280 : decode cX7_castle 280 = .ok (.getfield 25, 3) := by decide +kernel
theorem dX7_castle_283 : decode cX7_castle 283 = .ok (.iconst 0, 1) := by decide +kernel
theorem dX7_castle_284 : decode cX7_castle 284 = .ok (.invokestatic 137, 3) := by decide +kernel
theorem dX7_castle_287 : decode cX7_castle 287 = .ok (.aload_n 0, 1) := by decide +kernel
theorem dX7_castle_288 : decode cX7_castle 288 = .ok (.iconst 0, 1) := by decide +kernel
theorem dX7_castle_289 : decode cX7_castle 289 = .ok (.putfield 141, 3) := by decide +kernel
theorem dX7_castle_292 : decode cX7_castle 292 = .ok (.aload_n 0, 1) := by decide +kernel
theorem dX7_castle_293 : decode cX7_castle 293 = .ok (.getfield 25, 3) := by decide +kernel
theorem dX7_castle_296 : decode cX7_castle 296 = .ok (.bipush 8, 2) := by decide +kernel
theorem dX7_castle_298 : decode cX7_castle 298 = .ok (.iaload, 1) := by decide +kernel
theorem dX7_castle_299 : decode cX7_castle 299 = .ok (.ireturn, 1) := by decide +kernel
theorem dX7_fault_0 : decode cX7_fault 0 = .ok (.aload_n 0, 1) := by decide +kernel
theorem dX7_fault_1 : decode cX7_fault 1 = .ok (.getfield 111, 3) := by decide +kernel
theorem dX7_fault_4 : decode cX7_fault 4 = .ok (.ireturn, 1) := by decide +kernel
theorem dX7_isCastle_0 : decode cX7_isCastle 0 = .ok (.aload_n 0, 1) := by decide +kernel
theorem dX7_isCastle_1 : decode cX7_isCastle 1 = .ok (.getfield 25, 3) := by decide +kernel
theorem dX7_isCastle_4 : decode cX7_isCastle 4 = .ok (.iconst 0, 1) := by decide +kernel
theorem dX7_isCastle_5 : decode cX7_isCastle 5 = .ok (.iaload, 1) := by decide +kernel
theorem dX7_isCastle_6 : decode cX7_isCastle 6 = .ok (.ifCond .le 7, 3) := by decide +kernel
theorem dX7_isCastle_9 : decode cX7_isCastle 9 = .ok (.iconst 1, 1) := by decide +kernel
theorem dX7_isCastle_10 : decode cX7_isCastle 10 = .ok (.goto 4, 3) := by decide +kernel
theorem dX7_isCastle_13 : decode cX7_isCastle 13 = .ok (.iconst 0, 1) := by decide +kernel
theorem dX7_isCastle_14 : decode cX7_isCastle 14 = .ok (.ireturn, 1) := by decide +kernel
theorem dX7_isHint_0 : decode cX7_isHint 0 = .ok (.iload_n 1, 1) := by decide +kernel
theorem dX7_isHint_1 : decode cX7_isHint 1 = .ok (.iconst 0, 1) := by decide +kernel
theorem dX7_isHint_2 : decode cX7_isHint 2 = .ok (.aload_n 0, 1) := by decide +kernel
theorem dX7_isHint_3 : decode cX7_isHint 3 = .ok (.getfield 25, 3) := by decide +kernel
theorem dX7_isHint_6 : decode cX7_isHint 6 = .ok (.bipush 7, 2) := by decide +kernel
theorem dX7_isHint_8 : decode cX7_isHint 8 = .ok (.iaload, 1) := by decide +kernel
theorem dX7_isHint_9 : decode cX7_isHint 9 = .ok (.iconst 1, 1) := by decide +kernel
theorem dX7_isHint_10 : decode cX7_isHint 10 = .ok (.isub, 1) := by decide +kernel
theorem dX7_isHint_11 : decode cX7_isHint 11 = .ok (.invokestatic 59, 3) := by decide +kernel
theorem dX7_isHint_14 : decode cX7_isHint 14 = .ok (.ireturn, 1) := by decide +kernel
theorem dX7_isGuest_0 : decode cX7_isGuest 0 = .ok (.iload_n 1, 1) := by decide +kernel
theorem dX7_isGuest_1 : decode cX7_isGuest 1 = .ok (.iconst 0, 1) := by decide +kernel
theorem dX7_isGuest_2 : decode cX7_isGuest 2 = .ok (.aload_n 0, 1) := by decide +kernel
theorem dX7_isGuest_3 : decode cX7_isGuest 3 = .ok (.getfield 25, 3) := by decide +kernel
theorem dX7_isGuest_6 : decode cX7_isGuest 6 = .ok (.bipush 8, 2) := by decide +kernel
theorem dX7_isGuest_8 : decode cX7_isGuest 8 = .ok (.iaload, 1) := by decide +kernel
theorem dX7_isGuest_9 : decode cX7_isGuest 9 = .ok (.iconst 1, 1) := by decide +kernel
theorem dX7_isGuest_10 : decode cX7_isGuest 10 = .ok (.isub, 1) := by decide +kernel
theorem dX7_isGuest_11 : decode cX7_isGuest 11 = .ok (.invokestatic 59, 3) := by decide +kernel
theorem dX7_isGuest_14 : decode cX7_isGuest 14 = .ok (.ireturn, 1) := by decide +kernel
theorem dX7_of_0 : decode cX7_of 0 = .ok (.aload_n 0, 1) := by decide +kernel
theorem dX7_of_1 : decode cX7_of 1 = .ok (.getfield 25, 3) := by decide +kernel
theorem dX7_of_4 : decode cX7_of 4 = .ok (.bipush 41, 2) := by decide +kernel
theorem dX7_of_6 : decode cX7_of 6 = .ok (.iconst 5, 1) := by decide +kernel
theorem dX7_of_7 : decode cX7_of 7 = .ok (.iload_n 1, 1) := by decide +kernel
theorem dX7_of_8 : decode cX7_of 8 = .ok (.imul, 1) := by decide +kernel
theorem dX7_of_9 : decode cX7_of 9 = .ok (.iadd, 1) := by decide +kernel
theorem dX7_of_10 : decode cX7_of 10 = .ok (.iload_n 2, 1) := by decide +kernel
theorem dX7_of_11 : decode cX7_of 11 = .ok (.iadd, 1) := by decide +kernel
theorem dX7_of_12 : decode cX7_of 12 = .ok (.iaload, 1) := by decide +kernel
theorem dX7_of_13 : decode cX7_of 13 = .ok (.ireturn, 1) := by decide +kernel
theorem dX7_isToCome_0 : decode cX7_isToCome 0 = .ok (.aload_n 0, 1) := by decide +kernel
theorem dX7_isToCome_1 : decode cX7_isToCome 1 = .ok (.iload_n 1, 1) := by decide +kernel
theorem dX7_isToCome_2 : decode cX7_isToCome 2 = .ok (.iconst 3, 1) := by decide +kernel
theorem dX7_isToCome_3 : decode cX7_isToCome 3 = .ok (.invokevirtual 144, 3) := by decide +kernel
theorem dX7_isToCome_6 : decode cX7_isToCome 6 = .ok (.ifCond .ne 7, 3) := by decide +kernel
theorem dX7_isToCome_9 : decode cX7_isToCome 9 = .ok (.iconst 1, 1) := by decide +kernel
theorem dX7_isToCome_10 : decode cX7_isToCome 10 = .ok (.goto 4, 3) := by decide +kernel
theorem dX7_isToCome_13 : decode cX7_isToCome 13 = .ok (.iconst 0, 1) := by decide +kernel
theorem dX7_isToCome_14 : decode cX7_isToCome 14 = .ok (.ireturn, 1) := by decide +kernel
theorem dX7_dares_0 : decode cX7_dares 0 = .ok (.aload_n 0, 1) := by decide +kernel
theorem dX7_dares_1 : decode cX7_dares 1 = .ok (.iload_n 1, 1) := by decide +kernel
theorem dX7_dares_2 : decode cX7_dares 2 = .ok (.iconst 2, 1) := by decide +kernel
theorem dX7_dares_3 : decode cX7_dares 3 = .ok (.invokevirtual 144, 3) := by decide +kernel
theorem dX7_dares_6 : decode cX7_dares 6 = .ok (.aload_n 0, 1) := by decide +kernel
theorem dX7_dares_7 : decode cX7_dares 7 = .ok (.iload_n 1, 1) := by decide +kernel
theorem dX7_dares_8 : decode cX7_dares 8 = .ok (.iconst 1, 1) := by decide +kernel
theorem dX7_dares_9 : decode cX7_dares 9 = .ok (.invokevirtual 144, 3) := by decide +kernel
theorem dX7_dares_12 : decode cX7_dares 12 = .ok (.if_icmp .lt 7, 3) := by decide +kernel
theorem dX7_dares_15 : decode cX7_dares 15 = .ok (.iconst 1, 1) := by decide +kernel
theorem dX7_dares_16 : decode cX7_dares 16 = .ok (.goto 4, 3) := by decide +kernel
theorem dX7_dares_19 : decode cX7_dares 19 = .ok (.iconst 0, 1) := by decide +kernel
theorem dX7_dares_20 : decode cX7_dares 20 = .ok (.ireturn, 1) := by decide +kernel
theorem dX7_leadsTo_0 : decode cX7_leadsTo 0 = .ok (.bipush 9, 2) := by decide +kernel
theorem dX7_leadsTo_2 : decode cX7_leadsTo 2 = .ok (.iconst 4, 1) := by decide +kernel
theorem dX7_leadsTo_3 : decode cX7_leadsTo 3 = .ok (.iload_n 1, 1) := by decide +kernel
theorem dX7_leadsTo_4 : decode cX7_leadsTo 4 = .ok (.imul, 1) := by decide +kernel
theorem dX7_leadsTo_5 : decode cX7_leadsTo 5 = .ok (.iadd, 1) := by decide +kernel
theorem dX7_leadsTo_6 : decode cX7_leadsTo 6 = .ok (.istore 4, 2) := by decide +kernel
theorem dX7_leadsTo_8 : decode cX7_leadsTo 8 = .ok (.aload_n 0, 1) := by decide +kernel
theorem dX7_leadsTo_9 : decode cX7_leadsTo 9 = .ok (.getfield 25, 3) := by decide +kernel
theorem dX7_leadsTo_12 : decode cX7_leadsTo 12 = .ok (.iload 4, 2) := by decide +kernel
theorem dX7_leadsTo_14 : decode cX7_leadsTo 14 = .ok (.iaload, 1) := by decide +kernel
theorem dX7_leadsTo_15 : decode cX7_leadsTo 15 = .ok (.istore 5, 2) := by decide +kernel
theorem dX7_leadsTo_17 : decode cX7_leadsTo 17 = .ok (.aload_n 0, 1) := by decide +kernel
theorem dX7_leadsTo_18 : decode cX7_leadsTo 18 = .ok (.getfield 25, 3) := by decide +kernel
theorem dX7_leadsTo_21 : decode cX7_leadsTo 21 = .ok (.iload 4, 2) := by decide +kernel
theorem dX7_leadsTo_23 : decode cX7_leadsTo 23 = .ok (.iconst 1, 1) := by decide +kernel
theorem dX7_leadsTo_24 : decode cX7_leadsTo 24 = .ok (.iadd, 1) := by decide +kernel
theorem dX7_leadsTo_25 : decode cX7_leadsTo 25 = .ok (.iaload, 1) := by decide +kernel
theorem dX7_leadsTo_26 : decode cX7_leadsTo 26 = .ok (.istore 6, 2) := by decide +kernel
theorem dX7_leadsTo_28 : decode cX7_leadsTo 28 = .ok (.aload_n 0, 1) := by decide +kernel
theorem dX7_leadsTo_29 : decode cX7_leadsTo 29 = .ok (.getfield 25, 3) := by decide +kernel
theorem dX7_leadsTo_32 : decode cX7_leadsTo 32 = .ok (.iload 4, 2) := by decide +kernel
theorem dX7_leadsTo_34 : decode cX7_leadsTo 34 = .ok (.iconst 2, 1) := by decide +kernel
theorem dX7_leadsTo_35 : decode cX7_leadsTo 35 = .ok (.iadd, 1) := by decide +kernel
theorem dX7_leadsTo_36 : decode cX7_leadsTo 36 = .ok (.iaload, 1) := by decide +kernel
theorem dX7_leadsTo_37 : decode cX7_leadsTo 37 = .ok (.istore 7, 2) := by decide +kernel
theorem dX7_leadsTo_39 : decode cX7_leadsTo 39 = .ok (.iload 5, 2) := by decide +kernel
theorem dX7_leadsTo_41 : decode cX7_leadsTo 41 = .ok (.iconst 4, 1) := by decide +kernel
theorem dX7_leadsTo_42 : decode cX7_leadsTo 42 = .ok (.if_icmp .ge 53, 3) := by decide +kernel
theorem dX7_leadsTo_45 : decode cX7_leadsTo 45 = .ok (.iload_n 2, 1) := by decide +kernel
theorem dX7_leadsTo_46 : decode cX7_leadsTo 46 = .ok (.iload 6, 2) := by decide +kernel
theorem dX7_leadsTo_48 : decode cX7_leadsTo 48 = .ok (.if_icmp .eq 17, 3) := by decide +kernel
theorem dX7_leadsTo_51 : decode cX7_leadsTo 51 = .ok (.iload 5, 2) := by decide +kernel
theorem dX7_leadsTo_53 : decode cX7_leadsTo 53 = .ok (.iconst 2, 1) := by decide +kernel
theorem dX7_leadsTo_54 : decode cX7_leadsTo 54 = .ok (.if_icmp .ne 15, 3) := by decide +kernel
theorem dX7_leadsTo_57 : decode cX7_leadsTo 57 = .ok (.iload_n 2, 1) := by decide +kernel
theorem dX7_leadsTo_58 : decode cX7_leadsTo 58 = .ok (.iload 6, 2) := by decide +kernel
theorem dX7_leadsTo_60 : decode cX7_leadsTo 60 = .ok (.iconst 1, 1) := by decide +kernel
theorem dX7_leadsTo_61 : decode cX7_leadsTo 61 = .ok (.isub, 1) := by decide +kernel
theorem dX7_leadsTo_62 : decode cX7_leadsTo 62 = .ok (.if_icmp .ne 7, 3) := by decide +kernel
theorem dX7_leadsTo_65 : decode cX7_leadsTo 65 = .ok (.iconst 1, 1) := by decide +kernel
theorem dX7_leadsTo_66 : decode cX7_leadsTo 66 = .ok (.goto 4, 3) := by decide +kernel
theorem dX7_leadsTo_69 : decode cX7_leadsTo 69 = .ok (.iconst 0, 1) := by decide +kernel
theorem dX7_leadsTo_70 : decode cX7_leadsTo 70 = .ok (.istore 8, 2) := by decide +kernel
theorem dX7_leadsTo_72 : decode cX7_leadsTo 72 = .ok (.iload 8, 2) := by decide +kernel
theorem dX7_leadsTo_74 : decode cX7_leadsTo 74 = .ok (.ifCond .eq 19, 3) := by decide +kernel
theorem dX7_leadsTo_77 : decode cX7_leadsTo 77 = .ok (.iload 5, 2) := by decide +kernel
theorem dX7_leadsTo_79 : decode cX7_leadsTo 79 = .ok (.iconst 3, 1) := by decide +kernel
theorem dX7_leadsTo_80 : decode cX7_leadsTo 80 = .ok (.if_icmp .ne 8, 3) := by decide +kernel
theorem dX7_leadsTo_83 : decode cX7_leadsTo 83 = .ok (.iload_n 3, 1) := by decide +kernel
theorem dX7_leadsTo_84 : decode cX7_leadsTo 84 = .ok (.iconst 2, 1) := by decide +kernel
theorem dX7_leadsTo_85 : decode cX7_leadsTo 85 = .ok (.if_icmp .ge 8, 3) := by decide +kernel
theorem dX7_leadsTo_88 : decode cX7_leadsTo 88 = .ok (.iload 7, 2) := by decide +kernel
theorem dX7_leadsTo_90 : decode cX7_leadsTo 90 = .ok (.goto 4, 3) := by decide +kernel
theorem dX7_leadsTo_93 : decode cX7_leadsTo 93 = .ok (.iload_n 2, 1) := by decide +kernel
theorem dX7_leadsTo_94 : decode cX7_leadsTo 94 = .ok (.ireturn, 1) := by decide +kernel
theorem dX7_leadsTo_95 : decode cX7_leadsTo 95 = .ok (.iload_n 2, 1) := by decide +kernel
theorem dX7_leadsTo_96 : decode cX7_leadsTo 96 = .ok (.iload 7, 2) := by decide +kernel
theorem dX7_leadsTo_98 : decode cX7_leadsTo 98 = .ok (.if_icmp .ne 8, 3) := by decide +kernel
theorem dX7_leadsTo_101 : decode cX7_leadsTo 101 = .ok (.iload 6, 2) := by decide +kernel
theorem dX7_leadsTo_103 : decode cX7_leadsTo 103 = .ok (.goto 21, 3) := by decide +kernel
theorem dX7_leadsTo_106 : decode cX7_leadsTo 106 = .ok (.iload 5, 2) := by decide +kernel
theorem dX7_leadsTo_108 : decode cX7_leadsTo 108 = .ok (.iconst 5, 1) := by decide +kernel
theorem dX7_leadsTo_109 : decode cX7_leadsTo 109 = .ok (.if_icmp .ne 14, 3) := by decide +kernel
theorem dX7_leadsTo_112 : decode cX7_leadsTo 112 = .ok (.iload_n 2, 1) := by decide +kernel
theorem dX7_leadsTo_113 : decode cX7_leadsTo 113 = .ok (.iload 6, 2) := by decide +kernel
theorem dX7_leadsTo_115 : decode cX7_leadsTo 115 = .ok (.if_icmp .ne 8, 3) := by decide +kernel
theorem dX7_leadsTo_118 : decode cX7_leadsTo 118 = .ok (.iload 7, 2) := by decide +kernel
theorem dX7_leadsTo_120 : decode cX7_leadsTo 120 = .ok (.goto 4, 3) := by decide +kernel
theorem dX7_leadsTo_123 : decode cX7_leadsTo 123 = .ok (.iload_n 2, 1) := by decide +kernel
theorem dX7_leadsTo_124 : decode cX7_leadsTo 124 = .ok (.ireturn, 1) := by decide +kernel
theorem dX7_leadsNow_0 : decode cX7_leadsNow 0 = .ok (.aload_n 0, 1) := by decide +kernel
theorem dX7_leadsNow_1 : decode cX7_leadsNow 1 = .ok (.iload_n 1, 1) := by decide +kernel
theorem dX7_leadsNow_2 : decode cX7_leadsNow 2 = .ok (.iload_n 2, 1) := by decide +kernel
theorem dX7_leadsNow_3 : decode cX7_leadsNow 3 = .ok (.aload_n 0, 1) := by decide +kernel
theorem dX7_leadsNow_4 : decode cX7_leadsNow 4 = .ok (.getfield 25, 3) := by decide +kernel
theorem dX7_leadsNow_7 : decode cX7_leadsNow 7 = .ok (.bipush 9, 2) := by decide +kernel
theorem dX7_leadsNow_9 : decode cX7_leadsNow 9 = .ok (.iconst 4, 1) := by decide +kernel
theorem dX7_leadsNow_10 : decode cX7_leadsNow 10 = .ok (.iload_n 1, 1) := by decide +kernel
theorem dX7_leadsNow_11 : decode cX7_leadsNow 11 = .ok (.imul, 1) := by decide +kernel
theorem dX7_leadsNow_12 : decode cX7_leadsNow 12 = .ok (.iadd, 1) := by decide +kernel
theorem dX7_leadsNow_13 : decode cX7_leadsNow 13 = .ok (.iconst 3, 1) := by decide +kernel
theorem dX7_leadsNow_14 : decode cX7_leadsNow 14 = .ok (.iadd, 1) := by decide +kernel
theorem dX7_leadsNow_15 : decode cX7_leadsNow 15 = .ok (.iaload, 1) := by decide +kernel
theorem dX7_leadsNow_16 : decode cX7_leadsNow 16 = .ok (.invokevirtual 147, 3) := by decide +kernel
theorem dX7_leadsNow_19 : decode cX7_leadsNow 19 = .ok (.ireturn, 1) := by decide +kernel
theorem dX7_notes_0 : decode cX7_notes 0 = .ok (.aload_n 0, 1) := by decide +kernel
theorem dX7_notes_1 : decode cX7_notes 1 = .ok (.getfield 141, 3) := by decide +kernel
theorem dX7_notes_4 : decode cX7_notes 4 = .ok (.bipush 24, 2) := by decide +kernel
theorem dX7_notes_6 : decode cX7_notes 6 = .ok (.if_icmp .ne 43, 3) := by decide +kernel
theorem dX7_notes_9 : decode cX7_notes 9 = .ok (.iconst 0, 1) := by decide +kernel
theorem dX7_notes_10 : decode cX7_notes 10 = .ok (.istore_n 1, 1) := by decide +kernel
theorem dX7_notes_11 : decode cX7_notes 11 = .ok (.iload_n 1, 1) := by decide +kernel
theorem dX7_notes_12 : decode cX7_notes 12 = .ok (.sipush 1633, 3) := by decide +kernel
theorem dX7_notes_15 : decode cX7_notes 15 = .ok (.if_icmp .ge 24, 3) := by decide +kernel
theorem dX7_notes_18 : decode cX7_notes 18 = .ok (.aload_n 0, 1) := by decide +kernel
theorem dX7_notes_19 : decode cX7_notes 19 = .ok (.getfield 31, 3) := by decide +kernel
theorem dX7_notes_22 : decode cX7_notes 22 = .ok (.iload_n 1, 1) := by decide +kernel
theorem dX7_notes_23 : decode cX7_notes 23 = .ok (.aload_n 0, 1) := by decide +kernel
theorem dX7_notes_24 : decode cX7_notes 24 = .ok (.getfield 31, 3) := by decide +kernel
theorem dX7_notes_27 : decode cX7_notes 27 = .ok (.iload_n 1, 1) := by decide +kernel
theorem dX7_notes_28 : decode cX7_notes 28 = .ok (.bipush 71, 2) := by decide +kernel
theorem dX7_notes_30 : decode cX7_notes 30 = .ok (.iadd, 1) := by decide +kernel
theorem dX7_notes_31 : decode cX7_notes 31 = .ok (.iaload, 1) := by decide +kernel
theorem dX7_notes_32 : decode cX7_notes 32 = .ok (.iastore, 1) := by decide +kernel
theorem dX7_notes_33 : decode cX7_notes 33 = .ok (.iinc 1 1, 3) := by decide +kernel
theorem dX7_notes_36 : decode cX7_notes 36 = .ok (.goto (-25), 3) := by decide +kernel
theorem dX7_notes_39 : decode cX7_notes 39 = .ok (.aload_n 0, 1) := by decide +kernel
theorem dX7_notes_40 : decode cX7_notes 40 = .ok (.dup, 1) := by decide +kernel
theorem dX7_notes_41 : decode cX7_notes 41 = .ok (.getfield 141, 3) := by decide +kernel
theorem dX7_notes_44 : decode cX7_notes 44 = .ok (.iconst 1, 1) := by decide +kernel
theorem dX7_notes_45 : decode cX7_notes 45 = .ok (.isub, 1) := by decide +kernel
theorem dX7_notes_46 : decode cX7_notes 46 = .ok (.putfield 141, 3) := by decide +kernel
theorem dX7_notes_49 : decode cX7_notes 49 = .ok (.aload_n 0, 1) := by decide +kernel
theorem dX7_notes_50 : decode cX7_notes 50 = .ok (.getfield 25, 3) := by decide +kernel
theorem dX7_notes_53 : decode cX7_notes 53 = .ok (.iconst 0, 1) := by decide +kernel
theorem dX7_notes_54 : decode cX7_notes 54 = .ok (.aload_n 0, 1) := by decide +kernel
theorem dX7_notes_55 : decode cX7_notes 55 = .ok (.getfield 31, 3) := by decide +kernel
theorem dX7_notes_58 : decode cX7_notes 58 = .ok (.bipush 71, 2) := by decide +kernel
theorem dX7_notes_60 : decode cX7_notes 60 = .ok (.aload_n 0, 1) := by decide +kernel
theorem dX7_notes_61 : decode cX7_notes 61 = .ok (.getfield 141, 3) := by decide +kernel
theorem dX7_notes_64 : decode cX7_notes 64 = .ok (.imul, 1) := by decide +kernel
theorem dX7_notes_65 : decode cX7_notes 65 = .ok (.invokestatic 137, 3) := by decide +kernel
theorem dX7_notes_68 : decode cX7_notes 68 = .ok (.aload_n 0, 1) := by decide +kernel
theorem dX7_notes_69 : decode cX7_notes 69 = .ok (.dup, 1) := by decide +kernel
theorem dX7_notes_70 : decode cX7_notes 70 = .ok (.getfield 141, 3) := by decide +kernel
theorem dX7_notes_73 : decode cX7_notes 73 = .ok (.iconst 1, 1) := by decide +kernel
theorem dX7_notes_74 : decode cX7_notes 74 = .ok (.iadd, 1) := by decide +kernel
theorem dX7_notes_75 : decode cX7_notes 75 = .ok (.putfield 141, 3) := by decide +kernel
theorem dX7_notes_78 : decode cX7_notes 78 = .ok (.return_, 1) := by decide +kernel
theorem dX7_invite_0 : decode cX7_invite 0 = .ok (.aload_n 0, 1) := by decide +kernel
theorem dX7_invite_1 : decode cX7_invite 1 = .ok (.iload_n 1, 1) := by decide +kernel
theorem dX7_invite_2 : decode cX7_invite 2 = .ok (.invokevirtual 151, 3) := by decide +kernel
theorem dX7_invite_5 : decode cX7_invite 5 = .ok (.ifCond .ne 6, 3) := by decide +kernel
theorem dX7_invite_8 : decode cX7_invite 8 = .ok (.ldc 67, 2) := by decide +kernel
theorem dX7_invite_10 : decode cX7_invite 10 = .ok (.ireturn, 1) := by decide +kernel
theorem dX7_invite_11 : decode cX7_invite 11 = .ok (.aload_n 0, 1) := by decide +kernel
theorem dX7_invite_12 : decode cX7_invite 12 = .ok (.getfield 25, 3) := by decide +kernel
theorem dX7_invite_15 : decode cX7_invite 15 = .ok (.iconst 3, 1) := by decide +kernel
theorem dX7_invite_16 : decode cX7_invite 16 = .ok (.iaload, 1) := by decide +kernel
theorem dX7_invite_17 : decode cX7_invite 17 = .ok (.ifCond .ge 21, 3) := by decide +kernel
theorem dX7_invite_20 : decode cX7_invite 20 = .ok (.aload_n 0, 1) := by decide +kernel
theorem dX7_invite_21 : decode cX7_invite 21 = .ok (.iload_n 1, 1) := by decide +kernel
theorem dX7_invite_22 : decode cX7_invite 22 = .ok (.invokevirtual 154, 3) := by decide +kernel
theorem dX7_invite_25 : decode cX7_invite 25 = .ok (.ifCond .eq 13, 3) := by decide +kernel
theorem dX7_invite_28 : decode cX7_invite 28 = .ok (.aload_n 0, 1) := by decide +kernel
theorem dX7_invite_29 : decode cX7_invite 29 = .ok (.getfield 25, 3) := by decide +kernel
theorem dX7_invite_32 : decode cX7_invite 32 = .ok (.iconst 5, 1) := by decide +kernel
theorem dX7_invite_33 : decode cX7_invite 33 = .ok (.iaload, 1) := by decide +kernel
theorem dX7_invite_34 : decode cX7_invite 34 = .ok (.iconst 1, 1) := by decide +kernel
theorem dX7_invite_35 : decode cX7_invite 35 = .ok (.if_icmp .ne 6, 3) := by decide +kernel
theorem dX7_invite_38 : decode cX7_invite 38 = .ok (.ldc 157, 2) := by decide +kernel
theorem dX7_invite_40 : decode cX7_invite 40 = .ok (.ireturn, 1) := by decide +kernel
theorem dX7_invite_41 : decode cX7_invite 41 = .ok (.aload_n 0, 1) := by decide +kernel
theorem dX7_invite_42 : decode cX7_invite 42 = .ok (.invokevirtual 158, 3) := by decide +kernel
theorem dX7_invite_45 : decode cX7_invite 45 = .ok (.aload_n 0, 1) := by decide +kernel
theorem dX7_invite_46 : decode cX7_invite 46 = .ok (.getfield 25, 3) := by decide +kernel
theorem dX7_invite_49 : decode cX7_invite 49 = .ok (.iconst 3, 1) := by decide +kernel
theorem dX7_invite_50 : decode cX7_invite 50 = .ok (.iload_n 1, 1) := by decide +kernel
theorem dX7_invite_51 : decode cX7_invite 51 = .ok (.iastore, 1) := by decide +kernel
theorem dX7_invite_52 : decode cX7_invite 52 = .ok (.aload_n 0, 1) := by decide +kernel
theorem dX7_invite_53 : decode cX7_invite 53 = .ok (.getfield 25, 3) := by decide +kernel
theorem dX7_invite_56 : decode cX7_invite 56 = .ok (.iconst 4, 1) := by decide +kernel
theorem dX7_invite_57 : decode cX7_invite 57 = .ok (.iconst 0, 1) := by decide +kernel
theorem dX7_invite_58 : decode cX7_invite 58 = .ok (.iastore, 1) := by decide +kernel
theorem dX7_invite_59 : decode cX7_invite 59 = .ok (.aload_n 0, 1) := by decide +kernel
theorem dX7_invite_60 : decode cX7_invite 60 = .ok (.getfield 25, 3) := by decide +kernel
theorem dX7_invite_63 : decode cX7_invite 63 = .ok (.bipush 41, 2) := by decide +kernel
theorem dX7_invite_65 : decode cX7_invite 65 = .ok (.iconst 5, 1) := by decide +kernel
theorem dX7_invite_66 : decode cX7_invite 66 = .ok (.iload_n 1, 1) := by decide +kernel
theorem dX7_invite_67 : decode cX7_invite 67 = .ok (.imul, 1) := by decide +kernel
theorem dX7_invite_68 : decode cX7_invite 68 = .ok (.iadd, 1) := by decide +kernel
theorem dX7_invite_69 : decode cX7_invite 69 = .ok (.iconst 3, 1) := by decide +kernel
theorem dX7_invite_70 : decode cX7_invite 70 = .ok (.iadd, 1) := by decide +kernel
theorem dX7_invite_71 : decode cX7_invite 71 = .ok (.iconst 1, 1) := by decide +kernel
theorem dX7_invite_72 : decode cX7_invite 72 = .ok (.iastore, 1) := by decide +kernel
theorem dX7_invite_73 : decode cX7_invite 73 = .ok (.aload_n 0, 1) := by decide +kernel
theorem dX7_invite_74 : decode cX7_invite 74 = .ok (.iload_n 1, 1) := by decide +kernel
theorem dX7_invite_75 : decode cX7_invite 75 = .ok (.iconst 0, 1) := by decide +kernel
theorem dX7_invite_76 : decode cX7_invite 76 = .ok (.invokevirtual 144, 3) := by decide +kernel
theorem dX7_invite_79 : decode cX7_invite 79 = .ok (.ireturn, 1) := by decide +kernel
theorem dX7_show_0 : decode cX7_show 0 = .ok (.aload_n 0, 1) := by decide +kernel
theorem dX7_show_1 : decode cX7_show 1 = .ok (.iload_n 1, 1) := by decide +kernel
theorem dX7_show_2 : decode cX7_show 2 = .ok (.invokevirtual 161, 3) := by decide +kernel
theorem dX7_show_5 : decode cX7_show 5 = .ok (.ifCond .ne 6, 3) := by decide +kernel
theorem dX7_show_8 : decode cX7_show 8 = .ok (.ldc 67, 2) := by decide +kernel
theorem dX7_show_10 : decode cX7_show 10 = .ok (.ireturn, 1) := by decide +kernel
theorem dX7_show_11 : decode cX7_show 11 = .ok (.aload_n 0, 1) := by decide +kernel
theorem dX7_show_12 : decode cX7_show 12 = .ok (.getfield 25, 3) := by decide +kernel
theorem dX7_show_15 : decode cX7_show 15 = .ok (.iconst 3, 1) := by decide +kernel
theorem dX7_show_16 : decode cX7_show 16 = .ok (.iaload, 1) := by decide +kernel
theorem dX7_show_17 : decode cX7_show 17 = .ok (.ifCond .lt 16, 3) := by decide +kernel
theorem dX7_show_20 : decode cX7_show 20 = .ok (.aload_n 0, 1) := by decide +kernel
theorem dX7_show_21 : decode cX7_show 21 = .ok (.getfield 25, 3) := by decide +kernel
theorem dX7_show_24 : decode cX7_show 24 = .ok (.iconst 4, 1) := by decide +kernel
theorem dX7_show_25 : decode cX7_show 25 = .ok (.iaload, 1) := by decide +kernel
theorem dX7_show_26 : decode cX7_show 26 = .ok (.iload_n 1, 1) := by decide +kernel
theorem dX7_show_27 : decode cX7_show 27 = .ok (.invokestatic 164, 3) := by decide +kernel
theorem dX7_show_30 : decode cX7_show 30 = .ok (.ifCond .eq 6, 3) := by decide +kernel
theorem dX7_show_33 : decode cX7_show 33 = .ok (.ldc 157, 2) := by decide +kernel
theorem dX7_show_35 : decode cX7_show 35 = .ok (.ireturn, 1) := by decide +kernel
theorem dX7_show_36 : decode cX7_show 36 = .ok (.aload_n 0, 1) := by decide +kernel
theorem dX7_show_37 : decode cX7_show 37 = .ok (.getfield 25, 3) := by decide +kernel
theorem dX7_show_40 : decode cX7_show 40 = .ok (.iconst 4, 1) := by decide +kernel
theorem dX7_show_41 : decode cX7_show 41 = .ok (.iaload, 1) := by decide +kernel
theorem dX7_show_42 : decode cX7_show 42 = .ok (.invokestatic 168, 3) := by decide +kernel
theorem dX7_show_45 : decode cX7_show 45 = .ok (.aload_n 0, 1) := by decide +kernel
theorem dX7_show_46 : decode cX7_show 46 = .ok (.getfield 25, 3) := by decide +kernel
theorem dX7_show_49 : decode cX7_show 49 = .ok (.iconst 0, 1) := by decide +kernel
theorem dX7_show_50 : decode cX7_show 50 = .ok (.iaload, 1) := by decide +kernel
theorem dX7_show_51 : decode cX7_show 51 = .ok (.if_icmp .ne 6, 3) := by decide +kernel
theorem dX7_show_54 : decode cX7_show 54 = .ok (.ldc 88, 2) := by decide +kernel
theorem dX7_show_56 : decode cX7_show 56 = .ok (.ireturn, 1) := by decide +kernel
theorem dX7_show_57 : decode cX7_show 57 = .ok (.aload_n 0, 1) := by decide +kernel
theorem dX7_show_58 : decode cX7_show 58 = .ok (.invokevirtual 158, 3) := by decide +kernel
theorem dX7_show_61 : decode cX7_show 61 = .ok (.bipush 41, 2) := by decide +kernel
theorem dX7_show_63 : decode cX7_show 63 = .ok (.iconst 5, 1) := by decide +kernel
theorem dX7_show_64 : decode cX7_show 64 = .ok (.aload_n 0, 1) := by decide +kernel
theorem dX7_show_65 : decode cX7_show 65 = .ok (.getfield 25, 3) := by decide +kernel
theorem dX7_show_68 : decode cX7_show 68 = .ok (.iconst 3, 1) := by decide +kernel
theorem dX7_show_69 : decode cX7_show 69 = .ok (.iaload, 1) := by decide +kernel
theorem dX7_show_70 : decode cX7_show 70 = .ok (.imul, 1) := by decide +kernel
theorem dX7_show_71 : decode cX7_show 71 = .ok (.iadd, 1) := by decide +kernel
theorem dX7_show_72 : decode cX7_show 72 = .ok (.istore_n 2, 1) := by decide +kernel
theorem dX7_show_73 : decode cX7_show 73 = .ok (.aload_n 0, 1) := by decide +kernel
theorem dX7_show_74 : decode cX7_show 74 = .ok (.getfield 25, 3) := by decide +kernel
theorem dX7_show_77 : decode cX7_show 77 = .ok (.iload_n 2, 1) := by decide +kernel
theorem dX7_show_78 : decode cX7_show 78 = .ok (.iconst 0, 1) := by decide +kernel
theorem dX7_show_79 : decode cX7_show 79 = .ok (.iadd, 1) := by decide +kernel
theorem dX7_show_80 : decode cX7_show 80 = .ok (.aload_n 0, 1) := by decide +kernel
theorem dX7_show_81 : decode cX7_show 81 = .ok (.iload_n 1, 1) := by decide +kernel
theorem dX7_show_82 : decode cX7_show 82 = .ok (.aload_n 0, 1) := by decide +kernel
theorem dX7_show_83 : decode cX7_show 83 = .ok (.getfield 25, 3) := by decide +kernel
theorem dX7_show_86 : decode cX7_show 86 = .ok (.iload_n 2, 1) := by decide +kernel
theorem dX7_show_87 : decode cX7_show 87 = .ok (.iconst 0, 1) := by decide +kernel
theorem dX7_show_88 : decode cX7_show 88 = .ok (.iadd, 1) := by decide +kernel
theorem dX7_show_89 : decode cX7_show 89 = .ok (.iaload, 1) := by decide +kernel
theorem dX7_show_90 : decode cX7_show 90 = .ok (.invokevirtual 171, 3) := by decide +kernel
theorem dX7_show_93 : decode cX7_show 93 = .ok (.iastore, 1) := by decide +kernel
theorem dX7_show_94 : decode cX7_show 94 = .ok (.aload_n 0, 1) := by decide +kernel
theorem dX7_show_95 : decode cX7_show 95 = .ok (.getfield 25, 3) := by decide +kernel
theorem dX7_show_98 : decode cX7_show 98 = .ok (.bipush 9, 2) := by decide +kernel
theorem dX7_show_100 : decode cX7_show 100 = .ok (.iconst 4, 1) := by decide +kernel
theorem dX7_show_101 : decode cX7_show 101 = .ok (.iload_n 1, 1) := by decide +kernel
theorem dX7_show_102 : decode cX7_show 102 = .ok (.imul, 1) := by decide +kernel
theorem dX7_show_103 : decode cX7_show 103 = .ok (.iadd, 1) := by decide +kernel
theorem dX7_show_104 : decode cX7_show 104 = .ok (.iconst 3, 1) := by decide +kernel
theorem dX7_show_105 : decode cX7_show 105 = .ok (.iadd, 1) := by decide +kernel
theorem dX7_show_106 : decode cX7_show 106 = .ok (.dup2, 1) := by decide +kernel
theorem dX7_show_107 : decode cX7_show 107 = .ok (.iaload, 1) := by decide +kernel
theorem dX7_show_108 : decode cX7_show 108 = .ok (.iconst 1, 1) := by decide +kernel
theorem dX7_show_109 : decode cX7_show 109 = .ok (.iadd, 1) := by decide +kernel
theorem dX7_show_110 : decode cX7_show 110 = .ok (.iastore, 1) := by decide +kernel
theorem dX7_show_111 : decode cX7_show 111 = .ok (.aload_n 0, 1) := by decide +kernel
theorem dX7_show_112 : decode cX7_show 112 = .ok (.getfield 25, 3) := by decide +kernel
theorem dX7_show_115 : decode cX7_show 115 = .ok (.iconst 4, 1) := by decide +kernel
theorem dX7_show_116 : decode cX7_show 116 = .ok (.dup2, 1) := by decide +kernel
theorem dX7_show_117 : decode cX7_show 117 = .ok (.iaload, 1) := by decide +kernel
theorem dX7_show_118 : decode cX7_show 118 = .ok (.iconst 1, 1) := by decide +kernel
theorem dX7_show_119 : decode cX7_show 119 = .ok (.iload_n 1, 1) := by decide +kernel
theorem dX7_show_120 : decode cX7_show 120 = .ok (.ishl, 1) := by decide +kernel
theorem dX7_show_121 : decode cX7_show 121 = .ok (.ior, 1) := by decide +kernel
theorem dX7_show_122 : decode cX7_show 122 = .ok (.iastore, 1) := by decide +kernel
theorem dX7_show_123 : decode cX7_show 123 = .ok (.aload_n 0, 1) := by decide +kernel
theorem dX7_show_124 : decode cX7_show 124 = .ok (.getfield 25, 3) := by decide +kernel
theorem dX7_show_127 : decode cX7_show 127 = .ok (.iload_n 2, 1) := by decide +kernel
theorem dX7_show_128 : decode cX7_show 128 = .ok (.iconst 0, 1) := by decide +kernel
theorem dX7_show_129 : decode cX7_show 129 = .ok (.iadd, 1) := by decide +kernel
theorem dX7_show_130 : decode cX7_show 130 = .ok (.iaload, 1) := by decide +kernel
theorem dX7_show_131 : decode cX7_show 131 = .ok (.ireturn, 1) := by decide +kernel
theorem dX7_speak_0 : decode cX7_speak 0 = .ok (.aload_n 0, 1) := by decide +kernel
theorem dX7_speak_1 : decode cX7_speak 1 = .ok (.getfield 25, 3) := by decide +kernel
theorem dX7_speak_4 : decode cX7_speak 4 = .ok (.iconst 3, 1) := by decide +kernel
theorem dX7_speak_5 : decode cX7_speak 5 = .ok (.iaload, 1) := by decide +kernel
theorem dX7_speak_6 : decode cX7_speak 6 = .ok (.ifCond .ge 6, 3) := by decide +kernel
theorem dX7_speak_9 : decode cX7_speak 9 = .ok (.ldc 157, 2) := by decide +kernel
theorem dX7_speak_11 : decode cX7_speak 11 = .ok (.ireturn, 1) := by decide +kernel
theorem dX7_speak_12 : decode cX7_speak 12 = .ok (.aload_n 0, 1) := by decide +kernel
theorem dX7_speak_13 : decode cX7_speak 13 = .ok (.invokevirtual 158, 3) := by decide +kernel
theorem dX7_speak_16 : decode cX7_speak 16 = .ok (.aload_n 0, 1) := by decide +kernel
theorem dX7_speak_17 : decode cX7_speak 17 = .ok (.getfield 25, 3) := by decide +kernel
theorem dX7_speak_20 : decode cX7_speak 20 = .ok (.iconst 3, 1) := by decide +kernel
theorem dX7_speak_21 : decode cX7_speak 21 = .ok (.iaload, 1) := by decide +kernel
theorem dX7_speak_22 : decode cX7_speak 22 = .ok (.istore_n 1, 1) := by decide +kernel
theorem dX7_speak_23 : decode cX7_speak 23 = .ok (.aload_n 0, 1) := by decide +kernel
theorem dX7_speak_24 : decode cX7_speak 24 = .ok (.iload_n 1, 1) := by decide +kernel
theorem dX7_speak_25 : decode cX7_speak 25 = .ok (.iconst 0, 1) := by decide +kernel
theorem dX7_speak_26 : decode cX7_speak 26 = .ok (.invokevirtual 144, 3) := by decide +kernel
theorem dX7_speak_29 : decode cX7_speak 29 = .ok (.istore_n 2, 1) := by decide +kernel
theorem dX7_speak_30 : decode cX7_speak 30 = .ok (.aload_n 0, 1) := by decide +kernel
theorem dX7_speak_31 : decode cX7_speak 31 = .ok (.iload_n 1, 1) := by decide +kernel
theorem dX7_speak_32 : decode cX7_speak 32 = .ok (.invokevirtual 174, 3) := by decide +kernel
theorem dX7_speak_35 : decode cX7_speak 35 = .ok (.ifCond .eq 27, 3) := by decide +kernel
theorem dX7_speak_38 : decode cX7_speak 38 = .ok (.iload_n 2, 1) := by decide +kernel
theorem dX7_speak_39 : decode cX7_speak 39 = .ok (.aload_n 0, 1) := by decide +kernel
theorem dX7_speak_40 : decode cX7_speak 40 = .ok (.getfield 25, 3) := by decide +kernel
theorem dX7_speak_43 : decode cX7_speak 43 = .ok (.iconst 1, 1) := by decide +kernel
theorem dX7_speak_44 : decode cX7_speak 44 = .ok (.iaload, 1) := by decide +kernel
theorem dX7_speak_45 : decode cX7_speak 45 = .ok (.if_icmp .eq 13, 3) := by decide +kernel
theorem dX7_speak_48 : decode cX7_speak 48 = .ok (.iload_n 2, 1) := by decide +kernel
theorem dX7_speak_49 : decode cX7_speak 49 = .ok (.aload_n 0, 1) := by decide +kernel
theorem dX7_speak_50 : decode cX7_speak 50 = .ok (.getfield 25, 3) := by decide +kernel
theorem dX7_speak_53 : decode cX7_speak 53 = .ok (.iconst 2, 1) := by decide +kernel
theorem dX7_speak_54 : decode cX7_speak 54 = .ok (.iaload, 1) := by decide +kernel
theorem dX7_speak_55 : decode cX7_speak 55 = .ok (.if_icmp .ne 7, 3) := by decide +kernel
theorem dX7_speak_58 : decode cX7_speak 58 = .ok (.iload_n 2, 1) := by decide +kernel
theorem dX7_speak_59 : decode cX7_speak 59 = .ok (.goto 5, 3) := by decide +kernel
theorem dX7_speak_62 : decode cX7_speak 62 = .ok (.ldc 53, 2) := by decide +kernel
theorem dX7_speak_64 : decode cX7_speak 64 = .ok (.istore_n 3, 1) := by decide +kernel
theorem dX7_speak_65 : decode cX7_speak 65 = .ok (.aload_n 0, 1) := by decide +kernel
theorem dX7_speak_66 : decode cX7_speak 66 = .ok (.getfield 25, 3) := by decide +kernel
theorem dX7_speak_69 : decode cX7_speak 69 = .ok (.iconst 5, 1) := by decide +kernel
theorem dX7_speak_70 : decode cX7_speak 70 = .ok (.iload_n 3, 1) := by decide +kernel
theorem dX7_speak_71 : decode cX7_speak 71 = .ok (.aload_n 0, 1) := by decide +kernel
theorem dX7_speak_72 : decode cX7_speak 72 = .ok (.getfield 25, 3) := by decide +kernel
theorem dX7_speak_75 : decode cX7_speak 75 = .ok (.iconst 1, 1) := by decide +kernel
theorem dX7_speak_76 : decode cX7_speak 76 = .ok (.iaload, 1) := by decide +kernel
theorem dX7_speak_77 : decode cX7_speak 77 = .ok (.if_icmp .ne 7, 3) := by decide +kernel
theorem dX7_speak_80 : decode cX7_speak 80 = .ok (.iconst 1, 1) := by decide +kernel
theorem dX7_speak_81 : decode cX7_speak 81 = .ok (.goto 9, 3) := by decide +kernel
theorem dX7_speak_84 : decode cX7_speak 84 = .ok (.aload_n 0, 1) := by decide +kernel
theorem dX7_speak_85 : decode cX7_speak 85 = .ok (.getfield 25, 3) := by decide +kernel
theorem dX7_speak_88 : decode cX7_speak 88 = .ok (.iconst 5, 1) := by decide +kernel
theorem dX7_speak_89 : decode cX7_speak 89 = .ok (.iaload, 1) := by decide +kernel
theorem dX7_speak_90 : decode cX7_speak 90 = .ok (.iastore, 1) := by decide +kernel
theorem dX7_speak_91 : decode cX7_speak 91 = .ok (.aload_n 0, 1) := by decide +kernel
theorem dX7_speak_92 : decode cX7_speak 92 = .ok (.getfield 25, 3) := by decide +kernel
theorem dX7_speak_95 : decode cX7_speak 95 = .ok (.bipush 6, 2) := by decide +kernel
theorem dX7_speak_97 : decode cX7_speak 97 = .ok (.dup2, 1) := by decide +kernel
theorem dX7_speak_98 : decode cX7_speak 98 = .ok (.iaload, 1) := by decide +kernel
theorem dX7_speak_99 : decode cX7_speak 99 = .ok (.iload_n 3, 1) := by decide +kernel
theorem dX7_speak_100 : decode cX7_speak 100 = .ok (.aload_n 0, 1) := by decide +kernel
theorem dX7_speak_101 : decode cX7_speak 101 = .ok (.getfield 25, 3) := by decide +kernel
theorem dX7_speak_104 : decode cX7_speak 104 = .ok (.iconst 2, 1) := by decide +kernel
theorem dX7_speak_105 : decode cX7_speak 105 = .ok (.iaload, 1) := by decide +kernel
theorem dX7_speak_106 : decode cX7_speak 106 = .ok (.if_icmp .ne 7, 3) := by decide +kernel
theorem dX7_speak_109 : decode cX7_speak 109 = .ok (.iconst 1, 1) := by decide +kernel
theorem dX7_speak_110 : decode cX7_speak 110 = .ok (.goto 4, 3) := by decide +kernel
theorem dX7_speak_113 : decode cX7_speak 113 = .ok (.iconst 0, 1) := by decide +kernel
theorem dX7_speak_114 : decode cX7_speak 114 = .ok (.iadd, 1) := by decide +kernel
theorem dX7_speak_115 : decode cX7_speak 115 = .ok (.iastore, 1) := by decide +kernel
theorem dX7_speak_116 : decode cX7_speak 116 = .ok (.aload_n 0, 1) := by decide +kernel
theorem dX7_speak_117 : decode cX7_speak 117 = .ok (.getfield 25, 3) := by decide +kernel
theorem dX7_speak_120 : decode cX7_speak 120 = .ok (.bipush 41, 2) := by decide +kernel
theorem dX7_speak_122 : decode cX7_speak 122 = .ok (.iconst 5, 1) := by decide +kernel
theorem dX7_speak_123 : decode cX7_speak 123 = .ok (.iload_n 1, 1) := by decide +kernel
theorem dX7_speak_124 : decode cX7_speak 124 = .ok (.imul, 1) := by decide +kernel
theorem dX7_speak_125 : decode cX7_speak 125 = .ok (.iadd, 1) := by decide +kernel
theorem dX7_speak_126 : decode cX7_speak 126 = .ok (.iconst 3, 1) := by decide +kernel
theorem dX7_speak_127 : decode cX7_speak 127 = .ok (.iadd, 1) := by decide +kernel
theorem dX7_speak_128 : decode cX7_speak 128 = .ok (.iconst 2, 1) := by decide +kernel
theorem dX7_speak_129 : decode cX7_speak 129 = .ok (.iastore, 1) := by decide +kernel
theorem dX7_speak_130 : decode cX7_speak 130 = .ok (.aload_n 0, 1) := by decide +kernel
theorem dX7_speak_131 : decode cX7_speak 131 = .ok (.getfield 25, 3) := by decide +kernel
theorem dX7_speak_134 : decode cX7_speak 134 = .ok (.bipush 41, 2) := by decide +kernel
theorem dX7_speak_136 : decode cX7_speak 136 = .ok (.iconst 5, 1) := by decide +kernel
theorem dX7_speak_137 : decode cX7_speak 137 = .ok (.iload_n 1, 1) := by decide +kernel
theorem dX7_speak_138 : decode cX7_speak 138 = .ok (.imul, 1) := by decide +kernel
theorem dX7_speak_139 : decode cX7_speak 139 = .ok (.iadd, 1) := by decide +kernel
theorem dX7_speak_140 : decode cX7_speak 140 = .ok (.iconst 4, 1) := by decide +kernel
theorem dX7_speak_141 : decode cX7_speak 141 = .ok (.iadd, 1) := by decide +kernel
theorem dX7_speak_142 : decode cX7_speak 142 = .ok (.iload_n 3, 1) := by decide +kernel
theorem dX7_speak_143 : decode cX7_speak 143 = .ok (.iastore, 1) := by decide +kernel
theorem dX7_speak_144 : decode cX7_speak 144 = .ok (.aload_n 0, 1) := by decide +kernel
theorem dX7_speak_145 : decode cX7_speak 145 = .ok (.getfield 25, 3) := by decide +kernel
theorem dX7_speak_148 : decode cX7_speak 148 = .ok (.iconst 3, 1) := by decide +kernel
theorem dX7_speak_149 : decode cX7_speak 149 = .ok (.iconst (-1), 1) := by decide +kernel
theorem dX7_speak_150 : decode cX7_speak 150 = .ok (.iastore, 1) := by decide +kernel
theorem dX7_speak_151 : decode cX7_speak 151 = .ok (.aload_n 0, 1) := by decide +kernel
theorem dX7_speak_152 : decode cX7_speak 152 = .ok (.getfield 25, 3) := by decide +kernel
theorem dX7_speak_155 : decode cX7_speak 155 = .ok (.iconst 4, 1) := by decide +kernel
theorem dX7_speak_156 : decode cX7_speak 156 = .ok (.iconst 0, 1) := by decide +kernel
theorem dX7_speak_157 : decode cX7_speak 157 = .ok (.iastore, 1) := by decide +kernel
theorem dX7_speak_158 : decode cX7_speak 158 = .ok (.iload_n 3, 1) := by decide +kernel
theorem dX7_speak_159 : decode cX7_speak 159 = .ok (.ireturn, 1) := by decide +kernel
theorem dX7_tale_0 : decode cX7_tale 0 = .ok (.aload_n 0, 1) := by decide +kernel
theorem dX7_tale_1 : decode cX7_tale 1 = .ok (.iload_n 1, 1) := by decide +kernel
theorem dX7_tale_2 : decode cX7_tale 2 = .ok (.invokevirtual 151, 3) := by decide +kernel
theorem dX7_tale_5 : decode cX7_tale 5 = .ok (.ifCond .eq 18, 3) := by decide +kernel
theorem dX7_tale_8 : decode cX7_tale 8 = .ok (.iload_n 2, 1) := by decide +kernel
theorem dX7_tale_9 : decode cX7_tale 9 = .ok (.bipush (-20), 2) := by decide +kernel
theorem dX7_tale_11 : decode cX7_tale 11 = .ok (.bipush 20, 2) := by decide +kernel
theorem dX7_tale_13 : decode cX7_tale 13 = .ok (.invokestatic 59, 3) := by decide +kernel
theorem dX7_tale_16 : decode cX7_tale 16 = .ok (.ifCond .eq 7, 3) := by decide +kernel
theorem dX7_tale_19 : decode cX7_tale 19 = .ok (.iload_n 2, 1) := by decide +kernel
theorem dX7_tale_20 : decode cX7_tale 20 = .ok (.ifCond .ne 6, 3) := by decide +kernel
theorem dX7_tale_23 : decode cX7_tale 23 = .ok (.ldc 67, 2) := by decide +kernel
theorem dX7_tale_25 : decode cX7_tale 25 = .ok (.ireturn, 1) := by decide +kernel
theorem dX7_tale_26 : decode cX7_tale 26 = .ok (.aload_n 0, 1) := by decide +kernel
theorem dX7_tale_27 : decode cX7_tale 27 = .ok (.iload_n 1, 1) := by decide +kernel
theorem dX7_tale_28 : decode cX7_tale 28 = .ok (.invokevirtual 154, 3) := by decide +kernel
theorem dX7_tale_31 : decode cX7_tale 31 = .ok (.ifCond .ne 6, 3) := by decide +kernel
theorem dX7_tale_34 : decode cX7_tale 34 = .ok (.ldc 157, 2) := by decide +kernel
theorem dX7_tale_36 : decode cX7_tale 36 = .ok (.ireturn, 1) := by decide +kernel
theorem dX7_tale_37 : decode cX7_tale 37 = .ok (.aload_n 0, 1) := by decide +kernel
theorem dX7_tale_38 : decode cX7_tale 38 = .ok (.invokevirtual 158, 3) := by decide +kernel
theorem dX7_tale_41 : decode cX7_tale 41 = .ok (.aload_n 0, 1) := by decide +kernel
theorem dX7_tale_42 : decode cX7_tale 42 = .ok (.iload_n 1, 1) := by decide +kernel
theorem dX7_tale_43 : decode cX7_tale 43 = .ok (.iconst 2, 1) := by decide +kernel
theorem dX7_tale_44 : decode cX7_tale 44 = .ok (.invokevirtual 144, 3) := by decide +kernel
theorem dX7_tale_47 : decode cX7_tale 47 = .ok (.iload_n 2, 1) := by decide +kernel
theorem dX7_tale_48 : decode cX7_tale 48 = .ok (.iadd, 1) := by decide +kernel
theorem dX7_tale_49 : decode cX7_tale 49 = .ok (.istore_n 3, 1) := by decide +kernel
theorem dX7_tale_50 : decode cX7_tale 50 = .ok (.aload_n 0, 1) := by decide +kernel
theorem dX7_tale_51 : decode cX7_tale 51 = .ok (.getfield 25, 3) := by decide +kernel
theorem dX7_tale_54 : decode cX7_tale 54 = .ok (.bipush 41, 2) := by decide +kernel
theorem dX7_tale_56 : decode cX7_tale 56 = .ok (.iconst 5, 1) := by decide +kernel
theorem dX7_tale_57 : decode cX7_tale 57 = .ok (.iload_n 1, 1) := by decide +kernel
theorem dX7_tale_58 : decode cX7_tale 58 = .ok (.imul, 1) := by decide +kernel
theorem dX7_tale_59 : decode cX7_tale 59 = .ok (.iadd, 1) := by decide +kernel
theorem dX7_tale_60 : decode cX7_tale 60 = .ok (.iconst 2, 1) := by decide +kernel
theorem dX7_tale_61 : decode cX7_tale 61 = .ok (.iadd, 1) := by decide +kernel
theorem dX7_tale_62 : decode cX7_tale 62 = .ok (.iload_n 3, 1) := by decide +kernel
theorem dX7_tale_63 : decode cX7_tale 63 = .ok (.ifCond .ge 7, 3) := by decide +kernel
theorem dX7_tale_66 : decode cX7_tale 66 = .ok (.iconst 0, 1) := by decide +kernel
theorem dX7_tale_67 : decode cX7_tale 67 = .ok (.goto 15, 3) := by decide +kernel
theorem dX7_tale_70 : decode cX7_tale 70 = .ok (.iload_n 3, 1) := by decide +kernel
theorem dX7_tale_71 : decode cX7_tale 71 = .ok (.bipush 20, 2) := by decide +kernel
theorem dX7_tale_73 : decode cX7_tale 73 = .ok (.if_icmp .le 8, 3) := by decide +kernel
theorem dX7_tale_76 : decode cX7_tale 76 = .ok (.bipush 20, 2) := by decide +kernel
theorem dX7_tale_78 : decode cX7_tale 78 = .ok (.goto 4, 3) := by decide +kernel
theorem dX7_tale_81 : decode cX7_tale 81 = .ok (.iload_n 3, 1) := by decide +kernel
theorem dX7_tale_82 : decode cX7_tale 82 = .ok (.iastore, 1) := by decide +kernel
theorem dX7_tale_83 : decode cX7_tale 83 = .ok (.aload_n 0, 1) := by decide +kernel
theorem dX7_tale_84 : decode cX7_tale 84 = .ok (.iload_n 1, 1) := by decide +kernel
theorem dX7_tale_85 : decode cX7_tale 85 = .ok (.iconst 2, 1) := by decide +kernel
theorem dX7_tale_86 : decode cX7_tale 86 = .ok (.invokevirtual 144, 3) := by decide +kernel
theorem dX7_tale_89 : decode cX7_tale 89 = .ok (.ireturn, 1) := by decide +kernel
theorem dX7_undo_0 : decode cX7_undo 0 = .ok (.aload_n 0, 1) := by decide +kernel
theorem dX7_undo_1 : decode cX7_undo 1 = .ok (.getfield 141, 3) := by decide +kernel
theorem dX7_undo_4 : decode cX7_undo 4 = .ok (.ifCond .ne 6, 3) := by decide +kernel
theorem dX7_undo_7 : decode cX7_undo 7 = .ok (.ldc 157, 2) := by decide +kernel
theorem dX7_undo_9 : decode cX7_undo 9 = .ok (.ireturn, 1) := by decide +kernel
theorem dX7_undo_10 : decode cX7_undo 10 = .ok (.aload_n 0, 1) := by decide +kernel
theorem dX7_undo_11 : decode cX7_undo 11 = .ok (.dup, 1) := by decide +kernel
theorem dX7_undo_12 : decode cX7_undo 12 = .ok (.getfield 141, 3) := by decide +kernel
theorem dX7_undo_15 : decode cX7_undo 15 = .ok (.iconst 1, 1) := by decide +kernel
theorem dX7_undo_16 : decode cX7_undo 16 = .ok (.isub, 1) := by decide +kernel
theorem dX7_undo_17 : decode cX7_undo 17 = .ok (.putfield 141, 3) := by decide +kernel
theorem dX7_undo_20 : decode cX7_undo 20 = .ok (.aload_n 0, 1) := by decide +kernel
theorem dX7_undo_21 : decode cX7_undo 21 = .ok (.getfield 31, 3) := by decide +kernel
theorem dX7_undo_24 : decode cX7_undo 24 = .ok (.bipush 71, 2) := by decide +kernel
theorem dX7_undo_26 : decode cX7_undo 26 = .ok (.aload_n 0, 1) := by decide +kernel
theorem dX7_undo_27 : decode cX7_undo 27 = .ok (.getfield 141, 3) := by decide +kernel
theorem dX7_undo_30 : decode cX7_undo 30 = .ok (.imul, 1) := by decide +kernel
theorem dX7_undo_31 : decode cX7_undo 31 = .ok (.aload_n 0, 1) := by decide +kernel
theorem dX7_undo_32 : decode cX7_undo 32 = .ok (.getfield 25, 3) := by decide +kernel
theorem dX7_undo_35 : decode cX7_undo 35 = .ok (.iconst 0, 1) := by decide +kernel
theorem dX7_undo_36 : decode cX7_undo 36 = .ok (.invokestatic 137, 3) := by decide +kernel
theorem dX7_undo_39 : decode cX7_undo 39 = .ok (.aload_n 0, 1) := by decide +kernel
theorem dX7_undo_40 : decode cX7_undo 40 = .ok (.getfield 141, 3) := by decide +kernel
theorem dX7_undo_43 : decode cX7_undo 43 = .ok (.ireturn, 1) := by decide +kernel
theorem dX7_guest_0 : decode cX7_guest 0 = .ok (.aload_n 0, 1) := by decide +kernel
theorem dX7_guest_1 : decode cX7_guest 1 = .ok (.iload_n 1, 1) := by decide +kernel
theorem dX7_guest_2 : decode cX7_guest 2 = .ok (.invokevirtual 151, 3) := by decide +kernel
theorem dX7_guest_5 : decode cX7_guest 5 = .ok (.ifCond .eq 21, 3) := by decide +kernel
theorem dX7_guest_8 : decode cX7_guest 8 = .ok (.iload_n 2, 1) := by decide +kernel
theorem dX7_guest_9 : decode cX7_guest 9 = .ok (.iconst 0, 1) := by decide +kernel
theorem dX7_guest_10 : decode cX7_guest 10 = .ok (.iconst 4, 1) := by decide +kernel
theorem dX7_guest_11 : decode cX7_guest 11 = .ok (.invokestatic 59, 3) := by decide +kernel
theorem dX7_guest_14 : decode cX7_guest 14 = .ok (.ifCond .eq 12, 3) := by decide +kernel
theorem dX7_guest_17 : decode cX7_guest 17 = .ok (.aload_n 0, 1) := by decide +kernel
theorem dX7_guest_18 : decode cX7_guest 18 = .ok (.iload_n 1, 1) := by decide +kernel
theorem dX7_guest_19 : decode cX7_guest 19 = .ok (.iload_n 2, 1) := by decide +kernel
theorem dX7_guest_20 : decode cX7_guest 20 = .ok (.invokevirtual 144, 3) := by decide +kernel
theorem dX7_guest_23 : decode cX7_guest 23 = .ok (.goto 5, 3) := by decide +kernel
theorem dX7_guest_26 : decode cX7_guest 26 = .ok (.ldc 67, 2) := by decide +kernel
theorem dX7_guest_28 : decode cX7_guest 28 = .ok (.ireturn, 1) := by decide +kernel
theorem dX7_hint_0 : decode cX7_hint 0 = .ok (.aload_n 0, 1) := by decide +kernel
theorem dX7_hint_1 : decode cX7_hint 1 = .ok (.iload_n 1, 1) := by decide +kernel
theorem dX7_hint_2 : decode cX7_hint 2 = .ok (.invokevirtual 161, 3) := by decide +kernel
theorem dX7_hint_5 : decode cX7_hint 5 = .ok (.ifCond .eq 12, 3) := by decide +kernel
theorem dX7_hint_8 : decode cX7_hint 8 = .ok (.iload_n 2, 1) := by decide +kernel
theorem dX7_hint_9 : decode cX7_hint 9 = .ok (.iconst 0, 1) := by decide +kernel
theorem dX7_hint_10 : decode cX7_hint 10 = .ok (.iconst 3, 1) := by decide +kernel
theorem dX7_hint_11 : decode cX7_hint 11 = .ok (.invokestatic 59, 3) := by decide +kernel
theorem dX7_hint_14 : decode cX7_hint 14 = .ok (.ifCond .ne 6, 3) := by decide +kernel
theorem dX7_hint_17 : decode cX7_hint 17 = .ok (.ldc 67, 2) := by decide +kernel
theorem dX7_hint_19 : decode cX7_hint 19 = .ok (.ireturn, 1) := by decide +kernel
theorem dX7_hint_20 : decode cX7_hint 20 = .ok (.iload_n 2, 1) := by decide +kernel
theorem dX7_hint_21 : decode cX7_hint 21 = .ok (.iconst 3, 1) := by decide +kernel
theorem dX7_hint_22 : decode cX7_hint 22 = .ok (.if_icmp .ge 21, 3) := by decide +kernel
theorem dX7_hint_25 : decode cX7_hint 25 = .ok (.aload_n 0, 1) := by decide +kernel
theorem dX7_hint_26 : decode cX7_hint 26 = .ok (.getfield 25, 3) := by decide +kernel
theorem dX7_hint_29 : decode cX7_hint 29 = .ok (.bipush 9, 2) := by decide +kernel
theorem dX7_hint_31 : decode cX7_hint 31 = .ok (.iconst 4, 1) := by decide +kernel
theorem dX7_hint_32 : decode cX7_hint 32 = .ok (.iload_n 1, 1) := by decide +kernel
theorem dX7_hint_33 : decode cX7_hint 33 = .ok (.imul, 1) := by decide +kernel
theorem dX7_hint_34 : decode cX7_hint 34 = .ok (.iadd, 1) := by decide +kernel
theorem dX7_hint_35 : decode cX7_hint 35 = .ok (.iconst 1, 1) := by decide +kernel
theorem dX7_hint_36 : decode cX7_hint 36 = .ok (.iadd, 1) := by decide +kernel
theorem dX7_hint_37 : decode cX7_hint 37 = .ok (.iload_n 2, 1) := by decide +kernel
theorem dX7_hint_38 : decode cX7_hint 38 = .ok (.iadd, 1) := by decide +kernel
theorem dX7_hint_39 : decode cX7_hint 39 = .ok (.iaload, 1) := by decide +kernel
theorem dX7_hint_40 : decode cX7_hint 40 = .ok (.goto 13, 3) := by decide +kernel
theorem dX7_hint_43 : decode cX7_hint 43 = .ok (.aload_n 0, 1) := by decide +kernel
theorem dX7_hint_44 : decode cX7_hint 44 = .ok (.getfield 25, 3) := by decide +kernel
theorem dX7_hint_47 : decode cX7_hint 47 = .ok (.iconst 4, 1) := by decide +kernel
theorem dX7_hint_48 : decode cX7_hint 48 = .ok (.iaload, 1) := by decide +kernel
theorem dX7_hint_49 : decode cX7_hint 49 = .ok (.iload_n 1, 1) := by decide +kernel
theorem dX7_hint_50 : decode cX7_hint 50 = .ok (.ishr, 1) := by decide +kernel
theorem dX7_hint_51 : decode cX7_hint 51 = .ok (.iconst 1, 1) := by decide +kernel
theorem dX7_hint_52 : decode cX7_hint 52 = .ok (.iand, 1) := by decide +kernel
theorem dX7_hint_53 : decode cX7_hint 53 = .ok (.ireturn, 1) := by decide +kernel
theorem dX7_leads_0 : decode cX7_leads 0 = .ok (.aload_n 0, 1) := by decide +kernel
theorem dX7_leads_1 : decode cX7_leads 1 = .ok (.iload_n 1, 1) := by decide +kernel
theorem dX7_leads_2 : decode cX7_leads 2 = .ok (.invokevirtual 161, 3) := by decide +kernel
theorem dX7_leads_5 : decode cX7_leads 5 = .ok (.ifCond .eq 22, 3) := by decide +kernel
theorem dX7_leads_8 : decode cX7_leads 8 = .ok (.iload_n 2, 1) := by decide +kernel
theorem dX7_leads_9 : decode cX7_leads 9 = .ok (.iconst 0, 1) := by decide +kernel
theorem dX7_leads_10 : decode cX7_leads 10 = .ok (.bipush 7, 2) := by decide +kernel
theorem dX7_leads_12 : decode cX7_leads 12 = .ok (.invokestatic 59, 3) := by decide +kernel
theorem dX7_leads_15 : decode cX7_leads 15 = .ok (.ifCond .eq 12, 3) := by decide +kernel
theorem dX7_leads_18 : decode cX7_leads 18 = .ok (.aload_n 0, 1) := by decide +kernel
theorem dX7_leads_19 : decode cX7_leads 19 = .ok (.iload_n 1, 1) := by decide +kernel
theorem dX7_leads_20 : decode cX7_leads 20 = .ok (.iload_n 2, 1) := by decide +kernel
theorem dX7_leads_21 : decode cX7_leads 21 = .ok (.invokevirtual 171, 3) := by decide +kernel
theorem dX7_leads_24 : decode cX7_leads 24 = .ok (.goto 5, 3) := by decide +kernel
theorem dX7_leads_27 : decode cX7_leads 27 = .ok (.ldc 67, 2) := by decide +kernel
theorem dX7_leads_29 : decode cX7_leads 29 = .ok (.ireturn, 1) := by decide +kernel
theorem dX7_allHints_0 : decode cX7_allHints 0 = .ok (.iconst 1, 1) := by decide +kernel
theorem dX7_allHints_1 : decode cX7_allHints 1 = .ok (.aload_n 0, 1) := by decide +kernel
theorem dX7_allHints_2 : decode cX7_allHints 2 = .ok (.getfield 25, 3) := by decide +kernel
theorem dX7_allHints_5 : decode cX7_allHints 5 = .ok (.bipush 7, 2) := by decide +kernel
theorem dX7_allHints_7 : decode cX7_allHints 7 = .ok (.iaload, 1) := by decide +kernel
theorem dX7_allHints_8 : decode cX7_allHints 8 = .ok (.ishl, 1) := by decide +kernel
theorem dX7_allHints_9 : decode cX7_allHints 9 = .ok (.iconst 1, 1) := by decide +kernel
theorem dX7_allHints_10 : decode cX7_allHints 10 = .ok (.isub, 1) := by decide +kernel
theorem dX7_allHints_11 : decode cX7_allHints 11 = .ok (.ireturn, 1) := by decide +kernel
theorem dX7_ahead_0 : decode cX7_ahead 0 = .ok (.aload_n 0, 1) := by decide +kernel
theorem dX7_ahead_1 : decode cX7_ahead 1 = .ok (.getfield 25, 3) := by decide +kernel
theorem dX7_ahead_4 : decode cX7_ahead 4 = .ok (.iconst 3, 1) := by decide +kernel
theorem dX7_ahead_5 : decode cX7_ahead 5 = .ok (.iaload, 1) := by decide +kernel
theorem dX7_ahead_6 : decode cX7_ahead 6 = .ok (.iload_n 1, 1) := by decide +kernel
theorem dX7_ahead_7 : decode cX7_ahead 7 = .ok (.if_icmp .ne 19, 3) := by decide +kernel
theorem dX7_ahead_10 : decode cX7_ahead 10 = .ok (.aload_n 0, 1) := by decide +kernel
theorem dX7_ahead_11 : decode cX7_ahead 11 = .ok (.invokevirtual 177, 3) := by decide +kernel
theorem dX7_ahead_14 : decode cX7_ahead 14 = .ok (.aload_n 0, 1) := by decide +kernel
theorem dX7_ahead_15 : decode cX7_ahead 15 = .ok (.getfield 25, 3) := by decide +kernel
theorem dX7_ahead_18 : decode cX7_ahead 18 = .ok (.iconst 4, 1) := by decide +kernel
theorem dX7_ahead_19 : decode cX7_ahead 19 = .ok (.iaload, 1) := by decide +kernel
theorem dX7_ahead_20 : decode cX7_ahead 20 = .ok (.iconst (-1), 1) := by decide +kernel
theorem dX7_ahead_21 : decode cX7_ahead 21 = .ok (.ixor, 1) := by decide +kernel
theorem dX7_ahead_22 : decode cX7_ahead 22 = .ok (.iand, 1) := by decide +kernel
theorem dX7_ahead_23 : decode cX7_ahead 23 = .ok (.goto 7, 3) := by decide +kernel
theorem dX7_ahead_26 : decode cX7_ahead 26 = .ok (.aload_n 0, 1) := by decide +kernel
theorem dX7_ahead_27 : decode cX7_ahead 27 = .ok (.invokevirtual 177, 3) := by decide +kernel
theorem dX7_ahead_30 : decode cX7_ahead 30 = .ok (.ireturn, 1) := by decide +kernel
theorem dX7_atMost_0 : decode cX7_atMost 0 = .ok (.aload_n 0, 1) := by decide +kernel
theorem dX7_atMost_1 : decode cX7_atMost 1 = .ok (.getfield 25, 3) := by decide +kernel
theorem dX7_atMost_4 : decode cX7_atMost 4 = .ok (.iconst 0, 1) := by decide +kernel
theorem dX7_atMost_5 : decode cX7_atMost 5 = .ok (.iaload, 1) := by decide +kernel
theorem dX7_atMost_6 : decode cX7_atMost 6 = .ok (.aload_n 0, 1) := by decide +kernel
theorem dX7_atMost_7 : decode cX7_atMost 7 = .ok (.getfield 25, 3) := by decide +kernel
theorem dX7_atMost_10 : decode cX7_atMost 10 = .ok (.iconst 3, 1) := by decide +kernel
theorem dX7_atMost_11 : decode cX7_atMost 11 = .ok (.iaload, 1) := by decide +kernel
theorem dX7_atMost_12 : decode cX7_atMost 12 = .ok (.iload_n 1, 1) := by decide +kernel
theorem dX7_atMost_13 : decode cX7_atMost 13 = .ok (.if_icmp .ne 15, 3) := by decide +kernel
theorem dX7_atMost_16 : decode cX7_atMost 16 = .ok (.aload_n 0, 1) := by decide +kernel
theorem dX7_atMost_17 : decode cX7_atMost 17 = .ok (.getfield 25, 3) := by decide +kernel
theorem dX7_atMost_20 : decode cX7_atMost 20 = .ok (.iconst 4, 1) := by decide +kernel
theorem dX7_atMost_21 : decode cX7_atMost 21 = .ok (.iaload, 1) := by decide +kernel
theorem dX7_atMost_22 : decode cX7_atMost 22 = .ok (.invokestatic 168, 3) := by decide +kernel
theorem dX7_atMost_25 : decode cX7_atMost 25 = .ok (.goto 4, 3) := by decide +kernel
theorem dX7_atMost_28 : decode cX7_atMost 28 = .ok (.iconst 0, 1) := by decide +kernel
theorem dX7_atMost_29 : decode cX7_atMost 29 = .ok (.isub, 1) := by decide +kernel
theorem dX7_atMost_30 : decode cX7_atMost 30 = .ok (.istore_n 2, 1) := by decide +kernel
theorem dX7_atMost_31 : decode cX7_atMost 31 = .ok (.aload_n 0, 1) := by decide +kernel
theorem dX7_atMost_32 : decode cX7_atMost 32 = .ok (.iload_n 1, 1) := by decide +kernel
theorem dX7_atMost_33 : decode cX7_atMost 33 = .ok (.invokevirtual 181, 3) := by decide +kernel
theorem dX7_atMost_36 : decode cX7_atMost 36 = .ok (.invokestatic 168, 3) := by decide +kernel
theorem dX7_atMost_39 : decode cX7_atMost 39 = .ok (.istore_n 3, 1) := by decide +kernel
theorem dX7_atMost_40 : decode cX7_atMost 40 = .ok (.iload_n 3, 1) := by decide +kernel
theorem dX7_atMost_41 : decode cX7_atMost 41 = .ok (.iload_n 2, 1) := by decide +kernel
theorem dX7_atMost_42 : decode cX7_atMost 42 = .ok (.if_icmp .ge 7, 3) := by decide +kernel
theorem dX7_atMost_45 : decode cX7_atMost 45 = .ok (.iload_n 3, 1) := by decide +kernel
theorem dX7_atMost_46 : decode cX7_atMost 46 = .ok (.goto 4, 3) := by decide +kernel
theorem dX7_atMost_49 : decode cX7_atMost 49 = .ok (.iload_n 2, 1) := by decide +kernel
theorem dX7_atMost_50 : decode cX7_atMost 50 = .ok (.ireturn, 1) := by decide +kernel
theorem dX7_thinks_0 : decode cX7_thinks 0 = .ok (.iconst 0, 1) := by decide +kernel
theorem dX7_thinks_1 : decode cX7_thinks 1 = .ok (.istore_n 2, 1) := by decide +kernel
theorem dX7_thinks_2 : decode cX7_thinks 2 = .ok (.iload_n 2, 1) := by decide +kernel
theorem dX7_thinks_3 : decode cX7_thinks 3 = .ok (.sipush 256, 3) := by decide +kernel
theorem dX7_thinks_6 : decode cX7_thinks 6 = .ok (.if_icmp .ge 31, 3) := by decide +kernel
theorem dX7_thinks_9 : decode cX7_thinks 9 = .ok (.aload_n 0, 1) := by decide +kernel
theorem dX7_thinks_10 : decode cX7_thinks 10 = .ok (.getfield 44, 3) := by decide +kernel
theorem dX7_thinks_13 : decode cX7_thinks 13 = .ok (.iload_n 2, 1) := by decide +kernel
theorem dX7_thinks_14 : decode cX7_thinks 14 = .ok (.iload_n 2, 1) := by decide +kernel
theorem dX7_thinks_15 : decode cX7_thinks 15 = .ok (.ifCond .ne 14, 3) := by decide +kernel
theorem dX7_thinks_18 : decode cX7_thinks 18 = .ok (.iconst 1, 1) := by decide +kernel
theorem dX7_thinks_19 : decode cX7_thinks 19 = .ok (.aload_n 0, 1) := by decide +kernel
theorem dX7_thinks_20 : decode cX7_thinks 20 = .ok (.iload_n 1, 1) := by decide +kernel
theorem dX7_thinks_21 : decode cX7_thinks 21 = .ok (.iconst 0, 1) := by decide +kernel
theorem dX7_thinks_22 : decode cX7_thinks 22 = .ok (.invokevirtual 144, 3) := by decide +kernel
theorem dX7_thinks_25 : decode cX7_thinks 25 = .ok (.ishl, 1) := by decide +kernel
theorem dX7_thinks_26 : decode cX7_thinks 26 = .ok (.goto 4, 3) := by decide +kernel
theorem dX7_thinks_29 : decode cX7_thinks 29 = .ok (.iconst 0, 1) := by decide +kernel
theorem dX7_thinks_30 : decode cX7_thinks 30 = .ok (.iastore, 1) := by decide +kernel
theorem dX7_thinks_31 : decode cX7_thinks 31 = .ok (.iinc 2 1, 3) := by decide +kernel
theorem dX7_thinks_34 : decode cX7_thinks 34 = .ok (.goto (-32), 3) := by decide +kernel
theorem dX7_thinks_37 : decode cX7_thinks 37 = .ok (.iconst 0, 1) := by decide +kernel
theorem dX7_thinks_38 : decode cX7_thinks 38 = .ok (.istore_n 2, 1) := by decide +kernel
theorem dX7_thinks_39 : decode cX7_thinks 39 = .ok (.iload_n 2, 1) := by decide +kernel
theorem dX7_thinks_40 : decode cX7_thinks 40 = .ok (.aload_n 0, 1) := by decide +kernel
theorem dX7_thinks_41 : decode cX7_thinks 41 = .ok (.invokevirtual 177, 3) := by decide +kernel
theorem dX7_thinks_44 : decode cX7_thinks 44 = .ok (.if_icmp .gt 92, 3) := by decide +kernel
theorem dX7_thinks_47 : decode cX7_thinks 47 = .ok (.iconst 0, 1) := by decide +kernel
theorem dX7_thinks_48 : decode cX7_thinks 48 = .ok (.istore_n 3, 1) := by decide +kernel
theorem dX7_thinks_49 : decode cX7_thinks 49 = .ok (.iload_n 3, 1) := by decide +kernel
theorem dX7_thinks_50 : decode cX7_thinks 50 = .ok (.aload_n 0, 1) := by decide +kernel
theorem dX7_thinks_51 : decode cX7_thinks 51 = .ok (.getfield 25, 3) := by decide +kernel
theorem dX7_thinks_54 : decode cX7_thinks 54 = .ok (.bipush 7, 2) := by decide +kernel
theorem dX7_thinks_56 : decode cX7_thinks 56 = .ok (.iaload, 1) := by decide +kernel
theorem dX7_thinks_57 : decode cX7_thinks 57 = .ok (.if_icmp .ge 73, 3) := by decide +kernel
theorem dX7_thinks_60 : decode cX7_thinks 60 = .ok (.iconst 0, 1) := by decide +kernel
theorem dX7_thinks_61 : decode cX7_thinks 61 = .ok (.istore 4, 2) := by decide +kernel
theorem dX7_thinks_63 : decode cX7_thinks 63 = .ok (.iload 4, 2) := by decide +kernel
theorem dX7_thinks_65 : decode cX7_thinks 65 = .ok (.bipush 8, 2) := by decide +kernel
theorem dX7_thinks_67 : decode cX7_thinks 67 = .ok (.if_icmp .ge 57, 3) := by decide +kernel
theorem dX7_thinks_70 : decode cX7_thinks 70 = .ok (.iload_n 2, 1) := by decide +kernel
theorem dX7_thinks_71 : decode cX7_thinks 71 = .ok (.iload_n 3, 1) := by decide +kernel
theorem dX7_thinks_72 : decode cX7_thinks 72 = .ok (.invokestatic 164, 3) := by decide +kernel
theorem dX7_thinks_75 : decode cX7_thinks 75 = .ok (.ifCond .ne 49, 3) := by decide +kernel
theorem dX7_thinks_78 : decode cX7_thinks 78 = .ok (.aload_n 0, 1) := by decide +kernel
theorem dX7_thinks_79 : decode cX7_thinks 79 = .ok (.getfield 44, 3) := by decide +kernel
theorem dX7_thinks_82 : decode cX7_thinks 82 = .ok (.iload_n 2, 1) := by decide +kernel
theorem dX7_thinks_83 : decode cX7_thinks 83 = .ok (.iconst 1, 1) := by decide +kernel
theorem dX7_thinks_84 : decode cX7_thinks 84 = .ok (.iload_n 3, 1) := by decide +kernel
theorem dX7_thinks_85 : decode cX7_thinks 85 = .ok (.ishl, 1) := by decide +kernel
theorem dX7_thinks_86 : decode cX7_thinks 86 = .ok (.ior, 1) := by decide +kernel
theorem dX7_thinks_87 : decode cX7_thinks 87 = .ok (.dup2, 1) := by decide +kernel
theorem dX7_thinks_88 : decode cX7_thinks 88 = .ok (.iaload, 1) := by decide +kernel
theorem dX7_thinks_89 : decode cX7_thinks 89 = .ok (.aload_n 0, 1) := by decide +kernel
theorem dX7_thinks_90 : decode cX7_thinks 90 = .ok (.getfield 44, 3) := by decide +kernel
theorem dX7_thinks_93 : decode cX7_thinks 93 = .ok (.iload_n 2, 1) := by decide +kernel
theorem dX7_thinks_94 : decode cX7_thinks 94 = .ok (.iaload, 1) := by decide +kernel
theorem dX7_thinks_95 : decode cX7_thinks 95 = .ok (.iload 4, 2) := by decide +kernel
theorem dX7_thinks_97 : decode cX7_thinks 97 = .ok (.invokestatic 164, 3) := by decide +kernel
theorem dX7_thinks_100 : decode cX7_thinks 100 = .ok (.ifCond .eq 15, 3) := by decide +kernel
theorem dX7_thinks_103 : decode cX7_thinks 103 = .ok (.iconst 1, 1) := by decide +kernel
theorem dX7_thinks_104 : decode cX7_thinks 104 = .ok (.aload_n 0, 1) := by decide +kernel
theorem dX7_thinks_105 : decode cX7_thinks 105 = .ok (.iload_n 3, 1) := by decide +kernel
theorem dX7_thinks_106 : decode cX7_thinks 106 = .ok (.iload 4, 2) := by decide +kernel
theorem dX7_thinks_108 : decode cX7_thinks 108 = .ok (.invokevirtual 171, 3) := by decide +kernel
theorem dX7_thinks_111 : decode cX7_thinks 111 = .ok (.ishl, 1) := by decide +kernel
theorem dX7_thinks_112 : decode cX7_thinks 112 = .ok (.goto 4, 3) := by decide +kernel
theorem dX7_thinks_115 : decode cX7_thinks 115 = .ok (.iconst 0, 1) := by decide +kernel
theorem dX7_thinks_116 : decode cX7_thinks 116 = .ok (.ior, 1) := by decide +kernel
theorem dX7_thinks_117 : decode cX7_thinks 117 = .ok (.iastore, 1) := by decide +kernel
theorem dX7_thinks_118 : decode cX7_thinks 118 = .ok (.iinc 4 1, 3) := by decide +kernel
theorem dX7_thinks_121 : decode cX7_thinks 121 = .ok (.goto (-58), 3) := by decide +kernel
theorem dX7_thinks_124 : decode cX7_thinks 124 = .ok (.iinc 3 1, 3) := by decide +kernel
theorem dX7_thinks_127 : decode cX7_thinks 127 = .ok (.goto (-78), 3) := by decide +kernel
theorem dX7_thinks_130 : decode cX7_thinks 130 = .ok (.iinc 2 1, 3) := by decide +kernel
theorem dX7_thinks_133 : decode cX7_thinks 133 = .ok (.goto (-94), 3) := by decide +kernel
theorem dX7_thinks_136 : decode cX7_thinks 136 = .ok (.return_, 1) := by decide +kernel
theorem dX7_fewest_0 : decode cX7_fewest 0 = .ok (.ldc 53, 2) := by decide +kernel
theorem dX7_fewest_2 : decode cX7_fewest 2 = .ok (.istore_n 3, 1) := by decide +kernel
theorem dX7_fewest_3 : decode cX7_fewest 3 = .ok (.iconst 0, 1) := by decide +kernel
theorem dX7_fewest_4 : decode cX7_fewest 4 = .ok (.istore 4, 2) := by decide +kernel
theorem dX7_fewest_6 : decode cX7_fewest 6 = .ok (.iload 4, 2) := by decide +kernel
theorem dX7_fewest_8 : decode cX7_fewest 8 = .ok (.iload_n 1, 1) := by decide +kernel
theorem dX7_fewest_9 : decode cX7_fewest 9 = .ok (.if_icmp .gt 83, 3) := by decide +kernel
theorem dX7_fewest_12 : decode cX7_fewest 12 = .ok (.iload 4, 2) := by decide +kernel
theorem dX7_fewest_14 : decode cX7_fewest 14 = .ok (.iload_n 1, 1) := by decide +kernel
theorem dX7_fewest_15 : decode cX7_fewest 15 = .ok (.iconst (-1), 1) := by decide +kernel
theorem dX7_fewest_16 : decode cX7_fewest 16 = .ok (.ixor, 1) := by decide +kernel
theorem dX7_fewest_17 : decode cX7_fewest 17 = .ok (.iand, 1) := by decide +kernel
theorem dX7_fewest_18 : decode cX7_fewest 18 = .ok (.ifCond .ne 35, 3) := by decide +kernel
theorem dX7_fewest_21 : decode cX7_fewest 21 = .ok (.iload 4, 2) := by decide +kernel
theorem dX7_fewest_23 : decode cX7_fewest 23 = .ok (.invokestatic 168, 3) := by decide +kernel
theorem dX7_fewest_26 : decode cX7_fewest 26 = .ok (.iload_n 2, 1) := by decide +kernel
theorem dX7_fewest_27 : decode cX7_fewest 27 = .ok (.if_icmp .gt 26, 3) := by decide +kernel
theorem dX7_fewest_30 : decode cX7_fewest 30 = .ok (.aload_n 0, 1) := by decide +kernel
theorem dX7_fewest_31 : decode cX7_fewest 31 = .ok (.getfield 44, 3) := by decide +kernel
theorem dX7_fewest_34 : decode cX7_fewest 34 = .ok (.iload 4, 2) := by decide +kernel
theorem dX7_fewest_36 : decode cX7_fewest 36 = .ok (.iaload, 1) := by decide +kernel
theorem dX7_fewest_37 : decode cX7_fewest 37 = .ok (.aload_n 0, 1) := by decide +kernel
theorem dX7_fewest_38 : decode cX7_fewest 38 = .ok (.getfield 25, 3) := by decide +kernel
theorem dX7_fewest_41 : decode cX7_fewest 41 = .ok (.iconst 1, 1) := by decide +kernel
theorem dX7_fewest_42 : decode cX7_fewest 42 = .ok (.iaload, 1) := by decide +kernel
theorem dX7_fewest_43 : decode cX7_fewest 43 = .ok (.invokestatic 164, 3) := by decide +kernel
theorem dX7_fewest_46 : decode cX7_fewest 46 = .ok (.ifCond .eq 7, 3) := by decide +kernel
theorem dX7_fewest_49 : decode cX7_fewest 49 = .ok (.iconst 1, 1) := by decide +kernel
theorem dX7_fewest_50 : decode cX7_fewest 50 = .ok (.goto 4, 3) := by decide +kernel
theorem dX7_fewest_53 : decode cX7_fewest 53 = .ok (.iconst 0, 1) := by decide +kernel
theorem dX7_fewest_54 : decode cX7_fewest 54 = .ok (.istore 5, 2) := by decide +kernel
theorem dX7_fewest_56 : decode cX7_fewest 56 = .ok (.iload 5, 2) := by decide +kernel
theorem dX7_fewest_58 : decode cX7_fewest 58 = .ok (.ifCond .eq 26, 3) := by decide +kernel
theorem dX7_fewest_61 : decode cX7_fewest 61 = .ok (.iload_n 3, 1) := by decide +kernel
theorem dX7_fewest_62 : decode cX7_fewest 62 = .ok (.ldc 53, 2) := by decide +kernel
theorem dX7_fewest_64 : decode cX7_fewest 64 = .ok (.if_icmp .eq 12, 3) := by decide +kernel
theorem dX7_fewest_67 : decode cX7_fewest 67 = .ok (.iload 4, 2) := by decide +kernel
theorem dX7_fewest_69 : decode cX7_fewest 69 = .ok (.invokestatic 168, 3) := by decide +kernel
theorem dX7_fewest_72 : decode cX7_fewest 72 = .ok (.iload_n 3, 1) := by decide +kernel
theorem dX7_fewest_73 : decode cX7_fewest 73 = .ok (.if_icmp .ge 11, 3) := by decide +kernel
theorem dX7_fewest_76 : decode cX7_fewest 76 = .ok (.iload 4, 2) := by decide +kernel
theorem dX7_fewest_78 : decode cX7_fewest 78 = .ok (.invokestatic 168, 3) := by decide +kernel
theorem dX7_fewest_81 : decode cX7_fewest 81 = .ok (.goto 4, 3) := by decide +kernel
theorem dX7_fewest_84 : decode cX7_fewest 84 = .ok (.iload_n 3, 1) := by decide +kernel
theorem dX7_fewest_85 : decode cX7_fewest 85 = .ok (.istore_n 3, 1) := by decide +kernel
theorem dX7_fewest_86 : decode cX7_fewest 86 = .ok (.iinc 4 1, 3) := by decide +kernel
theorem dX7_fewest_89 : decode cX7_fewest 89 = .ok (.goto (-83), 3) := by decide +kernel
theorem dX7_fewest_92 : decode cX7_fewest 92 = .ok (.iload_n 3, 1) := by decide +kernel
theorem dX7_fewest_93 : decode cX7_fewest 93 = .ok (.ireturn, 1) := by decide +kernel
theorem dX7_power_0 : decode cX7_power 0 = .ok (.iconst 1, 1) := by decide +kernel
theorem dX7_power_1 : decode cX7_power 1 = .ok (.istore_n 2, 1) := by decide +kernel
theorem dX7_power_2 : decode cX7_power 2 = .ok (.iconst 0, 1) := by decide +kernel
theorem dX7_power_3 : decode cX7_power 3 = .ok (.istore_n 3, 1) := by decide +kernel
theorem dX7_power_4 : decode cX7_power 4 = .ok (.iload_n 3, 1) := by decide +kernel
theorem dX7_power_5 : decode cX7_power 5 = .ok (.iload_n 1, 1) := by decide +kernel
theorem dX7_power_6 : decode cX7_power 6 = .ok (.if_icmp .ge 13, 3) := by decide +kernel
theorem dX7_power_9 : decode cX7_power 9 = .ok (.iload_n 2, 1) := by decide +kernel
theorem dX7_power_10 : decode cX7_power 10 = .ok (.iload_n 0, 1) := by decide +kernel
theorem dX7_power_11 : decode cX7_power 11 = .ok (.imul, 1) := by decide +kernel
theorem dX7_power_12 : decode cX7_power 12 = .ok (.istore_n 2, 1) := by decide +kernel
theorem dX7_power_13 : decode cX7_power 13 = .ok (.iinc 3 1, 3) := by decide +kernel
theorem dX7_power_16 : decode cX7_power 16 = .ok (.goto (-12), 3) := by decide +kernel
theorem dX7_power_19 : decode cX7_power 19 = .ok (.iload_n 2, 1) := by decide +kernel
theorem dX7_power_20 : decode cX7_power 20 = .ok (.ireturn, 1) := by decide +kernel
theorem dX7_endOf_0 : decode cX7_endOf 0 = .ok (.aload_n 0, 1) := by decide +kernel
theorem dX7_endOf_1 : decode cX7_endOf 1 = .ok (.iload_n 1, 1) := by decide +kernel
theorem dX7_endOf_2 : decode cX7_endOf 2 = .ok (.iconst 0, 1) := by decide +kernel
theorem dX7_endOf_3 : decode cX7_endOf 3 = .ok (.invokevirtual 144, 3) := by decide +kernel
theorem dX7_endOf_6 : decode cX7_endOf 6 = .ok (.istore 5, 2) := by decide +kernel
theorem dX7_endOf_8 : decode cX7_endOf 8 = .ok (.aload_n 0, 1) := by decide +kernel
theorem dX7_endOf_9 : decode cX7_endOf 9 = .ok (.iload_n 1, 1) := by decide +kernel
theorem dX7_endOf_10 : decode cX7_endOf 10 = .ok (.invokevirtual 181, 3) := by decide +kernel
theorem dX7_endOf_13 : decode cX7_endOf 13 = .ok (.iconst (-1), 1) := by decide +kernel
theorem dX7_endOf_14 : decode cX7_endOf 14 = .ok (.ixor, 1) := by decide +kernel
theorem dX7_endOf_15 : decode cX7_endOf 15 = .ok (.istore 6, 2) := by decide +kernel
theorem dX7_endOf_17 : decode cX7_endOf 17 = .ok (.iload 4, 2) := by decide +kernel
theorem dX7_endOf_19 : decode cX7_endOf 19 = .ok (.ifCond .eq 17, 3) := by decide +kernel
theorem dX7_endOf_22 : decode cX7_endOf 22 = .ok (.iload 5, 2) := by decide +kernel
theorem dX7_endOf_24 : decode cX7_endOf 24 = .ok (.aload_n 0, 1) := by decide +kernel
theorem dX7_endOf_25 : decode cX7_endOf 25 = .ok (.getfield 25, 3) := by decide +kernel
theorem dX7_endOf_28 : decode cX7_endOf 28 = .ok (.iconst 2, 1) := by decide +kernel
theorem dX7_endOf_29 : decode cX7_endOf 29 = .ok (.iaload, 1) := by decide +kernel
theorem dX7_endOf_30 : decode cX7_endOf 30 = .ok (.if_icmp .ne 6, 3) := by decide +kernel
theorem dX7_endOf_33 : decode cX7_endOf 33 = .ok (.ldc 53, 2) := by decide +kernel
theorem dX7_endOf_35 : decode cX7_endOf 35 = .ok (.ireturn, 1) := by decide +kernel
theorem dX7_endOf_36 : decode cX7_endOf 36 = .ok (.iconst 0, 1) := by decide +kernel
theorem dX7_endOf_37 : decode cX7_endOf 37 = .ok (.istore 7, 2) := by decide +kernel
theorem dX7_endOf_39 : decode cX7_endOf 39 = .ok (.iload 7, 2) := by decide +kernel
theorem dX7_endOf_41 : decode cX7_endOf 41 = .ok (.iload_n 3, 1) := by decide +kernel
theorem dX7_endOf_42 : decode cX7_endOf 42 = .ok (.if_icmp .ge 78, 3) := by decide +kernel
theorem dX7_endOf_45 : decode cX7_endOf 45 = .ok (.iload_n 2, 1) := by decide +kernel
theorem dX7_endOf_46 : decode cX7_endOf 46 = .ok (.bipush 8, 2) := by decide +kernel
theorem dX7_endOf_48 : decode cX7_endOf 48 = .ok (.iload_n 3, 1) := by decide +kernel
theorem dX7_endOf_49 : decode cX7_endOf 49 = .ok (.iconst 1, 1) := by decide +kernel
theorem dX7_endOf_50 : decode cX7_endOf 50 = .ok (.isub, 1) := by decide +kernel
theorem dX7_endOf_51 : decode cX7_endOf 51 = .ok (.iload 7, 2) := by decide +kernel
theorem dX7_endOf_53 : decode cX7_endOf 53 = .ok (.isub, 1) := by decide +kernel
theorem dX7_endOf_54 : decode cX7_endOf 54 = .ok (.invokestatic 184, 3) := by decide +kernel
theorem dX7_endOf_57 : decode cX7_endOf 57 = .ok (.idiv, 1) := by decide +kernel
theorem dX7_endOf_58 : decode cX7_endOf 58 = .ok (.bipush 8, 2) := by decide +kernel
theorem dX7_endOf_60 : decode cX7_endOf 60 = .ok (.irem, 1) := by decide +kernel
theorem dX7_endOf_61 : decode cX7_endOf 61 = .ok (.istore 8, 2) := by decide +kernel
theorem dX7_endOf_63 : decode cX7_endOf 63 = .ok (.iload 6, 2) := by decide +kernel
theorem dX7_endOf_65 : decode cX7_endOf 65 = .ok (.iload 8, 2) := by decide +kernel
theorem dX7_endOf_67 : decode cX7_endOf 67 = .ok (.invokestatic 164, 3) := by decide +kernel
theorem dX7_endOf_70 : decode cX7_endOf 70 = .ok (.ifCond .eq 6, 3) := by decide +kernel
theorem dX7_endOf_73 : decode cX7_endOf 73 = .ok (.ldc 53, 2) := by decide +kernel
theorem dX7_endOf_75 : decode cX7_endOf 75 = .ok (.ireturn, 1) := by decide +kernel
theorem dX7_endOf_76 : decode cX7_endOf 76 = .ok (.iload 6, 2) := by decide +kernel
theorem dX7_endOf_78 : decode cX7_endOf 78 = .ok (.iconst 1, 1) := by decide +kernel
theorem dX7_endOf_79 : decode cX7_endOf 79 = .ok (.iload 8, 2) := by decide +kernel
theorem dX7_endOf_81 : decode cX7_endOf 81 = .ok (.ishl, 1) := by decide +kernel
theorem dX7_endOf_82 : decode cX7_endOf 82 = .ok (.ior, 1) := by decide +kernel
theorem dX7_endOf_83 : decode cX7_endOf 83 = .ok (.istore 6, 2) := by decide +kernel
theorem dX7_endOf_85 : decode cX7_endOf 85 = .ok (.aload_n 0, 1) := by decide +kernel
theorem dX7_endOf_86 : decode cX7_endOf 86 = .ok (.iload 8, 2) := by decide +kernel
theorem dX7_endOf_88 : decode cX7_endOf 88 = .ok (.iload 5, 2) := by decide +kernel
theorem dX7_endOf_90 : decode cX7_endOf 90 = .ok (.invokevirtual 171, 3) := by decide +kernel
theorem dX7_endOf_93 : decode cX7_endOf 93 = .ok (.istore 5, 2) := by decide +kernel
theorem dX7_endOf_95 : decode cX7_endOf 95 = .ok (.iload 4, 2) := by decide +kernel
theorem dX7_endOf_97 : decode cX7_endOf 97 = .ok (.ifCond .eq 17, 3) := by decide +kernel
theorem dX7_endOf_100 : decode cX7_endOf 100 = .ok (.iload 5, 2) := by decide +kernel
theorem dX7_endOf_102 : decode cX7_endOf 102 = .ok (.aload_n 0, 1) := by decide +kernel
theorem dX7_endOf_103 : decode cX7_endOf 103 = .ok (.getfield 25, 3) := by decide +kernel
theorem dX7_endOf_106 : decode cX7_endOf 106 = .ok (.iconst 2, 1) := by decide +kernel
theorem dX7_endOf_107 : decode cX7_endOf 107 = .ok (.iaload, 1) := by decide +kernel
theorem dX7_endOf_108 : decode cX7_endOf 108 = .ok (.if_icmp .ne 6, 3) := by decide +kernel
theorem dX7_endOf_111 : decode cX7_endOf 111 = .ok (.ldc 53, 2) := by decide +kernel
theorem dX7_endOf_113 : decode cX7_endOf 113 = .ok (.ireturn, 1) := by decide +kernel
theorem dX7_endOf_114 : decode cX7_endOf 114 = .ok (.iinc 7 1, 3) := by decide +kernel
theorem dX7_endOf_117 : decode cX7_endOf 117 = .ok (.goto (-78), 3) := by decide +kernel
theorem dX7_endOf_120 : decode cX7_endOf 120 = .ok (.iload 5, 2) := by decide +kernel
theorem dX7_endOf_122 : decode cX7_endOf 122 = .ok (.ireturn, 1) := by decide +kernel
theorem dX7_route_0 : decode cX7_route 0 = .ok (.aload_n 0, 1) := by decide +kernel
theorem dX7_route_1 : decode cX7_route 1 = .ok (.iload_n 1, 1) := by decide +kernel
theorem dX7_route_2 : decode cX7_route 2 = .ok (.invokevirtual 151, 3) := by decide +kernel
theorem dX7_route_5 : decode cX7_route 5 = .ok (.ifCond .eq 17, 3) := by decide +kernel
theorem dX7_route_8 : decode cX7_route 8 = .ok (.iload_n 2, 1) := by decide +kernel
theorem dX7_route_9 : decode cX7_route 9 = .ok (.iconst 0, 1) := by decide +kernel
theorem dX7_route_10 : decode cX7_route 10 = .ok (.iconst 1, 1) := by decide +kernel
theorem dX7_route_11 : decode cX7_route 11 = .ok (.invokestatic 59, 3) := by decide +kernel
theorem dX7_route_14 : decode cX7_route 14 = .ok (.ifCond .eq 8, 3) := by decide +kernel
theorem dX7_route_17 : decode cX7_route 17 = .ok (.iload_n 3, 1) := by decide +kernel
theorem dX7_route_18 : decode cX7_route 18 = .ok (.iconst (-1), 1) := by decide +kernel
theorem dX7_route_19 : decode cX7_route 19 = .ok (.if_icmp .ge 6, 3) := by decide +kernel
theorem dX7_route_22 : decode cX7_route 22 = .ok (.ldc 67, 2) := by decide +kernel
theorem dX7_route_24 : decode cX7_route 24 = .ok (.ireturn, 1) := by decide +kernel
theorem dX7_route_25 : decode cX7_route 25 = .ok (.aload_n 0, 1) := by decide +kernel
theorem dX7_route_26 : decode cX7_route 26 = .ok (.iload_n 1, 1) := by decide +kernel
theorem dX7_route_27 : decode cX7_route 27 = .ok (.iconst 3, 1) := by decide +kernel
theorem dX7_route_28 : decode cX7_route 28 = .ok (.invokevirtual 144, 3) := by decide +kernel
theorem dX7_route_31 : decode cX7_route 31 = .ok (.iconst 2, 1) := by decide +kernel
theorem dX7_route_32 : decode cX7_route 32 = .ok (.if_icmp .ne 6, 3) := by decide +kernel
theorem dX7_route_35 : decode cX7_route 35 = .ok (.ldc 157, 2) := by decide +kernel
theorem dX7_route_37 : decode cX7_route 37 = .ok (.ireturn, 1) := by decide +kernel
theorem dX7_route_38 : decode cX7_route 38 = .ok (.iconst 0, 1) := by decide +kernel
theorem dX7_route_39 : decode cX7_route 39 = .ok (.istore 4, 2) := by decide +kernel
theorem dX7_route_41 : decode cX7_route 41 = .ok (.iload 4, 2) := by decide +kernel
theorem dX7_route_43 : decode cX7_route 43 = .ok (.aload_n 0, 1) := by decide +kernel
theorem dX7_route_44 : decode cX7_route 44 = .ok (.iload_n 1, 1) := by decide +kernel
theorem dX7_route_45 : decode cX7_route 45 = .ok (.invokevirtual 187, 3) := by decide +kernel
theorem dX7_route_48 : decode cX7_route 48 = .ok (.if_icmp .gt 97, 3) := by decide +kernel
theorem dX7_route_51 : decode cX7_route 51 = .ok (.iconst 0, 1) := by decide +kernel
theorem dX7_route_52 : decode cX7_route 52 = .ok (.istore 5, 2) := by decide +kernel
theorem dX7_route_54 : decode cX7_route 54 = .ok (.iload 5, 2) := by decide +kernel
theorem dX7_route_56 : decode cX7_route 56 = .ok (.bipush 8, 2) := by decide +kernel
theorem dX7_route_58 : decode cX7_route 58 = .ok (.iload 4, 2) := by decide +kernel
theorem dX7_route_60 : decode cX7_route 60 = .ok (.invokestatic 184, 3) := by decide +kernel
theorem dX7_route_63 : decode cX7_route 63 = .ok (.if_icmp .ge 76, 3) := by decide +kernel
theorem dX7_route_66 : decode cX7_route 66 = .ok (.aload_n 0, 1) := by decide +kernel
theorem dX7_route_67 : decode cX7_route 67 = .ok (.iload_n 1, 1) := by decide +kernel
theorem dX7_route_68 : decode cX7_route 68 = .ok (.iload 5, 2) := by decide +kernel
theorem dX7_route_70 : decode cX7_route 70 = .ok (.iload 4, 2) := by decide +kernel
theorem dX7_route_72 : decode cX7_route 72 = .ok (.iload_n 2, 1) := by decide +kernel
theorem dX7_route_73 : decode cX7_route 73 = .ok (.iconst 1, 1) := by decide +kernel
theorem dX7_route_74 : decode cX7_route 74 = .ok (.if_icmp .ne 7, 3) := by decide +kernel
theorem dX7_route_77 : decode cX7_route 77 = .ok (.iconst 1, 1) := by decide +kernel
theorem dX7_route_78 : decode cX7_route 78 = .ok (.goto 4, 3) := by decide +kernel
theorem dX7_route_81 : decode cX7_route 81 = .ok (.iconst 0, 1) := by decide +kernel
theorem dX7_route_82 : decode cX7_route 82 = .ok (.invokevirtual 190, 3) := by decide +kernel
theorem dX7_route_85 : decode cX7_route 85 = .ok (.aload_n 0, 1) := by decide +kernel
theorem dX7_route_86 : decode cX7_route 86 = .ok (.getfield 25, 3) := by decide +kernel
theorem dX7_route_89 : decode cX7_route 89 = .ok (.iconst 1, 1) := by decide +kernel
theorem dX7_route_90 : decode cX7_route 90 = .ok (.iaload, 1) := by decide +kernel
theorem dX7_route_91 : decode cX7_route 91 = .ok (.if_icmp .ne 42, 3) := by decide +kernel
theorem dX7_route_94 : decode cX7_route 94 = .ok (.iload_n 3, 1) := by decide +kernel
theorem dX7_route_95 : decode cX7_route 95 = .ok (.iconst (-1), 1) := by decide +kernel
theorem dX7_route_96 : decode cX7_route 96 = .ok (.if_icmp .ne 8, 3) := by decide +kernel
theorem dX7_route_99 : decode cX7_route 99 = .ok (.iload 4, 2) := by decide +kernel
theorem dX7_route_101 : decode cX7_route 101 = .ok (.goto 31, 3) := by decide +kernel
theorem dX7_route_104 : decode cX7_route 104 = .ok (.iload_n 3, 1) := by decide +kernel
theorem dX7_route_105 : decode cX7_route 105 = .ok (.iload 4, 2) := by decide +kernel
theorem dX7_route_107 : decode cX7_route 107 = .ok (.if_icmp .ge 23, 3) := by decide +kernel
theorem dX7_route_110 : decode cX7_route 110 = .ok (.iload 5, 2) := by decide +kernel
theorem dX7_route_112 : decode cX7_route 112 = .ok (.bipush 8, 2) := by decide +kernel
theorem dX7_route_114 : decode cX7_route 114 = .ok (.iload 4, 2) := by decide +kernel
theorem dX7_route_116 : decode cX7_route 116 = .ok (.iconst 1, 1) := by decide +kernel
theorem dX7_route_117 : decode cX7_route 117 = .ok (.isub, 1) := by decide +kernel
theorem dX7_route_118 : decode cX7_route 118 = .ok (.iload_n 3, 1) := by decide +kernel
theorem dX7_route_119 : decode cX7_route 119 = .ok (.isub, 1) := by decide +kernel
theorem dX7_route_120 : decode cX7_route 120 = .ok (.invokestatic 184, 3) := by decide +kernel
theorem dX7_route_123 : decode cX7_route 123 = .ok (.idiv, 1) := by decide +kernel
theorem dX7_route_124 : decode cX7_route 124 = .ok (.bipush 8, 2) := by decide +kernel
theorem dX7_route_126 : decode cX7_route 126 = .ok (.irem, 1) := by decide +kernel
theorem dX7_route_127 : decode cX7_route 127 = .ok (.goto 5, 3) := by decide +kernel
theorem dX7_route_130 : decode cX7_route 130 = .ok (.ldc 53, 2) := by decide +kernel
theorem dX7_route_132 : decode cX7_route 132 = .ok (.ireturn, 1) := by decide +kernel
theorem dX7_route_133 : decode cX7_route 133 = .ok (.iinc 5 1, 3) := by decide +kernel
theorem dX7_route_136 : decode cX7_route 136 = .ok (.goto (-82), 3) := by decide +kernel
theorem dX7_route_139 : decode cX7_route 139 = .ok (.iinc 4 1, 3) := by decide +kernel
theorem dX7_route_142 : decode cX7_route 142 = .ok (.goto (-101), 3) := by decide +kernel
theorem dX7_route_145 : decode cX7_route 145 = .ok (.ldc 53, 2) := by decide +kernel
theorem dX7_route_147 : decode cX7_route 147 = .ok (.ireturn, 1) := by decide +kernel
theorem dX7_thinkable_0 : decode cX7_thinkable 0 = .ok (.aload_n 0, 1) := by decide +kernel
theorem dX7_thinkable_1 : decode cX7_thinkable 1 = .ok (.iload_n 1, 1) := by decide +kernel
theorem dX7_thinkable_2 : decode cX7_thinkable 2 = .ok (.invokevirtual 151, 3) := by decide +kernel
theorem dX7_thinkable_5 : decode cX7_thinkable 5 = .ok (.ifCond .ne 6, 3) := by decide +kernel
theorem dX7_thinkable_8 : decode cX7_thinkable 8 = .ok (.ldc 67, 2) := by decide +kernel
theorem dX7_thinkable_10 : decode cX7_thinkable 10 = .ok (.ireturn, 1) := by decide +kernel
theorem dX7_thinkable_11 : decode cX7_thinkable 11 = .ok (.aload_n 0, 1) := by decide +kernel
theorem dX7_thinkable_12 : decode cX7_thinkable 12 = .ok (.iload_n 1, 1) := by decide +kernel
theorem dX7_thinkable_13 : decode cX7_thinkable 13 = .ok (.iconst 3, 1) := by decide +kernel
theorem dX7_thinkable_14 : decode cX7_thinkable 14 = .ok (.invokevirtual 144, 3) := by decide +kernel
theorem dX7_thinkable_17 : decode cX7_thinkable 17 = .ok (.iconst 2, 1) := by decide +kernel
theorem dX7_thinkable_18 : decode cX7_thinkable 18 = .ok (.if_icmp .ne 6, 3) := by decide +kernel
theorem dX7_thinkable_21 : decode cX7_thinkable 21 = .ok (.ldc 157, 2) := by decide +kernel
theorem dX7_thinkable_23 : decode cX7_thinkable 23 = .ok (.ireturn, 1) := by decide +kernel
theorem dX7_thinkable_24 : decode cX7_thinkable 24 = .ok (.aload_n 0, 1) := by decide +kernel
theorem dX7_thinkable_25 : decode cX7_thinkable 25 = .ok (.iload_n 1, 1) := by decide +kernel
theorem dX7_thinkable_26 : decode cX7_thinkable 26 = .ok (.invokevirtual 194, 3) := by decide +kernel
theorem dX7_thinkable_29 : decode cX7_thinkable 29 = .ok (.iconst 0, 1) := by decide +kernel
theorem dX7_thinkable_30 : decode cX7_thinkable 30 = .ok (.istore_n 2, 1) := by decide +kernel
theorem dX7_thinkable_31 : decode cX7_thinkable 31 = .ok (.iconst 0, 1) := by decide +kernel
theorem dX7_thinkable_32 : decode cX7_thinkable 32 = .ok (.istore_n 3, 1) := by decide +kernel
theorem dX7_thinkable_33 : decode cX7_thinkable 33 = .ok (.iload_n 3, 1) := by decide +kernel
theorem dX7_thinkable_34 : decode cX7_thinkable 34 = .ok (.aload_n 0, 1) := by decide +kernel
theorem dX7_thinkable_35 : decode cX7_thinkable 35 = .ok (.invokevirtual 177, 3) := by decide +kernel
theorem dX7_thinkable_38 : decode cX7_thinkable 38 = .ok (.if_icmp .gt 58, 3) := by decide +kernel
theorem dX7_thinkable_41 : decode cX7_thinkable 41 = .ok (.iload_n 3, 1) := by decide +kernel
theorem dX7_thinkable_42 : decode cX7_thinkable 42 = .ok (.aload_n 0, 1) := by decide +kernel
theorem dX7_thinkable_43 : decode cX7_thinkable 43 = .ok (.iload_n 1, 1) := by decide +kernel
theorem dX7_thinkable_44 : decode cX7_thinkable 44 = .ok (.invokevirtual 181, 3) := by decide +kernel
theorem dX7_thinkable_47 : decode cX7_thinkable 47 = .ok (.iconst (-1), 1) := by decide +kernel
theorem dX7_thinkable_48 : decode cX7_thinkable 48 = .ok (.ixor, 1) := by decide +kernel
theorem dX7_thinkable_49 : decode cX7_thinkable 49 = .ok (.iand, 1) := by decide +kernel
theorem dX7_thinkable_50 : decode cX7_thinkable 50 = .ok (.ifCond .ne 19, 3) := by decide +kernel
theorem dX7_thinkable_53 : decode cX7_thinkable 53 = .ok (.iload_n 3, 1) := by decide +kernel
theorem dX7_thinkable_54 : decode cX7_thinkable 54 = .ok (.invokestatic 168, 3) := by decide +kernel
theorem dX7_thinkable_57 : decode cX7_thinkable 57 = .ok (.aload_n 0, 1) := by decide +kernel
theorem dX7_thinkable_58 : decode cX7_thinkable 58 = .ok (.iload_n 1, 1) := by decide +kernel
theorem dX7_thinkable_59 : decode cX7_thinkable 59 = .ok (.invokevirtual 187, 3) := by decide +kernel
theorem dX7_thinkable_62 : decode cX7_thinkable 62 = .ok (.if_icmp .gt 7, 3) := by decide +kernel
theorem dX7_thinkable_65 : decode cX7_thinkable 65 = .ok (.iconst 1, 1) := by decide +kernel
theorem dX7_thinkable_66 : decode cX7_thinkable 66 = .ok (.goto 4, 3) := by decide +kernel
theorem dX7_thinkable_69 : decode cX7_thinkable 69 = .ok (.iconst 0, 1) := by decide +kernel
theorem dX7_thinkable_70 : decode cX7_thinkable 70 = .ok (.istore 4, 2) := by decide +kernel
theorem dX7_thinkable_72 : decode cX7_thinkable 72 = .ok (.iload_n 2, 1) := by decide +kernel
theorem dX7_thinkable_73 : decode cX7_thinkable 73 = .ok (.iload 4, 2) := by decide +kernel
theorem dX7_thinkable_75 : decode cX7_thinkable 75 = .ok (.ifCond .eq 12, 3) := by decide +kernel
theorem dX7_thinkable_78 : decode cX7_thinkable 78 = .ok (.aload_n 0, 1) := by decide +kernel
theorem dX7_thinkable_79 : decode cX7_thinkable 79 = .ok (.getfield 44, 3) := by decide +kernel
theorem dX7_thinkable_82 : decode cX7_thinkable 82 = .ok (.iload_n 3, 1) := by decide +kernel
theorem dX7_thinkable_83 : decode cX7_thinkable 83 = .ok (.iaload, 1) := by decide +kernel
theorem dX7_thinkable_84 : decode cX7_thinkable 84 = .ok (.goto 4, 3) := by decide +kernel
theorem dX7_thinkable_87 : decode cX7_thinkable 87 = .ok (.iconst 0, 1) := by decide +kernel
theorem dX7_thinkable_88 : decode cX7_thinkable 88 = .ok (.ior, 1) := by decide +kernel
theorem dX7_thinkable_89 : decode cX7_thinkable 89 = .ok (.istore_n 2, 1) := by decide +kernel
theorem dX7_thinkable_90 : decode cX7_thinkable 90 = .ok (.iinc 3 1, 3) := by decide +kernel
theorem dX7_thinkable_93 : decode cX7_thinkable 93 = .ok (.goto (-60), 3) := by decide +kernel
theorem dX7_thinkable_96 : decode cX7_thinkable 96 = .ok (.iload_n 2, 1) := by decide +kernel
theorem dX7_thinkable_97 : decode cX7_thinkable 97 = .ok (.ireturn, 1) := by decide +kernel
theorem dX7_chance_0 : decode cX7_chance 0 = .ok (.aload_n 0, 1) := by decide +kernel
theorem dX7_chance_1 : decode cX7_chance 1 = .ok (.iload_n 1, 1) := by decide +kernel
theorem dX7_chance_2 : decode cX7_chance 2 = .ok (.invokevirtual 151, 3) := by decide +kernel
theorem dX7_chance_5 : decode cX7_chance 5 = .ok (.ifCond .eq 21, 3) := by decide +kernel
theorem dX7_chance_8 : decode cX7_chance 8 = .ok (.iload_n 2, 1) := by decide +kernel
theorem dX7_chance_9 : decode cX7_chance 9 = .ok (.iconst 0, 1) := by decide +kernel
theorem dX7_chance_10 : decode cX7_chance 10 = .ok (.iconst 4, 1) := by decide +kernel
theorem dX7_chance_11 : decode cX7_chance 11 = .ok (.invokestatic 59, 3) := by decide +kernel
theorem dX7_chance_14 : decode cX7_chance 14 = .ok (.ifCond .eq 12, 3) := by decide +kernel
theorem dX7_chance_17 : decode cX7_chance 17 = .ok (.iload_n 3, 1) := by decide +kernel
theorem dX7_chance_18 : decode cX7_chance 18 = .ok (.iconst 0, 1) := by decide +kernel
theorem dX7_chance_19 : decode cX7_chance 19 = .ok (.iconst 1, 1) := by decide +kernel
theorem dX7_chance_20 : decode cX7_chance 20 = .ok (.invokestatic 59, 3) := by decide +kernel
theorem dX7_chance_23 : decode cX7_chance 23 = .ok (.ifCond .ne 6, 3) := by decide +kernel
theorem dX7_chance_26 : decode cX7_chance 26 = .ok (.ldc 67, 2) := by decide +kernel
theorem dX7_chance_28 : decode cX7_chance 28 = .ok (.ireturn, 1) := by decide +kernel
theorem dX7_chance_29 : decode cX7_chance 29 = .ok (.aload_n 0, 1) := by decide +kernel
theorem dX7_chance_30 : decode cX7_chance 30 = .ok (.iload_n 1, 1) := by decide +kernel
theorem dX7_chance_31 : decode cX7_chance 31 = .ok (.iconst 3, 1) := by decide +kernel
theorem dX7_chance_32 : decode cX7_chance 32 = .ok (.invokevirtual 144, 3) := by decide +kernel
theorem dX7_chance_35 : decode cX7_chance 35 = .ok (.iconst 2, 1) := by decide +kernel
theorem dX7_chance_36 : decode cX7_chance 36 = .ok (.if_icmp .ne 6, 3) := by decide +kernel
theorem dX7_chance_39 : decode cX7_chance 39 = .ok (.ldc 157, 2) := by decide +kernel
theorem dX7_chance_41 : decode cX7_chance 41 = .ok (.ireturn, 1) := by decide +kernel
theorem dX7_chance_42 : decode cX7_chance 42 = .ok (.iload_n 2, 1) := by decide +kernel
theorem dX7_chance_43 : decode cX7_chance 43 = .ok (.aload_n 0, 1) := by decide +kernel
theorem dX7_chance_44 : decode cX7_chance 44 = .ok (.iload_n 1, 1) := by decide +kernel
theorem dX7_chance_45 : decode cX7_chance 45 = .ok (.invokevirtual 187, 3) := by decide +kernel
theorem dX7_chance_48 : decode cX7_chance 48 = .ok (.if_icmp .le 6, 3) := by decide +kernel
theorem dX7_chance_51 : decode cX7_chance 51 = .ok (.ldc 53, 2) := by decide +kernel
theorem dX7_chance_53 : decode cX7_chance 53 = .ok (.ireturn, 1) := by decide +kernel
theorem dX7_chance_54 : decode cX7_chance 54 = .ok (.iconst 0, 1) := by decide +kernel
theorem dX7_chance_55 : decode cX7_chance 55 = .ok (.istore 4, 2) := by decide +kernel
theorem dX7_chance_57 : decode cX7_chance 57 = .ok (.iconst 0, 1) := by decide +kernel
theorem dX7_chance_58 : decode cX7_chance 58 = .ok (.istore 5, 2) := by decide +kernel
theorem dX7_chance_60 : decode cX7_chance 60 = .ok (.iconst 0, 1) := by decide +kernel
theorem dX7_chance_61 : decode cX7_chance 61 = .ok (.istore 6, 2) := by decide +kernel
theorem dX7_chance_63 : decode cX7_chance 63 = .ok (.iload 6, 2) := by decide +kernel
theorem dX7_chance_65 : decode cX7_chance 65 = .ok (.bipush 8, 2) := by decide +kernel
theorem dX7_chance_67 : decode cX7_chance 67 = .ok (.iload_n 2, 1) := by decide +kernel
theorem dX7_chance_68 : decode cX7_chance 68 = .ok (.invokestatic 184, 3) := by decide +kernel
theorem dX7_chance_71 : decode cX7_chance 71 = .ok (.if_icmp .ge 58, 3) := by decide +kernel
theorem dX7_chance_74 : decode cX7_chance 74 = .ok (.aload_n 0, 1) := by decide +kernel
theorem dX7_chance_75 : decode cX7_chance 75 = .ok (.iload_n 1, 1) := by decide +kernel
theorem dX7_chance_76 : decode cX7_chance 76 = .ok (.iload 6, 2) := by decide +kernel
theorem dX7_chance_78 : decode cX7_chance 78 = .ok (.iload_n 2, 1) := by decide +kernel
theorem dX7_chance_79 : decode cX7_chance 79 = .ok (.iconst 0, 1) := by decide +kernel
theorem dX7_chance_80 : decode cX7_chance 80 = .ok (.invokevirtual 190, 3) := by decide +kernel
theorem dX7_chance_83 : decode cX7_chance 83 = .ok (.istore 7, 2) := by decide +kernel
theorem dX7_chance_85 : decode cX7_chance 85 = .ok (.iload 5, 2) := by decide +kernel
theorem dX7_chance_87 : decode cX7_chance 87 = .ok (.iload 7, 2) := by decide +kernel
theorem dX7_chance_89 : decode cX7_chance 89 = .ok (.ldc 53, 2) := by decide +kernel
theorem dX7_chance_91 : decode cX7_chance 91 = .ok (.if_icmp .ne 7, 3) := by decide +kernel
theorem dX7_chance_94 : decode cX7_chance 94 = .ok (.iconst 0, 1) := by decide +kernel
theorem dX7_chance_95 : decode cX7_chance 95 = .ok (.goto 4, 3) := by decide +kernel
theorem dX7_chance_98 : decode cX7_chance 98 = .ok (.iconst 1, 1) := by decide +kernel
theorem dX7_chance_99 : decode cX7_chance 99 = .ok (.iadd, 1) := by decide +kernel
theorem dX7_chance_100 : decode cX7_chance 100 = .ok (.istore 5, 2) := by decide +kernel
theorem dX7_chance_102 : decode cX7_chance 102 = .ok (.iload 4, 2) := by decide +kernel
theorem dX7_chance_104 : decode cX7_chance 104 = .ok (.iload 7, 2) := by decide +kernel
theorem dX7_chance_106 : decode cX7_chance 106 = .ok (.aload_n 0, 1) := by decide +kernel
theorem dX7_chance_107 : decode cX7_chance 107 = .ok (.getfield 25, 3) := by decide +kernel
theorem dX7_chance_110 : decode cX7_chance 110 = .ok (.iconst 1, 1) := by decide +kernel
theorem dX7_chance_111 : decode cX7_chance 111 = .ok (.iaload, 1) := by decide +kernel
theorem dX7_chance_112 : decode cX7_chance 112 = .ok (.if_icmp .ne 7, 3) := by decide +kernel
theorem dX7_chance_115 : decode cX7_chance 115 = .ok (.iconst 1, 1) := by decide +kernel
theorem dX7_chance_116 : decode cX7_chance 116 = .ok (.goto 4, 3) := by decide +kernel
theorem dX7_chance_119 : decode cX7_chance 119 = .ok (.iconst 0, 1) := by decide +kernel
theorem dX7_chance_120 : decode cX7_chance 120 = .ok (.iadd, 1) := by decide +kernel
theorem dX7_chance_121 : decode cX7_chance 121 = .ok (.istore 4, 2) := by decide +kernel
theorem dX7_chance_123 : decode cX7_chance 123 = .ok (.iinc 6 1, 3) := by decide +kernel
theorem dX7_chance_126 : decode cX7_chance 126 = .ok (.goto (-63), 3) := by decide +kernel
theorem dX7_chance_129 : decode cX7_chance 129 = .ok (.iload 4, 2) := by decide +kernel
theorem dX7_chance_131 : decode cX7_chance 131 = .ok (.istore 6, 2) := by decide +kernel
theorem dX7_chance_133 : decode cX7_chance 133 = .ok (.iload 5, 2) := by decide +kernel
theorem dX7_chance_135 : decode cX7_chance 135 = .ok (.istore 7, 2) := by decide +kernel
theorem dX7_chance_137 : decode cX7_chance 137 = .ok (.iload 7, 2) := by decide +kernel
theorem dX7_chance_139 : decode cX7_chance 139 = .ok (.ifCond .eq 21, 3) := by decide +kernel
theorem dX7_chance_142 : decode cX7_chance 142 = .ok (.iload 6, 2) := by decide +kernel
theorem dX7_chance_144 : decode cX7_chance 144 = .ok (.iload 7, 2) := by decide +kernel
theorem dX7_chance_146 : decode cX7_chance 146 = .ok (.irem, 1) := by decide +kernel
theorem dX7_chance_147 : decode cX7_chance 147 = .ok (.istore 8, 2) := by decide +kernel
theorem dX7_chance_149 : decode cX7_chance 149 = .ok (.iload 7, 2) := by decide +kernel
theorem dX7_chance_151 : decode cX7_chance 151 = .ok (.istore 6, 2) := by decide +kernel
theorem dX7_chance_153 : decode cX7_chance 153 = .ok (.iload 8, 2) := by decide +kernel
theorem dX7_chance_155 : decode cX7_chance 155 = .ok (.istore 7, 2) := by decide +kernel
theorem dX7_chance_157 : decode cX7_chance 157 = .ok (.goto (-20), 3) := by decide +kernel
theorem dX7_chance_160 : decode cX7_chance 160 = .ok (.iload_n 3, 1) := by decide +kernel
theorem dX7_chance_161 : decode cX7_chance 161 = .ok (.ifCond .ne 8, 3) := by decide +kernel
theorem dX7_chance_164 : decode cX7_chance 164 = .ok (.iload 4, 2) := by decide +kernel
theorem dX7_chance_166 : decode cX7_chance 166 = .ok (.goto 5, 3) := by decide +kernel
theorem dX7_chance_169 : decode cX7_chance 169 = .ok (.iload 5, 2) := by decide +kernel
theorem dX7_chance_171 : decode cX7_chance 171 = .ok (.iload 6, 2) := by decide +kernel
theorem dX7_chance_173 : decode cX7_chance 173 = .ok (.idiv, 1) := by decide +kernel
theorem dX7_chance_174 : decode cX7_chance 174 = .ok (.ireturn, 1) := by decide +kernel
theorem dX7_taught_0 : decode cX7_taught 0 = .ok (.aload_n 0, 1) := by decide +kernel
theorem dX7_taught_1 : decode cX7_taught 1 = .ok (.iload_n 1, 1) := by decide +kernel
theorem dX7_taught_2 : decode cX7_taught 2 = .ok (.invokevirtual 151, 3) := by decide +kernel
theorem dX7_taught_5 : decode cX7_taught 5 = .ok (.ifCond .ne 6, 3) := by decide +kernel
theorem dX7_taught_8 : decode cX7_taught 8 = .ok (.ldc 67, 2) := by decide +kernel
theorem dX7_taught_10 : decode cX7_taught 10 = .ok (.ireturn, 1) := by decide +kernel
theorem dX7_taught_11 : decode cX7_taught 11 = .ok (.aload_n 0, 1) := by decide +kernel
theorem dX7_taught_12 : decode cX7_taught 12 = .ok (.iload_n 1, 1) := by decide +kernel
theorem dX7_taught_13 : decode cX7_taught 13 = .ok (.invokevirtual 174, 3) := by decide +kernel
theorem dX7_taught_16 : decode cX7_taught 16 = .ok (.ifCond .eq 7, 3) := by decide +kernel
theorem dX7_taught_19 : decode cX7_taught 19 = .ok (.iconst 0, 1) := by decide +kernel
theorem dX7_taught_20 : decode cX7_taught 20 = .ok (.goto 16, 3) := by decide +kernel
theorem dX7_taught_23 : decode cX7_taught 23 = .ok (.aload_n 0, 1) := by decide +kernel
theorem dX7_taught_24 : decode cX7_taught 24 = .ok (.iload_n 1, 1) := by decide +kernel
theorem dX7_taught_25 : decode cX7_taught 25 = .ok (.iconst 1, 1) := by decide +kernel
theorem dX7_taught_26 : decode cX7_taught 26 = .ok (.invokevirtual 144, 3) := by decide +kernel
theorem dX7_taught_29 : decode cX7_taught 29 = .ok (.aload_n 0, 1) := by decide +kernel
theorem dX7_taught_30 : decode cX7_taught 30 = .ok (.iload_n 1, 1) := by decide +kernel
theorem dX7_taught_31 : decode cX7_taught 31 = .ok (.iconst 2, 1) := by decide +kernel
theorem dX7_taught_32 : decode cX7_taught 32 = .ok (.invokevirtual 144, 3) := by decide +kernel
theorem dX7_taught_35 : decode cX7_taught 35 = .ok (.isub, 1) := by decide +kernel
theorem dX7_taught_36 : decode cX7_taught 36 = .ok (.ireturn, 1) := by decide +kernel
theorem dX7_bestGuest_0 : decode cX7_bestGuest 0 = .ok (.aload_n 0, 1) := by decide +kernel
theorem dX7_bestGuest_1 : decode cX7_bestGuest 1 = .ok (.invokevirtual 198, 3) := by decide +kernel
theorem dX7_bestGuest_4 : decode cX7_bestGuest 4 = .ok (.ifCond .ne 6, 3) := by decide +kernel
theorem dX7_bestGuest_7 : decode cX7_bestGuest 7 = .ok (.ldc 157, 2) := by decide +kernel
theorem dX7_bestGuest_9 : decode cX7_bestGuest 9 = .ok (.ireturn, 1) := by decide +kernel
theorem dX7_bestGuest_10 : decode cX7_bestGuest 10 = .ok (.iload_n 1, 1) := by decide +kernel
theorem dX7_bestGuest_11 : decode cX7_bestGuest 11 = .ok (.iconst 0, 1) := by decide +kernel
theorem dX7_bestGuest_12 : decode cX7_bestGuest 12 = .ok (.iconst 1, 1) := by decide +kernel
theorem dX7_bestGuest_13 : decode cX7_bestGuest 13 = .ok (.invokestatic 59, 3) := by decide +kernel
theorem dX7_bestGuest_16 : decode cX7_bestGuest 16 = .ok (.ifCond .ne 6, 3) := by decide +kernel
theorem dX7_bestGuest_19 : decode cX7_bestGuest 19 = .ok (.ldc 67, 2) := by decide +kernel
theorem dX7_bestGuest_21 : decode cX7_bestGuest 21 = .ok (.ireturn, 1) := by decide +kernel
theorem dX7_bestGuest_22 : decode cX7_bestGuest 22 = .ok (.ldc 53, 2) := by decide +kernel
theorem dX7_bestGuest_24 : decode cX7_bestGuest 24 = .ok (.istore_n 2, 1) := by decide +kernel
theorem dX7_bestGuest_25 : decode cX7_bestGuest 25 = .ok (.ldc 53, 2) := by decide +kernel
theorem dX7_bestGuest_27 : decode cX7_bestGuest 27 = .ok (.istore_n 3, 1) := by decide +kernel
theorem dX7_bestGuest_28 : decode cX7_bestGuest 28 = .ok (.iconst 0, 1) := by decide +kernel
theorem dX7_bestGuest_29 : decode cX7_bestGuest 29 = .ok (.istore 4, 2) := by decide +kernel
theorem dX7_bestGuest_31 : decode cX7_bestGuest 31 = .ok (.iload 4, 2) := by decide +kernel
theorem dX7_bestGuest_33 : decode cX7_bestGuest 33 = .ok (.aload_n 0, 1) := by decide +kernel
theorem dX7_bestGuest_34 : decode cX7_bestGuest 34 = .ok (.getfield 25, 3) := by decide +kernel
theorem dX7_bestGuest_37 : decode cX7_bestGuest 37 = .ok (.bipush 8, 2) := by decide +kernel
theorem dX7_bestGuest_39 : decode cX7_bestGuest 39 = .ok (.iaload, 1) := by decide +kernel
theorem dX7_bestGuest_40 : decode cX7_bestGuest 40 = .ok (.if_icmp .ge 74, 3) := by decide +kernel
theorem dX7_bestGuest_43 : decode cX7_bestGuest 43 = .ok (.aload_n 0, 1) := by decide +kernel
theorem dX7_bestGuest_44 : decode cX7_bestGuest 44 = .ok (.iload 4, 2) := by decide +kernel
theorem dX7_bestGuest_46 : decode cX7_bestGuest 46 = .ok (.invokevirtual 154, 3) := by decide +kernel
theorem dX7_bestGuest_49 : decode cX7_bestGuest 49 = .ok (.ifCond .eq 59, 3) := by decide +kernel
theorem dX7_bestGuest_52 : decode cX7_bestGuest 52 = .ok (.aload_n 0, 1) := by decide +kernel
theorem dX7_bestGuest_53 : decode cX7_bestGuest 53 = .ok (.iload 4, 2) := by decide +kernel
theorem dX7_bestGuest_55 : decode cX7_bestGuest 55 = .ok (.invokevirtual 174, 3) := by decide +kernel
theorem dX7_bestGuest_58 : decode cX7_bestGuest 58 = .ok (.ifCond .eq 50, 3) := by decide +kernel
theorem dX7_bestGuest_61 : decode cX7_bestGuest 61 = .ok (.aload_n 0, 1) := by decide +kernel
theorem dX7_bestGuest_62 : decode cX7_bestGuest 62 = .ok (.iload 4, 2) := by decide +kernel
theorem dX7_bestGuest_64 : decode cX7_bestGuest 64 = .ok (.invokevirtual 194, 3) := by decide +kernel
theorem dX7_bestGuest_67 : decode cX7_bestGuest 67 = .ok (.aload_n 0, 1) := by decide +kernel
theorem dX7_bestGuest_68 : decode cX7_bestGuest 68 = .ok (.aload_n 0, 1) := by decide +kernel
theorem dX7_bestGuest_69 : decode cX7_bestGuest 69 = .ok (.invokevirtual 177, 3) := by decide +kernel
theorem dX7_bestGuest_72 : decode cX7_bestGuest 72 = .ok (.aload_n 0, 1) := by decide +kernel
theorem dX7_bestGuest_73 : decode cX7_bestGuest 73 = .ok (.getfield 25, 3) := by decide +kernel
theorem dX7_bestGuest_76 : decode cX7_bestGuest 76 = .ok (.iconst 0, 1) := by decide +kernel
theorem dX7_bestGuest_77 : decode cX7_bestGuest 77 = .ok (.iaload, 1) := by decide +kernel
theorem dX7_bestGuest_78 : decode cX7_bestGuest 78 = .ok (.invokevirtual 201, 3) := by decide +kernel
theorem dX7_bestGuest_81 : decode cX7_bestGuest 81 = .ok (.istore 5, 2) := by decide +kernel
theorem dX7_bestGuest_83 : decode cX7_bestGuest 83 = .ok (.iload 5, 2) := by decide +kernel
theorem dX7_bestGuest_85 : decode cX7_bestGuest 85 = .ok (.ldc 53, 2) := by decide +kernel
theorem dX7_bestGuest_87 : decode cX7_bestGuest 87 = .ok (.if_icmp .eq 21, 3) := by decide +kernel
theorem dX7_bestGuest_90 : decode cX7_bestGuest 90 = .ok (.iload_n 3, 1) := by decide +kernel
theorem dX7_bestGuest_91 : decode cX7_bestGuest 91 = .ok (.ldc 53, 2) := by decide +kernel
theorem dX7_bestGuest_93 : decode cX7_bestGuest 93 = .ok (.if_icmp .eq 9, 3) := by decide +kernel
theorem dX7_bestGuest_96 : decode cX7_bestGuest 96 = .ok (.iload 5, 2) := by decide +kernel
theorem dX7_bestGuest_98 : decode cX7_bestGuest 98 = .ok (.iload_n 3, 1) := by decide +kernel
theorem dX7_bestGuest_99 : decode cX7_bestGuest 99 = .ok (.if_icmp .ge 9, 3) := by decide +kernel
theorem dX7_bestGuest_102 : decode cX7_bestGuest 102 = .ok (.iload 4, 2) := by decide +kernel
theorem dX7_bestGuest_104 : decode cX7_bestGuest 104 = .ok (.istore_n 2, 1) := by decide +kernel
theorem dX7_bestGuest_105 : decode cX7_bestGuest 105 = .ok (.iload 5, 2) := by decide +kernel
theorem dX7_bestGuest_107 : decode cX7_bestGuest 107 = .ok (.istore_n 3, 1) := by decide +kernel
theorem dX7_bestGuest_108 : decode cX7_bestGuest 108 = .ok (.iinc 4 1, 3) := by decide +kernel
theorem dX7_bestGuest_111 : decode cX7_bestGuest 111 = .ok (.goto (-80), 3) := by decide +kernel
theorem dX7_bestGuest_114 : decode cX7_bestGuest 114 = .ok (.iload_n 1, 1) := by decide +kernel
theorem dX7_bestGuest_115 : decode cX7_bestGuest 115 = .ok (.ifCond .ne 7, 3) := by decide +kernel
theorem dX7_bestGuest_118 : decode cX7_bestGuest 118 = .ok (.iload_n 2, 1) := by decide +kernel
theorem dX7_bestGuest_119 : decode cX7_bestGuest 119 = .ok (.goto 4, 3) := by decide +kernel
theorem dX7_bestGuest_122 : decode cX7_bestGuest 122 = .ok (.iload_n 3, 1) := by decide +kernel
theorem dX7_bestGuest_123 : decode cX7_bestGuest 123 = .ok (.ireturn, 1) := by decide +kernel
theorem dX7_laysRoutes_0 : decode cX7_laysRoutes 0 = .ok (.iconst 0, 1) := by decide +kernel
theorem dX7_laysRoutes_1 : decode cX7_laysRoutes 1 = .ok (.istore_n 1, 1) := by decide +kernel
theorem dX7_laysRoutes_2 : decode cX7_laysRoutes 2 = .ok (.iload_n 1, 1) := by decide +kernel
theorem dX7_laysRoutes_3 : decode cX7_laysRoutes 3 = .ok (.aload_n 0, 1) := by decide +kernel
theorem dX7_laysRoutes_4 : decode cX7_laysRoutes 4 = .ok (.invokevirtual 177, 3) := by decide +kernel
theorem dX7_laysRoutes_7 : decode cX7_laysRoutes 7 = .ok (.if_icmp .gt 16, 3) := by decide +kernel
theorem dX7_laysRoutes_10 : decode cX7_laysRoutes 10 = .ok (.aload_n 0, 1) := by decide +kernel
theorem dX7_laysRoutes_11 : decode cX7_laysRoutes 11 = .ok (.getfield 47, 3) := by decide +kernel
theorem dX7_laysRoutes_14 : decode cX7_laysRoutes 14 = .ok (.iload_n 1, 1) := by decide +kernel
theorem dX7_laysRoutes_15 : decode cX7_laysRoutes 15 = .ok (.iconst 0, 1) := by decide +kernel
theorem dX7_laysRoutes_16 : decode cX7_laysRoutes 16 = .ok (.iastore, 1) := by decide +kernel
theorem dX7_laysRoutes_17 : decode cX7_laysRoutes 17 = .ok (.iinc 1 1, 3) := by decide +kernel
theorem dX7_laysRoutes_20 : decode cX7_laysRoutes 20 = .ok (.goto (-18), 3) := by decide +kernel
theorem dX7_laysRoutes_23 : decode cX7_laysRoutes 23 = .ok (.iconst 0, 1) := by decide +kernel
theorem dX7_laysRoutes_24 : decode cX7_laysRoutes 24 = .ok (.istore_n 1, 1) := by decide +kernel
theorem dX7_laysRoutes_25 : decode cX7_laysRoutes 25 = .ok (.iload_n 1, 1) := by decide +kernel
theorem dX7_laysRoutes_26 : decode cX7_laysRoutes 26 = .ok (.aload_n 0, 1) := by decide +kernel
theorem dX7_laysRoutes_27 : decode cX7_laysRoutes 27 = .ok (.getfield 25, 3) := by decide +kernel
theorem dX7_laysRoutes_30 : decode cX7_laysRoutes 30 = .ok (.bipush 8, 2) := by decide +kernel
theorem dX7_laysRoutes_32 : decode cX7_laysRoutes 32 = .ok (.iaload, 1) := by decide +kernel
theorem dX7_laysRoutes_33 : decode cX7_laysRoutes 33 = .ok (.if_icmp .ge 70, 3) := by decide +kernel
theorem dX7_laysRoutes_36 : decode cX7_laysRoutes 36 = .ok (.aload_n 0, 1) := by decide +kernel
theorem dX7_laysRoutes_37 : decode cX7_laysRoutes 37 = .ok (.iload_n 1, 1) := by decide +kernel
theorem dX7_laysRoutes_38 : decode cX7_laysRoutes 38 = .ok (.invokevirtual 154, 3) := by decide +kernel
theorem dX7_laysRoutes_41 : decode cX7_laysRoutes 41 = .ok (.ifCond .eq 56, 3) := by decide +kernel
theorem dX7_laysRoutes_44 : decode cX7_laysRoutes 44 = .ok (.aload_n 0, 1) := by decide +kernel
theorem dX7_laysRoutes_45 : decode cX7_laysRoutes 45 = .ok (.iload_n 1, 1) := by decide +kernel
theorem dX7_laysRoutes_46 : decode cX7_laysRoutes 46 = .ok (.invokevirtual 194, 3) := by decide +kernel
theorem dX7_laysRoutes_49 : decode cX7_laysRoutes 49 = .ok (.iconst 0, 1) := by decide +kernel
theorem dX7_laysRoutes_50 : decode cX7_laysRoutes 50 = .ok (.istore_n 2, 1) := by decide +kernel
theorem dX7_laysRoutes_51 : decode cX7_laysRoutes 51 = .ok (.iload_n 2, 1) := by decide +kernel
theorem dX7_laysRoutes_52 : decode cX7_laysRoutes 52 = .ok (.aload_n 0, 1) := by decide +kernel
theorem dX7_laysRoutes_53 : decode cX7_laysRoutes 53 = .ok (.invokevirtual 177, 3) := by decide +kernel
theorem dX7_laysRoutes_56 : decode cX7_laysRoutes 56 = .ok (.if_icmp .gt 41, 3) := by decide +kernel
theorem dX7_laysRoutes_59 : decode cX7_laysRoutes 59 = .ok (.aload_n 0, 1) := by decide +kernel
theorem dX7_laysRoutes_60 : decode cX7_laysRoutes 60 = .ok (.getfield 47, 3) := by decide +kernel
theorem dX7_laysRoutes_63 : decode cX7_laysRoutes 63 = .ok (.iload_n 2, 1) := by decide +kernel
theorem dX7_laysRoutes_64 : decode cX7_laysRoutes 64 = .ok (.dup2, 1) := by decide +kernel
theorem dX7_laysRoutes_65 : decode cX7_laysRoutes 65 = .ok (.iaload, 1) := by decide +kernel
theorem dX7_laysRoutes_66 : decode cX7_laysRoutes 66 = .ok (.aload_n 0, 1) := by decide +kernel
theorem dX7_laysRoutes_67 : decode cX7_laysRoutes 67 = .ok (.iload_n 2, 1) := by decide +kernel
theorem dX7_laysRoutes_68 : decode cX7_laysRoutes 68 = .ok (.aload_n 0, 1) := by decide +kernel
theorem dX7_laysRoutes_69 : decode cX7_laysRoutes 69 = .ok (.getfield 25, 3) := by decide +kernel
theorem dX7_laysRoutes_72 : decode cX7_laysRoutes 72 = .ok (.iconst 0, 1) := by decide +kernel
theorem dX7_laysRoutes_73 : decode cX7_laysRoutes 73 = .ok (.iaload, 1) := by decide +kernel
theorem dX7_laysRoutes_74 : decode cX7_laysRoutes 74 = .ok (.invokevirtual 201, 3) := by decide +kernel
theorem dX7_laysRoutes_77 : decode cX7_laysRoutes 77 = .ok (.ldc 53, 2) := by decide +kernel
theorem dX7_laysRoutes_79 : decode cX7_laysRoutes 79 = .ok (.if_icmp .ne 7, 3) := by decide +kernel
theorem dX7_laysRoutes_82 : decode cX7_laysRoutes 82 = .ok (.iconst 0, 1) := by decide +kernel
theorem dX7_laysRoutes_83 : decode cX7_laysRoutes 83 = .ok (.goto 6, 3) := by decide +kernel
theorem dX7_laysRoutes_86 : decode cX7_laysRoutes 86 = .ok (.iconst 1, 1) := by decide +kernel
theorem dX7_laysRoutes_87 : decode cX7_laysRoutes 87 = .ok (.iload_n 1, 1) := by decide +kernel
theorem dX7_laysRoutes_88 : decode cX7_laysRoutes 88 = .ok (.ishl, 1) := by decide +kernel
theorem dX7_laysRoutes_89 : decode cX7_laysRoutes 89 = .ok (.ior, 1) := by decide +kernel
theorem dX7_laysRoutes_90 : decode cX7_laysRoutes 90 = .ok (.iastore, 1) := by decide +kernel
theorem dX7_laysRoutes_91 : decode cX7_laysRoutes 91 = .ok (.iinc 2 1, 3) := by decide +kernel
theorem dX7_laysRoutes_94 : decode cX7_laysRoutes 94 = .ok (.goto (-43), 3) := by decide +kernel
theorem dX7_laysRoutes_97 : decode cX7_laysRoutes 97 = .ok (.iinc 1 1, 3) := by decide +kernel
theorem dX7_laysRoutes_100 : decode cX7_laysRoutes 100 = .ok (.goto (-75), 3) := by decide +kernel
theorem dX7_laysRoutes_103 : decode cX7_laysRoutes 103 = .ok (.return_, 1) := by decide +kernel
theorem dX7_allToCome_0 : decode cX7_allToCome 0 = .ok (.iconst 0, 1) := by decide +kernel
theorem dX7_allToCome_1 : decode cX7_allToCome 1 = .ok (.istore_n 1, 1) := by decide +kernel
theorem dX7_allToCome_2 : decode cX7_allToCome 2 = .ok (.iconst 0, 1) := by decide +kernel
theorem dX7_allToCome_3 : decode cX7_allToCome 3 = .ok (.istore_n 2, 1) := by decide +kernel
theorem dX7_allToCome_4 : decode cX7_allToCome 4 = .ok (.iload_n 2, 1) := by decide +kernel
theorem dX7_allToCome_5 : decode cX7_allToCome 5 = .ok (.aload_n 0, 1) := by decide +kernel
theorem dX7_allToCome_6 : decode cX7_allToCome 6 = .ok (.getfield 25, 3) := by decide +kernel
theorem dX7_allToCome_9 : decode cX7_allToCome 9 = .ok (.bipush 8, 2) := by decide +kernel
theorem dX7_allToCome_11 : decode cX7_allToCome 11 = .ok (.iaload, 1) := by decide +kernel
theorem dX7_allToCome_12 : decode cX7_allToCome 12 = .ok (.if_icmp .ge 27, 3) := by decide +kernel
theorem dX7_allToCome_15 : decode cX7_allToCome 15 = .ok (.iload_n 1, 1) := by decide +kernel
theorem dX7_allToCome_16 : decode cX7_allToCome 16 = .ok (.aload_n 0, 1) := by decide +kernel
theorem dX7_allToCome_17 : decode cX7_allToCome 17 = .ok (.iload_n 2, 1) := by decide +kernel
theorem dX7_allToCome_18 : decode cX7_allToCome 18 = .ok (.invokevirtual 154, 3) := by decide +kernel
theorem dX7_allToCome_21 : decode cX7_allToCome 21 = .ok (.ifCond .eq 9, 3) := by decide +kernel
theorem dX7_allToCome_24 : decode cX7_allToCome 24 = .ok (.iconst 1, 1) := by decide +kernel
theorem dX7_allToCome_25 : decode cX7_allToCome 25 = .ok (.iload_n 2, 1) := by decide +kernel
theorem dX7_allToCome_26 : decode cX7_allToCome 26 = .ok (.ishl, 1) := by decide +kernel
theorem dX7_allToCome_27 : decode cX7_allToCome 27 = .ok (.goto 4, 3) := by decide +kernel
theorem dX7_allToCome_30 : decode cX7_allToCome 30 = .ok (.iconst 0, 1) := by decide +kernel
theorem dX7_allToCome_31 : decode cX7_allToCome 31 = .ok (.ior, 1) := by decide +kernel
theorem dX7_allToCome_32 : decode cX7_allToCome 32 = .ok (.istore_n 1, 1) := by decide +kernel
theorem dX7_allToCome_33 : decode cX7_allToCome 33 = .ok (.iinc 2 1, 3) := by decide +kernel
theorem dX7_allToCome_36 : decode cX7_allToCome 36 = .ok (.goto (-32), 3) := by decide +kernel
theorem dX7_allToCome_39 : decode cX7_allToCome 39 = .ok (.iload_n 1, 1) := by decide +kernel
theorem dX7_allToCome_40 : decode cX7_allToCome 40 = .ok (.ireturn, 1) := by decide +kernel
theorem dX7_cover_0 : decode cX7_cover 0 = .ok (.aload_n 0, 1) := by decide +kernel
theorem dX7_cover_1 : decode cX7_cover 1 = .ok (.invokevirtual 198, 3) := by decide +kernel
theorem dX7_cover_4 : decode cX7_cover 4 = .ok (.ifCond .ne 6, 3) := by decide +kernel
theorem dX7_cover_7 : decode cX7_cover 7 = .ok (.ldc 157, 2) := by decide +kernel
theorem dX7_cover_9 : decode cX7_cover 9 = .ok (.ireturn, 1) := by decide +kernel
theorem dX7_cover_10 : decode cX7_cover 10 = .ok (.iload_n 1, 1) := by decide +kernel
theorem dX7_cover_11 : decode cX7_cover 11 = .ok (.iconst 0, 1) := by decide +kernel
theorem dX7_cover_12 : decode cX7_cover 12 = .ok (.iconst 1, 1) := by decide +kernel
theorem dX7_cover_13 : decode cX7_cover 13 = .ok (.invokestatic 59, 3) := by decide +kernel
theorem dX7_cover_16 : decode cX7_cover 16 = .ok (.ifCond .ne 6, 3) := by decide +kernel
theorem dX7_cover_19 : decode cX7_cover 19 = .ok (.ldc 67, 2) := by decide +kernel
theorem dX7_cover_21 : decode cX7_cover 21 = .ok (.ireturn, 1) := by decide +kernel
theorem dX7_cover_22 : decode cX7_cover 22 = .ok (.aload_n 0, 1) := by decide +kernel
theorem dX7_cover_23 : decode cX7_cover 23 = .ok (.invokevirtual 204, 3) := by decide +kernel
theorem dX7_cover_26 : decode cX7_cover 26 = .ok (.ldc 53, 2) := by decide +kernel
theorem dX7_cover_28 : decode cX7_cover 28 = .ok (.istore_n 2, 1) := by decide +kernel
theorem dX7_cover_29 : decode cX7_cover 29 = .ok (.iconst 0, 1) := by decide +kernel
theorem dX7_cover_30 : decode cX7_cover 30 = .ok (.istore_n 3, 1) := by decide +kernel
theorem dX7_cover_31 : decode cX7_cover 31 = .ok (.iload_n 3, 1) := by decide +kernel
theorem dX7_cover_32 : decode cX7_cover 32 = .ok (.aload_n 0, 1) := by decide +kernel
theorem dX7_cover_33 : decode cX7_cover 33 = .ok (.invokevirtual 177, 3) := by decide +kernel
theorem dX7_cover_36 : decode cX7_cover 36 = .ok (.if_icmp .gt 57, 3) := by decide +kernel
theorem dX7_cover_39 : decode cX7_cover 39 = .ok (.aload_n 0, 1) := by decide +kernel
theorem dX7_cover_40 : decode cX7_cover 40 = .ok (.getfield 47, 3) := by decide +kernel
theorem dX7_cover_43 : decode cX7_cover 43 = .ok (.iload_n 3, 1) := by decide +kernel
theorem dX7_cover_44 : decode cX7_cover 44 = .ok (.iaload, 1) := by decide +kernel
theorem dX7_cover_45 : decode cX7_cover 45 = .ok (.aload_n 0, 1) := by decide +kernel
theorem dX7_cover_46 : decode cX7_cover 46 = .ok (.invokevirtual 207, 3) := by decide +kernel
theorem dX7_cover_49 : decode cX7_cover 49 = .ok (.if_icmp .ne 24, 3) := by decide +kernel
theorem dX7_cover_52 : decode cX7_cover 52 = .ok (.iload_n 2, 1) := by decide +kernel
theorem dX7_cover_53 : decode cX7_cover 53 = .ok (.ldc 53, 2) := by decide +kernel
theorem dX7_cover_55 : decode cX7_cover 55 = .ok (.if_icmp .eq 14, 3) := by decide +kernel
theorem dX7_cover_58 : decode cX7_cover 58 = .ok (.iload_n 3, 1) := by decide +kernel
theorem dX7_cover_59 : decode cX7_cover 59 = .ok (.invokestatic 168, 3) := by decide +kernel
theorem dX7_cover_62 : decode cX7_cover 62 = .ok (.iload_n 2, 1) := by decide +kernel
theorem dX7_cover_63 : decode cX7_cover 63 = .ok (.invokestatic 168, 3) := by decide +kernel
theorem dX7_cover_66 : decode cX7_cover 66 = .ok (.if_icmp .ge 7, 3) := by decide +kernel
theorem dX7_cover_69 : decode cX7_cover 69 = .ok (.iconst 1, 1) := by decide +kernel
theorem dX7_cover_70 : decode cX7_cover 70 = .ok (.goto 4, 3) := by decide +kernel
theorem dX7_cover_73 : decode cX7_cover 73 = .ok (.iconst 0, 1) := by decide +kernel
theorem dX7_cover_74 : decode cX7_cover 74 = .ok (.istore 4, 2) := by decide +kernel
theorem dX7_cover_76 : decode cX7_cover 76 = .ok (.iload 4, 2) := by decide +kernel
theorem dX7_cover_78 : decode cX7_cover 78 = .ok (.ifCond .eq 7, 3) := by decide +kernel
theorem dX7_cover_81 : decode cX7_cover 81 = .ok (.iload_n 3, 1) := by decide +kernel
theorem dX7_cover_82 : decode cX7_cover 82 = .ok (.goto 4, 3) := by decide +kernel
theorem dX7_cover_85 : decode cX7_cover 85 = .ok (.iload_n 2, 1) := by decide +kernel
theorem dX7_cover_86 : decode cX7_cover 86 = .ok (.istore_n 2, 1) := by decide +kernel
theorem dX7_cover_87 : decode cX7_cover 87 = .ok (.iinc 3 1, 3) := by decide +kernel
theorem dX7_cover_90 : decode cX7_cover 90 = .ok (.goto (-59), 3) := by decide +kernel
theorem dX7_cover_93 : decode cX7_cover 93 = .ok (.iload_n 2, 1) := by decide +kernel
theorem dX7_cover_94 : decode cX7_cover 94 = .ok (.ldc 53, 2) := by decide +kernel
theorem dX7_cover_96 : decode cX7_cover 96 = .ok (.if_icmp .eq 8, 3) := by decide +kernel
theorem dX7_cover_99 : decode cX7_cover 99 = .ok (.iload_n 1, 1) := by decide +kernel
theorem dX7_cover_100 : decode cX7_cover 100 = .ok (.iconst 1, 1) := by decide +kernel
theorem dX7_cover_101 : decode cX7_cover 101 = .ok (.if_icmp .ne 7, 3) := by decide +kernel
theorem dX7_cover_104 : decode cX7_cover 104 = .ok (.iload_n 2, 1) := by decide +kernel
theorem dX7_cover_105 : decode cX7_cover 105 = .ok (.goto 7, 3) := by decide +kernel
theorem dX7_cover_108 : decode cX7_cover 108 = .ok (.iload_n 2, 1) := by decide +kernel
theorem dX7_cover_109 : decode cX7_cover 109 = .ok (.invokestatic 168, 3) := by decide +kernel
theorem dX7_cover_112 : decode cX7_cover 112 = .ok (.ireturn, 1) := by decide +kernel
theorem dX7_spoilt_0 : decode cX7_spoilt 0 = .ok (.aload_n 0, 1) := by decide +kernel
theorem dX7_spoilt_1 : decode cX7_spoilt 1 = .ok (.invokevirtual 198, 3) := by decide +kernel
theorem dX7_spoilt_4 : decode cX7_spoilt 4 = .ok (.ifCond .ne 6, 3) := by decide +kernel
theorem dX7_spoilt_7 : decode cX7_spoilt 7 = .ok (.ldc 157, 2) := by decide +kernel
theorem dX7_spoilt_9 : decode cX7_spoilt 9 = .ok (.ireturn, 1) := by decide +kernel
theorem dX7_spoilt_10 : decode cX7_spoilt 10 = .ok (.iload_n 1, 1) := by decide +kernel
theorem dX7_spoilt_11 : decode cX7_spoilt 11 = .ok (.iconst 0, 1) := by decide +kernel
theorem dX7_spoilt_12 : decode cX7_spoilt 12 = .ok (.iconst 1, 1) := by decide +kernel
theorem dX7_spoilt_13 : decode cX7_spoilt 13 = .ok (.invokestatic 59, 3) := by decide +kernel
theorem dX7_spoilt_16 : decode cX7_spoilt 16 = .ok (.ifCond .ne 6, 3) := by decide +kernel
theorem dX7_spoilt_19 : decode cX7_spoilt 19 = .ok (.ldc 67, 2) := by decide +kernel
theorem dX7_spoilt_21 : decode cX7_spoilt 21 = .ok (.ireturn, 1) := by decide +kernel
theorem dX7_spoilt_22 : decode cX7_spoilt 22 = .ok (.aload_n 0, 1) := by decide +kernel
theorem dX7_spoilt_23 : decode cX7_spoilt 23 = .ok (.invokevirtual 204, 3) := by decide +kernel
theorem dX7_spoilt_26 : decode cX7_spoilt 26 = .ok (.ldc 53, 2) := by decide +kernel
theorem dX7_spoilt_28 : decode cX7_spoilt 28 = .ok (.istore_n 2, 1) := by decide +kernel
theorem dX7_spoilt_29 : decode cX7_spoilt 29 = .ok (.ldc 53, 2) := by decide +kernel
theorem dX7_spoilt_31 : decode cX7_spoilt 31 = .ok (.istore_n 3, 1) := by decide +kernel
theorem dX7_spoilt_32 : decode cX7_spoilt 32 = .ok (.iconst 0, 1) := by decide +kernel
theorem dX7_spoilt_33 : decode cX7_spoilt 33 = .ok (.istore 4, 2) := by decide +kernel
theorem dX7_spoilt_35 : decode cX7_spoilt 35 = .ok (.iload 4, 2) := by decide +kernel
theorem dX7_spoilt_37 : decode cX7_spoilt 37 = .ok (.aload_n 0, 1) := by decide +kernel
theorem dX7_spoilt_38 : decode cX7_spoilt 38 = .ok (.getfield 25, 3) := by decide +kernel
theorem dX7_spoilt_41 : decode cX7_spoilt 41 = .ok (.bipush 7, 2) := by decide +kernel
theorem dX7_spoilt_43 : decode cX7_spoilt 43 = .ok (.iaload, 1) := by decide +kernel
theorem dX7_spoilt_44 : decode cX7_spoilt 44 = .ok (.if_icmp .ge 48, 3) := by decide +kernel
theorem dX7_spoilt_47 : decode cX7_spoilt 47 = .ok (.aload_n 0, 1) := by decide +kernel
theorem dX7_spoilt_48 : decode cX7_spoilt 48 = .ok (.getfield 47, 3) := by decide +kernel
theorem dX7_spoilt_51 : decode cX7_spoilt 51 = .ok (.aload_n 0, 1) := by decide +kernel
theorem dX7_spoilt_52 : decode cX7_spoilt 52 = .ok (.invokevirtual 177, 3) := by decide +kernel
theorem dX7_spoilt_55 : decode cX7_spoilt 55 = .ok (.iconst 1, 1) := by decide +kernel
theorem dX7_spoilt_56 : decode cX7_spoilt 56 = .ok (.iload 4, 2) := by decide +kernel
theorem dX7_spoilt_58 : decode cX7_spoilt 58 = .ok (.ishl, 1) := by decide +kernel
theorem dX7_spoilt_59 : decode cX7_spoilt 59 = .ok (.iconst (-1), 1) := by decide +kernel
theorem dX7_spoilt_60 : decode cX7_spoilt 60 = .ok (.ixor, 1) := by decide +kernel
theorem dX7_spoilt_61 : decode cX7_spoilt 61 = .ok (.iand, 1) := by decide +kernel
theorem dX7_spoilt_62 : decode cX7_spoilt 62 = .ok (.iaload, 1) := by decide +kernel
theorem dX7_spoilt_63 : decode cX7_spoilt 63 = .ok (.invokestatic 168, 3) := by decide +kernel
theorem dX7_spoilt_66 : decode cX7_spoilt 66 = .ok (.istore 5, 2) := by decide +kernel
theorem dX7_spoilt_68 : decode cX7_spoilt 68 = .ok (.iload_n 2, 1) := by decide +kernel
theorem dX7_spoilt_69 : decode cX7_spoilt 69 = .ok (.ldc 53, 2) := by decide +kernel
theorem dX7_spoilt_71 : decode cX7_spoilt 71 = .ok (.if_icmp .eq 9, 3) := by decide +kernel
theorem dX7_spoilt_74 : decode cX7_spoilt 74 = .ok (.iload 5, 2) := by decide +kernel
theorem dX7_spoilt_76 : decode cX7_spoilt 76 = .ok (.iload_n 3, 1) := by decide +kernel
theorem dX7_spoilt_77 : decode cX7_spoilt 77 = .ok (.if_icmp .ge 9, 3) := by decide +kernel
theorem dX7_spoilt_80 : decode cX7_spoilt 80 = .ok (.iload 4, 2) := by decide +kernel
theorem dX7_spoilt_82 : decode cX7_spoilt 82 = .ok (.istore_n 2, 1) := by decide +kernel
theorem dX7_spoilt_83 : decode cX7_spoilt 83 = .ok (.iload 5, 2) := by decide +kernel
theorem dX7_spoilt_85 : decode cX7_spoilt 85 = .ok (.istore_n 3, 1) := by decide +kernel
theorem dX7_spoilt_86 : decode cX7_spoilt 86 = .ok (.iinc 4 1, 3) := by decide +kernel
theorem dX7_spoilt_89 : decode cX7_spoilt 89 = .ok (.goto (-54), 3) := by decide +kernel
theorem dX7_spoilt_92 : decode cX7_spoilt 92 = .ok (.iload_n 1, 1) := by decide +kernel
theorem dX7_spoilt_93 : decode cX7_spoilt 93 = .ok (.ifCond .ne 7, 3) := by decide +kernel
theorem dX7_spoilt_96 : decode cX7_spoilt 96 = .ok (.iload_n 2, 1) := by decide +kernel
theorem dX7_spoilt_97 : decode cX7_spoilt 97 = .ok (.goto 4, 3) := by decide +kernel
theorem dX7_spoilt_100 : decode cX7_spoilt 100 = .ok (.iload_n 3, 1) := by decide +kernel
theorem dX7_spoilt_101 : decode cX7_spoilt 101 = .ok (.ireturn, 1) := by decide +kernel
theorem dX7_thinksBy_0 : decode cX7_thinksBy 0 = .ok (.iconst 0, 1) := by decide +kernel
theorem dX7_thinksBy_1 : decode cX7_thinksBy 1 = .ok (.istore 4, 2) := by decide +kernel
theorem dX7_thinksBy_3 : decode cX7_thinksBy 3 = .ok (.iload 4, 2) := by decide +kernel
theorem dX7_thinksBy_5 : decode cX7_thinksBy 5 = .ok (.bipush 8, 2) := by decide +kernel
theorem dX7_thinksBy_7 : decode cX7_thinksBy 7 = .ok (.if_icmp .ge 30, 3) := by decide +kernel
theorem dX7_thinksBy_10 : decode cX7_thinksBy 10 = .ok (.aload_n 0, 1) := by decide +kernel
theorem dX7_thinksBy_11 : decode cX7_thinksBy 11 = .ok (.getfield 50, 3) := by decide +kernel
theorem dX7_thinksBy_14 : decode cX7_thinksBy 14 = .ok (.iload 4, 2) := by decide +kernel
theorem dX7_thinksBy_16 : decode cX7_thinksBy 16 = .ok (.aload_n 0, 1) := by decide +kernel
theorem dX7_thinksBy_17 : decode cX7_thinksBy 17 = .ok (.getfield 25, 3) := by decide +kernel
theorem dX7_thinksBy_20 : decode cX7_thinksBy 20 = .ok (.bipush 9, 2) := by decide +kernel
theorem dX7_thinksBy_22 : decode cX7_thinksBy 22 = .ok (.iconst 4, 1) := by decide +kernel
theorem dX7_thinksBy_23 : decode cX7_thinksBy 23 = .ok (.iload 4, 2) := by decide +kernel
theorem dX7_thinksBy_25 : decode cX7_thinksBy 25 = .ok (.imul, 1) := by decide +kernel
theorem dX7_thinksBy_26 : decode cX7_thinksBy 26 = .ok (.iadd, 1) := by decide +kernel
theorem dX7_thinksBy_27 : decode cX7_thinksBy 27 = .ok (.iconst 3, 1) := by decide +kernel
theorem dX7_thinksBy_28 : decode cX7_thinksBy 28 = .ok (.iadd, 1) := by decide +kernel
theorem dX7_thinksBy_29 : decode cX7_thinksBy 29 = .ok (.iaload, 1) := by decide +kernel
theorem dX7_thinksBy_30 : decode cX7_thinksBy 30 = .ok (.iastore, 1) := by decide +kernel
theorem dX7_thinksBy_31 : decode cX7_thinksBy 31 = .ok (.iinc 4 1, 3) := by decide +kernel
theorem dX7_thinksBy_34 : decode cX7_thinksBy 34 = .ok (.goto (-31), 3) := by decide +kernel
theorem dX7_thinksBy_37 : decode cX7_thinksBy 37 = .ok (.aload_n 0, 1) := by decide +kernel
theorem dX7_thinksBy_38 : decode cX7_thinksBy 38 = .ok (.iload_n 1, 1) := by decide +kernel
theorem dX7_thinksBy_39 : decode cX7_thinksBy 39 = .ok (.iconst 0, 1) := by decide +kernel
theorem dX7_thinksBy_40 : decode cX7_thinksBy 40 = .ok (.invokevirtual 144, 3) := by decide +kernel
theorem dX7_thinksBy_43 : decode cX7_thinksBy 43 = .ok (.istore 4, 2) := by decide +kernel
theorem dX7_thinksBy_45 : decode cX7_thinksBy 45 = .ok (.iconst 0, 1) := by decide +kernel
theorem dX7_thinksBy_46 : decode cX7_thinksBy 46 = .ok (.istore 5, 2) := by decide +kernel
theorem dX7_thinksBy_48 : decode cX7_thinksBy 48 = .ok (.iload 5, 2) := by decide +kernel
theorem dX7_thinksBy_50 : decode cX7_thinksBy 50 = .ok (.iload_n 3, 1) := by decide +kernel
theorem dX7_thinksBy_51 : decode cX7_thinksBy 51 = .ok (.if_icmp .ge 48, 3) := by decide +kernel
theorem dX7_thinksBy_54 : decode cX7_thinksBy 54 = .ok (.aload_n 0, 1) := by decide +kernel
theorem dX7_thinksBy_55 : decode cX7_thinksBy 55 = .ok (.getfield 16, 3) := by decide +kernel
theorem dX7_thinksBy_58 : decode cX7_thinksBy 58 = .ok (.iload_n 2, 1) := by decide +kernel
theorem dX7_thinksBy_59 : decode cX7_thinksBy 59 = .ok (.iload 5, 2) := by decide +kernel
theorem dX7_thinksBy_61 : decode cX7_thinksBy 61 = .ok (.iadd, 1) := by decide +kernel
theorem dX7_thinksBy_62 : decode cX7_thinksBy 62 = .ok (.iaload, 1) := by decide +kernel
theorem dX7_thinksBy_63 : decode cX7_thinksBy 63 = .ok (.istore 6, 2) := by decide +kernel
theorem dX7_thinksBy_65 : decode cX7_thinksBy 65 = .ok (.aload_n 0, 1) := by decide +kernel
theorem dX7_thinksBy_66 : decode cX7_thinksBy 66 = .ok (.iload 6, 2) := by decide +kernel
theorem dX7_thinksBy_68 : decode cX7_thinksBy 68 = .ok (.iload 4, 2) := by decide +kernel
theorem dX7_thinksBy_70 : decode cX7_thinksBy 70 = .ok (.aload_n 0, 1) := by decide +kernel
theorem dX7_thinksBy_71 : decode cX7_thinksBy 71 = .ok (.getfield 50, 3) := by decide +kernel
theorem dX7_thinksBy_74 : decode cX7_thinksBy 74 = .ok (.iload 6, 2) := by decide +kernel
theorem dX7_thinksBy_76 : decode cX7_thinksBy 76 = .ok (.iaload, 1) := by decide +kernel
theorem dX7_thinksBy_77 : decode cX7_thinksBy 77 = .ok (.invokevirtual 147, 3) := by decide +kernel
theorem dX7_thinksBy_80 : decode cX7_thinksBy 80 = .ok (.istore 4, 2) := by decide +kernel
theorem dX7_thinksBy_82 : decode cX7_thinksBy 82 = .ok (.aload_n 0, 1) := by decide +kernel
theorem dX7_thinksBy_83 : decode cX7_thinksBy 83 = .ok (.getfield 50, 3) := by decide +kernel
theorem dX7_thinksBy_86 : decode cX7_thinksBy 86 = .ok (.iload 6, 2) := by decide +kernel
theorem dX7_thinksBy_88 : decode cX7_thinksBy 88 = .ok (.dup2, 1) := by decide +kernel
theorem dX7_thinksBy_89 : decode cX7_thinksBy 89 = .ok (.iaload, 1) := by decide +kernel
theorem dX7_thinksBy_90 : decode cX7_thinksBy 90 = .ok (.iconst 1, 1) := by decide +kernel
theorem dX7_thinksBy_91 : decode cX7_thinksBy 91 = .ok (.iadd, 1) := by decide +kernel
theorem dX7_thinksBy_92 : decode cX7_thinksBy 92 = .ok (.iastore, 1) := by decide +kernel
theorem dX7_thinksBy_93 : decode cX7_thinksBy 93 = .ok (.iinc 5 1, 3) := by decide +kernel
theorem dX7_thinksBy_96 : decode cX7_thinksBy 96 = .ok (.goto (-48), 3) := by decide +kernel
theorem dX7_thinksBy_99 : decode cX7_thinksBy 99 = .ok (.iload 4, 2) := by decide +kernel
theorem dX7_thinksBy_101 : decode cX7_thinksBy 101 = .ok (.ireturn, 1) := by decide +kernel
theorem dX7_nearly_0 : decode cX7_nearly 0 = .ok (.aload_n 0, 1) := by decide +kernel
theorem dX7_nearly_1 : decode cX7_nearly 1 = .ok (.invokevirtual 198, 3) := by decide +kernel
theorem dX7_nearly_4 : decode cX7_nearly 4 = .ok (.ifCond .ne 6, 3) := by decide +kernel
theorem dX7_nearly_7 : decode cX7_nearly 7 = .ok (.ldc 157, 2) := by decide +kernel
theorem dX7_nearly_9 : decode cX7_nearly 9 = .ok (.ireturn, 1) := by decide +kernel
theorem dX7_nearly_10 : decode cX7_nearly 10 = .ok (.iload_n 1, 1) := by decide +kernel
theorem dX7_nearly_11 : decode cX7_nearly 11 = .ok (.invokestatic 63, 3) := by decide +kernel
theorem dX7_nearly_14 : decode cX7_nearly 14 = .ok (.ifCond .eq 13, 3) := by decide +kernel
theorem dX7_nearly_17 : decode cX7_nearly 17 = .ok (.iload_n 3, 1) := by decide +kernel
theorem dX7_nearly_18 : decode cX7_nearly 18 = .ok (.iconst 0, 1) := by decide +kernel
theorem dX7_nearly_19 : decode cX7_nearly 19 = .ok (.bipush 8, 2) := by decide +kernel
theorem dX7_nearly_21 : decode cX7_nearly 21 = .ok (.invokestatic 59, 3) := by decide +kernel
theorem dX7_nearly_24 : decode cX7_nearly 24 = .ok (.ifCond .ne 6, 3) := by decide +kernel
theorem dX7_nearly_27 : decode cX7_nearly 27 = .ok (.ldc 67, 2) := by decide +kernel
theorem dX7_nearly_29 : decode cX7_nearly 29 = .ok (.ireturn, 1) := by decide +kernel
theorem dX7_nearly_30 : decode cX7_nearly 30 = .ok (.aload_n 0, 1) := by decide +kernel
theorem dX7_nearly_31 : decode cX7_nearly 31 = .ok (.iload_n 1, 1) := by decide +kernel
theorem dX7_nearly_32 : decode cX7_nearly 32 = .ok (.invokevirtual 75, 3) := by decide +kernel
theorem dX7_nearly_35 : decode cX7_nearly 35 = .ok (.ifCond .eq 9, 3) := by decide +kernel
theorem dX7_nearly_38 : decode cX7_nearly 38 = .ok (.aload_n 0, 1) := by decide +kernel
theorem dX7_nearly_39 : decode cX7_nearly 39 = .ok (.iconst 1, 1) := by decide +kernel
theorem dX7_nearly_40 : decode cX7_nearly 40 = .ok (.invokevirtual 68, 3) := by decide +kernel
theorem dX7_nearly_43 : decode cX7_nearly 43 = .ok (.ireturn, 1) := by decide +kernel
theorem dX7_nearly_44 : decode cX7_nearly 44 = .ok (.aload_n 0, 1) := by decide +kernel
theorem dX7_nearly_45 : decode cX7_nearly 45 = .ok (.iload_n 1, 1) := by decide +kernel
theorem dX7_nearly_46 : decode cX7_nearly 46 = .ok (.iload_n 2, 1) := by decide +kernel
theorem dX7_nearly_47 : decode cX7_nearly 47 = .ok (.iload_n 3, 1) := by decide +kernel
theorem dX7_nearly_48 : decode cX7_nearly 48 = .ok (.invokevirtual 82, 3) := by decide +kernel
theorem dX7_nearly_51 : decode cX7_nearly 51 = .ok (.ifCond .ne 9, 3) := by decide +kernel
theorem dX7_nearly_54 : decode cX7_nearly 54 = .ok (.aload_n 0, 1) := by decide +kernel
theorem dX7_nearly_55 : decode cX7_nearly 55 = .ok (.iconst 2, 1) := by decide +kernel
theorem dX7_nearly_56 : decode cX7_nearly 56 = .ok (.invokevirtual 68, 3) := by decide +kernel
theorem dX7_nearly_59 : decode cX7_nearly 59 = .ok (.ireturn, 1) := by decide +kernel
theorem dX7_nearly_60 : decode cX7_nearly 60 = .ok (.iconst 0, 1) := by decide +kernel
theorem dX7_nearly_61 : decode cX7_nearly 61 = .ok (.istore 4, 2) := by decide +kernel
theorem dX7_nearly_63 : decode cX7_nearly 63 = .ok (.iload 4, 2) := by decide +kernel
theorem dX7_nearly_65 : decode cX7_nearly 65 = .ok (.iload_n 3, 1) := by decide +kernel
theorem dX7_nearly_66 : decode cX7_nearly 66 = .ok (.if_icmp .ge 33, 3) := by decide +kernel
theorem dX7_nearly_69 : decode cX7_nearly 69 = .ok (.aload_n 0, 1) := by decide +kernel
theorem dX7_nearly_70 : decode cX7_nearly 70 = .ok (.aload_n 0, 1) := by decide +kernel
theorem dX7_nearly_71 : decode cX7_nearly 71 = .ok (.getfield 16, 3) := by decide +kernel
theorem dX7_nearly_74 : decode cX7_nearly 74 = .ok (.bipush 40, 2) := by decide +kernel
theorem dX7_nearly_76 : decode cX7_nearly 76 = .ok (.iload_n 1, 1) := by decide +kernel
theorem dX7_nearly_77 : decode cX7_nearly 77 = .ok (.imul, 1) := by decide +kernel
theorem dX7_nearly_78 : decode cX7_nearly 78 = .ok (.iload_n 2, 1) := by decide +kernel
theorem dX7_nearly_79 : decode cX7_nearly 79 = .ok (.iadd, 1) := by decide +kernel
theorem dX7_nearly_80 : decode cX7_nearly 80 = .ok (.iload 4, 2) := by decide +kernel
theorem dX7_nearly_82 : decode cX7_nearly 82 = .ok (.iadd, 1) := by decide +kernel
theorem dX7_nearly_83 : decode cX7_nearly 83 = .ok (.iaload, 1) := by decide +kernel
theorem dX7_nearly_84 : decode cX7_nearly 84 = .ok (.invokevirtual 161, 3) := by decide +kernel
theorem dX7_nearly_87 : decode cX7_nearly 87 = .ok (.ifCond .ne 6, 3) := by decide +kernel
theorem dX7_nearly_90 : decode cX7_nearly 90 = .ok (.ldc 67, 2) := by decide +kernel
theorem dX7_nearly_92 : decode cX7_nearly 92 = .ok (.ireturn, 1) := by decide +kernel
theorem dX7_nearly_93 : decode cX7_nearly 93 = .ok (.iinc 4 1, 3) := by decide +kernel
theorem dX7_nearly_96 : decode cX7_nearly 96 = .ok (.goto (-33), 3) := by decide +kernel
theorem dX7_nearly_99 : decode cX7_nearly 99 = .ok (.iconst 0, 1) := by decide +kernel
theorem dX7_nearly_100 : decode cX7_nearly 100 = .ok (.istore 4, 2) := by decide +kernel
theorem dX7_nearly_102 : decode cX7_nearly 102 = .ok (.iconst 0, 1) := by decide +kernel
theorem dX7_nearly_103 : decode cX7_nearly 103 = .ok (.istore 5, 2) := by decide +kernel
theorem dX7_nearly_105 : decode cX7_nearly 105 = .ok (.iload 5, 2) := by decide +kernel
theorem dX7_nearly_107 : decode cX7_nearly 107 = .ok (.aload_n 0, 1) := by decide +kernel
theorem dX7_nearly_108 : decode cX7_nearly 108 = .ok (.getfield 25, 3) := by decide +kernel
theorem dX7_nearly_111 : decode cX7_nearly 111 = .ok (.bipush 8, 2) := by decide +kernel
theorem dX7_nearly_113 : decode cX7_nearly 113 = .ok (.iaload, 1) := by decide +kernel
theorem dX7_nearly_114 : decode cX7_nearly 114 = .ok (.if_icmp .ge 74, 3) := by decide +kernel
theorem dX7_nearly_117 : decode cX7_nearly 117 = .ok (.aload_n 0, 1) := by decide +kernel
theorem dX7_nearly_118 : decode cX7_nearly 118 = .ok (.iload 5, 2) := by decide +kernel
theorem dX7_nearly_120 : decode cX7_nearly 120 = .ok (.invokevirtual 154, 3) := by decide +kernel
theorem dX7_nearly_123 : decode cX7_nearly 123 = .ok (.ifCond .eq 38, 3) := by decide +kernel
theorem dX7_nearly_126 : decode cX7_nearly 126 = .ok (.aload_n 0, 1) := by decide +kernel
theorem dX7_nearly_127 : decode cX7_nearly 127 = .ok (.iload 5, 2) := by decide +kernel
theorem dX7_nearly_129 : decode cX7_nearly 129 = .ok (.invokevirtual 174, 3) := by decide +kernel
theorem dX7_nearly_132 : decode cX7_nearly 132 = .ok (.ifCond .ne 29, 3) := by decide +kernel
theorem dX7_nearly_135 : decode cX7_nearly 135 = .ok (.aload_n 0, 1) := by decide +kernel
theorem dX7_nearly_136 : decode cX7_nearly 136 = .ok (.iload 5, 2) := by decide +kernel
theorem dX7_nearly_138 : decode cX7_nearly 138 = .ok (.bipush 40, 2) := by decide +kernel
theorem dX7_nearly_140 : decode cX7_nearly 140 = .ok (.iload_n 1, 1) := by decide +kernel
theorem dX7_nearly_141 : decode cX7_nearly 141 = .ok (.imul, 1) := by decide +kernel
theorem dX7_nearly_142 : decode cX7_nearly 142 = .ok (.iload_n 2, 1) := by decide +kernel
theorem dX7_nearly_143 : decode cX7_nearly 143 = .ok (.iadd, 1) := by decide +kernel
theorem dX7_nearly_144 : decode cX7_nearly 144 = .ok (.iload_n 3, 1) := by decide +kernel
theorem dX7_nearly_145 : decode cX7_nearly 145 = .ok (.invokevirtual 210, 3) := by decide +kernel
theorem dX7_nearly_148 : decode cX7_nearly 148 = .ok (.aload_n 0, 1) := by decide +kernel
theorem dX7_nearly_149 : decode cX7_nearly 149 = .ok (.getfield 25, 3) := by decide +kernel
theorem dX7_nearly_152 : decode cX7_nearly 152 = .ok (.iconst 1, 1) := by decide +kernel
theorem dX7_nearly_153 : decode cX7_nearly 153 = .ok (.iaload, 1) := by decide +kernel
theorem dX7_nearly_154 : decode cX7_nearly 154 = .ok (.if_icmp .ne 7, 3) := by decide +kernel
theorem dX7_nearly_157 : decode cX7_nearly 157 = .ok (.iconst 1, 1) := by decide +kernel
theorem dX7_nearly_158 : decode cX7_nearly 158 = .ok (.goto 4, 3) := by decide +kernel
theorem dX7_nearly_161 : decode cX7_nearly 161 = .ok (.iconst 0, 1) := by decide +kernel
theorem dX7_nearly_162 : decode cX7_nearly 162 = .ok (.istore 6, 2) := by decide +kernel
theorem dX7_nearly_164 : decode cX7_nearly 164 = .ok (.iload 4, 2) := by decide +kernel
theorem dX7_nearly_166 : decode cX7_nearly 166 = .ok (.iload 6, 2) := by decide +kernel
theorem dX7_nearly_168 : decode cX7_nearly 168 = .ok (.ifCond .eq 10, 3) := by decide +kernel
theorem dX7_nearly_171 : decode cX7_nearly 171 = .ok (.iconst 1, 1) := by decide +kernel
theorem dX7_nearly_172 : decode cX7_nearly 172 = .ok (.iload 5, 2) := by decide +kernel
theorem dX7_nearly_174 : decode cX7_nearly 174 = .ok (.ishl, 1) := by decide +kernel
theorem dX7_nearly_175 : decode cX7_nearly 175 = .ok (.goto 4, 3) := by decide +kernel
theorem dX7_nearly_178 : decode cX7_nearly 178 = .ok (.iconst 0, 1) := by decide +kernel
theorem dX7_nearly_179 : decode cX7_nearly 179 = .ok (.ior, 1) := by decide +kernel
theorem dX7_nearly_180 : decode cX7_nearly 180 = .ok (.istore 4, 2) := by decide +kernel
theorem dX7_nearly_182 : decode cX7_nearly 182 = .ok (.iinc 5 1, 3) := by decide +kernel
theorem dX7_nearly_185 : decode cX7_nearly 185 = .ok (.goto (-80), 3) := by decide +kernel
theorem dX7_nearly_188 : decode cX7_nearly 188 = .ok (.aload_n 0, 1) := by decide +kernel
theorem dX7_nearly_189 : decode cX7_nearly 189 = .ok (.iload 4, 2) := by decide +kernel
theorem dX7_nearly_191 : decode cX7_nearly 191 = .ok (.invokevirtual 72, 3) := by decide +kernel
theorem dX7_nearly_194 : decode cX7_nearly 194 = .ok (.ireturn, 1) := by decide +kernel
theorem dX7_image_0 : decode cX7_image 0 = .ok (.iload_n 1, 1) := by decide +kernel
theorem dX7_image_1 : decode cX7_image 1 = .ok (.iconst 0, 1) := by decide +kernel
theorem dX7_image_2 : decode cX7_image 2 = .ok (.iconst 1, 1) := by decide +kernel
theorem dX7_image_3 : decode cX7_image 3 = .ok (.invokestatic 59, 3) := by decide +kernel
theorem dX7_image_6 : decode cX7_image 6 = .ok (.ifCond .ne 6, 3) := by decide +kernel
theorem dX7_image_9 : decode cX7_image 9 = .ok (.ldc 67, 2) := by decide +kernel
theorem dX7_image_11 : decode cX7_image 11 = .ok (.ireturn, 1) := by decide +kernel
theorem dX7_image_12 : decode cX7_image 12 = .ok (.aload_n 0, 1) := by decide +kernel
theorem dX7_image_13 : decode cX7_image 13 = .ok (.invokevirtual 198, 3) := by decide +kernel
theorem dX7_image_16 : decode cX7_image 16 = .ok (.ifCond .ne 6, 3) := by decide +kernel
theorem dX7_image_19 : decode cX7_image 19 = .ok (.ldc 157, 2) := by decide +kernel
theorem dX7_image_21 : decode cX7_image 21 = .ok (.ireturn, 1) := by decide +kernel
theorem dX7_image_22 : decode cX7_image 22 = .ok (.aload_n 0, 1) := by decide +kernel
theorem dX7_image_23 : decode cX7_image 23 = .ok (.getfield 25, 3) := by decide +kernel
theorem dX7_image_26 : decode cX7_image 26 = .ok (.iconst 0, 1) := by decide +kernel
theorem dX7_image_27 : decode cX7_image 27 = .ok (.aload_n 0, 1) := by decide +kernel
theorem dX7_image_28 : decode cX7_image 28 = .ok (.getfield 34, 3) := by decide +kernel
theorem dX7_image_31 : decode cX7_image 31 = .ok (.bipush 71, 2) := by decide +kernel
theorem dX7_image_33 : decode cX7_image 33 = .ok (.iload_n 1, 1) := by decide +kernel
theorem dX7_image_34 : decode cX7_image 34 = .ok (.imul, 1) := by decide +kernel
theorem dX7_image_35 : decode cX7_image 35 = .ok (.invokestatic 137, 3) := by decide +kernel
theorem dX7_image_38 : decode cX7_image 38 = .ok (.aload_n 0, 1) := by decide +kernel
theorem dX7_image_39 : decode cX7_image 39 = .ok (.getfield 37, 3) := by decide +kernel
theorem dX7_image_42 : decode cX7_image 42 = .ok (.iload_n 1, 1) := by decide +kernel
theorem dX7_image_43 : decode cX7_image 43 = .ok (.iconst 1, 1) := by decide +kernel
theorem dX7_image_44 : decode cX7_image 44 = .ok (.bastore, 1) := by decide +kernel
theorem dX7_image_45 : decode cX7_image 45 = .ok (.iconst 1, 1) := by decide +kernel
theorem dX7_image_46 : decode cX7_image 46 = .ok (.ireturn, 1) := by decide +kernel
theorem dX7_restore_0 : decode cX7_restore 0 = .ok (.iload_n 1, 1) := by decide +kernel
theorem dX7_restore_1 : decode cX7_restore 1 = .ok (.iconst 0, 1) := by decide +kernel
theorem dX7_restore_2 : decode cX7_restore 2 = .ok (.iconst 1, 1) := by decide +kernel
theorem dX7_restore_3 : decode cX7_restore 3 = .ok (.invokestatic 59, 3) := by decide +kernel
theorem dX7_restore_6 : decode cX7_restore 6 = .ok (.ifCond .ne 6, 3) := by decide +kernel
theorem dX7_restore_9 : decode cX7_restore 9 = .ok (.ldc 67, 2) := by decide +kernel
theorem dX7_restore_11 : decode cX7_restore 11 = .ok (.ireturn, 1) := by decide +kernel
theorem dX7_restore_12 : decode cX7_restore 12 = .ok (.aload_n 0, 1) := by decide +kernel
theorem dX7_restore_13 : decode cX7_restore 13 = .ok (.getfield 37, 3) := by decide +kernel
theorem dX7_restore_16 : decode cX7_restore 16 = .ok (.iload_n 1, 1) := by decide +kernel
theorem dX7_restore_17 : decode cX7_restore 17 = .ok (.baload, 1) := by decide +kernel
theorem dX7_restore_18 : decode cX7_restore 18 = .ok (.ifCond .ne 6, 3) := by decide +kernel
theorem dX7_restore_21 : decode cX7_restore 21 = .ok (.ldc 157, 2) := by decide +kernel
theorem dX7_restore_23 : decode cX7_restore 23 = .ok (.ireturn, 1) := by decide +kernel
theorem dX7_restore_24 : decode cX7_restore 24 = .ok (.aload_n 0, 1) := by decide +kernel
theorem dX7_restore_25 : decode cX7_restore 25 = .ok (.getfield 34, 3) := by decide +kernel
theorem dX7_restore_28 : decode cX7_restore 28 = .ok (.bipush 71, 2) := by decide +kernel
theorem dX7_restore_30 : decode cX7_restore 30 = .ok (.iload_n 1, 1) := by decide +kernel
theorem dX7_restore_31 : decode cX7_restore 31 = .ok (.imul, 1) := by decide +kernel
theorem dX7_restore_32 : decode cX7_restore 32 = .ok (.aload_n 0, 1) := by decide +kernel
theorem dX7_restore_33 : decode cX7_restore 33 = .ok (.getfield 25, 3) := by decide +kernel
theorem dX7_restore_36 : decode cX7_restore 36 = .ok (.iconst 0, 1) := by decide +kernel
theorem dX7_restore_37 : decode cX7_restore 37 = .ok (.invokestatic 137, 3) := by decide +kernel
theorem dX7_restore_40 : decode cX7_restore 40 = .ok (.aload_n 0, 1) := by decide +kernel
theorem dX7_restore_41 : decode cX7_restore 41 = .ok (.iconst 0, 1) := by decide +kernel
theorem dX7_restore_42 : decode cX7_restore 42 = .ok (.putfield 141, 3) := by decide +kernel
theorem dX7_restore_45 : decode cX7_restore 45 = .ok (.iconst 1, 1) := by decide +kernel
theorem dX7_restore_46 : decode cX7_restore 46 = .ok (.ireturn, 1) := by decide +kernel
theorem dX7_kindIn_0 : decode cX7_kindIn 0 = .ok (.aload_n 0, 1) := by decide +kernel
theorem dX7_kindIn_1 : decode cX7_kindIn 1 = .ok (.getfield 25, 3) := by decide +kernel
theorem dX7_kindIn_4 : decode cX7_kindIn 4 = .ok (.bipush 9, 2) := by decide +kernel
theorem dX7_kindIn_6 : decode cX7_kindIn 6 = .ok (.iconst 4, 1) := by decide +kernel
theorem dX7_kindIn_7 : decode cX7_kindIn 7 = .ok (.iload_n 1, 1) := by decide +kernel
theorem dX7_kindIn_8 : decode cX7_kindIn 8 = .ok (.imul, 1) := by decide +kernel
theorem dX7_kindIn_9 : decode cX7_kindIn 9 = .ok (.iadd, 1) := by decide +kernel
theorem dX7_kindIn_10 : decode cX7_kindIn 10 = .ok (.iaload, 1) := by decide +kernel
theorem dX7_kindIn_11 : decode cX7_kindIn 11 = .ok (.ireturn, 1) := by decide +kernel
theorem dX7_kind_0 : decode cX7_kind 0 = .ok (.aload_n 0, 1) := by decide +kernel
theorem dX7_kind_1 : decode cX7_kind 1 = .ok (.iload_n 1, 1) := by decide +kernel
theorem dX7_kind_2 : decode cX7_kind 2 = .ok (.invokevirtual 161, 3) := by decide +kernel
theorem dX7_kind_5 : decode cX7_kind 5 = .ok (.ifCond .eq 11, 3) := by decide +kernel
theorem dX7_kind_8 : decode cX7_kind 8 = .ok (.aload_n 0, 1) := by decide +kernel
theorem dX7_kind_9 : decode cX7_kind 9 = .ok (.iload_n 1, 1) := by decide +kernel
theorem dX7_kind_10 : decode cX7_kind 10 = .ok (.invokevirtual 213, 3) := by decide +kernel
theorem dX7_kind_13 : decode cX7_kind 13 = .ok (.goto 5, 3) := by decide +kernel
theorem dX7_kind_16 : decode cX7_kind 16 = .ok (.ldc 67, 2) := by decide +kernel
theorem dX7_kind_18 : decode cX7_kind 18 = .ok (.ireturn, 1) := by decide +kernel
theorem dX7_as_0 : decode cX7_as 0 = .ok (.aload_n 0, 1) := by decide +kernel
theorem dX7_as_1 : decode cX7_as 1 = .ok (.iload_n 1, 1) := by decide +kernel
theorem dX7_as_2 : decode cX7_as 2 = .ok (.invokevirtual 161, 3) := by decide +kernel
theorem dX7_as_5 : decode cX7_as 5 = .ok (.ifCond .eq 12, 3) := by decide +kernel
theorem dX7_as_8 : decode cX7_as 8 = .ok (.iload_n 2, 1) := by decide +kernel
theorem dX7_as_9 : decode cX7_as 9 = .ok (.iconst 0, 1) := by decide +kernel
theorem dX7_as_10 : decode cX7_as 10 = .ok (.iconst 5, 1) := by decide +kernel
theorem dX7_as_11 : decode cX7_as 11 = .ok (.invokestatic 59, 3) := by decide +kernel
theorem dX7_as_14 : decode cX7_as 14 = .ok (.ifCond .ne 6, 3) := by decide +kernel
theorem dX7_as_17 : decode cX7_as 17 = .ok (.ldc 67, 2) := by decide +kernel
theorem dX7_as_19 : decode cX7_as 19 = .ok (.ireturn, 1) := by decide +kernel
theorem dX7_as_20 : decode cX7_as 20 = .ok (.aload_n 0, 1) := by decide +kernel
theorem dX7_as_21 : decode cX7_as 21 = .ok (.iload_n 1, 1) := by decide +kernel
theorem dX7_as_22 : decode cX7_as 22 = .ok (.invokevirtual 213, 3) := by decide +kernel
theorem dX7_as_25 : decode cX7_as 25 = .ok (.istore_n 3, 1) := by decide +kernel
theorem dX7_as_26 : decode cX7_as 26 = .ok (.iload_n 2, 1) := by decide +kernel
theorem dX7_as_27 : decode cX7_as 27 = .ok (.ifCond .eq 28, 3) := by decide +kernel
theorem dX7_as_30 : decode cX7_as 30 = .ok (.iload_n 2, 1) := by decide +kernel
theorem dX7_as_31 : decode cX7_as 31 = .ok (.iload_n 3, 1) := by decide +kernel
theorem dX7_as_32 : decode cX7_as 32 = .ok (.if_icmp .eq 23, 3) := by decide +kernel
theorem dX7_as_35 : decode cX7_as 35 = .ok (.iload_n 2, 1) := by decide +kernel
theorem dX7_as_36 : decode cX7_as 36 = .ok (.iconst 1, 1) := by decide +kernel
theorem dX7_as_37 : decode cX7_as 37 = .ok (.if_icmp .ne 8, 3) := by decide +kernel
theorem dX7_as_40 : decode cX7_as 40 = .ok (.iload_n 3, 1) := by decide +kernel
theorem dX7_as_41 : decode cX7_as 41 = .ok (.iconst 4, 1) := by decide +kernel
theorem dX7_as_42 : decode cX7_as 42 = .ok (.if_icmp .lt 13, 3) := by decide +kernel
theorem dX7_as_45 : decode cX7_as 45 = .ok (.iload_n 2, 1) := by decide +kernel
theorem dX7_as_46 : decode cX7_as 46 = .ok (.iconst 4, 1) := by decide +kernel
theorem dX7_as_47 : decode cX7_as 47 = .ok (.if_icmp .ne 12, 3) := by decide +kernel
theorem dX7_as_50 : decode cX7_as 50 = .ok (.iload_n 3, 1) := by decide +kernel
theorem dX7_as_51 : decode cX7_as 51 = .ok (.iconst 5, 1) := by decide +kernel
theorem dX7_as_52 : decode cX7_as 52 = .ok (.if_icmp .ne 7, 3) := by decide +kernel
theorem dX7_as_55 : decode cX7_as 55 = .ok (.iconst 1, 1) := by decide +kernel
theorem dX7_as_56 : decode cX7_as 56 = .ok (.goto 4, 3) := by decide +kernel
theorem dX7_as_59 : decode cX7_as 59 = .ok (.iconst 0, 1) := by decide +kernel
theorem dX7_as_60 : decode cX7_as 60 = .ok (.istore 4, 2) := by decide +kernel
theorem dX7_as_62 : decode cX7_as 62 = .ok (.iload 4, 2) := by decide +kernel
theorem dX7_as_64 : decode cX7_as 64 = .ok (.ifCond .eq 11, 3) := by decide +kernel
theorem dX7_as_67 : decode cX7_as 67 = .ok (.aload_n 0, 1) := by decide +kernel
theorem dX7_as_68 : decode cX7_as 68 = .ok (.iload_n 1, 1) := by decide +kernel
theorem dX7_as_69 : decode cX7_as 69 = .ok (.invokevirtual 72, 3) := by decide +kernel
theorem dX7_as_72 : decode cX7_as 72 = .ok (.goto 8, 3) := by decide +kernel
theorem dX7_as_75 : decode cX7_as 75 = .ok (.aload_n 0, 1) := by decide +kernel
theorem dX7_as_76 : decode cX7_as 76 = .ok (.iconst 3, 1) := by decide +kernel
theorem dX7_as_77 : decode cX7_as 77 = .ok (.invokevirtual 68, 3) := by decide +kernel
theorem dX7_as_80 : decode cX7_as 80 = .ok (.ireturn, 1) := by decide +kernel
theorem dX7_begins_0 : decode cX7_begins 0 = .ok (.aload_n 0, 1) := by decide +kernel
theorem dX7_begins_1 : decode cX7_begins 1 = .ok (.getfield 216, 3) := by decide +kernel
theorem dX7_begins_4 : decode cX7_begins 4 = .ok (.bipush 16, 2) := by decide +kernel
theorem dX7_begins_6 : decode cX7_begins 6 = .ok (.if_icmp .ge 23, 3) := by decide +kernel
theorem dX7_begins_9 : decode cX7_begins 9 = .ok (.aload_n 0, 1) := by decide +kernel
theorem dX7_begins_10 : decode cX7_begins 10 = .ok (.getfield 41, 3) := by decide +kernel
theorem dX7_begins_13 : decode cX7_begins 13 = .ok (.aload_n 0, 1) := by decide +kernel
theorem dX7_begins_14 : decode cX7_begins 14 = .ok (.getfield 216, 3) := by decide +kernel
theorem dX7_begins_17 : decode cX7_begins 17 = .ok (.iload_n 1, 1) := by decide +kernel
theorem dX7_begins_18 : decode cX7_begins 18 = .ok (.iastore, 1) := by decide +kernel
theorem dX7_begins_19 : decode cX7_begins 19 = .ok (.aload_n 0, 1) := by decide +kernel
theorem dX7_begins_20 : decode cX7_begins 20 = .ok (.dup, 1) := by decide +kernel
theorem dX7_begins_21 : decode cX7_begins 21 = .ok (.getfield 216, 3) := by decide +kernel
theorem dX7_begins_24 : decode cX7_begins 24 = .ok (.iconst 1, 1) := by decide +kernel
theorem dX7_begins_25 : decode cX7_begins 25 = .ok (.iadd, 1) := by decide +kernel
theorem dX7_begins_26 : decode cX7_begins 26 = .ok (.putfield 216, 3) := by decide +kernel
theorem dX7_begins_29 : decode cX7_begins 29 = .ok (.return_, 1) := by decide +kernel
theorem dX7_silentMark_0 : decode cX7_silentMark 0 = .ok (.aload_n 0, 1) := by decide +kernel
theorem dX7_silentMark_1 : decode cX7_silentMark 1 = .ok (.iload_n 1, 1) := by decide +kernel
theorem dX7_silentMark_2 : decode cX7_silentMark 2 = .ok (.invokevirtual 213, 3) := by decide +kernel
theorem dX7_silentMark_5 : decode cX7_silentMark 5 = .ok (.istore_n 2, 1) := by decide +kernel
theorem dX7_silentMark_6 : decode cX7_silentMark 6 = .ok (.iload_n 2, 1) := by decide +kernel
theorem dX7_silentMark_7 : decode cX7_silentMark 7 = .ok (.iconst 1, 1) := by decide +kernel
theorem dX7_silentMark_8 : decode cX7_silentMark 8 = .ok (.if_icmp .eq 19, 3) := by decide +kernel
theorem dX7_silentMark_11 : decode cX7_silentMark 11 = .ok (.aload_n 0, 1) := by decide +kernel
theorem dX7_silentMark_12 : decode cX7_silentMark 12 = .ok (.iload_n 2, 1) := by decide +kernel
theorem dX7_silentMark_13 : decode cX7_silentMark 13 = .ok (.iconst 2, 1) := by decide +kernel
theorem dX7_silentMark_14 : decode cX7_silentMark 14 = .ok (.if_icmp .ne 8, 3) := by decide +kernel
theorem dX7_silentMark_17 : decode cX7_silentMark 17 = .ok (.bipush 24, 2) := by decide +kernel
theorem dX7_silentMark_19 : decode cX7_silentMark 19 = .ok (.goto 5, 3) := by decide +kernel
theorem dX7_silentMark_22 : decode cX7_silentMark 22 = .ok (.bipush 22, 2) := by decide +kernel
theorem dX7_silentMark_24 : decode cX7_silentMark 24 = .ok (.invokevirtual 219, 3) := by decide +kernel
theorem dX7_silentMark_27 : decode cX7_silentMark 27 = .ok (.aload_n 0, 1) := by decide +kernel
theorem dX7_silentMark_28 : decode cX7_silentMark 28 = .ok (.bipush 21, 2) := by decide +kernel
theorem dX7_silentMark_30 : decode cX7_silentMark 30 = .ok (.invokevirtual 219, 3) := by decide +kernel
theorem dX7_silentMark_33 : decode cX7_silentMark 33 = .ok (.aload_n 0, 1) := by decide +kernel
theorem dX7_silentMark_34 : decode cX7_silentMark 34 = .ok (.bipush 20, 2) := by decide +kernel
theorem dX7_silentMark_36 : decode cX7_silentMark 36 = .ok (.invokevirtual 219, 3) := by decide +kernel
theorem dX7_silentMark_39 : decode cX7_silentMark 39 = .ok (.iload_n 1, 1) := by decide +kernel
theorem dX7_silentMark_40 : decode cX7_silentMark 40 = .ok (.aload_n 0, 1) := by decide +kernel
theorem dX7_silentMark_41 : decode cX7_silentMark 41 = .ok (.getfield 25, 3) := by decide +kernel
theorem dX7_silentMark_44 : decode cX7_silentMark 44 = .ok (.bipush 9, 2) := by decide +kernel
theorem dX7_silentMark_46 : decode cX7_silentMark 46 = .ok (.iconst 4, 1) := by decide +kernel
theorem dX7_silentMark_47 : decode cX7_silentMark 47 = .ok (.iload_n 1, 1) := by decide +kernel
theorem dX7_silentMark_48 : decode cX7_silentMark 48 = .ok (.imul, 1) := by decide +kernel
theorem dX7_silentMark_49 : decode cX7_silentMark 49 = .ok (.iadd, 1) := by decide +kernel
theorem dX7_silentMark_50 : decode cX7_silentMark 50 = .ok (.iconst 1, 1) := by decide +kernel
theorem dX7_silentMark_51 : decode cX7_silentMark 51 = .ok (.iadd, 1) := by decide +kernel
theorem dX7_silentMark_52 : decode cX7_silentMark 52 = .ok (.iaload, 1) := by decide +kernel
theorem dX7_silentMark_53 : decode cX7_silentMark 53 = .ok (.iadd, 1) := by decide +kernel
theorem dX7_silentMark_54 : decode cX7_silentMark 54 = .ok (.istore_n 3, 1) := by decide +kernel
theorem dX7_silentMark_55 : decode cX7_silentMark 55 = .ok (.iload_n 2, 1) := by decide +kernel
theorem dX7_silentMark_56 : decode cX7_silentMark 56 = .ok (.iconst 2, 1) := by decide +kernel
theorem dX7_silentMark_57 : decode cX7_silentMark 57 = .ok (.if_icmp .ne 9, 3) := by decide +kernel
theorem dX7_silentMark_60 : decode cX7_silentMark 60 = .ok (.iconst 2, 1) := by decide +kernel
theorem dX7_silentMark_61 : decode cX7_silentMark 61 = .ok (.iload_n 3, 1) := by decide +kernel
theorem dX7_silentMark_62 : decode cX7_silentMark 62 = .ok (.imul, 1) := by decide +kernel
theorem dX7_silentMark_63 : decode cX7_silentMark 63 = .ok (.goto 17, 3) := by decide +kernel
theorem dX7_silentMark_66 : decode cX7_silentMark 66 = .ok (.iload_n 2, 1) := by decide +kernel
theorem dX7_silentMark_67 : decode cX7_silentMark 67 = .ok (.iconst 3, 1) := by decide +kernel
theorem dX7_silentMark_68 : decode cX7_silentMark 68 = .ok (.if_icmp .ne 11, 3) := by decide +kernel
theorem dX7_silentMark_71 : decode cX7_silentMark 71 = .ok (.iload_n 3, 1) := by decide +kernel
theorem dX7_silentMark_72 : decode cX7_silentMark 72 = .ok (.sipush 1000, 3) := by decide +kernel
theorem dX7_silentMark_75 : decode cX7_silentMark 75 = .ok (.isub, 1) := by decide +kernel
theorem dX7_silentMark_76 : decode cX7_silentMark 76 = .ok (.goto 4, 3) := by decide +kernel
theorem dX7_silentMark_79 : decode cX7_silentMark 79 = .ok (.iload_n 3, 1) := by decide +kernel
theorem dX7_silentMark_80 : decode cX7_silentMark 80 = .ok (.ireturn, 1) := by decide +kernel
theorem dX7_mistakenSize_0 : decode cX7_mistakenSize 0 = .ok (.aload_n 0, 1) := by decide +kernel
theorem dX7_mistakenSize_1 : decode cX7_mistakenSize 1 = .ok (.iload_n 1, 1) := by decide +kernel
theorem dX7_mistakenSize_2 : decode cX7_mistakenSize 2 = .ok (.invokevirtual 213, 3) := by decide +kernel
theorem dX7_mistakenSize_5 : decode cX7_mistakenSize 5 = .ok (.iconst 5, 1) := by decide +kernel
theorem dX7_mistakenSize_6 : decode cX7_mistakenSize 6 = .ok (.if_icmp .ne 7, 3) := by decide +kernel
theorem dX7_mistakenSize_9 : decode cX7_mistakenSize 9 = .ok (.iconst 1, 1) := by decide +kernel
theorem dX7_mistakenSize_10 : decode cX7_mistakenSize 10 = .ok (.goto 4, 3) := by decide +kernel
theorem dX7_mistakenSize_13 : decode cX7_mistakenSize 13 = .ok (.iconst 0, 1) := by decide +kernel
theorem dX7_mistakenSize_14 : decode cX7_mistakenSize 14 = .ok (.istore_n 2, 1) := by decide +kernel
theorem dX7_mistakenSize_15 : decode cX7_mistakenSize 15 = .ok (.iload_n 2, 1) := by decide +kernel
theorem dX7_mistakenSize_16 : decode cX7_mistakenSize 16 = .ok (.ifCond .eq 9, 3) := by decide +kernel
theorem dX7_mistakenSize_19 : decode cX7_mistakenSize 19 = .ok (.aload_n 0, 1) := by decide +kernel
theorem dX7_mistakenSize_20 : decode cX7_mistakenSize 20 = .ok (.bipush 14, 2) := by decide +kernel
theorem dX7_mistakenSize_22 : decode cX7_mistakenSize 22 = .ok (.invokevirtual 219, 3) := by decide +kernel
theorem dX7_mistakenSize_25 : decode cX7_mistakenSize 25 = .ok (.aload_n 0, 1) := by decide +kernel
theorem dX7_mistakenSize_26 : decode cX7_mistakenSize 26 = .ok (.bipush 13, 2) := by decide +kernel
theorem dX7_mistakenSize_28 : decode cX7_mistakenSize 28 = .ok (.invokevirtual 219, 3) := by decide +kernel
theorem dX7_mistakenSize_31 : decode cX7_mistakenSize 31 = .ok (.aload_n 0, 1) := by decide +kernel
theorem dX7_mistakenSize_32 : decode cX7_mistakenSize 32 = .ok (.bipush 10, 2) := by decide +kernel
theorem dX7_mistakenSize_34 : decode cX7_mistakenSize 34 = .ok (.invokevirtual 219, 3) := by decide +kernel
theorem dX7_mistakenSize_37 : decode cX7_mistakenSize 37 = .ok (.aload_n 0, 1) := by decide +kernel
theorem dX7_mistakenSize_38 : decode cX7_mistakenSize 38 = .ok (.getfield 25, 3) := by decide +kernel
theorem dX7_mistakenSize_41 : decode cX7_mistakenSize 41 = .ok (.bipush 9, 2) := by decide +kernel
theorem dX7_mistakenSize_43 : decode cX7_mistakenSize 43 = .ok (.iconst 4, 1) := by decide +kernel
theorem dX7_mistakenSize_44 : decode cX7_mistakenSize 44 = .ok (.iload_n 1, 1) := by decide +kernel
theorem dX7_mistakenSize_45 : decode cX7_mistakenSize 45 = .ok (.imul, 1) := by decide +kernel
theorem dX7_mistakenSize_46 : decode cX7_mistakenSize 46 = .ok (.iadd, 1) := by decide +kernel
theorem dX7_mistakenSize_47 : decode cX7_mistakenSize 47 = .ok (.iconst 3, 1) := by decide +kernel
theorem dX7_mistakenSize_48 : decode cX7_mistakenSize 48 = .ok (.iadd, 1) := by decide +kernel
theorem dX7_mistakenSize_49 : decode cX7_mistakenSize 49 = .ok (.iaload, 1) := by decide +kernel
theorem dX7_mistakenSize_50 : decode cX7_mistakenSize 50 = .ok (.bipush 100, 2) := by decide +kernel
theorem dX7_mistakenSize_52 : decode cX7_mistakenSize 52 = .ok (.isub, 1) := by decide +kernel
theorem dX7_mistakenSize_53 : decode cX7_mistakenSize 53 = .ok (.istore_n 3, 1) := by decide +kernel
theorem dX7_mistakenSize_54 : decode cX7_mistakenSize 54 = .ok (.iload_n 2, 1) := by decide +kernel
theorem dX7_mistakenSize_55 : decode cX7_mistakenSize 55 = .ok (.ifCond .eq 9, 3) := by decide +kernel
theorem dX7_mistakenSize_58 : decode cX7_mistakenSize 58 = .ok (.iconst 2, 1) := by decide +kernel
theorem dX7_mistakenSize_59 : decode cX7_mistakenSize 59 = .ok (.iload_n 3, 1) := by decide +kernel
theorem dX7_mistakenSize_60 : decode cX7_mistakenSize 60 = .ok (.imul, 1) := by decide +kernel
theorem dX7_mistakenSize_61 : decode cX7_mistakenSize 61 = .ok (.goto 4, 3) := by decide +kernel
theorem dX7_mistakenSize_64 : decode cX7_mistakenSize 64 = .ok (.iload_n 3, 1) := by decide +kernel
theorem dX7_mistakenSize_65 : decode cX7_mistakenSize 65 = .ok (.ireturn, 1) := by decide +kernel
theorem dX7_silentSize_0 : decode cX7_silentSize 0 = .ok (.aload_n 0, 1) := by decide +kernel
theorem dX7_silentSize_1 : decode cX7_silentSize 1 = .ok (.iload_n 1, 1) := by decide +kernel
theorem dX7_silentSize_2 : decode cX7_silentSize 2 = .ok (.invokevirtual 213, 3) := by decide +kernel
theorem dX7_silentSize_5 : decode cX7_silentSize 5 = .ok (.iconst 2, 1) := by decide +kernel
theorem dX7_silentSize_6 : decode cX7_silentSize 6 = .ok (.if_icmp .ne 7, 3) := by decide +kernel
theorem dX7_silentSize_9 : decode cX7_silentSize 9 = .ok (.iconst 1, 1) := by decide +kernel
theorem dX7_silentSize_10 : decode cX7_silentSize 10 = .ok (.goto 4, 3) := by decide +kernel
theorem dX7_silentSize_13 : decode cX7_silentSize 13 = .ok (.iconst 0, 1) := by decide +kernel
theorem dX7_silentSize_14 : decode cX7_silentSize 14 = .ok (.istore_n 2, 1) := by decide +kernel
theorem dX7_silentSize_15 : decode cX7_silentSize 15 = .ok (.iload_n 2, 1) := by decide +kernel
theorem dX7_silentSize_16 : decode cX7_silentSize 16 = .ok (.ifCond .eq 9, 3) := by decide +kernel
theorem dX7_silentSize_19 : decode cX7_silentSize 19 = .ok (.aload_n 0, 1) := by decide +kernel
theorem dX7_silentSize_20 : decode cX7_silentSize 20 = .ok (.bipush 12, 2) := by decide +kernel
theorem dX7_silentSize_22 : decode cX7_silentSize 22 = .ok (.invokevirtual 219, 3) := by decide +kernel
theorem dX7_silentSize_25 : decode cX7_silentSize 25 = .ok (.aload_n 0, 1) := by decide +kernel
theorem dX7_silentSize_26 : decode cX7_silentSize 26 = .ok (.bipush 11, 2) := by decide +kernel
theorem dX7_silentSize_28 : decode cX7_silentSize 28 = .ok (.invokevirtual 219, 3) := by decide +kernel
theorem dX7_silentSize_31 : decode cX7_silentSize 31 = .ok (.aload_n 0, 1) := by decide +kernel
theorem dX7_silentSize_32 : decode cX7_silentSize 32 = .ok (.bipush 10, 2) := by decide +kernel
theorem dX7_silentSize_34 : decode cX7_silentSize 34 = .ok (.invokevirtual 219, 3) := by decide +kernel
theorem dX7_silentSize_37 : decode cX7_silentSize 37 = .ok (.aload_n 0, 1) := by decide +kernel
theorem dX7_silentSize_38 : decode cX7_silentSize 38 = .ok (.getfield 25, 3) := by decide +kernel
theorem dX7_silentSize_41 : decode cX7_silentSize 41 = .ok (.bipush 9, 2) := by decide +kernel
theorem dX7_silentSize_43 : decode cX7_silentSize 43 = .ok (.iconst 4, 1) := by decide +kernel
theorem dX7_silentSize_44 : decode cX7_silentSize 44 = .ok (.iload_n 1, 1) := by decide +kernel
theorem dX7_silentSize_45 : decode cX7_silentSize 45 = .ok (.imul, 1) := by decide +kernel
theorem dX7_silentSize_46 : decode cX7_silentSize 46 = .ok (.iadd, 1) := by decide +kernel
theorem dX7_silentSize_47 : decode cX7_silentSize 47 = .ok (.iconst 3, 1) := by decide +kernel
theorem dX7_silentSize_48 : decode cX7_silentSize 48 = .ok (.iadd, 1) := by decide +kernel
theorem dX7_silentSize_49 : decode cX7_silentSize 49 = .ok (.iaload, 1) := by decide +kernel
theorem dX7_silentSize_50 : decode cX7_silentSize 50 = .ok (.aload_n 0, 1) := by decide +kernel
theorem dX7_silentSize_51 : decode cX7_silentSize 51 = .ok (.iload_n 1, 1) := by decide +kernel
theorem dX7_silentSize_52 : decode cX7_silentSize 52 = .ok (.invokevirtual 222, 3) := by decide +kernel
theorem dX7_silentSize_55 : decode cX7_silentSize 55 = .ok (.iadd, 1) := by decide +kernel
theorem dX7_silentSize_56 : decode cX7_silentSize 56 = .ok (.istore_n 3, 1) := by decide +kernel
theorem dX7_silentSize_57 : decode cX7_silentSize 57 = .ok (.iload_n 2, 1) := by decide +kernel
theorem dX7_silentSize_58 : decode cX7_silentSize 58 = .ok (.ifCond .eq 8, 3) := by decide +kernel
theorem dX7_silentSize_61 : decode cX7_silentSize 61 = .ok (.iload_n 3, 1) := by decide +kernel
theorem dX7_silentSize_62 : decode cX7_silentSize 62 = .ok (.ineg, 1) := by decide +kernel
theorem dX7_silentSize_63 : decode cX7_silentSize 63 = .ok (.goto 4, 3) := by decide +kernel
theorem dX7_silentSize_66 : decode cX7_silentSize 66 = .ok (.iload_n 3, 1) := by decide +kernel
theorem dX7_silentSize_67 : decode cX7_silentSize 67 = .ok (.ireturn, 1) := by decide +kernel
theorem dX7_mistakenMark_0 : decode cX7_mistakenMark 0 = .ok (.aload_n 0, 1) := by decide +kernel
theorem dX7_mistakenMark_1 : decode cX7_mistakenMark 1 = .ok (.bipush 23, 2) := by decide +kernel
theorem dX7_mistakenMark_3 : decode cX7_mistakenMark 3 = .ok (.invokevirtual 219, 3) := by decide +kernel
theorem dX7_mistakenMark_6 : decode cX7_mistakenMark 6 = .ok (.aload_n 0, 1) := by decide +kernel
theorem dX7_mistakenMark_7 : decode cX7_mistakenMark 7 = .ok (.bipush 20, 2) := by decide +kernel
theorem dX7_mistakenMark_9 : decode cX7_mistakenMark 9 = .ok (.invokevirtual 219, 3) := by decide +kernel
theorem dX7_mistakenMark_12 : decode cX7_mistakenMark 12 = .ok (.iload_n 1, 1) := by decide +kernel
theorem dX7_mistakenMark_13 : decode cX7_mistakenMark 13 = .ok (.aload_n 0, 1) := by decide +kernel
theorem dX7_mistakenMark_14 : decode cX7_mistakenMark 14 = .ok (.iload_n 1, 1) := by decide +kernel
theorem dX7_mistakenMark_15 : decode cX7_mistakenMark 15 = .ok (.invokevirtual 225, 3) := by decide +kernel
theorem dX7_mistakenMark_18 : decode cX7_mistakenMark 18 = .ok (.isub, 1) := by decide +kernel
theorem dX7_mistakenMark_19 : decode cX7_mistakenMark 19 = .ok (.ireturn, 1) := by decide +kernel
theorem dX7_ask_0 : decode cX7_ask 0 = .ok (.aload_n 0, 1) := by decide +kernel
theorem dX7_ask_1 : decode cX7_ask 1 = .ok (.iload_n 1, 1) := by decide +kernel
theorem dX7_ask_2 : decode cX7_ask 2 = .ok (.invokevirtual 161, 3) := by decide +kernel
theorem dX7_ask_5 : decode cX7_ask 5 = .ok (.ifCond .eq 12, 3) := by decide +kernel
theorem dX7_ask_8 : decode cX7_ask 8 = .ok (.iload_n 2, 1) := by decide +kernel
theorem dX7_ask_9 : decode cX7_ask 9 = .ok (.iconst 0, 1) := by decide +kernel
theorem dX7_ask_10 : decode cX7_ask 10 = .ok (.iconst 1, 1) := by decide +kernel
theorem dX7_ask_11 : decode cX7_ask 11 = .ok (.invokestatic 59, 3) := by decide +kernel
theorem dX7_ask_14 : decode cX7_ask 14 = .ok (.ifCond .ne 6, 3) := by decide +kernel
theorem dX7_ask_17 : decode cX7_ask 17 = .ok (.ldc 67, 2) := by decide +kernel
theorem dX7_ask_19 : decode cX7_ask 19 = .ok (.ireturn, 1) := by decide +kernel
theorem dX7_ask_20 : decode cX7_ask 20 = .ok (.aload_n 0, 1) := by decide +kernel
theorem dX7_ask_21 : decode cX7_ask 21 = .ok (.iconst 0, 1) := by decide +kernel
theorem dX7_ask_22 : decode cX7_ask 22 = .ok (.putfield 216, 3) := by decide +kernel
theorem dX7_ask_25 : decode cX7_ask 25 = .ok (.aload_n 0, 1) := by decide +kernel
theorem dX7_ask_26 : decode cX7_ask 26 = .ok (.iload_n 1, 1) := by decide +kernel
theorem dX7_ask_27 : decode cX7_ask 27 = .ok (.invokevirtual 213, 3) := by decide +kernel
theorem dX7_ask_30 : decode cX7_ask 30 = .ok (.iconst 4, 1) := by decide +kernel
theorem dX7_ask_31 : decode cX7_ask 31 = .ok (.if_icmp .lt 7, 3) := by decide +kernel
theorem dX7_ask_34 : decode cX7_ask 34 = .ok (.iconst 1, 1) := by decide +kernel
theorem dX7_ask_35 : decode cX7_ask 35 = .ok (.goto 4, 3) := by decide +kernel
theorem dX7_ask_38 : decode cX7_ask 38 = .ok (.iconst 0, 1) := by decide +kernel
theorem dX7_ask_39 : decode cX7_ask 39 = .ok (.istore_n 3, 1) := by decide +kernel
theorem dX7_ask_40 : decode cX7_ask 40 = .ok (.iload_n 2, 1) := by decide +kernel
theorem dX7_ask_41 : decode cX7_ask 41 = .ok (.ifCond .ne 21, 3) := by decide +kernel
theorem dX7_ask_44 : decode cX7_ask 44 = .ok (.iload_n 3, 1) := by decide +kernel
theorem dX7_ask_45 : decode cX7_ask 45 = .ok (.ifCond .eq 11, 3) := by decide +kernel
theorem dX7_ask_48 : decode cX7_ask 48 = .ok (.aload_n 0, 1) := by decide +kernel
theorem dX7_ask_49 : decode cX7_ask 49 = .ok (.iload_n 1, 1) := by decide +kernel
theorem dX7_ask_50 : decode cX7_ask 50 = .ok (.invokevirtual 225, 3) := by decide +kernel
theorem dX7_ask_53 : decode cX7_ask 53 = .ok (.goto 8, 3) := by decide +kernel
theorem dX7_ask_56 : decode cX7_ask 56 = .ok (.aload_n 0, 1) := by decide +kernel
theorem dX7_ask_57 : decode cX7_ask 57 = .ok (.iload_n 1, 1) := by decide +kernel
theorem dX7_ask_58 : decode cX7_ask 58 = .ok (.invokevirtual 228, 3) := by decide +kernel
theorem dX7_ask_61 : decode cX7_ask 61 = .ok (.ireturn, 1) := by decide +kernel
theorem dX7_ask_62 : decode cX7_ask 62 = .ok (.iload_n 3, 1) := by decide +kernel
theorem dX7_ask_63 : decode cX7_ask 63 = .ok (.ifCond .eq 11, 3) := by decide +kernel
theorem dX7_ask_66 : decode cX7_ask 66 = .ok (.aload_n 0, 1) := by decide +kernel
theorem dX7_ask_67 : decode cX7_ask 67 = .ok (.iload_n 1, 1) := by decide +kernel
theorem dX7_ask_68 : decode cX7_ask 68 = .ok (.invokevirtual 231, 3) := by decide +kernel
theorem dX7_ask_71 : decode cX7_ask 71 = .ok (.goto 8, 3) := by decide +kernel
theorem dX7_ask_74 : decode cX7_ask 74 = .ok (.aload_n 0, 1) := by decide +kernel
theorem dX7_ask_75 : decode cX7_ask 75 = .ok (.iload_n 1, 1) := by decide +kernel
theorem dX7_ask_76 : decode cX7_ask 76 = .ok (.invokevirtual 222, 3) := by decide +kernel
theorem dX7_ask_79 : decode cX7_ask 79 = .ok (.ireturn, 1) := by decide +kernel
theorem dX7_trace_0 : decode cX7_trace 0 = .ok (.iload_n 1, 1) := by decide +kernel
theorem dX7_trace_1 : decode cX7_trace 1 = .ok (.iconst 0, 1) := by decide +kernel
theorem dX7_trace_2 : decode cX7_trace 2 = .ok (.aload_n 0, 1) := by decide +kernel
theorem dX7_trace_3 : decode cX7_trace 3 = .ok (.getfield 216, 3) := by decide +kernel
theorem dX7_trace_6 : decode cX7_trace 6 = .ok (.iconst 1, 1) := by decide +kernel
theorem dX7_trace_7 : decode cX7_trace 7 = .ok (.isub, 1) := by decide +kernel
theorem dX7_trace_8 : decode cX7_trace 8 = .ok (.invokestatic 59, 3) := by decide +kernel
theorem dX7_trace_11 : decode cX7_trace 11 = .ok (.ifCond .eq 12, 3) := by decide +kernel
theorem dX7_trace_14 : decode cX7_trace 14 = .ok (.aload_n 0, 1) := by decide +kernel
theorem dX7_trace_15 : decode cX7_trace 15 = .ok (.getfield 41, 3) := by decide +kernel
theorem dX7_trace_18 : decode cX7_trace 18 = .ok (.iload_n 1, 1) := by decide +kernel
theorem dX7_trace_19 : decode cX7_trace 19 = .ok (.iaload, 1) := by decide +kernel
theorem dX7_trace_20 : decode cX7_trace 20 = .ok (.goto 5, 3) := by decide +kernel
theorem dX7_trace_23 : decode cX7_trace 23 = .ok (.ldc 53, 2) := by decide +kernel
theorem dX7_trace_25 : decode cX7_trace 25 = .ok (.ireturn, 1) := by decide +kernel
theorem dX7_count_0 : decode cX7_count 0 = .ok (.iload_n 1, 1) := by decide +kernel
theorem dX7_count_1 : decode cX7_count 1 = .ok (.ifCond .ne 37, 3) := by decide +kernel
theorem dX7_count_4 : decode cX7_count 4 = .ok (.iconst 0, 1) := by decide +kernel
theorem dX7_count_5 : decode cX7_count 5 = .ok (.istore_n 2, 1) := by decide +kernel
theorem dX7_count_6 : decode cX7_count 6 = .ok (.iconst 0, 1) := by decide +kernel
theorem dX7_count_7 : decode cX7_count 7 = .ok (.istore_n 3, 1) := by decide +kernel
theorem dX7_count_8 : decode cX7_count 8 = .ok (.iload_n 3, 1) := by decide +kernel
theorem dX7_count_9 : decode cX7_count 9 = .ok (.bipush 8, 2) := by decide +kernel
theorem dX7_count_11 : decode cX7_count 11 = .ok (.if_icmp .ge 25, 3) := by decide +kernel
theorem dX7_count_14 : decode cX7_count 14 = .ok (.iload_n 2, 1) := by decide +kernel
theorem dX7_count_15 : decode cX7_count 15 = .ok (.aload_n 0, 1) := by decide +kernel
theorem dX7_count_16 : decode cX7_count 16 = .ok (.iload_n 3, 1) := by decide +kernel
theorem dX7_count_17 : decode cX7_count 17 = .ok (.invokevirtual 75, 3) := by decide +kernel
theorem dX7_count_20 : decode cX7_count 20 = .ok (.ifCond .eq 7, 3) := by decide +kernel
theorem dX7_count_23 : decode cX7_count 23 = .ok (.iconst 0, 1) := by decide +kernel
theorem dX7_count_24 : decode cX7_count 24 = .ok (.goto 4, 3) := by decide +kernel
theorem dX7_count_27 : decode cX7_count 27 = .ok (.iconst 1, 1) := by decide +kernel
theorem dX7_count_28 : decode cX7_count 28 = .ok (.iadd, 1) := by decide +kernel
theorem dX7_count_29 : decode cX7_count 29 = .ok (.istore_n 2, 1) := by decide +kernel
theorem dX7_count_30 : decode cX7_count 30 = .ok (.iinc 3 1, 3) := by decide +kernel
theorem dX7_count_33 : decode cX7_count 33 = .ok (.goto (-25), 3) := by decide +kernel
theorem dX7_count_36 : decode cX7_count 36 = .ok (.iload_n 2, 1) := by decide +kernel
theorem dX7_count_37 : decode cX7_count 37 = .ok (.ireturn, 1) := by decide +kernel
theorem dX7_count_38 : decode cX7_count 38 = .ok (.iload_n 1, 1) := by decide +kernel
theorem dX7_count_39 : decode cX7_count 39 = .ok (.iconst 1, 1) := by decide +kernel
theorem dX7_count_40 : decode cX7_count 40 = .ok (.bipush 8, 2) := by decide +kernel
theorem dX7_count_42 : decode cX7_count 42 = .ok (.invokestatic 59, 3) := by decide +kernel
theorem dX7_count_45 : decode cX7_count 45 = .ok (.ifCond .ne 6, 3) := by decide +kernel
theorem dX7_count_48 : decode cX7_count 48 = .ok (.ldc 67, 2) := by decide +kernel
theorem dX7_count_50 : decode cX7_count 50 = .ok (.ireturn, 1) := by decide +kernel
theorem dX7_count_51 : decode cX7_count 51 = .ok (.iload_n 1, 1) := by decide +kernel
theorem dX7_count_52 : decode cX7_count 52 = .ok (.iconst 1, 1) := by decide +kernel
theorem dX7_count_53 : decode cX7_count 53 = .ok (.if_icmp .ne 13, 3) := by decide +kernel
theorem dX7_count_56 : decode cX7_count 56 = .ok (.aload_n 0, 1) := by decide +kernel
theorem dX7_count_57 : decode cX7_count 57 = .ok (.getfield 25, 3) := by decide +kernel
theorem dX7_count_60 : decode cX7_count 60 = .ok (.bipush 7, 2) := by decide +kernel
theorem dX7_count_62 : decode cX7_count 62 = .ok (.iaload, 1) := by decide +kernel
theorem dX7_count_63 : decode cX7_count 63 = .ok (.goto 96, 3) := by decide +kernel
theorem dX7_count_66 : decode cX7_count 66 = .ok (.iload_n 1, 1) := by decide +kernel
theorem dX7_count_67 : decode cX7_count 67 = .ok (.iconst 2, 1) := by decide +kernel
theorem dX7_count_68 : decode cX7_count 68 = .ok (.if_icmp .ne 13, 3) := by decide +kernel
theorem dX7_count_71 : decode cX7_count 71 = .ok (.aload_n 0, 1) := by decide +kernel
theorem dX7_count_72 : decode cX7_count 72 = .ok (.getfield 25, 3) := by decide +kernel
theorem dX7_count_75 : decode cX7_count 75 = .ok (.bipush 8, 2) := by decide +kernel
theorem dX7_count_77 : decode cX7_count 77 = .ok (.iaload, 1) := by decide +kernel
theorem dX7_count_78 : decode cX7_count 78 = .ok (.goto 81, 3) := by decide +kernel
theorem dX7_count_81 : decode cX7_count 81 = .ok (.iload_n 1, 1) := by decide +kernel
theorem dX7_count_82 : decode cX7_count 82 = .ok (.iconst 3, 1) := by decide +kernel
theorem dX7_count_83 : decode cX7_count 83 = .ok (.if_icmp .ne 12, 3) := by decide +kernel
theorem dX7_count_86 : decode cX7_count 86 = .ok (.aload_n 0, 1) := by decide +kernel
theorem dX7_count_87 : decode cX7_count 87 = .ok (.getfield 25, 3) := by decide +kernel
theorem dX7_count_90 : decode cX7_count 90 = .ok (.iconst 3, 1) := by decide +kernel
theorem dX7_count_91 : decode cX7_count 91 = .ok (.iaload, 1) := by decide +kernel
theorem dX7_count_92 : decode cX7_count 92 = .ok (.goto 67, 3) := by decide +kernel
theorem dX7_count_95 : decode cX7_count 95 = .ok (.iload_n 1, 1) := by decide +kernel
theorem dX7_count_96 : decode cX7_count 96 = .ok (.iconst 4, 1) := by decide +kernel
theorem dX7_count_97 : decode cX7_count 97 = .ok (.if_icmp .ne 12, 3) := by decide +kernel
theorem dX7_count_100 : decode cX7_count 100 = .ok (.aload_n 0, 1) := by decide +kernel
theorem dX7_count_101 : decode cX7_count 101 = .ok (.getfield 25, 3) := by decide +kernel
theorem dX7_count_104 : decode cX7_count 104 = .ok (.iconst 5, 1) := by decide +kernel
theorem dX7_count_105 : decode cX7_count 105 = .ok (.iaload, 1) := by decide +kernel
theorem dX7_count_106 : decode cX7_count 106 = .ok (.goto 53, 3) := by decide +kernel
theorem dX7_count_109 : decode cX7_count 109 = .ok (.iload_n 1, 1) := by decide +kernel
theorem dX7_count_110 : decode cX7_count 110 = .ok (.iconst 5, 1) := by decide +kernel
theorem dX7_count_111 : decode cX7_count 111 = .ok (.if_icmp .ne 13, 3) := by decide +kernel
theorem dX7_count_114 : decode cX7_count 114 = .ok (.aload_n 0, 1) := by decide +kernel
theorem dX7_count_115 : decode cX7_count 115 = .ok (.getfield 25, 3) := by decide +kernel
theorem dX7_count_118 : decode cX7_count 118 = .ok (.bipush 6, 2) := by decide +kernel
theorem dX7_count_120 : decode cX7_count 120 = .ok (.iaload, 1) := by decide +kernel
theorem dX7_count_121 : decode cX7_count 121 = .ok (.goto 38, 3) := by decide +kernel
theorem dX7_count_124 : decode cX7_count 124 = .ok (.iload_n 1, 1) := by decide +kernel
theorem dX7_count_125 : decode cX7_count 125 = .ok (.bipush 6, 2) := by decide +kernel
theorem dX7_count_127 : decode cX7_count 127 = .ok (.if_icmp .ne 15, 3) := by decide +kernel
theorem dX7_count_130 : decode cX7_count 130 = .ok (.aload_n 0, 1) := by decide +kernel
theorem dX7_count_131 : decode cX7_count 131 = .ok (.getfield 25, 3) := by decide +kernel
theorem dX7_count_134 : decode cX7_count 134 = .ok (.iconst 4, 1) := by decide +kernel
theorem dX7_count_135 : decode cX7_count 135 = .ok (.iaload, 1) := by decide +kernel
theorem dX7_count_136 : decode cX7_count 136 = .ok (.invokestatic 168, 3) := by decide +kernel
theorem dX7_count_139 : decode cX7_count 139 = .ok (.goto 20, 3) := by decide +kernel
theorem dX7_count_142 : decode cX7_count 142 = .ok (.iload_n 1, 1) := by decide +kernel
theorem dX7_count_143 : decode cX7_count 143 = .ok (.bipush 7, 2) := by decide +kernel
theorem dX7_count_145 : decode cX7_count 145 = .ok (.if_icmp .ne 10, 3) := by decide +kernel
theorem dX7_count_148 : decode cX7_count 148 = .ok (.aload_n 0, 1) := by decide +kernel
theorem dX7_count_149 : decode cX7_count 149 = .ok (.getfield 141, 3) := by decide +kernel
theorem dX7_count_152 : decode cX7_count 152 = .ok (.goto 7, 3) := by decide +kernel
theorem dX7_count_155 : decode cX7_count 155 = .ok (.aload_n 0, 1) := by decide +kernel
theorem dX7_count_156 : decode cX7_count 156 = .ok (.getfield 85, 3) := by decide +kernel
theorem dX7_count_159 : decode cX7_count 159 = .ok (.ireturn, 1) := by decide +kernel
theorem dX7_status_0 : decode cX7_status 0 = .ok (.aload_n 0, 1) := by decide +kernel
theorem dX7_status_1 : decode cX7_status 1 = .ok (.getfield 54, 3) := by decide +kernel
theorem dX7_status_4 : decode cX7_status 4 = .ok (.ireturn, 1) := by decide +kernel
end
section
theorem dL_law_0 : decode cL_law 0 = .ok (.new 7, 3) := by decide +kernel
theorem dL_law_3 : decode cL_law 3 = .ok (.dup, 1) := by decide +kernel
theorem dL_law_4 : decode cL_law 4 = .ok (.invokespecial 9, 3) := by decide +kernel
theorem dL_law_7 : decode cL_law 7 = .ok (.astore_n 1, 1) := by decide +kernel
theorem dL_law_8 : decode cL_law 8 = .ok (.new 10, 3) := by decide +kernel
theorem dL_law_11 : decode cL_law 11 = .ok (.dup, 1) := by decide +kernel
theorem dL_law_12 : decode cL_law 12 = .ok (.invokespecial 12, 3) := by decide +kernel
theorem dL_law_15 : decode cL_law 15 = .ok (.astore_n 2, 1) := by decide +kernel
theorem dL_law_16 : decode cL_law 16 = .ok (.iconst 0, 1) := by decide +kernel
theorem dL_law_17 : decode cL_law 17 = .ok (.istore_n 3, 1) := by decide +kernel
theorem dL_law_18 : decode cL_law 18 = .ok (.iload_n 3, 1) := by decide +kernel
theorem dL_law_19 : decode cL_law 19 = .ok (.aload_n 0, 1) := by decide +kernel
theorem dL_law_20 : decode cL_law 20 = .ok (.arraylength, 1) := by decide +kernel
theorem dL_law_21 : decode cL_law 21 = .ok (.bipush 6, 2) := by decide +kernel
theorem dL_law_23 : decode cL_law 23 = .ok (.isub, 1) := by decide +kernel
theorem dL_law_24 : decode cL_law 24 = .ok (.if_icmp .gt 1017, 3) := by decide +kernel
theorem dL_law_27 : decode cL_law 27 = .ok (.aload_n 0, 1) := by decide +kernel
theorem dL_law_28 : decode cL_law 28 = .ok (.iload_n 3, 1) := by decide +kernel
theorem dL_law_29 : decode cL_law 29 = .ok (.iaload, 1) := by decide +kernel
theorem dL_law_30 : decode cL_law 30 = .ok (.bipush 31, 2) := by decide +kernel
theorem dL_law_32 : decode cL_law 32 = .ok (.iand, 1) := by decide +kernel
theorem dL_law_33 : decode cL_law 33 = .ok (.tableswitch 1002 0 30 #[139, 182, 225, 288, 311, 334, 347, 360, 383, 406, 419, 452, 465, 498, 531, 564, 607, 630, 673, 696, 719, 742, 765, 808, 831, 854, 877, 910, 943, 966, 989], 139) := by decide +kernel
theorem dL_law_172 : decode cL_law 172 = .ok (.aload_n 1, 1) := by decide +kernel
theorem dL_law_173 : decode cL_law 173 = .ok (.aload_n 0, 1) := by decide +kernel
theorem dL_law_174 : decode cL_law 174 = .ok (.iload_n 3, 1) := by decide +kernel
theorem dL_law_175 : decode cL_law 175 = .ok (.iconst 1, 1) := by decide +kernel
theorem dL_law_176 : decode cL_law 176 = .ok (.iadd, 1) := by decide +kernel
theorem dL_law_177 : decode cL_law 177 = .ok (.iaload, 1) := by decide +kernel
theorem dL_law_178 : decode cL_law 178 = .ok (.aload_n 0, 1) := by decide +kernel
theorem dL_law_179 : decode cL_law 179 = .ok (.iload_n 3, 1) := by decide +kernel
theorem dL_law_180 : decode cL_law 180 = .ok (.iconst 2, 1) := by decide +kernel
theorem dL_law_181 : decode cL_law 181 = .ok (.iadd, 1) := by decide +kernel
theorem dL_law_182 : decode cL_law 182 = .ok (.iaload, 1) := by decide +kernel
theorem dL_law_183 : decode cL_law 183 = .ok (.aload_n 0, 1) := by decide +kernel
theorem dL_law_184 : decode cL_law 184 = .ok (.iload_n 3, 1) := by decide +kernel
theorem dL_law_185 : decode cL_law 185 = .ok (.iconst 3, 1) := by decide +kernel
theorem dL_law_186 : decode cL_law 186 = .ok (.iadd, 1) := by decide +kernel
theorem dL_law_187 : decode cL_law 187 = .ok (.iaload, 1) := by decide +kernel
theorem dL_law_188 : decode cL_law 188 = .ok (.invokevirtual 13, 3) := by decide +kernel
theorem dL_law_191 : decode cL_law 191 = .ok (.aload_n 2, 1) := by decide +kernel
theorem dL_law_192 : decode cL_law 192 = .ok (.aload_n 0, 1) := by decide +kernel
theorem dL_law_193 : decode cL_law 193 = .ok (.iload_n 3, 1) := by decide +kernel
theorem dL_law_194 : decode cL_law 194 = .ok (.iconst 1, 1) := by decide +kernel
theorem dL_law_195 : decode cL_law 195 = .ok (.iadd, 1) := by decide +kernel
theorem dL_law_196 : decode cL_law 196 = .ok (.iaload, 1) := by decide +kernel
theorem dL_law_197 : decode cL_law 197 = .ok (.aload_n 0, 1) := by decide +kernel
theorem dL_law_198 : decode cL_law 198 = .ok (.iload_n 3, 1) := by decide +kernel
theorem dL_law_199 : decode cL_law 199 = .ok (.iconst 2, 1) := by decide +kernel
theorem dL_law_200 : decode cL_law 200 = .ok (.iadd, 1) := by decide +kernel
theorem dL_law_201 : decode cL_law 201 = .ok (.iaload, 1) := by decide +kernel
theorem dL_law_202 : decode cL_law 202 = .ok (.aload_n 0, 1) := by decide +kernel
theorem dL_law_203 : decode cL_law 203 = .ok (.iload_n 3, 1) := by decide +kernel
theorem dL_law_204 : decode cL_law 204 = .ok (.iconst 3, 1) := by decide +kernel
theorem dL_law_205 : decode cL_law 205 = .ok (.iadd, 1) := by decide +kernel
theorem dL_law_206 : decode cL_law 206 = .ok (.iaload, 1) := by decide +kernel
theorem dL_law_207 : decode cL_law 207 = .ok (.invokevirtual 17, 3) := by decide +kernel
theorem dL_law_210 : decode cL_law 210 = .ok (.if_icmp .eq 825, 3) := by decide +kernel
theorem dL_law_213 : decode cL_law 213 = .ok (.iconst 0, 1) := by decide +kernel
theorem dL_law_214 : decode cL_law 214 = .ok (.ireturn, 1) := by decide +kernel
theorem dL_law_215 : decode cL_law 215 = .ok (.aload_n 1, 1) := by decide +kernel
theorem dL_law_216 : decode cL_law 216 = .ok (.aload_n 0, 1) := by decide +kernel
theorem dL_law_217 : decode cL_law 217 = .ok (.iload_n 3, 1) := by decide +kernel
theorem dL_law_218 : decode cL_law 218 = .ok (.iconst 1, 1) := by decide +kernel
theorem dL_law_219 : decode cL_law 219 = .ok (.iadd, 1) := by decide +kernel
theorem dL_law_220 : decode cL_law 220 = .ok (.iaload, 1) := by decide +kernel
theorem dL_law_221 : decode cL_law 221 = .ok (.aload_n 0, 1) := by decide +kernel
theorem dL_law_222 : decode cL_law 222 = .ok (.iload_n 3, 1) := by decide +kernel
theorem dL_law_223 : decode cL_law 223 = .ok (.iconst 2, 1) := by decide +kernel
theorem dL_law_224 : decode cL_law 224 = .ok (.iadd, 1) := by decide +kernel
theorem dL_law_225 : decode cL_law 225 = .ok (.iaload, 1) := by decide +kernel
theorem dL_law_226 : decode cL_law 226 = .ok (.aload_n 0, 1) := by decide +kernel
theorem dL_law_227 : decode cL_law 227 = .ok (.iload_n 3, 1) := by decide +kernel
theorem dL_law_228 : decode cL_law 228 = .ok (.iconst 3, 1) := by decide +kernel
theorem dL_law_229 : decode cL_law 229 = .ok (.iadd, 1) := by decide +kernel
theorem dL_law_230 : decode cL_law 230 = .ok (.iaload, 1) := by decide +kernel
theorem dL_law_231 : decode cL_law 231 = .ok (.invokevirtual 18, 3) := by decide +kernel
theorem dL_law_234 : decode cL_law 234 = .ok (.aload_n 2, 1) := by decide +kernel
theorem dL_law_235 : decode cL_law 235 = .ok (.aload_n 0, 1) := by decide +kernel
theorem dL_law_236 : decode cL_law 236 = .ok (.iload_n 3, 1) := by decide +kernel
theorem dL_law_237 : decode cL_law 237 = .ok (.iconst 1, 1) := by decide +kernel
theorem dL_law_238 : decode cL_law 238 = .ok (.iadd, 1) := by decide +kernel
theorem dL_law_239 : decode cL_law 239 = .ok (.iaload, 1) := by decide +kernel
theorem dL_law_240 : decode cL_law 240 = .ok (.aload_n 0, 1) := by decide +kernel
theorem dL_law_241 : decode cL_law 241 = .ok (.iload_n 3, 1) := by decide +kernel
theorem dL_law_242 : decode cL_law 242 = .ok (.iconst 2, 1) := by decide +kernel
theorem dL_law_243 : decode cL_law 243 = .ok (.iadd, 1) := by decide +kernel
theorem dL_law_244 : decode cL_law 244 = .ok (.iaload, 1) := by decide +kernel
theorem dL_law_245 : decode cL_law 245 = .ok (.aload_n 0, 1) := by decide +kernel
theorem dL_law_246 : decode cL_law 246 = .ok (.iload_n 3, 1) := by decide +kernel
theorem dL_law_247 : decode cL_law 247 = .ok (.iconst 3, 1) := by decide +kernel
theorem dL_law_248 : decode cL_law 248 = .ok (.iadd, 1) := by decide +kernel
theorem dL_law_249 : decode cL_law 249 = .ok (.iaload, 1) := by decide +kernel
theorem dL_law_250 : decode cL_law 250 = .ok (.invokevirtual 21, 3) := by decide +kernel
theorem dL_law_253 : decode cL_law 253 = .ok (.if_icmp .eq 782, 3) := by decide +kernel
theorem dL_law_256 : decode cL_law 256 = .ok (.iconst 0, 1) := by decide +kernel
theorem dL_law_257 : decode cL_law 257 = .ok (.ireturn, 1) := by decide +kernel
theorem dL_law_258 : decode cL_law 258 = .ok (.aload_n 1, 1) := by decide +kernel
theorem dL_law_259 : decode cL_law 259 = .ok (.aload_n 0, 1) := by decide +kernel
theorem dL_law_260 : decode cL_law 260 = .ok (.iload_n 3, 1) := by decide +kernel
theorem dL_law_261 : decode cL_law 261 = .ok (.iconst 1, 1) := by decide +kernel
theorem dL_law_262 : decode cL_law 262 = .ok (.iadd, 1) := by decide +kernel
theorem dL_law_263 : decode cL_law 263 = .ok (.iaload, 1) := by decide +kernel
theorem dL_law_264 : decode cL_law 264 = .ok (.aload_n 0, 1) := by decide +kernel
theorem dL_law_265 : decode cL_law 265 = .ok (.iload_n 3, 1) := by decide +kernel
theorem dL_law_266 : decode cL_law 266 = .ok (.iconst 2, 1) := by decide +kernel
theorem dL_law_267 : decode cL_law 267 = .ok (.iadd, 1) := by decide +kernel
theorem dL_law_268 : decode cL_law 268 = .ok (.iaload, 1) := by decide +kernel
theorem dL_law_269 : decode cL_law 269 = .ok (.aload_n 0, 1) := by decide +kernel
theorem dL_law_270 : decode cL_law 270 = .ok (.iload_n 3, 1) := by decide +kernel
theorem dL_law_271 : decode cL_law 271 = .ok (.iconst 3, 1) := by decide +kernel
theorem dL_law_272 : decode cL_law 272 = .ok (.iadd, 1) := by decide +kernel
theorem dL_law_273 : decode cL_law 273 = .ok (.iaload, 1) := by decide +kernel
theorem dL_law_274 : decode cL_law 274 = .ok (.aload_n 0, 1) := by decide +kernel
theorem dL_law_275 : decode cL_law 275 = .ok (.iload_n 3, 1) := by decide +kernel
theorem dL_law_276 : decode cL_law 276 = .ok (.iconst 4, 1) := by decide +kernel
theorem dL_law_277 : decode cL_law 277 = .ok (.iadd, 1) := by decide +kernel
theorem dL_law_278 : decode cL_law 278 = .ok (.iaload, 1) := by decide +kernel
theorem dL_law_279 : decode cL_law 279 = .ok (.aload_n 0, 1) := by decide +kernel
theorem dL_law_280 : decode cL_law 280 = .ok (.iload_n 3, 1) := by decide +kernel
theorem dL_law_281 : decode cL_law 281 = .ok (.iconst 5, 1) := by decide +kernel
theorem dL_law_282 : decode cL_law 282 = .ok (.iadd, 1) := by decide +kernel
theorem dL_law_283 : decode cL_law 283 = .ok (.iaload, 1) := by decide +kernel
theorem dL_law_284 : decode cL_law 284 = .ok (.invokevirtual 22, 3) := by decide +kernel
theorem dL_law_287 : decode cL_law 287 = .ok (.aload_n 2, 1) := by decide +kernel
theorem dL_law_288 : decode cL_law 288 = .ok (.aload_n 0, 1) := by decide +kernel
theorem dL_law_289 : decode cL_law 289 = .ok (.iload_n 3, 1) := by decide +kernel
theorem dL_law_290 : decode cL_law 290 = .ok (.iconst 1, 1) := by decide +kernel
theorem dL_law_291 : decode cL_law 291 = .ok (.iadd, 1) := by decide +kernel
theorem dL_law_292 : decode cL_law 292 = .ok (.iaload, 1) := by decide +kernel
theorem dL_law_293 : decode cL_law 293 = .ok (.aload_n 0, 1) := by decide +kernel
theorem dL_law_294 : decode cL_law 294 = .ok (.iload_n 3, 1) := by decide +kernel
theorem dL_law_295 : decode cL_law 295 = .ok (.iconst 2, 1) := by decide +kernel
theorem dL_law_296 : decode cL_law 296 = .ok (.iadd, 1) := by decide +kernel
theorem dL_law_297 : decode cL_law 297 = .ok (.iaload, 1) := by decide +kernel
theorem dL_law_298 : decode cL_law 298 = .ok (.aload_n 0, 1) := by decide +kernel
theorem dL_law_299 : decode cL_law 299 = .ok (.iload_n 3, 1) := by decide +kernel
theorem dL_law_300 : decode cL_law 300 = .ok (.iconst 3, 1) := by decide +kernel
theorem dL_law_301 : decode cL_law 301 = .ok (.iadd, 1) := by decide +kernel
theorem dL_law_302 : decode cL_law 302 = .ok (.iaload, 1) := by decide +kernel
theorem dL_law_303 : decode cL_law 303 = .ok (.aload_n 0, 1) := by decide +kernel
theorem dL_law_304 : decode cL_law 304 = .ok (.iload_n 3, 1) := by decide +kernel
theorem dL_law_305 : decode cL_law 305 = .ok (.iconst 4, 1) := by decide +kernel
theorem dL_law_306 : decode cL_law 306 = .ok (.iadd, 1) := by decide +kernel
theorem dL_law_307 : decode cL_law 307 = .ok (.iaload, 1) := by decide +kernel
theorem dL_law_308 : decode cL_law 308 = .ok (.aload_n 0, 1) := by decide +kernel
theorem dL_law_309 : decode cL_law 309 = .ok (.iload_n 3, 1) := by decide +kernel
theorem dL_law_310 : decode cL_law 310 = .ok (.iconst 5, 1) := by decide +kernel
theorem dL_law_311 : decode cL_law 311 = .ok (.iadd, 1) := by decide +kernel
theorem dL_law_312 : decode cL_law 312 = .ok (.iaload, 1) := by decide +kernel
theorem dL_law_313 : decode cL_law 313 = .ok (.invokevirtual 26, 3) := by decide +kernel
theorem dL_law_316 : decode cL_law 316 = .ok (.if_icmp .eq 719, 3) := by decide +kernel
theorem dL_law_319 : decode cL_law 319 = .ok (.iconst 0, 1) := by decide +kernel
theorem dL_law_320 : decode cL_law 320 = .ok (.ireturn, 1) := by decide +kernel
theorem dL_law_321 : decode cL_law 321 = .ok (.aload_n 1, 1) := by decide +kernel
theorem dL_law_322 : decode cL_law 322 = .ok (.aload_n 0, 1) := by decide +kernel
theorem dL_law_323 : decode cL_law 323 = .ok (.iload_n 3, 1) := by decide +kernel
theorem dL_law_324 : decode cL_law 324 = .ok (.iconst 1, 1) := by decide +kernel
theorem dL_law_325 : decode cL_law 325 = .ok (.iadd, 1) := by decide +kernel
theorem dL_law_326 : decode cL_law 326 = .ok (.iaload, 1) := by decide +kernel
theorem dL_law_327 : decode cL_law 327 = .ok (.invokevirtual 27, 3) := by decide +kernel
theorem dL_law_330 : decode cL_law 330 = .ok (.aload_n 2, 1) := by decide +kernel
theorem dL_law_331 : decode cL_law 331 = .ok (.aload_n 0, 1) := by decide +kernel
theorem dL_law_332 : decode cL_law 332 = .ok (.iload_n 3, 1) := by decide +kernel
theorem dL_law_333 : decode cL_law 333 = .ok (.iconst 1, 1) := by decide +kernel
theorem dL_law_334 : decode cL_law 334 = .ok (.iadd, 1) := by decide +kernel
theorem dL_law_335 : decode cL_law 335 = .ok (.iaload, 1) := by decide +kernel
theorem dL_law_336 : decode cL_law 336 = .ok (.invokevirtual 31, 3) := by decide +kernel
theorem dL_law_339 : decode cL_law 339 = .ok (.if_icmp .eq 696, 3) := by decide +kernel
theorem dL_law_342 : decode cL_law 342 = .ok (.iconst 0, 1) := by decide +kernel
theorem dL_law_343 : decode cL_law 343 = .ok (.ireturn, 1) := by decide +kernel
theorem dL_law_344 : decode cL_law 344 = .ok (.aload_n 1, 1) := by decide +kernel
theorem dL_law_345 : decode cL_law 345 = .ok (.aload_n 0, 1) := by decide +kernel
theorem dL_law_346 : decode cL_law 346 = .ok (.iload_n 3, 1) := by decide +kernel
theorem dL_law_347 : decode cL_law 347 = .ok (.iconst 1, 1) := by decide +kernel
theorem dL_law_348 : decode cL_law 348 = .ok (.iadd, 1) := by decide +kernel
theorem dL_law_349 : decode cL_law 349 = .ok (.iaload, 1) := by decide +kernel
theorem dL_law_350 : decode cL_law 350 = .ok (.invokevirtual 32, 3) := by decide +kernel
theorem dL_law_353 : decode cL_law 353 = .ok (.aload_n 2, 1) := by decide +kernel
theorem dL_law_354 : decode cL_law 354 = .ok (.aload_n 0, 1) := by decide +kernel
theorem dL_law_355 : decode cL_law 355 = .ok (.iload_n 3, 1) := by decide +kernel
theorem dL_law_356 : decode cL_law 356 = .ok (.iconst 1, 1) := by decide +kernel
theorem dL_law_357 : decode cL_law 357 = .ok (.iadd, 1) := by decide +kernel
theorem dL_law_358 : decode cL_law 358 = .ok (.iaload, 1) := by decide +kernel
theorem dL_law_359 : decode cL_law 359 = .ok (.invokevirtual 35, 3) := by decide +kernel
theorem dL_law_362 : decode cL_law 362 = .ok (.if_icmp .eq 673, 3) := by decide +kernel
theorem dL_law_365 : decode cL_law 365 = .ok (.iconst 0, 1) := by decide +kernel
theorem dL_law_366 : decode cL_law 366 = .ok (.ireturn, 1) := by decide +kernel
theorem dL_law_367 : decode cL_law 367 = .ok (.aload_n 1, 1) := by decide +kernel
theorem dL_law_368 : decode cL_law 368 = .ok (.invokevirtual 36, 3) := by decide +kernel
theorem dL_law_371 : decode cL_law 371 = .ok (.aload_n 2, 1) := by decide +kernel
theorem dL_law_372 : decode cL_law 372 = .ok (.invokevirtual 40, 3) := by decide +kernel
theorem dL_law_375 : decode cL_law 375 = .ok (.if_icmp .eq 660, 3) := by decide +kernel
theorem dL_law_378 : decode cL_law 378 = .ok (.iconst 0, 1) := by decide +kernel
theorem dL_law_379 : decode cL_law 379 = .ok (.ireturn, 1) := by decide +kernel
theorem dL_law_380 : decode cL_law 380 = .ok (.aload_n 1, 1) := by decide +kernel
theorem dL_law_381 : decode cL_law 381 = .ok (.invokevirtual 41, 3) := by decide +kernel
theorem dL_law_384 : decode cL_law 384 = .ok (.aload_n 2, 1) := by decide +kernel
theorem dL_law_385 : decode cL_law 385 = .ok (.invokevirtual 44, 3) := by decide +kernel
theorem dL_law_388 : decode cL_law 388 = .ok (.if_icmp .eq 647, 3) := by decide +kernel
theorem dL_law_391 : decode cL_law 391 = .ok (.iconst 0, 1) := by decide +kernel
theorem dL_law_392 : decode cL_law 392 = .ok (.ireturn, 1) := by decide +kernel
theorem dL_law_393 : decode cL_law 393 = .ok (.aload_n 1, 1) := by decide +kernel
theorem dL_law_394 : decode cL_law 394 = .ok (.aload_n 0, 1) := by decide +kernel
theorem dL_law_395 : decode cL_law 395 = .ok (.iload_n 3, 1) := by decide +kernel
theorem dL_law_396 : decode cL_law 396 = .ok (.iconst 1, 1) := by decide +kernel
theorem dL_law_397 : decode cL_law 397 = .ok (.iadd, 1) := by decide +kernel
theorem dL_law_398 : decode cL_law 398 = .ok (.iaload, 1) := by decide +kernel
theorem dL_law_399 : decode cL_law 399 = .ok (.invokevirtual 45, 3) := by decide +kernel
theorem dL_law_402 : decode cL_law 402 = .ok (.aload_n 2, 1) := by decide +kernel
theorem dL_law_403 : decode cL_law 403 = .ok (.aload_n 0, 1) := by decide +kernel
theorem dL_law_404 : decode cL_law 404 = .ok (.iload_n 3, 1) := by decide +kernel
theorem dL_law_405 : decode cL_law 405 = .ok (.iconst 1, 1) := by decide +kernel
theorem dL_law_406 : decode cL_law 406 = .ok (.iadd, 1) := by decide +kernel
theorem dL_law_407 : decode cL_law 407 = .ok (.iaload, 1) := by decide +kernel
theorem dL_law_408 : decode cL_law 408 = .ok (.invokevirtual 48, 3) := by decide +kernel
theorem dL_law_411 : decode cL_law 411 = .ok (.if_icmp .eq 624, 3) := by decide +kernel
theorem dL_law_414 : decode cL_law 414 = .ok (.iconst 0, 1) := by decide +kernel
theorem dL_law_415 : decode cL_law 415 = .ok (.ireturn, 1) := by decide +kernel
theorem dL_law_416 : decode cL_law 416 = .ok (.aload_n 1, 1) := by decide +kernel
theorem dL_law_417 : decode cL_law 417 = .ok (.aload_n 0, 1) := by decide +kernel
theorem dL_law_418 : decode cL_law 418 = .ok (.iload_n 3, 1) := by decide +kernel
theorem dL_law_419 : decode cL_law 419 = .ok (.iconst 1, 1) := by decide +kernel
theorem dL_law_420 : decode cL_law 420 = .ok (.iadd, 1) := by decide +kernel
theorem dL_law_421 : decode cL_law 421 = .ok (.iaload, 1) := by decide +kernel
theorem dL_law_422 : decode cL_law 422 = .ok (.invokevirtual 49, 3) := by decide +kernel
theorem dL_law_425 : decode cL_law 425 = .ok (.aload_n 2, 1) := by decide +kernel
theorem dL_law_426 : decode cL_law 426 = .ok (.aload_n 0, 1) := by decide +kernel
theorem dL_law_427 : decode cL_law 427 = .ok (.iload_n 3, 1) := by decide +kernel
theorem dL_law_428 : decode cL_law 428 = .ok (.iconst 1, 1) := by decide +kernel
theorem dL_law_429 : decode cL_law 429 = .ok (.iadd, 1) := by decide +kernel
theorem dL_law_430 : decode cL_law 430 = .ok (.iaload, 1) := by decide +kernel
theorem dL_law_431 : decode cL_law 431 = .ok (.invokevirtual 52, 3) := by decide +kernel
theorem dL_law_434 : decode cL_law 434 = .ok (.if_icmp .eq 601, 3) := by decide +kernel
theorem dL_law_437 : decode cL_law 437 = .ok (.iconst 0, 1) := by decide +kernel
theorem dL_law_438 : decode cL_law 438 = .ok (.ireturn, 1) := by decide +kernel
theorem dL_law_439 : decode cL_law 439 = .ok (.aload_n 1, 1) := by decide +kernel
theorem dL_law_440 : decode cL_law 440 = .ok (.invokevirtual 53, 3) := by decide +kernel
theorem dL_law_443 : decode cL_law 443 = .ok (.aload_n 2, 1) := by decide +kernel
theorem dL_law_444 : decode cL_law 444 = .ok (.invokevirtual 56, 3) := by decide +kernel
theorem dL_law_447 : decode cL_law 447 = .ok (.if_icmp .eq 588, 3) := by decide +kernel
theorem dL_law_450 : decode cL_law 450 = .ok (.iconst 0, 1) := by decide +kernel
theorem dL_law_451 : decode cL_law 451 = .ok (.ireturn, 1) := by decide +kernel
theorem dL_law_452 : decode cL_law 452 = .ok (.aload_n 1, 1) := by decide +kernel
theorem dL_law_453 : decode cL_law 453 = .ok (.aload_n 0, 1) := by decide +kernel
theorem dL_law_454 : decode cL_law 454 = .ok (.iload_n 3, 1) := by decide +kernel
theorem dL_law_455 : decode cL_law 455 = .ok (.iconst 1, 1) := by decide +kernel
theorem dL_law_456 : decode cL_law 456 = .ok (.iadd, 1) := by decide +kernel
theorem dL_law_457 : decode cL_law 457 = .ok (.iaload, 1) := by decide +kernel
theorem dL_law_458 : decode cL_law 458 = .ok (.aload_n 0, 1) := by decide +kernel
theorem dL_law_459 : decode cL_law 459 = .ok (.iload_n 3, 1) := by decide +kernel
theorem dL_law_460 : decode cL_law 460 = .ok (.iconst 2, 1) := by decide +kernel
theorem dL_law_461 : decode cL_law 461 = .ok (.iadd, 1) := by decide +kernel
theorem dL_law_462 : decode cL_law 462 = .ok (.iaload, 1) := by decide +kernel
theorem dL_law_463 : decode cL_law 463 = .ok (.invokevirtual 57, 3) := by decide +kernel
theorem dL_law_466 : decode cL_law 466 = .ok (.aload_n 2, 1) := by decide +kernel
theorem dL_law_467 : decode cL_law 467 = .ok (.aload_n 0, 1) := by decide +kernel
theorem dL_law_468 : decode cL_law 468 = .ok (.iload_n 3, 1) := by decide +kernel
theorem dL_law_469 : decode cL_law 469 = .ok (.iconst 1, 1) := by decide +kernel
theorem dL_law_470 : decode cL_law 470 = .ok (.iadd, 1) := by decide +kernel
theorem dL_law_471 : decode cL_law 471 = .ok (.iaload, 1) := by decide +kernel
theorem dL_law_472 : decode cL_law 472 = .ok (.aload_n 0, 1) := by decide +kernel
theorem dL_law_473 : decode cL_law 473 = .ok (.iload_n 3, 1) := by decide +kernel
theorem dL_law_474 : decode cL_law 474 = .ok (.iconst 2, 1) := by decide +kernel
theorem dL_law_475 : decode cL_law 475 = .ok (.iadd, 1) := by decide +kernel
theorem dL_law_476 : decode cL_law 476 = .ok (.iaload, 1) := by decide +kernel
theorem dL_law_477 : decode cL_law 477 = .ok (.invokevirtual 61, 3) := by decide +kernel
theorem dL_law_480 : decode cL_law 480 = .ok (.if_icmp .eq 555, 3) := by decide +kernel
theorem dL_law_483 : decode cL_law 483 = .ok (.iconst 0, 1) := by decide +kernel
theorem dL_law_484 : decode cL_law 484 = .ok (.ireturn, 1) := by decide +kernel
theorem dL_law_485 : decode cL_law 485 = .ok (.aload_n 1, 1) := by decide +kernel
theorem dL_law_486 : decode cL_law 486 = .ok (.invokevirtual 62, 3) := by decide +kernel
theorem dL_law_489 : decode cL_law 489 = .ok (.aload_n 2, 1) := by decide +kernel
theorem dL_law_490 : decode cL_law 490 = .ok (.invokevirtual 65, 3) := by decide +kernel
theorem dL_law_493 : decode cL_law 493 = .ok (.if_icmp .eq 542, 3) := by decide +kernel
theorem dL_law_496 : decode cL_law 496 = .ok (.iconst 0, 1) := by decide +kernel
theorem dL_law_497 : decode cL_law 497 = .ok (.ireturn, 1) := by decide +kernel
theorem dL_law_498 : decode cL_law 498 = .ok (.aload_n 1, 1) := by decide +kernel
theorem dL_law_499 : decode cL_law 499 = .ok (.aload_n 0, 1) := by decide +kernel
theorem dL_law_500 : decode cL_law 500 = .ok (.iload_n 3, 1) := by decide +kernel
theorem dL_law_501 : decode cL_law 501 = .ok (.iconst 1, 1) := by decide +kernel
theorem dL_law_502 : decode cL_law 502 = .ok (.iadd, 1) := by decide +kernel
theorem dL_law_503 : decode cL_law 503 = .ok (.iaload, 1) := by decide +kernel
theorem dL_law_504 : decode cL_law 504 = .ok (.aload_n 0, 1) := by decide +kernel
theorem dL_law_505 : decode cL_law 505 = .ok (.iload_n 3, 1) := by decide +kernel
theorem dL_law_506 : decode cL_law 506 = .ok (.iconst 2, 1) := by decide +kernel
theorem dL_law_507 : decode cL_law 507 = .ok (.iadd, 1) := by decide +kernel
theorem dL_law_508 : decode cL_law 508 = .ok (.iaload, 1) := by decide +kernel
theorem dL_law_509 : decode cL_law 509 = .ok (.invokevirtual 66, 3) := by decide +kernel
theorem dL_law_512 : decode cL_law 512 = .ok (.aload_n 2, 1) := by decide +kernel
theorem dL_law_513 : decode cL_law 513 = .ok (.aload_n 0, 1) := by decide +kernel
theorem dL_law_514 : decode cL_law 514 = .ok (.iload_n 3, 1) := by decide +kernel
theorem dL_law_515 : decode cL_law 515 = .ok (.iconst 1, 1) := by decide +kernel
theorem dL_law_516 : decode cL_law 516 = .ok (.iadd, 1) := by decide +kernel
theorem dL_law_517 : decode cL_law 517 = .ok (.iaload, 1) := by decide +kernel
theorem dL_law_518 : decode cL_law 518 = .ok (.aload_n 0, 1) := by decide +kernel
theorem dL_law_519 : decode cL_law 519 = .ok (.iload_n 3, 1) := by decide +kernel
theorem dL_law_520 : decode cL_law 520 = .ok (.iconst 2, 1) := by decide +kernel
theorem dL_law_521 : decode cL_law 521 = .ok (.iadd, 1) := by decide +kernel
theorem dL_law_522 : decode cL_law 522 = .ok (.iaload, 1) := by decide +kernel
theorem dL_law_523 : decode cL_law 523 = .ok (.invokevirtual 69, 3) := by decide +kernel
theorem dL_law_526 : decode cL_law 526 = .ok (.if_icmp .eq 509, 3) := by decide +kernel
theorem dL_law_529 : decode cL_law 529 = .ok (.iconst 0, 1) := by decide +kernel
theorem dL_law_530 : decode cL_law 530 = .ok (.ireturn, 1) := by decide +kernel
theorem dL_law_531 : decode cL_law 531 = .ok (.aload_n 1, 1) := by decide +kernel
theorem dL_law_532 : decode cL_law 532 = .ok (.aload_n 0, 1) := by decide +kernel
theorem dL_law_533 : decode cL_law 533 = .ok (.iload_n 3, 1) := by decide +kernel
theorem dL_law_534 : decode cL_law 534 = .ok (.iconst 1, 1) := by decide +kernel
theorem dL_law_535 : decode cL_law 535 = .ok (.iadd, 1) := by decide +kernel
theorem dL_law_536 : decode cL_law 536 = .ok (.iaload, 1) := by decide +kernel
theorem dL_law_537 : decode cL_law 537 = .ok (.aload_n 0, 1) := by decide +kernel
theorem dL_law_538 : decode cL_law 538 = .ok (.iload_n 3, 1) := by decide +kernel
theorem dL_law_539 : decode cL_law 539 = .ok (.iconst 2, 1) := by decide +kernel
theorem dL_law_540 : decode cL_law 540 = .ok (.iadd, 1) := by decide +kernel
theorem dL_law_541 : decode cL_law 541 = .ok (.iaload, 1) := by decide +kernel
theorem dL_law_542 : decode cL_law 542 = .ok (.invokevirtual 70, 3) := by decide +kernel
theorem dL_law_545 : decode cL_law 545 = .ok (.aload_n 2, 1) := by decide +kernel
theorem dL_law_546 : decode cL_law 546 = .ok (.aload_n 0, 1) := by decide +kernel
theorem dL_law_547 : decode cL_law 547 = .ok (.iload_n 3, 1) := by decide +kernel
theorem dL_law_548 : decode cL_law 548 = .ok (.iconst 1, 1) := by decide +kernel
theorem dL_law_549 : decode cL_law 549 = .ok (.iadd, 1) := by decide +kernel
theorem dL_law_550 : decode cL_law 550 = .ok (.iaload, 1) := by decide +kernel
theorem dL_law_551 : decode cL_law 551 = .ok (.aload_n 0, 1) := by decide +kernel
theorem dL_law_552 : decode cL_law 552 = .ok (.iload_n 3, 1) := by decide +kernel
theorem dL_law_553 : decode cL_law 553 = .ok (.iconst 2, 1) := by decide +kernel
theorem dL_law_554 : decode cL_law 554 = .ok (.iadd, 1) := by decide +kernel
theorem dL_law_555 : decode cL_law 555 = .ok (.iaload, 1) := by decide +kernel
theorem dL_law_556 : decode cL_law 556 = .ok (.invokevirtual 73, 3) := by decide +kernel
theorem dL_law_559 : decode cL_law 559 = .ok (.if_icmp .eq 476, 3) := by decide +kernel
theorem dL_law_562 : decode cL_law 562 = .ok (.iconst 0, 1) := by decide +kernel
theorem dL_law_563 : decode cL_law 563 = .ok (.ireturn, 1) := by decide +kernel
theorem dL_law_564 : decode cL_law 564 = .ok (.aload_n 1, 1) := by decide +kernel
theorem dL_law_565 : decode cL_law 565 = .ok (.aload_n 0, 1) := by decide +kernel
theorem dL_law_566 : decode cL_law 566 = .ok (.iload_n 3, 1) := by decide +kernel
theorem dL_law_567 : decode cL_law 567 = .ok (.iconst 1, 1) := by decide +kernel
theorem dL_law_568 : decode cL_law 568 = .ok (.iadd, 1) := by decide +kernel
theorem dL_law_569 : decode cL_law 569 = .ok (.iaload, 1) := by decide +kernel
theorem dL_law_570 : decode cL_law 570 = .ok (.aload_n 0, 1) := by decide +kernel
theorem dL_law_571 : decode cL_law 571 = .ok (.iload_n 3, 1) := by decide +kernel
theorem dL_law_572 : decode cL_law 572 = .ok (.iconst 2, 1) := by decide +kernel
theorem dL_law_573 : decode cL_law 573 = .ok (.iadd, 1) := by decide +kernel
theorem dL_law_574 : decode cL_law 574 = .ok (.iaload, 1) := by decide +kernel
theorem dL_law_575 : decode cL_law 575 = .ok (.invokevirtual 74, 3) := by decide +kernel
theorem dL_law_578 : decode cL_law 578 = .ok (.aload_n 2, 1) := by decide +kernel
theorem dL_law_579 : decode cL_law 579 = .ok (.aload_n 0, 1) := by decide +kernel
theorem dL_law_580 : decode cL_law 580 = .ok (.iload_n 3, 1) := by decide +kernel
theorem dL_law_581 : decode cL_law 581 = .ok (.iconst 1, 1) := by decide +kernel
theorem dL_law_582 : decode cL_law 582 = .ok (.iadd, 1) := by decide +kernel
theorem dL_law_583 : decode cL_law 583 = .ok (.iaload, 1) := by decide +kernel
theorem dL_law_584 : decode cL_law 584 = .ok (.aload_n 0, 1) := by decide +kernel
theorem dL_law_585 : decode cL_law 585 = .ok (.iload_n 3, 1) := by decide +kernel
theorem dL_law_586 : decode cL_law 586 = .ok (.iconst 2, 1) := by decide +kernel
theorem dL_law_587 : decode cL_law 587 = .ok (.iadd, 1) := by decide +kernel
theorem dL_law_588 : decode cL_law 588 = .ok (.iaload, 1) := by decide +kernel
theorem dL_law_589 : decode cL_law 589 = .ok (.invokevirtual 77, 3) := by decide +kernel
theorem dL_law_592 : decode cL_law 592 = .ok (.if_icmp .eq 443, 3) := by decide +kernel
theorem dL_law_595 : decode cL_law 595 = .ok (.iconst 0, 1) := by decide +kernel
theorem dL_law_596 : decode cL_law 596 = .ok (.ireturn, 1) := by decide +kernel
theorem dL_law_597 : decode cL_law 597 = .ok (.aload_n 1, 1) := by decide +kernel
theorem dL_law_598 : decode cL_law 598 = .ok (.aload_n 0, 1) := by decide +kernel
theorem dL_law_599 : decode cL_law 599 = .ok (.iload_n 3, 1) := by decide +kernel
theorem dL_law_600 : decode cL_law 600 = .ok (.iconst 1, 1) := by decide +kernel
theorem dL_law_601 : decode cL_law 601 = .ok (.iadd, 1) := by decide +kernel
theorem dL_law_602 : decode cL_law 602 = .ok (.iaload, 1) := by decide +kernel
theorem dL_law_603 : decode cL_law 603 = .ok (.aload_n 0, 1) := by decide +kernel
theorem dL_law_604 : decode cL_law 604 = .ok (.iload_n 3, 1) := by decide +kernel
theorem dL_law_605 : decode cL_law 605 = .ok (.iconst 2, 1) := by decide +kernel
theorem dL_law_606 : decode cL_law 606 = .ok (.iadd, 1) := by decide +kernel
theorem dL_law_607 : decode cL_law 607 = .ok (.iaload, 1) := by decide +kernel
theorem dL_law_608 : decode cL_law 608 = .ok (.aload_n 0, 1) := by decide +kernel
theorem dL_law_609 : decode cL_law 609 = .ok (.iload_n 3, 1) := by decide +kernel
theorem dL_law_610 : decode cL_law 610 = .ok (.iconst 3, 1) := by decide +kernel
theorem dL_law_611 : decode cL_law 611 = .ok (.iadd, 1) := by decide +kernel
theorem dL_law_612 : decode cL_law 612 = .ok (.iaload, 1) := by decide +kernel
theorem dL_law_613 : decode cL_law 613 = .ok (.invokevirtual 78, 3) := by decide +kernel
theorem dL_law_616 : decode cL_law 616 = .ok (.aload_n 2, 1) := by decide +kernel
theorem dL_law_617 : decode cL_law 617 = .ok (.aload_n 0, 1) := by decide +kernel
theorem dL_law_618 : decode cL_law 618 = .ok (.iload_n 3, 1) := by decide +kernel
theorem dL_law_619 : decode cL_law 619 = .ok (.iconst 1, 1) := by decide +kernel
theorem dL_law_620 : decode cL_law 620 = .ok (.iadd, 1) := by decide +kernel
theorem dL_law_621 : decode cL_law 621 = .ok (.iaload, 1) := by decide +kernel
theorem dL_law_622 : decode cL_law 622 = .ok (.aload_n 0, 1) := by decide +kernel
theorem dL_law_623 : decode cL_law 623 = .ok (.iload_n 3, 1) := by decide +kernel
theorem dL_law_624 : decode cL_law 624 = .ok (.iconst 2, 1) := by decide +kernel
theorem dL_law_625 : decode cL_law 625 = .ok (.iadd, 1) := by decide +kernel
theorem dL_law_626 : decode cL_law 626 = .ok (.iaload, 1) := by decide +kernel
theorem dL_law_627 : decode cL_law 627 = .ok (.aload_n 0, 1) := by decide +kernel
theorem dL_law_628 : decode cL_law 628 = .ok (.iload_n 3, 1) := by decide +kernel
theorem dL_law_629 : decode cL_law 629 = .ok (.iconst 3, 1) := by decide +kernel
theorem dL_law_630 : decode cL_law 630 = .ok (.iadd, 1) := by decide +kernel
theorem dL_law_631 : decode cL_law 631 = .ok (.iaload, 1) := by decide +kernel
theorem dL_law_632 : decode cL_law 632 = .ok (.invokevirtual 81, 3) := by decide +kernel
theorem dL_law_635 : decode cL_law 635 = .ok (.if_icmp .eq 400, 3) := by decide +kernel
theorem dL_law_638 : decode cL_law 638 = .ok (.iconst 0, 1) := by decide +kernel
theorem dL_law_639 : decode cL_law 639 = .ok (.ireturn, 1) := by decide +kernel
theorem dL_law_640 : decode cL_law 640 = .ok (.aload_n 1, 1) := by decide +kernel
theorem dL_law_641 : decode cL_law 641 = .ok (.aload_n 0, 1) := by decide +kernel
theorem dL_law_642 : decode cL_law 642 = .ok (.iload_n 3, 1) := by decide +kernel
theorem dL_law_643 : decode cL_law 643 = .ok (.iconst 1, 1) := by decide +kernel
theorem dL_law_644 : decode cL_law 644 = .ok (.iadd, 1) := by decide +kernel
theorem dL_law_645 : decode cL_law 645 = .ok (.iaload, 1) := by decide +kernel
theorem dL_law_646 : decode cL_law 646 = .ok (.invokevirtual 82, 3) := by decide +kernel
theorem dL_law_649 : decode cL_law 649 = .ok (.aload_n 2, 1) := by decide +kernel
theorem dL_law_650 : decode cL_law 650 = .ok (.aload_n 0, 1) := by decide +kernel
theorem dL_law_651 : decode cL_law 651 = .ok (.iload_n 3, 1) := by decide +kernel
theorem dL_law_652 : decode cL_law 652 = .ok (.iconst 1, 1) := by decide +kernel
theorem dL_law_653 : decode cL_law 653 = .ok (.iadd, 1) := by decide +kernel
theorem dL_law_654 : decode cL_law 654 = .ok (.iaload, 1) := by decide +kernel
theorem dL_law_655 : decode cL_law 655 = .ok (.invokevirtual 85, 3) := by decide +kernel
theorem dL_law_658 : decode cL_law 658 = .ok (.if_icmp .eq 377, 3) := by decide +kernel
theorem dL_law_661 : decode cL_law 661 = .ok (.iconst 0, 1) := by decide +kernel
theorem dL_law_662 : decode cL_law 662 = .ok (.ireturn, 1) := by decide +kernel
theorem dL_law_663 : decode cL_law 663 = .ok (.aload_n 1, 1) := by decide +kernel
theorem dL_law_664 : decode cL_law 664 = .ok (.aload_n 0, 1) := by decide +kernel
theorem dL_law_665 : decode cL_law 665 = .ok (.iload_n 3, 1) := by decide +kernel
theorem dL_law_666 : decode cL_law 666 = .ok (.iconst 1, 1) := by decide +kernel
theorem dL_law_667 : decode cL_law 667 = .ok (.iadd, 1) := by decide +kernel
theorem dL_law_668 : decode cL_law 668 = .ok (.iaload, 1) := by decide +kernel
theorem dL_law_669 : decode cL_law 669 = .ok (.aload_n 0, 1) := by decide +kernel
theorem dL_law_670 : decode cL_law 670 = .ok (.iload_n 3, 1) := by decide +kernel
theorem dL_law_671 : decode cL_law 671 = .ok (.iconst 2, 1) := by decide +kernel
theorem dL_law_672 : decode cL_law 672 = .ok (.iadd, 1) := by decide +kernel
theorem dL_law_673 : decode cL_law 673 = .ok (.iaload, 1) := by decide +kernel
theorem dL_law_674 : decode cL_law 674 = .ok (.aload_n 0, 1) := by decide +kernel
theorem dL_law_675 : decode cL_law 675 = .ok (.iload_n 3, 1) := by decide +kernel
theorem dL_law_676 : decode cL_law 676 = .ok (.iconst 3, 1) := by decide +kernel
theorem dL_law_677 : decode cL_law 677 = .ok (.iadd, 1) := by decide +kernel
theorem dL_law_678 : decode cL_law 678 = .ok (.iaload, 1) := by decide +kernel
theorem dL_law_679 : decode cL_law 679 = .ok (.invokevirtual 86, 3) := by decide +kernel
theorem dL_law_682 : decode cL_law 682 = .ok (.aload_n 2, 1) := by decide +kernel
theorem dL_law_683 : decode cL_law 683 = .ok (.aload_n 0, 1) := by decide +kernel
theorem dL_law_684 : decode cL_law 684 = .ok (.iload_n 3, 1) := by decide +kernel
theorem dL_law_685 : decode cL_law 685 = .ok (.iconst 1, 1) := by decide +kernel
theorem dL_law_686 : decode cL_law 686 = .ok (.iadd, 1) := by decide +kernel
theorem dL_law_687 : decode cL_law 687 = .ok (.iaload, 1) := by decide +kernel
theorem dL_law_688 : decode cL_law 688 = .ok (.aload_n 0, 1) := by decide +kernel
theorem dL_law_689 : decode cL_law 689 = .ok (.iload_n 3, 1) := by decide +kernel
theorem dL_law_690 : decode cL_law 690 = .ok (.iconst 2, 1) := by decide +kernel
theorem dL_law_691 : decode cL_law 691 = .ok (.iadd, 1) := by decide +kernel
theorem dL_law_692 : decode cL_law 692 = .ok (.iaload, 1) := by decide +kernel
theorem dL_law_693 : decode cL_law 693 = .ok (.aload_n 0, 1) := by decide +kernel
theorem dL_law_694 : decode cL_law 694 = .ok (.iload_n 3, 1) := by decide +kernel
theorem dL_law_695 : decode cL_law 695 = .ok (.iconst 3, 1) := by decide +kernel
theorem dL_law_696 : decode cL_law 696 = .ok (.iadd, 1) := by decide +kernel
theorem dL_law_697 : decode cL_law 697 = .ok (.iaload, 1) := by decide +kernel
theorem dL_law_698 : decode cL_law 698 = .ok (.invokevirtual 89, 3) := by decide +kernel
theorem dL_law_701 : decode cL_law 701 = .ok (.if_icmp .eq 334, 3) := by decide +kernel
theorem dL_law_704 : decode cL_law 704 = .ok (.iconst 0, 1) := by decide +kernel
theorem dL_law_705 : decode cL_law 705 = .ok (.ireturn, 1) := by decide +kernel
theorem dL_law_706 : decode cL_law 706 = .ok (.aload_n 1, 1) := by decide +kernel
theorem dL_law_707 : decode cL_law 707 = .ok (.aload_n 0, 1) := by decide +kernel
theorem dL_law_708 : decode cL_law 708 = .ok (.iload_n 3, 1) := by decide +kernel
theorem dL_law_709 : decode cL_law 709 = .ok (.iconst 1, 1) := by decide +kernel
theorem dL_law_710 : decode cL_law 710 = .ok (.iadd, 1) := by decide +kernel
theorem dL_law_711 : decode cL_law 711 = .ok (.iaload, 1) := by decide +kernel
theorem dL_law_712 : decode cL_law 712 = .ok (.invokevirtual 90, 3) := by decide +kernel
theorem dL_law_715 : decode cL_law 715 = .ok (.aload_n 2, 1) := by decide +kernel
theorem dL_law_716 : decode cL_law 716 = .ok (.aload_n 0, 1) := by decide +kernel
theorem dL_law_717 : decode cL_law 717 = .ok (.iload_n 3, 1) := by decide +kernel
theorem dL_law_718 : decode cL_law 718 = .ok (.iconst 1, 1) := by decide +kernel
theorem dL_law_719 : decode cL_law 719 = .ok (.iadd, 1) := by decide +kernel
theorem dL_law_720 : decode cL_law 720 = .ok (.iaload, 1) := by decide +kernel
theorem dL_law_721 : decode cL_law 721 = .ok (.invokevirtual 93, 3) := by decide +kernel
theorem dL_law_724 : decode cL_law 724 = .ok (.if_icmp .eq 311, 3) := by decide +kernel
theorem dL_law_727 : decode cL_law 727 = .ok (.iconst 0, 1) := by decide +kernel
theorem dL_law_728 : decode cL_law 728 = .ok (.ireturn, 1) := by decide +kernel
theorem dL_law_729 : decode cL_law 729 = .ok (.aload_n 1, 1) := by decide +kernel
theorem dL_law_730 : decode cL_law 730 = .ok (.aload_n 0, 1) := by decide +kernel
theorem dL_law_731 : decode cL_law 731 = .ok (.iload_n 3, 1) := by decide +kernel
theorem dL_law_732 : decode cL_law 732 = .ok (.iconst 1, 1) := by decide +kernel
theorem dL_law_733 : decode cL_law 733 = .ok (.iadd, 1) := by decide +kernel
theorem dL_law_734 : decode cL_law 734 = .ok (.iaload, 1) := by decide +kernel
theorem dL_law_735 : decode cL_law 735 = .ok (.invokevirtual 94, 3) := by decide +kernel
theorem dL_law_738 : decode cL_law 738 = .ok (.aload_n 2, 1) := by decide +kernel
theorem dL_law_739 : decode cL_law 739 = .ok (.aload_n 0, 1) := by decide +kernel
theorem dL_law_740 : decode cL_law 740 = .ok (.iload_n 3, 1) := by decide +kernel
theorem dL_law_741 : decode cL_law 741 = .ok (.iconst 1, 1) := by decide +kernel
theorem dL_law_742 : decode cL_law 742 = .ok (.iadd, 1) := by decide +kernel
theorem dL_law_743 : decode cL_law 743 = .ok (.iaload, 1) := by decide +kernel
theorem dL_law_744 : decode cL_law 744 = .ok (.invokevirtual 97, 3) := by decide +kernel
theorem dL_law_747 : decode cL_law 747 = .ok (.if_icmp .eq 288, 3) := by decide +kernel
theorem dL_law_750 : decode cL_law 750 = .ok (.iconst 0, 1) := by decide +kernel
theorem dL_law_751 : decode cL_law 751 = .ok (.ireturn, 1) := by decide +kernel
theorem dL_law_752 : decode cL_law 752 = .ok (.aload_n 1, 1) := by decide +kernel
theorem dL_law_753 : decode cL_law 753 = .ok (.aload_n 0, 1) := by decide +kernel
theorem dL_law_754 : decode cL_law 754 = .ok (.iload_n 3, 1) := by decide +kernel
theorem dL_law_755 : decode cL_law 755 = .ok (.iconst 1, 1) := by decide +kernel
theorem dL_law_756 : decode cL_law 756 = .ok (.iadd, 1) := by decide +kernel
theorem dL_law_757 : decode cL_law 757 = .ok (.iaload, 1) := by decide +kernel
theorem dL_law_758 : decode cL_law 758 = .ok (.invokevirtual 98, 3) := by decide +kernel
theorem dL_law_761 : decode cL_law 761 = .ok (.aload_n 2, 1) := by decide +kernel
theorem dL_law_762 : decode cL_law 762 = .ok (.aload_n 0, 1) := by decide +kernel
theorem dL_law_763 : decode cL_law 763 = .ok (.iload_n 3, 1) := by decide +kernel
theorem dL_law_764 : decode cL_law 764 = .ok (.iconst 1, 1) := by decide +kernel
theorem dL_law_765 : decode cL_law 765 = .ok (.iadd, 1) := by decide +kernel
theorem dL_law_766 : decode cL_law 766 = .ok (.iaload, 1) := by decide +kernel
theorem dL_law_767 : decode cL_law 767 = .ok (.invokevirtual 101, 3) := by decide +kernel
theorem dL_law_770 : decode cL_law 770 = .ok (.if_icmp .eq 265, 3) := by decide +kernel
theorem dL_law_773 : decode cL_law 773 = .ok (.iconst 0, 1) := by decide +kernel
theorem dL_law_774 : decode cL_law 774 = .ok (.ireturn, 1) := by decide +kernel
theorem dL_law_775 : decode cL_law 775 = .ok (.aload_n 1, 1) := by decide +kernel
theorem dL_law_776 : decode cL_law 776 = .ok (.aload_n 0, 1) := by decide +kernel
theorem dL_law_777 : decode cL_law 777 = .ok (.iload_n 3, 1) := by decide +kernel
theorem dL_law_778 : decode cL_law 778 = .ok (.iconst 1, 1) := by decide +kernel
theorem dL_law_779 : decode cL_law 779 = .ok (.iadd, 1) := by decide +kernel
theorem dL_law_780 : decode cL_law 780 = .ok (.iaload, 1) := by decide +kernel
theorem dL_law_781 : decode cL_law 781 = .ok (.invokevirtual 102, 3) := by decide +kernel
theorem dL_law_784 : decode cL_law 784 = .ok (.aload_n 2, 1) := by decide +kernel
theorem dL_law_785 : decode cL_law 785 = .ok (.aload_n 0, 1) := by decide +kernel
theorem dL_law_786 : decode cL_law 786 = .ok (.iload_n 3, 1) := by decide +kernel
theorem dL_law_787 : decode cL_law 787 = .ok (.iconst 1, 1) := by decide +kernel
theorem dL_law_788 : decode cL_law 788 = .ok (.iadd, 1) := by decide +kernel
theorem dL_law_789 : decode cL_law 789 = .ok (.iaload, 1) := by decide +kernel
theorem dL_law_790 : decode cL_law 790 = .ok (.invokevirtual 105, 3) := by decide +kernel
theorem dL_law_793 : decode cL_law 793 = .ok (.if_icmp .eq 242, 3) := by decide +kernel
theorem dL_law_796 : decode cL_law 796 = .ok (.iconst 0, 1) := by decide +kernel
theorem dL_law_797 : decode cL_law 797 = .ok (.ireturn, 1) := by decide +kernel
theorem dL_law_798 : decode cL_law 798 = .ok (.aload_n 1, 1) := by decide +kernel
theorem dL_law_799 : decode cL_law 799 = .ok (.aload_n 0, 1) := by decide +kernel
theorem dL_law_800 : decode cL_law 800 = .ok (.iload_n 3, 1) := by decide +kernel
theorem dL_law_801 : decode cL_law 801 = .ok (.iconst 1, 1) := by decide +kernel
theorem dL_law_802 : decode cL_law 802 = .ok (.iadd, 1) := by decide +kernel
theorem dL_law_803 : decode cL_law 803 = .ok (.iaload, 1) := by decide +kernel
theorem dL_law_804 : decode cL_law 804 = .ok (.aload_n 0, 1) := by decide +kernel
theorem dL_law_805 : decode cL_law 805 = .ok (.iload_n 3, 1) := by decide +kernel
theorem dL_law_806 : decode cL_law 806 = .ok (.iconst 2, 1) := by decide +kernel
theorem dL_law_807 : decode cL_law 807 = .ok (.iadd, 1) := by decide +kernel
theorem dL_law_808 : decode cL_law 808 = .ok (.iaload, 1) := by decide +kernel
theorem dL_law_809 : decode cL_law 809 = .ok (.aload_n 0, 1) := by decide +kernel
theorem dL_law_810 : decode cL_law 810 = .ok (.iload_n 3, 1) := by decide +kernel
theorem dL_law_811 : decode cL_law 811 = .ok (.iconst 3, 1) := by decide +kernel
theorem dL_law_812 : decode cL_law 812 = .ok (.iadd, 1) := by decide +kernel
theorem dL_law_813 : decode cL_law 813 = .ok (.iaload, 1) := by decide +kernel
theorem dL_law_814 : decode cL_law 814 = .ok (.invokevirtual 106, 3) := by decide +kernel
theorem dL_law_817 : decode cL_law 817 = .ok (.aload_n 2, 1) := by decide +kernel
theorem dL_law_818 : decode cL_law 818 = .ok (.aload_n 0, 1) := by decide +kernel
theorem dL_law_819 : decode cL_law 819 = .ok (.iload_n 3, 1) := by decide +kernel
theorem dL_law_820 : decode cL_law 820 = .ok (.iconst 1, 1) := by decide +kernel
theorem dL_law_821 : decode cL_law 821 = .ok (.iadd, 1) := by decide +kernel
theorem dL_law_822 : decode cL_law 822 = .ok (.iaload, 1) := by decide +kernel
theorem dL_law_823 : decode cL_law 823 = .ok (.aload_n 0, 1) := by decide +kernel
theorem dL_law_824 : decode cL_law 824 = .ok (.iload_n 3, 1) := by decide +kernel
theorem dL_law_825 : decode cL_law 825 = .ok (.iconst 2, 1) := by decide +kernel
theorem dL_law_826 : decode cL_law 826 = .ok (.iadd, 1) := by decide +kernel
theorem dL_law_827 : decode cL_law 827 = .ok (.iaload, 1) := by decide +kernel
theorem dL_law_828 : decode cL_law 828 = .ok (.aload_n 0, 1) := by decide +kernel
theorem dL_law_829 : decode cL_law 829 = .ok (.iload_n 3, 1) := by decide +kernel
theorem dL_law_830 : decode cL_law 830 = .ok (.iconst 3, 1) := by decide +kernel
theorem dL_law_831 : decode cL_law 831 = .ok (.iadd, 1) := by decide +kernel
theorem dL_law_832 : decode cL_law 832 = .ok (.iaload, 1) := by decide +kernel
theorem dL_law_833 : decode cL_law 833 = .ok (.invokevirtual 109, 3) := by decide +kernel
theorem dL_law_836 : decode cL_law 836 = .ok (.if_icmp .eq 199, 3) := by decide +kernel
theorem dL_law_839 : decode cL_law 839 = .ok (.iconst 0, 1) := by decide +kernel
theorem dL_law_840 : decode cL_law 840 = .ok (.ireturn, 1) := by decide +kernel
theorem dL_law_841 : decode cL_law 841 = .ok (.aload_n 1, 1) := by decide +kernel
theorem dL_law_842 : decode cL_law 842 = .ok (.aload_n 0, 1) := by decide +kernel
theorem dL_law_843 : decode cL_law 843 = .ok (.iload_n 3, 1) := by decide +kernel
theorem dL_law_844 : decode cL_law 844 = .ok (.iconst 1, 1) := by decide +kernel
theorem dL_law_845 : decode cL_law 845 = .ok (.iadd, 1) := by decide +kernel
theorem dL_law_846 : decode cL_law 846 = .ok (.iaload, 1) := by decide +kernel
theorem dL_law_847 : decode cL_law 847 = .ok (.invokevirtual 110, 3) := by decide +kernel
theorem dL_law_850 : decode cL_law 850 = .ok (.aload_n 2, 1) := by decide +kernel
theorem dL_law_851 : decode cL_law 851 = .ok (.aload_n 0, 1) := by decide +kernel
theorem dL_law_852 : decode cL_law 852 = .ok (.iload_n 3, 1) := by decide +kernel
theorem dL_law_853 : decode cL_law 853 = .ok (.iconst 1, 1) := by decide +kernel
theorem dL_law_854 : decode cL_law 854 = .ok (.iadd, 1) := by decide +kernel
theorem dL_law_855 : decode cL_law 855 = .ok (.iaload, 1) := by decide +kernel
theorem dL_law_856 : decode cL_law 856 = .ok (.invokevirtual 113, 3) := by decide +kernel
theorem dL_law_859 : decode cL_law 859 = .ok (.if_icmp .eq 176, 3) := by decide +kernel
theorem dL_law_862 : decode cL_law 862 = .ok (.iconst 0, 1) := by decide +kernel
theorem dL_law_863 : decode cL_law 863 = .ok (.ireturn, 1) := by decide +kernel
theorem dL_law_864 : decode cL_law 864 = .ok (.aload_n 1, 1) := by decide +kernel
theorem dL_law_865 : decode cL_law 865 = .ok (.aload_n 0, 1) := by decide +kernel
theorem dL_law_866 : decode cL_law 866 = .ok (.iload_n 3, 1) := by decide +kernel
theorem dL_law_867 : decode cL_law 867 = .ok (.iconst 1, 1) := by decide +kernel
theorem dL_law_868 : decode cL_law 868 = .ok (.iadd, 1) := by decide +kernel
theorem dL_law_869 : decode cL_law 869 = .ok (.iaload, 1) := by decide +kernel
theorem dL_law_870 : decode cL_law 870 = .ok (.invokevirtual 114, 3) := by decide +kernel
theorem dL_law_873 : decode cL_law 873 = .ok (.aload_n 2, 1) := by decide +kernel
theorem dL_law_874 : decode cL_law 874 = .ok (.aload_n 0, 1) := by decide +kernel
theorem dL_law_875 : decode cL_law 875 = .ok (.iload_n 3, 1) := by decide +kernel
theorem dL_law_876 : decode cL_law 876 = .ok (.iconst 1, 1) := by decide +kernel
theorem dL_law_877 : decode cL_law 877 = .ok (.iadd, 1) := by decide +kernel
theorem dL_law_878 : decode cL_law 878 = .ok (.iaload, 1) := by decide +kernel
theorem dL_law_879 : decode cL_law 879 = .ok (.invokevirtual 117, 3) := by decide +kernel
theorem dL_law_882 : decode cL_law 882 = .ok (.if_icmp .eq 153, 3) := by decide +kernel
theorem dL_law_885 : decode cL_law 885 = .ok (.iconst 0, 1) := by decide +kernel
theorem dL_law_886 : decode cL_law 886 = .ok (.ireturn, 1) := by decide +kernel
theorem dL_law_887 : decode cL_law 887 = .ok (.aload_n 1, 1) := by decide +kernel
theorem dL_law_888 : decode cL_law 888 = .ok (.aload_n 0, 1) := by decide +kernel
theorem dL_law_889 : decode cL_law 889 = .ok (.iload_n 3, 1) := by decide +kernel
theorem dL_law_890 : decode cL_law 890 = .ok (.iconst 1, 1) := by decide +kernel
theorem dL_law_891 : decode cL_law 891 = .ok (.iadd, 1) := by decide +kernel
theorem dL_law_892 : decode cL_law 892 = .ok (.iaload, 1) := by decide +kernel
theorem dL_law_893 : decode cL_law 893 = .ok (.invokevirtual 118, 3) := by decide +kernel
theorem dL_law_896 : decode cL_law 896 = .ok (.aload_n 2, 1) := by decide +kernel
theorem dL_law_897 : decode cL_law 897 = .ok (.aload_n 0, 1) := by decide +kernel
theorem dL_law_898 : decode cL_law 898 = .ok (.iload_n 3, 1) := by decide +kernel
theorem dL_law_899 : decode cL_law 899 = .ok (.iconst 1, 1) := by decide +kernel
theorem dL_law_900 : decode cL_law 900 = .ok (.iadd, 1) := by decide +kernel
theorem dL_law_901 : decode cL_law 901 = .ok (.iaload, 1) := by decide +kernel
theorem dL_law_902 : decode cL_law 902 = .ok (.invokevirtual 121, 3) := by decide +kernel
theorem dL_law_905 : decode cL_law 905 = .ok (.if_icmp .eq 130, 3) := by decide +kernel
theorem dL_law_908 : decode cL_law 908 = .ok (.iconst 0, 1) := by decide +kernel
theorem dL_law_909 : decode cL_law 909 = .ok (.ireturn, 1) := by decide +kernel
theorem dL_law_910 : decode cL_law 910 = .ok (.aload_n 1, 1) := by decide +kernel
theorem dL_law_911 : decode cL_law 911 = .ok (.aload_n 0, 1) := by decide +kernel
theorem dL_law_912 : decode cL_law 912 = .ok (.iload_n 3, 1) := by decide +kernel
theorem dL_law_913 : decode cL_law 913 = .ok (.iconst 1, 1) := by decide +kernel
theorem dL_law_914 : decode cL_law 914 = .ok (.iadd, 1) := by decide +kernel
theorem dL_law_915 : decode cL_law 915 = .ok (.iaload, 1) := by decide +kernel
theorem dL_law_916 : decode cL_law 916 = .ok (.aload_n 0, 1) := by decide +kernel
theorem dL_law_917 : decode cL_law 917 = .ok (.iload_n 3, 1) := by decide +kernel
theorem dL_law_918 : decode cL_law 918 = .ok (.iconst 2, 1) := by decide +kernel
theorem dL_law_919 : decode cL_law 919 = .ok (.iadd, 1) := by decide +kernel
theorem dL_law_920 : decode cL_law 920 = .ok (.iaload, 1) := by decide +kernel
theorem dL_law_921 : decode cL_law 921 = .ok (.invokevirtual 122, 3) := by decide +kernel
theorem dL_law_924 : decode cL_law 924 = .ok (.aload_n 2, 1) := by decide +kernel
theorem dL_law_925 : decode cL_law 925 = .ok (.aload_n 0, 1) := by decide +kernel
theorem dL_law_926 : decode cL_law 926 = .ok (.iload_n 3, 1) := by decide +kernel
theorem dL_law_927 : decode cL_law 927 = .ok (.iconst 1, 1) := by decide +kernel
theorem dL_law_928 : decode cL_law 928 = .ok (.iadd, 1) := by decide +kernel
theorem dL_law_929 : decode cL_law 929 = .ok (.iaload, 1) := by decide +kernel
theorem dL_law_930 : decode cL_law 930 = .ok (.aload_n 0, 1) := by decide +kernel
theorem dL_law_931 : decode cL_law 931 = .ok (.iload_n 3, 1) := by decide +kernel
theorem dL_law_932 : decode cL_law 932 = .ok (.iconst 2, 1) := by decide +kernel
theorem dL_law_933 : decode cL_law 933 = .ok (.iadd, 1) := by decide +kernel
theorem dL_law_934 : decode cL_law 934 = .ok (.iaload, 1) := by decide +kernel
theorem dL_law_935 : decode cL_law 935 = .ok (.invokevirtual 125, 3) := by decide +kernel
theorem dL_law_938 : decode cL_law 938 = .ok (.if_icmp .eq 97, 3) := by decide +kernel
theorem dL_law_941 : decode cL_law 941 = .ok (.iconst 0, 1) := by decide +kernel
theorem dL_law_942 : decode cL_law 942 = .ok (.ireturn, 1) := by decide +kernel
theorem dL_law_943 : decode cL_law 943 = .ok (.aload_n 1, 1) := by decide +kernel
theorem dL_law_944 : decode cL_law 944 = .ok (.aload_n 0, 1) := by decide +kernel
theorem dL_law_945 : decode cL_law 945 = .ok (.iload_n 3, 1) := by decide +kernel
theorem dL_law_946 : decode cL_law 946 = .ok (.iconst 1, 1) := by decide +kernel
theorem dL_law_947 : decode cL_law 947 = .ok (.iadd, 1) := by decide +kernel
theorem dL_law_948 : decode cL_law 948 = .ok (.iaload, 1) := by decide +kernel
theorem dL_law_949 : decode cL_law 949 = .ok (.aload_n 0, 1) := by decide +kernel
theorem dL_law_950 : decode cL_law 950 = .ok (.iload_n 3, 1) := by decide +kernel
theorem dL_law_951 : decode cL_law 951 = .ok (.iconst 2, 1) := by decide +kernel
theorem dL_law_952 : decode cL_law 952 = .ok (.iadd, 1) := by decide +kernel
theorem dL_law_953 : decode cL_law 953 = .ok (.iaload, 1) := by decide +kernel
theorem dL_law_954 : decode cL_law 954 = .ok (.invokevirtual 126, 3) := by decide +kernel
theorem dL_law_957 : decode cL_law 957 = .ok (.aload_n 2, 1) := by decide +kernel
theorem dL_law_958 : decode cL_law 958 = .ok (.aload_n 0, 1) := by decide +kernel
theorem dL_law_959 : decode cL_law 959 = .ok (.iload_n 3, 1) := by decide +kernel
theorem dL_law_960 : decode cL_law 960 = .ok (.iconst 1, 1) := by decide +kernel
theorem dL_law_961 : decode cL_law 961 = .ok (.iadd, 1) := by decide +kernel
theorem dL_law_962 : decode cL_law 962 = .ok (.iaload, 1) := by decide +kernel
theorem dL_law_963 : decode cL_law 963 = .ok (.aload_n 0, 1) := by decide +kernel
theorem dL_law_964 : decode cL_law 964 = .ok (.iload_n 3, 1) := by decide +kernel
theorem dL_law_965 : decode cL_law 965 = .ok (.iconst 2, 1) := by decide +kernel
theorem dL_law_966 : decode cL_law 966 = .ok (.iadd, 1) := by decide +kernel
theorem dL_law_967 : decode cL_law 967 = .ok (.iaload, 1) := by decide +kernel
theorem dL_law_968 : decode cL_law 968 = .ok (.invokevirtual 129, 3) := by decide +kernel
theorem dL_law_971 : decode cL_law 971 = .ok (.if_icmp .eq 64, 3) := by decide +kernel
theorem dL_law_974 : decode cL_law 974 = .ok (.iconst 0, 1) := by decide +kernel
theorem dL_law_975 : decode cL_law 975 = .ok (.ireturn, 1) := by decide +kernel
theorem dL_law_976 : decode cL_law 976 = .ok (.aload_n 1, 1) := by decide +kernel
theorem dL_law_977 : decode cL_law 977 = .ok (.aload_n 0, 1) := by decide +kernel
theorem dL_law_978 : decode cL_law 978 = .ok (.iload_n 3, 1) := by decide +kernel
theorem dL_law_979 : decode cL_law 979 = .ok (.iconst 1, 1) := by decide +kernel
theorem dL_law_980 : decode cL_law 980 = .ok (.iadd, 1) := by decide +kernel
theorem dL_law_981 : decode cL_law 981 = .ok (.iaload, 1) := by decide +kernel
theorem dL_law_982 : decode cL_law 982 = .ok (.invokevirtual 130, 3) := by decide +kernel
theorem dL_law_985 : decode cL_law 985 = .ok (.aload_n 2, 1) := by decide +kernel
theorem dL_law_986 : decode cL_law 986 = .ok (.aload_n 0, 1) := by decide +kernel
theorem dL_law_987 : decode cL_law 987 = .ok (.iload_n 3, 1) := by decide +kernel
theorem dL_law_988 : decode cL_law 988 = .ok (.iconst 1, 1) := by decide +kernel
theorem dL_law_989 : decode cL_law 989 = .ok (.iadd, 1) := by decide +kernel
theorem dL_law_990 : decode cL_law 990 = .ok (.iaload, 1) := by decide +kernel
theorem dL_law_991 : decode cL_law 991 = .ok (.invokevirtual 133, 3) := by decide +kernel
theorem dL_law_994 : decode cL_law 994 = .ok (.if_icmp .eq 41, 3) := by decide +kernel
theorem dL_law_997 : decode cL_law 997 = .ok (.iconst 0, 1) := by decide +kernel
theorem dL_law_998 : decode cL_law 998 = .ok (.ireturn, 1) := by decide +kernel
theorem dL_law_999 : decode cL_law 999 = .ok (.aload_n 1, 1) := by decide +kernel
theorem dL_law_1000 : decode cL_law 1000 = .ok (.aload_n 0, 1) := by decide +kernel
theorem dL_law_1001 : decode cL_law 1001 = .ok (.iload_n 3, 1) := by decide +kernel
theorem dL_law_1002 : decode cL_law 1002 = .ok (.iconst 1, 1) := by decide +kernel
theorem dL_law_1003 : decode cL_law 1003 = .ok (.iadd, 1) := by decide +kernel
theorem dL_law_1004 : decode cL_law 1004 = .ok (.iaload, 1) := by decide +kernel
theorem dL_law_1005 : decode cL_law 1005 = .ok (.invokevirtual 134, 3) := by decide +kernel
theorem dL_law_1008 : decode cL_law 1008 = .ok (.aload_n 2, 1) := by decide +kernel
theorem dL_law_1009 : decode cL_law 1009 = .ok (.aload_n 0, 1) := by decide +kernel
theorem dL_law_1010 : decode cL_law 1010 = .ok (.iload_n 3, 1) := by decide +kernel
theorem dL_law_1011 : decode cL_law 1011 = .ok (.iconst 1, 1) := by decide +kernel
theorem dL_law_1012 : decode cL_law 1012 = .ok (.iadd, 1) := by decide +kernel
theorem dL_law_1013 : decode cL_law 1013 = .ok (.iaload, 1) := by decide +kernel
theorem dL_law_1014 : decode cL_law 1014 = .ok (.invokevirtual 137, 3) := by decide +kernel
theorem dL_law_1017 : decode cL_law 1017 = .ok (.if_icmp .eq 18, 3) := by decide +kernel
theorem dL_law_1020 : decode cL_law 1020 = .ok (.iconst 0, 1) := by decide +kernel
theorem dL_law_1021 : decode cL_law 1021 = .ok (.ireturn, 1) := by decide +kernel
theorem dL_law_1022 : decode cL_law 1022 = .ok (.aload_n 1, 1) := by decide +kernel
theorem dL_law_1023 : decode cL_law 1023 = .ok (.invokevirtual 138, 3) := by decide +kernel
theorem dL_law_1026 : decode cL_law 1026 = .ok (.aload_n 2, 1) := by decide +kernel
theorem dL_law_1027 : decode cL_law 1027 = .ok (.invokevirtual 141, 3) := by decide +kernel
theorem dL_law_1030 : decode cL_law 1030 = .ok (.if_icmp .eq 5, 3) := by decide +kernel
theorem dL_law_1033 : decode cL_law 1033 = .ok (.iconst 0, 1) := by decide +kernel
theorem dL_law_1034 : decode cL_law 1034 = .ok (.ireturn, 1) := by decide +kernel
theorem dL_law_1035 : decode cL_law 1035 = .ok (.iinc 3 6, 3) := by decide +kernel
theorem dL_law_1038 : decode cL_law 1038 = .ok (.goto (-1020), 3) := by decide +kernel
theorem dL_law_1041 : decode cL_law 1041 = .ok (.iconst 1, 1) := by decide +kernel
theorem dL_law_1042 : decode cL_law 1042 = .ok (.ireturn, 1) := by decide +kernel
end
section
/-! the state: cell by cell, place by place; the words of the pure functions -/
abbrev KX : Type := Nat → Nat → Int32
def zU (X : KX) (k i : Nat) (v : Int32) : KX := fun a => if a = k then upd (X k) i v else X a
def zCp (X : KX) (a b : Nat) (sp dp n : Nat) : KX := fun c => if c = b then va_cpy (X a) (X b) sp dp n else X c
def zLet {α β : Type} (v : α) (f : α → β) : β := f v
def zGd {α : Type} (i : Int32) (n : Nat) (e : Option α) : Option α := if 0 ≤ i.toInt ∧ i.toInt < (n : Int) then e else none
def zGz {α : Type} (i : Int32) (e : Option α) : Option α := if i = 0 then none else e
def zGb {α : Type} (i : Int32) (e : Option α) : Option α := if i = 0 ∨ i = 1 then e else none
def zGc {α : Type} (sp dp n : Int32) (a b : Nat) (e : Option α) : Option α := if (¬ sp < 0 ∧ ¬ dp < 0 ∧ ¬ n < 0) ∧ sp.toNatClampNeg + n.toNatClampNeg ≤ a ∧ dp.toNatClampNeg + n.toNatClampNeg ≤ b then e else none
def zB1 {α γ : Type} (o : Option α) (f : α → Option γ) : Option γ := match o with
  | some a => f a
  | none => none
def zB2 {α β γ : Type} (o : Option (α × β)) (f : α → β → Option γ) : Option γ := match o with
  | some (a, b) => f a b
  | none => none
theorem zGd_some {α : Type} {i : Int32} {n : Nat} {e : Option α} {r : α} (h : zGd i n e = some r) : vp_in i n ∧ e = some r := by
  unfold zGd at h
  by_cases c : 0 ≤ i.toInt ∧ i.toInt < (n : Int)
  · rw [if_pos c] at h; exact ⟨vp_in_iff.mpr c, h⟩
  · rw [if_neg c] at h; cases h
theorem zGz_some {α : Type} {i : Int32} {e : Option α} {r : α} (h : zGz i e = some r) : ¬ i = 0 ∧ e = some r := by
  unfold zGz at h
  by_cases c : i = 0
  · rw [if_pos c] at h; cases h
  · rw [if_neg c] at h; exact ⟨c, h⟩
theorem zGb_some {α : Type} {i : Int32} {e : Option α} {r : α} (h : zGb i e = some r) : (i = 0 ∨ i = 1) ∧ e = some r := by
  unfold zGb at h
  by_cases c : i = 0 ∨ i = 1
  · rw [if_pos c] at h; exact ⟨c, h⟩
  · rw [if_neg c] at h; cases h
theorem zGc_some {α : Type} {sp dp n : Int32} {a b : Nat} {e : Option α} {r : α} (h : zGc sp dp n a b e = some r) : ((¬ sp < 0 ∧ ¬ dp < 0 ∧ ¬ n < 0) ∧ sp.toNatClampNeg + n.toNatClampNeg ≤ a ∧ dp.toNatClampNeg + n.toNatClampNeg ≤ b) ∧ e = some r := by
  unfold zGc at h
  split at h
  · rename_i c; exact ⟨c, h⟩
  · cases h
theorem zB1_some {α γ : Type} {o : Option α} {f : α → Option γ} {r : γ} (h : zB1 o f = some r) : ∃ a, o = some a ∧ f a = some r := by
  cases o with
  | none => cases h
  | some a => exact ⟨a, rfl, h⟩
theorem zB2_some {α β γ : Type} {o : Option (α × β)} {f : α → β → Option γ} {r : γ} (h : zB2 o f = some r) : ∃ a b, o = some (a, b) ∧ f a b = some r := by
  cases o with
  | none => cases h
  | some q => exact ⟨q.1, q.2, rfl, h⟩
theorem zIte {β : Type} {c : Prop} [Decidable c] {a b r : β} {G : Prop} (h : (if c then a else b) = r) (k1 : c → a = r → G) (k2 : ¬ c → b = r → G) : G := by
  by_cases hc : c
  · rw [if_pos hc] at h; exact k1 hc h
  · rw [if_neg hc] at h; exact k2 hc h
theorem zNone {α : Type} {r : α} {G : Prop} (h : (none : Option α) = some r) : G := by cases h
theorem zBool {v : Int32} (h : v = 0 ∨ v = 1) : narrow .boolean (.int v) = .int v ∧ fits .boolean (.int v) = true := by
  rcases h with rfl | rfl <;> exact ⟨by decide +kernel, by decide +kernel⟩
/-! the judgement -/
def wsA : List Cond := lw_tbl.filter goodWord
theorem wsA_good : ∀ w ∈ wsA, (w.onTables && w.keeps) = true ∨ ∃ ty, w = .arrayClass ty := fun w h => good_of_word (List.mem_filter.mp h).2
theorem wsA_tbl : ∀ w ∈ wsA, w ∈ lw_tbl := fun w h => (List.mem_filter.mp h).1
theorem zW (i : Nat) {w : Cond} (h : lw_tbl[i]? = some w) (h2 : goodWord w = true) : w ∈ wsA := List.mem_filter.mpr ⟨List.mem_of_getElem? h, h2⟩

def zN (U : State) : Prop := va_Nw (.methodLinkNest "AilingKing$Castle" 78 yX6_isBelow "AilingKing") U ∧ va_Nw (.methodLinkNest "AilingKing$Castle" 82 yX6_has "AilingKing") U ∧ va_Nw (.methodLinkNest "AilingKing$Foretold" 37 yX6_has "AilingKing") U ∧ va_Nw (.methodLinkNest "AilingKing$Foretold" 110 yX6_isBelow "AilingKing") U ∧ va_Nw (.methodLinkNest "AilingKing" 251 yX3_rowsToQuestion "AilingKing") U
theorem zN.warm {s U : State} (hW : s.WarmedH U.vm) (h : zN s) : zN U := ⟨va_Nw.warmM hW h.1, va_Nw.warmM hW h.2.1, va_Nw.warmM hW h.2.2.1, va_Nw.warmM hW h.2.2.2.1, va_Nw.warmM hW h.2.2.2.2⟩
theorem zN.same {u U : State} (hv : u.vm = U.vm) (h : zN u) : zN U := ⟨va_Nw.same rfl hv h.1, va_Nw.same rfl hv h.2.1, va_Nw.same rfl hv h.2.2.1, va_Nw.same rfl hv h.2.2.2.1, va_Nw.same rfl hv h.2.2.2.2⟩
/-- a method's run: all that stays; a side: its numbers of classes, its world, its cells, its kinds of arrays -/
abbrev ZC : Type := Program × Launch × Env × Room × State × MethodId × Array Value × List Frame × Method × Code
abbrev ZY : Type := va_G × (KX → va_W) × (Nat → Prop) × List (ClassId × FieldType)
def zS (y : ZY) (X : KX) (U : State) : Prop := va_P y.1 vwCl (y.2.1 X) U.heap ∧ va_K y.1 vwCl y.2.2.2 U ∧ va_D y.2.2.1 (y.2.1 X) ∧ zN U
def zT (y : ZY) (X : KX) (U : State) : Prop := va_P y.1 vwCl (y.2.1 X) U.heap ∧ va_D y.2.2.1 (y.2.1 X)
def ZF (z : ZC) (y : ZY) (cc : ByteArray) (own : String) (nL : Nat) (ret : Option FieldType) (d : Nat) : Prop := match z with
  | (p, _, _, R, s, m, args, _, meth, c) => p.tables.exec = Jvm.exec ∧ c.code = cc ∧ s.vm.findClass own = some m.cls ∧ c.maxLocals = nL ∧ (∀ w ∈ wsA, w.before args s = true) ∧ meth.sig.returnType = ret ∧ meth.locks = false ∧ va_K y.1 vwCl y.2.2.2 s ∧ zN s ∧ d ≤ R.frames ∧ 64 * d ≤ R.locals
def Z (z : ZC) (y : ZY) (nL : Nat) (Q : State → Prop) (X : KX) (pc : Nat) (L : List (Nat × Value)) (st : List Value) : Prop := match z with
  | (p, l, e, R, s, m, args, below, meth, c) => ∀ (H : Heap) (locs : List Loc) (ls : Array Slot), va_P y.1 vwCl (y.2.1 X) H → va_D y.2.2.1 (y.2.1 X) → va_S y.2.2.1 s.heap H locs → lv_has ls nL L → W p l e R s m args below meth c H locs 0 0 Q (F0 m pc ls st)
def zQI (z : ZC) (y : ZY) (R : Int32 × KX) : State → Prop := match z with
  | (_, _, _, _, s, _, args, below, _, _) => MQ below (va_Qi (fun (r : Int32) (u : KX) => (r, u) = R) (zT y) y.2.2.1) args s 0 0 y.2.2.1
def zQV (z : ZC) (y : ZY) (R : KX) : State → Prop := match z with
  | (_, _, _, _, s, _, args, below, _, _) => MQ below (va_Qv (fun (u : KX) => u = R) (zT y) y.2.2.1) args s 0 0 y.2.2.1
def zRm (d : Nat) : Room := { frames := d, cells := 0, slots := 0, locals := 64 * d }
def zMI (y : ZY) (nm : MethodName) (bytes : ByteArray) (maxL : Nat) (ret : Option FieldType) (d : Nat) (av : List Value) (X : KX) (R : Int32 × KX) : Prop := ∀ l : Launch, Met l nm (.code nm bytes maxL ret :: wsA) (zRm d) (va_Pc av (zS y X)) (va_Qi (fun (r : Int32) (u : KX) => (r, u) = R) (zT y) y.2.2.1) 0 0 y.2.2.1
def zMV (y : ZY) (nm : MethodName) (bytes : ByteArray) (maxL : Nat) (ret : Option FieldType) (d : Nat) (av : List Value) (X : KX) (R : KX) : Prop := ∀ l : Launch, Met l nm (.code nm bytes maxL ret :: wsA) (zRm d) (va_Pc av (zS y X)) (va_Qv (fun (u : KX) => u = R) (zT y) y.2.2.1) 0 0 y.2.2.1
section ZOP
variable {y : ZY} {nm : MethodName} {bytes : ByteArray} {maxL : Nat} {ret : Option FieldType} {d : Nat} {av : List Value} {X : KX}
theorem zMI_of {R : Int32 × KX} (hy : plainName nm.cls = true) (hn : (lg_sl av).length ≤ maxL) (body : ∀ z : ZC, ZF z y bytes nm.cls maxL ret d → Z z y maxL (zQI z y R) X 0 (lv_args 0 av) []) : zMI y nm bytes maxL ret d av X R := by
  intro l
  refine Met.ofW (cc := bytes) (maxL := maxL) (ret := ret) hy rfl ?_
  intro p e s m args below meth c s₁ B hml hv
  obtain ⟨rfl, hP, hK, hD, hN⟩ := hv
  have hts : ∀ w ∈ wsA, w.before av.toArray s = true := fun w h => atoms_spec (ws := .code nm bytes maxL ret :: wsA) B.pre w (List.mem_cons_of_mem _ h)
  have h := body (p, l, e, zRm d, s, m, av.toArray, below, meth, c) ⟨B.exec, B.bytes, findClass_of_methodNamed B.named, hml, hts, B.returns, B.notSynchronized, hK, hN, Nat.le_refl _, Nat.le_refl _⟩
  rw [lg_entry_eq]
  exact h s.heap [] _ hP hD va_S.rf (lv_entry av hn)
theorem zMV_of {R : KX} (hy : plainName nm.cls = true) (hn : (lg_sl av).length ≤ maxL) (body : ∀ z : ZC, ZF z y bytes nm.cls maxL ret d → Z z y maxL (zQV z y R) X 0 (lv_args 0 av) []) : zMV y nm bytes maxL ret d av X R := by
  intro l
  refine Met.ofW (cc := bytes) (maxL := maxL) (ret := ret) hy rfl ?_
  intro p e s m args below meth c s₁ B hml hv
  obtain ⟨rfl, hP, hK, hD, hN⟩ := hv
  have hts : ∀ w ∈ wsA, w.before av.toArray s = true := fun w h => atoms_spec (ws := .code nm bytes maxL ret :: wsA) B.pre w (List.mem_cons_of_mem _ h)
  have h := body (p, l, e, zRm d, s, m, av.toArray, below, meth, c) ⟨B.exec, B.bytes, findClass_of_methodNamed B.named, hml, hts, B.returns, B.notSynchronized, hK, hN, Nat.le_refl _, Nat.le_refl _⟩
  rw [lg_entry_eq]
  exact h s.heap [] _ hP hD va_S.rf (lv_entry av hn)
end ZOP
section ZR
variable {z : ZC} {y : ZY} {cc : ByteArray} {own : String} {nL d pc : Nat} {ret : Option FieldType} {Q : State → Prop} {X : KX} {L : List (Nat × Value)} {st : List Value}
theorem z_sub (ks : List Nat) {L' : List (Nat × Value)} (h : lv_pick L ks = L') (k : Z z y nL Q X pc L' st) : Z z y nL Q X pc L st := by
  obtain ⟨p, l, e, R, s, m, args, below, meth, c⟩ := z
  exact fun H locs ls hP hD hS hl => k H locs ls hP hD hS (lv_sub hl ks h)
theorem z_iconst (F : ZF z y cc own nL ret d) {n : Int} {v : Int32} (hdg : decode cc pc = .ok (.iconst n, 1)) (hv : Int32.ofInt n = v) (k : Z z y nL Q X (pc + 1) L (.int v :: st)) : Z z y nL Q X pc L st := by
  obtain ⟨p, l, e, R, s, m, args, below, meth, c⟩ := z
  exact fun H locs ls hP hD hS hl => lv_iconst F.1 F.2.1 hdg hv (k H locs ls hP hD hS hl)
theorem z_bipush (F : ZF z y cc own nL ret d) {n : Int} {v : Int32} (hdg : decode cc pc = .ok (.bipush n, 2)) (hv : (Int8.ofInt n).toInt32 = v) (k : Z z y nL Q X (pc + 2) L (.int v :: st)) : Z z y nL Q X pc L st := by
  obtain ⟨p, l, e, R, s, m, args, below, meth, c⟩ := z
  exact fun H locs ls hP hD hS hl => lv_bipush F.1 F.2.1 hdg hv (k H locs ls hP hD hS hl)
theorem z_sipush (F : ZF z y cc own nL ret d) {n : Int} {v : Int32} (hdg : decode cc pc = .ok (.sipush n, 3)) (hv : (Int16.ofInt n).toInt32 = v) (k : Z z y nL Q X (pc + 3) L (.int v :: st)) : Z z y nL Q X pc L st := by
  obtain ⟨p, l, e, R, s, m, args, below, meth, c⟩ := z
  exact fun H locs ls hP hD hS hl => lv_sipush F.1 F.2.1 hdg hv (k H locs ls hP hD hS hl)
theorem z_ldc (F : ZF z y cc own nL ret d) {index : Nat} {v : Int32} (hw : Cond.constant own index v ∈ wsA) (hdg : decode cc pc = .ok (.ldc index, 2)) (k : Z z y nL Q X (pc + 2) L (.int v :: st)) : Z z y nL Q X pc L st := by
  obtain ⟨p, l, e, R, s, m, args, below, meth, c⟩ := z
  exact fun H locs ls hP hD hS hl => lv_ldc F.1 F.2.1 F.2.2.1 (F.2.2.2.2.1 _ hw) hdg (k H locs ls hP hD hS hl)
theorem z_ldcw (F : ZF z y cc own nL ret d) {index : Nat} {v : Int32} (hw : Cond.constant own index v ∈ wsA) (hdg : decode cc pc = .ok (.ldc_w index, 3)) (k : Z z y nL Q X (pc + 3) L (.int v :: st)) : Z z y nL Q X pc L st := by
  obtain ⟨p, l, e, R, s, m, args, below, meth, c⟩ := z
  exact fun H locs ls hP hD hS hl => lv_ldcw F.1 F.2.1 F.2.2.1 (F.2.2.2.2.1 _ hw) hdg (k H locs ls hP hD hS hl)
theorem z_iload_n (F : ZF z y cc own nL ret d) {kf : Fin 4} {i : Nat} {x : Int32} (hdg : decode cc pc = .ok (.iload_n kf, 1)) (q : Nat) (hi : (kf : Nat) = i) (hq : L[q]? = some (i, .int x)) (k : Z z y nL Q X (pc + 1) L (.int x :: st)) : Z z y nL Q X pc L st := by
  obtain ⟨p, l, e, R, s, m, args, below, meth, c⟩ := z
  exact fun H locs ls hP hD hS hl => lv_iload_n F.1 F.2.1 hdg hi (lv_at hl q hq) (k H locs ls hP hD hS hl)
theorem z_iload (F : ZF z y cc own nL ret d) {i : Nat} {x : Int32} (hdg : decode cc pc = .ok (.iload i, 2)) (q : Nat) (hq : L[q]? = some (i, .int x)) (k : Z z y nL Q X (pc + 2) L (.int x :: st)) : Z z y nL Q X pc L st := by
  obtain ⟨p, l, e, R, s, m, args, below, meth, c⟩ := z
  exact fun H locs ls hP hD hS hl => lv_iload F.1 F.2.1 hdg (lv_at hl q hq) (k H locs ls hP hD hS hl)
theorem z_aload_n (F : ZF z y cc own nL ret d) {kf : Fin 4} {i x : Nat} (hdg : decode cc pc = .ok (.aload_n kf, 1)) (q : Nat) (hi : (kf : Nat) = i) (hq : L[q]? = some (i, .ref x)) (k : Z z y nL Q X (pc + 1) L (.ref x :: st)) : Z z y nL Q X pc L st := by
  obtain ⟨p, l, e, R, s, m, args, below, meth, c⟩ := z
  exact fun H locs ls hP hD hS hl => lv_aload_n F.1 F.2.1 hdg hi (lv_at hl q hq) (k H locs ls hP hD hS hl)
theorem z_aload (F : ZF z y cc own nL ret d) {i x : Nat} (hdg : decode cc pc = .ok (.aload i, 2)) (q : Nat) (hq : L[q]? = some (i, .ref x)) (k : Z z y nL Q X (pc + 2) L (.ref x :: st)) : Z z y nL Q X pc L st := by
  obtain ⟨p, l, e, R, s, m, args, below, meth, c⟩ := z
  exact fun H locs ls hP hD hS hl => lv_aload F.1 F.2.1 hdg (lv_at hl q hq) (k H locs ls hP hD hS hl)
theorem z_istore_n (F : ZF z y cc own nL ret d) {kf : Fin 4} {i : Nat} {x : Int32} {L' : List (Nat × Value)} (hdg : decode cc pc = .ok (.istore_n kf, 1)) (hi : (kf : Nat) = i) (hn : i < nL) (hl' : (i, Value.int x) :: L.filter (fun q => !(q.1 == i) && !(q.1 + 1 == i && q.2.category == 2)) = L') (k : Z z y nL Q X (pc + 1) L' st) : Z z y nL Q X pc L (.int x :: st) := by
  obtain ⟨p, l, e, R, s, m, args, below, meth, c⟩ := z
  exact fun H locs ls hP hD hS hl => lv_istore_n F.1 F.2.1 hdg hi hl hn hl' (fun ls hl => k H locs ls hP hD hS hl)
theorem z_istore (F : ZF z y cc own nL ret d) {i : Nat} {x : Int32} {L' : List (Nat × Value)} (hdg : decode cc pc = .ok (.istore i, 2)) (hn : i < nL) (hl' : (i, Value.int x) :: L.filter (fun q => !(q.1 == i) && !(q.1 + 1 == i && q.2.category == 2)) = L') (k : Z z y nL Q X (pc + 2) L' st) : Z z y nL Q X pc L (.int x :: st) := by
  obtain ⟨p, l, e, R, s, m, args, below, meth, c⟩ := z
  exact fun H locs ls hP hD hS hl => lv_istore F.1 F.2.1 hdg hl hn hl' (fun ls hl => k H locs ls hP hD hS hl)
theorem z_astore_n (F : ZF z y cc own nL ret d) {kf : Fin 4} {i x : Nat} {L' : List (Nat × Value)} (hdg : decode cc pc = .ok (.astore_n kf, 1)) (hi : (kf : Nat) = i) (hn : i < nL) (hl' : (i, Value.ref x) :: L.filter (fun q => !(q.1 == i) && !(q.1 + 1 == i && q.2.category == 2)) = L') (k : Z z y nL Q X (pc + 1) L' st) : Z z y nL Q X pc L (.ref x :: st) := by
  obtain ⟨p, l, e, R, s, m, args, below, meth, c⟩ := z
  exact fun H locs ls hP hD hS hl => lv_astore_n F.1 F.2.1 hdg hi hl hn hl' (fun ls hl => k H locs ls hP hD hS hl)
/-- the stack's top gets a name -/
theorem z_top {β : Type} {x : Int32} {f : Int32 → β} {r : β} (hf : zLet x f = r) (k : ∀ x' : Int32, f x' = r → Z z y nL Q X pc L (.int x' :: st)) : Z z y nL Q X pc L (.int x :: st) := k x hf
theorem z_iinc (F : ZF z y cc own nL ret d) {β : Type} {i : Nat} {n : Int} {x w : Int32} {f : Int32 → β} {r : β} {L' : Int32 → List (Nat × Value)} (hf : zLet (x + w) f = r) (hdg : decode cc pc = .ok (.iinc i n, 3)) (q : Nat) (hq : L[q]? = some (i, .int x)) (hv : Int32.ofInt n = w) (hn : i < nL) (hl' : ∀ v : Int32, (i, Value.int v) :: L.filter (fun q => !(q.1 == i) && !(q.1 + 1 == i && q.2.category == 2)) = L' v) (k : ∀ v : Int32, f v = r → Z z y nL Q X (pc + 3) (L' v) st) : Z z y nL Q X pc L st := by
  obtain ⟨p, l, e, R, s, m, args, below, meth, c⟩ := z
  exact fun H locs ls hP hD hS hl => lv_iinc F.1 F.2.1 hdg hl hq (by rw [hv]) hn (hl' _) (fun ls hl => k _ hf H locs ls hP hD hS hl)
theorem z_iadd (F : ZF z y cc own nL ret d) {a b : Int32} (hdg : decode cc pc = .ok (.iadd, 1)) (k : Z z y nL Q X (pc + 1) L (.int (a + b) :: st)) : Z z y nL Q X pc L (.int b :: .int a :: st) := by
  obtain ⟨p, l, e, R, s, m, args, below, meth, c⟩ := z
  exact fun H locs ls hP hD hS hl => lv_iadd F.1 F.2.1 hdg (k H locs ls hP hD hS hl)
theorem z_isub (F : ZF z y cc own nL ret d) {a b : Int32} (hdg : decode cc pc = .ok (.isub, 1)) (k : Z z y nL Q X (pc + 1) L (.int (a - b) :: st)) : Z z y nL Q X pc L (.int b :: .int a :: st) := by
  obtain ⟨p, l, e, R, s, m, args, below, meth, c⟩ := z
  exact fun H locs ls hP hD hS hl => lv_isub F.1 F.2.1 hdg (k H locs ls hP hD hS hl)
theorem z_imul (F : ZF z y cc own nL ret d) {a b : Int32} (hdg : decode cc pc = .ok (.imul, 1)) (k : Z z y nL Q X (pc + 1) L (.int (a * b) :: st)) : Z z y nL Q X pc L (.int b :: .int a :: st) := by
  obtain ⟨p, l, e, R, s, m, args, below, meth, c⟩ := z
  exact fun H locs ls hP hD hS hl => lv_imul F.1 F.2.1 hdg (k H locs ls hP hD hS hl)
theorem z_iand (F : ZF z y cc own nL ret d) {a b : Int32} (hdg : decode cc pc = .ok (.iand, 1)) (k : Z z y nL Q X (pc + 1) L (.int (a &&& b) :: st)) : Z z y nL Q X pc L (.int b :: .int a :: st) := by
  obtain ⟨p, l, e, R, s, m, args, below, meth, c⟩ := z
  exact fun H locs ls hP hD hS hl => lv_iand F.1 F.2.1 hdg (k H locs ls hP hD hS hl)
theorem z_ior (F : ZF z y cc own nL ret d) {a b : Int32} (hdg : decode cc pc = .ok (.ior, 1)) (k : Z z y nL Q X (pc + 1) L (.int (a ||| b) :: st)) : Z z y nL Q X pc L (.int b :: .int a :: st) := by
  obtain ⟨p, l, e, R, s, m, args, below, meth, c⟩ := z
  exact fun H locs ls hP hD hS hl => lv_ior F.1 F.2.1 hdg (k H locs ls hP hD hS hl)
theorem z_ixor (F : ZF z y cc own nL ret d) {a b : Int32} (hdg : decode cc pc = .ok (.ixor, 1)) (k : Z z y nL Q X (pc + 1) L (.int (a ^^^ b) :: st)) : Z z y nL Q X pc L (.int b :: .int a :: st) := by
  obtain ⟨p, l, e, R, s, m, args, below, meth, c⟩ := z
  exact fun H locs ls hP hD hS hl => lv_ixor F.1 F.2.1 hdg (k H locs ls hP hD hS hl)
theorem z_idiv (F : ZF z y cc own nL ret d) {α : Type} {a b : Int32} {e : Option α} {r : α} (hf : zGz b e = some r) (hdg : decode cc pc = .ok (.idiv, 1)) (k : e = some r → Z z y nL Q X (pc + 1) L (.int (a / b) :: st)) : Z z y nL Q X pc L (.int b :: .int a :: st) := by
  obtain ⟨p, l, e, R, s, m, args, below, meth, c⟩ := z
  obtain ⟨h1, h2⟩ := zGz_some hf
  exact fun H locs ls hP hD hS hl => lv_idiv F.1 F.2.1 hdg h1 (k h2 H locs ls hP hD hS hl)
theorem z_irem (F : ZF z y cc own nL ret d) {α : Type} {a b : Int32} {e : Option α} {r : α} (hf : zGz b e = some r) (hdg : decode cc pc = .ok (.irem, 1)) (k : e = some r → Z z y nL Q X (pc + 1) L (.int (a - a / b * b) :: st)) : Z z y nL Q X pc L (.int b :: .int a :: st) := by
  obtain ⟨p, l, e, R, s, m, args, below, meth, c⟩ := z
  obtain ⟨h1, h2⟩ := zGz_some hf
  exact fun H locs ls hP hD hS hl => lv_irem F.1 F.2.1 hdg h1 (k h2 H locs ls hP hD hS hl)
theorem z_ineg (F : ZF z y cc own nL ret d) {a : Int32} (hdg : decode cc pc = .ok (.ineg, 1)) (k : Z z y nL Q X (pc + 1) L (.int (-a) :: st)) : Z z y nL Q X pc L (.int a :: st) := by
  obtain ⟨p, l, e, R, s, m, args, below, meth, c⟩ := z
  exact fun H locs ls hP hD hS hl => lv_ineg F.1 F.2.1 hdg (k H locs ls hP hD hS hl)
theorem z_ishl (F : ZF z y cc own nL ret d) {a b : Int32} (hdg : decode cc pc = .ok (.ishl, 1)) (k : Z z y nL Q X (pc + 1) L (.int (a <<< (b &&& 31)) :: st)) : Z z y nL Q X pc L (.int b :: .int a :: st) := by
  obtain ⟨p, l, e, R, s, m, args, below, meth, c⟩ := z
  exact fun H locs ls hP hD hS hl => lv_ishl F.1 F.2.1 hdg (k H locs ls hP hD hS hl)
theorem z_ishr (F : ZF z y cc own nL ret d) {a b : Int32} (hdg : decode cc pc = .ok (.ishr, 1)) (k : Z z y nL Q X (pc + 1) L (.int (a >>> (b &&& 31)) :: st)) : Z z y nL Q X pc L (.int b :: .int a :: st) := by
  obtain ⟨p, l, e, R, s, m, args, below, meth, c⟩ := z
  exact fun H locs ls hP hD hS hl => lv_ishr F.1 F.2.1 hdg (k H locs ls hP hD hS hl)
theorem z_iushr (F : ZF z y cc own nL ret d) {a b : Int32} (hdg : decode cc pc = .ok (.iushr, 1)) (k : Z z y nL Q X (pc + 1) L (.int ((a.toUInt32 >>> (b.toUInt32 &&& Int32.toUInt32 31)).toInt32) :: st)) : Z z y nL Q X pc L (.int b :: .int a :: st) := by
  obtain ⟨p, l, e, R, s, m, args, below, meth, c⟩ := z
  exact fun H locs ls hP hD hS hl => lv_iushr F.1 F.2.1 hdg rfl (k H locs ls hP hD hS hl)
theorem z_i2b (F : ZF z y cc own nL ret d) {a : Int32} (hdg : decode cc pc = .ok (.i2b, 1)) (k : Z z y nL Q X (pc + 1) L (.int (a.toInt8.toInt32) :: st)) : Z z y nL Q X pc L (.int a :: st) := by
  obtain ⟨p, l, e, R, s, m, args, below, meth, c⟩ := z
  exact fun H locs ls hP hD hS hl => lv_i2b F.1 F.2.1 hdg rfl (k H locs ls hP hD hS hl)
theorem z_i2s (F : ZF z y cc own nL ret d) {a : Int32} (hdg : decode cc pc = .ok (.i2s, 1)) (k : Z z y nL Q X (pc + 1) L (.int (a.toInt16.toInt32) :: st)) : Z z y nL Q X pc L (.int a :: st) := by
  obtain ⟨p, l, e, R, s, m, args, below, meth, c⟩ := z
  exact fun H locs ls hP hD hS hl => lv_i2s F.1 F.2.1 hdg rfl (k H locs ls hP hD hS hl)
theorem z_dup (F : ZF z y cc own nL ret d) {v : Value} (hdg : decode cc pc = .ok (.dup, 1)) (hc : v.category = 1) (k : Z z y nL Q X (pc + 1) L (v :: v :: st)) : Z z y nL Q X pc L (v :: st) := by
  obtain ⟨p, l, e, R, s, m, args, below, meth, c⟩ := z
  exact fun H locs ls hP hD hS hl => lv_dup F.1 F.2.1 hdg hc (k H locs ls hP hD hS hl)
theorem z_pop (F : ZF z y cc own nL ret d) {v : Value} (hdg : decode cc pc = .ok (.pop, 1)) (hc : v.category = 1) (k : Z z y nL Q X (pc + 1) L st) : Z z y nL Q X pc L (v :: st) := by
  obtain ⟨p, l, e, R, s, m, args, below, meth, c⟩ := z
  exact fun H locs ls hP hD hS hl => lv_pop F.1 F.2.1 hdg hc (k H locs ls hP hD hS hl)
theorem z_dup_x1 (F : ZF z y cc own nL ret d) {v w : Value} (hdg : decode cc pc = .ok (.dup_x1, 1)) (hc : v.category = 1) (hc2 : w.category = 1) (k : Z z y nL Q X (pc + 1) L (v :: w :: v :: st)) : Z z y nL Q X pc L (v :: w :: st) := by
  obtain ⟨p, l, e, R, s, m, args, below, meth, c⟩ := z
  exact fun H locs ls hP hD hS hl => lv_dup_x1 F.1 F.2.1 hdg hc hc2 (k H locs ls hP hD hS hl)
theorem z_dup2 (F : ZF z y cc own nL ret d) {v w : Value} (hdg : decode cc pc = .ok (.dup2, 1)) (hc : v.category = 1) (hc2 : w.category = 1) (k : Z z y nL Q X (pc + 1) L (v :: w :: v :: w :: st)) : Z z y nL Q X pc L (v :: w :: st) := by
  obtain ⟨p, l, e, R, s, m, args, below, meth, c⟩ := z
  exact fun H locs ls hP hD hS hl => lv_dup2_11 F.1 F.2.1 hdg hc hc2 (k H locs ls hP hD hS hl)
theorem z_goto (F : ZF z y cc own nL ret d) {off : Int} {tgt : Nat} (hdg : decode cc pc = .ok (.goto off, 3)) (ht : (pc : Int) + off = (tgt : Int)) (k : Z z y nL Q X tgt L st) : Z z y nL Q X pc L st := by
  obtain ⟨p, l, e, R, s, m, args, below, meth, c⟩ := z
  exact fun H locs ls hP hD hS hl => lv_goto F.1 F.2.1 hdg ht (k H locs ls hP hD hS hl)
theorem z_if_eq (F : ZF z y cc own nL ret d) {β : Type} {x : Int32} {off : Int} {tgt : Nat} {a b r : β} (hf : (if x = 0 then a else b) = r) (hdg : decode cc pc = .ok (.ifCond .eq off, 3)) (ht : (pc : Int) + off = (tgt : Int)) (k1 : a = r → Z z y nL Q X tgt L st) (k2 : b = r → Z z y nL Q X (pc + 3) L st) : Z z y nL Q X pc L (.int x :: st) := by
  obtain ⟨p, l, e, R, s, m, args, below, meth, c⟩ := z
  intro H locs ls hP hD hS hl
  exact lv_if_eq F.1 F.2.1 hdg ht (fun q => k1 (by rw [if_pos q] at hf; exact hf) H locs ls hP hD hS hl) (fun q => k2 (by rw [if_neg q] at hf; exact hf) H locs ls hP hD hS hl)
theorem z_icmp_eq (F : ZF z y cc own nL ret d) {β : Type} {x y9 : Int32} {off : Int} {tgt : Nat} {a b r : β} (hf : (if x = y9 then a else b) = r) (hdg : decode cc pc = .ok (.if_icmp .eq off, 3)) (ht : (pc : Int) + off = (tgt : Int)) (k1 : a = r → Z z y nL Q X tgt L st) (k2 : b = r → Z z y nL Q X (pc + 3) L st) : Z z y nL Q X pc L (.int y9 :: .int x :: st) := by
  obtain ⟨p, l, e, R, s, m, args, below, meth, c⟩ := z
  intro H locs ls hP hD hS hl
  exact lv_icmp_eq F.1 F.2.1 hdg ht (fun q => k1 (by rw [if_pos q] at hf; exact hf) H locs ls hP hD hS hl) (fun q => k2 (by rw [if_neg q] at hf; exact hf) H locs ls hP hD hS hl)
theorem z_if_ne (F : ZF z y cc own nL ret d) {β : Type} {x : Int32} {off : Int} {tgt : Nat} {a b r : β} (hf : (if x = 0 then b else a) = r) (hdg : decode cc pc = .ok (.ifCond .ne off, 3)) (ht : (pc : Int) + off = (tgt : Int)) (k1 : a = r → Z z y nL Q X tgt L st) (k2 : b = r → Z z y nL Q X (pc + 3) L st) : Z z y nL Q X pc L (.int x :: st) := by
  obtain ⟨p, l, e, R, s, m, args, below, meth, c⟩ := z
  intro H locs ls hP hD hS hl
  exact lv_if_ne F.1 F.2.1 hdg ht (fun q => k1 (by rw [if_neg q] at hf; exact hf) H locs ls hP hD hS hl) (fun q => k2 (by rw [if_pos (Decidable.not_not.mp q)] at hf; exact hf) H locs ls hP hD hS hl)
theorem z_icmp_ne (F : ZF z y cc own nL ret d) {β : Type} {x y9 : Int32} {off : Int} {tgt : Nat} {a b r : β} (hf : (if x = y9 then b else a) = r) (hdg : decode cc pc = .ok (.if_icmp .ne off, 3)) (ht : (pc : Int) + off = (tgt : Int)) (k1 : a = r → Z z y nL Q X tgt L st) (k2 : b = r → Z z y nL Q X (pc + 3) L st) : Z z y nL Q X pc L (.int y9 :: .int x :: st) := by
  obtain ⟨p, l, e, R, s, m, args, below, meth, c⟩ := z
  intro H locs ls hP hD hS hl
  exact lv_icmp_ne F.1 F.2.1 hdg ht (fun q => k1 (by rw [if_neg q] at hf; exact hf) H locs ls hP hD hS hl) (fun q => k2 (by rw [if_pos (Decidable.not_not.mp q)] at hf; exact hf) H locs ls hP hD hS hl)
theorem z_if_lt (F : ZF z y cc own nL ret d) {β : Type} {x : Int32} {off : Int} {tgt : Nat} {a b r : β} (hf : (if x < 0 then a else b) = r) (hdg : decode cc pc = .ok (.ifCond .lt off, 3)) (ht : (pc : Int) + off = (tgt : Int)) (k1 : a = r → Z z y nL Q X tgt L st) (k2 : b = r → Z z y nL Q X (pc + 3) L st) : Z z y nL Q X pc L (.int x :: st) := by
  obtain ⟨p, l, e, R, s, m, args, below, meth, c⟩ := z
  intro H locs ls hP hD hS hl
  exact lv_if_lt F.1 F.2.1 hdg ht (fun q => k1 (by rw [if_pos q] at hf; exact hf) H locs ls hP hD hS hl) (fun q => k2 (by rw [if_neg q] at hf; exact hf) H locs ls hP hD hS hl)
theorem z_icmp_lt (F : ZF z y cc own nL ret d) {β : Type} {x y9 : Int32} {off : Int} {tgt : Nat} {a b r : β} (hf : (if x < y9 then a else b) = r) (hdg : decode cc pc = .ok (.if_icmp .lt off, 3)) (ht : (pc : Int) + off = (tgt : Int)) (k1 : a = r → Z z y nL Q X tgt L st) (k2 : b = r → Z z y nL Q X (pc + 3) L st) : Z z y nL Q X pc L (.int y9 :: .int x :: st) := by
  obtain ⟨p, l, e, R, s, m, args, below, meth, c⟩ := z
  intro H locs ls hP hD hS hl
  exact lv_icmp_lt F.1 F.2.1 hdg ht (fun q => k1 (by rw [if_pos q] at hf; exact hf) H locs ls hP hD hS hl) (fun q => k2 (by rw [if_neg q] at hf; exact hf) H locs ls hP hD hS hl)
theorem z_if_ge (F : ZF z y cc own nL ret d) {β : Type} {x : Int32} {off : Int} {tgt : Nat} {a b r : β} (hf : (if 0 ≤ x then a else b) = r) (hdg : decode cc pc = .ok (.ifCond .ge off, 3)) (ht : (pc : Int) + off = (tgt : Int)) (k1 : a = r → Z z y nL Q X tgt L st) (k2 : b = r → Z z y nL Q X (pc + 3) L st) : Z z y nL Q X pc L (.int x :: st) := by
  obtain ⟨p, l, e, R, s, m, args, below, meth, c⟩ := z
  intro H locs ls hP hD hS hl
  exact lv_if_ge F.1 F.2.1 hdg ht (fun q => k1 (by rw [if_pos q] at hf; exact hf) H locs ls hP hD hS hl) (fun q => k2 (by rw [if_neg q] at hf; exact hf) H locs ls hP hD hS hl)
theorem z_icmp_ge (F : ZF z y cc own nL ret d) {β : Type} {x y9 : Int32} {off : Int} {tgt : Nat} {a b r : β} (hf : (if y9 ≤ x then a else b) = r) (hdg : decode cc pc = .ok (.if_icmp .ge off, 3)) (ht : (pc : Int) + off = (tgt : Int)) (k1 : a = r → Z z y nL Q X tgt L st) (k2 : b = r → Z z y nL Q X (pc + 3) L st) : Z z y nL Q X pc L (.int y9 :: .int x :: st) := by
  obtain ⟨p, l, e, R, s, m, args, below, meth, c⟩ := z
  intro H locs ls hP hD hS hl
  exact lv_icmp_ge F.1 F.2.1 hdg ht (fun q => k1 (by rw [if_pos q] at hf; exact hf) H locs ls hP hD hS hl) (fun q => k2 (by rw [if_neg q] at hf; exact hf) H locs ls hP hD hS hl)
theorem z_if_gt (F : ZF z y cc own nL ret d) {β : Type} {x : Int32} {off : Int} {tgt : Nat} {a b r : β} (hf : (if 0 < x then a else b) = r) (hdg : decode cc pc = .ok (.ifCond .gt off, 3)) (ht : (pc : Int) + off = (tgt : Int)) (k1 : a = r → Z z y nL Q X tgt L st) (k2 : b = r → Z z y nL Q X (pc + 3) L st) : Z z y nL Q X pc L (.int x :: st) := by
  obtain ⟨p, l, e, R, s, m, args, below, meth, c⟩ := z
  intro H locs ls hP hD hS hl
  exact lv_if_gt F.1 F.2.1 hdg ht (fun q => k1 (by rw [if_pos q] at hf; exact hf) H locs ls hP hD hS hl) (fun q => k2 (by rw [if_neg q] at hf; exact hf) H locs ls hP hD hS hl)
theorem z_icmp_gt (F : ZF z y cc own nL ret d) {β : Type} {x y9 : Int32} {off : Int} {tgt : Nat} {a b r : β} (hf : (if y9 < x then a else b) = r) (hdg : decode cc pc = .ok (.if_icmp .gt off, 3)) (ht : (pc : Int) + off = (tgt : Int)) (k1 : a = r → Z z y nL Q X tgt L st) (k2 : b = r → Z z y nL Q X (pc + 3) L st) : Z z y nL Q X pc L (.int y9 :: .int x :: st) := by
  obtain ⟨p, l, e, R, s, m, args, below, meth, c⟩ := z
  intro H locs ls hP hD hS hl
  exact lv_icmp_gt F.1 F.2.1 hdg ht (fun q => k1 (by rw [if_pos q] at hf; exact hf) H locs ls hP hD hS hl) (fun q => k2 (by rw [if_neg q] at hf; exact hf) H locs ls hP hD hS hl)
theorem z_if_le (F : ZF z y cc own nL ret d) {β : Type} {x : Int32} {off : Int} {tgt : Nat} {a b r : β} (hf : (if x ≤ 0 then a else b) = r) (hdg : decode cc pc = .ok (.ifCond .le off, 3)) (ht : (pc : Int) + off = (tgt : Int)) (k1 : a = r → Z z y nL Q X tgt L st) (k2 : b = r → Z z y nL Q X (pc + 3) L st) : Z z y nL Q X pc L (.int x :: st) := by
  obtain ⟨p, l, e, R, s, m, args, below, meth, c⟩ := z
  intro H locs ls hP hD hS hl
  exact lv_if_le F.1 F.2.1 hdg ht (fun q => k1 (by rw [if_pos q] at hf; exact hf) H locs ls hP hD hS hl) (fun q => k2 (by rw [if_neg q] at hf; exact hf) H locs ls hP hD hS hl)
theorem z_icmp_le (F : ZF z y cc own nL ret d) {β : Type} {x y9 : Int32} {off : Int} {tgt : Nat} {a b r : β} (hf : (if x ≤ y9 then a else b) = r) (hdg : decode cc pc = .ok (.if_icmp .le off, 3)) (ht : (pc : Int) + off = (tgt : Int)) (k1 : a = r → Z z y nL Q X tgt L st) (k2 : b = r → Z z y nL Q X (pc + 3) L st) : Z z y nL Q X pc L (.int y9 :: .int x :: st) := by
  obtain ⟨p, l, e, R, s, m, args, below, meth, c⟩ := z
  intro H locs ls hP hD hS hl
  exact lv_icmp_le F.1 F.2.1 hdg ht (fun q => k1 (by rw [if_pos q] at hf; exact hf) H locs ls hP hD hS hl) (fun q => k2 (by rw [if_neg q] at hf; exact hf) H locs ls hP hD hS hl)
theorem z_swIn (F : ZF z y cc own nL ret d) {dflt lo hi : Int} {offs : Array Int} {len : Nat} {x v : Int32} {off : Int} {tgt : Nat} (hx : x = v) (hdg : decode cc pc = .ok (.tableswitch dflt lo hi offs, len)) (h : (¬ v.toInt < lo ∧ ¬ hi < v.toInt) ∧ offs[(v.toInt - lo).toNat]? = some off ∧ (pc : Int) + off = (tgt : Int)) (k : Z z y nL Q X tgt L st) : Z z y nL Q X pc L (.int x :: st) := by
  obtain ⟨p, l, e, R, s, m, args, below, meth, c⟩ := z
  subst hx
  exact fun H locs ls hP hD hS hl => lv_tableIn F.1 F.2.1 hdg h.1.1 h.1.2 h.2.1 h.2.2 (k H locs ls hP hD hS hl)
theorem z_swOut (F : ZF z y cc own nL ret d) {dflt lo hi : Int} {offs : Array Int} {len : Nat} {x : Int32} {tgt : Nat} (hdg : decode cc pc = .ok (.tableswitch dflt lo hi offs, len)) (h : x.toInt < lo ∨ hi < x.toInt) (ht : (pc : Int) + dflt = (tgt : Int)) (k : Z z y nL Q X tgt L st) : Z z y nL Q X pc L (.int x :: st) := by
  obtain ⟨p, l, e, R, s, m, args, below, meth, c⟩ := z
  exact fun H locs ls hP hD hS hl => lv_tableOut F.1 F.2.1 hdg h ht (k H locs ls hP hD hS hl)
theorem z_look (F : ZF z y cc own nL ret d) {dflt : Int} {ps : Array (Int × Int)} {len : Nat} {x : Int32} {off : Int} {tgt : Nat} (hdg : decode cc pc = .ok (.lookupswitch dflt ps, len)) (hp : (ps.toList.zip (ps.toList.drop 1)).all (fun (a, next) => a.1 < next.1) = true) (ho : Op.lookupswitch.offset ps.toList dflt x.toInt = off) (ht : (pc : Int) + off = (tgt : Int)) (k : Z z y nL Q X tgt L st) : Z z y nL Q X pc L (.int x :: st) := by
  obtain ⟨p, l, e, R, s, m, args, below, meth, c⟩ := z
  exact fun H locs ls hP hD hS hl => lv_lookup F.1 F.2.1 hdg hp ho ht (k H locs ls hP hD hS hl)
/-! ends -/
theorem z_iret {R : Int32 × KX} (F : ZF z y cc own nL (some .int) d) {v : Int32} (hdg : decode cc pc = .ok (.ireturn, 1)) (hf : (v, X) = R) : Z z y nL (zQI z y R) X pc L [.int v] := by
  obtain ⟨p, l, e, Rm, s, m, args, below, meth, c⟩ := z
  exact fun H locs ls hP hD hS hl => W.iret F.1 F.2.1 F.2.2.2.2.2.1 (fun t ht hW => ⟨⟨v, X, rfl, hf, by rw [ht]; exact hP, hD⟩, hS.F ht⟩) hS.2.2 hdg F.2.2.2.2.2.2.1
theorem z_zret {R : Int32 × KX} (F : ZF z y cc own nL (some .boolean) d) {v : Int32} (hz : v = 0 ∨ v = 1) (hdg : decode cc pc = .ok (.ireturn, 1)) (hf : (v, X) = R) : Z z y nL (zQI z y R) X pc L [.int v] := by
  obtain ⟨p, l, e, Rm, s, m, args, below, meth, c⟩ := z
  exact fun H locs ls hP hD hS hl => W.zret F.1 F.2.1 F.2.2.2.2.2.1 (zBool hz).1 (fun t ht hW => ⟨⟨v, X, rfl, hf, by rw [ht]; exact hP, hD⟩, hS.F ht⟩) hS.2.2 hdg F.2.2.2.2.2.2.1
theorem z_vret {R : KX} (F : ZF z y cc own nL none d) (hdg : decode cc pc = .ok (.return_, 1)) (hf : X = R) : Z z y nL (zQV z y R) X pc L [] := by
  obtain ⟨p, l, e, Rm, s, m, args, below, meth, c⟩ := z
  exact fun H locs ls hP hD hS hl => W.vret F.1 F.2.1 F.2.2.2.2.2.1 (fun t ht hW => ⟨⟨X, rfl, hf, by rw [ht]; exact hP, hD⟩, hS.F ht⟩) hS.2.2 hdg F.2.2.2.2.2.2.1
/-! calls -/
theorem zS.blind {av : List Value} : FrameBlind (va_Pc av (zS y X)) := fun a U g mk q => ⟨q.1, q.2.1, va_K.moved (u := U) (U := U.calling g mk a) (Vm.Alike.refl U.vm) q.2.2.1, q.2.2.2.1, zN.same (u := U) (U := U.calling g mk a) rfl q.2.2.2.2⟩
theorem z_good {pre : List Cond} {c2 : Cond} (h : ∀ w ∈ pre, w ∈ wsA) (h2 : c2 ∈ wsA) : GoodIn wsA (pre ++ (c2 :: wsA)) := by
  intro w hw
  have hm : w ∈ wsA := by
    rcases List.mem_append.mp hw with q | q
    · exact h w q
    · rcases List.mem_cons.mp q with rfl | q
      · exact h2
      · exact q
  exact ⟨hm, wsA_good w hm⟩
/-- what a caller must know of a callee -/
def zKn (nm : MethodName) (bytes : ByteArray) (maxL : Nat) (ret : Option FieldType) (n : Nat) : Prop := Cond.code nm bytes maxL ret ∈ wsA ∧ Cond.initialized nm.cls ∈ wsA ∧ (nm.cls ≠ "java/lang/invoke/MethodHandle" ∧ nm.cls ≠ "java/lang/invoke/VarHandle" ∧ (parseMethodDescriptor nm.desc).map (fun d => d.parameters.length) = some n) ∧ maxL ≤ 45
def zKv (nm : MethodName) : Prop := Cond.instanceMethod nm ∈ wsA ∧ Cond.selects nm.cls nm nm ∈ wsA
theorem z_runV {nm : MethodName} {bytes : ByteArray} {maxL n index ci q0 N d' : Nat} {ret' : Option FieldType} {As rest : List Value} {a : Nat} {fs : List Value} {T : u_T} {Qc : Array Value → State → Outcome → State → Prop} {p : Program} {l : Launch} {e : Env} {R : Room} {s : State} {m : MethodId} {args : Array Value} {below : List Frame} {meth : Method} {c : Code} {H : Heap} {locs : List Loc} {ls : Array Slot}
    (F : ZF (p, l, e, R, s, m, args, below, meth, c) y cc own nL ret d) (hM : Met l nm (.code nm bytes maxL ret' :: wsA) (zRm d') (va_Pc (.ref a :: As) (zS y X)) Qc 0 0 y.2.2.1) (hk : zKn nm bytes maxL ret' n) (hv : zKv nm) (hw : Cond.methodLink own index nm ∈ wsA) (hq : (y.2.1 X)[q0]? = some (a, .inr (ci, fs))) (hc : vwCl[ci]? = some (nm.cls, T, N)) (hd : d' + 1 ≤ d)
    (hn : As.length = n) (hP : va_P y.1 vwCl (y.2.1 X) H) (hD : va_D y.2.2.1 (y.2.1 X)) (hsz : ls.size = nL) (hst : (rest.map fun v => v.category).sum ≤ 8) (hdg : decode cc pc = .ok (.invokevirtual index, 3)) :
    va_Run p l e R s m args below meth c H locs 0 0 0 0 (F0 m pc ls (As.reverse ++ .ref a :: rest)) rest (Qc (Value.ref a :: As).toArray) y.2.2.1 := by
  obtain ⟨hx, hb, hown, hml, hts, hr, hlk, hK, hN, hR1, hR2⟩ := F
  have hm := hk.2.2.2
  refine va_runV (As := As) (rest := rest) ⟨hx, hb, hml, hown, hts⟩ hM (cwV n hts (z_good (pre := [.methodLink own index nm, .instanceMethod nm, .selects nm.cls nm nm, .initialized nm.cls]) ?_ hk.1) rfl rfl rfl ⟨rfl, hk.2.2.1⟩ ⟨?_, ?_⟩) ⟨zS.blind, va_recv hK hP hc hq, fun U hU hW => ⟨rfl, by rw [hU]; exact hP, va_K.moved hW.alike hK, hD, zN.warm hW hN⟩⟩ rfl hn hsz rfl (lv_room hst) hdg ⟨Nat.zero_le _, Nat.zero_le _⟩
  · intro w hw2
    simp only [List.mem_cons, List.not_mem_nil, or_false] at hw2
    rcases hw2 with rfl | rfl | rfl | rfl
    · exact hw
    · exact hv.1
    · exact hv.2
    · exact hk.2.1
  · exact Nat.le_trans hd hR1
  · show 8 + (maxL + 11) + 64 * d' ≤ R.locals
    omega
theorem z_runS {nm : MethodName} {bytes : ByteArray} {maxL n index d' : Nat} {ret' : Option FieldType} {As rest : List Value} {Qc : Array Value → State → Outcome → State → Prop} {p : Program} {l : Launch} {e : Env} {R : Room} {s : State} {m : MethodId} {args : Array Value} {below : List Frame} {meth : Method} {c : Code} {H : Heap} {locs : List Loc} {ls : Array Slot}
    (F : ZF (p, l, e, R, s, m, args, below, meth, c) y cc own nL ret d) (hM : Met l nm (.code nm bytes maxL ret' :: wsA) (zRm d') (va_Pc As (zS y X)) Qc 0 0 y.2.2.1) (hk : zKn nm bytes maxL ret' n) (hv : Cond.static nm ∈ wsA) (hw : Cond.methodLink own index nm ∈ wsA) (hd : d' + 1 ≤ d)
    (hn : As.length = n) (hP : va_P y.1 vwCl (y.2.1 X) H) (hD : va_D y.2.2.1 (y.2.1 X)) (hsz : ls.size = nL) (hst : (rest.map fun v => v.category).sum ≤ 8) (hdg : decode cc pc = .ok (.invokestatic index, 3)) :
    va_Run p l e R s m args below meth c H locs 0 0 0 0 (F0 m pc ls (As.reverse ++ rest)) rest (Qc As.toArray) y.2.2.1 := by
  obtain ⟨hx, hb, hown, hml, hts, hr, hlk, hK, hN, hR1, hR2⟩ := F
  have hm := hk.2.2.2
  refine va_runS (As := As) (rest := rest) ⟨hx, hb, hml, hown, hts⟩ hM (va_cwS n hts (z_good (pre := [.methodLink own index nm, .static nm, .initialized nm.cls]) ?_ hk.1) rfl rfl rfl hk.2.2.1 ⟨?_, ?_⟩) ⟨zS.blind, fun U hU hW => ⟨rfl, by rw [hU]; exact hP, va_K.moved hW.alike hK, hD, zN.warm hW hN⟩⟩ rfl hn hsz rfl (lv_room hst) hdg ⟨Nat.zero_le _, Nat.zero_le _⟩
  · intro w hw2
    simp only [List.mem_cons, List.not_mem_nil, or_false] at hw2
    rcases hw2 with rfl | rfl | rfl
    · exact hw
    · exact hv
    · exact hk.2.1
  · exact Nat.le_trans hd hR1
  · show 8 + (maxL + 11) + 64 * d' ≤ R.locals
    omega
theorem z_runSN {nm : MethodName} {bytes : ByteArray} {maxL n index d' : Nat} {host : String} {ret' : Option FieldType} {As rest : List Value} {Qc : Array Value → State → Outcome → State → Prop} {p : Program} {l : Launch} {e : Env} {R : Room} {s : State} {m : MethodId} {args : Array Value} {below : List Frame} {meth : Method} {c : Code} {H : Heap} {locs : List Loc} {ls : Array Slot}
    (F : ZF (p, l, e, R, s, m, args, below, meth, c) y cc own nL ret d) (hM : Met l nm (.code nm bytes maxL ret' :: wsA) (zRm d') (va_Pc As (zS y X)) Qc 0 0 y.2.2.1) (hk : zKn nm bytes maxL ret' n) (hv : Cond.static nm ∈ wsA) (hw : zN s → va_Nw (.methodLinkNest own index nm host) s) (hd : d' + 1 ≤ d)
    (hn : As.length = n) (hP : va_P y.1 vwCl (y.2.1 X) H) (hD : va_D y.2.2.1 (y.2.1 X)) (hsz : ls.size = nL) (hst : (rest.map fun v => v.category).sum ≤ 8) (hdg : decode cc pc = .ok (.invokestatic index, 3)) :
    va_Run p l e R s m args below meth c H locs 0 0 0 0 (F0 m pc ls (As.reverse ++ rest)) rest (Qc As.toArray) y.2.2.1 := by
  obtain ⟨hx, hb, hown, hml, hts, hr, hlk, hK, hN, hR1, hR2⟩ := F
  have hm := hk.2.2.2
  refine va_runSN (As := As) (rest := rest) (host := host) ⟨hx, hb, hml, hown, hts⟩ hM ⟨va_cnB n hts (fun w h => ?_) rfl rfl rfl (hw hN) (hts _ hk.2.1) hk.2.2.1 ⟨?_, ?_⟩, hts _ hv, trivial⟩ ⟨zS.blind, fun U hU hW => ⟨rfl, by rw [hU]; exact hP, va_K.moved hW.alike hK, hD, zN.warm hW hN⟩⟩ rfl hn hsz rfl (lv_room hst) hdg ⟨Nat.zero_le _, Nat.zero_le _⟩
  · rcases List.mem_cons.mp h with rfl | h
    · exact ⟨hk.1, wsA_good _ hk.1⟩
    · exact ⟨h, wsA_good _ h⟩
  · exact Nat.le_trans hd hR1
  · show 8 + (maxL + 11) + 64 * d' ≤ R.locals
    omega
end ZR
section ZC2
variable {z : ZC} {y : ZY} {cc : ByteArray} {own : String} {nL d pc : Nat} {ret : Option FieldType} {Q : State → Prop} {X : KX} {L : List (Nat × Value)} {st rest : List Value} {nm : MethodName} {bytes : ByteArray} {maxL n index ci q0 N d' : Nat} {ret' : Option FieldType} {As : List Value} {a : Nat} {fs : List Value} {T : u_T}
theorem z_cVI (F : ZF z y cc own nL ret d) {R : Int32 × KX} (hM : zMI y nm bytes maxL ret' d' (.ref a :: As) X R) (hk : zKn nm bytes maxL ret' n) (hv : zKv nm) (hw : Cond.methodLink own index nm ∈ wsA) (hq : (y.2.1 X)[q0]? = some (a, .inr (ci, fs))) (hc : vwCl[ci]? = some (nm.cls, T, N)) (hd : d' + 1 ≤ d) (hn : As.length = n) (hst : (rest.map fun v => v.category).sum ≤ 8) (hdg : decode cc pc = .ok (.invokevirtual index, 3)) (e : As.reverse ++ .ref a :: rest = st) (k : Z z y nL Q R.2 (pc + 3) L (.int R.1 :: rest)) : Z z y nL Q X pc L st := by
  obtain ⟨p, l, ev, Rm, s, m, args, below, meth, c⟩ := z
  subst e
  intro H locs ls hP hD hS hl
  refine va_calli (z_runV F (hM l) hk hv hw hq hc hd hn hP hD hl.1 hst hdg) hS (fun _ _ h => h) (fun _ h => h) (fun r u t H1 locs1 ht _ hp hB _ _ hS1 => ?_)
  subst hp
  exact k H1 locs1 ls (by rw [← ht]; exact hB.1) hB.2 hS1 hl
theorem z_cVV (F : ZF z y cc own nL ret d) {R : KX} (hM : zMV y nm bytes maxL ret' d' (.ref a :: As) X R) (hk : zKn nm bytes maxL ret' n) (hv : zKv nm) (hw : Cond.methodLink own index nm ∈ wsA) (hq : (y.2.1 X)[q0]? = some (a, .inr (ci, fs))) (hc : vwCl[ci]? = some (nm.cls, T, N)) (hd : d' + 1 ≤ d) (hn : As.length = n) (hst : (rest.map fun v => v.category).sum ≤ 8) (hdg : decode cc pc = .ok (.invokevirtual index, 3)) (e : As.reverse ++ .ref a :: rest = st) (k : Z z y nL Q R (pc + 3) L rest) : Z z y nL Q X pc L st := by
  obtain ⟨p, l, ev, Rm, s, m, args, below, meth, c⟩ := z
  subst e
  intro H locs ls hP hD hS hl
  refine va_callv (z_runV F (hM l) hk hv hw hq hc hd hn hP hD hl.1 hst hdg) hS (fun _ _ h => h) (fun _ h => h) (fun u t H1 locs1 ht _ hp hB _ _ hS1 => ?_)
  subst hp
  exact k H1 locs1 ls (by rw [← ht]; exact hB.1) hB.2 hS1 hl
theorem z_cSI (F : ZF z y cc own nL ret d) {R : Int32 × KX} (hM : zMI y nm bytes maxL ret' d' As X R) (hk : zKn nm bytes maxL ret' n) (hv : Cond.static nm ∈ wsA) (hw : Cond.methodLink own index nm ∈ wsA) (hd : d' + 1 ≤ d) (hn : As.length = n) (hst : (rest.map fun v => v.category).sum ≤ 8) (hdg : decode cc pc = .ok (.invokestatic index, 3)) (e : As.reverse ++ rest = st) (k : Z z y nL Q R.2 (pc + 3) L (.int R.1 :: rest)) : Z z y nL Q X pc L st := by
  obtain ⟨p, l, ev, Rm, s, m, args, below, meth, c⟩ := z
  subst e
  intro H locs ls hP hD hS hl
  refine va_calli (z_runS F (hM l) hk hv hw hd hn hP hD hl.1 hst hdg) hS (fun _ _ h => h) (fun _ h => h) (fun r u t H1 locs1 ht _ hp hB _ _ hS1 => ?_)
  subst hp
  exact k H1 locs1 ls (by rw [← ht]; exact hB.1) hB.2 hS1 hl
theorem z_cSV (F : ZF z y cc own nL ret d) {R : KX} (hM : zMV y nm bytes maxL ret' d' As X R) (hk : zKn nm bytes maxL ret' n) (hv : Cond.static nm ∈ wsA) (hw : Cond.methodLink own index nm ∈ wsA) (hd : d' + 1 ≤ d) (hn : As.length = n) (hst : (rest.map fun v => v.category).sum ≤ 8) (hdg : decode cc pc = .ok (.invokestatic index, 3)) (e : As.reverse ++ rest = st) (k : Z z y nL Q R (pc + 3) L rest) : Z z y nL Q X pc L st := by
  obtain ⟨p, l, ev, Rm, s, m, args, below, meth, c⟩ := z
  subst e
  intro H locs ls hP hD hS hl
  refine va_callv (z_runS F (hM l) hk hv hw hd hn hP hD hl.1 hst hdg) hS (fun _ _ h => h) (fun _ h => h) (fun u t H1 locs1 ht _ hp hB _ _ hS1 => ?_)
  subst hp
  exact k H1 locs1 ls (by rw [← ht]; exact hB.1) hB.2 hS1 hl
theorem z_cNI (F : ZF z y cc own nL ret d) {R : Int32 × KX} {host : String} (hM : zMI y nm bytes maxL ret' d' As X R) (hk : zKn nm bytes maxL ret' n) (hv : Cond.static nm ∈ wsA) (hw : ∀ s, zN s → va_Nw (.methodLinkNest own index nm host) s) (hd : d' + 1 ≤ d) (hn : As.length = n) (hst : (rest.map fun v => v.category).sum ≤ 8) (hdg : decode cc pc = .ok (.invokestatic index, 3)) (e : As.reverse ++ rest = st) (k : Z z y nL Q R.2 (pc + 3) L (.int R.1 :: rest)) : Z z y nL Q X pc L st := by
  obtain ⟨p, l, ev, Rm, s, m, args, below, meth, c⟩ := z
  subst e
  intro H locs ls hP hD hS hl
  refine va_calli (z_runSN F (hM l) hk hv (hw s) hd hn hP hD hl.1 hst hdg) hS (fun _ _ h => h) (fun _ h => h) (fun r u t H1 locs1 ht _ hp hB _ _ hS1 => ?_)
  subst hp
  exact k H1 locs1 ls (by rw [← ht]; exact hB.1) hB.2 hS1 hl
theorem z_max (F : ZF z y cc own nL ret d) {u v : Int32} (h1 : 1 ≤ d) (hw : Cond.methodLink own index Lib.Math.max.name ∈ wsA) (hstat : Cond.static Lib.Math.max.name ∈ wsA) (hini : Cond.initialized "java/lang/Math" ∈ wsA) (hcode : Cond.code Lib.Math.max.name Lib.Math.max.code 2 (some .int) ∈ wsA) (hst : (rest.map fun v => v.category).sum ≤ 8) (hdg : decode cc pc = .ok (.invokestatic index, 3)) (k : Z z y nL Q X (pc + 3) L (.int (if u < v then v else u) :: rest)) : Z z y nL Q X pc L (.int v :: .int u :: rest) := by
  obtain ⟨p, l, ev, Rm, s, m, args, below, meth, c⟩ := z
  obtain ⟨hx, hb, hown, hml, hts, hr, hlk, hK, hN, hR1, hR2⟩ := F
  intro H locs ls hP hD hS hl
  exact va_mmax hx hb (hml.trans hl.1.symm) hown (hts _ hw) (hts _ hstat) (hts _ hini) (hts _ hcode) (Nat.le_trans h1 hR1) (by omega) (Nat.zero_le _) (Nat.zero_le _) hdg (k H locs ls hP hD hS hl)
theorem z_min (F : ZF z y cc own nL ret d) {u v : Int32} (h1 : 1 ≤ d) (hw : Cond.methodLink own index Lib.Math.min.name ∈ wsA) (hstat : Cond.static Lib.Math.min.name ∈ wsA) (hini : Cond.initialized "java/lang/Math" ∈ wsA) (hcode : Cond.code Lib.Math.min.name Lib.Math.min.code 2 (some .int) ∈ wsA) (hst : (rest.map fun v => v.category).sum ≤ 8) (hdg : decode cc pc = .ok (.invokestatic index, 3)) (k : Z z y nL Q X (pc + 3) L (.int (if v < u then v else u) :: rest)) : Z z y nL Q X pc L (.int v :: .int u :: rest) := by
  obtain ⟨p, l, ev, Rm, s, m, args, below, meth, c⟩ := z
  obtain ⟨hx, hb, hown, hml, hts, hr, hlk, hK, hN, hR1, hR2⟩ := F
  intro H locs ls hP hD hS hl
  exact va_mmin hx hb (hml.trans hl.1.symm) hown (hts _ hw) (hts _ hstat) (hts _ hini) (hts _ hcode) (Nat.le_trans h1 hR1) (by omega) (Nat.zero_le _) (Nat.zero_le _) hdg (k H locs ls hP hD hS hl)
end ZC2
section ZH
variable {z : ZC} {y : ZY} {cc : ByteArray} {own : String} {nL d pc : Nat} {ret : Option FieldType} {Q : State → Prop} {X : KX} {L : List (Nat × Value)} {st : List Value} {a : Nat}
theorem z_get (F : ZF z y cc own nL ret d) {C : String} {T : u_T} {N ci index : Nat} {fs : List Value} {v : Value} (hin : ∀ w ∈ u_ws C T N, w ∈ wsA) (q0 : Nat) (he : (y.2.1 X)[q0]? = some (a, .inr (ci, fs))) (hc : vwCl[ci]? = some (C, T, N)) (k : Nat) (hk : k < N) (hv : fs[k]? = some v) (hw : Cond.fieldLink own index (T k).1 (T k).2.1 (T k).2.2.1 ∈ wsA) (hdg : decode cc pc = .ok (.getfield index, 3)) (kk : Z z y nL Q X (pc + 3) L (v :: st)) : Z z y nL Q X pc L (.ref a :: st) := by
  obtain ⟨p, l, ev, Rm, s, m, args, below, meth, c⟩ := z
  obtain ⟨hx, hb, hown, hml, hts, hr, hlk, hK, hN, hR1, hR2⟩ := F
  intro H locs ls hP hD hS hl
  exact va_get hx hb hts hin hown hK hP q0 he hc k hk (hts _ hw) (fun _ h => h) hv hdg (kk H locs ls hP hD hS hl)
theorem z_put (F : ZF z y cc own nL ret d) {C : String} {T : u_T} {N ci index : Nat} {fs : List Value} {v : Value} {ty : FieldType} {X' : KX} (hin : ∀ w ∈ u_ws C T N, w ∈ wsA) (ty0 : Nat → FieldType) (hty : ∀ k, k < N → parseFieldDescriptor (T k).2.2.1 = some (ty0 k)) (hnm : ∀ a, a < N → ∀ b, b < N → a ≠ b → (T a).2.1 ≠ (T b).2.1) (q0 : Nat) (he : (y.2.1 X)[q0]? = some (a, .inr (ci, fs))) (hc : vwCl[ci]? = some (C, T, N)) (k : Nat) (hk : k < N) (hfin : (T k).2.2.2 = false) (hd : parseFieldDescriptor (T k).2.2.1 = some ty) (hn : narrow ty v = v ∧ fits ty v = true) (hl0 : k < fs.length) (hX : (y.2.1 X).set q0 (a, .inr (ci, fs.set k v)) = y.2.1 X') (hw : Cond.fieldLink own index (T k).1 (T k).2.1 (T k).2.2.1 ∈ wsA) (hdg : decode cc pc = .ok (.putfield index, 3)) (kk : Z z y nL Q X' (pc + 3) L st) : Z z y nL Q X pc L (v :: .ref a :: st) := by
  obtain ⟨p, l, ev, Rm, s, m, args, below, meth, c⟩ := z
  obtain ⟨hx, hb, hown, hml, hts, hr, hlk, hK, hN, hR1, hR2⟩ := F
  intro H locs ls hP hD hS hl
  refine va_put hx hb hts hin ty0 hty hnm hown hK hP hD hS q0 he hc k hk (hts _ hw) (fun _ h => h) hfin hd hn.1 hn.2 hl0 hdg (fun H1 locs1 h1 h2 h3 => ?_)
  rw [hX] at h1 h2
  exact kk H1 locs1 ls h1 h2 h3 hl
theorem z_iald (F : ZF z y cc own nL ret d) {α : Type} {cA : ClassId} {n : Nat} {f : Nat → Int32} {i : Int32} {e : Option α} {r : α} (q0 t0 : Nat) (ha : (y.2.1 X)[q0]? = some (a, .inl (cA, n, .inl f))) (ht : y.2.2.2[t0]? = some (cA, .int)) (hf : zGd i n e = some r) (hdg : decode cc pc = .ok (.iaload, 1)) (kk : e = some r → Z z y nL Q X (pc + 1) L (.int (f i.toNatClampNeg) :: st)) : Z z y nL Q X pc L (.int i :: .ref a :: st) := by
  obtain ⟨p, l, ev, Rm, s, m, args, below, meth, c⟩ := z
  obtain ⟨hx, hb, hown, hml, hts, hr, hlk, hK, hN, hR1, hR2⟩ := F
  obtain ⟨h1, h2⟩ := zGd_some hf
  intro H locs ls hP hD hS hl
  exact va_iald hx hb hK hP q0 t0 ha ht h1 hdg (kk h2 H locs ls hP hD hS hl)
theorem z_zald (F : ZF z y cc own nL ret d) {α : Type} {cA : ClassId} {n : Nat} {f : Nat → Int32} {i : Int32} {e : Option α} {r : α} (q0 t0 : Nat) (ha : (y.2.1 X)[q0]? = some (a, .inl (cA, n, .inl f))) (ht : y.2.2.2[t0]? = some (cA, .boolean)) (hf : zGd i n e = some r) (hdg : decode cc pc = .ok (.baload, 1)) (kk : e = some r → Z z y nL Q X (pc + 1) L (.int (f i.toNatClampNeg) :: st)) : Z z y nL Q X pc L (.int i :: .ref a :: st) := by
  obtain ⟨p, l, ev, Rm, s, m, args, below, meth, c⟩ := z
  obtain ⟨hx, hb, hown, hml, hts, hr, hlk, hK, hN, hR1, hR2⟩ := F
  obtain ⟨h1, h2⟩ := zGd_some hf
  intro H locs ls hP hD hS hl
  exact va_zald hx hb hK hP q0 t0 ha ht h1 hdg (kk h2 H locs ls hP hD hS hl)
theorem z_iast (F : ZF z y cc own nL ret d) {α : Type} {cA : ClassId} {n : Nat} {f : Nat → Int32} {i x : Int32} {e : KX → Option α} {r : α} {X' : KX} (q0 t0 : Nat) (ha : (y.2.1 X)[q0]? = some (a, .inl (cA, n, .inl f))) (ht : y.2.2.2[t0]? = some (cA, .int)) (hX : (y.2.1 X).set q0 (a, .inl (cA, n, .inl (upd f i.toNatClampNeg x))) = y.2.1 X') (hf : zGd i n (zLet X' e) = some r) (hdg : decode cc pc = .ok (.iastore, 1)) (kk : ∀ X2 : KX, e X2 = some r → Z z y nL Q X2 (pc + 1) L st) : Z z y nL Q X pc L (.int x :: .int i :: .ref a :: st) := by
  obtain ⟨p, l, ev, Rm, s, m, args, below, meth, c⟩ := z
  obtain ⟨hx, hb, hown, hml, hts, hr, hlk, hK, hN, hR1, hR2⟩ := F
  obtain ⟨h1, h2⟩ := zGd_some hf
  intro H locs ls hP hD hS hl
  refine va_iast hx hb hK hP hD hS q0 t0 ha ht h1 hdg (fun H1 locs1 g1 g2 g3 => ?_)
  rw [hX] at g1 g2
  exact kk _ h2 H1 locs1 ls g1 g2 g3 hl
theorem z_zast (F : ZF z y cc own nL ret d) {α : Type} {cA : ClassId} {n : Nat} {f : Nat → Int32} {i : Int32} {e : KX → Option α} {r : α} {X' : KX} (q0 t0 : Nat) (ha : (y.2.1 X)[q0]? = some (a, .inl (cA, n, .inl f))) (ht : y.2.2.2[t0]? = some (cA, .boolean)) (hX : (y.2.1 X).set q0 (a, .inl (cA, n, .inl (upd f i.toNatClampNeg 1))) = y.2.1 X') (hf : zGd i n (zLet X' e) = some r) (hdg : decode cc pc = .ok (.bastore, 1)) (kk : ∀ X2 : KX, e X2 = some r → Z z y nL Q X2 (pc + 1) L st) : Z z y nL Q X pc L (.int 1 :: .int i :: .ref a :: st) := by
  obtain ⟨p, l, ev, Rm, s, m, args, below, meth, c⟩ := z
  obtain ⟨hx, hb, hown, hml, hts, hr, hlk, hK, hN, hR1, hR2⟩ := F
  obtain ⟨h1, h2⟩ := zGd_some hf
  intro H locs ls hP hD hS hl
  refine va_zast hx hb hK hP hD hS q0 t0 ha ht h1 hdg (fun H1 locs1 g1 g2 g3 => ?_)
  rw [show vp_nar .boolean 1 = 1 by decide +kernel, hX] at g1 g2
  exact kk _ h2 H1 locs1 ls g1 g2 g3 hl
theorem z_alen (F : ZF z y cc own nL ret d) {cA : ClassId} {x : vp_A} {ty : FieldType} {v : Int32} (q0 t0 : Nat) (ha : (y.2.1 X)[q0]? = some (a, .inl (cA, x))) (ht : y.2.2.2[t0]? = some (cA, ty)) (hv : Int32.ofNat x.1 = v) (hdg : decode cc pc = .ok (.arraylength, 1)) (kk : Z z y nL Q X (pc + 1) L (.int v :: st)) : Z z y nL Q X pc L (.ref a :: st) := by
  obtain ⟨p, l, ev, Rm, s, m, args, below, meth, c⟩ := z
  obtain ⟨hx, hb, hown, hml, hts, hr, hlk, hK, hN, hR1, hR2⟩ := F
  intro H locs ls hP hD hS hl
  exact va_alen hx hb hK hP q0 t0 ha ht hv hdg (kk H locs ls hP hD hS hl)
theorem z_copy (F : ZF z y cc own nL ret d) {α : Type} {c0 c1 : ClassId} {n0 n1 a0 : Nat} {f g : Nat → Int32} {sp dp n : Int32} {e : KX → Option α} {r : α} {X' : KX} {index : Nat} (h9 : 1 ≤ d) (hw : Cond.methodLink own index arraycopyName ∈ wsA) (hnat : Cond.native arraycopyName ∈ wsA) (hstat : Cond.static arraycopyName ∈ wsA) (hini : Cond.initialized "java/lang/System" ∈ wsA) (q0 q1 t0 t1 : Nat) (ha0 : (y.2.1 X)[q0]? = some (a0, .inl (c0, n0, .inl f))) (ha1 : (y.2.1 X)[q1]? = some (a, .inl (c1, n1, .inl g))) (ht0 : y.2.2.2[t0]? = some (c0, .int)) (ht1 : y.2.2.2[t1]? = some (c1, .int)) (hX : (y.2.1 X).set q1 (a, .inl (c1, n1, .inl (va_cpy f g sp.toNatClampNeg dp.toNatClampNeg n.toNatClampNeg))) = y.2.1 X') (hf : zGc sp dp n n0 n1 (zLet X' e) = some r) (hst : (st.map fun v => v.category).sum ≤ 8) (hdg : decode cc pc = .ok (.invokestatic index, 3)) (kk : ∀ X2 : KX, e X2 = some r → Z z y nL Q X2 (pc + 3) L st) : Z z y nL Q X pc L (.int n :: .int dp :: .ref a :: .int sp :: .ref a0 :: st) := by
  obtain ⟨p, l, ev, Rm, s, m, args, below, meth, c⟩ := z
  obtain ⟨hx, hb, hown, hml, hts, hr, hlk, hK, hN, hR1, hR2⟩ := F
  obtain ⟨h1, h2⟩ := zGc_some hf
  intro H locs ls hP hD hS hl
  have hwd : nativeFrameWords "java/lang/System" "arraycopy" 5 + 11 ≤ 56 := by decide +kernel
  refine va_copyi hx hb (hml.trans hl.1.symm) hown (hts _ hw) (hts _ hnat) (hts _ hstat) (hts _ hini) hK hP hD hS q0 q1 t0 t1 ha0 ha1 ht0 ht1 rfl h1.1.1 h1.1.2.1 h1.1.2.2 h1.2.1 h1.2.2 (fun _ _ => rfl) (Nat.le_trans h9 hR1) (by omega) hdg (fun H1 locs1 g1 g2 g3 => ?_)
  rw [hX] at g1 g2
  exact kk _ h2 H1 locs1 ls g1 g2 g3 hl
end ZH
end
section
theorem zz_last : True := trivial
end

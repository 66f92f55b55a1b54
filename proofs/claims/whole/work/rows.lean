section
-- ===== PART A: goes FIRST, ahead of the names: the tables' words, and 'selects' of the private methods out of them =====
/-- a private method of a class that the tables say can be made, by its rows of tables_1 -/
def lw_okq (q : MethodName × Nat) : Prop := (q.1.cls ≠ "java/lang/invoke/MethodHandle" ∧ q.1.cls ≠ "java/lang/invoke/VarHandle") ∧ Cond.instantiable q.1.cls q.2 ∈ tables_1 ∧ Cond.privateMethod q.1 ∈ tables_1 ∧ Cond.instanceMethod q.1 ∈ tables_1
theorem lw_p0 : lw_okq (⟨"ProtocolDesk$Roll", "isOfKind", "(II)Z"⟩, 9) := ⟨⟨by decide +kernel, by decide +kernel⟩, List.mem_of_getElem? (i := 29) (by decide +kernel), List.mem_of_getElem? (i := 383) (by decide +kernel), List.mem_of_getElem? (i := 384) (by decide +kernel)⟩
theorem lw_p1 : lw_okq (⟨"ProtocolDesk$Roll", "setHome", "(II)V"⟩, 9) := ⟨⟨by decide +kernel, by decide +kernel⟩, List.mem_of_getElem? (i := 29) (by decide +kernel), List.mem_of_getElem? (i := 394) (by decide +kernel), List.mem_of_getElem? (i := 395) (by decide +kernel)⟩
theorem lw_p2 : lw_okq (⟨"ProtocolDesk$Roll", "refreshFields", "(I)V"⟩, 9) := ⟨⟨by decide +kernel, by decide +kernel⟩, List.mem_of_getElem? (i := 29) (by decide +kernel), List.mem_of_getElem? (i := 398) (by decide +kernel), List.mem_of_getElem? (i := 399) (by decide +kernel)⟩
theorem lw_p3 : lw_okq (⟨"ProtocolDesk$Roll", "rankOf", "(I)I"⟩, 9) := ⟨⟨by decide +kernel, by decide +kernel⟩, List.mem_of_getElem? (i := 29) (by decide +kernel), List.mem_of_getElem? (i := 402) (by decide +kernel), List.mem_of_getElem? (i := 403) (by decide +kernel)⟩
theorem lw_p4 : lw_okq (⟨"ProtocolDesk$Roll", "ownRankOf", "(I)I"⟩, 9) := ⟨⟨by decide +kernel, by decide +kernel⟩, List.mem_of_getElem? (i := 29) (by decide +kernel), List.mem_of_getElem? (i := 406) (by decide +kernel), List.mem_of_getElem? (i := 407) (by decide +kernel)⟩
theorem lw_p5 : lw_okq (⟨"ProtocolDesk$Roll", "paperOf", "(I)I"⟩, 9) := ⟨⟨by decide +kernel, by decide +kernel⟩, List.mem_of_getElem? (i := 29) (by decide +kernel), List.mem_of_getElem? (i := 413) (by decide +kernel), List.mem_of_getElem? (i := 414) (by decide +kernel)⟩
theorem lw_p6 : lw_okq (⟨"ProtocolDesk$Tape", "readHead", "(LProtocolDesk$Rule;)V"⟩, 4) := ⟨⟨by decide +kernel, by decide +kernel⟩, List.mem_of_getElem? (i := 75) (by decide +kernel), List.mem_of_getElem? (i := 482) (by decide +kernel), List.mem_of_getElem? (i := 483) (by decide +kernel)⟩
theorem lw_p7 : lw_okq (⟨"ProtocolDesk$Tape", "readWord", "(Ljava/lang/String;)I"⟩, 4) := ⟨⟨by decide +kernel, by decide +kernel⟩, List.mem_of_getElem? (i := 75) (by decide +kernel), List.mem_of_getElem? (i := 487) (by decide +kernel), List.mem_of_getElem? (i := 488) (by decide +kernel)⟩
theorem lw_p8 : lw_okq (⟨"ProtocolDesk$Tape", "byteAt", "(I)I"⟩, 4) := ⟨⟨by decide +kernel, by decide +kernel⟩, List.mem_of_getElem? (i := 75) (by decide +kernel), List.mem_of_getElem? (i := 539) (by decide +kernel), List.mem_of_getElem? (i := 540) (by decide +kernel)⟩
theorem lw_p9 : lw_okq (⟨"ProtocolDesk$Tape", "fail", "(I)V"⟩, 4) := ⟨⟨by decide +kernel, by decide +kernel⟩, List.mem_of_getElem? (i := 75) (by decide +kernel), List.mem_of_getElem? (i := 546) (by decide +kernel), List.mem_of_getElem? (i := 547) (by decide +kernel)⟩
theorem lw_p10 : lw_okq (⟨"ProtocolDesk$Tape", "readBlank", "()V"⟩, 4) := ⟨⟨by decide +kernel, by decide +kernel⟩, List.mem_of_getElem? (i := 75) (by decide +kernel), List.mem_of_getElem? (i := 550) (by decide +kernel), List.mem_of_getElem? (i := 551) (by decide +kernel)⟩
theorem lw_p11 : lw_okq (⟨"ProtocolDesk$Tape", "hasMore", "()Z"⟩, 4) := ⟨⟨by decide +kernel, by decide +kernel⟩, List.mem_of_getElem? (i := 75) (by decide +kernel), List.mem_of_getElem? (i := 557) (by decide +kernel), List.mem_of_getElem? (i := 558) (by decide +kernel)⟩
theorem lw_p12 : lw_okq (⟨"ProtocolDesk$Tape", "readTests", "(LProtocolDesk$Rule;)V"⟩, 4) := ⟨⟨by decide +kernel, by decide +kernel⟩, List.mem_of_getElem? (i := 75) (by decide +kernel), List.mem_of_getElem? (i := 561) (by decide +kernel), List.mem_of_getElem? (i := 562) (by decide +kernel)⟩
theorem lw_p13 : lw_okq (⟨"ProtocolDesk$Tape", "readTest", "(LProtocolDesk$Rule;I)V"⟩, 4) := ⟨⟨by decide +kernel, by decide +kernel⟩, List.mem_of_getElem? (i := 75) (by decide +kernel), List.mem_of_getElem? (i := 566) (by decide +kernel), List.mem_of_getElem? (i := 567) (by decide +kernel)⟩
theorem lw_p14 : lw_okq (⟨"ProtocolDesk$Tape", "readNumber", "()I"⟩, 4) := ⟨⟨by decide +kernel, by decide +kernel⟩, List.mem_of_getElem? (i := 75) (by decide +kernel), List.mem_of_getElem? (i := 575) (by decide +kernel), List.mem_of_getElem? (i := 576) (by decide +kernel)⟩
theorem lw_p15 : lw_okq (⟨"ProtocolDesk", "areTwo", "(II)Z"⟩, 7) := ⟨⟨by decide +kernel, by decide +kernel⟩, List.mem_of_getElem? (i := 21) (by decide +kernel), List.mem_of_getElem? (i := 601) (by decide +kernel), List.mem_of_getElem? (i := 602) (by decide +kernel)⟩
def lw_privs_1 : List (MethodName × Nat) := [(⟨"ProtocolDesk$Roll", "isOfKind", "(II)Z"⟩, 9), (⟨"ProtocolDesk$Roll", "setHome", "(II)V"⟩, 9), (⟨"ProtocolDesk$Roll", "refreshFields", "(I)V"⟩, 9), (⟨"ProtocolDesk$Roll", "rankOf", "(I)I"⟩, 9), (⟨"ProtocolDesk$Roll", "ownRankOf", "(I)I"⟩, 9), (⟨"ProtocolDesk$Roll", "paperOf", "(I)I"⟩, 9), (⟨"ProtocolDesk$Tape", "readHead", "(LProtocolDesk$Rule;)V"⟩, 4), (⟨"ProtocolDesk$Tape", "readWord", "(Ljava/lang/String;)I"⟩, 4), (⟨"ProtocolDesk$Tape", "byteAt", "(I)I"⟩, 4), (⟨"ProtocolDesk$Tape", "fail", "(I)V"⟩, 4), (⟨"ProtocolDesk$Tape", "readBlank", "()V"⟩, 4), (⟨"ProtocolDesk$Tape", "hasMore", "()Z"⟩, 4), (⟨"ProtocolDesk$Tape", "readTests", "(LProtocolDesk$Rule;)V"⟩, 4), (⟨"ProtocolDesk$Tape", "readTest", "(LProtocolDesk$Rule;I)V"⟩, 4), (⟨"ProtocolDesk$Tape", "readNumber", "()I"⟩, 4), (⟨"ProtocolDesk", "areTwo", "(II)Z"⟩, 7)]
theorem lw_r1 : ∀ q ∈ lw_privs_1, lw_okq q := List.forall_mem_cons.mpr ⟨lw_p0, List.forall_mem_cons.mpr ⟨lw_p1, List.forall_mem_cons.mpr ⟨lw_p2, List.forall_mem_cons.mpr ⟨lw_p3, List.forall_mem_cons.mpr ⟨lw_p4, List.forall_mem_cons.mpr ⟨lw_p5, List.forall_mem_cons.mpr ⟨lw_p6, List.forall_mem_cons.mpr ⟨lw_p7, List.forall_mem_cons.mpr ⟨lw_p8, List.forall_mem_cons.mpr ⟨lw_p9, List.forall_mem_cons.mpr ⟨lw_p10, List.forall_mem_cons.mpr ⟨lw_p11, List.forall_mem_cons.mpr ⟨lw_p12, List.forall_mem_cons.mpr ⟨lw_p13, List.forall_mem_cons.mpr ⟨lw_p14, List.forall_mem_cons.mpr ⟨lw_p15, fun _ h => absurd h List.not_mem_nil⟩⟩⟩⟩⟩⟩⟩⟩⟩⟩⟩⟩⟩⟩⟩⟩
theorem lw_p16 : lw_okq (⟨"ProtocolDesk$Rule", "isFor", "(II)Z"⟩, 12) := ⟨⟨by decide +kernel, by decide +kernel⟩, List.mem_of_getElem? (i := 102) (by decide +kernel), List.mem_of_getElem? (i := 609) (by decide +kernel), List.mem_of_getElem? (i := 610) (by decide +kernel)⟩
theorem lw_p17 : lw_okq (⟨"ProtocolDesk$Rule", "holds", "(LProtocolDesk$Roll;II)Z"⟩, 12) := ⟨⟨by decide +kernel, by decide +kernel⟩, List.mem_of_getElem? (i := 102) (by decide +kernel), List.mem_of_getElem? (i := 613) (by decide +kernel), List.mem_of_getElem? (i := 614) (by decide +kernel)⟩
theorem lw_p18 : lw_okq (⟨"ProtocolDesk$Rule", "isAsTold", "(II)Z"⟩, 12) := ⟨⟨by decide +kernel, by decide +kernel⟩, List.mem_of_getElem? (i := 102) (by decide +kernel), List.mem_of_getElem? (i := 617) (by decide +kernel), List.mem_of_getElem? (i := 618) (by decide +kernel)⟩
theorem lw_p19 : lw_okq (⟨"ProtocolDesk$Procession", "takeNext", "()V"⟩, 10) := ⟨⟨by decide +kernel, by decide +kernel⟩, List.mem_of_getElem? (i := 181) (by decide +kernel), List.mem_of_getElem? (i := 673) (by decide +kernel), List.mem_of_getElem? (i := 674) (by decide +kernel)⟩
theorem lw_p20 : lw_okq (⟨"ProtocolDesk$Procession", "leastUnled", "()I"⟩, 10) := ⟨⟨by decide +kernel, by decide +kernel⟩, List.mem_of_getElem? (i := 181) (by decide +kernel), List.mem_of_getElem? (i := 677) (by decide +kernel), List.mem_of_getElem? (i := 678) (by decide +kernel)⟩
theorem lw_p21 : lw_okq (⟨"ProtocolDesk$Procession", "leastAheadOf", "(I)I"⟩, 10) := ⟨⟨by decide +kernel, by decide +kernel⟩, List.mem_of_getElem? (i := 181) (by decide +kernel), List.mem_of_getElem? (i := 681) (by decide +kernel), List.mem_of_getElem? (i := 682) (by decide +kernel)⟩
theorem lw_p22 : lw_okq (⟨"ProtocolDesk$Procession", "leastLeft", "()I"⟩, 10) := ⟨⟨by decide +kernel, by decide +kernel⟩, List.mem_of_getElem? (i := 181) (by decide +kernel), List.mem_of_getElem? (i := 685) (by decide +kernel), List.mem_of_getElem? (i := 686) (by decide +kernel)⟩
theorem lw_p23 : lw_okq (⟨"ProtocolDesk$Procession", "tellRing", "(I)V"⟩, 10) := ⟨⟨by decide +kernel, by decide +kernel⟩, List.mem_of_getElem? (i := 181) (by decide +kernel), List.mem_of_getElem? (i := 689) (by decide +kernel), List.mem_of_getElem? (i := 690) (by decide +kernel)⟩
theorem lw_p24 : lw_okq (⟨"ProtocolDesk$Roll", "canBeDean", "(I)Z"⟩, 9) := ⟨⟨by decide +kernel, by decide +kernel⟩, List.mem_of_getElem? (i := 29) (by decide +kernel), List.mem_of_getElem? (i := 708) (by decide +kernel), List.mem_of_getElem? (i := 709) (by decide +kernel)⟩
theorem lw_p25 : lw_okq (⟨"ProtocolDesk$Roll", "isElder", "(II)Z"⟩, 9) := ⟨⟨by decide +kernel, by decide +kernel⟩, List.mem_of_getElem? (i := 29) (by decide +kernel), List.mem_of_getElem? (i := 712) (by decide +kernel), List.mem_of_getElem? (i := 713) (by decide +kernel)⟩
theorem lw_p26 : lw_okq (⟨"ProtocolDesk$Hall", "talkCost", "(II)I"⟩, 6) := ⟨⟨by decide +kernel, by decide +kernel⟩, List.mem_of_getElem? (i := 225) (by decide +kernel), List.mem_of_getElem? (i := 795) (by decide +kernel), List.mem_of_getElem? (i := 796) (by decide +kernel)⟩
theorem lw_p27 : lw_okq (⟨"ProtocolDesk$Hall", "tongueOf", "(I)I"⟩, 6) := ⟨⟨by decide +kernel, by decide +kernel⟩, List.mem_of_getElem? (i := 225) (by decide +kernel), List.mem_of_getElem? (i := 799) (by decide +kernel), List.mem_of_getElem? (i := 800) (by decide +kernel)⟩
theorem lw_p28 : lw_okq (⟨"ProtocolDesk$Hall", "areFeuding", "(II)Z"⟩, 6) := ⟨⟨by decide +kernel, by decide +kernel⟩, List.mem_of_getElem? (i := 225) (by decide +kernel), List.mem_of_getElem? (i := 819) (by decide +kernel), List.mem_of_getElem? (i := 820) (by decide +kernel)⟩
theorem lw_p29 : lw_okq (⟨"ProtocolDesk$Hall", "homeOf", "(I)I"⟩, 6) := ⟨⟨by decide +kernel, by decide +kernel⟩, List.mem_of_getElem? (i := 225) (by decide +kernel), List.mem_of_getElem? (i := 823) (by decide +kernel), List.mem_of_getElem? (i := 824) (by decide +kernel)⟩
theorem lw_p30 : lw_okq (⟨"ProtocolDesk$Seating", "gatherGuests", "(I)V"⟩, 7) := ⟨⟨by decide +kernel, by decide +kernel⟩, List.mem_of_getElem? (i := 275) (by decide +kernel), List.mem_of_getElem? (i := 849) (by decide +kernel), List.mem_of_getElem? (i := 850) (by decide +kernel)⟩
theorem lw_p31 : lw_okq (⟨"ProtocolDesk$Seating", "fillFrom", "(LProtocolDesk$Table;II)V"⟩, 7) := ⟨⟨by decide +kernel, by decide +kernel⟩, List.mem_of_getElem? (i := 275) (by decide +kernel), List.mem_of_getElem? (i := 857) (by decide +kernel), List.mem_of_getElem? (i := 858) (by decide +kernel)⟩
def lw_privs_2 : List (MethodName × Nat) := [(⟨"ProtocolDesk$Rule", "isFor", "(II)Z"⟩, 12), (⟨"ProtocolDesk$Rule", "holds", "(LProtocolDesk$Roll;II)Z"⟩, 12), (⟨"ProtocolDesk$Rule", "isAsTold", "(II)Z"⟩, 12), (⟨"ProtocolDesk$Procession", "takeNext", "()V"⟩, 10), (⟨"ProtocolDesk$Procession", "leastUnled", "()I"⟩, 10), (⟨"ProtocolDesk$Procession", "leastAheadOf", "(I)I"⟩, 10), (⟨"ProtocolDesk$Procession", "leastLeft", "()I"⟩, 10), (⟨"ProtocolDesk$Procession", "tellRing", "(I)V"⟩, 10), (⟨"ProtocolDesk$Roll", "canBeDean", "(I)Z"⟩, 9), (⟨"ProtocolDesk$Roll", "isElder", "(II)Z"⟩, 9), (⟨"ProtocolDesk$Hall", "talkCost", "(II)I"⟩, 6), (⟨"ProtocolDesk$Hall", "tongueOf", "(I)I"⟩, 6), (⟨"ProtocolDesk$Hall", "areFeuding", "(II)Z"⟩, 6), (⟨"ProtocolDesk$Hall", "homeOf", "(I)I"⟩, 6), (⟨"ProtocolDesk$Seating", "gatherGuests", "(I)V"⟩, 7), (⟨"ProtocolDesk$Seating", "fillFrom", "(LProtocolDesk$Table;II)V"⟩, 7)]
theorem lw_r2 : ∀ q ∈ lw_privs_2, lw_okq q := List.forall_mem_cons.mpr ⟨lw_p16, List.forall_mem_cons.mpr ⟨lw_p17, List.forall_mem_cons.mpr ⟨lw_p18, List.forall_mem_cons.mpr ⟨lw_p19, List.forall_mem_cons.mpr ⟨lw_p20, List.forall_mem_cons.mpr ⟨lw_p21, List.forall_mem_cons.mpr ⟨lw_p22, List.forall_mem_cons.mpr ⟨lw_p23, List.forall_mem_cons.mpr ⟨lw_p24, List.forall_mem_cons.mpr ⟨lw_p25, List.forall_mem_cons.mpr ⟨lw_p26, List.forall_mem_cons.mpr ⟨lw_p27, List.forall_mem_cons.mpr ⟨lw_p28, List.forall_mem_cons.mpr ⟨lw_p29, List.forall_mem_cons.mpr ⟨lw_p30, List.forall_mem_cons.mpr ⟨lw_p31, fun _ h => absurd h List.not_mem_nil⟩⟩⟩⟩⟩⟩⟩⟩⟩⟩⟩⟩⟩⟩⟩⟩
theorem lw_p32 : lw_okq (⟨"ProtocolDesk$Calls", "isBetween", "(III)Z"⟩, 5) := ⟨⟨by decide +kernel, by decide +kernel⟩, List.mem_of_getElem? (i := 303) (by decide +kernel), List.mem_of_getElem? (i := 886) (by decide +kernel), List.mem_of_getElem? (i := 887) (by decide +kernel)⟩
theorem lw_p33 : lw_okq (⟨"ProtocolDesk$Calls", "remove", "(I)V"⟩, 5) := ⟨⟨by decide +kernel, by decide +kernel⟩, List.mem_of_getElem? (i := 303) (by decide +kernel), List.mem_of_getElem? (i := 890) (by decide +kernel), List.mem_of_getElem? (i := 891) (by decide +kernel)⟩
theorem lw_p34 : lw_okq (⟨"ProtocolDeskModel", "isState", "(I)Z"⟩, 53) := ⟨⟨by decide +kernel, by decide +kernel⟩, List.mem_of_getElem? (i := 927) (by decide +kernel), List.mem_of_getElem? (i := 1107) (by decide +kernel), List.mem_of_getElem? (i := 1108) (by decide +kernel)⟩
theorem lw_p35 : lw_okq (⟨"ProtocolDeskModel", "isPerson", "(I)Z"⟩, 53) := ⟨⟨by decide +kernel, by decide +kernel⟩, List.mem_of_getElem? (i := 927) (by decide +kernel), List.mem_of_getElem? (i := 1111) (by decide +kernel), List.mem_of_getElem? (i := 1112) (by decide +kernel)⟩
theorem lw_p36 : lw_okq (⟨"ProtocolDeskModel", "field", "(II)I"⟩, 53) := ⟨⟨by decide +kernel, by decide +kernel⟩, List.mem_of_getElem? (i := 927) (by decide +kernel), List.mem_of_getElem? (i := 1136) (by decide +kernel), List.mem_of_getElem? (i := 1137) (by decide +kernel)⟩
theorem lw_p37 : lw_okq (⟨"ProtocolDeskModel", "plainRank", "(I)I"⟩, 53) := ⟨⟨by decide +kernel, by decide +kernel⟩, List.mem_of_getElem? (i := 927) (by decide +kernel), List.mem_of_getElem? (i := 1140) (by decide +kernel), List.mem_of_getElem? (i := 1141) (by decide +kernel)⟩
theorem lw_p38 : lw_okq (⟨"ProtocolDeskModel", "read", "(I)V"⟩, 53) := ⟨⟨by decide +kernel, by decide +kernel⟩, List.mem_of_getElem? (i := 927) (by decide +kernel), List.mem_of_getElem? (i := 1161) (by decide +kernel), List.mem_of_getElem? (i := 1162) (by decide +kernel)⟩
theorem lw_p39 : lw_okq (⟨"ProtocolDeskModel", "expect", "(II)V"⟩, 53) := ⟨⟨by decide +kernel, by decide +kernel⟩, List.mem_of_getElem? (i := 927) (by decide +kernel), List.mem_of_getElem? (i := 1166) (by decide +kernel), List.mem_of_getElem? (i := 1167) (by decide +kernel)⟩
theorem lw_p40 : lw_okq (⟨"ProtocolDeskModel", "letter", "()I"⟩, 53) := ⟨⟨by decide +kernel, by decide +kernel⟩, List.mem_of_getElem? (i := 927) (by decide +kernel), List.mem_of_getElem? (i := 1170) (by decide +kernel), List.mem_of_getElem? (i := 1171) (by decide +kernel)⟩
theorem lw_p41 : lw_okq (⟨"ProtocolDeskModel", "word", "(I)I"⟩, 53) := ⟨⟨by decide +kernel, by decide +kernel⟩, List.mem_of_getElem? (i := 927) (by decide +kernel), List.mem_of_getElem? (i := 1177) (by decide +kernel), List.mem_of_getElem? (i := 1178) (by decide +kernel)⟩
theorem lw_p42 : lw_okq (⟨"ProtocolDeskModel", "readTests", "(I)V"⟩, 53) := ⟨⟨by decide +kernel, by decide +kernel⟩, List.mem_of_getElem? (i := 927) (by decide +kernel), List.mem_of_getElem? (i := 1182) (by decide +kernel), List.mem_of_getElem? (i := 1183) (by decide +kernel)⟩
theorem lw_p43 : lw_okq (⟨"ProtocolDeskModel", "readTest", "(I)V"⟩, 53) := ⟨⟨by decide +kernel, by decide +kernel⟩, List.mem_of_getElem? (i := 927) (by decide +kernel), List.mem_of_getElem? (i := 1187) (by decide +kernel), List.mem_of_getElem? (i := 1188) (by decide +kernel)⟩
theorem lw_p44 : lw_okq (⟨"ProtocolDeskModel", "oneOf", "(II)I"⟩, 53) := ⟨⟨by decide +kernel, by decide +kernel⟩, List.mem_of_getElem? (i := 927) (by decide +kernel), List.mem_of_getElem? (i := 1192) (by decide +kernel), List.mem_of_getElem? (i := 1193) (by decide +kernel)⟩
theorem lw_p45 : lw_okq (⟨"ProtocolDeskModel", "isAsked", "(IIII)Z"⟩, 53) := ⟨⟨by decide +kernel, by decide +kernel⟩, List.mem_of_getElem? (i := 927) (by decide +kernel), List.mem_of_getElem? (i := 1207) (by decide +kernel), List.mem_of_getElem? (i := 1208) (by decide +kernel)⟩
theorem lw_p46 : lw_okq (⟨"ProtocolDeskModel", "decided", "(IIIII)I"⟩, 53) := ⟨⟨by decide +kernel, by decide +kernel⟩, List.mem_of_getElem? (i := 927) (by decide +kernel), List.mem_of_getElem? (i := 1211) (by decide +kernel), List.mem_of_getElem? (i := 1212) (by decide +kernel)⟩
theorem lw_p47 : lw_okq (⟨"ProtocolDeskModel", "areTested", "(III)Z"⟩, 53) := ⟨⟨by decide +kernel, by decide +kernel⟩, List.mem_of_getElem? (i := 927) (by decide +kernel), List.mem_of_getElem? (i := 1215) (by decide +kernel), List.mem_of_getElem? (i := 1216) (by decide +kernel)⟩
def lw_privs_3 : List (MethodName × Nat) := [(⟨"ProtocolDesk$Calls", "isBetween", "(III)Z"⟩, 5), (⟨"ProtocolDesk$Calls", "remove", "(I)V"⟩, 5), (⟨"ProtocolDeskModel", "isState", "(I)Z"⟩, 53), (⟨"ProtocolDeskModel", "isPerson", "(I)Z"⟩, 53), (⟨"ProtocolDeskModel", "field", "(II)I"⟩, 53), (⟨"ProtocolDeskModel", "plainRank", "(I)I"⟩, 53), (⟨"ProtocolDeskModel", "read", "(I)V"⟩, 53), (⟨"ProtocolDeskModel", "expect", "(II)V"⟩, 53), (⟨"ProtocolDeskModel", "letter", "()I"⟩, 53), (⟨"ProtocolDeskModel", "word", "(I)I"⟩, 53), (⟨"ProtocolDeskModel", "readTests", "(I)V"⟩, 53), (⟨"ProtocolDeskModel", "readTest", "(I)V"⟩, 53), (⟨"ProtocolDeskModel", "oneOf", "(II)I"⟩, 53), (⟨"ProtocolDeskModel", "isAsked", "(IIII)Z"⟩, 53), (⟨"ProtocolDeskModel", "decided", "(IIIII)I"⟩, 53), (⟨"ProtocolDeskModel", "areTested", "(III)Z"⟩, 53)]
theorem lw_r3 : ∀ q ∈ lw_privs_3, lw_okq q := List.forall_mem_cons.mpr ⟨lw_p32, List.forall_mem_cons.mpr ⟨lw_p33, List.forall_mem_cons.mpr ⟨lw_p34, List.forall_mem_cons.mpr ⟨lw_p35, List.forall_mem_cons.mpr ⟨lw_p36, List.forall_mem_cons.mpr ⟨lw_p37, List.forall_mem_cons.mpr ⟨lw_p38, List.forall_mem_cons.mpr ⟨lw_p39, List.forall_mem_cons.mpr ⟨lw_p40, List.forall_mem_cons.mpr ⟨lw_p41, List.forall_mem_cons.mpr ⟨lw_p42, List.forall_mem_cons.mpr ⟨lw_p43, List.forall_mem_cons.mpr ⟨lw_p44, List.forall_mem_cons.mpr ⟨lw_p45, List.forall_mem_cons.mpr ⟨lw_p46, List.forall_mem_cons.mpr ⟨lw_p47, fun _ h => absurd h List.not_mem_nil⟩⟩⟩⟩⟩⟩⟩⟩⟩⟩⟩⟩⟩⟩⟩⟩
theorem lw_p48 : lw_okq (⟨"ProtocolDeskModel", "holds", "(III)Z"⟩, 53) := ⟨⟨by decide +kernel, by decide +kernel⟩, List.mem_of_getElem? (i := 927) (by decide +kernel), List.mem_of_getElem? (i := 1219) (by decide +kernel), List.mem_of_getElem? (i := 1220) (by decide +kernel)⟩
theorem lw_p49 : lw_okq (⟨"ProtocolDeskModel", "first", "(IIII)I"⟩, 53) := ⟨⟨by decide +kernel, by decide +kernel⟩, List.mem_of_getElem? (i := 927) (by decide +kernel), List.mem_of_getElem? (i := 1231) (by decide +kernel), List.mem_of_getElem? (i := 1232) (by decide +kernel)⟩
theorem lw_p50 : lw_okq (⟨"ProtocolDeskModel", "handOf", "(II)I"⟩, 53) := ⟨⟨by decide +kernel, by decide +kernel⟩, List.mem_of_getElem? (i := 927) (by decide +kernel), List.mem_of_getElem? (i := 1235) (by decide +kernel), List.mem_of_getElem? (i := 1236) (by decide +kernel)⟩
theorem lw_p51 : lw_okq (⟨"ProtocolDeskModel", "goes", "(IIII)I"⟩, 53) := ⟨⟨by decide +kernel, by decide +kernel⟩, List.mem_of_getElem? (i := 927) (by decide +kernel), List.mem_of_getElem? (i := 1239) (by decide +kernel), List.mem_of_getElem? (i := 1240) (by decide +kernel)⟩
theorem lw_p52 : lw_okq (⟨"ProtocolDeskModel", "findOrder", "(II)V"⟩, 53) := ⟨⟨by decide +kernel, by decide +kernel⟩, List.mem_of_getElem? (i := 927) (by decide +kernel), List.mem_of_getElem? (i := 1258) (by decide +kernel), List.mem_of_getElem? (i := 1259) (by decide +kernel)⟩
theorem lw_p53 : lw_okq (⟨"ProtocolDeskModel", "leastAhead", "(III)I"⟩, 53) := ⟨⟨by decide +kernel, by decide +kernel⟩, List.mem_of_getElem? (i := 927) (by decide +kernel), List.mem_of_getElem? (i := 1262) (by decide +kernel), List.mem_of_getElem? (i := 1263) (by decide +kernel)⟩
theorem lw_p54 : lw_okq (⟨"ProtocolDeskModel", "findRing", "(III)V"⟩, 53) := ⟨⟨by decide +kernel, by decide +kernel⟩, List.mem_of_getElem? (i := 927) (by decide +kernel), List.mem_of_getElem? (i := 1266) (by decide +kernel), List.mem_of_getElem? (i := 1267) (by decide +kernel)⟩
theorem lw_p55 : lw_okq (⟨"ProtocolDeskModel", "isTable", "(I)Z"⟩, 53) := ⟨⟨by decide +kernel, by decide +kernel⟩, List.mem_of_getElem? (i := 927) (by decide +kernel), List.mem_of_getElem? (i := 1296) (by decide +kernel), List.mem_of_getElem? (i := 1297) (by decide +kernel)⟩
theorem lw_p56 : lw_okq (⟨"ProtocolDeskModel", "take", "(I)V"⟩, 53) := ⟨⟨by decide +kernel, by decide +kernel⟩, List.mem_of_getElem? (i := 927) (by decide +kernel), List.mem_of_getElem? (i := 1304) (by decide +kernel), List.mem_of_getElem? (i := 1305) (by decide +kernel)⟩
theorem lw_p57 : lw_okq (⟨"ProtocolDeskModel", "priceOf", "(I)I"⟩, 53) := ⟨⟨by decide +kernel, by decide +kernel⟩, List.mem_of_getElem? (i := 927) (by decide +kernel), List.mem_of_getElem? (i := 1308) (by decide +kernel), List.mem_of_getElem? (i := 1309) (by decide +kernel)⟩
theorem lw_p58 : lw_okq (⟨"ProtocolDeskModel", "areBeside", "(II)Z"⟩, 53) := ⟨⟨by decide +kernel, by decide +kernel⟩, List.mem_of_getElem? (i := 927) (by decide +kernel), List.mem_of_getElem? (i := 1315) (by decide +kernel), List.mem_of_getElem? (i := 1316) (by decide +kernel)⟩
theorem lw_p59 : lw_okq (⟨"ProtocolDeskModel", "isKept", "(I)Z"⟩, 53) := ⟨⟨by decide +kernel, by decide +kernel⟩, List.mem_of_getElem? (i := 927) (by decide +kernel), List.mem_of_getElem? (i := 1323) (by decide +kernel), List.mem_of_getElem? (i := 1324) (by decide +kernel)⟩
theorem lw_p60 : lw_okq (⟨"ProtocolDeskModel", "areFeuding", "(II)Z"⟩, 53) := ⟨⟨by decide +kernel, by decide +kernel⟩, List.mem_of_getElem? (i := 927) (by decide +kernel), List.mem_of_getElem? (i := 1327) (by decide +kernel), List.mem_of_getElem? (i := 1328) (by decide +kernel)⟩
theorem lw_p61 : lw_okq (⟨"ProtocolDeskModel", "begin", "(I)I"⟩, 53) := ⟨⟨by decide +kernel, by decide +kernel⟩, List.mem_of_getElem? (i := 927) (by decide +kernel), List.mem_of_getElem? (i := 1338) (by decide +kernel), List.mem_of_getElem? (i := 1339) (by decide +kernel)⟩
theorem lw_p62 : lw_okq (⟨"ProtocolDeskModel", "isNext", "(I)Z"⟩, 53) := ⟨⟨by decide +kernel, by decide +kernel⟩, List.mem_of_getElem? (i := 927) (by decide +kernel), List.mem_of_getElem? (i := 1342) (by decide +kernel), List.mem_of_getElem? (i := 1343) (by decide +kernel)⟩
theorem lw_p63 : lw_okq (⟨"ProtocolDeskModel", "oldest", "(II)I"⟩, 53) := ⟨⟨by decide +kernel, by decide +kernel⟩, List.mem_of_getElem? (i := 927) (by decide +kernel), List.mem_of_getElem? (i := 1358) (by decide +kernel), List.mem_of_getElem? (i := 1359) (by decide +kernel)⟩
def lw_privs_4 : List (MethodName × Nat) := [(⟨"ProtocolDeskModel", "holds", "(III)Z"⟩, 53), (⟨"ProtocolDeskModel", "first", "(IIII)I"⟩, 53), (⟨"ProtocolDeskModel", "handOf", "(II)I"⟩, 53), (⟨"ProtocolDeskModel", "goes", "(IIII)I"⟩, 53), (⟨"ProtocolDeskModel", "findOrder", "(II)V"⟩, 53), (⟨"ProtocolDeskModel", "leastAhead", "(III)I"⟩, 53), (⟨"ProtocolDeskModel", "findRing", "(III)V"⟩, 53), (⟨"ProtocolDeskModel", "isTable", "(I)Z"⟩, 53), (⟨"ProtocolDeskModel", "take", "(I)V"⟩, 53), (⟨"ProtocolDeskModel", "priceOf", "(I)I"⟩, 53), (⟨"ProtocolDeskModel", "areBeside", "(II)Z"⟩, 53), (⟨"ProtocolDeskModel", "isKept", "(I)Z"⟩, 53), (⟨"ProtocolDeskModel", "areFeuding", "(II)Z"⟩, 53), (⟨"ProtocolDeskModel", "begin", "(I)I"⟩, 53), (⟨"ProtocolDeskModel", "isNext", "(I)Z"⟩, 53), (⟨"ProtocolDeskModel", "oldest", "(II)I"⟩, 53)]
theorem lw_r4 : ∀ q ∈ lw_privs_4, lw_okq q := List.forall_mem_cons.mpr ⟨lw_p48, List.forall_mem_cons.mpr ⟨lw_p49, List.forall_mem_cons.mpr ⟨lw_p50, List.forall_mem_cons.mpr ⟨lw_p51, List.forall_mem_cons.mpr ⟨lw_p52, List.forall_mem_cons.mpr ⟨lw_p53, List.forall_mem_cons.mpr ⟨lw_p54, List.forall_mem_cons.mpr ⟨lw_p55, List.forall_mem_cons.mpr ⟨lw_p56, List.forall_mem_cons.mpr ⟨lw_p57, List.forall_mem_cons.mpr ⟨lw_p58, List.forall_mem_cons.mpr ⟨lw_p59, List.forall_mem_cons.mpr ⟨lw_p60, List.forall_mem_cons.mpr ⟨lw_p61, List.forall_mem_cons.mpr ⟨lw_p62, List.forall_mem_cons.mpr ⟨lw_p63, fun _ h => absurd h List.not_mem_nil⟩⟩⟩⟩⟩⟩⟩⟩⟩⟩⟩⟩⟩⟩⟩⟩
theorem lw_p64 : lw_okq (⟨"ProtocolDeskModel", "forget", "(I)V"⟩, 53) := ⟨⟨by decide +kernel, by decide +kernel⟩, List.mem_of_getElem? (i := 927) (by decide +kernel), List.mem_of_getElem? (i := 1362) (by decide +kernel), List.mem_of_getElem? (i := 1363) (by decide +kernel)⟩
def lw_privs_5 : List (MethodName × Nat) := [(⟨"ProtocolDeskModel", "forget", "(I)V"⟩, 53)]
theorem lw_r5 : ∀ q ∈ lw_privs_5, lw_okq q := List.forall_mem_cons.mpr ⟨lw_p64, fun _ h => absurd h List.not_mem_nil⟩
def lw_privs : List (MethodName × Nat) := lw_privs_1 ++ (lw_privs_2 ++ (lw_privs_3 ++ (lw_privs_4 ++ (lw_privs_5))))
def lw_tbl : List Cond := k2_sels lw_privs ++ tables_1
theorem lw_privs_ok : ∀ q ∈ lw_privs, lw_okq q := by
  show ∀ q ∈ lw_privs_1 ++ (lw_privs_2 ++ (lw_privs_3 ++ (lw_privs_4 ++ (lw_privs_5)))), lw_okq q
  exact List.forall_mem_append.mpr ⟨lw_r1, List.forall_mem_append.mpr ⟨lw_r2, List.forall_mem_append.mpr ⟨lw_r3, List.forall_mem_append.mpr ⟨lw_r4, lw_r5⟩⟩⟩⟩
end
section
def RX0 : String := "ProtocolDesk$Calls"
def TX0 : u_T := fun k => match k with
  | 0 => ("ProtocolDesk$Calls", "size", "I", false)
  | 1 => ("ProtocolDesk$Calls", "daysAllowed", "I", false)
  | 2 => ("ProtocolDesk$Calls", "creditors", "[I", true)
  | 3 => ("ProtocolDesk$Calls", "debtors", "[I", true)
  | _ => ("ProtocolDesk$Calls", "days", "[I", true)
def tyX0 : Nat → FieldType := fun k => match k with
  | 0 => .int
  | 1 => .int
  | 2 => .array .int
  | 3 => .array .int
  | _ => .array .int
abbrev wsX00 : List Cond := u_ws RX0 TX0 5
theorem nmX0 : ∀ a, a < 5 → ∀ b, b < 5 → a ≠ b → (TX0 a).2.1 ≠ (TX0 b).2.1 := by decide +kernel
theorem tyX0_ok : ∀ k, k < 5 → parseFieldDescriptor (TX0 k).2.2.1 = some (tyX0 k) := by decide +kernel
abbrev cX0_init : ByteArray := prog_2_method_1_code
def yX0_init : MethodName := ⟨RX0, "<init>", "()V"⟩
abbrev cX0_add : ByteArray := prog_2_method_2_code
def yX0_add : MethodName := ⟨RX0, "add", "(III)V"⟩
abbrev cX0_settleOldest : ByteArray := prog_2_method_3_code
def yX0_settleOldest : MethodName := ⟨RX0, "settleOldest", "(II)Z"⟩
abbrev cX0_settleAll : ByteArray := prog_2_method_4_code
def yX0_settleAll : MethodName := ⟨RX0, "settleAll", "(II)I"⟩
abbrev cX0_find : ByteArray := prog_2_method_5_code
def yX0_find : MethodName := ⟨RX0, "find", "(II)I"⟩
abbrev cX0_isLate : ByteArray := prog_2_method_6_code
def yX0_isLate : MethodName := ⟨RX0, "isLate", "(II)Z"⟩
abbrev cX0_isBetween : ByteArray := prog_2_method_7_code
def yX0_isBetween : MethodName := ⟨RX0, "isBetween", "(III)Z"⟩
abbrev cX0_remove : ByteArray := prog_2_method_8_code
def yX0_remove : MethodName := ⟨RX0, "remove", "(I)V"⟩
def RX1 : String := "ProtocolDesk$Hall"
def TX1 : u_T := fun k => match k with
  | 0 => ("ProtocolDesk$Hall", "size", "I", false)
  | 1 => ("ProtocolDesk$Hall", "tables", "[LProtocolDesk$Table;", true)
  | 2 => ("ProtocolDesk$Hall", "feuds", "[[I", true)
  | 3 => ("ProtocolDesk$Hall", "costs", "[[I", true)
  | 4 => ("ProtocolDesk$Hall", "placeOf", "[I", true)
  | _ => ("ProtocolDesk$Hall", "roll", "LProtocolDesk$Roll;", true)
def tyX1 : Nat → FieldType := fun k => match k with
  | 0 => .int
  | 1 => .array (.object "ProtocolDesk$Table")
  | 2 => .array (.array .int)
  | 3 => .array (.array .int)
  | 4 => .array .int
  | _ => .object "ProtocolDesk$Roll"
abbrev wsX10 : List Cond := u_ws RX1 TX1 6
theorem nmX1 : ∀ a, a < 6 → ∀ b, b < 6 → a ≠ b → (TX1 a).2.1 ≠ (TX1 b).2.1 := by decide +kernel
theorem tyX1_ok : ∀ k, k < 6 → parseFieldDescriptor (TX1 k).2.2.1 = some (tyX1 k) := by decide +kernel
abbrev cX1_init : ByteArray := prog_3_method_1_code
def yX1_init : MethodName := ⟨RX1, "<init>", "(LProtocolDesk$Roll;)V"⟩
abbrev cX1_hasTable : ByteArray := prog_3_method_2_code
def yX1_hasTable : MethodName := ⟨RX1, "hasTable", "(I)Z"⟩
abbrev cX1_hasSeat : ByteArray := prog_3_method_3_code
def yX1_hasSeat : MethodName := ⟨RX1, "hasSeat", "(II)Z"⟩
abbrev cX1_addTable : ByteArray := prog_3_method_4_code
def yX1_addTable : MethodName := ⟨RX1, "addTable", "(ZI)I"⟩
abbrev cX1_setFeud : ByteArray := prog_3_method_5_code
def yX1_setFeud : MethodName := ⟨RX1, "setFeud", "(III)I"⟩
abbrev cX1_setCost : ByteArray := prog_3_method_6_code
def yX1_setCost : MethodName := ⟨RX1, "setCost", "(III)I"⟩
abbrev cX1_emptySeatsOf : ByteArray := prog_3_method_7_code
def yX1_emptySeatsOf : MethodName := ⟨RX1, "emptySeatsOf", "(I)V"⟩
abbrev cX1_numberPlaces : ByteArray := prog_3_method_8_code
def yX1_numberPlaces : MethodName := ⟨RX1, "numberPlaces", "(LProtocolDesk$Procession;I)V"⟩
abbrev cX1_priceOf : ByteArray := prog_3_method_9_code
def yX1_priceOf : MethodName := ⟨RX1, "priceOf", "(LProtocolDesk$Table;LProtocolDesk$Procession;)I"⟩
abbrev cX1_isPeaceful : ByteArray := prog_3_method_10_code
def yX1_isPeaceful : MethodName := ⟨RX1, "isPeaceful", "(LProtocolDesk$Table;)Z"⟩
abbrev cX1_priceAt : ByteArray := prog_3_method_11_code
def yX1_priceAt : MethodName := ⟨RX1, "priceAt", "(LProtocolDesk$Table;[II)I"⟩
abbrev cX1_isPeacefulAt : ByteArray := prog_3_method_12_code
def yX1_isPeacefulAt : MethodName := ⟨RX1, "isPeacefulAt", "(LProtocolDesk$Table;[II)Z"⟩
abbrev cX1_sitterAt : ByteArray := prog_3_method_13_code
def yX1_sitterAt : MethodName := ⟨RX1, "sitterAt", "([II)I"⟩
abbrev cX1_talkCost : ByteArray := prog_3_method_14_code
def yX1_talkCost : MethodName := ⟨RX1, "talkCost", "(II)I"⟩
abbrev cX1_areFeuding : ByteArray := prog_3_method_15_code
def yX1_areFeuding : MethodName := ⟨RX1, "areFeuding", "(II)Z"⟩
abbrev cX1_tongueOf : ByteArray := prog_3_method_16_code
def yX1_tongueOf : MethodName := ⟨RX1, "tongueOf", "(I)I"⟩
abbrev cX1_homeOf : ByteArray := prog_3_method_17_code
def yX1_homeOf : MethodName := ⟨RX1, "homeOf", "(I)I"⟩
def RX2 : String := "ProtocolDesk$Procession"
def TX2 : u_T := fun k => match k with
  | 0 => ("ProtocolDesk$Procession", "length", "I", false)
  | 1 => ("ProtocolDesk$Procession", "ringLength", "I", false)
  | 2 => ("ProtocolDesk$Procession", "places", "[I", true)
  | 3 => ("ProtocolDesk$Procession", "firstRing", "[I", true)
  | 4 => ("ProtocolDesk$Procession", "left", "[Z", true)
  | 5 => ("ProtocolDesk$Procession", "walk", "[I", true)
  | 6 => ("ProtocolDesk$Procession", "stepOf", "[I", true)
  | 7 => ("ProtocolDesk$Procession", "leads", "[[I", true)
  | 8 => ("ProtocolDesk$Procession", "roll", "LProtocolDesk$Roll;", true)
  | _ => ("ProtocolDesk$Procession", "book", "LProtocolDesk$Rulebook;", true)
def tyX2 : Nat → FieldType := fun k => match k with
  | 0 => .int
  | 1 => .int
  | 2 => .array .int
  | 3 => .array .int
  | 4 => .array .boolean
  | 5 => .array .int
  | 6 => .array .int
  | 7 => .array (.array .int)
  | 8 => .object "ProtocolDesk$Roll"
  | _ => .object "ProtocolDesk$Rulebook"
abbrev wsX20 : List Cond := u_ws RX2 TX2 10
theorem nmX2 : ∀ a, a < 10 → ∀ b, b < 10 → a ≠ b → (TX2 a).2.1 ≠ (TX2 b).2.1 := by decide +kernel
theorem tyX2_ok : ∀ k, k < 10 → parseFieldDescriptor (TX2 k).2.2.1 = some (tyX2 k) := by decide +kernel
abbrev cX2_init : ByteArray := prog_4_method_1_code
def yX2_init : MethodName := ⟨RX2, "<init>", "(LProtocolDesk$Roll;LProtocolDesk$Rulebook;)V"⟩
abbrev cX2_form : ByteArray := prog_4_method_2_code
def yX2_form : MethodName := ⟨RX2, "form", "(II)V"⟩
abbrev cX2_takeNext : ByteArray := prog_4_method_3_code
def yX2_takeNext : MethodName := ⟨RX2, "takeNext", "()V"⟩
abbrev cX2_leastLeft : ByteArray := prog_4_method_4_code
def yX2_leastLeft : MethodName := ⟨RX2, "leastLeft", "()I"⟩
abbrev cX2_leastUnled : ByteArray := prog_4_method_5_code
def yX2_leastUnled : MethodName := ⟨RX2, "leastUnled", "()I"⟩
abbrev cX2_leastAheadOf : ByteArray := prog_4_method_6_code
def yX2_leastAheadOf : MethodName := ⟨RX2, "leastAheadOf", "(I)I"⟩
abbrev cX2_tellRing : ByteArray := prog_4_method_7_code
def yX2_tellRing : MethodName := ⟨RX2, "tellRing", "(I)V"⟩
def RX3 : String := "ProtocolDesk$Roll"
def TX3 : u_T := fun k => match k with
  | 0 => ("ProtocolDesk$Roll", "states", "I", false)
  | 1 => ("ProtocolDesk$Roll", "persons", "I", false)
  | 2 => ("ProtocolDesk$Roll", "present", "[I", true)
  | 3 => ("ProtocolDesk$Roll", "principals", "[I", true)
  | 4 => ("ProtocolDesk$Roll", "fields", "[[I", true)
  | 5 => ("ProtocolDesk$Roll", "names", "[I", true)
  | 6 => ("ProtocolDesk$Roll", "tongues", "[I", true)
  | 7 => ("ProtocolDesk$Roll", "ranks", "[I", true)
  | _ => ("ProtocolDesk$Roll", "papers", "[I", true)
def tyX3 : Nat → FieldType := fun k => match k with
  | 0 => .int
  | 1 => .int
  | 2 => .array .int
  | 3 => .array .int
  | 4 => .array (.array .int)
  | 5 => .array .int
  | 6 => .array .int
  | 7 => .array .int
  | _ => .array .int
abbrev wsX30 : List Cond := u_ws RX3 TX3 9
theorem nmX3 : ∀ a, a < 9 → ∀ b, b < 9 → a ≠ b → (TX3 a).2.1 ≠ (TX3 b).2.1 := by decide +kernel
theorem tyX3_ok : ∀ k, k < 9 → parseFieldDescriptor (TX3 k).2.2.1 = some (tyX3 k) := by decide +kernel
abbrev cX3_init : ByteArray := prog_5_method_1_code
def yX3_init : MethodName := ⟨RX3, "<init>", "()V"⟩
abbrev cX3_isTongue : ByteArray := prog_5_method_2_code
def yX3_isTongue : MethodName := ⟨RX3, "isTongue", "(I)Z"⟩
abbrev cX3_isStateAsTold : ByteArray := prog_5_method_3_code
def yX3_isStateAsTold : MethodName := ⟨RX3, "isStateAsTold", "(II)Z"⟩
abbrev cX3_isPersonAsTold : ByteArray := prog_5_method_4_code
def yX3_isPersonAsTold : MethodName := ⟨RX3, "isPersonAsTold", "(III)Z"⟩
abbrev cX3_isOfAnother : ByteArray := prog_5_method_5_code
def yX3_isOfAnother : MethodName := ⟨RX3, "isOfAnother", "(I)Z"⟩
abbrev cX3_hasState : ByteArray := prog_5_method_6_code
def yX3_hasState : MethodName := ⟨RX3, "hasState", "(I)Z"⟩
abbrev cX3_hasPerson : ByteArray := prog_5_method_7_code
def yX3_hasPerson : MethodName := ⟨RX3, "hasPerson", "(I)Z"⟩
abbrev cX3_canBeOf : ByteArray := prog_5_method_8_code
def yX3_canBeOf : MethodName := ⟨RX3, "canBeOf", "(II)Z"⟩
abbrev cX3_isSetOfPersons : ByteArray := prog_5_method_9_code
def yX3_isSetOfPersons : MethodName := ⟨RX3, "isSetOfPersons", "(I)Z"⟩
abbrev cX3_addState : ByteArray := prog_5_method_10_code
def yX3_addState : MethodName := ⟨RX3, "addState", "(II)I"⟩
abbrev cX3_addPerson : ByteArray := prog_5_method_11_code
def yX3_addPerson : MethodName := ⟨RX3, "addPerson", "(IIIII)I"⟩
abbrev cX3_handPaper : ByteArray := prog_5_method_12_code
def yX3_handPaper : MethodName := ⟨RX3, "handPaper", "(II)I"⟩
abbrev cX3_moveHome : ByteArray := prog_5_method_13_code
def yX3_moveHome : MethodName := ⟨RX3, "moveHome", "(III)V"⟩
abbrev cX3_setHome : ByteArray := prog_5_method_14_code
def yX3_setHome : MethodName := ⟨RX3, "setHome", "(II)V"⟩
abbrev cX3_refreshFields : ByteArray := prog_5_method_15_code
def yX3_refreshFields : MethodName := ⟨RX3, "refreshFields", "(I)V"⟩
abbrev cX3_isOfKind : ByteArray := prog_5_method_16_code
def yX3_isOfKind : MethodName := ⟨RX3, "isOfKind", "(II)Z"⟩
abbrev cX3_isIn : ByteArray := prog_5_method_17_code
def yX3_isIn : MethodName := ⟨RX3, "isIn", "(II)Z"⟩
abbrev cX3_areAllPresent : ByteArray := prog_5_method_18_code
def yX3_areAllPresent : MethodName := ⟨RX3, "areAllPresent", "(I)Z"⟩
abbrev cX3_countPresent : ByteArray := prog_5_method_19_code
def yX3_countPresent : MethodName := ⟨RX3, "countPresent", "()I"⟩
abbrev cX3_rankOf : ByteArray := prog_5_method_20_code
def yX3_rankOf : MethodName := ⟨RX3, "rankOf", "(I)I"⟩
abbrev cX3_ownRankOf : ByteArray := prog_5_method_21_code
def yX3_ownRankOf : MethodName := ⟨RX3, "ownRankOf", "(I)I"⟩
abbrev cX3_paperOf : ByteArray := prog_5_method_22_code
def yX3_paperOf : MethodName := ⟨RX3, "paperOf", "(I)I"⟩
abbrev cX3_eldestWithPaper : ByteArray := prog_5_method_23_code
def yX3_eldestWithPaper : MethodName := ⟨RX3, "eldestWithPaper", "()I"⟩
abbrev cX3_canBeDean : ByteArray := prog_5_method_24_code
def yX3_canBeDean : MethodName := ⟨RX3, "canBeDean", "(I)Z"⟩
abbrev cX3_isElder : ByteArray := prog_5_method_25_code
def yX3_isElder : MethodName := ⟨RX3, "isElder", "(II)Z"⟩
def RX4 : String := "ProtocolDesk$Rule"
def TX4 : u_T := fun k => match k with
  | 0 => ("ProtocolDesk$Rule", "occasion", "I", false)
  | 1 => ("ProtocolDesk$Rule", "key", "I", false)
  | 2 => ("ProtocolDesk$Rule", "down", "Z", false)
  | 3 => ("ProtocolDesk$Rule", "oneSuffices", "Z", false)
  | 4 => ("ProtocolDesk$Rule", "tests", "I", false)
  | 5 => ("ProtocolDesk$Rule", "first", "I", false)
  | 6 => ("ProtocolDesk$Rule", "end", "I", false)
  | 7 => ("ProtocolDesk$Rule", "negated", "[Z", true)
  | 8 => ("ProtocolDesk$Rule", "ofSecond", "[Z", true)
  | 9 => ("ProtocolDesk$Rule", "fields", "[I", true)
  | 10 => ("ProtocolDesk$Rule", "signs", "[I", true)
  | _ => ("ProtocolDesk$Rule", "numbers", "[I", true)
def tyX4 : Nat → FieldType := fun k => match k with
  | 0 => .int
  | 1 => .int
  | 2 => .boolean
  | 3 => .boolean
  | 4 => .int
  | 5 => .int
  | 6 => .int
  | 7 => .array .boolean
  | 8 => .array .boolean
  | 9 => .array .int
  | 10 => .array .int
  | _ => .array .int
abbrev wsX40 : List Cond := u_ws RX4 TX4 12
theorem nmX4 : ∀ a, a < 12 → ∀ b, b < 12 → a ≠ b → (TX4 a).2.1 ≠ (TX4 b).2.1 := by decide +kernel
theorem tyX4_ok : ∀ k, k < 12 → parseFieldDescriptor (TX4 k).2.2.1 = some (tyX4 k) := by decide +kernel
abbrev cX4_init : ByteArray := prog_6_method_1_code
def yX4_init : MethodName := ⟨RX4, "<init>", "()V"⟩
abbrev cX4_isFor : ByteArray := prog_6_method_2_code
def yX4_isFor : MethodName := ⟨RX4, "isFor", "(II)Z"⟩
abbrev cX4_verdict : ByteArray := prog_6_method_3_code
def yX4_verdict : MethodName := ⟨RX4, "verdict", "(LProtocolDesk$Roll;IIII)I"⟩
abbrev cX4_holds : ByteArray := prog_6_method_4_code
def yX4_holds : MethodName := ⟨RX4, "holds", "(LProtocolDesk$Roll;II)Z"⟩
abbrev cX4_isAsTold : ByteArray := prog_6_method_5_code
def yX4_isAsTold : MethodName := ⟨RX4, "isAsTold", "(II)Z"⟩
def RX5 : String := "ProtocolDesk$Rulebook"
def TX5 : u_T := fun k => match k with
  | 0 => ("ProtocolDesk$Rulebook", "size", "I", false)
  | 1 => ("ProtocolDesk$Rulebook", "hands", "I", false)
  | 2 => ("ProtocolDesk$Rulebook", "rules", "[LProtocolDesk$Rule;", true)
  | 3 => ("ProtocolDesk$Rulebook", "handFirst", "[I", true)
  | 4 => ("ProtocolDesk$Rulebook", "handSecond", "[I", true)
  | _ => ("ProtocolDesk$Rulebook", "roll", "LProtocolDesk$Roll;", true)
def tyX5 : Nat → FieldType := fun k => match k with
  | 0 => .int
  | 1 => .int
  | 2 => .array (.object "ProtocolDesk$Rule")
  | 3 => .array .int
  | 4 => .array .int
  | _ => .object "ProtocolDesk$Roll"
abbrev wsX50 : List Cond := u_ws RX5 TX5 6
theorem nmX5 : ∀ a, a < 6 → ∀ b, b < 6 → a ≠ b → (TX5 a).2.1 ≠ (TX5 b).2.1 := by decide +kernel
theorem tyX5_ok : ∀ k, k < 6 → parseFieldDescriptor (TX5 k).2.2.1 = some (tyX5 k) := by decide +kernel
abbrev cX5_init : ByteArray := prog_7_method_1_code
def yX5_init : MethodName := ⟨RX5, "<init>", "(LProtocolDesk$Roll;)V"⟩
abbrev cX5_hasRule : ByteArray := prog_7_method_2_code
def yX5_hasRule : MethodName := ⟨RX5, "hasRule", "(I)Z"⟩
abbrev cX5_addHand : ByteArray := prog_7_method_3_code
def yX5_addHand : MethodName := ⟨RX5, "addHand", "(II)I"⟩
abbrev cX5_toldByHand : ByteArray := prog_7_method_4_code
def yX5_toldByHand : MethodName := ⟨RX5, "toldByHand", "(II)I"⟩
abbrev cX5_leader : ByteArray := prog_7_method_5_code
def yX5_leader : MethodName := ⟨RX5, "leader", "(IIII)I"⟩
abbrev cX5_goingRule : ByteArray := prog_7_method_6_code
def yX5_goingRule : MethodName := ⟨RX5, "goingRule", "(IIII)I"⟩
abbrev cX5_contraryRule : ByteArray := prog_7_method_7_code
def yX5_contraryRule : MethodName := ⟨RX5, "contraryRule", "(IIII)I"⟩
def RX6 : String := "ProtocolDesk$Seating"
def TX6 : u_T := fun k => match k with
  | 0 => ("ProtocolDesk$Seating", "guests", "[I", true)
  | 1 => ("ProtocolDesk$Seating", "seated", "[Z", true)
  | 2 => ("ProtocolDesk$Seating", "row", "[I", true)
  | 3 => ("ProtocolDesk$Seating", "bestRow", "[I", true)
  | 4 => ("ProtocolDesk$Seating", "hall", "LProtocolDesk$Hall;", true)
  | 5 => ("ProtocolDesk$Seating", "guestCount", "I", false)
  | _ => ("ProtocolDesk$Seating", "bestPrice", "I", false)
def tyX6 : Nat → FieldType := fun k => match k with
  | 0 => .array .int
  | 1 => .array .boolean
  | 2 => .array .int
  | 3 => .array .int
  | 4 => .object "ProtocolDesk$Hall"
  | 5 => .int
  | _ => .int
abbrev wsX60 : List Cond := u_ws RX6 TX6 7
theorem nmX6 : ∀ a, a < 7 → ∀ b, b < 7 → a ≠ b → (TX6 a).2.1 ≠ (TX6 b).2.1 := by decide +kernel
theorem tyX6_ok : ∀ k, k < 7 → parseFieldDescriptor (TX6 k).2.2.1 = some (tyX6 k) := by decide +kernel
abbrev cX6_init : ByteArray := prog_8_method_1_code
def yX6_init : MethodName := ⟨RX6, "<init>", "(LProtocolDesk$Hall;)V"⟩
abbrev cX6_arrange : ByteArray := prog_8_method_2_code
def yX6_arrange : MethodName := ⟨RX6, "arrange", "(LProtocolDesk$Table;LProtocolDesk$Procession;I)I"⟩
abbrev cX6_gatherGuests : ByteArray := prog_8_method_3_code
def yX6_gatherGuests : MethodName := ⟨RX6, "gatherGuests", "(I)V"⟩
abbrev cX6_fillFrom : ByteArray := prog_8_method_4_code
def yX6_fillFrom : MethodName := ⟨RX6, "fillFrom", "(LProtocolDesk$Table;II)V"⟩
def RX7 : String := "ProtocolDesk$Table"
def TX7 : u_T := fun k => match k with
  | 0 => ("ProtocolDesk$Table", "size", "I", false)
  | 1 => ("ProtocolDesk$Table", "sitters", "[I", true)
  | _ => ("ProtocolDesk$Table", "round", "Z", false)
def tyX7 : Nat → FieldType := fun k => match k with
  | 0 => .int
  | 1 => .array .int
  | _ => .boolean
abbrev wsX70 : List Cond := u_ws RX7 TX7 3
theorem nmX7 : ∀ a, a < 3 → ∀ b, b < 3 → a ≠ b → (TX7 a).2.1 ≠ (TX7 b).2.1 := by decide +kernel
theorem tyX7_ok : ∀ k, k < 3 → parseFieldDescriptor (TX7 k).2.2.1 = some (tyX7 k) := by decide +kernel
abbrev cX7_init : ByteArray := prog_9_method_1_code
def yX7_init : MethodName := ⟨RX7, "<init>", "()V"⟩
abbrev cX7_open : ByteArray := prog_9_method_2_code
def yX7_open : MethodName := ⟨RX7, "open", "(ZI)V"⟩
abbrev cX7_lowerBeside : ByteArray := prog_9_method_3_code
def yX7_lowerBeside : MethodName := ⟨RX7, "lowerBeside", "(I)I"⟩
abbrev cX7_lowerAround : ByteArray := prog_9_method_4_code
def yX7_lowerAround : MethodName := ⟨RX7, "lowerAround", "(I)I"⟩
abbrev cX7_lowerFacing : ByteArray := prog_9_method_5_code
def yX7_lowerFacing : MethodName := ⟨RX7, "lowerFacing", "(I)I"⟩
abbrev cX7_put : ByteArray := prog_9_method_6_code
def yX7_put : MethodName := ⟨RX7, "put", "(II)I"⟩
abbrev cX7_removePerson : ByteArray := prog_9_method_7_code
def yX7_removePerson : MethodName := ⟨RX7, "removePerson", "(I)V"⟩
abbrev cX7_moveUp : ByteArray := prog_9_method_8_code
def yX7_moveUp : MethodName := ⟨RX7, "moveUp", "()I"⟩
abbrev cX7_sittersAsSet : ByteArray := prog_9_method_9_code
def yX7_sittersAsSet : MethodName := ⟨RX7, "sittersAsSet", "()I"⟩
def RX8 : String := "ProtocolDesk$Tape"
def TX8 : u_T := fun k => match k with
  | 0 => ("ProtocolDesk$Tape", "length", "I", false)
  | 1 => ("ProtocolDesk$Tape", "bytes", "[I", true)
  | 2 => ("ProtocolDesk$Tape", "at", "I", false)
  | _ => ("ProtocolDesk$Tape", "fault", "I", false)
def tyX8 : Nat → FieldType := fun k => match k with
  | 0 => .int
  | 1 => .array .int
  | 2 => .int
  | _ => .int
abbrev wsX80 : List Cond := u_ws RX8 TX8 4
theorem nmX8 : ∀ a, a < 4 → ∀ b, b < 4 → a ≠ b → (TX8 a).2.1 ≠ (TX8 b).2.1 := by decide +kernel
theorem tyX8_ok : ∀ k, k < 4 → parseFieldDescriptor (TX8 k).2.2.1 = some (tyX8 k) := by decide +kernel
abbrev cX8_init : ByteArray := prog_10_method_1_code
def yX8_init : MethodName := ⟨RX8, "<init>", "()V"⟩
abbrev cX8_append : ByteArray := prog_10_method_2_code
def yX8_append : MethodName := ⟨RX8, "append", "(JI)I"⟩
abbrev cX8_clear : ByteArray := prog_10_method_3_code
def yX8_clear : MethodName := ⟨RX8, "clear", "()I"⟩
abbrev cX8_readInto : ByteArray := prog_10_method_4_code
def yX8_readInto : MethodName := ⟨RX8, "readInto", "(LProtocolDesk$Rule;)I"⟩
abbrev cX8_readHead : ByteArray := prog_10_method_5_code
def yX8_readHead : MethodName := ⟨RX8, "readHead", "(LProtocolDesk$Rule;)V"⟩
abbrev cX8_readTests : ByteArray := prog_10_method_6_code
def yX8_readTests : MethodName := ⟨RX8, "readTests", "(LProtocolDesk$Rule;)V"⟩
abbrev cX8_readTest : ByteArray := prog_10_method_7_code
def yX8_readTest : MethodName := ⟨RX8, "readTest", "(LProtocolDesk$Rule;I)V"⟩
abbrev cX8_readWord : ByteArray := prog_10_method_8_code
def yX8_readWord : MethodName := ⟨RX8, "readWord", "(Ljava/lang/String;)I"⟩
abbrev cX8_readBlank : ByteArray := prog_10_method_9_code
def yX8_readBlank : MethodName := ⟨RX8, "readBlank", "()V"⟩
abbrev cX8_readNumber : ByteArray := prog_10_method_10_code
def yX8_readNumber : MethodName := ⟨RX8, "readNumber", "()I"⟩
abbrev cX8_isDigit : ByteArray := prog_10_method_11_code
def yX8_isDigit : MethodName := ⟨RX8, "isDigit", "(I)Z"⟩
abbrev cX8_byteAt : ByteArray := prog_10_method_12_code
def yX8_byteAt : MethodName := ⟨RX8, "byteAt", "(I)I"⟩
abbrev cX8_hasMore : ByteArray := prog_10_method_13_code
def yX8_hasMore : MethodName := ⟨RX8, "hasMore", "()Z"⟩
abbrev cX8_fail : ByteArray := prog_10_method_14_code
def yX8_fail : MethodName := ⟨RX8, "fail", "(I)V"⟩
def RX9 : String := "ProtocolDesk"
def TX9 : u_T := fun k => match k with
  | 0 => ("ProtocolDesk", "roll", "LProtocolDesk$Roll;", true)
  | 1 => ("ProtocolDesk", "tape", "LProtocolDesk$Tape;", true)
  | 2 => ("ProtocolDesk", "book", "LProtocolDesk$Rulebook;", true)
  | 3 => ("ProtocolDesk", "procession", "LProtocolDesk$Procession;", true)
  | 4 => ("ProtocolDesk", "hall", "LProtocolDesk$Hall;", true)
  | 5 => ("ProtocolDesk", "seating", "LProtocolDesk$Seating;", true)
  | _ => ("ProtocolDesk", "calls", "LProtocolDesk$Calls;", true)
def tyX9 : Nat → FieldType := fun k => match k with
  | 0 => .object "ProtocolDesk$Roll"
  | 1 => .object "ProtocolDesk$Tape"
  | 2 => .object "ProtocolDesk$Rulebook"
  | 3 => .object "ProtocolDesk$Procession"
  | 4 => .object "ProtocolDesk$Hall"
  | 5 => .object "ProtocolDesk$Seating"
  | _ => .object "ProtocolDesk$Calls"
abbrev wsX90 : List Cond := u_ws RX9 TX9 7
theorem nmX9 : ∀ a, a < 7 → ∀ b, b < 7 → a ≠ b → (TX9 a).2.1 ≠ (TX9 b).2.1 := by decide +kernel
theorem tyX9_ok : ∀ k, k < 7 → parseFieldDescriptor (TX9 k).2.2.1 = some (tyX9 k) := by decide +kernel
abbrev cX9_init : ByteArray := prog_1_method_1_code
def yX9_init : MethodName := ⟨RX9, "<init>", "()V"⟩
abbrev cX9_state : ByteArray := prog_1_method_2_code
def yX9_state : MethodName := ⟨RX9, "state", "(II)I"⟩
abbrev cX9_person : ByteArray := prog_1_method_3_code
def yX9_person : MethodName := ⟨RX9, "person", "(IIIII)I"⟩
abbrev cX9_paper : ByteArray := prog_1_method_4_code
def yX9_paper : MethodName := ⟨RX9, "paper", "(II)I"⟩
abbrev cX9_there : ByteArray := prog_1_method_5_code
def yX9_there : MethodName := ⟨RX9, "there", "(II)I"⟩
abbrev cX9_split : ByteArray := prog_1_method_6_code
def yX9_split : MethodName := ⟨RX9, "split", "(IIII)I"⟩
abbrev cX9_about : ByteArray := prog_1_method_7_code
def yX9_about : MethodName := ⟨RX9, "about", "(II)I"⟩
abbrev cX9_feed : ByteArray := prog_1_method_8_code
def yX9_feed : MethodName := ⟨RX9, "feed", "(JI)I"⟩
abbrev cX9_wipe : ByteArray := prog_1_method_9_code
def yX9_wipe : MethodName := ⟨RX9, "wipe", "()I"⟩
abbrev cX9_rule : ByteArray := prog_1_method_10_code
def yX9_rule : MethodName := ⟨RX9, "rule", "(II)I"⟩
abbrev cX9_ends : ByteArray := prog_1_method_11_code
def yX9_ends : MethodName := ⟨RX9, "ends", "(II)I"⟩
abbrev cX9_decides : ByteArray := prog_1_method_12_code
def yX9_decides : MethodName := ⟨RX9, "decides", "(IIIII)I"⟩
abbrev cX9_hand : ByteArray := prog_1_method_13_code
def yX9_hand : MethodName := ⟨RX9, "hand", "(II)I"⟩
abbrev cX9_ahead : ByteArray := prog_1_method_14_code
def yX9_ahead : MethodName := ⟨RX9, "ahead", "(IIII)I"⟩
abbrev cX9_why : ByteArray := prog_1_method_15_code
def yX9_why : MethodName := ⟨RX9, "why", "(IIII)I"⟩
abbrev cX9_quarrel : ByteArray := prog_1_method_16_code
def yX9_quarrel : MethodName := ⟨RX9, "quarrel", "(IIII)I"⟩
abbrev cX9_order : ByteArray := prog_1_method_17_code
def yX9_order : MethodName := ⟨RX9, "order", "(III)I"⟩
abbrev cX9_ring : ByteArray := prog_1_method_18_code
def yX9_ring : MethodName := ⟨RX9, "ring", "(III)I"⟩
abbrev cX9_dean : ByteArray := prog_1_method_19_code
def yX9_dean : MethodName := ⟨RX9, "dean", "()I"⟩
abbrev cX9_table : ByteArray := prog_1_method_20_code
def yX9_table : MethodName := ⟨RX9, "table", "(II)I"⟩
abbrev cX9_feud : ByteArray := prog_1_method_21_code
def yX9_feud : MethodName := ⟨RX9, "feud", "(III)I"⟩
abbrev cX9_talk : ByteArray := prog_1_method_22_code
def yX9_talk : MethodName := ⟨RX9, "talk", "(III)I"⟩
abbrev cX9_sit : ByteArray := prog_1_method_23_code
def yX9_sit : MethodName := ⟨RX9, "sit", "(III)I"⟩
abbrev cX9_price : ByteArray := prog_1_method_24_code
def yX9_price : MethodName := ⟨RX9, "price", "(III)I"⟩
abbrev cX9_keeps : ByteArray := prog_1_method_25_code
def yX9_keeps : MethodName := ⟨RX9, "keeps", "(I)I"⟩
abbrev cX9_lay : ByteArray := prog_1_method_26_code
def yX9_lay : MethodName := ⟨RX9, "lay", "(IIII)I"⟩
abbrev cX9_close : ByteArray := prog_1_method_27_code
def yX9_close : MethodName := ⟨RX9, "close", "(I)I"⟩
abbrev cX9_seat : ByteArray := prog_1_method_28_code
def yX9_seat : MethodName := ⟨RX9, "seat", "(II)I"⟩
abbrev cX9_visit : ByteArray := prog_1_method_29_code
def yX9_visit : MethodName := ⟨RX9, "visit", "(III)I"⟩
abbrev cX9_card : ByteArray := prog_1_method_30_code
def yX9_card : MethodName := ⟨RX9, "card", "(II)I"⟩
abbrev cX9_owes : ByteArray := prog_1_method_31_code
def yX9_owes : MethodName := ⟨RX9, "owes", "(III)I"⟩
abbrev cX9_within : ByteArray := prog_1_method_32_code
def yX9_within : MethodName := ⟨RX9, "within", "(I)I"⟩
abbrev cX9_count : ByteArray := prog_1_method_33_code
def yX9_count : MethodName := ⟨RX9, "count", "(I)I"⟩
abbrev cX9_isOccasion : ByteArray := prog_1_method_34_code
def yX9_isOccasion : MethodName := ⟨RX9, "isOccasion", "(II)Z"⟩
abbrev cX9_areTwo : ByteArray := prog_1_method_35_code
def yX9_areTwo : MethodName := ⟨RX9, "areTwo", "(II)Z"⟩
def RX10 : String := "ProtocolDeskModel"
def TX10 : u_T := fun k => match k with
  | 0 => ("ProtocolDeskModel", "states", "I", false)
  | 1 => ("ProtocolDeskModel", "stateName", "[I", true)
  | 2 => ("ProtocolDeskModel", "stateTongue", "[I", true)
  | 3 => ("ProtocolDeskModel", "feud", "[Z", true)
  | 4 => ("ProtocolDeskModel", "cost", "[I", true)
  | 5 => ("ProtocolDeskModel", "persons", "I", false)
  | 6 => ("ProtocolDeskModel", "stateOf", "[I", true)
  | 7 => ("ProtocolDeskModel", "kind", "[I", true)
  | 8 => ("ProtocolDeskModel", "rank", "[I", true)
  | 9 => ("ProtocolDeskModel", "since", "[I", true)
  | 10 => ("ProtocolDeskModel", "paper", "[I", true)
  | 11 => ("ProtocolDeskModel", "whose", "[I", true)
  | 12 => ("ProtocolDeskModel", "isThere", "[Z", true)
  | 13 => ("ProtocolDeskModel", "tape", "[B", true)
  | 14 => ("ProtocolDeskModel", "taped", "I", false)
  | 15 => ("ProtocolDeskModel", "rules", "I", false)
  | 16 => ("ProtocolDeskModel", "occ", "[I", true)
  | 17 => ("ProtocolDeskModel", "key", "[I", true)
  | 18 => ("ProtocolDeskModel", "isUp", "[Z", true)
  | 19 => ("ProtocolDeskModel", "isAny", "[Z", true)
  | 20 => ("ProtocolDeskModel", "from", "[I", true)
  | 21 => ("ProtocolDeskModel", "to", "[I", true)
  | 22 => ("ProtocolDeskModel", "tests", "[I", true)
  | 23 => ("ProtocolDeskModel", "isNot", "[Z", true)
  | 24 => ("ProtocolDeskModel", "isB", "[Z", true)
  | 25 => ("ProtocolDeskModel", "testField", "[I", true)
  | 26 => ("ProtocolDeskModel", "testSign", "[I", true)
  | 27 => ("ProtocolDeskModel", "testNumber", "[I", true)
  | 28 => ("ProtocolDeskModel", "at", "I", false)
  | 29 => ("ProtocolDeskModel", "fault", "I", false)
  | 30 => ("ProtocolDeskModel", "letters", "[C", true)
  | 31 => ("ProtocolDeskModel", "begins", "[I", true)
  | 32 => ("ProtocolDeskModel", "long0", "[I", true)
  | 33 => ("ProtocolDeskModel", "hands", "I", false)
  | 34 => ("ProtocolDeskModel", "handX", "[I", true)
  | 35 => ("ProtocolDeskModel", "handY", "[I", true)
  | 36 => ("ProtocolDeskModel", "order", "[I", true)
  | 37 => ("ProtocolDeskModel", "ordered", "I", false)
  | 38 => ("ProtocolDeskModel", "isLeft", "[Z", true)
  | 39 => ("ProtocolDeskModel", "ring", "[I", true)
  | 40 => ("ProtocolDeskModel", "ringed", "I", false)
  | 41 => ("ProtocolDeskModel", "walk", "[I", true)
  | 42 => ("ProtocolDeskModel", "tables", "I", false)
  | 43 => ("ProtocolDeskModel", "isRound", "[Z", true)
  | 44 => ("ProtocolDeskModel", "size", "[I", true)
  | 45 => ("ProtocolDeskModel", "seats", "[I", true)
  | 46 => ("ProtocolDeskModel", "way", "[I", true)
  | 47 => ("ProtocolDeskModel", "best", "[I", true)
  | 48 => ("ProtocolDeskModel", "owed", "I", false)
  | 49 => ("ProtocolDeskModel", "ower", "[I", true)
  | 50 => ("ProtocolDeskModel", "caller", "[I", true)
  | 51 => ("ProtocolDeskModel", "visited", "[I", true)
  | _ => ("ProtocolDeskModel", "within", "I", false)
def tyX10 : Nat → FieldType := fun k => match k with
  | 0 => .int
  | 1 => .array .int
  | 2 => .array .int
  | 3 => .array .boolean
  | 4 => .array .int
  | 5 => .int
  | 6 => .array .int
  | 7 => .array .int
  | 8 => .array .int
  | 9 => .array .int
  | 10 => .array .int
  | 11 => .array .int
  | 12 => .array .boolean
  | 13 => .array .byte
  | 14 => .int
  | 15 => .int
  | 16 => .array .int
  | 17 => .array .int
  | 18 => .array .boolean
  | 19 => .array .boolean
  | 20 => .array .int
  | 21 => .array .int
  | 22 => .array .int
  | 23 => .array .boolean
  | 24 => .array .boolean
  | 25 => .array .int
  | 26 => .array .int
  | 27 => .array .int
  | 28 => .int
  | 29 => .int
  | 30 => .array .char
  | 31 => .array .int
  | 32 => .array .int
  | 33 => .int
  | 34 => .array .int
  | 35 => .array .int
  | 36 => .array .int
  | 37 => .int
  | 38 => .array .boolean
  | 39 => .array .int
  | 40 => .int
  | 41 => .array .int
  | 42 => .int
  | 43 => .array .boolean
  | 44 => .array .int
  | 45 => .array .int
  | 46 => .array .int
  | 47 => .array .int
  | 48 => .int
  | 49 => .array .int
  | 50 => .array .int
  | 51 => .array .int
  | _ => .int
abbrev wsX100 : List Cond := u_ws RX10 TX10 53
theorem nmX10 : ∀ a, a < 53 → ∀ b, b < 53 → a ≠ b → (TX10 a).2.1 ≠ (TX10 b).2.1 := by decide +kernel
theorem tyX10_ok : ∀ k, k < 53 → parseFieldDescriptor (TX10 k).2.2.1 = some (tyX10 k) := by decide +kernel
abbrev cX10_init : ByteArray := prog_12_method_1_code
def yX10_init : MethodName := ⟨RX10, "<init>", "()V"⟩
abbrev cX10_isIn : ByteArray := prog_12_method_2_code
def yX10_isIn : MethodName := ⟨RX10, "isIn", "(JJJ)Z"⟩
abbrev cX10_isPerson : ByteArray := prog_12_method_3_code
def yX10_isPerson : MethodName := ⟨RX10, "isPerson", "(I)Z"⟩
abbrev cX10_isState : ByteArray := prog_12_method_4_code
def yX10_isState : MethodName := ⟨RX10, "isState", "(I)Z"⟩
abbrev cX10_state : ByteArray := prog_12_method_5_code
def yX10_state : MethodName := ⟨RX10, "state", "(II)I"⟩
abbrev cX10_person : ByteArray := prog_12_method_6_code
def yX10_person : MethodName := ⟨RX10, "person", "(IIIII)I"⟩
abbrev cX10_paper : ByteArray := prog_12_method_7_code
def yX10_paper : MethodName := ⟨RX10, "paper", "(II)I"⟩
abbrev cX10_there : ByteArray := prog_12_method_8_code
def yX10_there : MethodName := ⟨RX10, "there", "(II)I"⟩
abbrev cX10_split : ByteArray := prog_12_method_9_code
def yX10_split : MethodName := ⟨RX10, "split", "(IIII)I"⟩
abbrev cX10_plainRank : ByteArray := prog_12_method_10_code
def yX10_plainRank : MethodName := ⟨RX10, "plainRank", "(I)I"⟩
abbrev cX10_shown : ByteArray := prog_12_method_11_code
def yX10_shown : MethodName := ⟨RX10, "shown", "(I)I"⟩
abbrev cX10_field : ByteArray := prog_12_method_12_code
def yX10_field : MethodName := ⟨RX10, "field", "(II)I"⟩
abbrev cX10_about : ByteArray := prog_12_method_13_code
def yX10_about : MethodName := ⟨RX10, "about", "(II)I"⟩
abbrev cX10_feed : ByteArray := prog_12_method_14_code
def yX10_feed : MethodName := ⟨RX10, "feed", "(JI)I"⟩
abbrev cX10_wipe : ByteArray := prog_12_method_15_code
def yX10_wipe : MethodName := ⟨RX10, "wipe", "()I"⟩
abbrev cX10_letter : ByteArray := prog_12_method_16_code
def yX10_letter : MethodName := ⟨RX10, "letter", "()I"⟩
abbrev cX10_expect : ByteArray := prog_12_method_17_code
def yX10_expect : MethodName := ⟨RX10, "expect", "(II)V"⟩
abbrev cX10_word : ByteArray := prog_12_method_18_code
def yX10_word : MethodName := ⟨RX10, "word", "(I)I"⟩
abbrev cX10_oneOf : ByteArray := prog_12_method_19_code
def yX10_oneOf : MethodName := ⟨RX10, "oneOf", "(II)I"⟩
abbrev cX10_isDigit : ByteArray := prog_12_method_20_code
def yX10_isDigit : MethodName := ⟨RX10, "isDigit", "(I)Z"⟩
abbrev cX10_readTest : ByteArray := prog_12_method_21_code
def yX10_readTest : MethodName := ⟨RX10, "readTest", "(I)V"⟩
abbrev cX10_readTests : ByteArray := prog_12_method_22_code
def yX10_readTests : MethodName := ⟨RX10, "readTests", "(I)V"⟩
abbrev cX10_read : ByteArray := prog_12_method_23_code
def yX10_read : MethodName := ⟨RX10, "read", "(I)V"⟩
abbrev cX10_rule : ByteArray := prog_12_method_24_code
def yX10_rule : MethodName := ⟨RX10, "rule", "(II)I"⟩
abbrev cX10_ends : ByteArray := prog_12_method_25_code
def yX10_ends : MethodName := ⟨RX10, "ends", "(II)I"⟩
abbrev cX10_holds : ByteArray := prog_12_method_26_code
def yX10_holds : MethodName := ⟨RX10, "holds", "(III)Z"⟩
abbrev cX10_areTested : ByteArray := prog_12_method_27_code
def yX10_areTested : MethodName := ⟨RX10, "areTested", "(III)Z"⟩
abbrev cX10_decided : ByteArray := prog_12_method_28_code
def yX10_decided : MethodName := ⟨RX10, "decided", "(IIIII)I"⟩
abbrev cX10_isAsked : ByteArray := prog_12_method_29_code
def yX10_isAsked : MethodName := ⟨RX10, "isAsked", "(IIII)Z"⟩
abbrev cX10_decides : ByteArray := prog_12_method_30_code
def yX10_decides : MethodName := ⟨RX10, "decides", "(IIIII)I"⟩
abbrev cX10_hand : ByteArray := prog_12_method_31_code
def yX10_hand : MethodName := ⟨RX10, "hand", "(II)I"⟩
abbrev cX10_handOf : ByteArray := prog_12_method_32_code
def yX10_handOf : MethodName := ⟨RX10, "handOf", "(II)I"⟩
abbrev cX10_goes : ByteArray := prog_12_method_33_code
def yX10_goes : MethodName := ⟨RX10, "goes", "(IIII)I"⟩
abbrev cX10_first : ByteArray := prog_12_method_34_code
def yX10_first : MethodName := ⟨RX10, "first", "(IIII)I"⟩
abbrev cX10_ahead : ByteArray := prog_12_method_35_code
def yX10_ahead : MethodName := ⟨RX10, "ahead", "(IIII)I"⟩
abbrev cX10_why : ByteArray := prog_12_method_36_code
def yX10_why : MethodName := ⟨RX10, "why", "(IIII)I"⟩
abbrev cX10_quarrel : ByteArray := prog_12_method_37_code
def yX10_quarrel : MethodName := ⟨RX10, "quarrel", "(IIII)I"⟩
abbrev cX10_leastAhead : ByteArray := prog_12_method_38_code
def yX10_leastAhead : MethodName := ⟨RX10, "leastAhead", "(III)I"⟩
abbrev cX10_findRing : ByteArray := prog_12_method_39_code
def yX10_findRing : MethodName := ⟨RX10, "findRing", "(III)V"⟩
abbrev cX10_findOrder : ByteArray := prog_12_method_40_code
def yX10_findOrder : MethodName := ⟨RX10, "findOrder", "(II)V"⟩
abbrev cX10_isOccasion : ByteArray := prog_12_method_41_code
def yX10_isOccasion : MethodName := ⟨RX10, "isOccasion", "(II)Z"⟩
abbrev cX10_order : ByteArray := prog_12_method_42_code
def yX10_order : MethodName := ⟨RX10, "order", "(III)I"⟩
abbrev cX10_ring : ByteArray := prog_12_method_43_code
def yX10_ring : MethodName := ⟨RX10, "ring", "(III)I"⟩
abbrev cX10_dean : ByteArray := prog_12_method_44_code
def yX10_dean : MethodName := ⟨RX10, "dean", "()I"⟩
abbrev cX10_isTable : ByteArray := prog_12_method_45_code
def yX10_isTable : MethodName := ⟨RX10, "isTable", "(I)Z"⟩
abbrev cX10_table : ByteArray := prog_12_method_46_code
def yX10_table : MethodName := ⟨RX10, "table", "(II)I"⟩
abbrev cX10_feud : ByteArray := prog_12_method_47_code
def yX10_feud : MethodName := ⟨RX10, "feud", "(III)I"⟩
abbrev cX10_talk : ByteArray := prog_12_method_48_code
def yX10_talk : MethodName := ⟨RX10, "talk", "(III)I"⟩
abbrev cX10_sit : ByteArray := prog_12_method_49_code
def yX10_sit : MethodName := ⟨RX10, "sit", "(III)I"⟩
abbrev cX10_take : ByteArray := prog_12_method_50_code
def yX10_take : MethodName := ⟨RX10, "take", "(I)V"⟩
abbrev cX10_areFeuding : ByteArray := prog_12_method_51_code
def yX10_areFeuding : MethodName := ⟨RX10, "areFeuding", "(II)Z"⟩
abbrev cX10_behind : ByteArray := prog_12_method_52_code
def yX10_behind : MethodName := ⟨RX10, "behind", "(II)I"⟩
abbrev cX10_areBeside : ByteArray := prog_12_method_53_code
def yX10_areBeside : MethodName := ⟨RX10, "areBeside", "(II)Z"⟩
abbrev cX10_isKept : ByteArray := prog_12_method_54_code
def yX10_isKept : MethodName := ⟨RX10, "isKept", "(I)Z"⟩
abbrev cX10_priceOf : ByteArray := prog_12_method_55_code
def yX10_priceOf : MethodName := ⟨RX10, "priceOf", "(I)I"⟩
abbrev cX10_price : ByteArray := prog_12_method_56_code
def yX10_price : MethodName := ⟨RX10, "price", "(III)I"⟩
abbrev cX10_keeps : ByteArray := prog_12_method_57_code
def yX10_keeps : MethodName := ⟨RX10, "keeps", "(I)I"⟩
abbrev cX10_isNext : ByteArray := prog_12_method_58_code
def yX10_isNext : MethodName := ⟨RX10, "isNext", "(I)Z"⟩
abbrev cX10_begin : ByteArray := prog_12_method_59_code
def yX10_begin : MethodName := ⟨RX10, "begin", "(I)I"⟩
abbrev cX10_countBits : ByteArray := prog_12_method_60_code
def yX10_countBits : MethodName := ⟨RX10, "countBits", "(I)I"⟩
abbrev cX10_lay : ByteArray := prog_12_method_61_code
def yX10_lay : MethodName := ⟨RX10, "lay", "(IIII)I"⟩
abbrev cX10_close : ByteArray := prog_12_method_62_code
def yX10_close : MethodName := ⟨RX10, "close", "(I)I"⟩
abbrev cX10_seat : ByteArray := prog_12_method_63_code
def yX10_seat : MethodName := ⟨RX10, "seat", "(II)I"⟩
abbrev cX10_forget : ByteArray := prog_12_method_64_code
def yX10_forget : MethodName := ⟨RX10, "forget", "(I)V"⟩
abbrev cX10_oldest : ByteArray := prog_12_method_65_code
def yX10_oldest : MethodName := ⟨RX10, "oldest", "(II)I"⟩
abbrev cX10_visit : ByteArray := prog_12_method_66_code
def yX10_visit : MethodName := ⟨RX10, "visit", "(III)I"⟩
abbrev cX10_card : ByteArray := prog_12_method_67_code
def yX10_card : MethodName := ⟨RX10, "card", "(II)I"⟩
abbrev cX10_owes : ByteArray := prog_12_method_68_code
def yX10_owes : MethodName := ⟨RX10, "owes", "(III)I"⟩
abbrev cX10_within : ByteArray := prog_12_method_69_code
def yX10_within : MethodName := ⟨RX10, "within", "(I)I"⟩
abbrev cX10_count : ByteArray := prog_12_method_70_code
def yX10_count : MethodName := ⟨RX10, "count", "(I)I"⟩
def RJ6 : String := "java/lang/Integer"
def TJ6 : u_T := fun k => match k with
  | _ => ("", "", "", false)
def tyJ6 : Nat → FieldType := fun k => match k with
  | _ => .int
abbrev wsJ60 : List Cond := u_ws RJ6 TJ6 0
theorem nmJ6 : ∀ a, a < 0 → ∀ b, b < 0 → a ≠ b → (TJ6 a).2.1 ≠ (TJ6 b).2.1 := by decide +kernel
theorem tyJ6_ok : ∀ k, k < 0 → parseFieldDescriptor (TJ6 k).2.2.1 = some (tyJ6 k) := by decide +kernel
abbrev cJ6_bitCount_0f7a4 : ByteArray := prog_13_method_49_code
def yJ6_bitCount_0f7a4 : MethodName := ⟨RJ6, "bitCount", "(I)I"⟩
def RJ9 : String := "java/lang/Math"
def TJ9 : u_T := fun k => match k with
  | _ => ("", "", "", false)
def tyJ9 : Nat → FieldType := fun k => match k with
  | _ => .int
abbrev wsJ90 : List Cond := u_ws RJ9 TJ9 0
theorem nmJ9 : ∀ a, a < 0 → ∀ b, b < 0 → a ≠ b → (TJ9 a).2.1 ≠ (TJ9 b).2.1 := by decide +kernel
theorem tyJ9_ok : ∀ k, k < 0 → parseFieldDescriptor (TJ9 k).2.2.1 = some (tyJ9 k) := by decide +kernel
abbrev cJ9_abs_0f7a4 : ByteArray := prog_14_method_59_code
def yJ9_abs_0f7a4 : MethodName := ⟨RJ9, "abs", "(I)I"⟩
abbrev cJ9_max_7cf53 : ByteArray := prog_14_method_65_code
def yJ9_max_7cf53 : MethodName := ⟨RJ9, "max", "(II)I"⟩
abbrev cJ9_min_7cf53 : ByteArray := prog_14_method_69_code
def yJ9_min_7cf53 : MethodName := ⟨RJ9, "min", "(II)I"⟩
def RJ0 : String := "java/lang/String"
def TJ0 : u_T := fun k => match k with
  | _ => ("", "", "", false)
def tyJ0 : Nat → FieldType := fun k => match k with
  | _ => .int
abbrev wsJ00 : List Cond := u_ws RJ0 TJ0 0
theorem nmJ0 : ∀ a, a < 0 → ∀ b, b < 0 → a ≠ b → (TJ0 a).2.1 ≠ (TJ0 b).2.1 := by decide +kernel
theorem tyJ0_ok : ∀ k, k < 0 → parseFieldDescriptor (TJ0 k).2.2.1 = some (tyJ0 k) := by decide +kernel
abbrev cJ0_length_8abf5 : ByteArray := prog_15_method_54_code
def yJ0_length_8abf5 : MethodName := ⟨RJ0, "length", "()I"⟩
abbrev cJ0_charAt_5068e : ByteArray := prog_15_method_56_code
def yJ0_charAt_5068e : MethodName := ⟨RJ0, "charAt", "(I)C"⟩
abbrev cJ0_coder_7d493 : ByteArray := prog_15_method_152_code
def yJ0_coder_7d493 : MethodName := ⟨RJ0, "coder", "()B"⟩
abbrev cJ0_isLatin1_aae02 : ByteArray := prog_15_method_154_code
def yJ0_isLatin1_aae02 : MethodName := ⟨RJ0, "isLatin1", "()Z"⟩
abbrev cJ0_checkIndex_df160 : ByteArray := prog_15_method_155_code
def yJ0_checkIndex_df160 : MethodName := ⟨RJ0, "checkIndex", "(II)V"⟩
def RJ1 : String := "java/lang/StringLatin1"
def TJ1 : u_T := fun k => match k with
  | _ => ("", "", "", false)
def tyJ1 : Nat → FieldType := fun k => match k with
  | _ => .int
abbrev wsJ10 : List Cond := u_ws RJ1 TJ1 0
theorem nmJ1 : ∀ a, a < 0 → ∀ b, b < 0 → a ≠ b → (TJ1 a).2.1 ≠ (TJ1 b).2.1 := by decide +kernel
theorem tyJ1_ok : ∀ k, k < 0 → parseFieldDescriptor (TJ1 k).2.2.1 = some (tyJ1 k) := by decide +kernel
abbrev cJ1_charAt_3b067 : ByteArray := prog_16_method_2_code
def yJ1_charAt_3b067 : MethodName := ⟨RJ1, "charAt", "([BI)C"⟩
def RJ2 : String := "java/lang/StringUTF16"
def TJ2 : u_T := fun k => match k with
  | _ => ("", "", "", false)
def tyJ2 : Nat → FieldType := fun k => match k with
  | _ => .int
abbrev wsJ20 : List Cond := u_ws RJ2 TJ2 0
theorem nmJ2 : ∀ a, a < 0 → ∀ b, b < 0 → a ≠ b → (TJ2 a).2.1 ≠ (TJ2 b).2.1 := by decide +kernel
theorem tyJ2_ok : ∀ k, k < 0 → parseFieldDescriptor (TJ2 k).2.2.1 = some (tyJ2 k) := by decide +kernel
abbrev cJ2_getChar_3b067 : ByteArray := prog_17_method_5_code
def yJ2_getChar_3b067 : MethodName := ⟨RJ2, "getChar", "([BI)C"⟩
abbrev cJ2_length_9d52b : ByteArray := prog_17_method_6_code
def yJ2_length_9d52b : MethodName := ⟨RJ2, "length", "([B)I"⟩
abbrev cJ2_charAt_3b067 : ByteArray := prog_17_method_83_code
def yJ2_charAt_3b067 : MethodName := ⟨RJ2, "charAt", "([BI)C"⟩
abbrev cJ2_checkIndex_2214a : ByteArray := prog_17_method_91_code
def yJ2_checkIndex_2214a : MethodName := ⟨RJ2, "checkIndex", "(I[B)V"⟩
def RJ10 : String := "java/lang/System"
def TJ10 : u_T := fun k => match k with
  | _ => ("", "", "", false)
def tyJ10 : Nat → FieldType := fun k => match k with
  | _ => .int
abbrev wsJ100 : List Cond := u_ws RJ10 TJ10 0
theorem nmJ10 : ∀ a, a < 0 → ∀ b, b < 0 → a ≠ b → (TJ10 a).2.1 ≠ (TJ10 b).2.1 := by decide +kernel
theorem tyJ10_ok : ∀ k, k < 0 → parseFieldDescriptor (TJ10 k).2.2.1 = some (tyJ10 k) := by decide +kernel
def RJ7 : String := "java/util/Arrays"
def TJ7 : u_T := fun k => match k with
  | _ => ("", "", "", false)
def tyJ7 : Nat → FieldType := fun k => match k with
  | _ => .int
abbrev wsJ70 : List Cond := u_ws RJ7 TJ7 0
theorem nmJ7 : ∀ a, a < 0 → ∀ b, b < 0 → a ≠ b → (TJ7 a).2.1 ≠ (TJ7 b).2.1 := by decide +kernel
theorem tyJ7_ok : ∀ k, k < 0 → parseFieldDescriptor (TJ7 k).2.2.1 = some (tyJ7 k) := by decide +kernel
abbrev cJ7_fill_53178 : ByteArray := prog_19_method_103_code
def yJ7_fill_53178 : MethodName := ⟨RJ7, "fill", "([II)V"⟩
def RJ3 : String := "jdk/internal/util/Preconditions"
def TJ3 : u_T := fun k => match k with
  | _ => ("", "", "", false)
def tyJ3 : Nat → FieldType := fun k => match k with
  | _ => .int
abbrev wsJ30 : List Cond := u_ws RJ3 TJ3 0
theorem nmJ3 : ∀ a, a < 0 → ∀ b, b < 0 → a ≠ b → (TJ3 a).2.1 ≠ (TJ3 b).2.1 := by decide +kernel
theorem tyJ3_ok : ∀ k, k < 0 → parseFieldDescriptor (TJ3 k).2.2.1 = some (tyJ3 k) := by decide +kernel
abbrev cJ3_checkIndex_8e157 : ByteArray := prog_20_method_11_code
def yJ3_checkIndex_8e157 : MethodName := ⟨RJ3, "checkIndex", "(IILjava/util/function/BiFunction;)I"⟩
def RL : String := "ProtocolDeskLaw"
abbrev cL_law : ByteArray := code
def yL_law : MethodName := ⟨RL, "law", "([I)Z"⟩
end
section
/-! the shape of all cells behind the two constructors: family, how many, what: an object (class, fields: none a number, some g a reference), an array of numbers (kind, length), an array of references -/
abbrev zN : Type := Nat × Nat
abbrev zD : Type := Nat × ((Nat × List (Option (Nat → zN))) ⊕ ((Nat × Nat) ⊕ (Nat × Nat × (Nat → Nat → zN))))
def zTab : List zD := [
  (1, .inl (9, [some (fun _ => (1, 0)), some (fun _ => (2, 0)), some (fun _ => (3, 0)), some (fun _ => (4, 0)), some (fun _ => (5, 0)), some (fun _ => (6, 0)), some (fun _ => (7, 0))])),
  (1, .inl (3, [none, none, some (fun _ => (10, 0)), some (fun _ => (11, 0)), some (fun _ => (12, 0)), some (fun _ => (13, 0)), some (fun _ => (14, 0)), some (fun _ => (15, 0)), some (fun _ => (16, 0))])),
  (1, .inl (8, [none, some (fun _ => (18, 0)), none, none])),
  (1, .inl (5, [none, none, some (fun _ => (19, 0)), some (fun _ => (20, 0)), some (fun _ => (21, 0)), some (fun _ => (1, 0))])),
  (1, .inl (2, [none, none, some (fun _ => (27, 0)), some (fun _ => (28, 0)), some (fun _ => (29, 0)), some (fun _ => (30, 0)), some (fun _ => (31, 0)), some (fun _ => (32, 0)), some (fun _ => (1, 0)), some (fun _ => (3, 0))])),
  (1, .inl (1, [none, some (fun _ => (34, 0)), some (fun _ => (35, 0)), some (fun _ => (37, 0)), some (fun _ => (39, 0)), some (fun _ => (1, 0))])),
  (1, .inl (6, [some (fun _ => (41, 0)), some (fun _ => (42, 0)), some (fun _ => (43, 0)), some (fun _ => (44, 0)), some (fun _ => (5, 0)), none, none])),
  (1, .inl (0, [none, none, some (fun _ => (45, 0)), some (fun _ => (46, 0)), some (fun _ => (47, 0))])),
  (16, .inl (4, [none, none, none, none, none, none, none, some (fun i => (22, i)), some (fun i => (23, i)), some (fun i => (24, i)), some (fun i => (25, i)), some (fun i => (26, i))])),
  (4, .inl (7, [none, some (fun i => (40, i)), none])),
  (1, .inr (.inl (0, 20))),
  (1, .inr (.inl (0, 20))),
  (1, .inr (.inr (4, 20, fun _ j => (17, j)))),
  (1, .inr (.inl (0, 10))),
  (1, .inr (.inl (0, 10))),
  (1, .inr (.inl (0, 20))),
  (1, .inr (.inl (0, 20))),
  (20, .inr (.inl (0, 7))),
  (1, .inr (.inl (0, 200))),
  (1, .inr (.inr (5, 16, fun _ j => (8, j)))),
  (1, .inr (.inl (0, 20))),
  (1, .inr (.inl (0, 20))),
  (16, .inr (.inl (1, 4))),
  (16, .inr (.inl (1, 4))),
  (16, .inr (.inl (0, 4))),
  (16, .inr (.inl (0, 4))),
  (16, .inr (.inl (0, 4))),
  (1, .inr (.inl (0, 20))),
  (1, .inr (.inl (0, 20))),
  (1, .inr (.inl (1, 20))),
  (1, .inr (.inl (0, 20))),
  (1, .inr (.inl (0, 20))),
  (1, .inr (.inr (4, 20, fun _ j => (33, j)))),
  (20, .inr (.inl (0, 20))),
  (1, .inr (.inr (6, 4, fun _ j => (9, j)))),
  (1, .inr (.inr (4, 10, fun _ j => (36, j)))),
  (10, .inr (.inl (0, 10))),
  (1, .inr (.inr (4, 8, fun _ j => (38, j)))),
  (8, .inr (.inl (0, 8))),
  (1, .inr (.inl (0, 20))),
  (4, .inr (.inl (0, 12))),
  (1, .inr (.inl (0, 7))),
  (1, .inr (.inl (1, 7))),
  (1, .inr (.inl (0, 12))),
  (1, .inr (.inl (0, 12))),
  (1, .inr (.inl (0, 40))),
  (1, .inr (.inl (0, 40))),
  (1, .inr (.inl (0, 40))),
  (1, .inl (10, [none, some (fun _ => (51, 0)), some (fun _ => (52, 0)), some (fun _ => (53, 0)), some (fun _ => (54, 0)), none, some (fun _ => (56, 0)), some (fun _ => (57, 0)), some (fun _ => (58, 0)), some (fun _ => (59, 0)), some (fun _ => (60, 0)), some (fun _ => (61, 0)), some (fun _ => (62, 0)), some (fun _ => (63, 0)), none, none, some (fun _ => (66, 0)), some (fun _ => (67, 0)), some (fun _ => (68, 0)), some (fun _ => (69, 0)), some (fun _ => (70, 0)), some (fun _ => (71, 0)), some (fun _ => (72, 0)), some (fun _ => (73, 0)), some (fun _ => (74, 0)), some (fun _ => (75, 0)), some (fun _ => (76, 0)), some (fun _ => (77, 0)), none, none, some (fun _ => (80, 0)), some (fun _ => (81, 0)), some (fun _ => (82, 0)), none, some (fun _ => (84, 0)), some (fun _ => (85, 0)), some (fun _ => (86, 0)), none, some (fun _ => (88, 0)), some (fun _ => (89, 0)), none, some (fun _ => (91, 0)), none, some (fun _ => (93, 0)), some (fun _ => (94, 0)), some (fun _ => (95, 0)), some (fun _ => (96, 0)), some (fun _ => (97, 0)), none, some (fun _ => (99, 0)), some (fun _ => (100, 0)), some (fun _ => (101, 0)), none])),
  (0, .inr (.inl (0, 0))),
  (0, .inr (.inl (0, 0))),
  (1, .inr (.inl (0, 10))),
  (1, .inr (.inl (0, 10))),
  (1, .inr (.inl (1, 100))),
  (1, .inr (.inl (0, 64))),
  (0, .inr (.inl (0, 0))),
  (1, .inr (.inl (0, 20))),
  (1, .inr (.inl (0, 20))),
  (1, .inr (.inl (0, 20))),
  (1, .inr (.inl (0, 20))),
  (1, .inr (.inl (0, 20))),
  (1, .inr (.inl (0, 20))),
  (1, .inr (.inl (1, 20))),
  (1, .inr (.inl (2, 200))),
  (0, .inr (.inl (0, 0))),
  (0, .inr (.inl (0, 0))),
  (1, .inr (.inl (0, 16))),
  (1, .inr (.inl (0, 16))),
  (1, .inr (.inl (1, 16))),
  (1, .inr (.inl (1, 16))),
  (1, .inr (.inl (0, 16))),
  (1, .inr (.inl (0, 16))),
  (1, .inr (.inl (0, 16))),
  (1, .inr (.inl (1, 64))),
  (1, .inr (.inl (1, 64))),
  (1, .inr (.inl (0, 64))),
  (1, .inr (.inl (0, 64))),
  (1, .inr (.inl (0, 64))),
  (0, .inr (.inl (0, 0))),
  (0, .inr (.inl (0, 0))),
  (1, .inr (.inl (3, 33))),
  (1, .inr (.inl (0, 7))),
  (1, .inr (.inl (0, 7))),
  (0, .inr (.inl (0, 0))),
  (1, .inr (.inl (0, 20))),
  (1, .inr (.inl (0, 20))),
  (1, .inr (.inl (0, 20))),
  (0, .inr (.inl (0, 0))),
  (1, .inr (.inl (1, 20))),
  (1, .inr (.inl (0, 20))),
  (0, .inr (.inl (0, 0))),
  (1, .inr (.inl (0, 21))),
  (0, .inr (.inl (0, 0))),
  (1, .inr (.inl (1, 4))),
  (1, .inr (.inl (0, 4))),
  (1, .inr (.inl (0, 48))),
  (1, .inr (.inl (0, 12))),
  (1, .inr (.inl (0, 12))),
  (0, .inr (.inl (0, 0))),
  (1, .inr (.inl (0, 40))),
  (1, .inr (.inl (0, 40))),
  (1, .inr (.inl (0, 40))),
  (0, .inr (.inl (0, 0)))]
abbrev zcl : List vw_C := [(RX0, TX0, 5), (RX1, TX1, 6), (RX2, TX2, 10), (RX3, TX3, 9), (RX4, TX4, 12), (RX5, TX5, 6), (RX6, TX6, 7), (RX7, TX7, 3), (RX8, TX8, 4), (RX9, TX9, 7), (RX10, TX10, 53)]
def zty : Nat → Nat → FieldType := fun c => match c with
  | 0 => tyX0
  | 1 => tyX1
  | 2 => tyX2
  | 3 => tyX3
  | 4 => tyX4
  | 5 => tyX5
  | 6 => tyX6
  | 7 => tyX7
  | 8 => tyX8
  | 9 => tyX9
  | _ => tyX10
def zT : List Cond := lw_tbl.filter goodWord
theorem zlay0 : ∀ w ∈ u_ws RX0 TX0 5, w ∈ zT := by
  intro w hw
  refine List.mem_filter.mpr ⟨?_, ?_⟩
  · exact (by decide +kernel : ∀ w ∈ u_ws RX0 TX0 5, w ∈ lw_tbl) w hw
  · exact (by decide +kernel : ∀ w ∈ u_ws RX0 TX0 5, goodWord w = true) w hw
theorem zlay1 : ∀ w ∈ u_ws RX1 TX1 6, w ∈ zT := by
  intro w hw
  refine List.mem_filter.mpr ⟨?_, ?_⟩
  · exact (by decide +kernel : ∀ w ∈ u_ws RX1 TX1 6, w ∈ lw_tbl) w hw
  · exact (by decide +kernel : ∀ w ∈ u_ws RX1 TX1 6, goodWord w = true) w hw
theorem zlay2 : ∀ w ∈ u_ws RX2 TX2 10, w ∈ zT := by
  intro w hw
  refine List.mem_filter.mpr ⟨?_, ?_⟩
  · exact (by decide +kernel : ∀ w ∈ u_ws RX2 TX2 10, w ∈ lw_tbl) w hw
  · exact (by decide +kernel : ∀ w ∈ u_ws RX2 TX2 10, goodWord w = true) w hw
theorem zlay3 : ∀ w ∈ u_ws RX3 TX3 9, w ∈ zT := by
  intro w hw
  refine List.mem_filter.mpr ⟨?_, ?_⟩
  · exact (by decide +kernel : ∀ w ∈ u_ws RX3 TX3 9, w ∈ lw_tbl) w hw
  · exact (by decide +kernel : ∀ w ∈ u_ws RX3 TX3 9, goodWord w = true) w hw
theorem zlay4 : ∀ w ∈ u_ws RX4 TX4 12, w ∈ zT := by
  intro w hw
  refine List.mem_filter.mpr ⟨?_, ?_⟩
  · exact (by decide +kernel : ∀ w ∈ u_ws RX4 TX4 12, w ∈ lw_tbl) w hw
  · exact (by decide +kernel : ∀ w ∈ u_ws RX4 TX4 12, goodWord w = true) w hw
theorem zlay5 : ∀ w ∈ u_ws RX5 TX5 6, w ∈ zT := by
  intro w hw
  refine List.mem_filter.mpr ⟨?_, ?_⟩
  · exact (by decide +kernel : ∀ w ∈ u_ws RX5 TX5 6, w ∈ lw_tbl) w hw
  · exact (by decide +kernel : ∀ w ∈ u_ws RX5 TX5 6, goodWord w = true) w hw
theorem zlay6 : ∀ w ∈ u_ws RX6 TX6 7, w ∈ zT := by
  intro w hw
  refine List.mem_filter.mpr ⟨?_, ?_⟩
  · exact (by decide +kernel : ∀ w ∈ u_ws RX6 TX6 7, w ∈ lw_tbl) w hw
  · exact (by decide +kernel : ∀ w ∈ u_ws RX6 TX6 7, goodWord w = true) w hw
theorem zlay7 : ∀ w ∈ u_ws RX7 TX7 3, w ∈ zT := by
  intro w hw
  refine List.mem_filter.mpr ⟨?_, ?_⟩
  · exact (by decide +kernel : ∀ w ∈ u_ws RX7 TX7 3, w ∈ lw_tbl) w hw
  · exact (by decide +kernel : ∀ w ∈ u_ws RX7 TX7 3, goodWord w = true) w hw
theorem zlay8 : ∀ w ∈ u_ws RX8 TX8 4, w ∈ zT := by
  intro w hw
  refine List.mem_filter.mpr ⟨?_, ?_⟩
  · exact (by decide +kernel : ∀ w ∈ u_ws RX8 TX8 4, w ∈ lw_tbl) w hw
  · exact (by decide +kernel : ∀ w ∈ u_ws RX8 TX8 4, goodWord w = true) w hw
theorem zlay9 : ∀ w ∈ u_ws RX9 TX9 7, w ∈ zT := by
  intro w hw
  refine List.mem_filter.mpr ⟨?_, ?_⟩
  · exact (by decide +kernel : ∀ w ∈ u_ws RX9 TX9 7, w ∈ lw_tbl) w hw
  · exact (by decide +kernel : ∀ w ∈ u_ws RX9 TX9 7, goodWord w = true) w hw
theorem zlay10 : ∀ w ∈ u_ws RX10 TX10 53, w ∈ zT := by
  intro w hw
  refine List.mem_filter.mpr ⟨?_, ?_⟩
  · exact (by decide +kernel : ∀ w ∈ u_ws RX10 TX10 53, w ∈ lw_tbl) w hw
  · exact (by decide +kernel : ∀ w ∈ u_ws RX10 TX10 53, goodWord w = true) w hw
theorem zlay {ci : Nat} {C : String} {T : u_T} {N : Nat} (h : zcl[ci]? = some (C, T, N)) : (∀ w ∈ u_ws C T N, w ∈ zT) ∧ (∀ k, k < N → parseFieldDescriptor (T k).2.2.1 = some (zty ci k)) ∧ (∀ a, a < N → ∀ b, b < N → a ≠ b → (T a).2.1 ≠ (T b).2.1) := by
  match ci, h with
  | 0, h => cases h; exact ⟨zlay0, tyX0_ok, nmX0⟩
  | 1, h => cases h; exact ⟨zlay1, tyX1_ok, nmX1⟩
  | 2, h => cases h; exact ⟨zlay2, tyX2_ok, nmX2⟩
  | 3, h => cases h; exact ⟨zlay3, tyX3_ok, nmX3⟩
  | 4, h => cases h; exact ⟨zlay4, tyX4_ok, nmX4⟩
  | 5, h => cases h; exact ⟨zlay5, tyX5_ok, nmX5⟩
  | 6, h => cases h; exact ⟨zlay6, tyX6_ok, nmX6⟩
  | 7, h => cases h; exact ⟨zlay7, tyX7_ok, nmX7⟩
  | 8, h => cases h; exact ⟨zlay8, tyX8_ok, nmX8⟩
  | 9, h => cases h; exact ⟨zlay9, tyX9_ok, nmX9⟩
  | 10, h => cases h; exact ⟨zlay10, tyX10_ok, nmX10⟩
  | n + 11, h => exact absurd h (by simp [zcl])
end
section
/-! THE LAYER. All cells stand after the constructors; what changes are numbers: μ family index place. -/
abbrev zV : Type := Int32 ⊕ (Int64 ⊕ zN)
abbrev zMu : Type := Nat → Nat → Nat → Int32
abbrev zI (x : Int32) : zV := .inl x
abbrev zL (x : Int64) : zV := .inr (.inl x)
abbrev zR (f i : Nat) : zV := .inr (.inr (f, i))
def zu (μ : zMu) (f i k : Nat) (v : Int32) : zMu := fun a b c => if a = f ∧ c = k ∧ b = i then v else μ a b c
/-- addresses, classes, array classes, the first new address, the strings' arrays, the script's length and ints -/
abbrev zX : Type := (Nat → Nat → Nat) × va_G × (Nat → ClassId) × Nat × (Nat → Nat) × Nat × (Nat → Int32)
def zA (X : zX) : Nat → Prop := fun q => X.2.2.2.1 ≤ q
def ztr (X : zX) : zV → Value
  | .inl x => .int x
  | .inr (.inl x) => .long x
  | .inr (.inr n) => .ref (X.1 n.1 n.2)
def ztys (X : zX) : List (ClassId × FieldType) := [(X.2.2.1 0, .int), (X.2.2.1 1, .boolean), (X.2.2.1 2, .byte), (X.2.2.1 3, .char), (X.2.2.1 4, .array .int), (X.2.2.1 5, .object RX4), (X.2.2.1 6, .object RX7)]
def zE (X : zX) (μ : zMu) (n : zN) : va_E := match zTab[n.1]? with
  | some (_, .inl (ci, fs)) => .inr (ci, fs.mapIdx (fun k o => match o with
    | none => Value.int (μ n.1 n.2 k)
    | some g => Value.ref (X.1 (g n.2).1 (g n.2).2)))
  | some (_, .inr (.inl (kd, len))) => .inl (X.2.2.1 kd, len, .inl (μ n.1 n.2))
  | some (_, .inr (.inr (kd, len, g))) => .inl (X.2.2.1 kd, len, .inr (.inr (.inr (.inr (fun j => some (X.1 (g n.2 j).1 (g n.2 j).2))))))
  | none => .inr (0, [])
def zAll : List zN := (List.range zTab.length).flatMap fun f => (List.range ((zTab[f]?.map (·.1)).getD 0)).map fun i => (f, i)
def zWs (X : zX) (μ : zMu) : va_W := zAll.map fun n => (X.1 n.1 n.2, zE X μ n)
def zRep (X : zX) (μ : zMu) (U : State) (H : Heap) : Prop := va_K X.2.1 zcl (ztys X) U ∧ va_P X.2.1 zcl (zWs X μ) H ∧ va_D (zA X) (zWs X μ)
/-- the String constants: entry in Tape's file, text -/
def zStr : List (Nat × String) := [(49, "on"), (58, "* 0 1 2 3 4 5 6 7 8 9"), (63, "rank paper name since kind"), (68, "up down"), (73, "if"), (85, "a b not"), (91, "a b"), (96, "."), (101, "rank paper name since kind state tongue"), (106, "= < >"), (79, "and or"), (81, "or"), (83, "and")]
def zLen : List Nat := [2, 21, 26, 7, 2, 7, 3, 1, 39, 5, 6, 2, 3]
def zByt : List (List Int32) := [[111, 110], [42, 32, 48, 32, 49, 32, 50, 32, 51, 32, 52, 32, 53, 32, 54, 32, 55, 32, 56, 32, 57], [114, 97, 110, 107, 32, 112, 97, 112, 101, 114, 32, 110, 97, 109, 101, 32, 115, 105, 110, 99, 101, 32, 107, 105, 110, 100], [117, 112, 32, 100, 111, 119, 110], [105, 102], [97, 32, 98, 32, 110, 111, 116], [97, 32, 98], [46], [114, 97, 110, 107, 32, 112, 97, 112, 101, 114, 32, 110, 97, 109, 101, 32, 115, 105, 110, 99, 101, 32, 107, 105, 110, 100, 32, 115, 116, 97, 116, 101, 32, 116, 111, 110, 103, 117, 101], [61, 32, 60, 32, 62], [97, 110, 100, 32, 111, 114], [111, 114], [97, 110, 100]]
/-- what stays: the strings, the script -/
def zSt (X : zX) (U : State) : Prop := vk_S 13 zLen zByt (X.1 200) X.2.2.2.2.1 (zA X) U U.heap ∧ (∀ (i : Nat) (q : Nat × String), zStr[i]? = some q → vk_R RX8 q.1 q.2 (X.1 200 i) U) ∧ va_Z "java/lang/String" "COMPACT_STRINGS" "Z" (.int 1) (zA X) U U.heap ∧ va_X (X.1 201 0) X.2.2.2.2.2.1 X.2.2.2.2.2.2 U U.heap ∧ X.1 201 0 < U.heap.size ∧ ¬ zA X (X.1 201 0) ∧ X.2.2.2.1 ≤ U.heap.size ∧ va_Zq "jdk/internal/util/Preconditions" "SIOOBE_FORMATTER" "Ljava/util/function/BiFunction;" (zA X) U U.heap
-- ---- worlds by their names
theorem zAll_mem {f i cnt : Nat} {d} (h : zTab[f]? = some (cnt, d)) (hi : i < cnt) : (f, i) ∈ zAll := by
  refine List.mem_flatMap.mpr ⟨f, List.mem_range.mpr (List.getElem?_eq_some_iff.mp h).1, ?_⟩
  refine List.mem_map.mpr ⟨i, ?_, rfl⟩
  rw [h]
  exact List.mem_range.mpr hi
theorem zAll_nodup : zAll.Nodup := by decide +kernel
theorem zWs_at {X : zX} {μ : zMu} {n : zN} {k : Nat} (h : zAll[k]? = some n) : (zWs X μ)[k]? = some (X.1 n.1 n.2, zE X μ n) := by
  unfold zWs
  rw [List.getElem?_map, h]
  rfl
theorem zAll_inj {j k : Nat} {n : zN} (hj : zAll[j]? = some n) (hk : zAll[k]? = some n) : j = k := by
  have h1 := (List.getElem?_eq_some_iff.mp hj)
  have h2 := (List.getElem?_eq_some_iff.mp hk)
  obtain ⟨l1, e1⟩ := h1
  obtain ⟨l2, e2⟩ := h2
  have hp := List.pairwise_iff_getElem.mp zAll_nodup
  rcases Nat.lt_trichotomy j k with h | h | h
  · exact absurd (e1.trans e2.symm) (hp j k l1 l2 h)
  · exact h
  · exact absurd (e2.trans e1.symm) (hp k j l2 l1 h)
theorem zWs_set {X : zX} {μ μ' : zMu} {n : zN} {k : Nat} {e : va_E} (h : zAll[k]? = some n) (he : zE X μ' n = e) (ho : ∀ n' : zN, n' ≠ n → zE X μ' n' = zE X μ n') : (zWs X μ).set k (X.1 n.1 n.2, e) = zWs X μ' := by
  apply List.ext_getElem?
  intro j
  by_cases hj : j = k
  · subst hj
    rw [List.getElem?_set_self (by simpa [zWs] using (List.getElem?_eq_some_iff.mp h).1), zWs_at h, he]
  · rw [List.getElem?_set_ne (Ne.symm hj)]
    cases hn : zAll[j]? with
    | none => simp [zWs, hn]
    | some n' =>
      have hne : n' ≠ n := fun q => hj (zAll_inj (q ▸ hn) h)
      rw [zWs_at hn, zWs_at hn, ho n' hne]
theorem zE_ne {X : zX} {μ μ' : zMu} {n' : zN} (h : ∀ k, μ' n'.1 n'.2 k = μ n'.1 n'.2 k) : zE X μ' n' = zE X μ n' := by
  have h2 : μ' n'.1 n'.2 = μ n'.1 n'.2 := funext h
  unfold zE
  rw [h2]
theorem zu_ne {μ : zMu} {f i k a b c : Nat} {v : Int32} (h : ¬ (a = f ∧ c = k ∧ b = i)) : zu μ f i k v a b c = μ a b c := if_neg h
theorem zu_eq {μ : zMu} {f i k : Nat} {v : Int32} : zu μ f i k v f i k = v := if_pos ⟨rfl, rfl, rfl⟩
theorem zE_zu_ne {X : zX} {μ : zMu} {f i k : Nat} {v : Int32} (n' : zN) (h : n' ≠ (f, i)) : zE X (zu μ f i k v) n' = zE X μ n' := by
  refine zE_ne (fun c => zu_ne (fun q => h ?_))
  exact Prod.ext q.1 q.2.2
theorem zE_obj {X : zX} {μ : zMu} {f i ci cnt : Nat} {fs : List (Option (Nat → zN))} (h : zTab[f]? = some (cnt, .inl (ci, fs))) : zE X μ (f, i) = .inr (ci, fs.mapIdx (fun k o => match o with
    | none => Value.int (μ f i k)
    | some g => Value.ref (X.1 (g i).1 (g i).2))) := by
  simp only [zE, h]
theorem zE_arr {X : zX} {μ : zMu} {f i kd len cnt : Nat} (h : zTab[f]? = some (cnt, .inr (.inl (kd, len)))) : zE X μ (f, i) = .inl (X.2.2.1 kd, len, .inl (μ f i)) := by
  simp only [zE, h]
theorem zE_rfa {X : zX} {μ : zMu} {f i kd len cnt : Nat} {g} (h : zTab[f]? = some (cnt, .inr (.inr (kd, len, g)))) : zE X μ (f, i) = .inl (X.2.2.1 kd, len, .inr (.inr (.inr (.inr (fun j => some (X.1 (g i j).1 (g i j).2)))))) := by
  simp only [zE, h]
theorem zE_put {X : zX} {μ : zMu} {f i ci cnt k : Nat} {fs : List (Option (Nat → zN))} {x : Int32} (h : zTab[f]? = some (cnt, .inl (ci, fs))) (hk : fs[k]? = some none) : zE X (zu μ f i k x) (f, i) = .inr (ci, (fs.mapIdx (fun k o => match o with
    | none => Value.int (μ f i k)
    | some g => Value.ref (X.1 (g i).1 (g i).2))).set k (.int x)) := by
  rw [zE_obj h]
  congr 2
  apply List.ext_getElem?
  intro j
  rw [List.getElem?_mapIdx]
  by_cases hj : j = k
  · subst hj
    rw [List.getElem?_set_self (by simpa using (List.getElem?_eq_some_iff.mp hk).1), hk]
    simp [zu]
  · rw [List.getElem?_set_ne (Ne.symm hj), List.getElem?_mapIdx]
    cases fs[j]? with
    | none => rfl
    | some o => cases o <;> simp [zu, hj]
theorem zE_sto {X : zX} {μ : zMu} {f i kd len cnt k : Nat} {x : Int32} (h : zTab[f]? = some (cnt, .inr (.inl (kd, len)))) : zE X (zu μ f i k x) (f, i) = .inl (X.2.2.1 kd, len, .inl (upd (μ f i) k x)) := by
  rw [zE_arr h]
  have e : zu μ f i k x f i = upd (μ f i) k x := by
    funext j
    simp [zu, upd]
  rw [e]
-- ---- locals
def zlv (X : zX) : Nat → List (Option zV) → List (Nat × Value)
  | _, [] => []
  | i, none :: r => zlv X (i + 1) r
  | i, some v :: r => (i, ztr X v) :: zlv X (i + 1) r
theorem zlv_mem {X : zX} : ∀ (ls : List (Option zV)) (i : Nat) (q : Nat × Value), q ∈ zlv X i ls ↔ ∃ (k : Nat) (v : zV), ls[k]? = some (some v) ∧ q = (i + k, ztr X v)
  | [], i, q => by simp [zlv]
  | none :: r, i, q => by
    rw [zlv, zlv_mem r (i + 1) q]
    constructor
    · rintro ⟨k, v, h, rfl⟩
      exact ⟨k + 1, v, by simpa using h, by rw [Nat.add_assoc, Nat.add_comm 1 k]⟩
    · rintro ⟨k, v, h, rfl⟩
      cases k with
      | zero => simp at h
      | succ k => exact ⟨k, v, by simpa using h, by rw [Nat.add_assoc, Nat.add_comm 1 k]⟩
  | some w :: r, i, q => by
    rw [zlv, List.mem_cons, zlv_mem r (i + 1) q]
    constructor
    · rintro (rfl | ⟨k, v, h, rfl⟩)
      · exact ⟨0, w, rfl, rfl⟩
      · exact ⟨k + 1, v, by simpa using h, by rw [Nat.add_assoc, Nat.add_comm 1 k]⟩
    · rintro ⟨k, v, h, rfl⟩
      cases k with
      | zero =>
        left
        simp at h
        subst h
        rfl
      | succ k => exact Or.inr ⟨k, v, by simpa using h, by rw [Nat.add_assoc, Nat.add_comm 1 k]⟩
def zLv (X : zX) (nL : Nat) (ls : List (Option zV)) (la : Array Slot) : Prop := ls.length ≤ nL ∧ lv_has la nL (zlv X 0 ls)
theorem zLv_at {X : zX} {nL : Nat} {ls : List (Option zV)} {la : Array Slot} (h : zLv X nL ls la) {k : Nat} {v : zV} (hk : ls[k]? = some (some v)) : la[k]? = some (.val (ztr X v)) :=
  h.2.2.2 (k, ztr X v) ((zlv_mem ls 0 _).mpr ⟨k, v, hk, by rw [Nat.zero_add]⟩)
def zok (ls : List (Option zV)) (k : Nat) : Bool := decide (k < ls.length) && (match k with
  | 0 => true
  | j + 1 => match ls[j]? with
    | some (some (.inr (.inl _))) => false
    | _ => true)
theorem zLv_set {X : zX} {nL : Nat} {ls : List (Option zV)} {la la' : Array Slot} {k : Nat} {v : zV} {w : Value} (h : zLv X nL ls la) (ho : zok ls k = true) (hw : w = ztr X v) (h' : lv_has la' nL ((k, w) :: (zlv X 0 ls).filter (fun q => !(q.1 == k) && !(q.1 + 1 == k && q.2.category == 2)))) : zLv X nL (ls.set k (some v)) la' := by
  subst hw
  simp only [zok, Bool.and_eq_true, decide_eq_true_eq] at ho
  refine ⟨by rw [List.length_set]; exact h.1, h'.1, h'.2.1, fun q hq => h'.2.2 q ?_⟩
  obtain ⟨j, u, hj, rfl⟩ := (zlv_mem _ 0 q).mp hq
  rw [Nat.zero_add]
  by_cases hjk : j = k
  · subst hjk
    rw [List.getElem?_set_self ho.1] at hj
    cases hj
    exact List.mem_cons_self
  · rw [List.getElem?_set_ne (Ne.symm hjk)] at hj
    refine List.mem_cons_of_mem _ (List.mem_filter.mpr ⟨(zlv_mem ls 0 _).mpr ⟨j, u, hj, by rw [Nat.zero_add]⟩, ?_⟩)
    simp only [Bool.and_eq_true, Bool.not_eq_true', beq_eq_false_iff_ne, ne_eq, Bool.and_eq_false_imp, beq_iff_eq]
    refine ⟨hjk, fun e => ?_⟩
    subst e
    have h2 := ho.2
    simp only [hj] at h2
    match u, h2 with
    | .inl x, _ => simp [ztr, Value.category]
    | .inr (.inr n), _ => simp [ztr, Value.category]
def zin : List zV → List (Option zV)
  | [] => []
  | .inr (.inl x) :: r => some (.inr (.inl x)) :: none :: zin r
  | v :: r => some v :: zin r
theorem zin_lv {X : zX} : ∀ (as : List zV) (i : Nat) (pad : Nat) (q : Nat × Value), q ∈ zlv X i (zin as ++ List.replicate pad none) → q ∈ lv_args i (as.map (ztr X))
  | [], i, pad, q, h => by
    obtain ⟨k, v, hk, -⟩ := (zlv_mem _ _ _).mp h
    simp only [zin, List.nil_append] at hk
    have := List.mem_of_getElem? hk
    simp at this
  | .inl x :: r, i, pad, q, h => by
    rw [show zin (.inl x :: r) = some (.inl x) :: zin r from rfl, List.cons_append, zlv, List.mem_cons] at h
    rw [List.map_cons, lv_args, List.mem_cons]
    rcases h with h | h
    · exact Or.inl h
    · exact Or.inr (zin_lv r (i + 1) pad q h)
  | .inr (.inr n) :: r, i, pad, q, h => by
    rw [show zin (.inr (.inr n) :: r) = some (.inr (.inr n)) :: zin r from rfl, List.cons_append, zlv, List.mem_cons] at h
    rw [List.map_cons, lv_args, List.mem_cons]
    rcases h with h | h
    · exact Or.inl h
    · exact Or.inr (zin_lv r (i + 1) pad q h)
  | .inr (.inl x) :: r, i, pad, q, h => by
    rw [show zin (.inr (.inl x) :: r) = some (.inr (.inl x)) :: none :: zin r from rfl, List.cons_append, List.cons_append, zlv, zlv, List.mem_cons] at h
    rw [List.map_cons, lv_args, List.mem_cons]
    rcases h with h | h
    · exact Or.inl h
    · exact Or.inr (zin_lv r (i + 1 + 1) pad q h)
end
section
/-! INSTRUCTIONS: what each needs and gives, over names and numbers -/
abbrev zMth : Type := MethodName × ByteArray × Nat × Option FieldType
/-- place, instruction, length, a, b, number, long, switch, method, places of words -/
abbrev zEn : Type := Nat × Instr × Nat × Nat × Nat × Int32 × Int64 × List (Int × Nat) × Option zMth × List Nat
def zpush (r : Option zV) (st : List zV) : List zV := match r with
  | none => st
  | some v => v :: st
def zcat : zV → Nat
  | .inr (.inl _) => 2
  | _ => 1
def zsw (go : Nat → Prop) (x : Int32) : List (Int × Nat) → Nat → Prop
  | [], t => go t
  | (k, t) :: r, u => (x.toInt = k → go t) ∧ (¬ x.toInt = k → zsw go x r u)
/-- an array of numbers: kind, length -/
def zar (f i : Nat) : Option (Nat × Nat) := match zTab[f]? with
  | some (cnt, .inr (.inl (kd, len))) => if i < cnt then some (kd, len) else none
  | _ => none
def zam (f : Nat) : Option (Nat × Nat × Nat) := match zTab[f]? with
  | some (cnt, .inr (.inl (kd, len))) => some (cnt, kd, len)
  | _ => none
def zdo (L : Nat) (xs : Nat → Int32) (rt : Option FieldType) (call : zMth → List zV → zMu → (Option zV → zMu → Prop) → Prop) (K : Option zV → zMu → Prop) (go : Nat → List (Option zV) → List zV → zMu → Prop) (en : zEn) (ls : List (Option zV)) (st : List zV) (μ : zMu) : Prop :=
  match en with
  | (pc, ins, len, a, b, cv, lv, sw, M, _) =>
  match ins with
  | .iconst _ => go (pc + 1) ls (.inl cv :: st) μ
  | .bipush _ => go (pc + 2) ls (.inl cv :: st) μ
  | .sipush _ => go (pc + 3) ls (.inl cv :: st) μ
  | .lconst _ => go (pc + 1) ls (.inr (.inl lv) :: st) μ
  | .ldc _ => match M with
    | none => go (pc + 2) ls (.inl cv :: st) μ
    | some _ => go (pc + 2) ls (.inr (.inr (200, a)) :: st) μ
  | .ldc_w _ => go (pc + 3) ls (.inl cv :: st) μ
  | .ldc2_w _ => go (pc + 3) ls (.inr (.inl lv) :: st) μ
  | .iload k => match ls[k]? with
    | some (some (.inl x)) => go (pc + 2) ls (.inl x :: st) μ
    | _ => False
  | .iload_n k => match ls[(k : Nat)]? with
    | some (some (.inl x)) => go (pc + 1) ls (.inl x :: st) μ
    | _ => False
  | .lload k => match ls[k]? with
    | some (some (.inr (.inl x))) => go (pc + 2) ls (.inr (.inl x) :: st) μ
    | _ => False
  | .lload_n k => match ls[(k : Nat)]? with
    | some (some (.inr (.inl x))) => go (pc + 1) ls (.inr (.inl x) :: st) μ
    | _ => False
  | .aload k => match ls[k]? with
    | some (some (.inr (.inr n))) => go (pc + 2) ls (.inr (.inr n) :: st) μ
    | _ => False
  | .aload_n k => match ls[(k : Nat)]? with
    | some (some (.inr (.inr n))) => go (pc + 1) ls (.inr (.inr n) :: st) μ
    | _ => False
  | .istore k => match st with
    | .inl x :: r => zok ls k = true ∧ go (pc + 2) (ls.set k (some (.inl x))) r μ
    | _ => False
  | .istore_n k => match st with
    | .inl x :: r => zok ls (k : Nat) = true ∧ go (pc + 1) (ls.set (k : Nat) (some (.inl x))) r μ
    | _ => False
  | .astore k => match st with
    | .inr (.inr n) :: r => zok ls k = true ∧ go (pc + 2) (ls.set k (some (.inr (.inr n)))) r μ
    | _ => False
  | .astore_n k => match st with
    | .inr (.inr n) :: r => zok ls (k : Nat) = true ∧ go (pc + 1) (ls.set (k : Nat) (some (.inr (.inr n)))) r μ
    | _ => False
  | .iinc k _ => match ls[k]? with
    | some (some (.inl x)) => zok ls k = true ∧ go (pc + 3) (ls.set k (some (.inl (x + cv)))) st μ
    | _ => False
  | .iadd => match st with
    | .inl y :: .inl x :: r => go (pc + 1) ls (.inl (x + y) :: r) μ
    | _ => False
  | .isub => match st with
    | .inl y :: .inl x :: r => go (pc + 1) ls (.inl (x - y) :: r) μ
    | _ => False
  | .imul => match st with
    | .inl y :: .inl x :: r => go (pc + 1) ls (.inl (x * y) :: r) μ
    | _ => False
  | .iand => match st with
    | .inl y :: .inl x :: r => go (pc + 1) ls (.inl (x &&& y) :: r) μ
    | _ => False
  | .ior => match st with
    | .inl y :: .inl x :: r => go (pc + 1) ls (.inl (x ||| y) :: r) μ
    | _ => False
  | .ineg => match st with
    | .inl x :: r => go (pc + 1) ls (.inl (-x) :: r) μ
    | _ => False
  | .ishl => match st with
    | .inl y :: .inl x :: r => go (pc + 1) ls (.inl (x <<< (y &&& 31)) :: r) μ
    | _ => False
  | .ishr => match st with
    | .inl y :: .inl x :: r => go (pc + 1) ls (.inl (x >>> (y &&& 31)) :: r) μ
    | _ => False
  | .iushr => match st with
    | .inl y :: .inl x :: r => go (pc + 1) ls (.inl (x.toUInt32 >>> (y.toUInt32 &&& Int32.toUInt32 31)).toInt32 :: r) μ
    | _ => False
  | .i2l => match st with
    | .inl x :: r => go (pc + 1) ls (.inr (.inl x.toInt64) :: r) μ
    | _ => False
  | .l2i => match st with
    | .inr (.inl x) :: r => go (pc + 1) ls (.inl x.toInt32 :: r) μ
    | _ => False
  | .i2b => match st with
    | .inl x :: r => go (pc + 1) ls (.inl x.toInt8.toInt32 :: r) μ
    | _ => False
  | .land => match st with
    | .inr (.inl y) :: .inr (.inl x) :: r => go (pc + 1) ls (.inr (.inl (x &&& y)) :: r) μ
    | _ => False
  | .lor => match st with
    | .inr (.inl y) :: .inr (.inl x) :: r => go (pc + 1) ls (.inr (.inl (x ||| y)) :: r) μ
    | _ => False
  | .lshl => match st with
    | .inl y :: .inr (.inl x) :: r => go (pc + 1) ls (.inr (.inl (x <<< (y.toInt64 &&& 63))) :: r) μ
    | _ => False
  | .lshr => match st with
    | .inl y :: .inr (.inl x) :: r => go (pc + 1) ls (.inr (.inl (x >>> (y.toInt64 &&& 63))) :: r) μ
    | _ => False
  | .lushr => match st with
    | .inl y :: .inr (.inl x) :: r => go (pc + 1) ls (.inr (.inl (x.toUInt64 >>> (y.toInt64.toUInt64 &&& Int64.toUInt64 63)).toInt64) :: r) μ
    | _ => False
  | .lcmp => match st with
    | .inr (.inl y) :: .inr (.inl x) :: r => go (pc + 1) ls (.inl (lg_cmp x y) :: r) μ
    | _ => False
  | .dup => match st with
    | .inl x :: r => go (pc + 1) ls (.inl x :: .inl x :: r) μ
    | .inr (.inr n) :: r => go (pc + 1) ls (.inr (.inr n) :: .inr (.inr n) :: r) μ
    | _ => False
  | .dup2 => match st with
    | .inl x :: .inr (.inr n) :: r => go (pc + 1) ls (.inl x :: .inr (.inr n) :: .inl x :: .inr (.inr n) :: r) μ
    | _ => False
  | .pop => match st with
    | .inl _ :: r => go (pc + 1) ls r μ
    | _ => False
  | .goto _ => go a ls st μ
  | .ifCond c _ => match st with
    | .inl x :: r => match c with
      | .eq => (x = 0 → go a ls r μ) ∧ (¬ x = 0 → go (pc + 3) ls r μ)
      | .ne => (¬ x = 0 → go a ls r μ) ∧ (x = 0 → go (pc + 3) ls r μ)
      | .lt => (x < 0 → go a ls r μ) ∧ (¬ x < 0 → go (pc + 3) ls r μ)
      | .ge => (0 ≤ x → go a ls r μ) ∧ (¬ 0 ≤ x → go (pc + 3) ls r μ)
      | .gt => (0 < x → go a ls r μ) ∧ (¬ 0 < x → go (pc + 3) ls r μ)
      | .le => (x ≤ 0 → go a ls r μ) ∧ (¬ x ≤ 0 → go (pc + 3) ls r μ)
    | _ => False
  | .if_icmp c _ => match st with
    | .inl y :: .inl x :: r => match c with
      | .eq => (x = y → go a ls r μ) ∧ (¬ x = y → go (pc + 3) ls r μ)
      | .ne => (¬ x = y → go a ls r μ) ∧ (x = y → go (pc + 3) ls r μ)
      | .lt => (x < y → go a ls r μ) ∧ (¬ x < y → go (pc + 3) ls r μ)
      | .ge => (y ≤ x → go a ls r μ) ∧ (¬ y ≤ x → go (pc + 3) ls r μ)
      | .gt => (y < x → go a ls r μ) ∧ (¬ y < x → go (pc + 3) ls r μ)
      | .le => (x ≤ y → go a ls r μ) ∧ (¬ x ≤ y → go (pc + 3) ls r μ)
    | _ => False
  | .tableswitch _ _ _ _ => match st with
    | .inl x :: r => zsw (fun t => go t ls r μ) x sw a
    | _ => False
  | .lookupswitch _ _ => match st with
    | .inl x :: r => zsw (fun t => go t ls r μ) x sw a
    | _ => False
  | .getfield _ => match st with
    | .inr (.inr (f, i)) :: r => match zTab[f]? with
      | some (cnt, .inl (ci, fs)) => i < cnt ∧ ci = a ∧ (match fs[b]? with
        | some none => go (pc + 3) ls (.inl (μ f i b) :: r) μ
        | some (some g) => go (pc + 3) ls (.inr (.inr (g i)) :: r) μ
        | none => False)
      | _ => False
    | _ => False
  | .putfield _ => match st with
    | .inl x :: .inr (.inr (f, i)) :: r => match zTab[f]? with
      | some (cnt, .inl (ci, fs)) => i < cnt ∧ ci = a ∧ fs[b]? = some none ∧ (cv = 0 ∨ x = 0 ∨ x = 1) ∧ go (pc + 3) ls r (zu μ f i b x)
      | _ => False
    | _ => False
  | .arraylength => match st with
    | .inr (.inr (f, i)) :: r => if f = 201 then i = 0 ∧ go (pc + 1) ls (.inl (Int32.ofNat L) :: r) μ else match zam f with
      | some (cnt, _, len) => i < cnt ∧ go (pc + 1) ls (.inl (Int32.ofNat len) :: r) μ
      | none => False
    | _ => False
  | .iaload => match st with
    | .inl j :: .inr (.inr (f, i)) :: r => if f = 201 then i = 0 ∧ vp_in j L ∧ go (pc + 1) ls (.inl (xs j.toNatClampNeg) :: r) μ else match zam f with
      | some (cnt, 0, len) => i < cnt ∧ vp_in j len ∧ go (pc + 1) ls (.inl (μ f i j.toNatClampNeg) :: r) μ
      | _ => False
    | _ => False
  | .baload => match st with
    | .inl j :: .inr (.inr (f, i)) :: r => match zam f with
      | some (cnt, 1, len) => i < cnt ∧ vp_in j len ∧ go (pc + 1) ls (.inl (μ f i j.toNatClampNeg) :: r) μ
      | some (cnt, 2, len) => i < cnt ∧ vp_in j len ∧ go (pc + 1) ls (.inl (μ f i j.toNatClampNeg) :: r) μ
      | _ => False
    | _ => False
  | .caload => match st with
    | .inl j :: .inr (.inr (f, i)) :: r => match zam f with
      | some (cnt, 3, len) => i < cnt ∧ vp_in j len ∧ go (pc + 1) ls (.inl (μ f i j.toNatClampNeg) :: r) μ
      | _ => False
    | _ => False
  | .aaload => match st with
    | .inl j :: .inr (.inr (f, i)) :: r => match zTab[f]? with
      | some (cnt, .inr (.inr (_, len, g))) => i < cnt ∧ vp_in j len ∧ go (pc + 1) ls (.inr (.inr (g i j.toNatClampNeg)) :: r) μ
      | _ => False
    | _ => False
  | .iastore => match st with
    | .inl x :: .inl j :: .inr (.inr (f, i)) :: r => match zam f with
      | some (cnt, 0, len) => i < cnt ∧ vp_in j len ∧ go (pc + 1) ls r (zu μ f i j.toNatClampNeg x)
      | _ => False
    | _ => False
  | .bastore => match st with
    | .inl x :: .inl j :: .inr (.inr (f, i)) :: r => match zam f with
      | some (cnt, 1, len) => i < cnt ∧ vp_in j len ∧ go (pc + 1) ls r (zu μ f i j.toNatClampNeg (vp_nar .boolean x))
      | some (cnt, 2, len) => i < cnt ∧ vp_in j len ∧ go (pc + 1) ls r (zu μ f i j.toNatClampNeg (vp_nar .byte x))
      | _ => False
    | _ => False
  | .invokevirtual _ => match M with
    | some M => match st.drop b with
      | .inr (.inr (f, i)) :: r => (if f = 200 then a = 50 ∧ i < 13 else match zTab[f]? with
          | some (cnt, .inl (ci, _)) => i < cnt ∧ ci = a
          | _ => False) ∧ (r.map zcat).sum ≤ 8 ∧ call M (.inr (.inr (f, i)) :: (st.take b).reverse) μ (fun q μ' => go (pc + 3) ls (zpush q r) μ')
      | _ => False
    | none => False
  | .invokestatic _ => match M with
    | some M => b ≤ st.length ∧ ((st.drop b).map zcat).sum ≤ 8 ∧ call M (st.take b).reverse μ (fun q μ' => go (pc + 3) ls (zpush q (st.drop b)) μ')
    | none => match st with
      | .inl n :: .inl dp :: .inr (.inr (f1, i1)) :: .inl sp :: .inr (.inr (f0, i0)) :: r => match zam f0, zam f1 with
        | some (cnt0, 0, n0), some (cnt1, 0, n1) => i0 < cnt0 ∧ i1 < cnt1 ∧ ¬ sp < 0 ∧ ¬ dp < 0 ∧ ¬ n < 0 ∧ sp.toNatClampNeg + n.toNatClampNeg ≤ n0 ∧ dp.toNatClampNeg + n.toNatClampNeg ≤ n1 ∧ (r.map zcat).sum ≤ 8 ∧ go (pc + 3) ls r (fun f i k => if f = f1 ∧ i = i1 ∧ dp.toNatClampNeg ≤ k ∧ k < dp.toNatClampNeg + n.toNatClampNeg then μ f0 i0 (sp.toNatClampNeg + (k - dp.toNatClampNeg)) else μ f i k)
        | _, _ => False
      | _ => False
  | .ireturn => match st with
    | [.inl x] => (rt = some .int ∨ (rt = some .boolean ∧ (x = 0 ∨ x = 1))) ∧ K (some (.inl x)) μ
    | _ => False
  | .return_ => match st with
    | [] => rt = none ∧ K none μ
    | _ => False
  | _ => False
/-- the word at a place of the tables -/
def zwd (h : List Nat) (k : Nat) (w : Cond) : Bool := match h[k]? with
  | some j => decide (lw_tbl[j]? = some w)
  | none => false
def zcn : Nat → String := fun c => if c = 50 then "java/lang/String" else (zcl[c]?.map (·.1)).getD ""
def zlink (own : String) (pc : Nat) (ins : Instr) (len a b : Nat) (cv : Int32) (lv : Int64) (sw : List (Int × Nat)) (M : Option zMth) (h : List Nat) : Bool :=
  match ins with
  | .iload _ | .lload _ | .aload _ | .istore _ | .astore _ => decide (len = 2)
  | .iconst n => decide (len = 1) && decide (Int32.ofInt n = cv)
  | .bipush n => decide (len = 2) && decide ((Int8.ofInt n).toInt32 = cv)
  | .sipush n => decide (len = 3) && decide ((Int16.ofInt n).toInt32 = cv)
  | .lconst n => decide (len = 1) && decide (Int64.ofNat (n : Nat) = lv)
  | .iinc _ n => decide (len = 3) && decide (Int32.ofInt n = cv)
  | .ldc i => decide (len = 2) && (match M with
    | none => zwd h 0 (.constant own i cv)
    | some _ => decide (own = RX8) && decide (zStr[a]?.map (·.1) = some i))
  | .ldc_w i => decide (len = 3) && zwd h 0 (.constant own i cv)
  | .ldc2_w i => decide (len = 3) && zwd h 0 (.constantLong own i lv)
  | .goto o | .ifCond _ o | .if_icmp _ o => decide (len = 3) && decide ((pc : Int) + o = (a : Int))
  | .tableswitch df lo hi offs => decide ((pc : Int) + df = (a : Int)) && decide (hi - lo + 1 = sw.length) && decide (sw.length = offs.size) && decide (0 < sw.length) && (List.range sw.length).all (fun j => match sw[j]?, offs[j]? with
    | some (k, t), some o => decide (k = lo + j) && decide ((pc : Int) + o = (t : Int))
    | _, _ => false)
  | .lookupswitch df ps => decide ((pc : Int) + df = (a : Int)) && (ps.toList.zip (ps.toList.drop 1)).all (fun (a, next) => decide (a.1 < next.1)) && decide (sw.map (fun q => (q.1, (q.2 : Int))) = ps.toList.map (fun q => (q.1, (pc : Int) + q.2)))
  | .getfield i => decide (len = 3) && (match zcl[a]? with
    | some (_, T, N) => decide (b < N) && zwd h 0 (.fieldLink own i (T b).1 (T b).2.1 (T b).2.2.1)
    | none => false)
  | .putfield i => decide (len = 3) && (match zcl[a]? with
    | some (_, T, N) => decide (b < N) && zwd h 0 (.fieldLink own i (T b).1 (T b).2.1 (T b).2.2.1) && !(T b).2.2.2 && (decide (zty a b = .int) || (decide (zty a b = .boolean) && decide (cv = 1)))
    | none => false)
  | .invokevirtual i => decide (len = 3) && (match M with
    | some (y, bt, mL, rt) => zwd h 0 (.methodLink own i y) && zwd h 1 (.instanceMethod y) && zwd h 2 (.selects y.cls y y) && zwd h 3 (.initialized y.cls) && zwd h 4 (.code y bt mL rt) && decide (y.cls = zcn a) && decide (y.cls ≠ "java/lang/invoke/MethodHandle") && decide (y.cls ≠ "java/lang/invoke/VarHandle") && decide ((parseMethodDescriptor y.desc).map (fun d => d.parameters.length) = some b) && decide (mL ≤ 40)
    | none => false)
  | .invokestatic i => decide (len = 3) && (match M with
    | some (y, bt, mL, rt) => zwd h 0 (.methodLink own i y) && zwd h 1 (.static y) && zwd h 2 (.initialized y.cls) && zwd h 3 (.code y bt mL rt) && decide (y.cls ≠ "java/lang/invoke/MethodHandle") && decide (y.cls ≠ "java/lang/invoke/VarHandle") && decide ((parseMethodDescriptor y.desc).map (fun d => d.parameters.length) = some b) && decide (mL ≤ 40)
    | none => zwd h 0 (.methodLink own i arraycopyName) && zwd h 1 (.native arraycopyName) && zwd h 2 (.static arraycopyName) && zwd h 3 (.initialized "java/lang/System"))
  | _ => decide (len = 1)
def zchk (own : String) (cc : ByteArray) (en : zEn) : Bool := match en with
  | (pc, ins, len, a, b, cv, lv, sw, M, h) => decide (decode cc pc = .ok (ins, len)) && zlink own pc ins len a b cv lv sw M h
def zfet (P : List zEn) (pc : Nat) : Option zEn := P.find? (fun e => Nat.beq e.1 pc)
-- ---- contracts
def zrm (d : Nat) : Room := { frames := d + 1, cells := 0, slots := 0, locals := 100 * (d + 1) }
def zws (M : zMth) : List Cond := .code M.1 M.2.1 M.2.2.1 M.2.2.2 :: zT
def zPc (X : zX) (as : List zV) (μ : zMu) : Array Value → State → Prop := va_Pc (as.map (ztr X)) (fun U => zSt X U ∧ zRep X μ U U.heap)
def zQc (X : zX) (K : Option zV → zMu → Prop) : Array Value → State → Outcome → State → Prop := fun _ st oc t => (∃ (r : Option zV) (μ' : zMu), oc = .returned (r.map (ztr X)) ∧ K r μ' ∧ zRep X μ' t t.heap) ∧ va_F (zA X) st t
/-- by a recursion that never goes on: so nothing unfolds it by itself -/
def Ct0 (n d : Nat) (M : zMth) (as : List zV) (μ : zMu) (K : Option zV → zMu → Prop) : Prop := if n = 0 then ∀ (l : Launch) (X : zX), Met l M.1 (zws M) (zrm d) (zPc X as μ) (zQc X K) 0 0 (zA X) else Ct0 (n - 1) d M as μ K
termination_by n
decreasing_by omega
abbrev Ct (d : Nat) (M : zMth) (as : List zV) (μ : zMu) (K : Option zV → zMu → Prop) : Prop := Ct0 0 d M as μ K
theorem Ct_iff {d : Nat} {M : zMth} {as : List zV} {μ : zMu} {K : Option zV → zMu → Prop} : Ct d M as μ K ↔ ∀ (l : Launch) (X : zX), Met l M.1 (zws M) (zrm d) (zPc X as μ) (zQc X K) 0 0 (zA X) := by
  unfold Ct Ct0
  rw [if_pos rfl]
def zOK (M : zMth) (P : List zEn) : Prop := P.all (zchk M.1.cls M.2.1) = true
def zCa (d : Nat) : zMth → List zV → zMu → (Option zV → zMu → Prop) → Prop := match d with
  | 0 => fun _ _ _ _ => False
  | d + 1 => fun M as μ K => Ct d M as μ K
end
section
/-! SOUNDNESS of the instructions -/
theorem zwd_in {h : List Nat} {k : Nat} {w : Cond} (e : zwd h k w = true) : w ∈ lw_tbl := by
  unfold zwd at e
  split at e
  · exact List.mem_of_getElem? (of_decide_eq_true e)
  · cases e
theorem zT_of {h : List Nat} {k : Nat} {w : Cond} (e : zwd h k w = true) (g : goodWord w = true) : w ∈ zT := List.mem_filter.mpr ⟨zwd_in e, g⟩
theorem zT_good : GoodIn zT zT := fun w hw => ⟨hw, good_of_word (List.mem_filter.mp hw).2⟩
theorem zRfa {f cnt kd len : Nat} {g} (h : zTab[f]? = some (cnt, .inr (.inr (kd, len, g)))) : kd = 4 ∨ kd = 5 ∨ kd = 6 := by
  have h1 : zTab.all (fun e => match e.2 with
    | .inr (.inr q) => decide (q.1 = 4 ∨ q.1 = 5 ∨ q.1 = 6)
    | _ => true) = true := by decide +kernel
  have h2 := List.all_eq_true.mp h1 _ (List.mem_of_getElem? h)
  simpa using h2
theorem zRmov {X : zX} {μ : zMu} {u U : State} {H : Heap} (hv : u.vm.Alike U.vm) (h : zRep X μ u H) : zRep X μ U H := ⟨va_K.moved hv h.1, h.2⟩
theorem zSmov {X : zX} {u U : State} {locs : List Loc} (hv : u.vm.Alike U.vm) (hw : ∀ (own tx : String) (k a : Nat), vk_R own k tx a u → vk_R own k tx a U) (hS : va_S (zA X) u.heap U.heap locs) (h : zSt X u) : zSt X U := by
  obtain ⟨h1, h2, h3, h4, h5, h6, h7, h8⟩ := h
  refine ⟨vk_S.moved hv (h1.kept hS.2.1), fun i q hq => hw _ _ _ _ (h2 i q hq), va_Z.moved hv (h3.kept hS.2.1), va_X.moved hv (h4.kept (hS.2.1 _ h5 h6)), Nat.lt_of_lt_of_le h5 hS.1, h6, Nat.le_trans h7 hS.1, va_Zq.moved hv (h8.kept hS.2.1)⟩
def zfv (X : zX) (μ : zMu) (f n b : Nat) (o : Option (Nat → zN)) : Value := match o with
  | none => Value.int (μ f n b)
  | some g => Value.ref (X.1 (g n).1 (g n).2)
section ZS
variable {X : zX} {p : Program} {l : Launch} {e : Env} {R : Room} {s : State} {m : MethodId} {args : Array Value} {below : List Frame} {meth : Method} {c : Code} {cells slots : Nat} {Q : State → Prop}
variable {own : String} {cc : ByteArray} {nL d : Nat} {rt : Option FieldType} {H : Heap} {locs : List Loc} {la : Array Slot} {μ : zMu} {pc : Nat} {rest : List Value}
def zCx (X : zX) (p : Program) (R : Room) (s : State) (m : MethodId) (args : Array Value) (meth : Method) (c : Code) (cells slots : Nat) (own : String) (cc : ByteArray) (nL d : Nat) (rt : Option FieldType) : Prop :=
  p.tables.exec = Jvm.exec ∧ c.code = cc ∧ c.maxLocals = nL ∧ s.vm.findClass own = some m.cls ∧ (∀ w ∈ zT, w.before args s = true) ∧ meth.sig.returnType = rt ∧ meth.locks = false ∧ zSt X s ∧ d + 1 ≤ R.frames ∧ 100 * (d + 1) ≤ R.locals ∧ cells ≤ R.cells ∧ slots ≤ R.slots
theorem zs_get (C : zCx X p R s m args meth c cells slots own cc nL d rt) (hR : zRep X μ s H) {f n b cnt ci i N : Nat} {Cn : String} {T : u_T} {fs : List (Option (Nat → zN))} {o : Option (Nat → zN)} (ht : zTab[f]? = some (cnt, .inl (ci, fs))) (hn : n < cnt) (hcl : zcl[ci]? = some (Cn, T, N)) (hbN : b < N) (hw : Cond.fieldLink own i (T b).1 (T b).2.1 (T b).2.2.1 ∈ zT) (hf : fs[b]? = some o) (hdg : decode cc pc = .ok (.getfield i, 3))
    (kk : W p l e R s m args below meth c H locs cells slots Q (F0 m (pc + 3) la (zfv X μ f n b o :: rest))) : W p l e R s m args below meth c H locs cells slots Q (F0 m pc la (.ref (X.1 f n) :: rest)) := by
  obtain ⟨hx, hb, hml, hown, hts, hr, hlocks, hst, -⟩ := C
  obtain ⟨hK, hP, hD⟩ := hR
  obtain ⟨k, hk⟩ := List.getElem?_of_mem (zAll_mem ht hn)
  have he := zWs_at (X := X) (μ := μ) hk
  rw [zE_obj ht] at he
  refine va_get hx hb hts (zlay hcl).1 hown hK hP k he hcl b hbN (hts _ hw) (fun _ h => h) ?_ hdg kk
  rw [List.getElem?_mapIdx, hf]
  cases o <;> rfl
theorem zs_put (C : zCx X p R s m args meth c cells slots own cc nL d rt) (hR : zRep X μ s H) (hS : va_S (zA X) s.heap H locs) {f n b cnt ci i N : Nat} {Cn : String} {T : u_T} {fs : List (Option (Nat → zN))} {x : Int32} (ht : zTab[f]? = some (cnt, .inl (ci, fs))) (hn : n < cnt) (hcl : zcl[ci]? = some (Cn, T, N)) (hbN : b < N) (hw : Cond.fieldLink own i (T b).1 (T b).2.1 (T b).2.2.1 ∈ zT) (hfin : (T b).2.2.2 = false) (hf : fs[b]? = some none) (hty : zty ci b = .int ∨ (zty ci b = .boolean ∧ (x = 0 ∨ x = 1))) (hdg : decode cc pc = .ok (.putfield i, 3))
    (kk : ∀ (H1 : Heap) (locs1 : List Loc), zRep X (zu μ f n b x) s H1 → va_S (zA X) s.heap H1 locs1 → W p l e R s m args below meth c H1 locs1 cells slots Q (F0 m (pc + 3) la rest)) : W p l e R s m args below meth c H locs cells slots Q (F0 m pc la (.int x :: .ref (X.1 f n) :: rest)) := by
  obtain ⟨hx, hb, hml, hown, hts, hr, hlocks, hst, -⟩ := C
  obtain ⟨hK, hP, hD⟩ := hR
  obtain ⟨k, hk⟩ := List.getElem?_of_mem (zAll_mem ht hn)
  have he := zWs_at (X := X) (μ := μ) hk
  rw [zE_obj ht] at he
  have hse := zWs_set (X := X) (μ := μ) (μ' := zu μ f n b x) hk (zE_put ht hf) (fun n' hn' => zE_zu_ne n' hn')
  have hfit : narrow (zty ci b) (.int x) = .int x ∧ fits (zty ci b) (.int x) = true := by
    rcases hty with h | ⟨h, h2⟩
    · rw [h]; exact ⟨rfl, rfl⟩
    · rw [h]
      rcases h2 with rfl | rfl <;> exact ⟨rfl, rfl⟩
  refine va_put hx hb hts (zlay hcl).1 (zty ci) (zlay hcl).2.1 (zlay hcl).2.2 hown hK hP hD hS k he hcl b hbN (hts _ hw) (fun _ h => h) hfin ((zlay hcl).2.1 b hbN) hfit.1 hfit.2 ?_ hdg (fun H1 locs1 hP1 hD1 hS1 => ?_)
  · simpa using (List.getElem?_eq_some_iff.mp hf).1
  · rw [hse] at hP1 hD1
    exact kk H1 locs1 ⟨hK, hP1, hD1⟩ hS1
theorem zar_of {f i kd len : Nat} (h : zar f i = some (kd, len)) : ∃ cnt, zTab[f]? = some (cnt, .inr (.inl (kd, len))) ∧ i < cnt := by
  unfold zar at h
  split at h
  · rename_i cnt kd' len' ht
    split at h
    · rename_i hc
      cases h
      exact ⟨cnt, ht, hc⟩
    · cases h
  · cases h
theorem zam_zar {f i cnt kd len : Nat} (h : zam f = some (cnt, kd, len)) (hi : i < cnt) : zar f i = some (kd, len) := by
  unfold zam at h
  unfold zar
  split at h
  · cases h
    exact if_pos hi
  · cases h
theorem zar_at {f i kd len : Nat} (h : zar f i = some (kd, len)) : ∃ k : Nat, zAll[k]? = some (f, i) ∧ (zWs X μ)[k]? = some (X.1 f i, (Sum.inl (X.2.2.1 kd, len, Sum.inl (μ f i)) : va_E)) := by
  obtain ⟨cnt, ht, hi⟩ := zar_of h
  obtain ⟨k, hk⟩ := List.getElem?_of_mem (zAll_mem ht hi)
  refine ⟨k, hk, ?_⟩
  rw [zWs_at hk, zE_arr ht]
theorem zar_set {f i kd len j : Nat} {x : Int32} {k : Nat} (h : zar f i = some (kd, len)) (hk : zAll[k]? = some (f, i)) : (zWs X μ).set k (X.1 f i, .inl (X.2.2.1 kd, len, .inl (upd (μ f i) j x))) = zWs X (zu μ f i j x) := by
  obtain ⟨cnt, ht, hi⟩ := zar_of h
  exact zWs_set hk (zE_sto ht) (fun n' hn' => zE_zu_ne n' hn')
theorem zs_aald (C : zCx X p R s m args meth c cells slots own cc nL d rt) (hR : zRep X μ s H) {f n cnt kd len : Nat} {g : Nat → Nat → zN} {j : Int32} (ht : zTab[f]? = some (cnt, .inr (.inr (kd, len, g)))) (hn : n < cnt) (hin : vp_in j len) (hdg : decode cc pc = .ok (.aaload, 1))
    (kk : W p l e R s m args below meth c H locs cells slots Q (F0 m (pc + 1) la (.ref (X.1 (g n j.toNatClampNeg).1 (g n j.toNatClampNeg).2) :: rest))) : W p l e R s m args below meth c H locs cells slots Q (F0 m pc la (.int j :: .ref (X.1 f n) :: rest)) := by
  obtain ⟨hx, hb, hml, hown, hts, hr, hlocks, hst, -⟩ := C
  obtain ⟨hK, hP, hD⟩ := hR
  obtain ⟨k, hk⟩ := List.getElem?_of_mem (zAll_mem ht hn)
  have he := zWs_at (X := X) (μ := μ) hk
  rw [zE_rfa ht] at he
  have hc : H[X.1 f n]? = some (arrV (X.2.2.1 kd) len (fun q => Value.ref (X.1 (g n q).1 (g n q).2))) := hP k _ he
  have hty : ∃ ty, (ztys X)[kd]? = some (X.2.2.1 kd, ty) ∧ ty.isReference = true := by
    rcases zRfa ht with rfl | rfl | rfl
    · exact ⟨_, rfl, rfl⟩
    · exact ⟨_, rfl, rfl⟩
    · exact ⟨_, rfl, rfl⟩
  obtain ⟨ty, hty1, hty2⟩ := hty
  have hj : j.toNatClampNeg < len := by
    have := hin
    unfold vp_in at this
    omega
  have hsz : (arrV (X.2.2.1 kd) len (fun q => Value.ref (X.1 (g n q).1 (g n q).2))).slots.size = len := by simp [arrV]
  refine W.aald hx hb hc ((hK.2 kd _ hty1).1 _ _) hty2 (by simp [arrV]) (by rw [hsz]; exact hin) (v := .ref (X.1 (g n j.toNatClampNeg).1 (g n j.toNatClampNeg).2)) ?_ rfl rfl hdg kk
  simp [arrV, hj]
/-- behind a call -/
theorem zs_back {as : List zV} {a : Array Value} {st0 : List Value} {r : List zV} {K : Option zV → zMu → Prop} (hr : va_Run p l e R s m args below meth c H locs cells slots 0 0 (F0 m pc la st0) (r.map (ztr X)) (zQc X K a) (zA X)) (hS : va_S (zA X) s.heap H locs)
    (kk : ∀ (q : Option zV) (μ' : zMu) (H1 : Heap) (locs1 : List Loc), K q μ' → zRep X μ' s H1 → va_S (zA X) s.heap H1 locs1 → W p l e R s m args below meth c H1 locs1 cells slots Q (F0 m (pc + 3) la ((zpush q r).map (ztr X)))) : W p l e R s m args below meth c H locs cells slots Q (F0 m pc la st0) := by
  intro T hT Z
  obtain ⟨v, st₀, t, T', L, h0, Z', hL, e1, e2, ⟨⟨q, μ', hv, hk, hrep⟩, hz, hkeep⟩, st⟩ := hr T hT Z
  rw [h0] at hz hkeep
  have hal : s.vm.Alike t.vm := by rw [← e2]; exact Z'.warmed.alike
  have hrep' : zRep X μ' s T'.heap := by rw [e1]; exact zRmov hal.symm hrep
  have hS' : va_S (zA X) s.heap T'.heap (locs ++ L) := ⟨Nat.le_trans hS.1 (by rw [e1]; exact hz), fun a h1 h2 => by rw [e1, hkeep a (Nat.lt_of_lt_of_le h1 hS.1) h2]; exact hS.2.1 a h1 h2, fun a ha => by
    rcases List.mem_append.mp ha with h | h
    · exact hS.2.2 a h
    · exact hL a h⟩
  obtain ⟨t2, a1, b1⟩ := kk q μ' T'.heap (locs ++ L) hk hrep' hS' T' rfl Z'
  refine ⟨t2, st t2 ?_, b1⟩
  have hv' : v = q.map (ztr X) := by
    cases hv
    rfl
  rw [hv']
  cases q with
  | none => exact a1
  | some w => exact a1
theorem zcat_sum (r : List zV) : ((r.map (ztr X)).map fun v => v.category).sum = (r.map zcat).sum := by
  rw [List.map_map]
  congr 1
  apply List.map_congr_left
  intro v _
  match v with
  | .inl x => rfl
  | .inr (.inl x) => rfl
  | .inr (.inr n) => rfl
theorem zPc_blind {as : List zV} : FrameBlind (zPc X as μ) := by
  intro a U g mk h
  obtain ⟨h1, h2, h3⟩ := h
  exact ⟨h1, zSmov (locs := []) (U := U.calling g mk a) (Vm.Alike.refl U.vm) (fun _ _ _ _ h => vk_R.same rfl h) ⟨Nat.le_refl _, fun _ _ _ => rfl, fun _ h => by cases h⟩ h2, zRmov (U := U.calling g mk a) (Vm.Alike.refl U.vm) h3⟩
theorem zPc_at {as : List zV} {U : State} (hst : zSt X s) (hR : zRep X μ s H) (hS : va_S (zA X) s.heap H locs) (hU : U.heap = H) (hW : s.WarmedH U.vm) : zPc X as μ (as.map (ztr X)).toArray U := by
  subst hU
  exact ⟨rfl, zSmov hW.alike (fun _ _ _ _ h => vk_R.warm hW h) hS hst, zRmov hW.alike hR⟩
theorem zGood {M : zMth} {ws : List Cond} (hc : Cond.code M.1 M.2.1 M.2.2.1 M.2.2.2 ∈ zT) (h : ∀ w ∈ ws, w ∈ zT) : GoodIn zT (ws ++ zws M) := by
  intro w hw
  rcases List.mem_append.mp hw with hw | hw
  · exact zT_good w (h w hw)
  · rcases List.mem_cons.mp hw with rfl | hw
    · exact zT_good _ hc
    · exact zT_good w hw
theorem zs_virt (C : zCx X p R s m args meth c cells slots own cc nL d rt) (hR : zRep X μ s H) (hS : va_S (zA X) s.heap H locs) {ls : List (Option zV)} (hl : zLv X nL ls la) {f i idx : Nat} {M : zMth} {as r : List zV} {K : Option zV → zMu → Prop} (hrc : ∃ cellB : Cell, H[X.1 f i]? = some cellB ∧ cellB.vm.isStatics = false ∧ s.vm.findClass M.1.cls = some cellB.cls)
    (h0 : Cond.methodLink own idx M.1 ∈ zT) (h1 : Cond.instanceMethod M.1 ∈ zT) (h2 : Cond.selects M.1.cls M.1 M.1 ∈ zT) (h3 : Cond.initialized M.1.cls ∈ zT) (h4 : Cond.code M.1 M.2.1 M.2.2.1 M.2.2.2 ∈ zT) (hd : M.1.cls ≠ "java/lang/invoke/MethodHandle" ∧ M.1.cls ≠ "java/lang/invoke/VarHandle" ∧ (parseMethodDescriptor M.1.desc).map (fun d => d.parameters.length) = some as.length) (hmL : M.2.2.1 ≤ 40) (hsum : (r.map zcat).sum ≤ 8) (hc : zCa d M (.inr (.inr (f, i)) :: as) μ K) (hdg : decode cc pc = .ok (.invokevirtual idx, 3))
    (kk : ∀ (q : Option zV) (μ' : zMu) (H1 : Heap) (locs1 : List Loc), K q μ' → zRep X μ' s H1 → va_S (zA X) s.heap H1 locs1 → W p l e R s m args below meth c H1 locs1 cells slots Q (F0 m (pc + 3) la ((zpush q r).map (ztr X)))) : W p l e R s m args below meth c H locs cells slots Q (F0 m pc la ((as.map (ztr X)).reverse ++ .ref (X.1 f i) :: r.map (ztr X))) := by
  obtain ⟨hx, hb, hml, hown, hts, hr, hlocks, hst, hfr, hlo, hce, hsl⟩ := C
  cases d with
  | zero => exact hc.elim
  | succ d =>
    have hM := Ct_iff.mp hc l X
    refine zs_back (as := as) (va_runV (As := as.map (ztr X)) (rest := r.map (ztr X)) (nL := nL) (bytes := M.2.1) (maxL := M.2.2.1) (ret := M.2.2.2) (C := M.1.cls) (own := own) (index := idx) (n := as.length) ⟨hx, hb, hml, hown, hts⟩ hM (cwV as.length hts (zGood h4 (fun w hw => by
      simp only [List.mem_cons, List.not_mem_nil, or_false] at hw
      rcases hw with rfl | rfl | rfl | rfl
      · exact h0
      · exact h1
      · exact h2
      · exact h3)) rfl rfl rfl ⟨rfl, hd⟩ ⟨?_, ?_⟩) ⟨zPc_blind, hrc, fun U hU hW => zPc_at (as := .inr (.inr (f, i)) :: as) hst hR hS hU hW⟩ rfl (by simp) hl.2.1 rfl (lv_room (by rw [zcat_sum]; exact hsum)) hdg ⟨by simpa using hce, by simpa using hsl⟩) hS kk
    · show d + 1 + 1 ≤ R.frames
      exact hfr
    · show 8 + (M.2.2.1 + 11) + 100 * (d + 1) ≤ R.locals
      omega
theorem zs_stat (C : zCx X p R s m args meth c cells slots own cc nL d rt) (hR : zRep X μ s H) (hS : va_S (zA X) s.heap H locs) {ls : List (Option zV)} (hl : zLv X nL ls la) {idx : Nat} {M : zMth} {as r : List zV} {K : Option zV → zMu → Prop}
    (h0 : Cond.methodLink own idx M.1 ∈ zT) (h1 : Cond.static M.1 ∈ zT) (h3 : Cond.initialized M.1.cls ∈ zT) (h4 : Cond.code M.1 M.2.1 M.2.2.1 M.2.2.2 ∈ zT) (hd : M.1.cls ≠ "java/lang/invoke/MethodHandle" ∧ M.1.cls ≠ "java/lang/invoke/VarHandle" ∧ (parseMethodDescriptor M.1.desc).map (fun d => d.parameters.length) = some as.length) (hmL : M.2.2.1 ≤ 40) (hsum : (r.map zcat).sum ≤ 8) (hc : zCa d M as μ K) (hdg : decode cc pc = .ok (.invokestatic idx, 3))
    (kk : ∀ (q : Option zV) (μ' : zMu) (H1 : Heap) (locs1 : List Loc), K q μ' → zRep X μ' s H1 → va_S (zA X) s.heap H1 locs1 → W p l e R s m args below meth c H1 locs1 cells slots Q (F0 m (pc + 3) la ((zpush q r).map (ztr X)))) : W p l e R s m args below meth c H locs cells slots Q (F0 m pc la ((as.map (ztr X)).reverse ++ r.map (ztr X))) := by
  obtain ⟨hx, hb, hml, hown, hts, hr, hlocks, hst, hfr, hlo, hce, hsl⟩ := C
  cases d with
  | zero => exact hc.elim
  | succ d =>
    have hM := Ct_iff.mp hc l X
    refine zs_back (as := as) (va_runS (As := as.map (ztr X)) (rest := r.map (ztr X)) (nL := nL) (bytes := M.2.1) (maxL := M.2.2.1) (ret := M.2.2.2) (own := own) (index := idx) (n := as.length) ⟨hx, hb, hml, hown, hts⟩ hM (va_cwS as.length hts (zGood h4 (fun w hw => by
      simp only [List.mem_cons, List.not_mem_nil, or_false] at hw
      rcases hw with rfl | rfl | rfl
      · exact h0
      · exact h1
      · exact h3)) rfl rfl rfl hd ⟨?_, ?_⟩) ⟨zPc_blind, fun U hU hW => zPc_at hst hR hS hU hW⟩ rfl (by simp) hl.2.1 rfl (lv_room (by rw [zcat_sum]; exact hsum)) hdg ⟨by simpa using hce, by simpa using hsl⟩) hS kk
    · show d + 1 + 1 ≤ R.frames
      exact hfr
    · show 8 + (M.2.2.1 + 11) + 100 * (d + 1) ≤ R.locals
      omega
end ZS
end
section
/-! ONE STEP: every instruction of the layer -/
theorem zsw_of {go : Nat → Prop} {x : Int32} : ∀ {sw : List (Int × Nat)} {t : Nat}, zsw go x sw t → (∀ (j : Nat) (k : Int) (u : Nat), sw[j]? = some (k, u) → x.toInt = k → (∀ (i : Nat) (k' : Int) (u' : Nat), i < j → sw[i]? = some (k', u') → ¬ x.toInt = k') → go u) ∧ ((∀ (j : Nat) (k : Int) (u : Nat), sw[j]? = some (k, u) → ¬ x.toInt = k) → go t)
  | [], t, h => ⟨fun j k u hj => by simp at hj, fun _ => h⟩
  | (k0, t0) :: r, t, h => by
    obtain ⟨h1, h2⟩ := h
    refine ⟨fun j k u hj hx hn => ?_, fun hn => ?_⟩
    · cases j with
      | zero =>
        simp only [List.getElem?_cons_zero, Option.some.injEq, Prod.mk.injEq] at hj
        obtain ⟨rfl, rfl⟩ := hj
        exact h1 hx
      | succ j =>
        rw [List.getElem?_cons_succ] at hj
        refine (zsw_of (h2 (hn 0 k0 t0 (by omega) rfl))).1 j k u hj hx (fun i k' u' hi hk' => hn (i + 1) k' u' (by omega) (by rw [List.getElem?_cons_succ]; exact hk'))
    · exact (zsw_of (h2 (hn 0 k0 t0 rfl))).2 (fun j k u hj => hn (j + 1) k u (by rw [List.getElem?_cons_succ]; exact hj))
theorem zlook {pc : Nat} {x : Int32} {go : Nat → Prop} : ∀ (ps : List (Int × Int)) (sw : List (Int × Nat)) (df : Int) (t : Nat), sw.map (fun q => (q.1, (q.2 : Int))) = ps.map (fun q => (q.1, (pc : Int) + q.2)) → (pc : Int) + df = (t : Int) → zsw go x sw t → ∃ tgt : Nat, (pc : Int) + Op.lookupswitch.offset ps df x.toInt = (tgt : Int) ∧ go tgt
  | [], [], df, t, _, h2, h3 => ⟨t, h2, h3⟩
  | [], _ :: _, df, t, h1, _, _ => by simp at h1
  | _ :: _, [], df, t, h1, _, _ => by simp at h1
  | (k, o) :: ps, (k', u) :: sw, df, t, h1, h2, h3 => by
    simp only [List.map_cons, List.cons.injEq, Prod.mk.injEq] at h1
    obtain ⟨⟨rfl, ho⟩, hr⟩ := h1
    by_cases hx : x.toInt = k'
    · refine ⟨u, ?_, h3.1 hx⟩
      simp [Op.lookupswitch.offset, hx, ho]
    · obtain ⟨tgt, g1, g2⟩ := zlook ps sw df t hr h2 (h3.2 hx)
      refine ⟨tgt, ?_, g2⟩
      rw [← g1]
      simp [Op.lookupswitch.offset, Ne.symm hx]
theorem zPrim {X : zX} {f i kd len : Nat} (h : zar f i = some (kd, len)) : ∃ ty, (ztys X)[kd]? = some (X.2.2.1 kd, ty) := by
  obtain ⟨cnt, ht, -⟩ := zar_of h
  have h1 : zTab.all (fun e => match e.2 with
    | .inr (.inl q) => decide (q.1 = 0 ∨ q.1 = 1 ∨ q.1 = 2 ∨ q.1 = 3)
    | _ => true) = true := by decide +kernel
  have h2 := List.all_eq_true.mp h1 _ (List.mem_of_getElem? ht)
  simp only [decide_eq_true_eq] at h2
  rcases h2 with rfl | rfl | rfl | rfl
  · exact ⟨_, rfl⟩
  · exact ⟨_, rfl⟩
  · exact ⟨_, rfl⟩
  · exact ⟨_, rfl⟩
section ZC
variable {X : zX} {p : Program} {l : Launch} {e : Env} {R : Room} {s : State} {m : MethodId} {args : Array Value} {below : List Frame} {meth : Method} {c : Code} {cells slots : Nat} {Q : State → Prop}
variable {own : String} {cc : ByteArray} {nL d : Nat} {rt : Option FieldType}
def zW (X : zX) (p : Program) (l : Launch) (e : Env) (R : Room) (s : State) (m : MethodId) (args : Array Value) (below : List Frame) (meth : Method) (c : Code) (cells slots : Nat) (Q : State → Prop) (nL : Nat) (pc : Nat) (ls : List (Option zV)) (st : List zV) (μ : zMu) : Prop :=
  ∀ (H : Heap) (locs : List Loc) (la : Array Slot), zRep X μ s H → va_S (zA X) s.heap H locs → zLv X nL ls la → W p l e R s m args below meth c H locs cells slots Q (F0 m pc la (st.map (ztr X)))
set_option maxHeartbeats 4000000 in
set_option maxRecDepth 20000 in
theorem zs_core {go : Nat → List (Option zV) → List zV → zMu → Prop} {K : Option zV → zMu → Prop} {ls : List (Option zV)} {st : List zV} {μ : zMu} {en : zEn} (C : zCx X p R s m args meth c cells slots own cc nL d rt)
    (hi : ∀ (x : Int32) (μ' : zMu) (H : Heap) (locs : List Loc) (la : Array Slot) (pc : Nat), K (some (.inl x)) μ' → (rt = some .int ∨ (rt = some .boolean ∧ (x = 0 ∨ x = 1))) → zRep X μ' s H → va_S (zA X) s.heap H locs → decode cc pc = .ok (.ireturn, 1) → W p l e R s m args below meth c H locs cells slots Q (F0 m pc la [.int x]))
    (hv : ∀ (μ' : zMu) (H : Heap) (locs : List Loc) (la : Array Slot) (pc : Nat), K none μ' → rt = none → zRep X μ' s H → va_S (zA X) s.heap H locs → decode cc pc = .ok (.return_, 1) → W p l e R s m args below meth c H locs cells slots Q (F0 m pc la []))
    (hgo : ∀ (pc : Nat) (ls : List (Option zV)) (st : List zV) (μ : zMu), go pc ls st μ → zW X p l e R s m args below meth c cells slots Q nL pc ls st μ)
    (hc : zchk own cc en = true) (h : zdo X.2.2.2.2.2.1 X.2.2.2.2.2.2 rt (zCa d) K go en ls st μ) : zW X p l e R s m args below meth c cells slots Q nL en.1 ls st μ := by
  obtain ⟨pc, ins, len, a, b, cv, lv, sw, M, hh⟩ := en
  simp only [zchk, Bool.and_eq_true, decide_eq_true_eq] at hc
  obtain ⟨hdg, hlk⟩ := hc
  have C0 := C
  obtain ⟨hx, hb, hml, hown, hts, hr, hlocks, hst, hfr, hlo, hce, hsl⟩ := C
  intro H locs la hR hS hl
  have hkn : ∀ k, zok ls k = true → k < nL := fun k hk => by
    simp only [zok, Bool.and_eq_true, decide_eq_true_eq] at hk
    exact Nat.lt_of_lt_of_le hk.1 hl.1
  cases ins
  case iconst n =>
    simp only [zlink, Bool.and_eq_true, decide_eq_true_eq] at hlk
    obtain ⟨hlen, hlk⟩ := hlk
    subst hlen
    exact lv_iconst hx hb hdg hlk (hgo _ _ _ _ h H locs la hR hS hl)
  case bipush n =>
    simp only [zlink, Bool.and_eq_true, decide_eq_true_eq] at hlk
    obtain ⟨hlen, hlk⟩ := hlk
    subst hlen
    exact lv_bipush hx hb hdg hlk (hgo _ _ _ _ h H locs la hR hS hl)
  case sipush n =>
    simp only [zlink, Bool.and_eq_true, decide_eq_true_eq] at hlk
    obtain ⟨hlen, hlk⟩ := hlk
    subst hlen
    exact lv_sipush hx hb hdg hlk (hgo _ _ _ _ h H locs la hR hS hl)
  case lconst n =>
    simp only [zlink, Bool.and_eq_true, decide_eq_true_eq] at hlk
    obtain ⟨hlen, hlk⟩ := hlk
    subst hlen
    exact lv_lconst hx hb hdg hlk (hgo _ _ _ _ h H locs la hR hS hl)
  case ldc i =>
    simp only [zlink, Bool.and_eq_true, decide_eq_true_eq] at hlk
    obtain ⟨hlen, hlk⟩ := hlk
    subst hlen
    cases M with
    | none => exact lv_ldc hx hb hown (hts _ (zT_of hlk rfl)) hdg (hgo _ _ _ _ h H locs la hR hS hl)
    | some M =>
      simp only [Bool.and_eq_true, decide_eq_true_eq] at hlk
      obtain ⟨rfl, hz⟩ := hlk
      cases hz2 : zStr[a]? with
      | none => rw [hz2] at hz; cases hz
      | some q =>
        rw [hz2] at hz
        cases hz
        exact va_ldcS hx hb hown (hst.2.1 a q hz2) hdg (hgo _ _ _ _ h H locs la hR hS hl)
  case ldc_w i =>
    simp only [zlink, Bool.and_eq_true, decide_eq_true_eq] at hlk
    obtain ⟨hlen, hlk⟩ := hlk
    subst hlen
    exact lv_ldcw hx hb hown (hts _ (zT_of hlk rfl)) hdg (hgo _ _ _ _ h H locs la hR hS hl)
  case ldc2_w i =>
    simp only [zlink, Bool.and_eq_true, decide_eq_true_eq] at hlk
    obtain ⟨hlen, hlk⟩ := hlk
    subst hlen
    exact lv_ldc2 hx hb hown (hts _ (zT_of hlk rfl)) hdg (hgo _ _ _ _ h H locs la hR hS hl)
  case iload k =>
    simp only [zlink, decide_eq_true_eq] at hlk
    subst hlk
    dsimp only [zdo] at h
    split at h
    · rename_i x hq
      exact lv_iload hx hb hdg (zLv_at hl hq) (hgo _ _ _ _ h H locs la hR hS hl)
    · exact h.elim
  case iload_n k =>
    simp only [zlink, decide_eq_true_eq] at hlk
    subst hlk
    dsimp only [zdo] at h
    split at h
    · rename_i x hq
      exact lv_iload_n hx hb hdg rfl (zLv_at hl hq) (hgo _ _ _ _ h H locs la hR hS hl)
    · exact h.elim
  case lload k =>
    simp only [zlink, decide_eq_true_eq] at hlk
    subst hlk
    dsimp only [zdo] at h
    split at h
    · rename_i x hq
      exact lv_lload hx hb hdg (zLv_at hl hq) (hgo _ _ _ _ h H locs la hR hS hl)
    · exact h.elim
  case lload_n k =>
    simp only [zlink, decide_eq_true_eq] at hlk
    subst hlk
    dsimp only [zdo] at h
    split at h
    · rename_i x hq
      exact lv_lload_n hx hb hdg rfl (zLv_at hl hq) (hgo _ _ _ _ h H locs la hR hS hl)
    · exact h.elim
  case aload k =>
    simp only [zlink, decide_eq_true_eq] at hlk
    subst hlk
    dsimp only [zdo] at h
    split at h
    · rename_i x hq
      exact lv_aload hx hb hdg (zLv_at hl hq) (hgo _ _ _ _ h H locs la hR hS hl)
    · exact h.elim
  case aload_n k =>
    simp only [zlink, decide_eq_true_eq] at hlk
    subst hlk
    dsimp only [zdo] at h
    split at h
    · rename_i x hq
      exact lv_aload_n hx hb hdg rfl (zLv_at hl hq) (hgo _ _ _ _ h H locs la hR hS hl)
    · exact h.elim
  case istore k =>
    simp only [zlink, decide_eq_true_eq] at hlk
    subst hlk
    dsimp only [zdo] at h
    split at h
    · exact lv_istore hx hb hdg hl.2 (hkn _ h.1) rfl (fun ls' hl' => hgo _ _ _ _ h.2 H locs ls' hR hS (zLv_set hl h.1 rfl hl'))
    · exact h.elim
  case istore_n k =>
    simp only [zlink, decide_eq_true_eq] at hlk
    subst hlk
    dsimp only [zdo] at h
    split at h
    · exact lv_istore_n hx hb hdg rfl hl.2 (hkn _ h.1) rfl (fun ls' hl' => hgo _ _ _ _ h.2 H locs ls' hR hS (zLv_set hl h.1 rfl hl'))
    · exact h.elim
  case astore k =>
    simp only [zlink, decide_eq_true_eq] at hlk
    subst hlk
    dsimp only [zdo] at h
    split at h
    · exact lv_astore hx hb hdg hl.2 (hkn _ h.1) rfl (fun ls' hl' => hgo _ _ _ _ h.2 H locs ls' hR hS (zLv_set hl h.1 rfl hl'))
    · exact h.elim
  case astore_n k =>
    simp only [zlink, decide_eq_true_eq] at hlk
    subst hlk
    dsimp only [zdo] at h
    split at h
    · exact lv_astore_n hx hb hdg rfl hl.2 (hkn _ h.1) rfl (fun ls' hl' => hgo _ _ _ _ h.2 H locs ls' hR hS (zLv_set hl h.1 rfl hl'))
    · exact h.elim
  case iinc k n =>
    simp only [zlink, Bool.and_eq_true, decide_eq_true_eq] at hlk
    obtain ⟨hlen, hcv⟩ := hlk
    subst hlen
    dsimp only [zdo] at h
    split at h
    · rename_i x hq
      obtain ⟨j, hj⟩ := List.getElem?_of_mem ((zlv_mem (X := X) ls 0 (k, .int x)).mpr ⟨k, .inl x, hq, by rw [Nat.zero_add]; rfl⟩)
      exact lv_iinc hx hb hdg hl.2 hj (by rw [hcv]) (hkn _ h.1) rfl (fun ls' hl' => hgo _ _ _ _ h.2 H locs ls' hR hS (zLv_set hl h.1 rfl hl'))
    · exact h.elim
  case iadd =>
    simp only [zlink, decide_eq_true_eq] at hlk
    subst hlk
    dsimp only [zdo] at h
    split at h
    · exact lv_iadd hx hb hdg (hgo _ _ _ _ h H locs la hR hS hl)
    · exact h.elim
  case isub =>
    simp only [zlink, decide_eq_true_eq] at hlk
    subst hlk
    dsimp only [zdo] at h
    split at h
    · exact lv_isub hx hb hdg (hgo _ _ _ _ h H locs la hR hS hl)
    · exact h.elim
  case imul =>
    simp only [zlink, decide_eq_true_eq] at hlk
    subst hlk
    dsimp only [zdo] at h
    split at h
    · exact lv_imul hx hb hdg (hgo _ _ _ _ h H locs la hR hS hl)
    · exact h.elim
  case iand =>
    simp only [zlink, decide_eq_true_eq] at hlk
    subst hlk
    dsimp only [zdo] at h
    split at h
    · exact lv_iand hx hb hdg (hgo _ _ _ _ h H locs la hR hS hl)
    · exact h.elim
  case ior =>
    simp only [zlink, decide_eq_true_eq] at hlk
    subst hlk
    dsimp only [zdo] at h
    split at h
    · exact lv_ior hx hb hdg (hgo _ _ _ _ h H locs la hR hS hl)
    · exact h.elim
  case ineg =>
    simp only [zlink, decide_eq_true_eq] at hlk
    subst hlk
    dsimp only [zdo] at h
    split at h
    · exact lv_ineg hx hb hdg (hgo _ _ _ _ h H locs la hR hS hl)
    · exact h.elim
  case ishl =>
    simp only [zlink, decide_eq_true_eq] at hlk
    subst hlk
    dsimp only [zdo] at h
    split at h
    · exact lv_ishl hx hb hdg (hgo _ _ _ _ h H locs la hR hS hl)
    · exact h.elim
  case ishr =>
    simp only [zlink, decide_eq_true_eq] at hlk
    subst hlk
    dsimp only [zdo] at h
    split at h
    · exact lv_ishr hx hb hdg (hgo _ _ _ _ h H locs la hR hS hl)
    · exact h.elim
  case iushr =>
    simp only [zlink, decide_eq_true_eq] at hlk
    subst hlk
    dsimp only [zdo] at h
    split at h
    · exact lv_iushr hx hb hdg rfl (hgo _ _ _ _ h H locs la hR hS hl)
    · exact h.elim
  case i2l =>
    simp only [zlink, decide_eq_true_eq] at hlk
    subst hlk
    dsimp only [zdo] at h
    split at h
    · exact lv_i2l hx hb hdg rfl (hgo _ _ _ _ h H locs la hR hS hl)
    · exact h.elim
  case l2i =>
    simp only [zlink, decide_eq_true_eq] at hlk
    subst hlk
    dsimp only [zdo] at h
    split at h
    · exact lv_l2i hx hb hdg rfl (hgo _ _ _ _ h H locs la hR hS hl)
    · exact h.elim
  case i2b =>
    simp only [zlink, decide_eq_true_eq] at hlk
    subst hlk
    dsimp only [zdo] at h
    split at h
    · exact lv_i2b hx hb hdg rfl (hgo _ _ _ _ h H locs la hR hS hl)
    · exact h.elim
  case land =>
    simp only [zlink, decide_eq_true_eq] at hlk
    subst hlk
    dsimp only [zdo] at h
    split at h
    · exact lv_land hx hb hdg (hgo _ _ _ _ h H locs la hR hS hl)
    · exact h.elim
  case lor =>
    simp only [zlink, decide_eq_true_eq] at hlk
    subst hlk
    dsimp only [zdo] at h
    split at h
    · exact lv_lor hx hb hdg (hgo _ _ _ _ h H locs la hR hS hl)
    · exact h.elim
  case lshl =>
    simp only [zlink, decide_eq_true_eq] at hlk
    subst hlk
    dsimp only [zdo] at h
    split at h
    · exact lv_lshl hx hb hdg rfl (hgo _ _ _ _ h H locs la hR hS hl)
    · exact h.elim
  case lshr =>
    simp only [zlink, decide_eq_true_eq] at hlk
    subst hlk
    dsimp only [zdo] at h
    split at h
    · exact lv_lshr hx hb hdg rfl (hgo _ _ _ _ h H locs la hR hS hl)
    · exact h.elim
  case lushr =>
    simp only [zlink, decide_eq_true_eq] at hlk
    subst hlk
    dsimp only [zdo] at h
    split at h
    · exact lv_lushr hx hb hdg rfl (hgo _ _ _ _ h H locs la hR hS hl)
    · exact h.elim
  case lcmp =>
    simp only [zlink, decide_eq_true_eq] at hlk
    subst hlk
    dsimp only [zdo] at h
    split at h
    · exact W.lcmp hx hb hdg (hgo _ _ _ _ h H locs la hR hS hl)
    · exact h.elim
  case dup =>
    simp only [zlink, decide_eq_true_eq] at hlk
    subst hlk
    dsimp only [zdo] at h
    split at h
    · exact lv_dup hx hb hdg rfl (hgo _ _ _ _ h H locs la hR hS hl)
    · exact lv_dup hx hb hdg rfl (hgo _ _ _ _ h H locs la hR hS hl)
    · exact h.elim
  case dup2 =>
    simp only [zlink, decide_eq_true_eq] at hlk
    subst hlk
    dsimp only [zdo] at h
    split at h
    · exact lv_dup2_11 hx hb hdg rfl rfl (hgo _ _ _ _ h H locs la hR hS hl)
    · exact h.elim
  case pop =>
    simp only [zlink, decide_eq_true_eq] at hlk
    subst hlk
    dsimp only [zdo] at h
    split at h
    · exact lv_pop hx hb hdg rfl (hgo _ _ _ _ h H locs la hR hS hl)
    · exact h.elim
  case goto o =>
    simp only [zlink, Bool.and_eq_true, decide_eq_true_eq] at hlk
    obtain ⟨hlen, ht⟩ := hlk
    subst hlen
    exact lv_goto hx hb hdg ht (hgo _ _ _ _ h H locs la hR hS hl)
  case ifCond cd o =>
    simp only [zlink, Bool.and_eq_true, decide_eq_true_eq] at hlk
    obtain ⟨hlen, ht⟩ := hlk
    subst hlen
    dsimp only [zdo] at h
    split at h
    · cases cd
      · exact lv_if_eq hx hb hdg ht (fun q => hgo _ _ _ _ (h.1 q) H locs la hR hS hl) (fun q => hgo _ _ _ _ (h.2 q) H locs la hR hS hl)
      · exact lv_if_ne hx hb hdg ht (fun q => hgo _ _ _ _ (h.1 q) H locs la hR hS hl) (fun q => hgo _ _ _ _ (h.2 q) H locs la hR hS hl)
      · exact lv_if_lt hx hb hdg ht (fun q => hgo _ _ _ _ (h.1 q) H locs la hR hS hl) (fun q => hgo _ _ _ _ (h.2 q) H locs la hR hS hl)
      · exact lv_if_ge hx hb hdg ht (fun q => hgo _ _ _ _ (h.1 q) H locs la hR hS hl) (fun q => hgo _ _ _ _ (h.2 q) H locs la hR hS hl)
      · exact lv_if_gt hx hb hdg ht (fun q => hgo _ _ _ _ (h.1 q) H locs la hR hS hl) (fun q => hgo _ _ _ _ (h.2 q) H locs la hR hS hl)
      · exact lv_if_le hx hb hdg ht (fun q => hgo _ _ _ _ (h.1 q) H locs la hR hS hl) (fun q => hgo _ _ _ _ (h.2 q) H locs la hR hS hl)
    · exact h.elim
  case if_icmp cd o =>
    simp only [zlink, Bool.and_eq_true, decide_eq_true_eq] at hlk
    obtain ⟨hlen, ht⟩ := hlk
    subst hlen
    dsimp only [zdo] at h
    split at h
    · cases cd
      · exact lv_icmp_eq hx hb hdg ht (fun q => hgo _ _ _ _ (h.1 q) H locs la hR hS hl) (fun q => hgo _ _ _ _ (h.2 q) H locs la hR hS hl)
      · exact lv_icmp_ne hx hb hdg ht (fun q => hgo _ _ _ _ (h.1 q) H locs la hR hS hl) (fun q => hgo _ _ _ _ (h.2 q) H locs la hR hS hl)
      · exact lv_icmp_lt hx hb hdg ht (fun q => hgo _ _ _ _ (h.1 q) H locs la hR hS hl) (fun q => hgo _ _ _ _ (h.2 q) H locs la hR hS hl)
      · exact lv_icmp_ge hx hb hdg ht (fun q => hgo _ _ _ _ (h.1 q) H locs la hR hS hl) (fun q => hgo _ _ _ _ (h.2 q) H locs la hR hS hl)
      · exact lv_icmp_gt hx hb hdg ht (fun q => hgo _ _ _ _ (h.1 q) H locs la hR hS hl) (fun q => hgo _ _ _ _ (h.2 q) H locs la hR hS hl)
      · exact lv_icmp_le hx hb hdg ht (fun q => hgo _ _ _ _ (h.1 q) H locs la hR hS hl) (fun q => hgo _ _ _ _ (h.2 q) H locs la hR hS hl)
    · exact h.elim
  case tableswitch df lo hi' offs =>
    simp only [zlink, Bool.and_eq_true, decide_eq_true_eq, List.all_eq_true, List.mem_range] at hlk
    obtain ⟨⟨⟨⟨ht, hn1⟩, hn2⟩, hn3⟩, hall⟩ := hlk
    dsimp only [zdo] at h
    split at h
    · rename_i x r
      obtain ⟨g1, g2⟩ := zsw_of h
      have key : ∀ j, j < sw.length → ∃ (t : Nat) (o : Int), sw[j]? = some (lo + j, t) ∧ offs[j]? = some o ∧ (pc : Int) + o = (t : Int) := by
        intro j hj
        have := hall j hj
        split at this
        · rename_i k t o e1 e2
          simp only [Bool.and_eq_true, decide_eq_true_eq] at this
          exact ⟨t, o, by rw [e1, this.1], e2, this.2⟩
        · cases this
      by_cases hlo1 : x.toInt < lo
      · exact lv_tableOut hx hb hdg (Or.inl hlo1) ht (hgo _ _ _ _ (g2 (fun j k u hj hk => by
          have hjl : j < sw.length := (List.getElem?_eq_some_iff.mp hj).1
          obtain ⟨t, o, e1, -⟩ := key j hjl
          rw [hj] at e1
          cases e1
          omega)) H locs la hR hS hl)
      · by_cases hhi1 : hi' < x.toInt
        · exact lv_tableOut hx hb hdg (Or.inr hhi1) ht (hgo _ _ _ _ (g2 (fun j k u hj hk => by
            have hjl : j < sw.length := (List.getElem?_eq_some_iff.mp hj).1
            obtain ⟨t, o, e1, -⟩ := key j hjl
            rw [hj] at e1
            cases e1
            omega)) H locs la hR hS hl)
        · have hjl : (x.toInt - lo).toNat < sw.length := by omega
          obtain ⟨t, o, e1, e2, e3⟩ := key _ hjl
          refine lv_tableIn hx hb hdg hlo1 hhi1 e2 e3 (hgo _ _ _ _ (g1 _ _ t e1 (by omega) (fun i k' u' hi hk' hxk => ?_)) H locs la hR hS hl)
          obtain ⟨t2, o2, e4, -⟩ := key i (by omega)
          rw [hk'] at e4
          cases e4
          omega
    · exact h.elim
  case lookupswitch df ps =>
    simp only [zlink, Bool.and_eq_true, decide_eq_true_eq] at hlk
    obtain ⟨⟨ht, hord⟩, hsw⟩ := hlk
    dsimp only [zdo] at h
    split at h
    · rename_i x r
      obtain ⟨tgt, e1, e2⟩ := zlook ps.toList sw df a hsw ht h
      exact lv_lookup hx hb hdg hord rfl e1 (hgo _ _ _ _ e2 H locs la hR hS hl)
    · exact h.elim
  case getfield i =>
    simp only [zlink, Bool.and_eq_true, decide_eq_true_eq] at hlk
    obtain ⟨hlen, hlk⟩ := hlk
    subst hlen
    dsimp only [zdo] at h
    split at h
    · rename_i f n r
      split at h
      · rename_i cnt ci fs ht
        obtain ⟨hn, rfl, h⟩ := h
        split at hlk
        · rename_i Cn T N hcl
          simp only [Bool.and_eq_true, decide_eq_true_eq] at hlk
          split at h
          · rename_i hf
            exact zs_get C0 hR ht hn hcl hlk.1 (zT_of hlk.2 rfl) hf hdg (hgo _ _ _ _ h H locs la hR hS hl)
          · rename_i g hf
            exact zs_get C0 hR ht hn hcl hlk.1 (zT_of hlk.2 rfl) hf hdg (hgo _ _ _ _ h H locs la hR hS hl)
          · exact h.elim
        · cases hlk
      · exact h.elim
    · exact h.elim
  case putfield i =>
    simp only [zlink, Bool.and_eq_true, decide_eq_true_eq] at hlk
    obtain ⟨hlen, hlk⟩ := hlk
    subst hlen
    dsimp only [zdo] at h
    split at h
    · rename_i x f n r
      split at h
      · rename_i cnt ci fs ht
        obtain ⟨hn, rfl, hf, hx01, h⟩ := h
        split at hlk
        · rename_i Cn T N hcl
          simp only [Bool.and_eq_true, Bool.or_eq_true, decide_eq_true_eq, Bool.not_eq_true'] at hlk
          obtain ⟨⟨⟨hbN, hw⟩, hfin⟩, hty⟩ := hlk
          refine zs_put C0 hR hS ht hn hcl hbN (zT_of hw rfl) hfin hf ?_ hdg (fun H1 locs1 hR1 hS1 => hgo _ _ _ _ h H1 locs1 la hR1 hS1 hl)
          rcases hty with hty | ⟨hty, hcv⟩
          · exact Or.inl hty
          · refine Or.inr ⟨hty, ?_⟩
            rcases hx01 with h0 | h0
            · rw [hcv] at h0
              exact absurd h0 (by decide)
            · exact h0
        · cases hlk
      · exact h.elim
    · exact h.elim
  case arraylength =>
    simp only [zlink, decide_eq_true_eq] at hlk
    subst hlk
    dsimp only [zdo] at h
    split at h
    · rename_i f i r
      split at h
      · rename_i hf
        subst hf
        obtain ⟨rfl, h⟩ := h
        obtain ⟨-, -, -, s4, s5, s6, -⟩ := hst
        exact va_slen hx hb s4 s5 s6 hS hdg (hgo _ _ _ _ h H locs la hR hS hl)
      · split at h
        · rename_i cnt kd len hz
          obtain ⟨hi, h⟩ := h
          have hz := zam_zar hz hi
          obtain ⟨k, hk, he⟩ := zar_at (X := X) (μ := μ) hz
          obtain ⟨ty, hty⟩ := zPrim (X := X) hz
          exact va_alen hx hb hR.1 hR.2.1 k kd he hty rfl hdg (hgo _ _ _ _ h H locs la hR hS hl)
        · exact h.elim
    · exact h.elim
  case iaload =>
    simp only [zlink, decide_eq_true_eq] at hlk
    subst hlk
    dsimp only [zdo] at h
    split at h
    · rename_i j f i r
      split at h
      · rename_i hf
        subst hf
        obtain ⟨rfl, hin, h⟩ := h
        obtain ⟨-, -, -, s4, s5, s6, -⟩ := hst
        exact va_sld hx hb s4 s5 s6 hS hin hdg (hgo _ _ _ _ h H locs la hR hS hl)
      · split at h
        · rename_i cnt len hz
          obtain ⟨hi, h⟩ := h
          have hz := zam_zar hz hi
          obtain ⟨k, hk, he⟩ := zar_at (X := X) (μ := μ) hz
          exact va_iald hx hb hR.1 hR.2.1 k 0 he rfl h.1 hdg (hgo _ _ _ _ h.2 H locs la hR hS hl)
        · exact h.elim
    · exact h.elim
  case baload =>
    simp only [zlink, decide_eq_true_eq] at hlk
    subst hlk
    dsimp only [zdo] at h
    split at h
    · rename_i j f i r
      split at h
      · rename_i cnt len hz
        obtain ⟨hi, h⟩ := h
        have hz := zam_zar hz hi
        obtain ⟨k, hk, he⟩ := zar_at (X := X) (μ := μ) hz
        exact va_zald hx hb hR.1 hR.2.1 k 1 he rfl h.1 hdg (hgo _ _ _ _ h.2 H locs la hR hS hl)
      · rename_i cnt len hz
        obtain ⟨hi, h⟩ := h
        have hz := zam_zar hz hi
        obtain ⟨k, hk, he⟩ := zar_at (X := X) (μ := μ) hz
        exact va_bald hx hb hR.1 hR.2.1 k 2 he rfl h.1 hdg (hgo _ _ _ _ h.2 H locs la hR hS hl)
      · exact h.elim
    · exact h.elim
  case caload =>
    simp only [zlink, decide_eq_true_eq] at hlk
    subst hlk
    dsimp only [zdo] at h
    split at h
    · rename_i j f i r
      split at h
      · rename_i cnt len hz
        obtain ⟨hi, h⟩ := h
        have hz := zam_zar hz hi
        obtain ⟨k, hk, he⟩ := zar_at (X := X) (μ := μ) hz
        exact va_cald hx hb hR.1 hR.2.1 k 3 he rfl h.1 hdg (hgo _ _ _ _ h.2 H locs la hR hS hl)
      · exact h.elim
    · exact h.elim
  case aaload =>
    simp only [zlink, decide_eq_true_eq] at hlk
    subst hlk
    dsimp only [zdo] at h
    split at h
    · rename_i j f i r
      split at h
      · rename_i cnt kd len g ht
        exact zs_aald C0 hR ht h.1 h.2.1 hdg (hgo _ _ _ _ h.2.2 H locs la hR hS hl)
      · exact h.elim
    · exact h.elim
  case iastore =>
    simp only [zlink, decide_eq_true_eq] at hlk
    subst hlk
    dsimp only [zdo] at h
    split at h
    · rename_i x j f i r
      split at h
      · rename_i cnt len hz
        obtain ⟨hi, h⟩ := h
        have hz := zam_zar hz hi
        obtain ⟨k, hk, he⟩ := zar_at (X := X) (μ := μ) hz
        refine va_iast hx hb hR.1 hR.2.1 hR.2.2 hS k 0 he rfl h.1 hdg (fun H1 locs1 hP1 hD1 hS1 => ?_)
        rw [zar_set hz hk] at hP1 hD1
        exact hgo _ _ _ _ h.2 H1 locs1 la ⟨hR.1, hP1, hD1⟩ hS1 hl
      · exact h.elim
    · exact h.elim
  case bastore =>
    simp only [zlink, decide_eq_true_eq] at hlk
    subst hlk
    dsimp only [zdo] at h
    split at h
    · rename_i x j f i r
      split at h
      · rename_i cnt len hz
        obtain ⟨hi, h⟩ := h
        have hz := zam_zar hz hi
        obtain ⟨k, hk, he⟩ := zar_at (X := X) (μ := μ) hz
        refine va_zast hx hb hR.1 hR.2.1 hR.2.2 hS k 1 he rfl h.1 hdg (fun H1 locs1 hP1 hD1 hS1 => ?_)
        rw [zar_set hz hk] at hP1 hD1
        exact hgo _ _ _ _ h.2 H1 locs1 la ⟨hR.1, hP1, hD1⟩ hS1 hl
      · rename_i cnt len hz
        obtain ⟨hi, h⟩ := h
        have hz := zam_zar hz hi
        obtain ⟨k, hk, he⟩ := zar_at (X := X) (μ := μ) hz
        refine va_bast hx hb hR.1 hR.2.1 hR.2.2 hS k 2 he rfl h.1 hdg (fun H1 locs1 hP1 hD1 hS1 => ?_)
        rw [zar_set hz hk] at hP1 hD1
        exact hgo _ _ _ _ h.2 H1 locs1 la ⟨hR.1, hP1, hD1⟩ hS1 hl
      · exact h.elim
    · exact h.elim
  case invokevirtual i =>
    simp only [zlink, Bool.and_eq_true, decide_eq_true_eq] at hlk
    obtain ⟨hlen, hlk⟩ := hlk
    subst hlen
    cases M with
    | none => exact h.elim
    | some M =>
      obtain ⟨y, bt, mL, rt'⟩ := M
      simp only [Bool.and_eq_true, decide_eq_true_eq] at hlk
      obtain ⟨⟨⟨⟨⟨⟨⟨⟨⟨w0, w1⟩, w2⟩, w3⟩, w4⟩, hcn⟩, n1⟩, n2⟩, hpar⟩, hmL⟩ := hlk
      dsimp only [zdo] at h
      split at h
      · rename_i f n r hdr
        obtain ⟨hrc, hsum, hcall⟩ := h
        have hblen : b ≤ st.length := by
          rcases Nat.lt_or_ge st.length b with q | q
          · rw [List.drop_eq_nil_of_le (Nat.le_of_lt q)] at hdr
            cases hdr
          · exact q
        have hst2 : st.map (ztr X) = (((st.take b).reverse.map (ztr X)).reverse ++ .ref (X.1 f n) :: r.map (ztr X)) := by
          conv => lhs; rw [← List.take_append_drop b st, hdr]
          simp [ztr]
        have hrecv : ∃ cellB : Cell, H[X.1 f n]? = some cellB ∧ cellB.vm.isStatics = false ∧ s.vm.findClass y.cls = some cellB.cls := by
          split at hrc
          · rename_i hf
            subst hf
            rw [hcn, hrc.1]
            exact vk_recv hst.1 hrc.2 hS
          · split at hrc
            · rename_i cnt ci fs ht
              obtain ⟨hn, rfl⟩ := hrc
              obtain ⟨k, hk⟩ := List.getElem?_of_mem (zAll_mem ht hn)
              have he := zWs_at (X := X) (μ := μ) hk
              rw [zE_obj ht] at he
              have hci : ∃ q, zcl[ci]? = some q := by
                obtain ⟨q', h1, -⟩ := hR.2.1 k _ he
                exact ⟨q', h1⟩
              obtain ⟨q, hq⟩ := hci
              have hq1 : y.cls = q.1 := by
                rw [hcn]
                have h50 : ci ≠ 50 := by
                  intro h5
                  subst h5
                  cases hq
                simp [zcn, h50, hq]
              rw [hq1]
              exact va_recv hR.1 hR.2.1 hq he
            · exact hrc.elim
        rw [hst2]
        exact zs_virt (M := (y, bt, mL, rt')) C0 hR hS hl hrecv (zT_of w0 rfl) (zT_of w1 rfl) (zT_of w2 rfl) (zT_of w3 rfl) (zT_of w4 rfl) ⟨n1, n2, by rw [hpar, List.length_reverse, List.length_take, Nat.min_eq_left hblen]⟩ hmL hsum hcall hdg (fun q μ' H1 locs1 hk hR1 hS1 => hgo _ _ _ _ hk H1 locs1 la hR1 hS1 hl)
      · exact h.elim
  case invokestatic i =>
    simp only [zlink, Bool.and_eq_true, decide_eq_true_eq] at hlk
    obtain ⟨hlen, hlk⟩ := hlk
    subst hlen
    cases M with
    | none =>
      simp only [Bool.and_eq_true] at hlk
      obtain ⟨⟨⟨w0, w1⟩, w2⟩, w3⟩ := hlk
      dsimp only [zdo] at h
      split at h
      · rename_i n dp f1 i1 sp f0 i0 r
        split at h
        · rename_i cnt0 n0 cnt1 n1 hz0 hz1
          obtain ⟨b0, b1, h⟩ := h
          have hz0 := zam_zar hz0 b0
          have hz1 := zam_zar hz1 b1
          obtain ⟨a1, a2, a3, a4, a5, a6, h⟩ := h
          obtain ⟨k0, hk0, he0⟩ := zar_at (X := X) (μ := μ) hz0
          obtain ⟨k1, hk1, he1⟩ := zar_at (X := X) (μ := μ) hz1
          obtain ⟨cnt1, ht1, -⟩ := zar_of hz1
          refine va_copyi hx hb (hml.trans hl.2.1.symm) hown (hts _ (zT_of w0 rfl)) (hts _ (zT_of w1 rfl)) (hts _ (zT_of w2 rfl)) (hts _ (zT_of w3 rfl)) hR.1 hR.2.1 hR.2.2 hS k0 k1 0 0 he0 he1 rfl rfl rfl a1 a2 a3 a4 a5 (fun _ _ => rfl) (by omega) ?_ hdg (fun H1 locs1 hP1 hD1 hS1 => ?_)
          · rw [zcat_sum, show nativeFrameWords "java/lang/System" "arraycopy" 5 = 7 from rfl]
            omega
          · have hse : (zWs X μ).set k1 (X.1 f1 i1, (Sum.inl (X.2.2.1 0, n1, Sum.inl (va_cpy (μ f0 i0) (μ f1 i1) sp.toNatClampNeg dp.toNatClampNeg n.toNatClampNeg)) : va_E)) = zWs X (fun f i k => if f = f1 ∧ i = i1 ∧ dp.toNatClampNeg ≤ k ∧ k < dp.toNatClampNeg + n.toNatClampNeg then μ f0 i0 (sp.toNatClampNeg + (k - dp.toNatClampNeg)) else μ f i k) := by
              refine zWs_set hk1 ?_ (fun n' hn' => zE_ne (fun k => ?_))
              · rw [zE_arr ht1]
                congr 4
                funext k
                simp [va_cpy]
              · rw [if_neg]
                rintro ⟨q1, q2, -⟩
                exact hn' (Prod.ext q1 q2)
            rw [hse] at hP1 hD1
            exact hgo _ _ _ _ h H1 locs1 la ⟨hR.1, hP1, hD1⟩ hS1 hl
        · exact h.elim
      · exact h.elim
    | some M =>
      obtain ⟨y, bt, mL, rt'⟩ := M
      simp only [Bool.and_eq_true, decide_eq_true_eq] at hlk
      obtain ⟨⟨⟨⟨⟨⟨⟨w0, w1⟩, w2⟩, w3⟩, n1⟩, n2⟩, hpar⟩, hmL⟩ := hlk
      obtain ⟨hblen, hsum, hcall⟩ := h
      have hst2 : st.map (ztr X) = (((st.take b).reverse.map (ztr X)).reverse ++ (st.drop b).map (ztr X)) := by
        conv => lhs; rw [← List.take_append_drop b st]
        simp
      rw [hst2]
      exact zs_stat (M := (y, bt, mL, rt')) C0 hR hS hl (zT_of w0 rfl) (zT_of w1 rfl) (zT_of w2 rfl) (zT_of w3 rfl) ⟨n1, n2, by rw [hpar, List.length_reverse, List.length_take, Nat.min_eq_left hblen]⟩ hmL hsum hcall hdg (fun q μ' H1 locs1 hk hR1 hS1 => hgo _ _ _ _ hk H1 locs1 la hR1 hS1 hl)
  case ireturn =>
    simp only [zlink, decide_eq_true_eq] at hlk
    subst hlk
    dsimp only [zdo] at h
    split at h
    · exact hi _ μ H locs la pc h.2 h.1 hR hS hdg
    · exact h.elim
  case return_ =>
    simp only [zlink, decide_eq_true_eq] at hlk
    subst hlk
    dsimp only [zdo] at h
    split at h
    · exact hv μ H locs la pc h.2 h.1 hR hS hdg
    · exact h.elim
  all_goals exact False.elim h
end ZC
end
